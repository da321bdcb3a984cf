/-! SixMapsModel.findLeft(II)V -/
def b_X6_findLeft_84 (f : Nat) (k2 : Nat → Int32 → Int32 → Int32 → Hp → Option (Hp)) (k20 : Nat → Int32 → Int32 → Int32 → Int32 → Hp → Option (Hp)) (x0 : Nat) (x1 : Int32) (x2 : Int32) (x3 : Int32) (x4 : Int32) (h : Hp) : Option (Hp) :=
  lt (x4 + (1 : Int32)) fun v1_ =>
  k20 x0 x1 x2 x3 v1_ h
def b_X6_findLeft_20 (f : Nat) (k2 : Nat → Int32 → Int32 → Int32 → Hp → Option (Hp)) (k20 : Nat → Int32 → Int32 → Int32 → Int32 → Hp → Option (Hp)) (x0 : Nat) (x1 : Int32) (x2 : Int32) (x3 : Int32) (x4 : Int32) (h : Hp) : Option (Hp) :=
  if (6 : Int32) ≤ x4 then
  (lt (x3 + (1 : Int32)) fun v1_ =>
  k2 x0 x1 x2 v1_ h)
  else
  (bi (f_X6_has f x2 x4 h) fun v3_ h2_ =>
  if ¬ v3_ = 0 then
  (b_X6_findLeft_84 f k2 k20 x0 x1 x2 x3 x4 h2_)
  else
  ((q_gr h2_ x0 6 11).bind fun a4_ =>
  (q_ai h2_ a4_ 9 (((6 : Int32) * x1) + x4)).bind fun v5_ =>
  bi (f_X6_has f v5_ x3 h2_) fun v7_ h6_ =>
  if v7_ = 0 then
  (b_X6_findLeft_84 f k2 k20 x0 x1 x2 x3 x4 h6_)
  else
  ((q_gr h6_ x0 6 3).bind fun a8_ =>
  (q_ai h6_ a8_ 9 (((9 : Int32) * x4) + x3)).bind fun v9_ =>
  (q_gr h6_ x0 6 4).bind fun a10_ =>
  (q_ai h6_ a10_ 9 (((9 : Int32) * x4) + x3)).bind fun v11_ =>
  q_on h6_ x0 6 (
  (f_X6_narrow f x0 x3 v9_ v11_ h6_).bind fun h13_ =>
  b_X6_findLeft_84 f k2 k20 x0 x1 x2 x3 x4 h13_))))
def l_X6_findLeft_20 (f : Nat) (k2 : Nat → Int32 → Int32 → Int32 → Hp → Option (Hp)) : Nat → Nat → Int32 → Int32 → Int32 → Int32 → Hp → Option (Hp)
  | 0, _, _, _, _, _, _ => none
  | n + 1, x0, x1, x2, x3, x4, h => b_X6_findLeft_20 f k2 (l_X6_findLeft_20 f k2 n) x0 x1 x2 x3 x4 h
def b_X6_findLeft_2 (f : Nat) (k2 : Nat → Int32 → Int32 → Int32 → Hp → Option (Hp)) (x0 : Nat) (x1 : Int32) (x2 : Int32) (x3 : Int32) (h : Hp) : Option (Hp) :=
  (q_gi h x0 6 0).bind fun v1_ =>
  if v1_ ≤ x3 then
  (some h)
  else
  ((q_gr h x0 6 41).bind fun a2_ =>
  (q_as h a2_ 10 x3 (vp_nar .boolean (1 : Int32))).bind fun h3_ =>
  l_X6_findLeft_20 f k2 f x0 x1 x2 x3 (0 : Int32) h3_)
def l_X6_findLeft_2 (f : Nat)  : Nat → Nat → Int32 → Int32 → Int32 → Hp → Option (Hp)
  | 0, _, _, _, _, _ => none
  | n + 1, x0, x1, x2, x3, h => b_X6_findLeft_2 f  (l_X6_findLeft_2 f  n) x0 x1 x2 x3 h
def f_X6_findLeft (f : Nat)  (x0 : Nat) (x1 : Int32) (x2 : Int32) (h : Hp) : Option (Hp) :=
  l_X6_findLeft_2 f f x0 x1 x2 (0 : Int32) h
set_option maxRecDepth 20000 in
theorem t_X6_findLeft_84 {X : Cx} (o : Ok X RX6 cX6_findLeft 5 1 23 0 0 none) (f : Nat) {k2 : Nat → Int32 → Int32 → Int32 → Hp → Option (Hp)} (hk2 : ∀ (x0 : Nat) (x1 : Int32) (x2 : Int32) (x3 : Int32) (h : Hp), Sim X (z_Zv X 0 0) 0 0 2 [(0, rf (xG X) x0), (1, .int x1), (2, .int x2), (3, .int x3)] [] h (k2 x0 x1 x2 x3 h)) {k20 : Nat → Int32 → Int32 → Int32 → Int32 → Hp → Option (Hp)} (hk20 : ∀ (x0 : Nat) (x1 : Int32) (x2 : Int32) (x3 : Int32) (x4 : Int32) (h : Hp), Sim X (z_Zv X 0 0) 0 0 20 [(0, rf (xG X) x0), (1, .int x1), (2, .int x2), (3, .int x3), (4, .int x4)] [] h (k20 x0 x1 x2 x3 x4 h)) (x0 : Nat) (x1 : Int32) (x2 : Int32) (x3 : Int32) (x4 : Int32) (h : Hp) : Sim X (z_Zv X 0 0) 0 0 84 [(0, rf (xG X) x0), (1, .int x1), (2, .int x2), (3, .int x3), (4, .int x4)] [] h (b_X6_findLeft_84 f k2 k20 x0 x1 x2 x3 x4 h) := by
  unfold b_X6_findLeft_84
  refine s_iinc o 4 rfl (v := (1 : Int32)) (by decide) [1, 2, 3, 4, 0] (lv' := fun v1_ => [(0, rf (xG X) x0), (1, .int x1), (2, .int x2), (3, .int x3), (4, .int v1_)]) (fun _ => rfl) dX6_findLeft_84 (by decide) (q := 87) rfl (fun v1_ => ?_)
  refine s_goto o (tgt := 20) dX6_findLeft_87 (by decide) ?_
  exact s_sub [0, 1, 2, 3, 4] rfl (hk20 x0 x1 x2 x3 v1_ h)
set_option maxRecDepth 20000 in
theorem t_X6_findLeft_20 {X : Cx} (o : Ok X RX6 cX6_findLeft 5 1 23 0 0 none) (f : Nat) {k2 : Nat → Int32 → Int32 → Int32 → Hp → Option (Hp)} (hk2 : ∀ (x0 : Nat) (x1 : Int32) (x2 : Int32) (x3 : Int32) (h : Hp), Sim X (z_Zv X 0 0) 0 0 2 [(0, rf (xG X) x0), (1, .int x1), (2, .int x2), (3, .int x3)] [] h (k2 x0 x1 x2 x3 h)) {k20 : Nat → Int32 → Int32 → Int32 → Int32 → Hp → Option (Hp)} (hk20 : ∀ (x0 : Nat) (x1 : Int32) (x2 : Int32) (x3 : Int32) (x4 : Int32) (h : Hp), Sim X (z_Zv X 0 0) 0 0 20 [(0, rf (xG X) x0), (1, .int x1), (2, .int x2), (3, .int x3), (4, .int x4)] [] h (k20 x0 x1 x2 x3 x4 h)) (x0 : Nat) (x1 : Int32) (x2 : Int32) (x3 : Int32) (x4 : Int32) (h : Hp) : Sim X (z_Zv X 0 0) 0 0 20 [(0, rf (xG X) x0), (1, .int x1), (2, .int x2), (3, .int x3), (4, .int x4)] [] h (b_X6_findLeft_20 f k2 k20 x0 x1 x2 x3 x4 h) := by
  unfold b_X6_findLeft_20
  refine s_iload o 4 rfl dX6_findLeft_20 (q := 22) rfl ?_
  refine s_bipush o dX6_findLeft_22 (v := (6 : Int32)) (by decide) (q := 24) rfl ?_
  refine s_ic_ge o (tgt := 90) dX6_findLeft_24 (by decide) (q := 27) rfl ?_ ?_
  · refine s_iinc o 3 rfl (v := (1 : Int32)) (by decide) [1, 2, 3, 0, 4] (lv' := fun v1_ => [(0, rf (xG X) x0), (1, .int x1), (2, .int x2), (3, .int v1_), (4, .int x4)]) (fun _ => rfl) dX6_findLeft_90 (by decide) (q := 93) rfl (fun v1_ => ?_)
    refine s_goto o (tgt := 2) dX6_findLeft_93 (by decide) ?_
    exact s_sub [0, 1, 2, 3] rfl (hk2 x0 x1 x2 v1_ h)
  · refine s_iload_n o 2 rfl dX6_findLeft_27 (q := 28) rfl ?_
    refine s_iload o 4 rfl dX6_findLeft_28 (q := 30) rfl ?_
    refine s_bi (fun r0 hr0 => runS o cs_X6_182 (c_X6_has (xG X) f x2 x4 h (xl X) r0 hr0) ⟨Nat.le_of_ble_eq_true rfl, Nat.le_of_ble_eq_true rfl⟩ rfl rfl (Nat.le_of_ble_eq_true rfl) dX6_findLeft_30 ⟨Nat.le_of_ble_eq_true rfl, Nat.le_of_ble_eq_true rfl⟩) (q := 33) rfl (cs' := 0) rfl (sl' := 0) rfl (fun v3_ h2_ => ?_)
    refine s_if_ne o (tgt := 84) dX6_findLeft_33 (by decide) (q := 36) rfl ?_ ?_
    · exact s_sub [0, 1, 2, 3, 4] rfl (t_X6_findLeft_84 o f hk2 hk20 x0 x1 x2 x3 x4 h2_)
    · refine s_aload_n o 0 rfl dX6_findLeft_36 (q := 37) rfl ?_
      refine s_gr o kf_X6_32 dX6_findLeft_37 (q := 40) rfl (fun a4_ => ?_)
      refine s_bipush o dX6_findLeft_40 (v := (6 : Int32)) (by decide) (q := 42) rfl ?_
      refine s_iload_n o 1 rfl dX6_findLeft_42 (q := 43) rfl ?_
      refine s_imul o dX6_findLeft_43 (q := 44) rfl ?_
      refine s_iload o 4 rfl dX6_findLeft_44 (q := 46) rfl ?_
      refine s_iadd o dX6_findLeft_46 (q := 47) rfl ?_
      refine s_iald o dX6_findLeft_47 (q := 48) rfl (fun v5_ => ?_)
      refine s_iload_n o 3 rfl dX6_findLeft_48 (q := 49) rfl ?_
      refine s_bi (fun r0 hr0 => runS o cs_X6_182 (c_X6_has (xG X) f v5_ x3 h2_ (xl X) r0 hr0) ⟨Nat.le_of_ble_eq_true rfl, Nat.le_of_ble_eq_true rfl⟩ rfl rfl (Nat.le_of_ble_eq_true rfl) dX6_findLeft_49 ⟨Nat.le_of_ble_eq_true rfl, Nat.le_of_ble_eq_true rfl⟩) (q := 52) rfl (cs' := 0) rfl (sl' := 0) rfl (fun v7_ h6_ => ?_)
      refine s_if_eq o (tgt := 84) dX6_findLeft_52 (by decide) (q := 55) rfl ?_ ?_
      · exact s_sub [0, 1, 2, 3, 4] rfl (t_X6_findLeft_84 o f hk2 hk20 x0 x1 x2 x3 x4 h6_)
      · refine s_aload_n o 0 rfl dX6_findLeft_55 (q := 56) rfl ?_
        refine s_iload_n o 3 rfl dX6_findLeft_56 (q := 57) rfl ?_
        refine s_aload_n o 0 rfl dX6_findLeft_57 (q := 58) rfl ?_
        refine s_gr o kf_X6_16 dX6_findLeft_58 (q := 61) rfl (fun a8_ => ?_)
        refine s_bipush o dX6_findLeft_61 (v := (9 : Int32)) (by decide) (q := 63) rfl ?_
        refine s_iload o 4 rfl dX6_findLeft_63 (q := 65) rfl ?_
        refine s_imul o dX6_findLeft_65 (q := 66) rfl ?_
        refine s_iload_n o 3 rfl dX6_findLeft_66 (q := 67) rfl ?_
        refine s_iadd o dX6_findLeft_67 (q := 68) rfl ?_
        refine s_iald o dX6_findLeft_68 (q := 69) rfl (fun v9_ => ?_)
        refine s_aload_n o 0 rfl dX6_findLeft_69 (q := 70) rfl ?_
        refine s_gr o kf_X6_19 dX6_findLeft_70 (q := 73) rfl (fun a10_ => ?_)
        refine s_bipush o dX6_findLeft_73 (v := (9 : Int32)) (by decide) (q := 75) rfl ?_
        refine s_iload o 4 rfl dX6_findLeft_75 (q := 77) rfl ?_
        refine s_imul o dX6_findLeft_77 (q := 78) rfl ?_
        refine s_iload_n o 3 rfl dX6_findLeft_78 (q := 79) rfl ?_
        refine s_iadd o dX6_findLeft_79 (q := 80) rfl ?_
        refine s_iald o dX6_findLeft_80 (q := 81) rfl (fun v11_ => ?_)
        refine s_on (fun hk12_ => ?_)
        refine s_callv (fun r0 hr0 => runV o hk12_ cv_X6_270 (c_X6_narrow (xG X) f x0 x3 v9_ v11_ h6_ (xl X) r0 hr0) ⟨Nat.le_of_ble_eq_true rfl, Nat.le_of_ble_eq_true rfl⟩ rfl rfl (Nat.le_of_ble_eq_true rfl) dX6_findLeft_81 ⟨Nat.le_of_ble_eq_true rfl, Nat.le_of_ble_eq_true rfl⟩) (q := 84) rfl (cs' := 0) rfl (sl' := 0) rfl (fun h13_ => ?_)
        exact s_sub [0, 1, 2, 3, 4] rfl (t_X6_findLeft_84 o f hk2 hk20 x0 x1 x2 x3 x4 h13_)
theorem tl_X6_findLeft_20 {X : Cx} (o : Ok X RX6 cX6_findLeft 5 1 23 0 0 none) (f : Nat) {k2 : Nat → Int32 → Int32 → Int32 → Hp → Option (Hp)} (hk2 : ∀ (x0 : Nat) (x1 : Int32) (x2 : Int32) (x3 : Int32) (h : Hp), Sim X (z_Zv X 0 0) 0 0 2 [(0, rf (xG X) x0), (1, .int x1), (2, .int x2), (3, .int x3)] [] h (k2 x0 x1 x2 x3 h)) : ∀ (n : Nat) (x0 : Nat) (x1 : Int32) (x2 : Int32) (x3 : Int32) (x4 : Int32) (h : Hp), Sim X (z_Zv X 0 0) 0 0 20 [(0, rf (xG X) x0), (1, .int x1), (2, .int x2), (3, .int x3), (4, .int x4)] [] h (l_X6_findLeft_20 f k2 n x0 x1 x2 x3 x4 h) := by
  intro n
  induction n with
  | zero => intro x0 x1 x2 x3 x4 h; exact s_none
  | succ n ih => intro x0 x1 x2 x3 x4 h; exact t_X6_findLeft_20 o f hk2 ih x0 x1 x2 x3 x4 h
set_option maxRecDepth 20000 in
theorem t_X6_findLeft_2 {X : Cx} (o : Ok X RX6 cX6_findLeft 5 1 23 0 0 none) (f : Nat) {k2 : Nat → Int32 → Int32 → Int32 → Hp → Option (Hp)} (hk2 : ∀ (x0 : Nat) (x1 : Int32) (x2 : Int32) (x3 : Int32) (h : Hp), Sim X (z_Zv X 0 0) 0 0 2 [(0, rf (xG X) x0), (1, .int x1), (2, .int x2), (3, .int x3)] [] h (k2 x0 x1 x2 x3 h)) (x0 : Nat) (x1 : Int32) (x2 : Int32) (x3 : Int32) (h : Hp) : Sim X (z_Zv X 0 0) 0 0 2 [(0, rf (xG X) x0), (1, .int x1), (2, .int x2), (3, .int x3)] [] h (b_X6_findLeft_2 f k2 x0 x1 x2 x3 h) := by
  unfold b_X6_findLeft_2
  refine s_iload_n o 3 rfl dX6_findLeft_2 (q := 3) rfl ?_
  refine s_aload_n o 0 rfl dX6_findLeft_3 (q := 4) rfl ?_
  refine s_gi o kf_X6_111 dX6_findLeft_4 (q := 7) rfl (fun v1_ => ?_)
  refine s_ic_ge o (tgt := 96) dX6_findLeft_7 (by decide) (q := 10) rfl ?_ ?_
  · exact s_vret o dX6_findLeft_96
  · refine s_aload_n o 0 rfl dX6_findLeft_10 (q := 11) rfl ?_
    refine s_gr o kf_X6_72 dX6_findLeft_11 (q := 14) rfl (fun a2_ => ?_)
    refine s_iload_n o 3 rfl dX6_findLeft_14 (q := 15) rfl ?_
    refine s_iconst o dX6_findLeft_15 (v := (1 : Int32)) (by decide) (q := 16) rfl ?_
    refine s_zast o dX6_findLeft_16 (q := 17) rfl (fun h3_ => ?_)
    refine s_iconst o dX6_findLeft_17 (v := (0 : Int32)) (by decide) (q := 18) rfl ?_
    refine s_istore o [1, 2, 3, 4, 0] (lv' := [(0, rf (xG X) x0), (1, .int x1), (2, .int x2), (3, .int x3), (4, .int (0 : Int32))]) rfl dX6_findLeft_18 (by decide) (q := 20) rfl ?_
    exact s_sub [0, 1, 2, 3, 4] rfl (tl_X6_findLeft_20 o f hk2 f x0 x1 x2 x3 (0 : Int32) h3_)
theorem tl_X6_findLeft_2 {X : Cx} (o : Ok X RX6 cX6_findLeft 5 1 23 0 0 none) (f : Nat)  : ∀ (n : Nat) (x0 : Nat) (x1 : Int32) (x2 : Int32) (x3 : Int32) (h : Hp), Sim X (z_Zv X 0 0) 0 0 2 [(0, rf (xG X) x0), (1, .int x1), (2, .int x2), (3, .int x3)] [] h (l_X6_findLeft_2 f n x0 x1 x2 x3 h) := by
  intro n
  induction n with
  | zero => intro x0 x1 x2 x3 h; exact s_none
  | succ n ih => intro x0 x1 x2 x3 h; exact t_X6_findLeft_2 o f  ih x0 x1 x2 x3 h
set_option maxRecDepth 20000 in
theorem t_X6_findLeft_0 {X : Cx} (o : Ok X RX6 cX6_findLeft 5 1 23 0 0 none) (f : Nat)  (x0 : Nat) (x1 : Int32) (x2 : Int32) (h : Hp) : Sim X (z_Zv X 0 0) 0 0 0 [(0, rf (xG X) x0), (1, .int x1), (2, .int x2)] [] h (f_X6_findLeft f x0 x1 x2 h) := by
  unfold f_X6_findLeft
  refine s_iconst o dX6_findLeft_0 (v := (0 : Int32)) (by decide) (q := 1) rfl ?_
  refine s_istore_n o [1, 2, 3, 0] (lv' := [(0, rf (xG X) x0), (1, .int x1), (2, .int x2), (3, .int (0 : Int32))]) rfl dX6_findLeft_1 (by decide) (q := 2) rfl ?_
  exact s_sub [0, 1, 2, 3] rfl (tl_X6_findLeft_2 o f f x0 x1 x2 (0 : Int32) h)
theorem c_X6_findLeft (G : Gx) (f : Nat) (x0 : Nat) (x1 : Int32) (x2 : Int32) (h : Hp) : z_M z_qv G yX6_findLeft cX6_findLeft 5 none 1 23 0 0 [rf G x0, .int x1, .int x2] h (f_X6_findLeft f x0 x1 x2 h) :=
  z_met (by decide +kernel) (Nat.le_of_ble_eq_true rfl) (fun X hG hn o hnm => by
    subst hG
    show Sim X (z_Zv X 0 0) 0 0 0 [(0, rf (xG X) x0), (1, .int x1), (2, .int x2)] [] h _
    exact s_sub [0, 1, 2] rfl (t_X6_findLeft_0 o f x0 x1 x2 h))
/-! SixMapsModel.isOne(I)Z -/
def b_X6_isOne_58 (f : Nat)  (y0 : Int32) (h : Hp) : Option (Int32 × Hp) :=
  q_bo y0 (some (y0, h))
def b_X6_isOne_57 (f : Nat)   (h : Hp) : Option (Int32 × Hp) :=
  b_X6_isOne_58 f (0 : Int32) h
def f_X6_isOne (f : Nat)  (x0 : Nat) (x1 : Int32) (h : Hp) : Option (Int32 × Hp) :=
  (q_gr h x0 6 41).bind fun a1_ =>
  (q_ai h a1_ 10 x1).bind fun v2_ =>
  if ¬ v2_ = 0 then
  (b_X6_isOne_57 f h)
  else
  ((q_gr h x0 6 42).bind fun a3_ =>
  (q_ai h a3_ 9 ((4 : Int32) * x1)).bind fun v4_ =>
  (q_gr h x0 6 42).bind fun a5_ =>
  (q_ai h a5_ 9 (((4 : Int32) * x1) + (1 : Int32))).bind fun v6_ =>
  if ¬ v4_ = v6_ then
  (b_X6_isOne_57 f h)
  else
  ((q_gr h x0 6 42).bind fun a7_ =>
  (q_ai h a7_ 9 (((4 : Int32) * x1) + (2 : Int32))).bind fun v8_ =>
  (q_gr h x0 6 42).bind fun a9_ =>
  (q_ai h a9_ 9 (((4 : Int32) * x1) + (3 : Int32))).bind fun v10_ =>
  if ¬ v8_ = v10_ then
  (b_X6_isOne_57 f h)
  else
  (b_X6_isOne_58 f (1 : Int32) h)))
set_option maxRecDepth 20000 in
theorem t_X6_isOne_58 {X : Cx} (o : Ok X RX6 cX6_isOne 2 0 0 0 0 (some .boolean)) (f : Nat)  (y0 : Int32) (h : Hp) : Sim X (z_Zi X 0 0) 0 0 58 [] [.int y0] h (b_X6_isOne_58 f y0 h) := by
  unfold b_X6_isOne_58
  exact s_zret o dX6_isOne_58
set_option maxRecDepth 20000 in
theorem t_X6_isOne_57 {X : Cx} (o : Ok X RX6 cX6_isOne 2 0 0 0 0 (some .boolean)) (f : Nat)   (h : Hp) : Sim X (z_Zi X 0 0) 0 0 57 [] [] h (b_X6_isOne_57 f h) := by
  unfold b_X6_isOne_57
  refine s_iconst o dX6_isOne_57 (v := (0 : Int32)) (by decide) (q := 58) rfl ?_
  exact s_sub [] rfl (t_X6_isOne_58 o f (0 : Int32) h)
set_option maxRecDepth 20000 in
theorem t_X6_isOne_0 {X : Cx} (o : Ok X RX6 cX6_isOne 2 0 0 0 0 (some .boolean)) (f : Nat)  (x0 : Nat) (x1 : Int32) (h : Hp) : Sim X (z_Zi X 0 0) 0 0 0 [(0, rf (xG X) x0), (1, .int x1)] [] h (f_X6_isOne f x0 x1 h) := by
  unfold f_X6_isOne
  refine s_aload_n o 0 rfl dX6_isOne_0 (q := 1) rfl ?_
  refine s_gr o kf_X6_72 dX6_isOne_1 (q := 4) rfl (fun a1_ => ?_)
  refine s_iload_n o 1 rfl dX6_isOne_4 (q := 5) rfl ?_
  refine s_zald o dX6_isOne_5 (q := 6) rfl (fun v2_ => ?_)
  refine s_if_ne o (tgt := 57) dX6_isOne_6 (by decide) (q := 9) rfl ?_ ?_
  · exact s_sub [] rfl (t_X6_isOne_57 o f h)
  · refine s_aload_n o 0 rfl dX6_isOne_9 (q := 10) rfl ?_
    refine s_gr o kf_X6_75 dX6_isOne_10 (q := 13) rfl (fun a3_ => ?_)
    refine s_iconst o dX6_isOne_13 (v := (4 : Int32)) (by decide) (q := 14) rfl ?_
    refine s_iload_n o 1 rfl dX6_isOne_14 (q := 15) rfl ?_
    refine s_imul o dX6_isOne_15 (q := 16) rfl ?_
    refine s_iald o dX6_isOne_16 (q := 17) rfl (fun v4_ => ?_)
    refine s_aload_n o 0 rfl dX6_isOne_17 (q := 18) rfl ?_
    refine s_gr o kf_X6_75 dX6_isOne_18 (q := 21) rfl (fun a5_ => ?_)
    refine s_iconst o dX6_isOne_21 (v := (4 : Int32)) (by decide) (q := 22) rfl ?_
    refine s_iload_n o 1 rfl dX6_isOne_22 (q := 23) rfl ?_
    refine s_imul o dX6_isOne_23 (q := 24) rfl ?_
    refine s_iconst o dX6_isOne_24 (v := (1 : Int32)) (by decide) (q := 25) rfl ?_
    refine s_iadd o dX6_isOne_25 (q := 26) rfl ?_
    refine s_iald o dX6_isOne_26 (q := 27) rfl (fun v6_ => ?_)
    refine s_ic_ne o (tgt := 57) dX6_isOne_27 (by decide) (q := 30) rfl ?_ ?_
    · exact s_sub [] rfl (t_X6_isOne_57 o f h)
    · refine s_aload_n o 0 rfl dX6_isOne_30 (q := 31) rfl ?_
      refine s_gr o kf_X6_75 dX6_isOne_31 (q := 34) rfl (fun a7_ => ?_)
      refine s_iconst o dX6_isOne_34 (v := (4 : Int32)) (by decide) (q := 35) rfl ?_
      refine s_iload_n o 1 rfl dX6_isOne_35 (q := 36) rfl ?_
      refine s_imul o dX6_isOne_36 (q := 37) rfl ?_
      refine s_iconst o dX6_isOne_37 (v := (2 : Int32)) (by decide) (q := 38) rfl ?_
      refine s_iadd o dX6_isOne_38 (q := 39) rfl ?_
      refine s_iald o dX6_isOne_39 (q := 40) rfl (fun v8_ => ?_)
      refine s_aload_n o 0 rfl dX6_isOne_40 (q := 41) rfl ?_
      refine s_gr o kf_X6_75 dX6_isOne_41 (q := 44) rfl (fun a9_ => ?_)
      refine s_iconst o dX6_isOne_44 (v := (4 : Int32)) (by decide) (q := 45) rfl ?_
      refine s_iload_n o 1 rfl dX6_isOne_45 (q := 46) rfl ?_
      refine s_imul o dX6_isOne_46 (q := 47) rfl ?_
      refine s_iconst o dX6_isOne_47 (v := (3 : Int32)) (by decide) (q := 48) rfl ?_
      refine s_iadd o dX6_isOne_48 (q := 49) rfl ?_
      refine s_iald o dX6_isOne_49 (q := 50) rfl (fun v10_ => ?_)
      refine s_ic_ne o (tgt := 57) dX6_isOne_50 (by decide) (q := 53) rfl ?_ ?_
      · exact s_sub [] rfl (t_X6_isOne_57 o f h)
      · refine s_iconst o dX6_isOne_53 (v := (1 : Int32)) (by decide) (q := 54) rfl ?_
        refine s_goto o (tgt := 58) dX6_isOne_54 (by decide) ?_
        exact s_sub [] rfl (t_X6_isOne_58 o f (1 : Int32) h)
theorem c_X6_isOne (G : Gx) (f : Nat) (x0 : Nat) (x1 : Int32) (h : Hp) : z_M z_qi G yX6_isOne cX6_isOne 2 (some .boolean) 0 0 0 0 [rf G x0, .int x1] h (f_X6_isOne f x0 x1 h) :=
  z_met (by decide +kernel) (Nat.le_of_ble_eq_true rfl) (fun X hG hn o hnm => by
    subst hG
    show Sim X (z_Zi X 0 0) 0 0 0 [(0, rf (xG X) x0), (1, .int x1)] [] h _
    exact s_sub [0, 1] rfl (t_X6_isOne_0 o f x0 x1 h))
/-! SixMapsModel.lead(I)I -/
def f_X6_lead (f : Nat)  (x0 : Nat) (x1 : Int32) (h : Hp) : Option (Int32 × Hp) :=
  (q_gr h x0 6 42).bind fun a1_ =>
  (q_gr h x0 6 8).bind fun a2_ =>
  (q_ai h a2_ 9 (0 : Int32)).bind fun v3_ =>
  (q_ai h a1_ 9 (((4 : Int32) * v3_) + x1)).bind fun v4_ =>
  (q_gr h x0 6 42).bind fun a5_ =>
  (q_gr h x0 6 8).bind fun a6_ =>
  (q_ai h a6_ 9 (1 : Int32)).bind fun v7_ =>
  (q_ai h a5_ 9 (((4 : Int32) * v7_) + x1)).bind fun v8_ =>
  (q_gr h x0 6 42).bind fun a9_ =>
  (q_gr h x0 6 8).bind fun a10_ =>
  (q_ai h a10_ 9 (2 : Int32)).bind fun v11_ =>
  (q_ai h a9_ 9 (((4 : Int32) * v11_) + x1)).bind fun v12_ =>
  some (((v4_ + v8_) - v12_), h)
set_option maxRecDepth 20000 in
theorem t_X6_lead_0 {X : Cx} (o : Ok X RX6 cX6_lead 2 0 0 0 0 (some .int)) (f : Nat)  (x0 : Nat) (x1 : Int32) (h : Hp) : Sim X (z_Zi X 0 0) 0 0 0 [(0, rf (xG X) x0), (1, .int x1)] [] h (f_X6_lead f x0 x1 h) := by
  unfold f_X6_lead
  refine s_aload_n o 0 rfl dX6_lead_0 (q := 1) rfl ?_
  refine s_gr o kf_X6_75 dX6_lead_1 (q := 4) rfl (fun a1_ => ?_)
  refine s_iconst o dX6_lead_4 (v := (4 : Int32)) (by decide) (q := 5) rfl ?_
  refine s_aload_n o 0 rfl dX6_lead_5 (q := 6) rfl ?_
  refine s_gr o kf_X6_22 dX6_lead_6 (q := 9) rfl (fun a2_ => ?_)
  refine s_iconst o dX6_lead_9 (v := (0 : Int32)) (by decide) (q := 10) rfl ?_
  refine s_iald o dX6_lead_10 (q := 11) rfl (fun v3_ => ?_)
  refine s_imul o dX6_lead_11 (q := 12) rfl ?_
  refine s_iload_n o 1 rfl dX6_lead_12 (q := 13) rfl ?_
  refine s_iadd o dX6_lead_13 (q := 14) rfl ?_
  refine s_iald o dX6_lead_14 (q := 15) rfl (fun v4_ => ?_)
  refine s_aload_n o 0 rfl dX6_lead_15 (q := 16) rfl ?_
  refine s_gr o kf_X6_75 dX6_lead_16 (q := 19) rfl (fun a5_ => ?_)
  refine s_iconst o dX6_lead_19 (v := (4 : Int32)) (by decide) (q := 20) rfl ?_
  refine s_aload_n o 0 rfl dX6_lead_20 (q := 21) rfl ?_
  refine s_gr o kf_X6_22 dX6_lead_21 (q := 24) rfl (fun a6_ => ?_)
  refine s_iconst o dX6_lead_24 (v := (1 : Int32)) (by decide) (q := 25) rfl ?_
  refine s_iald o dX6_lead_25 (q := 26) rfl (fun v7_ => ?_)
  refine s_imul o dX6_lead_26 (q := 27) rfl ?_
  refine s_iload_n o 1 rfl dX6_lead_27 (q := 28) rfl ?_
  refine s_iadd o dX6_lead_28 (q := 29) rfl ?_
  refine s_iald o dX6_lead_29 (q := 30) rfl (fun v8_ => ?_)
  refine s_iadd o dX6_lead_30 (q := 31) rfl ?_
  refine s_aload_n o 0 rfl dX6_lead_31 (q := 32) rfl ?_
  refine s_gr o kf_X6_75 dX6_lead_32 (q := 35) rfl (fun a9_ => ?_)
  refine s_iconst o dX6_lead_35 (v := (4 : Int32)) (by decide) (q := 36) rfl ?_
  refine s_aload_n o 0 rfl dX6_lead_36 (q := 37) rfl ?_
  refine s_gr o kf_X6_22 dX6_lead_37 (q := 40) rfl (fun a10_ => ?_)
  refine s_iconst o dX6_lead_40 (v := (2 : Int32)) (by decide) (q := 41) rfl ?_
  refine s_iald o dX6_lead_41 (q := 42) rfl (fun v11_ => ?_)
  refine s_imul o dX6_lead_42 (q := 43) rfl ?_
  refine s_iload_n o 1 rfl dX6_lead_43 (q := 44) rfl ?_
  refine s_iadd o dX6_lead_44 (q := 45) rfl ?_
  refine s_iald o dX6_lead_45 (q := 46) rfl (fun v12_ => ?_)
  refine s_isub o dX6_lead_46 (q := 47) rfl ?_
  exact s_iret o dX6_lead_47
theorem c_X6_lead (G : Gx) (f : Nat) (x0 : Nat) (x1 : Int32) (h : Hp) : z_M z_qi G yX6_lead cX6_lead 2 (some .int) 0 0 0 0 [rf G x0, .int x1] h (f_X6_lead f x0 x1 h) :=
  z_met (by decide +kernel) (Nat.le_of_ble_eq_true rfl) (fun X hG hn o hnm => by
    subst hG
    show Sim X (z_Zi X 0 0) 0 0 0 [(0, rf (xG X) x0), (1, .int x1)] [] h _
    exact s_sub [0, 1] rfl (t_X6_lead_0 o f x0 x1 h))
/-! SixMapsModel.isFelled()Z -/
def b_X6_isFelled_112 (f : Nat)  (x1 : Int32) (h : Hp) : Option (Int32 × Hp) :=
  q_bo x1 (some (x1, h))
def b_X6_isFelled_105 (f : Nat) (k4 : Nat → Int32 → Int32 → Hp → Option (Int32 × Hp)) (x0 : Nat) (x2 : Int32) (y0 : Int32) (h : Hp) : Option (Int32 × Hp) :=
  lt (x2 + (1 : Int32)) fun v1_ =>
  k4 x0 y0 v1_ h
def b_X6_isFelled_104 (f : Nat) (k4 : Nat → Int32 → Int32 → Hp → Option (Int32 × Hp)) (x0 : Nat) (x2 : Int32) (h : Hp) : Option (Int32 × Hp) :=
  b_X6_isFelled_105 f k4 x0 x2 (0 : Int32) h
def b_X6_isFelled_100 (f : Nat) (k4 : Nat → Int32 → Int32 → Hp → Option (Int32 × Hp)) (x0 : Nat) (x2 : Int32) (h : Hp) : Option (Int32 × Hp) :=
  b_X6_isFelled_105 f k4 x0 x2 (1 : Int32) h
def b_X6_isFelled_63 (f : Nat) (k4 : Nat → Int32 → Int32 → Hp → Option (Int32 × Hp)) (x0 : Nat) (x1 : Int32) (x2 : Int32) (y0 : Int32) (h : Hp) : Option (Int32 × Hp) :=
  if ¬ x1 = 0 then
  (b_X6_isFelled_100 f k4 x0 x2 h)
  else
  (if y0 = 0 then
  (b_X6_isFelled_104 f k4 x0 x2 h)
  else
  (q_on h x0 6 (
  bi (f_X6_lead f x0 (0 : Int32) h) fun v3_ h2_ =>
  (q_gr h2_ x0 6 14).bind fun a4_ =>
  (q_ai h2_ a4_ 9 x2).bind fun v5_ =>
  if ¬ v3_ = v5_ then
  (b_X6_isFelled_104 f k4 x0 x2 h2_)
  else
  (q_on h2_ x0 6 (
  bi (f_X6_lead f x0 (2 : Int32) h2_) fun v8_ h7_ =>
  (q_gr h7_ x0 6 15).bind fun a9_ =>
  (q_ai h7_ a9_ 9 x2).bind fun v10_ =>
  if ¬ v8_ = v10_ then
  (b_X6_isFelled_104 f k4 x0 x2 h7_)
  else
  (b_X6_isFelled_100 f k4 x0 x2 h7_))))))
def b_X6_isFelled_62 (f : Nat) (k4 : Nat → Int32 → Int32 → Hp → Option (Int32 × Hp)) (x0 : Nat) (x1 : Int32) (x2 : Int32) (h : Hp) : Option (Int32 × Hp) :=
  b_X6_isFelled_63 f k4 x0 x1 x2 (0 : Int32) h
def b_X6_isFelled_4 (f : Nat) (k4 : Nat → Int32 → Int32 → Hp → Option (Int32 × Hp)) (x0 : Nat) (x1 : Int32) (x2 : Int32) (h : Hp) : Option (Int32 × Hp) :=
  (q_gi h x0 6 13).bind fun v1_ =>
  if v1_ ≤ x2 then
  (b_X6_isFelled_112 f x1 h)
  else
  ((q_gi h x0 6 0).bind fun v2_ =>
  if v2_ ≤ 0 then
  (b_X6_isFelled_112 f x1 h)
  else
  ((q_gr h x0 6 8).bind fun a3_ =>
  (q_ai h a3_ 9 (0 : Int32)).bind fun v4_ =>
  q_on h x0 6 (
  bi (f_X6_isOne f x0 v4_ h) fun v7_ h6_ =>
  if v7_ = 0 then
  (b_X6_isFelled_62 f k4 x0 x1 x2 h6_)
  else
  ((q_gr h6_ x0 6 8).bind fun a8_ =>
  (q_ai h6_ a8_ 9 (1 : Int32)).bind fun v9_ =>
  q_on h6_ x0 6 (
  bi (f_X6_isOne f x0 v9_ h6_) fun v12_ h11_ =>
  if v12_ = 0 then
  (b_X6_isFelled_62 f k4 x0 x1 x2 h11_)
  else
  ((q_gr h11_ x0 6 8).bind fun a13_ =>
  (q_ai h11_ a13_ 9 (2 : Int32)).bind fun v14_ =>
  q_on h11_ x0 6 (
  bi (f_X6_isOne f x0 v14_ h11_) fun v17_ h16_ =>
  if v17_ = 0 then
  (b_X6_isFelled_62 f k4 x0 x1 x2 h16_)
  else
  (b_X6_isFelled_63 f k4 x0 x1 x2 (1 : Int32) h16_))))))))
def l_X6_isFelled_4 (f : Nat)  : Nat → Nat → Int32 → Int32 → Hp → Option (Int32 × Hp)
  | 0, _, _, _, _ => none
  | n + 1, x0, x1, x2, h => b_X6_isFelled_4 f  (l_X6_isFelled_4 f  n) x0 x1 x2 h
def f_X6_isFelled (f : Nat)  (x0 : Nat) (h : Hp) : Option (Int32 × Hp) :=
  l_X6_isFelled_4 f f x0 (0 : Int32) (0 : Int32) h
set_option maxRecDepth 20000 in
theorem t_X6_isFelled_112 {X : Cx} (o : Ok X RX6 cX6_isFelled 4 1 21 0 0 (some .boolean)) (f : Nat)  (x1 : Int32) (h : Hp) : Sim X (z_Zi X 0 0) 0 0 112 [(1, .int x1)] [] h (b_X6_isFelled_112 f x1 h) := by
  unfold b_X6_isFelled_112
  refine s_iload_n o 0 rfl dX6_isFelled_112 (q := 113) rfl ?_
  exact s_zret o dX6_isFelled_113
set_option maxRecDepth 20000 in
theorem t_X6_isFelled_105 {X : Cx} (o : Ok X RX6 cX6_isFelled 4 1 21 0 0 (some .boolean)) (f : Nat) {k4 : Nat → Int32 → Int32 → Hp → Option (Int32 × Hp)} (hk4 : ∀ (x0 : Nat) (x1 : Int32) (x2 : Int32) (h : Hp), Sim X (z_Zi X 0 0) 0 0 4 [(0, rf (xG X) x0), (1, .int x1), (2, .int x2)] [] h (k4 x0 x1 x2 h)) (x0 : Nat) (x2 : Int32) (y0 : Int32) (h : Hp) : Sim X (z_Zi X 0 0) 0 0 105 [(0, rf (xG X) x0), (2, .int x2)] [.int y0] h (b_X6_isFelled_105 f k4 x0 x2 y0 h) := by
  unfold b_X6_isFelled_105
  refine s_istore_n o [1, 0, 2] (lv' := [(0, rf (xG X) x0), (1, .int y0), (2, .int x2)]) rfl dX6_isFelled_105 (by decide) (q := 106) rfl ?_
  refine s_iinc o 2 rfl (v := (1 : Int32)) (by decide) [1, 2, 0] (lv' := fun v1_ => [(0, rf (xG X) x0), (1, .int y0), (2, .int v1_)]) (fun _ => rfl) dX6_isFelled_106 (by decide) (q := 109) rfl (fun v1_ => ?_)
  refine s_goto o (tgt := 4) dX6_isFelled_109 (by decide) ?_
  exact s_sub [0, 1, 2] rfl (hk4 x0 y0 v1_ h)
set_option maxRecDepth 20000 in
theorem t_X6_isFelled_104 {X : Cx} (o : Ok X RX6 cX6_isFelled 4 1 21 0 0 (some .boolean)) (f : Nat) {k4 : Nat → Int32 → Int32 → Hp → Option (Int32 × Hp)} (hk4 : ∀ (x0 : Nat) (x1 : Int32) (x2 : Int32) (h : Hp), Sim X (z_Zi X 0 0) 0 0 4 [(0, rf (xG X) x0), (1, .int x1), (2, .int x2)] [] h (k4 x0 x1 x2 h)) (x0 : Nat) (x2 : Int32) (h : Hp) : Sim X (z_Zi X 0 0) 0 0 104 [(0, rf (xG X) x0), (2, .int x2)] [] h (b_X6_isFelled_104 f k4 x0 x2 h) := by
  unfold b_X6_isFelled_104
  refine s_iconst o dX6_isFelled_104 (v := (0 : Int32)) (by decide) (q := 105) rfl ?_
  exact s_sub [0, 1] rfl (t_X6_isFelled_105 o f hk4 x0 x2 (0 : Int32) h)
set_option maxRecDepth 20000 in
theorem t_X6_isFelled_100 {X : Cx} (o : Ok X RX6 cX6_isFelled 4 1 21 0 0 (some .boolean)) (f : Nat) {k4 : Nat → Int32 → Int32 → Hp → Option (Int32 × Hp)} (hk4 : ∀ (x0 : Nat) (x1 : Int32) (x2 : Int32) (h : Hp), Sim X (z_Zi X 0 0) 0 0 4 [(0, rf (xG X) x0), (1, .int x1), (2, .int x2)] [] h (k4 x0 x1 x2 h)) (x0 : Nat) (x2 : Int32) (h : Hp) : Sim X (z_Zi X 0 0) 0 0 100 [(0, rf (xG X) x0), (2, .int x2)] [] h (b_X6_isFelled_100 f k4 x0 x2 h) := by
  unfold b_X6_isFelled_100
  refine s_iconst o dX6_isFelled_100 (v := (1 : Int32)) (by decide) (q := 101) rfl ?_
  refine s_goto o (tgt := 105) dX6_isFelled_101 (by decide) ?_
  exact s_sub [0, 1] rfl (t_X6_isFelled_105 o f hk4 x0 x2 (1 : Int32) h)
set_option maxRecDepth 20000 in
theorem t_X6_isFelled_63 {X : Cx} (o : Ok X RX6 cX6_isFelled 4 1 21 0 0 (some .boolean)) (f : Nat) {k4 : Nat → Int32 → Int32 → Hp → Option (Int32 × Hp)} (hk4 : ∀ (x0 : Nat) (x1 : Int32) (x2 : Int32) (h : Hp), Sim X (z_Zi X 0 0) 0 0 4 [(0, rf (xG X) x0), (1, .int x1), (2, .int x2)] [] h (k4 x0 x1 x2 h)) (x0 : Nat) (x1 : Int32) (x2 : Int32) (y0 : Int32) (h : Hp) : Sim X (z_Zi X 0 0) 0 0 63 [(0, rf (xG X) x0), (1, .int x1), (2, .int x2)] [.int y0] h (b_X6_isFelled_63 f k4 x0 x1 x2 y0 h) := by
  unfold b_X6_isFelled_63
  refine s_istore_n o [1, 2, 3, 0] (lv' := [(0, rf (xG X) x0), (1, .int x1), (2, .int x2), (3, .int y0)]) rfl dX6_isFelled_63 (by decide) (q := 64) rfl ?_
  refine s_iload_n o 1 rfl dX6_isFelled_64 (q := 65) rfl ?_
  refine s_if_ne o (tgt := 100) dX6_isFelled_65 (by decide) (q := 68) rfl ?_ ?_
  · exact s_sub [0, 2] rfl (t_X6_isFelled_100 o f hk4 x0 x2 h)
  · refine s_iload_n o 3 rfl dX6_isFelled_68 (q := 69) rfl ?_
    refine s_if_eq o (tgt := 104) dX6_isFelled_69 (by decide) (q := 72) rfl ?_ ?_
    · exact s_sub [0, 2] rfl (t_X6_isFelled_104 o f hk4 x0 x2 h)
    · refine s_aload_n o 0 rfl dX6_isFelled_72 (q := 73) rfl ?_
      refine s_iconst o dX6_isFelled_73 (v := (0 : Int32)) (by decide) (q := 74) rfl ?_
      refine s_on (fun hk1_ => ?_)
      refine s_bi (fun r0 hr0 => runV o hk1_ cv_X6_283 (c_X6_lead (xG X) f x0 (0 : Int32) h (xl X) r0 hr0) ⟨Nat.le_of_ble_eq_true rfl, Nat.le_of_ble_eq_true rfl⟩ rfl rfl (Nat.le_of_ble_eq_true rfl) dX6_isFelled_74 ⟨Nat.le_of_ble_eq_true rfl, Nat.le_of_ble_eq_true rfl⟩) (q := 77) rfl (cs' := 0) rfl (sl' := 0) rfl (fun v3_ h2_ => ?_)
      refine s_aload_n o 0 rfl dX6_isFelled_77 (q := 78) rfl ?_
      refine s_gr o kf_X6_38 dX6_isFelled_78 (q := 81) rfl (fun a4_ => ?_)
      refine s_iload_n o 2 rfl dX6_isFelled_81 (q := 82) rfl ?_
      refine s_iald o dX6_isFelled_82 (q := 83) rfl (fun v5_ => ?_)
      refine s_ic_ne o (tgt := 104) dX6_isFelled_83 (by decide) (q := 86) rfl ?_ ?_
      · exact s_sub [0, 2] rfl (t_X6_isFelled_104 o f hk4 x0 x2 h2_)
      · refine s_aload_n o 0 rfl dX6_isFelled_86 (q := 87) rfl ?_
        refine s_iconst o dX6_isFelled_87 (v := (2 : Int32)) (by decide) (q := 88) rfl ?_
        refine s_on (fun hk6_ => ?_)
        refine s_bi (fun r0 hr0 => runV o hk6_ cv_X6_283 (c_X6_lead (xG X) f x0 (2 : Int32) h2_ (xl X) r0 hr0) ⟨Nat.le_of_ble_eq_true rfl, Nat.le_of_ble_eq_true rfl⟩ rfl rfl (Nat.le_of_ble_eq_true rfl) dX6_isFelled_88 ⟨Nat.le_of_ble_eq_true rfl, Nat.le_of_ble_eq_true rfl⟩) (q := 91) rfl (cs' := 0) rfl (sl' := 0) rfl (fun v8_ h7_ => ?_)
        refine s_aload_n o 0 rfl dX6_isFelled_91 (q := 92) rfl ?_
        refine s_gr o kf_X6_41 dX6_isFelled_92 (q := 95) rfl (fun a9_ => ?_)
        refine s_iload_n o 2 rfl dX6_isFelled_95 (q := 96) rfl ?_
        refine s_iald o dX6_isFelled_96 (q := 97) rfl (fun v10_ => ?_)
        refine s_ic_ne o (tgt := 104) dX6_isFelled_97 (by decide) (q := 100) rfl ?_ ?_
        · exact s_sub [0, 2] rfl (t_X6_isFelled_104 o f hk4 x0 x2 h7_)
        · exact s_sub [0, 2] rfl (t_X6_isFelled_100 o f hk4 x0 x2 h7_)
set_option maxRecDepth 20000 in
theorem t_X6_isFelled_62 {X : Cx} (o : Ok X RX6 cX6_isFelled 4 1 21 0 0 (some .boolean)) (f : Nat) {k4 : Nat → Int32 → Int32 → Hp → Option (Int32 × Hp)} (hk4 : ∀ (x0 : Nat) (x1 : Int32) (x2 : Int32) (h : Hp), Sim X (z_Zi X 0 0) 0 0 4 [(0, rf (xG X) x0), (1, .int x1), (2, .int x2)] [] h (k4 x0 x1 x2 h)) (x0 : Nat) (x1 : Int32) (x2 : Int32) (h : Hp) : Sim X (z_Zi X 0 0) 0 0 62 [(0, rf (xG X) x0), (1, .int x1), (2, .int x2)] [] h (b_X6_isFelled_62 f k4 x0 x1 x2 h) := by
  unfold b_X6_isFelled_62
  refine s_iconst o dX6_isFelled_62 (v := (0 : Int32)) (by decide) (q := 63) rfl ?_
  exact s_sub [0, 1, 2] rfl (t_X6_isFelled_63 o f hk4 x0 x1 x2 (0 : Int32) h)
set_option maxRecDepth 20000 in
theorem t_X6_isFelled_4 {X : Cx} (o : Ok X RX6 cX6_isFelled 4 1 21 0 0 (some .boolean)) (f : Nat) {k4 : Nat → Int32 → Int32 → Hp → Option (Int32 × Hp)} (hk4 : ∀ (x0 : Nat) (x1 : Int32) (x2 : Int32) (h : Hp), Sim X (z_Zi X 0 0) 0 0 4 [(0, rf (xG X) x0), (1, .int x1), (2, .int x2)] [] h (k4 x0 x1 x2 h)) (x0 : Nat) (x1 : Int32) (x2 : Int32) (h : Hp) : Sim X (z_Zi X 0 0) 0 0 4 [(0, rf (xG X) x0), (1, .int x1), (2, .int x2)] [] h (b_X6_isFelled_4 f k4 x0 x1 x2 h) := by
  unfold b_X6_isFelled_4
  refine s_iload_n o 2 rfl dX6_isFelled_4 (q := 5) rfl ?_
  refine s_aload_n o 0 rfl dX6_isFelled_5 (q := 6) rfl ?_
  refine s_gi o kf_X6_120 dX6_isFelled_6 (q := 9) rfl (fun v1_ => ?_)
  refine s_ic_ge o (tgt := 112) dX6_isFelled_9 (by decide) (q := 12) rfl ?_ ?_
  · exact s_sub [1] rfl (t_X6_isFelled_112 o f x1 h)
  · refine s_aload_n o 0 rfl dX6_isFelled_12 (q := 13) rfl ?_
    refine s_gi o kf_X6_111 dX6_isFelled_13 (q := 16) rfl (fun v2_ => ?_)
    refine s_if_le o (tgt := 112) dX6_isFelled_16 (by decide) (q := 19) rfl ?_ ?_
    · exact s_sub [1] rfl (t_X6_isFelled_112 o f x1 h)
    · refine s_aload_n o 0 rfl dX6_isFelled_19 (q := 20) rfl ?_
      refine s_aload_n o 0 rfl dX6_isFelled_20 (q := 21) rfl ?_
      refine s_gr o kf_X6_22 dX6_isFelled_21 (q := 24) rfl (fun a3_ => ?_)
      refine s_iconst o dX6_isFelled_24 (v := (0 : Int32)) (by decide) (q := 25) rfl ?_
      refine s_iald o dX6_isFelled_25 (q := 26) rfl (fun v4_ => ?_)
      refine s_on (fun hk5_ => ?_)
      refine s_bi (fun r0 hr0 => runV o hk5_ cv_X6_280 (c_X6_isOne (xG X) f x0 v4_ h (xl X) r0 hr0) ⟨Nat.le_of_ble_eq_true rfl, Nat.le_of_ble_eq_true rfl⟩ rfl rfl (Nat.le_of_ble_eq_true rfl) dX6_isFelled_26 ⟨Nat.le_of_ble_eq_true rfl, Nat.le_of_ble_eq_true rfl⟩) (q := 29) rfl (cs' := 0) rfl (sl' := 0) rfl (fun v7_ h6_ => ?_)
      refine s_if_eq o (tgt := 62) dX6_isFelled_29 (by decide) (q := 32) rfl ?_ ?_
      · exact s_sub [0, 1, 2] rfl (t_X6_isFelled_62 o f hk4 x0 x1 x2 h6_)
      · refine s_aload_n o 0 rfl dX6_isFelled_32 (q := 33) rfl ?_
        refine s_aload_n o 0 rfl dX6_isFelled_33 (q := 34) rfl ?_
        refine s_gr o kf_X6_22 dX6_isFelled_34 (q := 37) rfl (fun a8_ => ?_)
        refine s_iconst o dX6_isFelled_37 (v := (1 : Int32)) (by decide) (q := 38) rfl ?_
        refine s_iald o dX6_isFelled_38 (q := 39) rfl (fun v9_ => ?_)
        refine s_on (fun hk10_ => ?_)
        refine s_bi (fun r0 hr0 => runV o hk10_ cv_X6_280 (c_X6_isOne (xG X) f x0 v9_ h6_ (xl X) r0 hr0) ⟨Nat.le_of_ble_eq_true rfl, Nat.le_of_ble_eq_true rfl⟩ rfl rfl (Nat.le_of_ble_eq_true rfl) dX6_isFelled_39 ⟨Nat.le_of_ble_eq_true rfl, Nat.le_of_ble_eq_true rfl⟩) (q := 42) rfl (cs' := 0) rfl (sl' := 0) rfl (fun v12_ h11_ => ?_)
        refine s_if_eq o (tgt := 62) dX6_isFelled_42 (by decide) (q := 45) rfl ?_ ?_
        · exact s_sub [0, 1, 2] rfl (t_X6_isFelled_62 o f hk4 x0 x1 x2 h11_)
        · refine s_aload_n o 0 rfl dX6_isFelled_45 (q := 46) rfl ?_
          refine s_aload_n o 0 rfl dX6_isFelled_46 (q := 47) rfl ?_
          refine s_gr o kf_X6_22 dX6_isFelled_47 (q := 50) rfl (fun a13_ => ?_)
          refine s_iconst o dX6_isFelled_50 (v := (2 : Int32)) (by decide) (q := 51) rfl ?_
          refine s_iald o dX6_isFelled_51 (q := 52) rfl (fun v14_ => ?_)
          refine s_on (fun hk15_ => ?_)
          refine s_bi (fun r0 hr0 => runV o hk15_ cv_X6_280 (c_X6_isOne (xG X) f x0 v14_ h11_ (xl X) r0 hr0) ⟨Nat.le_of_ble_eq_true rfl, Nat.le_of_ble_eq_true rfl⟩ rfl rfl (Nat.le_of_ble_eq_true rfl) dX6_isFelled_52 ⟨Nat.le_of_ble_eq_true rfl, Nat.le_of_ble_eq_true rfl⟩) (q := 55) rfl (cs' := 0) rfl (sl' := 0) rfl (fun v17_ h16_ => ?_)
          refine s_if_eq o (tgt := 62) dX6_isFelled_55 (by decide) (q := 58) rfl ?_ ?_
          · exact s_sub [0, 1, 2] rfl (t_X6_isFelled_62 o f hk4 x0 x1 x2 h16_)
          · refine s_iconst o dX6_isFelled_58 (v := (1 : Int32)) (by decide) (q := 59) rfl ?_
            refine s_goto o (tgt := 63) dX6_isFelled_59 (by decide) ?_
            exact s_sub [0, 1, 2] rfl (t_X6_isFelled_63 o f hk4 x0 x1 x2 (1 : Int32) h16_)
theorem tl_X6_isFelled_4 {X : Cx} (o : Ok X RX6 cX6_isFelled 4 1 21 0 0 (some .boolean)) (f : Nat)  : ∀ (n : Nat) (x0 : Nat) (x1 : Int32) (x2 : Int32) (h : Hp), Sim X (z_Zi X 0 0) 0 0 4 [(0, rf (xG X) x0), (1, .int x1), (2, .int x2)] [] h (l_X6_isFelled_4 f n x0 x1 x2 h) := by
  intro n
  induction n with
  | zero => intro x0 x1 x2 h; exact s_none
  | succ n ih => intro x0 x1 x2 h; exact t_X6_isFelled_4 o f  ih x0 x1 x2 h
set_option maxRecDepth 20000 in
theorem t_X6_isFelled_0 {X : Cx} (o : Ok X RX6 cX6_isFelled 4 1 21 0 0 (some .boolean)) (f : Nat)  (x0 : Nat) (h : Hp) : Sim X (z_Zi X 0 0) 0 0 0 [(0, rf (xG X) x0)] [] h (f_X6_isFelled f x0 h) := by
  unfold f_X6_isFelled
  refine s_iconst o dX6_isFelled_0 (v := (0 : Int32)) (by decide) (q := 1) rfl ?_
  refine s_istore_n o [1, 0] (lv' := [(0, rf (xG X) x0), (1, .int (0 : Int32))]) rfl dX6_isFelled_1 (by decide) (q := 2) rfl ?_
  refine s_iconst o dX6_isFelled_2 (v := (0 : Int32)) (by decide) (q := 3) rfl ?_
  refine s_istore_n o [1, 2, 0] (lv' := [(0, rf (xG X) x0), (1, .int (0 : Int32)), (2, .int (0 : Int32))]) rfl dX6_isFelled_3 (by decide) (q := 4) rfl ?_
  exact s_sub [0, 1, 2] rfl (tl_X6_isFelled_4 o f f x0 (0 : Int32) (0 : Int32) h)
theorem c_X6_isFelled (G : Gx) (f : Nat) (x0 : Nat) (h : Hp) : z_M z_qi G yX6_isFelled cX6_isFelled 4 (some .boolean) 1 21 0 0 [rf G x0] h (f_X6_isFelled f x0 h) :=
  z_met (by decide +kernel) (Nat.le_of_ble_eq_true rfl) (fun X hG hn o hnm => by
    subst hG
    show Sim X (z_Zi X 0 0) 0 0 0 [(0, rf (xG X) x0)] [] h _
    exact s_sub [0] rfl (t_X6_isFelled_0 o f x0 h))
/-! SixMapsModel.isLeft(I)Z -/
def b_X6_isLeft_58 (f : Nat)  (y0 : Int32) (h : Hp) : Option (Int32 × Hp) :=
  q_bo y0 (some (y0, h))
def b_X6_isLeft_57 (f : Nat)   (h : Hp) : Option (Int32 × Hp) :=
  b_X6_isLeft_58 f (0 : Int32) h
def b_X6_isLeft_53 (f : Nat)   (h : Hp) : Option (Int32 × Hp) :=
  b_X6_isLeft_58 f (1 : Int32) h
def f_X6_isLeft (f : Nat)  (x0 : Nat) (x1 : Int32) (h : Hp) : Option (Int32 × Hp) :=
  (q_gr h x0 6 41).bind fun a1_ =>
  (q_ai h a1_ 10 x1).bind fun v2_ =>
  if ¬ v2_ = 0 then
  (b_X6_isLeft_53 f h)
  else
  ((q_gr h x0 6 42).bind fun a3_ =>
  (q_ai h a3_ 9 ((4 : Int32) * x1)).bind fun v4_ =>
  (q_gr h x0 6 42).bind fun a5_ =>
  (q_ai h a5_ 9 (((4 : Int32) * x1) + (1 : Int32))).bind fun v6_ =>
  if v6_ < v4_ then
  (b_X6_isLeft_57 f h)
  else
  ((q_gr h x0 6 42).bind fun a7_ =>
  (q_ai h a7_ 9 (((4 : Int32) * x1) + (2 : Int32))).bind fun v8_ =>
  (q_gr h x0 6 42).bind fun a9_ =>
  (q_ai h a9_ 9 (((4 : Int32) * x1) + (3 : Int32))).bind fun v10_ =>
  if v10_ < v8_ then
  (b_X6_isLeft_57 f h)
  else
  (b_X6_isLeft_53 f h)))
set_option maxRecDepth 20000 in
theorem t_X6_isLeft_58 {X : Cx} (o : Ok X RX6 cX6_isLeft 2 0 0 0 0 (some .boolean)) (f : Nat)  (y0 : Int32) (h : Hp) : Sim X (z_Zi X 0 0) 0 0 58 [] [.int y0] h (b_X6_isLeft_58 f y0 h) := by
  unfold b_X6_isLeft_58
  exact s_zret o dX6_isLeft_58
set_option maxRecDepth 20000 in
theorem t_X6_isLeft_57 {X : Cx} (o : Ok X RX6 cX6_isLeft 2 0 0 0 0 (some .boolean)) (f : Nat)   (h : Hp) : Sim X (z_Zi X 0 0) 0 0 57 [] [] h (b_X6_isLeft_57 f h) := by
  unfold b_X6_isLeft_57
  refine s_iconst o dX6_isLeft_57 (v := (0 : Int32)) (by decide) (q := 58) rfl ?_
  exact s_sub [] rfl (t_X6_isLeft_58 o f (0 : Int32) h)
set_option maxRecDepth 20000 in
theorem t_X6_isLeft_53 {X : Cx} (o : Ok X RX6 cX6_isLeft 2 0 0 0 0 (some .boolean)) (f : Nat)   (h : Hp) : Sim X (z_Zi X 0 0) 0 0 53 [] [] h (b_X6_isLeft_53 f h) := by
  unfold b_X6_isLeft_53
  refine s_iconst o dX6_isLeft_53 (v := (1 : Int32)) (by decide) (q := 54) rfl ?_
  refine s_goto o (tgt := 58) dX6_isLeft_54 (by decide) ?_
  exact s_sub [] rfl (t_X6_isLeft_58 o f (1 : Int32) h)
set_option maxRecDepth 20000 in
theorem t_X6_isLeft_0 {X : Cx} (o : Ok X RX6 cX6_isLeft 2 0 0 0 0 (some .boolean)) (f : Nat)  (x0 : Nat) (x1 : Int32) (h : Hp) : Sim X (z_Zi X 0 0) 0 0 0 [(0, rf (xG X) x0), (1, .int x1)] [] h (f_X6_isLeft f x0 x1 h) := by
  unfold f_X6_isLeft
  refine s_aload_n o 0 rfl dX6_isLeft_0 (q := 1) rfl ?_
  refine s_gr o kf_X6_72 dX6_isLeft_1 (q := 4) rfl (fun a1_ => ?_)
  refine s_iload_n o 1 rfl dX6_isLeft_4 (q := 5) rfl ?_
  refine s_zald o dX6_isLeft_5 (q := 6) rfl (fun v2_ => ?_)
  refine s_if_ne o (tgt := 53) dX6_isLeft_6 (by decide) (q := 9) rfl ?_ ?_
  · exact s_sub [] rfl (t_X6_isLeft_53 o f h)
  · refine s_aload_n o 0 rfl dX6_isLeft_9 (q := 10) rfl ?_
    refine s_gr o kf_X6_75 dX6_isLeft_10 (q := 13) rfl (fun a3_ => ?_)
    refine s_iconst o dX6_isLeft_13 (v := (4 : Int32)) (by decide) (q := 14) rfl ?_
    refine s_iload_n o 1 rfl dX6_isLeft_14 (q := 15) rfl ?_
    refine s_imul o dX6_isLeft_15 (q := 16) rfl ?_
    refine s_iald o dX6_isLeft_16 (q := 17) rfl (fun v4_ => ?_)
    refine s_aload_n o 0 rfl dX6_isLeft_17 (q := 18) rfl ?_
    refine s_gr o kf_X6_75 dX6_isLeft_18 (q := 21) rfl (fun a5_ => ?_)
    refine s_iconst o dX6_isLeft_21 (v := (4 : Int32)) (by decide) (q := 22) rfl ?_
    refine s_iload_n o 1 rfl dX6_isLeft_22 (q := 23) rfl ?_
    refine s_imul o dX6_isLeft_23 (q := 24) rfl ?_
    refine s_iconst o dX6_isLeft_24 (v := (1 : Int32)) (by decide) (q := 25) rfl ?_
    refine s_iadd o dX6_isLeft_25 (q := 26) rfl ?_
    refine s_iald o dX6_isLeft_26 (q := 27) rfl (fun v6_ => ?_)
    refine s_ic_gt o (tgt := 57) dX6_isLeft_27 (by decide) (q := 30) rfl ?_ ?_
    · exact s_sub [] rfl (t_X6_isLeft_57 o f h)
    · refine s_aload_n o 0 rfl dX6_isLeft_30 (q := 31) rfl ?_
      refine s_gr o kf_X6_75 dX6_isLeft_31 (q := 34) rfl (fun a7_ => ?_)
      refine s_iconst o dX6_isLeft_34 (v := (4 : Int32)) (by decide) (q := 35) rfl ?_
      refine s_iload_n o 1 rfl dX6_isLeft_35 (q := 36) rfl ?_
      refine s_imul o dX6_isLeft_36 (q := 37) rfl ?_
      refine s_iconst o dX6_isLeft_37 (v := (2 : Int32)) (by decide) (q := 38) rfl ?_
      refine s_iadd o dX6_isLeft_38 (q := 39) rfl ?_
      refine s_iald o dX6_isLeft_39 (q := 40) rfl (fun v8_ => ?_)
      refine s_aload_n o 0 rfl dX6_isLeft_40 (q := 41) rfl ?_
      refine s_gr o kf_X6_75 dX6_isLeft_41 (q := 44) rfl (fun a9_ => ?_)
      refine s_iconst o dX6_isLeft_44 (v := (4 : Int32)) (by decide) (q := 45) rfl ?_
      refine s_iload_n o 1 rfl dX6_isLeft_45 (q := 46) rfl ?_
      refine s_imul o dX6_isLeft_46 (q := 47) rfl ?_
      refine s_iconst o dX6_isLeft_47 (v := (3 : Int32)) (by decide) (q := 48) rfl ?_
      refine s_iadd o dX6_isLeft_48 (q := 49) rfl ?_
      refine s_iald o dX6_isLeft_49 (q := 50) rfl (fun v10_ => ?_)
      refine s_ic_gt o (tgt := 57) dX6_isLeft_50 (by decide) (q := 53) rfl ?_ ?_
      · exact s_sub [] rfl (t_X6_isLeft_57 o f h)
      · exact s_sub [] rfl (t_X6_isLeft_53 o f h)
theorem c_X6_isLeft (G : Gx) (f : Nat) (x0 : Nat) (x1 : Int32) (h : Hp) : z_M z_qi G yX6_isLeft cX6_isLeft 2 (some .boolean) 0 0 0 0 [rf G x0, .int x1] h (f_X6_isLeft f x0 x1 h) :=
  z_met (by decide +kernel) (Nat.le_of_ble_eq_true rfl) (fun X hG hn o hnm => by
    subst hG
    show Sim X (z_Zi X 0 0) 0 0 0 [(0, rf (xG X) x0), (1, .int x1)] [] h _
    exact s_sub [0, 1] rfl (t_X6_isLeft_0 o f x0 x1 h))
/-! SixMapsModel.isApart(II)Z -/
def b_X6_isApart_139 (f : Nat)  (y0 : Int32) (h : Hp) : Option (Int32 × Hp) :=
  q_bo y0 (some (y0, h))
def b_X6_isApart_138 (f : Nat)   (h : Hp) : Option (Int32 × Hp) :=
  b_X6_isApart_139 f (0 : Int32) h
def b_X6_isApart_134 (f : Nat)   (h : Hp) : Option (Int32 × Hp) :=
  b_X6_isApart_139 f (1 : Int32) h
def b_X6_isApart_113 (f : Nat)  (x0 : Nat) (x2 : Int32) (x5 : Int32) (y0 : Int32) (h : Hp) : Option (Int32 × Hp) :=
  (q_gr h x0 6 41).bind fun a1_ =>
  (q_ai h a1_ 10 x2).bind fun v2_ =>
  if ¬ v2_ = 0 then
  (b_X6_isApart_138 f h)
  else
  (if ¬ x5 = 0 then
  (b_X6_isApart_134 f h)
  else
  (if y0 = 0 then
  (b_X6_isApart_138 f h)
  else
  (b_X6_isApart_134 f h)))
def b_X6_isApart_108 (f : Nat)  (x0 : Nat) (x2 : Int32) (x5 : Int32) (h : Hp) : Option (Int32 × Hp) :=
  b_X6_isApart_113 f x0 x2 x5 (1 : Int32) h
def b_X6_isApart_66 (f : Nat)  (x0 : Nat) (x2 : Int32) (x4 : Int32) (y0 : Int32) (h : Hp) : Option (Int32 × Hp) :=
  (q_gi h x0 6 7).bind fun v1_ =>
  (q_gr h x0 6 42).bind fun a2_ =>
  (q_ai h a2_ 9 (((4 : Int32) * x2) + (2 : Int32))).bind fun v3_ =>
  if (x4 + v1_) < v3_ then
  (b_X6_isApart_108 f x0 x2 y0 h)
  else
  ((q_gi h x0 6 7).bind fun v4_ =>
  (q_gr h x0 6 42).bind fun a5_ =>
  (q_ai h a5_ 9 (((4 : Int32) * x2) + (3 : Int32))).bind fun v6_ =>
  if (x4 - v4_) ≤ v6_ then
  (b_X6_isApart_113 f x0 x2 y0 (0 : Int32) h)
  else
  (b_X6_isApart_108 f x0 x2 y0 h))
def b_X6_isApart_61 (f : Nat)  (x0 : Nat) (x2 : Int32) (x4 : Int32) (h : Hp) : Option (Int32 × Hp) :=
  b_X6_isApart_66 f x0 x2 x4 (1 : Int32) h
def f_X6_isApart (f : Nat)  (x0 : Nat) (x1 : Int32) (x2 : Int32) (h : Hp) : Option (Int32 × Hp) :=
  (q_gr h x0 6 3).bind fun a1_ =>
  (q_ai h a1_ 9 (((9 : Int32) * x1) + x2)).bind fun v2_ =>
  (q_gr h x0 6 4).bind fun a3_ =>
  (q_ai h a3_ 9 (((9 : Int32) * x1) + x2)).bind fun v4_ =>
  (q_gi h x0 6 7).bind fun v5_ =>
  (q_gr h x0 6 42).bind fun a6_ =>
  (q_ai h a6_ 9 ((4 : Int32) * x2)).bind fun v7_ =>
  if (v2_ + v5_) < v7_ then
  (b_X6_isApart_61 f x0 x2 v4_ h)
  else
  ((q_gi h x0 6 7).bind fun v8_ =>
  (q_gr h x0 6 42).bind fun a9_ =>
  (q_ai h a9_ 9 (((4 : Int32) * x2) + (1 : Int32))).bind fun v10_ =>
  if (v2_ - v8_) ≤ v10_ then
  (b_X6_isApart_66 f x0 x2 v4_ (0 : Int32) h)
  else
  (b_X6_isApart_61 f x0 x2 v4_ h))
set_option maxRecDepth 20000 in
theorem t_X6_isApart_139 {X : Cx} (o : Ok X RX6 cX6_isApart 7 0 0 0 0 (some .boolean)) (f : Nat)  (y0 : Int32) (h : Hp) : Sim X (z_Zi X 0 0) 0 0 139 [] [.int y0] h (b_X6_isApart_139 f y0 h) := by
  unfold b_X6_isApart_139
  exact s_zret o dX6_isApart_139
set_option maxRecDepth 20000 in
theorem t_X6_isApart_138 {X : Cx} (o : Ok X RX6 cX6_isApart 7 0 0 0 0 (some .boolean)) (f : Nat)   (h : Hp) : Sim X (z_Zi X 0 0) 0 0 138 [] [] h (b_X6_isApart_138 f h) := by
  unfold b_X6_isApart_138
  refine s_iconst o dX6_isApart_138 (v := (0 : Int32)) (by decide) (q := 139) rfl ?_
  exact s_sub [] rfl (t_X6_isApart_139 o f (0 : Int32) h)
set_option maxRecDepth 20000 in
theorem t_X6_isApart_134 {X : Cx} (o : Ok X RX6 cX6_isApart 7 0 0 0 0 (some .boolean)) (f : Nat)   (h : Hp) : Sim X (z_Zi X 0 0) 0 0 134 [] [] h (b_X6_isApart_134 f h) := by
  unfold b_X6_isApart_134
  refine s_iconst o dX6_isApart_134 (v := (1 : Int32)) (by decide) (q := 135) rfl ?_
  refine s_goto o (tgt := 139) dX6_isApart_135 (by decide) ?_
  exact s_sub [] rfl (t_X6_isApart_139 o f (1 : Int32) h)
set_option maxRecDepth 20000 in
theorem t_X6_isApart_113 {X : Cx} (o : Ok X RX6 cX6_isApart 7 0 0 0 0 (some .boolean)) (f : Nat)  (x0 : Nat) (x2 : Int32) (x5 : Int32) (y0 : Int32) (h : Hp) : Sim X (z_Zi X 0 0) 0 0 113 [(0, rf (xG X) x0), (2, .int x2), (5, .int x5)] [.int y0] h (b_X6_isApart_113 f x0 x2 x5 y0 h) := by
  unfold b_X6_isApart_113
  refine s_istore o [1, 2, 3, 0] (lv' := [(0, rf (xG X) x0), (2, .int x2), (5, .int x5), (6, .int y0)]) rfl dX6_isApart_113 (by decide) (q := 115) rfl ?_
  refine s_aload_n o 0 rfl dX6_isApart_115 (q := 116) rfl ?_
  refine s_gr o kf_X6_72 dX6_isApart_116 (q := 119) rfl (fun a1_ => ?_)
  refine s_iload_n o 1 rfl dX6_isApart_119 (q := 120) rfl ?_
  refine s_zald o dX6_isApart_120 (q := 121) rfl (fun v2_ => ?_)
  refine s_if_ne o (tgt := 138) dX6_isApart_121 (by decide) (q := 124) rfl ?_ ?_
  · exact s_sub [] rfl (t_X6_isApart_138 o f h)
  · refine s_iload o 2 rfl dX6_isApart_124 (q := 126) rfl ?_
    refine s_if_ne o (tgt := 134) dX6_isApart_126 (by decide) (q := 129) rfl ?_ ?_
    · exact s_sub [] rfl (t_X6_isApart_134 o f h)
    · refine s_iload o 3 rfl dX6_isApart_129 (q := 131) rfl ?_
      refine s_if_eq o (tgt := 138) dX6_isApart_131 (by decide) (q := 134) rfl ?_ ?_
      · exact s_sub [] rfl (t_X6_isApart_138 o f h)
      · exact s_sub [] rfl (t_X6_isApart_134 o f h)
set_option maxRecDepth 20000 in
theorem t_X6_isApart_108 {X : Cx} (o : Ok X RX6 cX6_isApart 7 0 0 0 0 (some .boolean)) (f : Nat)  (x0 : Nat) (x2 : Int32) (x5 : Int32) (h : Hp) : Sim X (z_Zi X 0 0) 0 0 108 [(0, rf (xG X) x0), (2, .int x2), (5, .int x5)] [] h (b_X6_isApart_108 f x0 x2 x5 h) := by
  unfold b_X6_isApart_108
  refine s_iconst o dX6_isApart_108 (v := (1 : Int32)) (by decide) (q := 109) rfl ?_
  refine s_goto o (tgt := 113) dX6_isApart_109 (by decide) ?_
  exact s_sub [0, 1, 2] rfl (t_X6_isApart_113 o f x0 x2 x5 (1 : Int32) h)
set_option maxRecDepth 20000 in
theorem t_X6_isApart_66 {X : Cx} (o : Ok X RX6 cX6_isApart 7 0 0 0 0 (some .boolean)) (f : Nat)  (x0 : Nat) (x2 : Int32) (x4 : Int32) (y0 : Int32) (h : Hp) : Sim X (z_Zi X 0 0) 0 0 66 [(0, rf (xG X) x0), (2, .int x2), (4, .int x4)] [.int y0] h (b_X6_isApart_66 f x0 x2 x4 y0 h) := by
  unfold b_X6_isApart_66
  refine s_istore o [1, 2, 3, 0] (lv' := [(0, rf (xG X) x0), (2, .int x2), (4, .int x4), (5, .int y0)]) rfl dX6_isApart_66 (by decide) (q := 68) rfl ?_
  refine s_iload o 2 rfl dX6_isApart_68 (q := 70) rfl ?_
  refine s_aload_n o 0 rfl dX6_isApart_70 (q := 71) rfl ?_
  refine s_gi o kf_X6_256 dX6_isApart_71 (q := 74) rfl (fun v1_ => ?_)
  refine s_iadd o dX6_isApart_74 (q := 75) rfl ?_
  refine s_aload_n o 0 rfl dX6_isApart_75 (q := 76) rfl ?_
  refine s_gr o kf_X6_75 dX6_isApart_76 (q := 79) rfl (fun a2_ => ?_)
  refine s_iconst o dX6_isApart_79 (v := (4 : Int32)) (by decide) (q := 80) rfl ?_
  refine s_iload_n o 1 rfl dX6_isApart_80 (q := 81) rfl ?_
  refine s_imul o dX6_isApart_81 (q := 82) rfl ?_
  refine s_iconst o dX6_isApart_82 (v := (2 : Int32)) (by decide) (q := 83) rfl ?_
  refine s_iadd o dX6_isApart_83 (q := 84) rfl ?_
  refine s_iald o dX6_isApart_84 (q := 85) rfl (fun v3_ => ?_)
  refine s_ic_lt o (tgt := 108) dX6_isApart_85 (by decide) (q := 88) rfl ?_ ?_
  · exact s_sub [0, 1, 3] rfl (t_X6_isApart_108 o f x0 x2 y0 h)
  · refine s_iload o 2 rfl dX6_isApart_88 (q := 90) rfl ?_
    refine s_aload_n o 0 rfl dX6_isApart_90 (q := 91) rfl ?_
    refine s_gi o kf_X6_256 dX6_isApart_91 (q := 94) rfl (fun v4_ => ?_)
    refine s_isub o dX6_isApart_94 (q := 95) rfl ?_
    refine s_aload_n o 0 rfl dX6_isApart_95 (q := 96) rfl ?_
    refine s_gr o kf_X6_75 dX6_isApart_96 (q := 99) rfl (fun a5_ => ?_)
    refine s_iconst o dX6_isApart_99 (v := (4 : Int32)) (by decide) (q := 100) rfl ?_
    refine s_iload_n o 1 rfl dX6_isApart_100 (q := 101) rfl ?_
    refine s_imul o dX6_isApart_101 (q := 102) rfl ?_
    refine s_iconst o dX6_isApart_102 (v := (3 : Int32)) (by decide) (q := 103) rfl ?_
    refine s_iadd o dX6_isApart_103 (q := 104) rfl ?_
    refine s_iald o dX6_isApart_104 (q := 105) rfl (fun v6_ => ?_)
    refine s_ic_le o (tgt := 112) dX6_isApart_105 (by decide) (q := 108) rfl ?_ ?_
    · refine s_iconst o dX6_isApart_112 (v := (0 : Int32)) (by decide) (q := 113) rfl ?_
      exact s_sub [0, 1, 3] rfl (t_X6_isApart_113 o f x0 x2 y0 (0 : Int32) h)
    · exact s_sub [0, 1, 3] rfl (t_X6_isApart_108 o f x0 x2 y0 h)
set_option maxRecDepth 20000 in
theorem t_X6_isApart_61 {X : Cx} (o : Ok X RX6 cX6_isApart 7 0 0 0 0 (some .boolean)) (f : Nat)  (x0 : Nat) (x2 : Int32) (x4 : Int32) (h : Hp) : Sim X (z_Zi X 0 0) 0 0 61 [(0, rf (xG X) x0), (2, .int x2), (4, .int x4)] [] h (b_X6_isApart_61 f x0 x2 x4 h) := by
  unfold b_X6_isApart_61
  refine s_iconst o dX6_isApart_61 (v := (1 : Int32)) (by decide) (q := 62) rfl ?_
  refine s_goto o (tgt := 66) dX6_isApart_62 (by decide) ?_
  exact s_sub [0, 1, 2] rfl (t_X6_isApart_66 o f x0 x2 x4 (1 : Int32) h)
set_option maxRecDepth 20000 in
theorem t_X6_isApart_0 {X : Cx} (o : Ok X RX6 cX6_isApart 7 0 0 0 0 (some .boolean)) (f : Nat)  (x0 : Nat) (x1 : Int32) (x2 : Int32) (h : Hp) : Sim X (z_Zi X 0 0) 0 0 0 [(0, rf (xG X) x0), (1, .int x1), (2, .int x2)] [] h (f_X6_isApart f x0 x1 x2 h) := by
  unfold f_X6_isApart
  refine s_aload_n o 0 rfl dX6_isApart_0 (q := 1) rfl ?_
  refine s_gr o kf_X6_16 dX6_isApart_1 (q := 4) rfl (fun a1_ => ?_)
  refine s_bipush o dX6_isApart_4 (v := (9 : Int32)) (by decide) (q := 6) rfl ?_
  refine s_iload_n o 1 rfl dX6_isApart_6 (q := 7) rfl ?_
  refine s_imul o dX6_isApart_7 (q := 8) rfl ?_
  refine s_iload_n o 2 rfl dX6_isApart_8 (q := 9) rfl ?_
  refine s_iadd o dX6_isApart_9 (q := 10) rfl ?_
  refine s_iald o dX6_isApart_10 (q := 11) rfl (fun v2_ => ?_)
  refine s_istore_n o [1, 2, 3, 0] (lv' := [(0, rf (xG X) x0), (1, .int x1), (2, .int x2), (3, .int v2_)]) rfl dX6_isApart_11 (by decide) (q := 12) rfl ?_
  refine s_aload_n o 0 rfl dX6_isApart_12 (q := 13) rfl ?_
  refine s_gr o kf_X6_19 dX6_isApart_13 (q := 16) rfl (fun a3_ => ?_)
  refine s_bipush o dX6_isApart_16 (v := (9 : Int32)) (by decide) (q := 18) rfl ?_
  refine s_iload_n o 1 rfl dX6_isApart_18 (q := 19) rfl ?_
  refine s_imul o dX6_isApart_19 (q := 20) rfl ?_
  refine s_iload_n o 2 rfl dX6_isApart_20 (q := 21) rfl ?_
  refine s_iadd o dX6_isApart_21 (q := 22) rfl ?_
  refine s_iald o dX6_isApart_22 (q := 23) rfl (fun v4_ => ?_)
  refine s_istore o [1, 2, 3, 4, 0] (lv' := [(0, rf (xG X) x0), (1, .int x1), (2, .int x2), (3, .int v2_), (4, .int v4_)]) rfl dX6_isApart_23 (by decide) (q := 25) rfl ?_
  refine s_iload_n o 3 rfl dX6_isApart_25 (q := 26) rfl ?_
  refine s_aload_n o 0 rfl dX6_isApart_26 (q := 27) rfl ?_
  refine s_gi o kf_X6_256 dX6_isApart_27 (q := 30) rfl (fun v5_ => ?_)
  refine s_iadd o dX6_isApart_30 (q := 31) rfl ?_
  refine s_aload_n o 0 rfl dX6_isApart_31 (q := 32) rfl ?_
  refine s_gr o kf_X6_75 dX6_isApart_32 (q := 35) rfl (fun a6_ => ?_)
  refine s_iconst o dX6_isApart_35 (v := (4 : Int32)) (by decide) (q := 36) rfl ?_
  refine s_iload_n o 2 rfl dX6_isApart_36 (q := 37) rfl ?_
  refine s_imul o dX6_isApart_37 (q := 38) rfl ?_
  refine s_iald o dX6_isApart_38 (q := 39) rfl (fun v7_ => ?_)
  refine s_ic_lt o (tgt := 61) dX6_isApart_39 (by decide) (q := 42) rfl ?_ ?_
  · exact s_sub [0, 2, 4] rfl (t_X6_isApart_61 o f x0 x2 v4_ h)
  · refine s_iload_n o 3 rfl dX6_isApart_42 (q := 43) rfl ?_
    refine s_aload_n o 0 rfl dX6_isApart_43 (q := 44) rfl ?_
    refine s_gi o kf_X6_256 dX6_isApart_44 (q := 47) rfl (fun v8_ => ?_)
    refine s_isub o dX6_isApart_47 (q := 48) rfl ?_
    refine s_aload_n o 0 rfl dX6_isApart_48 (q := 49) rfl ?_
    refine s_gr o kf_X6_75 dX6_isApart_49 (q := 52) rfl (fun a9_ => ?_)
    refine s_iconst o dX6_isApart_52 (v := (4 : Int32)) (by decide) (q := 53) rfl ?_
    refine s_iload_n o 2 rfl dX6_isApart_53 (q := 54) rfl ?_
    refine s_imul o dX6_isApart_54 (q := 55) rfl ?_
    refine s_iconst o dX6_isApart_55 (v := (1 : Int32)) (by decide) (q := 56) rfl ?_
    refine s_iadd o dX6_isApart_56 (q := 57) rfl ?_
    refine s_iald o dX6_isApart_57 (q := 58) rfl (fun v10_ => ?_)
    refine s_ic_le o (tgt := 65) dX6_isApart_58 (by decide) (q := 61) rfl ?_ ?_
    · refine s_iconst o dX6_isApart_65 (v := (0 : Int32)) (by decide) (q := 66) rfl ?_
      exact s_sub [0, 2, 4] rfl (t_X6_isApart_66 o f x0 x2 v4_ (0 : Int32) h)
    · exact s_sub [0, 2, 4] rfl (t_X6_isApart_61 o f x0 x2 v4_ h)
theorem c_X6_isApart (G : Gx) (f : Nat) (x0 : Nat) (x1 : Int32) (x2 : Int32) (h : Hp) : z_M z_qi G yX6_isApart cX6_isApart 7 (some .boolean) 0 0 0 0 [rf G x0, .int x1, .int x2] h (f_X6_isApart f x0 x1 x2 h) :=
  z_met (by decide +kernel) (Nat.le_of_ble_eq_true rfl) (fun X hG hn o hnm => by
    subst hG
    show Sim X (z_Zi X 0 0) 0 0 0 [(0, rf (xG X) x0), (1, .int x1), (2, .int x2)] [] h _
    exact s_sub [0, 1, 2] rfl (t_X6_isApart_0 o f x0 x1 x2 h))
/-! SixMapsModel.offTimes(II)I -/
def b_X6_offTimes_49 (f : Nat) (k5 : Nat → Int32 → Int32 → Int32 → Int32 → Hp → Option (Int32 × Hp)) (x0 : Nat) (x1 : Int32) (x2 : Int32) (x4 : Int32) (y0 : Int32) (y1 : Int32) (h : Hp) : Option (Int32 × Hp) :=
  lt (y0 + y1) fun v1_ =>
  lt (x4 + (1 : Int32)) fun v2_ =>
  k5 x0 x1 x2 v1_ v2_ h
def b_X6_offTimes_48 (f : Nat) (k5 : Nat → Int32 → Int32 → Int32 → Int32 → Hp → Option (Int32 × Hp)) (x0 : Nat) (x1 : Int32) (x2 : Int32) (x4 : Int32) (y0 : Int32) (h : Hp) : Option (Int32 × Hp) :=
  b_X6_offTimes_49 f k5 x0 x1 x2 x4 y0 (0 : Int32) h
def b_X6_offTimes_5 (f : Nat) (k5 : Nat → Int32 → Int32 → Int32 → Int32 → Hp → Option (Int32 × Hp)) (x0 : Nat) (x1 : Int32) (x2 : Int32) (x3 : Int32) (x4 : Int32) (h : Hp) : Option (Int32 × Hp) :=
  (q_gi h x0 6 0).bind fun v1_ =>
  if v1_ ≤ x4 then
  (some (x3, h))
  else
  ((q_gr h x0 6 11).bind fun a2_ =>
  (q_ai h a2_ 9 (((6 : Int32) * x1) + x2)).bind fun v3_ =>
  bi (f_X6_has f v3_ x4 h) fun v5_ h4_ =>
  if v5_ = 0 then
  (b_X6_offTimes_48 f k5 x0 x1 x2 x4 x3 h4_)
  else
  (q_on h4_ x0 6 (
  bi (f_X6_isApart f x0 x2 x4 h4_) fun v8_ h7_ =>
  if v8_ = 0 then
  (b_X6_offTimes_48 f k5 x0 x1 x2 x4 x3 h7_)
  else
  (b_X6_offTimes_49 f k5 x0 x1 x2 x4 x3 (1 : Int32) h7_))))
def l_X6_offTimes_5 (f : Nat)  : Nat → Nat → Int32 → Int32 → Int32 → Int32 → Hp → Option (Int32 × Hp)
  | 0, _, _, _, _, _, _ => none
  | n + 1, x0, x1, x2, x3, x4, h => b_X6_offTimes_5 f  (l_X6_offTimes_5 f  n) x0 x1 x2 x3 x4 h
def f_X6_offTimes (f : Nat)  (x0 : Nat) (x1 : Int32) (x2 : Int32) (h : Hp) : Option (Int32 × Hp) :=
  l_X6_offTimes_5 f f x0 x1 x2 (0 : Int32) (0 : Int32) h
set_option maxRecDepth 20000 in
theorem t_X6_offTimes_49 {X : Cx} (o : Ok X RX6 cX6_offTimes 5 1 26 0 0 (some .int)) (f : Nat) {k5 : Nat → Int32 → Int32 → Int32 → Int32 → Hp → Option (Int32 × Hp)} (hk5 : ∀ (x0 : Nat) (x1 : Int32) (x2 : Int32) (x3 : Int32) (x4 : Int32) (h : Hp), Sim X (z_Zi X 0 0) 0 0 5 [(0, rf (xG X) x0), (1, .int x1), (2, .int x2), (3, .int x3), (4, .int x4)] [] h (k5 x0 x1 x2 x3 x4 h)) (x0 : Nat) (x1 : Int32) (x2 : Int32) (x4 : Int32) (y0 : Int32) (y1 : Int32) (h : Hp) : Sim X (z_Zi X 0 0) 0 0 49 [(0, rf (xG X) x0), (1, .int x1), (2, .int x2), (4, .int x4)] [.int y1, .int y0] h (b_X6_offTimes_49 f k5 x0 x1 x2 x4 y0 y1 h) := by
  unfold b_X6_offTimes_49
  refine s_iadd o dX6_offTimes_49 (q := 50) rfl ?_
  refine s_let (fun v1_ => ?_)
  refine s_istore_n o [1, 2, 3, 0, 4] (lv' := [(0, rf (xG X) x0), (1, .int x1), (2, .int x2), (3, .int v1_), (4, .int x4)]) rfl dX6_offTimes_50 (by decide) (q := 51) rfl ?_
  refine s_iinc o 4 rfl (v := (1 : Int32)) (by decide) [1, 2, 3, 4, 0] (lv' := fun v2_ => [(0, rf (xG X) x0), (1, .int x1), (2, .int x2), (3, .int v1_), (4, .int v2_)]) (fun _ => rfl) dX6_offTimes_51 (by decide) (q := 54) rfl (fun v2_ => ?_)
  refine s_goto o (tgt := 5) dX6_offTimes_54 (by decide) ?_
  exact s_sub [0, 1, 2, 3, 4] rfl (hk5 x0 x1 x2 v1_ v2_ h)
set_option maxRecDepth 20000 in
theorem t_X6_offTimes_48 {X : Cx} (o : Ok X RX6 cX6_offTimes 5 1 26 0 0 (some .int)) (f : Nat) {k5 : Nat → Int32 → Int32 → Int32 → Int32 → Hp → Option (Int32 × Hp)} (hk5 : ∀ (x0 : Nat) (x1 : Int32) (x2 : Int32) (x3 : Int32) (x4 : Int32) (h : Hp), Sim X (z_Zi X 0 0) 0 0 5 [(0, rf (xG X) x0), (1, .int x1), (2, .int x2), (3, .int x3), (4, .int x4)] [] h (k5 x0 x1 x2 x3 x4 h)) (x0 : Nat) (x1 : Int32) (x2 : Int32) (x4 : Int32) (y0 : Int32) (h : Hp) : Sim X (z_Zi X 0 0) 0 0 48 [(0, rf (xG X) x0), (1, .int x1), (2, .int x2), (4, .int x4)] [.int y0] h (b_X6_offTimes_48 f k5 x0 x1 x2 x4 y0 h) := by
  unfold b_X6_offTimes_48
  refine s_iconst o dX6_offTimes_48 (v := (0 : Int32)) (by decide) (q := 49) rfl ?_
  exact s_sub [0, 1, 2, 3] rfl (t_X6_offTimes_49 o f hk5 x0 x1 x2 x4 y0 (0 : Int32) h)
set_option maxRecDepth 20000 in
theorem t_X6_offTimes_5 {X : Cx} (o : Ok X RX6 cX6_offTimes 5 1 26 0 0 (some .int)) (f : Nat) {k5 : Nat → Int32 → Int32 → Int32 → Int32 → Hp → Option (Int32 × Hp)} (hk5 : ∀ (x0 : Nat) (x1 : Int32) (x2 : Int32) (x3 : Int32) (x4 : Int32) (h : Hp), Sim X (z_Zi X 0 0) 0 0 5 [(0, rf (xG X) x0), (1, .int x1), (2, .int x2), (3, .int x3), (4, .int x4)] [] h (k5 x0 x1 x2 x3 x4 h)) (x0 : Nat) (x1 : Int32) (x2 : Int32) (x3 : Int32) (x4 : Int32) (h : Hp) : Sim X (z_Zi X 0 0) 0 0 5 [(0, rf (xG X) x0), (1, .int x1), (2, .int x2), (3, .int x3), (4, .int x4)] [] h (b_X6_offTimes_5 f k5 x0 x1 x2 x3 x4 h) := by
  unfold b_X6_offTimes_5
  refine s_iload o 4 rfl dX6_offTimes_5 (q := 7) rfl ?_
  refine s_aload_n o 0 rfl dX6_offTimes_7 (q := 8) rfl ?_
  refine s_gi o kf_X6_111 dX6_offTimes_8 (q := 11) rfl (fun v1_ => ?_)
  refine s_ic_ge o (tgt := 57) dX6_offTimes_11 (by decide) (q := 14) rfl ?_ ?_
  · refine s_iload_n o 3 rfl dX6_offTimes_57 (q := 58) rfl ?_
    exact s_iret o dX6_offTimes_58
  · refine s_iload_n o 3 rfl dX6_offTimes_14 (q := 15) rfl ?_
    refine s_aload_n o 0 rfl dX6_offTimes_15 (q := 16) rfl ?_
    refine s_gr o kf_X6_32 dX6_offTimes_16 (q := 19) rfl (fun a2_ => ?_)
    refine s_bipush o dX6_offTimes_19 (v := (6 : Int32)) (by decide) (q := 21) rfl ?_
    refine s_iload_n o 1 rfl dX6_offTimes_21 (q := 22) rfl ?_
    refine s_imul o dX6_offTimes_22 (q := 23) rfl ?_
    refine s_iload_n o 2 rfl dX6_offTimes_23 (q := 24) rfl ?_
    refine s_iadd o dX6_offTimes_24 (q := 25) rfl ?_
    refine s_iald o dX6_offTimes_25 (q := 26) rfl (fun v3_ => ?_)
    refine s_iload o 4 rfl dX6_offTimes_26 (q := 28) rfl ?_
    refine s_bi (fun r0 hr0 => runS o cs_X6_182 (c_X6_has (xG X) f v3_ x4 h (xl X) r0 hr0) ⟨Nat.le_of_ble_eq_true rfl, Nat.le_of_ble_eq_true rfl⟩ rfl rfl (Nat.le_of_ble_eq_true rfl) dX6_offTimes_28 ⟨Nat.le_of_ble_eq_true rfl, Nat.le_of_ble_eq_true rfl⟩) (q := 31) rfl (cs' := 0) rfl (sl' := 0) rfl (fun v5_ h4_ => ?_)
    refine s_if_eq o (tgt := 48) dX6_offTimes_31 (by decide) (q := 34) rfl ?_ ?_
    · exact s_sub [0, 1, 2, 4] rfl (t_X6_offTimes_48 o f hk5 x0 x1 x2 x4 x3 h4_)
    · refine s_aload_n o 0 rfl dX6_offTimes_34 (q := 35) rfl ?_
      refine s_iload_n o 2 rfl dX6_offTimes_35 (q := 36) rfl ?_
      refine s_iload o 4 rfl dX6_offTimes_36 (q := 38) rfl ?_
      refine s_on (fun hk6_ => ?_)
      refine s_bi (fun r0 hr0 => runV o hk6_ cv_X6_274 (c_X6_isApart (xG X) f x0 x2 x4 h4_ (xl X) r0 hr0) ⟨Nat.le_of_ble_eq_true rfl, Nat.le_of_ble_eq_true rfl⟩ rfl rfl (Nat.le_of_ble_eq_true rfl) dX6_offTimes_38 ⟨Nat.le_of_ble_eq_true rfl, Nat.le_of_ble_eq_true rfl⟩) (q := 41) rfl (cs' := 0) rfl (sl' := 0) rfl (fun v8_ h7_ => ?_)
      refine s_if_eq o (tgt := 48) dX6_offTimes_41 (by decide) (q := 44) rfl ?_ ?_
      · exact s_sub [0, 1, 2, 4] rfl (t_X6_offTimes_48 o f hk5 x0 x1 x2 x4 x3 h7_)
      · refine s_iconst o dX6_offTimes_44 (v := (1 : Int32)) (by decide) (q := 45) rfl ?_
        refine s_goto o (tgt := 49) dX6_offTimes_45 (by decide) ?_
        exact s_sub [0, 1, 2, 4] rfl (t_X6_offTimes_49 o f hk5 x0 x1 x2 x4 x3 (1 : Int32) h7_)
theorem tl_X6_offTimes_5 {X : Cx} (o : Ok X RX6 cX6_offTimes 5 1 26 0 0 (some .int)) (f : Nat)  : ∀ (n : Nat) (x0 : Nat) (x1 : Int32) (x2 : Int32) (x3 : Int32) (x4 : Int32) (h : Hp), Sim X (z_Zi X 0 0) 0 0 5 [(0, rf (xG X) x0), (1, .int x1), (2, .int x2), (3, .int x3), (4, .int x4)] [] h (l_X6_offTimes_5 f n x0 x1 x2 x3 x4 h) := by
  intro n
  induction n with
  | zero => intro x0 x1 x2 x3 x4 h; exact s_none
  | succ n ih => intro x0 x1 x2 x3 x4 h; exact t_X6_offTimes_5 o f  ih x0 x1 x2 x3 x4 h
set_option maxRecDepth 20000 in
theorem t_X6_offTimes_0 {X : Cx} (o : Ok X RX6 cX6_offTimes 5 1 26 0 0 (some .int)) (f : Nat)  (x0 : Nat) (x1 : Int32) (x2 : Int32) (h : Hp) : Sim X (z_Zi X 0 0) 0 0 0 [(0, rf (xG X) x0), (1, .int x1), (2, .int x2)] [] h (f_X6_offTimes f x0 x1 x2 h) := by
  unfold f_X6_offTimes
  refine s_iconst o dX6_offTimes_0 (v := (0 : Int32)) (by decide) (q := 1) rfl ?_
  refine s_istore_n o [1, 2, 3, 0] (lv' := [(0, rf (xG X) x0), (1, .int x1), (2, .int x2), (3, .int (0 : Int32))]) rfl dX6_offTimes_1 (by decide) (q := 2) rfl ?_
  refine s_iconst o dX6_offTimes_2 (v := (0 : Int32)) (by decide) (q := 3) rfl ?_
  refine s_istore o [1, 2, 3, 4, 0] (lv' := [(0, rf (xG X) x0), (1, .int x1), (2, .int x2), (3, .int (0 : Int32)), (4, .int (0 : Int32))]) rfl dX6_offTimes_3 (by decide) (q := 5) rfl ?_
  exact s_sub [0, 1, 2, 3, 4] rfl (tl_X6_offTimes_5 o f f x0 x1 x2 (0 : Int32) (0 : Int32) h)
theorem c_X6_offTimes (G : Gx) (f : Nat) (x0 : Nat) (x1 : Int32) (x2 : Int32) (h : Hp) : z_M z_qi G yX6_offTimes cX6_offTimes 5 (some .int) 1 26 0 0 [rf G x0, .int x1, .int x2] h (f_X6_offTimes f x0 x1 x2 h) :=
  z_met (by decide +kernel) (Nat.le_of_ble_eq_true rfl) (fun X hG hn o hnm => by
    subst hG
    show Sim X (z_Zi X 0 0) 0 0 0 [(0, rf (xG X) x0), (1, .int x1), (2, .int x2)] [] h _
    exact s_sub [0, 1, 2] rfl (t_X6_offTimes_0 o f x0 x1 x2 h))
/-! SixMapsModel.size(I)I -/
def b_X6_size_10 (f : Nat)  (y0 : Int32) (h : Hp) : Option (Int32 × Hp) :=
  some (y0, h)
def f_X6_size (f : Nat)  (x0 : Int32) (h : Hp) : Option (Int32 × Hp) :=
  if 0 ≤ x0 then
  (b_X6_size_10 f x0 h)
  else
  (b_X6_size_10 f (-x0) h)
set_option maxRecDepth 20000 in
theorem t_X6_size_10 {X : Cx} (o : Ok X RX6 cX6_size 1 0 0 0 0 (some .int)) (f : Nat)  (y0 : Int32) (h : Hp) : Sim X (z_Zi X 0 0) 0 0 10 [] [.int y0] h (b_X6_size_10 f y0 h) := by
  unfold b_X6_size_10
  exact s_iret o dX6_size_10
set_option maxRecDepth 20000 in
theorem t_X6_size_0 {X : Cx} (o : Ok X RX6 cX6_size 1 0 0 0 0 (some .int)) (f : Nat)  (x0 : Int32) (h : Hp) : Sim X (z_Zi X 0 0) 0 0 0 [(0, .int x0)] [] h (f_X6_size f x0 h) := by
  unfold f_X6_size
  refine s_iload_n o 0 rfl dX6_size_0 (q := 1) rfl ?_
  refine s_if_ge o (tgt := 9) dX6_size_1 (by decide) (q := 4) rfl ?_ ?_
  · refine s_iload_n o 0 rfl dX6_size_9 (q := 10) rfl ?_
    exact s_sub [] rfl (t_X6_size_10 o f x0 h)
  · refine s_iload_n o 0 rfl dX6_size_4 (q := 5) rfl ?_
    refine s_ineg o dX6_size_5 (q := 6) rfl ?_
    refine s_goto o (tgt := 10) dX6_size_6 (by decide) ?_
    exact s_sub [] rfl (t_X6_size_10 o f (-x0) h)
theorem c_X6_size (G : Gx) (f : Nat) (x0 : Int32) (h : Hp) : z_M z_qi G yX6_size cX6_size 1 (some .int) 0 0 0 0 [.int x0] h (f_X6_size f x0 h) :=
  z_met (by decide +kernel) (Nat.le_of_ble_eq_true rfl) (fun X hG hn o hnm => by
    subst hG
    show Sim X (z_Zi X 0 0) 0 0 0 [(0, .int x0)] [] h _
    exact s_sub [0] rfl (t_X6_size_0 o f x0 h))
/-! SixMapsModel.quarrels(II)I -/
def b_X6_quarrels_249 (f : Nat)  (x5 : Int32) (h : Hp) : Option (Int32 × Hp) :=
  some (x5, h)
def b_X6_quarrels_240 (f : Nat) (k65 : Nat → Int32 → Int32 → Int32 → Int32 → Int32 → Hp → Option (Int32 × Hp)) (x0 : Nat) (x1 : Int32) (x3 : Int32) (x4 : Int32) (x6 : Int32) (y0 : Int32) (y1 : Int32) (h : Hp) : Option (Int32 × Hp) :=
  lt (y0 + y1) fun v1_ =>
  lt (x6 + (1 : Int32)) fun v2_ =>
  k65 x0 x1 x3 x4 v1_ v2_ h
def b_X6_quarrels_239 (f : Nat) (k65 : Nat → Int32 → Int32 → Int32 → Int32 → Int32 → Hp → Option (Int32 × Hp)) (x0 : Nat) (x1 : Int32) (x3 : Int32) (x4 : Int32) (x6 : Int32) (y0 : Int32) (h : Hp) : Option (Int32 × Hp) :=
  b_X6_quarrels_240 f k65 x0 x1 x3 x4 x6 y0 (0 : Int32) h
def b_X6_quarrels_221 (f : Nat) (k65 : Nat → Int32 → Int32 → Int32 → Int32 → Int32 → Hp → Option (Int32 × Hp)) (x0 : Nat) (x1 : Int32) (x3 : Int32) (x4 : Int32) (x5 : Int32) (x6 : Int32) (x7 : Int32) (y0 : Int32) (h : Hp) : Option (Int32 × Hp) :=
  if x7 = 0 then
  (b_X6_quarrels_239 f k65 x0 x1 x3 x4 x6 x5 h)
  else
  (if y0 = 0 then
  (b_X6_quarrels_239 f k65 x0 x1 x3 x4 x6 x5 h)
  else
  (b_X6_quarrels_240 f k65 x0 x1 x3 x4 x6 x5 (1 : Int32) h))
def b_X6_quarrels_216 (f : Nat) (k65 : Nat → Int32 → Int32 → Int32 → Int32 → Int32 → Hp → Option (Int32 × Hp)) (x0 : Nat) (x1 : Int32) (x3 : Int32) (x4 : Int32) (x5 : Int32) (x6 : Int32) (x7 : Int32) (h : Hp) : Option (Int32 × Hp) :=
  b_X6_quarrels_221 f k65 x0 x1 x3 x4 x5 x6 x7 (1 : Int32) h
def b_X6_quarrels_138 (f : Nat) (k65 : Nat → Int32 → Int32 → Int32 → Int32 → Int32 → Hp → Option (Int32 × Hp)) (x0 : Nat) (x1 : Int32) (x3 : Int32) (x4 : Int32) (x5 : Int32) (x6 : Int32) (y0 : Int32) (h : Hp) : Option (Int32 × Hp) :=
  (q_gr h x0 6 3).bind fun a1_ =>
  (q_ai h a1_ 9 (((9 : Int32) * x3) + x6)).bind fun v2_ =>
  (q_gr h x0 6 3).bind fun a3_ =>
  (q_ai h a3_ 9 (((9 : Int32) * x4) + x6)).bind fun v4_ =>
  bi (f_X6_size f (v2_ - v4_) h) fun v6_ h5_ =>
  (q_gi h5_ x0 6 7).bind fun v7_ =>
  if ((2 : Int32) * v7_) < v6_ then
  (b_X6_quarrels_216 f k65 x0 x1 x3 x4 x5 x6 y0 h5_)
  else
  ((q_gr h5_ x0 6 4).bind fun a8_ =>
  (q_ai h5_ a8_ 9 (((9 : Int32) * x3) + x6)).bind fun v9_ =>
  (q_gr h5_ x0 6 4).bind fun a10_ =>
  (q_ai h5_ a10_ 9 (((9 : Int32) * x4) + x6)).bind fun v11_ =>
  bi (f_X6_size f (v9_ - v11_) h5_) fun v13_ h12_ =>
  (q_gi h12_ x0 6 7).bind fun v14_ =>
  if v13_ ≤ ((2 : Int32) * v14_) then
  (b_X6_quarrels_221 f k65 x0 x1 x3 x4 x5 x6 y0 (0 : Int32) h12_)
  else
  (b_X6_quarrels_216 f k65 x0 x1 x3 x4 x5 x6 y0 h12_))
def b_X6_quarrels_137 (f : Nat) (k65 : Nat → Int32 → Int32 → Int32 → Int32 → Int32 → Hp → Option (Int32 × Hp)) (x0 : Nat) (x1 : Int32) (x3 : Int32) (x4 : Int32) (x5 : Int32) (x6 : Int32) (h : Hp) : Option (Int32 × Hp) :=
  b_X6_quarrels_138 f k65 x0 x1 x3 x4 x5 x6 (0 : Int32) h
def b_X6_quarrels_65 (f : Nat) (k65 : Nat → Int32 → Int32 → Int32 → Int32 → Int32 → Hp → Option (Int32 × Hp)) (x0 : Nat) (x1 : Int32) (x3 : Int32) (x4 : Int32) (x5 : Int32) (x6 : Int32) (h : Hp) : Option (Int32 × Hp) :=
  (q_gi h x0 6 0).bind fun v1_ =>
  if v1_ ≤ x6 then
  (b_X6_quarrels_249 f x5 h)
  else
  (if x3 < 0 then
  (b_X6_quarrels_249 f x5 h)
  else
  (if x4 = x3 then
  (b_X6_quarrels_249 f x5 h)
  else
  ((q_gr h x0 6 41).bind fun a2_ =>
  (q_ai h a2_ 10 x6).bind fun v3_ =>
  if v3_ = 0 then
  (b_X6_quarrels_137 f k65 x0 x1 x3 x4 x5 x6 h)
  else
  ((q_gr h x0 6 11).bind fun a4_ =>
  (q_ai h a4_ 9 (((6 : Int32) * x1) + x3)).bind fun v5_ =>
  bi (f_X6_has f v5_ x6 h) fun v7_ h6_ =>
  if v7_ = 0 then
  (b_X6_quarrels_137 f k65 x0 x1 x3 x4 x5 x6 h6_)
  else
  ((q_gr h6_ x0 6 11).bind fun a8_ =>
  (q_ai h6_ a8_ 9 (((6 : Int32) * x1) + x4)).bind fun v9_ =>
  bi (f_X6_has f v9_ x6 h6_) fun v11_ h10_ =>
  if v11_ = 0 then
  (b_X6_quarrels_137 f k65 x0 x1 x3 x4 x5 x6 h10_)
  else
  (b_X6_quarrels_138 f k65 x0 x1 x3 x4 x5 x6 (1 : Int32) h10_))))))
def l_X6_quarrels_65 (f : Nat)  : Nat → Nat → Int32 → Int32 → Int32 → Int32 → Int32 → Hp → Option (Int32 × Hp)
  | 0, _, _, _, _, _, _, _ => none
  | n + 1, x0, x1, x3, x4, x5, x6, h => b_X6_quarrels_65 f  (l_X6_quarrels_65 f  n) x0 x1 x3 x4 x5 x6 h
def b_X6_quarrels_52 (f : Nat) (k8 : Nat → Int32 → Int32 → Int32 → Int32 → Int32 → Hp → Option (Int32 × Hp)) (x0 : Nat) (x1 : Int32) (x2 : Int32) (x4 : Int32) (x5 : Int32) (y0 : Int32) (h : Hp) : Option (Int32 × Hp) :=
  lt (x5 + (1 : Int32)) fun v1_ =>
  k8 x0 x1 x2 y0 x4 v1_ h
def b_X6_quarrels_51 (f : Nat) (k8 : Nat → Int32 → Int32 → Int32 → Int32 → Int32 → Hp → Option (Int32 × Hp)) (x0 : Nat) (x1 : Int32) (x2 : Int32) (x3 : Int32) (x4 : Int32) (x5 : Int32) (h : Hp) : Option (Int32 × Hp) :=
  b_X6_quarrels_52 f k8 x0 x1 x2 x4 x5 x3 h
def b_X6_quarrels_31 (f : Nat) (k8 : Nat → Int32 → Int32 → Int32 → Int32 → Int32 → Hp → Option (Int32 × Hp)) (x0 : Nat) (x1 : Int32) (x2 : Int32) (x3 : Int32) (x5 : Int32) (y0 : Int32) (h : Hp) : Option (Int32 × Hp) :=
  bi (f_X6_has f x2 x5 h) fun v2_ h1_ =>
  if v2_ = 0 then
  (b_X6_quarrels_51 f k8 x0 x1 x2 x3 y0 x5 h1_)
  else
  (if 0 ≤ x3 then
  (b_X6_quarrels_51 f k8 x0 x1 x2 x3 y0 x5 h1_)
  else
  (b_X6_quarrels_52 f k8 x0 x1 x2 y0 x5 x5 h1_))
def b_X6_quarrels_8 (f : Nat) (k8 : Nat → Int32 → Int32 → Int32 → Int32 → Int32 → Hp → Option (Int32 × Hp)) (x0 : Nat) (x1 : Int32) (x2 : Int32) (x3 : Int32) (x4 : Int32) (x5 : Int32) (h : Hp) : Option (Int32 × Hp) :=
  if (6 : Int32) ≤ x5 then
  (l_X6_quarrels_65 f f x0 x1 x3 x4 (0 : Int32) (0 : Int32) h)
  else
  (bi (f_X6_has f x2 x5 h) fun v2_ h1_ =>
  if v2_ = 0 then
  (b_X6_quarrels_31 f k8 x0 x1 x2 x3 x5 x4 h1_)
  else
  (b_X6_quarrels_31 f k8 x0 x1 x2 x3 x5 x5 h1_))
def l_X6_quarrels_8 (f : Nat)  : Nat → Nat → Int32 → Int32 → Int32 → Int32 → Int32 → Hp → Option (Int32 × Hp)
  | 0, _, _, _, _, _, _, _ => none
  | n + 1, x0, x1, x2, x3, x4, x5, h => b_X6_quarrels_8 f  (l_X6_quarrels_8 f  n) x0 x1 x2 x3 x4 x5 h
def f_X6_quarrels (f : Nat)  (x0 : Nat) (x1 : Int32) (x2 : Int32) (h : Hp) : Option (Int32 × Hp) :=
  l_X6_quarrels_8 f f x0 x1 x2 (-1 : Int32) (-1 : Int32) (0 : Int32) h
set_option maxRecDepth 20000 in
theorem t_X6_quarrels_249 {X : Cx} (o : Ok X RX6 cX6_quarrels 9 1 21 0 0 (some .int)) (f : Nat)  (x5 : Int32) (h : Hp) : Sim X (z_Zi X 0 0) 0 0 249 [(5, .int x5)] [] h (b_X6_quarrels_249 f x5 h) := by
  unfold b_X6_quarrels_249
  refine s_iload o 0 rfl dX6_quarrels_249 (q := 251) rfl ?_
  exact s_iret o dX6_quarrels_251
set_option maxRecDepth 20000 in
theorem t_X6_quarrels_240 {X : Cx} (o : Ok X RX6 cX6_quarrels 9 1 21 0 0 (some .int)) (f : Nat) {k65 : Nat → Int32 → Int32 → Int32 → Int32 → Int32 → Hp → Option (Int32 × Hp)} (hk65 : ∀ (x0 : Nat) (x1 : Int32) (x3 : Int32) (x4 : Int32) (x5 : Int32) (x6 : Int32) (h : Hp), Sim X (z_Zi X 0 0) 0 0 65 [(0, rf (xG X) x0), (1, .int x1), (3, .int x3), (4, .int x4), (5, .int x5), (6, .int x6)] [] h (k65 x0 x1 x3 x4 x5 x6 h)) (x0 : Nat) (x1 : Int32) (x3 : Int32) (x4 : Int32) (x6 : Int32) (y0 : Int32) (y1 : Int32) (h : Hp) : Sim X (z_Zi X 0 0) 0 0 240 [(0, rf (xG X) x0), (1, .int x1), (3, .int x3), (4, .int x4), (6, .int x6)] [.int y1, .int y0] h (b_X6_quarrels_240 f k65 x0 x1 x3 x4 x6 y0 y1 h) := by
  unfold b_X6_quarrels_240
  refine s_iadd o dX6_quarrels_240 (q := 241) rfl ?_
  refine s_let (fun v1_ => ?_)
  refine s_istore o [1, 2, 3, 4, 0, 5] (lv' := [(0, rf (xG X) x0), (1, .int x1), (3, .int x3), (4, .int x4), (5, .int v1_), (6, .int x6)]) rfl dX6_quarrels_241 (by decide) (q := 243) rfl ?_
  refine s_iinc o 5 rfl (v := (1 : Int32)) (by decide) [1, 2, 3, 4, 5, 0] (lv' := fun v2_ => [(0, rf (xG X) x0), (1, .int x1), (3, .int x3), (4, .int x4), (5, .int v1_), (6, .int v2_)]) (fun _ => rfl) dX6_quarrels_243 (by decide) (q := 246) rfl (fun v2_ => ?_)
  refine s_goto o (tgt := 65) dX6_quarrels_246 (by decide) ?_
  exact s_sub [0, 1, 2, 3, 4, 5] rfl (hk65 x0 x1 x3 x4 v1_ v2_ h)
set_option maxRecDepth 20000 in
theorem t_X6_quarrels_239 {X : Cx} (o : Ok X RX6 cX6_quarrels 9 1 21 0 0 (some .int)) (f : Nat) {k65 : Nat → Int32 → Int32 → Int32 → Int32 → Int32 → Hp → Option (Int32 × Hp)} (hk65 : ∀ (x0 : Nat) (x1 : Int32) (x3 : Int32) (x4 : Int32) (x5 : Int32) (x6 : Int32) (h : Hp), Sim X (z_Zi X 0 0) 0 0 65 [(0, rf (xG X) x0), (1, .int x1), (3, .int x3), (4, .int x4), (5, .int x5), (6, .int x6)] [] h (k65 x0 x1 x3 x4 x5 x6 h)) (x0 : Nat) (x1 : Int32) (x3 : Int32) (x4 : Int32) (x6 : Int32) (y0 : Int32) (h : Hp) : Sim X (z_Zi X 0 0) 0 0 239 [(0, rf (xG X) x0), (1, .int x1), (3, .int x3), (4, .int x4), (6, .int x6)] [.int y0] h (b_X6_quarrels_239 f k65 x0 x1 x3 x4 x6 y0 h) := by
  unfold b_X6_quarrels_239
  refine s_iconst o dX6_quarrels_239 (v := (0 : Int32)) (by decide) (q := 240) rfl ?_
  exact s_sub [0, 1, 2, 3, 4] rfl (t_X6_quarrels_240 o f hk65 x0 x1 x3 x4 x6 y0 (0 : Int32) h)
set_option maxRecDepth 20000 in
theorem t_X6_quarrels_221 {X : Cx} (o : Ok X RX6 cX6_quarrels 9 1 21 0 0 (some .int)) (f : Nat) {k65 : Nat → Int32 → Int32 → Int32 → Int32 → Int32 → Hp → Option (Int32 × Hp)} (hk65 : ∀ (x0 : Nat) (x1 : Int32) (x3 : Int32) (x4 : Int32) (x5 : Int32) (x6 : Int32) (h : Hp), Sim X (z_Zi X 0 0) 0 0 65 [(0, rf (xG X) x0), (1, .int x1), (3, .int x3), (4, .int x4), (5, .int x5), (6, .int x6)] [] h (k65 x0 x1 x3 x4 x5 x6 h)) (x0 : Nat) (x1 : Int32) (x3 : Int32) (x4 : Int32) (x5 : Int32) (x6 : Int32) (x7 : Int32) (y0 : Int32) (h : Hp) : Sim X (z_Zi X 0 0) 0 0 221 [(0, rf (xG X) x0), (1, .int x1), (3, .int x3), (4, .int x4), (5, .int x5), (6, .int x6), (7, .int x7)] [.int y0] h (b_X6_quarrels_221 f k65 x0 x1 x3 x4 x5 x6 x7 y0 h) := by
  unfold b_X6_quarrels_221
  refine s_istore o [1, 2, 3, 4, 5, 6, 7, 0] (lv' := [(0, rf (xG X) x0), (1, .int x1), (3, .int x3), (4, .int x4), (5, .int x5), (6, .int x6), (7, .int x7), (8, .int y0)]) rfl dX6_quarrels_221 (by decide) (q := 223) rfl ?_
  refine s_iload o 4 rfl dX6_quarrels_223 (q := 225) rfl ?_
  refine s_iload o 6 rfl dX6_quarrels_225 (q := 227) rfl ?_
  refine s_if_eq o (tgt := 239) dX6_quarrels_227 (by decide) (q := 230) rfl ?_ ?_
  · exact s_sub [0, 1, 2, 3, 5] rfl (t_X6_quarrels_239 o f hk65 x0 x1 x3 x4 x6 x5 h)
  · refine s_iload o 7 rfl dX6_quarrels_230 (q := 232) rfl ?_
    refine s_if_eq o (tgt := 239) dX6_quarrels_232 (by decide) (q := 235) rfl ?_ ?_
    · exact s_sub [0, 1, 2, 3, 5] rfl (t_X6_quarrels_239 o f hk65 x0 x1 x3 x4 x6 x5 h)
    · refine s_iconst o dX6_quarrels_235 (v := (1 : Int32)) (by decide) (q := 236) rfl ?_
      refine s_goto o (tgt := 240) dX6_quarrels_236 (by decide) ?_
      exact s_sub [0, 1, 2, 3, 5] rfl (t_X6_quarrels_240 o f hk65 x0 x1 x3 x4 x6 x5 (1 : Int32) h)
set_option maxRecDepth 20000 in
theorem t_X6_quarrels_216 {X : Cx} (o : Ok X RX6 cX6_quarrels 9 1 21 0 0 (some .int)) (f : Nat) {k65 : Nat → Int32 → Int32 → Int32 → Int32 → Int32 → Hp → Option (Int32 × Hp)} (hk65 : ∀ (x0 : Nat) (x1 : Int32) (x3 : Int32) (x4 : Int32) (x5 : Int32) (x6 : Int32) (h : Hp), Sim X (z_Zi X 0 0) 0 0 65 [(0, rf (xG X) x0), (1, .int x1), (3, .int x3), (4, .int x4), (5, .int x5), (6, .int x6)] [] h (k65 x0 x1 x3 x4 x5 x6 h)) (x0 : Nat) (x1 : Int32) (x3 : Int32) (x4 : Int32) (x5 : Int32) (x6 : Int32) (x7 : Int32) (h : Hp) : Sim X (z_Zi X 0 0) 0 0 216 [(0, rf (xG X) x0), (1, .int x1), (3, .int x3), (4, .int x4), (5, .int x5), (6, .int x6), (7, .int x7)] [] h (b_X6_quarrels_216 f k65 x0 x1 x3 x4 x5 x6 x7 h) := by
  unfold b_X6_quarrels_216
  refine s_iconst o dX6_quarrels_216 (v := (1 : Int32)) (by decide) (q := 217) rfl ?_
  refine s_goto o (tgt := 221) dX6_quarrels_217 (by decide) ?_
  exact s_sub [0, 1, 2, 3, 4, 5, 6] rfl (t_X6_quarrels_221 o f hk65 x0 x1 x3 x4 x5 x6 x7 (1 : Int32) h)
set_option maxRecDepth 20000 in
theorem t_X6_quarrels_138 {X : Cx} (o : Ok X RX6 cX6_quarrels 9 1 21 0 0 (some .int)) (f : Nat) {k65 : Nat → Int32 → Int32 → Int32 → Int32 → Int32 → Hp → Option (Int32 × Hp)} (hk65 : ∀ (x0 : Nat) (x1 : Int32) (x3 : Int32) (x4 : Int32) (x5 : Int32) (x6 : Int32) (h : Hp), Sim X (z_Zi X 0 0) 0 0 65 [(0, rf (xG X) x0), (1, .int x1), (3, .int x3), (4, .int x4), (5, .int x5), (6, .int x6)] [] h (k65 x0 x1 x3 x4 x5 x6 h)) (x0 : Nat) (x1 : Int32) (x3 : Int32) (x4 : Int32) (x5 : Int32) (x6 : Int32) (y0 : Int32) (h : Hp) : Sim X (z_Zi X 0 0) 0 0 138 [(0, rf (xG X) x0), (1, .int x1), (3, .int x3), (4, .int x4), (5, .int x5), (6, .int x6)] [.int y0] h (b_X6_quarrels_138 f k65 x0 x1 x3 x4 x5 x6 y0 h) := by
  unfold b_X6_quarrels_138
  refine s_istore o [1, 2, 3, 4, 5, 6, 0] (lv' := [(0, rf (xG X) x0), (1, .int x1), (3, .int x3), (4, .int x4), (5, .int x5), (6, .int x6), (7, .int y0)]) rfl dX6_quarrels_138 (by decide) (q := 140) rfl ?_
  refine s_aload_n o 0 rfl dX6_quarrels_140 (q := 141) rfl ?_
  refine s_gr o kf_X6_16 dX6_quarrels_141 (q := 144) rfl (fun a1_ => ?_)
  refine s_bipush o dX6_quarrels_144 (v := (9 : Int32)) (by decide) (q := 146) rfl ?_
  refine s_iload_n o 2 rfl dX6_quarrels_146 (q := 147) rfl ?_
  refine s_imul o dX6_quarrels_147 (q := 148) rfl ?_
  refine s_iload o 5 rfl dX6_quarrels_148 (q := 150) rfl ?_
  refine s_iadd o dX6_quarrels_150 (q := 151) rfl ?_
  refine s_iald o dX6_quarrels_151 (q := 152) rfl (fun v2_ => ?_)
  refine s_aload_n o 0 rfl dX6_quarrels_152 (q := 153) rfl ?_
  refine s_gr o kf_X6_16 dX6_quarrels_153 (q := 156) rfl (fun a3_ => ?_)
  refine s_bipush o dX6_quarrels_156 (v := (9 : Int32)) (by decide) (q := 158) rfl ?_
  refine s_iload o 3 rfl dX6_quarrels_158 (q := 160) rfl ?_
  refine s_imul o dX6_quarrels_160 (q := 161) rfl ?_
  refine s_iload o 5 rfl dX6_quarrels_161 (q := 163) rfl ?_
  refine s_iadd o dX6_quarrels_163 (q := 164) rfl ?_
  refine s_iald o dX6_quarrels_164 (q := 165) rfl (fun v4_ => ?_)
  refine s_isub o dX6_quarrels_165 (q := 166) rfl ?_
  refine s_bi (fun r0 hr0 => runS o cs_X6_193 (c_X6_size (xG X) f (v2_ - v4_) h (xl X) r0 hr0) ⟨Nat.le_of_ble_eq_true rfl, Nat.le_of_ble_eq_true rfl⟩ rfl rfl (Nat.le_of_ble_eq_true rfl) dX6_quarrels_166 ⟨Nat.le_of_ble_eq_true rfl, Nat.le_of_ble_eq_true rfl⟩) (q := 169) rfl (cs' := 0) rfl (sl' := 0) rfl (fun v6_ h5_ => ?_)
  refine s_iconst o dX6_quarrels_169 (v := (2 : Int32)) (by decide) (q := 170) rfl ?_
  refine s_aload_n o 0 rfl dX6_quarrels_170 (q := 171) rfl ?_
  refine s_gi o kf_X6_256 dX6_quarrels_171 (q := 174) rfl (fun v7_ => ?_)
  refine s_imul o dX6_quarrels_174 (q := 175) rfl ?_
  refine s_ic_gt o (tgt := 216) dX6_quarrels_175 (by decide) (q := 178) rfl ?_ ?_
  · exact s_sub [0, 1, 2, 3, 4, 5, 6] rfl (t_X6_quarrels_216 o f hk65 x0 x1 x3 x4 x5 x6 y0 h5_)
  · refine s_aload_n o 0 rfl dX6_quarrels_178 (q := 179) rfl ?_
    refine s_gr o kf_X6_19 dX6_quarrels_179 (q := 182) rfl (fun a8_ => ?_)
    refine s_bipush o dX6_quarrels_182 (v := (9 : Int32)) (by decide) (q := 184) rfl ?_
    refine s_iload_n o 2 rfl dX6_quarrels_184 (q := 185) rfl ?_
    refine s_imul o dX6_quarrels_185 (q := 186) rfl ?_
    refine s_iload o 5 rfl dX6_quarrels_186 (q := 188) rfl ?_
    refine s_iadd o dX6_quarrels_188 (q := 189) rfl ?_
    refine s_iald o dX6_quarrels_189 (q := 190) rfl (fun v9_ => ?_)
    refine s_aload_n o 0 rfl dX6_quarrels_190 (q := 191) rfl ?_
    refine s_gr o kf_X6_19 dX6_quarrels_191 (q := 194) rfl (fun a10_ => ?_)
    refine s_bipush o dX6_quarrels_194 (v := (9 : Int32)) (by decide) (q := 196) rfl ?_
    refine s_iload o 3 rfl dX6_quarrels_196 (q := 198) rfl ?_
    refine s_imul o dX6_quarrels_198 (q := 199) rfl ?_
    refine s_iload o 5 rfl dX6_quarrels_199 (q := 201) rfl ?_
    refine s_iadd o dX6_quarrels_201 (q := 202) rfl ?_
    refine s_iald o dX6_quarrels_202 (q := 203) rfl (fun v11_ => ?_)
    refine s_isub o dX6_quarrels_203 (q := 204) rfl ?_
    refine s_bi (fun r0 hr0 => runS o cs_X6_193 (c_X6_size (xG X) f (v9_ - v11_) h5_ (xl X) r0 hr0) ⟨Nat.le_of_ble_eq_true rfl, Nat.le_of_ble_eq_true rfl⟩ rfl rfl (Nat.le_of_ble_eq_true rfl) dX6_quarrels_204 ⟨Nat.le_of_ble_eq_true rfl, Nat.le_of_ble_eq_true rfl⟩) (q := 207) rfl (cs' := 0) rfl (sl' := 0) rfl (fun v13_ h12_ => ?_)
    refine s_iconst o dX6_quarrels_207 (v := (2 : Int32)) (by decide) (q := 208) rfl ?_
    refine s_aload_n o 0 rfl dX6_quarrels_208 (q := 209) rfl ?_
    refine s_gi o kf_X6_256 dX6_quarrels_209 (q := 212) rfl (fun v14_ => ?_)
    refine s_imul o dX6_quarrels_212 (q := 213) rfl ?_
    refine s_ic_le o (tgt := 220) dX6_quarrels_213 (by decide) (q := 216) rfl ?_ ?_
    · refine s_iconst o dX6_quarrels_220 (v := (0 : Int32)) (by decide) (q := 221) rfl ?_
      exact s_sub [0, 1, 2, 3, 4, 5, 6] rfl (t_X6_quarrels_221 o f hk65 x0 x1 x3 x4 x5 x6 y0 (0 : Int32) h12_)
    · exact s_sub [0, 1, 2, 3, 4, 5, 6] rfl (t_X6_quarrels_216 o f hk65 x0 x1 x3 x4 x5 x6 y0 h12_)
set_option maxRecDepth 20000 in
theorem t_X6_quarrels_137 {X : Cx} (o : Ok X RX6 cX6_quarrels 9 1 21 0 0 (some .int)) (f : Nat) {k65 : Nat → Int32 → Int32 → Int32 → Int32 → Int32 → Hp → Option (Int32 × Hp)} (hk65 : ∀ (x0 : Nat) (x1 : Int32) (x3 : Int32) (x4 : Int32) (x5 : Int32) (x6 : Int32) (h : Hp), Sim X (z_Zi X 0 0) 0 0 65 [(0, rf (xG X) x0), (1, .int x1), (3, .int x3), (4, .int x4), (5, .int x5), (6, .int x6)] [] h (k65 x0 x1 x3 x4 x5 x6 h)) (x0 : Nat) (x1 : Int32) (x3 : Int32) (x4 : Int32) (x5 : Int32) (x6 : Int32) (h : Hp) : Sim X (z_Zi X 0 0) 0 0 137 [(0, rf (xG X) x0), (1, .int x1), (3, .int x3), (4, .int x4), (5, .int x5), (6, .int x6)] [] h (b_X6_quarrels_137 f k65 x0 x1 x3 x4 x5 x6 h) := by
  unfold b_X6_quarrels_137
  refine s_iconst o dX6_quarrels_137 (v := (0 : Int32)) (by decide) (q := 138) rfl ?_
  exact s_sub [0, 1, 2, 3, 4, 5] rfl (t_X6_quarrels_138 o f hk65 x0 x1 x3 x4 x5 x6 (0 : Int32) h)
set_option maxRecDepth 20000 in
theorem t_X6_quarrels_65 {X : Cx} (o : Ok X RX6 cX6_quarrels 9 1 21 0 0 (some .int)) (f : Nat) {k65 : Nat → Int32 → Int32 → Int32 → Int32 → Int32 → Hp → Option (Int32 × Hp)} (hk65 : ∀ (x0 : Nat) (x1 : Int32) (x3 : Int32) (x4 : Int32) (x5 : Int32) (x6 : Int32) (h : Hp), Sim X (z_Zi X 0 0) 0 0 65 [(0, rf (xG X) x0), (1, .int x1), (3, .int x3), (4, .int x4), (5, .int x5), (6, .int x6)] [] h (k65 x0 x1 x3 x4 x5 x6 h)) (x0 : Nat) (x1 : Int32) (x3 : Int32) (x4 : Int32) (x5 : Int32) (x6 : Int32) (h : Hp) : Sim X (z_Zi X 0 0) 0 0 65 [(0, rf (xG X) x0), (1, .int x1), (3, .int x3), (4, .int x4), (5, .int x5), (6, .int x6)] [] h (b_X6_quarrels_65 f k65 x0 x1 x3 x4 x5 x6 h) := by
  unfold b_X6_quarrels_65
  refine s_iload o 5 rfl dX6_quarrels_65 (q := 67) rfl ?_
  refine s_aload_n o 0 rfl dX6_quarrels_67 (q := 68) rfl ?_
  refine s_gi o kf_X6_111 dX6_quarrels_68 (q := 71) rfl (fun v1_ => ?_)
  refine s_ic_ge o (tgt := 249) dX6_quarrels_71 (by decide) (q := 74) rfl ?_ ?_
  · exact s_sub [4] rfl (t_X6_quarrels_249 o f x5 h)
  · refine s_iload_n o 2 rfl dX6_quarrels_74 (q := 75) rfl ?_
    refine s_if_lt o (tgt := 249) dX6_quarrels_75 (by decide) (q := 78) rfl ?_ ?_
    · exact s_sub [4] rfl (t_X6_quarrels_249 o f x5 h)
    · refine s_iload o 3 rfl dX6_quarrels_78 (q := 80) rfl ?_
      refine s_iload_n o 2 rfl dX6_quarrels_80 (q := 81) rfl ?_
      refine s_ic_eq o (tgt := 249) dX6_quarrels_81 (by decide) (q := 84) rfl ?_ ?_
      · exact s_sub [4] rfl (t_X6_quarrels_249 o f x5 h)
      · refine s_aload_n o 0 rfl dX6_quarrels_84 (q := 85) rfl ?_
        refine s_gr o kf_X6_72 dX6_quarrels_85 (q := 88) rfl (fun a2_ => ?_)
        refine s_iload o 5 rfl dX6_quarrels_88 (q := 90) rfl ?_
        refine s_zald o dX6_quarrels_90 (q := 91) rfl (fun v3_ => ?_)
        refine s_if_eq o (tgt := 137) dX6_quarrels_91 (by decide) (q := 94) rfl ?_ ?_
        · exact s_sub [0, 1, 2, 3, 4, 5] rfl (t_X6_quarrels_137 o f hk65 x0 x1 x3 x4 x5 x6 h)
        · refine s_aload_n o 0 rfl dX6_quarrels_94 (q := 95) rfl ?_
          refine s_gr o kf_X6_32 dX6_quarrels_95 (q := 98) rfl (fun a4_ => ?_)
          refine s_bipush o dX6_quarrels_98 (v := (6 : Int32)) (by decide) (q := 100) rfl ?_
          refine s_iload_n o 1 rfl dX6_quarrels_100 (q := 101) rfl ?_
          refine s_imul o dX6_quarrels_101 (q := 102) rfl ?_
          refine s_iload_n o 2 rfl dX6_quarrels_102 (q := 103) rfl ?_
          refine s_iadd o dX6_quarrels_103 (q := 104) rfl ?_
          refine s_iald o dX6_quarrels_104 (q := 105) rfl (fun v5_ => ?_)
          refine s_iload o 5 rfl dX6_quarrels_105 (q := 107) rfl ?_
          refine s_bi (fun r0 hr0 => runS o cs_X6_182 (c_X6_has (xG X) f v5_ x6 h (xl X) r0 hr0) ⟨Nat.le_of_ble_eq_true rfl, Nat.le_of_ble_eq_true rfl⟩ rfl rfl (Nat.le_of_ble_eq_true rfl) dX6_quarrels_107 ⟨Nat.le_of_ble_eq_true rfl, Nat.le_of_ble_eq_true rfl⟩) (q := 110) rfl (cs' := 0) rfl (sl' := 0) rfl (fun v7_ h6_ => ?_)
          refine s_if_eq o (tgt := 137) dX6_quarrels_110 (by decide) (q := 113) rfl ?_ ?_
          · exact s_sub [0, 1, 2, 3, 4, 5] rfl (t_X6_quarrels_137 o f hk65 x0 x1 x3 x4 x5 x6 h6_)
          · refine s_aload_n o 0 rfl dX6_quarrels_113 (q := 114) rfl ?_
            refine s_gr o kf_X6_32 dX6_quarrels_114 (q := 117) rfl (fun a8_ => ?_)
            refine s_bipush o dX6_quarrels_117 (v := (6 : Int32)) (by decide) (q := 119) rfl ?_
            refine s_iload_n o 1 rfl dX6_quarrels_119 (q := 120) rfl ?_
            refine s_imul o dX6_quarrels_120 (q := 121) rfl ?_
            refine s_iload o 3 rfl dX6_quarrels_121 (q := 123) rfl ?_
            refine s_iadd o dX6_quarrels_123 (q := 124) rfl ?_
            refine s_iald o dX6_quarrels_124 (q := 125) rfl (fun v9_ => ?_)
            refine s_iload o 5 rfl dX6_quarrels_125 (q := 127) rfl ?_
            refine s_bi (fun r0 hr0 => runS o cs_X6_182 (c_X6_has (xG X) f v9_ x6 h6_ (xl X) r0 hr0) ⟨Nat.le_of_ble_eq_true rfl, Nat.le_of_ble_eq_true rfl⟩ rfl rfl (Nat.le_of_ble_eq_true rfl) dX6_quarrels_127 ⟨Nat.le_of_ble_eq_true rfl, Nat.le_of_ble_eq_true rfl⟩) (q := 130) rfl (cs' := 0) rfl (sl' := 0) rfl (fun v11_ h10_ => ?_)
            refine s_if_eq o (tgt := 137) dX6_quarrels_130 (by decide) (q := 133) rfl ?_ ?_
            · exact s_sub [0, 1, 2, 3, 4, 5] rfl (t_X6_quarrels_137 o f hk65 x0 x1 x3 x4 x5 x6 h10_)
            · refine s_iconst o dX6_quarrels_133 (v := (1 : Int32)) (by decide) (q := 134) rfl ?_
              refine s_goto o (tgt := 138) dX6_quarrels_134 (by decide) ?_
              exact s_sub [0, 1, 2, 3, 4, 5] rfl (t_X6_quarrels_138 o f hk65 x0 x1 x3 x4 x5 x6 (1 : Int32) h10_)
theorem tl_X6_quarrels_65 {X : Cx} (o : Ok X RX6 cX6_quarrels 9 1 21 0 0 (some .int)) (f : Nat)  : ∀ (n : Nat) (x0 : Nat) (x1 : Int32) (x3 : Int32) (x4 : Int32) (x5 : Int32) (x6 : Int32) (h : Hp), Sim X (z_Zi X 0 0) 0 0 65 [(0, rf (xG X) x0), (1, .int x1), (3, .int x3), (4, .int x4), (5, .int x5), (6, .int x6)] [] h (l_X6_quarrels_65 f n x0 x1 x3 x4 x5 x6 h) := by
  intro n
  induction n with
  | zero => intro x0 x1 x3 x4 x5 x6 h; exact s_none
  | succ n ih => intro x0 x1 x3 x4 x5 x6 h; exact t_X6_quarrels_65 o f  ih x0 x1 x3 x4 x5 x6 h
set_option maxRecDepth 20000 in
theorem t_X6_quarrels_52 {X : Cx} (o : Ok X RX6 cX6_quarrels 9 1 21 0 0 (some .int)) (f : Nat) {k8 : Nat → Int32 → Int32 → Int32 → Int32 → Int32 → Hp → Option (Int32 × Hp)} (hk8 : ∀ (x0 : Nat) (x1 : Int32) (x2 : Int32) (x3 : Int32) (x4 : Int32) (x5 : Int32) (h : Hp), Sim X (z_Zi X 0 0) 0 0 8 [(0, rf (xG X) x0), (1, .int x1), (2, .int x2), (3, .int x3), (4, .int x4), (5, .int x5)] [] h (k8 x0 x1 x2 x3 x4 x5 h)) (x0 : Nat) (x1 : Int32) (x2 : Int32) (x4 : Int32) (x5 : Int32) (y0 : Int32) (h : Hp) : Sim X (z_Zi X 0 0) 0 0 52 [(0, rf (xG X) x0), (1, .int x1), (2, .int x2), (4, .int x4), (5, .int x5)] [.int y0] h (b_X6_quarrels_52 f k8 x0 x1 x2 x4 x5 y0 h) := by
  unfold b_X6_quarrels_52
  refine s_istore_n o [1, 2, 3, 0, 4, 5] (lv' := [(0, rf (xG X) x0), (1, .int x1), (2, .int x2), (3, .int y0), (4, .int x4), (5, .int x5)]) rfl dX6_quarrels_52 (by decide) (q := 53) rfl ?_
  refine s_iinc o 5 rfl (v := (1 : Int32)) (by decide) [1, 2, 3, 4, 5, 0] (lv' := fun v1_ => [(0, rf (xG X) x0), (1, .int x1), (2, .int x2), (3, .int y0), (4, .int x4), (5, .int v1_)]) (fun _ => rfl) dX6_quarrels_53 (by decide) (q := 56) rfl (fun v1_ => ?_)
  refine s_goto o (tgt := 8) dX6_quarrels_56 (by decide) ?_
  exact s_sub [0, 1, 2, 3, 4, 5] rfl (hk8 x0 x1 x2 y0 x4 v1_ h)
set_option maxRecDepth 20000 in
theorem t_X6_quarrels_51 {X : Cx} (o : Ok X RX6 cX6_quarrels 9 1 21 0 0 (some .int)) (f : Nat) {k8 : Nat → Int32 → Int32 → Int32 → Int32 → Int32 → Hp → Option (Int32 × Hp)} (hk8 : ∀ (x0 : Nat) (x1 : Int32) (x2 : Int32) (x3 : Int32) (x4 : Int32) (x5 : Int32) (h : Hp), Sim X (z_Zi X 0 0) 0 0 8 [(0, rf (xG X) x0), (1, .int x1), (2, .int x2), (3, .int x3), (4, .int x4), (5, .int x5)] [] h (k8 x0 x1 x2 x3 x4 x5 h)) (x0 : Nat) (x1 : Int32) (x2 : Int32) (x3 : Int32) (x4 : Int32) (x5 : Int32) (h : Hp) : Sim X (z_Zi X 0 0) 0 0 51 [(0, rf (xG X) x0), (1, .int x1), (2, .int x2), (3, .int x3), (4, .int x4), (5, .int x5)] [] h (b_X6_quarrels_51 f k8 x0 x1 x2 x3 x4 x5 h) := by
  unfold b_X6_quarrels_51
  refine s_iload_n o 3 rfl dX6_quarrels_51 (q := 52) rfl ?_
  exact s_sub [0, 1, 2, 4, 5] rfl (t_X6_quarrels_52 o f hk8 x0 x1 x2 x4 x5 x3 h)
set_option maxRecDepth 20000 in
theorem t_X6_quarrels_31 {X : Cx} (o : Ok X RX6 cX6_quarrels 9 1 21 0 0 (some .int)) (f : Nat) {k8 : Nat → Int32 → Int32 → Int32 → Int32 → Int32 → Hp → Option (Int32 × Hp)} (hk8 : ∀ (x0 : Nat) (x1 : Int32) (x2 : Int32) (x3 : Int32) (x4 : Int32) (x5 : Int32) (h : Hp), Sim X (z_Zi X 0 0) 0 0 8 [(0, rf (xG X) x0), (1, .int x1), (2, .int x2), (3, .int x3), (4, .int x4), (5, .int x5)] [] h (k8 x0 x1 x2 x3 x4 x5 h)) (x0 : Nat) (x1 : Int32) (x2 : Int32) (x3 : Int32) (x5 : Int32) (y0 : Int32) (h : Hp) : Sim X (z_Zi X 0 0) 0 0 31 [(0, rf (xG X) x0), (1, .int x1), (2, .int x2), (3, .int x3), (5, .int x5)] [.int y0] h (b_X6_quarrels_31 f k8 x0 x1 x2 x3 x5 y0 h) := by
  unfold b_X6_quarrels_31
  refine s_istore o [1, 2, 3, 4, 0, 5] (lv' := [(0, rf (xG X) x0), (1, .int x1), (2, .int x2), (3, .int x3), (4, .int y0), (5, .int x5)]) rfl dX6_quarrels_31 (by decide) (q := 33) rfl ?_
  refine s_iload_n o 2 rfl dX6_quarrels_33 (q := 34) rfl ?_
  refine s_iload o 5 rfl dX6_quarrels_34 (q := 36) rfl ?_
  refine s_bi (fun r0 hr0 => runS o cs_X6_182 (c_X6_has (xG X) f x2 x5 h (xl X) r0 hr0) ⟨Nat.le_of_ble_eq_true rfl, Nat.le_of_ble_eq_true rfl⟩ rfl rfl (Nat.le_of_ble_eq_true rfl) dX6_quarrels_36 ⟨Nat.le_of_ble_eq_true rfl, Nat.le_of_ble_eq_true rfl⟩) (q := 39) rfl (cs' := 0) rfl (sl' := 0) rfl (fun v2_ h1_ => ?_)
  refine s_if_eq o (tgt := 51) dX6_quarrels_39 (by decide) (q := 42) rfl ?_ ?_
  · exact s_sub [0, 1, 2, 3, 4, 5] rfl (t_X6_quarrels_51 o f hk8 x0 x1 x2 x3 y0 x5 h1_)
  · refine s_iload_n o 3 rfl dX6_quarrels_42 (q := 43) rfl ?_
    refine s_if_ge o (tgt := 51) dX6_quarrels_43 (by decide) (q := 46) rfl ?_ ?_
    · exact s_sub [0, 1, 2, 3, 4, 5] rfl (t_X6_quarrels_51 o f hk8 x0 x1 x2 x3 y0 x5 h1_)
    · refine s_iload o 5 rfl dX6_quarrels_46 (q := 48) rfl ?_
      refine s_goto o (tgt := 52) dX6_quarrels_48 (by decide) ?_
      exact s_sub [0, 1, 2, 4, 5] rfl (t_X6_quarrels_52 o f hk8 x0 x1 x2 y0 x5 x5 h1_)
set_option maxRecDepth 20000 in
theorem t_X6_quarrels_8 {X : Cx} (o : Ok X RX6 cX6_quarrels 9 1 21 0 0 (some .int)) (f : Nat) {k8 : Nat → Int32 → Int32 → Int32 → Int32 → Int32 → Hp → Option (Int32 × Hp)} (hk8 : ∀ (x0 : Nat) (x1 : Int32) (x2 : Int32) (x3 : Int32) (x4 : Int32) (x5 : Int32) (h : Hp), Sim X (z_Zi X 0 0) 0 0 8 [(0, rf (xG X) x0), (1, .int x1), (2, .int x2), (3, .int x3), (4, .int x4), (5, .int x5)] [] h (k8 x0 x1 x2 x3 x4 x5 h)) (x0 : Nat) (x1 : Int32) (x2 : Int32) (x3 : Int32) (x4 : Int32) (x5 : Int32) (h : Hp) : Sim X (z_Zi X 0 0) 0 0 8 [(0, rf (xG X) x0), (1, .int x1), (2, .int x2), (3, .int x3), (4, .int x4), (5, .int x5)] [] h (b_X6_quarrels_8 f k8 x0 x1 x2 x3 x4 x5 h) := by
  unfold b_X6_quarrels_8
  refine s_iload o 5 rfl dX6_quarrels_8 (q := 10) rfl ?_
  refine s_bipush o dX6_quarrels_10 (v := (6 : Int32)) (by decide) (q := 12) rfl ?_
  refine s_ic_ge o (tgt := 59) dX6_quarrels_12 (by decide) (q := 15) rfl ?_ ?_
  · refine s_iconst o dX6_quarrels_59 (v := (0 : Int32)) (by decide) (q := 60) rfl ?_
    refine s_istore o [1, 2, 3, 4, 5, 0] (lv' := [(0, rf (xG X) x0), (1, .int x1), (2, .int x2), (3, .int x3), (4, .int x4), (5, .int (0 : Int32))]) rfl dX6_quarrels_60 (by decide) (q := 62) rfl ?_
    refine s_iconst o dX6_quarrels_62 (v := (0 : Int32)) (by decide) (q := 63) rfl ?_
    refine s_istore o [1, 2, 3, 4, 5, 6, 0] (lv' := [(0, rf (xG X) x0), (1, .int x1), (2, .int x2), (3, .int x3), (4, .int x4), (5, .int (0 : Int32)), (6, .int (0 : Int32))]) rfl dX6_quarrels_63 (by decide) (q := 65) rfl ?_
    exact s_sub [0, 1, 3, 4, 5, 6] rfl (tl_X6_quarrels_65 o f f x0 x1 x3 x4 (0 : Int32) (0 : Int32) h)
  · refine s_iload_n o 2 rfl dX6_quarrels_15 (q := 16) rfl ?_
    refine s_iload o 5 rfl dX6_quarrels_16 (q := 18) rfl ?_
    refine s_bi (fun r0 hr0 => runS o cs_X6_182 (c_X6_has (xG X) f x2 x5 h (xl X) r0 hr0) ⟨Nat.le_of_ble_eq_true rfl, Nat.le_of_ble_eq_true rfl⟩ rfl rfl (Nat.le_of_ble_eq_true rfl) dX6_quarrels_18 ⟨Nat.le_of_ble_eq_true rfl, Nat.le_of_ble_eq_true rfl⟩) (q := 21) rfl (cs' := 0) rfl (sl' := 0) rfl (fun v2_ h1_ => ?_)
    refine s_if_eq o (tgt := 29) dX6_quarrels_21 (by decide) (q := 24) rfl ?_ ?_
    · refine s_iload o 4 rfl dX6_quarrels_29 (q := 31) rfl ?_
      exact s_sub [0, 1, 2, 3, 5] rfl (t_X6_quarrels_31 o f hk8 x0 x1 x2 x3 x5 x4 h1_)
    · refine s_iload o 5 rfl dX6_quarrels_24 (q := 26) rfl ?_
      refine s_goto o (tgt := 31) dX6_quarrels_26 (by decide) ?_
      exact s_sub [0, 1, 2, 3, 5] rfl (t_X6_quarrels_31 o f hk8 x0 x1 x2 x3 x5 x5 h1_)
theorem tl_X6_quarrels_8 {X : Cx} (o : Ok X RX6 cX6_quarrels 9 1 21 0 0 (some .int)) (f : Nat)  : ∀ (n : Nat) (x0 : Nat) (x1 : Int32) (x2 : Int32) (x3 : Int32) (x4 : Int32) (x5 : Int32) (h : Hp), Sim X (z_Zi X 0 0) 0 0 8 [(0, rf (xG X) x0), (1, .int x1), (2, .int x2), (3, .int x3), (4, .int x4), (5, .int x5)] [] h (l_X6_quarrels_8 f n x0 x1 x2 x3 x4 x5 h) := by
  intro n
  induction n with
  | zero => intro x0 x1 x2 x3 x4 x5 h; exact s_none
  | succ n ih => intro x0 x1 x2 x3 x4 x5 h; exact t_X6_quarrels_8 o f  ih x0 x1 x2 x3 x4 x5 h
set_option maxRecDepth 20000 in
theorem t_X6_quarrels_0 {X : Cx} (o : Ok X RX6 cX6_quarrels 9 1 21 0 0 (some .int)) (f : Nat)  (x0 : Nat) (x1 : Int32) (x2 : Int32) (h : Hp) : Sim X (z_Zi X 0 0) 0 0 0 [(0, rf (xG X) x0), (1, .int x1), (2, .int x2)] [] h (f_X6_quarrels f x0 x1 x2 h) := by
  unfold f_X6_quarrels
  refine s_iconst o dX6_quarrels_0 (v := (-1 : Int32)) (by decide) (q := 1) rfl ?_
  refine s_istore_n o [1, 2, 3, 0] (lv' := [(0, rf (xG X) x0), (1, .int x1), (2, .int x2), (3, .int (-1 : Int32))]) rfl dX6_quarrels_1 (by decide) (q := 2) rfl ?_
  refine s_iconst o dX6_quarrels_2 (v := (-1 : Int32)) (by decide) (q := 3) rfl ?_
  refine s_istore o [1, 2, 3, 4, 0] (lv' := [(0, rf (xG X) x0), (1, .int x1), (2, .int x2), (3, .int (-1 : Int32)), (4, .int (-1 : Int32))]) rfl dX6_quarrels_3 (by decide) (q := 5) rfl ?_
  refine s_iconst o dX6_quarrels_5 (v := (0 : Int32)) (by decide) (q := 6) rfl ?_
  refine s_istore o [1, 2, 3, 4, 5, 0] (lv' := [(0, rf (xG X) x0), (1, .int x1), (2, .int x2), (3, .int (-1 : Int32)), (4, .int (-1 : Int32)), (5, .int (0 : Int32))]) rfl dX6_quarrels_6 (by decide) (q := 8) rfl ?_
  exact s_sub [0, 1, 2, 3, 4, 5] rfl (tl_X6_quarrels_8 o f f x0 x1 x2 (-1 : Int32) (-1 : Int32) (0 : Int32) h)
theorem c_X6_quarrels (G : Gx) (f : Nat) (x0 : Nat) (x1 : Int32) (x2 : Int32) (h : Hp) : z_M z_qi G yX6_quarrels cX6_quarrels 9 (some .int) 1 21 0 0 [rf G x0, .int x1, .int x2] h (f_X6_quarrels f x0 x1 x2 h) :=
  z_met (by decide +kernel) (Nat.le_of_ble_eq_true rfl) (fun X hG hn o hnm => by
    subst hG
    show Sim X (z_Zi X 0 0) 0 0 0 [(0, rf (xG X) x0), (1, .int x1), (2, .int x2)] [] h _
    exact s_sub [0, 1, 2] rfl (t_X6_quarrels_0 o f x0 x1 x2 h))
