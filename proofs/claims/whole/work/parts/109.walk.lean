/-! SixMapsModel.addPlace(II)V -/
def b_X6_addPlace_75 (f : Nat)  (x0 : Nat) (x3 : Int32) (h : Hp) : Option (Hp) :=
  (q_gr h x0 6 48).bind fun a1_ =>
  (q_ai h a1_ 9 x3).bind fun v2_ =>
  (q_as h a1_ 9 x3 (v2_ + (1 : Int32))).bind fun h3_ =>
  some h3_
def b_X6_addPlace_36 (f : Nat)  (x0 : Nat) (x1 : Int32) (x2 : Int32) (x3 : Int32) (h : Hp) : Option (Hp) :=
  (q_gi h x0 6 44).bind fun v1_ =>
  if ¬ x3 = v1_ then
  (b_X6_addPlace_75 f x0 x3 h)
  else
  ((q_gr h x0 6 46).bind fun a2_ =>
  (q_as h a2_ 9 x3 x1).bind fun h3_ =>
  (q_gr h3_ x0 6 47).bind fun a4_ =>
  (q_as h3_ a4_ 9 x3 x2).bind fun h5_ =>
  (q_gr h5_ x0 6 48).bind fun a6_ =>
  (q_as h5_ a6_ 9 x3 (0 : Int32)).bind fun h7_ =>
  (q_gi h7_ x0 6 44).bind fun v8_ =>
  (q_pi h7_ x0 6 44 (v8_ + (1 : Int32))).bind fun h9_ =>
  b_X6_addPlace_75 f x0 x3 h9_)
def b_X6_addPlace_30 (f : Nat) (k2 : Nat → Int32 → Int32 → Int32 → Hp → Option (Hp)) (x0 : Nat) (x1 : Int32) (x2 : Int32) (x3 : Int32) (h : Hp) : Option (Hp) :=
  lt (x3 + (1 : Int32)) fun v1_ =>
  k2 x0 x1 x2 v1_ h
def b_X6_addPlace_2 (f : Nat) (k2 : Nat → Int32 → Int32 → Int32 → Hp → Option (Hp)) (x0 : Nat) (x1 : Int32) (x2 : Int32) (x3 : Int32) (h : Hp) : Option (Hp) :=
  (q_gi h x0 6 44).bind fun v1_ =>
  if v1_ ≤ x3 then
  (b_X6_addPlace_36 f x0 x1 x2 x3 h)
  else
  ((q_gr h x0 6 46).bind fun a2_ =>
  (q_ai h a2_ 9 x3).bind fun v3_ =>
  if ¬ v3_ = x1 then
  (b_X6_addPlace_30 f k2 x0 x1 x2 x3 h)
  else
  ((q_gr h x0 6 47).bind fun a4_ =>
  (q_ai h a4_ 9 x3).bind fun v5_ =>
  if v5_ = x2 then
  (b_X6_addPlace_36 f x0 x1 x2 x3 h)
  else
  (b_X6_addPlace_30 f k2 x0 x1 x2 x3 h)))
def l_X6_addPlace_2 (f : Nat)  : Nat → Nat → Int32 → Int32 → Int32 → Hp → Option (Hp)
  | 0, _, _, _, _, _ => none
  | n + 1, x0, x1, x2, x3, h => b_X6_addPlace_2 f  (l_X6_addPlace_2 f  n) x0 x1 x2 x3 h
def f_X6_addPlace (f : Nat)  (x0 : Nat) (x1 : Int32) (x2 : Int32) (h : Hp) : Option (Hp) :=
  l_X6_addPlace_2 f f x0 x1 x2 (0 : Int32) h
set_option maxRecDepth 20000 in
theorem t_X6_addPlace_75 {X : Cx} (o : Ok X RX6 cX6_addPlace 4 0 0 0 0 none) (f : Nat)  (x0 : Nat) (x3 : Int32) (h : Hp) : Sim X (z_Zv X 0 0) 0 0 75 [(0, rf (xG X) x0), (3, .int x3)] [] h (b_X6_addPlace_75 f x0 x3 h) := by
  unfold b_X6_addPlace_75
  refine s_aload_n o 0 rfl dX6_addPlace_75 (q := 76) rfl ?_
  refine s_gr o kf_X6_87 dX6_addPlace_76 (q := 79) rfl (fun a1_ => ?_)
  refine s_iload_n o 1 rfl dX6_addPlace_79 (q := 80) rfl ?_
  refine s_dup2 o rfl rfl dX6_addPlace_80 (q := 81) rfl ?_
  refine s_iald o dX6_addPlace_81 (q := 82) rfl (fun v2_ => ?_)
  refine s_iconst o dX6_addPlace_82 (v := (1 : Int32)) (by decide) (q := 83) rfl ?_
  refine s_iadd o dX6_addPlace_83 (q := 84) rfl ?_
  refine s_iast o dX6_addPlace_84 (q := 85) rfl (fun h3_ => ?_)
  exact s_vret o dX6_addPlace_85
set_option maxRecDepth 20000 in
theorem t_X6_addPlace_36 {X : Cx} (o : Ok X RX6 cX6_addPlace 4 0 0 0 0 none) (f : Nat)  (x0 : Nat) (x1 : Int32) (x2 : Int32) (x3 : Int32) (h : Hp) : Sim X (z_Zv X 0 0) 0 0 36 [(0, rf (xG X) x0), (1, .int x1), (2, .int x2), (3, .int x3)] [] h (b_X6_addPlace_36 f x0 x1 x2 x3 h) := by
  unfold b_X6_addPlace_36
  refine s_iload_n o 3 rfl dX6_addPlace_36 (q := 37) rfl ?_
  refine s_aload_n o 0 rfl dX6_addPlace_37 (q := 38) rfl ?_
  refine s_gi o kf_X6_335 dX6_addPlace_38 (q := 41) rfl (fun v1_ => ?_)
  refine s_ic_ne o (tgt := 75) dX6_addPlace_41 (by decide) (q := 44) rfl ?_ ?_
  · exact s_sub [0, 3] rfl (t_X6_addPlace_75 o f x0 x3 h)
  · refine s_aload_n o 0 rfl dX6_addPlace_44 (q := 45) rfl ?_
    refine s_gr o kf_X6_81 dX6_addPlace_45 (q := 48) rfl (fun a2_ => ?_)
    refine s_iload_n o 3 rfl dX6_addPlace_48 (q := 49) rfl ?_
    refine s_iload_n o 1 rfl dX6_addPlace_49 (q := 50) rfl ?_
    refine s_iast o dX6_addPlace_50 (q := 51) rfl (fun h3_ => ?_)
    refine s_aload_n o 0 rfl dX6_addPlace_51 (q := 52) rfl ?_
    refine s_gr o kf_X6_84 dX6_addPlace_52 (q := 55) rfl (fun a4_ => ?_)
    refine s_iload_n o 3 rfl dX6_addPlace_55 (q := 56) rfl ?_
    refine s_iload_n o 2 rfl dX6_addPlace_56 (q := 57) rfl ?_
    refine s_iast o dX6_addPlace_57 (q := 58) rfl (fun h5_ => ?_)
    refine s_aload_n o 0 rfl dX6_addPlace_58 (q := 59) rfl ?_
    refine s_gr o kf_X6_87 dX6_addPlace_59 (q := 62) rfl (fun a6_ => ?_)
    refine s_iload_n o 3 rfl dX6_addPlace_62 (q := 63) rfl ?_
    refine s_iconst o dX6_addPlace_63 (v := (0 : Int32)) (by decide) (q := 64) rfl ?_
    refine s_iast o dX6_addPlace_64 (q := 65) rfl (fun h7_ => ?_)
    refine s_aload_n o 0 rfl dX6_addPlace_65 (q := 66) rfl ?_
    refine s_dup o rfl dX6_addPlace_66 (q := 67) rfl ?_
    refine s_gi o kf_X6_335 dX6_addPlace_67 (q := 70) rfl (fun v8_ => ?_)
    refine s_iconst o dX6_addPlace_70 (v := (1 : Int32)) (by decide) (q := 71) rfl ?_
    refine s_iadd o dX6_addPlace_71 (q := 72) rfl ?_
    refine s_pi o kf_X6_335 dX6_addPlace_72 (q := 75) rfl (fun h9_ => ?_)
    exact s_sub [0, 3] rfl (t_X6_addPlace_75 o f x0 x3 h9_)
set_option maxRecDepth 20000 in
theorem t_X6_addPlace_30 {X : Cx} (o : Ok X RX6 cX6_addPlace 4 0 0 0 0 none) (f : Nat) {k2 : Nat → Int32 → Int32 → Int32 → Hp → Option (Hp)} (hk2 : ∀ (x0 : Nat) (x1 : Int32) (x2 : Int32) (x3 : Int32) (h : Hp), Sim X (z_Zv X 0 0) 0 0 2 [(0, rf (xG X) x0), (1, .int x1), (2, .int x2), (3, .int x3)] [] h (k2 x0 x1 x2 x3 h)) (x0 : Nat) (x1 : Int32) (x2 : Int32) (x3 : Int32) (h : Hp) : Sim X (z_Zv X 0 0) 0 0 30 [(0, rf (xG X) x0), (1, .int x1), (2, .int x2), (3, .int x3)] [] h (b_X6_addPlace_30 f k2 x0 x1 x2 x3 h) := by
  unfold b_X6_addPlace_30
  refine s_iinc o 3 rfl (v := (1 : Int32)) (by decide) [1, 2, 3, 0] (lv' := fun v1_ => [(0, rf (xG X) x0), (1, .int x1), (2, .int x2), (3, .int v1_)]) (fun _ => rfl) dX6_addPlace_30 (by decide) (q := 33) rfl (fun v1_ => ?_)
  refine s_goto o (tgt := 2) dX6_addPlace_33 (by decide) ?_
  exact s_sub [0, 1, 2, 3] rfl (hk2 x0 x1 x2 v1_ h)
set_option maxRecDepth 20000 in
theorem t_X6_addPlace_2 {X : Cx} (o : Ok X RX6 cX6_addPlace 4 0 0 0 0 none) (f : Nat) {k2 : Nat → Int32 → Int32 → Int32 → Hp → Option (Hp)} (hk2 : ∀ (x0 : Nat) (x1 : Int32) (x2 : Int32) (x3 : Int32) (h : Hp), Sim X (z_Zv X 0 0) 0 0 2 [(0, rf (xG X) x0), (1, .int x1), (2, .int x2), (3, .int x3)] [] h (k2 x0 x1 x2 x3 h)) (x0 : Nat) (x1 : Int32) (x2 : Int32) (x3 : Int32) (h : Hp) : Sim X (z_Zv X 0 0) 0 0 2 [(0, rf (xG X) x0), (1, .int x1), (2, .int x2), (3, .int x3)] [] h (b_X6_addPlace_2 f k2 x0 x1 x2 x3 h) := by
  unfold b_X6_addPlace_2
  refine s_iload_n o 3 rfl dX6_addPlace_2 (q := 3) rfl ?_
  refine s_aload_n o 0 rfl dX6_addPlace_3 (q := 4) rfl ?_
  refine s_gi o kf_X6_335 dX6_addPlace_4 (q := 7) rfl (fun v1_ => ?_)
  refine s_ic_ge o (tgt := 36) dX6_addPlace_7 (by decide) (q := 10) rfl ?_ ?_
  · exact s_sub [0, 1, 2, 3] rfl (t_X6_addPlace_36 o f x0 x1 x2 x3 h)
  · refine s_aload_n o 0 rfl dX6_addPlace_10 (q := 11) rfl ?_
    refine s_gr o kf_X6_81 dX6_addPlace_11 (q := 14) rfl (fun a2_ => ?_)
    refine s_iload_n o 3 rfl dX6_addPlace_14 (q := 15) rfl ?_
    refine s_iald o dX6_addPlace_15 (q := 16) rfl (fun v3_ => ?_)
    refine s_iload_n o 1 rfl dX6_addPlace_16 (q := 17) rfl ?_
    refine s_ic_ne o (tgt := 30) dX6_addPlace_17 (by decide) (q := 20) rfl ?_ ?_
    · exact s_sub [0, 1, 2, 3] rfl (t_X6_addPlace_30 o f hk2 x0 x1 x2 x3 h)
    · refine s_aload_n o 0 rfl dX6_addPlace_20 (q := 21) rfl ?_
      refine s_gr o kf_X6_84 dX6_addPlace_21 (q := 24) rfl (fun a4_ => ?_)
      refine s_iload_n o 3 rfl dX6_addPlace_24 (q := 25) rfl ?_
      refine s_iald o dX6_addPlace_25 (q := 26) rfl (fun v5_ => ?_)
      refine s_iload_n o 2 rfl dX6_addPlace_26 (q := 27) rfl ?_
      refine s_ic_eq o (tgt := 36) dX6_addPlace_27 (by decide) (q := 30) rfl ?_ ?_
      · exact s_sub [0, 1, 2, 3] rfl (t_X6_addPlace_36 o f x0 x1 x2 x3 h)
      · exact s_sub [0, 1, 2, 3] rfl (t_X6_addPlace_30 o f hk2 x0 x1 x2 x3 h)
theorem tl_X6_addPlace_2 {X : Cx} (o : Ok X RX6 cX6_addPlace 4 0 0 0 0 none) (f : Nat)  : ∀ (n : Nat) (x0 : Nat) (x1 : Int32) (x2 : Int32) (x3 : Int32) (h : Hp), Sim X (z_Zv X 0 0) 0 0 2 [(0, rf (xG X) x0), (1, .int x1), (2, .int x2), (3, .int x3)] [] h (l_X6_addPlace_2 f n x0 x1 x2 x3 h) := by
  intro n
  induction n with
  | zero => intro x0 x1 x2 x3 h; exact s_none
  | succ n ih => intro x0 x1 x2 x3 h; exact t_X6_addPlace_2 o f  ih x0 x1 x2 x3 h
set_option maxRecDepth 20000 in
theorem t_X6_addPlace_0 {X : Cx} (o : Ok X RX6 cX6_addPlace 4 0 0 0 0 none) (f : Nat)  (x0 : Nat) (x1 : Int32) (x2 : Int32) (h : Hp) : Sim X (z_Zv X 0 0) 0 0 0 [(0, rf (xG X) x0), (1, .int x1), (2, .int x2)] [] h (f_X6_addPlace f x0 x1 x2 h) := by
  unfold f_X6_addPlace
  refine s_iconst o dX6_addPlace_0 (v := (0 : Int32)) (by decide) (q := 1) rfl ?_
  refine s_istore_n o [1, 2, 3, 0] (lv' := [(0, rf (xG X) x0), (1, .int x1), (2, .int x2), (3, .int (0 : Int32))]) rfl dX6_addPlace_1 (by decide) (q := 2) rfl ?_
  exact s_sub [0, 1, 2, 3] rfl (tl_X6_addPlace_2 o f f x0 x1 x2 (0 : Int32) h)
theorem c_X6_addPlace (G : Gx) (f : Nat) (x0 : Nat) (x1 : Int32) (x2 : Int32) (h : Hp) : z_M z_qv G yX6_addPlace cX6_addPlace 4 none 0 0 0 0 [rf G x0, .int x1, .int x2] h (f_X6_addPlace f x0 x1 x2 h) :=
  z_met (by decide +kernel) (Nat.le_of_ble_eq_true rfl) (fun X hG hn o hnm => by
    subst hG
    show Sim X (z_Zv X 0 0) 0 0 0 [(0, rf (xG X) x0), (1, .int x1), (2, .int x2)] [] h _
    exact s_sub [0, 1, 2] rfl (t_X6_addPlace_0 o f x0 x1 x2 h))
/-! SixMapsModel.in(JJJ)Z -/
def b_X6_in_18 (f : Nat)  (y0 : Int32) (h : Hp) : Option (Int32 × Hp) :=
  q_bo y0 (some (y0, h))
def b_X6_in_17 (f : Nat)   (h : Hp) : Option (Int32 × Hp) :=
  b_X6_in_18 f (0 : Int32) h
def f_X6_in (f : Nat)  (x0 : Int64) (x2 : Int64) (x4 : Int64) (h : Hp) : Option (Int32 × Hp) :=
  if (lg_cmp x0 x2) < 0 then
  (b_X6_in_17 f h)
  else
  (if 0 < (lg_cmp x0 x4) then
  (b_X6_in_17 f h)
  else
  (b_X6_in_18 f (1 : Int32) h))
set_option maxRecDepth 20000 in
theorem t_X6_in_18 {X : Cx} (o : Ok X RX6 cX6_in 6 0 0 0 0 (some .boolean)) (f : Nat)  (y0 : Int32) (h : Hp) : Sim X (z_Zi X 0 0) 0 0 18 [] [.int y0] h (b_X6_in_18 f y0 h) := by
  unfold b_X6_in_18
  exact s_zret o dX6_in_18
set_option maxRecDepth 20000 in
theorem t_X6_in_17 {X : Cx} (o : Ok X RX6 cX6_in 6 0 0 0 0 (some .boolean)) (f : Nat)   (h : Hp) : Sim X (z_Zi X 0 0) 0 0 17 [] [] h (b_X6_in_17 f h) := by
  unfold b_X6_in_17
  refine s_iconst o dX6_in_17 (v := (0 : Int32)) (by decide) (q := 18) rfl ?_
  exact s_sub [] rfl (t_X6_in_18 o f (0 : Int32) h)
set_option maxRecDepth 20000 in
theorem t_X6_in_0 {X : Cx} (o : Ok X RX6 cX6_in 6 0 0 0 0 (some .boolean)) (f : Nat)  (x0 : Int64) (x2 : Int64) (x4 : Int64) (h : Hp) : Sim X (z_Zi X 0 0) 0 0 0 [(0, .long x0), (2, .long x2), (4, .long x4)] [] h (f_X6_in f x0 x2 x4 h) := by
  unfold f_X6_in
  refine s_lload_n o 0 rfl dX6_in_0 (q := 1) rfl ?_
  refine s_lload_n o 1 rfl dX6_in_1 (q := 2) rfl ?_
  refine s_lcmp o dX6_in_2 (q := 3) rfl ?_
  refine s_if_lt o (tgt := 17) dX6_in_3 (by decide) (q := 6) rfl ?_ ?_
  · exact s_sub [] rfl (t_X6_in_17 o f h)
  · refine s_lload_n o 0 rfl dX6_in_6 (q := 7) rfl ?_
    refine s_lload o 2 rfl dX6_in_7 (q := 9) rfl ?_
    refine s_lcmp o dX6_in_9 (q := 10) rfl ?_
    refine s_if_gt o (tgt := 17) dX6_in_10 (by decide) (q := 13) rfl ?_ ?_
    · exact s_sub [] rfl (t_X6_in_17 o f h)
    · refine s_iconst o dX6_in_13 (v := (1 : Int32)) (by decide) (q := 14) rfl ?_
      refine s_goto o (tgt := 18) dX6_in_14 (by decide) ?_
      exact s_sub [] rfl (t_X6_in_18 o f (1 : Int32) h)
theorem c_X6_in (G : Gx) (f : Nat) (x0 : Int64) (x2 : Int64) (x4 : Int64) (h : Hp) : z_M z_qi G yX6_in cX6_in 6 (some .boolean) 0 0 0 0 [.long x0, .long x2, .long x4] h (f_X6_in f x0 x2 x4 h) :=
  z_met (by decide +kernel) (Nat.le_of_ble_eq_true rfl) (fun X hG hn o hnm => by
    subst hG
    show Sim X (z_Zi X 0 0) 0 0 0 [(0, .long x0), (2, .long x2), (4, .long x4)] [] h _
    exact s_sub [0, 1, 2] rfl (t_X6_in_0 o f x0 x2 x4 h))
/-! SixMapsModel.isBand(I)Z -/
def f_X6_isBand (f : Nat)  (x0 : Int32) (h : Hp) : Option (Int32 × Hp) :=
  bi (f_X6_in f x0.toInt64 (0 : Int64) (5 : Int64) h) fun v2_ h1_ =>
  q_bo v2_ (some (v2_, h1_))
set_option maxRecDepth 20000 in
theorem t_X6_isBand_0 {X : Cx} (o : Ok X RX6 cX6_isBand 1 1 25 0 0 (some .boolean)) (f : Nat)  (x0 : Int32) (h : Hp) : Sim X (z_Zi X 0 0) 0 0 0 [(0, .int x0)] [] h (f_X6_isBand f x0 h) := by
  unfold f_X6_isBand
  refine s_iload_n o 0 rfl dX6_isBand_0 (q := 1) rfl ?_
  refine s_i2l o dX6_isBand_1 (q := 2) rfl ?_
  refine s_lconst o dX6_isBand_2 (v := (0 : Int64)) (by decide) (q := 3) rfl ?_
  refine s_ldc2 o kl_X6_118 dX6_isBand_3 (q := 6) rfl ?_
  refine s_bi (fun r0 hr0 => runS o cs_X6_114 (c_X6_in (xG X) f x0.toInt64 (0 : Int64) (5 : Int64) h (xl X) r0 hr0) ⟨Nat.le_of_ble_eq_true rfl, Nat.le_of_ble_eq_true rfl⟩ rfl rfl (Nat.le_of_ble_eq_true rfl) dX6_isBand_6 ⟨Nat.le_of_ble_eq_true rfl, Nat.le_of_ble_eq_true rfl⟩) (q := 9) rfl (cs' := 0) rfl (sl' := 0) rfl (fun v2_ h1_ => ?_)
  exact s_zret o dX6_isBand_9
theorem c_X6_isBand (G : Gx) (f : Nat) (x0 : Int32) (h : Hp) : z_M z_qi G yX6_isBand cX6_isBand 1 (some .boolean) 1 25 0 0 [.int x0] h (f_X6_isBand f x0 h) :=
  z_met (by decide +kernel) (Nat.le_of_ble_eq_true rfl) (fun X hG hn o hnm => by
    subst hG
    show Sim X (z_Zi X 0 0) 0 0 0 [(0, .int x0)] [] h _
    exact s_sub [0] rfl (t_X6_isBand_0 o f x0 h))
/-! SixMapsModel.areTwo(II)Z -/
def b_X6_areTwo_24 (f : Nat)  (y0 : Int32) (h : Hp) : Option (Int32 × Hp) :=
  q_bo y0 (some (y0, h))
def b_X6_areTwo_23 (f : Nat)   (h : Hp) : Option (Int32 × Hp) :=
  b_X6_areTwo_24 f (0 : Int32) h
def f_X6_areTwo (f : Nat)  (x0 : Int32) (x1 : Int32) (h : Hp) : Option (Int32 × Hp) :=
  bi (f_X6_isBand f x0 h) fun v2_ h1_ =>
  if v2_ = 0 then
  (b_X6_areTwo_23 f h1_)
  else
  (bi (f_X6_isBand f x1 h1_) fun v4_ h3_ =>
  if v4_ = 0 then
  (b_X6_areTwo_23 f h3_)
  else
  (if x0 = x1 then
  (b_X6_areTwo_23 f h3_)
  else
  (b_X6_areTwo_24 f (1 : Int32) h3_)))
set_option maxRecDepth 20000 in
theorem t_X6_areTwo_24 {X : Cx} (o : Ok X RX6 cX6_areTwo 2 2 45 0 0 (some .boolean)) (f : Nat)  (y0 : Int32) (h : Hp) : Sim X (z_Zi X 0 0) 0 0 24 [] [.int y0] h (b_X6_areTwo_24 f y0 h) := by
  unfold b_X6_areTwo_24
  exact s_zret o dX6_areTwo_24
set_option maxRecDepth 20000 in
theorem t_X6_areTwo_23 {X : Cx} (o : Ok X RX6 cX6_areTwo 2 2 45 0 0 (some .boolean)) (f : Nat)   (h : Hp) : Sim X (z_Zi X 0 0) 0 0 23 [] [] h (b_X6_areTwo_23 f h) := by
  unfold b_X6_areTwo_23
  refine s_iconst o dX6_areTwo_23 (v := (0 : Int32)) (by decide) (q := 24) rfl ?_
  exact s_sub [] rfl (t_X6_areTwo_24 o f (0 : Int32) h)
set_option maxRecDepth 20000 in
theorem t_X6_areTwo_0 {X : Cx} (o : Ok X RX6 cX6_areTwo 2 2 45 0 0 (some .boolean)) (f : Nat)  (x0 : Int32) (x1 : Int32) (h : Hp) : Sim X (z_Zi X 0 0) 0 0 0 [(0, .int x0), (1, .int x1)] [] h (f_X6_areTwo f x0 x1 h) := by
  unfold f_X6_areTwo
  refine s_iload_n o 0 rfl dX6_areTwo_0 (q := 1) rfl ?_
  refine s_bi (fun r0 hr0 => runS o cs_X6_267 (c_X6_isBand (xG X) f x0 h (xl X) r0 hr0) ⟨Nat.le_of_ble_eq_true rfl, Nat.le_of_ble_eq_true rfl⟩ rfl rfl (Nat.le_of_ble_eq_true rfl) dX6_areTwo_1 ⟨Nat.le_of_ble_eq_true rfl, Nat.le_of_ble_eq_true rfl⟩) (q := 4) rfl (cs' := 0) rfl (sl' := 0) rfl (fun v2_ h1_ => ?_)
  refine s_if_eq o (tgt := 23) dX6_areTwo_4 (by decide) (q := 7) rfl ?_ ?_
  · exact s_sub [] rfl (t_X6_areTwo_23 o f h1_)
  · refine s_iload_n o 1 rfl dX6_areTwo_7 (q := 8) rfl ?_
    refine s_bi (fun r0 hr0 => runS o cs_X6_267 (c_X6_isBand (xG X) f x1 h1_ (xl X) r0 hr0) ⟨Nat.le_of_ble_eq_true rfl, Nat.le_of_ble_eq_true rfl⟩ rfl rfl (Nat.le_of_ble_eq_true rfl) dX6_areTwo_8 ⟨Nat.le_of_ble_eq_true rfl, Nat.le_of_ble_eq_true rfl⟩) (q := 11) rfl (cs' := 0) rfl (sl' := 0) rfl (fun v4_ h3_ => ?_)
    refine s_if_eq o (tgt := 23) dX6_areTwo_11 (by decide) (q := 14) rfl ?_ ?_
    · exact s_sub [] rfl (t_X6_areTwo_23 o f h3_)
    · refine s_iload_n o 0 rfl dX6_areTwo_14 (q := 15) rfl ?_
      refine s_iload_n o 1 rfl dX6_areTwo_15 (q := 16) rfl ?_
      refine s_ic_eq o (tgt := 23) dX6_areTwo_16 (by decide) (q := 19) rfl ?_ ?_
      · exact s_sub [] rfl (t_X6_areTwo_23 o f h3_)
      · refine s_iconst o dX6_areTwo_19 (v := (1 : Int32)) (by decide) (q := 20) rfl ?_
        refine s_goto o (tgt := 24) dX6_areTwo_20 (by decide) ?_
        exact s_sub [] rfl (t_X6_areTwo_24 o f (1 : Int32) h3_)
theorem c_X6_areTwo (G : Gx) (f : Nat) (x0 : Int32) (x1 : Int32) (h : Hp) : z_M z_qi G yX6_areTwo cX6_areTwo 2 (some .boolean) 2 45 0 0 [.int x0, .int x1] h (f_X6_areTwo f x0 x1 h) :=
  z_met (by decide +kernel) (Nat.le_of_ble_eq_true rfl) (fun X hG hn o hnm => by
    subst hG
    show Sim X (z_Zi X 0 0) 0 0 0 [(0, .int x0), (1, .int x1)] [] h _
    exact s_sub [0, 1] rfl (t_X6_areTwo_0 o f x0 x1 h))
/-! SixMapsModel.bits(I)I -/
def b_X6_bits_4 (f : Nat) (k4 : Int32 → Int32 → Int32 → Hp → Option (Int32 × Hp)) (x0 : Int32) (x1 : Int32) (x2 : Int32) (h : Hp) : Option (Int32 × Hp) :=
  if (9 : Int32) ≤ x2 then
  (some (x1, h))
  else
  (lt (x1 + ((x0 >>> (x2 &&& 31)) &&& (1 : Int32))) fun v1_ =>
  lt (x2 + (1 : Int32)) fun v2_ =>
  k4 x0 v1_ v2_ h)
def l_X6_bits_4 (f : Nat)  : Nat → Int32 → Int32 → Int32 → Hp → Option (Int32 × Hp)
  | 0, _, _, _, _ => none
  | n + 1, x0, x1, x2, h => b_X6_bits_4 f  (l_X6_bits_4 f  n) x0 x1 x2 h
def f_X6_bits (f : Nat)  (x0 : Int32) (h : Hp) : Option (Int32 × Hp) :=
  l_X6_bits_4 f f x0 (0 : Int32) (0 : Int32) h
set_option maxRecDepth 20000 in
theorem t_X6_bits_4 {X : Cx} (o : Ok X RX6 cX6_bits 3 0 0 0 0 (some .int)) (f : Nat) {k4 : Int32 → Int32 → Int32 → Hp → Option (Int32 × Hp)} (hk4 : ∀ (x0 : Int32) (x1 : Int32) (x2 : Int32) (h : Hp), Sim X (z_Zi X 0 0) 0 0 4 [(0, .int x0), (1, .int x1), (2, .int x2)] [] h (k4 x0 x1 x2 h)) (x0 : Int32) (x1 : Int32) (x2 : Int32) (h : Hp) : Sim X (z_Zi X 0 0) 0 0 4 [(0, .int x0), (1, .int x1), (2, .int x2)] [] h (b_X6_bits_4 f k4 x0 x1 x2 h) := by
  unfold b_X6_bits_4
  refine s_iload_n o 2 rfl dX6_bits_4 (q := 5) rfl ?_
  refine s_bipush o dX6_bits_5 (v := (9 : Int32)) (by decide) (q := 7) rfl ?_
  refine s_ic_ge o (tgt := 24) dX6_bits_7 (by decide) (q := 10) rfl ?_ ?_
  · refine s_iload_n o 1 rfl dX6_bits_24 (q := 25) rfl ?_
    exact s_iret o dX6_bits_25
  · refine s_iload_n o 1 rfl dX6_bits_10 (q := 11) rfl ?_
    refine s_iload_n o 0 rfl dX6_bits_11 (q := 12) rfl ?_
    refine s_iload_n o 2 rfl dX6_bits_12 (q := 13) rfl ?_
    refine s_ishr o dX6_bits_13 (q := 14) rfl ?_
    refine s_iconst o dX6_bits_14 (v := (1 : Int32)) (by decide) (q := 15) rfl ?_
    refine s_iand o dX6_bits_15 (q := 16) rfl ?_
    refine s_iadd o dX6_bits_16 (q := 17) rfl ?_
    refine s_let (fun v1_ => ?_)
    refine s_istore_n o [1, 0, 2] (lv' := [(0, .int x0), (1, .int v1_), (2, .int x2)]) rfl dX6_bits_17 (by decide) (q := 18) rfl ?_
    refine s_iinc o 2 rfl (v := (1 : Int32)) (by decide) [1, 2, 0] (lv' := fun v2_ => [(0, .int x0), (1, .int v1_), (2, .int v2_)]) (fun _ => rfl) dX6_bits_18 (by decide) (q := 21) rfl (fun v2_ => ?_)
    refine s_goto o (tgt := 4) dX6_bits_21 (by decide) ?_
    exact s_sub [0, 1, 2] rfl (hk4 x0 v1_ v2_ h)
theorem tl_X6_bits_4 {X : Cx} (o : Ok X RX6 cX6_bits 3 0 0 0 0 (some .int)) (f : Nat)  : ∀ (n : Nat) (x0 : Int32) (x1 : Int32) (x2 : Int32) (h : Hp), Sim X (z_Zi X 0 0) 0 0 4 [(0, .int x0), (1, .int x1), (2, .int x2)] [] h (l_X6_bits_4 f n x0 x1 x2 h) := by
  intro n
  induction n with
  | zero => intro x0 x1 x2 h; exact s_none
  | succ n ih => intro x0 x1 x2 h; exact t_X6_bits_4 o f  ih x0 x1 x2 h
set_option maxRecDepth 20000 in
theorem t_X6_bits_0 {X : Cx} (o : Ok X RX6 cX6_bits 3 0 0 0 0 (some .int)) (f : Nat)  (x0 : Int32) (h : Hp) : Sim X (z_Zi X 0 0) 0 0 0 [(0, .int x0)] [] h (f_X6_bits f x0 h) := by
  unfold f_X6_bits
  refine s_iconst o dX6_bits_0 (v := (0 : Int32)) (by decide) (q := 1) rfl ?_
  refine s_istore_n o [1, 0] (lv' := [(0, .int x0), (1, .int (0 : Int32))]) rfl dX6_bits_1 (by decide) (q := 2) rfl ?_
  refine s_iconst o dX6_bits_2 (v := (0 : Int32)) (by decide) (q := 3) rfl ?_
  refine s_istore_n o [1, 2, 0] (lv' := [(0, .int x0), (1, .int (0 : Int32)), (2, .int (0 : Int32))]) rfl dX6_bits_3 (by decide) (q := 4) rfl ?_
  exact s_sub [0, 1, 2] rfl (tl_X6_bits_4 o f f x0 (0 : Int32) (0 : Int32) h)
theorem c_X6_bits (G : Gx) (f : Nat) (x0 : Int32) (h : Hp) : z_M z_qi G yX6_bits cX6_bits 3 (some .int) 0 0 0 0 [.int x0] h (f_X6_bits f x0 h) :=
  z_met (by decide +kernel) (Nat.le_of_ble_eq_true rfl) (fun X hG hn o hnm => by
    subst hG
    show Sim X (z_Zi X 0 0) 0 0 0 [(0, .int x0)] [] h _
    exact s_sub [0] rfl (t_X6_bits_0 o f x0 h))
/-! SixMapsModel.endOf(II)I -/
def b_X6_endOf_34 (f : Nat)  (y0 : Int32) (h : Hp) : Option (Int32 × Hp) :=
  some (y0, h)
def f_X6_endOf (f : Nat)  (x0 : Nat) (x1 : Int32) (x2 : Int32) (h : Hp) : Option (Int32 × Hp) :=
  (q_gr h x0 6 41).bind fun a1_ =>
  (q_ai h a1_ 10 x1).bind fun v2_ =>
  if v2_ = 0 then
  ((q_gr h x0 6 42).bind fun a3_ =>
  (q_ai h a3_ 9 (((4 : Int32) * x1) + x2)).bind fun v4_ =>
  b_X6_endOf_34 f v4_ h)
  else
  (q_nz (2 : Int32) (
  if ¬ (x2 - x2 / (2 : Int32) * (2 : Int32)) = 0 then
  (b_X6_endOf_34 f (99 : Int32) h)
  else
  (b_X6_endOf_34 f (0 : Int32) h)))
set_option maxRecDepth 20000 in
theorem t_X6_endOf_34 {X : Cx} (o : Ok X RX6 cX6_endOf 3 0 0 0 0 (some .int)) (f : Nat)  (y0 : Int32) (h : Hp) : Sim X (z_Zi X 0 0) 0 0 34 [] [.int y0] h (b_X6_endOf_34 f y0 h) := by
  unfold b_X6_endOf_34
  exact s_iret o dX6_endOf_34
set_option maxRecDepth 20000 in
theorem t_X6_endOf_0 {X : Cx} (o : Ok X RX6 cX6_endOf 3 0 0 0 0 (some .int)) (f : Nat)  (x0 : Nat) (x1 : Int32) (x2 : Int32) (h : Hp) : Sim X (z_Zi X 0 0) 0 0 0 [(0, rf (xG X) x0), (1, .int x1), (2, .int x2)] [] h (f_X6_endOf f x0 x1 x2 h) := by
  unfold f_X6_endOf
  refine s_aload_n o 0 rfl dX6_endOf_0 (q := 1) rfl ?_
  refine s_gr o kf_X6_72 dX6_endOf_1 (q := 4) rfl (fun a1_ => ?_)
  refine s_iload_n o 1 rfl dX6_endOf_4 (q := 5) rfl ?_
  refine s_zald o dX6_endOf_5 (q := 6) rfl (fun v2_ => ?_)
  refine s_if_eq o (tgt := 24) dX6_endOf_6 (by decide) (q := 9) rfl ?_ ?_
  · refine s_aload_n o 0 rfl dX6_endOf_24 (q := 25) rfl ?_
    refine s_gr o kf_X6_75 dX6_endOf_25 (q := 28) rfl (fun a3_ => ?_)
    refine s_iconst o dX6_endOf_28 (v := (4 : Int32)) (by decide) (q := 29) rfl ?_
    refine s_iload_n o 1 rfl dX6_endOf_29 (q := 30) rfl ?_
    refine s_imul o dX6_endOf_30 (q := 31) rfl ?_
    refine s_iload_n o 2 rfl dX6_endOf_31 (q := 32) rfl ?_
    refine s_iadd o dX6_endOf_32 (q := 33) rfl ?_
    refine s_iald o dX6_endOf_33 (q := 34) rfl (fun v4_ => ?_)
    exact s_sub [] rfl (t_X6_endOf_34 o f v4_ h)
  · refine s_iload_n o 2 rfl dX6_endOf_9 (q := 10) rfl ?_
    refine s_iconst o dX6_endOf_10 (v := (2 : Int32)) (by decide) (q := 11) rfl ?_
    refine s_irem o dX6_endOf_11 (q := 12) rfl ?_
    refine s_if_ne o (tgt := 19) dX6_endOf_12 (by decide) (q := 15) rfl ?_ ?_
    · refine s_bipush o dX6_endOf_19 (v := (99 : Int32)) (by decide) (q := 21) rfl ?_
      refine s_goto o (tgt := 34) dX6_endOf_21 (by decide) ?_
      exact s_sub [] rfl (t_X6_endOf_34 o f (99 : Int32) h)
    · refine s_iconst o dX6_endOf_15 (v := (0 : Int32)) (by decide) (q := 16) rfl ?_
      refine s_goto o (tgt := 34) dX6_endOf_16 (by decide) ?_
      exact s_sub [] rfl (t_X6_endOf_34 o f (0 : Int32) h)
theorem c_X6_endOf (G : Gx) (f : Nat) (x0 : Nat) (x1 : Int32) (x2 : Int32) (h : Hp) : z_M z_qi G yX6_endOf cX6_endOf 3 (some .int) 0 0 0 0 [rf G x0, .int x1, .int x2] h (f_X6_endOf f x0 x1 x2 h) :=
  z_met (by decide +kernel) (Nat.le_of_ble_eq_true rfl) (fun X hG hn o hnm => by
    subst hG
    show Sim X (z_Zi X 0 0) 0 0 0 [(0, rf (xG X) x0), (1, .int x1), (2, .int x2)] [] h _
    exact s_sub [0, 1, 2] rfl (t_X6_endOf_0 o f x0 x1 x2 h))
/-! SixMapsModel.findArea()V -/
def b_X6_findArea_22 (f : Nat) (k2 : Nat → Int32 → Hp → Option (Hp)) (x0 : Nat) (x1 : Int32) (y0 : Int32) (h : Hp) : Option (Hp) :=
  (q_gr h x0 6 43).bind fun a1_ =>
  (q_gr h x0 6 8).bind fun a2_ =>
  (q_ai h a2_ 9 (0 : Int32)).bind fun v3_ =>
  q_on h x0 6 (
  bi (f_X6_endOf f x0 v3_ x1 h) fun v6_ h5_ =>
  (q_gr h5_ x0 6 8).bind fun a7_ =>
  (q_ai h5_ a7_ 9 (1 : Int32)).bind fun v8_ =>
  q_on h5_ x0 6 (
  bi (f_X6_endOf f x0 v8_ x1 h5_) fun v11_ h10_ =>
  (q_gr h10_ x0 6 8).bind fun a12_ =>
  (q_ai h10_ a12_ 9 (2 : Int32)).bind fun v13_ =>
  q_on h10_ x0 6 (
  bi (f_X6_endOf f x0 v13_ y0 h10_) fun v16_ h15_ =>
  (q_as h15_ a1_ 9 x1 ((v6_ + v11_) - v16_)).bind fun h17_ =>
  lt (x1 + (1 : Int32)) fun v18_ =>
  k2 x0 v18_ h17_)))
def b_X6_findArea_2 (f : Nat) (k2 : Nat → Int32 → Hp → Option (Hp)) (x0 : Nat) (x1 : Int32) (h : Hp) : Option (Hp) :=
  if (4 : Int32) ≤ x1 then
  (some h)
  else
  (q_nz (2 : Int32) (
  if ¬ (x1 - x1 / (2 : Int32) * (2 : Int32)) = 0 then
  (b_X6_findArea_22 f k2 x0 x1 (x1 - (1 : Int32)) h)
  else
  (b_X6_findArea_22 f k2 x0 x1 (x1 + (1 : Int32)) h)))
def l_X6_findArea_2 (f : Nat)  : Nat → Nat → Int32 → Hp → Option (Hp)
  | 0, _, _, _ => none
  | n + 1, x0, x1, h => b_X6_findArea_2 f  (l_X6_findArea_2 f  n) x0 x1 h
def f_X6_findArea (f : Nat)  (x0 : Nat) (h : Hp) : Option (Hp) :=
  l_X6_findArea_2 f f x0 (0 : Int32) h
set_option maxRecDepth 20000 in
theorem t_X6_findArea_22 {X : Cx} (o : Ok X RX6 cX6_findArea 3 1 22 0 0 none) (f : Nat) {k2 : Nat → Int32 → Hp → Option (Hp)} (hk2 : ∀ (x0 : Nat) (x1 : Int32) (h : Hp), Sim X (z_Zv X 0 0) 0 0 2 [(0, rf (xG X) x0), (1, .int x1)] [] h (k2 x0 x1 h)) (x0 : Nat) (x1 : Int32) (y0 : Int32) (h : Hp) : Sim X (z_Zv X 0 0) 0 0 22 [(0, rf (xG X) x0), (1, .int x1)] [.int y0] h (b_X6_findArea_22 f k2 x0 x1 y0 h) := by
  unfold b_X6_findArea_22
  refine s_istore_n o [1, 2, 0] (lv' := [(0, rf (xG X) x0), (1, .int x1), (2, .int y0)]) rfl dX6_findArea_22 (by decide) (q := 23) rfl ?_
  refine s_aload_n o 0 rfl dX6_findArea_23 (q := 24) rfl ?_
  refine s_gr o kf_X6_78 dX6_findArea_24 (q := 27) rfl (fun a1_ => ?_)
  refine s_iload_n o 1 rfl dX6_findArea_27 (q := 28) rfl ?_
  refine s_aload_n o 0 rfl dX6_findArea_28 (q := 29) rfl ?_
  refine s_aload_n o 0 rfl dX6_findArea_29 (q := 30) rfl ?_
  refine s_gr o kf_X6_22 dX6_findArea_30 (q := 33) rfl (fun a2_ => ?_)
  refine s_iconst o dX6_findArea_33 (v := (0 : Int32)) (by decide) (q := 34) rfl ?_
  refine s_iald o dX6_findArea_34 (q := 35) rfl (fun v3_ => ?_)
  refine s_iload_n o 1 rfl dX6_findArea_35 (q := 36) rfl ?_
  refine s_on (fun hk4_ => ?_)
  refine s_bi (fun r0 hr0 => runV o hk4_ cv_X6_312 (c_X6_endOf (xG X) f x0 v3_ x1 h (xl X) r0 hr0) ⟨Nat.le_of_ble_eq_true rfl, Nat.le_of_ble_eq_true rfl⟩ rfl rfl (Nat.le_of_ble_eq_true rfl) dX6_findArea_36 ⟨Nat.le_of_ble_eq_true rfl, Nat.le_of_ble_eq_true rfl⟩) (q := 39) rfl (cs' := 0) rfl (sl' := 0) rfl (fun v6_ h5_ => ?_)
  refine s_aload_n o 0 rfl dX6_findArea_39 (q := 40) rfl ?_
  refine s_aload_n o 0 rfl dX6_findArea_40 (q := 41) rfl ?_
  refine s_gr o kf_X6_22 dX6_findArea_41 (q := 44) rfl (fun a7_ => ?_)
  refine s_iconst o dX6_findArea_44 (v := (1 : Int32)) (by decide) (q := 45) rfl ?_
  refine s_iald o dX6_findArea_45 (q := 46) rfl (fun v8_ => ?_)
  refine s_iload_n o 1 rfl dX6_findArea_46 (q := 47) rfl ?_
  refine s_on (fun hk9_ => ?_)
  refine s_bi (fun r0 hr0 => runV o hk9_ cv_X6_312 (c_X6_endOf (xG X) f x0 v8_ x1 h5_ (xl X) r0 hr0) ⟨Nat.le_of_ble_eq_true rfl, Nat.le_of_ble_eq_true rfl⟩ rfl rfl (Nat.le_of_ble_eq_true rfl) dX6_findArea_47 ⟨Nat.le_of_ble_eq_true rfl, Nat.le_of_ble_eq_true rfl⟩) (q := 50) rfl (cs' := 0) rfl (sl' := 0) rfl (fun v11_ h10_ => ?_)
  refine s_iadd o dX6_findArea_50 (q := 51) rfl ?_
  refine s_aload_n o 0 rfl dX6_findArea_51 (q := 52) rfl ?_
  refine s_aload_n o 0 rfl dX6_findArea_52 (q := 53) rfl ?_
  refine s_gr o kf_X6_22 dX6_findArea_53 (q := 56) rfl (fun a12_ => ?_)
  refine s_iconst o dX6_findArea_56 (v := (2 : Int32)) (by decide) (q := 57) rfl ?_
  refine s_iald o dX6_findArea_57 (q := 58) rfl (fun v13_ => ?_)
  refine s_iload_n o 2 rfl dX6_findArea_58 (q := 59) rfl ?_
  refine s_on (fun hk14_ => ?_)
  refine s_bi (fun r0 hr0 => runV o hk14_ cv_X6_312 (c_X6_endOf (xG X) f x0 v13_ y0 h10_ (xl X) r0 hr0) ⟨Nat.le_of_ble_eq_true rfl, Nat.le_of_ble_eq_true rfl⟩ rfl rfl (Nat.le_of_ble_eq_true rfl) dX6_findArea_59 ⟨Nat.le_of_ble_eq_true rfl, Nat.le_of_ble_eq_true rfl⟩) (q := 62) rfl (cs' := 0) rfl (sl' := 0) rfl (fun v16_ h15_ => ?_)
  refine s_isub o dX6_findArea_62 (q := 63) rfl ?_
  refine s_iast o dX6_findArea_63 (q := 64) rfl (fun h17_ => ?_)
  refine s_iinc o 1 rfl (v := (1 : Int32)) (by decide) [1, 0, 2] (lv' := fun v18_ => [(0, rf (xG X) x0), (1, .int v18_), (2, .int y0)]) (fun _ => rfl) dX6_findArea_64 (by decide) (q := 67) rfl (fun v18_ => ?_)
  refine s_goto o (tgt := 2) dX6_findArea_67 (by decide) ?_
  exact s_sub [0, 1] rfl (hk2 x0 v18_ h17_)
set_option maxRecDepth 20000 in
theorem t_X6_findArea_2 {X : Cx} (o : Ok X RX6 cX6_findArea 3 1 22 0 0 none) (f : Nat) {k2 : Nat → Int32 → Hp → Option (Hp)} (hk2 : ∀ (x0 : Nat) (x1 : Int32) (h : Hp), Sim X (z_Zv X 0 0) 0 0 2 [(0, rf (xG X) x0), (1, .int x1)] [] h (k2 x0 x1 h)) (x0 : Nat) (x1 : Int32) (h : Hp) : Sim X (z_Zv X 0 0) 0 0 2 [(0, rf (xG X) x0), (1, .int x1)] [] h (b_X6_findArea_2 f k2 x0 x1 h) := by
  unfold b_X6_findArea_2
  refine s_iload_n o 1 rfl dX6_findArea_2 (q := 3) rfl ?_
  refine s_iconst o dX6_findArea_3 (v := (4 : Int32)) (by decide) (q := 4) rfl ?_
  refine s_ic_ge o (tgt := 70) dX6_findArea_4 (by decide) (q := 7) rfl ?_ ?_
  · exact s_vret o dX6_findArea_70
  · refine s_iload_n o 1 rfl dX6_findArea_7 (q := 8) rfl ?_
    refine s_iconst o dX6_findArea_8 (v := (2 : Int32)) (by decide) (q := 9) rfl ?_
    refine s_irem o dX6_findArea_9 (q := 10) rfl ?_
    refine s_if_ne o (tgt := 19) dX6_findArea_10 (by decide) (q := 13) rfl ?_ ?_
    · refine s_iload_n o 1 rfl dX6_findArea_19 (q := 20) rfl ?_
      refine s_iconst o dX6_findArea_20 (v := (1 : Int32)) (by decide) (q := 21) rfl ?_
      refine s_isub o dX6_findArea_21 (q := 22) rfl ?_
      exact s_sub [0, 1] rfl (t_X6_findArea_22 o f hk2 x0 x1 (x1 - (1 : Int32)) h)
    · refine s_iload_n o 1 rfl dX6_findArea_13 (q := 14) rfl ?_
      refine s_iconst o dX6_findArea_14 (v := (1 : Int32)) (by decide) (q := 15) rfl ?_
      refine s_iadd o dX6_findArea_15 (q := 16) rfl ?_
      refine s_goto o (tgt := 22) dX6_findArea_16 (by decide) ?_
      exact s_sub [0, 1] rfl (t_X6_findArea_22 o f hk2 x0 x1 (x1 + (1 : Int32)) h)
theorem tl_X6_findArea_2 {X : Cx} (o : Ok X RX6 cX6_findArea 3 1 22 0 0 none) (f : Nat)  : ∀ (n : Nat) (x0 : Nat) (x1 : Int32) (h : Hp), Sim X (z_Zv X 0 0) 0 0 2 [(0, rf (xG X) x0), (1, .int x1)] [] h (l_X6_findArea_2 f n x0 x1 h) := by
  intro n
  induction n with
  | zero => intro x0 x1 h; exact s_none
  | succ n ih => intro x0 x1 h; exact t_X6_findArea_2 o f  ih x0 x1 h
set_option maxRecDepth 20000 in
theorem t_X6_findArea_0 {X : Cx} (o : Ok X RX6 cX6_findArea 3 1 22 0 0 none) (f : Nat)  (x0 : Nat) (h : Hp) : Sim X (z_Zv X 0 0) 0 0 0 [(0, rf (xG X) x0)] [] h (f_X6_findArea f x0 h) := by
  unfold f_X6_findArea
  refine s_iconst o dX6_findArea_0 (v := (0 : Int32)) (by decide) (q := 1) rfl ?_
  refine s_istore_n o [1, 0] (lv' := [(0, rf (xG X) x0), (1, .int (0 : Int32))]) rfl dX6_findArea_1 (by decide) (q := 2) rfl ?_
  exact s_sub [0, 1] rfl (tl_X6_findArea_2 o f f x0 (0 : Int32) h)
theorem c_X6_findArea (G : Gx) (f : Nat) (x0 : Nat) (h : Hp) : z_M z_qv G yX6_findArea cX6_findArea 3 none 1 22 0 0 [rf G x0] h (f_X6_findArea f x0 h) :=
  z_met (by decide +kernel) (Nat.le_of_ble_eq_true rfl) (fun X hG hn o hnm => by
    subst hG
    show Sim X (z_Zv X 0 0) 0 0 0 [(0, rf (xG X) x0)] [] h _
    exact s_sub [0] rfl (t_X6_findArea_0 o f x0 h))
/-! SixMapsModel.has(II)Z -/
def b_X6_has_14 (f : Nat)  (y0 : Int32) (h : Hp) : Option (Int32 × Hp) :=
  q_bo y0 (some (y0, h))
def f_X6_has (f : Nat)  (x0 : Int32) (x1 : Int32) (h : Hp) : Option (Int32 × Hp) :=
  if ¬ ((x0 >>> (x1 &&& 31)) &&& (1 : Int32)) = (1 : Int32) then
  (b_X6_has_14 f (0 : Int32) h)
  else
  (b_X6_has_14 f (1 : Int32) h)
set_option maxRecDepth 20000 in
theorem t_X6_has_14 {X : Cx} (o : Ok X RX6 cX6_has 2 0 0 0 0 (some .boolean)) (f : Nat)  (y0 : Int32) (h : Hp) : Sim X (z_Zi X 0 0) 0 0 14 [] [.int y0] h (b_X6_has_14 f y0 h) := by
  unfold b_X6_has_14
  exact s_zret o dX6_has_14
set_option maxRecDepth 20000 in
theorem t_X6_has_0 {X : Cx} (o : Ok X RX6 cX6_has 2 0 0 0 0 (some .boolean)) (f : Nat)  (x0 : Int32) (x1 : Int32) (h : Hp) : Sim X (z_Zi X 0 0) 0 0 0 [(0, .int x0), (1, .int x1)] [] h (f_X6_has f x0 x1 h) := by
  unfold f_X6_has
  refine s_iload_n o 0 rfl dX6_has_0 (q := 1) rfl ?_
  refine s_iload_n o 1 rfl dX6_has_1 (q := 2) rfl ?_
  refine s_ishr o dX6_has_2 (q := 3) rfl ?_
  refine s_iconst o dX6_has_3 (v := (1 : Int32)) (by decide) (q := 4) rfl ?_
  refine s_iand o dX6_has_4 (q := 5) rfl ?_
  refine s_iconst o dX6_has_5 (v := (1 : Int32)) (by decide) (q := 6) rfl ?_
  refine s_ic_ne o (tgt := 13) dX6_has_6 (by decide) (q := 9) rfl ?_ ?_
  · refine s_iconst o dX6_has_13 (v := (0 : Int32)) (by decide) (q := 14) rfl ?_
    exact s_sub [] rfl (t_X6_has_14 o f (0 : Int32) h)
  · refine s_iconst o dX6_has_9 (v := (1 : Int32)) (by decide) (q := 10) rfl ?_
    refine s_goto o (tgt := 14) dX6_has_10 (by decide) ?_
    exact s_sub [] rfl (t_X6_has_14 o f (1 : Int32) h)
theorem c_X6_has (G : Gx) (f : Nat) (x0 : Int32) (x1 : Int32) (h : Hp) : z_M z_qi G yX6_has cX6_has 2 (some .boolean) 0 0 0 0 [.int x0, .int x1] h (f_X6_has f x0 x1 h) :=
  z_met (by decide +kernel) (Nat.le_of_ble_eq_true rfl) (fun X hG hn o hnm => by
    subst hG
    show Sim X (z_Zi X 0 0) 0 0 0 [(0, .int x0), (1, .int x1)] [] h _
    exact s_sub [0, 1] rfl (t_X6_has_0 o f x0 x1 h))
/-! SixMapsModel.isWithin(II)Z -/
def b_X6_isWithin_127 (f : Nat)  (y0 : Int32) (h : Hp) : Option (Int32 × Hp) :=
  q_bo y0 (some (y0, h))
def b_X6_isWithin_126 (f : Nat)   (h : Hp) : Option (Int32 × Hp) :=
  b_X6_isWithin_127 f (0 : Int32) h
def b_X6_isWithin_66 (f : Nat)  (x0 : Nat) (x2 : Int32) (x4 : Int32) (y0 : Int32) (h : Hp) : Option (Int32 × Hp) :=
  (q_gr h x0 6 41).bind fun a1_ =>
  (q_ai h a1_ 10 x2).bind fun v2_ =>
  if ¬ v2_ = 0 then
  (b_X6_isWithin_126 f h)
  else
  (if y0 = 0 then
  (b_X6_isWithin_126 f h)
  else
  ((q_gr h x0 6 42).bind fun a3_ =>
  (q_ai h a3_ 9 (((4 : Int32) * x2) + (2 : Int32))).bind fun v4_ =>
  (q_gi h x0 6 7).bind fun v5_ =>
  if v4_ < (x4 - v5_) then
  (b_X6_isWithin_126 f h)
  else
  ((q_gr h x0 6 42).bind fun a6_ =>
  (q_ai h a6_ 9 (((4 : Int32) * x2) + (3 : Int32))).bind fun v7_ =>
  (q_gi h x0 6 7).bind fun v8_ =>
  if (x4 + v8_) < v7_ then
  (b_X6_isWithin_126 f h)
  else
  (b_X6_isWithin_127 f (1 : Int32) h))))
def b_X6_isWithin_65 (f : Nat)  (x0 : Nat) (x2 : Int32) (x4 : Int32) (h : Hp) : Option (Int32 × Hp) :=
  b_X6_isWithin_66 f x0 x2 x4 (0 : Int32) h
def f_X6_isWithin (f : Nat)  (x0 : Nat) (x1 : Int32) (x2 : Int32) (h : Hp) : Option (Int32 × Hp) :=
  (q_gr h x0 6 3).bind fun a1_ =>
  (q_ai h a1_ 9 (((9 : Int32) * x1) + x2)).bind fun v2_ =>
  (q_gr h x0 6 4).bind fun a3_ =>
  (q_ai h a3_ 9 (((9 : Int32) * x1) + x2)).bind fun v4_ =>
  (q_gr h x0 6 42).bind fun a5_ =>
  (q_ai h a5_ 9 ((4 : Int32) * x2)).bind fun v6_ =>
  (q_gi h x0 6 7).bind fun v7_ =>
  if v6_ < (v2_ - v7_) then
  (b_X6_isWithin_65 f x0 x2 v4_ h)
  else
  ((q_gr h x0 6 42).bind fun a8_ =>
  (q_ai h a8_ 9 (((4 : Int32) * x2) + (1 : Int32))).bind fun v9_ =>
  (q_gi h x0 6 7).bind fun v10_ =>
  if (v2_ + v10_) < v9_ then
  (b_X6_isWithin_65 f x0 x2 v4_ h)
  else
  (b_X6_isWithin_66 f x0 x2 v4_ (1 : Int32) h))
set_option maxRecDepth 20000 in
theorem t_X6_isWithin_127 {X : Cx} (o : Ok X RX6 cX6_isWithin 6 0 0 0 0 (some .boolean)) (f : Nat)  (y0 : Int32) (h : Hp) : Sim X (z_Zi X 0 0) 0 0 127 [] [.int y0] h (b_X6_isWithin_127 f y0 h) := by
  unfold b_X6_isWithin_127
  exact s_zret o dX6_isWithin_127
set_option maxRecDepth 20000 in
theorem t_X6_isWithin_126 {X : Cx} (o : Ok X RX6 cX6_isWithin 6 0 0 0 0 (some .boolean)) (f : Nat)   (h : Hp) : Sim X (z_Zi X 0 0) 0 0 126 [] [] h (b_X6_isWithin_126 f h) := by
  unfold b_X6_isWithin_126
  refine s_iconst o dX6_isWithin_126 (v := (0 : Int32)) (by decide) (q := 127) rfl ?_
  exact s_sub [] rfl (t_X6_isWithin_127 o f (0 : Int32) h)
set_option maxRecDepth 20000 in
theorem t_X6_isWithin_66 {X : Cx} (o : Ok X RX6 cX6_isWithin 6 0 0 0 0 (some .boolean)) (f : Nat)  (x0 : Nat) (x2 : Int32) (x4 : Int32) (y0 : Int32) (h : Hp) : Sim X (z_Zi X 0 0) 0 0 66 [(0, rf (xG X) x0), (2, .int x2), (4, .int x4)] [.int y0] h (b_X6_isWithin_66 f x0 x2 x4 y0 h) := by
  unfold b_X6_isWithin_66
  refine s_istore o [1, 2, 3, 0] (lv' := [(0, rf (xG X) x0), (2, .int x2), (4, .int x4), (5, .int y0)]) rfl dX6_isWithin_66 (by decide) (q := 68) rfl ?_
  refine s_aload_n o 0 rfl dX6_isWithin_68 (q := 69) rfl ?_
  refine s_gr o kf_X6_72 dX6_isWithin_69 (q := 72) rfl (fun a1_ => ?_)
  refine s_iload_n o 1 rfl dX6_isWithin_72 (q := 73) rfl ?_
  refine s_zald o dX6_isWithin_73 (q := 74) rfl (fun v2_ => ?_)
  refine s_if_ne o (tgt := 126) dX6_isWithin_74 (by decide) (q := 77) rfl ?_ ?_
  · exact s_sub [] rfl (t_X6_isWithin_126 o f h)
  · refine s_iload o 3 rfl dX6_isWithin_77 (q := 79) rfl ?_
    refine s_if_eq o (tgt := 126) dX6_isWithin_79 (by decide) (q := 82) rfl ?_ ?_
    · exact s_sub [] rfl (t_X6_isWithin_126 o f h)
    · refine s_aload_n o 0 rfl dX6_isWithin_82 (q := 83) rfl ?_
      refine s_gr o kf_X6_75 dX6_isWithin_83 (q := 86) rfl (fun a3_ => ?_)
      refine s_iconst o dX6_isWithin_86 (v := (4 : Int32)) (by decide) (q := 87) rfl ?_
      refine s_iload_n o 1 rfl dX6_isWithin_87 (q := 88) rfl ?_
      refine s_imul o dX6_isWithin_88 (q := 89) rfl ?_
      refine s_iconst o dX6_isWithin_89 (v := (2 : Int32)) (by decide) (q := 90) rfl ?_
      refine s_iadd o dX6_isWithin_90 (q := 91) rfl ?_
      refine s_iald o dX6_isWithin_91 (q := 92) rfl (fun v4_ => ?_)
      refine s_iload o 2 rfl dX6_isWithin_92 (q := 94) rfl ?_
      refine s_aload_n o 0 rfl dX6_isWithin_94 (q := 95) rfl ?_
      refine s_gi o kf_X6_256 dX6_isWithin_95 (q := 98) rfl (fun v5_ => ?_)
      refine s_isub o dX6_isWithin_98 (q := 99) rfl ?_
      refine s_ic_lt o (tgt := 126) dX6_isWithin_99 (by decide) (q := 102) rfl ?_ ?_
      · exact s_sub [] rfl (t_X6_isWithin_126 o f h)
      · refine s_aload_n o 0 rfl dX6_isWithin_102 (q := 103) rfl ?_
        refine s_gr o kf_X6_75 dX6_isWithin_103 (q := 106) rfl (fun a6_ => ?_)
        refine s_iconst o dX6_isWithin_106 (v := (4 : Int32)) (by decide) (q := 107) rfl ?_
        refine s_iload_n o 1 rfl dX6_isWithin_107 (q := 108) rfl ?_
        refine s_imul o dX6_isWithin_108 (q := 109) rfl ?_
        refine s_iconst o dX6_isWithin_109 (v := (3 : Int32)) (by decide) (q := 110) rfl ?_
        refine s_iadd o dX6_isWithin_110 (q := 111) rfl ?_
        refine s_iald o dX6_isWithin_111 (q := 112) rfl (fun v7_ => ?_)
        refine s_iload o 2 rfl dX6_isWithin_112 (q := 114) rfl ?_
        refine s_aload_n o 0 rfl dX6_isWithin_114 (q := 115) rfl ?_
        refine s_gi o kf_X6_256 dX6_isWithin_115 (q := 118) rfl (fun v8_ => ?_)
        refine s_iadd o dX6_isWithin_118 (q := 119) rfl ?_
        refine s_ic_gt o (tgt := 126) dX6_isWithin_119 (by decide) (q := 122) rfl ?_ ?_
        · exact s_sub [] rfl (t_X6_isWithin_126 o f h)
        · refine s_iconst o dX6_isWithin_122 (v := (1 : Int32)) (by decide) (q := 123) rfl ?_
          refine s_goto o (tgt := 127) dX6_isWithin_123 (by decide) ?_
          exact s_sub [] rfl (t_X6_isWithin_127 o f (1 : Int32) h)
set_option maxRecDepth 20000 in
theorem t_X6_isWithin_65 {X : Cx} (o : Ok X RX6 cX6_isWithin 6 0 0 0 0 (some .boolean)) (f : Nat)  (x0 : Nat) (x2 : Int32) (x4 : Int32) (h : Hp) : Sim X (z_Zi X 0 0) 0 0 65 [(0, rf (xG X) x0), (2, .int x2), (4, .int x4)] [] h (b_X6_isWithin_65 f x0 x2 x4 h) := by
  unfold b_X6_isWithin_65
  refine s_iconst o dX6_isWithin_65 (v := (0 : Int32)) (by decide) (q := 66) rfl ?_
  exact s_sub [0, 1, 2] rfl (t_X6_isWithin_66 o f x0 x2 x4 (0 : Int32) h)
set_option maxRecDepth 20000 in
theorem t_X6_isWithin_0 {X : Cx} (o : Ok X RX6 cX6_isWithin 6 0 0 0 0 (some .boolean)) (f : Nat)  (x0 : Nat) (x1 : Int32) (x2 : Int32) (h : Hp) : Sim X (z_Zi X 0 0) 0 0 0 [(0, rf (xG X) x0), (1, .int x1), (2, .int x2)] [] h (f_X6_isWithin f x0 x1 x2 h) := by
  unfold f_X6_isWithin
  refine s_aload_n o 0 rfl dX6_isWithin_0 (q := 1) rfl ?_
  refine s_gr o kf_X6_16 dX6_isWithin_1 (q := 4) rfl (fun a1_ => ?_)
  refine s_bipush o dX6_isWithin_4 (v := (9 : Int32)) (by decide) (q := 6) rfl ?_
  refine s_iload_n o 1 rfl dX6_isWithin_6 (q := 7) rfl ?_
  refine s_imul o dX6_isWithin_7 (q := 8) rfl ?_
  refine s_iload_n o 2 rfl dX6_isWithin_8 (q := 9) rfl ?_
  refine s_iadd o dX6_isWithin_9 (q := 10) rfl ?_
  refine s_iald o dX6_isWithin_10 (q := 11) rfl (fun v2_ => ?_)
  refine s_istore_n o [1, 2, 3, 0] (lv' := [(0, rf (xG X) x0), (1, .int x1), (2, .int x2), (3, .int v2_)]) rfl dX6_isWithin_11 (by decide) (q := 12) rfl ?_
  refine s_aload_n o 0 rfl dX6_isWithin_12 (q := 13) rfl ?_
  refine s_gr o kf_X6_19 dX6_isWithin_13 (q := 16) rfl (fun a3_ => ?_)
  refine s_bipush o dX6_isWithin_16 (v := (9 : Int32)) (by decide) (q := 18) rfl ?_
  refine s_iload_n o 1 rfl dX6_isWithin_18 (q := 19) rfl ?_
  refine s_imul o dX6_isWithin_19 (q := 20) rfl ?_
  refine s_iload_n o 2 rfl dX6_isWithin_20 (q := 21) rfl ?_
  refine s_iadd o dX6_isWithin_21 (q := 22) rfl ?_
  refine s_iald o dX6_isWithin_22 (q := 23) rfl (fun v4_ => ?_)
  refine s_istore o [1, 2, 3, 4, 0] (lv' := [(0, rf (xG X) x0), (1, .int x1), (2, .int x2), (3, .int v2_), (4, .int v4_)]) rfl dX6_isWithin_23 (by decide) (q := 25) rfl ?_
  refine s_aload_n o 0 rfl dX6_isWithin_25 (q := 26) rfl ?_
  refine s_gr o kf_X6_75 dX6_isWithin_26 (q := 29) rfl (fun a5_ => ?_)
  refine s_iconst o dX6_isWithin_29 (v := (4 : Int32)) (by decide) (q := 30) rfl ?_
  refine s_iload_n o 2 rfl dX6_isWithin_30 (q := 31) rfl ?_
  refine s_imul o dX6_isWithin_31 (q := 32) rfl ?_
  refine s_iald o dX6_isWithin_32 (q := 33) rfl (fun v6_ => ?_)
  refine s_iload_n o 3 rfl dX6_isWithin_33 (q := 34) rfl ?_
  refine s_aload_n o 0 rfl dX6_isWithin_34 (q := 35) rfl ?_
  refine s_gi o kf_X6_256 dX6_isWithin_35 (q := 38) rfl (fun v7_ => ?_)
  refine s_isub o dX6_isWithin_38 (q := 39) rfl ?_
  refine s_ic_lt o (tgt := 65) dX6_isWithin_39 (by decide) (q := 42) rfl ?_ ?_
  · exact s_sub [0, 2, 4] rfl (t_X6_isWithin_65 o f x0 x2 v4_ h)
  · refine s_aload_n o 0 rfl dX6_isWithin_42 (q := 43) rfl ?_
    refine s_gr o kf_X6_75 dX6_isWithin_43 (q := 46) rfl (fun a8_ => ?_)
    refine s_iconst o dX6_isWithin_46 (v := (4 : Int32)) (by decide) (q := 47) rfl ?_
    refine s_iload_n o 2 rfl dX6_isWithin_47 (q := 48) rfl ?_
    refine s_imul o dX6_isWithin_48 (q := 49) rfl ?_
    refine s_iconst o dX6_isWithin_49 (v := (1 : Int32)) (by decide) (q := 50) rfl ?_
    refine s_iadd o dX6_isWithin_50 (q := 51) rfl ?_
    refine s_iald o dX6_isWithin_51 (q := 52) rfl (fun v9_ => ?_)
    refine s_iload_n o 3 rfl dX6_isWithin_52 (q := 53) rfl ?_
    refine s_aload_n o 0 rfl dX6_isWithin_53 (q := 54) rfl ?_
    refine s_gi o kf_X6_256 dX6_isWithin_54 (q := 57) rfl (fun v10_ => ?_)
    refine s_iadd o dX6_isWithin_57 (q := 58) rfl ?_
    refine s_ic_gt o (tgt := 65) dX6_isWithin_58 (by decide) (q := 61) rfl ?_ ?_
    · exact s_sub [0, 2, 4] rfl (t_X6_isWithin_65 o f x0 x2 v4_ h)
    · refine s_iconst o dX6_isWithin_61 (v := (1 : Int32)) (by decide) (q := 62) rfl ?_
      refine s_goto o (tgt := 66) dX6_isWithin_62 (by decide) ?_
      exact s_sub [0, 2, 4] rfl (t_X6_isWithin_66 o f x0 x2 v4_ (1 : Int32) h)
theorem c_X6_isWithin (G : Gx) (f : Nat) (x0 : Nat) (x1 : Int32) (x2 : Int32) (h : Hp) : z_M z_qi G yX6_isWithin cX6_isWithin 6 (some .boolean) 0 0 0 0 [rf G x0, .int x1, .int x2] h (f_X6_isWithin f x0 x1 x2 h) :=
  z_met (by decide +kernel) (Nat.le_of_ble_eq_true rfl) (fun X hG hn o hnm => by
    subst hG
    show Sim X (z_Zi X 0 0) 0 0 0 [(0, rf (xG X) x0), (1, .int x1), (2, .int x2)] [] h _
    exact s_sub [0, 1, 2] rfl (t_X6_isWithin_0 o f x0 x1 x2 h))
/-! SixMapsModel.couldBe(II)Z -/
def b_X6_couldBe_52 (f : Nat) (k5 : Nat → Int32 → Int32 → Int32 → Int32 → Hp → Option (Int32 × Hp)) (x0 : Nat) (x1 : Int32) (x2 : Int32) (x4 : Int32) (y0 : Int32) (h : Hp) : Option (Int32 × Hp) :=
  lt (x4 + (1 : Int32)) fun v1_ =>
  k5 x0 x1 x2 y0 v1_ h
def b_X6_couldBe_47 (f : Nat) (k5 : Nat → Int32 → Int32 → Int32 → Int32 → Hp → Option (Int32 × Hp)) (x0 : Nat) (x1 : Int32) (x2 : Int32) (x4 : Int32) (h : Hp) : Option (Int32 × Hp) :=
  b_X6_couldBe_52 f k5 x0 x1 x2 x4 (1 : Int32) h
def b_X6_couldBe_5 (f : Nat) (k5 : Nat → Int32 → Int32 → Int32 → Int32 → Hp → Option (Int32 × Hp)) (x0 : Nat) (x1 : Int32) (x2 : Int32) (x3 : Int32) (x4 : Int32) (h : Hp) : Option (Int32 × Hp) :=
  (q_gi h x0 6 0).bind fun v1_ =>
  if v1_ ≤ x4 then
  (q_bo x3 (some (x3, h)))
  else
  (if ¬ x3 = 0 then
  (b_X6_couldBe_47 f k5 x0 x1 x2 x4 h)
  else
  ((q_gr h x0 6 11).bind fun a2_ =>
  (q_ai h a2_ 9 (((6 : Int32) * x1) + x2)).bind fun v3_ =>
  bi (f_X6_has f v3_ x4 h) fun v5_ h4_ =>
  if v5_ = 0 then
  (b_X6_couldBe_47 f k5 x0 x1 x2 x4 h4_)
  else
  (q_on h4_ x0 6 (
  bi (f_X6_isWithin f x0 x2 x4 h4_) fun v8_ h7_ =>
  if ¬ v8_ = 0 then
  (b_X6_couldBe_52 f k5 x0 x1 x2 x4 (0 : Int32) h7_)
  else
  (b_X6_couldBe_47 f k5 x0 x1 x2 x4 h7_)))))
def l_X6_couldBe_5 (f : Nat)  : Nat → Nat → Int32 → Int32 → Int32 → Int32 → Hp → Option (Int32 × Hp)
  | 0, _, _, _, _, _, _ => none
  | n + 1, x0, x1, x2, x3, x4, h => b_X6_couldBe_5 f  (l_X6_couldBe_5 f  n) x0 x1 x2 x3 x4 h
def f_X6_couldBe (f : Nat)  (x0 : Nat) (x1 : Int32) (x2 : Int32) (h : Hp) : Option (Int32 × Hp) :=
  l_X6_couldBe_5 f f x0 x1 x2 (0 : Int32) (0 : Int32) h
set_option maxRecDepth 20000 in
theorem t_X6_couldBe_52 {X : Cx} (o : Ok X RX6 cX6_couldBe 5 1 25 0 0 (some .boolean)) (f : Nat) {k5 : Nat → Int32 → Int32 → Int32 → Int32 → Hp → Option (Int32 × Hp)} (hk5 : ∀ (x0 : Nat) (x1 : Int32) (x2 : Int32) (x3 : Int32) (x4 : Int32) (h : Hp), Sim X (z_Zi X 0 0) 0 0 5 [(0, rf (xG X) x0), (1, .int x1), (2, .int x2), (3, .int x3), (4, .int x4)] [] h (k5 x0 x1 x2 x3 x4 h)) (x0 : Nat) (x1 : Int32) (x2 : Int32) (x4 : Int32) (y0 : Int32) (h : Hp) : Sim X (z_Zi X 0 0) 0 0 52 [(0, rf (xG X) x0), (1, .int x1), (2, .int x2), (4, .int x4)] [.int y0] h (b_X6_couldBe_52 f k5 x0 x1 x2 x4 y0 h) := by
  unfold b_X6_couldBe_52
  refine s_istore_n o [1, 2, 3, 0, 4] (lv' := [(0, rf (xG X) x0), (1, .int x1), (2, .int x2), (3, .int y0), (4, .int x4)]) rfl dX6_couldBe_52 (by decide) (q := 53) rfl ?_
  refine s_iinc o 4 rfl (v := (1 : Int32)) (by decide) [1, 2, 3, 4, 0] (lv' := fun v1_ => [(0, rf (xG X) x0), (1, .int x1), (2, .int x2), (3, .int y0), (4, .int v1_)]) (fun _ => rfl) dX6_couldBe_53 (by decide) (q := 56) rfl (fun v1_ => ?_)
  refine s_goto o (tgt := 5) dX6_couldBe_56 (by decide) ?_
  exact s_sub [0, 1, 2, 3, 4] rfl (hk5 x0 x1 x2 y0 v1_ h)
set_option maxRecDepth 20000 in
theorem t_X6_couldBe_47 {X : Cx} (o : Ok X RX6 cX6_couldBe 5 1 25 0 0 (some .boolean)) (f : Nat) {k5 : Nat → Int32 → Int32 → Int32 → Int32 → Hp → Option (Int32 × Hp)} (hk5 : ∀ (x0 : Nat) (x1 : Int32) (x2 : Int32) (x3 : Int32) (x4 : Int32) (h : Hp), Sim X (z_Zi X 0 0) 0 0 5 [(0, rf (xG X) x0), (1, .int x1), (2, .int x2), (3, .int x3), (4, .int x4)] [] h (k5 x0 x1 x2 x3 x4 h)) (x0 : Nat) (x1 : Int32) (x2 : Int32) (x4 : Int32) (h : Hp) : Sim X (z_Zi X 0 0) 0 0 47 [(0, rf (xG X) x0), (1, .int x1), (2, .int x2), (4, .int x4)] [] h (b_X6_couldBe_47 f k5 x0 x1 x2 x4 h) := by
  unfold b_X6_couldBe_47
  refine s_iconst o dX6_couldBe_47 (v := (1 : Int32)) (by decide) (q := 48) rfl ?_
  refine s_goto o (tgt := 52) dX6_couldBe_48 (by decide) ?_
  exact s_sub [0, 1, 2, 3] rfl (t_X6_couldBe_52 o f hk5 x0 x1 x2 x4 (1 : Int32) h)
set_option maxRecDepth 20000 in
theorem t_X6_couldBe_5 {X : Cx} (o : Ok X RX6 cX6_couldBe 5 1 25 0 0 (some .boolean)) (f : Nat) {k5 : Nat → Int32 → Int32 → Int32 → Int32 → Hp → Option (Int32 × Hp)} (hk5 : ∀ (x0 : Nat) (x1 : Int32) (x2 : Int32) (x3 : Int32) (x4 : Int32) (h : Hp), Sim X (z_Zi X 0 0) 0 0 5 [(0, rf (xG X) x0), (1, .int x1), (2, .int x2), (3, .int x3), (4, .int x4)] [] h (k5 x0 x1 x2 x3 x4 h)) (x0 : Nat) (x1 : Int32) (x2 : Int32) (x3 : Int32) (x4 : Int32) (h : Hp) : Sim X (z_Zi X 0 0) 0 0 5 [(0, rf (xG X) x0), (1, .int x1), (2, .int x2), (3, .int x3), (4, .int x4)] [] h (b_X6_couldBe_5 f k5 x0 x1 x2 x3 x4 h) := by
  unfold b_X6_couldBe_5
  refine s_iload o 4 rfl dX6_couldBe_5 (q := 7) rfl ?_
  refine s_aload_n o 0 rfl dX6_couldBe_7 (q := 8) rfl ?_
  refine s_gi o kf_X6_111 dX6_couldBe_8 (q := 11) rfl (fun v1_ => ?_)
  refine s_ic_ge o (tgt := 59) dX6_couldBe_11 (by decide) (q := 14) rfl ?_ ?_
  · refine s_iload_n o 3 rfl dX6_couldBe_59 (q := 60) rfl ?_
    exact s_zret o dX6_couldBe_60
  · refine s_iload_n o 3 rfl dX6_couldBe_14 (q := 15) rfl ?_
    refine s_if_ne o (tgt := 47) dX6_couldBe_15 (by decide) (q := 18) rfl ?_ ?_
    · exact s_sub [0, 1, 2, 4] rfl (t_X6_couldBe_47 o f hk5 x0 x1 x2 x4 h)
    · refine s_aload_n o 0 rfl dX6_couldBe_18 (q := 19) rfl ?_
      refine s_gr o kf_X6_32 dX6_couldBe_19 (q := 22) rfl (fun a2_ => ?_)
      refine s_bipush o dX6_couldBe_22 (v := (6 : Int32)) (by decide) (q := 24) rfl ?_
      refine s_iload_n o 1 rfl dX6_couldBe_24 (q := 25) rfl ?_
      refine s_imul o dX6_couldBe_25 (q := 26) rfl ?_
      refine s_iload_n o 2 rfl dX6_couldBe_26 (q := 27) rfl ?_
      refine s_iadd o dX6_couldBe_27 (q := 28) rfl ?_
      refine s_iald o dX6_couldBe_28 (q := 29) rfl (fun v3_ => ?_)
      refine s_iload o 4 rfl dX6_couldBe_29 (q := 31) rfl ?_
      refine s_bi (fun r0 hr0 => runS o cs_X6_182 (c_X6_has (xG X) f v3_ x4 h (xl X) r0 hr0) ⟨Nat.le_of_ble_eq_true rfl, Nat.le_of_ble_eq_true rfl⟩ rfl rfl (Nat.le_of_ble_eq_true rfl) dX6_couldBe_31 ⟨Nat.le_of_ble_eq_true rfl, Nat.le_of_ble_eq_true rfl⟩) (q := 34) rfl (cs' := 0) rfl (sl' := 0) rfl (fun v5_ h4_ => ?_)
      refine s_if_eq o (tgt := 47) dX6_couldBe_34 (by decide) (q := 37) rfl ?_ ?_
      · exact s_sub [0, 1, 2, 4] rfl (t_X6_couldBe_47 o f hk5 x0 x1 x2 x4 h4_)
      · refine s_aload_n o 0 rfl dX6_couldBe_37 (q := 38) rfl ?_
        refine s_iload_n o 2 rfl dX6_couldBe_38 (q := 39) rfl ?_
        refine s_iload o 4 rfl dX6_couldBe_39 (q := 41) rfl ?_
        refine s_on (fun hk6_ => ?_)
        refine s_bi (fun r0 hr0 => runV o hk6_ cv_X6_277 (c_X6_isWithin (xG X) f x0 x2 x4 h4_ (xl X) r0 hr0) ⟨Nat.le_of_ble_eq_true rfl, Nat.le_of_ble_eq_true rfl⟩ rfl rfl (Nat.le_of_ble_eq_true rfl) dX6_couldBe_41 ⟨Nat.le_of_ble_eq_true rfl, Nat.le_of_ble_eq_true rfl⟩) (q := 44) rfl (cs' := 0) rfl (sl' := 0) rfl (fun v8_ h7_ => ?_)
        refine s_if_ne o (tgt := 51) dX6_couldBe_44 (by decide) (q := 47) rfl ?_ ?_
        · refine s_iconst o dX6_couldBe_51 (v := (0 : Int32)) (by decide) (q := 52) rfl ?_
          exact s_sub [0, 1, 2, 4] rfl (t_X6_couldBe_52 o f hk5 x0 x1 x2 x4 (0 : Int32) h7_)
        · exact s_sub [0, 1, 2, 4] rfl (t_X6_couldBe_47 o f hk5 x0 x1 x2 x4 h7_)
theorem tl_X6_couldBe_5 {X : Cx} (o : Ok X RX6 cX6_couldBe 5 1 25 0 0 (some .boolean)) (f : Nat)  : ∀ (n : Nat) (x0 : Nat) (x1 : Int32) (x2 : Int32) (x3 : Int32) (x4 : Int32) (h : Hp), Sim X (z_Zi X 0 0) 0 0 5 [(0, rf (xG X) x0), (1, .int x1), (2, .int x2), (3, .int x3), (4, .int x4)] [] h (l_X6_couldBe_5 f n x0 x1 x2 x3 x4 h) := by
  intro n
  induction n with
  | zero => intro x0 x1 x2 x3 x4 h; exact s_none
  | succ n ih => intro x0 x1 x2 x3 x4 h; exact t_X6_couldBe_5 o f  ih x0 x1 x2 x3 x4 h
set_option maxRecDepth 20000 in
theorem t_X6_couldBe_0 {X : Cx} (o : Ok X RX6 cX6_couldBe 5 1 25 0 0 (some .boolean)) (f : Nat)  (x0 : Nat) (x1 : Int32) (x2 : Int32) (h : Hp) : Sim X (z_Zi X 0 0) 0 0 0 [(0, rf (xG X) x0), (1, .int x1), (2, .int x2)] [] h (f_X6_couldBe f x0 x1 x2 h) := by
  unfold f_X6_couldBe
  refine s_iconst o dX6_couldBe_0 (v := (0 : Int32)) (by decide) (q := 1) rfl ?_
  refine s_istore_n o [1, 2, 3, 0] (lv' := [(0, rf (xG X) x0), (1, .int x1), (2, .int x2), (3, .int (0 : Int32))]) rfl dX6_couldBe_1 (by decide) (q := 2) rfl ?_
  refine s_iconst o dX6_couldBe_2 (v := (0 : Int32)) (by decide) (q := 3) rfl ?_
  refine s_istore o [1, 2, 3, 4, 0] (lv' := [(0, rf (xG X) x0), (1, .int x1), (2, .int x2), (3, .int (0 : Int32)), (4, .int (0 : Int32))]) rfl dX6_couldBe_3 (by decide) (q := 5) rfl ?_
  exact s_sub [0, 1, 2, 3, 4] rfl (tl_X6_couldBe_5 o f f x0 x1 x2 (0 : Int32) (0 : Int32) h)
theorem c_X6_couldBe (G : Gx) (f : Nat) (x0 : Nat) (x1 : Int32) (x2 : Int32) (h : Hp) : z_M z_qi G yX6_couldBe cX6_couldBe 5 (some .boolean) 1 25 0 0 [rf G x0, .int x1, .int x2] h (f_X6_couldBe f x0 x1 x2 h) :=
  z_met (by decide +kernel) (Nat.le_of_ble_eq_true rfl) (fun X hG hn o hnm => by
    subst hG
    show Sim X (z_Zi X 0 0) 0 0 0 [(0, rf (xG X) x0), (1, .int x1), (2, .int x2)] [] h _
    exact s_sub [0, 1, 2] rfl (t_X6_couldBe_0 o f x0 x1 x2 h))
/-! SixMapsModel.narrow(III)V -/
def b_X6_narrow_264 (f : Nat)  (y0 : Nat) (y1 : Int32) (y2 : Int32) (h : Hp) : Option (Hp) :=
  (q_as h y0 9 y1 y2).bind fun h1_ =>
  some h1_
def b_X6_narrow_216 (f : Nat)  (x0 : Nat) (x1 : Int32) (x3 : Int32) (y0 : Nat) (y1 : Int32) (y2 : Int32) (h : Hp) : Option (Hp) :=
  (q_as h y0 9 y1 y2).bind fun h1_ =>
  (q_gr h1_ x0 6 42).bind fun a2_ =>
  (q_gi h1_ x0 6 7).bind fun v3_ =>
  (q_gr h1_ x0 6 42).bind fun a4_ =>
  (q_ai h1_ a4_ 9 (((4 : Int32) * x1) + (3 : Int32))).bind fun v5_ =>
  if v5_ ≤ (x3 + v3_) then
  ((q_gr h1_ x0 6 42).bind fun a6_ =>
  (q_ai h1_ a6_ 9 (((4 : Int32) * x1) + (3 : Int32))).bind fun v7_ =>
  b_X6_narrow_264 f a2_ (((4 : Int32) * x1) + (3 : Int32)) v7_ h1_)
  else
  ((q_gi h1_ x0 6 7).bind fun v8_ =>
  b_X6_narrow_264 f a2_ (((4 : Int32) * x1) + (3 : Int32)) (x3 + v8_) h1_)
def b_X6_narrow_168 (f : Nat)  (x0 : Nat) (x1 : Int32) (x3 : Int32) (y0 : Nat) (y1 : Int32) (y2 : Int32) (h : Hp) : Option (Hp) :=
  (q_as h y0 9 y1 y2).bind fun h1_ =>
  (q_gr h1_ x0 6 42).bind fun a2_ =>
  (q_gi h1_ x0 6 7).bind fun v3_ =>
  (q_gr h1_ x0 6 42).bind fun a4_ =>
  (q_ai h1_ a4_ 9 (((4 : Int32) * x1) + (2 : Int32))).bind fun v5_ =>
  if (x3 - v3_) ≤ v5_ then
  ((q_gr h1_ x0 6 42).bind fun a6_ =>
  (q_ai h1_ a6_ 9 (((4 : Int32) * x1) + (2 : Int32))).bind fun v7_ =>
  b_X6_narrow_216 f x0 x1 x3 a2_ (((4 : Int32) * x1) + (2 : Int32)) v7_ h1_)
  else
  ((q_gi h1_ x0 6 7).bind fun v8_ =>
  b_X6_narrow_216 f x0 x1 x3 a2_ (((4 : Int32) * x1) + (2 : Int32)) (x3 - v8_) h1_)
def b_X6_narrow_120 (f : Nat)  (x0 : Nat) (x1 : Int32) (x2 : Int32) (x3 : Int32) (y0 : Nat) (y1 : Int32) (y2 : Int32) (h : Hp) : Option (Hp) :=
  (q_as h y0 9 y1 y2).bind fun h1_ =>
  (q_gr h1_ x0 6 42).bind fun a2_ =>
  (q_gi h1_ x0 6 7).bind fun v3_ =>
  (q_gr h1_ x0 6 42).bind fun a4_ =>
  (q_ai h1_ a4_ 9 (((4 : Int32) * x1) + (1 : Int32))).bind fun v5_ =>
  if v5_ ≤ (x2 + v3_) then
  ((q_gr h1_ x0 6 42).bind fun a6_ =>
  (q_ai h1_ a6_ 9 (((4 : Int32) * x1) + (1 : Int32))).bind fun v7_ =>
  b_X6_narrow_168 f x0 x1 x3 a2_ (((4 : Int32) * x1) + (1 : Int32)) v7_ h1_)
  else
  ((q_gi h1_ x0 6 7).bind fun v8_ =>
  b_X6_narrow_168 f x0 x1 x3 a2_ (((4 : Int32) * x1) + (1 : Int32)) (x2 + v8_) h1_)
def f_X6_narrow (f : Nat)  (x0 : Nat) (x1 : Int32) (x2 : Int32) (x3 : Int32) (h : Hp) : Option (Hp) :=
  (q_gr h x0 6 41).bind fun a1_ =>
  (q_ai h a1_ 10 x1).bind fun v2_ =>
  if v2_ = 0 then
  ((q_gr h x0 6 42).bind fun a3_ =>
  (q_gi h x0 6 7).bind fun v4_ =>
  (q_gr h x0 6 42).bind fun a5_ =>
  (q_ai h a5_ 9 ((4 : Int32) * x1)).bind fun v6_ =>
  if (x2 - v4_) ≤ v6_ then
  ((q_gr h x0 6 42).bind fun a7_ =>
  (q_ai h a7_ 9 ((4 : Int32) * x1)).bind fun v8_ =>
  b_X6_narrow_120 f x0 x1 x2 x3 a3_ ((4 : Int32) * x1) v8_ h)
  else
  ((q_gi h x0 6 7).bind fun v9_ =>
  b_X6_narrow_120 f x0 x1 x2 x3 a3_ ((4 : Int32) * x1) (x2 - v9_) h))
  else
  ((q_gr h x0 6 42).bind fun a10_ =>
  (q_gi h x0 6 7).bind fun v11_ =>
  (q_as h a10_ 9 ((4 : Int32) * x1) (x2 - v11_)).bind fun h12_ =>
  (q_gr h12_ x0 6 42).bind fun a13_ =>
  (q_gi h12_ x0 6 7).bind fun v14_ =>
  (q_as h12_ a13_ 9 (((4 : Int32) * x1) + (1 : Int32)) (x2 + v14_)).bind fun h15_ =>
  (q_gr h15_ x0 6 42).bind fun a16_ =>
  (q_gi h15_ x0 6 7).bind fun v17_ =>
  (q_as h15_ a16_ 9 (((4 : Int32) * x1) + (2 : Int32)) (x3 - v17_)).bind fun h18_ =>
  (q_gr h18_ x0 6 42).bind fun a19_ =>
  (q_gi h18_ x0 6 7).bind fun v20_ =>
  (q_as h18_ a19_ 9 (((4 : Int32) * x1) + (3 : Int32)) (x3 + v20_)).bind fun h21_ =>
  (q_gr h21_ x0 6 41).bind fun a22_ =>
  (q_as h21_ a22_ 10 x1 (vp_nar .boolean (0 : Int32))).bind fun h23_ =>
  some h23_)
set_option maxRecDepth 20000 in
theorem t_X6_narrow_264 {X : Cx} (o : Ok X RX6 cX6_narrow 4 0 0 0 0 none) (f : Nat)  (y0 : Nat) (y1 : Int32) (y2 : Int32) (h : Hp) : Sim X (z_Zv X 0 0) 0 0 264 [] [.int y2, .int y1, rf (xG X) y0] h (b_X6_narrow_264 f y0 y1 y2 h) := by
  unfold b_X6_narrow_264
  refine s_iast o dX6_narrow_264 (q := 265) rfl (fun h1_ => ?_)
  exact s_vret o dX6_narrow_265
set_option maxRecDepth 20000 in
theorem t_X6_narrow_216 {X : Cx} (o : Ok X RX6 cX6_narrow 4 0 0 0 0 none) (f : Nat)  (x0 : Nat) (x1 : Int32) (x3 : Int32) (y0 : Nat) (y1 : Int32) (y2 : Int32) (h : Hp) : Sim X (z_Zv X 0 0) 0 0 216 [(0, rf (xG X) x0), (1, .int x1), (3, .int x3)] [.int y2, .int y1, rf (xG X) y0] h (b_X6_narrow_216 f x0 x1 x3 y0 y1 y2 h) := by
  unfold b_X6_narrow_216
  refine s_iast o dX6_narrow_216 (q := 217) rfl (fun h1_ => ?_)
  refine s_aload_n o 0 rfl dX6_narrow_217 (q := 218) rfl ?_
  refine s_gr o kf_X6_75 dX6_narrow_218 (q := 221) rfl (fun a2_ => ?_)
  refine s_iconst o dX6_narrow_221 (v := (4 : Int32)) (by decide) (q := 222) rfl ?_
  refine s_iload_n o 1 rfl dX6_narrow_222 (q := 223) rfl ?_
  refine s_imul o dX6_narrow_223 (q := 224) rfl ?_
  refine s_iconst o dX6_narrow_224 (v := (3 : Int32)) (by decide) (q := 225) rfl ?_
  refine s_iadd o dX6_narrow_225 (q := 226) rfl ?_
  refine s_iload_n o 2 rfl dX6_narrow_226 (q := 227) rfl ?_
  refine s_aload_n o 0 rfl dX6_narrow_227 (q := 228) rfl ?_
  refine s_gi o kf_X6_256 dX6_narrow_228 (q := 231) rfl (fun v3_ => ?_)
  refine s_iadd o dX6_narrow_231 (q := 232) rfl ?_
  refine s_aload_n o 0 rfl dX6_narrow_232 (q := 233) rfl ?_
  refine s_gr o kf_X6_75 dX6_narrow_233 (q := 236) rfl (fun a4_ => ?_)
  refine s_iconst o dX6_narrow_236 (v := (4 : Int32)) (by decide) (q := 237) rfl ?_
  refine s_iload_n o 1 rfl dX6_narrow_237 (q := 238) rfl ?_
  refine s_imul o dX6_narrow_238 (q := 239) rfl ?_
  refine s_iconst o dX6_narrow_239 (v := (3 : Int32)) (by decide) (q := 240) rfl ?_
  refine s_iadd o dX6_narrow_240 (q := 241) rfl ?_
  refine s_iald o dX6_narrow_241 (q := 242) rfl (fun v5_ => ?_)
  refine s_ic_ge o (tgt := 254) dX6_narrow_242 (by decide) (q := 245) rfl ?_ ?_
  · refine s_aload_n o 0 rfl dX6_narrow_254 (q := 255) rfl ?_
    refine s_gr o kf_X6_75 dX6_narrow_255 (q := 258) rfl (fun a6_ => ?_)
    refine s_iconst o dX6_narrow_258 (v := (4 : Int32)) (by decide) (q := 259) rfl ?_
    refine s_iload_n o 1 rfl dX6_narrow_259 (q := 260) rfl ?_
    refine s_imul o dX6_narrow_260 (q := 261) rfl ?_
    refine s_iconst o dX6_narrow_261 (v := (3 : Int32)) (by decide) (q := 262) rfl ?_
    refine s_iadd o dX6_narrow_262 (q := 263) rfl ?_
    refine s_iald o dX6_narrow_263 (q := 264) rfl (fun v7_ => ?_)
    exact s_sub [] rfl (t_X6_narrow_264 o f a2_ (((4 : Int32) * x1) + (3 : Int32)) v7_ h1_)
  · refine s_iload_n o 2 rfl dX6_narrow_245 (q := 246) rfl ?_
    refine s_aload_n o 0 rfl dX6_narrow_246 (q := 247) rfl ?_
    refine s_gi o kf_X6_256 dX6_narrow_247 (q := 250) rfl (fun v8_ => ?_)
    refine s_iadd o dX6_narrow_250 (q := 251) rfl ?_
    refine s_goto o (tgt := 264) dX6_narrow_251 (by decide) ?_
    exact s_sub [] rfl (t_X6_narrow_264 o f a2_ (((4 : Int32) * x1) + (3 : Int32)) (x3 + v8_) h1_)
set_option maxRecDepth 20000 in
theorem t_X6_narrow_168 {X : Cx} (o : Ok X RX6 cX6_narrow 4 0 0 0 0 none) (f : Nat)  (x0 : Nat) (x1 : Int32) (x3 : Int32) (y0 : Nat) (y1 : Int32) (y2 : Int32) (h : Hp) : Sim X (z_Zv X 0 0) 0 0 168 [(0, rf (xG X) x0), (1, .int x1), (3, .int x3)] [.int y2, .int y1, rf (xG X) y0] h (b_X6_narrow_168 f x0 x1 x3 y0 y1 y2 h) := by
  unfold b_X6_narrow_168
  refine s_iast o dX6_narrow_168 (q := 169) rfl (fun h1_ => ?_)
  refine s_aload_n o 0 rfl dX6_narrow_169 (q := 170) rfl ?_
  refine s_gr o kf_X6_75 dX6_narrow_170 (q := 173) rfl (fun a2_ => ?_)
  refine s_iconst o dX6_narrow_173 (v := (4 : Int32)) (by decide) (q := 174) rfl ?_
  refine s_iload_n o 1 rfl dX6_narrow_174 (q := 175) rfl ?_
  refine s_imul o dX6_narrow_175 (q := 176) rfl ?_
  refine s_iconst o dX6_narrow_176 (v := (2 : Int32)) (by decide) (q := 177) rfl ?_
  refine s_iadd o dX6_narrow_177 (q := 178) rfl ?_
  refine s_iload_n o 2 rfl dX6_narrow_178 (q := 179) rfl ?_
  refine s_aload_n o 0 rfl dX6_narrow_179 (q := 180) rfl ?_
  refine s_gi o kf_X6_256 dX6_narrow_180 (q := 183) rfl (fun v3_ => ?_)
  refine s_isub o dX6_narrow_183 (q := 184) rfl ?_
  refine s_aload_n o 0 rfl dX6_narrow_184 (q := 185) rfl ?_
  refine s_gr o kf_X6_75 dX6_narrow_185 (q := 188) rfl (fun a4_ => ?_)
  refine s_iconst o dX6_narrow_188 (v := (4 : Int32)) (by decide) (q := 189) rfl ?_
  refine s_iload_n o 1 rfl dX6_narrow_189 (q := 190) rfl ?_
  refine s_imul o dX6_narrow_190 (q := 191) rfl ?_
  refine s_iconst o dX6_narrow_191 (v := (2 : Int32)) (by decide) (q := 192) rfl ?_
  refine s_iadd o dX6_narrow_192 (q := 193) rfl ?_
  refine s_iald o dX6_narrow_193 (q := 194) rfl (fun v5_ => ?_)
  refine s_ic_le o (tgt := 206) dX6_narrow_194 (by decide) (q := 197) rfl ?_ ?_
  · refine s_aload_n o 0 rfl dX6_narrow_206 (q := 207) rfl ?_
    refine s_gr o kf_X6_75 dX6_narrow_207 (q := 210) rfl (fun a6_ => ?_)
    refine s_iconst o dX6_narrow_210 (v := (4 : Int32)) (by decide) (q := 211) rfl ?_
    refine s_iload_n o 1 rfl dX6_narrow_211 (q := 212) rfl ?_
    refine s_imul o dX6_narrow_212 (q := 213) rfl ?_
    refine s_iconst o dX6_narrow_213 (v := (2 : Int32)) (by decide) (q := 214) rfl ?_
    refine s_iadd o dX6_narrow_214 (q := 215) rfl ?_
    refine s_iald o dX6_narrow_215 (q := 216) rfl (fun v7_ => ?_)
    exact s_sub [0, 1, 2] rfl (t_X6_narrow_216 o f x0 x1 x3 a2_ (((4 : Int32) * x1) + (2 : Int32)) v7_ h1_)
  · refine s_iload_n o 2 rfl dX6_narrow_197 (q := 198) rfl ?_
    refine s_aload_n o 0 rfl dX6_narrow_198 (q := 199) rfl ?_
    refine s_gi o kf_X6_256 dX6_narrow_199 (q := 202) rfl (fun v8_ => ?_)
    refine s_isub o dX6_narrow_202 (q := 203) rfl ?_
    refine s_goto o (tgt := 216) dX6_narrow_203 (by decide) ?_
    exact s_sub [0, 1, 2] rfl (t_X6_narrow_216 o f x0 x1 x3 a2_ (((4 : Int32) * x1) + (2 : Int32)) (x3 - v8_) h1_)
set_option maxRecDepth 20000 in
theorem t_X6_narrow_120 {X : Cx} (o : Ok X RX6 cX6_narrow 4 0 0 0 0 none) (f : Nat)  (x0 : Nat) (x1 : Int32) (x2 : Int32) (x3 : Int32) (y0 : Nat) (y1 : Int32) (y2 : Int32) (h : Hp) : Sim X (z_Zv X 0 0) 0 0 120 [(0, rf (xG X) x0), (1, .int x1), (2, .int x2), (3, .int x3)] [.int y2, .int y1, rf (xG X) y0] h (b_X6_narrow_120 f x0 x1 x2 x3 y0 y1 y2 h) := by
  unfold b_X6_narrow_120
  refine s_iast o dX6_narrow_120 (q := 121) rfl (fun h1_ => ?_)
  refine s_aload_n o 0 rfl dX6_narrow_121 (q := 122) rfl ?_
  refine s_gr o kf_X6_75 dX6_narrow_122 (q := 125) rfl (fun a2_ => ?_)
  refine s_iconst o dX6_narrow_125 (v := (4 : Int32)) (by decide) (q := 126) rfl ?_
  refine s_iload_n o 1 rfl dX6_narrow_126 (q := 127) rfl ?_
  refine s_imul o dX6_narrow_127 (q := 128) rfl ?_
  refine s_iconst o dX6_narrow_128 (v := (1 : Int32)) (by decide) (q := 129) rfl ?_
  refine s_iadd o dX6_narrow_129 (q := 130) rfl ?_
  refine s_iload_n o 2 rfl dX6_narrow_130 (q := 131) rfl ?_
  refine s_aload_n o 0 rfl dX6_narrow_131 (q := 132) rfl ?_
  refine s_gi o kf_X6_256 dX6_narrow_132 (q := 135) rfl (fun v3_ => ?_)
  refine s_iadd o dX6_narrow_135 (q := 136) rfl ?_
  refine s_aload_n o 0 rfl dX6_narrow_136 (q := 137) rfl ?_
  refine s_gr o kf_X6_75 dX6_narrow_137 (q := 140) rfl (fun a4_ => ?_)
  refine s_iconst o dX6_narrow_140 (v := (4 : Int32)) (by decide) (q := 141) rfl ?_
  refine s_iload_n o 1 rfl dX6_narrow_141 (q := 142) rfl ?_
  refine s_imul o dX6_narrow_142 (q := 143) rfl ?_
  refine s_iconst o dX6_narrow_143 (v := (1 : Int32)) (by decide) (q := 144) rfl ?_
  refine s_iadd o dX6_narrow_144 (q := 145) rfl ?_
  refine s_iald o dX6_narrow_145 (q := 146) rfl (fun v5_ => ?_)
  refine s_ic_ge o (tgt := 158) dX6_narrow_146 (by decide) (q := 149) rfl ?_ ?_
  · refine s_aload_n o 0 rfl dX6_narrow_158 (q := 159) rfl ?_
    refine s_gr o kf_X6_75 dX6_narrow_159 (q := 162) rfl (fun a6_ => ?_)
    refine s_iconst o dX6_narrow_162 (v := (4 : Int32)) (by decide) (q := 163) rfl ?_
    refine s_iload_n o 1 rfl dX6_narrow_163 (q := 164) rfl ?_
    refine s_imul o dX6_narrow_164 (q := 165) rfl ?_
    refine s_iconst o dX6_narrow_165 (v := (1 : Int32)) (by decide) (q := 166) rfl ?_
    refine s_iadd o dX6_narrow_166 (q := 167) rfl ?_
    refine s_iald o dX6_narrow_167 (q := 168) rfl (fun v7_ => ?_)
    exact s_sub [0, 1, 3] rfl (t_X6_narrow_168 o f x0 x1 x3 a2_ (((4 : Int32) * x1) + (1 : Int32)) v7_ h1_)
  · refine s_iload_n o 2 rfl dX6_narrow_149 (q := 150) rfl ?_
    refine s_aload_n o 0 rfl dX6_narrow_150 (q := 151) rfl ?_
    refine s_gi o kf_X6_256 dX6_narrow_151 (q := 154) rfl (fun v8_ => ?_)
    refine s_iadd o dX6_narrow_154 (q := 155) rfl ?_
    refine s_goto o (tgt := 168) dX6_narrow_155 (by decide) ?_
    exact s_sub [0, 1, 3] rfl (t_X6_narrow_168 o f x0 x1 x3 a2_ (((4 : Int32) * x1) + (1 : Int32)) (x2 + v8_) h1_)
set_option maxRecDepth 20000 in
theorem t_X6_narrow_0 {X : Cx} (o : Ok X RX6 cX6_narrow 4 0 0 0 0 none) (f : Nat)  (x0 : Nat) (x1 : Int32) (x2 : Int32) (x3 : Int32) (h : Hp) : Sim X (z_Zv X 0 0) 0 0 0 [(0, rf (xG X) x0), (1, .int x1), (2, .int x2), (3, .int x3)] [] h (f_X6_narrow f x0 x1 x2 x3 h) := by
  unfold f_X6_narrow
  refine s_aload_n o 0 rfl dX6_narrow_0 (q := 1) rfl ?_
  refine s_gr o kf_X6_72 dX6_narrow_1 (q := 4) rfl (fun a1_ => ?_)
  refine s_iload_n o 1 rfl dX6_narrow_4 (q := 5) rfl ?_
  refine s_zald o dX6_narrow_5 (q := 6) rfl (fun v2_ => ?_)
  refine s_if_eq o (tgt := 79) dX6_narrow_6 (by decide) (q := 9) rfl ?_ ?_
  · refine s_aload_n o 0 rfl dX6_narrow_79 (q := 80) rfl ?_
    refine s_gr o kf_X6_75 dX6_narrow_80 (q := 83) rfl (fun a3_ => ?_)
    refine s_iconst o dX6_narrow_83 (v := (4 : Int32)) (by decide) (q := 84) rfl ?_
    refine s_iload_n o 1 rfl dX6_narrow_84 (q := 85) rfl ?_
    refine s_imul o dX6_narrow_85 (q := 86) rfl ?_
    refine s_iload_n o 2 rfl dX6_narrow_86 (q := 87) rfl ?_
    refine s_aload_n o 0 rfl dX6_narrow_87 (q := 88) rfl ?_
    refine s_gi o kf_X6_256 dX6_narrow_88 (q := 91) rfl (fun v4_ => ?_)
    refine s_isub o dX6_narrow_91 (q := 92) rfl ?_
    refine s_aload_n o 0 rfl dX6_narrow_92 (q := 93) rfl ?_
    refine s_gr o kf_X6_75 dX6_narrow_93 (q := 96) rfl (fun a5_ => ?_)
    refine s_iconst o dX6_narrow_96 (v := (4 : Int32)) (by decide) (q := 97) rfl ?_
    refine s_iload_n o 1 rfl dX6_narrow_97 (q := 98) rfl ?_
    refine s_imul o dX6_narrow_98 (q := 99) rfl ?_
    refine s_iald o dX6_narrow_99 (q := 100) rfl (fun v6_ => ?_)
    refine s_ic_le o (tgt := 112) dX6_narrow_100 (by decide) (q := 103) rfl ?_ ?_
    · refine s_aload_n o 0 rfl dX6_narrow_112 (q := 113) rfl ?_
      refine s_gr o kf_X6_75 dX6_narrow_113 (q := 116) rfl (fun a7_ => ?_)
      refine s_iconst o dX6_narrow_116 (v := (4 : Int32)) (by decide) (q := 117) rfl ?_
      refine s_iload_n o 1 rfl dX6_narrow_117 (q := 118) rfl ?_
      refine s_imul o dX6_narrow_118 (q := 119) rfl ?_
      refine s_iald o dX6_narrow_119 (q := 120) rfl (fun v8_ => ?_)
      exact s_sub [0, 1, 2, 3] rfl (t_X6_narrow_120 o f x0 x1 x2 x3 a3_ ((4 : Int32) * x1) v8_ h)
    · refine s_iload_n o 2 rfl dX6_narrow_103 (q := 104) rfl ?_
      refine s_aload_n o 0 rfl dX6_narrow_104 (q := 105) rfl ?_
      refine s_gi o kf_X6_256 dX6_narrow_105 (q := 108) rfl (fun v9_ => ?_)
      refine s_isub o dX6_narrow_108 (q := 109) rfl ?_
      refine s_goto o (tgt := 120) dX6_narrow_109 (by decide) ?_
      exact s_sub [0, 1, 2, 3] rfl (t_X6_narrow_120 o f x0 x1 x2 x3 a3_ ((4 : Int32) * x1) (x2 - v9_) h)
  · refine s_aload_n o 0 rfl dX6_narrow_9 (q := 10) rfl ?_
    refine s_gr o kf_X6_75 dX6_narrow_10 (q := 13) rfl (fun a10_ => ?_)
    refine s_iconst o dX6_narrow_13 (v := (4 : Int32)) (by decide) (q := 14) rfl ?_
    refine s_iload_n o 1 rfl dX6_narrow_14 (q := 15) rfl ?_
    refine s_imul o dX6_narrow_15 (q := 16) rfl ?_
    refine s_iload_n o 2 rfl dX6_narrow_16 (q := 17) rfl ?_
    refine s_aload_n o 0 rfl dX6_narrow_17 (q := 18) rfl ?_
    refine s_gi o kf_X6_256 dX6_narrow_18 (q := 21) rfl (fun v11_ => ?_)
    refine s_isub o dX6_narrow_21 (q := 22) rfl ?_
    refine s_iast o dX6_narrow_22 (q := 23) rfl (fun h12_ => ?_)
    refine s_aload_n o 0 rfl dX6_narrow_23 (q := 24) rfl ?_
    refine s_gr o kf_X6_75 dX6_narrow_24 (q := 27) rfl (fun a13_ => ?_)
    refine s_iconst o dX6_narrow_27 (v := (4 : Int32)) (by decide) (q := 28) rfl ?_
    refine s_iload_n o 1 rfl dX6_narrow_28 (q := 29) rfl ?_
    refine s_imul o dX6_narrow_29 (q := 30) rfl ?_
    refine s_iconst o dX6_narrow_30 (v := (1 : Int32)) (by decide) (q := 31) rfl ?_
    refine s_iadd o dX6_narrow_31 (q := 32) rfl ?_
    refine s_iload_n o 2 rfl dX6_narrow_32 (q := 33) rfl ?_
    refine s_aload_n o 0 rfl dX6_narrow_33 (q := 34) rfl ?_
    refine s_gi o kf_X6_256 dX6_narrow_34 (q := 37) rfl (fun v14_ => ?_)
    refine s_iadd o dX6_narrow_37 (q := 38) rfl ?_
    refine s_iast o dX6_narrow_38 (q := 39) rfl (fun h15_ => ?_)
    refine s_aload_n o 0 rfl dX6_narrow_39 (q := 40) rfl ?_
    refine s_gr o kf_X6_75 dX6_narrow_40 (q := 43) rfl (fun a16_ => ?_)
    refine s_iconst o dX6_narrow_43 (v := (4 : Int32)) (by decide) (q := 44) rfl ?_
    refine s_iload_n o 1 rfl dX6_narrow_44 (q := 45) rfl ?_
    refine s_imul o dX6_narrow_45 (q := 46) rfl ?_
    refine s_iconst o dX6_narrow_46 (v := (2 : Int32)) (by decide) (q := 47) rfl ?_
    refine s_iadd o dX6_narrow_47 (q := 48) rfl ?_
    refine s_iload_n o 3 rfl dX6_narrow_48 (q := 49) rfl ?_
    refine s_aload_n o 0 rfl dX6_narrow_49 (q := 50) rfl ?_
    refine s_gi o kf_X6_256 dX6_narrow_50 (q := 53) rfl (fun v17_ => ?_)
    refine s_isub o dX6_narrow_53 (q := 54) rfl ?_
    refine s_iast o dX6_narrow_54 (q := 55) rfl (fun h18_ => ?_)
    refine s_aload_n o 0 rfl dX6_narrow_55 (q := 56) rfl ?_
    refine s_gr o kf_X6_75 dX6_narrow_56 (q := 59) rfl (fun a19_ => ?_)
    refine s_iconst o dX6_narrow_59 (v := (4 : Int32)) (by decide) (q := 60) rfl ?_
    refine s_iload_n o 1 rfl dX6_narrow_60 (q := 61) rfl ?_
    refine s_imul o dX6_narrow_61 (q := 62) rfl ?_
    refine s_iconst o dX6_narrow_62 (v := (3 : Int32)) (by decide) (q := 63) rfl ?_
    refine s_iadd o dX6_narrow_63 (q := 64) rfl ?_
    refine s_iload_n o 3 rfl dX6_narrow_64 (q := 65) rfl ?_
    refine s_aload_n o 0 rfl dX6_narrow_65 (q := 66) rfl ?_
    refine s_gi o kf_X6_256 dX6_narrow_66 (q := 69) rfl (fun v20_ => ?_)
    refine s_iadd o dX6_narrow_69 (q := 70) rfl ?_
    refine s_iast o dX6_narrow_70 (q := 71) rfl (fun h21_ => ?_)
    refine s_aload_n o 0 rfl dX6_narrow_71 (q := 72) rfl ?_
    refine s_gr o kf_X6_72 dX6_narrow_72 (q := 75) rfl (fun a22_ => ?_)
    refine s_iload_n o 1 rfl dX6_narrow_75 (q := 76) rfl ?_
    refine s_iconst o dX6_narrow_76 (v := (0 : Int32)) (by decide) (q := 77) rfl ?_
    refine s_zast o dX6_narrow_77 (q := 78) rfl (fun h23_ => ?_)
    exact s_vret o dX6_narrow_78
theorem c_X6_narrow (G : Gx) (f : Nat) (x0 : Nat) (x1 : Int32) (x2 : Int32) (x3 : Int32) (h : Hp) : z_M z_qv G yX6_narrow cX6_narrow 4 none 0 0 0 0 [rf G x0, .int x1, .int x2, .int x3] h (f_X6_narrow f x0 x1 x2 x3 h) :=
  z_met (by decide +kernel) (Nat.le_of_ble_eq_true rfl) (fun X hG hn o hnm => by
    subst hG
    show Sim X (z_Zv X 0 0) 0 0 0 [(0, rf (xG X) x0), (1, .int x1), (2, .int x2), (3, .int x3)] [] h _
    exact s_sub [0, 1, 2, 3] rfl (t_X6_narrow_0 o f x0 x1 x2 x3 h))
