/-! SixMaps.forget()I -/
def f_X5_forget (f : Nat)  (x0 : Nat) (h : Hp) : Option (Int32 × Hp) :=
  (q_gr h x0 5 9).bind fun a1_ =>
  (q_gi h a1_ 3 3).bind fun v2_ =>
  (q_gr h x0 5 9).bind fun a3_ =>
  (q_pi h a3_ 3 3 (0 : Int32)).bind fun h4_ =>
  some (v2_, h4_)
set_option maxRecDepth 20000 in
theorem t_X5_forget_0 {X : Cx} (o : Ok X RX5 cX5_forget 2 0 0 0 0 (some .int)) (f : Nat)  (x0 : Nat) (h : Hp) : Sim X (z_Zi X 0 0) 0 0 0 [(0, rf (xG X) x0)] [] h (f_X5_forget f x0 h) := by
  unfold f_X5_forget
  refine s_aload_n o 0 rfl dX5_forget_0 (q := 1) rfl ?_
  refine s_gr o kf_X5_55 dX5_forget_1 (q := 4) rfl (fun a1_ => ?_)
  refine s_gi o kf_X5_82 dX5_forget_4 (q := 7) rfl (fun v2_ => ?_)
  refine s_istore_n o [1, 0] (lv' := [(0, rf (xG X) x0), (1, .int v2_)]) rfl dX5_forget_7 (by decide) (q := 8) rfl ?_
  refine s_aload_n o 0 rfl dX5_forget_8 (q := 9) rfl ?_
  refine s_gr o kf_X5_55 dX5_forget_9 (q := 12) rfl (fun a3_ => ?_)
  refine s_iconst o dX5_forget_12 (v := (0 : Int32)) (by decide) (q := 13) rfl ?_
  refine s_pi o kf_X5_82 dX5_forget_13 (q := 16) rfl (fun h4_ => ?_)
  refine s_iload_n o 1 rfl dX5_forget_16 (q := 17) rfl ?_
  exact s_iret o dX5_forget_17
theorem c_X5_forget (G : Gx) (f : Nat) (x0 : Nat) (h : Hp) : z_M z_qi G yX5_forget cX5_forget 2 (some .int) 0 0 0 0 [rf G x0] h (f_X5_forget f x0 h) :=
  z_met (by decide +kernel) (Nat.le_of_ble_eq_true rfl) (fun X hG hn o hnm => by
    subst hG
    show Sim X (z_Zi X 0 0) 0 0 0 [(0, rf (xG X) x0)] [] h _
    exact s_sub [0] rfl (t_X5_forget_0 o f x0 h))
/-! SixMaps.found(I)I -/
def b_X5_found_96 (f : Nat) (k39 : Nat → Int32 → Int32 → Int32 → Hp → Option (Int32 × Hp)) (k48 : Nat → Int32 → Int32 → Int32 → Int32 → Hp → Option (Int32 × Hp)) (x0 : Nat) (x1 : Int32) (x2 : Int32) (x3 : Int32) (x4 : Int32) (h : Hp) : Option (Int32 × Hp) :=
  lt (x4 + (1 : Int32)) fun v1_ =>
  k48 x0 x1 x2 x3 v1_ h
def b_X5_found_48 (f : Nat) (k39 : Nat → Int32 → Int32 → Int32 → Hp → Option (Int32 × Hp)) (k48 : Nat → Int32 → Int32 → Int32 → Int32 → Hp → Option (Int32 × Hp)) (x0 : Nat) (x1 : Int32) (x2 : Int32) (x3 : Int32) (x4 : Int32) (h : Hp) : Option (Int32 × Hp) :=
  (q_gr h x0 5 3).bind fun a1_ =>
  (q_gi h a1_ 0 4).bind fun v2_ =>
  if v2_ ≤ x4 then
  (lt (x3 + (1 : Int32)) fun v3_ =>
  k39 x0 x1 x2 v3_ h)
  else
  (if ¬ x3 = x1 then
  (lt (x2 + (1 : Int32)) fun v4_ =>
  (q_gr h x0 5 10).bind fun a5_ =>
  q_on h a5_ 1 (
  (f_X1_hear f a5_ x3 ((1 : Int32) <<< (x4 &&& 31)) h).bind fun h7_ =>
  (q_gr h7_ x0 5 10).bind fun a8_ =>
  (q_gi h7_ a8_ 1 12).bind fun v9_ =>
  if ¬ v9_ = (1 : Int32) then
  (b_X5_found_96 f k39 k48 x0 x1 v4_ x3 x4 h7_)
  else
  (some (v4_, h7_))))
  else
  (b_X5_found_96 f k39 k48 x0 x1 x2 x3 x4 h))
def l_X5_found_48 (f : Nat) (k39 : Nat → Int32 → Int32 → Int32 → Hp → Option (Int32 × Hp)) : Nat → Nat → Int32 → Int32 → Int32 → Int32 → Hp → Option (Int32 × Hp)
  | 0, _, _, _, _, _, _ => none
  | n + 1, x0, x1, x2, x3, x4, h => b_X5_found_48 f k39 (l_X5_found_48 f k39 n) x0 x1 x2 x3 x4 h
def b_X5_found_39 (f : Nat) (k39 : Nat → Int32 → Int32 → Int32 → Hp → Option (Int32 × Hp)) (x0 : Nat) (x1 : Int32) (x2 : Int32) (x3 : Int32) (h : Hp) : Option (Int32 × Hp) :=
  if (6 : Int32) ≤ x3 then
  (some ((-1 : Int32), h))
  else
  (l_X5_found_48 f k39 f x0 x1 x2 x3 (0 : Int32) h)
def l_X5_found_39 (f : Nat)  : Nat → Nat → Int32 → Int32 → Int32 → Hp → Option (Int32 × Hp)
  | 0, _, _, _, _, _ => none
  | n + 1, x0, x1, x2, x3, h => b_X5_found_39 f  (l_X5_found_39 f  n) x0 x1 x2 x3 h
def f_X5_found (f : Nat)  (x0 : Nat) (x1 : Int32) (h : Hp) : Option (Int32 × Hp) :=
  bi (f_X5_isBand f x1 h) fun v2_ h1_ =>
  if ¬ v2_ = 0 then
  ((q_gr h1_ x0 5 10).bind fun a3_ =>
  (q_gr h1_ x0 5 3).bind fun a4_ =>
  q_on h1_ a3_ 1 (
  (f_X1_weighOwnAlone f a3_ a4_ x1 h1_).bind fun h6_ =>
  (q_gr h6_ x0 5 10).bind fun a7_ =>
  (q_gi h6_ a7_ 1 12).bind fun v8_ =>
  if ¬ v8_ = (1 : Int32) then
  (l_X5_found_39 f f x0 x1 (0 : Int32) (0 : Int32) h6_)
  else
  (some ((0 : Int32), h6_))))
  else
  (some ((-1000001 : Int32), h1_))
set_option maxRecDepth 20000 in
theorem t_X5_found_96 {X : Cx} (o : Ok X RX5 cX5_found 5 7 154 0 0 (some .int)) (f : Nat) {k39 : Nat → Int32 → Int32 → Int32 → Hp → Option (Int32 × Hp)} (hk39 : ∀ (x0 : Nat) (x1 : Int32) (x2 : Int32) (x3 : Int32) (h : Hp), Sim X (z_Zi X 0 0) 0 0 39 [(0, rf (xG X) x0), (1, .int x1), (2, .int x2), (3, .int x3)] [] h (k39 x0 x1 x2 x3 h)) {k48 : Nat → Int32 → Int32 → Int32 → Int32 → Hp → Option (Int32 × Hp)} (hk48 : ∀ (x0 : Nat) (x1 : Int32) (x2 : Int32) (x3 : Int32) (x4 : Int32) (h : Hp), Sim X (z_Zi X 0 0) 0 0 48 [(0, rf (xG X) x0), (1, .int x1), (2, .int x2), (3, .int x3), (4, .int x4)] [] h (k48 x0 x1 x2 x3 x4 h)) (x0 : Nat) (x1 : Int32) (x2 : Int32) (x3 : Int32) (x4 : Int32) (h : Hp) : Sim X (z_Zi X 0 0) 0 0 96 [(0, rf (xG X) x0), (1, .int x1), (2, .int x2), (3, .int x3), (4, .int x4)] [] h (b_X5_found_96 f k39 k48 x0 x1 x2 x3 x4 h) := by
  unfold b_X5_found_96
  refine s_iinc o 4 rfl (v := (1 : Int32)) (by decide) [1, 2, 3, 4, 0] (lv' := fun v1_ => [(0, rf (xG X) x0), (1, .int x1), (2, .int x2), (3, .int x3), (4, .int v1_)]) (fun _ => rfl) dX5_found_96 (by decide) (q := 99) rfl (fun v1_ => ?_)
  refine s_goto o (tgt := 48) dX5_found_99 (by decide) ?_
  exact s_sub [0, 1, 2, 3, 4] rfl (hk48 x0 x1 x2 x3 v1_ h)
set_option maxRecDepth 20000 in
theorem t_X5_found_48 {X : Cx} (o : Ok X RX5 cX5_found 5 7 154 0 0 (some .int)) (f : Nat) {k39 : Nat → Int32 → Int32 → Int32 → Hp → Option (Int32 × Hp)} (hk39 : ∀ (x0 : Nat) (x1 : Int32) (x2 : Int32) (x3 : Int32) (h : Hp), Sim X (z_Zi X 0 0) 0 0 39 [(0, rf (xG X) x0), (1, .int x1), (2, .int x2), (3, .int x3)] [] h (k39 x0 x1 x2 x3 h)) {k48 : Nat → Int32 → Int32 → Int32 → Int32 → Hp → Option (Int32 × Hp)} (hk48 : ∀ (x0 : Nat) (x1 : Int32) (x2 : Int32) (x3 : Int32) (x4 : Int32) (h : Hp), Sim X (z_Zi X 0 0) 0 0 48 [(0, rf (xG X) x0), (1, .int x1), (2, .int x2), (3, .int x3), (4, .int x4)] [] h (k48 x0 x1 x2 x3 x4 h)) (x0 : Nat) (x1 : Int32) (x2 : Int32) (x3 : Int32) (x4 : Int32) (h : Hp) : Sim X (z_Zi X 0 0) 0 0 48 [(0, rf (xG X) x0), (1, .int x1), (2, .int x2), (3, .int x3), (4, .int x4)] [] h (b_X5_found_48 f k39 k48 x0 x1 x2 x3 x4 h) := by
  unfold b_X5_found_48
  refine s_iload o 4 rfl dX5_found_48 (q := 50) rfl ?_
  refine s_aload_n o 0 rfl dX5_found_50 (q := 51) rfl ?_
  refine s_gr o kf_X5_23 dX5_found_51 (q := 54) rfl (fun a1_ => ?_)
  refine s_gi o kf_X5_75 dX5_found_54 (q := 57) rfl (fun v2_ => ?_)
  refine s_ic_ge o (tgt := 102) dX5_found_57 (by decide) (q := 60) rfl ?_ ?_
  · refine s_iinc o 3 rfl (v := (1 : Int32)) (by decide) [1, 2, 3, 0, 4] (lv' := fun v3_ => [(0, rf (xG X) x0), (1, .int x1), (2, .int x2), (3, .int v3_), (4, .int x4)]) (fun _ => rfl) dX5_found_102 (by decide) (q := 105) rfl (fun v3_ => ?_)
    refine s_goto o (tgt := 39) dX5_found_105 (by decide) ?_
    exact s_sub [0, 1, 2, 3] rfl (hk39 x0 x1 x2 v3_ h)
  · refine s_iload_n o 3 rfl dX5_found_60 (q := 61) rfl ?_
    refine s_iload_n o 1 rfl dX5_found_61 (q := 62) rfl ?_
    refine s_ic_ne o (tgt := 68) dX5_found_62 (by decide) (q := 65) rfl ?_ ?_
    · refine s_iinc o 2 rfl (v := (1 : Int32)) (by decide) [1, 2, 0, 3, 4] (lv' := fun v4_ => [(0, rf (xG X) x0), (1, .int x1), (2, .int v4_), (3, .int x3), (4, .int x4)]) (fun _ => rfl) dX5_found_68 (by decide) (q := 71) rfl (fun v4_ => ?_)
      refine s_aload_n o 0 rfl dX5_found_71 (q := 72) rfl ?_
      refine s_gr o kf_X5_62 dX5_found_72 (q := 75) rfl (fun a5_ => ?_)
      refine s_iload_n o 3 rfl dX5_found_75 (q := 76) rfl ?_
      refine s_iconst o dX5_found_76 (v := (1 : Int32)) (by decide) (q := 77) rfl ?_
      refine s_iload o 4 rfl dX5_found_77 (q := 79) rfl ?_
      refine s_ishl o dX5_found_79 (q := 80) rfl ?_
      refine s_on (fun hk6_ => ?_)
      refine s_callv (fun r0 hr0 => runV o hk6_ cv_X5_211 (c_X1_hear (xG X) f a5_ x3 ((1 : Int32) <<< (x4 &&& 31)) h (xl X) r0 hr0) ⟨Nat.le_of_ble_eq_true rfl, Nat.le_of_ble_eq_true rfl⟩ rfl rfl (Nat.le_of_ble_eq_true rfl) dX5_found_80 ⟨Nat.le_of_ble_eq_true rfl, Nat.le_of_ble_eq_true rfl⟩) (q := 83) rfl (cs' := 0) rfl (sl' := 0) rfl (fun h7_ => ?_)
      refine s_aload_n o 0 rfl dX5_found_83 (q := 84) rfl ?_
      refine s_gr o kf_X5_62 dX5_found_84 (q := 87) rfl (fun a8_ => ?_)
      refine s_gi o kf_X5_165 dX5_found_87 (q := 90) rfl (fun v9_ => ?_)
      refine s_iconst o dX5_found_90 (v := (1 : Int32)) (by decide) (q := 91) rfl ?_
      refine s_ic_ne o (tgt := 96) dX5_found_91 (by decide) (q := 94) rfl ?_ ?_
      · exact s_sub [0, 1, 2, 3, 4] rfl (t_X5_found_96 o f hk39 hk48 x0 x1 v4_ x3 x4 h7_)
      · refine s_iload_n o 2 rfl dX5_found_94 (q := 95) rfl ?_
        exact s_iret o dX5_found_95
    · refine s_goto o (tgt := 96) dX5_found_65 (by decide) ?_
      exact s_sub [0, 1, 2, 3, 4] rfl (t_X5_found_96 o f hk39 hk48 x0 x1 x2 x3 x4 h)
theorem tl_X5_found_48 {X : Cx} (o : Ok X RX5 cX5_found 5 7 154 0 0 (some .int)) (f : Nat) {k39 : Nat → Int32 → Int32 → Int32 → Hp → Option (Int32 × Hp)} (hk39 : ∀ (x0 : Nat) (x1 : Int32) (x2 : Int32) (x3 : Int32) (h : Hp), Sim X (z_Zi X 0 0) 0 0 39 [(0, rf (xG X) x0), (1, .int x1), (2, .int x2), (3, .int x3)] [] h (k39 x0 x1 x2 x3 h)) : ∀ (n : Nat) (x0 : Nat) (x1 : Int32) (x2 : Int32) (x3 : Int32) (x4 : Int32) (h : Hp), Sim X (z_Zi X 0 0) 0 0 48 [(0, rf (xG X) x0), (1, .int x1), (2, .int x2), (3, .int x3), (4, .int x4)] [] h (l_X5_found_48 f k39 n x0 x1 x2 x3 x4 h) := by
  intro n
  induction n with
  | zero => intro x0 x1 x2 x3 x4 h; exact s_none
  | succ n ih => intro x0 x1 x2 x3 x4 h; exact t_X5_found_48 o f hk39 ih x0 x1 x2 x3 x4 h
set_option maxRecDepth 20000 in
theorem t_X5_found_39 {X : Cx} (o : Ok X RX5 cX5_found 5 7 154 0 0 (some .int)) (f : Nat) {k39 : Nat → Int32 → Int32 → Int32 → Hp → Option (Int32 × Hp)} (hk39 : ∀ (x0 : Nat) (x1 : Int32) (x2 : Int32) (x3 : Int32) (h : Hp), Sim X (z_Zi X 0 0) 0 0 39 [(0, rf (xG X) x0), (1, .int x1), (2, .int x2), (3, .int x3)] [] h (k39 x0 x1 x2 x3 h)) (x0 : Nat) (x1 : Int32) (x2 : Int32) (x3 : Int32) (h : Hp) : Sim X (z_Zi X 0 0) 0 0 39 [(0, rf (xG X) x0), (1, .int x1), (2, .int x2), (3, .int x3)] [] h (b_X5_found_39 f k39 x0 x1 x2 x3 h) := by
  unfold b_X5_found_39
  refine s_iload_n o 3 rfl dX5_found_39 (q := 40) rfl ?_
  refine s_bipush o dX5_found_40 (v := (6 : Int32)) (by decide) (q := 42) rfl ?_
  refine s_ic_ge o (tgt := 108) dX5_found_42 (by decide) (q := 45) rfl ?_ ?_
  · refine s_iconst o dX5_found_108 (v := (-1 : Int32)) (by decide) (q := 109) rfl ?_
    exact s_iret o dX5_found_109
  · refine s_iconst o dX5_found_45 (v := (0 : Int32)) (by decide) (q := 46) rfl ?_
    refine s_istore o [1, 2, 3, 4, 0] (lv' := [(0, rf (xG X) x0), (1, .int x1), (2, .int x2), (3, .int x3), (4, .int (0 : Int32))]) rfl dX5_found_46 (by decide) (q := 48) rfl ?_
    exact s_sub [0, 1, 2, 3, 4] rfl (tl_X5_found_48 o f hk39 f x0 x1 x2 x3 (0 : Int32) h)
theorem tl_X5_found_39 {X : Cx} (o : Ok X RX5 cX5_found 5 7 154 0 0 (some .int)) (f : Nat)  : ∀ (n : Nat) (x0 : Nat) (x1 : Int32) (x2 : Int32) (x3 : Int32) (h : Hp), Sim X (z_Zi X 0 0) 0 0 39 [(0, rf (xG X) x0), (1, .int x1), (2, .int x2), (3, .int x3)] [] h (l_X5_found_39 f n x0 x1 x2 x3 h) := by
  intro n
  induction n with
  | zero => intro x0 x1 x2 x3 h; exact s_none
  | succ n ih => intro x0 x1 x2 x3 h; exact t_X5_found_39 o f  ih x0 x1 x2 x3 h
set_option maxRecDepth 20000 in
theorem t_X5_found_0 {X : Cx} (o : Ok X RX5 cX5_found 5 7 154 0 0 (some .int)) (f : Nat)  (x0 : Nat) (x1 : Int32) (h : Hp) : Sim X (z_Zi X 0 0) 0 0 0 [(0, rf (xG X) x0), (1, .int x1)] [] h (f_X5_found f x0 x1 h) := by
  unfold f_X5_found
  refine s_iload_n o 1 rfl dX5_found_0 (q := 1) rfl ?_
  refine s_bi (fun r0 hr0 => runS o cs_X5_124 (c_X5_isBand (xG X) f x1 h (xl X) r0 hr0) ⟨Nat.le_of_ble_eq_true rfl, Nat.le_of_ble_eq_true rfl⟩ rfl rfl (Nat.le_of_ble_eq_true rfl) dX5_found_1 ⟨Nat.le_of_ble_eq_true rfl, Nat.le_of_ble_eq_true rfl⟩) (q := 4) rfl (cs' := 0) rfl (sl' := 0) rfl (fun v2_ h1_ => ?_)
  refine s_if_ne o (tgt := 10) dX5_found_4 (by decide) (q := 7) rfl ?_ ?_
  · refine s_aload_n o 0 rfl dX5_found_10 (q := 11) rfl ?_
    refine s_gr o kf_X5_62 dX5_found_11 (q := 14) rfl (fun a3_ => ?_)
    refine s_aload_n o 0 rfl dX5_found_14 (q := 15) rfl ?_
    refine s_gr o kf_X5_23 dX5_found_15 (q := 18) rfl (fun a4_ => ?_)
    refine s_iload_n o 1 rfl dX5_found_18 (q := 19) rfl ?_
    refine s_on (fun hk5_ => ?_)
    refine s_callv (fun r0 hr0 => runV o hk5_ cv_X5_207 (c_X1_weighOwnAlone (xG X) f a3_ a4_ x1 h1_ (xl X) r0 hr0) ⟨Nat.le_of_ble_eq_true rfl, Nat.le_of_ble_eq_true rfl⟩ rfl rfl (Nat.le_of_ble_eq_true rfl) dX5_found_19 ⟨Nat.le_of_ble_eq_true rfl, Nat.le_of_ble_eq_true rfl⟩) (q := 22) rfl (cs' := 0) rfl (sl' := 0) rfl (fun h6_ => ?_)
    refine s_aload_n o 0 rfl dX5_found_22 (q := 23) rfl ?_
    refine s_gr o kf_X5_62 dX5_found_23 (q := 26) rfl (fun a7_ => ?_)
    refine s_gi o kf_X5_165 dX5_found_26 (q := 29) rfl (fun v8_ => ?_)
    refine s_iconst o dX5_found_29 (v := (1 : Int32)) (by decide) (q := 30) rfl ?_
    refine s_ic_ne o (tgt := 35) dX5_found_30 (by decide) (q := 33) rfl ?_ ?_
    · refine s_iconst o dX5_found_35 (v := (0 : Int32)) (by decide) (q := 36) rfl ?_
      refine s_istore_n o [1, 2, 0] (lv' := [(0, rf (xG X) x0), (1, .int x1), (2, .int (0 : Int32))]) rfl dX5_found_36 (by decide) (q := 37) rfl ?_
      refine s_iconst o dX5_found_37 (v := (0 : Int32)) (by decide) (q := 38) rfl ?_
      refine s_istore_n o [1, 2, 3, 0] (lv' := [(0, rf (xG X) x0), (1, .int x1), (2, .int (0 : Int32)), (3, .int (0 : Int32))]) rfl dX5_found_38 (by decide) (q := 39) rfl ?_
      exact s_sub [0, 1, 2, 3] rfl (tl_X5_found_39 o f f x0 x1 (0 : Int32) (0 : Int32) h6_)
    · refine s_iconst o dX5_found_33 (v := (0 : Int32)) (by decide) (q := 34) rfl ?_
      exact s_iret o dX5_found_34
  · refine s_ldc o kc_X5_116 dX5_found_7 (q := 9) rfl ?_
    exact s_iret o dX5_found_9
theorem c_X5_found (G : Gx) (f : Nat) (x0 : Nat) (x1 : Int32) (h : Hp) : z_M z_qi G yX5_found cX5_found 5 (some .int) 7 154 0 0 [rf G x0, .int x1] h (f_X5_found f x0 x1 h) :=
  z_met (by decide +kernel) (Nat.le_of_ble_eq_true rfl) (fun X hG hn o hnm => by
    subst hG
    show Sim X (z_Zi X 0 0) 0 0 0 [(0, rf (xG X) x0), (1, .int x1)] [] h _
    exact s_sub [0, 1] rfl (t_X5_found_0 o f x0 x1 h))
/-! SixMaps.goBack(I)I -/
def b_X5_goBack_9 (f : Nat)   (h : Hp) : Option (Int32 × Hp) :=
  some ((-1000001 : Int32), h)
def f_X5_goBack (f : Nat)  (x0 : Nat) (x1 : Int32) (h : Hp) : Option (Int32 × Hp) :=
  if x1 < 0 then
  (b_X5_goBack_9 f h)
  else
  (if x1 < (2 : Int32) then
  ((q_gr h x0 5 8).bind fun a1_ =>
  (q_ai h a1_ 10 x1).bind fun v2_ =>
  if ¬ v2_ = 0 then
  ((q_gr h x0 5 6).bind fun a3_ =>
  (q_gr h x0 5 7).bind fun a4_ =>
  (q_ar h a4_ x1).bind fun a5_ =>
  q_on h a3_ 4 (
  (f_X4_copyFrom f a3_ a5_ h).bind fun h7_ =>
  some ((1 : Int32), h7_)))
  else
  (some ((-1000003 : Int32), h)))
  else
  (b_X5_goBack_9 f h))
set_option maxRecDepth 20000 in
theorem t_X5_goBack_9 {X : Cx} (o : Ok X RX5 cX5_goBack 2 2 39 0 0 (some .int)) (f : Nat)   (h : Hp) : Sim X (z_Zi X 0 0) 0 0 9 [] [] h (b_X5_goBack_9 f h) := by
  unfold b_X5_goBack_9
  refine s_ldc o kc_X5_116 dX5_goBack_9 (q := 11) rfl ?_
  exact s_iret o dX5_goBack_11
set_option maxRecDepth 20000 in
theorem t_X5_goBack_0 {X : Cx} (o : Ok X RX5 cX5_goBack 2 2 39 0 0 (some .int)) (f : Nat)  (x0 : Nat) (x1 : Int32) (h : Hp) : Sim X (z_Zi X 0 0) 0 0 0 [(0, rf (xG X) x0), (1, .int x1)] [] h (f_X5_goBack f x0 x1 h) := by
  unfold f_X5_goBack
  refine s_iload_n o 1 rfl dX5_goBack_0 (q := 1) rfl ?_
  refine s_if_lt o (tgt := 9) dX5_goBack_1 (by decide) (q := 4) rfl ?_ ?_
  · exact s_sub [] rfl (t_X5_goBack_9 o f h)
  · refine s_iload_n o 1 rfl dX5_goBack_4 (q := 5) rfl ?_
    refine s_iconst o dX5_goBack_5 (v := (2 : Int32)) (by decide) (q := 6) rfl ?_
    refine s_ic_lt o (tgt := 12) dX5_goBack_6 (by decide) (q := 9) rfl ?_ ?_
    · refine s_aload_n o 0 rfl dX5_goBack_12 (q := 13) rfl ?_
      refine s_gr o kf_X5_48 dX5_goBack_13 (q := 16) rfl (fun a1_ => ?_)
      refine s_iload_n o 1 rfl dX5_goBack_16 (q := 17) rfl ?_
      refine s_zald o dX5_goBack_17 (q := 18) rfl (fun v2_ => ?_)
      refine s_if_ne o (tgt := 24) dX5_goBack_18 (by decide) (q := 21) rfl ?_ ?_
      · refine s_aload_n o 0 rfl dX5_goBack_24 (q := 25) rfl ?_
        refine s_gr o kf_X5_40 dX5_goBack_25 (q := 28) rfl (fun a3_ => ?_)
        refine s_aload_n o 0 rfl dX5_goBack_28 (q := 29) rfl ?_
        refine s_gr o kf_X5_44 dX5_goBack_29 (q := 32) rfl (fun a4_ => ?_)
        refine s_iload_n o 1 rfl dX5_goBack_32 (q := 33) rfl ?_
        refine s_aald o dX5_goBack_33 (q := 34) rfl (fun a5_ => ?_)
        refine s_on (fun hk6_ => ?_)
        refine s_callv (fun r0 hr0 => runV o hk6_ cv_X5_246 (c_X4_copyFrom (xG X) f a3_ a5_ h (xl X) r0 hr0) ⟨Nat.le_of_ble_eq_true rfl, Nat.le_of_ble_eq_true rfl⟩ rfl rfl (Nat.le_of_ble_eq_true rfl) dX5_goBack_34 ⟨Nat.le_of_ble_eq_true rfl, Nat.le_of_ble_eq_true rfl⟩) (q := 37) rfl (cs' := 0) rfl (sl' := 0) rfl (fun h7_ => ?_)
        refine s_iconst o dX5_goBack_37 (v := (1 : Int32)) (by decide) (q := 38) rfl ?_
        exact s_iret o dX5_goBack_38
      · refine s_ldc o kc_X5_133 dX5_goBack_21 (q := 23) rfl ?_
        exact s_iret o dX5_goBack_23
    · exact s_sub [] rfl (t_X5_goBack_9 o f h)
theorem c_X5_goBack (G : Gx) (f : Nat) (x0 : Nat) (x1 : Int32) (h : Hp) : z_M z_qi G yX5_goBack cX5_goBack 2 (some .int) 2 39 0 0 [rf G x0, .int x1] h (f_X5_goBack f x0 x1 h) :=
  z_met (by decide +kernel) (Nat.le_of_ble_eq_true rfl) (fun X hG hn o hnm => by
    subst hG
    show Sim X (z_Zi X 0 0) 0 0 0 [(0, rf (xG X) x0), (1, .int x1)] [] h _
    exact s_sub [0, 1] rfl (t_X5_goBack_0 o f x0 x1 h))
/-! SixMaps.tradeByDraws(I)V -/
def b_X5_tradeByDraws_17 (f : Nat)  (x0 : Nat) (x1 : Int32) (x2 : Int32) (h : Hp) : Option (Hp) :=
  (q_gr h x0 5 6).bind fun a1_ =>
  (q_gr h x0 5 3).bind fun a2_ =>
  (q_gi h a2_ 0 4).bind fun v3_ =>
  q_on h a1_ 4 (
  bi (f_X4_draw f a1_ v3_ h) fun v6_ h5_ =>
  (q_gr h5_ x0 5 6).bind fun a7_ =>
  (q_gr h5_ x0 5 3).bind fun a8_ =>
  (q_gi h5_ a8_ 0 4).bind fun v9_ =>
  q_on h5_ a7_ 4 (
  bi (f_X4_draw f a7_ v9_ h5_) fun v12_ h11_ =>
  (q_gr h11_ x0 5 6).bind fun a13_ =>
  q_on h11_ a13_ 4 (
  (f_X4_learn f a13_ x2 x1 v6_ h11_).bind fun h15_ =>
  (q_gr h15_ x0 5 6).bind fun a16_ =>
  q_on h15_ a16_ 4 (
  (f_X4_learn f a16_ x1 x2 v12_ h15_).bind fun h18_ =>
  some h18_))))
def f_X5_tradeByDraws (f : Nat)  (x0 : Nat) (x1 : Int32) (h : Hp) : Option (Hp) :=
  (q_gr h x0 5 6).bind fun a1_ =>
  q_on h a1_ 4 (
  bi (f_X4_draw f a1_ (5 : Int32) h) fun v4_ h3_ =>
  if v4_ < x1 then
  (b_X5_tradeByDraws_17 f x0 x1 v4_ h3_)
  else
  (lt (v4_ + (1 : Int32)) fun v5_ =>
  b_X5_tradeByDraws_17 f x0 x1 v5_ h3_))
set_option maxRecDepth 20000 in
theorem t_X5_tradeByDraws_17 {X : Cx} (o : Ok X RX5 cX5_tradeByDraws 5 1 23 0 0 none) (f : Nat)  (x0 : Nat) (x1 : Int32) (x2 : Int32) (h : Hp) : Sim X (z_Zv X 0 0) 0 0 17 [(0, rf (xG X) x0), (1, .int x1), (2, .int x2)] [] h (b_X5_tradeByDraws_17 f x0 x1 x2 h) := by
  unfold b_X5_tradeByDraws_17
  refine s_aload_n o 0 rfl dX5_tradeByDraws_17 (q := 18) rfl ?_
  refine s_gr o kf_X5_40 dX5_tradeByDraws_18 (q := 21) rfl (fun a1_ => ?_)
  refine s_aload_n o 0 rfl dX5_tradeByDraws_21 (q := 22) rfl ?_
  refine s_gr o kf_X5_23 dX5_tradeByDraws_22 (q := 25) rfl (fun a2_ => ?_)
  refine s_gi o kf_X5_75 dX5_tradeByDraws_25 (q := 28) rfl (fun v3_ => ?_)
  refine s_on (fun hk4_ => ?_)
  refine s_bi (fun r0 hr0 => runV o hk4_ cv_X5_265 (c_X4_draw (xG X) f a1_ v3_ h (xl X) r0 hr0) ⟨Nat.le_of_ble_eq_true rfl, Nat.le_of_ble_eq_true rfl⟩ rfl rfl (Nat.le_of_ble_eq_true rfl) dX5_tradeByDraws_28 ⟨Nat.le_of_ble_eq_true rfl, Nat.le_of_ble_eq_true rfl⟩) (q := 31) rfl (cs' := 0) rfl (sl' := 0) rfl (fun v6_ h5_ => ?_)
  refine s_istore_n o [1, 2, 3, 0] (lv' := [(0, rf (xG X) x0), (1, .int x1), (2, .int x2), (3, .int v6_)]) rfl dX5_tradeByDraws_31 (by decide) (q := 32) rfl ?_
  refine s_aload_n o 0 rfl dX5_tradeByDraws_32 (q := 33) rfl ?_
  refine s_gr o kf_X5_40 dX5_tradeByDraws_33 (q := 36) rfl (fun a7_ => ?_)
  refine s_aload_n o 0 rfl dX5_tradeByDraws_36 (q := 37) rfl ?_
  refine s_gr o kf_X5_23 dX5_tradeByDraws_37 (q := 40) rfl (fun a8_ => ?_)
  refine s_gi o kf_X5_75 dX5_tradeByDraws_40 (q := 43) rfl (fun v9_ => ?_)
  refine s_on (fun hk10_ => ?_)
  refine s_bi (fun r0 hr0 => runV o hk10_ cv_X5_265 (c_X4_draw (xG X) f a7_ v9_ h5_ (xl X) r0 hr0) ⟨Nat.le_of_ble_eq_true rfl, Nat.le_of_ble_eq_true rfl⟩ rfl rfl (Nat.le_of_ble_eq_true rfl) dX5_tradeByDraws_43 ⟨Nat.le_of_ble_eq_true rfl, Nat.le_of_ble_eq_true rfl⟩) (q := 46) rfl (cs' := 0) rfl (sl' := 0) rfl (fun v12_ h11_ => ?_)
  refine s_istore o [1, 2, 3, 4, 0] (lv' := [(0, rf (xG X) x0), (1, .int x1), (2, .int x2), (3, .int v6_), (4, .int v12_)]) rfl dX5_tradeByDraws_46 (by decide) (q := 48) rfl ?_
  refine s_aload_n o 0 rfl dX5_tradeByDraws_48 (q := 49) rfl ?_
  refine s_gr o kf_X5_40 dX5_tradeByDraws_49 (q := 52) rfl (fun a13_ => ?_)
  refine s_iload_n o 2 rfl dX5_tradeByDraws_52 (q := 53) rfl ?_
  refine s_iload_n o 1 rfl dX5_tradeByDraws_53 (q := 54) rfl ?_
  refine s_iload_n o 3 rfl dX5_tradeByDraws_54 (q := 55) rfl ?_
  refine s_on (fun hk14_ => ?_)
  refine s_callv (fun r0 hr0 => runV o hk14_ cv_X5_145 (c_X4_learn (xG X) f a13_ x2 x1 v6_ h11_ (xl X) r0 hr0) ⟨Nat.le_of_ble_eq_true rfl, Nat.le_of_ble_eq_true rfl⟩ rfl rfl (Nat.le_of_ble_eq_true rfl) dX5_tradeByDraws_55 ⟨Nat.le_of_ble_eq_true rfl, Nat.le_of_ble_eq_true rfl⟩) (q := 58) rfl (cs' := 0) rfl (sl' := 0) rfl (fun h15_ => ?_)
  refine s_aload_n o 0 rfl dX5_tradeByDraws_58 (q := 59) rfl ?_
  refine s_gr o kf_X5_40 dX5_tradeByDraws_59 (q := 62) rfl (fun a16_ => ?_)
  refine s_iload_n o 1 rfl dX5_tradeByDraws_62 (q := 63) rfl ?_
  refine s_iload_n o 2 rfl dX5_tradeByDraws_63 (q := 64) rfl ?_
  refine s_iload o 4 rfl dX5_tradeByDraws_64 (q := 66) rfl ?_
  refine s_on (fun hk17_ => ?_)
  refine s_callv (fun r0 hr0 => runV o hk17_ cv_X5_145 (c_X4_learn (xG X) f a16_ x1 x2 v12_ h15_ (xl X) r0 hr0) ⟨Nat.le_of_ble_eq_true rfl, Nat.le_of_ble_eq_true rfl⟩ rfl rfl (Nat.le_of_ble_eq_true rfl) dX5_tradeByDraws_66 ⟨Nat.le_of_ble_eq_true rfl, Nat.le_of_ble_eq_true rfl⟩) (q := 69) rfl (cs' := 0) rfl (sl' := 0) rfl (fun h18_ => ?_)
  exact s_vret o dX5_tradeByDraws_69
set_option maxRecDepth 20000 in
theorem t_X5_tradeByDraws_0 {X : Cx} (o : Ok X RX5 cX5_tradeByDraws 5 1 23 0 0 none) (f : Nat)  (x0 : Nat) (x1 : Int32) (h : Hp) : Sim X (z_Zv X 0 0) 0 0 0 [(0, rf (xG X) x0), (1, .int x1)] [] h (f_X5_tradeByDraws f x0 x1 h) := by
  unfold f_X5_tradeByDraws
  refine s_aload_n o 0 rfl dX5_tradeByDraws_0 (q := 1) rfl ?_
  refine s_gr o kf_X5_40 dX5_tradeByDraws_1 (q := 4) rfl (fun a1_ => ?_)
  refine s_iconst o dX5_tradeByDraws_4 (v := (5 : Int32)) (by decide) (q := 5) rfl ?_
  refine s_on (fun hk2_ => ?_)
  refine s_bi (fun r0 hr0 => runV o hk2_ cv_X5_265 (c_X4_draw (xG X) f a1_ (5 : Int32) h (xl X) r0 hr0) ⟨Nat.le_of_ble_eq_true rfl, Nat.le_of_ble_eq_true rfl⟩ rfl rfl (Nat.le_of_ble_eq_true rfl) dX5_tradeByDraws_5 ⟨Nat.le_of_ble_eq_true rfl, Nat.le_of_ble_eq_true rfl⟩) (q := 8) rfl (cs' := 0) rfl (sl' := 0) rfl (fun v4_ h3_ => ?_)
  refine s_istore_n o [1, 2, 0] (lv' := [(0, rf (xG X) x0), (1, .int x1), (2, .int v4_)]) rfl dX5_tradeByDraws_8 (by decide) (q := 9) rfl ?_
  refine s_iload_n o 2 rfl dX5_tradeByDraws_9 (q := 10) rfl ?_
  refine s_iload_n o 1 rfl dX5_tradeByDraws_10 (q := 11) rfl ?_
  refine s_ic_lt o (tgt := 17) dX5_tradeByDraws_11 (by decide) (q := 14) rfl ?_ ?_
  · exact s_sub [0, 1, 2] rfl (t_X5_tradeByDraws_17 o f x0 x1 v4_ h3_)
  · refine s_iinc o 2 rfl (v := (1 : Int32)) (by decide) [1, 2, 0] (lv' := fun v5_ => [(0, rf (xG X) x0), (1, .int x1), (2, .int v5_)]) (fun _ => rfl) dX5_tradeByDraws_14 (by decide) (q := 17) rfl (fun v5_ => ?_)
    exact s_sub [0, 1, 2] rfl (t_X5_tradeByDraws_17 o f x0 x1 v5_ h3_)
theorem c_X5_tradeByDraws (G : Gx) (f : Nat) (x0 : Nat) (x1 : Int32) (h : Hp) : z_M z_qv G yX5_tradeByDraws cX5_tradeByDraws 5 none 1 23 0 0 [rf G x0, .int x1] h (f_X5_tradeByDraws f x0 x1 h) :=
  z_met (by decide +kernel) (Nat.le_of_ble_eq_true rfl) (fun X hG hn o hnm => by
    subst hG
    show Sim X (z_Zv X 0 0) 0 0 0 [(0, rf (xG X) x0), (1, .int x1)] [] h _
    exact s_sub [0, 1] rfl (t_X5_tradeByDraws_0 o f x0 x1 h))
/-! SixMaps.takeTurn(I)V -/
def b_X5_takeTurn_85 (f : Nat)   (h : Hp) : Option (Hp) :=
  some h
def b_X5_takeTurn_80 (f : Nat)  (x0 : Nat) (x1 : Int32) (h : Hp) : Option (Hp) :=
  q_on h x0 5 (
  (f_X5_tradeByDraws f x0 x1 h).bind fun h2_ =>
  b_X5_takeTurn_85 f h2_)
def f_X5_takeTurn (f : Nat)  (x0 : Nat) (x1 : Int32) (h : Hp) : Option (Hp) :=
  (q_gr h x0 5 10).bind fun a1_ =>
  (q_gr h x0 5 3).bind fun a2_ =>
  (q_gr h x0 5 6).bind fun a3_ =>
  q_on h a1_ 1 (
  (f_X1_weigh f a1_ a2_ a3_ x1 h).bind fun h5_ =>
  (q_gr h5_ x0 5 10).bind fun a6_ =>
  q_on h5_ a6_ 1 (
  (f_X1_choosePlace f a6_ h5_).bind fun h8_ =>
  (q_gr h8_ x0 5 10).bind fun a9_ =>
  (q_gi h8_ a9_ 1 14).bind fun v10_ =>
  if v10_ = (-1 : Int32) then
  (b_X5_takeTurn_80 f x0 x1 h8_)
  else
  ((q_gr h8_ x0 5 10).bind fun a11_ =>
  q_on h8_ a11_ 1 (
  bi (f_X1_worth f a11_ h8_) fun v14_ h13_ =>
  if v14_ ≤ 0 then
  (b_X5_takeTurn_80 f x0 x1 h13_)
  else
  ((q_gr h13_ x0 5 10).bind fun a15_ =>
  (q_gr h13_ x0 5 10).bind fun a16_ =>
  (q_gi h13_ a16_ 1 14).bind fun v17_ =>
  q_on h13_ a15_ 1 (
  bi (f_X1_placeX f a15_ v17_ h13_) fun v20_ h19_ =>
  (q_gr h19_ x0 5 10).bind fun a21_ =>
  (q_gr h19_ x0 5 10).bind fun a22_ =>
  (q_gi h19_ a22_ 1 14).bind fun v23_ =>
  q_on h19_ a21_ 1 (
  bi (f_X1_placeY f a21_ v23_ h19_) fun v26_ h25_ =>
  q_on h25_ x0 5 (
  (f_X5_digAt f x0 x1 v20_ v26_ h25_).bind fun h28_ =>
  b_X5_takeTurn_85 f h28_))))))))
set_option maxRecDepth 20000 in
theorem t_X5_takeTurn_85 {X : Cx} (o : Ok X RX5 cX5_takeTurn 2 6 133 0 0 none) (f : Nat)   (h : Hp) : Sim X (z_Zv X 0 0) 0 0 85 [] [] h (b_X5_takeTurn_85 f h) := by
  unfold b_X5_takeTurn_85
  exact s_vret o dX5_takeTurn_85
set_option maxRecDepth 20000 in
theorem t_X5_takeTurn_80 {X : Cx} (o : Ok X RX5 cX5_takeTurn 2 6 133 0 0 none) (f : Nat)  (x0 : Nat) (x1 : Int32) (h : Hp) : Sim X (z_Zv X 0 0) 0 0 80 [(0, rf (xG X) x0), (1, .int x1)] [] h (b_X5_takeTurn_80 f x0 x1 h) := by
  unfold b_X5_takeTurn_80
  refine s_aload_n o 0 rfl dX5_takeTurn_80 (q := 81) rfl ?_
  refine s_iload_n o 1 rfl dX5_takeTurn_81 (q := 82) rfl ?_
  refine s_on (fun hk1_ => ?_)
  refine s_callv (fun r0 hr0 => runV o hk1_ cv_X5_262 (c_X5_tradeByDraws (xG X) f x0 x1 h (xl X) r0 hr0) ⟨Nat.le_of_ble_eq_true rfl, Nat.le_of_ble_eq_true rfl⟩ rfl rfl (Nat.le_of_ble_eq_true rfl) dX5_takeTurn_82 ⟨Nat.le_of_ble_eq_true rfl, Nat.le_of_ble_eq_true rfl⟩) (q := 85) rfl (cs' := 0) rfl (sl' := 0) rfl (fun h2_ => ?_)
  exact s_sub [] rfl (t_X5_takeTurn_85 o f h2_)
set_option maxRecDepth 20000 in
theorem t_X5_takeTurn_0 {X : Cx} (o : Ok X RX5 cX5_takeTurn 2 6 133 0 0 none) (f : Nat)  (x0 : Nat) (x1 : Int32) (h : Hp) : Sim X (z_Zv X 0 0) 0 0 0 [(0, rf (xG X) x0), (1, .int x1)] [] h (f_X5_takeTurn f x0 x1 h) := by
  unfold f_X5_takeTurn
  refine s_aload_n o 0 rfl dX5_takeTurn_0 (q := 1) rfl ?_
  refine s_gr o kf_X5_62 dX5_takeTurn_1 (q := 4) rfl (fun a1_ => ?_)
  refine s_aload_n o 0 rfl dX5_takeTurn_4 (q := 5) rfl ?_
  refine s_gr o kf_X5_23 dX5_takeTurn_5 (q := 8) rfl (fun a2_ => ?_)
  refine s_aload_n o 0 rfl dX5_takeTurn_8 (q := 9) rfl ?_
  refine s_gr o kf_X5_40 dX5_takeTurn_9 (q := 12) rfl (fun a3_ => ?_)
  refine s_iload_n o 1 rfl dX5_takeTurn_12 (q := 13) rfl ?_
  refine s_on (fun hk4_ => ?_)
  refine s_callv (fun r0 hr0 => runV o hk4_ cv_X5_161 (c_X1_weigh (xG X) f a1_ a2_ a3_ x1 h (xl X) r0 hr0) ⟨Nat.le_of_ble_eq_true rfl, Nat.le_of_ble_eq_true rfl⟩ rfl rfl (Nat.le_of_ble_eq_true rfl) dX5_takeTurn_13 ⟨Nat.le_of_ble_eq_true rfl, Nat.le_of_ble_eq_true rfl⟩) (q := 16) rfl (cs' := 0) rfl (sl' := 0) rfl (fun h5_ => ?_)
  refine s_aload_n o 0 rfl dX5_takeTurn_16 (q := 17) rfl ?_
  refine s_gr o kf_X5_62 dX5_takeTurn_17 (q := 20) rfl (fun a6_ => ?_)
  refine s_on (fun hk7_ => ?_)
  refine s_callv (fun r0 hr0 => runV o hk7_ cv_X5_182 (c_X1_choosePlace (xG X) f a6_ h5_ (xl X) r0 hr0) ⟨Nat.le_of_ble_eq_true rfl, Nat.le_of_ble_eq_true rfl⟩ rfl rfl (Nat.le_of_ble_eq_true rfl) dX5_takeTurn_20 ⟨Nat.le_of_ble_eq_true rfl, Nat.le_of_ble_eq_true rfl⟩) (q := 23) rfl (cs' := 0) rfl (sl' := 0) rfl (fun h8_ => ?_)
  refine s_aload_n o 0 rfl dX5_takeTurn_23 (q := 24) rfl ?_
  refine s_gr o kf_X5_62 dX5_takeTurn_24 (q := 27) rfl (fun a9_ => ?_)
  refine s_gi o kf_X5_185 dX5_takeTurn_27 (q := 30) rfl (fun v10_ => ?_)
  refine s_iconst o dX5_takeTurn_30 (v := (-1 : Int32)) (by decide) (q := 31) rfl ?_
  refine s_ic_eq o (tgt := 80) dX5_takeTurn_31 (by decide) (q := 34) rfl ?_ ?_
  · exact s_sub [0, 1] rfl (t_X5_takeTurn_80 o f x0 x1 h8_)
  · refine s_aload_n o 0 rfl dX5_takeTurn_34 (q := 35) rfl ?_
    refine s_gr o kf_X5_62 dX5_takeTurn_35 (q := 38) rfl (fun a11_ => ?_)
    refine s_on (fun hk12_ => ?_)
    refine s_bi (fun r0 hr0 => runV o hk12_ cv_X5_197 (c_X1_worth (xG X) f a11_ h8_ (xl X) r0 hr0) ⟨Nat.le_of_ble_eq_true rfl, Nat.le_of_ble_eq_true rfl⟩ rfl rfl (Nat.le_of_ble_eq_true rfl) dX5_takeTurn_38 ⟨Nat.le_of_ble_eq_true rfl, Nat.le_of_ble_eq_true rfl⟩) (q := 41) rfl (cs' := 0) rfl (sl' := 0) rfl (fun v14_ h13_ => ?_)
    refine s_if_le o (tgt := 80) dX5_takeTurn_41 (by decide) (q := 44) rfl ?_ ?_
    · exact s_sub [0, 1] rfl (t_X5_takeTurn_80 o f x0 x1 h13_)
    · refine s_aload_n o 0 rfl dX5_takeTurn_44 (q := 45) rfl ?_
      refine s_iload_n o 1 rfl dX5_takeTurn_45 (q := 46) rfl ?_
      refine s_aload_n o 0 rfl dX5_takeTurn_46 (q := 47) rfl ?_
      refine s_gr o kf_X5_62 dX5_takeTurn_47 (q := 50) rfl (fun a15_ => ?_)
      refine s_aload_n o 0 rfl dX5_takeTurn_50 (q := 51) rfl ?_
      refine s_gr o kf_X5_62 dX5_takeTurn_51 (q := 54) rfl (fun a16_ => ?_)
      refine s_gi o kf_X5_185 dX5_takeTurn_54 (q := 57) rfl (fun v17_ => ?_)
      refine s_on (fun hk18_ => ?_)
      refine s_bi (fun r0 hr0 => runV o hk18_ cv_X5_188 (c_X1_placeX (xG X) f a15_ v17_ h13_ (xl X) r0 hr0) ⟨Nat.le_of_ble_eq_true rfl, Nat.le_of_ble_eq_true rfl⟩ rfl rfl (Nat.le_of_ble_eq_true rfl) dX5_takeTurn_57 ⟨Nat.le_of_ble_eq_true rfl, Nat.le_of_ble_eq_true rfl⟩) (q := 60) rfl (cs' := 0) rfl (sl' := 0) rfl (fun v20_ h19_ => ?_)
      refine s_aload_n o 0 rfl dX5_takeTurn_60 (q := 61) rfl ?_
      refine s_gr o kf_X5_62 dX5_takeTurn_61 (q := 64) rfl (fun a21_ => ?_)
      refine s_aload_n o 0 rfl dX5_takeTurn_64 (q := 65) rfl ?_
      refine s_gr o kf_X5_62 dX5_takeTurn_65 (q := 68) rfl (fun a22_ => ?_)
      refine s_gi o kf_X5_185 dX5_takeTurn_68 (q := 71) rfl (fun v23_ => ?_)
      refine s_on (fun hk24_ => ?_)
      refine s_bi (fun r0 hr0 => runV o hk24_ cv_X5_191 (c_X1_placeY (xG X) f a21_ v23_ h19_ (xl X) r0 hr0) ⟨Nat.le_of_ble_eq_true rfl, Nat.le_of_ble_eq_true rfl⟩ rfl rfl (Nat.le_of_ble_eq_true rfl) dX5_takeTurn_71 ⟨Nat.le_of_ble_eq_true rfl, Nat.le_of_ble_eq_true rfl⟩) (q := 74) rfl (cs' := 0) rfl (sl' := 0) rfl (fun v26_ h25_ => ?_)
      refine s_on (fun hk27_ => ?_)
      refine s_callv (fun r0 hr0 => runV o hk27_ cv_X5_155 (c_X5_digAt (xG X) f x0 x1 v20_ v26_ h25_ (xl X) r0 hr0) ⟨Nat.le_of_ble_eq_true rfl, Nat.le_of_ble_eq_true rfl⟩ rfl rfl (Nat.le_of_ble_eq_true rfl) dX5_takeTurn_74 ⟨Nat.le_of_ble_eq_true rfl, Nat.le_of_ble_eq_true rfl⟩) (q := 77) rfl (cs' := 0) rfl (sl' := 0) rfl (fun h28_ => ?_)
      refine s_goto o (tgt := 85) dX5_takeTurn_77 (by decide) ?_
      exact s_sub [] rfl (t_X5_takeTurn_85 o f h28_)
theorem c_X5_takeTurn (G : Gx) (f : Nat) (x0 : Nat) (x1 : Int32) (h : Hp) : z_M z_qv G yX5_takeTurn cX5_takeTurn 2 none 6 133 0 0 [rf G x0, .int x1] h (f_X5_takeTurn f x0 x1 h) :=
  z_met (by decide +kernel) (Nat.le_of_ble_eq_true rfl) (fun X hG hn o hnm => by
    subst hG
    show Sim X (z_Zv X 0 0) 0 0 0 [(0, rf (xG X) x0), (1, .int x1)] [] h _
    exact s_sub [0, 1] rfl (t_X5_takeTurn_0 o f x0 x1 h))
/-! SixMaps.hunt(I)I -/
def b_X5_hunt_92 (f : Nat)  (x0 : Nat) (h : Hp) : Option (Int32 × Hp) :=
  (q_gr h x0 5 6).bind fun a1_ =>
  (q_gi h a1_ 4 5).bind fun v2_ =>
  some (v2_, h)
def b_X5_hunt_86 (f : Nat) (k40 : Nat → Int32 → Int32 → Hp → Option (Int32 × Hp)) (x0 : Nat) (x1 : Int32) (x2 : Int32) (h : Hp) : Option (Int32 × Hp) :=
  lt (x2 + (1 : Int32)) fun v1_ =>
  k40 x0 x1 v1_ h
def b_X5_hunt_58 (f : Nat) (k40 : Nat → Int32 → Int32 → Hp → Option (Int32 × Hp)) (k58 : Nat → Int32 → Int32 → Int32 → Hp → Option (Int32 × Hp)) (x0 : Nat) (x1 : Int32) (x2 : Int32) (x3 : Int32) (h : Hp) : Option (Int32 × Hp) :=
  if (6 : Int32) ≤ x3 then
  (b_X5_hunt_86 f k40 x0 x1 x2 h)
  else
  ((q_gr h x0 5 6).bind fun a1_ =>
  (q_gi h a1_ 4 5).bind fun v2_ =>
  if ¬ v2_ = (-1 : Int32) then
  (b_X5_hunt_86 f k40 x0 x1 x2 h)
  else
  (q_on h x0 5 (
  (f_X5_takeTurn f x0 x3 h).bind fun h4_ =>
  lt (x3 + (1 : Int32)) fun v5_ =>
  k58 x0 x1 x2 v5_ h4_)))
def l_X5_hunt_58 (f : Nat) (k40 : Nat → Int32 → Int32 → Hp → Option (Int32 × Hp)) : Nat → Nat → Int32 → Int32 → Int32 → Hp → Option (Int32 × Hp)
  | 0, _, _, _, _, _ => none
  | n + 1, x0, x1, x2, x3, h => b_X5_hunt_58 f k40 (l_X5_hunt_58 f k40 n) x0 x1 x2 x3 h
def b_X5_hunt_40 (f : Nat) (k40 : Nat → Int32 → Int32 → Hp → Option (Int32 × Hp)) (x0 : Nat) (x1 : Int32) (x2 : Int32) (h : Hp) : Option (Int32 × Hp) :=
  if x1 ≤ x2 then
  (b_X5_hunt_92 f x0 h)
  else
  ((q_gr h x0 5 6).bind fun a1_ =>
  (q_gi h a1_ 4 5).bind fun v2_ =>
  if ¬ v2_ = (-1 : Int32) then
  (b_X5_hunt_92 f x0 h)
  else
  (l_X5_hunt_58 f k40 f x0 x1 x2 (0 : Int32) h))
def l_X5_hunt_40 (f : Nat)  : Nat → Nat → Int32 → Int32 → Hp → Option (Int32 × Hp)
  | 0, _, _, _, _ => none
  | n + 1, x0, x1, x2, h => b_X5_hunt_40 f  (l_X5_hunt_40 f  n) x0 x1 x2 h
def b_X5_hunt_35 (f : Nat)   (h : Hp) : Option (Int32 × Hp) :=
  some ((-1000003 : Int32), h)
def b_X5_hunt_11 (f : Nat)   (h : Hp) : Option (Int32 × Hp) :=
  some ((-1000002 : Int32), h)
def f_X5_hunt (f : Nat)  (x0 : Nat) (x1 : Int32) (h : Hp) : Option (Int32 × Hp) :=
  if x1 < (1 : Int32) then
  (b_X5_hunt_11 f h)
  else
  (if x1 ≤ (20 : Int32) then
  ((q_gr h x0 5 3).bind fun a1_ =>
  (q_gi h a1_ 0 4).bind fun v2_ =>
  if v2_ = 0 then
  (b_X5_hunt_35 f h)
  else
  ((q_gr h x0 5 6).bind fun a3_ =>
  (q_gi h a3_ 4 5).bind fun v4_ =>
  if v4_ = (-1 : Int32) then
  (l_X5_hunt_40 f f x0 x1 (0 : Int32) h)
  else
  (b_X5_hunt_35 f h)))
  else
  (b_X5_hunt_11 f h))
set_option maxRecDepth 20000 in
theorem t_X5_hunt_92 {X : Cx} (o : Ok X RX5 cX5_hunt 4 7 154 0 0 (some .int)) (f : Nat)  (x0 : Nat) (h : Hp) : Sim X (z_Zi X 0 0) 0 0 92 [(0, rf (xG X) x0)] [] h (b_X5_hunt_92 f x0 h) := by
  unfold b_X5_hunt_92
  refine s_aload_n o 0 rfl dX5_hunt_92 (q := 93) rfl ?_
  refine s_gr o kf_X5_40 dX5_hunt_93 (q := 96) rfl (fun a1_ => ?_)
  refine s_gi o kf_X5_109 dX5_hunt_96 (q := 99) rfl (fun v2_ => ?_)
  exact s_iret o dX5_hunt_99
set_option maxRecDepth 20000 in
theorem t_X5_hunt_86 {X : Cx} (o : Ok X RX5 cX5_hunt 4 7 154 0 0 (some .int)) (f : Nat) {k40 : Nat → Int32 → Int32 → Hp → Option (Int32 × Hp)} (hk40 : ∀ (x0 : Nat) (x1 : Int32) (x2 : Int32) (h : Hp), Sim X (z_Zi X 0 0) 0 0 40 [(0, rf (xG X) x0), (1, .int x1), (2, .int x2)] [] h (k40 x0 x1 x2 h)) (x0 : Nat) (x1 : Int32) (x2 : Int32) (h : Hp) : Sim X (z_Zi X 0 0) 0 0 86 [(0, rf (xG X) x0), (1, .int x1), (2, .int x2)] [] h (b_X5_hunt_86 f k40 x0 x1 x2 h) := by
  unfold b_X5_hunt_86
  refine s_iinc o 2 rfl (v := (1 : Int32)) (by decide) [1, 2, 0] (lv' := fun v1_ => [(0, rf (xG X) x0), (1, .int x1), (2, .int v1_)]) (fun _ => rfl) dX5_hunt_86 (by decide) (q := 89) rfl (fun v1_ => ?_)
  refine s_goto o (tgt := 40) dX5_hunt_89 (by decide) ?_
  exact s_sub [0, 1, 2] rfl (hk40 x0 x1 v1_ h)
set_option maxRecDepth 20000 in
theorem t_X5_hunt_58 {X : Cx} (o : Ok X RX5 cX5_hunt 4 7 154 0 0 (some .int)) (f : Nat) {k40 : Nat → Int32 → Int32 → Hp → Option (Int32 × Hp)} (hk40 : ∀ (x0 : Nat) (x1 : Int32) (x2 : Int32) (h : Hp), Sim X (z_Zi X 0 0) 0 0 40 [(0, rf (xG X) x0), (1, .int x1), (2, .int x2)] [] h (k40 x0 x1 x2 h)) {k58 : Nat → Int32 → Int32 → Int32 → Hp → Option (Int32 × Hp)} (hk58 : ∀ (x0 : Nat) (x1 : Int32) (x2 : Int32) (x3 : Int32) (h : Hp), Sim X (z_Zi X 0 0) 0 0 58 [(0, rf (xG X) x0), (1, .int x1), (2, .int x2), (3, .int x3)] [] h (k58 x0 x1 x2 x3 h)) (x0 : Nat) (x1 : Int32) (x2 : Int32) (x3 : Int32) (h : Hp) : Sim X (z_Zi X 0 0) 0 0 58 [(0, rf (xG X) x0), (1, .int x1), (2, .int x2), (3, .int x3)] [] h (b_X5_hunt_58 f k40 k58 x0 x1 x2 x3 h) := by
  unfold b_X5_hunt_58
  refine s_iload_n o 3 rfl dX5_hunt_58 (q := 59) rfl ?_
  refine s_bipush o dX5_hunt_59 (v := (6 : Int32)) (by decide) (q := 61) rfl ?_
  refine s_ic_ge o (tgt := 86) dX5_hunt_61 (by decide) (q := 64) rfl ?_ ?_
  · exact s_sub [0, 1, 2] rfl (t_X5_hunt_86 o f hk40 x0 x1 x2 h)
  · refine s_aload_n o 0 rfl dX5_hunt_64 (q := 65) rfl ?_
    refine s_gr o kf_X5_40 dX5_hunt_65 (q := 68) rfl (fun a1_ => ?_)
    refine s_gi o kf_X5_109 dX5_hunt_68 (q := 71) rfl (fun v2_ => ?_)
    refine s_iconst o dX5_hunt_71 (v := (-1 : Int32)) (by decide) (q := 72) rfl ?_
    refine s_ic_ne o (tgt := 86) dX5_hunt_72 (by decide) (q := 75) rfl ?_ ?_
    · exact s_sub [0, 1, 2] rfl (t_X5_hunt_86 o f hk40 x0 x1 x2 h)
    · refine s_aload_n o 0 rfl dX5_hunt_75 (q := 76) rfl ?_
      refine s_iload_n o 3 rfl dX5_hunt_76 (q := 77) rfl ?_
      refine s_on (fun hk3_ => ?_)
      refine s_callv (fun r0 hr0 => runV o hk3_ cv_X5_240 (c_X5_takeTurn (xG X) f x0 x3 h (xl X) r0 hr0) ⟨Nat.le_of_ble_eq_true rfl, Nat.le_of_ble_eq_true rfl⟩ rfl rfl (Nat.le_of_ble_eq_true rfl) dX5_hunt_77 ⟨Nat.le_of_ble_eq_true rfl, Nat.le_of_ble_eq_true rfl⟩) (q := 80) rfl (cs' := 0) rfl (sl' := 0) rfl (fun h4_ => ?_)
      refine s_iinc o 3 rfl (v := (1 : Int32)) (by decide) [1, 2, 3, 0] (lv' := fun v5_ => [(0, rf (xG X) x0), (1, .int x1), (2, .int x2), (3, .int v5_)]) (fun _ => rfl) dX5_hunt_80 (by decide) (q := 83) rfl (fun v5_ => ?_)
      refine s_goto o (tgt := 58) dX5_hunt_83 (by decide) ?_
      exact s_sub [0, 1, 2, 3] rfl (hk58 x0 x1 x2 v5_ h4_)
theorem tl_X5_hunt_58 {X : Cx} (o : Ok X RX5 cX5_hunt 4 7 154 0 0 (some .int)) (f : Nat) {k40 : Nat → Int32 → Int32 → Hp → Option (Int32 × Hp)} (hk40 : ∀ (x0 : Nat) (x1 : Int32) (x2 : Int32) (h : Hp), Sim X (z_Zi X 0 0) 0 0 40 [(0, rf (xG X) x0), (1, .int x1), (2, .int x2)] [] h (k40 x0 x1 x2 h)) : ∀ (n : Nat) (x0 : Nat) (x1 : Int32) (x2 : Int32) (x3 : Int32) (h : Hp), Sim X (z_Zi X 0 0) 0 0 58 [(0, rf (xG X) x0), (1, .int x1), (2, .int x2), (3, .int x3)] [] h (l_X5_hunt_58 f k40 n x0 x1 x2 x3 h) := by
  intro n
  induction n with
  | zero => intro x0 x1 x2 x3 h; exact s_none
  | succ n ih => intro x0 x1 x2 x3 h; exact t_X5_hunt_58 o f hk40 ih x0 x1 x2 x3 h
set_option maxRecDepth 20000 in
theorem t_X5_hunt_40 {X : Cx} (o : Ok X RX5 cX5_hunt 4 7 154 0 0 (some .int)) (f : Nat) {k40 : Nat → Int32 → Int32 → Hp → Option (Int32 × Hp)} (hk40 : ∀ (x0 : Nat) (x1 : Int32) (x2 : Int32) (h : Hp), Sim X (z_Zi X 0 0) 0 0 40 [(0, rf (xG X) x0), (1, .int x1), (2, .int x2)] [] h (k40 x0 x1 x2 h)) (x0 : Nat) (x1 : Int32) (x2 : Int32) (h : Hp) : Sim X (z_Zi X 0 0) 0 0 40 [(0, rf (xG X) x0), (1, .int x1), (2, .int x2)] [] h (b_X5_hunt_40 f k40 x0 x1 x2 h) := by
  unfold b_X5_hunt_40
  refine s_iload_n o 2 rfl dX5_hunt_40 (q := 41) rfl ?_
  refine s_iload_n o 1 rfl dX5_hunt_41 (q := 42) rfl ?_
  refine s_ic_ge o (tgt := 92) dX5_hunt_42 (by decide) (q := 45) rfl ?_ ?_
  · exact s_sub [0] rfl (t_X5_hunt_92 o f x0 h)
  · refine s_aload_n o 0 rfl dX5_hunt_45 (q := 46) rfl ?_
    refine s_gr o kf_X5_40 dX5_hunt_46 (q := 49) rfl (fun a1_ => ?_)
    refine s_gi o kf_X5_109 dX5_hunt_49 (q := 52) rfl (fun v2_ => ?_)
    refine s_iconst o dX5_hunt_52 (v := (-1 : Int32)) (by decide) (q := 53) rfl ?_
    refine s_ic_ne o (tgt := 92) dX5_hunt_53 (by decide) (q := 56) rfl ?_ ?_
    · exact s_sub [0] rfl (t_X5_hunt_92 o f x0 h)
    · refine s_iconst o dX5_hunt_56 (v := (0 : Int32)) (by decide) (q := 57) rfl ?_
      refine s_istore_n o [1, 2, 3, 0] (lv' := [(0, rf (xG X) x0), (1, .int x1), (2, .int x2), (3, .int (0 : Int32))]) rfl dX5_hunt_57 (by decide) (q := 58) rfl ?_
      exact s_sub [0, 1, 2, 3] rfl (tl_X5_hunt_58 o f hk40 f x0 x1 x2 (0 : Int32) h)
theorem tl_X5_hunt_40 {X : Cx} (o : Ok X RX5 cX5_hunt 4 7 154 0 0 (some .int)) (f : Nat)  : ∀ (n : Nat) (x0 : Nat) (x1 : Int32) (x2 : Int32) (h : Hp), Sim X (z_Zi X 0 0) 0 0 40 [(0, rf (xG X) x0), (1, .int x1), (2, .int x2)] [] h (l_X5_hunt_40 f n x0 x1 x2 h) := by
  intro n
  induction n with
  | zero => intro x0 x1 x2 h; exact s_none
  | succ n ih => intro x0 x1 x2 h; exact t_X5_hunt_40 o f  ih x0 x1 x2 h
set_option maxRecDepth 20000 in
theorem t_X5_hunt_35 {X : Cx} (o : Ok X RX5 cX5_hunt 4 7 154 0 0 (some .int)) (f : Nat)   (h : Hp) : Sim X (z_Zi X 0 0) 0 0 35 [] [] h (b_X5_hunt_35 f h) := by
  unfold b_X5_hunt_35
  refine s_ldc o kc_X5_133 dX5_hunt_35 (q := 37) rfl ?_
  exact s_iret o dX5_hunt_37
set_option maxRecDepth 20000 in
theorem t_X5_hunt_11 {X : Cx} (o : Ok X RX5 cX5_hunt 4 7 154 0 0 (some .int)) (f : Nat)   (h : Hp) : Sim X (z_Zi X 0 0) 0 0 11 [] [] h (b_X5_hunt_11 f h) := by
  unfold b_X5_hunt_11
  refine s_ldc o kc_X5_66 dX5_hunt_11 (q := 13) rfl ?_
  exact s_iret o dX5_hunt_13
set_option maxRecDepth 20000 in
theorem t_X5_hunt_0 {X : Cx} (o : Ok X RX5 cX5_hunt 4 7 154 0 0 (some .int)) (f : Nat)  (x0 : Nat) (x1 : Int32) (h : Hp) : Sim X (z_Zi X 0 0) 0 0 0 [(0, rf (xG X) x0), (1, .int x1)] [] h (f_X5_hunt f x0 x1 h) := by
  unfold f_X5_hunt
  refine s_iload_n o 1 rfl dX5_hunt_0 (q := 1) rfl ?_
  refine s_iconst o dX5_hunt_1 (v := (1 : Int32)) (by decide) (q := 2) rfl ?_
  refine s_ic_lt o (tgt := 11) dX5_hunt_2 (by decide) (q := 5) rfl ?_ ?_
  · exact s_sub [] rfl (t_X5_hunt_11 o f h)
  · refine s_iload_n o 1 rfl dX5_hunt_5 (q := 6) rfl ?_
    refine s_bipush o dX5_hunt_6 (v := (20 : Int32)) (by decide) (q := 8) rfl ?_
    refine s_ic_le o (tgt := 14) dX5_hunt_8 (by decide) (q := 11) rfl ?_ ?_
    · refine s_aload_n o 0 rfl dX5_hunt_14 (q := 15) rfl ?_
      refine s_gr o kf_X5_23 dX5_hunt_15 (q := 18) rfl (fun a1_ => ?_)
      refine s_gi o kf_X5_75 dX5_hunt_18 (q := 21) rfl (fun v2_ => ?_)
      refine s_if_eq o (tgt := 35) dX5_hunt_21 (by decide) (q := 24) rfl ?_ ?_
      · exact s_sub [] rfl (t_X5_hunt_35 o f h)
      · refine s_aload_n o 0 rfl dX5_hunt_24 (q := 25) rfl ?_
        refine s_gr o kf_X5_40 dX5_hunt_25 (q := 28) rfl (fun a3_ => ?_)
        refine s_gi o kf_X5_109 dX5_hunt_28 (q := 31) rfl (fun v4_ => ?_)
        refine s_iconst o dX5_hunt_31 (v := (-1 : Int32)) (by decide) (q := 32) rfl ?_
        refine s_ic_eq o (tgt := 38) dX5_hunt_32 (by decide) (q := 35) rfl ?_ ?_
        · refine s_iconst o dX5_hunt_38 (v := (0 : Int32)) (by decide) (q := 39) rfl ?_
          refine s_istore_n o [1, 2, 0] (lv' := [(0, rf (xG X) x0), (1, .int x1), (2, .int (0 : Int32))]) rfl dX5_hunt_39 (by decide) (q := 40) rfl ?_
          exact s_sub [0, 1, 2] rfl (tl_X5_hunt_40 o f f x0 x1 (0 : Int32) h)
        · exact s_sub [] rfl (t_X5_hunt_35 o f h)
    · exact s_sub [] rfl (t_X5_hunt_11 o f h)
theorem c_X5_hunt (G : Gx) (f : Nat) (x0 : Nat) (x1 : Int32) (h : Hp) : z_M z_qi G yX5_hunt cX5_hunt 4 (some .int) 7 154 0 0 [rf G x0, .int x1] h (f_X5_hunt f x0 x1 h) :=
  z_met (by decide +kernel) (Nat.le_of_ble_eq_true rfl) (fun X hG hn o hnm => by
    subst hG
    show Sim X (z_Zi X 0 0) 0 0 0 [(0, rf (xG X) x0), (1, .int x1)] [] h _
    exact s_sub [0, 1] rfl (t_X5_hunt_0 o f x0 x1 h))
/-! SixMaps.<init>()V -/
def f_X5_init (f : Nat)  (x0 : Nat) (h : Hp) : Option (Hp) :=
  bn (q_nwa h 8 400) fun a1_ h2_ =>
  (q_pr h2_ x0 5 0 a1_).bind fun h3_ =>
  (q_pi h3_ x0 5 1 (0 : Int32)).bind fun h4_ =>
  (q_pi h4_ x0 5 2 (-1 : Int32)).bind fun h5_ =>
  bn (q_new h5_ 1) fun a6_ h7_ =>
  (f_X0_init f a6_ h7_).bind fun h8_ =>
  (q_pr h8_ x0 5 3 a6_).bind fun h9_ =>
  bn (q_new h9_ 1) fun a10_ h11_ =>
  (f_X0_init f a10_ h11_).bind fun h12_ =>
  (q_pr h12_ x0 5 4 a10_).bind fun h13_ =>
  bn (q_new h13_ 3) fun a14_ h15_ =>
  (f_X2_init f a14_ h15_).bind fun h16_ =>
  (q_pr h16_ x0 5 5 a14_).bind fun h17_ =>
  bn (q_new h17_ 5) fun a18_ h19_ =>
  (f_X4_init f a18_ h19_).bind fun h20_ =>
  (q_pr h20_ x0 5 6 a18_).bind fun h21_ =>
  bn (q_nwa h21_ 11 2) fun a22_ h23_ =>
  bn (q_new h23_ 5) fun a24_ h25_ =>
  (f_X4_init f a24_ h25_).bind fun h26_ =>
  (q_rs h26_ a22_ (0 : Int32) a24_).bind fun h27_ =>
  bn (q_new h27_ 5) fun a28_ h29_ =>
  (f_X4_init f a28_ h29_).bind fun h30_ =>
  (q_rs h30_ a22_ (1 : Int32) a28_).bind fun h31_ =>
  (q_pr h31_ x0 5 7 a22_).bind fun h32_ =>
  bn (q_nwa h32_ 10 2) fun a33_ h34_ =>
  (q_pr h34_ x0 5 8 a33_).bind fun h35_ =>
  bn (q_new h35_ 4) fun a36_ h37_ =>
  (f_X3_init f a36_ h37_).bind fun h38_ =>
  (q_pr h38_ x0 5 9 a36_).bind fun h39_ =>
  bn (q_new h39_ 2) fun a40_ h41_ =>
  (f_X1_init f a40_ h41_).bind fun h42_ =>
  (q_pr h42_ x0 5 10 a40_).bind fun h43_ =>
  some h43_
set_option maxRecDepth 20000 in
theorem t_X5_init_0 {X : Cx} (o : Ok X RX5 cX5_init 1 3 52 57 1506 none) (hnm : (xM X).name = yX5_init.name) (f : Nat)  (x0 : Nat) (h : Hp) : Sim X (z_Zv X 57 1506) 0 0 0 [(0, rf (xG X) x0)] [] h (f_X5_init f x0 h) := by
  unfold f_X5_init
  refine s_aload_n o 0 rfl dX5_init_0 (q := 1) rfl ?_
  refine s_obj o ob_X5_1 (Nat.le_of_ble_eq_true rfl) (Nat.le_of_ble_eq_true rfl) dX5_init_1 (q := 4) rfl ?_
  refine s_aload_n o 0 rfl dX5_init_4 (q := 5) rfl ?_
  refine s_sipush o dX5_init_5 (v := (400 : Int32)) (by decide) (q := 8) rfl ?_
  refine s_nwa_b o na_byte (N := 400) (by decide) (by decide) (by decide) (by decide) (by decide) dX5_init_8 (q := 10) rfl (cs' := 1) rfl (sl' := 400) rfl (fun a1_ h2_ => ?_)
  refine s_prF o kf_X5_9 (fun _ => rfl) (fun _ => rfl) hnm (fun rr e => by rw [← Option.some.inj (show some (RX5, TX5, 11) = some rr from e)]; rfl) dX5_init_10 (q := 13) rfl (fun h3_ => ?_)
  refine s_aload_n o 0 rfl dX5_init_13 (q := 14) rfl ?_
  refine s_iconst o dX5_init_14 (v := (0 : Int32)) (by decide) (q := 15) rfl ?_
  refine s_pi o kf_X5_13 dX5_init_15 (q := 18) rfl (fun h4_ => ?_)
  refine s_aload_n o 0 rfl dX5_init_18 (q := 19) rfl ?_
  refine s_iconst o dX5_init_19 (v := (-1 : Int32)) (by decide) (q := 20) rfl ?_
  refine s_pi o kf_X5_17 dX5_init_20 (q := 23) rfl (fun h5_ => ?_)
  refine s_aload_n o 0 rfl dX5_init_23 (q := 24) rfl ?_
  refine s_new o nw_X5_20 (N := 13) rfl (by decide) (by decide) dX5_init_24 (q := 27) rfl (cs' := 2) rfl (sl' := 413) rfl (fun a6_ h7_ => ?_)
  refine s_dup o rfl dX5_init_27 (q := 28) rfl ?_
  refine s_callv (fun r0 hr0 => runI o cc_X5_22 (c_X0_init (xG X) f a6_ h7_ (xl X) r0 hr0) ⟨Nat.le_of_ble_eq_true rfl, Nat.le_of_ble_eq_true rfl⟩ rfl rfl (Nat.le_of_ble_eq_true rfl) dX5_init_28 ⟨Nat.le_of_ble_eq_true rfl, Nat.le_of_ble_eq_true rfl⟩) (q := 31) rfl (cs' := 6) rfl (sl' := 539) rfl (fun h8_ => ?_)
  refine s_pr o kf_X5_23 (fun _ => rfl) (fun _ => rfl) dX5_init_31 (q := 34) rfl (fun h9_ => ?_)
  refine s_aload_n o 0 rfl dX5_init_34 (q := 35) rfl ?_
  refine s_new o nw_X5_20 (N := 13) rfl (by decide) (by decide) dX5_init_35 (q := 38) rfl (cs' := 7) rfl (sl' := 552) rfl (fun a10_ h11_ => ?_)
  refine s_dup o rfl dX5_init_38 (q := 39) rfl ?_
  refine s_callv (fun r0 hr0 => runI o cc_X5_22 (c_X0_init (xG X) f a10_ h11_ (xl X) r0 hr0) ⟨Nat.le_of_ble_eq_true rfl, Nat.le_of_ble_eq_true rfl⟩ rfl rfl (Nat.le_of_ble_eq_true rfl) dX5_init_39 ⟨Nat.le_of_ble_eq_true rfl, Nat.le_of_ble_eq_true rfl⟩) (q := 42) rfl (cs' := 11) rfl (sl' := 678) rfl (fun h12_ => ?_)
  refine s_pr o kf_X5_27 (fun _ => rfl) (fun _ => rfl) dX5_init_42 (q := 45) rfl (fun h13_ => ?_)
  refine s_aload_n o 0 rfl dX5_init_45 (q := 46) rfl ?_
  refine s_new o nw_X5_30 (N := 7) rfl (by decide) (by decide) dX5_init_46 (q := 49) rfl (cs' := 12) rfl (sl' := 685) rfl (fun a14_ h15_ => ?_)
  refine s_dup o rfl dX5_init_49 (q := 50) rfl ?_
  refine s_callv (fun r0 hr0 => runI o cc_X5_32 (c_X2_init (xG X) f a14_ h15_ (xl X) r0 hr0) ⟨Nat.le_of_ble_eq_true rfl, Nat.le_of_ble_eq_true rfl⟩ rfl rfl (Nat.le_of_ble_eq_true rfl) dX5_init_50 ⟨Nat.le_of_ble_eq_true rfl, Nat.le_of_ble_eq_true rfl⟩) (q := 53) rfl (cs' := 16) rfl (sl' := 702) rfl (fun h16_ => ?_)
  refine s_prF o kf_X5_33 (fun _ => rfl) (fun _ => rfl) hnm (fun rr e => by rw [← Option.some.inj (show some (RX5, TX5, 11) = some rr from e)]; rfl) dX5_init_53 (q := 56) rfl (fun h17_ => ?_)
  refine s_aload_n o 0 rfl dX5_init_56 (q := 57) rfl ?_
  refine s_new o nw_X5_37 (N := 7) rfl (by decide) (by decide) dX5_init_57 (q := 60) rfl (cs' := 17) rfl (sl' := 709) rfl (fun a18_ h19_ => ?_)
  refine s_dup o rfl dX5_init_60 (q := 61) rfl ?_
  refine s_callv (fun r0 hr0 => runI o cc_X5_39 (c_X4_init (xG X) f a18_ h19_ (xl X) r0 hr0) ⟨Nat.le_of_ble_eq_true rfl, Nat.le_of_ble_eq_true rfl⟩ rfl rfl (Nat.le_of_ble_eq_true rfl) dX5_init_61 ⟨Nat.le_of_ble_eq_true rfl, Nat.le_of_ble_eq_true rfl⟩) (q := 64) rfl (cs' := 21) rfl (sl' := 791) rfl (fun h20_ => ?_)
  refine s_prF o kf_X5_40 (fun _ => rfl) (fun _ => rfl) hnm (fun rr e => by rw [← Option.some.inj (show some (RX5, TX5, 11) = some rr from e)]; rfl) dX5_init_64 (q := 67) rfl (fun h21_ => ?_)
  refine s_aload_n o 0 rfl dX5_init_67 (q := 68) rfl ?_
  refine s_iconst o dX5_init_68 (v := (2 : Int32)) (by decide) (q := 69) rfl ?_
  refine s_nwr o nr_X5_37 (N := 2) (by decide) (by decide) (by decide) (by decide) (by decide) dX5_init_69 (q := 72) rfl (cs' := 22) rfl (sl' := 793) rfl (fun a22_ h23_ => ?_)
  refine s_dup o rfl dX5_init_72 (q := 73) rfl ?_
  refine s_iconst o dX5_init_73 (v := (0 : Int32)) (by decide) (q := 74) rfl ?_
  refine s_new o nw_X5_37 (N := 7) rfl (by decide) (by decide) dX5_init_74 (q := 77) rfl (cs' := 23) rfl (sl' := 800) rfl (fun a24_ h25_ => ?_)
  refine s_dup o rfl dX5_init_77 (q := 78) rfl ?_
  refine s_callv (fun r0 hr0 => runI o cc_X5_39 (c_X4_init (xG X) f a24_ h25_ (xl X) r0 hr0) ⟨Nat.le_of_ble_eq_true rfl, Nat.le_of_ble_eq_true rfl⟩ rfl rfl (Nat.le_of_ble_eq_true rfl) dX5_init_78 ⟨Nat.le_of_ble_eq_true rfl, Nat.le_of_ble_eq_true rfl⟩) (q := 81) rfl (cs' := 27) rfl (sl' := 882) rfl (fun h26_ => ?_)
  refine s_aast o dX5_init_81 (q := 82) rfl (fun h27_ => ?_)
  refine s_dup o rfl dX5_init_82 (q := 83) rfl ?_
  refine s_iconst o dX5_init_83 (v := (1 : Int32)) (by decide) (q := 84) rfl ?_
  refine s_new o nw_X5_37 (N := 7) rfl (by decide) (by decide) dX5_init_84 (q := 87) rfl (cs' := 28) rfl (sl' := 889) rfl (fun a28_ h29_ => ?_)
  refine s_dup o rfl dX5_init_87 (q := 88) rfl ?_
  refine s_callv (fun r0 hr0 => runI o cc_X5_39 (c_X4_init (xG X) f a28_ h29_ (xl X) r0 hr0) ⟨Nat.le_of_ble_eq_true rfl, Nat.le_of_ble_eq_true rfl⟩ rfl rfl (Nat.le_of_ble_eq_true rfl) dX5_init_88 ⟨Nat.le_of_ble_eq_true rfl, Nat.le_of_ble_eq_true rfl⟩) (q := 91) rfl (cs' := 32) rfl (sl' := 971) rfl (fun h30_ => ?_)
  refine s_aast o dX5_init_91 (q := 92) rfl (fun h31_ => ?_)
  refine s_prF o kf_X5_44 (fun _ => rfl) (fun _ => rfl) hnm (fun rr e => by rw [← Option.some.inj (show some (RX5, TX5, 11) = some rr from e)]; rfl) dX5_init_92 (q := 95) rfl (fun h32_ => ?_)
  refine s_aload_n o 0 rfl dX5_init_95 (q := 96) rfl ?_
  refine s_iconst o dX5_init_96 (v := (2 : Int32)) (by decide) (q := 97) rfl ?_
  refine s_nwa_z o na_boolean (N := 2) (by decide) (by decide) (by decide) (by decide) (by decide) dX5_init_97 (q := 99) rfl (cs' := 33) rfl (sl' := 973) rfl (fun a33_ h34_ => ?_)
  refine s_prF o kf_X5_48 (fun _ => rfl) (fun _ => rfl) hnm (fun rr e => by rw [← Option.some.inj (show some (RX5, TX5, 11) = some rr from e)]; rfl) dX5_init_99 (q := 102) rfl (fun h35_ => ?_)
  refine s_aload_n o 0 rfl dX5_init_102 (q := 103) rfl ?_
  refine s_new o nw_X5_52 (N := 4) rfl (by decide) (by decide) dX5_init_103 (q := 106) rfl (cs' := 34) rfl (sl' := 977) rfl (fun a36_ h37_ => ?_)
  refine s_dup o rfl dX5_init_106 (q := 107) rfl ?_
  refine s_callv (fun r0 hr0 => runI o cc_X5_54 (c_X3_init (xG X) f a36_ h37_ (xl X) r0 hr0) ⟨Nat.le_of_ble_eq_true rfl, Nat.le_of_ble_eq_true rfl⟩ rfl rfl (Nat.le_of_ble_eq_true rfl) dX5_init_107 ⟨Nat.le_of_ble_eq_true rfl, Nat.le_of_ble_eq_true rfl⟩) (q := 110) rfl (cs' := 37) rfl (sl' := 1037) rfl (fun h38_ => ?_)
  refine s_prF o kf_X5_55 (fun _ => rfl) (fun _ => rfl) hnm (fun rr e => by rw [← Option.some.inj (show some (RX5, TX5, 11) = some rr from e)]; rfl) dX5_init_110 (q := 113) rfl (fun h39_ => ?_)
  refine s_aload_n o 0 rfl dX5_init_113 (q := 114) rfl ?_
  refine s_new o nw_X5_59 (N := 16) rfl (by decide) (by decide) dX5_init_114 (q := 117) rfl (cs' := 38) rfl (sl' := 1053) rfl (fun a40_ h41_ => ?_)
  refine s_dup o rfl dX5_init_117 (q := 118) rfl ?_
  refine s_callv (fun r0 hr0 => runI o cc_X5_61 (c_X1_init (xG X) f a40_ h41_ (xl X) r0 hr0) ⟨Nat.le_of_ble_eq_true rfl, Nat.le_of_ble_eq_true rfl⟩ rfl rfl (Nat.le_of_ble_eq_true rfl) dX5_init_118 ⟨Nat.le_of_ble_eq_true rfl, Nat.le_of_ble_eq_true rfl⟩) (q := 121) rfl (cs' := 57) rfl (sl' := 1506) rfl (fun h42_ => ?_)
  refine s_prF o kf_X5_62 (fun _ => rfl) (fun _ => rfl) hnm (fun rr e => by rw [← Option.some.inj (show some (RX5, TX5, 11) = some rr from e)]; rfl) dX5_init_121 (q := 124) rfl (fun h43_ => ?_)
  exact s_vret o dX5_init_124
theorem c_X5_init (G : Gx) (f : Nat) (x0 : Nat) (h : Hp) : z_M z_qv G yX5_init cX5_init 1 none 3 52 57 1506 [rf G x0] h (f_X5_init f x0 h) :=
  z_met (by decide +kernel) (Nat.le_of_ble_eq_true rfl) (fun X hG hn o hnm => by
    subst hG
    show Sim X (z_Zv X 57 1506) 0 0 0 [(0, rf (xG X) x0)] [] h _
    exact s_sub [0] rfl (t_X5_init_0 o hnm f x0 h))
/-! SixMaps.island()I -/
def b_X5_island_92 (f : Nat) (k92 : Nat → Int32 → Hp → Option (Int32 × Hp)) (x0 : Nat) (x3 : Int32) (h : Hp) : Option (Int32 × Hp) :=
  if (2 : Int32) ≤ x3 then
  ((q_gr h x0 5 3).bind fun a1_ =>
  (q_gi h a1_ 0 4).bind fun v2_ =>
  some (v2_, h))
  else
  ((q_gr h x0 5 8).bind fun a3_ =>
  (q_as h a3_ 10 x3 (vp_nar .boolean (0 : Int32))).bind fun h4_ =>
  lt (x3 + (1 : Int32)) fun v5_ =>
  k92 x0 v5_ h4_)
def l_X5_island_92 (f : Nat)  : Nat → Nat → Int32 → Hp → Option (Int32 × Hp)
  | 0, _, _, _ => none
  | n + 1, x0, x3, h => b_X5_island_92 f  (l_X5_island_92 f  n) x0 x3 h
def f_X5_island (f : Nat)  (x0 : Nat) (h : Hp) : Option (Int32 × Hp) :=
  (q_gr h x0 5 5).bind fun a1_ =>
  (q_gr h x0 5 0).bind fun a2_ =>
  (q_gi h x0 5 1).bind fun v3_ =>
  (q_gr h x0 5 4).bind fun a4_ =>
  q_on h a1_ 2 (
  bi (f_X2_read f a1_ a2_ v3_ a4_ h) fun v7_ h6_ =>
  (q_pi h6_ x0 5 1 (0 : Int32)).bind fun h8_ =>
  if v7_ = 0 then
  ((q_pi h8_ x0 5 2 (-1 : Int32)).bind fun h9_ =>
  (q_gr h9_ x0 5 4).bind fun a10_ =>
  (q_gr h9_ x0 5 3).bind fun a11_ =>
  (q_pr h9_ x0 5 4 a11_).bind fun h12_ =>
  (q_pr h12_ x0 5 3 a10_).bind fun h13_ =>
  (q_gr h13_ x0 5 6).bind fun a14_ =>
  (q_gr h13_ x0 5 3).bind fun a15_ =>
  (q_gi h13_ a15_ 0 4).bind fun v16_ =>
  q_on h13_ a14_ 4 (
  (f_X4_begin f a14_ v16_ h13_).bind fun h18_ =>
  (q_gr h18_ x0 5 9).bind fun a19_ =>
  (q_pi h18_ a19_ 3 3 (0 : Int32)).bind fun h20_ =>
  l_X5_island_92 f f x0 (0 : Int32) h20_))
  else
  ((q_gr h8_ x0 5 5).bind fun a21_ =>
  (q_gi h8_ a21_ 2 6).bind fun v22_ =>
  (q_pi h8_ x0 5 2 v22_).bind fun h23_ =>
  some (((-10 : Int32) - v7_), h23_)))
set_option maxRecDepth 20000 in
theorem t_X5_island_92 {X : Cx} (o : Ok X RX5 cX5_island 4 8 178 0 0 (some .int)) (f : Nat) {k92 : Nat → Int32 → Hp → Option (Int32 × Hp)} (hk92 : ∀ (x0 : Nat) (x3 : Int32) (h : Hp), Sim X (z_Zi X 0 0) 0 0 92 [(0, rf (xG X) x0), (3, .int x3)] [] h (k92 x0 x3 h)) (x0 : Nat) (x3 : Int32) (h : Hp) : Sim X (z_Zi X 0 0) 0 0 92 [(0, rf (xG X) x0), (3, .int x3)] [] h (b_X5_island_92 f k92 x0 x3 h) := by
  unfold b_X5_island_92
  refine s_iload_n o 1 rfl dX5_island_92 (q := 93) rfl ?_
  refine s_iconst o dX5_island_93 (v := (2 : Int32)) (by decide) (q := 94) rfl ?_
  refine s_ic_ge o (tgt := 110) dX5_island_94 (by decide) (q := 97) rfl ?_ ?_
  · refine s_aload_n o 0 rfl dX5_island_110 (q := 111) rfl ?_
    refine s_gr o kf_X5_23 dX5_island_111 (q := 114) rfl (fun a1_ => ?_)
    refine s_gi o kf_X5_75 dX5_island_114 (q := 117) rfl (fun v2_ => ?_)
    exact s_iret o dX5_island_117
  · refine s_aload_n o 0 rfl dX5_island_97 (q := 98) rfl ?_
    refine s_gr o kf_X5_48 dX5_island_98 (q := 101) rfl (fun a3_ => ?_)
    refine s_iload_n o 1 rfl dX5_island_101 (q := 102) rfl ?_
    refine s_iconst o dX5_island_102 (v := (0 : Int32)) (by decide) (q := 103) rfl ?_
    refine s_zast o dX5_island_103 (q := 104) rfl (fun h4_ => ?_)
    refine s_iinc o 1 rfl (v := (1 : Int32)) (by decide) [1, 0] (lv' := fun v5_ => [(0, rf (xG X) x0), (3, .int v5_)]) (fun _ => rfl) dX5_island_104 (by decide) (q := 107) rfl (fun v5_ => ?_)
    refine s_goto o (tgt := 92) dX5_island_107 (by decide) ?_
    exact s_sub [0, 1] rfl (hk92 x0 v5_ h4_)
theorem tl_X5_island_92 {X : Cx} (o : Ok X RX5 cX5_island 4 8 178 0 0 (some .int)) (f : Nat)  : ∀ (n : Nat) (x0 : Nat) (x3 : Int32) (h : Hp), Sim X (z_Zi X 0 0) 0 0 92 [(0, rf (xG X) x0), (3, .int x3)] [] h (l_X5_island_92 f n x0 x3 h) := by
  intro n
  induction n with
  | zero => intro x0 x3 h; exact s_none
  | succ n ih => intro x0 x3 h; exact t_X5_island_92 o f  ih x0 x3 h
set_option maxRecDepth 20000 in
theorem t_X5_island_0 {X : Cx} (o : Ok X RX5 cX5_island 4 8 178 0 0 (some .int)) (f : Nat)  (x0 : Nat) (h : Hp) : Sim X (z_Zi X 0 0) 0 0 0 [(0, rf (xG X) x0)] [] h (f_X5_island f x0 h) := by
  unfold f_X5_island
  refine s_aload_n o 0 rfl dX5_island_0 (q := 1) rfl ?_
  refine s_gr o kf_X5_33 dX5_island_1 (q := 4) rfl (fun a1_ => ?_)
  refine s_aload_n o 0 rfl dX5_island_4 (q := 5) rfl ?_
  refine s_gr o kf_X5_9 dX5_island_5 (q := 8) rfl (fun a2_ => ?_)
  refine s_aload_n o 0 rfl dX5_island_8 (q := 9) rfl ?_
  refine s_gi o kf_X5_13 dX5_island_9 (q := 12) rfl (fun v3_ => ?_)
  refine s_aload_n o 0 rfl dX5_island_12 (q := 13) rfl ?_
  refine s_gr o kf_X5_27 dX5_island_13 (q := 16) rfl (fun a4_ => ?_)
  refine s_on (fun hk5_ => ?_)
  refine s_bi (fun r0 hr0 => runV o hk5_ cv_X5_68 (c_X2_read (xG X) f a1_ a2_ v3_ a4_ h (xl X) r0 hr0) ⟨Nat.le_of_ble_eq_true rfl, Nat.le_of_ble_eq_true rfl⟩ rfl rfl (Nat.le_of_ble_eq_true rfl) dX5_island_16 ⟨Nat.le_of_ble_eq_true rfl, Nat.le_of_ble_eq_true rfl⟩) (q := 19) rfl (cs' := 0) rfl (sl' := 0) rfl (fun v7_ h6_ => ?_)
  refine s_istore_n o [1, 0] (lv' := [(0, rf (xG X) x0), (1, .int v7_)]) rfl dX5_island_19 (by decide) (q := 20) rfl ?_
  refine s_aload_n o 0 rfl dX5_island_20 (q := 21) rfl ?_
  refine s_iconst o dX5_island_21 (v := (0 : Int32)) (by decide) (q := 22) rfl ?_
  refine s_pi o kf_X5_13 dX5_island_22 (q := 25) rfl (fun h8_ => ?_)
  refine s_iload_n o 1 rfl dX5_island_25 (q := 26) rfl ?_
  refine s_if_eq o (tgt := 45) dX5_island_26 (by decide) (q := 29) rfl ?_ ?_
  · refine s_aload_n o 0 rfl dX5_island_45 (q := 46) rfl ?_
    refine s_iconst o dX5_island_46 (v := (-1 : Int32)) (by decide) (q := 47) rfl ?_
    refine s_pi o kf_X5_17 dX5_island_47 (q := 50) rfl (fun h9_ => ?_)
    refine s_aload_n o 0 rfl dX5_island_50 (q := 51) rfl ?_
    refine s_gr o kf_X5_27 dX5_island_51 (q := 54) rfl (fun a10_ => ?_)
    refine s_astore_n o [1, 2, 0] (lv' := [(0, rf (xG X) x0), (1, .int v7_), (2, rf (xG X) a10_)]) rfl dX5_island_54 (by decide) (q := 55) rfl ?_
    refine s_aload_n o 0 rfl dX5_island_55 (q := 56) rfl ?_
    refine s_aload_n o 0 rfl dX5_island_56 (q := 57) rfl ?_
    refine s_gr o kf_X5_23 dX5_island_57 (q := 60) rfl (fun a11_ => ?_)
    refine s_pr o kf_X5_27 (fun _ => rfl) (fun _ => rfl) dX5_island_60 (q := 63) rfl (fun h12_ => ?_)
    refine s_aload_n o 0 rfl dX5_island_63 (q := 64) rfl ?_
    refine s_aload_n o 2 rfl dX5_island_64 (q := 65) rfl ?_
    refine s_pr o kf_X5_23 (fun _ => rfl) (fun _ => rfl) dX5_island_65 (q := 68) rfl (fun h13_ => ?_)
    refine s_aload_n o 0 rfl dX5_island_68 (q := 69) rfl ?_
    refine s_gr o kf_X5_40 dX5_island_69 (q := 72) rfl (fun a14_ => ?_)
    refine s_aload_n o 0 rfl dX5_island_72 (q := 73) rfl ?_
    refine s_gr o kf_X5_23 dX5_island_73 (q := 76) rfl (fun a15_ => ?_)
    refine s_gi o kf_X5_75 dX5_island_76 (q := 79) rfl (fun v16_ => ?_)
    refine s_on (fun hk17_ => ?_)
    refine s_callv (fun r0 hr0 => runV o hk17_ cv_X5_78 (c_X4_begin (xG X) f a14_ v16_ h13_ (xl X) r0 hr0) ⟨Nat.le_of_ble_eq_true rfl, Nat.le_of_ble_eq_true rfl⟩ rfl rfl (Nat.le_of_ble_eq_true rfl) dX5_island_79 ⟨Nat.le_of_ble_eq_true rfl, Nat.le_of_ble_eq_true rfl⟩) (q := 82) rfl (cs' := 0) rfl (sl' := 0) rfl (fun h18_ => ?_)
    refine s_aload_n o 0 rfl dX5_island_82 (q := 83) rfl ?_
    refine s_gr o kf_X5_55 dX5_island_83 (q := 86) rfl (fun a19_ => ?_)
    refine s_iconst o dX5_island_86 (v := (0 : Int32)) (by decide) (q := 87) rfl ?_
    refine s_pi o kf_X5_82 dX5_island_87 (q := 90) rfl (fun h20_ => ?_)
    refine s_iconst o dX5_island_90 (v := (0 : Int32)) (by decide) (q := 91) rfl ?_
    refine s_istore_n o [1, 2, 3, 0] (lv' := [(0, rf (xG X) x0), (1, .int v7_), (2, rf (xG X) a10_), (3, .int (0 : Int32))]) rfl dX5_island_91 (by decide) (q := 92) rfl ?_
    exact s_sub [0, 3] rfl (tl_X5_island_92 o f f x0 (0 : Int32) h20_)
  · refine s_aload_n o 0 rfl dX5_island_29 (q := 30) rfl ?_
    refine s_aload_n o 0 rfl dX5_island_30 (q := 31) rfl ?_
    refine s_gr o kf_X5_33 dX5_island_31 (q := 34) rfl (fun a21_ => ?_)
    refine s_gi o kf_X5_72 dX5_island_34 (q := 37) rfl (fun v22_ => ?_)
    refine s_pi o kf_X5_17 dX5_island_37 (q := 40) rfl (fun h23_ => ?_)
    refine s_bipush o dX5_island_40 (v := (-10 : Int32)) (by decide) (q := 42) rfl ?_
    refine s_iload_n o 1 rfl dX5_island_42 (q := 43) rfl ?_
    refine s_isub o dX5_island_43 (q := 44) rfl ?_
    exact s_iret o dX5_island_44
theorem c_X5_island (G : Gx) (f : Nat) (x0 : Nat) (h : Hp) : z_M z_qi G yX5_island cX5_island 4 (some .int) 8 178 0 0 [rf G x0] h (f_X5_island f x0 h) :=
  z_met (by decide +kernel) (Nat.le_of_ble_eq_true rfl) (fun X hG hn o hnm => by
    subst hG
    show Sim X (z_Zi X 0 0) 0 0 0 [(0, rf (xG X) x0)] [] h _
    exact s_sub [0] rfl (t_X5_island_0 o f x0 h))
/-! SixMaps.keep(I)I -/
def b_X5_keep_9 (f : Nat)   (h : Hp) : Option (Int32 × Hp) :=
  some ((-1000001 : Int32), h)
def f_X5_keep (f : Nat)  (x0 : Nat) (x1 : Int32) (h : Hp) : Option (Int32 × Hp) :=
  if x1 < 0 then
  (b_X5_keep_9 f h)
  else
  (if x1 < (2 : Int32) then
  ((q_gr h x0 5 7).bind fun a1_ =>
  (q_ar h a1_ x1).bind fun a2_ =>
  (q_gr h x0 5 6).bind fun a3_ =>
  q_on h a2_ 4 (
  (f_X4_copyFrom f a2_ a3_ h).bind fun h5_ =>
  (q_gr h5_ x0 5 8).bind fun a6_ =>
  (q_as h5_ a6_ 10 x1 (vp_nar .boolean (1 : Int32))).bind fun h7_ =>
  some ((1 : Int32), h7_)))
  else
  (b_X5_keep_9 f h))
set_option maxRecDepth 20000 in
theorem t_X5_keep_9 {X : Cx} (o : Ok X RX5 cX5_keep 2 2 39 0 0 (some .int)) (f : Nat)   (h : Hp) : Sim X (z_Zi X 0 0) 0 0 9 [] [] h (b_X5_keep_9 f h) := by
  unfold b_X5_keep_9
  refine s_ldc o kc_X5_116 dX5_keep_9 (q := 11) rfl ?_
  exact s_iret o dX5_keep_11
set_option maxRecDepth 20000 in
theorem t_X5_keep_0 {X : Cx} (o : Ok X RX5 cX5_keep 2 2 39 0 0 (some .int)) (f : Nat)  (x0 : Nat) (x1 : Int32) (h : Hp) : Sim X (z_Zi X 0 0) 0 0 0 [(0, rf (xG X) x0), (1, .int x1)] [] h (f_X5_keep f x0 x1 h) := by
  unfold f_X5_keep
  refine s_iload_n o 1 rfl dX5_keep_0 (q := 1) rfl ?_
  refine s_if_lt o (tgt := 9) dX5_keep_1 (by decide) (q := 4) rfl ?_ ?_
  · exact s_sub [] rfl (t_X5_keep_9 o f h)
  · refine s_iload_n o 1 rfl dX5_keep_4 (q := 5) rfl ?_
    refine s_iconst o dX5_keep_5 (v := (2 : Int32)) (by decide) (q := 6) rfl ?_
    refine s_ic_lt o (tgt := 12) dX5_keep_6 (by decide) (q := 9) rfl ?_ ?_
    · refine s_aload_n o 0 rfl dX5_keep_12 (q := 13) rfl ?_
      refine s_gr o kf_X5_44 dX5_keep_13 (q := 16) rfl (fun a1_ => ?_)
      refine s_iload_n o 1 rfl dX5_keep_16 (q := 17) rfl ?_
      refine s_aald o dX5_keep_17 (q := 18) rfl (fun a2_ => ?_)
      refine s_aload_n o 0 rfl dX5_keep_18 (q := 19) rfl ?_
      refine s_gr o kf_X5_40 dX5_keep_19 (q := 22) rfl (fun a3_ => ?_)
      refine s_on (fun hk4_ => ?_)
      refine s_callv (fun r0 hr0 => runV o hk4_ cv_X5_246 (c_X4_copyFrom (xG X) f a2_ a3_ h (xl X) r0 hr0) ⟨Nat.le_of_ble_eq_true rfl, Nat.le_of_ble_eq_true rfl⟩ rfl rfl (Nat.le_of_ble_eq_true rfl) dX5_keep_22 ⟨Nat.le_of_ble_eq_true rfl, Nat.le_of_ble_eq_true rfl⟩) (q := 25) rfl (cs' := 0) rfl (sl' := 0) rfl (fun h5_ => ?_)
      refine s_aload_n o 0 rfl dX5_keep_25 (q := 26) rfl ?_
      refine s_gr o kf_X5_48 dX5_keep_26 (q := 29) rfl (fun a6_ => ?_)
      refine s_iload_n o 1 rfl dX5_keep_29 (q := 30) rfl ?_
      refine s_iconst o dX5_keep_30 (v := (1 : Int32)) (by decide) (q := 31) rfl ?_
      refine s_zast o dX5_keep_31 (q := 32) rfl (fun h7_ => ?_)
      refine s_iconst o dX5_keep_32 (v := (1 : Int32)) (by decide) (q := 33) rfl ?_
      exact s_iret o dX5_keep_33
    · exact s_sub [] rfl (t_X5_keep_9 o f h)
theorem c_X5_keep (G : Gx) (f : Nat) (x0 : Nat) (x1 : Int32) (h : Hp) : z_M z_qi G yX5_keep cX5_keep 2 (some .int) 2 39 0 0 [rf G x0, .int x1] h (f_X5_keep f x0 x1 h) :=
  z_met (by decide +kernel) (Nat.le_of_ble_eq_true rfl) (fun X hG hn o hnm => by
    subst hG
    show Sim X (z_Zi X 0 0) 0 0 0 [(0, rf (xG X) x0), (1, .int x1)] [] h _
    exact s_sub [0, 1] rfl (t_X5_keep_0 o f x0 x1 h))
/-! SixMaps.knows(II)I -/
def b_X5_knows_33 (f : Nat)  (y0 : Int32) (h : Hp) : Option (Int32 × Hp) :=
  some (y0, h)
def b_X5_knows_31 (f : Nat)   (h : Hp) : Option (Int32 × Hp) :=
  b_X5_knows_33 f (-1000001 : Int32) h
def f_X5_knows (f : Nat)  (x0 : Nat) (x1 : Int32) (x2 : Int32) (h : Hp) : Option (Int32 × Hp) :=
  bi (f_X5_isBand f x1 h) fun v2_ h1_ =>
  if v2_ = 0 then
  (b_X5_knows_31 f h1_)
  else
  (bi (f_X5_isBand f x2 h1_) fun v4_ h3_ =>
  if v4_ = 0 then
  (b_X5_knows_31 f h3_)
  else
  ((q_gr h3_ x0 5 6).bind fun a5_ =>
  (q_gr h3_ a5_ 4 0).bind fun a6_ =>
  (q_ai h3_ a6_ 9 ((x1 * (6 : Int32)) + x2)).bind fun v7_ =>
  b_X5_knows_33 f v7_ h3_))
set_option maxRecDepth 20000 in
theorem t_X5_knows_33 {X : Cx} (o : Ok X RX5 cX5_knows 3 1 20 0 0 (some .int)) (f : Nat)  (y0 : Int32) (h : Hp) : Sim X (z_Zi X 0 0) 0 0 33 [] [.int y0] h (b_X5_knows_33 f y0 h) := by
  unfold b_X5_knows_33
  exact s_iret o dX5_knows_33
set_option maxRecDepth 20000 in
theorem t_X5_knows_31 {X : Cx} (o : Ok X RX5 cX5_knows 3 1 20 0 0 (some .int)) (f : Nat)   (h : Hp) : Sim X (z_Zi X 0 0) 0 0 31 [] [] h (b_X5_knows_31 f h) := by
  unfold b_X5_knows_31
  refine s_ldc o kc_X5_116 dX5_knows_31 (q := 33) rfl ?_
  exact s_sub [] rfl (t_X5_knows_33 o f (-1000001 : Int32) h)
set_option maxRecDepth 20000 in
theorem t_X5_knows_0 {X : Cx} (o : Ok X RX5 cX5_knows 3 1 20 0 0 (some .int)) (f : Nat)  (x0 : Nat) (x1 : Int32) (x2 : Int32) (h : Hp) : Sim X (z_Zi X 0 0) 0 0 0 [(0, rf (xG X) x0), (1, .int x1), (2, .int x2)] [] h (f_X5_knows f x0 x1 x2 h) := by
  unfold f_X5_knows
  refine s_iload_n o 1 rfl dX5_knows_0 (q := 1) rfl ?_
  refine s_bi (fun r0 hr0 => runS o cs_X5_124 (c_X5_isBand (xG X) f x1 h (xl X) r0 hr0) ⟨Nat.le_of_ble_eq_true rfl, Nat.le_of_ble_eq_true rfl⟩ rfl rfl (Nat.le_of_ble_eq_true rfl) dX5_knows_1 ⟨Nat.le_of_ble_eq_true rfl, Nat.le_of_ble_eq_true rfl⟩) (q := 4) rfl (cs' := 0) rfl (sl' := 0) rfl (fun v2_ h1_ => ?_)
  refine s_if_eq o (tgt := 31) dX5_knows_4 (by decide) (q := 7) rfl ?_ ?_
  · exact s_sub [] rfl (t_X5_knows_31 o f h1_)
  · refine s_iload_n o 2 rfl dX5_knows_7 (q := 8) rfl ?_
    refine s_bi (fun r0 hr0 => runS o cs_X5_124 (c_X5_isBand (xG X) f x2 h1_ (xl X) r0 hr0) ⟨Nat.le_of_ble_eq_true rfl, Nat.le_of_ble_eq_true rfl⟩ rfl rfl (Nat.le_of_ble_eq_true rfl) dX5_knows_8 ⟨Nat.le_of_ble_eq_true rfl, Nat.le_of_ble_eq_true rfl⟩) (q := 11) rfl (cs' := 0) rfl (sl' := 0) rfl (fun v4_ h3_ => ?_)
    refine s_if_eq o (tgt := 31) dX5_knows_11 (by decide) (q := 14) rfl ?_ ?_
    · exact s_sub [] rfl (t_X5_knows_31 o f h3_)
    · refine s_aload_n o 0 rfl dX5_knows_14 (q := 15) rfl ?_
      refine s_gr o kf_X5_40 dX5_knows_15 (q := 18) rfl (fun a5_ => ?_)
      refine s_gr o kf_X5_134 dX5_knows_18 (q := 21) rfl (fun a6_ => ?_)
      refine s_iload_n o 1 rfl dX5_knows_21 (q := 22) rfl ?_
      refine s_bipush o dX5_knows_22 (v := (6 : Int32)) (by decide) (q := 24) rfl ?_
      refine s_imul o dX5_knows_24 (q := 25) rfl ?_
      refine s_iload_n o 2 rfl dX5_knows_25 (q := 26) rfl ?_
      refine s_iadd o dX5_knows_26 (q := 27) rfl ?_
      refine s_iald o dX5_knows_27 (q := 28) rfl (fun v7_ => ?_)
      refine s_goto o (tgt := 33) dX5_knows_28 (by decide) ?_
      exact s_sub [] rfl (t_X5_knows_33 o f v7_ h3_)
theorem c_X5_knows (G : Gx) (f : Nat) (x0 : Nat) (x1 : Int32) (x2 : Int32) (h : Hp) : z_M z_qi G yX5_knows cX5_knows 3 (some .int) 1 20 0 0 [rf G x0, .int x1, .int x2] h (f_X5_knows f x0 x1 x2 h) :=
  z_met (by decide +kernel) (Nat.le_of_ble_eq_true rfl) (fun X hG hn o hnm => by
    subst hG
    show Sim X (z_Zi X 0 0) 0 0 0 [(0, rf (xG X) x0), (1, .int x1), (2, .int x2)] [] h _
    exact s_sub [0, 1, 2] rfl (t_X5_knows_0 o f x0 x1 x2 h))
/-! SixMaps.leads(II)I -/
def b_X5_leads_134 (f : Nat)  (y0 : Int32) (h : Hp) : Option (Int32 × Hp) :=
  some (y0, h)
def b_X5_leads_57 (f : Nat)  (x0 : Nat) (x1 : Int32) (x2 : Int32) (y0 : Nat) (h : Hp) : Option (Int32 × Hp) :=
  (q_gr h x0 5 3).bind fun a1_ =>
  (q_gi h a1_ 0 8).bind fun v2_ =>
  (q_ai h y0 9 ((x1 * (9 : Int32)) + v2_)).bind fun v3_ =>
  (q_gr h x0 5 3).bind fun a4_ =>
  (q_gi h a4_ 0 9).bind fun v5_ =>
  (q_ai h y0 9 ((x1 * (9 : Int32)) + v5_)).bind fun v6_ =>
  (q_gr h x0 5 3).bind fun a7_ =>
  (q_gi h a7_ 0 10).bind fun v8_ =>
  (q_ai h y0 9 ((x1 * (9 : Int32)) + v8_)).bind fun v9_ =>
  lt ((v3_ + v6_) - v9_) fun v10_ =>
  (q_gr h x0 5 3).bind fun a11_ =>
  (q_gi h a11_ 0 7).bind fun v12_ =>
  lt ((3 : Int32) * v12_) fun v13_ =>
  q_nz (2 : Int32) (
  if ¬ (x2 - x2 / (2 : Int32) * (2 : Int32)) = 0 then
  (b_X5_leads_134 f (v10_ + v13_) h)
  else
  (b_X5_leads_134 f (v10_ - v13_) h))
def b_X5_leads_19 (f : Nat)   (h : Hp) : Option (Int32 × Hp) :=
  some ((-1000002 : Int32), h)
def f_X5_leads (f : Nat)  (x0 : Nat) (x1 : Int32) (x2 : Int32) (h : Hp) : Option (Int32 × Hp) :=
  bi (f_X5_isBand f x1 h) fun v2_ h1_ =>
  if ¬ v2_ = 0 then
  (if x2 < 0 then
  (b_X5_leads_19 f h1_)
  else
  (if x2 < (4 : Int32) then
  ((q_gr h1_ x0 5 3).bind fun a3_ =>
  (q_gi h1_ a3_ 0 4).bind fun v4_ =>
  if ¬ v4_ = 0 then
  (if (2 : Int32) ≤ x2 then
  ((q_gr h1_ x0 5 3).bind fun a5_ =>
  (q_gr h1_ a5_ 0 3).bind fun a6_ =>
  b_X5_leads_57 f x0 x1 x2 a6_ h1_)
  else
  ((q_gr h1_ x0 5 3).bind fun a7_ =>
  (q_gr h1_ a7_ 0 2).bind fun a8_ =>
  b_X5_leads_57 f x0 x1 x2 a8_ h1_))
  else
  (some ((-1000003 : Int32), h1_)))
  else
  (b_X5_leads_19 f h1_)))
  else
  (some ((-1000001 : Int32), h1_))
set_option maxRecDepth 20000 in
theorem t_X5_leads_134 {X : Cx} (o : Ok X RX5 cX5_leads 6 1 20 0 0 (some .int)) (f : Nat)  (y0 : Int32) (h : Hp) : Sim X (z_Zi X 0 0) 0 0 134 [] [.int y0] h (b_X5_leads_134 f y0 h) := by
  unfold b_X5_leads_134
  exact s_iret o dX5_leads_134
set_option maxRecDepth 20000 in
theorem t_X5_leads_57 {X : Cx} (o : Ok X RX5 cX5_leads 6 1 20 0 0 (some .int)) (f : Nat)  (x0 : Nat) (x1 : Int32) (x2 : Int32) (y0 : Nat) (h : Hp) : Sim X (z_Zi X 0 0) 0 0 57 [(0, rf (xG X) x0), (1, .int x1), (2, .int x2)] [rf (xG X) y0] h (b_X5_leads_57 f x0 x1 x2 y0 h) := by
  unfold b_X5_leads_57
  refine s_astore_n o [1, 2, 3, 0] (lv' := [(0, rf (xG X) x0), (1, .int x1), (2, .int x2), (3, rf (xG X) y0)]) rfl dX5_leads_57 (by decide) (q := 58) rfl ?_
  refine s_aload_n o 3 rfl dX5_leads_58 (q := 59) rfl ?_
  refine s_iload_n o 1 rfl dX5_leads_59 (q := 60) rfl ?_
  refine s_bipush o dX5_leads_60 (v := (9 : Int32)) (by decide) (q := 62) rfl ?_
  refine s_imul o dX5_leads_62 (q := 63) rfl ?_
  refine s_aload_n o 0 rfl dX5_leads_63 (q := 64) rfl ?_
  refine s_gr o kf_X5_23 dX5_leads_64 (q := 67) rfl (fun a1_ => ?_)
  refine s_gi o kf_X5_91 dX5_leads_67 (q := 70) rfl (fun v2_ => ?_)
  refine s_iadd o dX5_leads_70 (q := 71) rfl ?_
  refine s_iald o dX5_leads_71 (q := 72) rfl (fun v3_ => ?_)
  refine s_aload_n o 3 rfl dX5_leads_72 (q := 73) rfl ?_
  refine s_iload_n o 1 rfl dX5_leads_73 (q := 74) rfl ?_
  refine s_bipush o dX5_leads_74 (v := (9 : Int32)) (by decide) (q := 76) rfl ?_
  refine s_imul o dX5_leads_76 (q := 77) rfl ?_
  refine s_aload_n o 0 rfl dX5_leads_77 (q := 78) rfl ?_
  refine s_gr o kf_X5_23 dX5_leads_78 (q := 81) rfl (fun a4_ => ?_)
  refine s_gi o kf_X5_94 dX5_leads_81 (q := 84) rfl (fun v5_ => ?_)
  refine s_iadd o dX5_leads_84 (q := 85) rfl ?_
  refine s_iald o dX5_leads_85 (q := 86) rfl (fun v6_ => ?_)
  refine s_iadd o dX5_leads_86 (q := 87) rfl ?_
  refine s_aload_n o 3 rfl dX5_leads_87 (q := 88) rfl ?_
  refine s_iload_n o 1 rfl dX5_leads_88 (q := 89) rfl ?_
  refine s_bipush o dX5_leads_89 (v := (9 : Int32)) (by decide) (q := 91) rfl ?_
  refine s_imul o dX5_leads_91 (q := 92) rfl ?_
  refine s_aload_n o 0 rfl dX5_leads_92 (q := 93) rfl ?_
  refine s_gr o kf_X5_23 dX5_leads_93 (q := 96) rfl (fun a7_ => ?_)
  refine s_gi o kf_X5_97 dX5_leads_96 (q := 99) rfl (fun v8_ => ?_)
  refine s_iadd o dX5_leads_99 (q := 100) rfl ?_
  refine s_iald o dX5_leads_100 (q := 101) rfl (fun v9_ => ?_)
  refine s_isub o dX5_leads_101 (q := 102) rfl ?_
  refine s_let (fun v10_ => ?_)
  refine s_istore o [1, 2, 3, 4, 0] (lv' := [(0, rf (xG X) x0), (1, .int x1), (2, .int x2), (3, rf (xG X) y0), (4, .int v10_)]) rfl dX5_leads_102 (by decide) (q := 104) rfl ?_
  refine s_iconst o dX5_leads_104 (v := (3 : Int32)) (by decide) (q := 105) rfl ?_
  refine s_aload_n o 0 rfl dX5_leads_105 (q := 106) rfl ?_
  refine s_gr o kf_X5_23 dX5_leads_106 (q := 109) rfl (fun a11_ => ?_)
  refine s_gi o kf_X5_88 dX5_leads_109 (q := 112) rfl (fun v12_ => ?_)
  refine s_imul o dX5_leads_112 (q := 113) rfl ?_
  refine s_let (fun v13_ => ?_)
  refine s_istore o [1, 2, 3, 4, 5, 0] (lv' := [(0, rf (xG X) x0), (1, .int x1), (2, .int x2), (3, rf (xG X) y0), (4, .int v10_), (5, .int v13_)]) rfl dX5_leads_113 (by decide) (q := 115) rfl ?_
  refine s_iload_n o 2 rfl dX5_leads_115 (q := 116) rfl ?_
  refine s_iconst o dX5_leads_116 (v := (2 : Int32)) (by decide) (q := 117) rfl ?_
  refine s_irem o dX5_leads_117 (q := 118) rfl ?_
  refine s_if_ne o (tgt := 129) dX5_leads_118 (by decide) (q := 121) rfl ?_ ?_
  · refine s_iload o 4 rfl dX5_leads_129 (q := 131) rfl ?_
    refine s_iload o 5 rfl dX5_leads_131 (q := 133) rfl ?_
    refine s_iadd o dX5_leads_133 (q := 134) rfl ?_
    exact s_sub [] rfl (t_X5_leads_134 o f (v10_ + v13_) h)
  · refine s_iload o 4 rfl dX5_leads_121 (q := 123) rfl ?_
    refine s_iload o 5 rfl dX5_leads_123 (q := 125) rfl ?_
    refine s_isub o dX5_leads_125 (q := 126) rfl ?_
    refine s_goto o (tgt := 134) dX5_leads_126 (by decide) ?_
    exact s_sub [] rfl (t_X5_leads_134 o f (v10_ - v13_) h)
set_option maxRecDepth 20000 in
theorem t_X5_leads_19 {X : Cx} (o : Ok X RX5 cX5_leads 6 1 20 0 0 (some .int)) (f : Nat)   (h : Hp) : Sim X (z_Zi X 0 0) 0 0 19 [] [] h (b_X5_leads_19 f h) := by
  unfold b_X5_leads_19
  refine s_ldc o kc_X5_66 dX5_leads_19 (q := 21) rfl ?_
  exact s_iret o dX5_leads_21
set_option maxRecDepth 20000 in
theorem t_X5_leads_0 {X : Cx} (o : Ok X RX5 cX5_leads 6 1 20 0 0 (some .int)) (f : Nat)  (x0 : Nat) (x1 : Int32) (x2 : Int32) (h : Hp) : Sim X (z_Zi X 0 0) 0 0 0 [(0, rf (xG X) x0), (1, .int x1), (2, .int x2)] [] h (f_X5_leads f x0 x1 x2 h) := by
  unfold f_X5_leads
  refine s_iload_n o 1 rfl dX5_leads_0 (q := 1) rfl ?_
  refine s_bi (fun r0 hr0 => runS o cs_X5_124 (c_X5_isBand (xG X) f x1 h (xl X) r0 hr0) ⟨Nat.le_of_ble_eq_true rfl, Nat.le_of_ble_eq_true rfl⟩ rfl rfl (Nat.le_of_ble_eq_true rfl) dX5_leads_1 ⟨Nat.le_of_ble_eq_true rfl, Nat.le_of_ble_eq_true rfl⟩) (q := 4) rfl (cs' := 0) rfl (sl' := 0) rfl (fun v2_ h1_ => ?_)
  refine s_if_ne o (tgt := 10) dX5_leads_4 (by decide) (q := 7) rfl ?_ ?_
  · refine s_iload_n o 2 rfl dX5_leads_10 (q := 11) rfl ?_
    refine s_if_lt o (tgt := 19) dX5_leads_11 (by decide) (q := 14) rfl ?_ ?_
    · exact s_sub [] rfl (t_X5_leads_19 o f h1_)
    · refine s_iload_n o 2 rfl dX5_leads_14 (q := 15) rfl ?_
      refine s_iconst o dX5_leads_15 (v := (4 : Int32)) (by decide) (q := 16) rfl ?_
      refine s_ic_lt o (tgt := 22) dX5_leads_16 (by decide) (q := 19) rfl ?_ ?_
      · refine s_aload_n o 0 rfl dX5_leads_22 (q := 23) rfl ?_
        refine s_gr o kf_X5_23 dX5_leads_23 (q := 26) rfl (fun a3_ => ?_)
        refine s_gi o kf_X5_75 dX5_leads_26 (q := 29) rfl (fun v4_ => ?_)
        refine s_if_ne o (tgt := 35) dX5_leads_29 (by decide) (q := 32) rfl ?_ ?_
        · refine s_iload_n o 2 rfl dX5_leads_35 (q := 36) rfl ?_
          refine s_iconst o dX5_leads_36 (v := (2 : Int32)) (by decide) (q := 37) rfl ?_
          refine s_ic_ge o (tgt := 50) dX5_leads_37 (by decide) (q := 40) rfl ?_ ?_
          · refine s_aload_n o 0 rfl dX5_leads_50 (q := 51) rfl ?_
            refine s_gr o kf_X5_23 dX5_leads_51 (q := 54) rfl (fun a5_ => ?_)
            refine s_gr o kf_X5_130 dX5_leads_54 (q := 57) rfl (fun a6_ => ?_)
            exact s_sub [0, 1, 2] rfl (t_X5_leads_57 o f x0 x1 x2 a6_ h1_)
          · refine s_aload_n o 0 rfl dX5_leads_40 (q := 41) rfl ?_
            refine s_gr o kf_X5_23 dX5_leads_41 (q := 44) rfl (fun a7_ => ?_)
            refine s_gr o kf_X5_127 dX5_leads_44 (q := 47) rfl (fun a8_ => ?_)
            refine s_goto o (tgt := 57) dX5_leads_47 (by decide) ?_
            exact s_sub [0, 1, 2] rfl (t_X5_leads_57 o f x0 x1 x2 a8_ h1_)
        · refine s_ldc o kc_X5_133 dX5_leads_32 (q := 34) rfl ?_
          exact s_iret o dX5_leads_34
      · exact s_sub [] rfl (t_X5_leads_19 o f h1_)
  · refine s_ldc o kc_X5_116 dX5_leads_7 (q := 9) rfl ?_
    exact s_iret o dX5_leads_9
theorem c_X5_leads (G : Gx) (f : Nat) (x0 : Nat) (x1 : Int32) (x2 : Int32) (h : Hp) : z_M z_qi G yX5_leads cX5_leads 6 (some .int) 1 20 0 0 [rf G x0, .int x1, .int x2] h (f_X5_leads f x0 x1 x2 h) :=
  z_met (by decide +kernel) (Nat.le_of_ble_eq_true rfl) (fun X hG hn o hnm => by
    subst hG
    show Sim X (z_Zi X 0 0) 0 0 0 [(0, rf (xG X) x0), (1, .int x1), (2, .int x2)] [] h _
    exact s_sub [0, 1, 2] rfl (t_X5_leads_0 o f x0 x1 x2 h))
