/-! SixMaps$Judge.hasNoPlaceLeft(II)Z -/
def b_X1_hasNoPlaceLeft_104 (f : Nat)  (y0 : Int32) (h : Hp) : Option (Int32 × Hp) :=
  q_bo y0 (some (y0, h))
def b_X1_hasNoPlaceLeft_99 (f : Nat)   (h : Hp) : Option (Int32 × Hp) :=
  b_X1_hasNoPlaceLeft_104 f (1 : Int32) h
def f_X1_hasNoPlaceLeft (f : Nat)  (x0 : Nat) (x1 : Int32) (x2 : Int32) (h : Hp) : Option (Int32 × Hp) :=
  (q_gr h x0 1 1).bind fun a1_ =>
  (q_ai h a1_ 9 ((x1 * (9 : Int32)) + x2)).bind fun v2_ =>
  (q_gr h x0 1 2).bind fun a3_ =>
  (q_ai h a3_ 9 ((x1 * (9 : Int32)) + x2)).bind fun v4_ =>
  (q_gr h x0 1 9).bind fun a5_ =>
  (q_gi h a5_ 0 7).bind fun v6_ =>
  (q_gr h x0 1 3).bind fun a7_ =>
  (q_ai h a7_ 9 x2).bind fun v8_ =>
  if (v2_ + v6_) < v8_ then
  (b_X1_hasNoPlaceLeft_99 f h)
  else
  ((q_gr h x0 1 9).bind fun a9_ =>
  (q_gi h a9_ 0 7).bind fun v10_ =>
  (q_gr h x0 1 4).bind fun a11_ =>
  (q_ai h a11_ 9 x2).bind fun v12_ =>
  if v12_ < (v2_ - v10_) then
  (b_X1_hasNoPlaceLeft_99 f h)
  else
  ((q_gr h x0 1 9).bind fun a13_ =>
  (q_gi h a13_ 0 7).bind fun v14_ =>
  (q_gr h x0 1 5).bind fun a15_ =>
  (q_ai h a15_ 9 x2).bind fun v16_ =>
  if (v4_ + v14_) < v16_ then
  (b_X1_hasNoPlaceLeft_99 f h)
  else
  ((q_gr h x0 1 9).bind fun a17_ =>
  (q_gi h a17_ 0 7).bind fun v18_ =>
  (q_gr h x0 1 6).bind fun a19_ =>
  (q_ai h a19_ 9 x2).bind fun v20_ =>
  if (v4_ - v18_) ≤ v20_ then
  (b_X1_hasNoPlaceLeft_104 f (0 : Int32) h)
  else
  (b_X1_hasNoPlaceLeft_99 f h))))
set_option maxRecDepth 20000 in
theorem t_X1_hasNoPlaceLeft_104 {X : Cx} (o : Ok X RX1 cX1_hasNoPlaceLeft 5 0 0 0 0 (some .boolean)) (f : Nat)  (y0 : Int32) (h : Hp) : Sim X (z_Zi X 0 0) 0 0 104 [] [.int y0] h (b_X1_hasNoPlaceLeft_104 f y0 h) := by
  unfold b_X1_hasNoPlaceLeft_104
  exact s_zret o dX1_hasNoPlaceLeft_104
set_option maxRecDepth 20000 in
theorem t_X1_hasNoPlaceLeft_99 {X : Cx} (o : Ok X RX1 cX1_hasNoPlaceLeft 5 0 0 0 0 (some .boolean)) (f : Nat)   (h : Hp) : Sim X (z_Zi X 0 0) 0 0 99 [] [] h (b_X1_hasNoPlaceLeft_99 f h) := by
  unfold b_X1_hasNoPlaceLeft_99
  refine s_iconst o dX1_hasNoPlaceLeft_99 (v := (1 : Int32)) (by decide) (q := 100) rfl ?_
  refine s_goto o (tgt := 104) dX1_hasNoPlaceLeft_100 (by decide) ?_
  exact s_sub [] rfl (t_X1_hasNoPlaceLeft_104 o f (1 : Int32) h)
set_option maxRecDepth 20000 in
theorem t_X1_hasNoPlaceLeft_0 {X : Cx} (o : Ok X RX1 cX1_hasNoPlaceLeft 5 0 0 0 0 (some .boolean)) (f : Nat)  (x0 : Nat) (x1 : Int32) (x2 : Int32) (h : Hp) : Sim X (z_Zi X 0 0) 0 0 0 [(0, rf (xG X) x0), (1, .int x1), (2, .int x2)] [] h (f_X1_hasNoPlaceLeft f x0 x1 x2 h) := by
  unfold f_X1_hasNoPlaceLeft
  refine s_aload_n o 0 rfl dX1_hasNoPlaceLeft_0 (q := 1) rfl ?_
  refine s_gr o kf_X1_15 dX1_hasNoPlaceLeft_1 (q := 4) rfl (fun a1_ => ?_)
  refine s_iload_n o 1 rfl dX1_hasNoPlaceLeft_4 (q := 5) rfl ?_
  refine s_bipush o dX1_hasNoPlaceLeft_5 (v := (9 : Int32)) (by decide) (q := 7) rfl ?_
  refine s_imul o dX1_hasNoPlaceLeft_7 (q := 8) rfl ?_
  refine s_iload_n o 2 rfl dX1_hasNoPlaceLeft_8 (q := 9) rfl ?_
  refine s_iadd o dX1_hasNoPlaceLeft_9 (q := 10) rfl ?_
  refine s_iald o dX1_hasNoPlaceLeft_10 (q := 11) rfl (fun v2_ => ?_)
  refine s_istore_n o [1, 2, 3, 0] (lv' := [(0, rf (xG X) x0), (1, .int x1), (2, .int x2), (3, .int v2_)]) rfl dX1_hasNoPlaceLeft_11 (by decide) (q := 12) rfl ?_
  refine s_aload_n o 0 rfl dX1_hasNoPlaceLeft_12 (q := 13) rfl ?_
  refine s_gr o kf_X1_18 dX1_hasNoPlaceLeft_13 (q := 16) rfl (fun a3_ => ?_)
  refine s_iload_n o 1 rfl dX1_hasNoPlaceLeft_16 (q := 17) rfl ?_
  refine s_bipush o dX1_hasNoPlaceLeft_17 (v := (9 : Int32)) (by decide) (q := 19) rfl ?_
  refine s_imul o dX1_hasNoPlaceLeft_19 (q := 20) rfl ?_
  refine s_iload_n o 2 rfl dX1_hasNoPlaceLeft_20 (q := 21) rfl ?_
  refine s_iadd o dX1_hasNoPlaceLeft_21 (q := 22) rfl ?_
  refine s_iald o dX1_hasNoPlaceLeft_22 (q := 23) rfl (fun v4_ => ?_)
  refine s_istore o [1, 2, 3, 4, 0] (lv' := [(0, rf (xG X) x0), (1, .int x1), (2, .int x2), (3, .int v2_), (4, .int v4_)]) rfl dX1_hasNoPlaceLeft_23 (by decide) (q := 25) rfl ?_
  refine s_iload_n o 3 rfl dX1_hasNoPlaceLeft_25 (q := 26) rfl ?_
  refine s_aload_n o 0 rfl dX1_hasNoPlaceLeft_26 (q := 27) rfl ?_
  refine s_gr o kf_X1_42 dX1_hasNoPlaceLeft_27 (q := 30) rfl (fun a5_ => ?_)
  refine s_gi o kf_X1_157 dX1_hasNoPlaceLeft_30 (q := 33) rfl (fun v6_ => ?_)
  refine s_iadd o dX1_hasNoPlaceLeft_33 (q := 34) rfl ?_
  refine s_aload_n o 0 rfl dX1_hasNoPlaceLeft_34 (q := 35) rfl ?_
  refine s_gr o kf_X1_21 dX1_hasNoPlaceLeft_35 (q := 38) rfl (fun a7_ => ?_)
  refine s_iload_n o 2 rfl dX1_hasNoPlaceLeft_38 (q := 39) rfl ?_
  refine s_iald o dX1_hasNoPlaceLeft_39 (q := 40) rfl (fun v8_ => ?_)
  refine s_ic_lt o (tgt := 99) dX1_hasNoPlaceLeft_40 (by decide) (q := 43) rfl ?_ ?_
  · exact s_sub [] rfl (t_X1_hasNoPlaceLeft_99 o f h)
  · refine s_iload_n o 3 rfl dX1_hasNoPlaceLeft_43 (q := 44) rfl ?_
    refine s_aload_n o 0 rfl dX1_hasNoPlaceLeft_44 (q := 45) rfl ?_
    refine s_gr o kf_X1_42 dX1_hasNoPlaceLeft_45 (q := 48) rfl (fun a9_ => ?_)
    refine s_gi o kf_X1_157 dX1_hasNoPlaceLeft_48 (q := 51) rfl (fun v10_ => ?_)
    refine s_isub o dX1_hasNoPlaceLeft_51 (q := 52) rfl ?_
    refine s_aload_n o 0 rfl dX1_hasNoPlaceLeft_52 (q := 53) rfl ?_
    refine s_gr o kf_X1_24 dX1_hasNoPlaceLeft_53 (q := 56) rfl (fun a11_ => ?_)
    refine s_iload_n o 2 rfl dX1_hasNoPlaceLeft_56 (q := 57) rfl ?_
    refine s_iald o dX1_hasNoPlaceLeft_57 (q := 58) rfl (fun v12_ => ?_)
    refine s_ic_gt o (tgt := 99) dX1_hasNoPlaceLeft_58 (by decide) (q := 61) rfl ?_ ?_
    · exact s_sub [] rfl (t_X1_hasNoPlaceLeft_99 o f h)
    · refine s_iload o 4 rfl dX1_hasNoPlaceLeft_61 (q := 63) rfl ?_
      refine s_aload_n o 0 rfl dX1_hasNoPlaceLeft_63 (q := 64) rfl ?_
      refine s_gr o kf_X1_42 dX1_hasNoPlaceLeft_64 (q := 67) rfl (fun a13_ => ?_)
      refine s_gi o kf_X1_157 dX1_hasNoPlaceLeft_67 (q := 70) rfl (fun v14_ => ?_)
      refine s_iadd o dX1_hasNoPlaceLeft_70 (q := 71) rfl ?_
      refine s_aload_n o 0 rfl dX1_hasNoPlaceLeft_71 (q := 72) rfl ?_
      refine s_gr o kf_X1_27 dX1_hasNoPlaceLeft_72 (q := 75) rfl (fun a15_ => ?_)
      refine s_iload_n o 2 rfl dX1_hasNoPlaceLeft_75 (q := 76) rfl ?_
      refine s_iald o dX1_hasNoPlaceLeft_76 (q := 77) rfl (fun v16_ => ?_)
      refine s_ic_lt o (tgt := 99) dX1_hasNoPlaceLeft_77 (by decide) (q := 80) rfl ?_ ?_
      · exact s_sub [] rfl (t_X1_hasNoPlaceLeft_99 o f h)
      · refine s_iload o 4 rfl dX1_hasNoPlaceLeft_80 (q := 82) rfl ?_
        refine s_aload_n o 0 rfl dX1_hasNoPlaceLeft_82 (q := 83) rfl ?_
        refine s_gr o kf_X1_42 dX1_hasNoPlaceLeft_83 (q := 86) rfl (fun a17_ => ?_)
        refine s_gi o kf_X1_157 dX1_hasNoPlaceLeft_86 (q := 89) rfl (fun v18_ => ?_)
        refine s_isub o dX1_hasNoPlaceLeft_89 (q := 90) rfl ?_
        refine s_aload_n o 0 rfl dX1_hasNoPlaceLeft_90 (q := 91) rfl ?_
        refine s_gr o kf_X1_30 dX1_hasNoPlaceLeft_91 (q := 94) rfl (fun a19_ => ?_)
        refine s_iload_n o 2 rfl dX1_hasNoPlaceLeft_94 (q := 95) rfl ?_
        refine s_iald o dX1_hasNoPlaceLeft_95 (q := 96) rfl (fun v20_ => ?_)
        refine s_ic_le o (tgt := 103) dX1_hasNoPlaceLeft_96 (by decide) (q := 99) rfl ?_ ?_
        · refine s_iconst o dX1_hasNoPlaceLeft_103 (v := (0 : Int32)) (by decide) (q := 104) rfl ?_
          exact s_sub [] rfl (t_X1_hasNoPlaceLeft_104 o f (0 : Int32) h)
        · exact s_sub [] rfl (t_X1_hasNoPlaceLeft_99 o f h)
theorem c_X1_hasNoPlaceLeft (G : Gx) (f : Nat) (x0 : Nat) (x1 : Int32) (x2 : Int32) (h : Hp) : z_M z_qi G yX1_hasNoPlaceLeft cX1_hasNoPlaceLeft 5 (some .boolean) 0 0 0 0 [rf G x0, .int x1, .int x2] h (f_X1_hasNoPlaceLeft f x0 x1 x2 h) :=
  z_met (by decide +kernel) (Nat.le_of_ble_eq_true rfl) (fun X hG hn o hnm => by
    subst hG
    show Sim X (z_Zi X 0 0) 0 0 0 [(0, rf (xG X) x0), (1, .int x1), (2, .int x2)] [] h _
    exact s_sub [0, 1, 2] rfl (t_X1_hasNoPlaceLeft_0 o f x0 x1 x2 h))
/-! SixMaps$Judge.timesOff(I)I -/
def b_X1_timesOff_40 (f : Nat) (k4 : Nat → Int32 → Int32 → Int32 → Hp → Option (Int32 × Hp)) (x0 : Nat) (x1 : Int32) (x2 : Int32) (x3 : Int32) (h : Hp) : Option (Int32 × Hp) :=
  lt (x3 + (1 : Int32)) fun v1_ =>
  k4 x0 x1 x2 v1_ h
def b_X1_timesOff_4 (f : Nat) (k4 : Nat → Int32 → Int32 → Int32 → Hp → Option (Int32 × Hp)) (x0 : Nat) (x1 : Int32) (x2 : Int32) (x3 : Int32) (h : Hp) : Option (Int32 × Hp) :=
  (q_gr h x0 1 9).bind fun a1_ =>
  (q_gi h a1_ 0 4).bind fun v2_ =>
  if v2_ ≤ x3 then
  (some (x2, h))
  else
  ((q_gr h x0 1 0).bind fun a3_ =>
  (q_ai h a3_ 9 x1).bind fun v4_ =>
  bi (f_X5_isIn f v4_ x3 h) fun v6_ h5_ =>
  if v6_ = 0 then
  (b_X1_timesOff_40 f k4 x0 x1 x2 x3 h5_)
  else
  (q_on h5_ x0 1 (
  bi (f_X1_hasNoPlaceLeft f x0 x1 x3 h5_) fun v9_ h8_ =>
  if v9_ = 0 then
  (b_X1_timesOff_40 f k4 x0 x1 x2 x3 h8_)
  else
  (lt (x2 + (1 : Int32)) fun v10_ =>
  b_X1_timesOff_40 f k4 x0 x1 v10_ x3 h8_))))
def l_X1_timesOff_4 (f : Nat)  : Nat → Nat → Int32 → Int32 → Int32 → Hp → Option (Int32 × Hp)
  | 0, _, _, _, _, _ => none
  | n + 1, x0, x1, x2, x3, h => b_X1_timesOff_4 f  (l_X1_timesOff_4 f  n) x0 x1 x2 x3 h
def f_X1_timesOff (f : Nat)  (x0 : Nat) (x1 : Int32) (h : Hp) : Option (Int32 × Hp) :=
  l_X1_timesOff_4 f f x0 x1 (0 : Int32) (0 : Int32) h
set_option maxRecDepth 20000 in
theorem t_X1_timesOff_40 {X : Cx} (o : Ok X RX1 cX1_timesOff 4 1 24 0 0 (some .int)) (f : Nat) {k4 : Nat → Int32 → Int32 → Int32 → Hp → Option (Int32 × Hp)} (hk4 : ∀ (x0 : Nat) (x1 : Int32) (x2 : Int32) (x3 : Int32) (h : Hp), Sim X (z_Zi X 0 0) 0 0 4 [(0, rf (xG X) x0), (1, .int x1), (2, .int x2), (3, .int x3)] [] h (k4 x0 x1 x2 x3 h)) (x0 : Nat) (x1 : Int32) (x2 : Int32) (x3 : Int32) (h : Hp) : Sim X (z_Zi X 0 0) 0 0 40 [(0, rf (xG X) x0), (1, .int x1), (2, .int x2), (3, .int x3)] [] h (b_X1_timesOff_40 f k4 x0 x1 x2 x3 h) := by
  unfold b_X1_timesOff_40
  refine s_iinc o 3 rfl (v := (1 : Int32)) (by decide) [1, 2, 3, 0] (lv' := fun v1_ => [(0, rf (xG X) x0), (1, .int x1), (2, .int x2), (3, .int v1_)]) (fun _ => rfl) dX1_timesOff_40 (by decide) (q := 43) rfl (fun v1_ => ?_)
  refine s_goto o (tgt := 4) dX1_timesOff_43 (by decide) ?_
  exact s_sub [0, 1, 2, 3] rfl (hk4 x0 x1 x2 v1_ h)
set_option maxRecDepth 20000 in
theorem t_X1_timesOff_4 {X : Cx} (o : Ok X RX1 cX1_timesOff 4 1 24 0 0 (some .int)) (f : Nat) {k4 : Nat → Int32 → Int32 → Int32 → Hp → Option (Int32 × Hp)} (hk4 : ∀ (x0 : Nat) (x1 : Int32) (x2 : Int32) (x3 : Int32) (h : Hp), Sim X (z_Zi X 0 0) 0 0 4 [(0, rf (xG X) x0), (1, .int x1), (2, .int x2), (3, .int x3)] [] h (k4 x0 x1 x2 x3 h)) (x0 : Nat) (x1 : Int32) (x2 : Int32) (x3 : Int32) (h : Hp) : Sim X (z_Zi X 0 0) 0 0 4 [(0, rf (xG X) x0), (1, .int x1), (2, .int x2), (3, .int x3)] [] h (b_X1_timesOff_4 f k4 x0 x1 x2 x3 h) := by
  unfold b_X1_timesOff_4
  refine s_iload_n o 3 rfl dX1_timesOff_4 (q := 5) rfl ?_
  refine s_aload_n o 0 rfl dX1_timesOff_5 (q := 6) rfl ?_
  refine s_gr o kf_X1_42 dX1_timesOff_6 (q := 9) rfl (fun a1_ => ?_)
  refine s_gi o kf_X1_92 dX1_timesOff_9 (q := 12) rfl (fun v2_ => ?_)
  refine s_ic_ge o (tgt := 46) dX1_timesOff_12 (by decide) (q := 15) rfl ?_ ?_
  · refine s_iload_n o 2 rfl dX1_timesOff_46 (q := 47) rfl ?_
    exact s_iret o dX1_timesOff_47
  · refine s_aload_n o 0 rfl dX1_timesOff_15 (q := 16) rfl ?_
    refine s_gr o kf_X1_9 dX1_timesOff_16 (q := 19) rfl (fun a3_ => ?_)
    refine s_iload_n o 1 rfl dX1_timesOff_19 (q := 20) rfl ?_
    refine s_iald o dX1_timesOff_20 (q := 21) rfl (fun v4_ => ?_)
    refine s_iload_n o 3 rfl dX1_timesOff_21 (q := 22) rfl ?_
    refine s_bi (fun r0 hr0 => runN o cn_X1_105 (c_X5_isIn (xG X) f v4_ x3 h (xl X) r0 hr0) ⟨Nat.le_of_ble_eq_true rfl, Nat.le_of_ble_eq_true rfl⟩ rfl rfl (Nat.le_of_ble_eq_true rfl) dX1_timesOff_22 ⟨Nat.le_of_ble_eq_true rfl, Nat.le_of_ble_eq_true rfl⟩) (q := 25) rfl (cs' := 0) rfl (sl' := 0) rfl (fun v6_ h5_ => ?_)
    refine s_if_eq o (tgt := 40) dX1_timesOff_25 (by decide) (q := 28) rfl ?_ ?_
    · exact s_sub [0, 1, 2, 3] rfl (t_X1_timesOff_40 o f hk4 x0 x1 x2 x3 h5_)
    · refine s_aload_n o 0 rfl dX1_timesOff_28 (q := 29) rfl ?_
      refine s_iload_n o 1 rfl dX1_timesOff_29 (q := 30) rfl ?_
      refine s_iload_n o 3 rfl dX1_timesOff_30 (q := 31) rfl ?_
      refine s_on (fun hk7_ => ?_)
      refine s_bi (fun r0 hr0 => runV o hk7_ cv_X1_163 (c_X1_hasNoPlaceLeft (xG X) f x0 x1 x3 h5_ (xl X) r0 hr0) ⟨Nat.le_of_ble_eq_true rfl, Nat.le_of_ble_eq_true rfl⟩ rfl rfl (Nat.le_of_ble_eq_true rfl) dX1_timesOff_31 ⟨Nat.le_of_ble_eq_true rfl, Nat.le_of_ble_eq_true rfl⟩) (q := 34) rfl (cs' := 0) rfl (sl' := 0) rfl (fun v9_ h8_ => ?_)
      refine s_if_eq o (tgt := 40) dX1_timesOff_34 (by decide) (q := 37) rfl ?_ ?_
      · exact s_sub [0, 1, 2, 3] rfl (t_X1_timesOff_40 o f hk4 x0 x1 x2 x3 h8_)
      · refine s_iinc o 2 rfl (v := (1 : Int32)) (by decide) [1, 2, 0, 3] (lv' := fun v10_ => [(0, rf (xG X) x0), (1, .int x1), (2, .int v10_), (3, .int x3)]) (fun _ => rfl) dX1_timesOff_37 (by decide) (q := 40) rfl (fun v10_ => ?_)
        exact s_sub [0, 1, 2, 3] rfl (t_X1_timesOff_40 o f hk4 x0 x1 v10_ x3 h8_)
theorem tl_X1_timesOff_4 {X : Cx} (o : Ok X RX1 cX1_timesOff 4 1 24 0 0 (some .int)) (f : Nat)  : ∀ (n : Nat) (x0 : Nat) (x1 : Int32) (x2 : Int32) (x3 : Int32) (h : Hp), Sim X (z_Zi X 0 0) 0 0 4 [(0, rf (xG X) x0), (1, .int x1), (2, .int x2), (3, .int x3)] [] h (l_X1_timesOff_4 f n x0 x1 x2 x3 h) := by
  intro n
  induction n with
  | zero => intro x0 x1 x2 x3 h; exact s_none
  | succ n ih => intro x0 x1 x2 x3 h; exact t_X1_timesOff_4 o f  ih x0 x1 x2 x3 h
set_option maxRecDepth 20000 in
theorem t_X1_timesOff_0 {X : Cx} (o : Ok X RX1 cX1_timesOff 4 1 24 0 0 (some .int)) (f : Nat)  (x0 : Nat) (x1 : Int32) (h : Hp) : Sim X (z_Zi X 0 0) 0 0 0 [(0, rf (xG X) x0), (1, .int x1)] [] h (f_X1_timesOff f x0 x1 h) := by
  unfold f_X1_timesOff
  refine s_iconst o dX1_timesOff_0 (v := (0 : Int32)) (by decide) (q := 1) rfl ?_
  refine s_istore_n o [1, 2, 0] (lv' := [(0, rf (xG X) x0), (1, .int x1), (2, .int (0 : Int32))]) rfl dX1_timesOff_1 (by decide) (q := 2) rfl ?_
  refine s_iconst o dX1_timesOff_2 (v := (0 : Int32)) (by decide) (q := 3) rfl ?_
  refine s_istore_n o [1, 2, 3, 0] (lv' := [(0, rf (xG X) x0), (1, .int x1), (2, .int (0 : Int32)), (3, .int (0 : Int32))]) rfl dX1_timesOff_3 (by decide) (q := 4) rfl ?_
  exact s_sub [0, 1, 2, 3] rfl (tl_X1_timesOff_4 o f f x0 x1 (0 : Int32) (0 : Int32) h)
theorem c_X1_timesOff (G : Gx) (f : Nat) (x0 : Nat) (x1 : Int32) (h : Hp) : z_M z_qi G yX1_timesOff cX1_timesOff 4 (some .int) 1 24 0 0 [rf G x0, .int x1] h (f_X1_timesOff f x0 x1 h) :=
  z_met (by decide +kernel) (Nat.le_of_ble_eq_true rfl) (fun X hG hn o hnm => by
    subst hG
    show Sim X (z_Zi X 0 0) 0 0 0 [(0, rf (xG X) x0), (1, .int x1)] [] h _
    exact s_sub [0, 1] rfl (t_X1_timesOff_0 o f x0 x1 h))
/-! SixMaps$Judge.mayLie(I)Z -/
def b_X1_mayLie_125 (f : Nat)  (y0 : Int32) (h : Hp) : Option (Int32 × Hp) :=
  q_bo y0 (some (y0, h))
def b_X1_mayLie_107 (f : Nat) (k83 : Nat → Int32 → Int32 → Hp → Option (Int32 × Hp)) (x0 : Nat) (x2 : Int32) (x3 : Int32) (h : Hp) : Option (Int32 × Hp) :=
  lt (x3 + (1 : Int32)) fun v1_ =>
  k83 x0 x2 v1_ h
def b_X1_mayLie_83 (f : Nat) (k83 : Nat → Int32 → Int32 → Hp → Option (Int32 × Hp)) (x0 : Nat) (x2 : Int32) (x3 : Int32) (h : Hp) : Option (Int32 × Hp) :=
  if (6 : Int32) ≤ x3 then
  (q_on h x0 1 (
  bi (f_X1_isFelled f x0 h) fun v3_ h2_ =>
  if ¬ v3_ = 0 then
  (b_X1_mayLie_125 f (0 : Int32) h2_)
  else
  (b_X1_mayLie_125 f (1 : Int32) h2_)))
  else
  (bi (f_X5_isIn f x2 x3 h) fun v5_ h4_ =>
  if v5_ = 0 then
  (b_X1_mayLie_107 f k83 x0 x2 x3 h4_)
  else
  (q_on h4_ x0 1 (
  bi (f_X1_couldBeOff f x0 x3 h4_) fun v8_ h7_ =>
  if ¬ v8_ = 0 then
  (b_X1_mayLie_107 f k83 x0 x2 x3 h7_)
  else
  (q_bo (0 : Int32) (some ((0 : Int32), h7_))))))
def l_X1_mayLie_83 (f : Nat)  : Nat → Nat → Int32 → Int32 → Hp → Option (Int32 × Hp)
  | 0, _, _, _, _ => none
  | n + 1, x0, x2, x3, h => b_X1_mayLie_83 f  (l_X1_mayLie_83 f  n) x0 x2 x3 h
def b_X1_mayLie_61 (f : Nat) (k14 : Nat → Int32 → Int32 → Int32 → Hp → Option (Int32 × Hp)) (x0 : Nat) (x1 : Int32) (x2 : Int32) (x3 : Int32) (h : Hp) : Option (Int32 × Hp) :=
  lt (x3 + (1 : Int32)) fun v1_ =>
  k14 x0 x1 x2 v1_ h
def b_X1_mayLie_37 (f : Nat) (k14 : Nat → Int32 → Int32 → Int32 → Hp → Option (Int32 × Hp)) (x0 : Nat) (x1 : Int32) (x2 : Int32) (x3 : Int32) (y0 : Int32) (h : Hp) : Option (Int32 × Hp) :=
  if y0 ≤ (1 : Int32) then
  (if ¬ y0 = (1 : Int32) then
  (b_X1_mayLie_61 f k14 x0 x1 x2 x3 h)
  else
  (lt (x2 &&& (((1 : Int32) <<< (x3 &&& 31)) ^^^ (-1 : Int32))) fun v1_ =>
  b_X1_mayLie_61 f k14 x0 x1 v1_ x3 h))
  else
  (q_bo (0 : Int32) (some ((0 : Int32), h)))
def b_X1_mayLie_14 (f : Nat) (k14 : Nat → Int32 → Int32 → Int32 → Hp → Option (Int32 × Hp)) (x0 : Nat) (x1 : Int32) (x2 : Int32) (x3 : Int32) (h : Hp) : Option (Int32 × Hp) :=
  if (6 : Int32) ≤ x3 then
  (q_on h x0 1 (
  bi (f_X1_quarrels f x0 x1 h) fun v3_ h2_ =>
  bi (f_J6_bitCount_0f7a4 f x2 h2_) fun v5_ h4_ =>
  if v3_ ≤ v5_ then
  (l_X1_mayLie_83 f f x0 x2 (0 : Int32) h4_)
  else
  (q_bo (0 : Int32) (some ((0 : Int32), h4_)))))
  else
  (bi (f_X5_isIn f x1 x3 h) fun v7_ h6_ =>
  if v7_ = 0 then
  (b_X1_mayLie_37 f k14 x0 x1 x2 x3 (0 : Int32) h6_)
  else
  (q_on h6_ x0 1 (
  bi (f_X1_timesOff f x0 x3 h6_) fun v10_ h9_ =>
  b_X1_mayLie_37 f k14 x0 x1 x2 x3 v10_ h9_)))
def l_X1_mayLie_14 (f : Nat)  : Nat → Nat → Int32 → Int32 → Int32 → Hp → Option (Int32 × Hp)
  | 0, _, _, _, _, _ => none
  | n + 1, x0, x1, x2, x3, h => b_X1_mayLie_14 f  (l_X1_mayLie_14 f  n) x0 x1 x2 x3 h
def f_X1_mayLie (f : Nat)  (x0 : Nat) (x1 : Int32) (h : Hp) : Option (Int32 × Hp) :=
  q_on h x0 1 (
  bi (f_X1_arePlacesLeft f x0 x1 h) fun v3_ h2_ =>
  if ¬ v3_ = 0 then
  (l_X1_mayLie_14 f f x0 x1 x1 (0 : Int32) h2_)
  else
  (q_bo (0 : Int32) (some ((0 : Int32), h2_))))
set_option maxRecDepth 20000 in
theorem t_X1_mayLie_125 {X : Cx} (o : Ok X RX1 cX1_mayLie 5 3 65 0 0 (some .boolean)) (f : Nat)  (y0 : Int32) (h : Hp) : Sim X (z_Zi X 0 0) 0 0 125 [] [.int y0] h (b_X1_mayLie_125 f y0 h) := by
  unfold b_X1_mayLie_125
  exact s_zret o dX1_mayLie_125
set_option maxRecDepth 20000 in
theorem t_X1_mayLie_107 {X : Cx} (o : Ok X RX1 cX1_mayLie 5 3 65 0 0 (some .boolean)) (f : Nat) {k83 : Nat → Int32 → Int32 → Hp → Option (Int32 × Hp)} (hk83 : ∀ (x0 : Nat) (x2 : Int32) (x3 : Int32) (h : Hp), Sim X (z_Zi X 0 0) 0 0 83 [(0, rf (xG X) x0), (2, .int x2), (3, .int x3)] [] h (k83 x0 x2 x3 h)) (x0 : Nat) (x2 : Int32) (x3 : Int32) (h : Hp) : Sim X (z_Zi X 0 0) 0 0 107 [(0, rf (xG X) x0), (2, .int x2), (3, .int x3)] [] h (b_X1_mayLie_107 f k83 x0 x2 x3 h) := by
  unfold b_X1_mayLie_107
  refine s_iinc o 2 rfl (v := (1 : Int32)) (by decide) [1, 2, 0] (lv' := fun v1_ => [(0, rf (xG X) x0), (2, .int x2), (3, .int v1_)]) (fun _ => rfl) dX1_mayLie_107 (by decide) (q := 110) rfl (fun v1_ => ?_)
  refine s_goto o (tgt := 83) dX1_mayLie_110 (by decide) ?_
  exact s_sub [0, 1, 2] rfl (hk83 x0 x2 v1_ h)
set_option maxRecDepth 20000 in
theorem t_X1_mayLie_83 {X : Cx} (o : Ok X RX1 cX1_mayLie 5 3 65 0 0 (some .boolean)) (f : Nat) {k83 : Nat → Int32 → Int32 → Hp → Option (Int32 × Hp)} (hk83 : ∀ (x0 : Nat) (x2 : Int32) (x3 : Int32) (h : Hp), Sim X (z_Zi X 0 0) 0 0 83 [(0, rf (xG X) x0), (2, .int x2), (3, .int x3)] [] h (k83 x0 x2 x3 h)) (x0 : Nat) (x2 : Int32) (x3 : Int32) (h : Hp) : Sim X (z_Zi X 0 0) 0 0 83 [(0, rf (xG X) x0), (2, .int x2), (3, .int x3)] [] h (b_X1_mayLie_83 f k83 x0 x2 x3 h) := by
  unfold b_X1_mayLie_83
  refine s_iload_n o 2 rfl dX1_mayLie_83 (q := 84) rfl ?_
  refine s_bipush o dX1_mayLie_84 (v := (6 : Int32)) (by decide) (q := 86) rfl ?_
  refine s_ic_ge o (tgt := 113) dX1_mayLie_86 (by decide) (q := 89) rfl ?_ ?_
  · refine s_aload_n o 0 rfl dX1_mayLie_113 (q := 114) rfl ?_
    refine s_on (fun hk1_ => ?_)
    refine s_bi (fun r0 hr0 => runV o hk1_ cv_X1_148 (c_X1_isFelled (xG X) f x0 h (xl X) r0 hr0) ⟨Nat.le_of_ble_eq_true rfl, Nat.le_of_ble_eq_true rfl⟩ rfl rfl (Nat.le_of_ble_eq_true rfl) dX1_mayLie_114 ⟨Nat.le_of_ble_eq_true rfl, Nat.le_of_ble_eq_true rfl⟩) (q := 117) rfl (cs' := 0) rfl (sl' := 0) rfl (fun v3_ h2_ => ?_)
    refine s_if_ne o (tgt := 124) dX1_mayLie_117 (by decide) (q := 120) rfl ?_ ?_
    · refine s_iconst o dX1_mayLie_124 (v := (0 : Int32)) (by decide) (q := 125) rfl ?_
      exact s_sub [] rfl (t_X1_mayLie_125 o f (0 : Int32) h2_)
    · refine s_iconst o dX1_mayLie_120 (v := (1 : Int32)) (by decide) (q := 121) rfl ?_
      refine s_goto o (tgt := 125) dX1_mayLie_121 (by decide) ?_
      exact s_sub [] rfl (t_X1_mayLie_125 o f (1 : Int32) h2_)
  · refine s_iload_n o 1 rfl dX1_mayLie_89 (q := 90) rfl ?_
    refine s_iload_n o 2 rfl dX1_mayLie_90 (q := 91) rfl ?_
    refine s_bi (fun r0 hr0 => runN o cn_X1_105 (c_X5_isIn (xG X) f x2 x3 h (xl X) r0 hr0) ⟨Nat.le_of_ble_eq_true rfl, Nat.le_of_ble_eq_true rfl⟩ rfl rfl (Nat.le_of_ble_eq_true rfl) dX1_mayLie_91 ⟨Nat.le_of_ble_eq_true rfl, Nat.le_of_ble_eq_true rfl⟩) (q := 94) rfl (cs' := 0) rfl (sl' := 0) rfl (fun v5_ h4_ => ?_)
    refine s_if_eq o (tgt := 107) dX1_mayLie_94 (by decide) (q := 97) rfl ?_ ?_
    · exact s_sub [0, 1, 2] rfl (t_X1_mayLie_107 o f hk83 x0 x2 x3 h4_)
    · refine s_aload_n o 0 rfl dX1_mayLie_97 (q := 98) rfl ?_
      refine s_iload_n o 2 rfl dX1_mayLie_98 (q := 99) rfl ?_
      refine s_on (fun hk6_ => ?_)
      refine s_bi (fun r0 hr0 => runV o hk6_ cv_X1_145 (c_X1_couldBeOff (xG X) f x0 x3 h4_ (xl X) r0 hr0) ⟨Nat.le_of_ble_eq_true rfl, Nat.le_of_ble_eq_true rfl⟩ rfl rfl (Nat.le_of_ble_eq_true rfl) dX1_mayLie_99 ⟨Nat.le_of_ble_eq_true rfl, Nat.le_of_ble_eq_true rfl⟩) (q := 102) rfl (cs' := 0) rfl (sl' := 0) rfl (fun v8_ h7_ => ?_)
      refine s_if_ne o (tgt := 107) dX1_mayLie_102 (by decide) (q := 105) rfl ?_ ?_
      · exact s_sub [0, 1, 2] rfl (t_X1_mayLie_107 o f hk83 x0 x2 x3 h7_)
      · refine s_iconst o dX1_mayLie_105 (v := (0 : Int32)) (by decide) (q := 106) rfl ?_
        exact s_zret o dX1_mayLie_106
theorem tl_X1_mayLie_83 {X : Cx} (o : Ok X RX1 cX1_mayLie 5 3 65 0 0 (some .boolean)) (f : Nat)  : ∀ (n : Nat) (x0 : Nat) (x2 : Int32) (x3 : Int32) (h : Hp), Sim X (z_Zi X 0 0) 0 0 83 [(0, rf (xG X) x0), (2, .int x2), (3, .int x3)] [] h (l_X1_mayLie_83 f n x0 x2 x3 h) := by
  intro n
  induction n with
  | zero => intro x0 x2 x3 h; exact s_none
  | succ n ih => intro x0 x2 x3 h; exact t_X1_mayLie_83 o f  ih x0 x2 x3 h
set_option maxRecDepth 20000 in
theorem t_X1_mayLie_61 {X : Cx} (o : Ok X RX1 cX1_mayLie 5 3 65 0 0 (some .boolean)) (f : Nat) {k14 : Nat → Int32 → Int32 → Int32 → Hp → Option (Int32 × Hp)} (hk14 : ∀ (x0 : Nat) (x1 : Int32) (x2 : Int32) (x3 : Int32) (h : Hp), Sim X (z_Zi X 0 0) 0 0 14 [(0, rf (xG X) x0), (1, .int x1), (2, .int x2), (3, .int x3)] [] h (k14 x0 x1 x2 x3 h)) (x0 : Nat) (x1 : Int32) (x2 : Int32) (x3 : Int32) (h : Hp) : Sim X (z_Zi X 0 0) 0 0 61 [(0, rf (xG X) x0), (1, .int x1), (2, .int x2), (3, .int x3)] [] h (b_X1_mayLie_61 f k14 x0 x1 x2 x3 h) := by
  unfold b_X1_mayLie_61
  refine s_iinc o 3 rfl (v := (1 : Int32)) (by decide) [1, 2, 3, 0] (lv' := fun v1_ => [(0, rf (xG X) x0), (1, .int x1), (2, .int x2), (3, .int v1_)]) (fun _ => rfl) dX1_mayLie_61 (by decide) (q := 64) rfl (fun v1_ => ?_)
  refine s_goto o (tgt := 14) dX1_mayLie_64 (by decide) ?_
  exact s_sub [0, 1, 2, 3] rfl (hk14 x0 x1 x2 v1_ h)
set_option maxRecDepth 20000 in
theorem t_X1_mayLie_37 {X : Cx} (o : Ok X RX1 cX1_mayLie 5 3 65 0 0 (some .boolean)) (f : Nat) {k14 : Nat → Int32 → Int32 → Int32 → Hp → Option (Int32 × Hp)} (hk14 : ∀ (x0 : Nat) (x1 : Int32) (x2 : Int32) (x3 : Int32) (h : Hp), Sim X (z_Zi X 0 0) 0 0 14 [(0, rf (xG X) x0), (1, .int x1), (2, .int x2), (3, .int x3)] [] h (k14 x0 x1 x2 x3 h)) (x0 : Nat) (x1 : Int32) (x2 : Int32) (x3 : Int32) (y0 : Int32) (h : Hp) : Sim X (z_Zi X 0 0) 0 0 37 [(0, rf (xG X) x0), (1, .int x1), (2, .int x2), (3, .int x3)] [.int y0] h (b_X1_mayLie_37 f k14 x0 x1 x2 x3 y0 h) := by
  unfold b_X1_mayLie_37
  refine s_istore o [1, 2, 3, 4, 0] (lv' := [(0, rf (xG X) x0), (1, .int x1), (2, .int x2), (3, .int x3), (4, .int y0)]) rfl dX1_mayLie_37 (by decide) (q := 39) rfl ?_
  refine s_iload o 4 rfl dX1_mayLie_39 (q := 41) rfl ?_
  refine s_iconst o dX1_mayLie_41 (v := (1 : Int32)) (by decide) (q := 42) rfl ?_
  refine s_ic_le o (tgt := 47) dX1_mayLie_42 (by decide) (q := 45) rfl ?_ ?_
  · refine s_iload o 4 rfl dX1_mayLie_47 (q := 49) rfl ?_
    refine s_iconst o dX1_mayLie_49 (v := (1 : Int32)) (by decide) (q := 50) rfl ?_
    refine s_ic_ne o (tgt := 61) dX1_mayLie_50 (by decide) (q := 53) rfl ?_ ?_
    · exact s_sub [0, 1, 2, 3] rfl (t_X1_mayLie_61 o f hk14 x0 x1 x2 x3 h)
    · refine s_iload_n o 2 rfl dX1_mayLie_53 (q := 54) rfl ?_
      refine s_iconst o dX1_mayLie_54 (v := (1 : Int32)) (by decide) (q := 55) rfl ?_
      refine s_iload_n o 3 rfl dX1_mayLie_55 (q := 56) rfl ?_
      refine s_ishl o dX1_mayLie_56 (q := 57) rfl ?_
      refine s_iconst o dX1_mayLie_57 (v := (-1 : Int32)) (by decide) (q := 58) rfl ?_
      refine s_ixor o dX1_mayLie_58 (q := 59) rfl ?_
      refine s_iand o dX1_mayLie_59 (q := 60) rfl ?_
      refine s_let (fun v1_ => ?_)
      refine s_istore_n o [1, 2, 0, 3, 4] (lv' := [(0, rf (xG X) x0), (1, .int x1), (2, .int v1_), (3, .int x3), (4, .int y0)]) rfl dX1_mayLie_60 (by decide) (q := 61) rfl ?_
      exact s_sub [0, 1, 2, 3] rfl (t_X1_mayLie_61 o f hk14 x0 x1 v1_ x3 h)
  · refine s_iconst o dX1_mayLie_45 (v := (0 : Int32)) (by decide) (q := 46) rfl ?_
    exact s_zret o dX1_mayLie_46
set_option maxRecDepth 20000 in
theorem t_X1_mayLie_14 {X : Cx} (o : Ok X RX1 cX1_mayLie 5 3 65 0 0 (some .boolean)) (f : Nat) {k14 : Nat → Int32 → Int32 → Int32 → Hp → Option (Int32 × Hp)} (hk14 : ∀ (x0 : Nat) (x1 : Int32) (x2 : Int32) (x3 : Int32) (h : Hp), Sim X (z_Zi X 0 0) 0 0 14 [(0, rf (xG X) x0), (1, .int x1), (2, .int x2), (3, .int x3)] [] h (k14 x0 x1 x2 x3 h)) (x0 : Nat) (x1 : Int32) (x2 : Int32) (x3 : Int32) (h : Hp) : Sim X (z_Zi X 0 0) 0 0 14 [(0, rf (xG X) x0), (1, .int x1), (2, .int x2), (3, .int x3)] [] h (b_X1_mayLie_14 f k14 x0 x1 x2 x3 h) := by
  unfold b_X1_mayLie_14
  refine s_iload_n o 3 rfl dX1_mayLie_14 (q := 15) rfl ?_
  refine s_bipush o dX1_mayLie_15 (v := (6 : Int32)) (by decide) (q := 17) rfl ?_
  refine s_ic_ge o (tgt := 67) dX1_mayLie_17 (by decide) (q := 20) rfl ?_ ?_
  · refine s_aload_n o 0 rfl dX1_mayLie_67 (q := 68) rfl ?_
    refine s_iload_n o 1 rfl dX1_mayLie_68 (q := 69) rfl ?_
    refine s_on (fun hk1_ => ?_)
    refine s_bi (fun r0 hr0 => runV o hk1_ cv_X1_142 (c_X1_quarrels (xG X) f x0 x1 h (xl X) r0 hr0) ⟨Nat.le_of_ble_eq_true rfl, Nat.le_of_ble_eq_true rfl⟩ rfl rfl (Nat.le_of_ble_eq_true rfl) dX1_mayLie_69 ⟨Nat.le_of_ble_eq_true rfl, Nat.le_of_ble_eq_true rfl⟩) (q := 72) rfl (cs' := 0) rfl (sl' := 0) rfl (fun v3_ h2_ => ?_)
    refine s_iload_n o 2 rfl dX1_mayLie_72 (q := 73) rfl ?_
    refine s_bi (fun r0 hr0 => runS o cs_X1_119 (c_J6_bitCount_0f7a4 (xG X) f x2 h2_ (xl X) r0 hr0) ⟨Nat.le_of_ble_eq_true rfl, Nat.le_of_ble_eq_true rfl⟩ rfl rfl (Nat.le_of_ble_eq_true rfl) dX1_mayLie_73 ⟨Nat.le_of_ble_eq_true rfl, Nat.le_of_ble_eq_true rfl⟩) (q := 76) rfl (cs' := 0) rfl (sl' := 0) rfl (fun v5_ h4_ => ?_)
    refine s_ic_le o (tgt := 81) dX1_mayLie_76 (by decide) (q := 79) rfl ?_ ?_
    · refine s_iconst o dX1_mayLie_81 (v := (0 : Int32)) (by decide) (q := 82) rfl ?_
      refine s_istore_n o [1, 2, 3, 0] (lv' := [(0, rf (xG X) x0), (1, .int x1), (2, .int x2), (3, .int (0 : Int32))]) rfl dX1_mayLie_82 (by decide) (q := 83) rfl ?_
      exact s_sub [0, 2, 3] rfl (tl_X1_mayLie_83 o f f x0 x2 (0 : Int32) h4_)
    · refine s_iconst o dX1_mayLie_79 (v := (0 : Int32)) (by decide) (q := 80) rfl ?_
      exact s_zret o dX1_mayLie_80
  · refine s_iload_n o 1 rfl dX1_mayLie_20 (q := 21) rfl ?_
    refine s_iload_n o 3 rfl dX1_mayLie_21 (q := 22) rfl ?_
    refine s_bi (fun r0 hr0 => runN o cn_X1_105 (c_X5_isIn (xG X) f x1 x3 h (xl X) r0 hr0) ⟨Nat.le_of_ble_eq_true rfl, Nat.le_of_ble_eq_true rfl⟩ rfl rfl (Nat.le_of_ble_eq_true rfl) dX1_mayLie_22 ⟨Nat.le_of_ble_eq_true rfl, Nat.le_of_ble_eq_true rfl⟩) (q := 25) rfl (cs' := 0) rfl (sl' := 0) rfl (fun v7_ h6_ => ?_)
    refine s_if_eq o (tgt := 36) dX1_mayLie_25 (by decide) (q := 28) rfl ?_ ?_
    · refine s_iconst o dX1_mayLie_36 (v := (0 : Int32)) (by decide) (q := 37) rfl ?_
      exact s_sub [0, 1, 2, 3] rfl (t_X1_mayLie_37 o f hk14 x0 x1 x2 x3 (0 : Int32) h6_)
    · refine s_aload_n o 0 rfl dX1_mayLie_28 (q := 29) rfl ?_
      refine s_iload_n o 3 rfl dX1_mayLie_29 (q := 30) rfl ?_
      refine s_on (fun hk8_ => ?_)
      refine s_bi (fun r0 hr0 => runV o hk8_ cv_X1_139 (c_X1_timesOff (xG X) f x0 x3 h6_ (xl X) r0 hr0) ⟨Nat.le_of_ble_eq_true rfl, Nat.le_of_ble_eq_true rfl⟩ rfl rfl (Nat.le_of_ble_eq_true rfl) dX1_mayLie_30 ⟨Nat.le_of_ble_eq_true rfl, Nat.le_of_ble_eq_true rfl⟩) (q := 33) rfl (cs' := 0) rfl (sl' := 0) rfl (fun v10_ h9_ => ?_)
      refine s_goto o (tgt := 37) dX1_mayLie_33 (by decide) ?_
      exact s_sub [0, 1, 2, 3] rfl (t_X1_mayLie_37 o f hk14 x0 x1 x2 x3 v10_ h9_)
theorem tl_X1_mayLie_14 {X : Cx} (o : Ok X RX1 cX1_mayLie 5 3 65 0 0 (some .boolean)) (f : Nat)  : ∀ (n : Nat) (x0 : Nat) (x1 : Int32) (x2 : Int32) (x3 : Int32) (h : Hp), Sim X (z_Zi X 0 0) 0 0 14 [(0, rf (xG X) x0), (1, .int x1), (2, .int x2), (3, .int x3)] [] h (l_X1_mayLie_14 f n x0 x1 x2 x3 h) := by
  intro n
  induction n with
  | zero => intro x0 x1 x2 x3 h; exact s_none
  | succ n ih => intro x0 x1 x2 x3 h; exact t_X1_mayLie_14 o f  ih x0 x1 x2 x3 h
set_option maxRecDepth 20000 in
theorem t_X1_mayLie_0 {X : Cx} (o : Ok X RX1 cX1_mayLie 5 3 65 0 0 (some .boolean)) (f : Nat)  (x0 : Nat) (x1 : Int32) (h : Hp) : Sim X (z_Zi X 0 0) 0 0 0 [(0, rf (xG X) x0), (1, .int x1)] [] h (f_X1_mayLie f x0 x1 h) := by
  unfold f_X1_mayLie
  refine s_aload_n o 0 rfl dX1_mayLie_0 (q := 1) rfl ?_
  refine s_iload_n o 1 rfl dX1_mayLie_1 (q := 2) rfl ?_
  refine s_on (fun hk1_ => ?_)
  refine s_bi (fun r0 hr0 => runV o hk1_ cv_X1_136 (c_X1_arePlacesLeft (xG X) f x0 x1 h (xl X) r0 hr0) ⟨Nat.le_of_ble_eq_true rfl, Nat.le_of_ble_eq_true rfl⟩ rfl rfl (Nat.le_of_ble_eq_true rfl) dX1_mayLie_2 ⟨Nat.le_of_ble_eq_true rfl, Nat.le_of_ble_eq_true rfl⟩) (q := 5) rfl (cs' := 0) rfl (sl' := 0) rfl (fun v3_ h2_ => ?_)
  refine s_if_ne o (tgt := 10) dX1_mayLie_5 (by decide) (q := 8) rfl ?_ ?_
  · refine s_iload_n o 1 rfl dX1_mayLie_10 (q := 11) rfl ?_
    refine s_istore_n o [1, 2, 0] (lv' := [(0, rf (xG X) x0), (1, .int x1), (2, .int x1)]) rfl dX1_mayLie_11 (by decide) (q := 12) rfl ?_
    refine s_iconst o dX1_mayLie_12 (v := (0 : Int32)) (by decide) (q := 13) rfl ?_
    refine s_istore_n o [1, 2, 3, 0] (lv' := [(0, rf (xG X) x0), (1, .int x1), (2, .int x1), (3, .int (0 : Int32))]) rfl dX1_mayLie_13 (by decide) (q := 14) rfl ?_
    exact s_sub [0, 1, 2, 3] rfl (tl_X1_mayLie_14 o f f x0 x1 x1 (0 : Int32) h2_)
  · refine s_iconst o dX1_mayLie_8 (v := (0 : Int32)) (by decide) (q := 9) rfl ?_
    exact s_zret o dX1_mayLie_9
theorem c_X1_mayLie (G : Gx) (f : Nat) (x0 : Nat) (x1 : Int32) (h : Hp) : z_M z_qi G yX1_mayLie cX1_mayLie 5 (some .boolean) 3 65 0 0 [rf G x0, .int x1] h (f_X1_mayLie f x0 x1 h) :=
  z_met (by decide +kernel) (Nat.le_of_ble_eq_true rfl) (fun X hG hn o hnm => by
    subst hG
    show Sim X (z_Zi X 0 0) 0 0 0 [(0, rf (xG X) x0), (1, .int x1)] [] h _
    exact s_sub [0, 1] rfl (t_X1_mayLie_0 o f x0 x1 h))
/-! SixMaps$Judge.least([II)I -/
def b_X1_least_18 (f : Nat)  (y0 : Int32) (h : Hp) : Option (Int32 × Hp) :=
  some (y0, h)
def f_X1_least (f : Nat)  (x0 : Nat) (x1 : Nat) (x2 : Int32) (h : Hp) : Option (Int32 × Hp) :=
  (q_gi h x0 1 13).bind fun v1_ =>
  bi (f_X5_isIn f v1_ x2 h) fun v3_ h2_ =>
  if v3_ = 0 then
  (b_X1_least_18 f (0 : Int32) h2_)
  else
  ((q_ai h2_ x1 9 x2).bind fun v4_ =>
  b_X1_least_18 f v4_ h2_)
set_option maxRecDepth 20000 in
theorem t_X1_least_18 {X : Cx} (o : Ok X RX1 cX1_least 3 1 21 0 0 (some .int)) (f : Nat)  (y0 : Int32) (h : Hp) : Sim X (z_Zi X 0 0) 0 0 18 [] [.int y0] h (b_X1_least_18 f y0 h) := by
  unfold b_X1_least_18
  exact s_iret o dX1_least_18
set_option maxRecDepth 20000 in
theorem t_X1_least_0 {X : Cx} (o : Ok X RX1 cX1_least 3 1 21 0 0 (some .int)) (f : Nat)  (x0 : Nat) (x1 : Nat) (x2 : Int32) (h : Hp) : Sim X (z_Zi X 0 0) 0 0 0 [(0, rf (xG X) x0), (1, rf (xG X) x1), (2, .int x2)] [] h (f_X1_least f x0 x1 x2 h) := by
  unfold f_X1_least
  refine s_aload_n o 0 rfl dX1_least_0 (q := 1) rfl ?_
  refine s_gi o kf_X1_60 dX1_least_1 (q := 4) rfl (fun v1_ => ?_)
  refine s_iload_n o 2 rfl dX1_least_4 (q := 5) rfl ?_
  refine s_bi (fun r0 hr0 => runN o cn_X1_105 (c_X5_isIn (xG X) f v1_ x2 h (xl X) r0 hr0) ⟨Nat.le_of_ble_eq_true rfl, Nat.le_of_ble_eq_true rfl⟩ rfl rfl (Nat.le_of_ble_eq_true rfl) dX1_least_5 ⟨Nat.le_of_ble_eq_true rfl, Nat.le_of_ble_eq_true rfl⟩) (q := 8) rfl (cs' := 0) rfl (sl' := 0) rfl (fun v3_ h2_ => ?_)
  refine s_if_eq o (tgt := 17) dX1_least_8 (by decide) (q := 11) rfl ?_ ?_
  · refine s_iconst o dX1_least_17 (v := (0 : Int32)) (by decide) (q := 18) rfl ?_
    exact s_sub [] rfl (t_X1_least_18 o f (0 : Int32) h2_)
  · refine s_aload_n o 1 rfl dX1_least_11 (q := 12) rfl ?_
    refine s_iload_n o 2 rfl dX1_least_12 (q := 13) rfl ?_
    refine s_iald o dX1_least_13 (q := 14) rfl (fun v4_ => ?_)
    refine s_goto o (tgt := 18) dX1_least_14 (by decide) ?_
    exact s_sub [] rfl (t_X1_least_18 o f v4_ h2_)
theorem c_X1_least (G : Gx) (f : Nat) (x0 : Nat) (x1 : Nat) (x2 : Int32) (h : Hp) : z_M z_qi G yX1_least cX1_least 3 (some .int) 1 21 0 0 [rf G x0, rf G x1, .int x2] h (f_X1_least f x0 x1 x2 h) :=
  z_met (by decide +kernel) (Nat.le_of_ble_eq_true rfl) (fun X hG hn o hnm => by
    subst hG
    show Sim X (z_Zi X 0 0) 0 0 0 [(0, rf (xG X) x0), (1, rf (xG X) x1), (2, .int x2)] [] h _
    exact s_sub [0, 1, 2] rfl (t_X1_least_0 o f x0 x1 x2 h))
/-! SixMaps$Judge.most([II)I -/
def b_X1_most_19 (f : Nat)  (y0 : Int32) (h : Hp) : Option (Int32 × Hp) :=
  some (y0, h)
def f_X1_most (f : Nat)  (x0 : Nat) (x1 : Nat) (x2 : Int32) (h : Hp) : Option (Int32 × Hp) :=
  (q_gi h x0 1 13).bind fun v1_ =>
  bi (f_X5_isIn f v1_ x2 h) fun v3_ h2_ =>
  if v3_ = 0 then
  (b_X1_most_19 f (99 : Int32) h2_)
  else
  ((q_ai h2_ x1 9 x2).bind fun v4_ =>
  b_X1_most_19 f v4_ h2_)
set_option maxRecDepth 20000 in
theorem t_X1_most_19 {X : Cx} (o : Ok X RX1 cX1_most 3 1 21 0 0 (some .int)) (f : Nat)  (y0 : Int32) (h : Hp) : Sim X (z_Zi X 0 0) 0 0 19 [] [.int y0] h (b_X1_most_19 f y0 h) := by
  unfold b_X1_most_19
  exact s_iret o dX1_most_19
set_option maxRecDepth 20000 in
theorem t_X1_most_0 {X : Cx} (o : Ok X RX1 cX1_most 3 1 21 0 0 (some .int)) (f : Nat)  (x0 : Nat) (x1 : Nat) (x2 : Int32) (h : Hp) : Sim X (z_Zi X 0 0) 0 0 0 [(0, rf (xG X) x0), (1, rf (xG X) x1), (2, .int x2)] [] h (f_X1_most f x0 x1 x2 h) := by
  unfold f_X1_most
  refine s_aload_n o 0 rfl dX1_most_0 (q := 1) rfl ?_
  refine s_gi o kf_X1_60 dX1_most_1 (q := 4) rfl (fun v1_ => ?_)
  refine s_iload_n o 2 rfl dX1_most_4 (q := 5) rfl ?_
  refine s_bi (fun r0 hr0 => runN o cn_X1_105 (c_X5_isIn (xG X) f v1_ x2 h (xl X) r0 hr0) ⟨Nat.le_of_ble_eq_true rfl, Nat.le_of_ble_eq_true rfl⟩ rfl rfl (Nat.le_of_ble_eq_true rfl) dX1_most_5 ⟨Nat.le_of_ble_eq_true rfl, Nat.le_of_ble_eq_true rfl⟩) (q := 8) rfl (cs' := 0) rfl (sl' := 0) rfl (fun v3_ h2_ => ?_)
  refine s_if_eq o (tgt := 17) dX1_most_8 (by decide) (q := 11) rfl ?_ ?_
  · refine s_bipush o dX1_most_17 (v := (99 : Int32)) (by decide) (q := 19) rfl ?_
    exact s_sub [] rfl (t_X1_most_19 o f (99 : Int32) h2_)
  · refine s_aload_n o 1 rfl dX1_most_11 (q := 12) rfl ?_
    refine s_iload_n o 2 rfl dX1_most_12 (q := 13) rfl ?_
    refine s_iald o dX1_most_13 (q := 14) rfl (fun v4_ => ?_)
    refine s_goto o (tgt := 19) dX1_most_14 (by decide) ?_
    exact s_sub [] rfl (t_X1_most_19 o f v4_ h2_)
theorem c_X1_most (G : Gx) (f : Nat) (x0 : Nat) (x1 : Nat) (x2 : Int32) (h : Hp) : z_M z_qi G yX1_most cX1_most 3 (some .int) 1 21 0 0 [rf G x0, rf G x1, .int x2] h (f_X1_most f x0 x1 x2 h) :=
  z_met (by decide +kernel) (Nat.le_of_ble_eq_true rfl) (fun X hG hn o hnm => by
    subst hG
    show Sim X (z_Zi X 0 0) 0 0 0 [(0, rf (xG X) x0), (1, rf (xG X) x1), (2, .int x2)] [] h _
    exact s_sub [0, 1, 2] rfl (t_X1_most_0 o f x0 x1 x2 h))
/-! SixMaps$Judge.noteArea(I)V -/
def f_X1_noteArea (f : Nat)  (x0 : Nat) (x1 : Int32) (h : Hp) : Option (Hp) :=
  (q_gr h x0 1 9).bind fun a1_ =>
  (q_gi h a1_ 0 8).bind fun v2_ =>
  (q_gr h x0 1 9).bind fun a3_ =>
  (q_gi h a3_ 0 9).bind fun v4_ =>
  (q_gr h x0 1 9).bind fun a5_ =>
  (q_gi h a5_ 0 10).bind fun v6_ =>
  (q_gr h x0 1 8).bind fun a7_ =>
  (q_gr h x0 1 3).bind fun a8_ =>
  q_on h x0 1 (
  bi (f_X1_least f x0 a8_ v2_ h) fun v11_ h10_ =>
  (q_gr h10_ x0 1 3).bind fun a12_ =>
  q_on h10_ x0 1 (
  bi (f_X1_least f x0 a12_ v4_ h10_) fun v15_ h14_ =>
  (q_gr h14_ x0 1 4).bind fun a16_ =>
  q_on h14_ x0 1 (
  bi (f_X1_most f x0 a16_ v6_ h14_) fun v19_ h18_ =>
  (q_as h18_ a7_ 9 x1 ((v11_ + v15_) - v19_)).bind fun h20_ =>
  (q_gr h20_ x0 1 8).bind fun a21_ =>
  (q_gr h20_ x0 1 4).bind fun a22_ =>
  q_on h20_ x0 1 (
  bi (f_X1_most f x0 a22_ v2_ h20_) fun v25_ h24_ =>
  (q_gr h24_ x0 1 4).bind fun a26_ =>
  q_on h24_ x0 1 (
  bi (f_X1_most f x0 a26_ v4_ h24_) fun v29_ h28_ =>
  (q_gr h28_ x0 1 3).bind fun a30_ =>
  q_on h28_ x0 1 (
  bi (f_X1_least f x0 a30_ v6_ h28_) fun v33_ h32_ =>
  (q_as h32_ a21_ 9 (x1 + (1 : Int32)) ((v25_ + v29_) - v33_)).bind fun h34_ =>
  (q_gr h34_ x0 1 8).bind fun a35_ =>
  (q_gr h34_ x0 1 5).bind fun a36_ =>
  q_on h34_ x0 1 (
  bi (f_X1_least f x0 a36_ v2_ h34_) fun v39_ h38_ =>
  (q_gr h38_ x0 1 5).bind fun a40_ =>
  q_on h38_ x0 1 (
  bi (f_X1_least f x0 a40_ v4_ h38_) fun v43_ h42_ =>
  (q_gr h42_ x0 1 6).bind fun a44_ =>
  q_on h42_ x0 1 (
  bi (f_X1_most f x0 a44_ v6_ h42_) fun v47_ h46_ =>
  (q_as h46_ a35_ 9 (x1 + (2 : Int32)) ((v39_ + v43_) - v47_)).bind fun h48_ =>
  (q_gr h48_ x0 1 8).bind fun a49_ =>
  (q_gr h48_ x0 1 6).bind fun a50_ =>
  q_on h48_ x0 1 (
  bi (f_X1_most f x0 a50_ v2_ h48_) fun v53_ h52_ =>
  (q_gr h52_ x0 1 6).bind fun a54_ =>
  q_on h52_ x0 1 (
  bi (f_X1_most f x0 a54_ v4_ h52_) fun v57_ h56_ =>
  (q_gr h56_ x0 1 5).bind fun a58_ =>
  q_on h56_ x0 1 (
  bi (f_X1_least f x0 a58_ v6_ h56_) fun v61_ h60_ =>
  (q_as h60_ a49_ 9 (x1 + (3 : Int32)) ((v53_ + v57_) - v61_)).bind fun h62_ =>
  some h62_))))))))))))
set_option maxRecDepth 20000 in
theorem t_X1_noteArea_0 {X : Cx} (o : Ok X RX1 cX1_noteArea 5 2 43 0 0 none) (f : Nat)  (x0 : Nat) (x1 : Int32) (h : Hp) : Sim X (z_Zv X 0 0) 0 0 0 [(0, rf (xG X) x0), (1, .int x1)] [] h (f_X1_noteArea f x0 x1 h) := by
  unfold f_X1_noteArea
  refine s_aload_n o 0 rfl dX1_noteArea_0 (q := 1) rfl ?_
  refine s_gr o kf_X1_42 dX1_noteArea_1 (q := 4) rfl (fun a1_ => ?_)
  refine s_gi o kf_X1_178 dX1_noteArea_4 (q := 7) rfl (fun v2_ => ?_)
  refine s_istore_n o [1, 2, 0] (lv' := [(0, rf (xG X) x0), (1, .int x1), (2, .int v2_)]) rfl dX1_noteArea_7 (by decide) (q := 8) rfl ?_
  refine s_aload_n o 0 rfl dX1_noteArea_8 (q := 9) rfl ?_
  refine s_gr o kf_X1_42 dX1_noteArea_9 (q := 12) rfl (fun a3_ => ?_)
  refine s_gi o kf_X1_184 dX1_noteArea_12 (q := 15) rfl (fun v4_ => ?_)
  refine s_istore_n o [1, 2, 3, 0] (lv' := [(0, rf (xG X) x0), (1, .int x1), (2, .int v2_), (3, .int v4_)]) rfl dX1_noteArea_15 (by decide) (q := 16) rfl ?_
  refine s_aload_n o 0 rfl dX1_noteArea_16 (q := 17) rfl ?_
  refine s_gr o kf_X1_42 dX1_noteArea_17 (q := 20) rfl (fun a5_ => ?_)
  refine s_gi o kf_X1_187 dX1_noteArea_20 (q := 23) rfl (fun v6_ => ?_)
  refine s_istore o [1, 2, 3, 4, 0] (lv' := [(0, rf (xG X) x0), (1, .int x1), (2, .int v2_), (3, .int v4_), (4, .int v6_)]) rfl dX1_noteArea_23 (by decide) (q := 25) rfl ?_
  refine s_aload_n o 0 rfl dX1_noteArea_25 (q := 26) rfl ?_
  refine s_gr o kf_X1_36 dX1_noteArea_26 (q := 29) rfl (fun a7_ => ?_)
  refine s_iload_n o 1 rfl dX1_noteArea_29 (q := 30) rfl ?_
  refine s_aload_n o 0 rfl dX1_noteArea_30 (q := 31) rfl ?_
  refine s_aload_n o 0 rfl dX1_noteArea_31 (q := 32) rfl ?_
  refine s_gr o kf_X1_21 dX1_noteArea_32 (q := 35) rfl (fun a8_ => ?_)
  refine s_iload_n o 2 rfl dX1_noteArea_35 (q := 36) rfl ?_
  refine s_on (fun hk9_ => ?_)
  refine s_bi (fun r0 hr0 => runV o hk9_ cv_X1_196 (c_X1_least (xG X) f x0 a8_ v2_ h (xl X) r0 hr0) ⟨Nat.le_of_ble_eq_true rfl, Nat.le_of_ble_eq_true rfl⟩ rfl rfl (Nat.le_of_ble_eq_true rfl) dX1_noteArea_36 ⟨Nat.le_of_ble_eq_true rfl, Nat.le_of_ble_eq_true rfl⟩) (q := 39) rfl (cs' := 0) rfl (sl' := 0) rfl (fun v11_ h10_ => ?_)
  refine s_aload_n o 0 rfl dX1_noteArea_39 (q := 40) rfl ?_
  refine s_aload_n o 0 rfl dX1_noteArea_40 (q := 41) rfl ?_
  refine s_gr o kf_X1_21 dX1_noteArea_41 (q := 44) rfl (fun a12_ => ?_)
  refine s_iload_n o 3 rfl dX1_noteArea_44 (q := 45) rfl ?_
  refine s_on (fun hk13_ => ?_)
  refine s_bi (fun r0 hr0 => runV o hk13_ cv_X1_196 (c_X1_least (xG X) f x0 a12_ v4_ h10_ (xl X) r0 hr0) ⟨Nat.le_of_ble_eq_true rfl, Nat.le_of_ble_eq_true rfl⟩ rfl rfl (Nat.le_of_ble_eq_true rfl) dX1_noteArea_45 ⟨Nat.le_of_ble_eq_true rfl, Nat.le_of_ble_eq_true rfl⟩) (q := 48) rfl (cs' := 0) rfl (sl' := 0) rfl (fun v15_ h14_ => ?_)
  refine s_iadd o dX1_noteArea_48 (q := 49) rfl ?_
  refine s_aload_n o 0 rfl dX1_noteArea_49 (q := 50) rfl ?_
  refine s_aload_n o 0 rfl dX1_noteArea_50 (q := 51) rfl ?_
  refine s_gr o kf_X1_24 dX1_noteArea_51 (q := 54) rfl (fun a16_ => ?_)
  refine s_iload o 4 rfl dX1_noteArea_54 (q := 56) rfl ?_
  refine s_on (fun hk17_ => ?_)
  refine s_bi (fun r0 hr0 => runV o hk17_ cv_X1_200 (c_X1_most (xG X) f x0 a16_ v6_ h14_ (xl X) r0 hr0) ⟨Nat.le_of_ble_eq_true rfl, Nat.le_of_ble_eq_true rfl⟩ rfl rfl (Nat.le_of_ble_eq_true rfl) dX1_noteArea_56 ⟨Nat.le_of_ble_eq_true rfl, Nat.le_of_ble_eq_true rfl⟩) (q := 59) rfl (cs' := 0) rfl (sl' := 0) rfl (fun v19_ h18_ => ?_)
  refine s_isub o dX1_noteArea_59 (q := 60) rfl ?_
  refine s_iast o dX1_noteArea_60 (q := 61) rfl (fun h20_ => ?_)
  refine s_aload_n o 0 rfl dX1_noteArea_61 (q := 62) rfl ?_
  refine s_gr o kf_X1_36 dX1_noteArea_62 (q := 65) rfl (fun a21_ => ?_)
  refine s_iload_n o 1 rfl dX1_noteArea_65 (q := 66) rfl ?_
  refine s_iconst o dX1_noteArea_66 (v := (1 : Int32)) (by decide) (q := 67) rfl ?_
  refine s_iadd o dX1_noteArea_67 (q := 68) rfl ?_
  refine s_aload_n o 0 rfl dX1_noteArea_68 (q := 69) rfl ?_
  refine s_aload_n o 0 rfl dX1_noteArea_69 (q := 70) rfl ?_
  refine s_gr o kf_X1_24 dX1_noteArea_70 (q := 73) rfl (fun a22_ => ?_)
  refine s_iload_n o 2 rfl dX1_noteArea_73 (q := 74) rfl ?_
  refine s_on (fun hk23_ => ?_)
  refine s_bi (fun r0 hr0 => runV o hk23_ cv_X1_200 (c_X1_most (xG X) f x0 a22_ v2_ h20_ (xl X) r0 hr0) ⟨Nat.le_of_ble_eq_true rfl, Nat.le_of_ble_eq_true rfl⟩ rfl rfl (Nat.le_of_ble_eq_true rfl) dX1_noteArea_74 ⟨Nat.le_of_ble_eq_true rfl, Nat.le_of_ble_eq_true rfl⟩) (q := 77) rfl (cs' := 0) rfl (sl' := 0) rfl (fun v25_ h24_ => ?_)
  refine s_aload_n o 0 rfl dX1_noteArea_77 (q := 78) rfl ?_
  refine s_aload_n o 0 rfl dX1_noteArea_78 (q := 79) rfl ?_
  refine s_gr o kf_X1_24 dX1_noteArea_79 (q := 82) rfl (fun a26_ => ?_)
  refine s_iload_n o 3 rfl dX1_noteArea_82 (q := 83) rfl ?_
  refine s_on (fun hk27_ => ?_)
  refine s_bi (fun r0 hr0 => runV o hk27_ cv_X1_200 (c_X1_most (xG X) f x0 a26_ v4_ h24_ (xl X) r0 hr0) ⟨Nat.le_of_ble_eq_true rfl, Nat.le_of_ble_eq_true rfl⟩ rfl rfl (Nat.le_of_ble_eq_true rfl) dX1_noteArea_83 ⟨Nat.le_of_ble_eq_true rfl, Nat.le_of_ble_eq_true rfl⟩) (q := 86) rfl (cs' := 0) rfl (sl' := 0) rfl (fun v29_ h28_ => ?_)
  refine s_iadd o dX1_noteArea_86 (q := 87) rfl ?_
  refine s_aload_n o 0 rfl dX1_noteArea_87 (q := 88) rfl ?_
  refine s_aload_n o 0 rfl dX1_noteArea_88 (q := 89) rfl ?_
  refine s_gr o kf_X1_21 dX1_noteArea_89 (q := 92) rfl (fun a30_ => ?_)
  refine s_iload o 4 rfl dX1_noteArea_92 (q := 94) rfl ?_
  refine s_on (fun hk31_ => ?_)
  refine s_bi (fun r0 hr0 => runV o hk31_ cv_X1_196 (c_X1_least (xG X) f x0 a30_ v6_ h28_ (xl X) r0 hr0) ⟨Nat.le_of_ble_eq_true rfl, Nat.le_of_ble_eq_true rfl⟩ rfl rfl (Nat.le_of_ble_eq_true rfl) dX1_noteArea_94 ⟨Nat.le_of_ble_eq_true rfl, Nat.le_of_ble_eq_true rfl⟩) (q := 97) rfl (cs' := 0) rfl (sl' := 0) rfl (fun v33_ h32_ => ?_)
  refine s_isub o dX1_noteArea_97 (q := 98) rfl ?_
  refine s_iast o dX1_noteArea_98 (q := 99) rfl (fun h34_ => ?_)
  refine s_aload_n o 0 rfl dX1_noteArea_99 (q := 100) rfl ?_
  refine s_gr o kf_X1_36 dX1_noteArea_100 (q := 103) rfl (fun a35_ => ?_)
  refine s_iload_n o 1 rfl dX1_noteArea_103 (q := 104) rfl ?_
  refine s_iconst o dX1_noteArea_104 (v := (2 : Int32)) (by decide) (q := 105) rfl ?_
  refine s_iadd o dX1_noteArea_105 (q := 106) rfl ?_
  refine s_aload_n o 0 rfl dX1_noteArea_106 (q := 107) rfl ?_
  refine s_aload_n o 0 rfl dX1_noteArea_107 (q := 108) rfl ?_
  refine s_gr o kf_X1_27 dX1_noteArea_108 (q := 111) rfl (fun a36_ => ?_)
  refine s_iload_n o 2 rfl dX1_noteArea_111 (q := 112) rfl ?_
  refine s_on (fun hk37_ => ?_)
  refine s_bi (fun r0 hr0 => runV o hk37_ cv_X1_196 (c_X1_least (xG X) f x0 a36_ v2_ h34_ (xl X) r0 hr0) ⟨Nat.le_of_ble_eq_true rfl, Nat.le_of_ble_eq_true rfl⟩ rfl rfl (Nat.le_of_ble_eq_true rfl) dX1_noteArea_112 ⟨Nat.le_of_ble_eq_true rfl, Nat.le_of_ble_eq_true rfl⟩) (q := 115) rfl (cs' := 0) rfl (sl' := 0) rfl (fun v39_ h38_ => ?_)
  refine s_aload_n o 0 rfl dX1_noteArea_115 (q := 116) rfl ?_
  refine s_aload_n o 0 rfl dX1_noteArea_116 (q := 117) rfl ?_
  refine s_gr o kf_X1_27 dX1_noteArea_117 (q := 120) rfl (fun a40_ => ?_)
  refine s_iload_n o 3 rfl dX1_noteArea_120 (q := 121) rfl ?_
  refine s_on (fun hk41_ => ?_)
  refine s_bi (fun r0 hr0 => runV o hk41_ cv_X1_196 (c_X1_least (xG X) f x0 a40_ v4_ h38_ (xl X) r0 hr0) ⟨Nat.le_of_ble_eq_true rfl, Nat.le_of_ble_eq_true rfl⟩ rfl rfl (Nat.le_of_ble_eq_true rfl) dX1_noteArea_121 ⟨Nat.le_of_ble_eq_true rfl, Nat.le_of_ble_eq_true rfl⟩) (q := 124) rfl (cs' := 0) rfl (sl' := 0) rfl (fun v43_ h42_ => ?_)
  refine s_iadd o dX1_noteArea_124 (q := 125) rfl ?_
  refine s_aload_n o 0 rfl dX1_noteArea_125 (q := 126) rfl ?_
  refine s_aload_n o 0 rfl dX1_noteArea_126 (q := 127) rfl ?_
  refine s_gr o kf_X1_30 dX1_noteArea_127 (q := 130) rfl (fun a44_ => ?_)
  refine s_iload o 4 rfl dX1_noteArea_130 (q := 132) rfl ?_
  refine s_on (fun hk45_ => ?_)
  refine s_bi (fun r0 hr0 => runV o hk45_ cv_X1_200 (c_X1_most (xG X) f x0 a44_ v6_ h42_ (xl X) r0 hr0) ⟨Nat.le_of_ble_eq_true rfl, Nat.le_of_ble_eq_true rfl⟩ rfl rfl (Nat.le_of_ble_eq_true rfl) dX1_noteArea_132 ⟨Nat.le_of_ble_eq_true rfl, Nat.le_of_ble_eq_true rfl⟩) (q := 135) rfl (cs' := 0) rfl (sl' := 0) rfl (fun v47_ h46_ => ?_)
  refine s_isub o dX1_noteArea_135 (q := 136) rfl ?_
  refine s_iast o dX1_noteArea_136 (q := 137) rfl (fun h48_ => ?_)
  refine s_aload_n o 0 rfl dX1_noteArea_137 (q := 138) rfl ?_
  refine s_gr o kf_X1_36 dX1_noteArea_138 (q := 141) rfl (fun a49_ => ?_)
  refine s_iload_n o 1 rfl dX1_noteArea_141 (q := 142) rfl ?_
  refine s_iconst o dX1_noteArea_142 (v := (3 : Int32)) (by decide) (q := 143) rfl ?_
  refine s_iadd o dX1_noteArea_143 (q := 144) rfl ?_
  refine s_aload_n o 0 rfl dX1_noteArea_144 (q := 145) rfl ?_
  refine s_aload_n o 0 rfl dX1_noteArea_145 (q := 146) rfl ?_
  refine s_gr o kf_X1_30 dX1_noteArea_146 (q := 149) rfl (fun a50_ => ?_)
  refine s_iload_n o 2 rfl dX1_noteArea_149 (q := 150) rfl ?_
  refine s_on (fun hk51_ => ?_)
  refine s_bi (fun r0 hr0 => runV o hk51_ cv_X1_200 (c_X1_most (xG X) f x0 a50_ v2_ h48_ (xl X) r0 hr0) ⟨Nat.le_of_ble_eq_true rfl, Nat.le_of_ble_eq_true rfl⟩ rfl rfl (Nat.le_of_ble_eq_true rfl) dX1_noteArea_150 ⟨Nat.le_of_ble_eq_true rfl, Nat.le_of_ble_eq_true rfl⟩) (q := 153) rfl (cs' := 0) rfl (sl' := 0) rfl (fun v53_ h52_ => ?_)
  refine s_aload_n o 0 rfl dX1_noteArea_153 (q := 154) rfl ?_
  refine s_aload_n o 0 rfl dX1_noteArea_154 (q := 155) rfl ?_
  refine s_gr o kf_X1_30 dX1_noteArea_155 (q := 158) rfl (fun a54_ => ?_)
  refine s_iload_n o 3 rfl dX1_noteArea_158 (q := 159) rfl ?_
  refine s_on (fun hk55_ => ?_)
  refine s_bi (fun r0 hr0 => runV o hk55_ cv_X1_200 (c_X1_most (xG X) f x0 a54_ v4_ h52_ (xl X) r0 hr0) ⟨Nat.le_of_ble_eq_true rfl, Nat.le_of_ble_eq_true rfl⟩ rfl rfl (Nat.le_of_ble_eq_true rfl) dX1_noteArea_159 ⟨Nat.le_of_ble_eq_true rfl, Nat.le_of_ble_eq_true rfl⟩) (q := 162) rfl (cs' := 0) rfl (sl' := 0) rfl (fun v57_ h56_ => ?_)
  refine s_iadd o dX1_noteArea_162 (q := 163) rfl ?_
  refine s_aload_n o 0 rfl dX1_noteArea_163 (q := 164) rfl ?_
  refine s_aload_n o 0 rfl dX1_noteArea_164 (q := 165) rfl ?_
  refine s_gr o kf_X1_27 dX1_noteArea_165 (q := 168) rfl (fun a58_ => ?_)
  refine s_iload o 4 rfl dX1_noteArea_168 (q := 170) rfl ?_
  refine s_on (fun hk59_ => ?_)
  refine s_bi (fun r0 hr0 => runV o hk59_ cv_X1_196 (c_X1_least (xG X) f x0 a58_ v6_ h56_ (xl X) r0 hr0) ⟨Nat.le_of_ble_eq_true rfl, Nat.le_of_ble_eq_true rfl⟩ rfl rfl (Nat.le_of_ble_eq_true rfl) dX1_noteArea_170 ⟨Nat.le_of_ble_eq_true rfl, Nat.le_of_ble_eq_true rfl⟩) (q := 173) rfl (cs' := 0) rfl (sl' := 0) rfl (fun v61_ h60_ => ?_)
  refine s_isub o dX1_noteArea_173 (q := 174) rfl ?_
  refine s_iast o dX1_noteArea_174 (q := 175) rfl (fun h62_ => ?_)
  exact s_vret o dX1_noteArea_175
theorem c_X1_noteArea (G : Gx) (f : Nat) (x0 : Nat) (x1 : Int32) (h : Hp) : z_M z_qv G yX1_noteArea cX1_noteArea 5 none 2 43 0 0 [rf G x0, .int x1] h (f_X1_noteArea f x0 x1 h) :=
  z_met (by decide +kernel) (Nat.le_of_ble_eq_true rfl) (fun X hG hn o hnm => by
    subst hG
    show Sim X (z_Zv X 0 0) 0 0 0 [(0, rf (xG X) x0), (1, .int x1)] [] h _
    exact s_sub [0, 1] rfl (t_X1_noteArea_0 o f x0 x1 h))
/-! SixMaps$Judge.collect()V -/
def b_X1_collect_74 (f : Nat) (k7 : Nat → Int32 → Hp → Option (Hp)) (x0 : Nat) (x1 : Int32) (h : Hp) : Option (Hp) :=
  lt (x1 + (1 : Int32)) fun v1_ =>
  k7 x0 v1_ h
def b_X1_collect_7 (f : Nat) (k7 : Nat → Int32 → Hp → Option (Hp)) (x0 : Nat) (x1 : Int32) (h : Hp) : Option (Hp) :=
  if (63 : Int32) < x1 then
  (some h)
  else
  (bi (f_J6_bitCount_0f7a4 f x1 h) fun v2_ h1_ =>
  (q_gr h1_ x0 1 9).bind fun a3_ =>
  (q_gi h1_ a3_ 0 6).bind fun v4_ =>
  if ¬ v2_ = v4_ then
  (b_X1_collect_74 f k7 x0 x1 h1_)
  else
  ((q_gi h1_ x0 1 12).bind fun v5_ =>
  if (15 : Int32) ≤ v5_ then
  (b_X1_collect_74 f k7 x0 x1 h1_)
  else
  (q_on h1_ x0 1 (
  bi (f_X1_mayLie f x0 x1 h1_) fun v8_ h7_ =>
  if v8_ = 0 then
  (b_X1_collect_74 f k7 x0 x1 h7_)
  else
  ((q_gr h7_ x0 1 7).bind fun a9_ =>
  (q_gi h7_ x0 1 12).bind fun v10_ =>
  (q_as h7_ a9_ 9 v10_ x1).bind fun h11_ =>
  (q_gi h11_ x0 1 12).bind fun v12_ =>
  q_on h11_ x0 1 (
  (f_X1_noteArea f x0 (v12_ * (4 : Int32)) h11_).bind fun h14_ =>
  (q_gi h14_ x0 1 12).bind fun v15_ =>
  (q_pi h14_ x0 1 12 (v15_ + (1 : Int32))).bind fun h16_ =>
  b_X1_collect_74 f k7 x0 x1 h16_))))))
def l_X1_collect_7 (f : Nat)  : Nat → Nat → Int32 → Hp → Option (Hp)
  | 0, _, _, _ => none
  | n + 1, x0, x1, h => b_X1_collect_7 f  (l_X1_collect_7 f  n) x0 x1 h
def f_X1_collect (f : Nat)  (x0 : Nat) (h : Hp) : Option (Hp) :=
  (q_pi h x0 1 12 (0 : Int32)).bind fun h1_ =>
  l_X1_collect_7 f f x0 (0 : Int32) h1_
set_option maxRecDepth 20000 in
theorem t_X1_collect_74 {X : Cx} (o : Ok X RX1 cX1_collect 2 4 89 0 0 none) (f : Nat) {k7 : Nat → Int32 → Hp → Option (Hp)} (hk7 : ∀ (x0 : Nat) (x1 : Int32) (h : Hp), Sim X (z_Zv X 0 0) 0 0 7 [(0, rf (xG X) x0), (1, .int x1)] [] h (k7 x0 x1 h)) (x0 : Nat) (x1 : Int32) (h : Hp) : Sim X (z_Zv X 0 0) 0 0 74 [(0, rf (xG X) x0), (1, .int x1)] [] h (b_X1_collect_74 f k7 x0 x1 h) := by
  unfold b_X1_collect_74
  refine s_iinc o 1 rfl (v := (1 : Int32)) (by decide) [1, 0] (lv' := fun v1_ => [(0, rf (xG X) x0), (1, .int v1_)]) (fun _ => rfl) dX1_collect_74 (by decide) (q := 77) rfl (fun v1_ => ?_)
  refine s_goto o (tgt := 7) dX1_collect_77 (by decide) ?_
  exact s_sub [0, 1] rfl (hk7 x0 v1_ h)
set_option maxRecDepth 20000 in
theorem t_X1_collect_7 {X : Cx} (o : Ok X RX1 cX1_collect 2 4 89 0 0 none) (f : Nat) {k7 : Nat → Int32 → Hp → Option (Hp)} (hk7 : ∀ (x0 : Nat) (x1 : Int32) (h : Hp), Sim X (z_Zv X 0 0) 0 0 7 [(0, rf (xG X) x0), (1, .int x1)] [] h (k7 x0 x1 h)) (x0 : Nat) (x1 : Int32) (h : Hp) : Sim X (z_Zv X 0 0) 0 0 7 [(0, rf (xG X) x0), (1, .int x1)] [] h (b_X1_collect_7 f k7 x0 x1 h) := by
  unfold b_X1_collect_7
  refine s_iload_n o 1 rfl dX1_collect_7 (q := 8) rfl ?_
  refine s_bipush o dX1_collect_8 (v := (63 : Int32)) (by decide) (q := 10) rfl ?_
  refine s_ic_gt o (tgt := 80) dX1_collect_10 (by decide) (q := 13) rfl ?_ ?_
  · exact s_vret o dX1_collect_80
  · refine s_iload_n o 1 rfl dX1_collect_13 (q := 14) rfl ?_
    refine s_bi (fun r0 hr0 => runS o cs_X1_119 (c_J6_bitCount_0f7a4 (xG X) f x1 h (xl X) r0 hr0) ⟨Nat.le_of_ble_eq_true rfl, Nat.le_of_ble_eq_true rfl⟩ rfl rfl (Nat.le_of_ble_eq_true rfl) dX1_collect_14 ⟨Nat.le_of_ble_eq_true rfl, Nat.le_of_ble_eq_true rfl⟩) (q := 17) rfl (cs' := 0) rfl (sl' := 0) rfl (fun v2_ h1_ => ?_)
    refine s_aload_n o 0 rfl dX1_collect_17 (q := 18) rfl ?_
    refine s_gr o kf_X1_42 dX1_collect_18 (q := 21) rfl (fun a3_ => ?_)
    refine s_gi o kf_X1_125 dX1_collect_21 (q := 24) rfl (fun v4_ => ?_)
    refine s_ic_ne o (tgt := 74) dX1_collect_24 (by decide) (q := 27) rfl ?_ ?_
    · exact s_sub [0, 1] rfl (t_X1_collect_74 o f hk7 x0 x1 h1_)
    · refine s_aload_n o 0 rfl dX1_collect_27 (q := 28) rfl ?_
      refine s_gi o kf_X1_57 dX1_collect_28 (q := 31) rfl (fun v5_ => ?_)
      refine s_bipush o dX1_collect_31 (v := (15 : Int32)) (by decide) (q := 33) rfl ?_
      refine s_ic_ge o (tgt := 74) dX1_collect_33 (by decide) (q := 36) rfl ?_ ?_
      · exact s_sub [0, 1] rfl (t_X1_collect_74 o f hk7 x0 x1 h1_)
      · refine s_aload_n o 0 rfl dX1_collect_36 (q := 37) rfl ?_
        refine s_iload_n o 1 rfl dX1_collect_37 (q := 38) rfl ?_
        refine s_on (fun hk6_ => ?_)
        refine s_bi (fun r0 hr0 => runV o hk6_ cv_X1_128 (c_X1_mayLie (xG X) f x0 x1 h1_ (xl X) r0 hr0) ⟨Nat.le_of_ble_eq_true rfl, Nat.le_of_ble_eq_true rfl⟩ rfl rfl (Nat.le_of_ble_eq_true rfl) dX1_collect_38 ⟨Nat.le_of_ble_eq_true rfl, Nat.le_of_ble_eq_true rfl⟩) (q := 41) rfl (cs' := 0) rfl (sl' := 0) rfl (fun v8_ h7_ => ?_)
        refine s_if_eq o (tgt := 74) dX1_collect_41 (by decide) (q := 44) rfl ?_ ?_
        · exact s_sub [0, 1] rfl (t_X1_collect_74 o f hk7 x0 x1 h7_)
        · refine s_aload_n o 0 rfl dX1_collect_44 (q := 45) rfl ?_
          refine s_gr o kf_X1_33 dX1_collect_45 (q := 48) rfl (fun a9_ => ?_)
          refine s_aload_n o 0 rfl dX1_collect_48 (q := 49) rfl ?_
          refine s_gi o kf_X1_57 dX1_collect_49 (q := 52) rfl (fun v10_ => ?_)
          refine s_iload_n o 1 rfl dX1_collect_52 (q := 53) rfl ?_
          refine s_iast o dX1_collect_53 (q := 54) rfl (fun h11_ => ?_)
          refine s_aload_n o 0 rfl dX1_collect_54 (q := 55) rfl ?_
          refine s_aload_n o 0 rfl dX1_collect_55 (q := 56) rfl ?_
          refine s_gi o kf_X1_57 dX1_collect_56 (q := 59) rfl (fun v12_ => ?_)
          refine s_iconst o dX1_collect_59 (v := (4 : Int32)) (by decide) (q := 60) rfl ?_
          refine s_imul o dX1_collect_60 (q := 61) rfl ?_
          refine s_on (fun hk13_ => ?_)
          refine s_callv (fun r0 hr0 => runV o hk13_ cv_X1_132 (c_X1_noteArea (xG X) f x0 (v12_ * (4 : Int32)) h11_ (xl X) r0 hr0) ⟨Nat.le_of_ble_eq_true rfl, Nat.le_of_ble_eq_true rfl⟩ rfl rfl (Nat.le_of_ble_eq_true rfl) dX1_collect_61 ⟨Nat.le_of_ble_eq_true rfl, Nat.le_of_ble_eq_true rfl⟩) (q := 64) rfl (cs' := 0) rfl (sl' := 0) rfl (fun h14_ => ?_)
          refine s_aload_n o 0 rfl dX1_collect_64 (q := 65) rfl ?_
          refine s_dup o rfl dX1_collect_65 (q := 66) rfl ?_
          refine s_gi o kf_X1_57 dX1_collect_66 (q := 69) rfl (fun v15_ => ?_)
          refine s_iconst o dX1_collect_69 (v := (1 : Int32)) (by decide) (q := 70) rfl ?_
          refine s_iadd o dX1_collect_70 (q := 71) rfl ?_
          refine s_pi o kf_X1_57 dX1_collect_71 (q := 74) rfl (fun h16_ => ?_)
          exact s_sub [0, 1] rfl (t_X1_collect_74 o f hk7 x0 x1 h16_)
theorem tl_X1_collect_7 {X : Cx} (o : Ok X RX1 cX1_collect 2 4 89 0 0 none) (f : Nat)  : ∀ (n : Nat) (x0 : Nat) (x1 : Int32) (h : Hp), Sim X (z_Zv X 0 0) 0 0 7 [(0, rf (xG X) x0), (1, .int x1)] [] h (l_X1_collect_7 f n x0 x1 h) := by
  intro n
  induction n with
  | zero => intro x0 x1 h; exact s_none
  | succ n ih => intro x0 x1 h; exact t_X1_collect_7 o f  ih x0 x1 h
set_option maxRecDepth 20000 in
theorem t_X1_collect_0 {X : Cx} (o : Ok X RX1 cX1_collect 2 4 89 0 0 none) (f : Nat)  (x0 : Nat) (h : Hp) : Sim X (z_Zv X 0 0) 0 0 0 [(0, rf (xG X) x0)] [] h (f_X1_collect f x0 h) := by
  unfold f_X1_collect
  refine s_aload_n o 0 rfl dX1_collect_0 (q := 1) rfl ?_
  refine s_iconst o dX1_collect_1 (v := (0 : Int32)) (by decide) (q := 2) rfl ?_
  refine s_pi o kf_X1_57 dX1_collect_2 (q := 5) rfl (fun h1_ => ?_)
  refine s_iconst o dX1_collect_5 (v := (0 : Int32)) (by decide) (q := 6) rfl ?_
  refine s_istore_n o [1, 0] (lv' := [(0, rf (xG X) x0), (1, .int (0 : Int32))]) rfl dX1_collect_6 (by decide) (q := 7) rfl ?_
  exact s_sub [0, 1] rfl (tl_X1_collect_7 o f f x0 (0 : Int32) h1_)
theorem c_X1_collect (G : Gx) (f : Nat) (x0 : Nat) (h : Hp) : z_M z_qv G yX1_collect cX1_collect 2 none 4 89 0 0 [rf G x0] h (f_X1_collect f x0 h) :=
  z_met (by decide +kernel) (Nat.le_of_ble_eq_true rfl) (fun X hG hn o hnm => by
    subst hG
    show Sim X (z_Zv X 0 0) 0 0 0 [(0, rf (xG X) x0)] [] h _
    exact s_sub [0] rfl (t_X1_collect_0 o f x0 h))
/-! SixMaps$Judge.hear(II)V -/
def f_X1_hear (f : Nat)  (x0 : Nat) (x1 : Int32) (x2 : Int32) (h : Hp) : Option (Hp) :=
  (q_gr h x0 1 0).bind fun a1_ =>
  (q_ai h a1_ 9 x1).bind fun v2_ =>
  (q_as h a1_ 9 x1 (v2_ ||| x2)).bind fun h3_ =>
  q_on h3_ x0 1 (
  (f_X1_collect f x0 h3_).bind fun h5_ =>
  some h5_)
set_option maxRecDepth 20000 in
theorem t_X1_hear_0 {X : Cx} (o : Ok X RX1 cX1_hear 3 5 110 0 0 none) (f : Nat)  (x0 : Nat) (x1 : Int32) (x2 : Int32) (h : Hp) : Sim X (z_Zv X 0 0) 0 0 0 [(0, rf (xG X) x0), (1, .int x1), (2, .int x2)] [] h (f_X1_hear f x0 x1 x2 h) := by
  unfold f_X1_hear
  refine s_aload_n o 0 rfl dX1_hear_0 (q := 1) rfl ?_
  refine s_gr o kf_X1_9 dX1_hear_1 (q := 4) rfl (fun a1_ => ?_)
  refine s_iload_n o 1 rfl dX1_hear_4 (q := 5) rfl ?_
  refine s_dup2 o rfl rfl dX1_hear_5 (q := 6) rfl ?_
  refine s_iald o dX1_hear_6 (q := 7) rfl (fun v2_ => ?_)
  refine s_iload_n o 2 rfl dX1_hear_7 (q := 8) rfl ?_
  refine s_ior o dX1_hear_8 (q := 9) rfl ?_
  refine s_iast o dX1_hear_9 (q := 10) rfl (fun h3_ => ?_)
  refine s_aload_n o 0 rfl dX1_hear_10 (q := 11) rfl ?_
  refine s_on (fun hk4_ => ?_)
  refine s_callv (fun r0 hr0 => runV o hk4_ cv_X1_83 (c_X1_collect (xG X) f x0 h3_ (xl X) r0 hr0) ⟨Nat.le_of_ble_eq_true rfl, Nat.le_of_ble_eq_true rfl⟩ rfl rfl (Nat.le_of_ble_eq_true rfl) dX1_hear_11 ⟨Nat.le_of_ble_eq_true rfl, Nat.le_of_ble_eq_true rfl⟩) (q := 14) rfl (cs' := 0) rfl (sl' := 0) rfl (fun h5_ => ?_)
  exact s_vret o dX1_hear_14
theorem c_X1_hear (G : Gx) (f : Nat) (x0 : Nat) (x1 : Int32) (x2 : Int32) (h : Hp) : z_M z_qv G yX1_hear cX1_hear 3 none 5 110 0 0 [rf G x0, .int x1, .int x2] h (f_X1_hear f x0 x1 x2 h) :=
  z_met (by decide +kernel) (Nat.le_of_ble_eq_true rfl) (fun X hG hn o hnm => by
    subst hG
    show Sim X (z_Zv X 0 0) 0 0 0 [(0, rf (xG X) x0), (1, .int x1), (2, .int x2)] [] h _
    exact s_sub [0, 1, 2] rfl (t_X1_hear_0 o f x0 x1 x2 h))
/-! SixMaps$Judge.inAll()I -/
def b_X1_inAll_5 (f : Nat) (k5 : Nat → Int32 → Int32 → Hp → Option (Int32 × Hp)) (x0 : Nat) (x1 : Int32) (x2 : Int32) (h : Hp) : Option (Int32 × Hp) :=
  (q_gi h x0 1 12).bind fun v1_ =>
  if v1_ ≤ x2 then
  (some (x1, h))
  else
  ((q_gr h x0 1 7).bind fun a2_ =>
  (q_ai h a2_ 9 x2).bind fun v3_ =>
  lt (x1 &&& v3_) fun v4_ =>
  lt (x2 + (1 : Int32)) fun v5_ =>
  k5 x0 v4_ v5_ h)
def l_X1_inAll_5 (f : Nat)  : Nat → Nat → Int32 → Int32 → Hp → Option (Int32 × Hp)
  | 0, _, _, _, _ => none
  | n + 1, x0, x1, x2, h => b_X1_inAll_5 f  (l_X1_inAll_5 f  n) x0 x1 x2 h
def f_X1_inAll (f : Nat)  (x0 : Nat) (h : Hp) : Option (Int32 × Hp) :=
  l_X1_inAll_5 f f x0 (63 : Int32) (0 : Int32) h
set_option maxRecDepth 20000 in
theorem t_X1_inAll_5 {X : Cx} (o : Ok X RX1 cX1_inAll 3 0 0 0 0 (some .int)) (f : Nat) {k5 : Nat → Int32 → Int32 → Hp → Option (Int32 × Hp)} (hk5 : ∀ (x0 : Nat) (x1 : Int32) (x2 : Int32) (h : Hp), Sim X (z_Zi X 0 0) 0 0 5 [(0, rf (xG X) x0), (1, .int x1), (2, .int x2)] [] h (k5 x0 x1 x2 h)) (x0 : Nat) (x1 : Int32) (x2 : Int32) (h : Hp) : Sim X (z_Zi X 0 0) 0 0 5 [(0, rf (xG X) x0), (1, .int x1), (2, .int x2)] [] h (b_X1_inAll_5 f k5 x0 x1 x2 h) := by
  unfold b_X1_inAll_5
  refine s_iload_n o 2 rfl dX1_inAll_5 (q := 6) rfl ?_
  refine s_aload_n o 0 rfl dX1_inAll_6 (q := 7) rfl ?_
  refine s_gi o kf_X1_57 dX1_inAll_7 (q := 10) rfl (fun v1_ => ?_)
  refine s_ic_ge o (tgt := 28) dX1_inAll_10 (by decide) (q := 13) rfl ?_ ?_
  · refine s_iload_n o 1 rfl dX1_inAll_28 (q := 29) rfl ?_
    exact s_iret o dX1_inAll_29
  · refine s_iload_n o 1 rfl dX1_inAll_13 (q := 14) rfl ?_
    refine s_aload_n o 0 rfl dX1_inAll_14 (q := 15) rfl ?_
    refine s_gr o kf_X1_33 dX1_inAll_15 (q := 18) rfl (fun a2_ => ?_)
    refine s_iload_n o 2 rfl dX1_inAll_18 (q := 19) rfl ?_
    refine s_iald o dX1_inAll_19 (q := 20) rfl (fun v3_ => ?_)
    refine s_iand o dX1_inAll_20 (q := 21) rfl ?_
    refine s_let (fun v4_ => ?_)
    refine s_istore_n o [1, 0, 2] (lv' := [(0, rf (xG X) x0), (1, .int v4_), (2, .int x2)]) rfl dX1_inAll_21 (by decide) (q := 22) rfl ?_
    refine s_iinc o 2 rfl (v := (1 : Int32)) (by decide) [1, 2, 0] (lv' := fun v5_ => [(0, rf (xG X) x0), (1, .int v4_), (2, .int v5_)]) (fun _ => rfl) dX1_inAll_22 (by decide) (q := 25) rfl (fun v5_ => ?_)
    refine s_goto o (tgt := 5) dX1_inAll_25 (by decide) ?_
    exact s_sub [0, 1, 2] rfl (hk5 x0 v4_ v5_ h)
theorem tl_X1_inAll_5 {X : Cx} (o : Ok X RX1 cX1_inAll 3 0 0 0 0 (some .int)) (f : Nat)  : ∀ (n : Nat) (x0 : Nat) (x1 : Int32) (x2 : Int32) (h : Hp), Sim X (z_Zi X 0 0) 0 0 5 [(0, rf (xG X) x0), (1, .int x1), (2, .int x2)] [] h (l_X1_inAll_5 f n x0 x1 x2 h) := by
  intro n
  induction n with
  | zero => intro x0 x1 x2 h; exact s_none
  | succ n ih => intro x0 x1 x2 h; exact t_X1_inAll_5 o f  ih x0 x1 x2 h
set_option maxRecDepth 20000 in
theorem t_X1_inAll_0 {X : Cx} (o : Ok X RX1 cX1_inAll 3 0 0 0 0 (some .int)) (f : Nat)  (x0 : Nat) (h : Hp) : Sim X (z_Zi X 0 0) 0 0 0 [(0, rf (xG X) x0)] [] h (f_X1_inAll f x0 h) := by
  unfold f_X1_inAll
  refine s_bipush o dX1_inAll_0 (v := (63 : Int32)) (by decide) (q := 2) rfl ?_
  refine s_istore_n o [1, 0] (lv' := [(0, rf (xG X) x0), (1, .int (63 : Int32))]) rfl dX1_inAll_2 (by decide) (q := 3) rfl ?_
  refine s_iconst o dX1_inAll_3 (v := (0 : Int32)) (by decide) (q := 4) rfl ?_
  refine s_istore_n o [1, 2, 0] (lv' := [(0, rf (xG X) x0), (1, .int (63 : Int32)), (2, .int (0 : Int32))]) rfl dX1_inAll_4 (by decide) (q := 5) rfl ?_
  exact s_sub [0, 1, 2] rfl (tl_X1_inAll_5 o f f x0 (63 : Int32) (0 : Int32) h)
theorem c_X1_inAll (G : Gx) (f : Nat) (x0 : Nat) (h : Hp) : z_M z_qi G yX1_inAll cX1_inAll 3 (some .int) 0 0 0 0 [rf G x0] h (f_X1_inAll f x0 h) :=
  z_met (by decide +kernel) (Nat.le_of_ble_eq_true rfl) (fun X hG hn o hnm => by
    subst hG
    show Sim X (z_Zi X 0 0) 0 0 0 [(0, rf (xG X) x0)] [] h _
    exact s_sub [0] rfl (t_X1_inAll_0 o f x0 h))
/-! SixMaps$Judge.inNone()I -/
def b_X1_inNone_5 (f : Nat) (k5 : Nat → Int32 → Int32 → Hp → Option (Int32 × Hp)) (x0 : Nat) (x1 : Int32) (x2 : Int32) (h : Hp) : Option (Int32 × Hp) :=
  (q_gi h x0 1 12).bind fun v1_ =>
  if v1_ ≤ x2 then
  (some (x1, h))
  else
  ((q_gr h x0 1 7).bind fun a2_ =>
  (q_ai h a2_ 9 x2).bind fun v3_ =>
  lt (x1 &&& (v3_ ^^^ (-1 : Int32))) fun v4_ =>
  lt (x2 + (1 : Int32)) fun v5_ =>
  k5 x0 v4_ v5_ h)
def l_X1_inNone_5 (f : Nat)  : Nat → Nat → Int32 → Int32 → Hp → Option (Int32 × Hp)
  | 0, _, _, _, _ => none
  | n + 1, x0, x1, x2, h => b_X1_inNone_5 f  (l_X1_inNone_5 f  n) x0 x1 x2 h
def f_X1_inNone (f : Nat)  (x0 : Nat) (h : Hp) : Option (Int32 × Hp) :=
  l_X1_inNone_5 f f x0 (63 : Int32) (0 : Int32) h
set_option maxRecDepth 20000 in
theorem t_X1_inNone_5 {X : Cx} (o : Ok X RX1 cX1_inNone 3 0 0 0 0 (some .int)) (f : Nat) {k5 : Nat → Int32 → Int32 → Hp → Option (Int32 × Hp)} (hk5 : ∀ (x0 : Nat) (x1 : Int32) (x2 : Int32) (h : Hp), Sim X (z_Zi X 0 0) 0 0 5 [(0, rf (xG X) x0), (1, .int x1), (2, .int x2)] [] h (k5 x0 x1 x2 h)) (x0 : Nat) (x1 : Int32) (x2 : Int32) (h : Hp) : Sim X (z_Zi X 0 0) 0 0 5 [(0, rf (xG X) x0), (1, .int x1), (2, .int x2)] [] h (b_X1_inNone_5 f k5 x0 x1 x2 h) := by
  unfold b_X1_inNone_5
  refine s_iload_n o 2 rfl dX1_inNone_5 (q := 6) rfl ?_
  refine s_aload_n o 0 rfl dX1_inNone_6 (q := 7) rfl ?_
  refine s_gi o kf_X1_57 dX1_inNone_7 (q := 10) rfl (fun v1_ => ?_)
  refine s_ic_ge o (tgt := 30) dX1_inNone_10 (by decide) (q := 13) rfl ?_ ?_
  · refine s_iload_n o 1 rfl dX1_inNone_30 (q := 31) rfl ?_
    exact s_iret o dX1_inNone_31
  · refine s_iload_n o 1 rfl dX1_inNone_13 (q := 14) rfl ?_
    refine s_aload_n o 0 rfl dX1_inNone_14 (q := 15) rfl ?_
    refine s_gr o kf_X1_33 dX1_inNone_15 (q := 18) rfl (fun a2_ => ?_)
    refine s_iload_n o 2 rfl dX1_inNone_18 (q := 19) rfl ?_
    refine s_iald o dX1_inNone_19 (q := 20) rfl (fun v3_ => ?_)
    refine s_iconst o dX1_inNone_20 (v := (-1 : Int32)) (by decide) (q := 21) rfl ?_
    refine s_ixor o dX1_inNone_21 (q := 22) rfl ?_
    refine s_iand o dX1_inNone_22 (q := 23) rfl ?_
    refine s_let (fun v4_ => ?_)
    refine s_istore_n o [1, 0, 2] (lv' := [(0, rf (xG X) x0), (1, .int v4_), (2, .int x2)]) rfl dX1_inNone_23 (by decide) (q := 24) rfl ?_
    refine s_iinc o 2 rfl (v := (1 : Int32)) (by decide) [1, 2, 0] (lv' := fun v5_ => [(0, rf (xG X) x0), (1, .int v4_), (2, .int v5_)]) (fun _ => rfl) dX1_inNone_24 (by decide) (q := 27) rfl (fun v5_ => ?_)
    refine s_goto o (tgt := 5) dX1_inNone_27 (by decide) ?_
    exact s_sub [0, 1, 2] rfl (hk5 x0 v4_ v5_ h)
theorem tl_X1_inNone_5 {X : Cx} (o : Ok X RX1 cX1_inNone 3 0 0 0 0 (some .int)) (f : Nat)  : ∀ (n : Nat) (x0 : Nat) (x1 : Int32) (x2 : Int32) (h : Hp), Sim X (z_Zi X 0 0) 0 0 5 [(0, rf (xG X) x0), (1, .int x1), (2, .int x2)] [] h (l_X1_inNone_5 f n x0 x1 x2 h) := by
  intro n
  induction n with
  | zero => intro x0 x1 x2 h; exact s_none
  | succ n ih => intro x0 x1 x2 h; exact t_X1_inNone_5 o f  ih x0 x1 x2 h
set_option maxRecDepth 20000 in
theorem t_X1_inNone_0 {X : Cx} (o : Ok X RX1 cX1_inNone 3 0 0 0 0 (some .int)) (f : Nat)  (x0 : Nat) (h : Hp) : Sim X (z_Zi X 0 0) 0 0 0 [(0, rf (xG X) x0)] [] h (f_X1_inNone f x0 h) := by
  unfold f_X1_inNone
  refine s_bipush o dX1_inNone_0 (v := (63 : Int32)) (by decide) (q := 2) rfl ?_
  refine s_istore_n o [1, 0] (lv' := [(0, rf (xG X) x0), (1, .int (63 : Int32))]) rfl dX1_inNone_2 (by decide) (q := 3) rfl ?_
  refine s_iconst o dX1_inNone_3 (v := (0 : Int32)) (by decide) (q := 4) rfl ?_
  refine s_istore_n o [1, 2, 0] (lv' := [(0, rf (xG X) x0), (1, .int (63 : Int32)), (2, .int (0 : Int32))]) rfl dX1_inNone_4 (by decide) (q := 5) rfl ?_
  exact s_sub [0, 1, 2] rfl (tl_X1_inNone_5 o f f x0 (63 : Int32) (0 : Int32) h)
theorem c_X1_inNone (G : Gx) (f : Nat) (x0 : Nat) (h : Hp) : z_M z_qi G yX1_inNone cX1_inNone 3 (some .int) 0 0 0 0 [rf G x0] h (f_X1_inNone f x0 h) :=
  z_met (by decide +kernel) (Nat.le_of_ble_eq_true rfl) (fun X hG hn o hnm => by
    subst hG
    show Sim X (z_Zi X 0 0) 0 0 0 [(0, rf (xG X) x0)] [] h _
    exact s_sub [0] rfl (t_X1_inNone_0 o f x0 h))
/-! SixMaps$Judge.indexOf(I)I -/
def b_X1_indexOf_2 (f : Nat) (k2 : Nat → Int32 → Int32 → Hp → Option (Int32 × Hp)) (x0 : Nat) (x1 : Int32) (x2 : Int32) (h : Hp) : Option (Int32 × Hp) :=
  (q_gi h x0 1 12).bind fun v1_ =>
  if v1_ ≤ x2 then
  (some ((-1 : Int32), h))
  else
  ((q_gr h x0 1 7).bind fun a2_ =>
  (q_ai h a2_ 9 x2).bind fun v3_ =>
  if ¬ v3_ = x1 then
  (lt (x2 + (1 : Int32)) fun v4_ =>
  k2 x0 x1 v4_ h)
  else
  (some (x2, h)))
def l_X1_indexOf_2 (f : Nat)  : Nat → Nat → Int32 → Int32 → Hp → Option (Int32 × Hp)
  | 0, _, _, _, _ => none
  | n + 1, x0, x1, x2, h => b_X1_indexOf_2 f  (l_X1_indexOf_2 f  n) x0 x1 x2 h
def f_X1_indexOf (f : Nat)  (x0 : Nat) (x1 : Int32) (h : Hp) : Option (Int32 × Hp) :=
  l_X1_indexOf_2 f f x0 x1 (0 : Int32) h
set_option maxRecDepth 20000 in
theorem t_X1_indexOf_2 {X : Cx} (o : Ok X RX1 cX1_indexOf 3 0 0 0 0 (some .int)) (f : Nat) {k2 : Nat → Int32 → Int32 → Hp → Option (Int32 × Hp)} (hk2 : ∀ (x0 : Nat) (x1 : Int32) (x2 : Int32) (h : Hp), Sim X (z_Zi X 0 0) 0 0 2 [(0, rf (xG X) x0), (1, .int x1), (2, .int x2)] [] h (k2 x0 x1 x2 h)) (x0 : Nat) (x1 : Int32) (x2 : Int32) (h : Hp) : Sim X (z_Zi X 0 0) 0 0 2 [(0, rf (xG X) x0), (1, .int x1), (2, .int x2)] [] h (b_X1_indexOf_2 f k2 x0 x1 x2 h) := by
  unfold b_X1_indexOf_2
  refine s_iload_n o 2 rfl dX1_indexOf_2 (q := 3) rfl ?_
  refine s_aload_n o 0 rfl dX1_indexOf_3 (q := 4) rfl ?_
  refine s_gi o kf_X1_57 dX1_indexOf_4 (q := 7) rfl (fun v1_ => ?_)
  refine s_ic_ge o (tgt := 28) dX1_indexOf_7 (by decide) (q := 10) rfl ?_ ?_
  · refine s_iconst o dX1_indexOf_28 (v := (-1 : Int32)) (by decide) (q := 29) rfl ?_
    exact s_iret o dX1_indexOf_29
  · refine s_aload_n o 0 rfl dX1_indexOf_10 (q := 11) rfl ?_
    refine s_gr o kf_X1_33 dX1_indexOf_11 (q := 14) rfl (fun a2_ => ?_)
    refine s_iload_n o 2 rfl dX1_indexOf_14 (q := 15) rfl ?_
    refine s_iald o dX1_indexOf_15 (q := 16) rfl (fun v3_ => ?_)
    refine s_iload_n o 1 rfl dX1_indexOf_16 (q := 17) rfl ?_
    refine s_ic_ne o (tgt := 22) dX1_indexOf_17 (by decide) (q := 20) rfl ?_ ?_
    · refine s_iinc o 2 rfl (v := (1 : Int32)) (by decide) [1, 2, 0] (lv' := fun v4_ => [(0, rf (xG X) x0), (1, .int x1), (2, .int v4_)]) (fun _ => rfl) dX1_indexOf_22 (by decide) (q := 25) rfl (fun v4_ => ?_)
      refine s_goto o (tgt := 2) dX1_indexOf_25 (by decide) ?_
      exact s_sub [0, 1, 2] rfl (hk2 x0 x1 v4_ h)
    · refine s_iload_n o 2 rfl dX1_indexOf_20 (q := 21) rfl ?_
      exact s_iret o dX1_indexOf_21
theorem tl_X1_indexOf_2 {X : Cx} (o : Ok X RX1 cX1_indexOf 3 0 0 0 0 (some .int)) (f : Nat)  : ∀ (n : Nat) (x0 : Nat) (x1 : Int32) (x2 : Int32) (h : Hp), Sim X (z_Zi X 0 0) 0 0 2 [(0, rf (xG X) x0), (1, .int x1), (2, .int x2)] [] h (l_X1_indexOf_2 f n x0 x1 x2 h) := by
  intro n
  induction n with
  | zero => intro x0 x1 x2 h; exact s_none
  | succ n ih => intro x0 x1 x2 h; exact t_X1_indexOf_2 o f  ih x0 x1 x2 h
set_option maxRecDepth 20000 in
theorem t_X1_indexOf_0 {X : Cx} (o : Ok X RX1 cX1_indexOf 3 0 0 0 0 (some .int)) (f : Nat)  (x0 : Nat) (x1 : Int32) (h : Hp) : Sim X (z_Zi X 0 0) 0 0 0 [(0, rf (xG X) x0), (1, .int x1)] [] h (f_X1_indexOf f x0 x1 h) := by
  unfold f_X1_indexOf
  refine s_iconst o dX1_indexOf_0 (v := (0 : Int32)) (by decide) (q := 1) rfl ?_
  refine s_istore_n o [1, 2, 0] (lv' := [(0, rf (xG X) x0), (1, .int x1), (2, .int (0 : Int32))]) rfl dX1_indexOf_1 (by decide) (q := 2) rfl ?_
  exact s_sub [0, 1, 2] rfl (tl_X1_indexOf_2 o f f x0 x1 (0 : Int32) h)
theorem c_X1_indexOf (G : Gx) (f : Nat) (x0 : Nat) (x1 : Int32) (h : Hp) : z_M z_qi G yX1_indexOf cX1_indexOf 3 (some .int) 0 0 0 0 [rf G x0, .int x1] h (f_X1_indexOf f x0 x1 h) :=
  z_met (by decide +kernel) (Nat.le_of_ble_eq_true rfl) (fun X hG hn o hnm => by
    subst hG
    show Sim X (z_Zi X 0 0) 0 0 0 [(0, rf (xG X) x0), (1, .int x1)] [] h _
    exact s_sub [0, 1] rfl (t_X1_indexOf_0 o f x0 x1 h))
