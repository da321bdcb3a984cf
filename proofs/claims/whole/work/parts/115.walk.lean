/-! SixMapsModel.takeGoal()I -/
def b_X6_takeGoal_41 (f : Nat)  (x1 : Int32) (h : Hp) : Option (Int32 × Hp) :=
  some (x1, h)
def b_X6_takeGoal_4 (f : Nat) (k4 : Nat → Int32 → Int32 → Hp → Option (Int32 × Hp)) (x0 : Nat) (x1 : Int32) (x2 : Int32) (h : Hp) : Option (Int32 × Hp) :=
  if (3 : Int32) ≤ x2 then
  (b_X6_takeGoal_41 f x1 h)
  else
  (if ¬ x1 = 0 then
  (b_X6_takeGoal_41 f x1 h)
  else
  ((q_gi h x0 6 26).bind fun v1_ =>
  q_on h x0 6 (
  bi (f_X6_takeNumber f x0 (0 : Int32) (v1_ - (1 : Int32)) h) fun v4_ h3_ =>
  (q_gr h3_ x0 6 35).bind fun a5_ =>
  (q_gi h3_ x0 6 24).bind fun v6_ =>
  (q_as h3_ a5_ 9 x2 v6_).bind fun h7_ =>
  lt (x2 + (1 : Int32)) fun v8_ =>
  k4 x0 v4_ v8_ h7_)))
def l_X6_takeGoal_4 (f : Nat)  : Nat → Nat → Int32 → Int32 → Hp → Option (Int32 × Hp)
  | 0, _, _, _, _ => none
  | n + 1, x0, x1, x2, h => b_X6_takeGoal_4 f  (l_X6_takeGoal_4 f  n) x0 x1 x2 h
def f_X6_takeGoal (f : Nat)  (x0 : Nat) (h : Hp) : Option (Int32 × Hp) :=
  l_X6_takeGoal_4 f f x0 (0 : Int32) (0 : Int32) h
set_option maxRecDepth 20000 in
theorem t_X6_takeGoal_41 {X : Cx} (o : Ok X RX6 cX6_takeGoal 3 2 48 0 0 (some .int)) (f : Nat)  (x1 : Int32) (h : Hp) : Sim X (z_Zi X 0 0) 0 0 41 [(1, .int x1)] [] h (b_X6_takeGoal_41 f x1 h) := by
  unfold b_X6_takeGoal_41
  refine s_iload_n o 0 rfl dX6_takeGoal_41 (q := 42) rfl ?_
  exact s_iret o dX6_takeGoal_42
set_option maxRecDepth 20000 in
theorem t_X6_takeGoal_4 {X : Cx} (o : Ok X RX6 cX6_takeGoal 3 2 48 0 0 (some .int)) (f : Nat) {k4 : Nat → Int32 → Int32 → Hp → Option (Int32 × Hp)} (hk4 : ∀ (x0 : Nat) (x1 : Int32) (x2 : Int32) (h : Hp), Sim X (z_Zi X 0 0) 0 0 4 [(0, rf (xG X) x0), (1, .int x1), (2, .int x2)] [] h (k4 x0 x1 x2 h)) (x0 : Nat) (x1 : Int32) (x2 : Int32) (h : Hp) : Sim X (z_Zi X 0 0) 0 0 4 [(0, rf (xG X) x0), (1, .int x1), (2, .int x2)] [] h (b_X6_takeGoal_4 f k4 x0 x1 x2 h) := by
  unfold b_X6_takeGoal_4
  refine s_iload_n o 2 rfl dX6_takeGoal_4 (q := 5) rfl ?_
  refine s_iconst o dX6_takeGoal_5 (v := (3 : Int32)) (by decide) (q := 6) rfl ?_
  refine s_ic_ge o (tgt := 41) dX6_takeGoal_6 (by decide) (q := 9) rfl ?_ ?_
  · exact s_sub [1] rfl (t_X6_takeGoal_41 o f x1 h)
  · refine s_iload_n o 1 rfl dX6_takeGoal_9 (q := 10) rfl ?_
    refine s_if_ne o (tgt := 41) dX6_takeGoal_10 (by decide) (q := 13) rfl ?_ ?_
    · exact s_sub [1] rfl (t_X6_takeGoal_41 o f x1 h)
    · refine s_aload_n o 0 rfl dX6_takeGoal_13 (q := 14) rfl ?_
      refine s_iconst o dX6_takeGoal_14 (v := (0 : Int32)) (by decide) (q := 15) rfl ?_
      refine s_aload_n o 0 rfl dX6_takeGoal_15 (q := 16) rfl ?_
      refine s_gi o kf_X6_176 dX6_takeGoal_16 (q := 19) rfl (fun v1_ => ?_)
      refine s_iconst o dX6_takeGoal_19 (v := (1 : Int32)) (by decide) (q := 20) rfl ?_
      refine s_isub o dX6_takeGoal_20 (q := 21) rfl ?_
      refine s_on (fun hk2_ => ?_)
      refine s_bi (fun r0 hr0 => runV o hk2_ cv_X6_173 (c_X6_takeNumber (xG X) f x0 (0 : Int32) (v1_ - (1 : Int32)) h (xl X) r0 hr0) ⟨Nat.le_of_ble_eq_true rfl, Nat.le_of_ble_eq_true rfl⟩ rfl rfl (Nat.le_of_ble_eq_true rfl) dX6_takeGoal_21 ⟨Nat.le_of_ble_eq_true rfl, Nat.le_of_ble_eq_true rfl⟩) (q := 24) rfl (cs' := 0) rfl (sl' := 0) rfl (fun v4_ h3_ => ?_)
      refine s_istore_n o [1, 0, 2] (lv' := [(0, rf (xG X) x0), (1, .int v4_), (2, .int x2)]) rfl dX6_takeGoal_24 (by decide) (q := 25) rfl ?_
      refine s_aload_n o 0 rfl dX6_takeGoal_25 (q := 26) rfl ?_
      refine s_gr o kf_X6_69 dX6_takeGoal_26 (q := 29) rfl (fun a5_ => ?_)
      refine s_iload_n o 2 rfl dX6_takeGoal_29 (q := 30) rfl ?_
      refine s_aload_n o 0 rfl dX6_takeGoal_30 (q := 31) rfl ?_
      refine s_gi o kf_X6_169 dX6_takeGoal_31 (q := 34) rfl (fun v6_ => ?_)
      refine s_iast o dX6_takeGoal_34 (q := 35) rfl (fun h7_ => ?_)
      refine s_iinc o 2 rfl (v := (1 : Int32)) (by decide) [1, 2, 0] (lv' := fun v8_ => [(0, rf (xG X) x0), (1, .int v4_), (2, .int v8_)]) (fun _ => rfl) dX6_takeGoal_35 (by decide) (q := 38) rfl (fun v8_ => ?_)
      refine s_goto o (tgt := 4) dX6_takeGoal_38 (by decide) ?_
      exact s_sub [0, 1, 2] rfl (hk4 x0 v4_ v8_ h7_)
theorem tl_X6_takeGoal_4 {X : Cx} (o : Ok X RX6 cX6_takeGoal 3 2 48 0 0 (some .int)) (f : Nat)  : ∀ (n : Nat) (x0 : Nat) (x1 : Int32) (x2 : Int32) (h : Hp), Sim X (z_Zi X 0 0) 0 0 4 [(0, rf (xG X) x0), (1, .int x1), (2, .int x2)] [] h (l_X6_takeGoal_4 f n x0 x1 x2 h) := by
  intro n
  induction n with
  | zero => intro x0 x1 x2 h; exact s_none
  | succ n ih => intro x0 x1 x2 h; exact t_X6_takeGoal_4 o f  ih x0 x1 x2 h
set_option maxRecDepth 20000 in
theorem t_X6_takeGoal_0 {X : Cx} (o : Ok X RX6 cX6_takeGoal 3 2 48 0 0 (some .int)) (f : Nat)  (x0 : Nat) (h : Hp) : Sim X (z_Zi X 0 0) 0 0 0 [(0, rf (xG X) x0)] [] h (f_X6_takeGoal f x0 h) := by
  unfold f_X6_takeGoal
  refine s_iconst o dX6_takeGoal_0 (v := (0 : Int32)) (by decide) (q := 1) rfl ?_
  refine s_istore_n o [1, 0] (lv' := [(0, rf (xG X) x0), (1, .int (0 : Int32))]) rfl dX6_takeGoal_1 (by decide) (q := 2) rfl ?_
  refine s_iconst o dX6_takeGoal_2 (v := (0 : Int32)) (by decide) (q := 3) rfl ?_
  refine s_istore_n o [1, 2, 0] (lv' := [(0, rf (xG X) x0), (1, .int (0 : Int32)), (2, .int (0 : Int32))]) rfl dX6_takeGoal_3 (by decide) (q := 4) rfl ?_
  exact s_sub [0, 1, 2] rfl (tl_X6_takeGoal_4 o f f x0 (0 : Int32) (0 : Int32) h)
theorem c_X6_takeGoal (G : Gx) (f : Nat) (x0 : Nat) (h : Hp) : z_M z_qi G yX6_takeGoal cX6_takeGoal 3 (some .int) 2 48 0 0 [rf G x0] h (f_X6_takeGoal f x0 h) :=
  z_met (by decide +kernel) (Nat.le_of_ble_eq_true rfl) (fun X hG hn o hnm => by
    subst hG
    show Sim X (z_Zi X 0 0) 0 0 0 [(0, rf (xG X) x0)] [] h _
    exact s_sub [0] rfl (t_X6_takeGoal_0 o f x0 h))
/-! SixMapsModel.takeLie()I -/
def b_X6_takeLie_110 (f : Nat)  (x0 : Nat) (x2 : Int32) (h : Hp) : Option (Int32 × Hp) :=
  (q_gr h x0 6 29).bind fun a1_ =>
  (q_gi h x0 6 40).bind fun v2_ =>
  (q_as h a1_ 9 v2_ x2).bind fun h3_ =>
  (q_gr h3_ x0 6 30).bind fun a4_ =>
  (q_gi h3_ x0 6 40).bind fun v5_ =>
  (q_gi h3_ x0 6 24).bind fun v6_ =>
  (q_as h3_ a4_ 9 v5_ v6_).bind fun h7_ =>
  (q_gr h7_ x0 6 31).bind fun a8_ =>
  (q_gi h7_ x0 6 40).bind fun v9_ =>
  (q_as h7_ a8_ 10 v9_ (vp_nar .boolean (1 : Int32))).bind fun h10_ =>
  (q_gi h10_ x0 6 33).bind fun v11_ =>
  (q_gi h10_ x0 6 40).bind fun v12_ =>
  q_nz (9 : Int32) (
  (q_pi h10_ x0 6 33 (v11_ ||| ((1 : Int32) <<< ((v12_ / (9 : Int32)) &&& 31)))).bind fun h13_ =>
  (q_gi h13_ x0 6 32).bind fun v14_ =>
  (q_pi h13_ x0 6 32 (v14_ + (1 : Int32))).bind fun h15_ =>
  some ((0 : Int32), h15_))
def b_X6_takeLie_42 (f : Nat)  (x0 : Nat) (x2 : Int32) (y0 : Int32) (h : Hp) : Option (Int32 × Hp) :=
  if y0 ≤ 0 then
  ((q_gi h x0 6 40).bind fun v1_ =>
  q_nz (9 : Int32) (
  lt (v1_ - v1_ / (9 : Int32) * (9 : Int32)) fun v2_ =>
  (q_gr h x0 6 27).bind fun a3_ =>
  (q_ai h a3_ 9 v2_).bind fun v4_ =>
  bi (f_X6_size f (x2 - v4_) h) fun v6_ h5_ =>
  (q_gi h5_ x0 6 36).bind fun v7_ =>
  if ((2 : Int32) * v7_) < v6_ then
  (b_X6_takeLie_110 f x0 x2 h5_)
  else
  ((q_gi h5_ x0 6 24).bind fun v8_ =>
  (q_gr h5_ x0 6 28).bind fun a9_ =>
  (q_ai h5_ a9_ 9 v2_).bind fun v10_ =>
  bi (f_X6_size f (v8_ - v10_) h5_) fun v12_ h11_ =>
  (q_gi h11_ x0 6 36).bind fun v13_ =>
  if ((2 : Int32) * v13_) < v12_ then
  (b_X6_takeLie_110 f x0 x2 h11_)
  else
  ((q_gi h11_ x0 6 25).bind fun v14_ =>
  q_on h11_ x0 6 (
  bi (f_X6_fails f x0 (4 : Int32) v14_ h11_) fun v17_ h16_ =>
  some (v17_, h16_))))))
  else
  (some (y0, h))
def b_X6_takeLie_21 (f : Nat)  (x0 : Nat) (y0 : Int32) (h : Hp) : Option (Int32 × Hp) :=
  (q_gi h x0 6 24).bind fun v1_ =>
  if y0 ≤ 0 then
  (q_on h x0 6 (
  bi (f_X6_takeNumber f x0 (0 : Int32) (99 : Int32) h) fun v4_ h3_ =>
  b_X6_takeLie_42 f x0 v1_ v4_ h3_))
  else
  (b_X6_takeLie_42 f x0 v1_ y0 h)
def f_X6_takeLie (f : Nat)  (x0 : Nat) (h : Hp) : Option (Int32 × Hp) :=
  q_on h x0 6 (
  bi (f_X6_takeCorner f x0 (1 : Int32) h) fun v3_ h2_ =>
  if v3_ ≤ 0 then
  (q_on h2_ x0 6 (
  bi (f_X6_takeNumber f x0 (0 : Int32) (99 : Int32) h2_) fun v6_ h5_ =>
  b_X6_takeLie_21 f x0 v6_ h5_))
  else
  (b_X6_takeLie_21 f x0 v3_ h2_))
set_option maxRecDepth 20000 in
theorem t_X6_takeLie_110 {X : Cx} (o : Ok X RX6 cX6_takeLie 4 3 71 0 0 (some .int)) (f : Nat)  (x0 : Nat) (x2 : Int32) (h : Hp) : Sim X (z_Zi X 0 0) 0 0 110 [(0, rf (xG X) x0), (2, .int x2)] [] h (b_X6_takeLie_110 f x0 x2 h) := by
  unfold b_X6_takeLie_110
  refine s_aload_n o 0 rfl dX6_takeLie_110 (q := 111) rfl ?_
  refine s_gr o kf_X6_59 dX6_takeLie_111 (q := 114) rfl (fun a1_ => ?_)
  refine s_aload_n o 0 rfl dX6_takeLie_114 (q := 115) rfl ?_
  refine s_gi o kf_X6_186 dX6_takeLie_115 (q := 118) rfl (fun v2_ => ?_)
  refine s_iload_n o 1 rfl dX6_takeLie_118 (q := 119) rfl ?_
  refine s_iast o dX6_takeLie_119 (q := 120) rfl (fun h3_ => ?_)
  refine s_aload_n o 0 rfl dX6_takeLie_120 (q := 121) rfl ?_
  refine s_gr o kf_X6_62 dX6_takeLie_121 (q := 124) rfl (fun a4_ => ?_)
  refine s_aload_n o 0 rfl dX6_takeLie_124 (q := 125) rfl ?_
  refine s_gi o kf_X6_186 dX6_takeLie_125 (q := 128) rfl (fun v5_ => ?_)
  refine s_aload_n o 0 rfl dX6_takeLie_128 (q := 129) rfl ?_
  refine s_gi o kf_X6_169 dX6_takeLie_129 (q := 132) rfl (fun v6_ => ?_)
  refine s_iast o dX6_takeLie_132 (q := 133) rfl (fun h7_ => ?_)
  refine s_aload_n o 0 rfl dX6_takeLie_133 (q := 134) rfl ?_
  refine s_gr o kf_X6_65 dX6_takeLie_134 (q := 137) rfl (fun a8_ => ?_)
  refine s_aload_n o 0 rfl dX6_takeLie_137 (q := 138) rfl ?_
  refine s_gi o kf_X6_186 dX6_takeLie_138 (q := 141) rfl (fun v9_ => ?_)
  refine s_iconst o dX6_takeLie_141 (v := (1 : Int32)) (by decide) (q := 142) rfl ?_
  refine s_zast o dX6_takeLie_142 (q := 143) rfl (fun h10_ => ?_)
  refine s_aload_n o 0 rfl dX6_takeLie_143 (q := 144) rfl ?_
  refine s_dup o rfl dX6_takeLie_144 (q := 145) rfl ?_
  refine s_gi o kf_X6_179 dX6_takeLie_145 (q := 148) rfl (fun v11_ => ?_)
  refine s_iconst o dX6_takeLie_148 (v := (1 : Int32)) (by decide) (q := 149) rfl ?_
  refine s_aload_n o 0 rfl dX6_takeLie_149 (q := 150) rfl ?_
  refine s_gi o kf_X6_186 dX6_takeLie_150 (q := 153) rfl (fun v12_ => ?_)
  refine s_bipush o dX6_takeLie_153 (v := (9 : Int32)) (by decide) (q := 155) rfl ?_
  refine s_idiv o dX6_takeLie_155 (q := 156) rfl ?_
  refine s_ishl o dX6_takeLie_156 (q := 157) rfl ?_
  refine s_ior o dX6_takeLie_157 (q := 158) rfl ?_
  refine s_pi o kf_X6_179 dX6_takeLie_158 (q := 161) rfl (fun h13_ => ?_)
  refine s_aload_n o 0 rfl dX6_takeLie_161 (q := 162) rfl ?_
  refine s_dup o rfl dX6_takeLie_162 (q := 163) rfl ?_
  refine s_gi o kf_X6_200 dX6_takeLie_163 (q := 166) rfl (fun v14_ => ?_)
  refine s_iconst o dX6_takeLie_166 (v := (1 : Int32)) (by decide) (q := 167) rfl ?_
  refine s_iadd o dX6_takeLie_167 (q := 168) rfl ?_
  refine s_pi o kf_X6_200 dX6_takeLie_168 (q := 171) rfl (fun h15_ => ?_)
  refine s_iconst o dX6_takeLie_171 (v := (0 : Int32)) (by decide) (q := 172) rfl ?_
  exact s_iret o dX6_takeLie_172
set_option maxRecDepth 20000 in
theorem t_X6_takeLie_42 {X : Cx} (o : Ok X RX6 cX6_takeLie 4 3 71 0 0 (some .int)) (f : Nat)  (x0 : Nat) (x2 : Int32) (y0 : Int32) (h : Hp) : Sim X (z_Zi X 0 0) 0 0 42 [(0, rf (xG X) x0), (2, .int x2)] [.int y0] h (b_X6_takeLie_42 f x0 x2 y0 h) := by
  unfold b_X6_takeLie_42
  refine s_istore_n o [1, 0, 2] (lv' := [(0, rf (xG X) x0), (1, .int y0), (2, .int x2)]) rfl dX6_takeLie_42 (by decide) (q := 43) rfl ?_
  refine s_iload_n o 1 rfl dX6_takeLie_43 (q := 44) rfl ?_
  refine s_if_le o (tgt := 49) dX6_takeLie_44 (by decide) (q := 47) rfl ?_ ?_
  · refine s_aload_n o 0 rfl dX6_takeLie_49 (q := 50) rfl ?_
    refine s_gi o kf_X6_186 dX6_takeLie_50 (q := 53) rfl (fun v1_ => ?_)
    refine s_bipush o dX6_takeLie_53 (v := (9 : Int32)) (by decide) (q := 55) rfl ?_
    refine s_irem o dX6_takeLie_55 (q := 56) rfl ?_
    refine s_let (fun v2_ => ?_)
    refine s_istore_n o [1, 2, 3, 0] (lv' := [(0, rf (xG X) x0), (1, .int y0), (2, .int x2), (3, .int v2_)]) rfl dX6_takeLie_56 (by decide) (q := 57) rfl ?_
    refine s_iload_n o 2 rfl dX6_takeLie_57 (q := 58) rfl ?_
    refine s_aload_n o 0 rfl dX6_takeLie_58 (q := 59) rfl ?_
    refine s_gr o kf_X6_53 dX6_takeLie_59 (q := 62) rfl (fun a3_ => ?_)
    refine s_iload_n o 3 rfl dX6_takeLie_62 (q := 63) rfl ?_
    refine s_iald o dX6_takeLie_63 (q := 64) rfl (fun v4_ => ?_)
    refine s_isub o dX6_takeLie_64 (q := 65) rfl ?_
    refine s_bi (fun r0 hr0 => runS o cs_X6_193 (c_X6_size (xG X) f (x2 - v4_) h (xl X) r0 hr0) ⟨Nat.le_of_ble_eq_true rfl, Nat.le_of_ble_eq_true rfl⟩ rfl rfl (Nat.le_of_ble_eq_true rfl) dX6_takeLie_65 ⟨Nat.le_of_ble_eq_true rfl, Nat.le_of_ble_eq_true rfl⟩) (q := 68) rfl (cs' := 0) rfl (sl' := 0) rfl (fun v6_ h5_ => ?_)
    refine s_iconst o dX6_takeLie_68 (v := (2 : Int32)) (by decide) (q := 69) rfl ?_
    refine s_aload_n o 0 rfl dX6_takeLie_69 (q := 70) rfl ?_
    refine s_gi o kf_X6_197 dX6_takeLie_70 (q := 73) rfl (fun v7_ => ?_)
    refine s_imul o dX6_takeLie_73 (q := 74) rfl ?_
    refine s_ic_gt o (tgt := 110) dX6_takeLie_74 (by decide) (q := 77) rfl ?_ ?_
    · exact s_sub [0, 2] rfl (t_X6_takeLie_110 o f x0 x2 h5_)
    · refine s_aload_n o 0 rfl dX6_takeLie_77 (q := 78) rfl ?_
      refine s_gi o kf_X6_169 dX6_takeLie_78 (q := 81) rfl (fun v8_ => ?_)
      refine s_aload_n o 0 rfl dX6_takeLie_81 (q := 82) rfl ?_
      refine s_gr o kf_X6_56 dX6_takeLie_82 (q := 85) rfl (fun a9_ => ?_)
      refine s_iload_n o 3 rfl dX6_takeLie_85 (q := 86) rfl ?_
      refine s_iald o dX6_takeLie_86 (q := 87) rfl (fun v10_ => ?_)
      refine s_isub o dX6_takeLie_87 (q := 88) rfl ?_
      refine s_bi (fun r0 hr0 => runS o cs_X6_193 (c_X6_size (xG X) f (v8_ - v10_) h5_ (xl X) r0 hr0) ⟨Nat.le_of_ble_eq_true rfl, Nat.le_of_ble_eq_true rfl⟩ rfl rfl (Nat.le_of_ble_eq_true rfl) dX6_takeLie_88 ⟨Nat.le_of_ble_eq_true rfl, Nat.le_of_ble_eq_true rfl⟩) (q := 91) rfl (cs' := 0) rfl (sl' := 0) rfl (fun v12_ h11_ => ?_)
      refine s_iconst o dX6_takeLie_91 (v := (2 : Int32)) (by decide) (q := 92) rfl ?_
      refine s_aload_n o 0 rfl dX6_takeLie_92 (q := 93) rfl ?_
      refine s_gi o kf_X6_197 dX6_takeLie_93 (q := 96) rfl (fun v13_ => ?_)
      refine s_imul o dX6_takeLie_96 (q := 97) rfl ?_
      refine s_ic_gt o (tgt := 110) dX6_takeLie_97 (by decide) (q := 100) rfl ?_ ?_
      · exact s_sub [0, 2] rfl (t_X6_takeLie_110 o f x0 x2 h11_)
      · refine s_aload_n o 0 rfl dX6_takeLie_100 (q := 101) rfl ?_
        refine s_iconst o dX6_takeLie_101 (v := (4 : Int32)) (by decide) (q := 102) rfl ?_
        refine s_aload_n o 0 rfl dX6_takeLie_102 (q := 103) rfl ?_
        refine s_gi o kf_X6_166 dX6_takeLie_103 (q := 106) rfl (fun v14_ => ?_)
        refine s_on (fun hk15_ => ?_)
        refine s_bi (fun r0 hr0 => runV o hk15_ cv_X6_162 (c_X6_fails (xG X) f x0 (4 : Int32) v14_ h11_ (xl X) r0 hr0) ⟨Nat.le_of_ble_eq_true rfl, Nat.le_of_ble_eq_true rfl⟩ rfl rfl (Nat.le_of_ble_eq_true rfl) dX6_takeLie_106 ⟨Nat.le_of_ble_eq_true rfl, Nat.le_of_ble_eq_true rfl⟩) (q := 109) rfl (cs' := 0) rfl (sl' := 0) rfl (fun v17_ h16_ => ?_)
        exact s_iret o dX6_takeLie_109
  · refine s_iload_n o 1 rfl dX6_takeLie_47 (q := 48) rfl ?_
    exact s_iret o dX6_takeLie_48
set_option maxRecDepth 20000 in
theorem t_X6_takeLie_21 {X : Cx} (o : Ok X RX6 cX6_takeLie 4 3 71 0 0 (some .int)) (f : Nat)  (x0 : Nat) (y0 : Int32) (h : Hp) : Sim X (z_Zi X 0 0) 0 0 21 [(0, rf (xG X) x0)] [.int y0] h (b_X6_takeLie_21 f x0 y0 h) := by
  unfold b_X6_takeLie_21
  refine s_istore_n o [1, 0] (lv' := [(0, rf (xG X) x0), (1, .int y0)]) rfl dX6_takeLie_21 (by decide) (q := 22) rfl ?_
  refine s_aload_n o 0 rfl dX6_takeLie_22 (q := 23) rfl ?_
  refine s_gi o kf_X6_169 dX6_takeLie_23 (q := 26) rfl (fun v1_ => ?_)
  refine s_istore_n o [1, 2, 0] (lv' := [(0, rf (xG X) x0), (1, .int y0), (2, .int v1_)]) rfl dX6_takeLie_26 (by decide) (q := 27) rfl ?_
  refine s_iload_n o 1 rfl dX6_takeLie_27 (q := 28) rfl ?_
  refine s_if_le o (tgt := 35) dX6_takeLie_28 (by decide) (q := 31) rfl ?_ ?_
  · refine s_aload_n o 0 rfl dX6_takeLie_35 (q := 36) rfl ?_
    refine s_iconst o dX6_takeLie_36 (v := (0 : Int32)) (by decide) (q := 37) rfl ?_
    refine s_bipush o dX6_takeLie_37 (v := (99 : Int32)) (by decide) (q := 39) rfl ?_
    refine s_on (fun hk2_ => ?_)
    refine s_bi (fun r0 hr0 => runV o hk2_ cv_X6_173 (c_X6_takeNumber (xG X) f x0 (0 : Int32) (99 : Int32) h (xl X) r0 hr0) ⟨Nat.le_of_ble_eq_true rfl, Nat.le_of_ble_eq_true rfl⟩ rfl rfl (Nat.le_of_ble_eq_true rfl) dX6_takeLie_39 ⟨Nat.le_of_ble_eq_true rfl, Nat.le_of_ble_eq_true rfl⟩) (q := 42) rfl (cs' := 0) rfl (sl' := 0) rfl (fun v4_ h3_ => ?_)
    exact s_sub [0, 2] rfl (t_X6_takeLie_42 o f x0 v1_ v4_ h3_)
  · refine s_iload_n o 1 rfl dX6_takeLie_31 (q := 32) rfl ?_
    refine s_goto o (tgt := 42) dX6_takeLie_32 (by decide) ?_
    exact s_sub [0, 2] rfl (t_X6_takeLie_42 o f x0 v1_ y0 h)
set_option maxRecDepth 20000 in
theorem t_X6_takeLie_0 {X : Cx} (o : Ok X RX6 cX6_takeLie 4 3 71 0 0 (some .int)) (f : Nat)  (x0 : Nat) (h : Hp) : Sim X (z_Zi X 0 0) 0 0 0 [(0, rf (xG X) x0)] [] h (f_X6_takeLie f x0 h) := by
  unfold f_X6_takeLie
  refine s_aload_n o 0 rfl dX6_takeLie_0 (q := 1) rfl ?_
  refine s_iconst o dX6_takeLie_1 (v := (1 : Int32)) (by decide) (q := 2) rfl ?_
  refine s_on (fun hk1_ => ?_)
  refine s_bi (fun r0 hr0 => runV o hk1_ cv_X6_189 (c_X6_takeCorner (xG X) f x0 (1 : Int32) h (xl X) r0 hr0) ⟨Nat.le_of_ble_eq_true rfl, Nat.le_of_ble_eq_true rfl⟩ rfl rfl (Nat.le_of_ble_eq_true rfl) dX6_takeLie_2 ⟨Nat.le_of_ble_eq_true rfl, Nat.le_of_ble_eq_true rfl⟩) (q := 5) rfl (cs' := 0) rfl (sl' := 0) rfl (fun v3_ h2_ => ?_)
  refine s_istore_n o [1, 0] (lv' := [(0, rf (xG X) x0), (1, .int v3_)]) rfl dX6_takeLie_5 (by decide) (q := 6) rfl ?_
  refine s_iload_n o 1 rfl dX6_takeLie_6 (q := 7) rfl ?_
  refine s_if_le o (tgt := 14) dX6_takeLie_7 (by decide) (q := 10) rfl ?_ ?_
  · refine s_aload_n o 0 rfl dX6_takeLie_14 (q := 15) rfl ?_
    refine s_iconst o dX6_takeLie_15 (v := (0 : Int32)) (by decide) (q := 16) rfl ?_
    refine s_bipush o dX6_takeLie_16 (v := (99 : Int32)) (by decide) (q := 18) rfl ?_
    refine s_on (fun hk4_ => ?_)
    refine s_bi (fun r0 hr0 => runV o hk4_ cv_X6_173 (c_X6_takeNumber (xG X) f x0 (0 : Int32) (99 : Int32) h2_ (xl X) r0 hr0) ⟨Nat.le_of_ble_eq_true rfl, Nat.le_of_ble_eq_true rfl⟩ rfl rfl (Nat.le_of_ble_eq_true rfl) dX6_takeLie_18 ⟨Nat.le_of_ble_eq_true rfl, Nat.le_of_ble_eq_true rfl⟩) (q := 21) rfl (cs' := 0) rfl (sl' := 0) rfl (fun v6_ h5_ => ?_)
    exact s_sub [0] rfl (t_X6_takeLie_21 o f x0 v6_ h5_)
  · refine s_iload_n o 1 rfl dX6_takeLie_10 (q := 11) rfl ?_
    refine s_goto o (tgt := 21) dX6_takeLie_11 (by decide) ?_
    exact s_sub [0] rfl (t_X6_takeLie_21 o f x0 v3_ h2_)
theorem c_X6_takeLie (G : Gx) (f : Nat) (x0 : Nat) (h : Hp) : z_M z_qi G yX6_takeLie cX6_takeLie 4 (some .int) 3 71 0 0 [rf G x0] h (f_X6_takeLie f x0 h) :=
  z_met (by decide +kernel) (Nat.le_of_ble_eq_true rfl) (fun X hG hn o hnm => by
    subst hG
    show Sim X (z_Zi X 0 0) 0 0 0 [(0, rf (xG X) x0)] [] h _
    exact s_sub [0] rfl (t_X6_takeLie_0 o f x0 h))
/-! SixMapsModel.takeMark()I -/
def b_X6_takeMark_52 (f : Nat) (k52 : Nat → Int32 → Int32 → Hp → Option (Int32 × Hp)) (x0 : Nat) (x1 : Int32) (x2 : Int32) (h : Hp) : Option (Int32 × Hp) :=
  if (6 : Int32) ≤ x2 then
  ((q_gi h x0 6 26).bind fun v1_ =>
  (q_pi h x0 6 26 (v1_ + (1 : Int32))).bind fun h2_ =>
  some (x1, h2_))
  else
  ((q_gr h x0 6 31).bind fun a3_ =>
  (q_gi h x0 6 26).bind fun v4_ =>
  (q_as h a3_ 10 (((9 : Int32) * x2) + v4_) (vp_nar .boolean (0 : Int32))).bind fun h5_ =>
  lt (x2 + (1 : Int32)) fun v6_ =>
  k52 x0 x1 v6_ h5_)
def l_X6_takeMark_52 (f : Nat)  : Nat → Nat → Int32 → Int32 → Hp → Option (Int32 × Hp)
  | 0, _, _, _, _ => none
  | n + 1, x0, x1, x2, h => b_X6_takeMark_52 f  (l_X6_takeMark_52 f  n) x0 x1 x2 h
def b_X6_takeMark_36 (f : Nat)  (x0 : Nat) (y0 : Int32) (h : Hp) : Option (Int32 × Hp) :=
  (q_gr h x0 6 28).bind fun a1_ =>
  (q_gi h x0 6 26).bind fun v2_ =>
  (q_gi h x0 6 24).bind fun v3_ =>
  (q_as h a1_ 9 v2_ v3_).bind fun h4_ =>
  l_X6_takeMark_52 f f x0 y0 (0 : Int32) h4_
def f_X6_takeMark (f : Nat)  (x0 : Nat) (h : Hp) : Option (Int32 × Hp) :=
  q_on h x0 6 (
  bi (f_X6_takeNumber f x0 (0 : Int32) (99 : Int32) h) fun v3_ h2_ =>
  (q_gr h2_ x0 6 27).bind fun a4_ =>
  (q_gi h2_ x0 6 26).bind fun v5_ =>
  (q_gi h2_ x0 6 24).bind fun v6_ =>
  (q_as h2_ a4_ 9 v5_ v6_).bind fun h7_ =>
  if v3_ ≤ 0 then
  (q_on h7_ x0 6 (
  bi (f_X6_takeNumber f x0 (0 : Int32) (99 : Int32) h7_) fun v10_ h9_ =>
  b_X6_takeMark_36 f x0 v10_ h9_))
  else
  (b_X6_takeMark_36 f x0 v3_ h7_))
set_option maxRecDepth 20000 in
theorem t_X6_takeMark_52 {X : Cx} (o : Ok X RX6 cX6_takeMark 3 2 48 0 0 (some .int)) (f : Nat) {k52 : Nat → Int32 → Int32 → Hp → Option (Int32 × Hp)} (hk52 : ∀ (x0 : Nat) (x1 : Int32) (x2 : Int32) (h : Hp), Sim X (z_Zi X 0 0) 0 0 52 [(0, rf (xG X) x0), (1, .int x1), (2, .int x2)] [] h (k52 x0 x1 x2 h)) (x0 : Nat) (x1 : Int32) (x2 : Int32) (h : Hp) : Sim X (z_Zi X 0 0) 0 0 52 [(0, rf (xG X) x0), (1, .int x1), (2, .int x2)] [] h (b_X6_takeMark_52 f k52 x0 x1 x2 h) := by
  unfold b_X6_takeMark_52
  refine s_iload_n o 2 rfl dX6_takeMark_52 (q := 53) rfl ?_
  refine s_bipush o dX6_takeMark_53 (v := (6 : Int32)) (by decide) (q := 55) rfl ?_
  refine s_ic_ge o (tgt := 79) dX6_takeMark_55 (by decide) (q := 58) rfl ?_ ?_
  · refine s_aload_n o 0 rfl dX6_takeMark_79 (q := 80) rfl ?_
    refine s_dup o rfl dX6_takeMark_80 (q := 81) rfl ?_
    refine s_gi o kf_X6_176 dX6_takeMark_81 (q := 84) rfl (fun v1_ => ?_)
    refine s_iconst o dX6_takeMark_84 (v := (1 : Int32)) (by decide) (q := 85) rfl ?_
    refine s_iadd o dX6_takeMark_85 (q := 86) rfl ?_
    refine s_pi o kf_X6_176 dX6_takeMark_86 (q := 89) rfl (fun h2_ => ?_)
    refine s_iload_n o 1 rfl dX6_takeMark_89 (q := 90) rfl ?_
    exact s_iret o dX6_takeMark_90
  · refine s_aload_n o 0 rfl dX6_takeMark_58 (q := 59) rfl ?_
    refine s_gr o kf_X6_65 dX6_takeMark_59 (q := 62) rfl (fun a3_ => ?_)
    refine s_bipush o dX6_takeMark_62 (v := (9 : Int32)) (by decide) (q := 64) rfl ?_
    refine s_iload_n o 2 rfl dX6_takeMark_64 (q := 65) rfl ?_
    refine s_imul o dX6_takeMark_65 (q := 66) rfl ?_
    refine s_aload_n o 0 rfl dX6_takeMark_66 (q := 67) rfl ?_
    refine s_gi o kf_X6_176 dX6_takeMark_67 (q := 70) rfl (fun v4_ => ?_)
    refine s_iadd o dX6_takeMark_70 (q := 71) rfl ?_
    refine s_iconst o dX6_takeMark_71 (v := (0 : Int32)) (by decide) (q := 72) rfl ?_
    refine s_zast o dX6_takeMark_72 (q := 73) rfl (fun h5_ => ?_)
    refine s_iinc o 2 rfl (v := (1 : Int32)) (by decide) [1, 2, 0] (lv' := fun v6_ => [(0, rf (xG X) x0), (1, .int x1), (2, .int v6_)]) (fun _ => rfl) dX6_takeMark_73 (by decide) (q := 76) rfl (fun v6_ => ?_)
    refine s_goto o (tgt := 52) dX6_takeMark_76 (by decide) ?_
    exact s_sub [0, 1, 2] rfl (hk52 x0 x1 v6_ h5_)
theorem tl_X6_takeMark_52 {X : Cx} (o : Ok X RX6 cX6_takeMark 3 2 48 0 0 (some .int)) (f : Nat)  : ∀ (n : Nat) (x0 : Nat) (x1 : Int32) (x2 : Int32) (h : Hp), Sim X (z_Zi X 0 0) 0 0 52 [(0, rf (xG X) x0), (1, .int x1), (2, .int x2)] [] h (l_X6_takeMark_52 f n x0 x1 x2 h) := by
  intro n
  induction n with
  | zero => intro x0 x1 x2 h; exact s_none
  | succ n ih => intro x0 x1 x2 h; exact t_X6_takeMark_52 o f  ih x0 x1 x2 h
set_option maxRecDepth 20000 in
theorem t_X6_takeMark_36 {X : Cx} (o : Ok X RX6 cX6_takeMark 3 2 48 0 0 (some .int)) (f : Nat)  (x0 : Nat) (y0 : Int32) (h : Hp) : Sim X (z_Zi X 0 0) 0 0 36 [(0, rf (xG X) x0)] [.int y0] h (b_X6_takeMark_36 f x0 y0 h) := by
  unfold b_X6_takeMark_36
  refine s_istore_n o [1, 0] (lv' := [(0, rf (xG X) x0), (1, .int y0)]) rfl dX6_takeMark_36 (by decide) (q := 37) rfl ?_
  refine s_aload_n o 0 rfl dX6_takeMark_37 (q := 38) rfl ?_
  refine s_gr o kf_X6_56 dX6_takeMark_38 (q := 41) rfl (fun a1_ => ?_)
  refine s_aload_n o 0 rfl dX6_takeMark_41 (q := 42) rfl ?_
  refine s_gi o kf_X6_176 dX6_takeMark_42 (q := 45) rfl (fun v2_ => ?_)
  refine s_aload_n o 0 rfl dX6_takeMark_45 (q := 46) rfl ?_
  refine s_gi o kf_X6_169 dX6_takeMark_46 (q := 49) rfl (fun v3_ => ?_)
  refine s_iast o dX6_takeMark_49 (q := 50) rfl (fun h4_ => ?_)
  refine s_iconst o dX6_takeMark_50 (v := (0 : Int32)) (by decide) (q := 51) rfl ?_
  refine s_istore_n o [1, 2, 0] (lv' := [(0, rf (xG X) x0), (1, .int y0), (2, .int (0 : Int32))]) rfl dX6_takeMark_51 (by decide) (q := 52) rfl ?_
  exact s_sub [0, 1, 2] rfl (tl_X6_takeMark_52 o f f x0 y0 (0 : Int32) h4_)
set_option maxRecDepth 20000 in
theorem t_X6_takeMark_0 {X : Cx} (o : Ok X RX6 cX6_takeMark 3 2 48 0 0 (some .int)) (f : Nat)  (x0 : Nat) (h : Hp) : Sim X (z_Zi X 0 0) 0 0 0 [(0, rf (xG X) x0)] [] h (f_X6_takeMark f x0 h) := by
  unfold f_X6_takeMark
  refine s_aload_n o 0 rfl dX6_takeMark_0 (q := 1) rfl ?_
  refine s_iconst o dX6_takeMark_1 (v := (0 : Int32)) (by decide) (q := 2) rfl ?_
  refine s_bipush o dX6_takeMark_2 (v := (99 : Int32)) (by decide) (q := 4) rfl ?_
  refine s_on (fun hk1_ => ?_)
  refine s_bi (fun r0 hr0 => runV o hk1_ cv_X6_173 (c_X6_takeNumber (xG X) f x0 (0 : Int32) (99 : Int32) h (xl X) r0 hr0) ⟨Nat.le_of_ble_eq_true rfl, Nat.le_of_ble_eq_true rfl⟩ rfl rfl (Nat.le_of_ble_eq_true rfl) dX6_takeMark_4 ⟨Nat.le_of_ble_eq_true rfl, Nat.le_of_ble_eq_true rfl⟩) (q := 7) rfl (cs' := 0) rfl (sl' := 0) rfl (fun v3_ h2_ => ?_)
  refine s_istore_n o [1, 0] (lv' := [(0, rf (xG X) x0), (1, .int v3_)]) rfl dX6_takeMark_7 (by decide) (q := 8) rfl ?_
  refine s_aload_n o 0 rfl dX6_takeMark_8 (q := 9) rfl ?_
  refine s_gr o kf_X6_53 dX6_takeMark_9 (q := 12) rfl (fun a4_ => ?_)
  refine s_aload_n o 0 rfl dX6_takeMark_12 (q := 13) rfl ?_
  refine s_gi o kf_X6_176 dX6_takeMark_13 (q := 16) rfl (fun v5_ => ?_)
  refine s_aload_n o 0 rfl dX6_takeMark_16 (q := 17) rfl ?_
  refine s_gi o kf_X6_169 dX6_takeMark_17 (q := 20) rfl (fun v6_ => ?_)
  refine s_iast o dX6_takeMark_20 (q := 21) rfl (fun h7_ => ?_)
  refine s_iload_n o 1 rfl dX6_takeMark_21 (q := 22) rfl ?_
  refine s_if_le o (tgt := 29) dX6_takeMark_22 (by decide) (q := 25) rfl ?_ ?_
  · refine s_aload_n o 0 rfl dX6_takeMark_29 (q := 30) rfl ?_
    refine s_iconst o dX6_takeMark_30 (v := (0 : Int32)) (by decide) (q := 31) rfl ?_
    refine s_bipush o dX6_takeMark_31 (v := (99 : Int32)) (by decide) (q := 33) rfl ?_
    refine s_on (fun hk8_ => ?_)
    refine s_bi (fun r0 hr0 => runV o hk8_ cv_X6_173 (c_X6_takeNumber (xG X) f x0 (0 : Int32) (99 : Int32) h7_ (xl X) r0 hr0) ⟨Nat.le_of_ble_eq_true rfl, Nat.le_of_ble_eq_true rfl⟩ rfl rfl (Nat.le_of_ble_eq_true rfl) dX6_takeMark_33 ⟨Nat.le_of_ble_eq_true rfl, Nat.le_of_ble_eq_true rfl⟩) (q := 36) rfl (cs' := 0) rfl (sl' := 0) rfl (fun v10_ h9_ => ?_)
    exact s_sub [0] rfl (t_X6_takeMark_36 o f x0 v10_ h9_)
  · refine s_iload_n o 1 rfl dX6_takeMark_25 (q := 26) rfl ?_
    refine s_goto o (tgt := 36) dX6_takeMark_26 (by decide) ?_
    exact s_sub [0] rfl (t_X6_takeMark_36 o f x0 v3_ h7_)
theorem c_X6_takeMark (G : Gx) (f : Nat) (x0 : Nat) (h : Hp) : z_M z_qi G yX6_takeMark cX6_takeMark 3 (some .int) 2 48 0 0 [rf G x0] h (f_X6_takeMark f x0 h) :=
  z_met (by decide +kernel) (Nat.le_of_ble_eq_true rfl) (fun X hG hn o hnm => by
    subst hG
    show Sim X (z_Zi X 0 0) 0 0 0 [(0, rf (xG X) x0)] [] h _
    exact s_sub [0] rfl (t_X6_takeMark_0 o f x0 h))
/-! SixMapsModel.takeOf(I)I -/
def f_X6_takeOf (f : Nat)  (x0 : Nat) (x1 : Int32) (h : Hp) : Option (Int32 × Hp) :=
  sw x1 0 [
  (q_on h x0 6 (
  bi (f_X6_takeMark f x0 h) fun v3_ h2_ =>
  some (v3_, h2_))), 
  (q_on h x0 6 (
  bi (f_X6_takeGoal f x0 h) fun v6_ h5_ =>
  some (v6_, h5_))), 
  (q_on h x0 6 (
  bi (f_X6_takeNumber f x0 (0 : Int32) (9 : Int32) h) fun v9_ h8_ =>
  (q_gi h8_ x0 6 24).bind fun v10_ =>
  (q_pi h8_ x0 6 36 v10_).bind fun h11_ =>
  some (v9_, h11_))), 
  (q_on h x0 6 (
  bi (f_X6_takeLie f x0 h) fun v14_ h13_ =>
  some (v14_, h13_))), 
  (q_on h x0 6 (
  bi (f_X6_takeErr f x0 h) fun v17_ h16_ =>
  some (v17_, h16_))), 
  (q_on h x0 6 (
  bi (f_X6_takeNumber f x0 (0 : Int32) (999 : Int32) h) fun v20_ h19_ =>
  (q_gi h19_ x0 6 24).bind fun v21_ =>
  (q_pi h19_ x0 6 37 v21_).bind fun h22_ =>
  some (v20_, h22_)))] (q_on h x0 6 (
  bi (f_X6_takeNumber f x0 (0 : Int32) (9999 : Int32) h) fun v25_ h24_ =>
  (q_gi h24_ x0 6 24).bind fun v26_ =>
  (q_pi h24_ x0 6 38 v26_).bind fun h27_ =>
  some (v25_, h27_)))
set_option maxRecDepth 20000 in
theorem t_X6_takeOf_0 {X : Cx} (o : Ok X RX6 cX6_takeOf 3 4 94 0 0 (some .int)) (f : Nat)  (x0 : Nat) (x1 : Int32) (h : Hp) : Sim X (z_Zi X 0 0) 0 0 0 [(0, rf (xG X) x0), (1, .int x1)] [] h (f_X6_takeOf f x0 x1 h) := by
  unfold f_X6_takeOf
  refine s_iconst o dX6_takeOf_0 (v := (0 : Int32)) (by decide) (q := 1) rfl ?_
  refine s_istore_n o [1, 2, 0] (lv' := [(0, rf (xG X) x0), (1, .int x1), (2, .int (0 : Int32))]) rfl dX6_takeOf_1 (by decide) (q := 2) rfl ?_
  refine s_iload_n o 1 rfl dX6_takeOf_2 (q := 3) rfl ?_
  refine s_sw o dX6_takeOf_3 rfl (tgD := 97) (by decide) ?_ (⟨⟨40, by decide, ?_⟩, ⟨45, by decide, ?_⟩, ⟨50, by decide, ?_⟩, ⟨68, by decide, ?_⟩, ⟨73, by decide, ?_⟩, ⟨78, by decide, ?_⟩, trivial⟩)
  · refine s_aload_n o 0 rfl dX6_takeOf_97 (q := 98) rfl ?_
    refine s_iconst o dX6_takeOf_98 (v := (0 : Int32)) (by decide) (q := 99) rfl ?_
    refine s_sipush o dX6_takeOf_99 (v := (9999 : Int32)) (by decide) (q := 102) rfl ?_
    refine s_on (fun hk23_ => ?_)
    refine s_bi (fun r0 hr0 => runV o hk23_ cv_X6_173 (c_X6_takeNumber (xG X) f x0 (0 : Int32) (9999 : Int32) h (xl X) r0 hr0) ⟨Nat.le_of_ble_eq_true rfl, Nat.le_of_ble_eq_true rfl⟩ rfl rfl (Nat.le_of_ble_eq_true rfl) dX6_takeOf_102 ⟨Nat.le_of_ble_eq_true rfl, Nat.le_of_ble_eq_true rfl⟩) (q := 105) rfl (cs' := 0) rfl (sl' := 0) rfl (fun v25_ h24_ => ?_)
    refine s_istore_n o [1, 2, 0] (lv' := [(0, rf (xG X) x0), (1, .int x1), (2, .int v25_)]) rfl dX6_takeOf_105 (by decide) (q := 106) rfl ?_
    refine s_aload_n o 0 rfl dX6_takeOf_106 (q := 107) rfl ?_
    refine s_aload_n o 0 rfl dX6_takeOf_107 (q := 108) rfl ?_
    refine s_gi o kf_X6_169 dX6_takeOf_108 (q := 111) rfl (fun v26_ => ?_)
    refine s_pi o kf_X6_229 dX6_takeOf_111 (q := 114) rfl (fun h27_ => ?_)
    refine s_iload_n o 2 rfl dX6_takeOf_114 (q := 115) rfl ?_
    exact s_iret o dX6_takeOf_115
  · refine s_aload_n o 0 rfl dX6_takeOf_40 (q := 41) rfl ?_
    refine s_on (fun hk1_ => ?_)
    refine s_bi (fun r0 hr0 => runV o hk1_ cv_X6_214 (c_X6_takeMark (xG X) f x0 h (xl X) r0 hr0) ⟨Nat.le_of_ble_eq_true rfl, Nat.le_of_ble_eq_true rfl⟩ rfl rfl (Nat.le_of_ble_eq_true rfl) dX6_takeOf_41 ⟨Nat.le_of_ble_eq_true rfl, Nat.le_of_ble_eq_true rfl⟩) (q := 44) rfl (cs' := 0) rfl (sl' := 0) rfl (fun v3_ h2_ => ?_)
    exact s_iret o dX6_takeOf_44
  · refine s_aload_n o 0 rfl dX6_takeOf_45 (q := 46) rfl ?_
    refine s_on (fun hk4_ => ?_)
    refine s_bi (fun r0 hr0 => runV o hk4_ cv_X6_217 (c_X6_takeGoal (xG X) f x0 h (xl X) r0 hr0) ⟨Nat.le_of_ble_eq_true rfl, Nat.le_of_ble_eq_true rfl⟩ rfl rfl (Nat.le_of_ble_eq_true rfl) dX6_takeOf_46 ⟨Nat.le_of_ble_eq_true rfl, Nat.le_of_ble_eq_true rfl⟩) (q := 49) rfl (cs' := 0) rfl (sl' := 0) rfl (fun v6_ h5_ => ?_)
    exact s_iret o dX6_takeOf_49
  · refine s_aload_n o 0 rfl dX6_takeOf_50 (q := 51) rfl ?_
    refine s_iconst o dX6_takeOf_51 (v := (0 : Int32)) (by decide) (q := 52) rfl ?_
    refine s_bipush o dX6_takeOf_52 (v := (9 : Int32)) (by decide) (q := 54) rfl ?_
    refine s_on (fun hk7_ => ?_)
    refine s_bi (fun r0 hr0 => runV o hk7_ cv_X6_173 (c_X6_takeNumber (xG X) f x0 (0 : Int32) (9 : Int32) h (xl X) r0 hr0) ⟨Nat.le_of_ble_eq_true rfl, Nat.le_of_ble_eq_true rfl⟩ rfl rfl (Nat.le_of_ble_eq_true rfl) dX6_takeOf_54 ⟨Nat.le_of_ble_eq_true rfl, Nat.le_of_ble_eq_true rfl⟩) (q := 57) rfl (cs' := 0) rfl (sl' := 0) rfl (fun v9_ h8_ => ?_)
    refine s_istore_n o [1, 2, 0] (lv' := [(0, rf (xG X) x0), (1, .int x1), (2, .int v9_)]) rfl dX6_takeOf_57 (by decide) (q := 58) rfl ?_
    refine s_aload_n o 0 rfl dX6_takeOf_58 (q := 59) rfl ?_
    refine s_aload_n o 0 rfl dX6_takeOf_59 (q := 60) rfl ?_
    refine s_gi o kf_X6_169 dX6_takeOf_60 (q := 63) rfl (fun v10_ => ?_)
    refine s_pi o kf_X6_197 dX6_takeOf_63 (q := 66) rfl (fun h11_ => ?_)
    refine s_iload_n o 2 rfl dX6_takeOf_66 (q := 67) rfl ?_
    exact s_iret o dX6_takeOf_67
  · refine s_aload_n o 0 rfl dX6_takeOf_68 (q := 69) rfl ?_
    refine s_on (fun hk12_ => ?_)
    refine s_bi (fun r0 hr0 => runV o hk12_ cv_X6_220 (c_X6_takeLie (xG X) f x0 h (xl X) r0 hr0) ⟨Nat.le_of_ble_eq_true rfl, Nat.le_of_ble_eq_true rfl⟩ rfl rfl (Nat.le_of_ble_eq_true rfl) dX6_takeOf_69 ⟨Nat.le_of_ble_eq_true rfl, Nat.le_of_ble_eq_true rfl⟩) (q := 72) rfl (cs' := 0) rfl (sl' := 0) rfl (fun v14_ h13_ => ?_)
    exact s_iret o dX6_takeOf_72
  · refine s_aload_n o 0 rfl dX6_takeOf_73 (q := 74) rfl ?_
    refine s_on (fun hk15_ => ?_)
    refine s_bi (fun r0 hr0 => runV o hk15_ cv_X6_223 (c_X6_takeErr (xG X) f x0 h (xl X) r0 hr0) ⟨Nat.le_of_ble_eq_true rfl, Nat.le_of_ble_eq_true rfl⟩ rfl rfl (Nat.le_of_ble_eq_true rfl) dX6_takeOf_74 ⟨Nat.le_of_ble_eq_true rfl, Nat.le_of_ble_eq_true rfl⟩) (q := 77) rfl (cs' := 0) rfl (sl' := 0) rfl (fun v17_ h16_ => ?_)
    exact s_iret o dX6_takeOf_77
  · refine s_aload_n o 0 rfl dX6_takeOf_78 (q := 79) rfl ?_
    refine s_iconst o dX6_takeOf_79 (v := (0 : Int32)) (by decide) (q := 80) rfl ?_
    refine s_sipush o dX6_takeOf_80 (v := (999 : Int32)) (by decide) (q := 83) rfl ?_
    refine s_on (fun hk18_ => ?_)
    refine s_bi (fun r0 hr0 => runV o hk18_ cv_X6_173 (c_X6_takeNumber (xG X) f x0 (0 : Int32) (999 : Int32) h (xl X) r0 hr0) ⟨Nat.le_of_ble_eq_true rfl, Nat.le_of_ble_eq_true rfl⟩ rfl rfl (Nat.le_of_ble_eq_true rfl) dX6_takeOf_83 ⟨Nat.le_of_ble_eq_true rfl, Nat.le_of_ble_eq_true rfl⟩) (q := 86) rfl (cs' := 0) rfl (sl' := 0) rfl (fun v20_ h19_ => ?_)
    refine s_istore_n o [1, 2, 0] (lv' := [(0, rf (xG X) x0), (1, .int x1), (2, .int v20_)]) rfl dX6_takeOf_86 (by decide) (q := 87) rfl ?_
    refine s_aload_n o 0 rfl dX6_takeOf_87 (q := 88) rfl ?_
    refine s_aload_n o 0 rfl dX6_takeOf_88 (q := 89) rfl ?_
    refine s_gi o kf_X6_169 dX6_takeOf_89 (q := 92) rfl (fun v21_ => ?_)
    refine s_pi o kf_X6_226 dX6_takeOf_92 (q := 95) rfl (fun h22_ => ?_)
    refine s_iload_n o 2 rfl dX6_takeOf_95 (q := 96) rfl ?_
    exact s_iret o dX6_takeOf_96
theorem c_X6_takeOf (G : Gx) (f : Nat) (x0 : Nat) (x1 : Int32) (h : Hp) : z_M z_qi G yX6_takeOf cX6_takeOf 3 (some .int) 4 94 0 0 [rf G x0, .int x1] h (f_X6_takeOf f x0 x1 h) :=
  z_met (by decide +kernel) (Nat.le_of_ble_eq_true rfl) (fun X hG hn o hnm => by
    subst hG
    show Sim X (z_Zi X 0 0) 0 0 0 [(0, rf (xG X) x0), (1, .int x1)] [] h _
    exact s_sub [0, 1] rfl (t_X6_takeOf_0 o f x0 x1 h))
/-! SixMapsModel.takeClause()I -/
def b_X6_takeClause_200 (f : Nat)  (x0 : Nat) (x4 : Int32) (h : Hp) : Option (Int32 × Hp) :=
  (q_gi h x0 6 21).bind fun v1_ =>
  (q_pi h x0 6 21 (v1_ + (1 : Int32))).bind fun h2_ =>
  some (x4, h2_)
def b_X6_takeClause_134 (f : Nat)  (x0 : Nat) (x1 : Int32) (y0 : Int32) (h : Hp) : Option (Int32 × Hp) :=
  if y0 = 0 then
  ((q_gi h x0 6 23).bind fun v1_ =>
  (q_pi h x0 6 21 v1_).bind fun h2_ =>
  (q_gi h2_ x0 6 39).bind fun v3_ =>
  (q_pi h2_ x0 6 39 (v3_ ||| ((1 : Int32) <<< (x1 &&& 31)))).bind fun h4_ =>
  q_on h4_ x0 6 (
  bi (f_X6_takeOf f x0 x1 h4_) fun v7_ h6_ =>
  if ¬ v7_ = 0 then
  (b_X6_takeClause_200 f x0 v7_ h6_)
  else
  (q_on h6_ x0 6 (
  bi (f_X6_here f x0 h6_) fun v10_ h9_ =>
  if v10_ = (59 : Int32) then
  (b_X6_takeClause_200 f x0 v7_ h9_)
  else
  ((q_gi h9_ x0 6 21).bind fun v11_ =>
  q_on h9_ x0 6 (
  bi (f_X6_fails f x0 (1 : Int32) v11_ h9_) fun v14_ h13_ =>
  some (v14_, h13_)))))))
  else
  ((q_gi h x0 6 21).bind fun v15_ =>
  q_on h x0 6 (
  bi (f_X6_fails f x0 (3 : Int32) v15_ h) fun v18_ h17_ =>
  some (v18_, h17_)))
def b_X6_takeClause_52 (f : Nat)  (x0 : Nat) (h : Hp) : Option (Int32 × Hp) :=
  (q_gi h x0 6 21).bind fun v1_ =>
  q_on h x0 6 (
  bi (f_X6_fails f x0 (1 : Int32) v1_ h) fun v4_ h3_ =>
  some (v4_, h3_))
def b_X6_takeClause_43 (f : Nat)  (x0 : Nat) (x1 : Int32) (y0 : Int32) (h : Hp) : Option (Int32 × Hp) :=
  if x1 < 0 then
  (b_X6_takeClause_52 f x0 h)
  else
  (if y0 = 0 then
  (if ¬ x1 = 0 then
  (if ¬ x1 = (3 : Int32) then
  (if ¬ x1 = (4 : Int32) then
  ((q_gi h x0 6 39).bind fun v1_ =>
  bi (f_X6_has f v1_ x1 h) fun v3_ h2_ =>
  b_X6_takeClause_134 f x0 x1 v3_ h2_)
  else
  ((q_gi h x0 6 34).bind fun v4_ =>
  if ¬ v4_ = (30 : Int32) then
  (b_X6_takeClause_134 f x0 x1 (0 : Int32) h)
  else
  (b_X6_takeClause_134 f x0 x1 (1 : Int32) h)))
  else
  ((q_gi h x0 6 32).bind fun v5_ =>
  if ¬ v5_ = (2 : Int32) then
  (b_X6_takeClause_134 f x0 x1 (0 : Int32) h)
  else
  (b_X6_takeClause_134 f x0 x1 (1 : Int32) h)))
  else
  ((q_gi h x0 6 26).bind fun v6_ =>
  if ¬ v6_ = (9 : Int32) then
  (b_X6_takeClause_134 f x0 x1 (0 : Int32) h)
  else
  (b_X6_takeClause_134 f x0 x1 (1 : Int32) h)))
  else
  (b_X6_takeClause_52 f x0 h))
def b_X6_takeClause_42 (f : Nat)  (x0 : Nat) (x1 : Int32) (h : Hp) : Option (Int32 × Hp) :=
  b_X6_takeClause_43 f x0 x1 (0 : Int32) h
def b_X6_takeClause_38 (f : Nat)  (x0 : Nat) (x1 : Int32) (h : Hp) : Option (Int32 × Hp) :=
  b_X6_takeClause_43 f x0 x1 (1 : Int32) h
def b_X6_takeClause_23 (f : Nat)  (x0 : Nat) (x1 : Int32) (h : Hp) : Option (Int32 × Hp) :=
  if ¬ x1 = (2 : Int32) then
  (b_X6_takeClause_42 f x0 x1 h)
  else
  ((q_gi h x0 6 39).bind fun v1_ =>
  if (v1_ &&& (24 : Int32)) = 0 then
  (b_X6_takeClause_42 f x0 x1 h)
  else
  (b_X6_takeClause_38 f x0 x1 h))
def f_X6_takeClause (f : Nat)  (x0 : Nat) (h : Hp) : Option (Int32 × Hp) :=
  q_on h x0 6 (
  (f_X6_readWord f x0 h).bind fun h2_ =>
  q_on h2_ x0 6 (
  bi (f_X6_clauseOf f x0 h2_) fun v5_ h4_ =>
  if ¬ v5_ = 0 then
  (b_X6_takeClause_23 f x0 v5_ h4_)
  else
  ((q_gi h4_ x0 6 39).bind fun v6_ =>
  if ¬ (v6_ &&& (26 : Int32)) = 0 then
  (b_X6_takeClause_38 f x0 v5_ h4_)
  else
  (b_X6_takeClause_23 f x0 v5_ h4_))))
set_option maxRecDepth 20000 in
theorem t_X6_takeClause_200 {X : Cx} (o : Ok X RX6 cX6_takeClause 5 5 116 0 0 (some .int)) (f : Nat)  (x0 : Nat) (x4 : Int32) (h : Hp) : Sim X (z_Zi X 0 0) 0 0 200 [(0, rf (xG X) x0), (4, .int x4)] [] h (b_X6_takeClause_200 f x0 x4 h) := by
  unfold b_X6_takeClause_200
  refine s_aload_n o 0 rfl dX6_takeClause_200 (q := 201) rfl ?_
  refine s_dup o rfl dX6_takeClause_201 (q := 202) rfl ?_
  refine s_gi o kf_X6_132 dX6_takeClause_202 (q := 205) rfl (fun v1_ => ?_)
  refine s_iconst o dX6_takeClause_205 (v := (1 : Int32)) (by decide) (q := 206) rfl ?_
  refine s_iadd o dX6_takeClause_206 (q := 207) rfl ?_
  refine s_pi o kf_X6_132 dX6_takeClause_207 (q := 210) rfl (fun h2_ => ?_)
  refine s_iload o 1 rfl dX6_takeClause_210 (q := 212) rfl ?_
  exact s_iret o dX6_takeClause_212
set_option maxRecDepth 20000 in
theorem t_X6_takeClause_134 {X : Cx} (o : Ok X RX6 cX6_takeClause 5 5 116 0 0 (some .int)) (f : Nat)  (x0 : Nat) (x1 : Int32) (y0 : Int32) (h : Hp) : Sim X (z_Zi X 0 0) 0 0 134 [(0, rf (xG X) x0), (1, .int x1)] [.int y0] h (b_X6_takeClause_134 f x0 x1 y0 h) := by
  unfold b_X6_takeClause_134
  refine s_istore_n o [1, 2, 0] (lv' := [(0, rf (xG X) x0), (1, .int x1), (3, .int y0)]) rfl dX6_takeClause_134 (by decide) (q := 135) rfl ?_
  refine s_iload_n o 2 rfl dX6_takeClause_135 (q := 136) rfl ?_
  refine s_if_eq o (tgt := 149) dX6_takeClause_136 (by decide) (q := 139) rfl ?_ ?_
  · refine s_aload_n o 0 rfl dX6_takeClause_149 (q := 150) rfl ?_
    refine s_aload_n o 0 rfl dX6_takeClause_150 (q := 151) rfl ?_
    refine s_gi o kf_X6_143 dX6_takeClause_151 (q := 154) rfl (fun v1_ => ?_)
    refine s_pi o kf_X6_132 dX6_takeClause_154 (q := 157) rfl (fun h2_ => ?_)
    refine s_aload_n o 0 rfl dX6_takeClause_157 (q := 158) rfl ?_
    refine s_dup o rfl dX6_takeClause_158 (q := 159) rfl ?_
    refine s_gi o kf_X6_238 dX6_takeClause_159 (q := 162) rfl (fun v3_ => ?_)
    refine s_iconst o dX6_takeClause_162 (v := (1 : Int32)) (by decide) (q := 163) rfl ?_
    refine s_iload_n o 1 rfl dX6_takeClause_163 (q := 164) rfl ?_
    refine s_ishl o dX6_takeClause_164 (q := 165) rfl ?_
    refine s_ior o dX6_takeClause_165 (q := 166) rfl ?_
    refine s_pi o kf_X6_238 dX6_takeClause_166 (q := 169) rfl (fun h4_ => ?_)
    refine s_aload_n o 0 rfl dX6_takeClause_169 (q := 170) rfl ?_
    refine s_iload_n o 1 rfl dX6_takeClause_170 (q := 171) rfl ?_
    refine s_on (fun hk5_ => ?_)
    refine s_bi (fun r0 hr0 => runV o hk5_ cv_X6_241 (c_X6_takeOf (xG X) f x0 x1 h4_ (xl X) r0 hr0) ⟨Nat.le_of_ble_eq_true rfl, Nat.le_of_ble_eq_true rfl⟩ rfl rfl (Nat.le_of_ble_eq_true rfl) dX6_takeClause_171 ⟨Nat.le_of_ble_eq_true rfl, Nat.le_of_ble_eq_true rfl⟩) (q := 174) rfl (cs' := 0) rfl (sl' := 0) rfl (fun v7_ h6_ => ?_)
    refine s_istore o [1, 2, 3, 0] (lv' := [(0, rf (xG X) x0), (1, .int x1), (3, .int y0), (4, .int v7_)]) rfl dX6_takeClause_174 (by decide) (q := 176) rfl ?_
    refine s_iload o 3 rfl dX6_takeClause_176 (q := 178) rfl ?_
    refine s_if_ne o (tgt := 200) dX6_takeClause_178 (by decide) (q := 181) rfl ?_ ?_
    · exact s_sub [0, 3] rfl (t_X6_takeClause_200 o f x0 v7_ h6_)
    · refine s_aload_n o 0 rfl dX6_takeClause_181 (q := 182) rfl ?_
      refine s_on (fun hk8_ => ?_)
      refine s_bi (fun r0 hr0 => runV o hk8_ cv_X6_135 (c_X6_here (xG X) f x0 h6_ (xl X) r0 hr0) ⟨Nat.le_of_ble_eq_true rfl, Nat.le_of_ble_eq_true rfl⟩ rfl rfl (Nat.le_of_ble_eq_true rfl) dX6_takeClause_182 ⟨Nat.le_of_ble_eq_true rfl, Nat.le_of_ble_eq_true rfl⟩) (q := 185) rfl (cs' := 0) rfl (sl' := 0) rfl (fun v10_ h9_ => ?_)
      refine s_bipush o dX6_takeClause_185 (v := (59 : Int32)) (by decide) (q := 187) rfl ?_
      refine s_ic_eq o (tgt := 200) dX6_takeClause_187 (by decide) (q := 190) rfl ?_ ?_
      · exact s_sub [0, 3] rfl (t_X6_takeClause_200 o f x0 v7_ h9_)
      · refine s_aload_n o 0 rfl dX6_takeClause_190 (q := 191) rfl ?_
        refine s_iconst o dX6_takeClause_191 (v := (1 : Int32)) (by decide) (q := 192) rfl ?_
        refine s_aload_n o 0 rfl dX6_takeClause_192 (q := 193) rfl ?_
        refine s_gi o kf_X6_132 dX6_takeClause_193 (q := 196) rfl (fun v11_ => ?_)
        refine s_on (fun hk12_ => ?_)
        refine s_bi (fun r0 hr0 => runV o hk12_ cv_X6_162 (c_X6_fails (xG X) f x0 (1 : Int32) v11_ h9_ (xl X) r0 hr0) ⟨Nat.le_of_ble_eq_true rfl, Nat.le_of_ble_eq_true rfl⟩ rfl rfl (Nat.le_of_ble_eq_true rfl) dX6_takeClause_196 ⟨Nat.le_of_ble_eq_true rfl, Nat.le_of_ble_eq_true rfl⟩) (q := 199) rfl (cs' := 0) rfl (sl' := 0) rfl (fun v14_ h13_ => ?_)
        exact s_iret o dX6_takeClause_199
  · refine s_aload_n o 0 rfl dX6_takeClause_139 (q := 140) rfl ?_
    refine s_iconst o dX6_takeClause_140 (v := (3 : Int32)) (by decide) (q := 141) rfl ?_
    refine s_aload_n o 0 rfl dX6_takeClause_141 (q := 142) rfl ?_
    refine s_gi o kf_X6_132 dX6_takeClause_142 (q := 145) rfl (fun v15_ => ?_)
    refine s_on (fun hk16_ => ?_)
    refine s_bi (fun r0 hr0 => runV o hk16_ cv_X6_162 (c_X6_fails (xG X) f x0 (3 : Int32) v15_ h (xl X) r0 hr0) ⟨Nat.le_of_ble_eq_true rfl, Nat.le_of_ble_eq_true rfl⟩ rfl rfl (Nat.le_of_ble_eq_true rfl) dX6_takeClause_145 ⟨Nat.le_of_ble_eq_true rfl, Nat.le_of_ble_eq_true rfl⟩) (q := 148) rfl (cs' := 0) rfl (sl' := 0) rfl (fun v18_ h17_ => ?_)
    exact s_iret o dX6_takeClause_148
set_option maxRecDepth 20000 in
theorem t_X6_takeClause_52 {X : Cx} (o : Ok X RX6 cX6_takeClause 5 5 116 0 0 (some .int)) (f : Nat)  (x0 : Nat) (h : Hp) : Sim X (z_Zi X 0 0) 0 0 52 [(0, rf (xG X) x0)] [] h (b_X6_takeClause_52 f x0 h) := by
  unfold b_X6_takeClause_52
  refine s_aload_n o 0 rfl dX6_takeClause_52 (q := 53) rfl ?_
  refine s_iconst o dX6_takeClause_53 (v := (1 : Int32)) (by decide) (q := 54) rfl ?_
  refine s_aload_n o 0 rfl dX6_takeClause_54 (q := 55) rfl ?_
  refine s_gi o kf_X6_132 dX6_takeClause_55 (q := 58) rfl (fun v1_ => ?_)
  refine s_on (fun hk2_ => ?_)
  refine s_bi (fun r0 hr0 => runV o hk2_ cv_X6_162 (c_X6_fails (xG X) f x0 (1 : Int32) v1_ h (xl X) r0 hr0) ⟨Nat.le_of_ble_eq_true rfl, Nat.le_of_ble_eq_true rfl⟩ rfl rfl (Nat.le_of_ble_eq_true rfl) dX6_takeClause_58 ⟨Nat.le_of_ble_eq_true rfl, Nat.le_of_ble_eq_true rfl⟩) (q := 61) rfl (cs' := 0) rfl (sl' := 0) rfl (fun v4_ h3_ => ?_)
  exact s_iret o dX6_takeClause_61
set_option maxRecDepth 20000 in
theorem t_X6_takeClause_43 {X : Cx} (o : Ok X RX6 cX6_takeClause 5 5 116 0 0 (some .int)) (f : Nat)  (x0 : Nat) (x1 : Int32) (y0 : Int32) (h : Hp) : Sim X (z_Zi X 0 0) 0 0 43 [(0, rf (xG X) x0), (1, .int x1)] [.int y0] h (b_X6_takeClause_43 f x0 x1 y0 h) := by
  unfold b_X6_takeClause_43
  refine s_istore_n o [1, 2, 0] (lv' := [(0, rf (xG X) x0), (1, .int x1), (2, .int y0)]) rfl dX6_takeClause_43 (by decide) (q := 44) rfl ?_
  refine s_iload_n o 1 rfl dX6_takeClause_44 (q := 45) rfl ?_
  refine s_if_lt o (tgt := 52) dX6_takeClause_45 (by decide) (q := 48) rfl ?_ ?_
  · exact s_sub [0] rfl (t_X6_takeClause_52 o f x0 h)
  · refine s_iload_n o 2 rfl dX6_takeClause_48 (q := 49) rfl ?_
    refine s_if_eq o (tgt := 62) dX6_takeClause_49 (by decide) (q := 52) rfl ?_ ?_
    · refine s_iload_n o 1 rfl dX6_takeClause_62 (q := 63) rfl ?_
      refine s_if_ne o (tgt := 83) dX6_takeClause_63 (by decide) (q := 66) rfl ?_ ?_
      · refine s_iload_n o 1 rfl dX6_takeClause_83 (q := 84) rfl ?_
        refine s_iconst o dX6_takeClause_84 (v := (3 : Int32)) (by decide) (q := 85) rfl ?_
        refine s_ic_ne o (tgt := 104) dX6_takeClause_85 (by decide) (q := 88) rfl ?_ ?_
        · refine s_iload_n o 1 rfl dX6_takeClause_104 (q := 105) rfl ?_
          refine s_iconst o dX6_takeClause_105 (v := (4 : Int32)) (by decide) (q := 106) rfl ?_
          refine s_ic_ne o (tgt := 126) dX6_takeClause_106 (by decide) (q := 109) rfl ?_ ?_
          · refine s_aload_n o 0 rfl dX6_takeClause_126 (q := 127) rfl ?_
            refine s_gi o kf_X6_238 dX6_takeClause_127 (q := 130) rfl (fun v1_ => ?_)
            refine s_iload_n o 1 rfl dX6_takeClause_130 (q := 131) rfl ?_
            refine s_bi (fun r0 hr0 => runS o cs_X6_182 (c_X6_has (xG X) f v1_ x1 h (xl X) r0 hr0) ⟨Nat.le_of_ble_eq_true rfl, Nat.le_of_ble_eq_true rfl⟩ rfl rfl (Nat.le_of_ble_eq_true rfl) dX6_takeClause_131 ⟨Nat.le_of_ble_eq_true rfl, Nat.le_of_ble_eq_true rfl⟩) (q := 134) rfl (cs' := 0) rfl (sl' := 0) rfl (fun v3_ h2_ => ?_)
            exact s_sub [0, 1] rfl (t_X6_takeClause_134 o f x0 x1 v3_ h2_)
          · refine s_aload_n o 0 rfl dX6_takeClause_109 (q := 110) rfl ?_
            refine s_gi o kf_X6_203 dX6_takeClause_110 (q := 113) rfl (fun v4_ => ?_)
            refine s_bipush o dX6_takeClause_113 (v := (30 : Int32)) (by decide) (q := 115) rfl ?_
            refine s_ic_ne o (tgt := 122) dX6_takeClause_115 (by decide) (q := 118) rfl ?_ ?_
            · refine s_iconst o dX6_takeClause_122 (v := (0 : Int32)) (by decide) (q := 123) rfl ?_
              refine s_goto o (tgt := 134) dX6_takeClause_123 (by decide) ?_
              exact s_sub [0, 1] rfl (t_X6_takeClause_134 o f x0 x1 (0 : Int32) h)
            · refine s_iconst o dX6_takeClause_118 (v := (1 : Int32)) (by decide) (q := 119) rfl ?_
              refine s_goto o (tgt := 134) dX6_takeClause_119 (by decide) ?_
              exact s_sub [0, 1] rfl (t_X6_takeClause_134 o f x0 x1 (1 : Int32) h)
        · refine s_aload_n o 0 rfl dX6_takeClause_88 (q := 89) rfl ?_
          refine s_gi o kf_X6_200 dX6_takeClause_89 (q := 92) rfl (fun v5_ => ?_)
          refine s_iconst o dX6_takeClause_92 (v := (2 : Int32)) (by decide) (q := 93) rfl ?_
          refine s_ic_ne o (tgt := 100) dX6_takeClause_93 (by decide) (q := 96) rfl ?_ ?_
          · refine s_iconst o dX6_takeClause_100 (v := (0 : Int32)) (by decide) (q := 101) rfl ?_
            refine s_goto o (tgt := 134) dX6_takeClause_101 (by decide) ?_
            exact s_sub [0, 1] rfl (t_X6_takeClause_134 o f x0 x1 (0 : Int32) h)
          · refine s_iconst o dX6_takeClause_96 (v := (1 : Int32)) (by decide) (q := 97) rfl ?_
            refine s_goto o (tgt := 134) dX6_takeClause_97 (by decide) ?_
            exact s_sub [0, 1] rfl (t_X6_takeClause_134 o f x0 x1 (1 : Int32) h)
      · refine s_aload_n o 0 rfl dX6_takeClause_66 (q := 67) rfl ?_
        refine s_gi o kf_X6_176 dX6_takeClause_67 (q := 70) rfl (fun v6_ => ?_)
        refine s_bipush o dX6_takeClause_70 (v := (9 : Int32)) (by decide) (q := 72) rfl ?_
        refine s_ic_ne o (tgt := 79) dX6_takeClause_72 (by decide) (q := 75) rfl ?_ ?_
        · refine s_iconst o dX6_takeClause_79 (v := (0 : Int32)) (by decide) (q := 80) rfl ?_
          refine s_goto o (tgt := 134) dX6_takeClause_80 (by decide) ?_
          exact s_sub [0, 1] rfl (t_X6_takeClause_134 o f x0 x1 (0 : Int32) h)
        · refine s_iconst o dX6_takeClause_75 (v := (1 : Int32)) (by decide) (q := 76) rfl ?_
          refine s_goto o (tgt := 134) dX6_takeClause_76 (by decide) ?_
          exact s_sub [0, 1] rfl (t_X6_takeClause_134 o f x0 x1 (1 : Int32) h)
    · exact s_sub [0] rfl (t_X6_takeClause_52 o f x0 h)
set_option maxRecDepth 20000 in
theorem t_X6_takeClause_42 {X : Cx} (o : Ok X RX6 cX6_takeClause 5 5 116 0 0 (some .int)) (f : Nat)  (x0 : Nat) (x1 : Int32) (h : Hp) : Sim X (z_Zi X 0 0) 0 0 42 [(0, rf (xG X) x0), (1, .int x1)] [] h (b_X6_takeClause_42 f x0 x1 h) := by
  unfold b_X6_takeClause_42
  refine s_iconst o dX6_takeClause_42 (v := (0 : Int32)) (by decide) (q := 43) rfl ?_
  exact s_sub [0, 1] rfl (t_X6_takeClause_43 o f x0 x1 (0 : Int32) h)
set_option maxRecDepth 20000 in
theorem t_X6_takeClause_38 {X : Cx} (o : Ok X RX6 cX6_takeClause 5 5 116 0 0 (some .int)) (f : Nat)  (x0 : Nat) (x1 : Int32) (h : Hp) : Sim X (z_Zi X 0 0) 0 0 38 [(0, rf (xG X) x0), (1, .int x1)] [] h (b_X6_takeClause_38 f x0 x1 h) := by
  unfold b_X6_takeClause_38
  refine s_iconst o dX6_takeClause_38 (v := (1 : Int32)) (by decide) (q := 39) rfl ?_
  refine s_goto o (tgt := 43) dX6_takeClause_39 (by decide) ?_
  exact s_sub [0, 1] rfl (t_X6_takeClause_43 o f x0 x1 (1 : Int32) h)
set_option maxRecDepth 20000 in
theorem t_X6_takeClause_23 {X : Cx} (o : Ok X RX6 cX6_takeClause 5 5 116 0 0 (some .int)) (f : Nat)  (x0 : Nat) (x1 : Int32) (h : Hp) : Sim X (z_Zi X 0 0) 0 0 23 [(0, rf (xG X) x0), (1, .int x1)] [] h (b_X6_takeClause_23 f x0 x1 h) := by
  unfold b_X6_takeClause_23
  refine s_iload_n o 1 rfl dX6_takeClause_23 (q := 24) rfl ?_
  refine s_iconst o dX6_takeClause_24 (v := (2 : Int32)) (by decide) (q := 25) rfl ?_
  refine s_ic_ne o (tgt := 42) dX6_takeClause_25 (by decide) (q := 28) rfl ?_ ?_
  · exact s_sub [0, 1] rfl (t_X6_takeClause_42 o f x0 x1 h)
  · refine s_aload_n o 0 rfl dX6_takeClause_28 (q := 29) rfl ?_
    refine s_gi o kf_X6_238 dX6_takeClause_29 (q := 32) rfl (fun v1_ => ?_)
    refine s_bipush o dX6_takeClause_32 (v := (24 : Int32)) (by decide) (q := 34) rfl ?_
    refine s_iand o dX6_takeClause_34 (q := 35) rfl ?_
    refine s_if_eq o (tgt := 42) dX6_takeClause_35 (by decide) (q := 38) rfl ?_ ?_
    · exact s_sub [0, 1] rfl (t_X6_takeClause_42 o f x0 x1 h)
    · exact s_sub [0, 1] rfl (t_X6_takeClause_38 o f x0 x1 h)
set_option maxRecDepth 20000 in
theorem t_X6_takeClause_0 {X : Cx} (o : Ok X RX6 cX6_takeClause 5 5 116 0 0 (some .int)) (f : Nat)  (x0 : Nat) (h : Hp) : Sim X (z_Zi X 0 0) 0 0 0 [(0, rf (xG X) x0)] [] h (f_X6_takeClause f x0 h) := by
  unfold f_X6_takeClause
  refine s_aload_n o 0 rfl dX6_takeClause_0 (q := 1) rfl ?_
  refine s_on (fun hk1_ => ?_)
  refine s_callv (fun r0 hr0 => runV o hk1_ cv_X6_232 (c_X6_readWord (xG X) f x0 h (xl X) r0 hr0) ⟨Nat.le_of_ble_eq_true rfl, Nat.le_of_ble_eq_true rfl⟩ rfl rfl (Nat.le_of_ble_eq_true rfl) dX6_takeClause_1 ⟨Nat.le_of_ble_eq_true rfl, Nat.le_of_ble_eq_true rfl⟩) (q := 4) rfl (cs' := 0) rfl (sl' := 0) rfl (fun h2_ => ?_)
  refine s_aload_n o 0 rfl dX6_takeClause_4 (q := 5) rfl ?_
  refine s_on (fun hk3_ => ?_)
  refine s_bi (fun r0 hr0 => runV o hk3_ cv_X6_235 (c_X6_clauseOf (xG X) f x0 h2_ (xl X) r0 hr0) ⟨Nat.le_of_ble_eq_true rfl, Nat.le_of_ble_eq_true rfl⟩ rfl rfl (Nat.le_of_ble_eq_true rfl) dX6_takeClause_5 ⟨Nat.le_of_ble_eq_true rfl, Nat.le_of_ble_eq_true rfl⟩) (q := 8) rfl (cs' := 0) rfl (sl' := 0) rfl (fun v5_ h4_ => ?_)
  refine s_istore_n o [1, 0] (lv' := [(0, rf (xG X) x0), (1, .int v5_)]) rfl dX6_takeClause_8 (by decide) (q := 9) rfl ?_
  refine s_iload_n o 1 rfl dX6_takeClause_9 (q := 10) rfl ?_
  refine s_if_ne o (tgt := 23) dX6_takeClause_10 (by decide) (q := 13) rfl ?_ ?_
  · exact s_sub [0, 1] rfl (t_X6_takeClause_23 o f x0 v5_ h4_)
  · refine s_aload_n o 0 rfl dX6_takeClause_13 (q := 14) rfl ?_
    refine s_gi o kf_X6_238 dX6_takeClause_14 (q := 17) rfl (fun v6_ => ?_)
    refine s_bipush o dX6_takeClause_17 (v := (26 : Int32)) (by decide) (q := 19) rfl ?_
    refine s_iand o dX6_takeClause_19 (q := 20) rfl ?_
    refine s_if_ne o (tgt := 38) dX6_takeClause_20 (by decide) (q := 23) rfl ?_ ?_
    · exact s_sub [0, 1] rfl (t_X6_takeClause_38 o f x0 v5_ h4_)
    · exact s_sub [0, 1] rfl (t_X6_takeClause_23 o f x0 v5_ h4_)
theorem c_X6_takeClause (G : Gx) (f : Nat) (x0 : Nat) (h : Hp) : z_M z_qi G yX6_takeClause cX6_takeClause 5 (some .int) 5 116 0 0 [rf G x0] h (f_X6_takeClause f x0 h) :=
  z_met (by decide +kernel) (Nat.le_of_ble_eq_true rfl) (fun X hG hn o hnm => by
    subst hG
    show Sim X (z_Zi X 0 0) 0 0 0 [(0, rf (xG X) x0)] [] h _
    exact s_sub [0] rfl (t_X6_takeClause_0 o f x0 h))
/-! SixMapsModel.takeIsland()V -/
def b_X6_takeIsland_194 (f : Nat) (k194 : Nat → Int32 → Hp → Option (Hp)) (x0 : Nat) (x1 : Int32) (h : Hp) : Option (Hp) :=
  if (3 : Int32) ≤ x1 then
  ((q_pi h x0 6 50 (0 : Int32)).bind fun h1_ =>
  (q_gr h1_ x0 6 55).bind fun a2_ =>
  (q_as h1_ a2_ 10 (0 : Int32) (vp_nar .boolean (0 : Int32))).bind fun h3_ =>
  (q_gr h3_ x0 6 55).bind fun a4_ =>
  (q_as h3_ a4_ 10 (1 : Int32) (vp_nar .boolean (0 : Int32))).bind fun h5_ =>
  q_on h5_ x0 6 (
  (f_X6_bare f x0 h5_).bind fun h7_ =>
  some h7_))
  else
  ((q_gr h x0 6 8).bind fun a8_ =>
  (q_gr h x0 6 35).bind fun a9_ =>
  (q_ai h a9_ 9 x1).bind fun v10_ =>
  (q_as h a8_ 9 x1 v10_).bind fun h11_ =>
  lt (x1 + (1 : Int32)) fun v12_ =>
  k194 x0 v12_ h11_)
def l_X6_takeIsland_194 (f : Nat)  : Nat → Nat → Int32 → Hp → Option (Hp)
  | 0, _, _, _ => none
  | n + 1, x0, x1, h => b_X6_takeIsland_194 f  (l_X6_takeIsland_194 f  n) x0 x1 h
def b_X6_takeIsland_139 (f : Nat) (k10 : Nat → Int32 → Hp → Option (Hp)) (k44 : Nat → Int32 → Int32 → Hp → Option (Hp)) (x0 : Nat) (x1 : Int32) (x2 : Int32) (y0 : Nat) (y1 : Int32) (y2 : Int32) (h : Hp) : Option (Hp) :=
  (q_as h y0 9 y1 y2).bind fun h1_ =>
  lt (x2 + (1 : Int32)) fun v2_ =>
  k44 x0 x1 v2_ h1_
def b_X6_takeIsland_94 (f : Nat) (k10 : Nat → Int32 → Hp → Option (Hp)) (k44 : Nat → Int32 → Int32 → Hp → Option (Hp)) (x0 : Nat) (x1 : Int32) (x2 : Int32) (y0 : Nat) (y1 : Int32) (y2 : Int32) (h : Hp) : Option (Hp) :=
  (q_as h y0 9 y1 y2).bind fun h1_ =>
  (q_gr h1_ x0 6 4).bind fun a2_ =>
  (q_gr h1_ x0 6 31).bind fun a3_ =>
  (q_ai h1_ a3_ 10 (((9 : Int32) * x2) + x1)).bind fun v4_ =>
  if v4_ = 0 then
  ((q_gr h1_ x0 6 28).bind fun a5_ =>
  (q_ai h1_ a5_ 9 x1).bind fun v6_ =>
  b_X6_takeIsland_139 f k10 k44 x0 x1 x2 a2_ (((9 : Int32) * x2) + x1) v6_ h1_)
  else
  ((q_gr h1_ x0 6 30).bind fun a7_ =>
  (q_ai h1_ a7_ 9 (((9 : Int32) * x2) + x1)).bind fun v8_ =>
  b_X6_takeIsland_139 f k10 k44 x0 x1 x2 a2_ (((9 : Int32) * x2) + x1) v8_ h1_)
def b_X6_takeIsland_44 (f : Nat) (k10 : Nat → Int32 → Hp → Option (Hp)) (k44 : Nat → Int32 → Int32 → Hp → Option (Hp)) (x0 : Nat) (x1 : Int32) (x2 : Int32) (h : Hp) : Option (Hp) :=
  if (6 : Int32) ≤ x2 then
  (lt (x1 + (1 : Int32)) fun v1_ =>
  k10 x0 v1_ h)
  else
  ((q_gr h x0 6 3).bind fun a2_ =>
  (q_gr h x0 6 31).bind fun a3_ =>
  (q_ai h a3_ 10 (((9 : Int32) * x2) + x1)).bind fun v4_ =>
  if v4_ = 0 then
  ((q_gr h x0 6 27).bind fun a5_ =>
  (q_ai h a5_ 9 x1).bind fun v6_ =>
  b_X6_takeIsland_94 f k10 k44 x0 x1 x2 a2_ (((9 : Int32) * x2) + x1) v6_ h)
  else
  ((q_gr h x0 6 29).bind fun a7_ =>
  (q_ai h a7_ 9 (((9 : Int32) * x2) + x1)).bind fun v8_ =>
  b_X6_takeIsland_94 f k10 k44 x0 x1 x2 a2_ (((9 : Int32) * x2) + x1) v8_ h))
def l_X6_takeIsland_44 (f : Nat) (k10 : Nat → Int32 → Hp → Option (Hp)) : Nat → Nat → Int32 → Int32 → Hp → Option (Hp)
  | 0, _, _, _, _ => none
  | n + 1, x0, x1, x2, h => b_X6_takeIsland_44 f k10 (l_X6_takeIsland_44 f k10 n) x0 x1 x2 h
def b_X6_takeIsland_10 (f : Nat) (k10 : Nat → Int32 → Hp → Option (Hp)) (x0 : Nat) (x1 : Int32) (h : Hp) : Option (Hp) :=
  (q_gi h x0 6 0).bind fun v1_ =>
  if v1_ ≤ x1 then
  ((q_gi h x0 6 32).bind fun v2_ =>
  (q_pi h x0 6 5 v2_).bind fun h3_ =>
  (q_gi h3_ x0 6 33).bind fun v4_ =>
  (q_pi h3_ x0 6 6 v4_).bind fun h5_ =>
  (q_gi h5_ x0 6 36).bind fun v6_ =>
  (q_pi h5_ x0 6 7 v6_).bind fun h7_ =>
  (q_gi h7_ x0 6 37).bind fun v8_ =>
  (q_pi h7_ x0 6 9 v8_).bind fun h9_ =>
  (q_gi h9_ x0 6 38).bind fun v10_ =>
  (q_pi h9_ x0 6 10 v10_).bind fun h11_ =>
  l_X6_takeIsland_194 f f x0 (0 : Int32) h11_)
  else
  ((q_gr h x0 6 1).bind fun a12_ =>
  (q_gr h x0 6 27).bind fun a13_ =>
  (q_ai h a13_ 9 x1).bind fun v14_ =>
  (q_as h a12_ 9 x1 v14_).bind fun h15_ =>
  (q_gr h15_ x0 6 2).bind fun a16_ =>
  (q_gr h15_ x0 6 28).bind fun a17_ =>
  (q_ai h15_ a17_ 9 x1).bind fun v18_ =>
  (q_as h15_ a16_ 9 x1 v18_).bind fun h19_ =>
  l_X6_takeIsland_44 f k10 f x0 x1 (0 : Int32) h19_)
def l_X6_takeIsland_10 (f : Nat)  : Nat → Nat → Int32 → Hp → Option (Hp)
  | 0, _, _, _ => none
  | n + 1, x0, x1, h => b_X6_takeIsland_10 f  (l_X6_takeIsland_10 f  n) x0 x1 h
def f_X6_takeIsland (f : Nat)  (x0 : Nat) (h : Hp) : Option (Hp) :=
  (q_gi h x0 6 26).bind fun v1_ =>
  (q_pi h x0 6 0 v1_).bind fun h2_ =>
  l_X6_takeIsland_10 f f x0 (0 : Int32) h2_
set_option maxRecDepth 20000 in
theorem t_X6_takeIsland_194 {X : Cx} (o : Ok X RX6 cX6_takeIsland 3 1 22 0 0 none) (f : Nat) {k194 : Nat → Int32 → Hp → Option (Hp)} (hk194 : ∀ (x0 : Nat) (x1 : Int32) (h : Hp), Sim X (z_Zv X 0 0) 0 0 194 [(0, rf (xG X) x0), (1, .int x1)] [] h (k194 x0 x1 h)) (x0 : Nat) (x1 : Int32) (h : Hp) : Sim X (z_Zv X 0 0) 0 0 194 [(0, rf (xG X) x0), (1, .int x1)] [] h (b_X6_takeIsland_194 f k194 x0 x1 h) := by
  unfold b_X6_takeIsland_194
  refine s_iload_n o 1 rfl dX6_takeIsland_194 (q := 195) rfl ?_
  refine s_iconst o dX6_takeIsland_195 (v := (3 : Int32)) (by decide) (q := 196) rfl ?_
  refine s_ic_ge o (tgt := 217) dX6_takeIsland_196 (by decide) (q := 199) rfl ?_ ?_
  · refine s_aload_n o 0 rfl dX6_takeIsland_217 (q := 218) rfl ?_
    refine s_iconst o dX6_takeIsland_218 (v := (0 : Int32)) (by decide) (q := 219) rfl ?_
    refine s_pi o kf_X6_259 dX6_takeIsland_219 (q := 222) rfl (fun h1_ => ?_)
    refine s_aload_n o 0 rfl dX6_takeIsland_222 (q := 223) rfl ?_
    refine s_gr o kf_X6_105 dX6_takeIsland_223 (q := 226) rfl (fun a2_ => ?_)
    refine s_iconst o dX6_takeIsland_226 (v := (0 : Int32)) (by decide) (q := 227) rfl ?_
    refine s_iconst o dX6_takeIsland_227 (v := (0 : Int32)) (by decide) (q := 228) rfl ?_
    refine s_zast o dX6_takeIsland_228 (q := 229) rfl (fun h3_ => ?_)
    refine s_aload_n o 0 rfl dX6_takeIsland_229 (q := 230) rfl ?_
    refine s_gr o kf_X6_105 dX6_takeIsland_230 (q := 233) rfl (fun a4_ => ?_)
    refine s_iconst o dX6_takeIsland_233 (v := (1 : Int32)) (by decide) (q := 234) rfl ?_
    refine s_iconst o dX6_takeIsland_234 (v := (0 : Int32)) (by decide) (q := 235) rfl ?_
    refine s_zast o dX6_takeIsland_235 (q := 236) rfl (fun h5_ => ?_)
    refine s_aload_n o 0 rfl dX6_takeIsland_236 (q := 237) rfl ?_
    refine s_on (fun hk6_ => ?_)
    refine s_callv (fun r0 hr0 => runV o hk6_ cv_X6_108 (c_X6_bare (xG X) f x0 h5_ (xl X) r0 hr0) ⟨Nat.le_of_ble_eq_true rfl, Nat.le_of_ble_eq_true rfl⟩ rfl rfl (Nat.le_of_ble_eq_true rfl) dX6_takeIsland_237 ⟨Nat.le_of_ble_eq_true rfl, Nat.le_of_ble_eq_true rfl⟩) (q := 240) rfl (cs' := 0) rfl (sl' := 0) rfl (fun h7_ => ?_)
    exact s_vret o dX6_takeIsland_240
  · refine s_aload_n o 0 rfl dX6_takeIsland_199 (q := 200) rfl ?_
    refine s_gr o kf_X6_22 dX6_takeIsland_200 (q := 203) rfl (fun a8_ => ?_)
    refine s_iload_n o 1 rfl dX6_takeIsland_203 (q := 204) rfl ?_
    refine s_aload_n o 0 rfl dX6_takeIsland_204 (q := 205) rfl ?_
    refine s_gr o kf_X6_69 dX6_takeIsland_205 (q := 208) rfl (fun a9_ => ?_)
    refine s_iload_n o 1 rfl dX6_takeIsland_208 (q := 209) rfl ?_
    refine s_iald o dX6_takeIsland_209 (q := 210) rfl (fun v10_ => ?_)
    refine s_iast o dX6_takeIsland_210 (q := 211) rfl (fun h11_ => ?_)
    refine s_iinc o 1 rfl (v := (1 : Int32)) (by decide) [1, 0] (lv' := fun v12_ => [(0, rf (xG X) x0), (1, .int v12_)]) (fun _ => rfl) dX6_takeIsland_211 (by decide) (q := 214) rfl (fun v12_ => ?_)
    refine s_goto o (tgt := 194) dX6_takeIsland_214 (by decide) ?_
    exact s_sub [0, 1] rfl (hk194 x0 v12_ h11_)
theorem tl_X6_takeIsland_194 {X : Cx} (o : Ok X RX6 cX6_takeIsland 3 1 22 0 0 none) (f : Nat)  : ∀ (n : Nat) (x0 : Nat) (x1 : Int32) (h : Hp), Sim X (z_Zv X 0 0) 0 0 194 [(0, rf (xG X) x0), (1, .int x1)] [] h (l_X6_takeIsland_194 f n x0 x1 h) := by
  intro n
  induction n with
  | zero => intro x0 x1 h; exact s_none
  | succ n ih => intro x0 x1 h; exact t_X6_takeIsland_194 o f  ih x0 x1 h
set_option maxRecDepth 20000 in
theorem t_X6_takeIsland_139 {X : Cx} (o : Ok X RX6 cX6_takeIsland 3 1 22 0 0 none) (f : Nat) {k10 : Nat → Int32 → Hp → Option (Hp)} (hk10 : ∀ (x0 : Nat) (x1 : Int32) (h : Hp), Sim X (z_Zv X 0 0) 0 0 10 [(0, rf (xG X) x0), (1, .int x1)] [] h (k10 x0 x1 h)) {k44 : Nat → Int32 → Int32 → Hp → Option (Hp)} (hk44 : ∀ (x0 : Nat) (x1 : Int32) (x2 : Int32) (h : Hp), Sim X (z_Zv X 0 0) 0 0 44 [(0, rf (xG X) x0), (1, .int x1), (2, .int x2)] [] h (k44 x0 x1 x2 h)) (x0 : Nat) (x1 : Int32) (x2 : Int32) (y0 : Nat) (y1 : Int32) (y2 : Int32) (h : Hp) : Sim X (z_Zv X 0 0) 0 0 139 [(0, rf (xG X) x0), (1, .int x1), (2, .int x2)] [.int y2, .int y1, rf (xG X) y0] h (b_X6_takeIsland_139 f k10 k44 x0 x1 x2 y0 y1 y2 h) := by
  unfold b_X6_takeIsland_139
  refine s_iast o dX6_takeIsland_139 (q := 140) rfl (fun h1_ => ?_)
  refine s_iinc o 2 rfl (v := (1 : Int32)) (by decide) [1, 2, 0] (lv' := fun v2_ => [(0, rf (xG X) x0), (1, .int x1), (2, .int v2_)]) (fun _ => rfl) dX6_takeIsland_140 (by decide) (q := 143) rfl (fun v2_ => ?_)
  refine s_goto o (tgt := 44) dX6_takeIsland_143 (by decide) ?_
  exact s_sub [0, 1, 2] rfl (hk44 x0 x1 v2_ h1_)
set_option maxRecDepth 20000 in
theorem t_X6_takeIsland_94 {X : Cx} (o : Ok X RX6 cX6_takeIsland 3 1 22 0 0 none) (f : Nat) {k10 : Nat → Int32 → Hp → Option (Hp)} (hk10 : ∀ (x0 : Nat) (x1 : Int32) (h : Hp), Sim X (z_Zv X 0 0) 0 0 10 [(0, rf (xG X) x0), (1, .int x1)] [] h (k10 x0 x1 h)) {k44 : Nat → Int32 → Int32 → Hp → Option (Hp)} (hk44 : ∀ (x0 : Nat) (x1 : Int32) (x2 : Int32) (h : Hp), Sim X (z_Zv X 0 0) 0 0 44 [(0, rf (xG X) x0), (1, .int x1), (2, .int x2)] [] h (k44 x0 x1 x2 h)) (x0 : Nat) (x1 : Int32) (x2 : Int32) (y0 : Nat) (y1 : Int32) (y2 : Int32) (h : Hp) : Sim X (z_Zv X 0 0) 0 0 94 [(0, rf (xG X) x0), (1, .int x1), (2, .int x2)] [.int y2, .int y1, rf (xG X) y0] h (b_X6_takeIsland_94 f k10 k44 x0 x1 x2 y0 y1 y2 h) := by
  unfold b_X6_takeIsland_94
  refine s_iast o dX6_takeIsland_94 (q := 95) rfl (fun h1_ => ?_)
  refine s_aload_n o 0 rfl dX6_takeIsland_95 (q := 96) rfl ?_
  refine s_gr o kf_X6_19 dX6_takeIsland_96 (q := 99) rfl (fun a2_ => ?_)
  refine s_bipush o dX6_takeIsland_99 (v := (9 : Int32)) (by decide) (q := 101) rfl ?_
  refine s_iload_n o 2 rfl dX6_takeIsland_101 (q := 102) rfl ?_
  refine s_imul o dX6_takeIsland_102 (q := 103) rfl ?_
  refine s_iload_n o 1 rfl dX6_takeIsland_103 (q := 104) rfl ?_
  refine s_iadd o dX6_takeIsland_104 (q := 105) rfl ?_
  refine s_aload_n o 0 rfl dX6_takeIsland_105 (q := 106) rfl ?_
  refine s_gr o kf_X6_65 dX6_takeIsland_106 (q := 109) rfl (fun a3_ => ?_)
  refine s_bipush o dX6_takeIsland_109 (v := (9 : Int32)) (by decide) (q := 111) rfl ?_
  refine s_iload_n o 2 rfl dX6_takeIsland_111 (q := 112) rfl ?_
  refine s_imul o dX6_takeIsland_112 (q := 113) rfl ?_
  refine s_iload_n o 1 rfl dX6_takeIsland_113 (q := 114) rfl ?_
  refine s_iadd o dX6_takeIsland_114 (q := 115) rfl ?_
  refine s_zald o dX6_takeIsland_115 (q := 116) rfl (fun v4_ => ?_)
  refine s_if_eq o (tgt := 133) dX6_takeIsland_116 (by decide) (q := 119) rfl ?_ ?_
  · refine s_aload_n o 0 rfl dX6_takeIsland_133 (q := 134) rfl ?_
    refine s_gr o kf_X6_56 dX6_takeIsland_134 (q := 137) rfl (fun a5_ => ?_)
    refine s_iload_n o 1 rfl dX6_takeIsland_137 (q := 138) rfl ?_
    refine s_iald o dX6_takeIsland_138 (q := 139) rfl (fun v6_ => ?_)
    exact s_sub [0, 1, 2] rfl (t_X6_takeIsland_139 o f hk10 hk44 x0 x1 x2 a2_ (((9 : Int32) * x2) + x1) v6_ h1_)
  · refine s_aload_n o 0 rfl dX6_takeIsland_119 (q := 120) rfl ?_
    refine s_gr o kf_X6_62 dX6_takeIsland_120 (q := 123) rfl (fun a7_ => ?_)
    refine s_bipush o dX6_takeIsland_123 (v := (9 : Int32)) (by decide) (q := 125) rfl ?_
    refine s_iload_n o 2 rfl dX6_takeIsland_125 (q := 126) rfl ?_
    refine s_imul o dX6_takeIsland_126 (q := 127) rfl ?_
    refine s_iload_n o 1 rfl dX6_takeIsland_127 (q := 128) rfl ?_
    refine s_iadd o dX6_takeIsland_128 (q := 129) rfl ?_
    refine s_iald o dX6_takeIsland_129 (q := 130) rfl (fun v8_ => ?_)
    refine s_goto o (tgt := 139) dX6_takeIsland_130 (by decide) ?_
    exact s_sub [0, 1, 2] rfl (t_X6_takeIsland_139 o f hk10 hk44 x0 x1 x2 a2_ (((9 : Int32) * x2) + x1) v8_ h1_)
set_option maxRecDepth 20000 in
theorem t_X6_takeIsland_44 {X : Cx} (o : Ok X RX6 cX6_takeIsland 3 1 22 0 0 none) (f : Nat) {k10 : Nat → Int32 → Hp → Option (Hp)} (hk10 : ∀ (x0 : Nat) (x1 : Int32) (h : Hp), Sim X (z_Zv X 0 0) 0 0 10 [(0, rf (xG X) x0), (1, .int x1)] [] h (k10 x0 x1 h)) {k44 : Nat → Int32 → Int32 → Hp → Option (Hp)} (hk44 : ∀ (x0 : Nat) (x1 : Int32) (x2 : Int32) (h : Hp), Sim X (z_Zv X 0 0) 0 0 44 [(0, rf (xG X) x0), (1, .int x1), (2, .int x2)] [] h (k44 x0 x1 x2 h)) (x0 : Nat) (x1 : Int32) (x2 : Int32) (h : Hp) : Sim X (z_Zv X 0 0) 0 0 44 [(0, rf (xG X) x0), (1, .int x1), (2, .int x2)] [] h (b_X6_takeIsland_44 f k10 k44 x0 x1 x2 h) := by
  unfold b_X6_takeIsland_44
  refine s_iload_n o 2 rfl dX6_takeIsland_44 (q := 45) rfl ?_
  refine s_bipush o dX6_takeIsland_45 (v := (6 : Int32)) (by decide) (q := 47) rfl ?_
  refine s_ic_ge o (tgt := 146) dX6_takeIsland_47 (by decide) (q := 50) rfl ?_ ?_
  · refine s_iinc o 1 rfl (v := (1 : Int32)) (by decide) [1, 0, 2] (lv' := fun v1_ => [(0, rf (xG X) x0), (1, .int v1_), (2, .int x2)]) (fun _ => rfl) dX6_takeIsland_146 (by decide) (q := 149) rfl (fun v1_ => ?_)
    refine s_goto o (tgt := 10) dX6_takeIsland_149 (by decide) ?_
    exact s_sub [0, 1] rfl (hk10 x0 v1_ h)
  · refine s_aload_n o 0 rfl dX6_takeIsland_50 (q := 51) rfl ?_
    refine s_gr o kf_X6_16 dX6_takeIsland_51 (q := 54) rfl (fun a2_ => ?_)
    refine s_bipush o dX6_takeIsland_54 (v := (9 : Int32)) (by decide) (q := 56) rfl ?_
    refine s_iload_n o 2 rfl dX6_takeIsland_56 (q := 57) rfl ?_
    refine s_imul o dX6_takeIsland_57 (q := 58) rfl ?_
    refine s_iload_n o 1 rfl dX6_takeIsland_58 (q := 59) rfl ?_
    refine s_iadd o dX6_takeIsland_59 (q := 60) rfl ?_
    refine s_aload_n o 0 rfl dX6_takeIsland_60 (q := 61) rfl ?_
    refine s_gr o kf_X6_65 dX6_takeIsland_61 (q := 64) rfl (fun a3_ => ?_)
    refine s_bipush o dX6_takeIsland_64 (v := (9 : Int32)) (by decide) (q := 66) rfl ?_
    refine s_iload_n o 2 rfl dX6_takeIsland_66 (q := 67) rfl ?_
    refine s_imul o dX6_takeIsland_67 (q := 68) rfl ?_
    refine s_iload_n o 1 rfl dX6_takeIsland_68 (q := 69) rfl ?_
    refine s_iadd o dX6_takeIsland_69 (q := 70) rfl ?_
    refine s_zald o dX6_takeIsland_70 (q := 71) rfl (fun v4_ => ?_)
    refine s_if_eq o (tgt := 88) dX6_takeIsland_71 (by decide) (q := 74) rfl ?_ ?_
    · refine s_aload_n o 0 rfl dX6_takeIsland_88 (q := 89) rfl ?_
      refine s_gr o kf_X6_53 dX6_takeIsland_89 (q := 92) rfl (fun a5_ => ?_)
      refine s_iload_n o 1 rfl dX6_takeIsland_92 (q := 93) rfl ?_
      refine s_iald o dX6_takeIsland_93 (q := 94) rfl (fun v6_ => ?_)
      exact s_sub [0, 1, 2] rfl (t_X6_takeIsland_94 o f hk10 hk44 x0 x1 x2 a2_ (((9 : Int32) * x2) + x1) v6_ h)
    · refine s_aload_n o 0 rfl dX6_takeIsland_74 (q := 75) rfl ?_
      refine s_gr o kf_X6_59 dX6_takeIsland_75 (q := 78) rfl (fun a7_ => ?_)
      refine s_bipush o dX6_takeIsland_78 (v := (9 : Int32)) (by decide) (q := 80) rfl ?_
      refine s_iload_n o 2 rfl dX6_takeIsland_80 (q := 81) rfl ?_
      refine s_imul o dX6_takeIsland_81 (q := 82) rfl ?_
      refine s_iload_n o 1 rfl dX6_takeIsland_82 (q := 83) rfl ?_
      refine s_iadd o dX6_takeIsland_83 (q := 84) rfl ?_
      refine s_iald o dX6_takeIsland_84 (q := 85) rfl (fun v8_ => ?_)
      refine s_goto o (tgt := 94) dX6_takeIsland_85 (by decide) ?_
      exact s_sub [0, 1, 2] rfl (t_X6_takeIsland_94 o f hk10 hk44 x0 x1 x2 a2_ (((9 : Int32) * x2) + x1) v8_ h)
theorem tl_X6_takeIsland_44 {X : Cx} (o : Ok X RX6 cX6_takeIsland 3 1 22 0 0 none) (f : Nat) {k10 : Nat → Int32 → Hp → Option (Hp)} (hk10 : ∀ (x0 : Nat) (x1 : Int32) (h : Hp), Sim X (z_Zv X 0 0) 0 0 10 [(0, rf (xG X) x0), (1, .int x1)] [] h (k10 x0 x1 h)) : ∀ (n : Nat) (x0 : Nat) (x1 : Int32) (x2 : Int32) (h : Hp), Sim X (z_Zv X 0 0) 0 0 44 [(0, rf (xG X) x0), (1, .int x1), (2, .int x2)] [] h (l_X6_takeIsland_44 f k10 n x0 x1 x2 h) := by
  intro n
  induction n with
  | zero => intro x0 x1 x2 h; exact s_none
  | succ n ih => intro x0 x1 x2 h; exact t_X6_takeIsland_44 o f hk10 ih x0 x1 x2 h
set_option maxRecDepth 20000 in
theorem t_X6_takeIsland_10 {X : Cx} (o : Ok X RX6 cX6_takeIsland 3 1 22 0 0 none) (f : Nat) {k10 : Nat → Int32 → Hp → Option (Hp)} (hk10 : ∀ (x0 : Nat) (x1 : Int32) (h : Hp), Sim X (z_Zv X 0 0) 0 0 10 [(0, rf (xG X) x0), (1, .int x1)] [] h (k10 x0 x1 h)) (x0 : Nat) (x1 : Int32) (h : Hp) : Sim X (z_Zv X 0 0) 0 0 10 [(0, rf (xG X) x0), (1, .int x1)] [] h (b_X6_takeIsland_10 f k10 x0 x1 h) := by
  unfold b_X6_takeIsland_10
  refine s_iload_n o 1 rfl dX6_takeIsland_10 (q := 11) rfl ?_
  refine s_aload_n o 0 rfl dX6_takeIsland_11 (q := 12) rfl ?_
  refine s_gi o kf_X6_111 dX6_takeIsland_12 (q := 15) rfl (fun v1_ => ?_)
  refine s_ic_ge o (tgt := 152) dX6_takeIsland_15 (by decide) (q := 18) rfl ?_ ?_
  · refine s_aload_n o 0 rfl dX6_takeIsland_152 (q := 153) rfl ?_
    refine s_aload_n o 0 rfl dX6_takeIsland_153 (q := 154) rfl ?_
    refine s_gi o kf_X6_200 dX6_takeIsland_154 (q := 157) rfl (fun v2_ => ?_)
    refine s_pi o kf_X6_250 dX6_takeIsland_157 (q := 160) rfl (fun h3_ => ?_)
    refine s_aload_n o 0 rfl dX6_takeIsland_160 (q := 161) rfl ?_
    refine s_aload_n o 0 rfl dX6_takeIsland_161 (q := 162) rfl ?_
    refine s_gi o kf_X6_179 dX6_takeIsland_162 (q := 165) rfl (fun v4_ => ?_)
    refine s_pi o kf_X6_253 dX6_takeIsland_165 (q := 168) rfl (fun h5_ => ?_)
    refine s_aload_n o 0 rfl dX6_takeIsland_168 (q := 169) rfl ?_
    refine s_aload_n o 0 rfl dX6_takeIsland_169 (q := 170) rfl ?_
    refine s_gi o kf_X6_197 dX6_takeIsland_170 (q := 173) rfl (fun v6_ => ?_)
    refine s_pi o kf_X6_256 dX6_takeIsland_173 (q := 176) rfl (fun h7_ => ?_)
    refine s_aload_n o 0 rfl dX6_takeIsland_176 (q := 177) rfl ?_
    refine s_aload_n o 0 rfl dX6_takeIsland_177 (q := 178) rfl ?_
    refine s_gi o kf_X6_226 dX6_takeIsland_178 (q := 181) rfl (fun v8_ => ?_)
    refine s_pi o kf_X6_25 dX6_takeIsland_181 (q := 184) rfl (fun h9_ => ?_)
    refine s_aload_n o 0 rfl dX6_takeIsland_184 (q := 185) rfl ?_
    refine s_aload_n o 0 rfl dX6_takeIsland_185 (q := 186) rfl ?_
    refine s_gi o kf_X6_229 dX6_takeIsland_186 (q := 189) rfl (fun v10_ => ?_)
    refine s_pi o kf_X6_29 dX6_takeIsland_189 (q := 192) rfl (fun h11_ => ?_)
    refine s_iconst o dX6_takeIsland_192 (v := (0 : Int32)) (by decide) (q := 193) rfl ?_
    refine s_istore_n o [1, 0] (lv' := [(0, rf (xG X) x0), (1, .int (0 : Int32))]) rfl dX6_takeIsland_193 (by decide) (q := 194) rfl ?_
    exact s_sub [0, 1] rfl (tl_X6_takeIsland_194 o f f x0 (0 : Int32) h11_)
  · refine s_aload_n o 0 rfl dX6_takeIsland_18 (q := 19) rfl ?_
    refine s_gr o kf_X6_7 dX6_takeIsland_19 (q := 22) rfl (fun a12_ => ?_)
    refine s_iload_n o 1 rfl dX6_takeIsland_22 (q := 23) rfl ?_
    refine s_aload_n o 0 rfl dX6_takeIsland_23 (q := 24) rfl ?_
    refine s_gr o kf_X6_53 dX6_takeIsland_24 (q := 27) rfl (fun a13_ => ?_)
    refine s_iload_n o 1 rfl dX6_takeIsland_27 (q := 28) rfl ?_
    refine s_iald o dX6_takeIsland_28 (q := 29) rfl (fun v14_ => ?_)
    refine s_iast o dX6_takeIsland_29 (q := 30) rfl (fun h15_ => ?_)
    refine s_aload_n o 0 rfl dX6_takeIsland_30 (q := 31) rfl ?_
    refine s_gr o kf_X6_13 dX6_takeIsland_31 (q := 34) rfl (fun a16_ => ?_)
    refine s_iload_n o 1 rfl dX6_takeIsland_34 (q := 35) rfl ?_
    refine s_aload_n o 0 rfl dX6_takeIsland_35 (q := 36) rfl ?_
    refine s_gr o kf_X6_56 dX6_takeIsland_36 (q := 39) rfl (fun a17_ => ?_)
    refine s_iload_n o 1 rfl dX6_takeIsland_39 (q := 40) rfl ?_
    refine s_iald o dX6_takeIsland_40 (q := 41) rfl (fun v18_ => ?_)
    refine s_iast o dX6_takeIsland_41 (q := 42) rfl (fun h19_ => ?_)
    refine s_iconst o dX6_takeIsland_42 (v := (0 : Int32)) (by decide) (q := 43) rfl ?_
    refine s_istore_n o [1, 2, 0] (lv' := [(0, rf (xG X) x0), (1, .int x1), (2, .int (0 : Int32))]) rfl dX6_takeIsland_43 (by decide) (q := 44) rfl ?_
    exact s_sub [0, 1, 2] rfl (tl_X6_takeIsland_44 o f hk10 f x0 x1 (0 : Int32) h19_)
theorem tl_X6_takeIsland_10 {X : Cx} (o : Ok X RX6 cX6_takeIsland 3 1 22 0 0 none) (f : Nat)  : ∀ (n : Nat) (x0 : Nat) (x1 : Int32) (h : Hp), Sim X (z_Zv X 0 0) 0 0 10 [(0, rf (xG X) x0), (1, .int x1)] [] h (l_X6_takeIsland_10 f n x0 x1 h) := by
  intro n
  induction n with
  | zero => intro x0 x1 h; exact s_none
  | succ n ih => intro x0 x1 h; exact t_X6_takeIsland_10 o f  ih x0 x1 h
set_option maxRecDepth 20000 in
theorem t_X6_takeIsland_0 {X : Cx} (o : Ok X RX6 cX6_takeIsland 3 1 22 0 0 none) (f : Nat)  (x0 : Nat) (h : Hp) : Sim X (z_Zv X 0 0) 0 0 0 [(0, rf (xG X) x0)] [] h (f_X6_takeIsland f x0 h) := by
  unfold f_X6_takeIsland
  refine s_aload_n o 0 rfl dX6_takeIsland_0 (q := 1) rfl ?_
  refine s_aload_n o 0 rfl dX6_takeIsland_1 (q := 2) rfl ?_
  refine s_gi o kf_X6_176 dX6_takeIsland_2 (q := 5) rfl (fun v1_ => ?_)
  refine s_pi o kf_X6_111 dX6_takeIsland_5 (q := 8) rfl (fun h2_ => ?_)
  refine s_iconst o dX6_takeIsland_8 (v := (0 : Int32)) (by decide) (q := 9) rfl ?_
  refine s_istore_n o [1, 0] (lv' := [(0, rf (xG X) x0), (1, .int (0 : Int32))]) rfl dX6_takeIsland_9 (by decide) (q := 10) rfl ?_
  exact s_sub [0, 1] rfl (tl_X6_takeIsland_10 o f f x0 (0 : Int32) h2_)
theorem c_X6_takeIsland (G : Gx) (f : Nat) (x0 : Nat) (h : Hp) : z_M z_qv G yX6_takeIsland cX6_takeIsland 3 none 1 22 0 0 [rf G x0] h (f_X6_takeIsland f x0 h) :=
  z_met (by decide +kernel) (Nat.le_of_ble_eq_true rfl) (fun X hG hn o hnm => by
    subst hG
    show Sim X (z_Zv X 0 0) 0 0 0 [(0, rf (xG X) x0)] [] h _
    exact s_sub [0] rfl (t_X6_takeIsland_0 o f x0 h))
