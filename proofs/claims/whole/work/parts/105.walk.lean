/-! SixMaps$Reader.toNext()V -/
def b_X2_toNext_38 (f : Nat)  (x0 : Nat) (h : Hp) : Option (Hp) :=
  (q_gi h x0 2 5).bind fun v1_ =>
  (q_pi h x0 2 6 v1_).bind fun h2_ =>
  some h2_
def b_X2_toNext_0 (f : Nat) (k0 : Nat → Hp → Option (Hp)) (x0 : Nat) (h : Hp) : Option (Hp) :=
  (q_gi h x0 2 5).bind fun v1_ =>
  (q_gi h x0 2 4).bind fun v2_ =>
  if v2_ ≤ v1_ then
  (b_X2_toNext_38 f x0 h)
  else
  ((q_gr h x0 2 3).bind fun a3_ =>
  (q_gi h x0 2 5).bind fun v4_ =>
  (q_ai h a3_ 8 v4_).bind fun v5_ =>
  if ¬ v5_ = (32 : Int32) then
  (b_X2_toNext_38 f x0 h)
  else
  ((q_gi h x0 2 5).bind fun v6_ =>
  (q_pi h x0 2 5 (v6_ + (1 : Int32))).bind fun h7_ =>
  k0 x0 h7_))
def l_X2_toNext_0 (f : Nat)  : Nat → Nat → Hp → Option (Hp)
  | 0, _, _ => none
  | n + 1, x0, h => b_X2_toNext_0 f  (l_X2_toNext_0 f  n) x0 h
def f_X2_toNext (f : Nat) (x0 : Nat) (h : Hp) : Option (Hp) := l_X2_toNext_0 f f x0 h
set_option maxRecDepth 20000 in
theorem t_X2_toNext_38 {X : Cx} (o : Ok X RX2 cX2_toNext 1 0 0 0 0 none) (f : Nat)  (x0 : Nat) (h : Hp) : Sim X (z_Zv X 0 0) 0 0 38 [(0, rf (xG X) x0)] [] h (b_X2_toNext_38 f x0 h) := by
  unfold b_X2_toNext_38
  refine s_aload_n o 0 rfl dX2_toNext_38 (q := 39) rfl ?_
  refine s_aload_n o 0 rfl dX2_toNext_39 (q := 40) rfl ?_
  refine s_gi o kf_X2_29 dX2_toNext_40 (q := 43) rfl (fun v1_ => ?_)
  refine s_pi o kf_X2_32 dX2_toNext_43 (q := 46) rfl (fun h2_ => ?_)
  exact s_vret o dX2_toNext_46
set_option maxRecDepth 20000 in
theorem t_X2_toNext_0 {X : Cx} (o : Ok X RX2 cX2_toNext 1 0 0 0 0 none) (f : Nat) {k0 : Nat → Hp → Option (Hp)} (hk0 : ∀ (x0 : Nat) (h : Hp), Sim X (z_Zv X 0 0) 0 0 0 [(0, rf (xG X) x0)] [] h (k0 x0 h)) (x0 : Nat) (h : Hp) : Sim X (z_Zv X 0 0) 0 0 0 [(0, rf (xG X) x0)] [] h (b_X2_toNext_0 f k0 x0 h) := by
  unfold b_X2_toNext_0
  refine s_aload_n o 0 rfl dX2_toNext_0 (q := 1) rfl ?_
  refine s_gi o kf_X2_29 dX2_toNext_1 (q := 4) rfl (fun v1_ => ?_)
  refine s_aload_n o 0 rfl dX2_toNext_4 (q := 5) rfl ?_
  refine s_gi o kf_X2_25 dX2_toNext_5 (q := 8) rfl (fun v2_ => ?_)
  refine s_ic_ge o (tgt := 38) dX2_toNext_8 (by decide) (q := 11) rfl ?_ ?_
  · exact s_sub [0] rfl (t_X2_toNext_38 o f x0 h)
  · refine s_aload_n o 0 rfl dX2_toNext_11 (q := 12) rfl ?_
    refine s_gr o kf_X2_21 dX2_toNext_12 (q := 15) rfl (fun a3_ => ?_)
    refine s_aload_n o 0 rfl dX2_toNext_15 (q := 16) rfl ?_
    refine s_gi o kf_X2_29 dX2_toNext_16 (q := 19) rfl (fun v4_ => ?_)
    refine s_bald o dX2_toNext_19 (q := 20) rfl (fun v5_ => ?_)
    refine s_bipush o dX2_toNext_20 (v := (32 : Int32)) (by decide) (q := 22) rfl ?_
    refine s_ic_ne o (tgt := 38) dX2_toNext_22 (by decide) (q := 25) rfl ?_ ?_
    · exact s_sub [0] rfl (t_X2_toNext_38 o f x0 h)
    · refine s_aload_n o 0 rfl dX2_toNext_25 (q := 26) rfl ?_
      refine s_dup o rfl dX2_toNext_26 (q := 27) rfl ?_
      refine s_gi o kf_X2_29 dX2_toNext_27 (q := 30) rfl (fun v6_ => ?_)
      refine s_iconst o dX2_toNext_30 (v := (1 : Int32)) (by decide) (q := 31) rfl ?_
      refine s_iadd o dX2_toNext_31 (q := 32) rfl ?_
      refine s_pi o kf_X2_29 dX2_toNext_32 (q := 35) rfl (fun h7_ => ?_)
      refine s_goto o (tgt := 0) dX2_toNext_35 (by decide) ?_
      exact s_sub [0] rfl (hk0 x0 h7_)
theorem tl_X2_toNext_0 {X : Cx} (o : Ok X RX2 cX2_toNext 1 0 0 0 0 none) (f : Nat)  : ∀ (n : Nat) (x0 : Nat) (h : Hp), Sim X (z_Zv X 0 0) 0 0 0 [(0, rf (xG X) x0)] [] h (l_X2_toNext_0 f n x0 h) := by
  intro n
  induction n with
  | zero => intro x0 h; exact s_none
  | succ n ih => intro x0 h; exact t_X2_toNext_0 o f  ih x0 h
theorem c_X2_toNext (G : Gx) (f : Nat) (x0 : Nat) (h : Hp) : z_M z_qv G yX2_toNext cX2_toNext 1 none 0 0 0 0 [rf G x0] h (f_X2_toNext f x0 h) :=
  z_met (by decide +kernel) (Nat.le_of_ble_eq_true rfl) (fun X hG hn o hnm => by
    subst hG
    show Sim X (z_Zv X 0 0) 0 0 0 [(0, rf (xG X) x0)] [] h _
    exact s_sub [0] rfl (tl_X2_toNext_0 o f f x0 h))
/-! SixMaps$Reader.readClause(LSixMaps$Island;)I -/
def b_X2_readClause_137 (f : Nat)   (h : Hp) : Option (Int32 × Hp) :=
  some ((1 : Int32), h)
def b_X2_readClause_48 (f : Nat) (k48 : Nat → Nat → Int32 → Int32 → Hp → Option (Int32 × Hp)) (x0 : Nat) (x1 : Nat) (x2 : Int32) (x3 : Int32) (h : Hp) : Option (Int32 × Hp) :=
  (q_no x2).bind fun v1_ =>
  if v1_ ≤ x3 then
  (q_on h x0 2 (
  (f_X2_toNext f x0 h).bind fun h3_ =>
  (q_gi h3_ x0 2 5).bind fun v4_ =>
  (q_gi h3_ x0 2 4).bind fun v5_ =>
  if v5_ ≤ v4_ then
  (b_X2_readClause_137 f h3_)
  else
  ((q_gr h3_ x0 2 3).bind fun a6_ =>
  (q_gi h3_ x0 2 5).bind fun v7_ =>
  (q_ai h3_ a6_ 8 v7_).bind fun v8_ =>
  if v8_ = (59 : Int32) then
  ((q_gi h3_ x0 2 5).bind fun v9_ =>
  (q_pi h3_ x0 2 5 (v9_ + (1 : Int32))).bind fun h10_ =>
  q_on h10_ x0 2 (
  (f_X2_tell f x0 x2 x1 h10_).bind fun h12_ =>
  some ((0 : Int32), h12_)))
  else
  (b_X2_readClause_137 f h3_))))
  else
  (q_on h x0 2 (
  (f_X2_toNext f x0 h).bind fun h14_ =>
  q_on h14_ x0 2 (
  bi (f_X2_readNumber f x0 h14_) fun v17_ h16_ =>
  if ¬ v17_ = (-1 : Int32) then
  (q_on h16_ x0 2 (
  bi (f_X2_numberFault f x0 x2 x3 v17_ x1 h16_) fun v20_ h19_ =>
  if v20_ = 0 then
  ((q_gr h19_ x0 2 1).bind fun a21_ =>
  (q_as h19_ a21_ 9 x3 v17_).bind fun h22_ =>
  lt (x3 + (1 : Int32)) fun v23_ =>
  k48 x0 x1 x2 v23_ h22_)
  else
  (some (v20_, h19_))))
  else
  (some ((1 : Int32), h16_)))))
def l_X2_readClause_48 (f : Nat)  : Nat → Nat → Nat → Int32 → Int32 → Hp → Option (Int32 × Hp)
  | 0, _, _, _, _, _ => none
  | n + 1, x0, x1, x2, x3, h => b_X2_readClause_48 f  (l_X2_readClause_48 f  n) x0 x1 x2 x3 h
def b_X2_readClause_18 (f : Nat)   (h : Hp) : Option (Int32 × Hp) :=
  some ((1 : Int32), h)
def f_X2_readClause (f : Nat)  (x0 : Nat) (x1 : Nat) (h : Hp) : Option (Int32 × Hp) :=
  q_on h x0 2 (
  bi (f_X2_readWord f x0 h) fun v3_ h2_ =>
  if v3_ = (-1 : Int32) then
  (b_X2_readClause_18 f h2_)
  else
  (q_on h2_ x0 2 (
  bi (f_X2_comesTooLate f x0 v3_ h2_) fun v6_ h5_ =>
  if v6_ = 0 then
  ((q_gr h5_ x0 2 0).bind fun a7_ =>
  (q_ai h5_ a7_ 9 v3_).bind fun v8_ =>
  (q_tm v3_).bind fun v9_ =>
  if v8_ < v9_ then
  ((q_gr h5_ x0 2 0).bind fun a10_ =>
  (q_ai h5_ a10_ 9 v3_).bind fun v11_ =>
  (q_as h5_ a10_ 9 v3_ (v11_ + (1 : Int32))).bind fun h12_ =>
  l_X2_readClause_48 f f x0 x1 v3_ (0 : Int32) h12_)
  else
  (some ((3 : Int32), h5_)))
  else
  (b_X2_readClause_18 f h5_))))
set_option maxRecDepth 20000 in
theorem t_X2_readClause_137 {X : Cx} (o : Ok X RX2 cX2_readClause 6 6 128 0 0 (some .int)) (f : Nat)   (h : Hp) : Sim X (z_Zi X 0 0) 0 0 137 [] [] h (b_X2_readClause_137 f h) := by
  unfold b_X2_readClause_137
  refine s_iconst o dX2_readClause_137 (v := (1 : Int32)) (by decide) (q := 138) rfl ?_
  exact s_iret o dX2_readClause_138
set_option maxRecDepth 20000 in
theorem t_X2_readClause_48 {X : Cx} (o : Ok X RX2 cX2_readClause 6 6 128 0 0 (some .int)) (f : Nat) {k48 : Nat → Nat → Int32 → Int32 → Hp → Option (Int32 × Hp)} (hk48 : ∀ (x0 : Nat) (x1 : Nat) (x2 : Int32) (x3 : Int32) (h : Hp), Sim X (z_Zi X 0 0) 0 0 48 [(0, rf (xG X) x0), (1, rf (xG X) x1), (2, .int x2), (3, .int x3)] [] h (k48 x0 x1 x2 x3 h)) (x0 : Nat) (x1 : Nat) (x2 : Int32) (x3 : Int32) (h : Hp) : Sim X (z_Zi X 0 0) 0 0 48 [(0, rf (xG X) x0), (1, rf (xG X) x1), (2, .int x2), (3, .int x3)] [] h (b_X2_readClause_48 f k48 x0 x1 x2 x3 h) := by
  unfold b_X2_readClause_48
  refine s_iload_n o 3 rfl dX2_readClause_48 (q := 49) rfl ?_
  refine s_gno o ks_X2_70 dX2_readClause_49 (q := 52) rfl ?_
  refine s_iload_n o 2 rfl dX2_readClause_52 (q := 53) rfl ?_
  refine s_ano o dX2_readClause_53 (q := 54) rfl (fun v1_ => ?_)
  refine s_ic_ge o (tgt := 108) dX2_readClause_54 (by decide) (q := 57) rfl ?_ ?_
  · refine s_aload_n o 0 rfl dX2_readClause_108 (q := 109) rfl ?_
    refine s_on (fun hk2_ => ?_)
    refine s_callv (fun r0 hr0 => runV o hk2_ cv_X2_52 (c_X2_toNext (xG X) f x0 h (xl X) r0 hr0) ⟨Nat.le_of_ble_eq_true rfl, Nat.le_of_ble_eq_true rfl⟩ rfl rfl (Nat.le_of_ble_eq_true rfl) dX2_readClause_109 ⟨Nat.le_of_ble_eq_true rfl, Nat.le_of_ble_eq_true rfl⟩) (q := 112) rfl (cs' := 0) rfl (sl' := 0) rfl (fun h3_ => ?_)
    refine s_aload_n o 0 rfl dX2_readClause_112 (q := 113) rfl ?_
    refine s_gi o kf_X2_29 dX2_readClause_113 (q := 116) rfl (fun v4_ => ?_)
    refine s_aload_n o 0 rfl dX2_readClause_116 (q := 117) rfl ?_
    refine s_gi o kf_X2_25 dX2_readClause_117 (q := 120) rfl (fun v5_ => ?_)
    refine s_ic_ge o (tgt := 137) dX2_readClause_120 (by decide) (q := 123) rfl ?_ ?_
    · exact s_sub [] rfl (t_X2_readClause_137 o f h3_)
    · refine s_aload_n o 0 rfl dX2_readClause_123 (q := 124) rfl ?_
      refine s_gr o kf_X2_21 dX2_readClause_124 (q := 127) rfl (fun a6_ => ?_)
      refine s_aload_n o 0 rfl dX2_readClause_127 (q := 128) rfl ?_
      refine s_gi o kf_X2_29 dX2_readClause_128 (q := 131) rfl (fun v7_ => ?_)
      refine s_bald o dX2_readClause_131 (q := 132) rfl (fun v8_ => ?_)
      refine s_bipush o dX2_readClause_132 (v := (59 : Int32)) (by decide) (q := 134) rfl ?_
      refine s_ic_eq o (tgt := 139) dX2_readClause_134 (by decide) (q := 137) rfl ?_ ?_
      · refine s_aload_n o 0 rfl dX2_readClause_139 (q := 140) rfl ?_
        refine s_dup o rfl dX2_readClause_140 (q := 141) rfl ?_
        refine s_gi o kf_X2_29 dX2_readClause_141 (q := 144) rfl (fun v9_ => ?_)
        refine s_iconst o dX2_readClause_144 (v := (1 : Int32)) (by decide) (q := 145) rfl ?_
        refine s_iadd o dX2_readClause_145 (q := 146) rfl ?_
        refine s_pi o kf_X2_29 dX2_readClause_146 (q := 149) rfl (fun h10_ => ?_)
        refine s_aload_n o 0 rfl dX2_readClause_149 (q := 150) rfl ?_
        refine s_iload_n o 2 rfl dX2_readClause_150 (q := 151) rfl ?_
        refine s_aload_n o 1 rfl dX2_readClause_151 (q := 152) rfl ?_
        refine s_on (fun hk11_ => ?_)
        refine s_callv (fun r0 hr0 => runV o hk11_ cv_X2_80 (c_X2_tell (xG X) f x0 x2 x1 h10_ (xl X) r0 hr0) ⟨Nat.le_of_ble_eq_true rfl, Nat.le_of_ble_eq_true rfl⟩ rfl rfl (Nat.le_of_ble_eq_true rfl) dX2_readClause_152 ⟨Nat.le_of_ble_eq_true rfl, Nat.le_of_ble_eq_true rfl⟩) (q := 155) rfl (cs' := 0) rfl (sl' := 0) rfl (fun h12_ => ?_)
        refine s_iconst o dX2_readClause_155 (v := (0 : Int32)) (by decide) (q := 156) rfl ?_
        exact s_iret o dX2_readClause_156
      · exact s_sub [] rfl (t_X2_readClause_137 o f h3_)
  · refine s_aload_n o 0 rfl dX2_readClause_57 (q := 58) rfl ?_
    refine s_on (fun hk13_ => ?_)
    refine s_callv (fun r0 hr0 => runV o hk13_ cv_X2_52 (c_X2_toNext (xG X) f x0 h (xl X) r0 hr0) ⟨Nat.le_of_ble_eq_true rfl, Nat.le_of_ble_eq_true rfl⟩ rfl rfl (Nat.le_of_ble_eq_true rfl) dX2_readClause_58 ⟨Nat.le_of_ble_eq_true rfl, Nat.le_of_ble_eq_true rfl⟩) (q := 61) rfl (cs' := 0) rfl (sl' := 0) rfl (fun h14_ => ?_)
    refine s_aload_n o 0 rfl dX2_readClause_61 (q := 62) rfl ?_
    refine s_on (fun hk15_ => ?_)
    refine s_bi (fun r0 hr0 => runV o hk15_ cv_X2_73 (c_X2_readNumber (xG X) f x0 h14_ (xl X) r0 hr0) ⟨Nat.le_of_ble_eq_true rfl, Nat.le_of_ble_eq_true rfl⟩ rfl rfl (Nat.le_of_ble_eq_true rfl) dX2_readClause_62 ⟨Nat.le_of_ble_eq_true rfl, Nat.le_of_ble_eq_true rfl⟩) (q := 65) rfl (cs' := 0) rfl (sl' := 0) rfl (fun v17_ h16_ => ?_)
    refine s_istore o [1, 2, 3, 4, 0] (lv' := [(0, rf (xG X) x0), (1, rf (xG X) x1), (2, .int x2), (3, .int x3), (4, .int v17_)]) rfl dX2_readClause_65 (by decide) (q := 67) rfl ?_
    refine s_iload o 4 rfl dX2_readClause_67 (q := 69) rfl ?_
    refine s_iconst o dX2_readClause_69 (v := (-1 : Int32)) (by decide) (q := 70) rfl ?_
    refine s_ic_ne o (tgt := 75) dX2_readClause_70 (by decide) (q := 73) rfl ?_ ?_
    · refine s_aload_n o 0 rfl dX2_readClause_75 (q := 76) rfl ?_
      refine s_iload_n o 2 rfl dX2_readClause_76 (q := 77) rfl ?_
      refine s_iload_n o 3 rfl dX2_readClause_77 (q := 78) rfl ?_
      refine s_iload o 4 rfl dX2_readClause_78 (q := 80) rfl ?_
      refine s_aload_n o 1 rfl dX2_readClause_80 (q := 81) rfl ?_
      refine s_on (fun hk18_ => ?_)
      refine s_bi (fun r0 hr0 => runV o hk18_ cv_X2_76 (c_X2_numberFault (xG X) f x0 x2 x3 v17_ x1 h16_ (xl X) r0 hr0) ⟨Nat.le_of_ble_eq_true rfl, Nat.le_of_ble_eq_true rfl⟩ rfl rfl (Nat.le_of_ble_eq_true rfl) dX2_readClause_81 ⟨Nat.le_of_ble_eq_true rfl, Nat.le_of_ble_eq_true rfl⟩) (q := 84) rfl (cs' := 0) rfl (sl' := 0) rfl (fun v20_ h19_ => ?_)
      refine s_istore o [1, 2, 3, 4, 5, 0] (lv' := [(0, rf (xG X) x0), (1, rf (xG X) x1), (2, .int x2), (3, .int x3), (4, .int v17_), (5, .int v20_)]) rfl dX2_readClause_84 (by decide) (q := 86) rfl ?_
      refine s_iload o 5 rfl dX2_readClause_86 (q := 88) rfl ?_
      refine s_if_eq o (tgt := 94) dX2_readClause_88 (by decide) (q := 91) rfl ?_ ?_
      · refine s_aload_n o 0 rfl dX2_readClause_94 (q := 95) rfl ?_
        refine s_gr o kf_X2_15 dX2_readClause_95 (q := 98) rfl (fun a21_ => ?_)
        refine s_iload_n o 3 rfl dX2_readClause_98 (q := 99) rfl ?_
        refine s_iload o 4 rfl dX2_readClause_99 (q := 101) rfl ?_
        refine s_iast o dX2_readClause_101 (q := 102) rfl (fun h22_ => ?_)
        refine s_iinc o 3 rfl (v := (1 : Int32)) (by decide) [1, 2, 3, 0, 4, 5] (lv' := fun v23_ => [(0, rf (xG X) x0), (1, rf (xG X) x1), (2, .int x2), (3, .int v23_), (4, .int v17_), (5, .int v20_)]) (fun _ => rfl) dX2_readClause_102 (by decide) (q := 105) rfl (fun v23_ => ?_)
        refine s_goto o (tgt := 48) dX2_readClause_105 (by decide) ?_
        exact s_sub [0, 1, 2, 3] rfl (hk48 x0 x1 x2 v23_ h22_)
      · refine s_iload o 5 rfl dX2_readClause_91 (q := 93) rfl ?_
        exact s_iret o dX2_readClause_93
    · refine s_iconst o dX2_readClause_73 (v := (1 : Int32)) (by decide) (q := 74) rfl ?_
      exact s_iret o dX2_readClause_74
theorem tl_X2_readClause_48 {X : Cx} (o : Ok X RX2 cX2_readClause 6 6 128 0 0 (some .int)) (f : Nat)  : ∀ (n : Nat) (x0 : Nat) (x1 : Nat) (x2 : Int32) (x3 : Int32) (h : Hp), Sim X (z_Zi X 0 0) 0 0 48 [(0, rf (xG X) x0), (1, rf (xG X) x1), (2, .int x2), (3, .int x3)] [] h (l_X2_readClause_48 f n x0 x1 x2 x3 h) := by
  intro n
  induction n with
  | zero => intro x0 x1 x2 x3 h; exact s_none
  | succ n ih => intro x0 x1 x2 x3 h; exact t_X2_readClause_48 o f  ih x0 x1 x2 x3 h
set_option maxRecDepth 20000 in
theorem t_X2_readClause_18 {X : Cx} (o : Ok X RX2 cX2_readClause 6 6 128 0 0 (some .int)) (f : Nat)   (h : Hp) : Sim X (z_Zi X 0 0) 0 0 18 [] [] h (b_X2_readClause_18 f h) := by
  unfold b_X2_readClause_18
  refine s_iconst o dX2_readClause_18 (v := (1 : Int32)) (by decide) (q := 19) rfl ?_
  exact s_iret o dX2_readClause_19
set_option maxRecDepth 20000 in
theorem t_X2_readClause_0 {X : Cx} (o : Ok X RX2 cX2_readClause 6 6 128 0 0 (some .int)) (f : Nat)  (x0 : Nat) (x1 : Nat) (h : Hp) : Sim X (z_Zi X 0 0) 0 0 0 [(0, rf (xG X) x0), (1, rf (xG X) x1)] [] h (f_X2_readClause f x0 x1 h) := by
  unfold f_X2_readClause
  refine s_aload_n o 0 rfl dX2_readClause_0 (q := 1) rfl ?_
  refine s_on (fun hk1_ => ?_)
  refine s_bi (fun r0 hr0 => runV o hk1_ cv_X2_59 (c_X2_readWord (xG X) f x0 h (xl X) r0 hr0) ⟨Nat.le_of_ble_eq_true rfl, Nat.le_of_ble_eq_true rfl⟩ rfl rfl (Nat.le_of_ble_eq_true rfl) dX2_readClause_1 ⟨Nat.le_of_ble_eq_true rfl, Nat.le_of_ble_eq_true rfl⟩) (q := 4) rfl (cs' := 0) rfl (sl' := 0) rfl (fun v3_ h2_ => ?_)
  refine s_istore_n o [1, 2, 0] (lv' := [(0, rf (xG X) x0), (1, rf (xG X) x1), (2, .int v3_)]) rfl dX2_readClause_4 (by decide) (q := 5) rfl ?_
  refine s_iload_n o 2 rfl dX2_readClause_5 (q := 6) rfl ?_
  refine s_iconst o dX2_readClause_6 (v := (-1 : Int32)) (by decide) (q := 7) rfl ?_
  refine s_ic_eq o (tgt := 18) dX2_readClause_7 (by decide) (q := 10) rfl ?_ ?_
  · exact s_sub [] rfl (t_X2_readClause_18 o f h2_)
  · refine s_aload_n o 0 rfl dX2_readClause_10 (q := 11) rfl ?_
    refine s_iload_n o 2 rfl dX2_readClause_11 (q := 12) rfl ?_
    refine s_on (fun hk4_ => ?_)
    refine s_bi (fun r0 hr0 => runV o hk4_ cv_X2_63 (c_X2_comesTooLate (xG X) f x0 v3_ h2_ (xl X) r0 hr0) ⟨Nat.le_of_ble_eq_true rfl, Nat.le_of_ble_eq_true rfl⟩ rfl rfl (Nat.le_of_ble_eq_true rfl) dX2_readClause_12 ⟨Nat.le_of_ble_eq_true rfl, Nat.le_of_ble_eq_true rfl⟩) (q := 15) rfl (cs' := 0) rfl (sl' := 0) rfl (fun v6_ h5_ => ?_)
    refine s_if_eq o (tgt := 20) dX2_readClause_15 (by decide) (q := 18) rfl ?_ ?_
    · refine s_aload_n o 0 rfl dX2_readClause_20 (q := 21) rfl ?_
      refine s_gr o kf_X2_11 dX2_readClause_21 (q := 24) rfl (fun a7_ => ?_)
      refine s_iload_n o 2 rfl dX2_readClause_24 (q := 25) rfl ?_
      refine s_iald o dX2_readClause_25 (q := 26) rfl (fun v8_ => ?_)
      refine s_gtm o ks_X2_67 dX2_readClause_26 (q := 29) rfl ?_
      refine s_iload_n o 2 rfl dX2_readClause_29 (q := 30) rfl ?_
      refine s_atm o dX2_readClause_30 (q := 31) rfl (fun v9_ => ?_)
      refine s_ic_lt o (tgt := 36) dX2_readClause_31 (by decide) (q := 34) rfl ?_ ?_
      · refine s_aload_n o 0 rfl dX2_readClause_36 (q := 37) rfl ?_
        refine s_gr o kf_X2_11 dX2_readClause_37 (q := 40) rfl (fun a10_ => ?_)
        refine s_iload_n o 2 rfl dX2_readClause_40 (q := 41) rfl ?_
        refine s_dup2 o rfl rfl dX2_readClause_41 (q := 42) rfl ?_
        refine s_iald o dX2_readClause_42 (q := 43) rfl (fun v11_ => ?_)
        refine s_iconst o dX2_readClause_43 (v := (1 : Int32)) (by decide) (q := 44) rfl ?_
        refine s_iadd o dX2_readClause_44 (q := 45) rfl ?_
        refine s_iast o dX2_readClause_45 (q := 46) rfl (fun h12_ => ?_)
        refine s_iconst o dX2_readClause_46 (v := (0 : Int32)) (by decide) (q := 47) rfl ?_
        refine s_istore_n o [1, 2, 3, 0] (lv' := [(0, rf (xG X) x0), (1, rf (xG X) x1), (2, .int v3_), (3, .int (0 : Int32))]) rfl dX2_readClause_47 (by decide) (q := 48) rfl ?_
        exact s_sub [0, 1, 2, 3] rfl (tl_X2_readClause_48 o f f x0 x1 v3_ (0 : Int32) h12_)
      · refine s_iconst o dX2_readClause_34 (v := (3 : Int32)) (by decide) (q := 35) rfl ?_
        exact s_iret o dX2_readClause_35
    · exact s_sub [] rfl (t_X2_readClause_18 o f h5_)
theorem c_X2_readClause (G : Gx) (f : Nat) (x0 : Nat) (x1 : Nat) (h : Hp) : z_M z_qi G yX2_readClause cX2_readClause 6 (some .int) 6 128 0 0 [rf G x0, rf G x1] h (f_X2_readClause f x0 x1 h) :=
  z_met (by decide +kernel) (Nat.le_of_ble_eq_true rfl) (fun X hG hn o hnm => by
    subst hG
    show Sim X (z_Zi X 0 0) 0 0 0 [(0, rf (xG X) x0), (1, rf (xG X) x1)] [] h _
    exact s_sub [0, 1] rfl (t_X2_readClause_0 o f x0 x1 h))
/-! SixMaps$Reader.read([BILSixMaps$Island;)I -/
def b_X2_read_91 (f : Nat)   (h : Hp) : Option (Int32 × Hp) :=
  some ((0 : Int32), h)
def b_X2_read_47 (f : Nat) (k47 : Nat → Nat → Int32 → Hp → Option (Int32 × Hp)) (x0 : Nat) (x3 : Nat) (x4 : Int32) (h : Hp) : Option (Int32 × Hp) :=
  if (400 : Int32) ≤ x4 then
  (b_X2_read_91 f h)
  else
  ((q_gi h x0 2 5).bind fun v1_ =>
  (q_gi h x0 2 4).bind fun v2_ =>
  if v2_ ≤ v1_ then
  (b_X2_read_91 f h)
  else
  (q_on h x0 2 (
  bi (f_X2_readClause f x0 x3 h) fun v5_ h4_ =>
  if v5_ = 0 then
  (q_on h4_ x0 2 (
  (f_X2_toNext f x0 h4_).bind fun h7_ =>
  lt (x4 + (1 : Int32)) fun v8_ =>
  k47 x0 x3 v8_ h7_))
  else
  (some (v5_, h4_)))))
def l_X2_read_47 (f : Nat)  : Nat → Nat → Nat → Int32 → Hp → Option (Int32 × Hp)
  | 0, _, _, _, _ => none
  | n + 1, x0, x3, x4, h => b_X2_read_47 f  (l_X2_read_47 f  n) x0 x3 x4 h
def f_X2_read (f : Nat)  (x0 : Nat) (x1 : Nat) (x2 : Int32) (x3 : Nat) (h : Hp) : Option (Int32 × Hp) :=
  (q_pr h x0 2 3 x1).bind fun h1_ =>
  (q_al h1_ x1).bind fun v2_ =>
  (q_pi h1_ x0 2 4 (if v2_ < x2 then v2_ else x2)).bind fun h3_ =>
  (q_pi h3_ x0 2 5 (0 : Int32)).bind fun h4_ =>
  (q_gr h4_ x0 2 0).bind fun a5_ =>
  (f_J7_fill_53178 f a5_ (0 : Int32) h4_).bind fun h6_ =>
  (q_gr h6_ x0 2 2).bind fun a7_ =>
  (f_J7_fill_53178 f a7_ (0 : Int32) h6_).bind fun h8_ =>
  q_on h8_ x3 0 (
  (f_X0_clear f x3 h8_).bind fun h10_ =>
  q_on h10_ x0 2 (
  (f_X2_toNext f x0 h10_).bind fun h12_ =>
  l_X2_read_47 f f x0 x3 (0 : Int32) h12_))
set_option maxRecDepth 20000 in
theorem t_X2_read_91 {X : Cx} (o : Ok X RX2 cX2_read 6 7 153 0 0 (some .int)) (f : Nat)   (h : Hp) : Sim X (z_Zi X 0 0) 0 0 91 [] [] h (b_X2_read_91 f h) := by
  unfold b_X2_read_91
  refine s_iconst o dX2_read_91 (v := (0 : Int32)) (by decide) (q := 92) rfl ?_
  exact s_iret o dX2_read_92
set_option maxRecDepth 20000 in
theorem t_X2_read_47 {X : Cx} (o : Ok X RX2 cX2_read 6 7 153 0 0 (some .int)) (f : Nat) {k47 : Nat → Nat → Int32 → Hp → Option (Int32 × Hp)} (hk47 : ∀ (x0 : Nat) (x3 : Nat) (x4 : Int32) (h : Hp), Sim X (z_Zi X 0 0) 0 0 47 [(0, rf (xG X) x0), (3, rf (xG X) x3), (4, .int x4)] [] h (k47 x0 x3 x4 h)) (x0 : Nat) (x3 : Nat) (x4 : Int32) (h : Hp) : Sim X (z_Zi X 0 0) 0 0 47 [(0, rf (xG X) x0), (3, rf (xG X) x3), (4, .int x4)] [] h (b_X2_read_47 f k47 x0 x3 x4 h) := by
  unfold b_X2_read_47
  refine s_iload o 2 rfl dX2_read_47 (q := 49) rfl ?_
  refine s_sipush o dX2_read_49 (v := (400 : Int32)) (by decide) (q := 52) rfl ?_
  refine s_ic_ge o (tgt := 91) dX2_read_52 (by decide) (q := 55) rfl ?_ ?_
  · exact s_sub [] rfl (t_X2_read_91 o f h)
  · refine s_aload_n o 0 rfl dX2_read_55 (q := 56) rfl ?_
    refine s_gi o kf_X2_29 dX2_read_56 (q := 59) rfl (fun v1_ => ?_)
    refine s_aload_n o 0 rfl dX2_read_59 (q := 60) rfl ?_
    refine s_gi o kf_X2_25 dX2_read_60 (q := 63) rfl (fun v2_ => ?_)
    refine s_ic_ge o (tgt := 91) dX2_read_63 (by decide) (q := 66) rfl ?_ ?_
    · exact s_sub [] rfl (t_X2_read_91 o f h)
    · refine s_aload_n o 0 rfl dX2_read_66 (q := 67) rfl ?_
      refine s_aload_n o 1 rfl dX2_read_67 (q := 68) rfl ?_
      refine s_on (fun hk3_ => ?_)
      refine s_bi (fun r0 hr0 => runV o hk3_ cv_X2_55 (c_X2_readClause (xG X) f x0 x3 h (xl X) r0 hr0) ⟨Nat.le_of_ble_eq_true rfl, Nat.le_of_ble_eq_true rfl⟩ rfl rfl (Nat.le_of_ble_eq_true rfl) dX2_read_68 ⟨Nat.le_of_ble_eq_true rfl, Nat.le_of_ble_eq_true rfl⟩) (q := 71) rfl (cs' := 0) rfl (sl' := 0) rfl (fun v5_ h4_ => ?_)
      refine s_istore o [1, 2, 3, 0] (lv' := [(0, rf (xG X) x0), (3, rf (xG X) x3), (4, .int x4), (5, .int v5_)]) rfl dX2_read_71 (by decide) (q := 73) rfl ?_
      refine s_iload o 3 rfl dX2_read_73 (q := 75) rfl ?_
      refine s_if_eq o (tgt := 81) dX2_read_75 (by decide) (q := 78) rfl ?_ ?_
      · refine s_aload_n o 0 rfl dX2_read_81 (q := 82) rfl ?_
        refine s_on (fun hk6_ => ?_)
        refine s_callv (fun r0 hr0 => runV o hk6_ cv_X2_52 (c_X2_toNext (xG X) f x0 h4_ (xl X) r0 hr0) ⟨Nat.le_of_ble_eq_true rfl, Nat.le_of_ble_eq_true rfl⟩ rfl rfl (Nat.le_of_ble_eq_true rfl) dX2_read_82 ⟨Nat.le_of_ble_eq_true rfl, Nat.le_of_ble_eq_true rfl⟩) (q := 85) rfl (cs' := 0) rfl (sl' := 0) rfl (fun h7_ => ?_)
        refine s_iinc o 2 rfl (v := (1 : Int32)) (by decide) [1, 2, 0, 3] (lv' := fun v8_ => [(0, rf (xG X) x0), (3, rf (xG X) x3), (4, .int v8_), (5, .int v5_)]) (fun _ => rfl) dX2_read_85 (by decide) (q := 88) rfl (fun v8_ => ?_)
        refine s_goto o (tgt := 47) dX2_read_88 (by decide) ?_
        exact s_sub [0, 1, 2] rfl (hk47 x0 x3 v8_ h7_)
      · refine s_iload o 3 rfl dX2_read_78 (q := 80) rfl ?_
        exact s_iret o dX2_read_80
theorem tl_X2_read_47 {X : Cx} (o : Ok X RX2 cX2_read 6 7 153 0 0 (some .int)) (f : Nat)  : ∀ (n : Nat) (x0 : Nat) (x3 : Nat) (x4 : Int32) (h : Hp), Sim X (z_Zi X 0 0) 0 0 47 [(0, rf (xG X) x0), (3, rf (xG X) x3), (4, .int x4)] [] h (l_X2_read_47 f n x0 x3 x4 h) := by
  intro n
  induction n with
  | zero => intro x0 x3 x4 h; exact s_none
  | succ n ih => intro x0 x3 x4 h; exact t_X2_read_47 o f  ih x0 x3 x4 h
set_option maxRecDepth 20000 in
theorem t_X2_read_0 {X : Cx} (o : Ok X RX2 cX2_read 6 7 153 0 0 (some .int)) (f : Nat)  (x0 : Nat) (x1 : Nat) (x2 : Int32) (x3 : Nat) (h : Hp) : Sim X (z_Zi X 0 0) 0 0 0 [(0, rf (xG X) x0), (1, rf (xG X) x1), (2, .int x2), (3, rf (xG X) x3)] [] h (f_X2_read f x0 x1 x2 x3 h) := by
  unfold f_X2_read
  refine s_aload_n o 0 rfl dX2_read_0 (q := 1) rfl ?_
  refine s_aload_n o 1 rfl dX2_read_1 (q := 2) rfl ?_
  refine s_pr o kf_X2_21 (fun _ => rfl) (fun _ => rfl) dX2_read_2 (q := 5) rfl (fun h1_ => ?_)
  refine s_aload_n o 0 rfl dX2_read_5 (q := 6) rfl ?_
  refine s_iload_n o 2 rfl dX2_read_6 (q := 7) rfl ?_
  refine s_aload_n o 1 rfl dX2_read_7 (q := 8) rfl ?_
  refine s_alen o dX2_read_8 (q := 9) rfl (fun v2_ => ?_)
  refine s_min o mw_X2_35 (Nat.le_of_ble_eq_true rfl) (Nat.le_of_ble_eq_true rfl) (by decide) (by decide) dX2_read_9 (q := 12) rfl ?_
  refine s_pi o kf_X2_25 dX2_read_12 (q := 15) rfl (fun h3_ => ?_)
  refine s_aload_n o 0 rfl dX2_read_15 (q := 16) rfl ?_
  refine s_iconst o dX2_read_16 (v := (0 : Int32)) (by decide) (q := 17) rfl ?_
  refine s_pi o kf_X2_29 dX2_read_17 (q := 20) rfl (fun h4_ => ?_)
  refine s_aload_n o 0 rfl dX2_read_20 (q := 21) rfl ?_
  refine s_gr o kf_X2_11 dX2_read_21 (q := 24) rfl (fun a5_ => ?_)
  refine s_iconst o dX2_read_24 (v := (0 : Int32)) (by decide) (q := 25) rfl ?_
  refine s_callv (fun r0 hr0 => runS o cs_X2_41 (c_J7_fill_53178 (xG X) f a5_ (0 : Int32) h4_ (xl X) r0 hr0) ⟨Nat.le_of_ble_eq_true rfl, Nat.le_of_ble_eq_true rfl⟩ rfl rfl (Nat.le_of_ble_eq_true rfl) dX2_read_25 ⟨Nat.le_of_ble_eq_true rfl, Nat.le_of_ble_eq_true rfl⟩) (q := 28) rfl (cs' := 0) rfl (sl' := 0) rfl (fun h6_ => ?_)
  refine s_aload_n o 0 rfl dX2_read_28 (q := 29) rfl ?_
  refine s_gr o kf_X2_18 dX2_read_29 (q := 32) rfl (fun a7_ => ?_)
  refine s_iconst o dX2_read_32 (v := (0 : Int32)) (by decide) (q := 33) rfl ?_
  refine s_callv (fun r0 hr0 => runS o cs_X2_41 (c_J7_fill_53178 (xG X) f a7_ (0 : Int32) h6_ (xl X) r0 hr0) ⟨Nat.le_of_ble_eq_true rfl, Nat.le_of_ble_eq_true rfl⟩ rfl rfl (Nat.le_of_ble_eq_true rfl) dX2_read_33 ⟨Nat.le_of_ble_eq_true rfl, Nat.le_of_ble_eq_true rfl⟩) (q := 36) rfl (cs' := 0) rfl (sl' := 0) rfl (fun h8_ => ?_)
  refine s_aload_n o 3 rfl dX2_read_36 (q := 37) rfl ?_
  refine s_on (fun hk9_ => ?_)
  refine s_callv (fun r0 hr0 => runV o hk9_ cv_X2_47 (c_X0_clear (xG X) f x3 h8_ (xl X) r0 hr0) ⟨Nat.le_of_ble_eq_true rfl, Nat.le_of_ble_eq_true rfl⟩ rfl rfl (Nat.le_of_ble_eq_true rfl) dX2_read_37 ⟨Nat.le_of_ble_eq_true rfl, Nat.le_of_ble_eq_true rfl⟩) (q := 40) rfl (cs' := 0) rfl (sl' := 0) rfl (fun h10_ => ?_)
  refine s_aload_n o 0 rfl dX2_read_40 (q := 41) rfl ?_
  refine s_on (fun hk11_ => ?_)
  refine s_callv (fun r0 hr0 => runV o hk11_ cv_X2_52 (c_X2_toNext (xG X) f x0 h10_ (xl X) r0 hr0) ⟨Nat.le_of_ble_eq_true rfl, Nat.le_of_ble_eq_true rfl⟩ rfl rfl (Nat.le_of_ble_eq_true rfl) dX2_read_41 ⟨Nat.le_of_ble_eq_true rfl, Nat.le_of_ble_eq_true rfl⟩) (q := 44) rfl (cs' := 0) rfl (sl' := 0) rfl (fun h12_ => ?_)
  refine s_iconst o dX2_read_44 (v := (0 : Int32)) (by decide) (q := 45) rfl ?_
  refine s_istore o [1, 2, 3, 4, 0] (lv' := [(0, rf (xG X) x0), (1, rf (xG X) x1), (2, .int x2), (3, rf (xG X) x3), (4, .int (0 : Int32))]) rfl dX2_read_45 (by decide) (q := 47) rfl ?_
  exact s_sub [0, 3, 4] rfl (tl_X2_read_47 o f f x0 x3 (0 : Int32) h12_)
theorem c_X2_read (G : Gx) (f : Nat) (x0 : Nat) (x1 : Nat) (x2 : Int32) (x3 : Nat) (h : Hp) : z_M z_qi G yX2_read cX2_read 6 (some .int) 7 153 0 0 [rf G x0, rf G x1, .int x2, rf G x3] h (f_X2_read f x0 x1 x2 x3 h) :=
  z_met (by decide +kernel) (Nat.le_of_ble_eq_true rfl) (fun X hG hn o hnm => by
    subst hG
    show Sim X (z_Zi X 0 0) 0 0 0 [(0, rf (xG X) x0), (1, rf (xG X) x1), (2, .int x2), (3, rf (xG X) x3)] [] h _
    exact s_sub [0, 1, 2, 3] rfl (t_X2_read_0 o f x0 x1 x2 x3 h))
/-! SixMaps$Sayings.add(IIZ)I -/
def f_X3_add (f : Nat)  (x0 : Nat) (x1 : Int32) (x2 : Int32) (x3 : Int32) (h : Hp) : Option (Int32 × Hp) :=
  (q_gr h x0 3 0).bind fun a1_ =>
  (q_gi h x0 3 3).bind fun v2_ =>
  (q_as h a1_ 9 v2_ x1).bind fun h3_ =>
  (q_gr h3_ x0 3 1).bind fun a4_ =>
  (q_gi h3_ x0 3 3).bind fun v5_ =>
  (q_as h3_ a4_ 9 v5_ x2).bind fun h6_ =>
  (q_gr h6_ x0 3 2).bind fun a7_ =>
  (q_gi h6_ x0 3 3).bind fun v8_ =>
  (q_as h6_ a7_ 10 v8_ (vp_nar .boolean x3)).bind fun h9_ =>
  (q_gi h9_ x0 3 3).bind fun v10_ =>
  (q_pi h9_ x0 3 3 (v10_ + (1 : Int32))).bind fun h11_ =>
  (q_gi h11_ x0 3 3).bind fun v12_ =>
  some ((v12_ - (1 : Int32)), h11_)
set_option maxRecDepth 20000 in
theorem t_X3_add_0 {X : Cx} (o : Ok X RX3 cX3_add 4 0 0 0 0 (some .int)) (f : Nat)  (x0 : Nat) (x1 : Int32) (x2 : Int32) (x3 : Int32) (h : Hp) : Sim X (z_Zi X 0 0) 0 0 0 [(0, rf (xG X) x0), (1, .int x1), (2, .int x2), (3, .int x3)] [] h (f_X3_add f x0 x1 x2 x3 h) := by
  unfold f_X3_add
  refine s_aload_n o 0 rfl dX3_add_0 (q := 1) rfl ?_
  refine s_gr o kf_X3_9 dX3_add_1 (q := 4) rfl (fun a1_ => ?_)
  refine s_aload_n o 0 rfl dX3_add_4 (q := 5) rfl ?_
  refine s_gi o kf_X3_22 dX3_add_5 (q := 8) rfl (fun v2_ => ?_)
  refine s_iload_n o 1 rfl dX3_add_8 (q := 9) rfl ?_
  refine s_iast o dX3_add_9 (q := 10) rfl (fun h3_ => ?_)
  refine s_aload_n o 0 rfl dX3_add_10 (q := 11) rfl ?_
  refine s_gr o kf_X3_15 dX3_add_11 (q := 14) rfl (fun a4_ => ?_)
  refine s_aload_n o 0 rfl dX3_add_14 (q := 15) rfl ?_
  refine s_gi o kf_X3_22 dX3_add_15 (q := 18) rfl (fun v5_ => ?_)
  refine s_iload_n o 2 rfl dX3_add_18 (q := 19) rfl ?_
  refine s_iast o dX3_add_19 (q := 20) rfl (fun h6_ => ?_)
  refine s_aload_n o 0 rfl dX3_add_20 (q := 21) rfl ?_
  refine s_gr o kf_X3_18 dX3_add_21 (q := 24) rfl (fun a7_ => ?_)
  refine s_aload_n o 0 rfl dX3_add_24 (q := 25) rfl ?_
  refine s_gi o kf_X3_22 dX3_add_25 (q := 28) rfl (fun v8_ => ?_)
  refine s_iload_n o 3 rfl dX3_add_28 (q := 29) rfl ?_
  refine s_zast o dX3_add_29 (q := 30) rfl (fun h9_ => ?_)
  refine s_aload_n o 0 rfl dX3_add_30 (q := 31) rfl ?_
  refine s_dup o rfl dX3_add_31 (q := 32) rfl ?_
  refine s_gi o kf_X3_22 dX3_add_32 (q := 35) rfl (fun v10_ => ?_)
  refine s_iconst o dX3_add_35 (v := (1 : Int32)) (by decide) (q := 36) rfl ?_
  refine s_iadd o dX3_add_36 (q := 37) rfl ?_
  refine s_pi o kf_X3_22 dX3_add_37 (q := 40) rfl (fun h11_ => ?_)
  refine s_aload_n o 0 rfl dX3_add_40 (q := 41) rfl ?_
  refine s_gi o kf_X3_22 dX3_add_41 (q := 44) rfl (fun v12_ => ?_)
  refine s_iconst o dX3_add_44 (v := (1 : Int32)) (by decide) (q := 45) rfl ?_
  refine s_isub o dX3_add_45 (q := 46) rfl ?_
  exact s_iret o dX3_add_46
theorem c_X3_add (G : Gx) (f : Nat) (x0 : Nat) (x1 : Int32) (x2 : Int32) (x3 : Int32) (h : Hp) : z_M z_qi G yX3_add cX3_add 4 (some .int) 0 0 0 0 [rf G x0, .int x1, .int x2, .int x3] h (f_X3_add f x0 x1 x2 x3 h) :=
  z_met (by decide +kernel) (Nat.le_of_ble_eq_true rfl) (fun X hG hn o hnm => by
    subst hG
    show Sim X (z_Zi X 0 0) 0 0 0 [(0, rf (xG X) x0), (1, .int x1), (2, .int x2), (3, .int x3)] [] h _
    exact s_sub [0, 1, 2, 3] rfl (t_X3_add_0 o f x0 x1 x2 x3 h))
/-! SixMaps$Sayings.isTrue(II)Z -/
def b_X3_isTrue_24 (f : Nat)  (y0 : Int32) (h : Hp) : Option (Int32 × Hp) :=
  q_bo y0 (some (y0, h))
def f_X3_isTrue (f : Nat)  (x0 : Nat) (x1 : Int32) (x2 : Int32) (h : Hp) : Option (Int32 × Hp) :=
  (q_gr h x0 3 1).bind fun a1_ =>
  (q_ai h a1_ 9 x1).bind fun v2_ =>
  bi (f_X5_isIn f x2 v2_ h) fun v4_ h3_ =>
  (q_gr h3_ x0 3 2).bind fun a5_ =>
  (q_ai h3_ a5_ 10 x1).bind fun v6_ =>
  if ¬ v4_ = v6_ then
  (b_X3_isTrue_24 f (0 : Int32) h3_)
  else
  (b_X3_isTrue_24 f (1 : Int32) h3_)
set_option maxRecDepth 20000 in
theorem t_X3_isTrue_24 {X : Cx} (o : Ok X RX3 cX3_isTrue 3 1 21 0 0 (some .boolean)) (f : Nat)  (y0 : Int32) (h : Hp) : Sim X (z_Zi X 0 0) 0 0 24 [] [.int y0] h (b_X3_isTrue_24 f y0 h) := by
  unfold b_X3_isTrue_24
  exact s_zret o dX3_isTrue_24
set_option maxRecDepth 20000 in
theorem t_X3_isTrue_0 {X : Cx} (o : Ok X RX3 cX3_isTrue 3 1 21 0 0 (some .boolean)) (f : Nat)  (x0 : Nat) (x1 : Int32) (x2 : Int32) (h : Hp) : Sim X (z_Zi X 0 0) 0 0 0 [(0, rf (xG X) x0), (1, .int x1), (2, .int x2)] [] h (f_X3_isTrue f x0 x1 x2 h) := by
  unfold f_X3_isTrue
  refine s_iload_n o 2 rfl dX3_isTrue_0 (q := 1) rfl ?_
  refine s_aload_n o 0 rfl dX3_isTrue_1 (q := 2) rfl ?_
  refine s_gr o kf_X3_15 dX3_isTrue_2 (q := 5) rfl (fun a1_ => ?_)
  refine s_iload_n o 1 rfl dX3_isTrue_5 (q := 6) rfl ?_
  refine s_iald o dX3_isTrue_6 (q := 7) rfl (fun v2_ => ?_)
  refine s_bi (fun r0 hr0 => runN o cn_X3_26 (c_X5_isIn (xG X) f x2 v2_ h (xl X) r0 hr0) ⟨Nat.le_of_ble_eq_true rfl, Nat.le_of_ble_eq_true rfl⟩ rfl rfl (Nat.le_of_ble_eq_true rfl) dX3_isTrue_7 ⟨Nat.le_of_ble_eq_true rfl, Nat.le_of_ble_eq_true rfl⟩) (q := 10) rfl (cs' := 0) rfl (sl' := 0) rfl (fun v4_ h3_ => ?_)
  refine s_aload_n o 0 rfl dX3_isTrue_10 (q := 11) rfl ?_
  refine s_gr o kf_X3_18 dX3_isTrue_11 (q := 14) rfl (fun a5_ => ?_)
  refine s_iload_n o 1 rfl dX3_isTrue_14 (q := 15) rfl ?_
  refine s_zald o dX3_isTrue_15 (q := 16) rfl (fun v6_ => ?_)
  refine s_ic_ne o (tgt := 23) dX3_isTrue_16 (by decide) (q := 19) rfl ?_ ?_
  · refine s_iconst o dX3_isTrue_23 (v := (0 : Int32)) (by decide) (q := 24) rfl ?_
    exact s_sub [] rfl (t_X3_isTrue_24 o f (0 : Int32) h3_)
  · refine s_iconst o dX3_isTrue_19 (v := (1 : Int32)) (by decide) (q := 20) rfl ?_
    refine s_goto o (tgt := 24) dX3_isTrue_20 (by decide) ?_
    exact s_sub [] rfl (t_X3_isTrue_24 o f (1 : Int32) h3_)
theorem c_X3_isTrue (G : Gx) (f : Nat) (x0 : Nat) (x1 : Int32) (x2 : Int32) (h : Hp) : z_M z_qi G yX3_isTrue cX3_isTrue 3 (some .boolean) 1 21 0 0 [rf G x0, .int x1, .int x2] h (f_X3_isTrue f x0 x1 x2 h) :=
  z_met (by decide +kernel) (Nat.le_of_ble_eq_true rfl) (fun X hG hn o hnm => by
    subst hG
    show Sim X (z_Zi X 0 0) 0 0 0 [(0, rf (xG X) x0), (1, .int x1), (2, .int x2)] [] h _
    exact s_sub [0, 1, 2] rfl (t_X3_isTrue_0 o f x0 x1 x2 h))
/-! SixMaps$Sayings.untrueOf(II)I -/
def b_X3_untrueOf_38 (f : Nat) (k5 : Nat → Int32 → Int32 → Int32 → Int32 → Hp → Option (Int32 × Hp)) (x0 : Nat) (x1 : Int32) (x2 : Int32) (x3 : Int32) (x4 : Int32) (h : Hp) : Option (Int32 × Hp) :=
  lt (x4 + (1 : Int32)) fun v1_ =>
  k5 x0 x1 x2 x3 v1_ h
def b_X3_untrueOf_5 (f : Nat) (k5 : Nat → Int32 → Int32 → Int32 → Int32 → Hp → Option (Int32 × Hp)) (x0 : Nat) (x1 : Int32) (x2 : Int32) (x3 : Int32) (x4 : Int32) (h : Hp) : Option (Int32 × Hp) :=
  (q_gi h x0 3 3).bind fun v1_ =>
  if v1_ ≤ x4 then
  (some (x3, h))
  else
  ((q_gr h x0 3 0).bind fun a2_ =>
  (q_ai h a2_ 9 x4).bind fun v3_ =>
  if ¬ v3_ = x1 then
  (b_X3_untrueOf_38 f k5 x0 x1 x2 x3 x4 h)
  else
  (q_on h x0 3 (
  bi (f_X3_isTrue f x0 x4 x2 h) fun v6_ h5_ =>
  if ¬ v6_ = 0 then
  (b_X3_untrueOf_38 f k5 x0 x1 x2 x3 x4 h5_)
  else
  (lt (x3 + (1 : Int32)) fun v7_ =>
  b_X3_untrueOf_38 f k5 x0 x1 x2 v7_ x4 h5_))))
def l_X3_untrueOf_5 (f : Nat)  : Nat → Nat → Int32 → Int32 → Int32 → Int32 → Hp → Option (Int32 × Hp)
  | 0, _, _, _, _, _, _ => none
  | n + 1, x0, x1, x2, x3, x4, h => b_X3_untrueOf_5 f  (l_X3_untrueOf_5 f  n) x0 x1 x2 x3 x4 h
def f_X3_untrueOf (f : Nat)  (x0 : Nat) (x1 : Int32) (x2 : Int32) (h : Hp) : Option (Int32 × Hp) :=
  l_X3_untrueOf_5 f f x0 x1 x2 (0 : Int32) (0 : Int32) h
set_option maxRecDepth 20000 in
theorem t_X3_untrueOf_38 {X : Cx} (o : Ok X RX3 cX3_untrueOf 5 2 43 0 0 (some .int)) (f : Nat) {k5 : Nat → Int32 → Int32 → Int32 → Int32 → Hp → Option (Int32 × Hp)} (hk5 : ∀ (x0 : Nat) (x1 : Int32) (x2 : Int32) (x3 : Int32) (x4 : Int32) (h : Hp), Sim X (z_Zi X 0 0) 0 0 5 [(0, rf (xG X) x0), (1, .int x1), (2, .int x2), (3, .int x3), (4, .int x4)] [] h (k5 x0 x1 x2 x3 x4 h)) (x0 : Nat) (x1 : Int32) (x2 : Int32) (x3 : Int32) (x4 : Int32) (h : Hp) : Sim X (z_Zi X 0 0) 0 0 38 [(0, rf (xG X) x0), (1, .int x1), (2, .int x2), (3, .int x3), (4, .int x4)] [] h (b_X3_untrueOf_38 f k5 x0 x1 x2 x3 x4 h) := by
  unfold b_X3_untrueOf_38
  refine s_iinc o 4 rfl (v := (1 : Int32)) (by decide) [1, 2, 3, 4, 0] (lv' := fun v1_ => [(0, rf (xG X) x0), (1, .int x1), (2, .int x2), (3, .int x3), (4, .int v1_)]) (fun _ => rfl) dX3_untrueOf_38 (by decide) (q := 41) rfl (fun v1_ => ?_)
  refine s_goto o (tgt := 5) dX3_untrueOf_41 (by decide) ?_
  exact s_sub [0, 1, 2, 3, 4] rfl (hk5 x0 x1 x2 x3 v1_ h)
set_option maxRecDepth 20000 in
theorem t_X3_untrueOf_5 {X : Cx} (o : Ok X RX3 cX3_untrueOf 5 2 43 0 0 (some .int)) (f : Nat) {k5 : Nat → Int32 → Int32 → Int32 → Int32 → Hp → Option (Int32 × Hp)} (hk5 : ∀ (x0 : Nat) (x1 : Int32) (x2 : Int32) (x3 : Int32) (x4 : Int32) (h : Hp), Sim X (z_Zi X 0 0) 0 0 5 [(0, rf (xG X) x0), (1, .int x1), (2, .int x2), (3, .int x3), (4, .int x4)] [] h (k5 x0 x1 x2 x3 x4 h)) (x0 : Nat) (x1 : Int32) (x2 : Int32) (x3 : Int32) (x4 : Int32) (h : Hp) : Sim X (z_Zi X 0 0) 0 0 5 [(0, rf (xG X) x0), (1, .int x1), (2, .int x2), (3, .int x3), (4, .int x4)] [] h (b_X3_untrueOf_5 f k5 x0 x1 x2 x3 x4 h) := by
  unfold b_X3_untrueOf_5
  refine s_iload o 4 rfl dX3_untrueOf_5 (q := 7) rfl ?_
  refine s_aload_n o 0 rfl dX3_untrueOf_7 (q := 8) rfl ?_
  refine s_gi o kf_X3_22 dX3_untrueOf_8 (q := 11) rfl (fun v1_ => ?_)
  refine s_ic_ge o (tgt := 44) dX3_untrueOf_11 (by decide) (q := 14) rfl ?_ ?_
  · refine s_iload_n o 3 rfl dX3_untrueOf_44 (q := 45) rfl ?_
    exact s_iret o dX3_untrueOf_45
  · refine s_aload_n o 0 rfl dX3_untrueOf_14 (q := 15) rfl ?_
    refine s_gr o kf_X3_9 dX3_untrueOf_15 (q := 18) rfl (fun a2_ => ?_)
    refine s_iload o 4 rfl dX3_untrueOf_18 (q := 20) rfl ?_
    refine s_iald o dX3_untrueOf_20 (q := 21) rfl (fun v3_ => ?_)
    refine s_iload_n o 1 rfl dX3_untrueOf_21 (q := 22) rfl ?_
    refine s_ic_ne o (tgt := 38) dX3_untrueOf_22 (by decide) (q := 25) rfl ?_ ?_
    · exact s_sub [0, 1, 2, 3, 4] rfl (t_X3_untrueOf_38 o f hk5 x0 x1 x2 x3 x4 h)
    · refine s_aload_n o 0 rfl dX3_untrueOf_25 (q := 26) rfl ?_
      refine s_iload o 4 rfl dX3_untrueOf_26 (q := 28) rfl ?_
      refine s_iload_n o 2 rfl dX3_untrueOf_28 (q := 29) rfl ?_
      refine s_on (fun hk4_ => ?_)
      refine s_bi (fun r0 hr0 => runV o hk4_ cv_X3_30 (c_X3_isTrue (xG X) f x0 x4 x2 h (xl X) r0 hr0) ⟨Nat.le_of_ble_eq_true rfl, Nat.le_of_ble_eq_true rfl⟩ rfl rfl (Nat.le_of_ble_eq_true rfl) dX3_untrueOf_29 ⟨Nat.le_of_ble_eq_true rfl, Nat.le_of_ble_eq_true rfl⟩) (q := 32) rfl (cs' := 0) rfl (sl' := 0) rfl (fun v6_ h5_ => ?_)
      refine s_if_ne o (tgt := 38) dX3_untrueOf_32 (by decide) (q := 35) rfl ?_ ?_
      · exact s_sub [0, 1, 2, 3, 4] rfl (t_X3_untrueOf_38 o f hk5 x0 x1 x2 x3 x4 h5_)
      · refine s_iinc o 3 rfl (v := (1 : Int32)) (by decide) [1, 2, 3, 0, 4] (lv' := fun v7_ => [(0, rf (xG X) x0), (1, .int x1), (2, .int x2), (3, .int v7_), (4, .int x4)]) (fun _ => rfl) dX3_untrueOf_35 (by decide) (q := 38) rfl (fun v7_ => ?_)
        exact s_sub [0, 1, 2, 3, 4] rfl (t_X3_untrueOf_38 o f hk5 x0 x1 x2 v7_ x4 h5_)
theorem tl_X3_untrueOf_5 {X : Cx} (o : Ok X RX3 cX3_untrueOf 5 2 43 0 0 (some .int)) (f : Nat)  : ∀ (n : Nat) (x0 : Nat) (x1 : Int32) (x2 : Int32) (x3 : Int32) (x4 : Int32) (h : Hp), Sim X (z_Zi X 0 0) 0 0 5 [(0, rf (xG X) x0), (1, .int x1), (2, .int x2), (3, .int x3), (4, .int x4)] [] h (l_X3_untrueOf_5 f n x0 x1 x2 x3 x4 h) := by
  intro n
  induction n with
  | zero => intro x0 x1 x2 x3 x4 h; exact s_none
  | succ n ih => intro x0 x1 x2 x3 x4 h; exact t_X3_untrueOf_5 o f  ih x0 x1 x2 x3 x4 h
set_option maxRecDepth 20000 in
theorem t_X3_untrueOf_0 {X : Cx} (o : Ok X RX3 cX3_untrueOf 5 2 43 0 0 (some .int)) (f : Nat)  (x0 : Nat) (x1 : Int32) (x2 : Int32) (h : Hp) : Sim X (z_Zi X 0 0) 0 0 0 [(0, rf (xG X) x0), (1, .int x1), (2, .int x2)] [] h (f_X3_untrueOf f x0 x1 x2 h) := by
  unfold f_X3_untrueOf
  refine s_iconst o dX3_untrueOf_0 (v := (0 : Int32)) (by decide) (q := 1) rfl ?_
  refine s_istore_n o [1, 2, 3, 0] (lv' := [(0, rf (xG X) x0), (1, .int x1), (2, .int x2), (3, .int (0 : Int32))]) rfl dX3_untrueOf_1 (by decide) (q := 2) rfl ?_
  refine s_iconst o dX3_untrueOf_2 (v := (0 : Int32)) (by decide) (q := 3) rfl ?_
  refine s_istore o [1, 2, 3, 4, 0] (lv' := [(0, rf (xG X) x0), (1, .int x1), (2, .int x2), (3, .int (0 : Int32)), (4, .int (0 : Int32))]) rfl dX3_untrueOf_3 (by decide) (q := 5) rfl ?_
  exact s_sub [0, 1, 2, 3, 4] rfl (tl_X3_untrueOf_5 o f f x0 x1 x2 (0 : Int32) (0 : Int32) h)
theorem c_X3_untrueOf (G : Gx) (f : Nat) (x0 : Nat) (x1 : Int32) (x2 : Int32) (h : Hp) : z_M z_qi G yX3_untrueOf cX3_untrueOf 5 (some .int) 2 43 0 0 [rf G x0, .int x1, .int x2] h (f_X3_untrueOf f x0 x1 x2 h) :=
  z_met (by decide +kernel) (Nat.le_of_ble_eq_true rfl) (fun X hG hn o hnm => by
    subst hG
    show Sim X (z_Zi X 0 0) 0 0 0 [(0, rf (xG X) x0), (1, .int x1), (2, .int x2)] [] h _
    exact s_sub [0, 1, 2] rfl (t_X3_untrueOf_0 o f x0 x1 x2 h))
/-! SixMaps$Sayings.bandOfMostUntrue(I)I -/
def b_X3_bandOfMostUntrue_35 (f : Nat) (k7 : Nat → Int32 → Int32 → Int32 → Int32 → Hp → Option (Int32 × Hp)) (x0 : Nat) (x1 : Int32) (x2 : Int32) (x3 : Int32) (x4 : Int32) (h : Hp) : Option (Int32 × Hp) :=
  lt (x4 + (1 : Int32)) fun v1_ =>
  k7 x0 x1 x2 x3 v1_ h
def b_X3_bandOfMostUntrue_7 (f : Nat) (k7 : Nat → Int32 → Int32 → Int32 → Int32 → Hp → Option (Int32 × Hp)) (x0 : Nat) (x1 : Int32) (x2 : Int32) (x3 : Int32) (x4 : Int32) (h : Hp) : Option (Int32 × Hp) :=
  if (6 : Int32) ≤ x4 then
  (some (x2, h))
  else
  (q_on h x0 3 (
  bi (f_X3_untrueOf f x0 x4 x1 h) fun v3_ h2_ =>
  if v3_ ≤ x3 then
  (b_X3_bandOfMostUntrue_35 f k7 x0 x1 x2 x3 x4 h2_)
  else
  (b_X3_bandOfMostUntrue_35 f k7 x0 x1 x4 v3_ x4 h2_)))
def l_X3_bandOfMostUntrue_7 (f : Nat)  : Nat → Nat → Int32 → Int32 → Int32 → Int32 → Hp → Option (Int32 × Hp)
  | 0, _, _, _, _, _, _ => none
  | n + 1, x0, x1, x2, x3, x4, h => b_X3_bandOfMostUntrue_7 f  (l_X3_bandOfMostUntrue_7 f  n) x0 x1 x2 x3 x4 h
def f_X3_bandOfMostUntrue (f : Nat)  (x0 : Nat) (x1 : Int32) (h : Hp) : Option (Int32 × Hp) :=
  l_X3_bandOfMostUntrue_7 f f x0 x1 (-1 : Int32) (0 : Int32) (0 : Int32) h
set_option maxRecDepth 20000 in
theorem t_X3_bandOfMostUntrue_35 {X : Cx} (o : Ok X RX3 cX3_bandOfMostUntrue 6 3 67 0 0 (some .int)) (f : Nat) {k7 : Nat → Int32 → Int32 → Int32 → Int32 → Hp → Option (Int32 × Hp)} (hk7 : ∀ (x0 : Nat) (x1 : Int32) (x2 : Int32) (x3 : Int32) (x4 : Int32) (h : Hp), Sim X (z_Zi X 0 0) 0 0 7 [(0, rf (xG X) x0), (1, .int x1), (2, .int x2), (3, .int x3), (4, .int x4)] [] h (k7 x0 x1 x2 x3 x4 h)) (x0 : Nat) (x1 : Int32) (x2 : Int32) (x3 : Int32) (x4 : Int32) (h : Hp) : Sim X (z_Zi X 0 0) 0 0 35 [(0, rf (xG X) x0), (1, .int x1), (2, .int x2), (3, .int x3), (4, .int x4)] [] h (b_X3_bandOfMostUntrue_35 f k7 x0 x1 x2 x3 x4 h) := by
  unfold b_X3_bandOfMostUntrue_35
  refine s_iinc o 4 rfl (v := (1 : Int32)) (by decide) [1, 2, 3, 4, 0] (lv' := fun v1_ => [(0, rf (xG X) x0), (1, .int x1), (2, .int x2), (3, .int x3), (4, .int v1_)]) (fun _ => rfl) dX3_bandOfMostUntrue_35 (by decide) (q := 38) rfl (fun v1_ => ?_)
  refine s_goto o (tgt := 7) dX3_bandOfMostUntrue_38 (by decide) ?_
  exact s_sub [0, 1, 2, 3, 4] rfl (hk7 x0 x1 x2 x3 v1_ h)
set_option maxRecDepth 20000 in
theorem t_X3_bandOfMostUntrue_7 {X : Cx} (o : Ok X RX3 cX3_bandOfMostUntrue 6 3 67 0 0 (some .int)) (f : Nat) {k7 : Nat → Int32 → Int32 → Int32 → Int32 → Hp → Option (Int32 × Hp)} (hk7 : ∀ (x0 : Nat) (x1 : Int32) (x2 : Int32) (x3 : Int32) (x4 : Int32) (h : Hp), Sim X (z_Zi X 0 0) 0 0 7 [(0, rf (xG X) x0), (1, .int x1), (2, .int x2), (3, .int x3), (4, .int x4)] [] h (k7 x0 x1 x2 x3 x4 h)) (x0 : Nat) (x1 : Int32) (x2 : Int32) (x3 : Int32) (x4 : Int32) (h : Hp) : Sim X (z_Zi X 0 0) 0 0 7 [(0, rf (xG X) x0), (1, .int x1), (2, .int x2), (3, .int x3), (4, .int x4)] [] h (b_X3_bandOfMostUntrue_7 f k7 x0 x1 x2 x3 x4 h) := by
  unfold b_X3_bandOfMostUntrue_7
  refine s_iload o 4 rfl dX3_bandOfMostUntrue_7 (q := 9) rfl ?_
  refine s_bipush o dX3_bandOfMostUntrue_9 (v := (6 : Int32)) (by decide) (q := 11) rfl ?_
  refine s_ic_ge o (tgt := 41) dX3_bandOfMostUntrue_11 (by decide) (q := 14) rfl ?_ ?_
  · refine s_iload_n o 2 rfl dX3_bandOfMostUntrue_41 (q := 42) rfl ?_
    exact s_iret o dX3_bandOfMostUntrue_42
  · refine s_aload_n o 0 rfl dX3_bandOfMostUntrue_14 (q := 15) rfl ?_
    refine s_iload o 4 rfl dX3_bandOfMostUntrue_15 (q := 17) rfl ?_
    refine s_iload_n o 1 rfl dX3_bandOfMostUntrue_17 (q := 18) rfl ?_
    refine s_on (fun hk1_ => ?_)
    refine s_bi (fun r0 hr0 => runV o hk1_ cv_X3_33 (c_X3_untrueOf (xG X) f x0 x4 x1 h (xl X) r0 hr0) ⟨Nat.le_of_ble_eq_true rfl, Nat.le_of_ble_eq_true rfl⟩ rfl rfl (Nat.le_of_ble_eq_true rfl) dX3_bandOfMostUntrue_18 ⟨Nat.le_of_ble_eq_true rfl, Nat.le_of_ble_eq_true rfl⟩) (q := 21) rfl (cs' := 0) rfl (sl' := 0) rfl (fun v3_ h2_ => ?_)
    refine s_istore o [1, 2, 3, 4, 5, 0] (lv' := [(0, rf (xG X) x0), (1, .int x1), (2, .int x2), (3, .int x3), (4, .int x4), (5, .int v3_)]) rfl dX3_bandOfMostUntrue_21 (by decide) (q := 23) rfl ?_
    refine s_iload o 5 rfl dX3_bandOfMostUntrue_23 (q := 25) rfl ?_
    refine s_iload_n o 3 rfl dX3_bandOfMostUntrue_25 (q := 26) rfl ?_
    refine s_ic_le o (tgt := 35) dX3_bandOfMostUntrue_26 (by decide) (q := 29) rfl ?_ ?_
    · exact s_sub [0, 1, 2, 3, 4] rfl (t_X3_bandOfMostUntrue_35 o f hk7 x0 x1 x2 x3 x4 h2_)
    · refine s_iload o 5 rfl dX3_bandOfMostUntrue_29 (q := 31) rfl ?_
      refine s_istore_n o [1, 2, 3, 0, 4, 5] (lv' := [(0, rf (xG X) x0), (1, .int x1), (2, .int x2), (3, .int v3_), (4, .int x4), (5, .int v3_)]) rfl dX3_bandOfMostUntrue_31 (by decide) (q := 32) rfl ?_
      refine s_iload o 4 rfl dX3_bandOfMostUntrue_32 (q := 34) rfl ?_
      refine s_istore_n o [1, 2, 0, 3, 4, 5] (lv' := [(0, rf (xG X) x0), (1, .int x1), (2, .int x4), (3, .int v3_), (4, .int x4), (5, .int v3_)]) rfl dX3_bandOfMostUntrue_34 (by decide) (q := 35) rfl ?_
      exact s_sub [0, 1, 2, 3, 4] rfl (t_X3_bandOfMostUntrue_35 o f hk7 x0 x1 x4 v3_ x4 h2_)
theorem tl_X3_bandOfMostUntrue_7 {X : Cx} (o : Ok X RX3 cX3_bandOfMostUntrue 6 3 67 0 0 (some .int)) (f : Nat)  : ∀ (n : Nat) (x0 : Nat) (x1 : Int32) (x2 : Int32) (x3 : Int32) (x4 : Int32) (h : Hp), Sim X (z_Zi X 0 0) 0 0 7 [(0, rf (xG X) x0), (1, .int x1), (2, .int x2), (3, .int x3), (4, .int x4)] [] h (l_X3_bandOfMostUntrue_7 f n x0 x1 x2 x3 x4 h) := by
  intro n
  induction n with
  | zero => intro x0 x1 x2 x3 x4 h; exact s_none
  | succ n ih => intro x0 x1 x2 x3 x4 h; exact t_X3_bandOfMostUntrue_7 o f  ih x0 x1 x2 x3 x4 h
set_option maxRecDepth 20000 in
theorem t_X3_bandOfMostUntrue_0 {X : Cx} (o : Ok X RX3 cX3_bandOfMostUntrue 6 3 67 0 0 (some .int)) (f : Nat)  (x0 : Nat) (x1 : Int32) (h : Hp) : Sim X (z_Zi X 0 0) 0 0 0 [(0, rf (xG X) x0), (1, .int x1)] [] h (f_X3_bandOfMostUntrue f x0 x1 h) := by
  unfold f_X3_bandOfMostUntrue
  refine s_iconst o dX3_bandOfMostUntrue_0 (v := (-1 : Int32)) (by decide) (q := 1) rfl ?_
  refine s_istore_n o [1, 2, 0] (lv' := [(0, rf (xG X) x0), (1, .int x1), (2, .int (-1 : Int32))]) rfl dX3_bandOfMostUntrue_1 (by decide) (q := 2) rfl ?_
  refine s_iconst o dX3_bandOfMostUntrue_2 (v := (0 : Int32)) (by decide) (q := 3) rfl ?_
  refine s_istore_n o [1, 2, 3, 0] (lv' := [(0, rf (xG X) x0), (1, .int x1), (2, .int (-1 : Int32)), (3, .int (0 : Int32))]) rfl dX3_bandOfMostUntrue_3 (by decide) (q := 4) rfl ?_
  refine s_iconst o dX3_bandOfMostUntrue_4 (v := (0 : Int32)) (by decide) (q := 5) rfl ?_
  refine s_istore o [1, 2, 3, 4, 0] (lv' := [(0, rf (xG X) x0), (1, .int x1), (2, .int (-1 : Int32)), (3, .int (0 : Int32)), (4, .int (0 : Int32))]) rfl dX3_bandOfMostUntrue_5 (by decide) (q := 7) rfl ?_
  exact s_sub [0, 1, 2, 3, 4] rfl (tl_X3_bandOfMostUntrue_7 o f f x0 x1 (-1 : Int32) (0 : Int32) (0 : Int32) h)
theorem c_X3_bandOfMostUntrue (G : Gx) (f : Nat) (x0 : Nat) (x1 : Int32) (h : Hp) : z_M z_qi G yX3_bandOfMostUntrue cX3_bandOfMostUntrue 6 (some .int) 3 67 0 0 [rf G x0, .int x1] h (f_X3_bandOfMostUntrue f x0 x1 h) :=
  z_met (by decide +kernel) (Nat.le_of_ble_eq_true rfl) (fun X hG hn o hnm => by
    subst hG
    show Sim X (z_Zi X 0 0) 0 0 0 [(0, rf (xG X) x0), (1, .int x1)] [] h _
    exact s_sub [0, 1] rfl (t_X3_bandOfMostUntrue_0 o f x0 x1 h))
/-! SixMaps$Sayings.<init>()V -/
def f_X3_init (f : Nat)  (x0 : Nat) (h : Hp) : Option (Hp) :=
  bn (q_nwa h 9 20) fun a1_ h2_ =>
  (q_pr h2_ x0 3 0 a1_).bind fun h3_ =>
  bn (q_nwa h3_ 9 20) fun a4_ h5_ =>
  (q_pr h5_ x0 3 1 a4_).bind fun h6_ =>
  bn (q_nwa h6_ 10 20) fun a7_ h8_ =>
  (q_pr h8_ x0 3 2 a7_).bind fun h9_ =>
  (q_pi h9_ x0 3 3 (0 : Int32)).bind fun h10_ =>
  some h10_
set_option maxRecDepth 20000 in
theorem t_X3_init_0 {X : Cx} (o : Ok X RX3 cX3_init 1 1 12 3 60 none) (hnm : (xM X).name = yX3_init.name) (f : Nat)  (x0 : Nat) (h : Hp) : Sim X (z_Zv X 3 60) 0 0 0 [(0, rf (xG X) x0)] [] h (f_X3_init f x0 h) := by
  unfold f_X3_init
  refine s_aload_n o 0 rfl dX3_init_0 (q := 1) rfl ?_
  refine s_obj o ob_X3_3 (Nat.le_of_ble_eq_true rfl) (Nat.le_of_ble_eq_true rfl) dX3_init_1 (q := 4) rfl ?_
  refine s_aload_n o 0 rfl dX3_init_4 (q := 5) rfl ?_
  refine s_bipush o dX3_init_5 (v := (20 : Int32)) (by decide) (q := 7) rfl ?_
  refine s_nwa_i o na_int (N := 20) (by decide) (by decide) (by decide) (by decide) (by decide) dX3_init_7 (q := 9) rfl (cs' := 1) rfl (sl' := 20) rfl (fun a1_ h2_ => ?_)
  refine s_prF o kf_X3_9 (fun _ => rfl) (fun _ => rfl) hnm (fun rr e => by rw [← Option.some.inj (show some (RX3, TX3, 4) = some rr from e)]; rfl) dX3_init_9 (q := 12) rfl (fun h3_ => ?_)
  refine s_aload_n o 0 rfl dX3_init_12 (q := 13) rfl ?_
  refine s_bipush o dX3_init_13 (v := (20 : Int32)) (by decide) (q := 15) rfl ?_
  refine s_nwa_i o na_int (N := 20) (by decide) (by decide) (by decide) (by decide) (by decide) dX3_init_15 (q := 17) rfl (cs' := 2) rfl (sl' := 40) rfl (fun a4_ h5_ => ?_)
  refine s_prF o kf_X3_15 (fun _ => rfl) (fun _ => rfl) hnm (fun rr e => by rw [← Option.some.inj (show some (RX3, TX3, 4) = some rr from e)]; rfl) dX3_init_17 (q := 20) rfl (fun h6_ => ?_)
  refine s_aload_n o 0 rfl dX3_init_20 (q := 21) rfl ?_
  refine s_bipush o dX3_init_21 (v := (20 : Int32)) (by decide) (q := 23) rfl ?_
  refine s_nwa_z o na_boolean (N := 20) (by decide) (by decide) (by decide) (by decide) (by decide) dX3_init_23 (q := 25) rfl (cs' := 3) rfl (sl' := 60) rfl (fun a7_ h8_ => ?_)
  refine s_prF o kf_X3_18 (fun _ => rfl) (fun _ => rfl) hnm (fun rr e => by rw [← Option.some.inj (show some (RX3, TX3, 4) = some rr from e)]; rfl) dX3_init_25 (q := 28) rfl (fun h9_ => ?_)
  refine s_aload_n o 0 rfl dX3_init_28 (q := 29) rfl ?_
  refine s_iconst o dX3_init_29 (v := (0 : Int32)) (by decide) (q := 30) rfl ?_
  refine s_pi o kf_X3_22 dX3_init_30 (q := 33) rfl (fun h10_ => ?_)
  exact s_vret o dX3_init_33
theorem c_X3_init (G : Gx) (f : Nat) (x0 : Nat) (h : Hp) : z_M z_qv G yX3_init cX3_init 1 none 1 12 3 60 [rf G x0] h (f_X3_init f x0 h) :=
  z_met (by decide +kernel) (Nat.le_of_ble_eq_true rfl) (fun X hG hn o hnm => by
    subst hG
    show Sim X (z_Zv X 3 60) 0 0 0 [(0, rf (xG X) x0)] [] h _
    exact s_sub [0] rfl (t_X3_init_0 o hnm f x0 h))
/-! SixMaps$Standing.begin(I)V -/
def b_X4_begin_18 (f : Nat) (k18 : Nat → Int32 → Int32 → Hp → Option (Hp)) (x0 : Nat) (x1 : Int32) (x2 : Int32) (h : Hp) : Option (Hp) :=
  if (6 : Int32) ≤ x2 then
  ((q_pi h x0 4 4 (0 : Int32)).bind fun h1_ =>
  (q_pi h1_ x0 4 5 (-1 : Int32)).bind fun h2_ =>
  some h2_)
  else
  ((q_gr h x0 4 0).bind fun a3_ =>
  (q_as h a3_ 9 ((x2 * (6 : Int32)) + x2) (((1 : Int32) <<< (x1 &&& 31)) - (1 : Int32))).bind fun h4_ =>
  lt (x2 + (1 : Int32)) fun v5_ =>
  k18 x0 x1 v5_ h4_)
def l_X4_begin_18 (f : Nat)  : Nat → Nat → Int32 → Int32 → Hp → Option (Hp)
  | 0, _, _, _, _ => none
  | n + 1, x0, x1, x2, h => b_X4_begin_18 f  (l_X4_begin_18 f  n) x0 x1 x2 h
def f_X4_begin (f : Nat)  (x0 : Nat) (x1 : Int32) (h : Hp) : Option (Hp) :=
  (q_gr h x0 4 0).bind fun a1_ =>
  (f_J7_fill_53178 f a1_ (0 : Int32) h).bind fun h2_ =>
  (q_gr h2_ x0 4 3).bind fun a3_ =>
  (f_J7_fill_53178 f a3_ (0 : Int32) h2_).bind fun h4_ =>
  l_X4_begin_18 f f x0 x1 (0 : Int32) h4_
set_option maxRecDepth 20000 in
theorem t_X4_begin_18 {X : Cx} (o : Ok X RX4 cX4_begin 3 1 23 0 0 none) (f : Nat) {k18 : Nat → Int32 → Int32 → Hp → Option (Hp)} (hk18 : ∀ (x0 : Nat) (x1 : Int32) (x2 : Int32) (h : Hp), Sim X (z_Zv X 0 0) 0 0 18 [(0, rf (xG X) x0), (1, .int x1), (2, .int x2)] [] h (k18 x0 x1 x2 h)) (x0 : Nat) (x1 : Int32) (x2 : Int32) (h : Hp) : Sim X (z_Zv X 0 0) 0 0 18 [(0, rf (xG X) x0), (1, .int x1), (2, .int x2)] [] h (b_X4_begin_18 f k18 x0 x1 x2 h) := by
  unfold b_X4_begin_18
  refine s_iload_n o 2 rfl dX4_begin_18 (q := 19) rfl ?_
  refine s_bipush o dX4_begin_19 (v := (6 : Int32)) (by decide) (q := 21) rfl ?_
  refine s_ic_ge o (tgt := 46) dX4_begin_21 (by decide) (q := 24) rfl ?_ ?_
  · refine s_aload_n o 0 rfl dX4_begin_46 (q := 47) rfl ?_
    refine s_iconst o dX4_begin_47 (v := (0 : Int32)) (by decide) (q := 48) rfl ?_
    refine s_pi o kf_X4_24 dX4_begin_48 (q := 51) rfl (fun h1_ => ?_)
    refine s_aload_n o 0 rfl dX4_begin_51 (q := 52) rfl ?_
    refine s_iconst o dX4_begin_52 (v := (-1 : Int32)) (by decide) (q := 53) rfl ?_
    refine s_pi o kf_X4_28 dX4_begin_53 (q := 56) rfl (fun h2_ => ?_)
    exact s_vret o dX4_begin_56
  · refine s_aload_n o 0 rfl dX4_begin_24 (q := 25) rfl ?_
    refine s_gr o kf_X4_9 dX4_begin_25 (q := 28) rfl (fun a3_ => ?_)
    refine s_iload_n o 2 rfl dX4_begin_28 (q := 29) rfl ?_
    refine s_bipush o dX4_begin_29 (v := (6 : Int32)) (by decide) (q := 31) rfl ?_
    refine s_imul o dX4_begin_31 (q := 32) rfl ?_
    refine s_iload_n o 2 rfl dX4_begin_32 (q := 33) rfl ?_
    refine s_iadd o dX4_begin_33 (q := 34) rfl ?_
    refine s_iconst o dX4_begin_34 (v := (1 : Int32)) (by decide) (q := 35) rfl ?_
    refine s_iload_n o 1 rfl dX4_begin_35 (q := 36) rfl ?_
    refine s_ishl o dX4_begin_36 (q := 37) rfl ?_
    refine s_iconst o dX4_begin_37 (v := (1 : Int32)) (by decide) (q := 38) rfl ?_
    refine s_isub o dX4_begin_38 (q := 39) rfl ?_
    refine s_iast o dX4_begin_39 (q := 40) rfl (fun h4_ => ?_)
    refine s_iinc o 2 rfl (v := (1 : Int32)) (by decide) [1, 2, 0] (lv' := fun v5_ => [(0, rf (xG X) x0), (1, .int x1), (2, .int v5_)]) (fun _ => rfl) dX4_begin_40 (by decide) (q := 43) rfl (fun v5_ => ?_)
    refine s_goto o (tgt := 18) dX4_begin_43 (by decide) ?_
    exact s_sub [0, 1, 2] rfl (hk18 x0 x1 v5_ h4_)
theorem tl_X4_begin_18 {X : Cx} (o : Ok X RX4 cX4_begin 3 1 23 0 0 none) (f : Nat)  : ∀ (n : Nat) (x0 : Nat) (x1 : Int32) (x2 : Int32) (h : Hp), Sim X (z_Zv X 0 0) 0 0 18 [(0, rf (xG X) x0), (1, .int x1), (2, .int x2)] [] h (l_X4_begin_18 f n x0 x1 x2 h) := by
  intro n
  induction n with
  | zero => intro x0 x1 x2 h; exact s_none
  | succ n ih => intro x0 x1 x2 h; exact t_X4_begin_18 o f  ih x0 x1 x2 h
set_option maxRecDepth 20000 in
theorem t_X4_begin_0 {X : Cx} (o : Ok X RX4 cX4_begin 3 1 23 0 0 none) (f : Nat)  (x0 : Nat) (x1 : Int32) (h : Hp) : Sim X (z_Zv X 0 0) 0 0 0 [(0, rf (xG X) x0), (1, .int x1)] [] h (f_X4_begin f x0 x1 h) := by
  unfold f_X4_begin
  refine s_aload_n o 0 rfl dX4_begin_0 (q := 1) rfl ?_
  refine s_gr o kf_X4_9 dX4_begin_1 (q := 4) rfl (fun a1_ => ?_)
  refine s_iconst o dX4_begin_4 (v := (0 : Int32)) (by decide) (q := 5) rfl ?_
  refine s_callv (fun r0 hr0 => runS o cs_X4_34 (c_J7_fill_53178 (xG X) f a1_ (0 : Int32) h (xl X) r0 hr0) ⟨Nat.le_of_ble_eq_true rfl, Nat.le_of_ble_eq_true rfl⟩ rfl rfl (Nat.le_of_ble_eq_true rfl) dX4_begin_5 ⟨Nat.le_of_ble_eq_true rfl, Nat.le_of_ble_eq_true rfl⟩) (q := 8) rfl (cs' := 0) rfl (sl' := 0) rfl (fun h2_ => ?_)
  refine s_aload_n o 0 rfl dX4_begin_8 (q := 9) rfl ?_
  refine s_gr o kf_X4_21 dX4_begin_9 (q := 12) rfl (fun a3_ => ?_)
  refine s_iconst o dX4_begin_12 (v := (0 : Int32)) (by decide) (q := 13) rfl ?_
  refine s_callv (fun r0 hr0 => runS o cs_X4_34 (c_J7_fill_53178 (xG X) f a3_ (0 : Int32) h2_ (xl X) r0 hr0) ⟨Nat.le_of_ble_eq_true rfl, Nat.le_of_ble_eq_true rfl⟩ rfl rfl (Nat.le_of_ble_eq_true rfl) dX4_begin_13 ⟨Nat.le_of_ble_eq_true rfl, Nat.le_of_ble_eq_true rfl⟩) (q := 16) rfl (cs' := 0) rfl (sl' := 0) rfl (fun h4_ => ?_)
  refine s_iconst o dX4_begin_16 (v := (0 : Int32)) (by decide) (q := 17) rfl ?_
  refine s_istore_n o [1, 2, 0] (lv' := [(0, rf (xG X) x0), (1, .int x1), (2, .int (0 : Int32))]) rfl dX4_begin_17 (by decide) (q := 18) rfl ?_
  exact s_sub [0, 1, 2] rfl (tl_X4_begin_18 o f f x0 x1 (0 : Int32) h4_)
theorem c_X4_begin (G : Gx) (f : Nat) (x0 : Nat) (x1 : Int32) (h : Hp) : z_M z_qv G yX4_begin cX4_begin 3 none 1 23 0 0 [rf G x0, .int x1] h (f_X4_begin f x0 x1 h) :=
  z_met (by decide +kernel) (Nat.le_of_ble_eq_true rfl) (fun X hG hn o hnm => by
    subst hG
    show Sim X (z_Zv X 0 0) 0 0 0 [(0, rf (xG X) x0), (1, .int x1)] [] h _
    exact s_sub [0, 1] rfl (t_X4_begin_0 o f x0 x1 h))
/-! SixMaps$Standing.copyFrom(LSixMaps$Standing;)V -/
def f_X4_copyFrom (f : Nat)  (x0 : Nat) (x1 : Nat) (h : Hp) : Option (Hp) :=
  (q_gr h x1 4 0).bind fun a1_ =>
  (q_gr h x0 4 0).bind fun a2_ =>
  (q_gr h x0 4 0).bind fun a3_ =>
  (q_al h a3_).bind fun v4_ =>
  (q_cp h a1_ (0 : Int32) a2_ (0 : Int32) v4_).bind fun h5_ =>
  (q_gr h5_ x1 4 1).bind fun a6_ =>
  (q_gr h5_ x0 4 1).bind fun a7_ =>
  (q_cp h5_ a6_ (0 : Int32) a7_ (0 : Int32) (20 : Int32)).bind fun h8_ =>
  (q_gr h8_ x1 4 2).bind fun a9_ =>
  (q_gr h8_ x0 4 2).bind fun a10_ =>
  (q_cp h8_ a9_ (0 : Int32) a10_ (0 : Int32) (20 : Int32)).bind fun h11_ =>
  (q_gr h11_ x1 4 3).bind fun a12_ =>
  (q_gr h11_ x0 4 3).bind fun a13_ =>
  (q_cp h11_ a12_ (0 : Int32) a13_ (0 : Int32) (6 : Int32)).bind fun h14_ =>
  (q_gi h14_ x1 4 4).bind fun v15_ =>
  (q_pi h14_ x0 4 4 v15_).bind fun h16_ =>
  (q_gi h16_ x1 4 5).bind fun v17_ =>
  (q_pi h16_ x0 4 5 v17_).bind fun h18_ =>
  (q_gi h18_ x1 4 6).bind fun v19_ =>
  (q_pi h18_ x0 4 6 v19_).bind fun h20_ =>
  some h20_
set_option maxRecDepth 20000 in
theorem t_X4_copyFrom_0 {X : Cx} (o : Ok X RX4 cX4_copyFrom 2 1 18 0 0 none) (f : Nat)  (x0 : Nat) (x1 : Nat) (h : Hp) : Sim X (z_Zv X 0 0) 0 0 0 [(0, rf (xG X) x0), (1, rf (xG X) x1)] [] h (f_X4_copyFrom f x0 x1 h) := by
  unfold f_X4_copyFrom
  refine s_aload_n o 1 rfl dX4_copyFrom_0 (q := 1) rfl ?_
  refine s_gr o kf_X4_9 dX4_copyFrom_1 (q := 4) rfl (fun a1_ => ?_)
  refine s_iconst o dX4_copyFrom_4 (v := (0 : Int32)) (by decide) (q := 5) rfl ?_
  refine s_aload_n o 0 rfl dX4_copyFrom_5 (q := 6) rfl ?_
  refine s_gr o kf_X4_9 dX4_copyFrom_6 (q := 9) rfl (fun a2_ => ?_)
  refine s_iconst o dX4_copyFrom_9 (v := (0 : Int32)) (by decide) (q := 10) rfl ?_
  refine s_aload_n o 0 rfl dX4_copyFrom_10 (q := 11) rfl ?_
  refine s_gr o kf_X4_9 dX4_copyFrom_11 (q := 14) rfl (fun a3_ => ?_)
  refine s_alen o dX4_copyFrom_14 (q := 15) rfl (fun v4_ => ?_)
  refine s_copy o ac_X4_40 (Nat.le_of_ble_eq_true rfl) (Nat.le_of_ble_eq_true rfl) dX4_copyFrom_15 (q := 18) rfl (fun h5_ => ?_)
  refine s_aload_n o 1 rfl dX4_copyFrom_18 (q := 19) rfl ?_
  refine s_gr o kf_X4_15 dX4_copyFrom_19 (q := 22) rfl (fun a6_ => ?_)
  refine s_iconst o dX4_copyFrom_22 (v := (0 : Int32)) (by decide) (q := 23) rfl ?_
  refine s_aload_n o 0 rfl dX4_copyFrom_23 (q := 24) rfl ?_
  refine s_gr o kf_X4_15 dX4_copyFrom_24 (q := 27) rfl (fun a7_ => ?_)
  refine s_iconst o dX4_copyFrom_27 (v := (0 : Int32)) (by decide) (q := 28) rfl ?_
  refine s_bipush o dX4_copyFrom_28 (v := (20 : Int32)) (by decide) (q := 30) rfl ?_
  refine s_copy o ac_X4_40 (Nat.le_of_ble_eq_true rfl) (Nat.le_of_ble_eq_true rfl) dX4_copyFrom_30 (q := 33) rfl (fun h8_ => ?_)
  refine s_aload_n o 1 rfl dX4_copyFrom_33 (q := 34) rfl ?_
  refine s_gr o kf_X4_18 dX4_copyFrom_34 (q := 37) rfl (fun a9_ => ?_)
  refine s_iconst o dX4_copyFrom_37 (v := (0 : Int32)) (by decide) (q := 38) rfl ?_
  refine s_aload_n o 0 rfl dX4_copyFrom_38 (q := 39) rfl ?_
  refine s_gr o kf_X4_18 dX4_copyFrom_39 (q := 42) rfl (fun a10_ => ?_)
  refine s_iconst o dX4_copyFrom_42 (v := (0 : Int32)) (by decide) (q := 43) rfl ?_
  refine s_bipush o dX4_copyFrom_43 (v := (20 : Int32)) (by decide) (q := 45) rfl ?_
  refine s_copy o ac_X4_40 (Nat.le_of_ble_eq_true rfl) (Nat.le_of_ble_eq_true rfl) dX4_copyFrom_45 (q := 48) rfl (fun h11_ => ?_)
  refine s_aload_n o 1 rfl dX4_copyFrom_48 (q := 49) rfl ?_
  refine s_gr o kf_X4_21 dX4_copyFrom_49 (q := 52) rfl (fun a12_ => ?_)
  refine s_iconst o dX4_copyFrom_52 (v := (0 : Int32)) (by decide) (q := 53) rfl ?_
  refine s_aload_n o 0 rfl dX4_copyFrom_53 (q := 54) rfl ?_
  refine s_gr o kf_X4_21 dX4_copyFrom_54 (q := 57) rfl (fun a13_ => ?_)
  refine s_iconst o dX4_copyFrom_57 (v := (0 : Int32)) (by decide) (q := 58) rfl ?_
  refine s_bipush o dX4_copyFrom_58 (v := (6 : Int32)) (by decide) (q := 60) rfl ?_
  refine s_copy o ac_X4_40 (Nat.le_of_ble_eq_true rfl) (Nat.le_of_ble_eq_true rfl) dX4_copyFrom_60 (q := 63) rfl (fun h14_ => ?_)
  refine s_aload_n o 0 rfl dX4_copyFrom_63 (q := 64) rfl ?_
  refine s_aload_n o 1 rfl dX4_copyFrom_64 (q := 65) rfl ?_
  refine s_gi o kf_X4_24 dX4_copyFrom_65 (q := 68) rfl (fun v15_ => ?_)
  refine s_pi o kf_X4_24 dX4_copyFrom_68 (q := 71) rfl (fun h16_ => ?_)
  refine s_aload_n o 0 rfl dX4_copyFrom_71 (q := 72) rfl ?_
  refine s_aload_n o 1 rfl dX4_copyFrom_72 (q := 73) rfl ?_
  refine s_gi o kf_X4_28 dX4_copyFrom_73 (q := 76) rfl (fun v17_ => ?_)
  refine s_pi o kf_X4_28 dX4_copyFrom_76 (q := 79) rfl (fun h18_ => ?_)
  refine s_aload_n o 0 rfl dX4_copyFrom_79 (q := 80) rfl ?_
  refine s_aload_n o 1 rfl dX4_copyFrom_80 (q := 81) rfl ?_
  refine s_gi o kf_X4_31 dX4_copyFrom_81 (q := 84) rfl (fun v19_ => ?_)
  refine s_pi o kf_X4_31 dX4_copyFrom_84 (q := 87) rfl (fun h20_ => ?_)
  exact s_vret o dX4_copyFrom_87
theorem c_X4_copyFrom (G : Gx) (f : Nat) (x0 : Nat) (x1 : Nat) (h : Hp) : z_M z_qv G yX4_copyFrom cX4_copyFrom 2 none 1 18 0 0 [rf G x0, rf G x1] h (f_X4_copyFrom f x0 x1 h) :=
  z_met (by decide +kernel) (Nat.le_of_ble_eq_true rfl) (fun X hG hn o hnm => by
    subst hG
    show Sim X (z_Zv X 0 0) 0 0 0 [(0, rf (xG X) x0), (1, rf (xG X) x1)] [] h _
    exact s_sub [0, 1] rfl (t_X4_copyFrom_0 o f x0 x1 h))
/-! SixMaps$Standing.draw(I)I -/
def b_X4_draw_40 (f : Nat)  (y0 : Int32) (h : Hp) : Option (Int32 × Hp) :=
  some (y0, h)
def f_X4_draw (f : Nat)  (x0 : Nat) (x1 : Int32) (h : Hp) : Option (Int32 × Hp) :=
  (q_gi h x0 4 6).bind fun v1_ =>
  (q_pi h x0 4 6 ((((v1_.toInt64 * (1103515245 : Int64)) + (12345 : Int64)) &&& (2147483647 : Int64)).toInt32)).bind fun h2_ =>
  if (1 : Int32) ≤ x1 then
  ((q_gi h2_ x0 4 6).bind fun v3_ =>
  q_nz (65536 : Int32) (
  q_nz x1 (
  b_X4_draw_40 f ((v3_ / (65536 : Int32)) - (v3_ / (65536 : Int32)) / x1 * x1) h2_)))
  else
  (b_X4_draw_40 f (0 : Int32) h2_)
set_option maxRecDepth 20000 in
theorem t_X4_draw_40 {X : Cx} (o : Ok X RX4 cX4_draw 2 0 0 0 0 (some .int)) (f : Nat)  (y0 : Int32) (h : Hp) : Sim X (z_Zi X 0 0) 0 0 40 [] [.int y0] h (b_X4_draw_40 f y0 h) := by
  unfold b_X4_draw_40
  exact s_iret o dX4_draw_40
set_option maxRecDepth 20000 in
theorem t_X4_draw_0 {X : Cx} (o : Ok X RX4 cX4_draw 2 0 0 0 0 (some .int)) (f : Nat)  (x0 : Nat) (x1 : Int32) (h : Hp) : Sim X (z_Zi X 0 0) 0 0 0 [(0, rf (xG X) x0), (1, .int x1)] [] h (f_X4_draw f x0 x1 h) := by
  unfold f_X4_draw
  refine s_aload_n o 0 rfl dX4_draw_0 (q := 1) rfl ?_
  refine s_aload_n o 0 rfl dX4_draw_1 (q := 2) rfl ?_
  refine s_gi o kf_X4_31 dX4_draw_2 (q := 5) rfl (fun v1_ => ?_)
  refine s_i2l o dX4_draw_5 (q := 6) rfl ?_
  refine s_ldc2 o kl_X4_50 dX4_draw_6 (q := 9) rfl ?_
  refine s_lmul o dX4_draw_9 (q := 10) rfl ?_
  refine s_ldc2 o kl_X4_52 dX4_draw_10 (q := 13) rfl ?_
  refine s_ladd o dX4_draw_13 (q := 14) rfl ?_
  refine s_ldc2 o kl_X4_54 dX4_draw_14 (q := 17) rfl ?_
  refine s_land o dX4_draw_17 (q := 18) rfl ?_
  refine s_l2i o dX4_draw_18 (q := 19) rfl ?_
  refine s_pi o kf_X4_31 dX4_draw_19 (q := 22) rfl (fun h2_ => ?_)
  refine s_iload_n o 1 rfl dX4_draw_22 (q := 23) rfl ?_
  refine s_iconst o dX4_draw_23 (v := (1 : Int32)) (by decide) (q := 24) rfl ?_
  refine s_ic_ge o (tgt := 31) dX4_draw_24 (by decide) (q := 27) rfl ?_ ?_
  · refine s_aload_n o 0 rfl dX4_draw_31 (q := 32) rfl ?_
    refine s_gi o kf_X4_31 dX4_draw_32 (q := 35) rfl (fun v3_ => ?_)
    refine s_ldc o kc_X4_56 dX4_draw_35 (q := 37) rfl ?_
    refine s_idiv o dX4_draw_37 (q := 38) rfl ?_
    refine s_iload_n o 1 rfl dX4_draw_38 (q := 39) rfl ?_
    refine s_irem o dX4_draw_39 (q := 40) rfl ?_
    exact s_sub [] rfl (t_X4_draw_40 o f ((v3_ / (65536 : Int32)) - (v3_ / (65536 : Int32)) / x1 * x1) h2_)
  · refine s_iconst o dX4_draw_27 (v := (0 : Int32)) (by decide) (q := 28) rfl ?_
    refine s_goto o (tgt := 40) dX4_draw_28 (by decide) ?_
    exact s_sub [] rfl (t_X4_draw_40 o f (0 : Int32) h2_)
theorem c_X4_draw (G : Gx) (f : Nat) (x0 : Nat) (x1 : Int32) (h : Hp) : z_M z_qi G yX4_draw cX4_draw 2 (some .int) 0 0 0 0 [rf G x0, .int x1] h (f_X4_draw f x0 x1 h) :=
  z_met (by decide +kernel) (Nat.le_of_ble_eq_true rfl) (fun X hG hn o hnm => by
    subst hG
    show Sim X (z_Zi X 0 0) 0 0 0 [(0, rf (xG X) x0), (1, .int x1)] [] h _
    exact s_sub [0, 1] rfl (t_X4_draw_0 o f x0 x1 h))
/-! SixMaps$Standing.has(III)Z -/
def f_X4_has (f : Nat)  (x0 : Nat) (x1 : Int32) (x2 : Int32) (x3 : Int32) (h : Hp) : Option (Int32 × Hp) :=
  (q_gr h x0 4 0).bind fun a1_ =>
  (q_ai h a1_ 9 ((x1 * (6 : Int32)) + x2)).bind fun v2_ =>
  bi (f_X5_isIn f v2_ x3 h) fun v4_ h3_ =>
  q_bo v4_ (some (v4_, h3_))
set_option maxRecDepth 20000 in
theorem t_X4_has_0 {X : Cx} (o : Ok X RX4 cX4_has 4 1 21 0 0 (some .boolean)) (f : Nat)  (x0 : Nat) (x1 : Int32) (x2 : Int32) (x3 : Int32) (h : Hp) : Sim X (z_Zi X 0 0) 0 0 0 [(0, rf (xG X) x0), (1, .int x1), (2, .int x2), (3, .int x3)] [] h (f_X4_has f x0 x1 x2 x3 h) := by
  unfold f_X4_has
  refine s_aload_n o 0 rfl dX4_has_0 (q := 1) rfl ?_
  refine s_gr o kf_X4_9 dX4_has_1 (q := 4) rfl (fun a1_ => ?_)
  refine s_iload_n o 1 rfl dX4_has_4 (q := 5) rfl ?_
  refine s_bipush o dX4_has_5 (v := (6 : Int32)) (by decide) (q := 7) rfl ?_
  refine s_imul o dX4_has_7 (q := 8) rfl ?_
  refine s_iload_n o 2 rfl dX4_has_8 (q := 9) rfl ?_
  refine s_iadd o dX4_has_9 (q := 10) rfl ?_
  refine s_iald o dX4_has_10 (q := 11) rfl (fun v2_ => ?_)
  refine s_iload_n o 3 rfl dX4_has_11 (q := 12) rfl ?_
  refine s_bi (fun r0 hr0 => runN o cn_X4_46 (c_X5_isIn (xG X) f v2_ x3 h (xl X) r0 hr0) ⟨Nat.le_of_ble_eq_true rfl, Nat.le_of_ble_eq_true rfl⟩ rfl rfl (Nat.le_of_ble_eq_true rfl) dX4_has_12 ⟨Nat.le_of_ble_eq_true rfl, Nat.le_of_ble_eq_true rfl⟩) (q := 15) rfl (cs' := 0) rfl (sl' := 0) rfl (fun v4_ h3_ => ?_)
  exact s_zret o dX4_has_15
theorem c_X4_has (G : Gx) (f : Nat) (x0 : Nat) (x1 : Int32) (x2 : Int32) (x3 : Int32) (h : Hp) : z_M z_qi G yX4_has cX4_has 4 (some .boolean) 1 21 0 0 [rf G x0, .int x1, .int x2, .int x3] h (f_X4_has f x0 x1 x2 x3 h) :=
  z_met (by decide +kernel) (Nat.le_of_ble_eq_true rfl) (fun X hG hn o hnm => by
    subst hG
    show Sim X (z_Zi X 0 0) 0 0 0 [(0, rf (xG X) x0), (1, .int x1), (2, .int x2), (3, .int x3)] [] h _
    exact s_sub [0, 1, 2, 3] rfl (t_X4_has_0 o f x0 x1 x2 x3 h))
/-! SixMaps$Standing.learn(III)V -/
def f_X4_learn (f : Nat)  (x0 : Nat) (x1 : Int32) (x2 : Int32) (x3 : Int32) (h : Hp) : Option (Hp) :=
  (q_gr h x0 4 0).bind fun a1_ =>
  (q_ai h a1_ 9 ((x1 * (6 : Int32)) + x2)).bind fun v2_ =>
  (q_as h a1_ 9 ((x1 * (6 : Int32)) + x2) (v2_ ||| ((1 : Int32) <<< (x3 &&& 31)))).bind fun h3_ =>
  some h3_
set_option maxRecDepth 20000 in
theorem t_X4_learn_0 {X : Cx} (o : Ok X RX4 cX4_learn 4 0 0 0 0 none) (f : Nat)  (x0 : Nat) (x1 : Int32) (x2 : Int32) (x3 : Int32) (h : Hp) : Sim X (z_Zv X 0 0) 0 0 0 [(0, rf (xG X) x0), (1, .int x1), (2, .int x2), (3, .int x3)] [] h (f_X4_learn f x0 x1 x2 x3 h) := by
  unfold f_X4_learn
  refine s_aload_n o 0 rfl dX4_learn_0 (q := 1) rfl ?_
  refine s_gr o kf_X4_9 dX4_learn_1 (q := 4) rfl (fun a1_ => ?_)
  refine s_iload_n o 1 rfl dX4_learn_4 (q := 5) rfl ?_
  refine s_bipush o dX4_learn_5 (v := (6 : Int32)) (by decide) (q := 7) rfl ?_
  refine s_imul o dX4_learn_7 (q := 8) rfl ?_
  refine s_iload_n o 2 rfl dX4_learn_8 (q := 9) rfl ?_
  refine s_iadd o dX4_learn_9 (q := 10) rfl ?_
  refine s_dup2 o rfl rfl dX4_learn_10 (q := 11) rfl ?_
  refine s_iald o dX4_learn_11 (q := 12) rfl (fun v2_ => ?_)
  refine s_iconst o dX4_learn_12 (v := (1 : Int32)) (by decide) (q := 13) rfl ?_
  refine s_iload_n o 3 rfl dX4_learn_13 (q := 14) rfl ?_
  refine s_ishl o dX4_learn_14 (q := 15) rfl ?_
  refine s_ior o dX4_learn_15 (q := 16) rfl ?_
  refine s_iast o dX4_learn_16 (q := 17) rfl (fun h3_ => ?_)
  exact s_vret o dX4_learn_17
theorem c_X4_learn (G : Gx) (f : Nat) (x0 : Nat) (x1 : Int32) (x2 : Int32) (x3 : Int32) (h : Hp) : z_M z_qv G yX4_learn cX4_learn 4 none 0 0 0 0 [rf G x0, .int x1, .int x2, .int x3] h (f_X4_learn f x0 x1 x2 x3 h) :=
  z_met (by decide +kernel) (Nat.le_of_ble_eq_true rfl) (fun X hG hn o hnm => by
    subst hG
    show Sim X (z_Zv X 0 0) 0 0 0 [(0, rf (xG X) x0), (1, .int x1), (2, .int x2), (3, .int x3)] [] h _
    exact s_sub [0, 1, 2, 3] rfl (t_X4_learn_0 o f x0 x1 x2 x3 h))
/-! SixMaps.isBand(I)Z -/
def b_X5_isBand_15 (f : Nat)  (y0 : Int32) (h : Hp) : Option (Int32 × Hp) :=
  q_bo y0 (some (y0, h))
def b_X5_isBand_14 (f : Nat)   (h : Hp) : Option (Int32 × Hp) :=
  b_X5_isBand_15 f (0 : Int32) h
def f_X5_isBand (f : Nat)  (x0 : Int32) (h : Hp) : Option (Int32 × Hp) :=
  if x0 < 0 then
  (b_X5_isBand_14 f h)
  else
  (if (6 : Int32) ≤ x0 then
  (b_X5_isBand_14 f h)
  else
  (b_X5_isBand_15 f (1 : Int32) h))
set_option maxRecDepth 20000 in
theorem t_X5_isBand_15 {X : Cx} (o : Ok X RX5 cX5_isBand 1 0 0 0 0 (some .boolean)) (f : Nat)  (y0 : Int32) (h : Hp) : Sim X (z_Zi X 0 0) 0 0 15 [] [.int y0] h (b_X5_isBand_15 f y0 h) := by
  unfold b_X5_isBand_15
  exact s_zret o dX5_isBand_15
set_option maxRecDepth 20000 in
theorem t_X5_isBand_14 {X : Cx} (o : Ok X RX5 cX5_isBand 1 0 0 0 0 (some .boolean)) (f : Nat)   (h : Hp) : Sim X (z_Zi X 0 0) 0 0 14 [] [] h (b_X5_isBand_14 f h) := by
  unfold b_X5_isBand_14
  refine s_iconst o dX5_isBand_14 (v := (0 : Int32)) (by decide) (q := 15) rfl ?_
  exact s_sub [] rfl (t_X5_isBand_15 o f (0 : Int32) h)
set_option maxRecDepth 20000 in
theorem t_X5_isBand_0 {X : Cx} (o : Ok X RX5 cX5_isBand 1 0 0 0 0 (some .boolean)) (f : Nat)  (x0 : Int32) (h : Hp) : Sim X (z_Zi X 0 0) 0 0 0 [(0, .int x0)] [] h (f_X5_isBand f x0 h) := by
  unfold f_X5_isBand
  refine s_iload_n o 0 rfl dX5_isBand_0 (q := 1) rfl ?_
  refine s_if_lt o (tgt := 14) dX5_isBand_1 (by decide) (q := 4) rfl ?_ ?_
  · exact s_sub [] rfl (t_X5_isBand_14 o f h)
  · refine s_iload_n o 0 rfl dX5_isBand_4 (q := 5) rfl ?_
    refine s_bipush o dX5_isBand_5 (v := (6 : Int32)) (by decide) (q := 7) rfl ?_
    refine s_ic_ge o (tgt := 14) dX5_isBand_7 (by decide) (q := 10) rfl ?_ ?_
    · exact s_sub [] rfl (t_X5_isBand_14 o f h)
    · refine s_iconst o dX5_isBand_10 (v := (1 : Int32)) (by decide) (q := 11) rfl ?_
      refine s_goto o (tgt := 15) dX5_isBand_11 (by decide) ?_
      exact s_sub [] rfl (t_X5_isBand_15 o f (1 : Int32) h)
theorem c_X5_isBand (G : Gx) (f : Nat) (x0 : Int32) (h : Hp) : z_M z_qi G yX5_isBand cX5_isBand 1 (some .boolean) 0 0 0 0 [.int x0] h (f_X5_isBand f x0 h) :=
  z_met (by decide +kernel) (Nat.le_of_ble_eq_true rfl) (fun X hG hn o hnm => by
    subst hG
    show Sim X (z_Zi X 0 0) 0 0 0 [(0, .int x0)] [] h _
    exact s_sub [0] rfl (t_X5_isBand_0 o f x0 h))
