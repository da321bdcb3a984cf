/-! SixMapsModel.island()I -/
def b_X6_island_93 (f : Nat)  (x0 : Nat) (x1 : Int32) (h : Hp) : Option (Int32 × Hp) :=
  (q_pi h x0 6 19 (0 : Int32)).bind fun h1_ =>
  if x1 ≤ 0 then
  (q_on h1_ x0 6 (
  (f_X6_takeIsland f x0 h1_).bind fun h3_ =>
  (q_gi h3_ x0 6 0).bind fun v4_ =>
  some (v4_, h3_)))
  else
  (some (((-10 : Int32) - x1), h1_))
def b_X6_island_74 (f : Nat) (k74 : Nat → Int32 → Hp → Option (Int32 × Hp)) (x0 : Nat) (x1 : Int32) (h : Hp) : Option (Int32 × Hp) :=
  if ¬ x1 = 0 then
  (b_X6_island_93 f x0 x1 h)
  else
  (q_on h x0 6 (
  bi (f_X6_here f x0 h) fun v3_ h2_ =>
  if v3_ < 0 then
  (b_X6_island_93 f x0 x1 h2_)
  else
  (q_on h2_ x0 6 (
  bi (f_X6_takeClause f x0 h2_) fun v6_ h5_ =>
  k74 x0 v6_ h5_))))
def l_X6_island_74 (f : Nat)  : Nat → Nat → Int32 → Hp → Option (Int32 × Hp)
  | 0, _, _, _ => none
  | n + 1, x0, x1, h => b_X6_island_74 f  (l_X6_island_74 f  n) x0 x1 h
def b_X6_island_54 (f : Nat) (k54 : Nat → Int32 → Hp → Option (Int32 × Hp)) (x0 : Nat) (x1 : Int32) (h : Hp) : Option (Int32 × Hp) :=
  if (3 : Int32) ≤ x1 then
  (l_X6_island_74 f f x0 (0 : Int32) h)
  else
  ((q_gr h x0 6 35).bind fun a1_ =>
  (q_as h a1_ 9 x1 (0 : Int32)).bind fun h2_ =>
  lt (x1 + (1 : Int32)) fun v3_ =>
  k54 x0 v3_ h2_)
def l_X6_island_54 (f : Nat)  : Nat → Nat → Int32 → Hp → Option (Int32 × Hp)
  | 0, _, _, _ => none
  | n + 1, x0, x1, h => b_X6_island_54 f  (l_X6_island_54 f  n) x0 x1 h
def f_X6_island (f : Nat)  (x0 : Nat) (h : Hp) : Option (Int32 × Hp) :=
  (q_pi h x0 6 20 (-1 : Int32)).bind fun h1_ =>
  (q_pi h1_ x0 6 21 (0 : Int32)).bind fun h2_ =>
  (q_pi h2_ x0 6 26 (0 : Int32)).bind fun h3_ =>
  (q_pi h3_ x0 6 32 (0 : Int32)).bind fun h4_ =>
  (q_pi h4_ x0 6 33 (0 : Int32)).bind fun h5_ =>
  (q_pi h5_ x0 6 34 (0 : Int32)).bind fun h6_ =>
  (q_pi h6_ x0 6 36 (0 : Int32)).bind fun h7_ =>
  (q_pi h7_ x0 6 37 (10 : Int32)).bind fun h8_ =>
  (q_pi h8_ x0 6 38 (100 : Int32)).bind fun h9_ =>
  (q_pi h9_ x0 6 39 (0 : Int32)).bind fun h10_ =>
  l_X6_island_54 f f x0 (0 : Int32) h10_
set_option maxRecDepth 20000 in
theorem t_X6_island_93 {X : Cx} (o : Ok X RX6 cX6_island 2 6 140 0 0 (some .int)) (f : Nat)  (x0 : Nat) (x1 : Int32) (h : Hp) : Sim X (z_Zi X 0 0) 0 0 93 [(0, rf (xG X) x0), (1, .int x1)] [] h (b_X6_island_93 f x0 x1 h) := by
  unfold b_X6_island_93
  refine s_aload_n o 0 rfl dX6_island_93 (q := 94) rfl ?_
  refine s_iconst o dX6_island_94 (v := (0 : Int32)) (by decide) (q := 95) rfl ?_
  refine s_pi o kf_X6_126 dX6_island_95 (q := 98) rfl (fun h1_ => ?_)
  refine s_iload_n o 1 rfl dX6_island_98 (q := 99) rfl ?_
  refine s_if_le o (tgt := 107) dX6_island_99 (by decide) (q := 102) rfl ?_ ?_
  · refine s_aload_n o 0 rfl dX6_island_107 (q := 108) rfl ?_
    refine s_on (fun hk2_ => ?_)
    refine s_callv (fun r0 hr0 => runV o hk2_ cv_X6_247 (c_X6_takeIsland (xG X) f x0 h1_ (xl X) r0 hr0) ⟨Nat.le_of_ble_eq_true rfl, Nat.le_of_ble_eq_true rfl⟩ rfl rfl (Nat.le_of_ble_eq_true rfl) dX6_island_108 ⟨Nat.le_of_ble_eq_true rfl, Nat.le_of_ble_eq_true rfl⟩) (q := 111) rfl (cs' := 0) rfl (sl' := 0) rfl (fun h3_ => ?_)
    refine s_aload_n o 0 rfl dX6_island_111 (q := 112) rfl ?_
    refine s_gi o kf_X6_111 dX6_island_112 (q := 115) rfl (fun v4_ => ?_)
    exact s_iret o dX6_island_115
  · refine s_bipush o dX6_island_102 (v := (-10 : Int32)) (by decide) (q := 104) rfl ?_
    refine s_iload_n o 1 rfl dX6_island_104 (q := 105) rfl ?_
    refine s_isub o dX6_island_105 (q := 106) rfl ?_
    exact s_iret o dX6_island_106
set_option maxRecDepth 20000 in
theorem t_X6_island_74 {X : Cx} (o : Ok X RX6 cX6_island 2 6 140 0 0 (some .int)) (f : Nat) {k74 : Nat → Int32 → Hp → Option (Int32 × Hp)} (hk74 : ∀ (x0 : Nat) (x1 : Int32) (h : Hp), Sim X (z_Zi X 0 0) 0 0 74 [(0, rf (xG X) x0), (1, .int x1)] [] h (k74 x0 x1 h)) (x0 : Nat) (x1 : Int32) (h : Hp) : Sim X (z_Zi X 0 0) 0 0 74 [(0, rf (xG X) x0), (1, .int x1)] [] h (b_X6_island_74 f k74 x0 x1 h) := by
  unfold b_X6_island_74
  refine s_iload_n o 1 rfl dX6_island_74 (q := 75) rfl ?_
  refine s_if_ne o (tgt := 93) dX6_island_75 (by decide) (q := 78) rfl ?_ ?_
  · exact s_sub [0, 1] rfl (t_X6_island_93 o f x0 x1 h)
  · refine s_aload_n o 0 rfl dX6_island_78 (q := 79) rfl ?_
    refine s_on (fun hk1_ => ?_)
    refine s_bi (fun r0 hr0 => runV o hk1_ cv_X6_135 (c_X6_here (xG X) f x0 h (xl X) r0 hr0) ⟨Nat.le_of_ble_eq_true rfl, Nat.le_of_ble_eq_true rfl⟩ rfl rfl (Nat.le_of_ble_eq_true rfl) dX6_island_79 ⟨Nat.le_of_ble_eq_true rfl, Nat.le_of_ble_eq_true rfl⟩) (q := 82) rfl (cs' := 0) rfl (sl' := 0) rfl (fun v3_ h2_ => ?_)
    refine s_if_lt o (tgt := 93) dX6_island_82 (by decide) (q := 85) rfl ?_ ?_
    · exact s_sub [0, 1] rfl (t_X6_island_93 o f x0 x1 h2_)
    · refine s_aload_n o 0 rfl dX6_island_85 (q := 86) rfl ?_
      refine s_on (fun hk4_ => ?_)
      refine s_bi (fun r0 hr0 => runV o hk4_ cv_X6_244 (c_X6_takeClause (xG X) f x0 h2_ (xl X) r0 hr0) ⟨Nat.le_of_ble_eq_true rfl, Nat.le_of_ble_eq_true rfl⟩ rfl rfl (Nat.le_of_ble_eq_true rfl) dX6_island_86 ⟨Nat.le_of_ble_eq_true rfl, Nat.le_of_ble_eq_true rfl⟩) (q := 89) rfl (cs' := 0) rfl (sl' := 0) rfl (fun v6_ h5_ => ?_)
      refine s_istore_n o [1, 0] (lv' := [(0, rf (xG X) x0), (1, .int v6_)]) rfl dX6_island_89 (by decide) (q := 90) rfl ?_
      refine s_goto o (tgt := 74) dX6_island_90 (by decide) ?_
      exact s_sub [0, 1] rfl (hk74 x0 v6_ h5_)
theorem tl_X6_island_74 {X : Cx} (o : Ok X RX6 cX6_island 2 6 140 0 0 (some .int)) (f : Nat)  : ∀ (n : Nat) (x0 : Nat) (x1 : Int32) (h : Hp), Sim X (z_Zi X 0 0) 0 0 74 [(0, rf (xG X) x0), (1, .int x1)] [] h (l_X6_island_74 f n x0 x1 h) := by
  intro n
  induction n with
  | zero => intro x0 x1 h; exact s_none
  | succ n ih => intro x0 x1 h; exact t_X6_island_74 o f  ih x0 x1 h
set_option maxRecDepth 20000 in
theorem t_X6_island_54 {X : Cx} (o : Ok X RX6 cX6_island 2 6 140 0 0 (some .int)) (f : Nat) {k54 : Nat → Int32 → Hp → Option (Int32 × Hp)} (hk54 : ∀ (x0 : Nat) (x1 : Int32) (h : Hp), Sim X (z_Zi X 0 0) 0 0 54 [(0, rf (xG X) x0), (1, .int x1)] [] h (k54 x0 x1 h)) (x0 : Nat) (x1 : Int32) (h : Hp) : Sim X (z_Zi X 0 0) 0 0 54 [(0, rf (xG X) x0), (1, .int x1)] [] h (b_X6_island_54 f k54 x0 x1 h) := by
  unfold b_X6_island_54
  refine s_iload_n o 1 rfl dX6_island_54 (q := 55) rfl ?_
  refine s_iconst o dX6_island_55 (v := (3 : Int32)) (by decide) (q := 56) rfl ?_
  refine s_ic_ge o (tgt := 72) dX6_island_56 (by decide) (q := 59) rfl ?_ ?_
  · refine s_iconst o dX6_island_72 (v := (0 : Int32)) (by decide) (q := 73) rfl ?_
    refine s_istore_n o [1, 0] (lv' := [(0, rf (xG X) x0), (1, .int (0 : Int32))]) rfl dX6_island_73 (by decide) (q := 74) rfl ?_
    exact s_sub [0, 1] rfl (tl_X6_island_74 o f f x0 (0 : Int32) h)
  · refine s_aload_n o 0 rfl dX6_island_59 (q := 60) rfl ?_
    refine s_gr o kf_X6_69 dX6_island_60 (q := 63) rfl (fun a1_ => ?_)
    refine s_iload_n o 1 rfl dX6_island_63 (q := 64) rfl ?_
    refine s_iconst o dX6_island_64 (v := (0 : Int32)) (by decide) (q := 65) rfl ?_
    refine s_iast o dX6_island_65 (q := 66) rfl (fun h2_ => ?_)
    refine s_iinc o 1 rfl (v := (1 : Int32)) (by decide) [1, 0] (lv' := fun v3_ => [(0, rf (xG X) x0), (1, .int v3_)]) (fun _ => rfl) dX6_island_66 (by decide) (q := 69) rfl (fun v3_ => ?_)
    refine s_goto o (tgt := 54) dX6_island_69 (by decide) ?_
    exact s_sub [0, 1] rfl (hk54 x0 v3_ h2_)
theorem tl_X6_island_54 {X : Cx} (o : Ok X RX6 cX6_island 2 6 140 0 0 (some .int)) (f : Nat)  : ∀ (n : Nat) (x0 : Nat) (x1 : Int32) (h : Hp), Sim X (z_Zi X 0 0) 0 0 54 [(0, rf (xG X) x0), (1, .int x1)] [] h (l_X6_island_54 f n x0 x1 h) := by
  intro n
  induction n with
  | zero => intro x0 x1 h; exact s_none
  | succ n ih => intro x0 x1 h; exact t_X6_island_54 o f  ih x0 x1 h
set_option maxRecDepth 20000 in
theorem t_X6_island_0 {X : Cx} (o : Ok X RX6 cX6_island 2 6 140 0 0 (some .int)) (f : Nat)  (x0 : Nat) (h : Hp) : Sim X (z_Zi X 0 0) 0 0 0 [(0, rf (xG X) x0)] [] h (f_X6_island f x0 h) := by
  unfold f_X6_island
  refine s_aload_n o 0 rfl dX6_island_0 (q := 1) rfl ?_
  refine s_iconst o dX6_island_1 (v := (-1 : Int32)) (by decide) (q := 2) rfl ?_
  refine s_pi o kf_X6_50 dX6_island_2 (q := 5) rfl (fun h1_ => ?_)
  refine s_aload_n o 0 rfl dX6_island_5 (q := 6) rfl ?_
  refine s_iconst o dX6_island_6 (v := (0 : Int32)) (by decide) (q := 7) rfl ?_
  refine s_pi o kf_X6_132 dX6_island_7 (q := 10) rfl (fun h2_ => ?_)
  refine s_aload_n o 0 rfl dX6_island_10 (q := 11) rfl ?_
  refine s_iconst o dX6_island_11 (v := (0 : Int32)) (by decide) (q := 12) rfl ?_
  refine s_pi o kf_X6_176 dX6_island_12 (q := 15) rfl (fun h3_ => ?_)
  refine s_aload_n o 0 rfl dX6_island_15 (q := 16) rfl ?_
  refine s_iconst o dX6_island_16 (v := (0 : Int32)) (by decide) (q := 17) rfl ?_
  refine s_pi o kf_X6_200 dX6_island_17 (q := 20) rfl (fun h4_ => ?_)
  refine s_aload_n o 0 rfl dX6_island_20 (q := 21) rfl ?_
  refine s_iconst o dX6_island_21 (v := (0 : Int32)) (by decide) (q := 22) rfl ?_
  refine s_pi o kf_X6_179 dX6_island_22 (q := 25) rfl (fun h5_ => ?_)
  refine s_aload_n o 0 rfl dX6_island_25 (q := 26) rfl ?_
  refine s_iconst o dX6_island_26 (v := (0 : Int32)) (by decide) (q := 27) rfl ?_
  refine s_pi o kf_X6_203 dX6_island_27 (q := 30) rfl (fun h6_ => ?_)
  refine s_aload_n o 0 rfl dX6_island_30 (q := 31) rfl ?_
  refine s_iconst o dX6_island_31 (v := (0 : Int32)) (by decide) (q := 32) rfl ?_
  refine s_pi o kf_X6_197 dX6_island_32 (q := 35) rfl (fun h7_ => ?_)
  refine s_aload_n o 0 rfl dX6_island_35 (q := 36) rfl ?_
  refine s_bipush o dX6_island_36 (v := (10 : Int32)) (by decide) (q := 38) rfl ?_
  refine s_pi o kf_X6_226 dX6_island_38 (q := 41) rfl (fun h8_ => ?_)
  refine s_aload_n o 0 rfl dX6_island_41 (q := 42) rfl ?_
  refine s_bipush o dX6_island_42 (v := (100 : Int32)) (by decide) (q := 44) rfl ?_
  refine s_pi o kf_X6_229 dX6_island_44 (q := 47) rfl (fun h9_ => ?_)
  refine s_aload_n o 0 rfl dX6_island_47 (q := 48) rfl ?_
  refine s_iconst o dX6_island_48 (v := (0 : Int32)) (by decide) (q := 49) rfl ?_
  refine s_pi o kf_X6_238 dX6_island_49 (q := 52) rfl (fun h10_ => ?_)
  refine s_iconst o dX6_island_52 (v := (0 : Int32)) (by decide) (q := 53) rfl ?_
  refine s_istore_n o [1, 0] (lv' := [(0, rf (xG X) x0), (1, .int (0 : Int32))]) rfl dX6_island_53 (by decide) (q := 54) rfl ?_
  exact s_sub [0, 1] rfl (tl_X6_island_54 o f f x0 (0 : Int32) h10_)
theorem c_X6_island (G : Gx) (f : Nat) (x0 : Nat) (h : Hp) : z_M z_qi G yX6_island cX6_island 2 (some .int) 6 140 0 0 [rf G x0] h (f_X6_island f x0 h) :=
  z_met (by decide +kernel) (Nat.le_of_ble_eq_true rfl) (fun X hG hn o hnm => by
    subst hG
    show Sim X (z_Zi X 0 0) 0 0 0 [(0, rf (xG X) x0)] [] h _
    exact s_sub [0] rfl (t_X6_island_0 o f x0 h))
/-! SixMapsModel.keep(I)I -/
def b_X6_keep_80 (f : Nat) (k80 : Nat → Int32 → Int32 → Int32 → Hp → Option (Int32 × Hp)) (x0 : Nat) (x1 : Int32) (x2 : Int32) (x3 : Int32) (h : Hp) : Option (Int32 × Hp) :=
  if (20 : Int32) ≤ x3 then
  ((q_gr h x0 6 54).bind fun a1_ =>
  (q_gi h x0 6 13).bind fun v2_ =>
  (q_as h a1_ 9 (x2 + (82 : Int32)) v2_).bind fun h3_ =>
  (q_gr h3_ x0 6 54).bind fun a4_ =>
  (q_gi h3_ x0 6 16).bind fun v5_ =>
  (q_as h3_ a4_ 9 (x2 + (83 : Int32)) v5_).bind fun h6_ =>
  (q_gr h6_ x0 6 54).bind fun a7_ =>
  (q_gi h6_ x0 6 17).bind fun v8_ =>
  (q_as h6_ a7_ 9 (x2 + (84 : Int32)) v8_).bind fun h9_ =>
  (q_gr h9_ x0 6 55).bind fun a10_ =>
  (q_as h9_ a10_ 10 x1 (vp_nar .boolean (1 : Int32))).bind fun h11_ =>
  some ((1 : Int32), h11_))
  else
  ((q_gr h x0 6 54).bind fun a12_ =>
  (q_gr h x0 6 14).bind fun a13_ =>
  (q_ai h a13_ 9 x3).bind fun v14_ =>
  (q_as h a12_ 9 ((x2 + (42 : Int32)) + x3) v14_).bind fun h15_ =>
  (q_gr h15_ x0 6 54).bind fun a16_ =>
  (q_gr h15_ x0 6 15).bind fun a17_ =>
  (q_ai h15_ a17_ 9 x3).bind fun v18_ =>
  (q_as h15_ a16_ 9 ((x2 + (62 : Int32)) + x3) v18_).bind fun h19_ =>
  lt (x3 + (1 : Int32)) fun v20_ =>
  k80 x0 x1 x2 v20_ h19_)
def l_X6_keep_80 (f : Nat)  : Nat → Nat → Int32 → Int32 → Int32 → Hp → Option (Int32 × Hp)
  | 0, _, _, _, _, _ => none
  | n + 1, x0, x1, x2, x3, h => b_X6_keep_80 f  (l_X6_keep_80 f  n) x0 x1 x2 x3 h
def b_X6_keep_49 (f : Nat) (k49 : Nat → Int32 → Int32 → Int32 → Hp → Option (Int32 × Hp)) (x0 : Nat) (x1 : Int32) (x2 : Int32) (x3 : Int32) (h : Hp) : Option (Int32 × Hp) :=
  if (6 : Int32) ≤ x3 then
  (l_X6_keep_80 f f x0 x1 x2 (0 : Int32) h)
  else
  ((q_gr h x0 6 54).bind fun a1_ =>
  (q_gr h x0 6 12).bind fun a2_ =>
  (q_ai h a2_ 9 x3).bind fun v3_ =>
  (q_as h a1_ 9 ((x2 + (36 : Int32)) + x3) v3_).bind fun h4_ =>
  lt (x3 + (1 : Int32)) fun v5_ =>
  k49 x0 x1 x2 v5_ h4_)
def l_X6_keep_49 (f : Nat)  : Nat → Nat → Int32 → Int32 → Int32 → Hp → Option (Int32 × Hp)
  | 0, _, _, _, _, _ => none
  | n + 1, x0, x1, x2, x3, h => b_X6_keep_49 f  (l_X6_keep_49 f  n) x0 x1 x2 x3 h
def b_X6_keep_21 (f : Nat) (k21 : Nat → Int32 → Int32 → Int32 → Hp → Option (Int32 × Hp)) (x0 : Nat) (x1 : Int32) (x2 : Int32) (x3 : Int32) (h : Hp) : Option (Int32 × Hp) :=
  if (36 : Int32) ≤ x3 then
  (l_X6_keep_49 f f x0 x1 x2 (0 : Int32) h)
  else
  ((q_gr h x0 6 54).bind fun a1_ =>
  (q_gr h x0 6 11).bind fun a2_ =>
  (q_ai h a2_ 9 x3).bind fun v3_ =>
  (q_as h a1_ 9 (x2 + x3) v3_).bind fun h4_ =>
  lt (x3 + (1 : Int32)) fun v5_ =>
  k21 x0 x1 x2 v5_ h4_)
def l_X6_keep_21 (f : Nat)  : Nat → Nat → Int32 → Int32 → Int32 → Hp → Option (Int32 × Hp)
  | 0, _, _, _, _, _ => none
  | n + 1, x0, x1, x2, x3, h => b_X6_keep_21 f  (l_X6_keep_21 f  n) x0 x1 x2 x3 h
def f_X6_keep (f : Nat)  (x0 : Nat) (x1 : Int32) (h : Hp) : Option (Int32 × Hp) :=
  bi (f_X6_in f x1.toInt64 (0 : Int64) (1 : Int64) h) fun v2_ h1_ =>
  if ¬ v2_ = 0 then
  (lt ((100 : Int32) * x1) fun v3_ =>
  l_X6_keep_21 f f x0 x1 v3_ (0 : Int32) h1_)
  else
  (some ((-1000001 : Int32), h1_))
set_option maxRecDepth 20000 in
theorem t_X6_keep_80 {X : Cx} (o : Ok X RX6 cX6_keep 4 1 25 0 0 (some .int)) (f : Nat) {k80 : Nat → Int32 → Int32 → Int32 → Hp → Option (Int32 × Hp)} (hk80 : ∀ (x0 : Nat) (x1 : Int32) (x2 : Int32) (x3 : Int32) (h : Hp), Sim X (z_Zi X 0 0) 0 0 80 [(0, rf (xG X) x0), (1, .int x1), (2, .int x2), (3, .int x3)] [] h (k80 x0 x1 x2 x3 h)) (x0 : Nat) (x1 : Int32) (x2 : Int32) (x3 : Int32) (h : Hp) : Sim X (z_Zi X 0 0) 0 0 80 [(0, rf (xG X) x0), (1, .int x1), (2, .int x2), (3, .int x3)] [] h (b_X6_keep_80 f k80 x0 x1 x2 x3 h) := by
  unfold b_X6_keep_80
  refine s_iload_n o 3 rfl dX6_keep_80 (q := 81) rfl ?_
  refine s_bipush o dX6_keep_81 (v := (20 : Int32)) (by decide) (q := 83) rfl ?_
  refine s_ic_ge o (tgt := 126) dX6_keep_83 (by decide) (q := 86) rfl ?_ ?_
  · refine s_aload_n o 0 rfl dX6_keep_126 (q := 127) rfl ?_
    refine s_gr o kf_X6_102 dX6_keep_127 (q := 130) rfl (fun a1_ => ?_)
    refine s_iload_n o 2 rfl dX6_keep_130 (q := 131) rfl ?_
    refine s_bipush o dX6_keep_131 (v := (82 : Int32)) (by decide) (q := 133) rfl ?_
    refine s_iadd o dX6_keep_133 (q := 134) rfl ?_
    refine s_aload_n o 0 rfl dX6_keep_134 (q := 135) rfl ?_
    refine s_gi o kf_X6_120 dX6_keep_135 (q := 138) rfl (fun v2_ => ?_)
    refine s_iast o dX6_keep_138 (q := 139) rfl (fun h3_ => ?_)
    refine s_aload_n o 0 rfl dX6_keep_139 (q := 140) rfl ?_
    refine s_gr o kf_X6_102 dX6_keep_140 (q := 143) rfl (fun a4_ => ?_)
    refine s_iload_n o 2 rfl dX6_keep_143 (q := 144) rfl ?_
    refine s_bipush o dX6_keep_144 (v := (83 : Int32)) (by decide) (q := 146) rfl ?_
    refine s_iadd o dX6_keep_146 (q := 147) rfl ?_
    refine s_aload_n o 0 rfl dX6_keep_147 (q := 148) rfl ?_
    refine s_gi o kf_X6_44 dX6_keep_148 (q := 151) rfl (fun v5_ => ?_)
    refine s_iast o dX6_keep_151 (q := 152) rfl (fun h6_ => ?_)
    refine s_aload_n o 0 rfl dX6_keep_152 (q := 153) rfl ?_
    refine s_gr o kf_X6_102 dX6_keep_153 (q := 156) rfl (fun a7_ => ?_)
    refine s_iload_n o 2 rfl dX6_keep_156 (q := 157) rfl ?_
    refine s_bipush o dX6_keep_157 (v := (84 : Int32)) (by decide) (q := 159) rfl ?_
    refine s_iadd o dX6_keep_159 (q := 160) rfl ?_
    refine s_aload_n o 0 rfl dX6_keep_160 (q := 161) rfl ?_
    refine s_gi o kf_X6_362 dX6_keep_161 (q := 164) rfl (fun v8_ => ?_)
    refine s_iast o dX6_keep_164 (q := 165) rfl (fun h9_ => ?_)
    refine s_aload_n o 0 rfl dX6_keep_165 (q := 166) rfl ?_
    refine s_gr o kf_X6_105 dX6_keep_166 (q := 169) rfl (fun a10_ => ?_)
    refine s_iload_n o 1 rfl dX6_keep_169 (q := 170) rfl ?_
    refine s_iconst o dX6_keep_170 (v := (1 : Int32)) (by decide) (q := 171) rfl ?_
    refine s_zast o dX6_keep_171 (q := 172) rfl (fun h11_ => ?_)
    refine s_iconst o dX6_keep_172 (v := (1 : Int32)) (by decide) (q := 173) rfl ?_
    exact s_iret o dX6_keep_173
  · refine s_aload_n o 0 rfl dX6_keep_86 (q := 87) rfl ?_
    refine s_gr o kf_X6_102 dX6_keep_87 (q := 90) rfl (fun a12_ => ?_)
    refine s_iload_n o 2 rfl dX6_keep_90 (q := 91) rfl ?_
    refine s_bipush o dX6_keep_91 (v := (42 : Int32)) (by decide) (q := 93) rfl ?_
    refine s_iadd o dX6_keep_93 (q := 94) rfl ?_
    refine s_iload_n o 3 rfl dX6_keep_94 (q := 95) rfl ?_
    refine s_iadd o dX6_keep_95 (q := 96) rfl ?_
    refine s_aload_n o 0 rfl dX6_keep_96 (q := 97) rfl ?_
    refine s_gr o kf_X6_38 dX6_keep_97 (q := 100) rfl (fun a13_ => ?_)
    refine s_iload_n o 3 rfl dX6_keep_100 (q := 101) rfl ?_
    refine s_iald o dX6_keep_101 (q := 102) rfl (fun v14_ => ?_)
    refine s_iast o dX6_keep_102 (q := 103) rfl (fun h15_ => ?_)
    refine s_aload_n o 0 rfl dX6_keep_103 (q := 104) rfl ?_
    refine s_gr o kf_X6_102 dX6_keep_104 (q := 107) rfl (fun a16_ => ?_)
    refine s_iload_n o 2 rfl dX6_keep_107 (q := 108) rfl ?_
    refine s_bipush o dX6_keep_108 (v := (62 : Int32)) (by decide) (q := 110) rfl ?_
    refine s_iadd o dX6_keep_110 (q := 111) rfl ?_
    refine s_iload_n o 3 rfl dX6_keep_111 (q := 112) rfl ?_
    refine s_iadd o dX6_keep_112 (q := 113) rfl ?_
    refine s_aload_n o 0 rfl dX6_keep_113 (q := 114) rfl ?_
    refine s_gr o kf_X6_41 dX6_keep_114 (q := 117) rfl (fun a17_ => ?_)
    refine s_iload_n o 3 rfl dX6_keep_117 (q := 118) rfl ?_
    refine s_iald o dX6_keep_118 (q := 119) rfl (fun v18_ => ?_)
    refine s_iast o dX6_keep_119 (q := 120) rfl (fun h19_ => ?_)
    refine s_iinc o 3 rfl (v := (1 : Int32)) (by decide) [1, 2, 3, 0] (lv' := fun v20_ => [(0, rf (xG X) x0), (1, .int x1), (2, .int x2), (3, .int v20_)]) (fun _ => rfl) dX6_keep_120 (by decide) (q := 123) rfl (fun v20_ => ?_)
    refine s_goto o (tgt := 80) dX6_keep_123 (by decide) ?_
    exact s_sub [0, 1, 2, 3] rfl (hk80 x0 x1 x2 v20_ h19_)
theorem tl_X6_keep_80 {X : Cx} (o : Ok X RX6 cX6_keep 4 1 25 0 0 (some .int)) (f : Nat)  : ∀ (n : Nat) (x0 : Nat) (x1 : Int32) (x2 : Int32) (x3 : Int32) (h : Hp), Sim X (z_Zi X 0 0) 0 0 80 [(0, rf (xG X) x0), (1, .int x1), (2, .int x2), (3, .int x3)] [] h (l_X6_keep_80 f n x0 x1 x2 x3 h) := by
  intro n
  induction n with
  | zero => intro x0 x1 x2 x3 h; exact s_none
  | succ n ih => intro x0 x1 x2 x3 h; exact t_X6_keep_80 o f  ih x0 x1 x2 x3 h
set_option maxRecDepth 20000 in
theorem t_X6_keep_49 {X : Cx} (o : Ok X RX6 cX6_keep 4 1 25 0 0 (some .int)) (f : Nat) {k49 : Nat → Int32 → Int32 → Int32 → Hp → Option (Int32 × Hp)} (hk49 : ∀ (x0 : Nat) (x1 : Int32) (x2 : Int32) (x3 : Int32) (h : Hp), Sim X (z_Zi X 0 0) 0 0 49 [(0, rf (xG X) x0), (1, .int x1), (2, .int x2), (3, .int x3)] [] h (k49 x0 x1 x2 x3 h)) (x0 : Nat) (x1 : Int32) (x2 : Int32) (x3 : Int32) (h : Hp) : Sim X (z_Zi X 0 0) 0 0 49 [(0, rf (xG X) x0), (1, .int x1), (2, .int x2), (3, .int x3)] [] h (b_X6_keep_49 f k49 x0 x1 x2 x3 h) := by
  unfold b_X6_keep_49
  refine s_iload_n o 3 rfl dX6_keep_49 (q := 50) rfl ?_
  refine s_bipush o dX6_keep_50 (v := (6 : Int32)) (by decide) (q := 52) rfl ?_
  refine s_ic_ge o (tgt := 78) dX6_keep_52 (by decide) (q := 55) rfl ?_ ?_
  · refine s_iconst o dX6_keep_78 (v := (0 : Int32)) (by decide) (q := 79) rfl ?_
    refine s_istore_n o [1, 2, 3, 0] (lv' := [(0, rf (xG X) x0), (1, .int x1), (2, .int x2), (3, .int (0 : Int32))]) rfl dX6_keep_79 (by decide) (q := 80) rfl ?_
    exact s_sub [0, 1, 2, 3] rfl (tl_X6_keep_80 o f f x0 x1 x2 (0 : Int32) h)
  · refine s_aload_n o 0 rfl dX6_keep_55 (q := 56) rfl ?_
    refine s_gr o kf_X6_102 dX6_keep_56 (q := 59) rfl (fun a1_ => ?_)
    refine s_iload_n o 2 rfl dX6_keep_59 (q := 60) rfl ?_
    refine s_bipush o dX6_keep_60 (v := (36 : Int32)) (by decide) (q := 62) rfl ?_
    refine s_iadd o dX6_keep_62 (q := 63) rfl ?_
    refine s_iload_n o 3 rfl dX6_keep_63 (q := 64) rfl ?_
    refine s_iadd o dX6_keep_64 (q := 65) rfl ?_
    refine s_aload_n o 0 rfl dX6_keep_65 (q := 66) rfl ?_
    refine s_gr o kf_X6_35 dX6_keep_66 (q := 69) rfl (fun a2_ => ?_)
    refine s_iload_n o 3 rfl dX6_keep_69 (q := 70) rfl ?_
    refine s_iald o dX6_keep_70 (q := 71) rfl (fun v3_ => ?_)
    refine s_iast o dX6_keep_71 (q := 72) rfl (fun h4_ => ?_)
    refine s_iinc o 3 rfl (v := (1 : Int32)) (by decide) [1, 2, 3, 0] (lv' := fun v5_ => [(0, rf (xG X) x0), (1, .int x1), (2, .int x2), (3, .int v5_)]) (fun _ => rfl) dX6_keep_72 (by decide) (q := 75) rfl (fun v5_ => ?_)
    refine s_goto o (tgt := 49) dX6_keep_75 (by decide) ?_
    exact s_sub [0, 1, 2, 3] rfl (hk49 x0 x1 x2 v5_ h4_)
theorem tl_X6_keep_49 {X : Cx} (o : Ok X RX6 cX6_keep 4 1 25 0 0 (some .int)) (f : Nat)  : ∀ (n : Nat) (x0 : Nat) (x1 : Int32) (x2 : Int32) (x3 : Int32) (h : Hp), Sim X (z_Zi X 0 0) 0 0 49 [(0, rf (xG X) x0), (1, .int x1), (2, .int x2), (3, .int x3)] [] h (l_X6_keep_49 f n x0 x1 x2 x3 h) := by
  intro n
  induction n with
  | zero => intro x0 x1 x2 x3 h; exact s_none
  | succ n ih => intro x0 x1 x2 x3 h; exact t_X6_keep_49 o f  ih x0 x1 x2 x3 h
set_option maxRecDepth 20000 in
theorem t_X6_keep_21 {X : Cx} (o : Ok X RX6 cX6_keep 4 1 25 0 0 (some .int)) (f : Nat) {k21 : Nat → Int32 → Int32 → Int32 → Hp → Option (Int32 × Hp)} (hk21 : ∀ (x0 : Nat) (x1 : Int32) (x2 : Int32) (x3 : Int32) (h : Hp), Sim X (z_Zi X 0 0) 0 0 21 [(0, rf (xG X) x0), (1, .int x1), (2, .int x2), (3, .int x3)] [] h (k21 x0 x1 x2 x3 h)) (x0 : Nat) (x1 : Int32) (x2 : Int32) (x3 : Int32) (h : Hp) : Sim X (z_Zi X 0 0) 0 0 21 [(0, rf (xG X) x0), (1, .int x1), (2, .int x2), (3, .int x3)] [] h (b_X6_keep_21 f k21 x0 x1 x2 x3 h) := by
  unfold b_X6_keep_21
  refine s_iload_n o 3 rfl dX6_keep_21 (q := 22) rfl ?_
  refine s_bipush o dX6_keep_22 (v := (36 : Int32)) (by decide) (q := 24) rfl ?_
  refine s_ic_ge o (tgt := 47) dX6_keep_24 (by decide) (q := 27) rfl ?_ ?_
  · refine s_iconst o dX6_keep_47 (v := (0 : Int32)) (by decide) (q := 48) rfl ?_
    refine s_istore_n o [1, 2, 3, 0] (lv' := [(0, rf (xG X) x0), (1, .int x1), (2, .int x2), (3, .int (0 : Int32))]) rfl dX6_keep_48 (by decide) (q := 49) rfl ?_
    exact s_sub [0, 1, 2, 3] rfl (tl_X6_keep_49 o f f x0 x1 x2 (0 : Int32) h)
  · refine s_aload_n o 0 rfl dX6_keep_27 (q := 28) rfl ?_
    refine s_gr o kf_X6_102 dX6_keep_28 (q := 31) rfl (fun a1_ => ?_)
    refine s_iload_n o 2 rfl dX6_keep_31 (q := 32) rfl ?_
    refine s_iload_n o 3 rfl dX6_keep_32 (q := 33) rfl ?_
    refine s_iadd o dX6_keep_33 (q := 34) rfl ?_
    refine s_aload_n o 0 rfl dX6_keep_34 (q := 35) rfl ?_
    refine s_gr o kf_X6_32 dX6_keep_35 (q := 38) rfl (fun a2_ => ?_)
    refine s_iload_n o 3 rfl dX6_keep_38 (q := 39) rfl ?_
    refine s_iald o dX6_keep_39 (q := 40) rfl (fun v3_ => ?_)
    refine s_iast o dX6_keep_40 (q := 41) rfl (fun h4_ => ?_)
    refine s_iinc o 3 rfl (v := (1 : Int32)) (by decide) [1, 2, 3, 0] (lv' := fun v5_ => [(0, rf (xG X) x0), (1, .int x1), (2, .int x2), (3, .int v5_)]) (fun _ => rfl) dX6_keep_41 (by decide) (q := 44) rfl (fun v5_ => ?_)
    refine s_goto o (tgt := 21) dX6_keep_44 (by decide) ?_
    exact s_sub [0, 1, 2, 3] rfl (hk21 x0 x1 x2 v5_ h4_)
theorem tl_X6_keep_21 {X : Cx} (o : Ok X RX6 cX6_keep 4 1 25 0 0 (some .int)) (f : Nat)  : ∀ (n : Nat) (x0 : Nat) (x1 : Int32) (x2 : Int32) (x3 : Int32) (h : Hp), Sim X (z_Zi X 0 0) 0 0 21 [(0, rf (xG X) x0), (1, .int x1), (2, .int x2), (3, .int x3)] [] h (l_X6_keep_21 f n x0 x1 x2 x3 h) := by
  intro n
  induction n with
  | zero => intro x0 x1 x2 x3 h; exact s_none
  | succ n ih => intro x0 x1 x2 x3 h; exact t_X6_keep_21 o f  ih x0 x1 x2 x3 h
set_option maxRecDepth 20000 in
theorem t_X6_keep_0 {X : Cx} (o : Ok X RX6 cX6_keep 4 1 25 0 0 (some .int)) (f : Nat)  (x0 : Nat) (x1 : Int32) (h : Hp) : Sim X (z_Zi X 0 0) 0 0 0 [(0, rf (xG X) x0), (1, .int x1)] [] h (f_X6_keep f x0 x1 h) := by
  unfold f_X6_keep
  refine s_iload_n o 1 rfl dX6_keep_0 (q := 1) rfl ?_
  refine s_i2l o dX6_keep_1 (q := 2) rfl ?_
  refine s_lconst o dX6_keep_2 (v := (0 : Int64)) (by decide) (q := 3) rfl ?_
  refine s_lconst o dX6_keep_3 (v := (1 : Int64)) (by decide) (q := 4) rfl ?_
  refine s_bi (fun r0 hr0 => runS o cs_X6_114 (c_X6_in (xG X) f x1.toInt64 (0 : Int64) (1 : Int64) h (xl X) r0 hr0) ⟨Nat.le_of_ble_eq_true rfl, Nat.le_of_ble_eq_true rfl⟩ rfl rfl (Nat.le_of_ble_eq_true rfl) dX6_keep_4 ⟨Nat.le_of_ble_eq_true rfl, Nat.le_of_ble_eq_true rfl⟩) (q := 7) rfl (cs' := 0) rfl (sl' := 0) rfl (fun v2_ h1_ => ?_)
  refine s_if_ne o (tgt := 14) dX6_keep_7 (by decide) (q := 10) rfl ?_ ?_
  · refine s_bipush o dX6_keep_14 (v := (100 : Int32)) (by decide) (q := 16) rfl ?_
    refine s_iload_n o 1 rfl dX6_keep_16 (q := 17) rfl ?_
    refine s_imul o dX6_keep_17 (q := 18) rfl ?_
    refine s_let (fun v3_ => ?_)
    refine s_istore_n o [1, 2, 0] (lv' := [(0, rf (xG X) x0), (1, .int x1), (2, .int v3_)]) rfl dX6_keep_18 (by decide) (q := 19) rfl ?_
    refine s_iconst o dX6_keep_19 (v := (0 : Int32)) (by decide) (q := 20) rfl ?_
    refine s_istore_n o [1, 2, 3, 0] (lv' := [(0, rf (xG X) x0), (1, .int x1), (2, .int v3_), (3, .int (0 : Int32))]) rfl dX6_keep_20 (by decide) (q := 21) rfl ?_
    exact s_sub [0, 1, 2, 3] rfl (tl_X6_keep_21 o f f x0 x1 v3_ (0 : Int32) h1_)
  · refine s_ldcw o kc_X6_266 dX6_keep_10 (q := 13) rfl ?_
    exact s_iret o dX6_keep_13
theorem c_X6_keep (G : Gx) (f : Nat) (x0 : Nat) (x1 : Int32) (h : Hp) : z_M z_qi G yX6_keep cX6_keep 4 (some .int) 1 25 0 0 [rf G x0, .int x1] h (f_X6_keep f x0 x1 h) :=
  z_met (by decide +kernel) (Nat.le_of_ble_eq_true rfl) (fun X hG hn o hnm => by
    subst hG
    show Sim X (z_Zi X 0 0) 0 0 0 [(0, rf (xG X) x0), (1, .int x1)] [] h _
    exact s_sub [0, 1] rfl (t_X6_keep_0 o f x0 x1 h))
/-! SixMapsModel.knows(II)I -/
def b_X6_knows_31 (f : Nat)  (y0 : Int32) (h : Hp) : Option (Int32 × Hp) :=
  some (y0, h)
def b_X6_knows_28 (f : Nat)   (h : Hp) : Option (Int32 × Hp) :=
  b_X6_knows_31 f (-1000001 : Int32) h
def f_X6_knows (f : Nat)  (x0 : Nat) (x1 : Int32) (x2 : Int32) (h : Hp) : Option (Int32 × Hp) :=
  bi (f_X6_isBand f x1 h) fun v2_ h1_ =>
  if v2_ = 0 then
  (b_X6_knows_28 f h1_)
  else
  (bi (f_X6_isBand f x2 h1_) fun v4_ h3_ =>
  if v4_ = 0 then
  (b_X6_knows_28 f h3_)
  else
  ((q_gr h3_ x0 6 11).bind fun a5_ =>
  (q_ai h3_ a5_ 9 (((6 : Int32) * x1) + x2)).bind fun v6_ =>
  b_X6_knows_31 f v6_ h3_))
set_option maxRecDepth 20000 in
theorem t_X6_knows_31 {X : Cx} (o : Ok X RX6 cX6_knows 3 2 45 0 0 (some .int)) (f : Nat)  (y0 : Int32) (h : Hp) : Sim X (z_Zi X 0 0) 0 0 31 [] [.int y0] h (b_X6_knows_31 f y0 h) := by
  unfold b_X6_knows_31
  exact s_iret o dX6_knows_31
set_option maxRecDepth 20000 in
theorem t_X6_knows_28 {X : Cx} (o : Ok X RX6 cX6_knows 3 2 45 0 0 (some .int)) (f : Nat)   (h : Hp) : Sim X (z_Zi X 0 0) 0 0 28 [] [] h (b_X6_knows_28 f h) := by
  unfold b_X6_knows_28
  refine s_ldcw o kc_X6_266 dX6_knows_28 (q := 31) rfl ?_
  exact s_sub [] rfl (t_X6_knows_31 o f (-1000001 : Int32) h)
set_option maxRecDepth 20000 in
theorem t_X6_knows_0 {X : Cx} (o : Ok X RX6 cX6_knows 3 2 45 0 0 (some .int)) (f : Nat)  (x0 : Nat) (x1 : Int32) (x2 : Int32) (h : Hp) : Sim X (z_Zi X 0 0) 0 0 0 [(0, rf (xG X) x0), (1, .int x1), (2, .int x2)] [] h (f_X6_knows f x0 x1 x2 h) := by
  unfold f_X6_knows
  refine s_iload_n o 1 rfl dX6_knows_0 (q := 1) rfl ?_
  refine s_bi (fun r0 hr0 => runS o cs_X6_267 (c_X6_isBand (xG X) f x1 h (xl X) r0 hr0) ⟨Nat.le_of_ble_eq_true rfl, Nat.le_of_ble_eq_true rfl⟩ rfl rfl (Nat.le_of_ble_eq_true rfl) dX6_knows_1 ⟨Nat.le_of_ble_eq_true rfl, Nat.le_of_ble_eq_true rfl⟩) (q := 4) rfl (cs' := 0) rfl (sl' := 0) rfl (fun v2_ h1_ => ?_)
  refine s_if_eq o (tgt := 28) dX6_knows_4 (by decide) (q := 7) rfl ?_ ?_
  · exact s_sub [] rfl (t_X6_knows_28 o f h1_)
  · refine s_iload_n o 2 rfl dX6_knows_7 (q := 8) rfl ?_
    refine s_bi (fun r0 hr0 => runS o cs_X6_267 (c_X6_isBand (xG X) f x2 h1_ (xl X) r0 hr0) ⟨Nat.le_of_ble_eq_true rfl, Nat.le_of_ble_eq_true rfl⟩ rfl rfl (Nat.le_of_ble_eq_true rfl) dX6_knows_8 ⟨Nat.le_of_ble_eq_true rfl, Nat.le_of_ble_eq_true rfl⟩) (q := 11) rfl (cs' := 0) rfl (sl' := 0) rfl (fun v4_ h3_ => ?_)
    refine s_if_eq o (tgt := 28) dX6_knows_11 (by decide) (q := 14) rfl ?_ ?_
    · exact s_sub [] rfl (t_X6_knows_28 o f h3_)
    · refine s_aload_n o 0 rfl dX6_knows_14 (q := 15) rfl ?_
      refine s_gr o kf_X6_32 dX6_knows_15 (q := 18) rfl (fun a5_ => ?_)
      refine s_bipush o dX6_knows_18 (v := (6 : Int32)) (by decide) (q := 20) rfl ?_
      refine s_iload_n o 1 rfl dX6_knows_20 (q := 21) rfl ?_
      refine s_imul o dX6_knows_21 (q := 22) rfl ?_
      refine s_iload_n o 2 rfl dX6_knows_22 (q := 23) rfl ?_
      refine s_iadd o dX6_knows_23 (q := 24) rfl ?_
      refine s_iald o dX6_knows_24 (q := 25) rfl (fun v6_ => ?_)
      refine s_goto o (tgt := 31) dX6_knows_25 (by decide) ?_
      exact s_sub [] rfl (t_X6_knows_31 o f v6_ h3_)
theorem c_X6_knows (G : Gx) (f : Nat) (x0 : Nat) (x1 : Int32) (x2 : Int32) (h : Hp) : z_M z_qi G yX6_knows cX6_knows 3 (some .int) 2 45 0 0 [rf G x0, .int x1, .int x2] h (f_X6_knows f x0 x1 x2 h) :=
  z_met (by decide +kernel) (Nat.le_of_ble_eq_true rfl) (fun X hG hn o hnm => by
    subst hG
    show Sim X (z_Zi X 0 0) 0 0 0 [(0, rf (xG X) x0), (1, .int x1), (2, .int x2)] [] h _
    exact s_sub [0, 1, 2] rfl (t_X6_knows_0 o f x0 x1 x2 h))
/-! SixMapsModel.leads(II)I -/
def b_X6_leads_39 (f : Nat) (k39 : Nat → Int32 → Int32 → Int32 → Hp → Option (Int32 × Hp)) (x0 : Nat) (x1 : Int32) (x2 : Int32) (x3 : Int32) (h : Hp) : Option (Int32 × Hp) :=
  (q_gi h x0 6 0).bind fun v1_ =>
  if v1_ ≤ x3 then
  (q_on h x0 6 (
  (f_X6_findArea f x0 h).bind fun h3_ =>
  (q_gr h3_ x0 6 43).bind fun a4_ =>
  (q_ai h3_ a4_ 9 x2).bind fun v5_ =>
  some (v5_, h3_)))
  else
  ((q_gr h x0 6 41).bind fun a6_ =>
  (q_as h a6_ 10 x3 (vp_nar .boolean (1 : Int32))).bind fun h7_ =>
  (q_gr h7_ x0 6 3).bind fun a8_ =>
  (q_ai h7_ a8_ 9 (((9 : Int32) * x1) + x3)).bind fun v9_ =>
  (q_gr h7_ x0 6 4).bind fun a10_ =>
  (q_ai h7_ a10_ 9 (((9 : Int32) * x1) + x3)).bind fun v11_ =>
  q_on h7_ x0 6 (
  (f_X6_narrow f x0 x3 v9_ v11_ h7_).bind fun h13_ =>
  lt (x3 + (1 : Int32)) fun v14_ =>
  k39 x0 x1 x2 v14_ h13_))
def l_X6_leads_39 (f : Nat)  : Nat → Nat → Int32 → Int32 → Int32 → Hp → Option (Int32 × Hp)
  | 0, _, _, _, _, _ => none
  | n + 1, x0, x1, x2, x3, h => b_X6_leads_39 f  (l_X6_leads_39 f  n) x0 x1 x2 x3 h
def f_X6_leads (f : Nat)  (x0 : Nat) (x1 : Int32) (x2 : Int32) (h : Hp) : Option (Int32 × Hp) :=
  bi (f_X6_isBand f x1 h) fun v2_ h1_ =>
  if ¬ v2_ = 0 then
  (bi (f_X6_in f x2.toInt64 (0 : Int64) (3 : Int64) h1_) fun v4_ h3_ =>
  if ¬ v4_ = 0 then
  ((q_gi h3_ x0 6 0).bind fun v5_ =>
  if ¬ v5_ = 0 then
  (l_X6_leads_39 f f x0 x1 x2 (0 : Int32) h3_)
  else
  (some ((-1000003 : Int32), h3_)))
  else
  (some ((-1000002 : Int32), h3_)))
  else
  (some ((-1000001 : Int32), h1_))
set_option maxRecDepth 20000 in
theorem t_X6_leads_39 {X : Cx} (o : Ok X RX6 cX6_leads 4 2 45 0 0 (some .int)) (f : Nat) {k39 : Nat → Int32 → Int32 → Int32 → Hp → Option (Int32 × Hp)} (hk39 : ∀ (x0 : Nat) (x1 : Int32) (x2 : Int32) (x3 : Int32) (h : Hp), Sim X (z_Zi X 0 0) 0 0 39 [(0, rf (xG X) x0), (1, .int x1), (2, .int x2), (3, .int x3)] [] h (k39 x0 x1 x2 x3 h)) (x0 : Nat) (x1 : Int32) (x2 : Int32) (x3 : Int32) (h : Hp) : Sim X (z_Zi X 0 0) 0 0 39 [(0, rf (xG X) x0), (1, .int x1), (2, .int x2), (3, .int x3)] [] h (b_X6_leads_39 f k39 x0 x1 x2 x3 h) := by
  unfold b_X6_leads_39
  refine s_iload_n o 3 rfl dX6_leads_39 (q := 40) rfl ?_
  refine s_aload_n o 0 rfl dX6_leads_40 (q := 41) rfl ?_
  refine s_gi o kf_X6_111 dX6_leads_41 (q := 44) rfl (fun v1_ => ?_)
  refine s_ic_ge o (tgt := 87) dX6_leads_44 (by decide) (q := 47) rfl ?_ ?_
  · refine s_aload_n o 0 rfl dX6_leads_87 (q := 88) rfl ?_
    refine s_on (fun hk2_ => ?_)
    refine s_callv (fun r0 hr0 => runV o hk2_ cv_X6_318 (c_X6_findArea (xG X) f x0 h (xl X) r0 hr0) ⟨Nat.le_of_ble_eq_true rfl, Nat.le_of_ble_eq_true rfl⟩ rfl rfl (Nat.le_of_ble_eq_true rfl) dX6_leads_88 ⟨Nat.le_of_ble_eq_true rfl, Nat.le_of_ble_eq_true rfl⟩) (q := 91) rfl (cs' := 0) rfl (sl' := 0) rfl (fun h3_ => ?_)
    refine s_aload_n o 0 rfl dX6_leads_91 (q := 92) rfl ?_
    refine s_gr o kf_X6_78 dX6_leads_92 (q := 95) rfl (fun a4_ => ?_)
    refine s_iload_n o 2 rfl dX6_leads_95 (q := 96) rfl ?_
    refine s_iald o dX6_leads_96 (q := 97) rfl (fun v5_ => ?_)
    exact s_iret o dX6_leads_97
  · refine s_aload_n o 0 rfl dX6_leads_47 (q := 48) rfl ?_
    refine s_gr o kf_X6_72 dX6_leads_48 (q := 51) rfl (fun a6_ => ?_)
    refine s_iload_n o 3 rfl dX6_leads_51 (q := 52) rfl ?_
    refine s_iconst o dX6_leads_52 (v := (1 : Int32)) (by decide) (q := 53) rfl ?_
    refine s_zast o dX6_leads_53 (q := 54) rfl (fun h7_ => ?_)
    refine s_aload_n o 0 rfl dX6_leads_54 (q := 55) rfl ?_
    refine s_iload_n o 3 rfl dX6_leads_55 (q := 56) rfl ?_
    refine s_aload_n o 0 rfl dX6_leads_56 (q := 57) rfl ?_
    refine s_gr o kf_X6_16 dX6_leads_57 (q := 60) rfl (fun a8_ => ?_)
    refine s_bipush o dX6_leads_60 (v := (9 : Int32)) (by decide) (q := 62) rfl ?_
    refine s_iload_n o 1 rfl dX6_leads_62 (q := 63) rfl ?_
    refine s_imul o dX6_leads_63 (q := 64) rfl ?_
    refine s_iload_n o 3 rfl dX6_leads_64 (q := 65) rfl ?_
    refine s_iadd o dX6_leads_65 (q := 66) rfl ?_
    refine s_iald o dX6_leads_66 (q := 67) rfl (fun v9_ => ?_)
    refine s_aload_n o 0 rfl dX6_leads_67 (q := 68) rfl ?_
    refine s_gr o kf_X6_19 dX6_leads_68 (q := 71) rfl (fun a10_ => ?_)
    refine s_bipush o dX6_leads_71 (v := (9 : Int32)) (by decide) (q := 73) rfl ?_
    refine s_iload_n o 1 rfl dX6_leads_73 (q := 74) rfl ?_
    refine s_imul o dX6_leads_74 (q := 75) rfl ?_
    refine s_iload_n o 3 rfl dX6_leads_75 (q := 76) rfl ?_
    refine s_iadd o dX6_leads_76 (q := 77) rfl ?_
    refine s_iald o dX6_leads_77 (q := 78) rfl (fun v11_ => ?_)
    refine s_on (fun hk12_ => ?_)
    refine s_callv (fun r0 hr0 => runV o hk12_ cv_X6_270 (c_X6_narrow (xG X) f x0 x3 v9_ v11_ h7_ (xl X) r0 hr0) ⟨Nat.le_of_ble_eq_true rfl, Nat.le_of_ble_eq_true rfl⟩ rfl rfl (Nat.le_of_ble_eq_true rfl) dX6_leads_78 ⟨Nat.le_of_ble_eq_true rfl, Nat.le_of_ble_eq_true rfl⟩) (q := 81) rfl (cs' := 0) rfl (sl' := 0) rfl (fun h13_ => ?_)
    refine s_iinc o 3 rfl (v := (1 : Int32)) (by decide) [1, 2, 3, 0] (lv' := fun v14_ => [(0, rf (xG X) x0), (1, .int x1), (2, .int x2), (3, .int v14_)]) (fun _ => rfl) dX6_leads_81 (by decide) (q := 84) rfl (fun v14_ => ?_)
    refine s_goto o (tgt := 39) dX6_leads_84 (by decide) ?_
    exact s_sub [0, 1, 2, 3] rfl (hk39 x0 x1 x2 v14_ h13_)
theorem tl_X6_leads_39 {X : Cx} (o : Ok X RX6 cX6_leads 4 2 45 0 0 (some .int)) (f : Nat)  : ∀ (n : Nat) (x0 : Nat) (x1 : Int32) (x2 : Int32) (x3 : Int32) (h : Hp), Sim X (z_Zi X 0 0) 0 0 39 [(0, rf (xG X) x0), (1, .int x1), (2, .int x2), (3, .int x3)] [] h (l_X6_leads_39 f n x0 x1 x2 x3 h) := by
  intro n
  induction n with
  | zero => intro x0 x1 x2 x3 h; exact s_none
  | succ n ih => intro x0 x1 x2 x3 h; exact t_X6_leads_39 o f  ih x0 x1 x2 x3 h
set_option maxRecDepth 20000 in
theorem t_X6_leads_0 {X : Cx} (o : Ok X RX6 cX6_leads 4 2 45 0 0 (some .int)) (f : Nat)  (x0 : Nat) (x1 : Int32) (x2 : Int32) (h : Hp) : Sim X (z_Zi X 0 0) 0 0 0 [(0, rf (xG X) x0), (1, .int x1), (2, .int x2)] [] h (f_X6_leads f x0 x1 x2 h) := by
  unfold f_X6_leads
  refine s_iload_n o 1 rfl dX6_leads_0 (q := 1) rfl ?_
  refine s_bi (fun r0 hr0 => runS o cs_X6_267 (c_X6_isBand (xG X) f x1 h (xl X) r0 hr0) ⟨Nat.le_of_ble_eq_true rfl, Nat.le_of_ble_eq_true rfl⟩ rfl rfl (Nat.le_of_ble_eq_true rfl) dX6_leads_1 ⟨Nat.le_of_ble_eq_true rfl, Nat.le_of_ble_eq_true rfl⟩) (q := 4) rfl (cs' := 0) rfl (sl' := 0) rfl (fun v2_ h1_ => ?_)
  refine s_if_ne o (tgt := 11) dX6_leads_4 (by decide) (q := 7) rfl ?_ ?_
  · refine s_iload_n o 2 rfl dX6_leads_11 (q := 12) rfl ?_
    refine s_i2l o dX6_leads_12 (q := 13) rfl ?_
    refine s_lconst o dX6_leads_13 (v := (0 : Int64)) (by decide) (q := 14) rfl ?_
    refine s_ldc2 o kl_X6_315 dX6_leads_14 (q := 17) rfl ?_
    refine s_bi (fun r0 hr0 => runS o cs_X6_114 (c_X6_in (xG X) f x2.toInt64 (0 : Int64) (3 : Int64) h1_ (xl X) r0 hr0) ⟨Nat.le_of_ble_eq_true rfl, Nat.le_of_ble_eq_true rfl⟩ rfl rfl (Nat.le_of_ble_eq_true rfl) dX6_leads_17 ⟨Nat.le_of_ble_eq_true rfl, Nat.le_of_ble_eq_true rfl⟩) (q := 20) rfl (cs' := 0) rfl (sl' := 0) rfl (fun v4_ h3_ => ?_)
    refine s_if_ne o (tgt := 26) dX6_leads_20 (by decide) (q := 23) rfl ?_ ?_
    · refine s_aload_n o 0 rfl dX6_leads_26 (q := 27) rfl ?_
      refine s_gi o kf_X6_111 dX6_leads_27 (q := 30) rfl (fun v5_ => ?_)
      refine s_if_ne o (tgt := 37) dX6_leads_30 (by decide) (q := 33) rfl ?_ ?_
      · refine s_iconst o dX6_leads_37 (v := (0 : Int32)) (by decide) (q := 38) rfl ?_
        refine s_istore_n o [1, 2, 3, 0] (lv' := [(0, rf (xG X) x0), (1, .int x1), (2, .int x2), (3, .int (0 : Int32))]) rfl dX6_leads_38 (by decide) (q := 39) rfl ?_
        exact s_sub [0, 1, 2, 3] rfl (tl_X6_leads_39 o f f x0 x1 x2 (0 : Int32) h3_)
      · refine s_ldcw o kc_X6_317 dX6_leads_33 (q := 36) rfl ?_
        exact s_iret o dX6_leads_36
    · refine s_ldc o kc_X6_125 dX6_leads_23 (q := 25) rfl ?_
      exact s_iret o dX6_leads_25
  · refine s_ldcw o kc_X6_266 dX6_leads_7 (q := 10) rfl ?_
    exact s_iret o dX6_leads_10
theorem c_X6_leads (G : Gx) (f : Nat) (x0 : Nat) (x1 : Int32) (x2 : Int32) (h : Hp) : z_M z_qi G yX6_leads cX6_leads 4 (some .int) 2 45 0 0 [rf G x0, .int x1, .int x2] h (f_X6_leads f x0 x1 x2 h) :=
  z_met (by decide +kernel) (Nat.le_of_ble_eq_true rfl) (fun X hG hn o hnm => by
    subst hG
    show Sim X (z_Zi X 0 0) 0 0 0 [(0, rf (xG X) x0), (1, .int x1), (2, .int x2)] [] h _
    exact s_sub [0, 1, 2] rfl (t_X6_leads_0 o f x0 x1 x2 h))
/-! SixMapsModel.loudest()I -/
def b_X6_loudest_87 (f : Nat) (k6 : Nat → Int32 → Int32 → Int32 → Hp → Option (Int32 × Hp)) (x0 : Nat) (x1 : Int32) (x3 : Int32) (y0 : Int32) (h : Hp) : Option (Int32 × Hp) :=
  lt (x3 + (1 : Int32)) fun v1_ =>
  k6 x0 x1 y0 v1_ h
def b_X6_loudest_74 (f : Nat) (k6 : Nat → Int32 → Int32 → Int32 → Hp → Option (Int32 × Hp)) (x0 : Nat) (x2 : Int32) (x3 : Int32) (x4 : Int32) (y0 : Int32) (h : Hp) : Option (Int32 × Hp) :=
  if x4 ≤ x2 then
  (b_X6_loudest_87 f k6 x0 y0 x3 x2 h)
  else
  (b_X6_loudest_87 f k6 x0 y0 x3 x4 h)
def b_X6_loudest_54 (f : Nat) (k6 : Nat → Int32 → Int32 → Int32 → Hp → Option (Int32 × Hp)) (k18 : Nat → Int32 → Int32 → Int32 → Int32 → Int32 → Hp → Option (Int32 × Hp)) (x0 : Nat) (x1 : Int32) (x2 : Int32) (x3 : Int32) (x5 : Int32) (y0 : Int32) (y1 : Int32) (h : Hp) : Option (Int32 × Hp) :=
  lt (y0 + y1) fun v1_ =>
  lt (x5 + (1 : Int32)) fun v2_ =>
  k18 x0 x1 x2 x3 v1_ v2_ h
def b_X6_loudest_53 (f : Nat) (k6 : Nat → Int32 → Int32 → Int32 → Hp → Option (Int32 × Hp)) (k18 : Nat → Int32 → Int32 → Int32 → Int32 → Int32 → Hp → Option (Int32 × Hp)) (x0 : Nat) (x1 : Int32) (x2 : Int32) (x3 : Int32) (x5 : Int32) (y0 : Int32) (h : Hp) : Option (Int32 × Hp) :=
  b_X6_loudest_54 f k6 k18 x0 x1 x2 x3 x5 y0 (0 : Int32) h
def b_X6_loudest_18 (f : Nat) (k6 : Nat → Int32 → Int32 → Int32 → Hp → Option (Int32 × Hp)) (k18 : Nat → Int32 → Int32 → Int32 → Int32 → Int32 → Hp → Option (Int32 × Hp)) (x0 : Nat) (x1 : Int32) (x2 : Int32) (x3 : Int32) (x4 : Int32) (x5 : Int32) (h : Hp) : Option (Int32 × Hp) :=
  (q_gi h x0 6 50).bind fun v1_ =>
  if v1_ ≤ x5 then
  (if x4 ≤ x2 then
  (b_X6_loudest_74 f k6 x0 x2 x3 x4 x1 h)
  else
  (b_X6_loudest_74 f k6 x0 x2 x3 x4 x3 h))
  else
  ((q_gr h x0 6 51).bind fun a2_ =>
  (q_ai h a2_ 9 x5).bind fun v3_ =>
  if ¬ v3_ = x3 then
  (b_X6_loudest_53 f k6 k18 x0 x1 x2 x3 x5 x4 h)
  else
  (q_on h x0 6 (
  bi (f_X6_isTrue f x0 x5 h) fun v6_ h5_ =>
  if ¬ v6_ = 0 then
  (b_X6_loudest_53 f k6 k18 x0 x1 x2 x3 x5 x4 h5_)
  else
  (b_X6_loudest_54 f k6 k18 x0 x1 x2 x3 x5 x4 (1 : Int32) h5_))))
def l_X6_loudest_18 (f : Nat) (k6 : Nat → Int32 → Int32 → Int32 → Hp → Option (Int32 × Hp)) : Nat → Nat → Int32 → Int32 → Int32 → Int32 → Int32 → Hp → Option (Int32 × Hp)
  | 0, _, _, _, _, _, _, _ => none
  | n + 1, x0, x1, x2, x3, x4, x5, h => b_X6_loudest_18 f k6 (l_X6_loudest_18 f k6 n) x0 x1 x2 x3 x4 x5 h
def b_X6_loudest_6 (f : Nat) (k6 : Nat → Int32 → Int32 → Int32 → Hp → Option (Int32 × Hp)) (x0 : Nat) (x1 : Int32) (x2 : Int32) (x3 : Int32) (h : Hp) : Option (Int32 × Hp) :=
  if (6 : Int32) ≤ x3 then
  (some (x1, h))
  else
  (l_X6_loudest_18 f k6 f x0 x1 x2 x3 (0 : Int32) (0 : Int32) h)
def l_X6_loudest_6 (f : Nat)  : Nat → Nat → Int32 → Int32 → Int32 → Hp → Option (Int32 × Hp)
  | 0, _, _, _, _, _ => none
  | n + 1, x0, x1, x2, x3, h => b_X6_loudest_6 f  (l_X6_loudest_6 f  n) x0 x1 x2 x3 h
def f_X6_loudest (f : Nat)  (x0 : Nat) (h : Hp) : Option (Int32 × Hp) :=
  l_X6_loudest_6 f f x0 (-1 : Int32) (0 : Int32) (0 : Int32) h
set_option maxRecDepth 20000 in
theorem t_X6_loudest_87 {X : Cx} (o : Ok X RX6 cX6_loudest 6 2 42 0 0 (some .int)) (f : Nat) {k6 : Nat → Int32 → Int32 → Int32 → Hp → Option (Int32 × Hp)} (hk6 : ∀ (x0 : Nat) (x1 : Int32) (x2 : Int32) (x3 : Int32) (h : Hp), Sim X (z_Zi X 0 0) 0 0 6 [(0, rf (xG X) x0), (1, .int x1), (2, .int x2), (3, .int x3)] [] h (k6 x0 x1 x2 x3 h)) (x0 : Nat) (x1 : Int32) (x3 : Int32) (y0 : Int32) (h : Hp) : Sim X (z_Zi X 0 0) 0 0 87 [(0, rf (xG X) x0), (1, .int x1), (3, .int x3)] [.int y0] h (b_X6_loudest_87 f k6 x0 x1 x3 y0 h) := by
  unfold b_X6_loudest_87
  refine s_istore_n o [1, 2, 0, 3] (lv' := [(0, rf (xG X) x0), (1, .int x1), (2, .int y0), (3, .int x3)]) rfl dX6_loudest_87 (by decide) (q := 88) rfl ?_
  refine s_iinc o 3 rfl (v := (1 : Int32)) (by decide) [1, 2, 3, 0] (lv' := fun v1_ => [(0, rf (xG X) x0), (1, .int x1), (2, .int y0), (3, .int v1_)]) (fun _ => rfl) dX6_loudest_88 (by decide) (q := 91) rfl (fun v1_ => ?_)
  refine s_goto o (tgt := 6) dX6_loudest_91 (by decide) ?_
  exact s_sub [0, 1, 2, 3] rfl (hk6 x0 x1 y0 v1_ h)
set_option maxRecDepth 20000 in
theorem t_X6_loudest_74 {X : Cx} (o : Ok X RX6 cX6_loudest 6 2 42 0 0 (some .int)) (f : Nat) {k6 : Nat → Int32 → Int32 → Int32 → Hp → Option (Int32 × Hp)} (hk6 : ∀ (x0 : Nat) (x1 : Int32) (x2 : Int32) (x3 : Int32) (h : Hp), Sim X (z_Zi X 0 0) 0 0 6 [(0, rf (xG X) x0), (1, .int x1), (2, .int x2), (3, .int x3)] [] h (k6 x0 x1 x2 x3 h)) (x0 : Nat) (x2 : Int32) (x3 : Int32) (x4 : Int32) (y0 : Int32) (h : Hp) : Sim X (z_Zi X 0 0) 0 0 74 [(0, rf (xG X) x0), (2, .int x2), (3, .int x3), (4, .int x4)] [.int y0] h (b_X6_loudest_74 f k6 x0 x2 x3 x4 y0 h) := by
  unfold b_X6_loudest_74
  refine s_istore_n o [1, 0, 2, 3, 4] (lv' := [(0, rf (xG X) x0), (1, .int y0), (2, .int x2), (3, .int x3), (4, .int x4)]) rfl dX6_loudest_74 (by decide) (q := 75) rfl ?_
  refine s_iload o 4 rfl dX6_loudest_75 (q := 77) rfl ?_
  refine s_iload_n o 2 rfl dX6_loudest_77 (q := 78) rfl ?_
  refine s_ic_le o (tgt := 86) dX6_loudest_78 (by decide) (q := 81) rfl ?_ ?_
  · refine s_iload_n o 2 rfl dX6_loudest_86 (q := 87) rfl ?_
    exact s_sub [0, 1, 3] rfl (t_X6_loudest_87 o f hk6 x0 y0 x3 x2 h)
  · refine s_iload o 4 rfl dX6_loudest_81 (q := 83) rfl ?_
    refine s_goto o (tgt := 87) dX6_loudest_83 (by decide) ?_
    exact s_sub [0, 1, 3] rfl (t_X6_loudest_87 o f hk6 x0 y0 x3 x4 h)
set_option maxRecDepth 20000 in
theorem t_X6_loudest_54 {X : Cx} (o : Ok X RX6 cX6_loudest 6 2 42 0 0 (some .int)) (f : Nat) {k6 : Nat → Int32 → Int32 → Int32 → Hp → Option (Int32 × Hp)} (hk6 : ∀ (x0 : Nat) (x1 : Int32) (x2 : Int32) (x3 : Int32) (h : Hp), Sim X (z_Zi X 0 0) 0 0 6 [(0, rf (xG X) x0), (1, .int x1), (2, .int x2), (3, .int x3)] [] h (k6 x0 x1 x2 x3 h)) {k18 : Nat → Int32 → Int32 → Int32 → Int32 → Int32 → Hp → Option (Int32 × Hp)} (hk18 : ∀ (x0 : Nat) (x1 : Int32) (x2 : Int32) (x3 : Int32) (x4 : Int32) (x5 : Int32) (h : Hp), Sim X (z_Zi X 0 0) 0 0 18 [(0, rf (xG X) x0), (1, .int x1), (2, .int x2), (3, .int x3), (4, .int x4), (5, .int x5)] [] h (k18 x0 x1 x2 x3 x4 x5 h)) (x0 : Nat) (x1 : Int32) (x2 : Int32) (x3 : Int32) (x5 : Int32) (y0 : Int32) (y1 : Int32) (h : Hp) : Sim X (z_Zi X 0 0) 0 0 54 [(0, rf (xG X) x0), (1, .int x1), (2, .int x2), (3, .int x3), (5, .int x5)] [.int y1, .int y0] h (b_X6_loudest_54 f k6 k18 x0 x1 x2 x3 x5 y0 y1 h) := by
  unfold b_X6_loudest_54
  refine s_iadd o dX6_loudest_54 (q := 55) rfl ?_
  refine s_let (fun v1_ => ?_)
  refine s_istore o [1, 2, 3, 4, 0, 5] (lv' := [(0, rf (xG X) x0), (1, .int x1), (2, .int x2), (3, .int x3), (4, .int v1_), (5, .int x5)]) rfl dX6_loudest_55 (by decide) (q := 57) rfl ?_
  refine s_iinc o 5 rfl (v := (1 : Int32)) (by decide) [1, 2, 3, 4, 5, 0] (lv' := fun v2_ => [(0, rf (xG X) x0), (1, .int x1), (2, .int x2), (3, .int x3), (4, .int v1_), (5, .int v2_)]) (fun _ => rfl) dX6_loudest_57 (by decide) (q := 60) rfl (fun v2_ => ?_)
  refine s_goto o (tgt := 18) dX6_loudest_60 (by decide) ?_
  exact s_sub [0, 1, 2, 3, 4, 5] rfl (hk18 x0 x1 x2 x3 v1_ v2_ h)
set_option maxRecDepth 20000 in
theorem t_X6_loudest_53 {X : Cx} (o : Ok X RX6 cX6_loudest 6 2 42 0 0 (some .int)) (f : Nat) {k6 : Nat → Int32 → Int32 → Int32 → Hp → Option (Int32 × Hp)} (hk6 : ∀ (x0 : Nat) (x1 : Int32) (x2 : Int32) (x3 : Int32) (h : Hp), Sim X (z_Zi X 0 0) 0 0 6 [(0, rf (xG X) x0), (1, .int x1), (2, .int x2), (3, .int x3)] [] h (k6 x0 x1 x2 x3 h)) {k18 : Nat → Int32 → Int32 → Int32 → Int32 → Int32 → Hp → Option (Int32 × Hp)} (hk18 : ∀ (x0 : Nat) (x1 : Int32) (x2 : Int32) (x3 : Int32) (x4 : Int32) (x5 : Int32) (h : Hp), Sim X (z_Zi X 0 0) 0 0 18 [(0, rf (xG X) x0), (1, .int x1), (2, .int x2), (3, .int x3), (4, .int x4), (5, .int x5)] [] h (k18 x0 x1 x2 x3 x4 x5 h)) (x0 : Nat) (x1 : Int32) (x2 : Int32) (x3 : Int32) (x5 : Int32) (y0 : Int32) (h : Hp) : Sim X (z_Zi X 0 0) 0 0 53 [(0, rf (xG X) x0), (1, .int x1), (2, .int x2), (3, .int x3), (5, .int x5)] [.int y0] h (b_X6_loudest_53 f k6 k18 x0 x1 x2 x3 x5 y0 h) := by
  unfold b_X6_loudest_53
  refine s_iconst o dX6_loudest_53 (v := (0 : Int32)) (by decide) (q := 54) rfl ?_
  exact s_sub [0, 1, 2, 3, 4] rfl (t_X6_loudest_54 o f hk6 hk18 x0 x1 x2 x3 x5 y0 (0 : Int32) h)
set_option maxRecDepth 20000 in
theorem t_X6_loudest_18 {X : Cx} (o : Ok X RX6 cX6_loudest 6 2 42 0 0 (some .int)) (f : Nat) {k6 : Nat → Int32 → Int32 → Int32 → Hp → Option (Int32 × Hp)} (hk6 : ∀ (x0 : Nat) (x1 : Int32) (x2 : Int32) (x3 : Int32) (h : Hp), Sim X (z_Zi X 0 0) 0 0 6 [(0, rf (xG X) x0), (1, .int x1), (2, .int x2), (3, .int x3)] [] h (k6 x0 x1 x2 x3 h)) {k18 : Nat → Int32 → Int32 → Int32 → Int32 → Int32 → Hp → Option (Int32 × Hp)} (hk18 : ∀ (x0 : Nat) (x1 : Int32) (x2 : Int32) (x3 : Int32) (x4 : Int32) (x5 : Int32) (h : Hp), Sim X (z_Zi X 0 0) 0 0 18 [(0, rf (xG X) x0), (1, .int x1), (2, .int x2), (3, .int x3), (4, .int x4), (5, .int x5)] [] h (k18 x0 x1 x2 x3 x4 x5 h)) (x0 : Nat) (x1 : Int32) (x2 : Int32) (x3 : Int32) (x4 : Int32) (x5 : Int32) (h : Hp) : Sim X (z_Zi X 0 0) 0 0 18 [(0, rf (xG X) x0), (1, .int x1), (2, .int x2), (3, .int x3), (4, .int x4), (5, .int x5)] [] h (b_X6_loudest_18 f k6 k18 x0 x1 x2 x3 x4 x5 h) := by
  unfold b_X6_loudest_18
  refine s_iload o 5 rfl dX6_loudest_18 (q := 20) rfl ?_
  refine s_aload_n o 0 rfl dX6_loudest_20 (q := 21) rfl ?_
  refine s_gi o kf_X6_259 dX6_loudest_21 (q := 24) rfl (fun v1_ => ?_)
  refine s_ic_ge o (tgt := 63) dX6_loudest_24 (by decide) (q := 27) rfl ?_ ?_
  · refine s_iload o 4 rfl dX6_loudest_63 (q := 65) rfl ?_
    refine s_iload_n o 2 rfl dX6_loudest_65 (q := 66) rfl ?_
    refine s_ic_le o (tgt := 73) dX6_loudest_66 (by decide) (q := 69) rfl ?_ ?_
    · refine s_iload_n o 1 rfl dX6_loudest_73 (q := 74) rfl ?_
      exact s_sub [0, 2, 3, 4] rfl (t_X6_loudest_74 o f hk6 x0 x2 x3 x4 x1 h)
    · refine s_iload_n o 3 rfl dX6_loudest_69 (q := 70) rfl ?_
      refine s_goto o (tgt := 74) dX6_loudest_70 (by decide) ?_
      exact s_sub [0, 2, 3, 4] rfl (t_X6_loudest_74 o f hk6 x0 x2 x3 x4 x3 h)
  · refine s_iload o 4 rfl dX6_loudest_27 (q := 29) rfl ?_
    refine s_aload_n o 0 rfl dX6_loudest_29 (q := 30) rfl ?_
    refine s_gr o kf_X6_93 dX6_loudest_30 (q := 33) rfl (fun a2_ => ?_)
    refine s_iload o 5 rfl dX6_loudest_33 (q := 35) rfl ?_
    refine s_iald o dX6_loudest_35 (q := 36) rfl (fun v3_ => ?_)
    refine s_iload_n o 3 rfl dX6_loudest_36 (q := 37) rfl ?_
    refine s_ic_ne o (tgt := 53) dX6_loudest_37 (by decide) (q := 40) rfl ?_ ?_
    · exact s_sub [0, 1, 2, 3, 5] rfl (t_X6_loudest_53 o f hk6 hk18 x0 x1 x2 x3 x5 x4 h)
    · refine s_aload_n o 0 rfl dX6_loudest_40 (q := 41) rfl ?_
      refine s_iload o 5 rfl dX6_loudest_41 (q := 43) rfl ?_
      refine s_on (fun hk4_ => ?_)
      refine s_bi (fun r0 hr0 => runV o hk4_ cv_X6_359 (c_X6_isTrue (xG X) f x0 x5 h (xl X) r0 hr0) ⟨Nat.le_of_ble_eq_true rfl, Nat.le_of_ble_eq_true rfl⟩ rfl rfl (Nat.le_of_ble_eq_true rfl) dX6_loudest_43 ⟨Nat.le_of_ble_eq_true rfl, Nat.le_of_ble_eq_true rfl⟩) (q := 46) rfl (cs' := 0) rfl (sl' := 0) rfl (fun v6_ h5_ => ?_)
      refine s_if_ne o (tgt := 53) dX6_loudest_46 (by decide) (q := 49) rfl ?_ ?_
      · exact s_sub [0, 1, 2, 3, 5] rfl (t_X6_loudest_53 o f hk6 hk18 x0 x1 x2 x3 x5 x4 h5_)
      · refine s_iconst o dX6_loudest_49 (v := (1 : Int32)) (by decide) (q := 50) rfl ?_
        refine s_goto o (tgt := 54) dX6_loudest_50 (by decide) ?_
        exact s_sub [0, 1, 2, 3, 5] rfl (t_X6_loudest_54 o f hk6 hk18 x0 x1 x2 x3 x5 x4 (1 : Int32) h5_)
theorem tl_X6_loudest_18 {X : Cx} (o : Ok X RX6 cX6_loudest 6 2 42 0 0 (some .int)) (f : Nat) {k6 : Nat → Int32 → Int32 → Int32 → Hp → Option (Int32 × Hp)} (hk6 : ∀ (x0 : Nat) (x1 : Int32) (x2 : Int32) (x3 : Int32) (h : Hp), Sim X (z_Zi X 0 0) 0 0 6 [(0, rf (xG X) x0), (1, .int x1), (2, .int x2), (3, .int x3)] [] h (k6 x0 x1 x2 x3 h)) : ∀ (n : Nat) (x0 : Nat) (x1 : Int32) (x2 : Int32) (x3 : Int32) (x4 : Int32) (x5 : Int32) (h : Hp), Sim X (z_Zi X 0 0) 0 0 18 [(0, rf (xG X) x0), (1, .int x1), (2, .int x2), (3, .int x3), (4, .int x4), (5, .int x5)] [] h (l_X6_loudest_18 f k6 n x0 x1 x2 x3 x4 x5 h) := by
  intro n
  induction n with
  | zero => intro x0 x1 x2 x3 x4 x5 h; exact s_none
  | succ n ih => intro x0 x1 x2 x3 x4 x5 h; exact t_X6_loudest_18 o f hk6 ih x0 x1 x2 x3 x4 x5 h
set_option maxRecDepth 20000 in
theorem t_X6_loudest_6 {X : Cx} (o : Ok X RX6 cX6_loudest 6 2 42 0 0 (some .int)) (f : Nat) {k6 : Nat → Int32 → Int32 → Int32 → Hp → Option (Int32 × Hp)} (hk6 : ∀ (x0 : Nat) (x1 : Int32) (x2 : Int32) (x3 : Int32) (h : Hp), Sim X (z_Zi X 0 0) 0 0 6 [(0, rf (xG X) x0), (1, .int x1), (2, .int x2), (3, .int x3)] [] h (k6 x0 x1 x2 x3 h)) (x0 : Nat) (x1 : Int32) (x2 : Int32) (x3 : Int32) (h : Hp) : Sim X (z_Zi X 0 0) 0 0 6 [(0, rf (xG X) x0), (1, .int x1), (2, .int x2), (3, .int x3)] [] h (b_X6_loudest_6 f k6 x0 x1 x2 x3 h) := by
  unfold b_X6_loudest_6
  refine s_iload_n o 3 rfl dX6_loudest_6 (q := 7) rfl ?_
  refine s_bipush o dX6_loudest_7 (v := (6 : Int32)) (by decide) (q := 9) rfl ?_
  refine s_ic_ge o (tgt := 94) dX6_loudest_9 (by decide) (q := 12) rfl ?_ ?_
  · refine s_iload_n o 1 rfl dX6_loudest_94 (q := 95) rfl ?_
    exact s_iret o dX6_loudest_95
  · refine s_iconst o dX6_loudest_12 (v := (0 : Int32)) (by decide) (q := 13) rfl ?_
    refine s_istore o [1, 2, 3, 4, 0] (lv' := [(0, rf (xG X) x0), (1, .int x1), (2, .int x2), (3, .int x3), (4, .int (0 : Int32))]) rfl dX6_loudest_13 (by decide) (q := 15) rfl ?_
    refine s_iconst o dX6_loudest_15 (v := (0 : Int32)) (by decide) (q := 16) rfl ?_
    refine s_istore o [1, 2, 3, 4, 5, 0] (lv' := [(0, rf (xG X) x0), (1, .int x1), (2, .int x2), (3, .int x3), (4, .int (0 : Int32)), (5, .int (0 : Int32))]) rfl dX6_loudest_16 (by decide) (q := 18) rfl ?_
    exact s_sub [0, 1, 2, 3, 4, 5] rfl (tl_X6_loudest_18 o f hk6 f x0 x1 x2 x3 (0 : Int32) (0 : Int32) h)
theorem tl_X6_loudest_6 {X : Cx} (o : Ok X RX6 cX6_loudest 6 2 42 0 0 (some .int)) (f : Nat)  : ∀ (n : Nat) (x0 : Nat) (x1 : Int32) (x2 : Int32) (x3 : Int32) (h : Hp), Sim X (z_Zi X 0 0) 0 0 6 [(0, rf (xG X) x0), (1, .int x1), (2, .int x2), (3, .int x3)] [] h (l_X6_loudest_6 f n x0 x1 x2 x3 h) := by
  intro n
  induction n with
  | zero => intro x0 x1 x2 x3 h; exact s_none
  | succ n ih => intro x0 x1 x2 x3 h; exact t_X6_loudest_6 o f  ih x0 x1 x2 x3 h
set_option maxRecDepth 20000 in
theorem t_X6_loudest_0 {X : Cx} (o : Ok X RX6 cX6_loudest 6 2 42 0 0 (some .int)) (f : Nat)  (x0 : Nat) (h : Hp) : Sim X (z_Zi X 0 0) 0 0 0 [(0, rf (xG X) x0)] [] h (f_X6_loudest f x0 h) := by
  unfold f_X6_loudest
  refine s_iconst o dX6_loudest_0 (v := (-1 : Int32)) (by decide) (q := 1) rfl ?_
  refine s_istore_n o [1, 0] (lv' := [(0, rf (xG X) x0), (1, .int (-1 : Int32))]) rfl dX6_loudest_1 (by decide) (q := 2) rfl ?_
  refine s_iconst o dX6_loudest_2 (v := (0 : Int32)) (by decide) (q := 3) rfl ?_
  refine s_istore_n o [1, 2, 0] (lv' := [(0, rf (xG X) x0), (1, .int (-1 : Int32)), (2, .int (0 : Int32))]) rfl dX6_loudest_3 (by decide) (q := 4) rfl ?_
  refine s_iconst o dX6_loudest_4 (v := (0 : Int32)) (by decide) (q := 5) rfl ?_
  refine s_istore_n o [1, 2, 3, 0] (lv' := [(0, rf (xG X) x0), (1, .int (-1 : Int32)), (2, .int (0 : Int32)), (3, .int (0 : Int32))]) rfl dX6_loudest_5 (by decide) (q := 6) rfl ?_
  exact s_sub [0, 1, 2, 3] rfl (tl_X6_loudest_6 o f f x0 (-1 : Int32) (0 : Int32) (0 : Int32) h)
theorem c_X6_loudest (G : Gx) (f : Nat) (x0 : Nat) (h : Hp) : z_M z_qi G yX6_loudest cX6_loudest 6 (some .int) 2 42 0 0 [rf G x0] h (f_X6_loudest f x0 h) :=
  z_met (by decide +kernel) (Nat.le_of_ble_eq_true rfl) (fun X hG hn o hnm => by
    subst hG
    show Sim X (z_Zi X 0 0) 0 0 0 [(0, rf (xG X) x0)] [] h _
    exact s_sub [0] rfl (t_X6_loudest_0 o f x0 h))
/-! SixMapsModel.map(III)I -/
def b_X6_map_58 (f : Nat)  (y0 : Int32) (h : Hp) : Option (Int32 × Hp) :=
  some (y0, h)
def b_X6_map_15 (f : Nat)   (h : Hp) : Option (Int32 × Hp) :=
  some ((-1000001 : Int32), h)
def f_X6_map (f : Nat)  (x0 : Nat) (x1 : Int32) (x2 : Int32) (x3 : Int32) (h : Hp) : Option (Int32 × Hp) :=
  bi (f_X6_isBand f x1 h) fun v2_ h1_ =>
  if v2_ = 0 then
  (b_X6_map_15 f h1_)
  else
  (q_on h1_ x0 6 (
  bi (f_X6_isMark f x0 x2 h1_) fun v5_ h4_ =>
  if ¬ v5_ = 0 then
  (if ¬ x3 = 0 then
  (if ¬ x3 = (1 : Int32) then
  (b_X6_map_58 f (-1000002 : Int32) h4_)
  else
  ((q_gr h4_ x0 6 4).bind fun a6_ =>
  (q_ai h4_ a6_ 9 (((9 : Int32) * x1) + x2)).bind fun v7_ =>
  b_X6_map_58 f v7_ h4_))
  else
  ((q_gr h4_ x0 6 3).bind fun a8_ =>
  (q_ai h4_ a8_ 9 (((9 : Int32) * x1) + x2)).bind fun v9_ =>
  b_X6_map_58 f v9_ h4_))
  else
  (b_X6_map_15 f h4_)))
set_option maxRecDepth 20000 in
theorem t_X6_map_58 {X : Cx} (o : Ok X RX6 cX6_map 4 2 46 0 0 (some .int)) (f : Nat)  (y0 : Int32) (h : Hp) : Sim X (z_Zi X 0 0) 0 0 58 [] [.int y0] h (b_X6_map_58 f y0 h) := by
  unfold b_X6_map_58
  exact s_iret o dX6_map_58
set_option maxRecDepth 20000 in
theorem t_X6_map_15 {X : Cx} (o : Ok X RX6 cX6_map 4 2 46 0 0 (some .int)) (f : Nat)   (h : Hp) : Sim X (z_Zi X 0 0) 0 0 15 [] [] h (b_X6_map_15 f h) := by
  unfold b_X6_map_15
  refine s_ldcw o kc_X6_266 dX6_map_15 (q := 18) rfl ?_
  exact s_iret o dX6_map_18
set_option maxRecDepth 20000 in
theorem t_X6_map_0 {X : Cx} (o : Ok X RX6 cX6_map 4 2 46 0 0 (some .int)) (f : Nat)  (x0 : Nat) (x1 : Int32) (x2 : Int32) (x3 : Int32) (h : Hp) : Sim X (z_Zi X 0 0) 0 0 0 [(0, rf (xG X) x0), (1, .int x1), (2, .int x2), (3, .int x3)] [] h (f_X6_map f x0 x1 x2 x3 h) := by
  unfold f_X6_map
  refine s_iload_n o 1 rfl dX6_map_0 (q := 1) rfl ?_
  refine s_bi (fun r0 hr0 => runS o cs_X6_267 (c_X6_isBand (xG X) f x1 h (xl X) r0 hr0) ⟨Nat.le_of_ble_eq_true rfl, Nat.le_of_ble_eq_true rfl⟩ rfl rfl (Nat.le_of_ble_eq_true rfl) dX6_map_1 ⟨Nat.le_of_ble_eq_true rfl, Nat.le_of_ble_eq_true rfl⟩) (q := 4) rfl (cs' := 0) rfl (sl' := 0) rfl (fun v2_ h1_ => ?_)
  refine s_if_eq o (tgt := 15) dX6_map_4 (by decide) (q := 7) rfl ?_ ?_
  · exact s_sub [] rfl (t_X6_map_15 o f h1_)
  · refine s_aload_n o 0 rfl dX6_map_7 (q := 8) rfl ?_
    refine s_iload_n o 2 rfl dX6_map_8 (q := 9) rfl ?_
    refine s_on (fun hk3_ => ?_)
    refine s_bi (fun r0 hr0 => runV o hk3_ cv_X6_262 (c_X6_isMark (xG X) f x0 x2 h1_ (xl X) r0 hr0) ⟨Nat.le_of_ble_eq_true rfl, Nat.le_of_ble_eq_true rfl⟩ rfl rfl (Nat.le_of_ble_eq_true rfl) dX6_map_9 ⟨Nat.le_of_ble_eq_true rfl, Nat.le_of_ble_eq_true rfl⟩) (q := 12) rfl (cs' := 0) rfl (sl' := 0) rfl (fun v5_ h4_ => ?_)
    refine s_if_ne o (tgt := 19) dX6_map_12 (by decide) (q := 15) rfl ?_ ?_
    · refine s_iload_n o 3 rfl dX6_map_19 (q := 20) rfl ?_
      refine s_if_ne o (tgt := 37) dX6_map_20 (by decide) (q := 23) rfl ?_ ?_
      · refine s_iload_n o 3 rfl dX6_map_37 (q := 38) rfl ?_
        refine s_iconst o dX6_map_38 (v := (1 : Int32)) (by decide) (q := 39) rfl ?_
        refine s_ic_ne o (tgt := 56) dX6_map_39 (by decide) (q := 42) rfl ?_ ?_
        · refine s_ldc o kc_X6_125 dX6_map_56 (q := 58) rfl ?_
          exact s_sub [] rfl (t_X6_map_58 o f (-1000002 : Int32) h4_)
        · refine s_aload_n o 0 rfl dX6_map_42 (q := 43) rfl ?_
          refine s_gr o kf_X6_19 dX6_map_43 (q := 46) rfl (fun a6_ => ?_)
          refine s_bipush o dX6_map_46 (v := (9 : Int32)) (by decide) (q := 48) rfl ?_
          refine s_iload_n o 1 rfl dX6_map_48 (q := 49) rfl ?_
          refine s_imul o dX6_map_49 (q := 50) rfl ?_
          refine s_iload_n o 2 rfl dX6_map_50 (q := 51) rfl ?_
          refine s_iadd o dX6_map_51 (q := 52) rfl ?_
          refine s_iald o dX6_map_52 (q := 53) rfl (fun v7_ => ?_)
          refine s_goto o (tgt := 58) dX6_map_53 (by decide) ?_
          exact s_sub [] rfl (t_X6_map_58 o f v7_ h4_)
      · refine s_aload_n o 0 rfl dX6_map_23 (q := 24) rfl ?_
        refine s_gr o kf_X6_16 dX6_map_24 (q := 27) rfl (fun a8_ => ?_)
        refine s_bipush o dX6_map_27 (v := (9 : Int32)) (by decide) (q := 29) rfl ?_
        refine s_iload_n o 1 rfl dX6_map_29 (q := 30) rfl ?_
        refine s_imul o dX6_map_30 (q := 31) rfl ?_
        refine s_iload_n o 2 rfl dX6_map_31 (q := 32) rfl ?_
        refine s_iadd o dX6_map_32 (q := 33) rfl ?_
        refine s_iald o dX6_map_33 (q := 34) rfl (fun v9_ => ?_)
        refine s_goto o (tgt := 58) dX6_map_34 (by decide) ?_
        exact s_sub [] rfl (t_X6_map_58 o f v9_ h4_)
    · exact s_sub [] rfl (t_X6_map_15 o f h4_)
theorem c_X6_map (G : Gx) (f : Nat) (x0 : Nat) (x1 : Int32) (x2 : Int32) (x3 : Int32) (h : Hp) : z_M z_qi G yX6_map cX6_map 4 (some .int) 2 46 0 0 [rf G x0, .int x1, .int x2, .int x3] h (f_X6_map f x0 x1 x2 x3 h) :=
  z_met (by decide +kernel) (Nat.le_of_ble_eq_true rfl) (fun X hG hn o hnm => by
    subst hG
    show Sim X (z_Zi X 0 0) 0 0 0 [(0, rf (xG X) x0), (1, .int x1), (2, .int x2), (3, .int x3)] [] h _
    exact s_sub [0, 1, 2, 3] rfl (t_X6_map_0 o f x0 x1 x2 x3 h))
/-! SixMapsModel.mark(II)I -/
def b_X6_mark_41 (f : Nat)  (y0 : Int32) (h : Hp) : Option (Int32 × Hp) :=
  some (y0, h)
def f_X6_mark (f : Nat)  (x0 : Nat) (x1 : Int32) (x2 : Int32) (h : Hp) : Option (Int32 × Hp) :=
  q_on h x0 6 (
  bi (f_X6_isMark f x0 x1 h) fun v3_ h2_ =>
  if ¬ v3_ = 0 then
  (if ¬ x2 = 0 then
  (if ¬ x2 = (1 : Int32) then
  (b_X6_mark_41 f (-1000002 : Int32) h2_)
  else
  ((q_gr h2_ x0 6 2).bind fun a4_ =>
  (q_ai h2_ a4_ 9 x1).bind fun v5_ =>
  b_X6_mark_41 f v5_ h2_))
  else
  ((q_gr h2_ x0 6 1).bind fun a6_ =>
  (q_ai h2_ a6_ 9 x1).bind fun v7_ =>
  b_X6_mark_41 f v7_ h2_))
  else
  (some ((-1000001 : Int32), h2_)))
set_option maxRecDepth 20000 in
theorem t_X6_mark_41 {X : Cx} (o : Ok X RX6 cX6_mark 3 2 46 0 0 (some .int)) (f : Nat)  (y0 : Int32) (h : Hp) : Sim X (z_Zi X 0 0) 0 0 41 [] [.int y0] h (b_X6_mark_41 f y0 h) := by
  unfold b_X6_mark_41
  exact s_iret o dX6_mark_41
set_option maxRecDepth 20000 in
theorem t_X6_mark_0 {X : Cx} (o : Ok X RX6 cX6_mark 3 2 46 0 0 (some .int)) (f : Nat)  (x0 : Nat) (x1 : Int32) (x2 : Int32) (h : Hp) : Sim X (z_Zi X 0 0) 0 0 0 [(0, rf (xG X) x0), (1, .int x1), (2, .int x2)] [] h (f_X6_mark f x0 x1 x2 h) := by
  unfold f_X6_mark
  refine s_aload_n o 0 rfl dX6_mark_0 (q := 1) rfl ?_
  refine s_iload_n o 1 rfl dX6_mark_1 (q := 2) rfl ?_
  refine s_on (fun hk1_ => ?_)
  refine s_bi (fun r0 hr0 => runV o hk1_ cv_X6_262 (c_X6_isMark (xG X) f x0 x1 h (xl X) r0 hr0) ⟨Nat.le_of_ble_eq_true rfl, Nat.le_of_ble_eq_true rfl⟩ rfl rfl (Nat.le_of_ble_eq_true rfl) dX6_mark_2 ⟨Nat.le_of_ble_eq_true rfl, Nat.le_of_ble_eq_true rfl⟩) (q := 5) rfl (cs' := 0) rfl (sl' := 0) rfl (fun v3_ h2_ => ?_)
  refine s_if_ne o (tgt := 12) dX6_mark_5 (by decide) (q := 8) rfl ?_ ?_
  · refine s_iload_n o 2 rfl dX6_mark_12 (q := 13) rfl ?_
    refine s_if_ne o (tgt := 25) dX6_mark_13 (by decide) (q := 16) rfl ?_ ?_
    · refine s_iload_n o 2 rfl dX6_mark_25 (q := 26) rfl ?_
      refine s_iconst o dX6_mark_26 (v := (1 : Int32)) (by decide) (q := 27) rfl ?_
      refine s_ic_ne o (tgt := 39) dX6_mark_27 (by decide) (q := 30) rfl ?_ ?_
      · refine s_ldc o kc_X6_125 dX6_mark_39 (q := 41) rfl ?_
        exact s_sub [] rfl (t_X6_mark_41 o f (-1000002 : Int32) h2_)
      · refine s_aload_n o 0 rfl dX6_mark_30 (q := 31) rfl ?_
        refine s_gr o kf_X6_13 dX6_mark_31 (q := 34) rfl (fun a4_ => ?_)
        refine s_iload_n o 1 rfl dX6_mark_34 (q := 35) rfl ?_
        refine s_iald o dX6_mark_35 (q := 36) rfl (fun v5_ => ?_)
        refine s_goto o (tgt := 41) dX6_mark_36 (by decide) ?_
        exact s_sub [] rfl (t_X6_mark_41 o f v5_ h2_)
    · refine s_aload_n o 0 rfl dX6_mark_16 (q := 17) rfl ?_
      refine s_gr o kf_X6_7 dX6_mark_17 (q := 20) rfl (fun a6_ => ?_)
      refine s_iload_n o 1 rfl dX6_mark_20 (q := 21) rfl ?_
      refine s_iald o dX6_mark_21 (q := 22) rfl (fun v7_ => ?_)
      refine s_goto o (tgt := 41) dX6_mark_22 (by decide) ?_
      exact s_sub [] rfl (t_X6_mark_41 o f v7_ h2_)
  · refine s_ldcw o kc_X6_266 dX6_mark_8 (q := 11) rfl ?_
    exact s_iret o dX6_mark_11
theorem c_X6_mark (G : Gx) (f : Nat) (x0 : Nat) (x1 : Int32) (x2 : Int32) (h : Hp) : z_M z_qi G yX6_mark cX6_mark 3 (some .int) 2 46 0 0 [rf G x0, .int x1, .int x2] h (f_X6_mark f x0 x1 x2 h) :=
  z_met (by decide +kernel) (Nat.le_of_ble_eq_true rfl) (fun X hG hn o hnm => by
    subst hG
    show Sim X (z_Zi X 0 0) 0 0 0 [(0, rf (xG X) x0), (1, .int x1), (2, .int x2)] [] h _
    exact s_sub [0, 1, 2] rfl (t_X6_mark_0 o f x0 x1 x2 h))
/-! SixMapsModel.may(II)I -/
def b_X6_may_67 (f : Nat) (k27 : Nat → Int32 → Int32 → Int32 → Int32 → Hp → Option (Int32 × Hp)) (x0 : Nat) (x1 : Int32) (x2 : Int32) (x3 : Int32) (x4 : Int32) (h : Hp) : Option (Int32 × Hp) :=
  lt (x4 + (1 : Int32)) fun v1_ =>
  k27 x0 x1 x2 x3 v1_ h
def b_X6_may_27 (f : Nat) (k27 : Nat → Int32 → Int32 → Int32 → Int32 → Hp → Option (Int32 × Hp)) (x0 : Nat) (x1 : Int32) (x2 : Int32) (x3 : Int32) (x4 : Int32) (h : Hp) : Option (Int32 × Hp) :=
  if (64 : Int32) ≤ x4 then
  (some ((-1 : Int32), h))
  else
  (bi (f_X6_bits f x4 h) fun v2_ h1_ =>
  (q_gi h1_ x0 6 5).bind fun v3_ =>
  if ¬ v2_ = v3_ then
  (b_X6_may_67 f k27 x0 x1 x2 x3 x4 h1_)
  else
  (q_on h1_ x0 6 (
  bi (f_X6_mayLie f x0 x1 x4 h1_) fun v6_ h5_ =>
  if v6_ = 0 then
  (b_X6_may_67 f k27 x0 x1 x2 x3 x4 h5_)
  else
  (if ¬ x3 = x2 then
  (lt (x3 + (1 : Int32)) fun v7_ =>
  b_X6_may_67 f k27 x0 x1 x2 v7_ x4 h5_)
  else
  (some (x4, h5_))))))
def l_X6_may_27 (f : Nat)  : Nat → Nat → Int32 → Int32 → Int32 → Int32 → Hp → Option (Int32 × Hp)
  | 0, _, _, _, _, _, _ => none
  | n + 1, x0, x1, x2, x3, x4, h => b_X6_may_27 f  (l_X6_may_27 f  n) x0 x1 x2 x3 x4 h
def f_X6_may (f : Nat)  (x0 : Nat) (x1 : Int32) (x2 : Int32) (h : Hp) : Option (Int32 × Hp) :=
  bi (f_X6_isBand f x1 h) fun v2_ h1_ =>
  if ¬ v2_ = 0 then
  (if ¬ x2 = (-1 : Int32) then
  (l_X6_may_27 f f x0 x1 x2 (0 : Int32) (0 : Int32) h1_)
  else
  (q_on h1_ x0 6 (
  bi (f_X6_mayMany f x0 x1 h1_) fun v5_ h4_ =>
  some (v5_, h4_))))
  else
  (some ((-1000001 : Int32), h1_))
set_option maxRecDepth 20000 in
theorem t_X6_may_67 {X : Cx} (o : Ok X RX6 cX6_may 5 4 99 0 0 (some .int)) (f : Nat) {k27 : Nat → Int32 → Int32 → Int32 → Int32 → Hp → Option (Int32 × Hp)} (hk27 : ∀ (x0 : Nat) (x1 : Int32) (x2 : Int32) (x3 : Int32) (x4 : Int32) (h : Hp), Sim X (z_Zi X 0 0) 0 0 27 [(0, rf (xG X) x0), (1, .int x1), (2, .int x2), (3, .int x3), (4, .int x4)] [] h (k27 x0 x1 x2 x3 x4 h)) (x0 : Nat) (x1 : Int32) (x2 : Int32) (x3 : Int32) (x4 : Int32) (h : Hp) : Sim X (z_Zi X 0 0) 0 0 67 [(0, rf (xG X) x0), (1, .int x1), (2, .int x2), (3, .int x3), (4, .int x4)] [] h (b_X6_may_67 f k27 x0 x1 x2 x3 x4 h) := by
  unfold b_X6_may_67
  refine s_iinc o 4 rfl (v := (1 : Int32)) (by decide) [1, 2, 3, 4, 0] (lv' := fun v1_ => [(0, rf (xG X) x0), (1, .int x1), (2, .int x2), (3, .int x3), (4, .int v1_)]) (fun _ => rfl) dX6_may_67 (by decide) (q := 70) rfl (fun v1_ => ?_)
  refine s_goto o (tgt := 27) dX6_may_70 (by decide) ?_
  exact s_sub [0, 1, 2, 3, 4] rfl (hk27 x0 x1 x2 x3 v1_ h)
set_option maxRecDepth 20000 in
theorem t_X6_may_27 {X : Cx} (o : Ok X RX6 cX6_may 5 4 99 0 0 (some .int)) (f : Nat) {k27 : Nat → Int32 → Int32 → Int32 → Int32 → Hp → Option (Int32 × Hp)} (hk27 : ∀ (x0 : Nat) (x1 : Int32) (x2 : Int32) (x3 : Int32) (x4 : Int32) (h : Hp), Sim X (z_Zi X 0 0) 0 0 27 [(0, rf (xG X) x0), (1, .int x1), (2, .int x2), (3, .int x3), (4, .int x4)] [] h (k27 x0 x1 x2 x3 x4 h)) (x0 : Nat) (x1 : Int32) (x2 : Int32) (x3 : Int32) (x4 : Int32) (h : Hp) : Sim X (z_Zi X 0 0) 0 0 27 [(0, rf (xG X) x0), (1, .int x1), (2, .int x2), (3, .int x3), (4, .int x4)] [] h (b_X6_may_27 f k27 x0 x1 x2 x3 x4 h) := by
  unfold b_X6_may_27
  refine s_iload o 4 rfl dX6_may_27 (q := 29) rfl ?_
  refine s_bipush o dX6_may_29 (v := (64 : Int32)) (by decide) (q := 31) rfl ?_
  refine s_ic_ge o (tgt := 73) dX6_may_31 (by decide) (q := 34) rfl ?_ ?_
  · refine s_iconst o dX6_may_73 (v := (-1 : Int32)) (by decide) (q := 74) rfl ?_
    exact s_iret o dX6_may_74
  · refine s_iload o 4 rfl dX6_may_34 (q := 36) rfl ?_
    refine s_bi (fun r0 hr0 => runS o cs_X6_306 (c_X6_bits (xG X) f x4 h (xl X) r0 hr0) ⟨Nat.le_of_ble_eq_true rfl, Nat.le_of_ble_eq_true rfl⟩ rfl rfl (Nat.le_of_ble_eq_true rfl) dX6_may_36 ⟨Nat.le_of_ble_eq_true rfl, Nat.le_of_ble_eq_true rfl⟩) (q := 39) rfl (cs' := 0) rfl (sl' := 0) rfl (fun v2_ h1_ => ?_)
    refine s_aload_n o 0 rfl dX6_may_39 (q := 40) rfl ?_
    refine s_gi o kf_X6_250 dX6_may_40 (q := 43) rfl (fun v3_ => ?_)
    refine s_ic_ne o (tgt := 67) dX6_may_43 (by decide) (q := 46) rfl ?_ ?_
    · exact s_sub [0, 1, 2, 3, 4] rfl (t_X6_may_67 o f hk27 x0 x1 x2 x3 x4 h1_)
    · refine s_aload_n o 0 rfl dX6_may_46 (q := 47) rfl ?_
      refine s_iload_n o 1 rfl dX6_may_47 (q := 48) rfl ?_
      refine s_iload o 4 rfl dX6_may_48 (q := 50) rfl ?_
      refine s_on (fun hk4_ => ?_)
      refine s_bi (fun r0 hr0 => runV o hk4_ cv_X6_309 (c_X6_mayLie (xG X) f x0 x1 x4 h1_ (xl X) r0 hr0) ⟨Nat.le_of_ble_eq_true rfl, Nat.le_of_ble_eq_true rfl⟩ rfl rfl (Nat.le_of_ble_eq_true rfl) dX6_may_50 ⟨Nat.le_of_ble_eq_true rfl, Nat.le_of_ble_eq_true rfl⟩) (q := 53) rfl (cs' := 0) rfl (sl' := 0) rfl (fun v6_ h5_ => ?_)
      refine s_if_eq o (tgt := 67) dX6_may_53 (by decide) (q := 56) rfl ?_ ?_
      · exact s_sub [0, 1, 2, 3, 4] rfl (t_X6_may_67 o f hk27 x0 x1 x2 x3 x4 h5_)
      · refine s_iload_n o 3 rfl dX6_may_56 (q := 57) rfl ?_
        refine s_iload_n o 2 rfl dX6_may_57 (q := 58) rfl ?_
        refine s_ic_ne o (tgt := 64) dX6_may_58 (by decide) (q := 61) rfl ?_ ?_
        · refine s_iinc o 3 rfl (v := (1 : Int32)) (by decide) [1, 2, 3, 0, 4] (lv' := fun v7_ => [(0, rf (xG X) x0), (1, .int x1), (2, .int x2), (3, .int v7_), (4, .int x4)]) (fun _ => rfl) dX6_may_64 (by decide) (q := 67) rfl (fun v7_ => ?_)
          exact s_sub [0, 1, 2, 3, 4] rfl (t_X6_may_67 o f hk27 x0 x1 x2 v7_ x4 h5_)
        · refine s_iload o 4 rfl dX6_may_61 (q := 63) rfl ?_
          exact s_iret o dX6_may_63
theorem tl_X6_may_27 {X : Cx} (o : Ok X RX6 cX6_may 5 4 99 0 0 (some .int)) (f : Nat)  : ∀ (n : Nat) (x0 : Nat) (x1 : Int32) (x2 : Int32) (x3 : Int32) (x4 : Int32) (h : Hp), Sim X (z_Zi X 0 0) 0 0 27 [(0, rf (xG X) x0), (1, .int x1), (2, .int x2), (3, .int x3), (4, .int x4)] [] h (l_X6_may_27 f n x0 x1 x2 x3 x4 h) := by
  intro n
  induction n with
  | zero => intro x0 x1 x2 x3 x4 h; exact s_none
  | succ n ih => intro x0 x1 x2 x3 x4 h; exact t_X6_may_27 o f  ih x0 x1 x2 x3 x4 h
set_option maxRecDepth 20000 in
theorem t_X6_may_0 {X : Cx} (o : Ok X RX6 cX6_may 5 4 99 0 0 (some .int)) (f : Nat)  (x0 : Nat) (x1 : Int32) (x2 : Int32) (h : Hp) : Sim X (z_Zi X 0 0) 0 0 0 [(0, rf (xG X) x0), (1, .int x1), (2, .int x2)] [] h (f_X6_may f x0 x1 x2 h) := by
  unfold f_X6_may
  refine s_iload_n o 1 rfl dX6_may_0 (q := 1) rfl ?_
  refine s_bi (fun r0 hr0 => runS o cs_X6_267 (c_X6_isBand (xG X) f x1 h (xl X) r0 hr0) ⟨Nat.le_of_ble_eq_true rfl, Nat.le_of_ble_eq_true rfl⟩ rfl rfl (Nat.le_of_ble_eq_true rfl) dX6_may_1 ⟨Nat.le_of_ble_eq_true rfl, Nat.le_of_ble_eq_true rfl⟩) (q := 4) rfl (cs' := 0) rfl (sl' := 0) rfl (fun v2_ h1_ => ?_)
  refine s_if_ne o (tgt := 11) dX6_may_4 (by decide) (q := 7) rfl ?_ ?_
  · refine s_iload_n o 2 rfl dX6_may_11 (q := 12) rfl ?_
    refine s_iconst o dX6_may_12 (v := (-1 : Int32)) (by decide) (q := 13) rfl ?_
    refine s_ic_ne o (tgt := 22) dX6_may_13 (by decide) (q := 16) rfl ?_ ?_
    · refine s_iconst o dX6_may_22 (v := (0 : Int32)) (by decide) (q := 23) rfl ?_
      refine s_istore_n o [1, 2, 3, 0] (lv' := [(0, rf (xG X) x0), (1, .int x1), (2, .int x2), (3, .int (0 : Int32))]) rfl dX6_may_23 (by decide) (q := 24) rfl ?_
      refine s_iconst o dX6_may_24 (v := (0 : Int32)) (by decide) (q := 25) rfl ?_
      refine s_istore o [1, 2, 3, 4, 0] (lv' := [(0, rf (xG X) x0), (1, .int x1), (2, .int x2), (3, .int (0 : Int32)), (4, .int (0 : Int32))]) rfl dX6_may_25 (by decide) (q := 27) rfl ?_
      exact s_sub [0, 1, 2, 3, 4] rfl (tl_X6_may_27 o f f x0 x1 x2 (0 : Int32) (0 : Int32) h1_)
    · refine s_aload_n o 0 rfl dX6_may_16 (q := 17) rfl ?_
      refine s_iload_n o 1 rfl dX6_may_17 (q := 18) rfl ?_
      refine s_on (fun hk3_ => ?_)
      refine s_bi (fun r0 hr0 => runV o hk3_ cv_X6_330 (c_X6_mayMany (xG X) f x0 x1 h1_ (xl X) r0 hr0) ⟨Nat.le_of_ble_eq_true rfl, Nat.le_of_ble_eq_true rfl⟩ rfl rfl (Nat.le_of_ble_eq_true rfl) dX6_may_18 ⟨Nat.le_of_ble_eq_true rfl, Nat.le_of_ble_eq_true rfl⟩) (q := 21) rfl (cs' := 0) rfl (sl' := 0) rfl (fun v5_ h4_ => ?_)
      exact s_iret o dX6_may_21
  · refine s_ldcw o kc_X6_266 dX6_may_7 (q := 10) rfl ?_
    exact s_iret o dX6_may_10
theorem c_X6_may (G : Gx) (f : Nat) (x0 : Nat) (x1 : Int32) (x2 : Int32) (h : Hp) : z_M z_qi G yX6_may cX6_may 5 (some .int) 4 99 0 0 [rf G x0, .int x1, .int x2] h (f_X6_may f x0 x1 x2 h) :=
  z_met (by decide +kernel) (Nat.le_of_ble_eq_true rfl) (fun X hG hn o hnm => by
    subst hG
    show Sim X (z_Zi X 0 0) 0 0 0 [(0, rf (xG X) x0), (1, .int x1), (2, .int x2)] [] h _
    exact s_sub [0, 1, 2] rfl (t_X6_may_0 o f x0 x1 x2 h))
