/-! SixMaps$Standing.<init>()V -/
def f_X4_init (f : Nat)  (x0 : Nat) (h : Hp) : Option (Hp) :=
  bn (q_nwa h 9 36) fun a1_ h2_ =>
  (q_pr h2_ x0 4 0 a1_).bind fun h3_ =>
  bn (q_nwa h3_ 9 20) fun a4_ h5_ =>
  (q_pr h5_ x0 4 1 a4_).bind fun h6_ =>
  bn (q_nwa h6_ 9 20) fun a7_ h8_ =>
  (q_pr h8_ x0 4 2 a7_).bind fun h9_ =>
  bn (q_nwa h9_ 9 6) fun a10_ h11_ =>
  (q_pr h11_ x0 4 3 a10_).bind fun h12_ =>
  (q_pi h12_ x0 4 4 (0 : Int32)).bind fun h13_ =>
  (q_pi h13_ x0 4 5 (-1 : Int32)).bind fun h14_ =>
  (q_pi h14_ x0 4 6 (0 : Int32)).bind fun h15_ =>
  some h15_
set_option maxRecDepth 20000 in
theorem t_X4_init_0 {X : Cx} (o : Ok X RX4 cX4_init 1 1 12 4 82 none) (hnm : (xM X).name = yX4_init.name) (f : Nat)  (x0 : Nat) (h : Hp) : Sim X (z_Zv X 4 82) 0 0 0 [(0, rf (xG X) x0)] [] h (f_X4_init f x0 h) := by
  unfold f_X4_init
  refine s_aload_n o 0 rfl dX4_init_0 (q := 1) rfl ?_
  refine s_obj o ob_X4_3 (Nat.le_of_ble_eq_true rfl) (Nat.le_of_ble_eq_true rfl) dX4_init_1 (q := 4) rfl ?_
  refine s_aload_n o 0 rfl dX4_init_4 (q := 5) rfl ?_
  refine s_bipush o dX4_init_5 (v := (36 : Int32)) (by decide) (q := 7) rfl ?_
  refine s_nwa_i o na_int (N := 36) (by decide) (by decide) (by decide) (by decide) (by decide) dX4_init_7 (q := 9) rfl (cs' := 1) rfl (sl' := 36) rfl (fun a1_ h2_ => ?_)
  refine s_prF o kf_X4_9 (fun _ => rfl) (fun _ => rfl) hnm (fun rr e => by rw [← Option.some.inj (show some (RX4, TX4, 7) = some rr from e)]; rfl) dX4_init_9 (q := 12) rfl (fun h3_ => ?_)
  refine s_aload_n o 0 rfl dX4_init_12 (q := 13) rfl ?_
  refine s_bipush o dX4_init_13 (v := (20 : Int32)) (by decide) (q := 15) rfl ?_
  refine s_nwa_i o na_int (N := 20) (by decide) (by decide) (by decide) (by decide) (by decide) dX4_init_15 (q := 17) rfl (cs' := 2) rfl (sl' := 56) rfl (fun a4_ h5_ => ?_)
  refine s_prF o kf_X4_15 (fun _ => rfl) (fun _ => rfl) hnm (fun rr e => by rw [← Option.some.inj (show some (RX4, TX4, 7) = some rr from e)]; rfl) dX4_init_17 (q := 20) rfl (fun h6_ => ?_)
  refine s_aload_n o 0 rfl dX4_init_20 (q := 21) rfl ?_
  refine s_bipush o dX4_init_21 (v := (20 : Int32)) (by decide) (q := 23) rfl ?_
  refine s_nwa_i o na_int (N := 20) (by decide) (by decide) (by decide) (by decide) (by decide) dX4_init_23 (q := 25) rfl (cs' := 3) rfl (sl' := 76) rfl (fun a7_ h8_ => ?_)
  refine s_prF o kf_X4_18 (fun _ => rfl) (fun _ => rfl) hnm (fun rr e => by rw [← Option.some.inj (show some (RX4, TX4, 7) = some rr from e)]; rfl) dX4_init_25 (q := 28) rfl (fun h9_ => ?_)
  refine s_aload_n o 0 rfl dX4_init_28 (q := 29) rfl ?_
  refine s_bipush o dX4_init_29 (v := (6 : Int32)) (by decide) (q := 31) rfl ?_
  refine s_nwa_i o na_int (N := 6) (by decide) (by decide) (by decide) (by decide) (by decide) dX4_init_31 (q := 33) rfl (cs' := 4) rfl (sl' := 82) rfl (fun a10_ h11_ => ?_)
  refine s_prF o kf_X4_21 (fun _ => rfl) (fun _ => rfl) hnm (fun rr e => by rw [← Option.some.inj (show some (RX4, TX4, 7) = some rr from e)]; rfl) dX4_init_33 (q := 36) rfl (fun h12_ => ?_)
  refine s_aload_n o 0 rfl dX4_init_36 (q := 37) rfl ?_
  refine s_iconst o dX4_init_37 (v := (0 : Int32)) (by decide) (q := 38) rfl ?_
  refine s_pi o kf_X4_24 dX4_init_38 (q := 41) rfl (fun h13_ => ?_)
  refine s_aload_n o 0 rfl dX4_init_41 (q := 42) rfl ?_
  refine s_iconst o dX4_init_42 (v := (-1 : Int32)) (by decide) (q := 43) rfl ?_
  refine s_pi o kf_X4_28 dX4_init_43 (q := 46) rfl (fun h14_ => ?_)
  refine s_aload_n o 0 rfl dX4_init_46 (q := 47) rfl ?_
  refine s_iconst o dX4_init_47 (v := (0 : Int32)) (by decide) (q := 48) rfl ?_
  refine s_pi o kf_X4_31 dX4_init_48 (q := 51) rfl (fun h15_ => ?_)
  exact s_vret o dX4_init_51
theorem c_X4_init (G : Gx) (f : Nat) (x0 : Nat) (h : Hp) : z_M z_qv G yX4_init cX4_init 1 none 1 12 4 82 [rf G x0] h (f_X4_init f x0 h) :=
  z_met (by decide +kernel) (Nat.le_of_ble_eq_true rfl) (fun X hG hn o hnm => by
    subst hG
    show Sim X (z_Zv X 4 82) 0 0 0 [(0, rf (xG X) x0)] [] h _
    exact s_sub [0] rfl (t_X4_init_0 o hnm f x0 h))
/-! SixMaps$Judge.<init>()V -/
def f_X1_init (f : Nat)  (x0 : Nat) (h : Hp) : Option (Hp) :=
  bn (q_nwa h 9 6) fun a1_ h2_ =>
  (q_pr h2_ x0 1 0 a1_).bind fun h3_ =>
  bn (q_nwa h3_ 9 54) fun a4_ h5_ =>
  (q_pr h5_ x0 1 1 a4_).bind fun h6_ =>
  bn (q_nwa h6_ 9 54) fun a7_ h8_ =>
  (q_pr h8_ x0 1 2 a7_).bind fun h9_ =>
  bn (q_nwa h9_ 9 9) fun a10_ h11_ =>
  (q_pr h11_ x0 1 3 a10_).bind fun h12_ =>
  bn (q_nwa h12_ 9 9) fun a13_ h14_ =>
  (q_pr h14_ x0 1 4 a13_).bind fun h15_ =>
  bn (q_nwa h15_ 9 9) fun a16_ h17_ =>
  (q_pr h17_ x0 1 5 a16_).bind fun h18_ =>
  bn (q_nwa h18_ 9 9) fun a19_ h20_ =>
  (q_pr h20_ x0 1 6 a19_).bind fun h21_ =>
  bn (q_nwa h21_ 9 15) fun a22_ h23_ =>
  (q_pr h23_ x0 1 7 a22_).bind fun h24_ =>
  bn (q_nwa h24_ 9 60) fun a25_ h26_ =>
  (q_pr h26_ x0 1 8 a25_).bind fun h27_ =>
  bn (q_new h27_ 1) fun a28_ h29_ =>
  (f_X0_init f a28_ h29_).bind fun h30_ =>
  (q_pr h30_ x0 1 9 a28_).bind fun h31_ =>
  bn (q_new h31_ 5) fun a32_ h33_ =>
  (f_X4_init f a32_ h33_).bind fun h34_ =>
  (q_pr h34_ x0 1 10 a32_).bind fun h35_ =>
  (q_pi h35_ x0 1 11 (0 : Int32)).bind fun h36_ =>
  (q_pi h36_ x0 1 12 (0 : Int32)).bind fun h37_ =>
  (q_pi h37_ x0 1 13 (0 : Int32)).bind fun h38_ =>
  (q_pi h38_ x0 1 14 (-1 : Int32)).bind fun h39_ =>
  (q_pi h39_ x0 1 15 (0 : Int32)).bind fun h40_ =>
  some h40_
set_option maxRecDepth 20000 in
theorem t_X1_init_0 {X : Cx} (o : Ok X RX1 cX1_init 1 2 32 19 453 none) (hnm : (xM X).name = yX1_init.name) (f : Nat)  (x0 : Nat) (h : Hp) : Sim X (z_Zv X 19 453) 0 0 0 [(0, rf (xG X) x0)] [] h (f_X1_init f x0 h) := by
  unfold f_X1_init
  refine s_aload_n o 0 rfl dX1_init_0 (q := 1) rfl ?_
  refine s_obj o ob_X1_3 (Nat.le_of_ble_eq_true rfl) (Nat.le_of_ble_eq_true rfl) dX1_init_1 (q := 4) rfl ?_
  refine s_aload_n o 0 rfl dX1_init_4 (q := 5) rfl ?_
  refine s_bipush o dX1_init_5 (v := (6 : Int32)) (by decide) (q := 7) rfl ?_
  refine s_nwa_i o na_int (N := 6) (by decide) (by decide) (by decide) (by decide) (by decide) dX1_init_7 (q := 9) rfl (cs' := 1) rfl (sl' := 6) rfl (fun a1_ h2_ => ?_)
  refine s_prF o kf_X1_9 (fun _ => rfl) (fun _ => rfl) hnm (fun rr e => by rw [← Option.some.inj (show some (RX1, TX1, 16) = some rr from e)]; rfl) dX1_init_9 (q := 12) rfl (fun h3_ => ?_)
  refine s_aload_n o 0 rfl dX1_init_12 (q := 13) rfl ?_
  refine s_bipush o dX1_init_13 (v := (54 : Int32)) (by decide) (q := 15) rfl ?_
  refine s_nwa_i o na_int (N := 54) (by decide) (by decide) (by decide) (by decide) (by decide) dX1_init_15 (q := 17) rfl (cs' := 2) rfl (sl' := 60) rfl (fun a4_ h5_ => ?_)
  refine s_prF o kf_X1_15 (fun _ => rfl) (fun _ => rfl) hnm (fun rr e => by rw [← Option.some.inj (show some (RX1, TX1, 16) = some rr from e)]; rfl) dX1_init_17 (q := 20) rfl (fun h6_ => ?_)
  refine s_aload_n o 0 rfl dX1_init_20 (q := 21) rfl ?_
  refine s_bipush o dX1_init_21 (v := (54 : Int32)) (by decide) (q := 23) rfl ?_
  refine s_nwa_i o na_int (N := 54) (by decide) (by decide) (by decide) (by decide) (by decide) dX1_init_23 (q := 25) rfl (cs' := 3) rfl (sl' := 114) rfl (fun a7_ h8_ => ?_)
  refine s_prF o kf_X1_18 (fun _ => rfl) (fun _ => rfl) hnm (fun rr e => by rw [← Option.some.inj (show some (RX1, TX1, 16) = some rr from e)]; rfl) dX1_init_25 (q := 28) rfl (fun h9_ => ?_)
  refine s_aload_n o 0 rfl dX1_init_28 (q := 29) rfl ?_
  refine s_bipush o dX1_init_29 (v := (9 : Int32)) (by decide) (q := 31) rfl ?_
  refine s_nwa_i o na_int (N := 9) (by decide) (by decide) (by decide) (by decide) (by decide) dX1_init_31 (q := 33) rfl (cs' := 4) rfl (sl' := 123) rfl (fun a10_ h11_ => ?_)
  refine s_prF o kf_X1_21 (fun _ => rfl) (fun _ => rfl) hnm (fun rr e => by rw [← Option.some.inj (show some (RX1, TX1, 16) = some rr from e)]; rfl) dX1_init_33 (q := 36) rfl (fun h12_ => ?_)
  refine s_aload_n o 0 rfl dX1_init_36 (q := 37) rfl ?_
  refine s_bipush o dX1_init_37 (v := (9 : Int32)) (by decide) (q := 39) rfl ?_
  refine s_nwa_i o na_int (N := 9) (by decide) (by decide) (by decide) (by decide) (by decide) dX1_init_39 (q := 41) rfl (cs' := 5) rfl (sl' := 132) rfl (fun a13_ h14_ => ?_)
  refine s_prF o kf_X1_24 (fun _ => rfl) (fun _ => rfl) hnm (fun rr e => by rw [← Option.some.inj (show some (RX1, TX1, 16) = some rr from e)]; rfl) dX1_init_41 (q := 44) rfl (fun h15_ => ?_)
  refine s_aload_n o 0 rfl dX1_init_44 (q := 45) rfl ?_
  refine s_bipush o dX1_init_45 (v := (9 : Int32)) (by decide) (q := 47) rfl ?_
  refine s_nwa_i o na_int (N := 9) (by decide) (by decide) (by decide) (by decide) (by decide) dX1_init_47 (q := 49) rfl (cs' := 6) rfl (sl' := 141) rfl (fun a16_ h17_ => ?_)
  refine s_prF o kf_X1_27 (fun _ => rfl) (fun _ => rfl) hnm (fun rr e => by rw [← Option.some.inj (show some (RX1, TX1, 16) = some rr from e)]; rfl) dX1_init_49 (q := 52) rfl (fun h18_ => ?_)
  refine s_aload_n o 0 rfl dX1_init_52 (q := 53) rfl ?_
  refine s_bipush o dX1_init_53 (v := (9 : Int32)) (by decide) (q := 55) rfl ?_
  refine s_nwa_i o na_int (N := 9) (by decide) (by decide) (by decide) (by decide) (by decide) dX1_init_55 (q := 57) rfl (cs' := 7) rfl (sl' := 150) rfl (fun a19_ h20_ => ?_)
  refine s_prF o kf_X1_30 (fun _ => rfl) (fun _ => rfl) hnm (fun rr e => by rw [← Option.some.inj (show some (RX1, TX1, 16) = some rr from e)]; rfl) dX1_init_57 (q := 60) rfl (fun h21_ => ?_)
  refine s_aload_n o 0 rfl dX1_init_60 (q := 61) rfl ?_
  refine s_bipush o dX1_init_61 (v := (15 : Int32)) (by decide) (q := 63) rfl ?_
  refine s_nwa_i o na_int (N := 15) (by decide) (by decide) (by decide) (by decide) (by decide) dX1_init_63 (q := 65) rfl (cs' := 8) rfl (sl' := 165) rfl (fun a22_ h23_ => ?_)
  refine s_prF o kf_X1_33 (fun _ => rfl) (fun _ => rfl) hnm (fun rr e => by rw [← Option.some.inj (show some (RX1, TX1, 16) = some rr from e)]; rfl) dX1_init_65 (q := 68) rfl (fun h24_ => ?_)
  refine s_aload_n o 0 rfl dX1_init_68 (q := 69) rfl ?_
  refine s_bipush o dX1_init_69 (v := (60 : Int32)) (by decide) (q := 71) rfl ?_
  refine s_nwa_i o na_int (N := 60) (by decide) (by decide) (by decide) (by decide) (by decide) dX1_init_71 (q := 73) rfl (cs' := 9) rfl (sl' := 225) rfl (fun a25_ h26_ => ?_)
  refine s_prF o kf_X1_36 (fun _ => rfl) (fun _ => rfl) hnm (fun rr e => by rw [← Option.some.inj (show some (RX1, TX1, 16) = some rr from e)]; rfl) dX1_init_73 (q := 76) rfl (fun h27_ => ?_)
  refine s_aload_n o 0 rfl dX1_init_76 (q := 77) rfl ?_
  refine s_new o nw_X1_39 (N := 13) rfl (by decide) (by decide) dX1_init_77 (q := 80) rfl (cs' := 10) rfl (sl' := 238) rfl (fun a28_ h29_ => ?_)
  refine s_dup o rfl dX1_init_80 (q := 81) rfl ?_
  refine s_callv (fun r0 hr0 => runI o cc_X1_41 (c_X0_init (xG X) f a28_ h29_ (xl X) r0 hr0) ⟨Nat.le_of_ble_eq_true rfl, Nat.le_of_ble_eq_true rfl⟩ rfl rfl (Nat.le_of_ble_eq_true rfl) dX1_init_81 ⟨Nat.le_of_ble_eq_true rfl, Nat.le_of_ble_eq_true rfl⟩) (q := 84) rfl (cs' := 14) rfl (sl' := 364) rfl (fun h30_ => ?_)
  refine s_pr o kf_X1_42 (fun _ => rfl) (fun _ => rfl) dX1_init_84 (q := 87) rfl (fun h31_ => ?_)
  refine s_aload_n o 0 rfl dX1_init_87 (q := 88) rfl ?_
  refine s_new o nw_X1_46 (N := 7) rfl (by decide) (by decide) dX1_init_88 (q := 91) rfl (cs' := 15) rfl (sl' := 371) rfl (fun a32_ h33_ => ?_)
  refine s_dup o rfl dX1_init_91 (q := 92) rfl ?_
  refine s_callv (fun r0 hr0 => runI o cc_X1_48 (c_X4_init (xG X) f a32_ h33_ (xl X) r0 hr0) ⟨Nat.le_of_ble_eq_true rfl, Nat.le_of_ble_eq_true rfl⟩ rfl rfl (Nat.le_of_ble_eq_true rfl) dX1_init_92 ⟨Nat.le_of_ble_eq_true rfl, Nat.le_of_ble_eq_true rfl⟩) (q := 95) rfl (cs' := 19) rfl (sl' := 453) rfl (fun h34_ => ?_)
  refine s_pr o kf_X1_49 (fun _ => rfl) (fun _ => rfl) dX1_init_95 (q := 98) rfl (fun h35_ => ?_)
  refine s_aload_n o 0 rfl dX1_init_98 (q := 99) rfl ?_
  refine s_iconst o dX1_init_99 (v := (0 : Int32)) (by decide) (q := 100) rfl ?_
  refine s_pi o kf_X1_53 dX1_init_100 (q := 103) rfl (fun h36_ => ?_)
  refine s_aload_n o 0 rfl dX1_init_103 (q := 104) rfl ?_
  refine s_iconst o dX1_init_104 (v := (0 : Int32)) (by decide) (q := 105) rfl ?_
  refine s_pi o kf_X1_57 dX1_init_105 (q := 108) rfl (fun h37_ => ?_)
  refine s_aload_n o 0 rfl dX1_init_108 (q := 109) rfl ?_
  refine s_iconst o dX1_init_109 (v := (0 : Int32)) (by decide) (q := 110) rfl ?_
  refine s_pi o kf_X1_60 dX1_init_110 (q := 113) rfl (fun h38_ => ?_)
  refine s_aload_n o 0 rfl dX1_init_113 (q := 114) rfl ?_
  refine s_iconst o dX1_init_114 (v := (-1 : Int32)) (by decide) (q := 115) rfl ?_
  refine s_pi o kf_X1_63 dX1_init_115 (q := 118) rfl (fun h39_ => ?_)
  refine s_aload_n o 0 rfl dX1_init_118 (q := 119) rfl ?_
  refine s_iconst o dX1_init_119 (v := (0 : Int32)) (by decide) (q := 120) rfl ?_
  refine s_pi o kf_X1_66 dX1_init_120 (q := 123) rfl (fun h40_ => ?_)
  exact s_vret o dX1_init_123
theorem c_X1_init (G : Gx) (f : Nat) (x0 : Nat) (h : Hp) : z_M z_qv G yX1_init cX1_init 1 none 2 32 19 453 [rf G x0] h (f_X1_init f x0 h) :=
  z_met (by decide +kernel) (Nat.le_of_ble_eq_true rfl) (fun X hG hn o hnm => by
    subst hG
    show Sim X (z_Zv X 19 453) 0 0 0 [(0, rf (xG X) x0)] [] h _
    exact s_sub [0] rfl (t_X1_init_0 o hnm f x0 h))
/-! SixMaps$Judge.isTriedAlready(III)Z -/
def b_X1_isTriedAlready_82 (f : Nat) (k11 : Nat → Int32 → Int32 → Int32 → Int32 → Int32 → Hp → Option (Int32 × Hp)) (x0 : Nat) (x1 : Int32) (x2 : Int32) (x3 : Int32) (x4 : Int32) (x5 : Int32) (h : Hp) : Option (Int32 × Hp) :=
  lt (x5 + (1 : Int32)) fun v1_ =>
  k11 x0 x1 x2 x3 x4 v1_ h
def b_X1_isTriedAlready_11 (f : Nat) (k11 : Nat → Int32 → Int32 → Int32 → Int32 → Int32 → Hp → Option (Int32 × Hp)) (x0 : Nat) (x1 : Int32) (x2 : Int32) (x3 : Int32) (x4 : Int32) (x5 : Int32) (h : Hp) : Option (Int32 × Hp) :=
  if x1 ≤ x5 then
  (q_bo (0 : Int32) (some ((0 : Int32), h)))
  else
  (lt ((x5 * (9 : Int32)) + x3) fun v1_ =>
  if x5 = x2 then
  (b_X1_isTriedAlready_82 f k11 x0 x1 x2 x3 x4 x5 h)
  else
  ((q_gr h x0 1 0).bind fun a2_ =>
  (q_ai h a2_ 9 x5).bind fun v3_ =>
  bi (f_X5_isIn f v3_ x3 h) fun v5_ h4_ =>
  if v5_ = 0 then
  (b_X1_isTriedAlready_82 f k11 x0 x1 x2 x3 x4 x5 h4_)
  else
  ((q_gr h4_ x0 1 1).bind fun a6_ =>
  (q_ai h4_ a6_ 9 x4).bind fun v7_ =>
  (q_gr h4_ x0 1 1).bind fun a8_ =>
  (q_ai h4_ a8_ 9 v1_).bind fun v9_ =>
  if ¬ v7_ = v9_ then
  (b_X1_isTriedAlready_82 f k11 x0 x1 x2 x3 x4 x5 h4_)
  else
  ((q_gr h4_ x0 1 2).bind fun a10_ =>
  (q_ai h4_ a10_ 9 x4).bind fun v11_ =>
  (q_gr h4_ x0 1 2).bind fun a12_ =>
  (q_ai h4_ a12_ 9 v1_).bind fun v13_ =>
  if ¬ v11_ = v13_ then
  (b_X1_isTriedAlready_82 f k11 x0 x1 x2 x3 x4 x5 h4_)
  else
  (q_bo (1 : Int32) (some ((1 : Int32), h4_)))))))
def l_X1_isTriedAlready_11 (f : Nat)  : Nat → Nat → Int32 → Int32 → Int32 → Int32 → Int32 → Hp → Option (Int32 × Hp)
  | 0, _, _, _, _, _, _, _ => none
  | n + 1, x0, x1, x2, x3, x4, x5, h => b_X1_isTriedAlready_11 f  (l_X1_isTriedAlready_11 f  n) x0 x1 x2 x3 x4 x5 h
def f_X1_isTriedAlready (f : Nat)  (x0 : Nat) (x1 : Int32) (x2 : Int32) (x3 : Int32) (h : Hp) : Option (Int32 × Hp) :=
  lt ((x1 * (9 : Int32)) + x3) fun v1_ =>
  l_X1_isTriedAlready_11 f f x0 x1 x2 x3 v1_ (0 : Int32) h
set_option maxRecDepth 20000 in
theorem t_X1_isTriedAlready_82 {X : Cx} (o : Ok X RX1 cX1_isTriedAlready 7 1 21 0 0 (some .boolean)) (f : Nat) {k11 : Nat → Int32 → Int32 → Int32 → Int32 → Int32 → Hp → Option (Int32 × Hp)} (hk11 : ∀ (x0 : Nat) (x1 : Int32) (x2 : Int32) (x3 : Int32) (x4 : Int32) (x5 : Int32) (h : Hp), Sim X (z_Zi X 0 0) 0 0 11 [(0, rf (xG X) x0), (1, .int x1), (2, .int x2), (3, .int x3), (4, .int x4), (5, .int x5)] [] h (k11 x0 x1 x2 x3 x4 x5 h)) (x0 : Nat) (x1 : Int32) (x2 : Int32) (x3 : Int32) (x4 : Int32) (x5 : Int32) (h : Hp) : Sim X (z_Zi X 0 0) 0 0 82 [(0, rf (xG X) x0), (1, .int x1), (2, .int x2), (3, .int x3), (4, .int x4), (5, .int x5)] [] h (b_X1_isTriedAlready_82 f k11 x0 x1 x2 x3 x4 x5 h) := by
  unfold b_X1_isTriedAlready_82
  refine s_iinc o 5 rfl (v := (1 : Int32)) (by decide) [1, 2, 3, 4, 5, 0] (lv' := fun v1_ => [(0, rf (xG X) x0), (1, .int x1), (2, .int x2), (3, .int x3), (4, .int x4), (5, .int v1_)]) (fun _ => rfl) dX1_isTriedAlready_82 (by decide) (q := 85) rfl (fun v1_ => ?_)
  refine s_goto o (tgt := 11) dX1_isTriedAlready_85 (by decide) ?_
  exact s_sub [0, 1, 2, 3, 4, 5] rfl (hk11 x0 x1 x2 x3 x4 v1_ h)
set_option maxRecDepth 20000 in
theorem t_X1_isTriedAlready_11 {X : Cx} (o : Ok X RX1 cX1_isTriedAlready 7 1 21 0 0 (some .boolean)) (f : Nat) {k11 : Nat → Int32 → Int32 → Int32 → Int32 → Int32 → Hp → Option (Int32 × Hp)} (hk11 : ∀ (x0 : Nat) (x1 : Int32) (x2 : Int32) (x3 : Int32) (x4 : Int32) (x5 : Int32) (h : Hp), Sim X (z_Zi X 0 0) 0 0 11 [(0, rf (xG X) x0), (1, .int x1), (2, .int x2), (3, .int x3), (4, .int x4), (5, .int x5)] [] h (k11 x0 x1 x2 x3 x4 x5 h)) (x0 : Nat) (x1 : Int32) (x2 : Int32) (x3 : Int32) (x4 : Int32) (x5 : Int32) (h : Hp) : Sim X (z_Zi X 0 0) 0 0 11 [(0, rf (xG X) x0), (1, .int x1), (2, .int x2), (3, .int x3), (4, .int x4), (5, .int x5)] [] h (b_X1_isTriedAlready_11 f k11 x0 x1 x2 x3 x4 x5 h) := by
  unfold b_X1_isTriedAlready_11
  refine s_iload o 5 rfl dX1_isTriedAlready_11 (q := 13) rfl ?_
  refine s_iload_n o 1 rfl dX1_isTriedAlready_13 (q := 14) rfl ?_
  refine s_ic_ge o (tgt := 88) dX1_isTriedAlready_14 (by decide) (q := 17) rfl ?_ ?_
  · refine s_iconst o dX1_isTriedAlready_88 (v := (0 : Int32)) (by decide) (q := 89) rfl ?_
    exact s_zret o dX1_isTriedAlready_89
  · refine s_iload o 5 rfl dX1_isTriedAlready_17 (q := 19) rfl ?_
    refine s_bipush o dX1_isTriedAlready_19 (v := (9 : Int32)) (by decide) (q := 21) rfl ?_
    refine s_imul o dX1_isTriedAlready_21 (q := 22) rfl ?_
    refine s_iload_n o 3 rfl dX1_isTriedAlready_22 (q := 23) rfl ?_
    refine s_iadd o dX1_isTriedAlready_23 (q := 24) rfl ?_
    refine s_let (fun v1_ => ?_)
    refine s_istore o [1, 2, 3, 4, 5, 6, 0] (lv' := [(0, rf (xG X) x0), (1, .int x1), (2, .int x2), (3, .int x3), (4, .int x4), (5, .int x5), (6, .int v1_)]) rfl dX1_isTriedAlready_24 (by decide) (q := 26) rfl ?_
    refine s_iload o 5 rfl dX1_isTriedAlready_26 (q := 28) rfl ?_
    refine s_iload_n o 2 rfl dX1_isTriedAlready_28 (q := 29) rfl ?_
    refine s_ic_eq o (tgt := 82) dX1_isTriedAlready_29 (by decide) (q := 32) rfl ?_ ?_
    · exact s_sub [0, 1, 2, 3, 4, 5] rfl (t_X1_isTriedAlready_82 o f hk11 x0 x1 x2 x3 x4 x5 h)
    · refine s_aload_n o 0 rfl dX1_isTriedAlready_32 (q := 33) rfl ?_
      refine s_gr o kf_X1_9 dX1_isTriedAlready_33 (q := 36) rfl (fun a2_ => ?_)
      refine s_iload o 5 rfl dX1_isTriedAlready_36 (q := 38) rfl ?_
      refine s_iald o dX1_isTriedAlready_38 (q := 39) rfl (fun v3_ => ?_)
      refine s_iload_n o 3 rfl dX1_isTriedAlready_39 (q := 40) rfl ?_
      refine s_bi (fun r0 hr0 => runN o cn_X1_105 (c_X5_isIn (xG X) f v3_ x3 h (xl X) r0 hr0) ⟨Nat.le_of_ble_eq_true rfl, Nat.le_of_ble_eq_true rfl⟩ rfl rfl (Nat.le_of_ble_eq_true rfl) dX1_isTriedAlready_40 ⟨Nat.le_of_ble_eq_true rfl, Nat.le_of_ble_eq_true rfl⟩) (q := 43) rfl (cs' := 0) rfl (sl' := 0) rfl (fun v5_ h4_ => ?_)
      refine s_if_eq o (tgt := 82) dX1_isTriedAlready_43 (by decide) (q := 46) rfl ?_ ?_
      · exact s_sub [0, 1, 2, 3, 4, 5] rfl (t_X1_isTriedAlready_82 o f hk11 x0 x1 x2 x3 x4 x5 h4_)
      · refine s_aload_n o 0 rfl dX1_isTriedAlready_46 (q := 47) rfl ?_
        refine s_gr o kf_X1_15 dX1_isTriedAlready_47 (q := 50) rfl (fun a6_ => ?_)
        refine s_iload o 4 rfl dX1_isTriedAlready_50 (q := 52) rfl ?_
        refine s_iald o dX1_isTriedAlready_52 (q := 53) rfl (fun v7_ => ?_)
        refine s_aload_n o 0 rfl dX1_isTriedAlready_53 (q := 54) rfl ?_
        refine s_gr o kf_X1_15 dX1_isTriedAlready_54 (q := 57) rfl (fun a8_ => ?_)
        refine s_iload o 6 rfl dX1_isTriedAlready_57 (q := 59) rfl ?_
        refine s_iald o dX1_isTriedAlready_59 (q := 60) rfl (fun v9_ => ?_)
        refine s_ic_ne o (tgt := 82) dX1_isTriedAlready_60 (by decide) (q := 63) rfl ?_ ?_
        · exact s_sub [0, 1, 2, 3, 4, 5] rfl (t_X1_isTriedAlready_82 o f hk11 x0 x1 x2 x3 x4 x5 h4_)
        · refine s_aload_n o 0 rfl dX1_isTriedAlready_63 (q := 64) rfl ?_
          refine s_gr o kf_X1_18 dX1_isTriedAlready_64 (q := 67) rfl (fun a10_ => ?_)
          refine s_iload o 4 rfl dX1_isTriedAlready_67 (q := 69) rfl ?_
          refine s_iald o dX1_isTriedAlready_69 (q := 70) rfl (fun v11_ => ?_)
          refine s_aload_n o 0 rfl dX1_isTriedAlready_70 (q := 71) rfl ?_
          refine s_gr o kf_X1_18 dX1_isTriedAlready_71 (q := 74) rfl (fun a12_ => ?_)
          refine s_iload o 6 rfl dX1_isTriedAlready_74 (q := 76) rfl ?_
          refine s_iald o dX1_isTriedAlready_76 (q := 77) rfl (fun v13_ => ?_)
          refine s_ic_ne o (tgt := 82) dX1_isTriedAlready_77 (by decide) (q := 80) rfl ?_ ?_
          · exact s_sub [0, 1, 2, 3, 4, 5] rfl (t_X1_isTriedAlready_82 o f hk11 x0 x1 x2 x3 x4 x5 h4_)
          · refine s_iconst o dX1_isTriedAlready_80 (v := (1 : Int32)) (by decide) (q := 81) rfl ?_
            exact s_zret o dX1_isTriedAlready_81
theorem tl_X1_isTriedAlready_11 {X : Cx} (o : Ok X RX1 cX1_isTriedAlready 7 1 21 0 0 (some .boolean)) (f : Nat)  : ∀ (n : Nat) (x0 : Nat) (x1 : Int32) (x2 : Int32) (x3 : Int32) (x4 : Int32) (x5 : Int32) (h : Hp), Sim X (z_Zi X 0 0) 0 0 11 [(0, rf (xG X) x0), (1, .int x1), (2, .int x2), (3, .int x3), (4, .int x4), (5, .int x5)] [] h (l_X1_isTriedAlready_11 f n x0 x1 x2 x3 x4 x5 h) := by
  intro n
  induction n with
  | zero => intro x0 x1 x2 x3 x4 x5 h; exact s_none
  | succ n ih => intro x0 x1 x2 x3 x4 x5 h; exact t_X1_isTriedAlready_11 o f  ih x0 x1 x2 x3 x4 x5 h
set_option maxRecDepth 20000 in
theorem t_X1_isTriedAlready_0 {X : Cx} (o : Ok X RX1 cX1_isTriedAlready 7 1 21 0 0 (some .boolean)) (f : Nat)  (x0 : Nat) (x1 : Int32) (x2 : Int32) (x3 : Int32) (h : Hp) : Sim X (z_Zi X 0 0) 0 0 0 [(0, rf (xG X) x0), (1, .int x1), (2, .int x2), (3, .int x3)] [] h (f_X1_isTriedAlready f x0 x1 x2 x3 h) := by
  unfold f_X1_isTriedAlready
  refine s_iload_n o 1 rfl dX1_isTriedAlready_0 (q := 1) rfl ?_
  refine s_bipush o dX1_isTriedAlready_1 (v := (9 : Int32)) (by decide) (q := 3) rfl ?_
  refine s_imul o dX1_isTriedAlready_3 (q := 4) rfl ?_
  refine s_iload_n o 3 rfl dX1_isTriedAlready_4 (q := 5) rfl ?_
  refine s_iadd o dX1_isTriedAlready_5 (q := 6) rfl ?_
  refine s_let (fun v1_ => ?_)
  refine s_istore o [1, 2, 3, 4, 0] (lv' := [(0, rf (xG X) x0), (1, .int x1), (2, .int x2), (3, .int x3), (4, .int v1_)]) rfl dX1_isTriedAlready_6 (by decide) (q := 8) rfl ?_
  refine s_iconst o dX1_isTriedAlready_8 (v := (0 : Int32)) (by decide) (q := 9) rfl ?_
  refine s_istore o [1, 2, 3, 4, 5, 0] (lv' := [(0, rf (xG X) x0), (1, .int x1), (2, .int x2), (3, .int x3), (4, .int v1_), (5, .int (0 : Int32))]) rfl dX1_isTriedAlready_9 (by decide) (q := 11) rfl ?_
  exact s_sub [0, 1, 2, 3, 4, 5] rfl (tl_X1_isTriedAlready_11 o f f x0 x1 x2 x3 v1_ (0 : Int32) h)
theorem c_X1_isTriedAlready (G : Gx) (f : Nat) (x0 : Nat) (x1 : Int32) (x2 : Int32) (x3 : Int32) (h : Hp) : z_M z_qi G yX1_isTriedAlready cX1_isTriedAlready 7 (some .boolean) 1 21 0 0 [rf G x0, .int x1, .int x2, .int x3] h (f_X1_isTriedAlready f x0 x1 x2 x3 h) :=
  z_met (by decide +kernel) (Nat.le_of_ble_eq_true rfl) (fun X hG hn o hnm => by
    subst hG
    show Sim X (z_Zi X 0 0) 0 0 0 [(0, rf (xG X) x0), (1, .int x1), (2, .int x2), (3, .int x3)] [] h _
    exact s_sub [0, 1, 2, 3] rfl (t_X1_isTriedAlready_0 o f x0 x1 x2 x3 h))
/-! SixMaps$Judge.leftWith(IIII)I -/
def f_X1_leftWith (f : Nat)  (x0 : Nat) (x1 : Int32) (x2 : Int32) (x3 : Int32) (x4 : Int32) (h : Hp) : Option (Int32 × Hp) :=
  (q_gr h x0 1 1).bind fun a1_ =>
  (q_as h a1_ 9 ((x1 * (9 : Int32)) + x2) x3).bind fun h2_ =>
  (q_gr h2_ x0 1 2).bind fun a3_ =>
  (q_as h2_ a3_ 9 ((x1 * (9 : Int32)) + x2) x4).bind fun h4_ =>
  (q_gr h4_ x0 1 0).bind fun a5_ =>
  (q_ai h4_ a5_ 9 x1).bind fun v6_ =>
  (q_as h4_ a5_ 9 x1 (v6_ ||| ((1 : Int32) <<< (x2 &&& 31)))).bind fun h7_ =>
  q_on h7_ x0 1 (
  (f_X1_collect f x0 h7_).bind fun h9_ =>
  (q_gi h9_ x0 1 12).bind fun v10_ =>
  some (v10_, h9_))
set_option maxRecDepth 20000 in
theorem t_X1_leftWith_0 {X : Cx} (o : Ok X RX1 cX1_leftWith 5 5 110 0 0 (some .int)) (f : Nat)  (x0 : Nat) (x1 : Int32) (x2 : Int32) (x3 : Int32) (x4 : Int32) (h : Hp) : Sim X (z_Zi X 0 0) 0 0 0 [(0, rf (xG X) x0), (1, .int x1), (2, .int x2), (3, .int x3), (4, .int x4)] [] h (f_X1_leftWith f x0 x1 x2 x3 x4 h) := by
  unfold f_X1_leftWith
  refine s_aload_n o 0 rfl dX1_leftWith_0 (q := 1) rfl ?_
  refine s_gr o kf_X1_15 dX1_leftWith_1 (q := 4) rfl (fun a1_ => ?_)
  refine s_iload_n o 1 rfl dX1_leftWith_4 (q := 5) rfl ?_
  refine s_bipush o dX1_leftWith_5 (v := (9 : Int32)) (by decide) (q := 7) rfl ?_
  refine s_imul o dX1_leftWith_7 (q := 8) rfl ?_
  refine s_iload_n o 2 rfl dX1_leftWith_8 (q := 9) rfl ?_
  refine s_iadd o dX1_leftWith_9 (q := 10) rfl ?_
  refine s_iload_n o 3 rfl dX1_leftWith_10 (q := 11) rfl ?_
  refine s_iast o dX1_leftWith_11 (q := 12) rfl (fun h2_ => ?_)
  refine s_aload_n o 0 rfl dX1_leftWith_12 (q := 13) rfl ?_
  refine s_gr o kf_X1_18 dX1_leftWith_13 (q := 16) rfl (fun a3_ => ?_)
  refine s_iload_n o 1 rfl dX1_leftWith_16 (q := 17) rfl ?_
  refine s_bipush o dX1_leftWith_17 (v := (9 : Int32)) (by decide) (q := 19) rfl ?_
  refine s_imul o dX1_leftWith_19 (q := 20) rfl ?_
  refine s_iload_n o 2 rfl dX1_leftWith_20 (q := 21) rfl ?_
  refine s_iadd o dX1_leftWith_21 (q := 22) rfl ?_
  refine s_iload o 4 rfl dX1_leftWith_22 (q := 24) rfl ?_
  refine s_iast o dX1_leftWith_24 (q := 25) rfl (fun h4_ => ?_)
  refine s_aload_n o 0 rfl dX1_leftWith_25 (q := 26) rfl ?_
  refine s_gr o kf_X1_9 dX1_leftWith_26 (q := 29) rfl (fun a5_ => ?_)
  refine s_iload_n o 1 rfl dX1_leftWith_29 (q := 30) rfl ?_
  refine s_dup2 o rfl rfl dX1_leftWith_30 (q := 31) rfl ?_
  refine s_iald o dX1_leftWith_31 (q := 32) rfl (fun v6_ => ?_)
  refine s_iconst o dX1_leftWith_32 (v := (1 : Int32)) (by decide) (q := 33) rfl ?_
  refine s_iload_n o 2 rfl dX1_leftWith_33 (q := 34) rfl ?_
  refine s_ishl o dX1_leftWith_34 (q := 35) rfl ?_
  refine s_ior o dX1_leftWith_35 (q := 36) rfl ?_
  refine s_iast o dX1_leftWith_36 (q := 37) rfl (fun h7_ => ?_)
  refine s_aload_n o 0 rfl dX1_leftWith_37 (q := 38) rfl ?_
  refine s_on (fun hk8_ => ?_)
  refine s_callv (fun r0 hr0 => runV o hk8_ cv_X1_83 (c_X1_collect (xG X) f x0 h7_ (xl X) r0 hr0) ⟨Nat.le_of_ble_eq_true rfl, Nat.le_of_ble_eq_true rfl⟩ rfl rfl (Nat.le_of_ble_eq_true rfl) dX1_leftWith_38 ⟨Nat.le_of_ble_eq_true rfl, Nat.le_of_ble_eq_true rfl⟩) (q := 41) rfl (cs' := 0) rfl (sl' := 0) rfl (fun h9_ => ?_)
  refine s_aload_n o 0 rfl dX1_leftWith_41 (q := 42) rfl ?_
  refine s_gi o kf_X1_57 dX1_leftWith_42 (q := 45) rfl (fun v10_ => ?_)
  exact s_iret o dX1_leftWith_45
theorem c_X1_leftWith (G : Gx) (f : Nat) (x0 : Nat) (x1 : Int32) (x2 : Int32) (x3 : Int32) (x4 : Int32) (h : Hp) : z_M z_qi G yX1_leftWith cX1_leftWith 5 (some .int) 5 110 0 0 [rf G x0, .int x1, .int x2, .int x3, .int x4] h (f_X1_leftWith f x0 x1 x2 x3 x4 h) :=
  z_met (by decide +kernel) (Nat.le_of_ble_eq_true rfl) (fun X hG hn o hnm => by
    subst hG
    show Sim X (z_Zi X 0 0) 0 0 0 [(0, rf (xG X) x0), (1, .int x1), (2, .int x2), (3, .int x3), (4, .int x4)] [] h _
    exact s_sub [0, 1, 2, 3, 4] rfl (t_X1_leftWith_0 o f x0 x1 x2 x3 x4 h))
/-! SixMaps$Judge.leftAtWorst(II)I -/
def b_X1_leftAtWorst_98 (f : Nat) (k24 : Nat → Int32 → Int32 → Int32 → Int32 → Int32 → Hp → Option (Int32 × Hp)) (x0 : Nat) (x1 : Int32) (x2 : Int32) (x3 : Int32) (x4 : Int32) (x5 : Int32) (h : Hp) : Option (Int32 × Hp) :=
  lt (x5 + (1 : Int32)) fun v1_ =>
  k24 x0 x1 x2 x3 x4 v1_ h
def b_X1_leftAtWorst_24 (f : Nat) (k24 : Nat → Int32 → Int32 → Int32 → Int32 → Int32 → Hp → Option (Int32 × Hp)) (x0 : Nat) (x1 : Int32) (x2 : Int32) (x3 : Int32) (x4 : Int32) (x5 : Int32) (h : Hp) : Option (Int32 × Hp) :=
  if (6 : Int32) ≤ x5 then
  ((q_gr h x0 1 0).bind fun a1_ =>
  (q_as h a1_ 9 x1 x3).bind fun h2_ =>
  some (x4, h2_))
  else
  (if x5 = x1 then
  (b_X1_leftAtWorst_98 f k24 x0 x1 x2 x3 x4 x5 h)
  else
  ((q_gr h x0 1 0).bind fun a3_ =>
  (q_ai h a3_ 9 x5).bind fun v4_ =>
  bi (f_X5_isIn f v4_ x2 h) fun v6_ h5_ =>
  if v6_ = 0 then
  (b_X1_leftAtWorst_98 f k24 x0 x1 x2 x3 x4 x5 h5_)
  else
  (q_on h5_ x0 1 (
  bi (f_X1_isTriedAlready f x0 x5 x1 x2 h5_) fun v9_ h8_ =>
  if ¬ v9_ = 0 then
  (b_X1_leftAtWorst_98 f k24 x0 x1 x2 x3 x4 x5 h8_)
  else
  (lt ((x5 * (9 : Int32)) + x2) fun v10_ =>
  (q_gr h8_ x0 1 1).bind fun a11_ =>
  (q_ai h8_ a11_ 9 v10_).bind fun v12_ =>
  (q_gr h8_ x0 1 2).bind fun a13_ =>
  (q_ai h8_ a13_ 9 v10_).bind fun v14_ =>
  q_on h8_ x0 1 (
  bi (f_X1_leftWith f x0 x1 x2 v12_ v14_ h8_) fun v17_ h16_ =>
  lt ((if x4 < v17_ then v17_ else x4)) fun v18_ =>
  b_X1_leftAtWorst_98 f k24 x0 x1 x2 x3 v18_ x5 h16_))))))
def l_X1_leftAtWorst_24 (f : Nat)  : Nat → Nat → Int32 → Int32 → Int32 → Int32 → Int32 → Hp → Option (Int32 × Hp)
  | 0, _, _, _, _, _, _, _ => none
  | n + 1, x0, x1, x2, x3, x4, x5, h => b_X1_leftAtWorst_24 f  (l_X1_leftAtWorst_24 f  n) x0 x1 x2 x3 x4 x5 h
def f_X1_leftAtWorst (f : Nat)  (x0 : Nat) (x1 : Int32) (x2 : Int32) (h : Hp) : Option (Int32 × Hp) :=
  (q_gr h x0 1 0).bind fun a1_ =>
  (q_ai h a1_ 9 x1).bind fun v2_ =>
  q_on h x0 1 (
  bi (f_X1_leftWith f x0 x1 x2 (2000 : Int32) (2000 : Int32) h) fun v5_ h4_ =>
  l_X1_leftAtWorst_24 f f x0 x1 x2 v2_ v5_ (0 : Int32) h4_)
set_option maxRecDepth 20000 in
theorem t_X1_leftAtWorst_98 {X : Cx} (o : Ok X RX1 cX1_leftAtWorst 7 6 134 0 0 (some .int)) (f : Nat) {k24 : Nat → Int32 → Int32 → Int32 → Int32 → Int32 → Hp → Option (Int32 × Hp)} (hk24 : ∀ (x0 : Nat) (x1 : Int32) (x2 : Int32) (x3 : Int32) (x4 : Int32) (x5 : Int32) (h : Hp), Sim X (z_Zi X 0 0) 0 0 24 [(0, rf (xG X) x0), (1, .int x1), (2, .int x2), (3, .int x3), (4, .int x4), (5, .int x5)] [] h (k24 x0 x1 x2 x3 x4 x5 h)) (x0 : Nat) (x1 : Int32) (x2 : Int32) (x3 : Int32) (x4 : Int32) (x5 : Int32) (h : Hp) : Sim X (z_Zi X 0 0) 0 0 98 [(0, rf (xG X) x0), (1, .int x1), (2, .int x2), (3, .int x3), (4, .int x4), (5, .int x5)] [] h (b_X1_leftAtWorst_98 f k24 x0 x1 x2 x3 x4 x5 h) := by
  unfold b_X1_leftAtWorst_98
  refine s_iinc o 5 rfl (v := (1 : Int32)) (by decide) [1, 2, 3, 4, 5, 0] (lv' := fun v1_ => [(0, rf (xG X) x0), (1, .int x1), (2, .int x2), (3, .int x3), (4, .int x4), (5, .int v1_)]) (fun _ => rfl) dX1_leftAtWorst_98 (by decide) (q := 101) rfl (fun v1_ => ?_)
  refine s_goto o (tgt := 24) dX1_leftAtWorst_101 (by decide) ?_
  exact s_sub [0, 1, 2, 3, 4, 5] rfl (hk24 x0 x1 x2 x3 x4 v1_ h)
set_option maxRecDepth 20000 in
theorem t_X1_leftAtWorst_24 {X : Cx} (o : Ok X RX1 cX1_leftAtWorst 7 6 134 0 0 (some .int)) (f : Nat) {k24 : Nat → Int32 → Int32 → Int32 → Int32 → Int32 → Hp → Option (Int32 × Hp)} (hk24 : ∀ (x0 : Nat) (x1 : Int32) (x2 : Int32) (x3 : Int32) (x4 : Int32) (x5 : Int32) (h : Hp), Sim X (z_Zi X 0 0) 0 0 24 [(0, rf (xG X) x0), (1, .int x1), (2, .int x2), (3, .int x3), (4, .int x4), (5, .int x5)] [] h (k24 x0 x1 x2 x3 x4 x5 h)) (x0 : Nat) (x1 : Int32) (x2 : Int32) (x3 : Int32) (x4 : Int32) (x5 : Int32) (h : Hp) : Sim X (z_Zi X 0 0) 0 0 24 [(0, rf (xG X) x0), (1, .int x1), (2, .int x2), (3, .int x3), (4, .int x4), (5, .int x5)] [] h (b_X1_leftAtWorst_24 f k24 x0 x1 x2 x3 x4 x5 h) := by
  unfold b_X1_leftAtWorst_24
  refine s_iload o 5 rfl dX1_leftAtWorst_24 (q := 26) rfl ?_
  refine s_bipush o dX1_leftAtWorst_26 (v := (6 : Int32)) (by decide) (q := 28) rfl ?_
  refine s_ic_ge o (tgt := 104) dX1_leftAtWorst_28 (by decide) (q := 31) rfl ?_ ?_
  · refine s_aload_n o 0 rfl dX1_leftAtWorst_104 (q := 105) rfl ?_
    refine s_gr o kf_X1_9 dX1_leftAtWorst_105 (q := 108) rfl (fun a1_ => ?_)
    refine s_iload_n o 1 rfl dX1_leftAtWorst_108 (q := 109) rfl ?_
    refine s_iload_n o 3 rfl dX1_leftAtWorst_109 (q := 110) rfl ?_
    refine s_iast o dX1_leftAtWorst_110 (q := 111) rfl (fun h2_ => ?_)
    refine s_iload o 4 rfl dX1_leftAtWorst_111 (q := 113) rfl ?_
    exact s_iret o dX1_leftAtWorst_113
  · refine s_iload o 5 rfl dX1_leftAtWorst_31 (q := 33) rfl ?_
    refine s_iload_n o 1 rfl dX1_leftAtWorst_33 (q := 34) rfl ?_
    refine s_ic_eq o (tgt := 98) dX1_leftAtWorst_34 (by decide) (q := 37) rfl ?_ ?_
    · exact s_sub [0, 1, 2, 3, 4, 5] rfl (t_X1_leftAtWorst_98 o f hk24 x0 x1 x2 x3 x4 x5 h)
    · refine s_aload_n o 0 rfl dX1_leftAtWorst_37 (q := 38) rfl ?_
      refine s_gr o kf_X1_9 dX1_leftAtWorst_38 (q := 41) rfl (fun a3_ => ?_)
      refine s_iload o 5 rfl dX1_leftAtWorst_41 (q := 43) rfl ?_
      refine s_iald o dX1_leftAtWorst_43 (q := 44) rfl (fun v4_ => ?_)
      refine s_iload_n o 2 rfl dX1_leftAtWorst_44 (q := 45) rfl ?_
      refine s_bi (fun r0 hr0 => runN o cn_X1_105 (c_X5_isIn (xG X) f v4_ x2 h (xl X) r0 hr0) ⟨Nat.le_of_ble_eq_true rfl, Nat.le_of_ble_eq_true rfl⟩ rfl rfl (Nat.le_of_ble_eq_true rfl) dX1_leftAtWorst_45 ⟨Nat.le_of_ble_eq_true rfl, Nat.le_of_ble_eq_true rfl⟩) (q := 48) rfl (cs' := 0) rfl (sl' := 0) rfl (fun v6_ h5_ => ?_)
      refine s_if_eq o (tgt := 98) dX1_leftAtWorst_48 (by decide) (q := 51) rfl ?_ ?_
      · exact s_sub [0, 1, 2, 3, 4, 5] rfl (t_X1_leftAtWorst_98 o f hk24 x0 x1 x2 x3 x4 x5 h5_)
      · refine s_aload_n o 0 rfl dX1_leftAtWorst_51 (q := 52) rfl ?_
        refine s_iload o 5 rfl dX1_leftAtWorst_52 (q := 54) rfl ?_
        refine s_iload_n o 1 rfl dX1_leftAtWorst_54 (q := 55) rfl ?_
        refine s_iload_n o 2 rfl dX1_leftAtWorst_55 (q := 56) rfl ?_
        refine s_on (fun hk7_ => ?_)
        refine s_bi (fun r0 hr0 => runV o hk7_ cv_X1_109 (c_X1_isTriedAlready (xG X) f x0 x5 x1 x2 h5_ (xl X) r0 hr0) ⟨Nat.le_of_ble_eq_true rfl, Nat.le_of_ble_eq_true rfl⟩ rfl rfl (Nat.le_of_ble_eq_true rfl) dX1_leftAtWorst_56 ⟨Nat.le_of_ble_eq_true rfl, Nat.le_of_ble_eq_true rfl⟩) (q := 59) rfl (cs' := 0) rfl (sl' := 0) rfl (fun v9_ h8_ => ?_)
        refine s_if_ne o (tgt := 98) dX1_leftAtWorst_59 (by decide) (q := 62) rfl ?_ ?_
        · exact s_sub [0, 1, 2, 3, 4, 5] rfl (t_X1_leftAtWorst_98 o f hk24 x0 x1 x2 x3 x4 x5 h8_)
        · refine s_iload o 5 rfl dX1_leftAtWorst_62 (q := 64) rfl ?_
          refine s_bipush o dX1_leftAtWorst_64 (v := (9 : Int32)) (by decide) (q := 66) rfl ?_
          refine s_imul o dX1_leftAtWorst_66 (q := 67) rfl ?_
          refine s_iload_n o 2 rfl dX1_leftAtWorst_67 (q := 68) rfl ?_
          refine s_iadd o dX1_leftAtWorst_68 (q := 69) rfl ?_
          refine s_let (fun v10_ => ?_)
          refine s_istore o [1, 2, 3, 4, 5, 6, 0] (lv' := [(0, rf (xG X) x0), (1, .int x1), (2, .int x2), (3, .int x3), (4, .int x4), (5, .int x5), (6, .int v10_)]) rfl dX1_leftAtWorst_69 (by decide) (q := 71) rfl ?_
          refine s_iload o 4 rfl dX1_leftAtWorst_71 (q := 73) rfl ?_
          refine s_aload_n o 0 rfl dX1_leftAtWorst_73 (q := 74) rfl ?_
          refine s_iload_n o 1 rfl dX1_leftAtWorst_74 (q := 75) rfl ?_
          refine s_iload_n o 2 rfl dX1_leftAtWorst_75 (q := 76) rfl ?_
          refine s_aload_n o 0 rfl dX1_leftAtWorst_76 (q := 77) rfl ?_
          refine s_gr o kf_X1_15 dX1_leftAtWorst_77 (q := 80) rfl (fun a11_ => ?_)
          refine s_iload o 6 rfl dX1_leftAtWorst_80 (q := 82) rfl ?_
          refine s_iald o dX1_leftAtWorst_82 (q := 83) rfl (fun v12_ => ?_)
          refine s_aload_n o 0 rfl dX1_leftAtWorst_83 (q := 84) rfl ?_
          refine s_gr o kf_X1_18 dX1_leftAtWorst_84 (q := 87) rfl (fun a13_ => ?_)
          refine s_iload o 6 rfl dX1_leftAtWorst_87 (q := 89) rfl ?_
          refine s_iald o dX1_leftAtWorst_89 (q := 90) rfl (fun v14_ => ?_)
          refine s_on (fun hk15_ => ?_)
          refine s_bi (fun r0 hr0 => runV o hk15_ cv_X1_101 (c_X1_leftWith (xG X) f x0 x1 x2 v12_ v14_ h8_ (xl X) r0 hr0) ⟨Nat.le_of_ble_eq_true rfl, Nat.le_of_ble_eq_true rfl⟩ rfl rfl (Nat.le_of_ble_eq_true rfl) dX1_leftAtWorst_90 ⟨Nat.le_of_ble_eq_true rfl, Nat.le_of_ble_eq_true rfl⟩) (q := 93) rfl (cs' := 0) rfl (sl' := 0) rfl (fun v17_ h16_ => ?_)
          refine s_max o mw_X1_113 (Nat.le_of_ble_eq_true rfl) (Nat.le_of_ble_eq_true rfl) (by decide) (by decide) dX1_leftAtWorst_93 (q := 96) rfl ?_
          refine s_let (fun v18_ => ?_)
          refine s_istore o [1, 2, 3, 4, 0, 5, 6] (lv' := [(0, rf (xG X) x0), (1, .int x1), (2, .int x2), (3, .int x3), (4, .int v18_), (5, .int x5), (6, .int v10_)]) rfl dX1_leftAtWorst_96 (by decide) (q := 98) rfl ?_
          exact s_sub [0, 1, 2, 3, 4, 5] rfl (t_X1_leftAtWorst_98 o f hk24 x0 x1 x2 x3 v18_ x5 h16_)
theorem tl_X1_leftAtWorst_24 {X : Cx} (o : Ok X RX1 cX1_leftAtWorst 7 6 134 0 0 (some .int)) (f : Nat)  : ∀ (n : Nat) (x0 : Nat) (x1 : Int32) (x2 : Int32) (x3 : Int32) (x4 : Int32) (x5 : Int32) (h : Hp), Sim X (z_Zi X 0 0) 0 0 24 [(0, rf (xG X) x0), (1, .int x1), (2, .int x2), (3, .int x3), (4, .int x4), (5, .int x5)] [] h (l_X1_leftAtWorst_24 f n x0 x1 x2 x3 x4 x5 h) := by
  intro n
  induction n with
  | zero => intro x0 x1 x2 x3 x4 x5 h; exact s_none
  | succ n ih => intro x0 x1 x2 x3 x4 x5 h; exact t_X1_leftAtWorst_24 o f  ih x0 x1 x2 x3 x4 x5 h
set_option maxRecDepth 20000 in
theorem t_X1_leftAtWorst_0 {X : Cx} (o : Ok X RX1 cX1_leftAtWorst 7 6 134 0 0 (some .int)) (f : Nat)  (x0 : Nat) (x1 : Int32) (x2 : Int32) (h : Hp) : Sim X (z_Zi X 0 0) 0 0 0 [(0, rf (xG X) x0), (1, .int x1), (2, .int x2)] [] h (f_X1_leftAtWorst f x0 x1 x2 h) := by
  unfold f_X1_leftAtWorst
  refine s_aload_n o 0 rfl dX1_leftAtWorst_0 (q := 1) rfl ?_
  refine s_gr o kf_X1_9 dX1_leftAtWorst_1 (q := 4) rfl (fun a1_ => ?_)
  refine s_iload_n o 1 rfl dX1_leftAtWorst_4 (q := 5) rfl ?_
  refine s_iald o dX1_leftAtWorst_5 (q := 6) rfl (fun v2_ => ?_)
  refine s_istore_n o [1, 2, 3, 0] (lv' := [(0, rf (xG X) x0), (1, .int x1), (2, .int x2), (3, .int v2_)]) rfl dX1_leftAtWorst_6 (by decide) (q := 7) rfl ?_
  refine s_aload_n o 0 rfl dX1_leftAtWorst_7 (q := 8) rfl ?_
  refine s_iload_n o 1 rfl dX1_leftAtWorst_8 (q := 9) rfl ?_
  refine s_iload_n o 2 rfl dX1_leftAtWorst_9 (q := 10) rfl ?_
  refine s_sipush o dX1_leftAtWorst_10 (v := (2000 : Int32)) (by decide) (q := 13) rfl ?_
  refine s_sipush o dX1_leftAtWorst_13 (v := (2000 : Int32)) (by decide) (q := 16) rfl ?_
  refine s_on (fun hk3_ => ?_)
  refine s_bi (fun r0 hr0 => runV o hk3_ cv_X1_101 (c_X1_leftWith (xG X) f x0 x1 x2 (2000 : Int32) (2000 : Int32) h (xl X) r0 hr0) ⟨Nat.le_of_ble_eq_true rfl, Nat.le_of_ble_eq_true rfl⟩ rfl rfl (Nat.le_of_ble_eq_true rfl) dX1_leftAtWorst_16 ⟨Nat.le_of_ble_eq_true rfl, Nat.le_of_ble_eq_true rfl⟩) (q := 19) rfl (cs' := 0) rfl (sl' := 0) rfl (fun v5_ h4_ => ?_)
  refine s_istore o [1, 2, 3, 4, 0] (lv' := [(0, rf (xG X) x0), (1, .int x1), (2, .int x2), (3, .int v2_), (4, .int v5_)]) rfl dX1_leftAtWorst_19 (by decide) (q := 21) rfl ?_
  refine s_iconst o dX1_leftAtWorst_21 (v := (0 : Int32)) (by decide) (q := 22) rfl ?_
  refine s_istore o [1, 2, 3, 4, 5, 0] (lv' := [(0, rf (xG X) x0), (1, .int x1), (2, .int x2), (3, .int v2_), (4, .int v5_), (5, .int (0 : Int32))]) rfl dX1_leftAtWorst_22 (by decide) (q := 24) rfl ?_
  exact s_sub [0, 1, 2, 3, 4, 5] rfl (tl_X1_leftAtWorst_24 o f f x0 x1 x2 v2_ v5_ (0 : Int32) h4_)
theorem c_X1_leftAtWorst (G : Gx) (f : Nat) (x0 : Nat) (x1 : Int32) (x2 : Int32) (h : Hp) : z_M z_qi G yX1_leftAtWorst cX1_leftAtWorst 7 (some .int) 6 134 0 0 [rf G x0, .int x1, .int x2] h (f_X1_leftAtWorst f x0 x1 x2 h) :=
  z_met (by decide +kernel) (Nat.le_of_ble_eq_true rfl) (fun X hG hn o hnm => by
    subst hG
    show Sim X (z_Zi X 0 0) 0 0 0 [(0, rf (xG X) x0), (1, .int x1), (2, .int x2)] [] h _
    exact s_sub [0, 1, 2] rfl (t_X1_leftAtWorst_0 o f x0 x1 x2 h))
/-! SixMaps$Judge.ofHundred(IZ)I -/
def b_X1_ofHundred_41 (f : Nat) (k14 : Nat → Int32 → Int32 → Int32 → Int32 → Hp → Option (Int32 × Hp)) (x0 : Nat) (x1 : Int32) (x2 : Int32) (x3 : Int32) (x4 : Int32) (h : Hp) : Option (Int32 × Hp) :=
  lt (x4 + (1 : Int32)) fun v1_ =>
  k14 x0 x1 x2 x3 v1_ h
def b_X1_ofHundred_14 (f : Nat) (k14 : Nat → Int32 → Int32 → Int32 → Int32 → Hp → Option (Int32 × Hp)) (x0 : Nat) (x1 : Int32) (x2 : Int32) (x3 : Int32) (x4 : Int32) (h : Hp) : Option (Int32 × Hp) :=
  (q_gi h x0 1 12).bind fun v1_ =>
  if v1_ ≤ x4 then
  ((q_gi h x0 1 12).bind fun v2_ =>
  q_nz v2_ (
  some ((((100 : Int32) * x3) / v2_), h)))
  else
  ((q_gr h x0 1 7).bind fun a3_ =>
  (q_ai h a3_ 9 x4).bind fun v4_ =>
  bi (f_X5_isIn f v4_ x1 h) fun v6_ h5_ =>
  if ¬ v6_ = x2 then
  (b_X1_ofHundred_41 f k14 x0 x1 x2 x3 x4 h5_)
  else
  (lt (x3 + (1 : Int32)) fun v7_ =>
  b_X1_ofHundred_41 f k14 x0 x1 x2 v7_ x4 h5_))
def l_X1_ofHundred_14 (f : Nat)  : Nat → Nat → Int32 → Int32 → Int32 → Int32 → Hp → Option (Int32 × Hp)
  | 0, _, _, _, _, _, _ => none
  | n + 1, x0, x1, x2, x3, x4, h => b_X1_ofHundred_14 f  (l_X1_ofHundred_14 f  n) x0 x1 x2 x3 x4 h
def f_X1_ofHundred (f : Nat)  (x0 : Nat) (x1 : Int32) (x2 : Int32) (h : Hp) : Option (Int32 × Hp) :=
  (q_gi h x0 1 12).bind fun v1_ =>
  if ¬ v1_ = 0 then
  (l_X1_ofHundred_14 f f x0 x1 x2 (0 : Int32) (0 : Int32) h)
  else
  (some ((-1 : Int32), h))
set_option maxRecDepth 20000 in
theorem t_X1_ofHundred_41 {X : Cx} (o : Ok X RX1 cX1_ofHundred 5 1 21 0 0 (some .int)) (f : Nat) {k14 : Nat → Int32 → Int32 → Int32 → Int32 → Hp → Option (Int32 × Hp)} (hk14 : ∀ (x0 : Nat) (x1 : Int32) (x2 : Int32) (x3 : Int32) (x4 : Int32) (h : Hp), Sim X (z_Zi X 0 0) 0 0 14 [(0, rf (xG X) x0), (1, .int x1), (2, .int x2), (3, .int x3), (4, .int x4)] [] h (k14 x0 x1 x2 x3 x4 h)) (x0 : Nat) (x1 : Int32) (x2 : Int32) (x3 : Int32) (x4 : Int32) (h : Hp) : Sim X (z_Zi X 0 0) 0 0 41 [(0, rf (xG X) x0), (1, .int x1), (2, .int x2), (3, .int x3), (4, .int x4)] [] h (b_X1_ofHundred_41 f k14 x0 x1 x2 x3 x4 h) := by
  unfold b_X1_ofHundred_41
  refine s_iinc o 4 rfl (v := (1 : Int32)) (by decide) [1, 2, 3, 4, 0] (lv' := fun v1_ => [(0, rf (xG X) x0), (1, .int x1), (2, .int x2), (3, .int x3), (4, .int v1_)]) (fun _ => rfl) dX1_ofHundred_41 (by decide) (q := 44) rfl (fun v1_ => ?_)
  refine s_goto o (tgt := 14) dX1_ofHundred_44 (by decide) ?_
  exact s_sub [0, 1, 2, 3, 4] rfl (hk14 x0 x1 x2 x3 v1_ h)
set_option maxRecDepth 20000 in
theorem t_X1_ofHundred_14 {X : Cx} (o : Ok X RX1 cX1_ofHundred 5 1 21 0 0 (some .int)) (f : Nat) {k14 : Nat → Int32 → Int32 → Int32 → Int32 → Hp → Option (Int32 × Hp)} (hk14 : ∀ (x0 : Nat) (x1 : Int32) (x2 : Int32) (x3 : Int32) (x4 : Int32) (h : Hp), Sim X (z_Zi X 0 0) 0 0 14 [(0, rf (xG X) x0), (1, .int x1), (2, .int x2), (3, .int x3), (4, .int x4)] [] h (k14 x0 x1 x2 x3 x4 h)) (x0 : Nat) (x1 : Int32) (x2 : Int32) (x3 : Int32) (x4 : Int32) (h : Hp) : Sim X (z_Zi X 0 0) 0 0 14 [(0, rf (xG X) x0), (1, .int x1), (2, .int x2), (3, .int x3), (4, .int x4)] [] h (b_X1_ofHundred_14 f k14 x0 x1 x2 x3 x4 h) := by
  unfold b_X1_ofHundred_14
  refine s_iload o 4 rfl dX1_ofHundred_14 (q := 16) rfl ?_
  refine s_aload_n o 0 rfl dX1_ofHundred_16 (q := 17) rfl ?_
  refine s_gi o kf_X1_57 dX1_ofHundred_17 (q := 20) rfl (fun v1_ => ?_)
  refine s_ic_ge o (tgt := 47) dX1_ofHundred_20 (by decide) (q := 23) rfl ?_ ?_
  · refine s_bipush o dX1_ofHundred_47 (v := (100 : Int32)) (by decide) (q := 49) rfl ?_
    refine s_iload_n o 3 rfl dX1_ofHundred_49 (q := 50) rfl ?_
    refine s_imul o dX1_ofHundred_50 (q := 51) rfl ?_
    refine s_aload_n o 0 rfl dX1_ofHundred_51 (q := 52) rfl ?_
    refine s_gi o kf_X1_57 dX1_ofHundred_52 (q := 55) rfl (fun v2_ => ?_)
    refine s_idiv o dX1_ofHundred_55 (q := 56) rfl ?_
    exact s_iret o dX1_ofHundred_56
  · refine s_aload_n o 0 rfl dX1_ofHundred_23 (q := 24) rfl ?_
    refine s_gr o kf_X1_33 dX1_ofHundred_24 (q := 27) rfl (fun a3_ => ?_)
    refine s_iload o 4 rfl dX1_ofHundred_27 (q := 29) rfl ?_
    refine s_iald o dX1_ofHundred_29 (q := 30) rfl (fun v4_ => ?_)
    refine s_iload_n o 1 rfl dX1_ofHundred_30 (q := 31) rfl ?_
    refine s_bi (fun r0 hr0 => runN o cn_X1_105 (c_X5_isIn (xG X) f v4_ x1 h (xl X) r0 hr0) ⟨Nat.le_of_ble_eq_true rfl, Nat.le_of_ble_eq_true rfl⟩ rfl rfl (Nat.le_of_ble_eq_true rfl) dX1_ofHundred_31 ⟨Nat.le_of_ble_eq_true rfl, Nat.le_of_ble_eq_true rfl⟩) (q := 34) rfl (cs' := 0) rfl (sl' := 0) rfl (fun v6_ h5_ => ?_)
    refine s_iload_n o 2 rfl dX1_ofHundred_34 (q := 35) rfl ?_
    refine s_ic_ne o (tgt := 41) dX1_ofHundred_35 (by decide) (q := 38) rfl ?_ ?_
    · exact s_sub [0, 1, 2, 3, 4] rfl (t_X1_ofHundred_41 o f hk14 x0 x1 x2 x3 x4 h5_)
    · refine s_iinc o 3 rfl (v := (1 : Int32)) (by decide) [1, 2, 3, 0, 4] (lv' := fun v7_ => [(0, rf (xG X) x0), (1, .int x1), (2, .int x2), (3, .int v7_), (4, .int x4)]) (fun _ => rfl) dX1_ofHundred_38 (by decide) (q := 41) rfl (fun v7_ => ?_)
      exact s_sub [0, 1, 2, 3, 4] rfl (t_X1_ofHundred_41 o f hk14 x0 x1 x2 v7_ x4 h5_)
theorem tl_X1_ofHundred_14 {X : Cx} (o : Ok X RX1 cX1_ofHundred 5 1 21 0 0 (some .int)) (f : Nat)  : ∀ (n : Nat) (x0 : Nat) (x1 : Int32) (x2 : Int32) (x3 : Int32) (x4 : Int32) (h : Hp), Sim X (z_Zi X 0 0) 0 0 14 [(0, rf (xG X) x0), (1, .int x1), (2, .int x2), (3, .int x3), (4, .int x4)] [] h (l_X1_ofHundred_14 f n x0 x1 x2 x3 x4 h) := by
  intro n
  induction n with
  | zero => intro x0 x1 x2 x3 x4 h; exact s_none
  | succ n ih => intro x0 x1 x2 x3 x4 h; exact t_X1_ofHundred_14 o f  ih x0 x1 x2 x3 x4 h
set_option maxRecDepth 20000 in
theorem t_X1_ofHundred_0 {X : Cx} (o : Ok X RX1 cX1_ofHundred 5 1 21 0 0 (some .int)) (f : Nat)  (x0 : Nat) (x1 : Int32) (x2 : Int32) (h : Hp) : Sim X (z_Zi X 0 0) 0 0 0 [(0, rf (xG X) x0), (1, .int x1), (2, .int x2)] [] h (f_X1_ofHundred f x0 x1 x2 h) := by
  unfold f_X1_ofHundred
  refine s_aload_n o 0 rfl dX1_ofHundred_0 (q := 1) rfl ?_
  refine s_gi o kf_X1_57 dX1_ofHundred_1 (q := 4) rfl (fun v1_ => ?_)
  refine s_if_ne o (tgt := 9) dX1_ofHundred_4 (by decide) (q := 7) rfl ?_ ?_
  · refine s_iconst o dX1_ofHundred_9 (v := (0 : Int32)) (by decide) (q := 10) rfl ?_
    refine s_istore_n o [1, 2, 3, 0] (lv' := [(0, rf (xG X) x0), (1, .int x1), (2, .int x2), (3, .int (0 : Int32))]) rfl dX1_ofHundred_10 (by decide) (q := 11) rfl ?_
    refine s_iconst o dX1_ofHundred_11 (v := (0 : Int32)) (by decide) (q := 12) rfl ?_
    refine s_istore o [1, 2, 3, 4, 0] (lv' := [(0, rf (xG X) x0), (1, .int x1), (2, .int x2), (3, .int (0 : Int32)), (4, .int (0 : Int32))]) rfl dX1_ofHundred_12 (by decide) (q := 14) rfl ?_
    exact s_sub [0, 1, 2, 3, 4] rfl (tl_X1_ofHundred_14 o f f x0 x1 x2 (0 : Int32) (0 : Int32) h)
  · refine s_iconst o dX1_ofHundred_7 (v := (-1 : Int32)) (by decide) (q := 8) rfl ?_
    exact s_iret o dX1_ofHundred_8
theorem c_X1_ofHundred (G : Gx) (f : Nat) (x0 : Nat) (x1 : Int32) (x2 : Int32) (h : Hp) : z_M z_qi G yX1_ofHundred cX1_ofHundred 5 (some .int) 1 21 0 0 [rf G x0, .int x1, .int x2] h (f_X1_ofHundred f x0 x1 x2 h) :=
  z_met (by decide +kernel) (Nat.le_of_ble_eq_true rfl) (fun X hG hn o hnm => by
    subst hG
    show Sim X (z_Zi X 0 0) 0 0 0 [(0, rf (xG X) x0), (1, .int x1), (2, .int x2)] [] h _
    exact s_sub [0, 1, 2] rfl (t_X1_ofHundred_0 o f x0 x1 x2 h))
/-! SixMaps$Judge.takeMaps(LSixMaps$Island;)V -/
def f_X1_takeMaps (f : Nat)  (x0 : Nat) (x1 : Nat) (h : Hp) : Option (Hp) :=
  (q_pr h x0 1 9 x1).bind fun h1_ =>
  (q_gr h1_ x1 0 2).bind fun a2_ =>
  (q_gr h1_ x0 1 1).bind fun a3_ =>
  (q_gr h1_ x0 1 1).bind fun a4_ =>
  (q_al h1_ a4_).bind fun v5_ =>
  (q_cp h1_ a2_ (0 : Int32) a3_ (0 : Int32) v5_).bind fun h6_ =>
  (q_gr h6_ x1 0 3).bind fun a7_ =>
  (q_gr h6_ x0 1 2).bind fun a8_ =>
  (q_gr h6_ x0 1 2).bind fun a9_ =>
  (q_al h6_ a9_).bind fun v10_ =>
  (q_cp h6_ a7_ (0 : Int32) a8_ (0 : Int32) v10_).bind fun h11_ =>
  some h11_
set_option maxRecDepth 20000 in
theorem t_X1_takeMaps_0 {X : Cx} (o : Ok X RX1 cX1_takeMaps 2 1 18 0 0 none) (f : Nat)  (x0 : Nat) (x1 : Nat) (h : Hp) : Sim X (z_Zv X 0 0) 0 0 0 [(0, rf (xG X) x0), (1, rf (xG X) x1)] [] h (f_X1_takeMaps f x0 x1 h) := by
  unfold f_X1_takeMaps
  refine s_aload_n o 0 rfl dX1_takeMaps_0 (q := 1) rfl ?_
  refine s_aload_n o 1 rfl dX1_takeMaps_1 (q := 2) rfl ?_
  refine s_pr o kf_X1_42 (fun _ => rfl) (fun _ => rfl) dX1_takeMaps_2 (q := 5) rfl (fun h1_ => ?_)
  refine s_aload_n o 1 rfl dX1_takeMaps_5 (q := 6) rfl ?_
  refine s_gr o kf_X1_99 dX1_takeMaps_6 (q := 9) rfl (fun a2_ => ?_)
  refine s_iconst o dX1_takeMaps_9 (v := (0 : Int32)) (by decide) (q := 10) rfl ?_
  refine s_aload_n o 0 rfl dX1_takeMaps_10 (q := 11) rfl ?_
  refine s_gr o kf_X1_15 dX1_takeMaps_11 (q := 14) rfl (fun a3_ => ?_)
  refine s_iconst o dX1_takeMaps_14 (v := (0 : Int32)) (by decide) (q := 15) rfl ?_
  refine s_aload_n o 0 rfl dX1_takeMaps_15 (q := 16) rfl ?_
  refine s_gr o kf_X1_15 dX1_takeMaps_16 (q := 19) rfl (fun a4_ => ?_)
  refine s_alen o dX1_takeMaps_19 (q := 20) rfl (fun v5_ => ?_)
  refine s_copy o ac_X1_77 (Nat.le_of_ble_eq_true rfl) (Nat.le_of_ble_eq_true rfl) dX1_takeMaps_20 (q := 23) rfl (fun h6_ => ?_)
  refine s_aload_n o 1 rfl dX1_takeMaps_23 (q := 24) rfl ?_
  refine s_gr o kf_X1_100 dX1_takeMaps_24 (q := 27) rfl (fun a7_ => ?_)
  refine s_iconst o dX1_takeMaps_27 (v := (0 : Int32)) (by decide) (q := 28) rfl ?_
  refine s_aload_n o 0 rfl dX1_takeMaps_28 (q := 29) rfl ?_
  refine s_gr o kf_X1_18 dX1_takeMaps_29 (q := 32) rfl (fun a8_ => ?_)
  refine s_iconst o dX1_takeMaps_32 (v := (0 : Int32)) (by decide) (q := 33) rfl ?_
  refine s_aload_n o 0 rfl dX1_takeMaps_33 (q := 34) rfl ?_
  refine s_gr o kf_X1_18 dX1_takeMaps_34 (q := 37) rfl (fun a9_ => ?_)
  refine s_alen o dX1_takeMaps_37 (q := 38) rfl (fun v10_ => ?_)
  refine s_copy o ac_X1_77 (Nat.le_of_ble_eq_true rfl) (Nat.le_of_ble_eq_true rfl) dX1_takeMaps_38 (q := 41) rfl (fun h11_ => ?_)
  exact s_vret o dX1_takeMaps_41
theorem c_X1_takeMaps (G : Gx) (f : Nat) (x0 : Nat) (x1 : Nat) (h : Hp) : z_M z_qv G yX1_takeMaps cX1_takeMaps 2 none 1 18 0 0 [rf G x0, rf G x1] h (f_X1_takeMaps f x0 x1 h) :=
  z_met (by decide +kernel) (Nat.le_of_ble_eq_true rfl) (fun X hG hn o hnm => by
    subst hG
    show Sim X (z_Zv X 0 0) 0 0 0 [(0, rf (xG X) x0), (1, rf (xG X) x1)] [] h _
    exact s_sub [0, 1] rfl (t_X1_takeMaps_0 o f x0 x1 h))
/-! SixMaps$Judge.unlikePlaces()I -/
def b_X1_unlikePlaces_89 (f : Nat)  (y0 : Int32) (h : Hp) : Option (Int32 × Hp) :=
  some (y0, h)
def b_X1_unlikePlaces_69 (f : Nat) (k4 : Nat → Int32 → Int32 → Hp → Option (Int32 × Hp)) (x0 : Nat) (x2 : Int32) (y0 : Int32) (y1 : Int32) (h : Hp) : Option (Int32 × Hp) :=
  lt (y0 + y1) fun v1_ =>
  lt (x2 + (1 : Int32)) fun v2_ =>
  k4 x0 v1_ v2_ h
def b_X1_unlikePlaces_52 (f : Nat) (k4 : Nat → Int32 → Int32 → Hp → Option (Int32 × Hp)) (k27 : Nat → Int32 → Int32 → Int32 → Int32 → Hp → Option (Int32 × Hp)) (x0 : Nat) (x1 : Int32) (x2 : Int32) (x4 : Int32) (y0 : Int32) (h : Hp) : Option (Int32 × Hp) :=
  lt (x4 + (1 : Int32)) fun v1_ =>
  k27 x0 x1 x2 y0 v1_ h
def b_X1_unlikePlaces_51 (f : Nat) (k4 : Nat → Int32 → Int32 → Hp → Option (Int32 × Hp)) (k27 : Nat → Int32 → Int32 → Int32 → Int32 → Hp → Option (Int32 × Hp)) (x0 : Nat) (x1 : Int32) (x2 : Int32) (x4 : Int32) (h : Hp) : Option (Int32 × Hp) :=
  b_X1_unlikePlaces_52 f k4 k27 x0 x1 x2 x4 (0 : Int32) h
def b_X1_unlikePlaces_27 (f : Nat) (k4 : Nat → Int32 → Int32 → Hp → Option (Int32 × Hp)) (k27 : Nat → Int32 → Int32 → Int32 → Int32 → Hp → Option (Int32 × Hp)) (x0 : Nat) (x1 : Int32) (x2 : Int32) (x3 : Int32) (x4 : Int32) (h : Hp) : Option (Int32 × Hp) :=
  if x2 ≤ x4 then
  (if x3 = 0 then
  (b_X1_unlikePlaces_69 f k4 x0 x2 x1 (0 : Int32) h)
  else
  (b_X1_unlikePlaces_69 f k4 x0 x2 x1 (1 : Int32) h))
  else
  (if x3 = 0 then
  (b_X1_unlikePlaces_51 f k4 k27 x0 x1 x2 x4 h)
  else
  (q_on h x0 1 (
  bi (f_X1_areSamePlace f x0 x2 x4 h) fun v3_ h2_ =>
  if ¬ v3_ = 0 then
  (b_X1_unlikePlaces_51 f k4 k27 x0 x1 x2 x4 h2_)
  else
  (b_X1_unlikePlaces_52 f k4 k27 x0 x1 x2 x4 (1 : Int32) h2_))))
def l_X1_unlikePlaces_27 (f : Nat) (k4 : Nat → Int32 → Int32 → Hp → Option (Int32 × Hp)) : Nat → Nat → Int32 → Int32 → Int32 → Int32 → Hp → Option (Int32 × Hp)
  | 0, _, _, _, _, _, _ => none
  | n + 1, x0, x1, x2, x3, x4, h => b_X1_unlikePlaces_27 f k4 (l_X1_unlikePlaces_27 f k4 n) x0 x1 x2 x3 x4 h
def b_X1_unlikePlaces_4 (f : Nat) (k4 : Nat → Int32 → Int32 → Hp → Option (Int32 × Hp)) (x0 : Nat) (x1 : Int32) (x2 : Int32) (h : Hp) : Option (Int32 × Hp) :=
  (q_gi h x0 1 12).bind fun v1_ =>
  if v1_ ≤ x2 then
  ((q_gi h x0 1 12).bind fun v2_ =>
  if ¬ v2_ = 0 then
  (b_X1_unlikePlaces_89 f x1 h)
  else
  (b_X1_unlikePlaces_89 f (-1 : Int32) h))
  else
  (q_on h x0 1 (
  bi (f_X1_isPlace f x0 x2 h) fun v5_ h4_ =>
  if ¬ v5_ = 0 then
  (l_X1_unlikePlaces_27 f k4 f x0 x1 x2 (1 : Int32) (0 : Int32) h4_)
  else
  (some ((-1 : Int32), h4_))))
def l_X1_unlikePlaces_4 (f : Nat)  : Nat → Nat → Int32 → Int32 → Hp → Option (Int32 × Hp)
  | 0, _, _, _, _ => none
  | n + 1, x0, x1, x2, h => b_X1_unlikePlaces_4 f  (l_X1_unlikePlaces_4 f  n) x0 x1 x2 h
def f_X1_unlikePlaces (f : Nat)  (x0 : Nat) (h : Hp) : Option (Int32 × Hp) :=
  l_X1_unlikePlaces_4 f f x0 (0 : Int32) (0 : Int32) h
set_option maxRecDepth 20000 in
theorem t_X1_unlikePlaces_89 {X : Cx} (o : Ok X RX1 cX1_unlikePlaces 5 2 43 0 0 (some .int)) (f : Nat)  (y0 : Int32) (h : Hp) : Sim X (z_Zi X 0 0) 0 0 89 [] [.int y0] h (b_X1_unlikePlaces_89 f y0 h) := by
  unfold b_X1_unlikePlaces_89
  exact s_iret o dX1_unlikePlaces_89
set_option maxRecDepth 20000 in
theorem t_X1_unlikePlaces_69 {X : Cx} (o : Ok X RX1 cX1_unlikePlaces 5 2 43 0 0 (some .int)) (f : Nat) {k4 : Nat → Int32 → Int32 → Hp → Option (Int32 × Hp)} (hk4 : ∀ (x0 : Nat) (x1 : Int32) (x2 : Int32) (h : Hp), Sim X (z_Zi X 0 0) 0 0 4 [(0, rf (xG X) x0), (1, .int x1), (2, .int x2)] [] h (k4 x0 x1 x2 h)) (x0 : Nat) (x2 : Int32) (y0 : Int32) (y1 : Int32) (h : Hp) : Sim X (z_Zi X 0 0) 0 0 69 [(0, rf (xG X) x0), (2, .int x2)] [.int y1, .int y0] h (b_X1_unlikePlaces_69 f k4 x0 x2 y0 y1 h) := by
  unfold b_X1_unlikePlaces_69
  refine s_iadd o dX1_unlikePlaces_69 (q := 70) rfl ?_
  refine s_let (fun v1_ => ?_)
  refine s_istore_n o [1, 0, 2] (lv' := [(0, rf (xG X) x0), (1, .int v1_), (2, .int x2)]) rfl dX1_unlikePlaces_70 (by decide) (q := 71) rfl ?_
  refine s_iinc o 2 rfl (v := (1 : Int32)) (by decide) [1, 2, 0] (lv' := fun v2_ => [(0, rf (xG X) x0), (1, .int v1_), (2, .int v2_)]) (fun _ => rfl) dX1_unlikePlaces_71 (by decide) (q := 74) rfl (fun v2_ => ?_)
  refine s_goto o (tgt := 4) dX1_unlikePlaces_74 (by decide) ?_
  exact s_sub [0, 1, 2] rfl (hk4 x0 v1_ v2_ h)
set_option maxRecDepth 20000 in
theorem t_X1_unlikePlaces_52 {X : Cx} (o : Ok X RX1 cX1_unlikePlaces 5 2 43 0 0 (some .int)) (f : Nat) {k4 : Nat → Int32 → Int32 → Hp → Option (Int32 × Hp)} (hk4 : ∀ (x0 : Nat) (x1 : Int32) (x2 : Int32) (h : Hp), Sim X (z_Zi X 0 0) 0 0 4 [(0, rf (xG X) x0), (1, .int x1), (2, .int x2)] [] h (k4 x0 x1 x2 h)) {k27 : Nat → Int32 → Int32 → Int32 → Int32 → Hp → Option (Int32 × Hp)} (hk27 : ∀ (x0 : Nat) (x1 : Int32) (x2 : Int32) (x3 : Int32) (x4 : Int32) (h : Hp), Sim X (z_Zi X 0 0) 0 0 27 [(0, rf (xG X) x0), (1, .int x1), (2, .int x2), (3, .int x3), (4, .int x4)] [] h (k27 x0 x1 x2 x3 x4 h)) (x0 : Nat) (x1 : Int32) (x2 : Int32) (x4 : Int32) (y0 : Int32) (h : Hp) : Sim X (z_Zi X 0 0) 0 0 52 [(0, rf (xG X) x0), (1, .int x1), (2, .int x2), (4, .int x4)] [.int y0] h (b_X1_unlikePlaces_52 f k4 k27 x0 x1 x2 x4 y0 h) := by
  unfold b_X1_unlikePlaces_52
  refine s_istore_n o [1, 2, 3, 0, 4] (lv' := [(0, rf (xG X) x0), (1, .int x1), (2, .int x2), (3, .int y0), (4, .int x4)]) rfl dX1_unlikePlaces_52 (by decide) (q := 53) rfl ?_
  refine s_iinc o 4 rfl (v := (1 : Int32)) (by decide) [1, 2, 3, 4, 0] (lv' := fun v1_ => [(0, rf (xG X) x0), (1, .int x1), (2, .int x2), (3, .int y0), (4, .int v1_)]) (fun _ => rfl) dX1_unlikePlaces_53 (by decide) (q := 56) rfl (fun v1_ => ?_)
  refine s_goto o (tgt := 27) dX1_unlikePlaces_56 (by decide) ?_
  exact s_sub [0, 1, 2, 3, 4] rfl (hk27 x0 x1 x2 y0 v1_ h)
set_option maxRecDepth 20000 in
theorem t_X1_unlikePlaces_51 {X : Cx} (o : Ok X RX1 cX1_unlikePlaces 5 2 43 0 0 (some .int)) (f : Nat) {k4 : Nat → Int32 → Int32 → Hp → Option (Int32 × Hp)} (hk4 : ∀ (x0 : Nat) (x1 : Int32) (x2 : Int32) (h : Hp), Sim X (z_Zi X 0 0) 0 0 4 [(0, rf (xG X) x0), (1, .int x1), (2, .int x2)] [] h (k4 x0 x1 x2 h)) {k27 : Nat → Int32 → Int32 → Int32 → Int32 → Hp → Option (Int32 × Hp)} (hk27 : ∀ (x0 : Nat) (x1 : Int32) (x2 : Int32) (x3 : Int32) (x4 : Int32) (h : Hp), Sim X (z_Zi X 0 0) 0 0 27 [(0, rf (xG X) x0), (1, .int x1), (2, .int x2), (3, .int x3), (4, .int x4)] [] h (k27 x0 x1 x2 x3 x4 h)) (x0 : Nat) (x1 : Int32) (x2 : Int32) (x4 : Int32) (h : Hp) : Sim X (z_Zi X 0 0) 0 0 51 [(0, rf (xG X) x0), (1, .int x1), (2, .int x2), (4, .int x4)] [] h (b_X1_unlikePlaces_51 f k4 k27 x0 x1 x2 x4 h) := by
  unfold b_X1_unlikePlaces_51
  refine s_iconst o dX1_unlikePlaces_51 (v := (0 : Int32)) (by decide) (q := 52) rfl ?_
  exact s_sub [0, 1, 2, 3] rfl (t_X1_unlikePlaces_52 o f hk4 hk27 x0 x1 x2 x4 (0 : Int32) h)
set_option maxRecDepth 20000 in
theorem t_X1_unlikePlaces_27 {X : Cx} (o : Ok X RX1 cX1_unlikePlaces 5 2 43 0 0 (some .int)) (f : Nat) {k4 : Nat → Int32 → Int32 → Hp → Option (Int32 × Hp)} (hk4 : ∀ (x0 : Nat) (x1 : Int32) (x2 : Int32) (h : Hp), Sim X (z_Zi X 0 0) 0 0 4 [(0, rf (xG X) x0), (1, .int x1), (2, .int x2)] [] h (k4 x0 x1 x2 h)) {k27 : Nat → Int32 → Int32 → Int32 → Int32 → Hp → Option (Int32 × Hp)} (hk27 : ∀ (x0 : Nat) (x1 : Int32) (x2 : Int32) (x3 : Int32) (x4 : Int32) (h : Hp), Sim X (z_Zi X 0 0) 0 0 27 [(0, rf (xG X) x0), (1, .int x1), (2, .int x2), (3, .int x3), (4, .int x4)] [] h (k27 x0 x1 x2 x3 x4 h)) (x0 : Nat) (x1 : Int32) (x2 : Int32) (x3 : Int32) (x4 : Int32) (h : Hp) : Sim X (z_Zi X 0 0) 0 0 27 [(0, rf (xG X) x0), (1, .int x1), (2, .int x2), (3, .int x3), (4, .int x4)] [] h (b_X1_unlikePlaces_27 f k4 k27 x0 x1 x2 x3 x4 h) := by
  unfold b_X1_unlikePlaces_27
  refine s_iload o 4 rfl dX1_unlikePlaces_27 (q := 29) rfl ?_
  refine s_iload_n o 2 rfl dX1_unlikePlaces_29 (q := 30) rfl ?_
  refine s_ic_ge o (tgt := 59) dX1_unlikePlaces_30 (by decide) (q := 33) rfl ?_ ?_
  · refine s_iload_n o 1 rfl dX1_unlikePlaces_59 (q := 60) rfl ?_
    refine s_iload_n o 3 rfl dX1_unlikePlaces_60 (q := 61) rfl ?_
    refine s_if_eq o (tgt := 68) dX1_unlikePlaces_61 (by decide) (q := 64) rfl ?_ ?_
    · refine s_iconst o dX1_unlikePlaces_68 (v := (0 : Int32)) (by decide) (q := 69) rfl ?_
      exact s_sub [0, 2] rfl (t_X1_unlikePlaces_69 o f hk4 x0 x2 x1 (0 : Int32) h)
    · refine s_iconst o dX1_unlikePlaces_64 (v := (1 : Int32)) (by decide) (q := 65) rfl ?_
      refine s_goto o (tgt := 69) dX1_unlikePlaces_65 (by decide) ?_
      exact s_sub [0, 2] rfl (t_X1_unlikePlaces_69 o f hk4 x0 x2 x1 (1 : Int32) h)
  · refine s_iload_n o 3 rfl dX1_unlikePlaces_33 (q := 34) rfl ?_
    refine s_if_eq o (tgt := 51) dX1_unlikePlaces_34 (by decide) (q := 37) rfl ?_ ?_
    · exact s_sub [0, 1, 2, 4] rfl (t_X1_unlikePlaces_51 o f hk4 hk27 x0 x1 x2 x4 h)
    · refine s_aload_n o 0 rfl dX1_unlikePlaces_37 (q := 38) rfl ?_
      refine s_iload_n o 2 rfl dX1_unlikePlaces_38 (q := 39) rfl ?_
      refine s_iload o 4 rfl dX1_unlikePlaces_39 (q := 41) rfl ?_
      refine s_on (fun hk1_ => ?_)
      refine s_bi (fun r0 hr0 => runV o hk1_ cv_X1_212 (c_X1_areSamePlace (xG X) f x0 x2 x4 h (xl X) r0 hr0) ⟨Nat.le_of_ble_eq_true rfl, Nat.le_of_ble_eq_true rfl⟩ rfl rfl (Nat.le_of_ble_eq_true rfl) dX1_unlikePlaces_41 ⟨Nat.le_of_ble_eq_true rfl, Nat.le_of_ble_eq_true rfl⟩) (q := 44) rfl (cs' := 0) rfl (sl' := 0) rfl (fun v3_ h2_ => ?_)
      refine s_if_ne o (tgt := 51) dX1_unlikePlaces_44 (by decide) (q := 47) rfl ?_ ?_
      · exact s_sub [0, 1, 2, 4] rfl (t_X1_unlikePlaces_51 o f hk4 hk27 x0 x1 x2 x4 h2_)
      · refine s_iconst o dX1_unlikePlaces_47 (v := (1 : Int32)) (by decide) (q := 48) rfl ?_
        refine s_goto o (tgt := 52) dX1_unlikePlaces_48 (by decide) ?_
        exact s_sub [0, 1, 2, 4] rfl (t_X1_unlikePlaces_52 o f hk4 hk27 x0 x1 x2 x4 (1 : Int32) h2_)
theorem tl_X1_unlikePlaces_27 {X : Cx} (o : Ok X RX1 cX1_unlikePlaces 5 2 43 0 0 (some .int)) (f : Nat) {k4 : Nat → Int32 → Int32 → Hp → Option (Int32 × Hp)} (hk4 : ∀ (x0 : Nat) (x1 : Int32) (x2 : Int32) (h : Hp), Sim X (z_Zi X 0 0) 0 0 4 [(0, rf (xG X) x0), (1, .int x1), (2, .int x2)] [] h (k4 x0 x1 x2 h)) : ∀ (n : Nat) (x0 : Nat) (x1 : Int32) (x2 : Int32) (x3 : Int32) (x4 : Int32) (h : Hp), Sim X (z_Zi X 0 0) 0 0 27 [(0, rf (xG X) x0), (1, .int x1), (2, .int x2), (3, .int x3), (4, .int x4)] [] h (l_X1_unlikePlaces_27 f k4 n x0 x1 x2 x3 x4 h) := by
  intro n
  induction n with
  | zero => intro x0 x1 x2 x3 x4 h; exact s_none
  | succ n ih => intro x0 x1 x2 x3 x4 h; exact t_X1_unlikePlaces_27 o f hk4 ih x0 x1 x2 x3 x4 h
set_option maxRecDepth 20000 in
theorem t_X1_unlikePlaces_4 {X : Cx} (o : Ok X RX1 cX1_unlikePlaces 5 2 43 0 0 (some .int)) (f : Nat) {k4 : Nat → Int32 → Int32 → Hp → Option (Int32 × Hp)} (hk4 : ∀ (x0 : Nat) (x1 : Int32) (x2 : Int32) (h : Hp), Sim X (z_Zi X 0 0) 0 0 4 [(0, rf (xG X) x0), (1, .int x1), (2, .int x2)] [] h (k4 x0 x1 x2 h)) (x0 : Nat) (x1 : Int32) (x2 : Int32) (h : Hp) : Sim X (z_Zi X 0 0) 0 0 4 [(0, rf (xG X) x0), (1, .int x1), (2, .int x2)] [] h (b_X1_unlikePlaces_4 f k4 x0 x1 x2 h) := by
  unfold b_X1_unlikePlaces_4
  refine s_iload_n o 2 rfl dX1_unlikePlaces_4 (q := 5) rfl ?_
  refine s_aload_n o 0 rfl dX1_unlikePlaces_5 (q := 6) rfl ?_
  refine s_gi o kf_X1_57 dX1_unlikePlaces_6 (q := 9) rfl (fun v1_ => ?_)
  refine s_ic_ge o (tgt := 77) dX1_unlikePlaces_9 (by decide) (q := 12) rfl ?_ ?_
  · refine s_aload_n o 0 rfl dX1_unlikePlaces_77 (q := 78) rfl ?_
    refine s_gi o kf_X1_57 dX1_unlikePlaces_78 (q := 81) rfl (fun v2_ => ?_)
    refine s_if_ne o (tgt := 88) dX1_unlikePlaces_81 (by decide) (q := 84) rfl ?_ ?_
    · refine s_iload_n o 1 rfl dX1_unlikePlaces_88 (q := 89) rfl ?_
      exact s_sub [] rfl (t_X1_unlikePlaces_89 o f x1 h)
    · refine s_iconst o dX1_unlikePlaces_84 (v := (-1 : Int32)) (by decide) (q := 85) rfl ?_
      refine s_goto o (tgt := 89) dX1_unlikePlaces_85 (by decide) ?_
      exact s_sub [] rfl (t_X1_unlikePlaces_89 o f (-1 : Int32) h)
  · refine s_aload_n o 0 rfl dX1_unlikePlaces_12 (q := 13) rfl ?_
    refine s_iload_n o 2 rfl dX1_unlikePlaces_13 (q := 14) rfl ?_
    refine s_on (fun hk3_ => ?_)
    refine s_bi (fun r0 hr0 => runV o hk3_ cv_X1_203 (c_X1_isPlace (xG X) f x0 x2 h (xl X) r0 hr0) ⟨Nat.le_of_ble_eq_true rfl, Nat.le_of_ble_eq_true rfl⟩ rfl rfl (Nat.le_of_ble_eq_true rfl) dX1_unlikePlaces_14 ⟨Nat.le_of_ble_eq_true rfl, Nat.le_of_ble_eq_true rfl⟩) (q := 17) rfl (cs' := 0) rfl (sl' := 0) rfl (fun v5_ h4_ => ?_)
    refine s_if_ne o (tgt := 22) dX1_unlikePlaces_17 (by decide) (q := 20) rfl ?_ ?_
    · refine s_iconst o dX1_unlikePlaces_22 (v := (1 : Int32)) (by decide) (q := 23) rfl ?_
      refine s_istore_n o [1, 2, 3, 0] (lv' := [(0, rf (xG X) x0), (1, .int x1), (2, .int x2), (3, .int (1 : Int32))]) rfl dX1_unlikePlaces_23 (by decide) (q := 24) rfl ?_
      refine s_iconst o dX1_unlikePlaces_24 (v := (0 : Int32)) (by decide) (q := 25) rfl ?_
      refine s_istore o [1, 2, 3, 4, 0] (lv' := [(0, rf (xG X) x0), (1, .int x1), (2, .int x2), (3, .int (1 : Int32)), (4, .int (0 : Int32))]) rfl dX1_unlikePlaces_25 (by decide) (q := 27) rfl ?_
      exact s_sub [0, 1, 2, 3, 4] rfl (tl_X1_unlikePlaces_27 o f hk4 f x0 x1 x2 (1 : Int32) (0 : Int32) h4_)
    · refine s_iconst o dX1_unlikePlaces_20 (v := (-1 : Int32)) (by decide) (q := 21) rfl ?_
      exact s_iret o dX1_unlikePlaces_21
theorem tl_X1_unlikePlaces_4 {X : Cx} (o : Ok X RX1 cX1_unlikePlaces 5 2 43 0 0 (some .int)) (f : Nat)  : ∀ (n : Nat) (x0 : Nat) (x1 : Int32) (x2 : Int32) (h : Hp), Sim X (z_Zi X 0 0) 0 0 4 [(0, rf (xG X) x0), (1, .int x1), (2, .int x2)] [] h (l_X1_unlikePlaces_4 f n x0 x1 x2 h) := by
  intro n
  induction n with
  | zero => intro x0 x1 x2 h; exact s_none
  | succ n ih => intro x0 x1 x2 h; exact t_X1_unlikePlaces_4 o f  ih x0 x1 x2 h
set_option maxRecDepth 20000 in
theorem t_X1_unlikePlaces_0 {X : Cx} (o : Ok X RX1 cX1_unlikePlaces 5 2 43 0 0 (some .int)) (f : Nat)  (x0 : Nat) (h : Hp) : Sim X (z_Zi X 0 0) 0 0 0 [(0, rf (xG X) x0)] [] h (f_X1_unlikePlaces f x0 h) := by
  unfold f_X1_unlikePlaces
  refine s_iconst o dX1_unlikePlaces_0 (v := (0 : Int32)) (by decide) (q := 1) rfl ?_
  refine s_istore_n o [1, 0] (lv' := [(0, rf (xG X) x0), (1, .int (0 : Int32))]) rfl dX1_unlikePlaces_1 (by decide) (q := 2) rfl ?_
  refine s_iconst o dX1_unlikePlaces_2 (v := (0 : Int32)) (by decide) (q := 3) rfl ?_
  refine s_istore_n o [1, 2, 0] (lv' := [(0, rf (xG X) x0), (1, .int (0 : Int32)), (2, .int (0 : Int32))]) rfl dX1_unlikePlaces_3 (by decide) (q := 4) rfl ?_
  exact s_sub [0, 1, 2] rfl (tl_X1_unlikePlaces_4 o f f x0 (0 : Int32) (0 : Int32) h)
theorem c_X1_unlikePlaces (G : Gx) (f : Nat) (x0 : Nat) (h : Hp) : z_M z_qi G yX1_unlikePlaces cX1_unlikePlaces 5 (some .int) 2 43 0 0 [rf G x0] h (f_X1_unlikePlaces f x0 h) :=
  z_met (by decide +kernel) (Nat.le_of_ble_eq_true rfl) (fun X hG hn o hnm => by
    subst hG
    show Sim X (z_Zi X 0 0) 0 0 0 [(0, rf (xG X) x0)] [] h _
    exact s_sub [0] rfl (t_X1_unlikePlaces_0 o f x0 h))
/-! SixMaps$Judge.weigh(LSixMaps$Island;LSixMaps$Standing;I)V -/
def f_X1_weigh (f : Nat)  (x0 : Nat) (x1 : Nat) (x2 : Nat) (x3 : Int32) (h : Hp) : Option (Hp) :=
  q_on h x0 1 (
  (f_X1_takeMaps f x0 x1 h).bind fun h2_ =>
  (q_pr h2_ x0 1 10 x2).bind fun h3_ =>
  (q_gi h3_ x2 4 4).bind fun v4_ =>
  (q_pi h3_ x0 1 11 v4_).bind fun h5_ =>
  (q_gr h5_ x2 4 0).bind fun a6_ =>
  (q_gr h5_ x0 1 0).bind fun a7_ =>
  (q_cp h5_ a6_ (x3 * (6 : Int32)) a7_ (0 : Int32) (6 : Int32)).bind fun h8_ =>
  q_on h8_ x0 1 (
  (f_X1_collect f x0 h8_).bind fun h10_ =>
  some h10_))
set_option maxRecDepth 20000 in
theorem t_X1_weigh_0 {X : Cx} (o : Ok X RX1 cX1_weigh 4 5 110 0 0 none) (f : Nat)  (x0 : Nat) (x1 : Nat) (x2 : Nat) (x3 : Int32) (h : Hp) : Sim X (z_Zv X 0 0) 0 0 0 [(0, rf (xG X) x0), (1, rf (xG X) x1), (2, rf (xG X) x2), (3, .int x3)] [] h (f_X1_weigh f x0 x1 x2 x3 h) := by
  unfold f_X1_weigh
  refine s_aload_n o 0 rfl dX1_weigh_0 (q := 1) rfl ?_
  refine s_aload_n o 1 rfl dX1_weigh_1 (q := 2) rfl ?_
  refine s_on (fun hk1_ => ?_)
  refine s_callv (fun r0 hr0 => runV o hk1_ cv_X1_69 (c_X1_takeMaps (xG X) f x0 x1 h (xl X) r0 hr0) ⟨Nat.le_of_ble_eq_true rfl, Nat.le_of_ble_eq_true rfl⟩ rfl rfl (Nat.le_of_ble_eq_true rfl) dX1_weigh_2 ⟨Nat.le_of_ble_eq_true rfl, Nat.le_of_ble_eq_true rfl⟩) (q := 5) rfl (cs' := 0) rfl (sl' := 0) rfl (fun h2_ => ?_)
  refine s_aload_n o 0 rfl dX1_weigh_5 (q := 6) rfl ?_
  refine s_aload_n o 2 rfl dX1_weigh_6 (q := 7) rfl ?_
  refine s_pr o kf_X1_49 (fun _ => rfl) (fun _ => rfl) dX1_weigh_7 (q := 10) rfl (fun h3_ => ?_)
  refine s_aload_n o 0 rfl dX1_weigh_10 (q := 11) rfl ?_
  refine s_aload_n o 2 rfl dX1_weigh_11 (q := 12) rfl ?_
  refine s_gi o kf_X1_73 dX1_weigh_12 (q := 15) rfl (fun v4_ => ?_)
  refine s_pi o kf_X1_53 dX1_weigh_15 (q := 18) rfl (fun h5_ => ?_)
  refine s_aload_n o 2 rfl dX1_weigh_18 (q := 19) rfl ?_
  refine s_gr o kf_X1_76 dX1_weigh_19 (q := 22) rfl (fun a6_ => ?_)
  refine s_iload_n o 3 rfl dX1_weigh_22 (q := 23) rfl ?_
  refine s_bipush o dX1_weigh_23 (v := (6 : Int32)) (by decide) (q := 25) rfl ?_
  refine s_imul o dX1_weigh_25 (q := 26) rfl ?_
  refine s_aload_n o 0 rfl dX1_weigh_26 (q := 27) rfl ?_
  refine s_gr o kf_X1_9 dX1_weigh_27 (q := 30) rfl (fun a7_ => ?_)
  refine s_iconst o dX1_weigh_30 (v := (0 : Int32)) (by decide) (q := 31) rfl ?_
  refine s_bipush o dX1_weigh_31 (v := (6 : Int32)) (by decide) (q := 33) rfl ?_
  refine s_copy o ac_X1_77 (Nat.le_of_ble_eq_true rfl) (Nat.le_of_ble_eq_true rfl) dX1_weigh_33 (q := 36) rfl (fun h8_ => ?_)
  refine s_aload_n o 0 rfl dX1_weigh_36 (q := 37) rfl ?_
  refine s_on (fun hk9_ => ?_)
  refine s_callv (fun r0 hr0 => runV o hk9_ cv_X1_83 (c_X1_collect (xG X) f x0 h8_ (xl X) r0 hr0) ⟨Nat.le_of_ble_eq_true rfl, Nat.le_of_ble_eq_true rfl⟩ rfl rfl (Nat.le_of_ble_eq_true rfl) dX1_weigh_37 ⟨Nat.le_of_ble_eq_true rfl, Nat.le_of_ble_eq_true rfl⟩) (q := 40) rfl (cs' := 0) rfl (sl' := 0) rfl (fun h10_ => ?_)
  exact s_vret o dX1_weigh_40
theorem c_X1_weigh (G : Gx) (f : Nat) (x0 : Nat) (x1 : Nat) (x2 : Nat) (x3 : Int32) (h : Hp) : z_M z_qv G yX1_weigh cX1_weigh 4 none 5 110 0 0 [rf G x0, rf G x1, rf G x2, .int x3] h (f_X1_weigh f x0 x1 x2 x3 h) :=
  z_met (by decide +kernel) (Nat.le_of_ble_eq_true rfl) (fun X hG hn o hnm => by
    subst hG
    show Sim X (z_Zv X 0 0) 0 0 0 [(0, rf (xG X) x0), (1, rf (xG X) x1), (2, rf (xG X) x2), (3, .int x3)] [] h _
    exact s_sub [0, 1, 2, 3] rfl (t_X1_weigh_0 o f x0 x1 x2 x3 h))
/-! SixMaps$Judge.weighOwnAlone(LSixMaps$Island;I)V -/
def f_X1_weighOwnAlone (f : Nat)  (x0 : Nat) (x1 : Nat) (x2 : Int32) (h : Hp) : Option (Hp) :=
  q_on h x0 1 (
  (f_X1_takeMaps f x0 x1 h).bind fun h2_ =>
  (q_pi h2_ x0 1 11 (0 : Int32)).bind fun h3_ =>
  (q_gr h3_ x0 1 0).bind fun a4_ =>
  (f_J7_fill_53178 f a4_ (0 : Int32) h3_).bind fun h5_ =>
  (q_gr h5_ x0 1 9).bind fun a6_ =>
  (q_gi h5_ a6_ 0 4).bind fun v7_ =>
  q_on h5_ x0 1 (
  (f_X1_hear f x0 x2 (((1 : Int32) <<< (v7_ &&& 31)) - (1 : Int32)) h5_).bind fun h9_ =>
  some h9_))
set_option maxRecDepth 20000 in
theorem t_X1_weighOwnAlone_0 {X : Cx} (o : Ok X RX1 cX1_weighOwnAlone 3 6 132 0 0 none) (f : Nat)  (x0 : Nat) (x1 : Nat) (x2 : Int32) (h : Hp) : Sim X (z_Zv X 0 0) 0 0 0 [(0, rf (xG X) x0), (1, rf (xG X) x1), (2, .int x2)] [] h (f_X1_weighOwnAlone f x0 x1 x2 h) := by
  unfold f_X1_weighOwnAlone
  refine s_aload_n o 0 rfl dX1_weighOwnAlone_0 (q := 1) rfl ?_
  refine s_aload_n o 1 rfl dX1_weighOwnAlone_1 (q := 2) rfl ?_
  refine s_on (fun hk1_ => ?_)
  refine s_callv (fun r0 hr0 => runV o hk1_ cv_X1_69 (c_X1_takeMaps (xG X) f x0 x1 h (xl X) r0 hr0) ⟨Nat.le_of_ble_eq_true rfl, Nat.le_of_ble_eq_true rfl⟩ rfl rfl (Nat.le_of_ble_eq_true rfl) dX1_weighOwnAlone_2 ⟨Nat.le_of_ble_eq_true rfl, Nat.le_of_ble_eq_true rfl⟩) (q := 5) rfl (cs' := 0) rfl (sl' := 0) rfl (fun h2_ => ?_)
  refine s_aload_n o 0 rfl dX1_weighOwnAlone_5 (q := 6) rfl ?_
  refine s_iconst o dX1_weighOwnAlone_6 (v := (0 : Int32)) (by decide) (q := 7) rfl ?_
  refine s_pi o kf_X1_53 dX1_weighOwnAlone_7 (q := 10) rfl (fun h3_ => ?_)
  refine s_aload_n o 0 rfl dX1_weighOwnAlone_10 (q := 11) rfl ?_
  refine s_gr o kf_X1_9 dX1_weighOwnAlone_11 (q := 14) rfl (fun a4_ => ?_)
  refine s_iconst o dX1_weighOwnAlone_14 (v := (0 : Int32)) (by decide) (q := 15) rfl ?_
  refine s_callv (fun r0 hr0 => runS o cs_X1_86 (c_J7_fill_53178 (xG X) f a4_ (0 : Int32) h3_ (xl X) r0 hr0) ⟨Nat.le_of_ble_eq_true rfl, Nat.le_of_ble_eq_true rfl⟩ rfl rfl (Nat.le_of_ble_eq_true rfl) dX1_weighOwnAlone_15 ⟨Nat.le_of_ble_eq_true rfl, Nat.le_of_ble_eq_true rfl⟩) (q := 18) rfl (cs' := 0) rfl (sl' := 0) rfl (fun h5_ => ?_)
  refine s_aload_n o 0 rfl dX1_weighOwnAlone_18 (q := 19) rfl ?_
  refine s_iload_n o 2 rfl dX1_weighOwnAlone_19 (q := 20) rfl ?_
  refine s_iconst o dX1_weighOwnAlone_20 (v := (1 : Int32)) (by decide) (q := 21) rfl ?_
  refine s_aload_n o 0 rfl dX1_weighOwnAlone_21 (q := 22) rfl ?_
  refine s_gr o kf_X1_42 dX1_weighOwnAlone_22 (q := 25) rfl (fun a6_ => ?_)
  refine s_gi o kf_X1_92 dX1_weighOwnAlone_25 (q := 28) rfl (fun v7_ => ?_)
  refine s_ishl o dX1_weighOwnAlone_28 (q := 29) rfl ?_
  refine s_iconst o dX1_weighOwnAlone_29 (v := (1 : Int32)) (by decide) (q := 30) rfl ?_
  refine s_isub o dX1_weighOwnAlone_30 (q := 31) rfl ?_
  refine s_on (fun hk8_ => ?_)
  refine s_callv (fun r0 hr0 => runV o hk8_ cv_X1_95 (c_X1_hear (xG X) f x0 x2 (((1 : Int32) <<< (v7_ &&& 31)) - (1 : Int32)) h5_ (xl X) r0 hr0) ⟨Nat.le_of_ble_eq_true rfl, Nat.le_of_ble_eq_true rfl⟩ rfl rfl (Nat.le_of_ble_eq_true rfl) dX1_weighOwnAlone_31 ⟨Nat.le_of_ble_eq_true rfl, Nat.le_of_ble_eq_true rfl⟩) (q := 34) rfl (cs' := 0) rfl (sl' := 0) rfl (fun h9_ => ?_)
  exact s_vret o dX1_weighOwnAlone_34
theorem c_X1_weighOwnAlone (G : Gx) (f : Nat) (x0 : Nat) (x1 : Nat) (x2 : Int32) (h : Hp) : z_M z_qv G yX1_weighOwnAlone cX1_weighOwnAlone 3 none 6 132 0 0 [rf G x0, rf G x1, .int x2] h (f_X1_weighOwnAlone f x0 x1 x2 h) :=
  z_met (by decide +kernel) (Nat.le_of_ble_eq_true rfl) (fun X hG hn o hnm => by
    subst hG
    show Sim X (z_Zv X 0 0) 0 0 0 [(0, rf (xG X) x0), (1, rf (xG X) x1), (2, .int x2)] [] h _
    exact s_sub [0, 1, 2] rfl (t_X1_weighOwnAlone_0 o f x0 x1 x2 h))
/-! SixMaps$Judge.worth()I -/
def b_X1_worth_36 (f : Nat)  (y0 : Int32) (h : Hp) : Option (Int32 × Hp) :=
  some (y0, h)
def f_X1_worth (f : Nat)  (x0 : Nat) (h : Hp) : Option (Int32 × Hp) :=
  (q_gi h x0 1 12).bind fun v1_ =>
  if ¬ v1_ = 0 then
  ((q_gr h x0 1 9).bind fun a2_ =>
  (q_gi h a2_ 0 12).bind fun v3_ =>
  (q_gi h x0 1 15).bind fun v4_ =>
  (q_gi h x0 1 12).bind fun v5_ =>
  q_nz v5_ (
  (q_gr h x0 1 9).bind fun a6_ =>
  (q_gi h a6_ 0 11).bind fun v7_ =>
  b_X1_worth_36 f (((v3_ * v4_) / v5_) - v7_) h))
  else
  (b_X1_worth_36 f (-1 : Int32) h)
set_option maxRecDepth 20000 in
theorem t_X1_worth_36 {X : Cx} (o : Ok X RX1 cX1_worth 1 0 0 0 0 (some .int)) (f : Nat)  (y0 : Int32) (h : Hp) : Sim X (z_Zi X 0 0) 0 0 36 [] [.int y0] h (b_X1_worth_36 f y0 h) := by
  unfold b_X1_worth_36
  exact s_iret o dX1_worth_36
set_option maxRecDepth 20000 in
theorem t_X1_worth_0 {X : Cx} (o : Ok X RX1 cX1_worth 1 0 0 0 0 (some .int)) (f : Nat)  (x0 : Nat) (h : Hp) : Sim X (z_Zi X 0 0) 0 0 0 [(0, rf (xG X) x0)] [] h (f_X1_worth f x0 h) := by
  unfold f_X1_worth
  refine s_aload_n o 0 rfl dX1_worth_0 (q := 1) rfl ?_
  refine s_gi o kf_X1_57 dX1_worth_1 (q := 4) rfl (fun v1_ => ?_)
  refine s_if_ne o (tgt := 11) dX1_worth_4 (by decide) (q := 7) rfl ?_ ?_
  · refine s_aload_n o 0 rfl dX1_worth_11 (q := 12) rfl ?_
    refine s_gr o kf_X1_42 dX1_worth_12 (q := 15) rfl (fun a2_ => ?_)
    refine s_gi o kf_X1_218 dX1_worth_15 (q := 18) rfl (fun v3_ => ?_)
    refine s_aload_n o 0 rfl dX1_worth_18 (q := 19) rfl ?_
    refine s_gi o kf_X1_66 dX1_worth_19 (q := 22) rfl (fun v4_ => ?_)
    refine s_imul o dX1_worth_22 (q := 23) rfl ?_
    refine s_aload_n o 0 rfl dX1_worth_23 (q := 24) rfl ?_
    refine s_gi o kf_X1_57 dX1_worth_24 (q := 27) rfl (fun v5_ => ?_)
    refine s_idiv o dX1_worth_27 (q := 28) rfl ?_
    refine s_aload_n o 0 rfl dX1_worth_28 (q := 29) rfl ?_
    refine s_gr o kf_X1_42 dX1_worth_29 (q := 32) rfl (fun a6_ => ?_)
    refine s_gi o kf_X1_221 dX1_worth_32 (q := 35) rfl (fun v7_ => ?_)
    refine s_isub o dX1_worth_35 (q := 36) rfl ?_
    exact s_sub [] rfl (t_X1_worth_36 o f (((v3_ * v4_) / v5_) - v7_) h)
  · refine s_iconst o dX1_worth_7 (v := (-1 : Int32)) (by decide) (q := 8) rfl ?_
    refine s_goto o (tgt := 36) dX1_worth_8 (by decide) ?_
    exact s_sub [] rfl (t_X1_worth_36 o f (-1 : Int32) h)
theorem c_X1_worth (G : Gx) (f : Nat) (x0 : Nat) (h : Hp) : z_M z_qi G yX1_worth cX1_worth 1 (some .int) 0 0 0 0 [rf G x0] h (f_X1_worth f x0 h) :=
  z_met (by decide +kernel) (Nat.le_of_ble_eq_true rfl) (fun X hG hn o hnm => by
    subst hG
    show Sim X (z_Zi X 0 0) 0 0 0 [(0, rf (xG X) x0)] [] h _
    exact s_sub [0] rfl (t_X1_worth_0 o f x0 h))
/-! SixMaps$Reader.above(II)I -/
def b_X2_above_10 (f : Nat)  (y0 : Int32) (h : Hp) : Option (Int32 × Hp) :=
  some (y0, h)
def f_X2_above (f : Nat)  (x0 : Int32) (x1 : Int32) (h : Hp) : Option (Int32 × Hp) :=
  if x0 ≤ x1 then
  (b_X2_above_10 f (0 : Int32) h)
  else
  (b_X2_above_10 f (2 : Int32) h)
set_option maxRecDepth 20000 in
theorem t_X2_above_10 {X : Cx} (o : Ok X RX2 cX2_above 2 0 0 0 0 (some .int)) (f : Nat)  (y0 : Int32) (h : Hp) : Sim X (z_Zi X 0 0) 0 0 10 [] [.int y0] h (b_X2_above_10 f y0 h) := by
  unfold b_X2_above_10
  exact s_iret o dX2_above_10
set_option maxRecDepth 20000 in
theorem t_X2_above_0 {X : Cx} (o : Ok X RX2 cX2_above 2 0 0 0 0 (some .int)) (f : Nat)  (x0 : Int32) (x1 : Int32) (h : Hp) : Sim X (z_Zi X 0 0) 0 0 0 [(0, .int x0), (1, .int x1)] [] h (f_X2_above f x0 x1 h) := by
  unfold f_X2_above
  refine s_iload_n o 0 rfl dX2_above_0 (q := 1) rfl ?_
  refine s_iload_n o 1 rfl dX2_above_1 (q := 2) rfl ?_
  refine s_ic_le o (tgt := 9) dX2_above_2 (by decide) (q := 5) rfl ?_ ?_
  · refine s_iconst o dX2_above_9 (v := (0 : Int32)) (by decide) (q := 10) rfl ?_
    exact s_sub [] rfl (t_X2_above_10 o f (0 : Int32) h)
  · refine s_iconst o dX2_above_5 (v := (2 : Int32)) (by decide) (q := 6) rfl ?_
    refine s_goto o (tgt := 10) dX2_above_6 (by decide) ?_
    exact s_sub [] rfl (t_X2_above_10 o f (2 : Int32) h)
theorem c_X2_above (G : Gx) (f : Nat) (x0 : Int32) (x1 : Int32) (h : Hp) : z_M z_qi G yX2_above cX2_above 2 (some .int) 0 0 0 0 [.int x0, .int x1] h (f_X2_above f x0 x1 h) :=
  z_met (by decide +kernel) (Nat.le_of_ble_eq_true rfl) (fun X hG hn o hnm => by
    subst hG
    show Sim X (z_Zi X 0 0) 0 0 0 [(0, .int x0), (1, .int x1)] [] h _
    exact s_sub [0, 1] rfl (t_X2_above_0 o f x0 x1 h))
/-! SixMaps$Reader.changeMap(ILSixMaps$Island;)V -/
def b_X2_changeMap_96 (f : Nat)   (h : Hp) : Option (Hp) :=
  some h
def f_X2_changeMap (f : Nat)  (x0 : Nat) (x1 : Int32) (x2 : Nat) (h : Hp) : Option (Hp) :=
  (q_gr h x0 2 1).bind fun a1_ =>
  (q_ai h a1_ 9 (0 : Int32)).bind fun v2_ =>
  (q_gr h x0 2 1).bind fun a3_ =>
  (q_ai h a3_ 9 (1 : Int32)).bind fun v4_ =>
  (q_gr h x0 2 2).bind fun a5_ =>
  (q_ai h a5_ 9 v2_).bind fun v6_ =>
  (q_as h a5_ 9 v2_ (v6_ ||| ((1 : Int32) <<< (v4_ &&& 31)))).bind fun h7_ =>
  if ¬ x1 = (3 : Int32) then
  ((q_gr h7_ x2 0 0).bind fun a8_ =>
  (q_ai h7_ a8_ 9 v4_).bind fun v9_ =>
  (q_gr h7_ x0 2 1).bind fun a10_ =>
  (q_ai h7_ a10_ 9 (2 : Int32)).bind fun v11_ =>
  (q_gr h7_ x2 0 1).bind fun a12_ =>
  (q_ai h7_ a12_ 9 v4_).bind fun v13_ =>
  (q_gr h7_ x0 2 1).bind fun a14_ =>
  (q_ai h7_ a14_ 9 (3 : Int32)).bind fun v15_ =>
  q_on h7_ x2 0 (
  (f_X0_put f x2 v2_ v4_ ((v9_ + v11_) - (9 : Int32)) ((v13_ + v15_) - (9 : Int32)) h7_).bind fun h17_ =>
  b_X2_changeMap_96 f h17_))
  else
  ((q_gr h7_ x0 2 1).bind fun a18_ =>
  (q_ai h7_ a18_ 9 (2 : Int32)).bind fun v19_ =>
  (q_gr h7_ x0 2 1).bind fun a20_ =>
  (q_ai h7_ a20_ 9 (3 : Int32)).bind fun v21_ =>
  q_on h7_ x2 0 (
  (f_X0_addLie f x2 v2_ v4_ v19_ v21_ h7_).bind fun h23_ =>
  b_X2_changeMap_96 f h23_))
set_option maxRecDepth 20000 in
theorem t_X2_changeMap_96 {X : Cx} (o : Ok X RX2 cX2_changeMap 5 2 48 0 0 none) (f : Nat)   (h : Hp) : Sim X (z_Zv X 0 0) 0 0 96 [] [] h (b_X2_changeMap_96 f h) := by
  unfold b_X2_changeMap_96
  exact s_vret o dX2_changeMap_96
set_option maxRecDepth 20000 in
theorem t_X2_changeMap_0 {X : Cx} (o : Ok X RX2 cX2_changeMap 5 2 48 0 0 none) (f : Nat)  (x0 : Nat) (x1 : Int32) (x2 : Nat) (h : Hp) : Sim X (z_Zv X 0 0) 0 0 0 [(0, rf (xG X) x0), (1, .int x1), (2, rf (xG X) x2)] [] h (f_X2_changeMap f x0 x1 x2 h) := by
  unfold f_X2_changeMap
  refine s_aload_n o 0 rfl dX2_changeMap_0 (q := 1) rfl ?_
  refine s_gr o kf_X2_15 dX2_changeMap_1 (q := 4) rfl (fun a1_ => ?_)
  refine s_iconst o dX2_changeMap_4 (v := (0 : Int32)) (by decide) (q := 5) rfl ?_
  refine s_iald o dX2_changeMap_5 (q := 6) rfl (fun v2_ => ?_)
  refine s_istore_n o [1, 2, 3, 0] (lv' := [(0, rf (xG X) x0), (1, .int x1), (2, rf (xG X) x2), (3, .int v2_)]) rfl dX2_changeMap_6 (by decide) (q := 7) rfl ?_
  refine s_aload_n o 0 rfl dX2_changeMap_7 (q := 8) rfl ?_
  refine s_gr o kf_X2_15 dX2_changeMap_8 (q := 11) rfl (fun a3_ => ?_)
  refine s_iconst o dX2_changeMap_11 (v := (1 : Int32)) (by decide) (q := 12) rfl ?_
  refine s_iald o dX2_changeMap_12 (q := 13) rfl (fun v4_ => ?_)
  refine s_istore o [1, 2, 3, 4, 0] (lv' := [(0, rf (xG X) x0), (1, .int x1), (2, rf (xG X) x2), (3, .int v2_), (4, .int v4_)]) rfl dX2_changeMap_13 (by decide) (q := 15) rfl ?_
  refine s_aload_n o 0 rfl dX2_changeMap_15 (q := 16) rfl ?_
  refine s_gr o kf_X2_18 dX2_changeMap_16 (q := 19) rfl (fun a5_ => ?_)
  refine s_iload_n o 3 rfl dX2_changeMap_19 (q := 20) rfl ?_
  refine s_dup2 o rfl rfl dX2_changeMap_20 (q := 21) rfl ?_
  refine s_iald o dX2_changeMap_21 (q := 22) rfl (fun v6_ => ?_)
  refine s_iconst o dX2_changeMap_22 (v := (1 : Int32)) (by decide) (q := 23) rfl ?_
  refine s_iload o 4 rfl dX2_changeMap_23 (q := 25) rfl ?_
  refine s_ishl o dX2_changeMap_25 (q := 26) rfl ?_
  refine s_ior o dX2_changeMap_26 (q := 27) rfl ?_
  refine s_iast o dX2_changeMap_27 (q := 28) rfl (fun h7_ => ?_)
  refine s_iload_n o 1 rfl dX2_changeMap_28 (q := 29) rfl ?_
  refine s_iconst o dX2_changeMap_29 (v := (3 : Int32)) (by decide) (q := 30) rfl ?_
  refine s_ic_ne o (tgt := 55) dX2_changeMap_30 (by decide) (q := 33) rfl ?_ ?_
  · refine s_aload_n o 2 rfl dX2_changeMap_55 (q := 56) rfl ?_
    refine s_iload_n o 3 rfl dX2_changeMap_56 (q := 57) rfl ?_
    refine s_iload o 4 rfl dX2_changeMap_57 (q := 59) rfl ?_
    refine s_aload_n o 2 rfl dX2_changeMap_59 (q := 60) rfl ?_
    refine s_gr o kf_X2_144 dX2_changeMap_60 (q := 63) rfl (fun a8_ => ?_)
    refine s_iload o 4 rfl dX2_changeMap_63 (q := 65) rfl ?_
    refine s_iald o dX2_changeMap_65 (q := 66) rfl (fun v9_ => ?_)
    refine s_aload_n o 0 rfl dX2_changeMap_66 (q := 67) rfl ?_
    refine s_gr o kf_X2_15 dX2_changeMap_67 (q := 70) rfl (fun a10_ => ?_)
    refine s_iconst o dX2_changeMap_70 (v := (2 : Int32)) (by decide) (q := 71) rfl ?_
    refine s_iald o dX2_changeMap_71 (q := 72) rfl (fun v11_ => ?_)
    refine s_iadd o dX2_changeMap_72 (q := 73) rfl ?_
    refine s_bipush o dX2_changeMap_73 (v := (9 : Int32)) (by decide) (q := 75) rfl ?_
    refine s_isub o dX2_changeMap_75 (q := 76) rfl ?_
    refine s_aload_n o 2 rfl dX2_changeMap_76 (q := 77) rfl ?_
    refine s_gr o kf_X2_147 dX2_changeMap_77 (q := 80) rfl (fun a12_ => ?_)
    refine s_iload o 4 rfl dX2_changeMap_80 (q := 82) rfl ?_
    refine s_iald o dX2_changeMap_82 (q := 83) rfl (fun v13_ => ?_)
    refine s_aload_n o 0 rfl dX2_changeMap_83 (q := 84) rfl ?_
    refine s_gr o kf_X2_15 dX2_changeMap_84 (q := 87) rfl (fun a14_ => ?_)
    refine s_iconst o dX2_changeMap_87 (v := (3 : Int32)) (by decide) (q := 88) rfl ?_
    refine s_iald o dX2_changeMap_88 (q := 89) rfl (fun v15_ => ?_)
    refine s_iadd o dX2_changeMap_89 (q := 90) rfl ?_
    refine s_bipush o dX2_changeMap_90 (v := (9 : Int32)) (by decide) (q := 92) rfl ?_
    refine s_isub o dX2_changeMap_92 (q := 93) rfl ?_
    refine s_on (fun hk16_ => ?_)
    refine s_callv (fun r0 hr0 => runV o hk16_ cv_X2_178 (c_X0_put (xG X) f x2 v2_ v4_ ((v9_ + v11_) - (9 : Int32)) ((v13_ + v15_) - (9 : Int32)) h7_ (xl X) r0 hr0) ⟨Nat.le_of_ble_eq_true rfl, Nat.le_of_ble_eq_true rfl⟩ rfl rfl (Nat.le_of_ble_eq_true rfl) dX2_changeMap_93 ⟨Nat.le_of_ble_eq_true rfl, Nat.le_of_ble_eq_true rfl⟩) (q := 96) rfl (cs' := 0) rfl (sl' := 0) rfl (fun h17_ => ?_)
    exact s_sub [] rfl (t_X2_changeMap_96 o f h17_)
  · refine s_aload_n o 2 rfl dX2_changeMap_33 (q := 34) rfl ?_
    refine s_iload_n o 3 rfl dX2_changeMap_34 (q := 35) rfl ?_
    refine s_iload o 4 rfl dX2_changeMap_35 (q := 37) rfl ?_
    refine s_aload_n o 0 rfl dX2_changeMap_37 (q := 38) rfl ?_
    refine s_gr o kf_X2_15 dX2_changeMap_38 (q := 41) rfl (fun a18_ => ?_)
    refine s_iconst o dX2_changeMap_41 (v := (2 : Int32)) (by decide) (q := 42) rfl ?_
    refine s_iald o dX2_changeMap_42 (q := 43) rfl (fun v19_ => ?_)
    refine s_aload_n o 0 rfl dX2_changeMap_43 (q := 44) rfl ?_
    refine s_gr o kf_X2_15 dX2_changeMap_44 (q := 47) rfl (fun a20_ => ?_)
    refine s_iconst o dX2_changeMap_47 (v := (3 : Int32)) (by decide) (q := 48) rfl ?_
    refine s_iald o dX2_changeMap_48 (q := 49) rfl (fun v21_ => ?_)
    refine s_on (fun hk22_ => ?_)
    refine s_callv (fun r0 hr0 => runV o hk22_ cv_X2_174 (c_X0_addLie (xG X) f x2 v2_ v4_ v19_ v21_ h7_ (xl X) r0 hr0) ⟨Nat.le_of_ble_eq_true rfl, Nat.le_of_ble_eq_true rfl⟩ rfl rfl (Nat.le_of_ble_eq_true rfl) dX2_changeMap_49 ⟨Nat.le_of_ble_eq_true rfl, Nat.le_of_ble_eq_true rfl⟩) (q := 52) rfl (cs' := 0) rfl (sl' := 0) rfl (fun h23_ => ?_)
    refine s_goto o (tgt := 96) dX2_changeMap_52 (by decide) ?_
    exact s_sub [] rfl (t_X2_changeMap_96 o f h23_)
theorem c_X2_changeMap (G : Gx) (f : Nat) (x0 : Nat) (x1 : Int32) (x2 : Nat) (h : Hp) : z_M z_qv G yX2_changeMap cX2_changeMap 5 none 2 48 0 0 [rf G x0, .int x1, rf G x2] h (f_X2_changeMap f x0 x1 x2 h) :=
  z_met (by decide +kernel) (Nat.le_of_ble_eq_true rfl) (fun X hG hn o hnm => by
    subst hG
    show Sim X (z_Zv X 0 0) 0 0 0 [(0, rf (xG X) x0), (1, .int x1), (2, rf (xG X) x2)] [] h _
    exact s_sub [0, 1, 2] rfl (t_X2_changeMap_0 o f x0 x1 x2 h))
