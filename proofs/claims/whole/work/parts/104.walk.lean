/-! SixMaps$Reader.comesTooLate(I)Z -/
def b_X2_comesTooLate_59 (f : Nat)  (y0 : Int32) (h : Hp) : Option (Int32 × Hp) :=
  q_bo y0 (some (y0, h))
def b_X2_comesTooLate_58 (f : Nat)   (h : Hp) : Option (Int32 × Hp) :=
  b_X2_comesTooLate_59 f (0 : Int32) h
def b_X2_comesTooLate_44 (f : Nat)  (y0 : Int32) (h : Hp) : Option (Int32 × Hp) :=
  q_bo y0 (some (y0, h))
def b_X2_comesTooLate_39 (f : Nat)   (h : Hp) : Option (Int32 × Hp) :=
  b_X2_comesTooLate_44 f (1 : Int32) h
def b_X2_comesTooLate_21 (f : Nat)  (x0 : Nat) (x1 : Int32) (y0 : Int32) (h : Hp) : Option (Int32 × Hp) :=
  if ¬ x1 = 0 then
  (if ¬ x1 = (2 : Int32) then
  (b_X2_comesTooLate_58 f h)
  else
  (if y0 = 0 then
  (b_X2_comesTooLate_58 f h)
  else
  (b_X2_comesTooLate_59 f (1 : Int32) h)))
  else
  (if ¬ y0 = 0 then
  (b_X2_comesTooLate_39 f h)
  else
  ((q_gr h x0 2 0).bind fun a1_ =>
  (q_ai h a1_ 9 (1 : Int32)).bind fun v2_ =>
  if v2_ ≤ 0 then
  (b_X2_comesTooLate_44 f (0 : Int32) h)
  else
  (b_X2_comesTooLate_39 f h)))
def f_X2_comesTooLate (f : Nat)  (x0 : Nat) (x1 : Int32) (h : Hp) : Option (Int32 × Hp) :=
  (q_gr h x0 2 0).bind fun a1_ =>
  (q_ai h a1_ 9 (3 : Int32)).bind fun v2_ =>
  (q_gr h x0 2 0).bind fun a3_ =>
  (q_ai h a3_ 9 (4 : Int32)).bind fun v4_ =>
  if (v2_ + v4_) ≤ 0 then
  (b_X2_comesTooLate_21 f x0 x1 (0 : Int32) h)
  else
  (b_X2_comesTooLate_21 f x0 x1 (1 : Int32) h)
set_option maxRecDepth 20000 in
theorem t_X2_comesTooLate_59 {X : Cx} (o : Ok X RX2 cX2_comesTooLate 3 0 0 0 0 (some .boolean)) (f : Nat)  (y0 : Int32) (h : Hp) : Sim X (z_Zi X 0 0) 0 0 59 [] [.int y0] h (b_X2_comesTooLate_59 f y0 h) := by
  unfold b_X2_comesTooLate_59
  exact s_zret o dX2_comesTooLate_59
set_option maxRecDepth 20000 in
theorem t_X2_comesTooLate_58 {X : Cx} (o : Ok X RX2 cX2_comesTooLate 3 0 0 0 0 (some .boolean)) (f : Nat)   (h : Hp) : Sim X (z_Zi X 0 0) 0 0 58 [] [] h (b_X2_comesTooLate_58 f h) := by
  unfold b_X2_comesTooLate_58
  refine s_iconst o dX2_comesTooLate_58 (v := (0 : Int32)) (by decide) (q := 59) rfl ?_
  exact s_sub [] rfl (t_X2_comesTooLate_59 o f (0 : Int32) h)
set_option maxRecDepth 20000 in
theorem t_X2_comesTooLate_44 {X : Cx} (o : Ok X RX2 cX2_comesTooLate 3 0 0 0 0 (some .boolean)) (f : Nat)  (y0 : Int32) (h : Hp) : Sim X (z_Zi X 0 0) 0 0 44 [] [.int y0] h (b_X2_comesTooLate_44 f y0 h) := by
  unfold b_X2_comesTooLate_44
  exact s_zret o dX2_comesTooLate_44
set_option maxRecDepth 20000 in
theorem t_X2_comesTooLate_39 {X : Cx} (o : Ok X RX2 cX2_comesTooLate 3 0 0 0 0 (some .boolean)) (f : Nat)   (h : Hp) : Sim X (z_Zi X 0 0) 0 0 39 [] [] h (b_X2_comesTooLate_39 f h) := by
  unfold b_X2_comesTooLate_39
  refine s_iconst o dX2_comesTooLate_39 (v := (1 : Int32)) (by decide) (q := 40) rfl ?_
  refine s_goto o (tgt := 44) dX2_comesTooLate_40 (by decide) ?_
  exact s_sub [] rfl (t_X2_comesTooLate_44 o f (1 : Int32) h)
set_option maxRecDepth 20000 in
theorem t_X2_comesTooLate_21 {X : Cx} (o : Ok X RX2 cX2_comesTooLate 3 0 0 0 0 (some .boolean)) (f : Nat)  (x0 : Nat) (x1 : Int32) (y0 : Int32) (h : Hp) : Sim X (z_Zi X 0 0) 0 0 21 [(0, rf (xG X) x0), (1, .int x1)] [.int y0] h (b_X2_comesTooLate_21 f x0 x1 y0 h) := by
  unfold b_X2_comesTooLate_21
  refine s_istore_n o [1, 2, 0] (lv' := [(0, rf (xG X) x0), (1, .int x1), (2, .int y0)]) rfl dX2_comesTooLate_21 (by decide) (q := 22) rfl ?_
  refine s_iload_n o 1 rfl dX2_comesTooLate_22 (q := 23) rfl ?_
  refine s_if_ne o (tgt := 45) dX2_comesTooLate_23 (by decide) (q := 26) rfl ?_ ?_
  · refine s_iload_n o 1 rfl dX2_comesTooLate_45 (q := 46) rfl ?_
    refine s_iconst o dX2_comesTooLate_46 (v := (2 : Int32)) (by decide) (q := 47) rfl ?_
    refine s_ic_ne o (tgt := 58) dX2_comesTooLate_47 (by decide) (q := 50) rfl ?_ ?_
    · exact s_sub [] rfl (t_X2_comesTooLate_58 o f h)
    · refine s_iload_n o 2 rfl dX2_comesTooLate_50 (q := 51) rfl ?_
      refine s_if_eq o (tgt := 58) dX2_comesTooLate_51 (by decide) (q := 54) rfl ?_ ?_
      · exact s_sub [] rfl (t_X2_comesTooLate_58 o f h)
      · refine s_iconst o dX2_comesTooLate_54 (v := (1 : Int32)) (by decide) (q := 55) rfl ?_
        refine s_goto o (tgt := 59) dX2_comesTooLate_55 (by decide) ?_
        exact s_sub [] rfl (t_X2_comesTooLate_59 o f (1 : Int32) h)
  · refine s_iload_n o 2 rfl dX2_comesTooLate_26 (q := 27) rfl ?_
    refine s_if_ne o (tgt := 39) dX2_comesTooLate_27 (by decide) (q := 30) rfl ?_ ?_
    · exact s_sub [] rfl (t_X2_comesTooLate_39 o f h)
    · refine s_aload_n o 0 rfl dX2_comesTooLate_30 (q := 31) rfl ?_
      refine s_gr o kf_X2_11 dX2_comesTooLate_31 (q := 34) rfl (fun a1_ => ?_)
      refine s_iconst o dX2_comesTooLate_34 (v := (1 : Int32)) (by decide) (q := 35) rfl ?_
      refine s_iald o dX2_comesTooLate_35 (q := 36) rfl (fun v2_ => ?_)
      refine s_if_le o (tgt := 43) dX2_comesTooLate_36 (by decide) (q := 39) rfl ?_ ?_
      · refine s_iconst o dX2_comesTooLate_43 (v := (0 : Int32)) (by decide) (q := 44) rfl ?_
        exact s_sub [] rfl (t_X2_comesTooLate_44 o f (0 : Int32) h)
      · exact s_sub [] rfl (t_X2_comesTooLate_39 o f h)
set_option maxRecDepth 20000 in
theorem t_X2_comesTooLate_0 {X : Cx} (o : Ok X RX2 cX2_comesTooLate 3 0 0 0 0 (some .boolean)) (f : Nat)  (x0 : Nat) (x1 : Int32) (h : Hp) : Sim X (z_Zi X 0 0) 0 0 0 [(0, rf (xG X) x0), (1, .int x1)] [] h (f_X2_comesTooLate f x0 x1 h) := by
  unfold f_X2_comesTooLate
  refine s_aload_n o 0 rfl dX2_comesTooLate_0 (q := 1) rfl ?_
  refine s_gr o kf_X2_11 dX2_comesTooLate_1 (q := 4) rfl (fun a1_ => ?_)
  refine s_iconst o dX2_comesTooLate_4 (v := (3 : Int32)) (by decide) (q := 5) rfl ?_
  refine s_iald o dX2_comesTooLate_5 (q := 6) rfl (fun v2_ => ?_)
  refine s_aload_n o 0 rfl dX2_comesTooLate_6 (q := 7) rfl ?_
  refine s_gr o kf_X2_11 dX2_comesTooLate_7 (q := 10) rfl (fun a3_ => ?_)
  refine s_iconst o dX2_comesTooLate_10 (v := (4 : Int32)) (by decide) (q := 11) rfl ?_
  refine s_iald o dX2_comesTooLate_11 (q := 12) rfl (fun v4_ => ?_)
  refine s_iadd o dX2_comesTooLate_12 (q := 13) rfl ?_
  refine s_if_le o (tgt := 20) dX2_comesTooLate_13 (by decide) (q := 16) rfl ?_ ?_
  · refine s_iconst o dX2_comesTooLate_20 (v := (0 : Int32)) (by decide) (q := 21) rfl ?_
    exact s_sub [0, 1] rfl (t_X2_comesTooLate_21 o f x0 x1 (0 : Int32) h)
  · refine s_iconst o dX2_comesTooLate_16 (v := (1 : Int32)) (by decide) (q := 17) rfl ?_
    refine s_goto o (tgt := 21) dX2_comesTooLate_17 (by decide) ?_
    exact s_sub [0, 1] rfl (t_X2_comesTooLate_21 o f x0 x1 (1 : Int32) h)
theorem c_X2_comesTooLate (G : Gx) (f : Nat) (x0 : Nat) (x1 : Int32) (h : Hp) : z_M z_qi G yX2_comesTooLate cX2_comesTooLate 3 (some .boolean) 0 0 0 0 [rf G x0, .int x1] h (f_X2_comesTooLate f x0 x1 h) :=
  z_met (by decide +kernel) (Nat.le_of_ble_eq_true rfl) (fun X hG hn o hnm => by
    subst hG
    show Sim X (z_Zi X 0 0) 0 0 0 [(0, rf (xG X) x0), (1, .int x1)] [] h _
    exact s_sub [0, 1] rfl (t_X2_comesTooLate_0 o f x0 x1 h))
/-! SixMaps$Reader.<init>()V -/
def f_X2_init (f : Nat)  (x0 : Nat) (h : Hp) : Option (Hp) :=
  bn (q_nwa h 9 7) fun a1_ h2_ =>
  (q_pr h2_ x0 2 0 a1_).bind fun h3_ =>
  bn (q_nwa h3_ 9 4) fun a4_ h5_ =>
  (q_pr h5_ x0 2 1 a4_).bind fun h6_ =>
  bn (q_nwa h6_ 9 6) fun a7_ h8_ =>
  (q_pr h8_ x0 2 2 a7_).bind fun h9_ =>
  bn (q_nwa h9_ 8 0) fun a10_ h11_ =>
  (q_pr h11_ x0 2 3 a10_).bind fun h12_ =>
  (q_pi h12_ x0 2 4 (0 : Int32)).bind fun h13_ =>
  (q_pi h13_ x0 2 5 (0 : Int32)).bind fun h14_ =>
  (q_pi h14_ x0 2 6 (0 : Int32)).bind fun h15_ =>
  some h15_
set_option maxRecDepth 20000 in
theorem t_X2_init_0 {X : Cx} (o : Ok X RX2 cX2_init 1 1 12 4 17 none) (hnm : (xM X).name = yX2_init.name) (f : Nat)  (x0 : Nat) (h : Hp) : Sim X (z_Zv X 4 17) 0 0 0 [(0, rf (xG X) x0)] [] h (f_X2_init f x0 h) := by
  unfold f_X2_init
  refine s_aload_n o 0 rfl dX2_init_0 (q := 1) rfl ?_
  refine s_obj o ob_X2_3 (Nat.le_of_ble_eq_true rfl) (Nat.le_of_ble_eq_true rfl) dX2_init_1 (q := 4) rfl ?_
  refine s_aload_n o 0 rfl dX2_init_4 (q := 5) rfl ?_
  refine s_bipush o dX2_init_5 (v := (7 : Int32)) (by decide) (q := 7) rfl ?_
  refine s_nwa_i o na_int (N := 7) (by decide) (by decide) (by decide) (by decide) (by decide) dX2_init_7 (q := 9) rfl (cs' := 1) rfl (sl' := 7) rfl (fun a1_ h2_ => ?_)
  refine s_prF o kf_X2_11 (fun _ => rfl) (fun _ => rfl) hnm (fun rr e => by rw [← Option.some.inj (show some (RX2, TX2, 7) = some rr from e)]; rfl) dX2_init_9 (q := 12) rfl (fun h3_ => ?_)
  refine s_aload_n o 0 rfl dX2_init_12 (q := 13) rfl ?_
  refine s_iconst o dX2_init_13 (v := (4 : Int32)) (by decide) (q := 14) rfl ?_
  refine s_nwa_i o na_int (N := 4) (by decide) (by decide) (by decide) (by decide) (by decide) dX2_init_14 (q := 16) rfl (cs' := 2) rfl (sl' := 11) rfl (fun a4_ h5_ => ?_)
  refine s_prF o kf_X2_15 (fun _ => rfl) (fun _ => rfl) hnm (fun rr e => by rw [← Option.some.inj (show some (RX2, TX2, 7) = some rr from e)]; rfl) dX2_init_16 (q := 19) rfl (fun h6_ => ?_)
  refine s_aload_n o 0 rfl dX2_init_19 (q := 20) rfl ?_
  refine s_bipush o dX2_init_20 (v := (6 : Int32)) (by decide) (q := 22) rfl ?_
  refine s_nwa_i o na_int (N := 6) (by decide) (by decide) (by decide) (by decide) (by decide) dX2_init_22 (q := 24) rfl (cs' := 3) rfl (sl' := 17) rfl (fun a7_ h8_ => ?_)
  refine s_prF o kf_X2_18 (fun _ => rfl) (fun _ => rfl) hnm (fun rr e => by rw [← Option.some.inj (show some (RX2, TX2, 7) = some rr from e)]; rfl) dX2_init_24 (q := 27) rfl (fun h9_ => ?_)
  refine s_aload_n o 0 rfl dX2_init_27 (q := 28) rfl ?_
  refine s_iconst o dX2_init_28 (v := (0 : Int32)) (by decide) (q := 29) rfl ?_
  refine s_nwa_b o na_byte (N := 0) (by decide) (by decide) (by decide) (by decide) (by decide) dX2_init_29 (q := 31) rfl (cs' := 4) rfl (sl' := 17) rfl (fun a10_ h11_ => ?_)
  refine s_pr o kf_X2_21 (fun _ => rfl) (fun _ => rfl) dX2_init_31 (q := 34) rfl (fun h12_ => ?_)
  refine s_aload_n o 0 rfl dX2_init_34 (q := 35) rfl ?_
  refine s_iconst o dX2_init_35 (v := (0 : Int32)) (by decide) (q := 36) rfl ?_
  refine s_pi o kf_X2_25 dX2_init_36 (q := 39) rfl (fun h13_ => ?_)
  refine s_aload_n o 0 rfl dX2_init_39 (q := 40) rfl ?_
  refine s_iconst o dX2_init_40 (v := (0 : Int32)) (by decide) (q := 41) rfl ?_
  refine s_pi o kf_X2_29 dX2_init_41 (q := 44) rfl (fun h14_ => ?_)
  refine s_aload_n o 0 rfl dX2_init_44 (q := 45) rfl ?_
  refine s_iconst o dX2_init_45 (v := (0 : Int32)) (by decide) (q := 46) rfl ?_
  refine s_pi o kf_X2_32 dX2_init_46 (q := 49) rfl (fun h15_ => ?_)
  exact s_vret o dX2_init_49
theorem c_X2_init (G : Gx) (f : Nat) (x0 : Nat) (h : Hp) : z_M z_qv G yX2_init cX2_init 1 none 1 12 4 17 [rf G x0] h (f_X2_init f x0 h) :=
  z_met (by decide +kernel) (Nat.le_of_ble_eq_true rfl) (fun X hG hn o hnm => by
    subst hG
    show Sim X (z_Zv X 4 17) 0 0 0 [(0, rf (xG X) x0)] [] h _
    exact s_sub [0] rfl (t_X2_init_0 o hnm f x0 h))
/-! SixMaps$Reader.isSpelt(Ljava/lang/String;)Z -/
def b_X2_isSpelt_20 (f : Nat) (k20 : Nat → Nat → Int32 → Hp → Option (Int32 × Hp)) (x0 : Nat) (x1 : Nat) (x2 : Int32) (h : Hp) : Option (Int32 × Hp) :=
  q_sj x1 (
  bi (f_J0_len x1 h) fun v2_ h3_ =>
  if v2_ ≤ x2 then
  (q_bo (1 : Int32) (some ((1 : Int32), h3_)))
  else
  ((q_gr h3_ x0 2 3).bind fun a4_ =>
  (q_gi h3_ x0 2 6).bind fun v5_ =>
  (q_ai h3_ a4_ 8 (v5_ + x2)).bind fun v6_ =>
  q_sj x1 (
  bi (f_J0_ch x1 x2 h3_) fun v8_ h9_ =>
  if v6_ = v8_ then
  (lt (x2 + (1 : Int32)) fun v10_ =>
  k20 x0 x1 v10_ h9_)
  else
  (q_bo (0 : Int32) (some ((0 : Int32), h9_))))))
def l_X2_isSpelt_20 (f : Nat)  : Nat → Nat → Nat → Int32 → Hp → Option (Int32 × Hp)
  | 0, _, _, _, _ => none
  | n + 1, x0, x1, x2, h => b_X2_isSpelt_20 f  (l_X2_isSpelt_20 f  n) x0 x1 x2 h
def f_X2_isSpelt (f : Nat)  (x0 : Nat) (x1 : Nat) (h : Hp) : Option (Int32 × Hp) :=
  (q_gi h x0 2 5).bind fun v1_ =>
  (q_gi h x0 2 6).bind fun v2_ =>
  q_sj x1 (
  bi (f_J0_len x1 h) fun v4_ h5_ =>
  if (v1_ - v2_) = v4_ then
  (l_X2_isSpelt_20 f f x0 x1 (0 : Int32) h5_)
  else
  (q_bo (0 : Int32) (some ((0 : Int32), h5_))))
set_option maxRecDepth 20000 in
theorem t_X2_isSpelt_20 {X : Cx} (o : Ok X RX2 cX2_isSpelt 3 4 85 0 0 (some .boolean)) (f : Nat) {k20 : Nat → Nat → Int32 → Hp → Option (Int32 × Hp)} (hk20 : ∀ (x0 : Nat) (x1 : Nat) (x2 : Int32) (h : Hp), Sim X (z_Zi X 0 0) 0 0 20 [(0, rf (xG X) x0), (1, .ref (gK (xG X) x1)), (2, .int x2)] [] h (k20 x0 x1 x2 h)) (x0 : Nat) (x1 : Nat) (x2 : Int32) (h : Hp) : Sim X (z_Zi X 0 0) 0 0 20 [(0, rf (xG X) x0), (1, .ref (gK (xG X) x1)), (2, .int x2)] [] h (b_X2_isSpelt_20 f k20 x0 x1 x2 h) := by
  unfold b_X2_isSpelt_20
  refine s_iload_n o 2 rfl dX2_isSpelt_20 (q := 21) rfl ?_
  refine s_aload_n o 1 rfl dX2_isSpelt_21 (q := 22) rfl ?_
  refine s_sj (fun hj1_ => ?_)
  refine s_bi (fun r0 hr0 => runT o hj1_ ct_106 (c_J0_len (xG X) x1 hj1_ h (xl X) r0 hr0) ⟨Nat.le_of_ble_eq_true rfl, Nat.le_of_ble_eq_true rfl⟩ rfl rfl (Nat.le_of_ble_eq_true rfl) dX2_isSpelt_22 ⟨Nat.le_of_ble_eq_true rfl, Nat.le_of_ble_eq_true rfl⟩) (q := 25) rfl (cs' := 0) rfl (sl' := 0) rfl (fun v2_ h3_ => ?_)
  refine s_ic_ge o (tgt := 55) dX2_isSpelt_25 (by decide) (q := 28) rfl ?_ ?_
  · refine s_iconst o dX2_isSpelt_55 (v := (1 : Int32)) (by decide) (q := 56) rfl ?_
    exact s_zret o dX2_isSpelt_56
  · refine s_aload_n o 0 rfl dX2_isSpelt_28 (q := 29) rfl ?_
    refine s_gr o kf_X2_21 dX2_isSpelt_29 (q := 32) rfl (fun a4_ => ?_)
    refine s_aload_n o 0 rfl dX2_isSpelt_32 (q := 33) rfl ?_
    refine s_gi o kf_X2_32 dX2_isSpelt_33 (q := 36) rfl (fun v5_ => ?_)
    refine s_iload_n o 2 rfl dX2_isSpelt_36 (q := 37) rfl ?_
    refine s_iadd o dX2_isSpelt_37 (q := 38) rfl ?_
    refine s_bald o dX2_isSpelt_38 (q := 39) rfl (fun v6_ => ?_)
    refine s_aload_n o 1 rfl dX2_isSpelt_39 (q := 40) rfl ?_
    refine s_iload_n o 2 rfl dX2_isSpelt_40 (q := 41) rfl ?_
    refine s_sj (fun hj7_ => ?_)
    refine s_bi (fun r0 hr0 => runT o hj7_ ct_110 (c_J0_ch (xG X) x1 hj7_ x2 h3_ (xl X) r0 hr0) ⟨Nat.le_of_ble_eq_true rfl, Nat.le_of_ble_eq_true rfl⟩ rfl rfl (Nat.le_of_ble_eq_true rfl) dX2_isSpelt_41 ⟨Nat.le_of_ble_eq_true rfl, Nat.le_of_ble_eq_true rfl⟩) (q := 44) rfl (cs' := 0) rfl (sl' := 0) rfl (fun v8_ h9_ => ?_)
    refine s_ic_eq o (tgt := 49) dX2_isSpelt_44 (by decide) (q := 47) rfl ?_ ?_
    · refine s_iinc o 2 rfl (v := (1 : Int32)) (by decide) [1, 2, 0] (lv' := fun v10_ => [(0, rf (xG X) x0), (1, .ref (gK (xG X) x1)), (2, .int v10_)]) (fun _ => rfl) dX2_isSpelt_49 (by decide) (q := 52) rfl (fun v10_ => ?_)
      refine s_goto o (tgt := 20) dX2_isSpelt_52 (by decide) ?_
      exact s_sub [0, 1, 2] rfl (hk20 x0 x1 v10_ h9_)
    · refine s_iconst o dX2_isSpelt_47 (v := (0 : Int32)) (by decide) (q := 48) rfl ?_
      exact s_zret o dX2_isSpelt_48
theorem tl_X2_isSpelt_20 {X : Cx} (o : Ok X RX2 cX2_isSpelt 3 4 85 0 0 (some .boolean)) (f : Nat)  : ∀ (n : Nat) (x0 : Nat) (x1 : Nat) (x2 : Int32) (h : Hp), Sim X (z_Zi X 0 0) 0 0 20 [(0, rf (xG X) x0), (1, .ref (gK (xG X) x1)), (2, .int x2)] [] h (l_X2_isSpelt_20 f n x0 x1 x2 h) := by
  intro n
  induction n with
  | zero => intro x0 x1 x2 h; exact s_none
  | succ n ih => intro x0 x1 x2 h; exact t_X2_isSpelt_20 o f  ih x0 x1 x2 h
set_option maxRecDepth 20000 in
theorem t_X2_isSpelt_0 {X : Cx} (o : Ok X RX2 cX2_isSpelt 3 4 85 0 0 (some .boolean)) (f : Nat)  (x0 : Nat) (x1 : Nat) (h : Hp) : Sim X (z_Zi X 0 0) 0 0 0 [(0, rf (xG X) x0), (1, .ref (gK (xG X) x1))] [] h (f_X2_isSpelt f x0 x1 h) := by
  unfold f_X2_isSpelt
  refine s_aload_n o 0 rfl dX2_isSpelt_0 (q := 1) rfl ?_
  refine s_gi o kf_X2_29 dX2_isSpelt_1 (q := 4) rfl (fun v1_ => ?_)
  refine s_aload_n o 0 rfl dX2_isSpelt_4 (q := 5) rfl ?_
  refine s_gi o kf_X2_32 dX2_isSpelt_5 (q := 8) rfl (fun v2_ => ?_)
  refine s_isub o dX2_isSpelt_8 (q := 9) rfl ?_
  refine s_aload_n o 1 rfl dX2_isSpelt_9 (q := 10) rfl ?_
  refine s_sj (fun hj3_ => ?_)
  refine s_bi (fun r0 hr0 => runT o hj3_ ct_106 (c_J0_len (xG X) x1 hj3_ h (xl X) r0 hr0) ⟨Nat.le_of_ble_eq_true rfl, Nat.le_of_ble_eq_true rfl⟩ rfl rfl (Nat.le_of_ble_eq_true rfl) dX2_isSpelt_10 ⟨Nat.le_of_ble_eq_true rfl, Nat.le_of_ble_eq_true rfl⟩) (q := 13) rfl (cs' := 0) rfl (sl' := 0) rfl (fun v4_ h5_ => ?_)
  refine s_ic_eq o (tgt := 18) dX2_isSpelt_13 (by decide) (q := 16) rfl ?_ ?_
  · refine s_iconst o dX2_isSpelt_18 (v := (0 : Int32)) (by decide) (q := 19) rfl ?_
    refine s_istore_n o [1, 2, 0] (lv' := [(0, rf (xG X) x0), (1, .ref (gK (xG X) x1)), (2, .int (0 : Int32))]) rfl dX2_isSpelt_19 (by decide) (q := 20) rfl ?_
    exact s_sub [0, 1, 2] rfl (tl_X2_isSpelt_20 o f f x0 x1 (0 : Int32) h5_)
  · refine s_iconst o dX2_isSpelt_16 (v := (0 : Int32)) (by decide) (q := 17) rfl ?_
    exact s_zret o dX2_isSpelt_17
theorem c_X2_isSpelt (G : Gx) (f : Nat) (x0 : Nat) (x1 : Nat) (h : Hp) : z_M z_qi G yX2_isSpelt cX2_isSpelt 3 (some .boolean) 4 85 0 0 [rf G x0, .ref (gK G x1)] h (f_X2_isSpelt f x0 x1 h) :=
  z_met (by decide +kernel) (Nat.le_of_ble_eq_true rfl) (fun X hG hn o hnm => by
    subst hG
    show Sim X (z_Zi X 0 0) 0 0 0 [(0, rf (xG X) x0), (1, .ref (gK (xG X) x1))] [] h _
    exact s_sub [0, 1] rfl (t_X2_isSpelt_0 o f x0 x1 h))
/-! SixMaps$Reader.lieFault(ILSixMaps$Island;)I -/
def b_X2_lieFault_63 (f : Nat)  (y0 : Int32) (h : Hp) : Option (Int32 × Hp) :=
  some (y0, h)
def f_X2_lieFault (f : Nat)  (x0 : Nat) (x1 : Int32) (x2 : Nat) (h : Hp) : Option (Int32 × Hp) :=
  if x1 ≤ (99 : Int32) then
  ((q_gr h x0 2 1).bind fun a1_ =>
  (q_ai h a1_ 9 (1 : Int32)).bind fun v2_ =>
  (q_gr h x0 2 1).bind fun a3_ =>
  (q_ai h a3_ 9 (2 : Int32)).bind fun v4_ =>
  (q_gr h x2 0 0).bind fun a5_ =>
  (q_ai h a5_ 9 v2_).bind fun v6_ =>
  (q_gr h x2 0 1).bind fun a7_ =>
  (q_ai h a7_ 9 v2_).bind fun v8_ =>
  lt ((if (if 0 ≤ (v4_ - v6_) then (v4_ - v6_) else 0 - (v4_ - v6_)) < (if 0 ≤ (x1 - v8_) then (x1 - v8_) else 0 - (x1 - v8_)) then (if 0 ≤ (x1 - v8_) then (x1 - v8_) else 0 - (x1 - v8_)) else (if 0 ≤ (v4_ - v6_) then (v4_ - v6_) else 0 - (v4_ - v6_)))) fun v9_ =>
  (q_gi h x2 0 7).bind fun v10_ =>
  if v9_ ≤ ((2 : Int32) * v10_) then
  (b_X2_lieFault_63 f (4 : Int32) h)
  else
  (b_X2_lieFault_63 f (0 : Int32) h))
  else
  (some ((2 : Int32), h))
set_option maxRecDepth 20000 in
theorem t_X2_lieFault_63 {X : Cx} (o : Ok X RX2 cX2_lieFault 5 1 14 0 0 (some .int)) (f : Nat)  (y0 : Int32) (h : Hp) : Sim X (z_Zi X 0 0) 0 0 63 [] [.int y0] h (b_X2_lieFault_63 f y0 h) := by
  unfold b_X2_lieFault_63
  exact s_iret o dX2_lieFault_63
set_option maxRecDepth 20000 in
theorem t_X2_lieFault_0 {X : Cx} (o : Ok X RX2 cX2_lieFault 5 1 14 0 0 (some .int)) (f : Nat)  (x0 : Nat) (x1 : Int32) (x2 : Nat) (h : Hp) : Sim X (z_Zi X 0 0) 0 0 0 [(0, rf (xG X) x0), (1, .int x1), (2, rf (xG X) x2)] [] h (f_X2_lieFault f x0 x1 x2 h) := by
  unfold f_X2_lieFault
  refine s_iload_n o 1 rfl dX2_lieFault_0 (q := 1) rfl ?_
  refine s_bipush o dX2_lieFault_1 (v := (99 : Int32)) (by decide) (q := 3) rfl ?_
  refine s_ic_le o (tgt := 8) dX2_lieFault_3 (by decide) (q := 6) rfl ?_ ?_
  · refine s_aload_n o 0 rfl dX2_lieFault_8 (q := 9) rfl ?_
    refine s_gr o kf_X2_15 dX2_lieFault_9 (q := 12) rfl (fun a1_ => ?_)
    refine s_iconst o dX2_lieFault_12 (v := (1 : Int32)) (by decide) (q := 13) rfl ?_
    refine s_iald o dX2_lieFault_13 (q := 14) rfl (fun v2_ => ?_)
    refine s_istore_n o [1, 2, 3, 0] (lv' := [(0, rf (xG X) x0), (1, .int x1), (2, rf (xG X) x2), (3, .int v2_)]) rfl dX2_lieFault_14 (by decide) (q := 15) rfl ?_
    refine s_aload_n o 0 rfl dX2_lieFault_15 (q := 16) rfl ?_
    refine s_gr o kf_X2_15 dX2_lieFault_16 (q := 19) rfl (fun a3_ => ?_)
    refine s_iconst o dX2_lieFault_19 (v := (2 : Int32)) (by decide) (q := 20) rfl ?_
    refine s_iald o dX2_lieFault_20 (q := 21) rfl (fun v4_ => ?_)
    refine s_aload_n o 2 rfl dX2_lieFault_21 (q := 22) rfl ?_
    refine s_gr o kf_X2_144 dX2_lieFault_22 (q := 25) rfl (fun a5_ => ?_)
    refine s_iload_n o 3 rfl dX2_lieFault_25 (q := 26) rfl ?_
    refine s_iald o dX2_lieFault_26 (q := 27) rfl (fun v6_ => ?_)
    refine s_isub o dX2_lieFault_27 (q := 28) rfl ?_
    refine s_abs o mw_X2_128 (Nat.le_of_ble_eq_true rfl) (Nat.le_of_ble_eq_true rfl) (by decide) (by decide) dX2_lieFault_28 (q := 31) rfl ?_
    refine s_iload_n o 1 rfl dX2_lieFault_31 (q := 32) rfl ?_
    refine s_aload_n o 2 rfl dX2_lieFault_32 (q := 33) rfl ?_
    refine s_gr o kf_X2_147 dX2_lieFault_33 (q := 36) rfl (fun a7_ => ?_)
    refine s_iload_n o 3 rfl dX2_lieFault_36 (q := 37) rfl ?_
    refine s_iald o dX2_lieFault_37 (q := 38) rfl (fun v8_ => ?_)
    refine s_isub o dX2_lieFault_38 (q := 39) rfl ?_
    refine s_abs o mw_X2_128 (Nat.le_of_ble_eq_true rfl) (Nat.le_of_ble_eq_true rfl) (by decide) (by decide) dX2_lieFault_39 (q := 42) rfl ?_
    refine s_max o mw_X2_150 (Nat.le_of_ble_eq_true rfl) (Nat.le_of_ble_eq_true rfl) (by decide) (by decide) dX2_lieFault_42 (q := 45) rfl ?_
    refine s_let (fun v9_ => ?_)
    refine s_istore o [1, 2, 3, 4, 0] (lv' := [(0, rf (xG X) x0), (1, .int x1), (2, rf (xG X) x2), (3, .int v2_), (4, .int v9_)]) rfl dX2_lieFault_45 (by decide) (q := 47) rfl ?_
    refine s_iload o 4 rfl dX2_lieFault_47 (q := 49) rfl ?_
    refine s_iconst o dX2_lieFault_49 (v := (2 : Int32)) (by decide) (q := 50) rfl ?_
    refine s_aload_n o 2 rfl dX2_lieFault_50 (q := 51) rfl ?_
    refine s_gi o kf_X2_132 dX2_lieFault_51 (q := 54) rfl (fun v10_ => ?_)
    refine s_imul o dX2_lieFault_54 (q := 55) rfl ?_
    refine s_ic_le o (tgt := 62) dX2_lieFault_55 (by decide) (q := 58) rfl ?_ ?_
    · refine s_iconst o dX2_lieFault_62 (v := (4 : Int32)) (by decide) (q := 63) rfl ?_
      exact s_sub [] rfl (t_X2_lieFault_63 o f (4 : Int32) h)
    · refine s_iconst o dX2_lieFault_58 (v := (0 : Int32)) (by decide) (q := 59) rfl ?_
      refine s_goto o (tgt := 63) dX2_lieFault_59 (by decide) ?_
      exact s_sub [] rfl (t_X2_lieFault_63 o f (0 : Int32) h)
  · refine s_iconst o dX2_lieFault_6 (v := (2 : Int32)) (by decide) (q := 7) rfl ?_
    exact s_iret o dX2_lieFault_7
theorem c_X2_lieFault (G : Gx) (f : Nat) (x0 : Nat) (x1 : Int32) (x2 : Nat) (h : Hp) : z_M z_qi G yX2_lieFault cX2_lieFault 5 (some .int) 1 14 0 0 [rf G x0, .int x1, rf G x2] h (f_X2_lieFault f x0 x1 x2 h) :=
  z_met (by decide +kernel) (Nat.le_of_ble_eq_true rfl) (fun X hG hn o hnm => by
    subst hG
    show Sim X (z_Zi X 0 0) 0 0 0 [(0, rf (xG X) x0), (1, .int x1), (2, rf (xG X) x2)] [] h _
    exact s_sub [0, 1, 2] rfl (t_X2_lieFault_0 o f x0 x1 x2 h))
/-! SixMaps$Reader.mapFault(IILSixMaps$Island;)I -/
def b_X2_mapFault_29 (f : Nat)  (y0 : Int32) (h : Hp) : Option (Int32 × Hp) :=
  some (y0, h)
def b_X2_mapFault_28 (f : Nat)   (h : Hp) : Option (Int32 × Hp) :=
  b_X2_mapFault_29 f (0 : Int32) h
def f_X2_mapFault (f : Nat)  (x0 : Int32) (x1 : Int32) (x2 : Nat) (h : Hp) : Option (Int32 × Hp) :=
  if x1 < (6 : Int32) then
  (if ¬ x0 = (3 : Int32) then
  (b_X2_mapFault_28 f h)
  else
  ((q_gi h x2 0 5).bind fun v1_ =>
  bi (f_X5_isIn f v1_ x1 h) fun v3_ h2_ =>
  if v3_ = 0 then
  (b_X2_mapFault_28 f h2_)
  else
  (b_X2_mapFault_29 f (4 : Int32) h2_)))
  else
  (some ((2 : Int32), h))
set_option maxRecDepth 20000 in
theorem t_X2_mapFault_29 {X : Cx} (o : Ok X RX2 cX2_mapFault 3 1 21 0 0 (some .int)) (f : Nat)  (y0 : Int32) (h : Hp) : Sim X (z_Zi X 0 0) 0 0 29 [] [.int y0] h (b_X2_mapFault_29 f y0 h) := by
  unfold b_X2_mapFault_29
  exact s_iret o dX2_mapFault_29
set_option maxRecDepth 20000 in
theorem t_X2_mapFault_28 {X : Cx} (o : Ok X RX2 cX2_mapFault 3 1 21 0 0 (some .int)) (f : Nat)   (h : Hp) : Sim X (z_Zi X 0 0) 0 0 28 [] [] h (b_X2_mapFault_28 f h) := by
  unfold b_X2_mapFault_28
  refine s_iconst o dX2_mapFault_28 (v := (0 : Int32)) (by decide) (q := 29) rfl ?_
  exact s_sub [] rfl (t_X2_mapFault_29 o f (0 : Int32) h)
set_option maxRecDepth 20000 in
theorem t_X2_mapFault_0 {X : Cx} (o : Ok X RX2 cX2_mapFault 3 1 21 0 0 (some .int)) (f : Nat)  (x0 : Int32) (x1 : Int32) (x2 : Nat) (h : Hp) : Sim X (z_Zi X 0 0) 0 0 0 [(0, .int x0), (1, .int x1), (2, rf (xG X) x2)] [] h (f_X2_mapFault f x0 x1 x2 h) := by
  unfold f_X2_mapFault
  refine s_iload_n o 1 rfl dX2_mapFault_0 (q := 1) rfl ?_
  refine s_bipush o dX2_mapFault_1 (v := (6 : Int32)) (by decide) (q := 3) rfl ?_
  refine s_ic_lt o (tgt := 8) dX2_mapFault_3 (by decide) (q := 6) rfl ?_ ?_
  · refine s_iload_n o 0 rfl dX2_mapFault_8 (q := 9) rfl ?_
    refine s_iconst o dX2_mapFault_9 (v := (3 : Int32)) (by decide) (q := 10) rfl ?_
    refine s_ic_ne o (tgt := 28) dX2_mapFault_10 (by decide) (q := 13) rfl ?_ ?_
    · exact s_sub [] rfl (t_X2_mapFault_28 o f h)
    · refine s_aload_n o 2 rfl dX2_mapFault_13 (q := 14) rfl ?_
      refine s_gi o kf_X2_137 dX2_mapFault_14 (q := 17) rfl (fun v1_ => ?_)
      refine s_iload_n o 1 rfl dX2_mapFault_17 (q := 18) rfl ?_
      refine s_bi (fun r0 hr0 => runN o cn_X2_140 (c_X5_isIn (xG X) f v1_ x1 h (xl X) r0 hr0) ⟨Nat.le_of_ble_eq_true rfl, Nat.le_of_ble_eq_true rfl⟩ rfl rfl (Nat.le_of_ble_eq_true rfl) dX2_mapFault_18 ⟨Nat.le_of_ble_eq_true rfl, Nat.le_of_ble_eq_true rfl⟩) (q := 21) rfl (cs' := 0) rfl (sl' := 0) rfl (fun v3_ h2_ => ?_)
      refine s_if_eq o (tgt := 28) dX2_mapFault_21 (by decide) (q := 24) rfl ?_ ?_
      · exact s_sub [] rfl (t_X2_mapFault_28 o f h2_)
      · refine s_iconst o dX2_mapFault_24 (v := (4 : Int32)) (by decide) (q := 25) rfl ?_
        refine s_goto o (tgt := 29) dX2_mapFault_25 (by decide) ?_
        exact s_sub [] rfl (t_X2_mapFault_29 o f (4 : Int32) h2_)
  · refine s_iconst o dX2_mapFault_6 (v := (2 : Int32)) (by decide) (q := 7) rfl ?_
    exact s_iret o dX2_mapFault_7
theorem c_X2_mapFault (G : Gx) (f : Nat) (x0 : Int32) (x1 : Int32) (x2 : Nat) (h : Hp) : z_M z_qi G yX2_mapFault cX2_mapFault 3 (some .int) 1 21 0 0 [.int x0, .int x1, rf G x2] h (f_X2_mapFault f x0 x1 x2 h) :=
  z_met (by decide +kernel) (Nat.le_of_ble_eq_true rfl) (fun X hG hn o hnm => by
    subst hG
    show Sim X (z_Zi X 0 0) 0 0 0 [(0, .int x0), (1, .int x1), (2, rf (xG X) x2)] [] h _
    exact s_sub [0, 1, 2] rfl (t_X2_mapFault_0 o f x0 x1 x2 h))
/-! SixMaps$Reader.markFault(ILSixMaps$Island;)I -/
def b_X2_markFault_33 (f : Nat)  (y0 : Int32) (h : Hp) : Option (Int32 × Hp) :=
  some (y0, h)
def f_X2_markFault (f : Nat)  (x0 : Nat) (x1 : Int32) (x2 : Nat) (h : Hp) : Option (Int32 × Hp) :=
  (q_gi h x2 0 4).bind fun v1_ =>
  if x1 < v1_ then
  ((q_gr h x0 2 2).bind fun a2_ =>
  (q_gr h x0 2 1).bind fun a3_ =>
  (q_ai h a3_ 9 (0 : Int32)).bind fun v4_ =>
  (q_ai h a2_ 9 v4_).bind fun v5_ =>
  bi (f_X5_isIn f v5_ x1 h) fun v7_ h6_ =>
  if v7_ = 0 then
  (b_X2_markFault_33 f (0 : Int32) h6_)
  else
  (b_X2_markFault_33 f (4 : Int32) h6_))
  else
  (some ((2 : Int32), h))
set_option maxRecDepth 20000 in
theorem t_X2_markFault_33 {X : Cx} (o : Ok X RX2 cX2_markFault 3 1 21 0 0 (some .int)) (f : Nat)  (y0 : Int32) (h : Hp) : Sim X (z_Zi X 0 0) 0 0 33 [] [.int y0] h (b_X2_markFault_33 f y0 h) := by
  unfold b_X2_markFault_33
  exact s_iret o dX2_markFault_33
set_option maxRecDepth 20000 in
theorem t_X2_markFault_0 {X : Cx} (o : Ok X RX2 cX2_markFault 3 1 21 0 0 (some .int)) (f : Nat)  (x0 : Nat) (x1 : Int32) (x2 : Nat) (h : Hp) : Sim X (z_Zi X 0 0) 0 0 0 [(0, rf (xG X) x0), (1, .int x1), (2, rf (xG X) x2)] [] h (f_X2_markFault f x0 x1 x2 h) := by
  unfold f_X2_markFault
  refine s_iload_n o 1 rfl dX2_markFault_0 (q := 1) rfl ?_
  refine s_aload_n o 2 rfl dX2_markFault_1 (q := 2) rfl ?_
  refine s_gi o kf_X2_117 dX2_markFault_2 (q := 5) rfl (fun v1_ => ?_)
  refine s_ic_lt o (tgt := 10) dX2_markFault_5 (by decide) (q := 8) rfl ?_ ?_
  · refine s_aload_n o 0 rfl dX2_markFault_10 (q := 11) rfl ?_
    refine s_gr o kf_X2_18 dX2_markFault_11 (q := 14) rfl (fun a2_ => ?_)
    refine s_aload_n o 0 rfl dX2_markFault_14 (q := 15) rfl ?_
    refine s_gr o kf_X2_15 dX2_markFault_15 (q := 18) rfl (fun a3_ => ?_)
    refine s_iconst o dX2_markFault_18 (v := (0 : Int32)) (by decide) (q := 19) rfl ?_
    refine s_iald o dX2_markFault_19 (q := 20) rfl (fun v4_ => ?_)
    refine s_iald o dX2_markFault_20 (q := 21) rfl (fun v5_ => ?_)
    refine s_iload_n o 1 rfl dX2_markFault_21 (q := 22) rfl ?_
    refine s_bi (fun r0 hr0 => runN o cn_X2_140 (c_X5_isIn (xG X) f v5_ x1 h (xl X) r0 hr0) ⟨Nat.le_of_ble_eq_true rfl, Nat.le_of_ble_eq_true rfl⟩ rfl rfl (Nat.le_of_ble_eq_true rfl) dX2_markFault_22 ⟨Nat.le_of_ble_eq_true rfl, Nat.le_of_ble_eq_true rfl⟩) (q := 25) rfl (cs' := 0) rfl (sl' := 0) rfl (fun v7_ h6_ => ?_)
    refine s_if_eq o (tgt := 32) dX2_markFault_25 (by decide) (q := 28) rfl ?_ ?_
    · refine s_iconst o dX2_markFault_32 (v := (0 : Int32)) (by decide) (q := 33) rfl ?_
      exact s_sub [] rfl (t_X2_markFault_33 o f (0 : Int32) h6_)
    · refine s_iconst o dX2_markFault_28 (v := (4 : Int32)) (by decide) (q := 29) rfl ?_
      refine s_goto o (tgt := 33) dX2_markFault_29 (by decide) ?_
      exact s_sub [] rfl (t_X2_markFault_33 o f (4 : Int32) h6_)
  · refine s_iconst o dX2_markFault_8 (v := (2 : Int32)) (by decide) (q := 9) rfl ?_
    exact s_iret o dX2_markFault_9
theorem c_X2_markFault (G : Gx) (f : Nat) (x0 : Nat) (x1 : Int32) (x2 : Nat) (h : Hp) : z_M z_qi G yX2_markFault cX2_markFault 3 (some .int) 1 21 0 0 [rf G x0, .int x1, rf G x2] h (f_X2_markFault f x0 x1 x2 h) :=
  z_met (by decide +kernel) (Nat.le_of_ble_eq_true rfl) (fun X hG hn o hnm => by
    subst hG
    show Sim X (z_Zi X 0 0) 0 0 0 [(0, rf (xG X) x0), (1, .int x1), (2, rf (xG X) x2)] [] h _
    exact s_sub [0, 1, 2] rfl (t_X2_markFault_0 o f x0 x1 x2 h))
/-! SixMaps$Reader.numberFault(IIILSixMaps$Island;)I -/
def b_X2_numberFault_170 (f : Nat)  (y0 : Int32) (h : Hp) : Option (Int32 × Hp) :=
  some (y0, h)
def b_X2_numberFault_86 (f : Nat)  (x0 : Nat) (x1 : Int32) (x2 : Int32) (x3 : Int32) (x4 : Nat) (h : Hp) : Option (Int32 × Hp) :=
  if x2 = (0 : Int32) then
  (bi (f_X2_mapFault f x1 x3 x4 h) fun v2_ h1_ =>
  some (v2_, h1_))
  else if x2 = (1 : Int32) then
  (q_on h x0 2 (
  bi (f_X2_markFault f x0 x3 x4 h) fun v5_ h4_ =>
  some (v5_, h4_)))
  else
  (if ¬ x1 = (4 : Int32) then
  (if ¬ x2 = (2 : Int32) then
  (q_on h x0 2 (
  bi (f_X2_lieFault f x0 x3 x4 h) fun v8_ h7_ =>
  b_X2_numberFault_170 f v8_ h7_))
  else
  (bi (f_X2_above f x3 (99 : Int32) h) fun v10_ h9_ =>
  b_X2_numberFault_170 f v10_ h9_))
  else
  ((q_gi h x4 0 7).bind fun v11_ =>
  bi (f_X2_above f (if 0 ≤ (x3 - (9 : Int32)) then (x3 - (9 : Int32)) else 0 - (x3 - (9 : Int32))) v11_ h) fun v13_ h12_ =>
  some (v13_, h12_)))
def f_X2_numberFault (f : Nat)  (x0 : Nat) (x1 : Int32) (x2 : Int32) (x3 : Int32) (x4 : Nat) (h : Hp) : Option (Int32 × Hp) :=
  sw x1 0 [
  (bi (f_X2_above f x3 (99 : Int32) h) fun v2_ h1_ =>
  some (v2_, h1_)), 
  ((q_gi h x4 0 4).bind fun v3_ =>
  bi (f_X2_above f x3 (v3_ - (1 : Int32)) h) fun v5_ h4_ =>
  some (v5_, h4_)), 
  (bi (f_X2_above f x3 (9 : Int32) h) fun v7_ h6_ =>
  some (v7_, h6_)), 
  (b_X2_numberFault_86 f x0 x1 x2 x3 x4 h), 
  (b_X2_numberFault_86 f x0 x1 x2 x3 x4 h), 
  (bi (f_X2_above f x3 (999 : Int32) h) fun v9_ h8_ =>
  some (v9_, h8_)), 
  (bi (f_X2_above f x3 (9999 : Int32) h) fun v11_ h10_ =>
  some (v11_, h10_))] (b_X2_numberFault_86 f x0 x1 x2 x3 x4 h)
set_option maxRecDepth 20000 in
theorem t_X2_numberFault_170 {X : Cx} (o : Ok X RX2 cX2_numberFault 5 2 43 0 0 (some .int)) (f : Nat)  (y0 : Int32) (h : Hp) : Sim X (z_Zi X 0 0) 0 0 170 [] [.int y0] h (b_X2_numberFault_170 f y0 h) := by
  unfold b_X2_numberFault_170
  exact s_iret o dX2_numberFault_170
set_option maxRecDepth 20000 in
theorem t_X2_numberFault_86 {X : Cx} (o : Ok X RX2 cX2_numberFault 5 2 43 0 0 (some .int)) (f : Nat)  (x0 : Nat) (x1 : Int32) (x2 : Int32) (x3 : Int32) (x4 : Nat) (h : Hp) : Sim X (z_Zi X 0 0) 0 0 86 [(0, rf (xG X) x0), (1, .int x1), (2, .int x2), (3, .int x3), (4, rf (xG X) x4)] [] h (b_X2_numberFault_86 f x0 x1 x2 x3 x4 h) := by
  unfold b_X2_numberFault_86
  refine s_iload_n o 2 rfl dX2_numberFault_86 (q := 87) rfl ?_
  refine s_look2 o (k0 := (0 : Int32)) (k1 := (1 : Int32)) (t0 := 112) (t1 := 120) (tD := 128) dX2_numberFault_87 (by decide) (by decide) (by decide) (by decide) (by decide) (by decide) ?_ ?_ ?_
  · refine s_iload_n o 1 rfl dX2_numberFault_112 (q := 113) rfl ?_
    refine s_iload_n o 3 rfl dX2_numberFault_113 (q := 114) rfl ?_
    refine s_aload o 4 rfl dX2_numberFault_114 (q := 116) rfl ?_
    refine s_bi (fun r0 hr0 => runS o cs_X2_120 (c_X2_mapFault (xG X) f x1 x3 x4 h (xl X) r0 hr0) ⟨Nat.le_of_ble_eq_true rfl, Nat.le_of_ble_eq_true rfl⟩ rfl rfl (Nat.le_of_ble_eq_true rfl) dX2_numberFault_116 ⟨Nat.le_of_ble_eq_true rfl, Nat.le_of_ble_eq_true rfl⟩) (q := 119) rfl (cs' := 0) rfl (sl' := 0) rfl (fun v2_ h1_ => ?_)
    exact s_iret o dX2_numberFault_119
  · refine s_aload_n o 0 rfl dX2_numberFault_120 (q := 121) rfl ?_
    refine s_iload_n o 3 rfl dX2_numberFault_121 (q := 122) rfl ?_
    refine s_aload o 4 rfl dX2_numberFault_122 (q := 124) rfl ?_
    refine s_on (fun hk3_ => ?_)
    refine s_bi (fun r0 hr0 => runV o hk3_ cv_X2_124 (c_X2_markFault (xG X) f x0 x3 x4 h (xl X) r0 hr0) ⟨Nat.le_of_ble_eq_true rfl, Nat.le_of_ble_eq_true rfl⟩ rfl rfl (Nat.le_of_ble_eq_true rfl) dX2_numberFault_124 ⟨Nat.le_of_ble_eq_true rfl, Nat.le_of_ble_eq_true rfl⟩) (q := 127) rfl (cs' := 0) rfl (sl' := 0) rfl (fun v5_ h4_ => ?_)
    exact s_iret o dX2_numberFault_127
  · refine s_iload_n o 1 rfl dX2_numberFault_128 (q := 129) rfl ?_
    refine s_iconst o dX2_numberFault_129 (v := (4 : Int32)) (by decide) (q := 130) rfl ?_
    refine s_ic_ne o (tgt := 149) dX2_numberFault_130 (by decide) (q := 133) rfl ?_ ?_
    · refine s_iload_n o 2 rfl dX2_numberFault_149 (q := 150) rfl ?_
      refine s_iconst o dX2_numberFault_150 (v := (2 : Int32)) (by decide) (q := 151) rfl ?_
      refine s_ic_ne o (tgt := 163) dX2_numberFault_151 (by decide) (q := 154) rfl ?_ ?_
      · refine s_aload_n o 0 rfl dX2_numberFault_163 (q := 164) rfl ?_
        refine s_iload_n o 3 rfl dX2_numberFault_164 (q := 165) rfl ?_
        refine s_aload o 4 rfl dX2_numberFault_165 (q := 167) rfl ?_
        refine s_on (fun hk6_ => ?_)
        refine s_bi (fun r0 hr0 => runV o hk6_ cv_X2_134 (c_X2_lieFault (xG X) f x0 x3 x4 h (xl X) r0 hr0) ⟨Nat.le_of_ble_eq_true rfl, Nat.le_of_ble_eq_true rfl⟩ rfl rfl (Nat.le_of_ble_eq_true rfl) dX2_numberFault_167 ⟨Nat.le_of_ble_eq_true rfl, Nat.le_of_ble_eq_true rfl⟩) (q := 170) rfl (cs' := 0) rfl (sl' := 0) rfl (fun v8_ h7_ => ?_)
        exact s_sub [] rfl (t_X2_numberFault_170 o f v8_ h7_)
      · refine s_iload_n o 3 rfl dX2_numberFault_154 (q := 155) rfl ?_
        refine s_bipush o dX2_numberFault_155 (v := (99 : Int32)) (by decide) (q := 157) rfl ?_
        refine s_bi (fun r0 hr0 => runS o cs_X2_114 (c_X2_above (xG X) f x3 (99 : Int32) h (xl X) r0 hr0) ⟨Nat.le_of_ble_eq_true rfl, Nat.le_of_ble_eq_true rfl⟩ rfl rfl (Nat.le_of_ble_eq_true rfl) dX2_numberFault_157 ⟨Nat.le_of_ble_eq_true rfl, Nat.le_of_ble_eq_true rfl⟩) (q := 160) rfl (cs' := 0) rfl (sl' := 0) rfl (fun v10_ h9_ => ?_)
        refine s_goto o (tgt := 170) dX2_numberFault_160 (by decide) ?_
        exact s_sub [] rfl (t_X2_numberFault_170 o f v10_ h9_)
    · refine s_iload_n o 3 rfl dX2_numberFault_133 (q := 134) rfl ?_
      refine s_bipush o dX2_numberFault_134 (v := (9 : Int32)) (by decide) (q := 136) rfl ?_
      refine s_isub o dX2_numberFault_136 (q := 137) rfl ?_
      refine s_abs o mw_X2_128 (Nat.le_of_ble_eq_true rfl) (Nat.le_of_ble_eq_true rfl) (by decide) (by decide) dX2_numberFault_137 (q := 140) rfl ?_
      refine s_aload o 4 rfl dX2_numberFault_140 (q := 142) rfl ?_
      refine s_gi o kf_X2_132 dX2_numberFault_142 (q := 145) rfl (fun v11_ => ?_)
      refine s_bi (fun r0 hr0 => runS o cs_X2_114 (c_X2_above (xG X) f (if 0 ≤ (x3 - (9 : Int32)) then (x3 - (9 : Int32)) else 0 - (x3 - (9 : Int32))) v11_ h (xl X) r0 hr0) ⟨Nat.le_of_ble_eq_true rfl, Nat.le_of_ble_eq_true rfl⟩ rfl rfl (Nat.le_of_ble_eq_true rfl) dX2_numberFault_145 ⟨Nat.le_of_ble_eq_true rfl, Nat.le_of_ble_eq_true rfl⟩) (q := 148) rfl (cs' := 0) rfl (sl' := 0) rfl (fun v13_ h12_ => ?_)
      exact s_iret o dX2_numberFault_148
set_option maxRecDepth 20000 in
theorem t_X2_numberFault_0 {X : Cx} (o : Ok X RX2 cX2_numberFault 5 2 43 0 0 (some .int)) (f : Nat)  (x0 : Nat) (x1 : Int32) (x2 : Int32) (x3 : Int32) (x4 : Nat) (h : Hp) : Sim X (z_Zi X 0 0) 0 0 0 [(0, rf (xG X) x0), (1, .int x1), (2, .int x2), (3, .int x3), (4, rf (xG X) x4)] [] h (f_X2_numberFault f x0 x1 x2 x3 x4 h) := by
  unfold f_X2_numberFault
  refine s_iload_n o 1 rfl dX2_numberFault_0 (q := 1) rfl ?_
  refine s_sw o dX2_numberFault_1 rfl (tgD := 86) (by decide) ?_ (⟨⟨44, by decide, ?_⟩, ⟨51, by decide, ?_⟩, ⟨63, by decide, ?_⟩, ⟨86, by decide, ?_⟩, ⟨86, by decide, ?_⟩, ⟨70, by decide, ?_⟩, ⟨78, by decide, ?_⟩, trivial⟩)
  · exact s_sub [0, 1, 2, 3, 4] rfl (t_X2_numberFault_86 o f x0 x1 x2 x3 x4 h)
  · refine s_iload_n o 3 rfl dX2_numberFault_44 (q := 45) rfl ?_
    refine s_bipush o dX2_numberFault_45 (v := (99 : Int32)) (by decide) (q := 47) rfl ?_
    refine s_bi (fun r0 hr0 => runS o cs_X2_114 (c_X2_above (xG X) f x3 (99 : Int32) h (xl X) r0 hr0) ⟨Nat.le_of_ble_eq_true rfl, Nat.le_of_ble_eq_true rfl⟩ rfl rfl (Nat.le_of_ble_eq_true rfl) dX2_numberFault_47 ⟨Nat.le_of_ble_eq_true rfl, Nat.le_of_ble_eq_true rfl⟩) (q := 50) rfl (cs' := 0) rfl (sl' := 0) rfl (fun v2_ h1_ => ?_)
    exact s_iret o dX2_numberFault_50
  · refine s_iload_n o 3 rfl dX2_numberFault_51 (q := 52) rfl ?_
    refine s_aload o 4 rfl dX2_numberFault_52 (q := 54) rfl ?_
    refine s_gi o kf_X2_117 dX2_numberFault_54 (q := 57) rfl (fun v3_ => ?_)
    refine s_iconst o dX2_numberFault_57 (v := (1 : Int32)) (by decide) (q := 58) rfl ?_
    refine s_isub o dX2_numberFault_58 (q := 59) rfl ?_
    refine s_bi (fun r0 hr0 => runS o cs_X2_114 (c_X2_above (xG X) f x3 (v3_ - (1 : Int32)) h (xl X) r0 hr0) ⟨Nat.le_of_ble_eq_true rfl, Nat.le_of_ble_eq_true rfl⟩ rfl rfl (Nat.le_of_ble_eq_true rfl) dX2_numberFault_59 ⟨Nat.le_of_ble_eq_true rfl, Nat.le_of_ble_eq_true rfl⟩) (q := 62) rfl (cs' := 0) rfl (sl' := 0) rfl (fun v5_ h4_ => ?_)
    exact s_iret o dX2_numberFault_62
  · refine s_iload_n o 3 rfl dX2_numberFault_63 (q := 64) rfl ?_
    refine s_bipush o dX2_numberFault_64 (v := (9 : Int32)) (by decide) (q := 66) rfl ?_
    refine s_bi (fun r0 hr0 => runS o cs_X2_114 (c_X2_above (xG X) f x3 (9 : Int32) h (xl X) r0 hr0) ⟨Nat.le_of_ble_eq_true rfl, Nat.le_of_ble_eq_true rfl⟩ rfl rfl (Nat.le_of_ble_eq_true rfl) dX2_numberFault_66 ⟨Nat.le_of_ble_eq_true rfl, Nat.le_of_ble_eq_true rfl⟩) (q := 69) rfl (cs' := 0) rfl (sl' := 0) rfl (fun v7_ h6_ => ?_)
    exact s_iret o dX2_numberFault_69
  · exact s_sub [0, 1, 2, 3, 4] rfl (t_X2_numberFault_86 o f x0 x1 x2 x3 x4 h)
  · exact s_sub [0, 1, 2, 3, 4] rfl (t_X2_numberFault_86 o f x0 x1 x2 x3 x4 h)
  · refine s_iload_n o 3 rfl dX2_numberFault_70 (q := 71) rfl ?_
    refine s_sipush o dX2_numberFault_71 (v := (999 : Int32)) (by decide) (q := 74) rfl ?_
    refine s_bi (fun r0 hr0 => runS o cs_X2_114 (c_X2_above (xG X) f x3 (999 : Int32) h (xl X) r0 hr0) ⟨Nat.le_of_ble_eq_true rfl, Nat.le_of_ble_eq_true rfl⟩ rfl rfl (Nat.le_of_ble_eq_true rfl) dX2_numberFault_74 ⟨Nat.le_of_ble_eq_true rfl, Nat.le_of_ble_eq_true rfl⟩) (q := 77) rfl (cs' := 0) rfl (sl' := 0) rfl (fun v9_ h8_ => ?_)
    exact s_iret o dX2_numberFault_77
  · refine s_iload_n o 3 rfl dX2_numberFault_78 (q := 79) rfl ?_
    refine s_sipush o dX2_numberFault_79 (v := (9999 : Int32)) (by decide) (q := 82) rfl ?_
    refine s_bi (fun r0 hr0 => runS o cs_X2_114 (c_X2_above (xG X) f x3 (9999 : Int32) h (xl X) r0 hr0) ⟨Nat.le_of_ble_eq_true rfl, Nat.le_of_ble_eq_true rfl⟩ rfl rfl (Nat.le_of_ble_eq_true rfl) dX2_numberFault_82 ⟨Nat.le_of_ble_eq_true rfl, Nat.le_of_ble_eq_true rfl⟩) (q := 85) rfl (cs' := 0) rfl (sl' := 0) rfl (fun v11_ h10_ => ?_)
    exact s_iret o dX2_numberFault_85
theorem c_X2_numberFault (G : Gx) (f : Nat) (x0 : Nat) (x1 : Int32) (x2 : Int32) (x3 : Int32) (x4 : Nat) (h : Hp) : z_M z_qi G yX2_numberFault cX2_numberFault 5 (some .int) 2 43 0 0 [rf G x0, .int x1, .int x2, .int x3, rf G x4] h (f_X2_numberFault f x0 x1 x2 x3 x4 h) :=
  z_met (by decide +kernel) (Nat.le_of_ble_eq_true rfl) (fun X hG hn o hnm => by
    subst hG
    show Sim X (z_Zi X 0 0) 0 0 0 [(0, rf (xG X) x0), (1, .int x1), (2, .int x2), (3, .int x3), (4, rf (xG X) x4)] [] h _
    exact s_sub [0, 1, 2, 3, 4] rfl (t_X2_numberFault_0 o f x0 x1 x2 x3 x4 h))
/-! SixMaps$Reader.readNumber()I -/
def b_X2_readNumber_118 (f : Nat)  (y0 : Int32) (h : Hp) : Option (Int32 × Hp) :=
  some (y0, h)
def b_X2_readNumber_85 (f : Nat)  (x0 : Nat) (x1 : Int32) (h : Hp) : Option (Int32 × Hp) :=
  (q_gi h x0 2 5).bind fun v1_ =>
  (q_gi h x0 2 6).bind fun v2_ =>
  if ¬ v1_ = v2_ then
  ((q_gi h x0 2 5).bind fun v3_ =>
  (q_gi h x0 2 6).bind fun v4_ =>
  if (v3_ - v4_) ≤ (4 : Int32) then
  (b_X2_readNumber_118 f x1 h)
  else
  (b_X2_readNumber_118 f (10000 : Int32) h))
  else
  (some ((-1 : Int32), h))
def b_X2_readNumber_72 (f : Nat) (k2 : Nat → Int32 → Hp → Option (Int32 × Hp)) (x0 : Nat) (x1 : Int32) (h : Hp) : Option (Int32 × Hp) :=
  (q_gi h x0 2 5).bind fun v1_ =>
  (q_pi h x0 2 5 (v1_ + (1 : Int32))).bind fun h2_ =>
  k2 x0 x1 h2_
def b_X2_readNumber_2 (f : Nat) (k2 : Nat → Int32 → Hp → Option (Int32 × Hp)) (x0 : Nat) (x1 : Int32) (h : Hp) : Option (Int32 × Hp) :=
  (q_gi h x0 2 5).bind fun v1_ =>
  (q_gi h x0 2 4).bind fun v2_ =>
  if v2_ ≤ v1_ then
  (b_X2_readNumber_85 f x0 x1 h)
  else
  ((q_gr h x0 2 3).bind fun a3_ =>
  (q_gi h x0 2 5).bind fun v4_ =>
  (q_ai h a3_ 8 v4_).bind fun v5_ =>
  if v5_ < (48 : Int32) then
  (b_X2_readNumber_85 f x0 x1 h)
  else
  ((q_gr h x0 2 3).bind fun a6_ =>
  (q_gi h x0 2 5).bind fun v7_ =>
  (q_ai h a6_ 8 v7_).bind fun v8_ =>
  if (57 : Int32) < v8_ then
  (b_X2_readNumber_85 f x0 x1 h)
  else
  ((q_gi h x0 2 5).bind fun v9_ =>
  (q_gi h x0 2 6).bind fun v10_ =>
  if (4 : Int32) ≤ (v9_ - v10_) then
  (b_X2_readNumber_72 f k2 x0 x1 h)
  else
  ((q_gr h x0 2 3).bind fun a11_ =>
  (q_gi h x0 2 5).bind fun v12_ =>
  (q_ai h a11_ 8 v12_).bind fun v13_ =>
  lt ((x1 * (10 : Int32)) + (v13_ - (48 : Int32))) fun v14_ =>
  b_X2_readNumber_72 f k2 x0 v14_ h))))
def l_X2_readNumber_2 (f : Nat)  : Nat → Nat → Int32 → Hp → Option (Int32 × Hp)
  | 0, _, _, _ => none
  | n + 1, x0, x1, h => b_X2_readNumber_2 f  (l_X2_readNumber_2 f  n) x0 x1 h
def f_X2_readNumber (f : Nat)  (x0 : Nat) (h : Hp) : Option (Int32 × Hp) :=
  l_X2_readNumber_2 f f x0 (0 : Int32) h
set_option maxRecDepth 20000 in
theorem t_X2_readNumber_118 {X : Cx} (o : Ok X RX2 cX2_readNumber 2 0 0 0 0 (some .int)) (f : Nat)  (y0 : Int32) (h : Hp) : Sim X (z_Zi X 0 0) 0 0 118 [] [.int y0] h (b_X2_readNumber_118 f y0 h) := by
  unfold b_X2_readNumber_118
  exact s_iret o dX2_readNumber_118
set_option maxRecDepth 20000 in
theorem t_X2_readNumber_85 {X : Cx} (o : Ok X RX2 cX2_readNumber 2 0 0 0 0 (some .int)) (f : Nat)  (x0 : Nat) (x1 : Int32) (h : Hp) : Sim X (z_Zi X 0 0) 0 0 85 [(0, rf (xG X) x0), (1, .int x1)] [] h (b_X2_readNumber_85 f x0 x1 h) := by
  unfold b_X2_readNumber_85
  refine s_aload_n o 0 rfl dX2_readNumber_85 (q := 86) rfl ?_
  refine s_gi o kf_X2_29 dX2_readNumber_86 (q := 89) rfl (fun v1_ => ?_)
  refine s_aload_n o 0 rfl dX2_readNumber_89 (q := 90) rfl ?_
  refine s_gi o kf_X2_32 dX2_readNumber_90 (q := 93) rfl (fun v2_ => ?_)
  refine s_ic_ne o (tgt := 98) dX2_readNumber_93 (by decide) (q := 96) rfl ?_ ?_
  · refine s_aload_n o 0 rfl dX2_readNumber_98 (q := 99) rfl ?_
    refine s_gi o kf_X2_29 dX2_readNumber_99 (q := 102) rfl (fun v3_ => ?_)
    refine s_aload_n o 0 rfl dX2_readNumber_102 (q := 103) rfl ?_
    refine s_gi o kf_X2_32 dX2_readNumber_103 (q := 106) rfl (fun v4_ => ?_)
    refine s_isub o dX2_readNumber_106 (q := 107) rfl ?_
    refine s_iconst o dX2_readNumber_107 (v := (4 : Int32)) (by decide) (q := 108) rfl ?_
    refine s_ic_le o (tgt := 117) dX2_readNumber_108 (by decide) (q := 111) rfl ?_ ?_
    · refine s_iload_n o 1 rfl dX2_readNumber_117 (q := 118) rfl ?_
      exact s_sub [] rfl (t_X2_readNumber_118 o f x1 h)
    · refine s_sipush o dX2_readNumber_111 (v := (10000 : Int32)) (by decide) (q := 114) rfl ?_
      refine s_goto o (tgt := 118) dX2_readNumber_114 (by decide) ?_
      exact s_sub [] rfl (t_X2_readNumber_118 o f (10000 : Int32) h)
  · refine s_iconst o dX2_readNumber_96 (v := (-1 : Int32)) (by decide) (q := 97) rfl ?_
    exact s_iret o dX2_readNumber_97
set_option maxRecDepth 20000 in
theorem t_X2_readNumber_72 {X : Cx} (o : Ok X RX2 cX2_readNumber 2 0 0 0 0 (some .int)) (f : Nat) {k2 : Nat → Int32 → Hp → Option (Int32 × Hp)} (hk2 : ∀ (x0 : Nat) (x1 : Int32) (h : Hp), Sim X (z_Zi X 0 0) 0 0 2 [(0, rf (xG X) x0), (1, .int x1)] [] h (k2 x0 x1 h)) (x0 : Nat) (x1 : Int32) (h : Hp) : Sim X (z_Zi X 0 0) 0 0 72 [(0, rf (xG X) x0), (1, .int x1)] [] h (b_X2_readNumber_72 f k2 x0 x1 h) := by
  unfold b_X2_readNumber_72
  refine s_aload_n o 0 rfl dX2_readNumber_72 (q := 73) rfl ?_
  refine s_dup o rfl dX2_readNumber_73 (q := 74) rfl ?_
  refine s_gi o kf_X2_29 dX2_readNumber_74 (q := 77) rfl (fun v1_ => ?_)
  refine s_iconst o dX2_readNumber_77 (v := (1 : Int32)) (by decide) (q := 78) rfl ?_
  refine s_iadd o dX2_readNumber_78 (q := 79) rfl ?_
  refine s_pi o kf_X2_29 dX2_readNumber_79 (q := 82) rfl (fun h2_ => ?_)
  refine s_goto o (tgt := 2) dX2_readNumber_82 (by decide) ?_
  exact s_sub [0, 1] rfl (hk2 x0 x1 h2_)
set_option maxRecDepth 20000 in
theorem t_X2_readNumber_2 {X : Cx} (o : Ok X RX2 cX2_readNumber 2 0 0 0 0 (some .int)) (f : Nat) {k2 : Nat → Int32 → Hp → Option (Int32 × Hp)} (hk2 : ∀ (x0 : Nat) (x1 : Int32) (h : Hp), Sim X (z_Zi X 0 0) 0 0 2 [(0, rf (xG X) x0), (1, .int x1)] [] h (k2 x0 x1 h)) (x0 : Nat) (x1 : Int32) (h : Hp) : Sim X (z_Zi X 0 0) 0 0 2 [(0, rf (xG X) x0), (1, .int x1)] [] h (b_X2_readNumber_2 f k2 x0 x1 h) := by
  unfold b_X2_readNumber_2
  refine s_aload_n o 0 rfl dX2_readNumber_2 (q := 3) rfl ?_
  refine s_gi o kf_X2_29 dX2_readNumber_3 (q := 6) rfl (fun v1_ => ?_)
  refine s_aload_n o 0 rfl dX2_readNumber_6 (q := 7) rfl ?_
  refine s_gi o kf_X2_25 dX2_readNumber_7 (q := 10) rfl (fun v2_ => ?_)
  refine s_ic_ge o (tgt := 85) dX2_readNumber_10 (by decide) (q := 13) rfl ?_ ?_
  · exact s_sub [0, 1] rfl (t_X2_readNumber_85 o f x0 x1 h)
  · refine s_aload_n o 0 rfl dX2_readNumber_13 (q := 14) rfl ?_
    refine s_gr o kf_X2_21 dX2_readNumber_14 (q := 17) rfl (fun a3_ => ?_)
    refine s_aload_n o 0 rfl dX2_readNumber_17 (q := 18) rfl ?_
    refine s_gi o kf_X2_29 dX2_readNumber_18 (q := 21) rfl (fun v4_ => ?_)
    refine s_bald o dX2_readNumber_21 (q := 22) rfl (fun v5_ => ?_)
    refine s_bipush o dX2_readNumber_22 (v := (48 : Int32)) (by decide) (q := 24) rfl ?_
    refine s_ic_lt o (tgt := 85) dX2_readNumber_24 (by decide) (q := 27) rfl ?_ ?_
    · exact s_sub [0, 1] rfl (t_X2_readNumber_85 o f x0 x1 h)
    · refine s_aload_n o 0 rfl dX2_readNumber_27 (q := 28) rfl ?_
      refine s_gr o kf_X2_21 dX2_readNumber_28 (q := 31) rfl (fun a6_ => ?_)
      refine s_aload_n o 0 rfl dX2_readNumber_31 (q := 32) rfl ?_
      refine s_gi o kf_X2_29 dX2_readNumber_32 (q := 35) rfl (fun v7_ => ?_)
      refine s_bald o dX2_readNumber_35 (q := 36) rfl (fun v8_ => ?_)
      refine s_bipush o dX2_readNumber_36 (v := (57 : Int32)) (by decide) (q := 38) rfl ?_
      refine s_ic_gt o (tgt := 85) dX2_readNumber_38 (by decide) (q := 41) rfl ?_ ?_
      · exact s_sub [0, 1] rfl (t_X2_readNumber_85 o f x0 x1 h)
      · refine s_aload_n o 0 rfl dX2_readNumber_41 (q := 42) rfl ?_
        refine s_gi o kf_X2_29 dX2_readNumber_42 (q := 45) rfl (fun v9_ => ?_)
        refine s_aload_n o 0 rfl dX2_readNumber_45 (q := 46) rfl ?_
        refine s_gi o kf_X2_32 dX2_readNumber_46 (q := 49) rfl (fun v10_ => ?_)
        refine s_isub o dX2_readNumber_49 (q := 50) rfl ?_
        refine s_iconst o dX2_readNumber_50 (v := (4 : Int32)) (by decide) (q := 51) rfl ?_
        refine s_ic_ge o (tgt := 72) dX2_readNumber_51 (by decide) (q := 54) rfl ?_ ?_
        · exact s_sub [0, 1] rfl (t_X2_readNumber_72 o f hk2 x0 x1 h)
        · refine s_iload_n o 1 rfl dX2_readNumber_54 (q := 55) rfl ?_
          refine s_bipush o dX2_readNumber_55 (v := (10 : Int32)) (by decide) (q := 57) rfl ?_
          refine s_imul o dX2_readNumber_57 (q := 58) rfl ?_
          refine s_aload_n o 0 rfl dX2_readNumber_58 (q := 59) rfl ?_
          refine s_gr o kf_X2_21 dX2_readNumber_59 (q := 62) rfl (fun a11_ => ?_)
          refine s_aload_n o 0 rfl dX2_readNumber_62 (q := 63) rfl ?_
          refine s_gi o kf_X2_29 dX2_readNumber_63 (q := 66) rfl (fun v12_ => ?_)
          refine s_bald o dX2_readNumber_66 (q := 67) rfl (fun v13_ => ?_)
          refine s_bipush o dX2_readNumber_67 (v := (48 : Int32)) (by decide) (q := 69) rfl ?_
          refine s_isub o dX2_readNumber_69 (q := 70) rfl ?_
          refine s_iadd o dX2_readNumber_70 (q := 71) rfl ?_
          refine s_let (fun v14_ => ?_)
          refine s_istore_n o [1, 0] (lv' := [(0, rf (xG X) x0), (1, .int v14_)]) rfl dX2_readNumber_71 (by decide) (q := 72) rfl ?_
          exact s_sub [0, 1] rfl (t_X2_readNumber_72 o f hk2 x0 v14_ h)
theorem tl_X2_readNumber_2 {X : Cx} (o : Ok X RX2 cX2_readNumber 2 0 0 0 0 (some .int)) (f : Nat)  : ∀ (n : Nat) (x0 : Nat) (x1 : Int32) (h : Hp), Sim X (z_Zi X 0 0) 0 0 2 [(0, rf (xG X) x0), (1, .int x1)] [] h (l_X2_readNumber_2 f n x0 x1 h) := by
  intro n
  induction n with
  | zero => intro x0 x1 h; exact s_none
  | succ n ih => intro x0 x1 h; exact t_X2_readNumber_2 o f  ih x0 x1 h
set_option maxRecDepth 20000 in
theorem t_X2_readNumber_0 {X : Cx} (o : Ok X RX2 cX2_readNumber 2 0 0 0 0 (some .int)) (f : Nat)  (x0 : Nat) (h : Hp) : Sim X (z_Zi X 0 0) 0 0 0 [(0, rf (xG X) x0)] [] h (f_X2_readNumber f x0 h) := by
  unfold f_X2_readNumber
  refine s_iconst o dX2_readNumber_0 (v := (0 : Int32)) (by decide) (q := 1) rfl ?_
  refine s_istore_n o [1, 0] (lv' := [(0, rf (xG X) x0), (1, .int (0 : Int32))]) rfl dX2_readNumber_1 (by decide) (q := 2) rfl ?_
  exact s_sub [0, 1] rfl (tl_X2_readNumber_2 o f f x0 (0 : Int32) h)
theorem c_X2_readNumber (G : Gx) (f : Nat) (x0 : Nat) (h : Hp) : z_M z_qi G yX2_readNumber cX2_readNumber 2 (some .int) 0 0 0 0 [rf G x0] h (f_X2_readNumber f x0 h) :=
  z_met (by decide +kernel) (Nat.le_of_ble_eq_true rfl) (fun X hG hn o hnm => by
    subst hG
    show Sim X (z_Zi X 0 0) 0 0 0 [(0, rf (xG X) x0)] [] h _
    exact s_sub [0] rfl (t_X2_readNumber_0 o f x0 h))
/-! SixMaps$Reader.readWord()I -/
def b_X2_readWord_54 (f : Nat) (k54 : Nat → Int32 → Hp → Option (Int32 × Hp)) (x0 : Nat) (x1 : Int32) (h : Hp) : Option (Int32 × Hp) :=
  if (7 : Int32) ≤ x1 then
  (some ((-1 : Int32), h))
  else
  (bi (f_X2_nameOf f x1 h) fun a2_ h1_ =>
  q_on h1_ x0 2 (
  bi (f_X2_isSpelt f x0 a2_ h1_) fun v5_ h4_ =>
  if v5_ = 0 then
  (lt (x1 + (1 : Int32)) fun v6_ =>
  k54 x0 v6_ h4_)
  else
  (some (x1, h4_))))
def l_X2_readWord_54 (f : Nat)  : Nat → Nat → Int32 → Hp → Option (Int32 × Hp)
  | 0, _, _, _ => none
  | n + 1, x0, x1, h => b_X2_readWord_54 f  (l_X2_readWord_54 f  n) x0 x1 h
def b_X2_readWord_52 (f : Nat)  (x0 : Nat) (h : Hp) : Option (Int32 × Hp) :=
  l_X2_readWord_54 f f x0 (0 : Int32) h
def b_X2_readWord_0 (f : Nat) (k0 : Nat → Hp → Option (Int32 × Hp)) (x0 : Nat) (h : Hp) : Option (Int32 × Hp) :=
  (q_gi h x0 2 5).bind fun v1_ =>
  (q_gi h x0 2 4).bind fun v2_ =>
  if v2_ ≤ v1_ then
  (b_X2_readWord_52 f x0 h)
  else
  ((q_gr h x0 2 3).bind fun a3_ =>
  (q_gi h x0 2 5).bind fun v4_ =>
  (q_ai h a3_ 8 v4_).bind fun v5_ =>
  if v5_ < (97 : Int32) then
  (b_X2_readWord_52 f x0 h)
  else
  ((q_gr h x0 2 3).bind fun a6_ =>
  (q_gi h x0 2 5).bind fun v7_ =>
  (q_ai h a6_ 8 v7_).bind fun v8_ =>
  if (122 : Int32) < v8_ then
  (b_X2_readWord_52 f x0 h)
  else
  ((q_gi h x0 2 5).bind fun v9_ =>
  (q_pi h x0 2 5 (v9_ + (1 : Int32))).bind fun h10_ =>
  k0 x0 h10_)))
def l_X2_readWord_0 (f : Nat)  : Nat → Nat → Hp → Option (Int32 × Hp)
  | 0, _, _ => none
  | n + 1, x0, h => b_X2_readWord_0 f  (l_X2_readWord_0 f  n) x0 h
def f_X2_readWord (f : Nat) (x0 : Nat) (h : Hp) : Option (Int32 × Hp) := l_X2_readWord_0 f f x0 h
set_option maxRecDepth 20000 in
theorem t_X2_readWord_54 {X : Cx} (o : Ok X RX2 cX2_readWord 2 5 107 0 0 (some .int)) (f : Nat) {k54 : Nat → Int32 → Hp → Option (Int32 × Hp)} (hk54 : ∀ (x0 : Nat) (x1 : Int32) (h : Hp), Sim X (z_Zi X 0 0) 0 0 54 [(0, rf (xG X) x0), (1, .int x1)] [] h (k54 x0 x1 h)) (x0 : Nat) (x1 : Int32) (h : Hp) : Sim X (z_Zi X 0 0) 0 0 54 [(0, rf (xG X) x0), (1, .int x1)] [] h (b_X2_readWord_54 f k54 x0 x1 h) := by
  unfold b_X2_readWord_54
  refine s_iload_n o 1 rfl dX2_readWord_54 (q := 55) rfl ?_
  refine s_bipush o dX2_readWord_55 (v := (7 : Int32)) (by decide) (q := 57) rfl ?_
  refine s_ic_ge o (tgt := 79) dX2_readWord_57 (by decide) (q := 60) rfl ?_ ?_
  · refine s_iconst o dX2_readWord_79 (v := (-1 : Int32)) (by decide) (q := 80) rfl ?_
    exact s_iret o dX2_readWord_80
  · refine s_aload_n o 0 rfl dX2_readWord_60 (q := 61) rfl ?_
    refine s_iload_n o 1 rfl dX2_readWord_61 (q := 62) rfl ?_
    refine s_bs (fun r0 hr0 => runS o cs_X2_84 (c_X2_nameOf (xG X) f x1 h (xl X) r0 hr0) ⟨Nat.le_of_ble_eq_true rfl, Nat.le_of_ble_eq_true rfl⟩ rfl rfl (Nat.le_of_ble_eq_true rfl) dX2_readWord_62 ⟨Nat.le_of_ble_eq_true rfl, Nat.le_of_ble_eq_true rfl⟩) (q := 65) rfl (cs' := 0) rfl (sl' := 0) rfl (fun a2_ h1_ => ?_)
    refine s_on (fun hk3_ => ?_)
    refine s_bi (fun r0 hr0 => runV o hk3_ cv_X2_88 (c_X2_isSpelt (xG X) f x0 a2_ h1_ (xl X) r0 hr0) ⟨Nat.le_of_ble_eq_true rfl, Nat.le_of_ble_eq_true rfl⟩ rfl rfl (Nat.le_of_ble_eq_true rfl) dX2_readWord_65 ⟨Nat.le_of_ble_eq_true rfl, Nat.le_of_ble_eq_true rfl⟩) (q := 68) rfl (cs' := 0) rfl (sl' := 0) rfl (fun v5_ h4_ => ?_)
    refine s_if_eq o (tgt := 73) dX2_readWord_68 (by decide) (q := 71) rfl ?_ ?_
    · refine s_iinc o 1 rfl (v := (1 : Int32)) (by decide) [1, 0] (lv' := fun v6_ => [(0, rf (xG X) x0), (1, .int v6_)]) (fun _ => rfl) dX2_readWord_73 (by decide) (q := 76) rfl (fun v6_ => ?_)
      refine s_goto o (tgt := 54) dX2_readWord_76 (by decide) ?_
      exact s_sub [0, 1] rfl (hk54 x0 v6_ h4_)
    · refine s_iload_n o 1 rfl dX2_readWord_71 (q := 72) rfl ?_
      exact s_iret o dX2_readWord_72
theorem tl_X2_readWord_54 {X : Cx} (o : Ok X RX2 cX2_readWord 2 5 107 0 0 (some .int)) (f : Nat)  : ∀ (n : Nat) (x0 : Nat) (x1 : Int32) (h : Hp), Sim X (z_Zi X 0 0) 0 0 54 [(0, rf (xG X) x0), (1, .int x1)] [] h (l_X2_readWord_54 f n x0 x1 h) := by
  intro n
  induction n with
  | zero => intro x0 x1 h; exact s_none
  | succ n ih => intro x0 x1 h; exact t_X2_readWord_54 o f  ih x0 x1 h
set_option maxRecDepth 20000 in
theorem t_X2_readWord_52 {X : Cx} (o : Ok X RX2 cX2_readWord 2 5 107 0 0 (some .int)) (f : Nat)  (x0 : Nat) (h : Hp) : Sim X (z_Zi X 0 0) 0 0 52 [(0, rf (xG X) x0)] [] h (b_X2_readWord_52 f x0 h) := by
  unfold b_X2_readWord_52
  refine s_iconst o dX2_readWord_52 (v := (0 : Int32)) (by decide) (q := 53) rfl ?_
  refine s_istore_n o [1, 0] (lv' := [(0, rf (xG X) x0), (1, .int (0 : Int32))]) rfl dX2_readWord_53 (by decide) (q := 54) rfl ?_
  exact s_sub [0, 1] rfl (tl_X2_readWord_54 o f f x0 (0 : Int32) h)
set_option maxRecDepth 20000 in
theorem t_X2_readWord_0 {X : Cx} (o : Ok X RX2 cX2_readWord 2 5 107 0 0 (some .int)) (f : Nat) {k0 : Nat → Hp → Option (Int32 × Hp)} (hk0 : ∀ (x0 : Nat) (h : Hp), Sim X (z_Zi X 0 0) 0 0 0 [(0, rf (xG X) x0)] [] h (k0 x0 h)) (x0 : Nat) (h : Hp) : Sim X (z_Zi X 0 0) 0 0 0 [(0, rf (xG X) x0)] [] h (b_X2_readWord_0 f k0 x0 h) := by
  unfold b_X2_readWord_0
  refine s_aload_n o 0 rfl dX2_readWord_0 (q := 1) rfl ?_
  refine s_gi o kf_X2_29 dX2_readWord_1 (q := 4) rfl (fun v1_ => ?_)
  refine s_aload_n o 0 rfl dX2_readWord_4 (q := 5) rfl ?_
  refine s_gi o kf_X2_25 dX2_readWord_5 (q := 8) rfl (fun v2_ => ?_)
  refine s_ic_ge o (tgt := 52) dX2_readWord_8 (by decide) (q := 11) rfl ?_ ?_
  · exact s_sub [0] rfl (t_X2_readWord_52 o f x0 h)
  · refine s_aload_n o 0 rfl dX2_readWord_11 (q := 12) rfl ?_
    refine s_gr o kf_X2_21 dX2_readWord_12 (q := 15) rfl (fun a3_ => ?_)
    refine s_aload_n o 0 rfl dX2_readWord_15 (q := 16) rfl ?_
    refine s_gi o kf_X2_29 dX2_readWord_16 (q := 19) rfl (fun v4_ => ?_)
    refine s_bald o dX2_readWord_19 (q := 20) rfl (fun v5_ => ?_)
    refine s_bipush o dX2_readWord_20 (v := (97 : Int32)) (by decide) (q := 22) rfl ?_
    refine s_ic_lt o (tgt := 52) dX2_readWord_22 (by decide) (q := 25) rfl ?_ ?_
    · exact s_sub [0] rfl (t_X2_readWord_52 o f x0 h)
    · refine s_aload_n o 0 rfl dX2_readWord_25 (q := 26) rfl ?_
      refine s_gr o kf_X2_21 dX2_readWord_26 (q := 29) rfl (fun a6_ => ?_)
      refine s_aload_n o 0 rfl dX2_readWord_29 (q := 30) rfl ?_
      refine s_gi o kf_X2_29 dX2_readWord_30 (q := 33) rfl (fun v7_ => ?_)
      refine s_bald o dX2_readWord_33 (q := 34) rfl (fun v8_ => ?_)
      refine s_bipush o dX2_readWord_34 (v := (122 : Int32)) (by decide) (q := 36) rfl ?_
      refine s_ic_gt o (tgt := 52) dX2_readWord_36 (by decide) (q := 39) rfl ?_ ?_
      · exact s_sub [0] rfl (t_X2_readWord_52 o f x0 h)
      · refine s_aload_n o 0 rfl dX2_readWord_39 (q := 40) rfl ?_
        refine s_dup o rfl dX2_readWord_40 (q := 41) rfl ?_
        refine s_gi o kf_X2_29 dX2_readWord_41 (q := 44) rfl (fun v9_ => ?_)
        refine s_iconst o dX2_readWord_44 (v := (1 : Int32)) (by decide) (q := 45) rfl ?_
        refine s_iadd o dX2_readWord_45 (q := 46) rfl ?_
        refine s_pi o kf_X2_29 dX2_readWord_46 (q := 49) rfl (fun h10_ => ?_)
        refine s_goto o (tgt := 0) dX2_readWord_49 (by decide) ?_
        exact s_sub [0] rfl (hk0 x0 h10_)
theorem tl_X2_readWord_0 {X : Cx} (o : Ok X RX2 cX2_readWord 2 5 107 0 0 (some .int)) (f : Nat)  : ∀ (n : Nat) (x0 : Nat) (h : Hp), Sim X (z_Zi X 0 0) 0 0 0 [(0, rf (xG X) x0)] [] h (l_X2_readWord_0 f n x0 h) := by
  intro n
  induction n with
  | zero => intro x0 h; exact s_none
  | succ n ih => intro x0 h; exact t_X2_readWord_0 o f  ih x0 h
theorem c_X2_readWord (G : Gx) (f : Nat) (x0 : Nat) (h : Hp) : z_M z_qi G yX2_readWord cX2_readWord 2 (some .int) 5 107 0 0 [rf G x0] h (f_X2_readWord f x0 h) :=
  z_met (by decide +kernel) (Nat.le_of_ble_eq_true rfl) (fun X hG hn o hnm => by
    subst hG
    show Sim X (z_Zi X 0 0) 0 0 0 [(0, rf (xG X) x0)] [] h _
    exact s_sub [0] rfl (tl_X2_readWord_0 o f f x0 h))
/-! SixMaps$Reader.tell(ILSixMaps$Island;)V -/
def b_X2_tell_141 (f : Nat)   (h : Hp) : Option (Hp) :=
  some h
def b_X2_tell_135 (f : Nat)  (x0 : Nat) (x1 : Int32) (x2 : Nat) (h : Hp) : Option (Hp) :=
  q_on h x0 2 (
  (f_X2_changeMap f x0 x1 x2 h).bind fun h2_ =>
  b_X2_tell_141 f h2_)
def f_X2_tell (f : Nat)  (x0 : Nat) (x1 : Int32) (x2 : Nat) (h : Hp) : Option (Hp) :=
  sw x1 0 [
  ((q_gr h x0 2 1).bind fun a1_ =>
  (q_ai h a1_ 9 (0 : Int32)).bind fun v2_ =>
  (q_gr h x0 2 1).bind fun a3_ =>
  (q_ai h a3_ 9 (1 : Int32)).bind fun v4_ =>
  q_on h x2 0 (
  (f_X0_addMark f x2 v2_ v4_ h).bind fun h6_ =>
  b_X2_tell_141 f h6_)), 
  ((q_gr h x0 2 1).bind fun a7_ =>
  (q_ai h a7_ 9 (0 : Int32)).bind fun v8_ =>
  (q_pi h x2 0 8 v8_).bind fun h9_ =>
  (q_gr h9_ x0 2 1).bind fun a10_ =>
  (q_ai h9_ a10_ 9 (1 : Int32)).bind fun v11_ =>
  (q_pi h9_ x2 0 9 v11_).bind fun h12_ =>
  (q_gr h12_ x0 2 1).bind fun a13_ =>
  (q_ai h12_ a13_ 9 (2 : Int32)).bind fun v14_ =>
  (q_pi h12_ x2 0 10 v14_).bind fun h15_ =>
  b_X2_tell_141 f h15_), 
  ((q_gr h x0 2 1).bind fun a16_ =>
  (q_ai h a16_ 9 (0 : Int32)).bind fun v17_ =>
  (q_pi h x2 0 7 v17_).bind fun h18_ =>
  b_X2_tell_141 f h18_), 
  (b_X2_tell_135 f x0 x1 x2 h), 
  (b_X2_tell_135 f x0 x1 x2 h), 
  ((q_gr h x0 2 1).bind fun a19_ =>
  (q_ai h a19_ 9 (0 : Int32)).bind fun v20_ =>
  (q_pi h x2 0 11 v20_).bind fun h21_ =>
  b_X2_tell_141 f h21_), 
  ((q_gr h x0 2 1).bind fun a22_ =>
  (q_ai h a22_ 9 (0 : Int32)).bind fun v23_ =>
  (q_pi h x2 0 12 v23_).bind fun h24_ =>
  b_X2_tell_141 f h24_)] (b_X2_tell_135 f x0 x1 x2 h)
set_option maxRecDepth 20000 in
theorem t_X2_tell_141 {X : Cx} (o : Ok X RX2 cX2_tell 3 3 72 0 0 none) (f : Nat)   (h : Hp) : Sim X (z_Zv X 0 0) 0 0 141 [] [] h (b_X2_tell_141 f h) := by
  unfold b_X2_tell_141
  exact s_vret o dX2_tell_141
set_option maxRecDepth 20000 in
theorem t_X2_tell_135 {X : Cx} (o : Ok X RX2 cX2_tell 3 3 72 0 0 none) (f : Nat)  (x0 : Nat) (x1 : Int32) (x2 : Nat) (h : Hp) : Sim X (z_Zv X 0 0) 0 0 135 [(0, rf (xG X) x0), (1, .int x1), (2, rf (xG X) x2)] [] h (b_X2_tell_135 f x0 x1 x2 h) := by
  unfold b_X2_tell_135
  refine s_aload_n o 0 rfl dX2_tell_135 (q := 136) rfl ?_
  refine s_iload_n o 1 rfl dX2_tell_136 (q := 137) rfl ?_
  refine s_aload_n o 2 rfl dX2_tell_137 (q := 138) rfl ?_
  refine s_on (fun hk1_ => ?_)
  refine s_callv (fun r0 hr0 => runV o hk1_ cv_X2_171 (c_X2_changeMap (xG X) f x0 x1 x2 h (xl X) r0 hr0) ⟨Nat.le_of_ble_eq_true rfl, Nat.le_of_ble_eq_true rfl⟩ rfl rfl (Nat.le_of_ble_eq_true rfl) dX2_tell_138 ⟨Nat.le_of_ble_eq_true rfl, Nat.le_of_ble_eq_true rfl⟩) (q := 141) rfl (cs' := 0) rfl (sl' := 0) rfl (fun h2_ => ?_)
  exact s_sub [] rfl (t_X2_tell_141 o f h2_)
set_option maxRecDepth 20000 in
theorem t_X2_tell_0 {X : Cx} (o : Ok X RX2 cX2_tell 3 3 72 0 0 none) (f : Nat)  (x0 : Nat) (x1 : Int32) (x2 : Nat) (h : Hp) : Sim X (z_Zv X 0 0) 0 0 0 [(0, rf (xG X) x0), (1, .int x1), (2, rf (xG X) x2)] [] h (f_X2_tell f x0 x1 x2 h) := by
  unfold f_X2_tell
  refine s_iload_n o 1 rfl dX2_tell_0 (q := 1) rfl ?_
  refine s_sw o dX2_tell_1 rfl (tgD := 135) (by decide) ?_ (⟨⟨44, by decide, ?_⟩, ⟨63, by decide, ?_⟩, ⟨96, by decide, ?_⟩, ⟨135, by decide, ?_⟩, ⟨135, by decide, ?_⟩, ⟨109, by decide, ?_⟩, ⟨122, by decide, ?_⟩, trivial⟩)
  · exact s_sub [0, 1, 2] rfl (t_X2_tell_135 o f x0 x1 x2 h)
  · refine s_aload_n o 2 rfl dX2_tell_44 (q := 45) rfl ?_
    refine s_aload_n o 0 rfl dX2_tell_45 (q := 46) rfl ?_
    refine s_gr o kf_X2_15 dX2_tell_46 (q := 49) rfl (fun a1_ => ?_)
    refine s_iconst o dX2_tell_49 (v := (0 : Int32)) (by decide) (q := 50) rfl ?_
    refine s_iald o dX2_tell_50 (q := 51) rfl (fun v2_ => ?_)
    refine s_aload_n o 0 rfl dX2_tell_51 (q := 52) rfl ?_
    refine s_gr o kf_X2_15 dX2_tell_52 (q := 55) rfl (fun a3_ => ?_)
    refine s_iconst o dX2_tell_55 (v := (1 : Int32)) (by decide) (q := 56) rfl ?_
    refine s_iald o dX2_tell_56 (q := 57) rfl (fun v4_ => ?_)
    refine s_on (fun hk5_ => ?_)
    refine s_callv (fun r0 hr0 => runV o hk5_ cv_X2_153 (c_X0_addMark (xG X) f x2 v2_ v4_ h (xl X) r0 hr0) ⟨Nat.le_of_ble_eq_true rfl, Nat.le_of_ble_eq_true rfl⟩ rfl rfl (Nat.le_of_ble_eq_true rfl) dX2_tell_57 ⟨Nat.le_of_ble_eq_true rfl, Nat.le_of_ble_eq_true rfl⟩) (q := 60) rfl (cs' := 0) rfl (sl' := 0) rfl (fun h6_ => ?_)
    refine s_goto o (tgt := 141) dX2_tell_60 (by decide) ?_
    exact s_sub [] rfl (t_X2_tell_141 o f h6_)
  · refine s_aload_n o 2 rfl dX2_tell_63 (q := 64) rfl ?_
    refine s_aload_n o 0 rfl dX2_tell_64 (q := 65) rfl ?_
    refine s_gr o kf_X2_15 dX2_tell_65 (q := 68) rfl (fun a7_ => ?_)
    refine s_iconst o dX2_tell_68 (v := (0 : Int32)) (by decide) (q := 69) rfl ?_
    refine s_iald o dX2_tell_69 (q := 70) rfl (fun v8_ => ?_)
    refine s_pi o kf_X2_157 dX2_tell_70 (q := 73) rfl (fun h9_ => ?_)
    refine s_aload_n o 2 rfl dX2_tell_73 (q := 74) rfl ?_
    refine s_aload_n o 0 rfl dX2_tell_74 (q := 75) rfl ?_
    refine s_gr o kf_X2_15 dX2_tell_75 (q := 78) rfl (fun a10_ => ?_)
    refine s_iconst o dX2_tell_78 (v := (1 : Int32)) (by decide) (q := 79) rfl ?_
    refine s_iald o dX2_tell_79 (q := 80) rfl (fun v11_ => ?_)
    refine s_pi o kf_X2_160 dX2_tell_80 (q := 83) rfl (fun h12_ => ?_)
    refine s_aload_n o 2 rfl dX2_tell_83 (q := 84) rfl ?_
    refine s_aload_n o 0 rfl dX2_tell_84 (q := 85) rfl ?_
    refine s_gr o kf_X2_15 dX2_tell_85 (q := 88) rfl (fun a13_ => ?_)
    refine s_iconst o dX2_tell_88 (v := (2 : Int32)) (by decide) (q := 89) rfl ?_
    refine s_iald o dX2_tell_89 (q := 90) rfl (fun v14_ => ?_)
    refine s_pi o kf_X2_163 dX2_tell_90 (q := 93) rfl (fun h15_ => ?_)
    refine s_goto o (tgt := 141) dX2_tell_93 (by decide) ?_
    exact s_sub [] rfl (t_X2_tell_141 o f h15_)
  · refine s_aload_n o 2 rfl dX2_tell_96 (q := 97) rfl ?_
    refine s_aload_n o 0 rfl dX2_tell_97 (q := 98) rfl ?_
    refine s_gr o kf_X2_15 dX2_tell_98 (q := 101) rfl (fun a16_ => ?_)
    refine s_iconst o dX2_tell_101 (v := (0 : Int32)) (by decide) (q := 102) rfl ?_
    refine s_iald o dX2_tell_102 (q := 103) rfl (fun v17_ => ?_)
    refine s_pi o kf_X2_132 dX2_tell_103 (q := 106) rfl (fun h18_ => ?_)
    refine s_goto o (tgt := 141) dX2_tell_106 (by decide) ?_
    exact s_sub [] rfl (t_X2_tell_141 o f h18_)
  · exact s_sub [0, 1, 2] rfl (t_X2_tell_135 o f x0 x1 x2 h)
  · exact s_sub [0, 1, 2] rfl (t_X2_tell_135 o f x0 x1 x2 h)
  · refine s_aload_n o 2 rfl dX2_tell_109 (q := 110) rfl ?_
    refine s_aload_n o 0 rfl dX2_tell_110 (q := 111) rfl ?_
    refine s_gr o kf_X2_15 dX2_tell_111 (q := 114) rfl (fun a19_ => ?_)
    refine s_iconst o dX2_tell_114 (v := (0 : Int32)) (by decide) (q := 115) rfl ?_
    refine s_iald o dX2_tell_115 (q := 116) rfl (fun v20_ => ?_)
    refine s_pi o kf_X2_166 dX2_tell_116 (q := 119) rfl (fun h21_ => ?_)
    refine s_goto o (tgt := 141) dX2_tell_119 (by decide) ?_
    exact s_sub [] rfl (t_X2_tell_141 o f h21_)
  · refine s_aload_n o 2 rfl dX2_tell_122 (q := 123) rfl ?_
    refine s_aload_n o 0 rfl dX2_tell_123 (q := 124) rfl ?_
    refine s_gr o kf_X2_15 dX2_tell_124 (q := 127) rfl (fun a22_ => ?_)
    refine s_iconst o dX2_tell_127 (v := (0 : Int32)) (by decide) (q := 128) rfl ?_
    refine s_iald o dX2_tell_128 (q := 129) rfl (fun v23_ => ?_)
    refine s_pi o kf_X2_169 dX2_tell_129 (q := 132) rfl (fun h24_ => ?_)
    refine s_goto o (tgt := 141) dX2_tell_132 (by decide) ?_
    exact s_sub [] rfl (t_X2_tell_141 o f h24_)
theorem c_X2_tell (G : Gx) (f : Nat) (x0 : Nat) (x1 : Int32) (x2 : Nat) (h : Hp) : z_M z_qv G yX2_tell cX2_tell 3 none 3 72 0 0 [rf G x0, .int x1, rf G x2] h (f_X2_tell f x0 x1 x2 h) :=
  z_met (by decide +kernel) (Nat.le_of_ble_eq_true rfl) (fun X hG hn o hnm => by
    subst hG
    show Sim X (z_Zv X 0 0) 0 0 0 [(0, rf (xG X) x0), (1, .int x1), (2, rf (xG X) x2)] [] h _
    exact s_sub [0, 1, 2] rfl (t_X2_tell_0 o f x0 x1 x2 h))
