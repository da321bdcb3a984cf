/-! SixMaps$Judge.placeX(I)I -/
def f_X1_placeX (f : Nat)  (x0 : Nat) (x1 : Int32) (h : Hp) : Option (Int32 × Hp) :=
  (q_gr h x0 1 8).bind fun a1_ =>
  (q_ai h a1_ 9 (x1 * (4 : Int32))).bind fun v2_ =>
  some (v2_, h)
set_option maxRecDepth 20000 in
theorem t_X1_placeX_0 {X : Cx} (o : Ok X RX1 cX1_placeX 2 0 0 0 0 (some .int)) (f : Nat)  (x0 : Nat) (x1 : Int32) (h : Hp) : Sim X (z_Zi X 0 0) 0 0 0 [(0, rf (xG X) x0), (1, .int x1)] [] h (f_X1_placeX f x0 x1 h) := by
  unfold f_X1_placeX
  refine s_aload_n o 0 rfl dX1_placeX_0 (q := 1) rfl ?_
  refine s_gr o kf_X1_36 dX1_placeX_1 (q := 4) rfl (fun a1_ => ?_)
  refine s_iload_n o 1 rfl dX1_placeX_4 (q := 5) rfl ?_
  refine s_iconst o dX1_placeX_5 (v := (4 : Int32)) (by decide) (q := 6) rfl ?_
  refine s_imul o dX1_placeX_6 (q := 7) rfl ?_
  refine s_iald o dX1_placeX_7 (q := 8) rfl (fun v2_ => ?_)
  exact s_iret o dX1_placeX_8
theorem c_X1_placeX (G : Gx) (f : Nat) (x0 : Nat) (x1 : Int32) (h : Hp) : z_M z_qi G yX1_placeX cX1_placeX 2 (some .int) 0 0 0 0 [rf G x0, .int x1] h (f_X1_placeX f x0 x1 h) :=
  z_met (by decide +kernel) (Nat.le_of_ble_eq_true rfl) (fun X hG hn o hnm => by
    subst hG
    show Sim X (z_Zi X 0 0) 0 0 0 [(0, rf (xG X) x0), (1, .int x1)] [] h _
    exact s_sub [0, 1] rfl (t_X1_placeX_0 o f x0 x1 h))
/-! SixMaps$Judge.placeY(I)I -/
def f_X1_placeY (f : Nat)  (x0 : Nat) (x1 : Int32) (h : Hp) : Option (Int32 × Hp) :=
  (q_gr h x0 1 8).bind fun a1_ =>
  (q_ai h a1_ 9 ((x1 * (4 : Int32)) + (2 : Int32))).bind fun v2_ =>
  some (v2_, h)
set_option maxRecDepth 20000 in
theorem t_X1_placeY_0 {X : Cx} (o : Ok X RX1 cX1_placeY 2 0 0 0 0 (some .int)) (f : Nat)  (x0 : Nat) (x1 : Int32) (h : Hp) : Sim X (z_Zi X 0 0) 0 0 0 [(0, rf (xG X) x0), (1, .int x1)] [] h (f_X1_placeY f x0 x1 h) := by
  unfold f_X1_placeY
  refine s_aload_n o 0 rfl dX1_placeY_0 (q := 1) rfl ?_
  refine s_gr o kf_X1_36 dX1_placeY_1 (q := 4) rfl (fun a1_ => ?_)
  refine s_iload_n o 1 rfl dX1_placeY_4 (q := 5) rfl ?_
  refine s_iconst o dX1_placeY_5 (v := (4 : Int32)) (by decide) (q := 6) rfl ?_
  refine s_imul o dX1_placeY_6 (q := 7) rfl ?_
  refine s_iconst o dX1_placeY_7 (v := (2 : Int32)) (by decide) (q := 8) rfl ?_
  refine s_iadd o dX1_placeY_8 (q := 9) rfl ?_
  refine s_iald o dX1_placeY_9 (q := 10) rfl (fun v2_ => ?_)
  exact s_iret o dX1_placeY_10
theorem c_X1_placeY (G : Gx) (f : Nat) (x0 : Nat) (x1 : Int32) (h : Hp) : z_M z_qi G yX1_placeY cX1_placeY 2 (some .int) 0 0 0 0 [rf G x0, .int x1] h (f_X1_placeY f x0 x1 h) :=
  z_met (by decide +kernel) (Nat.le_of_ble_eq_true rfl) (fun X hG hn o hnm => by
    subst hG
    show Sim X (z_Zi X 0 0) 0 0 0 [(0, rf (xG X) x0), (1, .int x1)] [] h _
    exact s_sub [0, 1] rfl (t_X1_placeY_0 o f x0 x1 h))
/-! SixMaps$Judge.areSamePlace(II)Z -/
def b_X1_areSamePlace_47 (f : Nat)  (y0 : Int32) (h : Hp) : Option (Int32 × Hp) :=
  q_bo y0 (some (y0, h))
def b_X1_areSamePlace_46 (f : Nat)   (h : Hp) : Option (Int32 × Hp) :=
  b_X1_areSamePlace_47 f (0 : Int32) h
def f_X1_areSamePlace (f : Nat)  (x0 : Nat) (x1 : Int32) (x2 : Int32) (h : Hp) : Option (Int32 × Hp) :=
  q_on h x0 1 (
  bi (f_X1_isPlace f x0 x1 h) fun v3_ h2_ =>
  if v3_ = 0 then
  (b_X1_areSamePlace_46 f h2_)
  else
  (q_on h2_ x0 1 (
  bi (f_X1_isPlace f x0 x2 h2_) fun v6_ h5_ =>
  if v6_ = 0 then
  (b_X1_areSamePlace_46 f h5_)
  else
  (q_on h5_ x0 1 (
  bi (f_X1_placeX f x0 x1 h5_) fun v9_ h8_ =>
  q_on h8_ x0 1 (
  bi (f_X1_placeX f x0 x2 h8_) fun v12_ h11_ =>
  if ¬ v9_ = v12_ then
  (b_X1_areSamePlace_46 f h11_)
  else
  (q_on h11_ x0 1 (
  bi (f_X1_placeY f x0 x1 h11_) fun v15_ h14_ =>
  q_on h14_ x0 1 (
  bi (f_X1_placeY f x0 x2 h14_) fun v18_ h17_ =>
  if ¬ v15_ = v18_ then
  (b_X1_areSamePlace_46 f h17_)
  else
  (b_X1_areSamePlace_47 f (1 : Int32) h17_))))))))))
set_option maxRecDepth 20000 in
theorem t_X1_areSamePlace_47 {X : Cx} (o : Ok X RX1 cX1_areSamePlace 3 1 21 0 0 (some .boolean)) (f : Nat)  (y0 : Int32) (h : Hp) : Sim X (z_Zi X 0 0) 0 0 47 [] [.int y0] h (b_X1_areSamePlace_47 f y0 h) := by
  unfold b_X1_areSamePlace_47
  exact s_zret o dX1_areSamePlace_47
set_option maxRecDepth 20000 in
theorem t_X1_areSamePlace_46 {X : Cx} (o : Ok X RX1 cX1_areSamePlace 3 1 21 0 0 (some .boolean)) (f : Nat)   (h : Hp) : Sim X (z_Zi X 0 0) 0 0 46 [] [] h (b_X1_areSamePlace_46 f h) := by
  unfold b_X1_areSamePlace_46
  refine s_iconst o dX1_areSamePlace_46 (v := (0 : Int32)) (by decide) (q := 47) rfl ?_
  exact s_sub [] rfl (t_X1_areSamePlace_47 o f (0 : Int32) h)
set_option maxRecDepth 20000 in
theorem t_X1_areSamePlace_0 {X : Cx} (o : Ok X RX1 cX1_areSamePlace 3 1 21 0 0 (some .boolean)) (f : Nat)  (x0 : Nat) (x1 : Int32) (x2 : Int32) (h : Hp) : Sim X (z_Zi X 0 0) 0 0 0 [(0, rf (xG X) x0), (1, .int x1), (2, .int x2)] [] h (f_X1_areSamePlace f x0 x1 x2 h) := by
  unfold f_X1_areSamePlace
  refine s_aload_n o 0 rfl dX1_areSamePlace_0 (q := 1) rfl ?_
  refine s_iload_n o 1 rfl dX1_areSamePlace_1 (q := 2) rfl ?_
  refine s_on (fun hk1_ => ?_)
  refine s_bi (fun r0 hr0 => runV o hk1_ cv_X1_203 (c_X1_isPlace (xG X) f x0 x1 h (xl X) r0 hr0) ⟨Nat.le_of_ble_eq_true rfl, Nat.le_of_ble_eq_true rfl⟩ rfl rfl (Nat.le_of_ble_eq_true rfl) dX1_areSamePlace_2 ⟨Nat.le_of_ble_eq_true rfl, Nat.le_of_ble_eq_true rfl⟩) (q := 5) rfl (cs' := 0) rfl (sl' := 0) rfl (fun v3_ h2_ => ?_)
  refine s_if_eq o (tgt := 46) dX1_areSamePlace_5 (by decide) (q := 8) rfl ?_ ?_
  · exact s_sub [] rfl (t_X1_areSamePlace_46 o f h2_)
  · refine s_aload_n o 0 rfl dX1_areSamePlace_8 (q := 9) rfl ?_
    refine s_iload_n o 2 rfl dX1_areSamePlace_9 (q := 10) rfl ?_
    refine s_on (fun hk4_ => ?_)
    refine s_bi (fun r0 hr0 => runV o hk4_ cv_X1_203 (c_X1_isPlace (xG X) f x0 x2 h2_ (xl X) r0 hr0) ⟨Nat.le_of_ble_eq_true rfl, Nat.le_of_ble_eq_true rfl⟩ rfl rfl (Nat.le_of_ble_eq_true rfl) dX1_areSamePlace_10 ⟨Nat.le_of_ble_eq_true rfl, Nat.le_of_ble_eq_true rfl⟩) (q := 13) rfl (cs' := 0) rfl (sl' := 0) rfl (fun v6_ h5_ => ?_)
    refine s_if_eq o (tgt := 46) dX1_areSamePlace_13 (by decide) (q := 16) rfl ?_ ?_
    · exact s_sub [] rfl (t_X1_areSamePlace_46 o f h5_)
    · refine s_aload_n o 0 rfl dX1_areSamePlace_16 (q := 17) rfl ?_
      refine s_iload_n o 1 rfl dX1_areSamePlace_17 (q := 18) rfl ?_
      refine s_on (fun hk7_ => ?_)
      refine s_bi (fun r0 hr0 => runV o hk7_ cv_X1_206 (c_X1_placeX (xG X) f x0 x1 h5_ (xl X) r0 hr0) ⟨Nat.le_of_ble_eq_true rfl, Nat.le_of_ble_eq_true rfl⟩ rfl rfl (Nat.le_of_ble_eq_true rfl) dX1_areSamePlace_18 ⟨Nat.le_of_ble_eq_true rfl, Nat.le_of_ble_eq_true rfl⟩) (q := 21) rfl (cs' := 0) rfl (sl' := 0) rfl (fun v9_ h8_ => ?_)
      refine s_aload_n o 0 rfl dX1_areSamePlace_21 (q := 22) rfl ?_
      refine s_iload_n o 2 rfl dX1_areSamePlace_22 (q := 23) rfl ?_
      refine s_on (fun hk10_ => ?_)
      refine s_bi (fun r0 hr0 => runV o hk10_ cv_X1_206 (c_X1_placeX (xG X) f x0 x2 h8_ (xl X) r0 hr0) ⟨Nat.le_of_ble_eq_true rfl, Nat.le_of_ble_eq_true rfl⟩ rfl rfl (Nat.le_of_ble_eq_true rfl) dX1_areSamePlace_23 ⟨Nat.le_of_ble_eq_true rfl, Nat.le_of_ble_eq_true rfl⟩) (q := 26) rfl (cs' := 0) rfl (sl' := 0) rfl (fun v12_ h11_ => ?_)
      refine s_ic_ne o (tgt := 46) dX1_areSamePlace_26 (by decide) (q := 29) rfl ?_ ?_
      · exact s_sub [] rfl (t_X1_areSamePlace_46 o f h11_)
      · refine s_aload_n o 0 rfl dX1_areSamePlace_29 (q := 30) rfl ?_
        refine s_iload_n o 1 rfl dX1_areSamePlace_30 (q := 31) rfl ?_
        refine s_on (fun hk13_ => ?_)
        refine s_bi (fun r0 hr0 => runV o hk13_ cv_X1_209 (c_X1_placeY (xG X) f x0 x1 h11_ (xl X) r0 hr0) ⟨Nat.le_of_ble_eq_true rfl, Nat.le_of_ble_eq_true rfl⟩ rfl rfl (Nat.le_of_ble_eq_true rfl) dX1_areSamePlace_31 ⟨Nat.le_of_ble_eq_true rfl, Nat.le_of_ble_eq_true rfl⟩) (q := 34) rfl (cs' := 0) rfl (sl' := 0) rfl (fun v15_ h14_ => ?_)
        refine s_aload_n o 0 rfl dX1_areSamePlace_34 (q := 35) rfl ?_
        refine s_iload_n o 2 rfl dX1_areSamePlace_35 (q := 36) rfl ?_
        refine s_on (fun hk16_ => ?_)
        refine s_bi (fun r0 hr0 => runV o hk16_ cv_X1_209 (c_X1_placeY (xG X) f x0 x2 h14_ (xl X) r0 hr0) ⟨Nat.le_of_ble_eq_true rfl, Nat.le_of_ble_eq_true rfl⟩ rfl rfl (Nat.le_of_ble_eq_true rfl) dX1_areSamePlace_36 ⟨Nat.le_of_ble_eq_true rfl, Nat.le_of_ble_eq_true rfl⟩) (q := 39) rfl (cs' := 0) rfl (sl' := 0) rfl (fun v18_ h17_ => ?_)
        refine s_ic_ne o (tgt := 46) dX1_areSamePlace_39 (by decide) (q := 42) rfl ?_ ?_
        · exact s_sub [] rfl (t_X1_areSamePlace_46 o f h17_)
        · refine s_iconst o dX1_areSamePlace_42 (v := (1 : Int32)) (by decide) (q := 43) rfl ?_
          refine s_goto o (tgt := 47) dX1_areSamePlace_43 (by decide) ?_
          exact s_sub [] rfl (t_X1_areSamePlace_47 o f (1 : Int32) h17_)
theorem c_X1_areSamePlace (G : Gx) (f : Nat) (x0 : Nat) (x1 : Int32) (x2 : Int32) (h : Hp) : z_M z_qi G yX1_areSamePlace cX1_areSamePlace 3 (some .boolean) 1 21 0 0 [rf G x0, .int x1, .int x2] h (f_X1_areSamePlace f x0 x1 x2 h) :=
  z_met (by decide +kernel) (Nat.le_of_ble_eq_true rfl) (fun X hG hn o hnm => by
    subst hG
    show Sim X (z_Zi X 0 0) 0 0 0 [(0, rf (xG X) x0), (1, .int x1), (2, .int x2)] [] h _
    exact s_sub [0, 1, 2] rfl (t_X1_areSamePlace_0 o f x0 x1 x2 h))
/-! SixMaps$Judge.comesAhead(II)Z -/
def b_X1_comesAhead_50 (f : Nat)  (y0 : Int32) (h : Hp) : Option (Int32 × Hp) :=
  q_bo y0 (some (y0, h))
def b_X1_comesAhead_31 (f : Nat)  (y0 : Int32) (h : Hp) : Option (Int32 × Hp) :=
  q_bo y0 (some (y0, h))
def f_X1_comesAhead (f : Nat)  (x0 : Nat) (x1 : Int32) (x2 : Int32) (h : Hp) : Option (Int32 × Hp) :=
  q_on h x0 1 (
  bi (f_X1_placeX f x0 x1 h) fun v3_ h2_ =>
  q_on h2_ x0 1 (
  bi (f_X1_placeX f x0 x2 h2_) fun v6_ h5_ =>
  if v3_ = v6_ then
  (q_on h5_ x0 1 (
  bi (f_X1_placeY f x0 x1 h5_) fun v9_ h8_ =>
  q_on h8_ x0 1 (
  bi (f_X1_placeY f x0 x2 h8_) fun v12_ h11_ =>
  if v12_ ≤ v9_ then
  (b_X1_comesAhead_50 f (0 : Int32) h11_)
  else
  (b_X1_comesAhead_50 f (1 : Int32) h11_))))
  else
  (q_on h5_ x0 1 (
  bi (f_X1_placeX f x0 x1 h5_) fun v15_ h14_ =>
  q_on h14_ x0 1 (
  bi (f_X1_placeX f x0 x2 h14_) fun v18_ h17_ =>
  if v18_ ≤ v15_ then
  (b_X1_comesAhead_31 f (0 : Int32) h17_)
  else
  (b_X1_comesAhead_31 f (1 : Int32) h17_))))))
set_option maxRecDepth 20000 in
theorem t_X1_comesAhead_50 {X : Cx} (o : Ok X RX1 cX1_comesAhead 3 1 21 0 0 (some .boolean)) (f : Nat)  (y0 : Int32) (h : Hp) : Sim X (z_Zi X 0 0) 0 0 50 [] [.int y0] h (b_X1_comesAhead_50 f y0 h) := by
  unfold b_X1_comesAhead_50
  exact s_zret o dX1_comesAhead_50
set_option maxRecDepth 20000 in
theorem t_X1_comesAhead_31 {X : Cx} (o : Ok X RX1 cX1_comesAhead 3 1 21 0 0 (some .boolean)) (f : Nat)  (y0 : Int32) (h : Hp) : Sim X (z_Zi X 0 0) 0 0 31 [] [.int y0] h (b_X1_comesAhead_31 f y0 h) := by
  unfold b_X1_comesAhead_31
  exact s_zret o dX1_comesAhead_31
set_option maxRecDepth 20000 in
theorem t_X1_comesAhead_0 {X : Cx} (o : Ok X RX1 cX1_comesAhead 3 1 21 0 0 (some .boolean)) (f : Nat)  (x0 : Nat) (x1 : Int32) (x2 : Int32) (h : Hp) : Sim X (z_Zi X 0 0) 0 0 0 [(0, rf (xG X) x0), (1, .int x1), (2, .int x2)] [] h (f_X1_comesAhead f x0 x1 x2 h) := by
  unfold f_X1_comesAhead
  refine s_aload_n o 0 rfl dX1_comesAhead_0 (q := 1) rfl ?_
  refine s_iload_n o 1 rfl dX1_comesAhead_1 (q := 2) rfl ?_
  refine s_on (fun hk1_ => ?_)
  refine s_bi (fun r0 hr0 => runV o hk1_ cv_X1_206 (c_X1_placeX (xG X) f x0 x1 h (xl X) r0 hr0) ⟨Nat.le_of_ble_eq_true rfl, Nat.le_of_ble_eq_true rfl⟩ rfl rfl (Nat.le_of_ble_eq_true rfl) dX1_comesAhead_2 ⟨Nat.le_of_ble_eq_true rfl, Nat.le_of_ble_eq_true rfl⟩) (q := 5) rfl (cs' := 0) rfl (sl' := 0) rfl (fun v3_ h2_ => ?_)
  refine s_aload_n o 0 rfl dX1_comesAhead_5 (q := 6) rfl ?_
  refine s_iload_n o 2 rfl dX1_comesAhead_6 (q := 7) rfl ?_
  refine s_on (fun hk4_ => ?_)
  refine s_bi (fun r0 hr0 => runV o hk4_ cv_X1_206 (c_X1_placeX (xG X) f x0 x2 h2_ (xl X) r0 hr0) ⟨Nat.le_of_ble_eq_true rfl, Nat.le_of_ble_eq_true rfl⟩ rfl rfl (Nat.le_of_ble_eq_true rfl) dX1_comesAhead_7 ⟨Nat.le_of_ble_eq_true rfl, Nat.le_of_ble_eq_true rfl⟩) (q := 10) rfl (cs' := 0) rfl (sl' := 0) rfl (fun v6_ h5_ => ?_)
  refine s_ic_eq o (tgt := 32) dX1_comesAhead_10 (by decide) (q := 13) rfl ?_ ?_
  · refine s_aload_n o 0 rfl dX1_comesAhead_32 (q := 33) rfl ?_
    refine s_iload_n o 1 rfl dX1_comesAhead_33 (q := 34) rfl ?_
    refine s_on (fun hk7_ => ?_)
    refine s_bi (fun r0 hr0 => runV o hk7_ cv_X1_209 (c_X1_placeY (xG X) f x0 x1 h5_ (xl X) r0 hr0) ⟨Nat.le_of_ble_eq_true rfl, Nat.le_of_ble_eq_true rfl⟩ rfl rfl (Nat.le_of_ble_eq_true rfl) dX1_comesAhead_34 ⟨Nat.le_of_ble_eq_true rfl, Nat.le_of_ble_eq_true rfl⟩) (q := 37) rfl (cs' := 0) rfl (sl' := 0) rfl (fun v9_ h8_ => ?_)
    refine s_aload_n o 0 rfl dX1_comesAhead_37 (q := 38) rfl ?_
    refine s_iload_n o 2 rfl dX1_comesAhead_38 (q := 39) rfl ?_
    refine s_on (fun hk10_ => ?_)
    refine s_bi (fun r0 hr0 => runV o hk10_ cv_X1_209 (c_X1_placeY (xG X) f x0 x2 h8_ (xl X) r0 hr0) ⟨Nat.le_of_ble_eq_true rfl, Nat.le_of_ble_eq_true rfl⟩ rfl rfl (Nat.le_of_ble_eq_true rfl) dX1_comesAhead_39 ⟨Nat.le_of_ble_eq_true rfl, Nat.le_of_ble_eq_true rfl⟩) (q := 42) rfl (cs' := 0) rfl (sl' := 0) rfl (fun v12_ h11_ => ?_)
    refine s_ic_ge o (tgt := 49) dX1_comesAhead_42 (by decide) (q := 45) rfl ?_ ?_
    · refine s_iconst o dX1_comesAhead_49 (v := (0 : Int32)) (by decide) (q := 50) rfl ?_
      exact s_sub [] rfl (t_X1_comesAhead_50 o f (0 : Int32) h11_)
    · refine s_iconst o dX1_comesAhead_45 (v := (1 : Int32)) (by decide) (q := 46) rfl ?_
      refine s_goto o (tgt := 50) dX1_comesAhead_46 (by decide) ?_
      exact s_sub [] rfl (t_X1_comesAhead_50 o f (1 : Int32) h11_)
  · refine s_aload_n o 0 rfl dX1_comesAhead_13 (q := 14) rfl ?_
    refine s_iload_n o 1 rfl dX1_comesAhead_14 (q := 15) rfl ?_
    refine s_on (fun hk13_ => ?_)
    refine s_bi (fun r0 hr0 => runV o hk13_ cv_X1_206 (c_X1_placeX (xG X) f x0 x1 h5_ (xl X) r0 hr0) ⟨Nat.le_of_ble_eq_true rfl, Nat.le_of_ble_eq_true rfl⟩ rfl rfl (Nat.le_of_ble_eq_true rfl) dX1_comesAhead_15 ⟨Nat.le_of_ble_eq_true rfl, Nat.le_of_ble_eq_true rfl⟩) (q := 18) rfl (cs' := 0) rfl (sl' := 0) rfl (fun v15_ h14_ => ?_)
    refine s_aload_n o 0 rfl dX1_comesAhead_18 (q := 19) rfl ?_
    refine s_iload_n o 2 rfl dX1_comesAhead_19 (q := 20) rfl ?_
    refine s_on (fun hk16_ => ?_)
    refine s_bi (fun r0 hr0 => runV o hk16_ cv_X1_206 (c_X1_placeX (xG X) f x0 x2 h14_ (xl X) r0 hr0) ⟨Nat.le_of_ble_eq_true rfl, Nat.le_of_ble_eq_true rfl⟩ rfl rfl (Nat.le_of_ble_eq_true rfl) dX1_comesAhead_20 ⟨Nat.le_of_ble_eq_true rfl, Nat.le_of_ble_eq_true rfl⟩) (q := 23) rfl (cs' := 0) rfl (sl' := 0) rfl (fun v18_ h17_ => ?_)
    refine s_ic_ge o (tgt := 30) dX1_comesAhead_23 (by decide) (q := 26) rfl ?_ ?_
    · refine s_iconst o dX1_comesAhead_30 (v := (0 : Int32)) (by decide) (q := 31) rfl ?_
      exact s_sub [] rfl (t_X1_comesAhead_31 o f (0 : Int32) h17_)
    · refine s_iconst o dX1_comesAhead_26 (v := (1 : Int32)) (by decide) (q := 27) rfl ?_
      refine s_goto o (tgt := 31) dX1_comesAhead_27 (by decide) ?_
      exact s_sub [] rfl (t_X1_comesAhead_31 o f (1 : Int32) h17_)
theorem c_X1_comesAhead (G : Gx) (f : Nat) (x0 : Nat) (x1 : Int32) (x2 : Int32) (h : Hp) : z_M z_qi G yX1_comesAhead cX1_comesAhead 3 (some .boolean) 1 21 0 0 [rf G x0, .int x1, .int x2] h (f_X1_comesAhead f x0 x1 x2 h) :=
  z_met (by decide +kernel) (Nat.le_of_ble_eq_true rfl) (fun X hG hn o hnm => by
    subst hG
    show Sim X (z_Zi X 0 0) 0 0 0 [(0, rf (xG X) x0), (1, .int x1), (2, .int x2)] [] h _
    exact s_sub [0, 1, 2] rfl (t_X1_comesAhead_0 o f x0 x1 x2 h))
/-! SixMaps$Judge.choosePlace()V -/
def b_X1_choosePlace_92 (f : Nat) (k12 : Nat → Int32 → Hp → Option (Hp)) (x0 : Nat) (x1 : Int32) (h : Hp) : Option (Hp) :=
  lt (x1 + (1 : Int32)) fun v1_ =>
  k12 x0 v1_ h
def b_X1_choosePlace_82 (f : Nat) (k12 : Nat → Int32 → Hp → Option (Hp)) (x0 : Nat) (x1 : Int32) (x2 : Int32) (h : Hp) : Option (Hp) :=
  (q_pi h x0 1 14 x1).bind fun h1_ =>
  (q_pi h1_ x0 1 15 x2).bind fun h2_ =>
  b_X1_choosePlace_92 f k12 x0 x1 h2_
def b_X1_choosePlace_44 (f : Nat) (k12 : Nat → Int32 → Hp → Option (Hp)) (k24 : Nat → Int32 → Int32 → Int32 → Hp → Option (Hp)) (x0 : Nat) (x1 : Int32) (x2 : Int32) (x3 : Int32) (h : Hp) : Option (Hp) :=
  lt (x3 + (1 : Int32)) fun v1_ =>
  k24 x0 x1 x2 v1_ h
def b_X1_choosePlace_24 (f : Nat) (k12 : Nat → Int32 → Hp → Option (Hp)) (k24 : Nat → Int32 → Int32 → Int32 → Hp → Option (Hp)) (x0 : Nat) (x1 : Int32) (x2 : Int32) (x3 : Int32) (h : Hp) : Option (Hp) :=
  (q_gi h x0 1 12).bind fun v1_ =>
  if v1_ ≤ x3 then
  ((q_gi h x0 1 15).bind fun v2_ =>
  if v2_ < x2 then
  (b_X1_choosePlace_82 f k12 x0 x1 x2 h)
  else
  (if x2 ≤ 0 then
  (b_X1_choosePlace_92 f k12 x0 x1 h)
  else
  ((q_gi h x0 1 15).bind fun v3_ =>
  if ¬ x2 = v3_ then
  (b_X1_choosePlace_92 f k12 x0 x1 h)
  else
  ((q_gi h x0 1 14).bind fun v4_ =>
  q_on h x0 1 (
  bi (f_X1_comesAhead f x0 x1 v4_ h) fun v7_ h6_ =>
  if v7_ = 0 then
  (b_X1_choosePlace_92 f k12 x0 x1 h6_)
  else
  (b_X1_choosePlace_82 f k12 x0 x1 x2 h6_))))))
  else
  (q_on h x0 1 (
  bi (f_X1_areSamePlace f x0 x1 x3 h) fun v10_ h9_ =>
  if v10_ = 0 then
  (b_X1_choosePlace_44 f k12 k24 x0 x1 x2 x3 h9_)
  else
  (lt (x2 + (1 : Int32)) fun v11_ =>
  b_X1_choosePlace_44 f k12 k24 x0 x1 v11_ x3 h9_)))
def l_X1_choosePlace_24 (f : Nat) (k12 : Nat → Int32 → Hp → Option (Hp)) : Nat → Nat → Int32 → Int32 → Int32 → Hp → Option (Hp)
  | 0, _, _, _, _, _ => none
  | n + 1, x0, x1, x2, x3, h => b_X1_choosePlace_24 f k12 (l_X1_choosePlace_24 f k12 n) x0 x1 x2 x3 h
def b_X1_choosePlace_12 (f : Nat) (k12 : Nat → Int32 → Hp → Option (Hp)) (x0 : Nat) (x1 : Int32) (h : Hp) : Option (Hp) :=
  (q_gi h x0 1 12).bind fun v1_ =>
  if v1_ ≤ x1 then
  (some h)
  else
  (l_X1_choosePlace_24 f k12 f x0 x1 (0 : Int32) (0 : Int32) h)
def l_X1_choosePlace_12 (f : Nat)  : Nat → Nat → Int32 → Hp → Option (Hp)
  | 0, _, _, _ => none
  | n + 1, x0, x1, h => b_X1_choosePlace_12 f  (l_X1_choosePlace_12 f  n) x0 x1 h
def f_X1_choosePlace (f : Nat)  (x0 : Nat) (h : Hp) : Option (Hp) :=
  (q_pi h x0 1 14 (-1 : Int32)).bind fun h1_ =>
  (q_pi h1_ x0 1 15 (0 : Int32)).bind fun h2_ =>
  l_X1_choosePlace_12 f f x0 (0 : Int32) h2_
set_option maxRecDepth 20000 in
theorem t_X1_choosePlace_92 {X : Cx} (o : Ok X RX1 cX1_choosePlace 4 2 43 0 0 none) (f : Nat) {k12 : Nat → Int32 → Hp → Option (Hp)} (hk12 : ∀ (x0 : Nat) (x1 : Int32) (h : Hp), Sim X (z_Zv X 0 0) 0 0 12 [(0, rf (xG X) x0), (1, .int x1)] [] h (k12 x0 x1 h)) (x0 : Nat) (x1 : Int32) (h : Hp) : Sim X (z_Zv X 0 0) 0 0 92 [(0, rf (xG X) x0), (1, .int x1)] [] h (b_X1_choosePlace_92 f k12 x0 x1 h) := by
  unfold b_X1_choosePlace_92
  refine s_iinc o 1 rfl (v := (1 : Int32)) (by decide) [1, 0] (lv' := fun v1_ => [(0, rf (xG X) x0), (1, .int v1_)]) (fun _ => rfl) dX1_choosePlace_92 (by decide) (q := 95) rfl (fun v1_ => ?_)
  refine s_goto o (tgt := 12) dX1_choosePlace_95 (by decide) ?_
  exact s_sub [0, 1] rfl (hk12 x0 v1_ h)
set_option maxRecDepth 20000 in
theorem t_X1_choosePlace_82 {X : Cx} (o : Ok X RX1 cX1_choosePlace 4 2 43 0 0 none) (f : Nat) {k12 : Nat → Int32 → Hp → Option (Hp)} (hk12 : ∀ (x0 : Nat) (x1 : Int32) (h : Hp), Sim X (z_Zv X 0 0) 0 0 12 [(0, rf (xG X) x0), (1, .int x1)] [] h (k12 x0 x1 h)) (x0 : Nat) (x1 : Int32) (x2 : Int32) (h : Hp) : Sim X (z_Zv X 0 0) 0 0 82 [(0, rf (xG X) x0), (1, .int x1), (2, .int x2)] [] h (b_X1_choosePlace_82 f k12 x0 x1 x2 h) := by
  unfold b_X1_choosePlace_82
  refine s_aload_n o 0 rfl dX1_choosePlace_82 (q := 83) rfl ?_
  refine s_iload_n o 1 rfl dX1_choosePlace_83 (q := 84) rfl ?_
  refine s_pi o kf_X1_63 dX1_choosePlace_84 (q := 87) rfl (fun h1_ => ?_)
  refine s_aload_n o 0 rfl dX1_choosePlace_87 (q := 88) rfl ?_
  refine s_iload_n o 2 rfl dX1_choosePlace_88 (q := 89) rfl ?_
  refine s_pi o kf_X1_66 dX1_choosePlace_89 (q := 92) rfl (fun h2_ => ?_)
  exact s_sub [0, 1] rfl (t_X1_choosePlace_92 o f hk12 x0 x1 h2_)
set_option maxRecDepth 20000 in
theorem t_X1_choosePlace_44 {X : Cx} (o : Ok X RX1 cX1_choosePlace 4 2 43 0 0 none) (f : Nat) {k12 : Nat → Int32 → Hp → Option (Hp)} (hk12 : ∀ (x0 : Nat) (x1 : Int32) (h : Hp), Sim X (z_Zv X 0 0) 0 0 12 [(0, rf (xG X) x0), (1, .int x1)] [] h (k12 x0 x1 h)) {k24 : Nat → Int32 → Int32 → Int32 → Hp → Option (Hp)} (hk24 : ∀ (x0 : Nat) (x1 : Int32) (x2 : Int32) (x3 : Int32) (h : Hp), Sim X (z_Zv X 0 0) 0 0 24 [(0, rf (xG X) x0), (1, .int x1), (2, .int x2), (3, .int x3)] [] h (k24 x0 x1 x2 x3 h)) (x0 : Nat) (x1 : Int32) (x2 : Int32) (x3 : Int32) (h : Hp) : Sim X (z_Zv X 0 0) 0 0 44 [(0, rf (xG X) x0), (1, .int x1), (2, .int x2), (3, .int x3)] [] h (b_X1_choosePlace_44 f k12 k24 x0 x1 x2 x3 h) := by
  unfold b_X1_choosePlace_44
  refine s_iinc o 3 rfl (v := (1 : Int32)) (by decide) [1, 2, 3, 0] (lv' := fun v1_ => [(0, rf (xG X) x0), (1, .int x1), (2, .int x2), (3, .int v1_)]) (fun _ => rfl) dX1_choosePlace_44 (by decide) (q := 47) rfl (fun v1_ => ?_)
  refine s_goto o (tgt := 24) dX1_choosePlace_47 (by decide) ?_
  exact s_sub [0, 1, 2, 3] rfl (hk24 x0 x1 x2 v1_ h)
set_option maxRecDepth 20000 in
theorem t_X1_choosePlace_24 {X : Cx} (o : Ok X RX1 cX1_choosePlace 4 2 43 0 0 none) (f : Nat) {k12 : Nat → Int32 → Hp → Option (Hp)} (hk12 : ∀ (x0 : Nat) (x1 : Int32) (h : Hp), Sim X (z_Zv X 0 0) 0 0 12 [(0, rf (xG X) x0), (1, .int x1)] [] h (k12 x0 x1 h)) {k24 : Nat → Int32 → Int32 → Int32 → Hp → Option (Hp)} (hk24 : ∀ (x0 : Nat) (x1 : Int32) (x2 : Int32) (x3 : Int32) (h : Hp), Sim X (z_Zv X 0 0) 0 0 24 [(0, rf (xG X) x0), (1, .int x1), (2, .int x2), (3, .int x3)] [] h (k24 x0 x1 x2 x3 h)) (x0 : Nat) (x1 : Int32) (x2 : Int32) (x3 : Int32) (h : Hp) : Sim X (z_Zv X 0 0) 0 0 24 [(0, rf (xG X) x0), (1, .int x1), (2, .int x2), (3, .int x3)] [] h (b_X1_choosePlace_24 f k12 k24 x0 x1 x2 x3 h) := by
  unfold b_X1_choosePlace_24
  refine s_iload_n o 3 rfl dX1_choosePlace_24 (q := 25) rfl ?_
  refine s_aload_n o 0 rfl dX1_choosePlace_25 (q := 26) rfl ?_
  refine s_gi o kf_X1_57 dX1_choosePlace_26 (q := 29) rfl (fun v1_ => ?_)
  refine s_ic_ge o (tgt := 50) dX1_choosePlace_29 (by decide) (q := 32) rfl ?_ ?_
  · refine s_iload_n o 2 rfl dX1_choosePlace_50 (q := 51) rfl ?_
    refine s_aload_n o 0 rfl dX1_choosePlace_51 (q := 52) rfl ?_
    refine s_gi o kf_X1_66 dX1_choosePlace_52 (q := 55) rfl (fun v2_ => ?_)
    refine s_ic_gt o (tgt := 82) dX1_choosePlace_55 (by decide) (q := 58) rfl ?_ ?_
    · exact s_sub [0, 1, 2] rfl (t_X1_choosePlace_82 o f hk12 x0 x1 x2 h)
    · refine s_iload_n o 2 rfl dX1_choosePlace_58 (q := 59) rfl ?_
      refine s_if_le o (tgt := 92) dX1_choosePlace_59 (by decide) (q := 62) rfl ?_ ?_
      · exact s_sub [0, 1] rfl (t_X1_choosePlace_92 o f hk12 x0 x1 h)
      · refine s_iload_n o 2 rfl dX1_choosePlace_62 (q := 63) rfl ?_
        refine s_aload_n o 0 rfl dX1_choosePlace_63 (q := 64) rfl ?_
        refine s_gi o kf_X1_66 dX1_choosePlace_64 (q := 67) rfl (fun v3_ => ?_)
        refine s_ic_ne o (tgt := 92) dX1_choosePlace_67 (by decide) (q := 70) rfl ?_ ?_
        · exact s_sub [0, 1] rfl (t_X1_choosePlace_92 o f hk12 x0 x1 h)
        · refine s_aload_n o 0 rfl dX1_choosePlace_70 (q := 71) rfl ?_
          refine s_iload_n o 1 rfl dX1_choosePlace_71 (q := 72) rfl ?_
          refine s_aload_n o 0 rfl dX1_choosePlace_72 (q := 73) rfl ?_
          refine s_gi o kf_X1_63 dX1_choosePlace_73 (q := 76) rfl (fun v4_ => ?_)
          refine s_on (fun hk5_ => ?_)
          refine s_bi (fun r0 hr0 => runV o hk5_ cv_X1_215 (c_X1_comesAhead (xG X) f x0 x1 v4_ h (xl X) r0 hr0) ⟨Nat.le_of_ble_eq_true rfl, Nat.le_of_ble_eq_true rfl⟩ rfl rfl (Nat.le_of_ble_eq_true rfl) dX1_choosePlace_76 ⟨Nat.le_of_ble_eq_true rfl, Nat.le_of_ble_eq_true rfl⟩) (q := 79) rfl (cs' := 0) rfl (sl' := 0) rfl (fun v7_ h6_ => ?_)
          refine s_if_eq o (tgt := 92) dX1_choosePlace_79 (by decide) (q := 82) rfl ?_ ?_
          · exact s_sub [0, 1] rfl (t_X1_choosePlace_92 o f hk12 x0 x1 h6_)
          · exact s_sub [0, 1, 2] rfl (t_X1_choosePlace_82 o f hk12 x0 x1 x2 h6_)
  · refine s_aload_n o 0 rfl dX1_choosePlace_32 (q := 33) rfl ?_
    refine s_iload_n o 1 rfl dX1_choosePlace_33 (q := 34) rfl ?_
    refine s_iload_n o 3 rfl dX1_choosePlace_34 (q := 35) rfl ?_
    refine s_on (fun hk8_ => ?_)
    refine s_bi (fun r0 hr0 => runV o hk8_ cv_X1_212 (c_X1_areSamePlace (xG X) f x0 x1 x3 h (xl X) r0 hr0) ⟨Nat.le_of_ble_eq_true rfl, Nat.le_of_ble_eq_true rfl⟩ rfl rfl (Nat.le_of_ble_eq_true rfl) dX1_choosePlace_35 ⟨Nat.le_of_ble_eq_true rfl, Nat.le_of_ble_eq_true rfl⟩) (q := 38) rfl (cs' := 0) rfl (sl' := 0) rfl (fun v10_ h9_ => ?_)
    refine s_if_eq o (tgt := 44) dX1_choosePlace_38 (by decide) (q := 41) rfl ?_ ?_
    · exact s_sub [0, 1, 2, 3] rfl (t_X1_choosePlace_44 o f hk12 hk24 x0 x1 x2 x3 h9_)
    · refine s_iinc o 2 rfl (v := (1 : Int32)) (by decide) [1, 2, 0, 3] (lv' := fun v11_ => [(0, rf (xG X) x0), (1, .int x1), (2, .int v11_), (3, .int x3)]) (fun _ => rfl) dX1_choosePlace_41 (by decide) (q := 44) rfl (fun v11_ => ?_)
      exact s_sub [0, 1, 2, 3] rfl (t_X1_choosePlace_44 o f hk12 hk24 x0 x1 v11_ x3 h9_)
theorem tl_X1_choosePlace_24 {X : Cx} (o : Ok X RX1 cX1_choosePlace 4 2 43 0 0 none) (f : Nat) {k12 : Nat → Int32 → Hp → Option (Hp)} (hk12 : ∀ (x0 : Nat) (x1 : Int32) (h : Hp), Sim X (z_Zv X 0 0) 0 0 12 [(0, rf (xG X) x0), (1, .int x1)] [] h (k12 x0 x1 h)) : ∀ (n : Nat) (x0 : Nat) (x1 : Int32) (x2 : Int32) (x3 : Int32) (h : Hp), Sim X (z_Zv X 0 0) 0 0 24 [(0, rf (xG X) x0), (1, .int x1), (2, .int x2), (3, .int x3)] [] h (l_X1_choosePlace_24 f k12 n x0 x1 x2 x3 h) := by
  intro n
  induction n with
  | zero => intro x0 x1 x2 x3 h; exact s_none
  | succ n ih => intro x0 x1 x2 x3 h; exact t_X1_choosePlace_24 o f hk12 ih x0 x1 x2 x3 h
set_option maxRecDepth 20000 in
theorem t_X1_choosePlace_12 {X : Cx} (o : Ok X RX1 cX1_choosePlace 4 2 43 0 0 none) (f : Nat) {k12 : Nat → Int32 → Hp → Option (Hp)} (hk12 : ∀ (x0 : Nat) (x1 : Int32) (h : Hp), Sim X (z_Zv X 0 0) 0 0 12 [(0, rf (xG X) x0), (1, .int x1)] [] h (k12 x0 x1 h)) (x0 : Nat) (x1 : Int32) (h : Hp) : Sim X (z_Zv X 0 0) 0 0 12 [(0, rf (xG X) x0), (1, .int x1)] [] h (b_X1_choosePlace_12 f k12 x0 x1 h) := by
  unfold b_X1_choosePlace_12
  refine s_iload_n o 1 rfl dX1_choosePlace_12 (q := 13) rfl ?_
  refine s_aload_n o 0 rfl dX1_choosePlace_13 (q := 14) rfl ?_
  refine s_gi o kf_X1_57 dX1_choosePlace_14 (q := 17) rfl (fun v1_ => ?_)
  refine s_ic_ge o (tgt := 98) dX1_choosePlace_17 (by decide) (q := 20) rfl ?_ ?_
  · exact s_vret o dX1_choosePlace_98
  · refine s_iconst o dX1_choosePlace_20 (v := (0 : Int32)) (by decide) (q := 21) rfl ?_
    refine s_istore_n o [1, 2, 0] (lv' := [(0, rf (xG X) x0), (1, .int x1), (2, .int (0 : Int32))]) rfl dX1_choosePlace_21 (by decide) (q := 22) rfl ?_
    refine s_iconst o dX1_choosePlace_22 (v := (0 : Int32)) (by decide) (q := 23) rfl ?_
    refine s_istore_n o [1, 2, 3, 0] (lv' := [(0, rf (xG X) x0), (1, .int x1), (2, .int (0 : Int32)), (3, .int (0 : Int32))]) rfl dX1_choosePlace_23 (by decide) (q := 24) rfl ?_
    exact s_sub [0, 1, 2, 3] rfl (tl_X1_choosePlace_24 o f hk12 f x0 x1 (0 : Int32) (0 : Int32) h)
theorem tl_X1_choosePlace_12 {X : Cx} (o : Ok X RX1 cX1_choosePlace 4 2 43 0 0 none) (f : Nat)  : ∀ (n : Nat) (x0 : Nat) (x1 : Int32) (h : Hp), Sim X (z_Zv X 0 0) 0 0 12 [(0, rf (xG X) x0), (1, .int x1)] [] h (l_X1_choosePlace_12 f n x0 x1 h) := by
  intro n
  induction n with
  | zero => intro x0 x1 h; exact s_none
  | succ n ih => intro x0 x1 h; exact t_X1_choosePlace_12 o f  ih x0 x1 h
set_option maxRecDepth 20000 in
theorem t_X1_choosePlace_0 {X : Cx} (o : Ok X RX1 cX1_choosePlace 4 2 43 0 0 none) (f : Nat)  (x0 : Nat) (h : Hp) : Sim X (z_Zv X 0 0) 0 0 0 [(0, rf (xG X) x0)] [] h (f_X1_choosePlace f x0 h) := by
  unfold f_X1_choosePlace
  refine s_aload_n o 0 rfl dX1_choosePlace_0 (q := 1) rfl ?_
  refine s_iconst o dX1_choosePlace_1 (v := (-1 : Int32)) (by decide) (q := 2) rfl ?_
  refine s_pi o kf_X1_63 dX1_choosePlace_2 (q := 5) rfl (fun h1_ => ?_)
  refine s_aload_n o 0 rfl dX1_choosePlace_5 (q := 6) rfl ?_
  refine s_iconst o dX1_choosePlace_6 (v := (0 : Int32)) (by decide) (q := 7) rfl ?_
  refine s_pi o kf_X1_66 dX1_choosePlace_7 (q := 10) rfl (fun h2_ => ?_)
  refine s_iconst o dX1_choosePlace_10 (v := (0 : Int32)) (by decide) (q := 11) rfl ?_
  refine s_istore_n o [1, 0] (lv' := [(0, rf (xG X) x0), (1, .int (0 : Int32))]) rfl dX1_choosePlace_11 (by decide) (q := 12) rfl ?_
  exact s_sub [0, 1] rfl (tl_X1_choosePlace_12 o f f x0 (0 : Int32) h2_)
theorem c_X1_choosePlace (G : Gx) (f : Nat) (x0 : Nat) (h : Hp) : z_M z_qv G yX1_choosePlace cX1_choosePlace 4 none 2 43 0 0 [rf G x0] h (f_X1_choosePlace f x0 h) :=
  z_met (by decide +kernel) (Nat.le_of_ble_eq_true rfl) (fun X hG hn o hnm => by
    subst hG
    show Sim X (z_Zv X 0 0) 0 0 0 [(0, rf (xG X) x0)] [] h _
    exact s_sub [0] rfl (t_X1_choosePlace_0 o f x0 h))
/-! SixMaps$Judge.hasAllPlacesLeft(II)Z -/
def b_X1_hasAllPlacesLeft_104 (f : Nat)  (y0 : Int32) (h : Hp) : Option (Int32 × Hp) :=
  q_bo y0 (some (y0, h))
def b_X1_hasAllPlacesLeft_103 (f : Nat)   (h : Hp) : Option (Int32 × Hp) :=
  b_X1_hasAllPlacesLeft_104 f (0 : Int32) h
def f_X1_hasAllPlacesLeft (f : Nat)  (x0 : Nat) (x1 : Int32) (x2 : Int32) (h : Hp) : Option (Int32 × Hp) :=
  (q_gr h x0 1 1).bind fun a1_ =>
  (q_ai h a1_ 9 ((x1 * (9 : Int32)) + x2)).bind fun v2_ =>
  (q_gr h x0 1 2).bind fun a3_ =>
  (q_ai h a3_ 9 ((x1 * (9 : Int32)) + x2)).bind fun v4_ =>
  (q_gr h x0 1 9).bind fun a5_ =>
  (q_gi h a5_ 0 7).bind fun v6_ =>
  (q_gr h x0 1 3).bind fun a7_ =>
  (q_ai h a7_ 9 x2).bind fun v8_ =>
  if v8_ < (v2_ - v6_) then
  (b_X1_hasAllPlacesLeft_103 f h)
  else
  ((q_gr h x0 1 4).bind fun a9_ =>
  (q_ai h a9_ 9 x2).bind fun v10_ =>
  (q_gr h x0 1 9).bind fun a11_ =>
  (q_gi h a11_ 0 7).bind fun v12_ =>
  if (v2_ + v12_) < v10_ then
  (b_X1_hasAllPlacesLeft_103 f h)
  else
  ((q_gr h x0 1 9).bind fun a13_ =>
  (q_gi h a13_ 0 7).bind fun v14_ =>
  (q_gr h x0 1 5).bind fun a15_ =>
  (q_ai h a15_ 9 x2).bind fun v16_ =>
  if v16_ < (v4_ - v14_) then
  (b_X1_hasAllPlacesLeft_103 f h)
  else
  ((q_gr h x0 1 6).bind fun a17_ =>
  (q_ai h a17_ 9 x2).bind fun v18_ =>
  (q_gr h x0 1 9).bind fun a19_ =>
  (q_gi h a19_ 0 7).bind fun v20_ =>
  if (v4_ + v20_) < v18_ then
  (b_X1_hasAllPlacesLeft_103 f h)
  else
  (b_X1_hasAllPlacesLeft_104 f (1 : Int32) h))))
set_option maxRecDepth 20000 in
theorem t_X1_hasAllPlacesLeft_104 {X : Cx} (o : Ok X RX1 cX1_hasAllPlacesLeft 5 0 0 0 0 (some .boolean)) (f : Nat)  (y0 : Int32) (h : Hp) : Sim X (z_Zi X 0 0) 0 0 104 [] [.int y0] h (b_X1_hasAllPlacesLeft_104 f y0 h) := by
  unfold b_X1_hasAllPlacesLeft_104
  exact s_zret o dX1_hasAllPlacesLeft_104
set_option maxRecDepth 20000 in
theorem t_X1_hasAllPlacesLeft_103 {X : Cx} (o : Ok X RX1 cX1_hasAllPlacesLeft 5 0 0 0 0 (some .boolean)) (f : Nat)   (h : Hp) : Sim X (z_Zi X 0 0) 0 0 103 [] [] h (b_X1_hasAllPlacesLeft_103 f h) := by
  unfold b_X1_hasAllPlacesLeft_103
  refine s_iconst o dX1_hasAllPlacesLeft_103 (v := (0 : Int32)) (by decide) (q := 104) rfl ?_
  exact s_sub [] rfl (t_X1_hasAllPlacesLeft_104 o f (0 : Int32) h)
set_option maxRecDepth 20000 in
theorem t_X1_hasAllPlacesLeft_0 {X : Cx} (o : Ok X RX1 cX1_hasAllPlacesLeft 5 0 0 0 0 (some .boolean)) (f : Nat)  (x0 : Nat) (x1 : Int32) (x2 : Int32) (h : Hp) : Sim X (z_Zi X 0 0) 0 0 0 [(0, rf (xG X) x0), (1, .int x1), (2, .int x2)] [] h (f_X1_hasAllPlacesLeft f x0 x1 x2 h) := by
  unfold f_X1_hasAllPlacesLeft
  refine s_aload_n o 0 rfl dX1_hasAllPlacesLeft_0 (q := 1) rfl ?_
  refine s_gr o kf_X1_15 dX1_hasAllPlacesLeft_1 (q := 4) rfl (fun a1_ => ?_)
  refine s_iload_n o 1 rfl dX1_hasAllPlacesLeft_4 (q := 5) rfl ?_
  refine s_bipush o dX1_hasAllPlacesLeft_5 (v := (9 : Int32)) (by decide) (q := 7) rfl ?_
  refine s_imul o dX1_hasAllPlacesLeft_7 (q := 8) rfl ?_
  refine s_iload_n o 2 rfl dX1_hasAllPlacesLeft_8 (q := 9) rfl ?_
  refine s_iadd o dX1_hasAllPlacesLeft_9 (q := 10) rfl ?_
  refine s_iald o dX1_hasAllPlacesLeft_10 (q := 11) rfl (fun v2_ => ?_)
  refine s_istore_n o [1, 2, 3, 0] (lv' := [(0, rf (xG X) x0), (1, .int x1), (2, .int x2), (3, .int v2_)]) rfl dX1_hasAllPlacesLeft_11 (by decide) (q := 12) rfl ?_
  refine s_aload_n o 0 rfl dX1_hasAllPlacesLeft_12 (q := 13) rfl ?_
  refine s_gr o kf_X1_18 dX1_hasAllPlacesLeft_13 (q := 16) rfl (fun a3_ => ?_)
  refine s_iload_n o 1 rfl dX1_hasAllPlacesLeft_16 (q := 17) rfl ?_
  refine s_bipush o dX1_hasAllPlacesLeft_17 (v := (9 : Int32)) (by decide) (q := 19) rfl ?_
  refine s_imul o dX1_hasAllPlacesLeft_19 (q := 20) rfl ?_
  refine s_iload_n o 2 rfl dX1_hasAllPlacesLeft_20 (q := 21) rfl ?_
  refine s_iadd o dX1_hasAllPlacesLeft_21 (q := 22) rfl ?_
  refine s_iald o dX1_hasAllPlacesLeft_22 (q := 23) rfl (fun v4_ => ?_)
  refine s_istore o [1, 2, 3, 4, 0] (lv' := [(0, rf (xG X) x0), (1, .int x1), (2, .int x2), (3, .int v2_), (4, .int v4_)]) rfl dX1_hasAllPlacesLeft_23 (by decide) (q := 25) rfl ?_
  refine s_iload_n o 3 rfl dX1_hasAllPlacesLeft_25 (q := 26) rfl ?_
  refine s_aload_n o 0 rfl dX1_hasAllPlacesLeft_26 (q := 27) rfl ?_
  refine s_gr o kf_X1_42 dX1_hasAllPlacesLeft_27 (q := 30) rfl (fun a5_ => ?_)
  refine s_gi o kf_X1_157 dX1_hasAllPlacesLeft_30 (q := 33) rfl (fun v6_ => ?_)
  refine s_isub o dX1_hasAllPlacesLeft_33 (q := 34) rfl ?_
  refine s_aload_n o 0 rfl dX1_hasAllPlacesLeft_34 (q := 35) rfl ?_
  refine s_gr o kf_X1_21 dX1_hasAllPlacesLeft_35 (q := 38) rfl (fun a7_ => ?_)
  refine s_iload_n o 2 rfl dX1_hasAllPlacesLeft_38 (q := 39) rfl ?_
  refine s_iald o dX1_hasAllPlacesLeft_39 (q := 40) rfl (fun v8_ => ?_)
  refine s_ic_gt o (tgt := 103) dX1_hasAllPlacesLeft_40 (by decide) (q := 43) rfl ?_ ?_
  · exact s_sub [] rfl (t_X1_hasAllPlacesLeft_103 o f h)
  · refine s_aload_n o 0 rfl dX1_hasAllPlacesLeft_43 (q := 44) rfl ?_
    refine s_gr o kf_X1_24 dX1_hasAllPlacesLeft_44 (q := 47) rfl (fun a9_ => ?_)
    refine s_iload_n o 2 rfl dX1_hasAllPlacesLeft_47 (q := 48) rfl ?_
    refine s_iald o dX1_hasAllPlacesLeft_48 (q := 49) rfl (fun v10_ => ?_)
    refine s_iload_n o 3 rfl dX1_hasAllPlacesLeft_49 (q := 50) rfl ?_
    refine s_aload_n o 0 rfl dX1_hasAllPlacesLeft_50 (q := 51) rfl ?_
    refine s_gr o kf_X1_42 dX1_hasAllPlacesLeft_51 (q := 54) rfl (fun a11_ => ?_)
    refine s_gi o kf_X1_157 dX1_hasAllPlacesLeft_54 (q := 57) rfl (fun v12_ => ?_)
    refine s_iadd o dX1_hasAllPlacesLeft_57 (q := 58) rfl ?_
    refine s_ic_gt o (tgt := 103) dX1_hasAllPlacesLeft_58 (by decide) (q := 61) rfl ?_ ?_
    · exact s_sub [] rfl (t_X1_hasAllPlacesLeft_103 o f h)
    · refine s_iload o 4 rfl dX1_hasAllPlacesLeft_61 (q := 63) rfl ?_
      refine s_aload_n o 0 rfl dX1_hasAllPlacesLeft_63 (q := 64) rfl ?_
      refine s_gr o kf_X1_42 dX1_hasAllPlacesLeft_64 (q := 67) rfl (fun a13_ => ?_)
      refine s_gi o kf_X1_157 dX1_hasAllPlacesLeft_67 (q := 70) rfl (fun v14_ => ?_)
      refine s_isub o dX1_hasAllPlacesLeft_70 (q := 71) rfl ?_
      refine s_aload_n o 0 rfl dX1_hasAllPlacesLeft_71 (q := 72) rfl ?_
      refine s_gr o kf_X1_27 dX1_hasAllPlacesLeft_72 (q := 75) rfl (fun a15_ => ?_)
      refine s_iload_n o 2 rfl dX1_hasAllPlacesLeft_75 (q := 76) rfl ?_
      refine s_iald o dX1_hasAllPlacesLeft_76 (q := 77) rfl (fun v16_ => ?_)
      refine s_ic_gt o (tgt := 103) dX1_hasAllPlacesLeft_77 (by decide) (q := 80) rfl ?_ ?_
      · exact s_sub [] rfl (t_X1_hasAllPlacesLeft_103 o f h)
      · refine s_aload_n o 0 rfl dX1_hasAllPlacesLeft_80 (q := 81) rfl ?_
        refine s_gr o kf_X1_30 dX1_hasAllPlacesLeft_81 (q := 84) rfl (fun a17_ => ?_)
        refine s_iload_n o 2 rfl dX1_hasAllPlacesLeft_84 (q := 85) rfl ?_
        refine s_iald o dX1_hasAllPlacesLeft_85 (q := 86) rfl (fun v18_ => ?_)
        refine s_iload o 4 rfl dX1_hasAllPlacesLeft_86 (q := 88) rfl ?_
        refine s_aload_n o 0 rfl dX1_hasAllPlacesLeft_88 (q := 89) rfl ?_
        refine s_gr o kf_X1_42 dX1_hasAllPlacesLeft_89 (q := 92) rfl (fun a19_ => ?_)
        refine s_gi o kf_X1_157 dX1_hasAllPlacesLeft_92 (q := 95) rfl (fun v20_ => ?_)
        refine s_iadd o dX1_hasAllPlacesLeft_95 (q := 96) rfl ?_
        refine s_ic_gt o (tgt := 103) dX1_hasAllPlacesLeft_96 (by decide) (q := 99) rfl ?_ ?_
        · exact s_sub [] rfl (t_X1_hasAllPlacesLeft_103 o f h)
        · refine s_iconst o dX1_hasAllPlacesLeft_99 (v := (1 : Int32)) (by decide) (q := 100) rfl ?_
          refine s_goto o (tgt := 104) dX1_hasAllPlacesLeft_100 (by decide) ?_
          exact s_sub [] rfl (t_X1_hasAllPlacesLeft_104 o f (1 : Int32) h)
theorem c_X1_hasAllPlacesLeft (G : Gx) (f : Nat) (x0 : Nat) (x1 : Int32) (x2 : Int32) (h : Hp) : z_M z_qi G yX1_hasAllPlacesLeft cX1_hasAllPlacesLeft 5 (some .boolean) 0 0 0 0 [rf G x0, .int x1, .int x2] h (f_X1_hasAllPlacesLeft f x0 x1 x2 h) :=
  z_met (by decide +kernel) (Nat.le_of_ble_eq_true rfl) (fun X hG hn o hnm => by
    subst hG
    show Sim X (z_Zi X 0 0) 0 0 0 [(0, rf (xG X) x0), (1, .int x1), (2, .int x2)] [] h _
    exact s_sub [0, 1, 2] rfl (t_X1_hasAllPlacesLeft_0 o f x0 x1 x2 h))
/-! SixMaps$Judge.couldBeOff(I)Z -/
def b_X1_couldBeOff_35 (f : Nat)   (h : Hp) : Option (Int32 × Hp) :=
  q_bo (1 : Int32) (some ((1 : Int32), h))
def b_X1_couldBeOff_2 (f : Nat) (k2 : Nat → Int32 → Int32 → Hp → Option (Int32 × Hp)) (x0 : Nat) (x1 : Int32) (x2 : Int32) (h : Hp) : Option (Int32 × Hp) :=
  (q_gr h x0 1 9).bind fun a1_ =>
  (q_gi h a1_ 0 4).bind fun v2_ =>
  if v2_ ≤ x2 then
  (q_bo (0 : Int32) (some ((0 : Int32), h)))
  else
  ((q_gr h x0 1 0).bind fun a3_ =>
  (q_ai h a3_ 9 x1).bind fun v4_ =>
  bi (f_X5_isIn f v4_ x2 h) fun v6_ h5_ =>
  if v6_ = 0 then
  (b_X1_couldBeOff_35 f h5_)
  else
  (q_on h5_ x0 1 (
  bi (f_X1_hasAllPlacesLeft f x0 x1 x2 h5_) fun v9_ h8_ =>
  if ¬ v9_ = 0 then
  (lt (x2 + (1 : Int32)) fun v10_ =>
  k2 x0 x1 v10_ h8_)
  else
  (b_X1_couldBeOff_35 f h8_))))
def l_X1_couldBeOff_2 (f : Nat)  : Nat → Nat → Int32 → Int32 → Hp → Option (Int32 × Hp)
  | 0, _, _, _, _ => none
  | n + 1, x0, x1, x2, h => b_X1_couldBeOff_2 f  (l_X1_couldBeOff_2 f  n) x0 x1 x2 h
def f_X1_couldBeOff (f : Nat)  (x0 : Nat) (x1 : Int32) (h : Hp) : Option (Int32 × Hp) :=
  l_X1_couldBeOff_2 f f x0 x1 (0 : Int32) h
set_option maxRecDepth 20000 in
theorem t_X1_couldBeOff_35 {X : Cx} (o : Ok X RX1 cX1_couldBeOff 3 1 24 0 0 (some .boolean)) (f : Nat)   (h : Hp) : Sim X (z_Zi X 0 0) 0 0 35 [] [] h (b_X1_couldBeOff_35 f h) := by
  unfold b_X1_couldBeOff_35
  refine s_iconst o dX1_couldBeOff_35 (v := (1 : Int32)) (by decide) (q := 36) rfl ?_
  exact s_zret o dX1_couldBeOff_36
set_option maxRecDepth 20000 in
theorem t_X1_couldBeOff_2 {X : Cx} (o : Ok X RX1 cX1_couldBeOff 3 1 24 0 0 (some .boolean)) (f : Nat) {k2 : Nat → Int32 → Int32 → Hp → Option (Int32 × Hp)} (hk2 : ∀ (x0 : Nat) (x1 : Int32) (x2 : Int32) (h : Hp), Sim X (z_Zi X 0 0) 0 0 2 [(0, rf (xG X) x0), (1, .int x1), (2, .int x2)] [] h (k2 x0 x1 x2 h)) (x0 : Nat) (x1 : Int32) (x2 : Int32) (h : Hp) : Sim X (z_Zi X 0 0) 0 0 2 [(0, rf (xG X) x0), (1, .int x1), (2, .int x2)] [] h (b_X1_couldBeOff_2 f k2 x0 x1 x2 h) := by
  unfold b_X1_couldBeOff_2
  refine s_iload_n o 2 rfl dX1_couldBeOff_2 (q := 3) rfl ?_
  refine s_aload_n o 0 rfl dX1_couldBeOff_3 (q := 4) rfl ?_
  refine s_gr o kf_X1_42 dX1_couldBeOff_4 (q := 7) rfl (fun a1_ => ?_)
  refine s_gi o kf_X1_92 dX1_couldBeOff_7 (q := 10) rfl (fun v2_ => ?_)
  refine s_ic_ge o (tgt := 43) dX1_couldBeOff_10 (by decide) (q := 13) rfl ?_ ?_
  · refine s_iconst o dX1_couldBeOff_43 (v := (0 : Int32)) (by decide) (q := 44) rfl ?_
    exact s_zret o dX1_couldBeOff_44
  · refine s_aload_n o 0 rfl dX1_couldBeOff_13 (q := 14) rfl ?_
    refine s_gr o kf_X1_9 dX1_couldBeOff_14 (q := 17) rfl (fun a3_ => ?_)
    refine s_iload_n o 1 rfl dX1_couldBeOff_17 (q := 18) rfl ?_
    refine s_iald o dX1_couldBeOff_18 (q := 19) rfl (fun v4_ => ?_)
    refine s_iload_n o 2 rfl dX1_couldBeOff_19 (q := 20) rfl ?_
    refine s_bi (fun r0 hr0 => runN o cn_X1_105 (c_X5_isIn (xG X) f v4_ x2 h (xl X) r0 hr0) ⟨Nat.le_of_ble_eq_true rfl, Nat.le_of_ble_eq_true rfl⟩ rfl rfl (Nat.le_of_ble_eq_true rfl) dX1_couldBeOff_20 ⟨Nat.le_of_ble_eq_true rfl, Nat.le_of_ble_eq_true rfl⟩) (q := 23) rfl (cs' := 0) rfl (sl' := 0) rfl (fun v6_ h5_ => ?_)
    refine s_if_eq o (tgt := 35) dX1_couldBeOff_23 (by decide) (q := 26) rfl ?_ ?_
    · exact s_sub [] rfl (t_X1_couldBeOff_35 o f h5_)
    · refine s_aload_n o 0 rfl dX1_couldBeOff_26 (q := 27) rfl ?_
      refine s_iload_n o 1 rfl dX1_couldBeOff_27 (q := 28) rfl ?_
      refine s_iload_n o 2 rfl dX1_couldBeOff_28 (q := 29) rfl ?_
      refine s_on (fun hk7_ => ?_)
      refine s_bi (fun r0 hr0 => runV o hk7_ cv_X1_175 (c_X1_hasAllPlacesLeft (xG X) f x0 x1 x2 h5_ (xl X) r0 hr0) ⟨Nat.le_of_ble_eq_true rfl, Nat.le_of_ble_eq_true rfl⟩ rfl rfl (Nat.le_of_ble_eq_true rfl) dX1_couldBeOff_29 ⟨Nat.le_of_ble_eq_true rfl, Nat.le_of_ble_eq_true rfl⟩) (q := 32) rfl (cs' := 0) rfl (sl' := 0) rfl (fun v9_ h8_ => ?_)
      refine s_if_ne o (tgt := 37) dX1_couldBeOff_32 (by decide) (q := 35) rfl ?_ ?_
      · refine s_iinc o 2 rfl (v := (1 : Int32)) (by decide) [1, 2, 0] (lv' := fun v10_ => [(0, rf (xG X) x0), (1, .int x1), (2, .int v10_)]) (fun _ => rfl) dX1_couldBeOff_37 (by decide) (q := 40) rfl (fun v10_ => ?_)
        refine s_goto o (tgt := 2) dX1_couldBeOff_40 (by decide) ?_
        exact s_sub [0, 1, 2] rfl (hk2 x0 x1 v10_ h8_)
      · exact s_sub [] rfl (t_X1_couldBeOff_35 o f h8_)
theorem tl_X1_couldBeOff_2 {X : Cx} (o : Ok X RX1 cX1_couldBeOff 3 1 24 0 0 (some .boolean)) (f : Nat)  : ∀ (n : Nat) (x0 : Nat) (x1 : Int32) (x2 : Int32) (h : Hp), Sim X (z_Zi X 0 0) 0 0 2 [(0, rf (xG X) x0), (1, .int x1), (2, .int x2)] [] h (l_X1_couldBeOff_2 f n x0 x1 x2 h) := by
  intro n
  induction n with
  | zero => intro x0 x1 x2 h; exact s_none
  | succ n ih => intro x0 x1 x2 h; exact t_X1_couldBeOff_2 o f  ih x0 x1 x2 h
set_option maxRecDepth 20000 in
theorem t_X1_couldBeOff_0 {X : Cx} (o : Ok X RX1 cX1_couldBeOff 3 1 24 0 0 (some .boolean)) (f : Nat)  (x0 : Nat) (x1 : Int32) (h : Hp) : Sim X (z_Zi X 0 0) 0 0 0 [(0, rf (xG X) x0), (1, .int x1)] [] h (f_X1_couldBeOff f x0 x1 h) := by
  unfold f_X1_couldBeOff
  refine s_iconst o dX1_couldBeOff_0 (v := (0 : Int32)) (by decide) (q := 1) rfl ?_
  refine s_istore_n o [1, 2, 0] (lv' := [(0, rf (xG X) x0), (1, .int x1), (2, .int (0 : Int32))]) rfl dX1_couldBeOff_1 (by decide) (q := 2) rfl ?_
  exact s_sub [0, 1, 2] rfl (tl_X1_couldBeOff_2 o f f x0 x1 (0 : Int32) h)
theorem c_X1_couldBeOff (G : Gx) (f : Nat) (x0 : Nat) (x1 : Int32) (h : Hp) : z_M z_qi G yX1_couldBeOff cX1_couldBeOff 3 (some .boolean) 1 24 0 0 [rf G x0, .int x1] h (f_X1_couldBeOff f x0 x1 h) :=
  z_met (by decide +kernel) (Nat.le_of_ble_eq_true rfl) (fun X hG hn o hnm => by
    subst hG
    show Sim X (z_Zi X 0 0) 0 0 0 [(0, rf (xG X) x0), (1, .int x1)] [] h _
    exact s_sub [0, 1] rfl (t_X1_couldBeOff_0 o f x0 x1 h))
/-! SixMaps$Judge.isOnePlace(I)Z -/
def b_X1_isOnePlace_46 (f : Nat)  (y0 : Int32) (h : Hp) : Option (Int32 × Hp) :=
  q_bo y0 (some (y0, h))
def b_X1_isOnePlace_45 (f : Nat)   (h : Hp) : Option (Int32 × Hp) :=
  b_X1_isOnePlace_46 f (0 : Int32) h
def f_X1_isOnePlace (f : Nat)  (x0 : Nat) (x1 : Int32) (h : Hp) : Option (Int32 × Hp) :=
  (q_gi h x0 1 13).bind fun v1_ =>
  bi (f_X5_isIn f v1_ x1 h) fun v3_ h2_ =>
  if v3_ = 0 then
  (b_X1_isOnePlace_45 f h2_)
  else
  ((q_gr h2_ x0 1 3).bind fun a4_ =>
  (q_ai h2_ a4_ 9 x1).bind fun v5_ =>
  (q_gr h2_ x0 1 4).bind fun a6_ =>
  (q_ai h2_ a6_ 9 x1).bind fun v7_ =>
  if ¬ v5_ = v7_ then
  (b_X1_isOnePlace_45 f h2_)
  else
  ((q_gr h2_ x0 1 5).bind fun a8_ =>
  (q_ai h2_ a8_ 9 x1).bind fun v9_ =>
  (q_gr h2_ x0 1 6).bind fun a10_ =>
  (q_ai h2_ a10_ 9 x1).bind fun v11_ =>
  if ¬ v9_ = v11_ then
  (b_X1_isOnePlace_45 f h2_)
  else
  (b_X1_isOnePlace_46 f (1 : Int32) h2_)))
set_option maxRecDepth 20000 in
theorem t_X1_isOnePlace_46 {X : Cx} (o : Ok X RX1 cX1_isOnePlace 2 1 21 0 0 (some .boolean)) (f : Nat)  (y0 : Int32) (h : Hp) : Sim X (z_Zi X 0 0) 0 0 46 [] [.int y0] h (b_X1_isOnePlace_46 f y0 h) := by
  unfold b_X1_isOnePlace_46
  exact s_zret o dX1_isOnePlace_46
set_option maxRecDepth 20000 in
theorem t_X1_isOnePlace_45 {X : Cx} (o : Ok X RX1 cX1_isOnePlace 2 1 21 0 0 (some .boolean)) (f : Nat)   (h : Hp) : Sim X (z_Zi X 0 0) 0 0 45 [] [] h (b_X1_isOnePlace_45 f h) := by
  unfold b_X1_isOnePlace_45
  refine s_iconst o dX1_isOnePlace_45 (v := (0 : Int32)) (by decide) (q := 46) rfl ?_
  exact s_sub [] rfl (t_X1_isOnePlace_46 o f (0 : Int32) h)
set_option maxRecDepth 20000 in
theorem t_X1_isOnePlace_0 {X : Cx} (o : Ok X RX1 cX1_isOnePlace 2 1 21 0 0 (some .boolean)) (f : Nat)  (x0 : Nat) (x1 : Int32) (h : Hp) : Sim X (z_Zi X 0 0) 0 0 0 [(0, rf (xG X) x0), (1, .int x1)] [] h (f_X1_isOnePlace f x0 x1 h) := by
  unfold f_X1_isOnePlace
  refine s_aload_n o 0 rfl dX1_isOnePlace_0 (q := 1) rfl ?_
  refine s_gi o kf_X1_60 dX1_isOnePlace_1 (q := 4) rfl (fun v1_ => ?_)
  refine s_iload_n o 1 rfl dX1_isOnePlace_4 (q := 5) rfl ?_
  refine s_bi (fun r0 hr0 => runN o cn_X1_105 (c_X5_isIn (xG X) f v1_ x1 h (xl X) r0 hr0) ⟨Nat.le_of_ble_eq_true rfl, Nat.le_of_ble_eq_true rfl⟩ rfl rfl (Nat.le_of_ble_eq_true rfl) dX1_isOnePlace_5 ⟨Nat.le_of_ble_eq_true rfl, Nat.le_of_ble_eq_true rfl⟩) (q := 8) rfl (cs' := 0) rfl (sl' := 0) rfl (fun v3_ h2_ => ?_)
  refine s_if_eq o (tgt := 45) dX1_isOnePlace_8 (by decide) (q := 11) rfl ?_ ?_
  · exact s_sub [] rfl (t_X1_isOnePlace_45 o f h2_)
  · refine s_aload_n o 0 rfl dX1_isOnePlace_11 (q := 12) rfl ?_
    refine s_gr o kf_X1_21 dX1_isOnePlace_12 (q := 15) rfl (fun a4_ => ?_)
    refine s_iload_n o 1 rfl dX1_isOnePlace_15 (q := 16) rfl ?_
    refine s_iald o dX1_isOnePlace_16 (q := 17) rfl (fun v5_ => ?_)
    refine s_aload_n o 0 rfl dX1_isOnePlace_17 (q := 18) rfl ?_
    refine s_gr o kf_X1_24 dX1_isOnePlace_18 (q := 21) rfl (fun a6_ => ?_)
    refine s_iload_n o 1 rfl dX1_isOnePlace_21 (q := 22) rfl ?_
    refine s_iald o dX1_isOnePlace_22 (q := 23) rfl (fun v7_ => ?_)
    refine s_ic_ne o (tgt := 45) dX1_isOnePlace_23 (by decide) (q := 26) rfl ?_ ?_
    · exact s_sub [] rfl (t_X1_isOnePlace_45 o f h2_)
    · refine s_aload_n o 0 rfl dX1_isOnePlace_26 (q := 27) rfl ?_
      refine s_gr o kf_X1_27 dX1_isOnePlace_27 (q := 30) rfl (fun a8_ => ?_)
      refine s_iload_n o 1 rfl dX1_isOnePlace_30 (q := 31) rfl ?_
      refine s_iald o dX1_isOnePlace_31 (q := 32) rfl (fun v9_ => ?_)
      refine s_aload_n o 0 rfl dX1_isOnePlace_32 (q := 33) rfl ?_
      refine s_gr o kf_X1_30 dX1_isOnePlace_33 (q := 36) rfl (fun a10_ => ?_)
      refine s_iload_n o 1 rfl dX1_isOnePlace_36 (q := 37) rfl ?_
      refine s_iald o dX1_isOnePlace_37 (q := 38) rfl (fun v11_ => ?_)
      refine s_ic_ne o (tgt := 45) dX1_isOnePlace_38 (by decide) (q := 41) rfl ?_ ?_
      · exact s_sub [] rfl (t_X1_isOnePlace_45 o f h2_)
      · refine s_iconst o dX1_isOnePlace_41 (v := (1 : Int32)) (by decide) (q := 42) rfl ?_
        refine s_goto o (tgt := 46) dX1_isOnePlace_42 (by decide) ?_
        exact s_sub [] rfl (t_X1_isOnePlace_46 o f (1 : Int32) h2_)
theorem c_X1_isOnePlace (G : Gx) (f : Nat) (x0 : Nat) (x1 : Int32) (h : Hp) : z_M z_qi G yX1_isOnePlace cX1_isOnePlace 2 (some .boolean) 1 21 0 0 [rf G x0, .int x1] h (f_X1_isOnePlace f x0 x1 h) :=
  z_met (by decide +kernel) (Nat.le_of_ble_eq_true rfl) (fun X hG hn o hnm => by
    subst hG
    show Sim X (z_Zi X 0 0) 0 0 0 [(0, rf (xG X) x0), (1, .int x1)] [] h _
    exact s_sub [0, 1] rfl (t_X1_isOnePlace_0 o f x0 x1 h))
/-! SixMaps$Judge.isFelled()Z -/
def b_X1_isFelled_160 (f : Nat) (k124 : Nat → Int32 → Int32 → Int32 → Hp → Option (Int32 × Hp)) (x0 : Nat) (x1 : Int32) (x2 : Int32) (x3 : Int32) (h : Hp) : Option (Int32 × Hp) :=
  lt (x3 + (1 : Int32)) fun v1_ =>
  k124 x0 x1 x2 v1_ h
def b_X1_isFelled_124 (f : Nat) (k124 : Nat → Int32 → Int32 → Int32 → Hp → Option (Int32 × Hp)) (x0 : Nat) (x1 : Int32) (x2 : Int32) (x3 : Int32) (h : Hp) : Option (Int32 × Hp) :=
  (q_gi h x0 1 11).bind fun v1_ =>
  if v1_ ≤ x3 then
  (q_bo (0 : Int32) (some ((0 : Int32), h)))
  else
  ((q_gr h x0 1 10).bind fun a2_ =>
  (q_gr h a2_ 4 1).bind fun a3_ =>
  (q_ai h a3_ 9 x3).bind fun v4_ =>
  if ¬ v4_ = x1 then
  (b_X1_isFelled_160 f k124 x0 x1 x2 x3 h)
  else
  ((q_gr h x0 1 10).bind fun a5_ =>
  (q_gr h a5_ 4 2).bind fun a6_ =>
  (q_ai h a6_ 9 x3).bind fun v7_ =>
  if ¬ v7_ = x2 then
  (b_X1_isFelled_160 f k124 x0 x1 x2 x3 h)
  else
  (q_bo (1 : Int32) (some ((1 : Int32), h)))))
def l_X1_isFelled_124 (f : Nat)  : Nat → Nat → Int32 → Int32 → Int32 → Hp → Option (Int32 × Hp)
  | 0, _, _, _, _, _ => none
  | n + 1, x0, x1, x2, x3, h => b_X1_isFelled_124 f  (l_X1_isFelled_124 f  n) x0 x1 x2 x3 h
def b_X1_isFelled_42 (f : Nat)   (h : Hp) : Option (Int32 × Hp) :=
  q_bo (0 : Int32) (some ((0 : Int32), h))
def f_X1_isFelled (f : Nat)  (x0 : Nat) (h : Hp) : Option (Int32 × Hp) :=
  (q_gr h x0 1 9).bind fun a1_ =>
  (q_gi h a1_ 0 8).bind fun v2_ =>
  q_on h x0 1 (
  bi (f_X1_isOnePlace f x0 v2_ h) fun v5_ h4_ =>
  if v5_ = 0 then
  (b_X1_isFelled_42 f h4_)
  else
  ((q_gr h4_ x0 1 9).bind fun a6_ =>
  (q_gi h4_ a6_ 0 9).bind fun v7_ =>
  q_on h4_ x0 1 (
  bi (f_X1_isOnePlace f x0 v7_ h4_) fun v10_ h9_ =>
  if v10_ = 0 then
  (b_X1_isFelled_42 f h9_)
  else
  ((q_gr h9_ x0 1 9).bind fun a11_ =>
  (q_gi h9_ a11_ 0 10).bind fun v12_ =>
  q_on h9_ x0 1 (
  bi (f_X1_isOnePlace f x0 v12_ h9_) fun v15_ h14_ =>
  if ¬ v15_ = 0 then
  ((q_gr h14_ x0 1 3).bind fun a16_ =>
  (q_gr h14_ x0 1 9).bind fun a17_ =>
  (q_gi h14_ a17_ 0 8).bind fun v18_ =>
  (q_ai h14_ a16_ 9 v18_).bind fun v19_ =>
  (q_gr h14_ x0 1 3).bind fun a20_ =>
  (q_gr h14_ x0 1 9).bind fun a21_ =>
  (q_gi h14_ a21_ 0 9).bind fun v22_ =>
  (q_ai h14_ a20_ 9 v22_).bind fun v23_ =>
  (q_gr h14_ x0 1 3).bind fun a24_ =>
  (q_gr h14_ x0 1 9).bind fun a25_ =>
  (q_gi h14_ a25_ 0 10).bind fun v26_ =>
  (q_ai h14_ a24_ 9 v26_).bind fun v27_ =>
  lt ((v19_ + v23_) - v27_) fun v28_ =>
  (q_gr h14_ x0 1 5).bind fun a29_ =>
  (q_gr h14_ x0 1 9).bind fun a30_ =>
  (q_gi h14_ a30_ 0 8).bind fun v31_ =>
  (q_ai h14_ a29_ 9 v31_).bind fun v32_ =>
  (q_gr h14_ x0 1 5).bind fun a33_ =>
  (q_gr h14_ x0 1 9).bind fun a34_ =>
  (q_gi h14_ a34_ 0 9).bind fun v35_ =>
  (q_ai h14_ a33_ 9 v35_).bind fun v36_ =>
  (q_gr h14_ x0 1 5).bind fun a37_ =>
  (q_gr h14_ x0 1 9).bind fun a38_ =>
  (q_gi h14_ a38_ 0 10).bind fun v39_ =>
  (q_ai h14_ a37_ 9 v39_).bind fun v40_ =>
  lt ((v32_ + v36_) - v40_) fun v41_ =>
  l_X1_isFelled_124 f f x0 v28_ v41_ (0 : Int32) h14_)
  else
  (b_X1_isFelled_42 f h14_))))))
set_option maxRecDepth 20000 in
theorem t_X1_isFelled_160 {X : Cx} (o : Ok X RX1 cX1_isFelled 4 2 42 0 0 (some .boolean)) (f : Nat) {k124 : Nat → Int32 → Int32 → Int32 → Hp → Option (Int32 × Hp)} (hk124 : ∀ (x0 : Nat) (x1 : Int32) (x2 : Int32) (x3 : Int32) (h : Hp), Sim X (z_Zi X 0 0) 0 0 124 [(0, rf (xG X) x0), (1, .int x1), (2, .int x2), (3, .int x3)] [] h (k124 x0 x1 x2 x3 h)) (x0 : Nat) (x1 : Int32) (x2 : Int32) (x3 : Int32) (h : Hp) : Sim X (z_Zi X 0 0) 0 0 160 [(0, rf (xG X) x0), (1, .int x1), (2, .int x2), (3, .int x3)] [] h (b_X1_isFelled_160 f k124 x0 x1 x2 x3 h) := by
  unfold b_X1_isFelled_160
  refine s_iinc o 3 rfl (v := (1 : Int32)) (by decide) [1, 2, 3, 0] (lv' := fun v1_ => [(0, rf (xG X) x0), (1, .int x1), (2, .int x2), (3, .int v1_)]) (fun _ => rfl) dX1_isFelled_160 (by decide) (q := 163) rfl (fun v1_ => ?_)
  refine s_goto o (tgt := 124) dX1_isFelled_163 (by decide) ?_
  exact s_sub [0, 1, 2, 3] rfl (hk124 x0 x1 x2 v1_ h)
set_option maxRecDepth 20000 in
theorem t_X1_isFelled_124 {X : Cx} (o : Ok X RX1 cX1_isFelled 4 2 42 0 0 (some .boolean)) (f : Nat) {k124 : Nat → Int32 → Int32 → Int32 → Hp → Option (Int32 × Hp)} (hk124 : ∀ (x0 : Nat) (x1 : Int32) (x2 : Int32) (x3 : Int32) (h : Hp), Sim X (z_Zi X 0 0) 0 0 124 [(0, rf (xG X) x0), (1, .int x1), (2, .int x2), (3, .int x3)] [] h (k124 x0 x1 x2 x3 h)) (x0 : Nat) (x1 : Int32) (x2 : Int32) (x3 : Int32) (h : Hp) : Sim X (z_Zi X 0 0) 0 0 124 [(0, rf (xG X) x0), (1, .int x1), (2, .int x2), (3, .int x3)] [] h (b_X1_isFelled_124 f k124 x0 x1 x2 x3 h) := by
  unfold b_X1_isFelled_124
  refine s_iload_n o 3 rfl dX1_isFelled_124 (q := 125) rfl ?_
  refine s_aload_n o 0 rfl dX1_isFelled_125 (q := 126) rfl ?_
  refine s_gi o kf_X1_53 dX1_isFelled_126 (q := 129) rfl (fun v1_ => ?_)
  refine s_ic_ge o (tgt := 166) dX1_isFelled_129 (by decide) (q := 132) rfl ?_ ?_
  · refine s_iconst o dX1_isFelled_166 (v := (0 : Int32)) (by decide) (q := 167) rfl ?_
    exact s_zret o dX1_isFelled_167
  · refine s_aload_n o 0 rfl dX1_isFelled_132 (q := 133) rfl ?_
    refine s_gr o kf_X1_49 dX1_isFelled_133 (q := 136) rfl (fun a2_ => ?_)
    refine s_gr o kf_X1_190 dX1_isFelled_136 (q := 139) rfl (fun a3_ => ?_)
    refine s_iload_n o 3 rfl dX1_isFelled_139 (q := 140) rfl ?_
    refine s_iald o dX1_isFelled_140 (q := 141) rfl (fun v4_ => ?_)
    refine s_iload_n o 1 rfl dX1_isFelled_141 (q := 142) rfl ?_
    refine s_ic_ne o (tgt := 160) dX1_isFelled_142 (by decide) (q := 145) rfl ?_ ?_
    · exact s_sub [0, 1, 2, 3] rfl (t_X1_isFelled_160 o f hk124 x0 x1 x2 x3 h)
    · refine s_aload_n o 0 rfl dX1_isFelled_145 (q := 146) rfl ?_
      refine s_gr o kf_X1_49 dX1_isFelled_146 (q := 149) rfl (fun a5_ => ?_)
      refine s_gr o kf_X1_193 dX1_isFelled_149 (q := 152) rfl (fun a6_ => ?_)
      refine s_iload_n o 3 rfl dX1_isFelled_152 (q := 153) rfl ?_
      refine s_iald o dX1_isFelled_153 (q := 154) rfl (fun v7_ => ?_)
      refine s_iload_n o 2 rfl dX1_isFelled_154 (q := 155) rfl ?_
      refine s_ic_ne o (tgt := 160) dX1_isFelled_155 (by decide) (q := 158) rfl ?_ ?_
      · exact s_sub [0, 1, 2, 3] rfl (t_X1_isFelled_160 o f hk124 x0 x1 x2 x3 h)
      · refine s_iconst o dX1_isFelled_158 (v := (1 : Int32)) (by decide) (q := 159) rfl ?_
        exact s_zret o dX1_isFelled_159
theorem tl_X1_isFelled_124 {X : Cx} (o : Ok X RX1 cX1_isFelled 4 2 42 0 0 (some .boolean)) (f : Nat)  : ∀ (n : Nat) (x0 : Nat) (x1 : Int32) (x2 : Int32) (x3 : Int32) (h : Hp), Sim X (z_Zi X 0 0) 0 0 124 [(0, rf (xG X) x0), (1, .int x1), (2, .int x2), (3, .int x3)] [] h (l_X1_isFelled_124 f n x0 x1 x2 x3 h) := by
  intro n
  induction n with
  | zero => intro x0 x1 x2 x3 h; exact s_none
  | succ n ih => intro x0 x1 x2 x3 h; exact t_X1_isFelled_124 o f  ih x0 x1 x2 x3 h
set_option maxRecDepth 20000 in
theorem t_X1_isFelled_42 {X : Cx} (o : Ok X RX1 cX1_isFelled 4 2 42 0 0 (some .boolean)) (f : Nat)   (h : Hp) : Sim X (z_Zi X 0 0) 0 0 42 [] [] h (b_X1_isFelled_42 f h) := by
  unfold b_X1_isFelled_42
  refine s_iconst o dX1_isFelled_42 (v := (0 : Int32)) (by decide) (q := 43) rfl ?_
  exact s_zret o dX1_isFelled_43
set_option maxRecDepth 20000 in
theorem t_X1_isFelled_0 {X : Cx} (o : Ok X RX1 cX1_isFelled 4 2 42 0 0 (some .boolean)) (f : Nat)  (x0 : Nat) (h : Hp) : Sim X (z_Zi X 0 0) 0 0 0 [(0, rf (xG X) x0)] [] h (f_X1_isFelled f x0 h) := by
  unfold f_X1_isFelled
  refine s_aload_n o 0 rfl dX1_isFelled_0 (q := 1) rfl ?_
  refine s_aload_n o 0 rfl dX1_isFelled_1 (q := 2) rfl ?_
  refine s_gr o kf_X1_42 dX1_isFelled_2 (q := 5) rfl (fun a1_ => ?_)
  refine s_gi o kf_X1_178 dX1_isFelled_5 (q := 8) rfl (fun v2_ => ?_)
  refine s_on (fun hk3_ => ?_)
  refine s_bi (fun r0 hr0 => runV o hk3_ cv_X1_181 (c_X1_isOnePlace (xG X) f x0 v2_ h (xl X) r0 hr0) ⟨Nat.le_of_ble_eq_true rfl, Nat.le_of_ble_eq_true rfl⟩ rfl rfl (Nat.le_of_ble_eq_true rfl) dX1_isFelled_8 ⟨Nat.le_of_ble_eq_true rfl, Nat.le_of_ble_eq_true rfl⟩) (q := 11) rfl (cs' := 0) rfl (sl' := 0) rfl (fun v5_ h4_ => ?_)
  refine s_if_eq o (tgt := 42) dX1_isFelled_11 (by decide) (q := 14) rfl ?_ ?_
  · exact s_sub [] rfl (t_X1_isFelled_42 o f h4_)
  · refine s_aload_n o 0 rfl dX1_isFelled_14 (q := 15) rfl ?_
    refine s_aload_n o 0 rfl dX1_isFelled_15 (q := 16) rfl ?_
    refine s_gr o kf_X1_42 dX1_isFelled_16 (q := 19) rfl (fun a6_ => ?_)
    refine s_gi o kf_X1_184 dX1_isFelled_19 (q := 22) rfl (fun v7_ => ?_)
    refine s_on (fun hk8_ => ?_)
    refine s_bi (fun r0 hr0 => runV o hk8_ cv_X1_181 (c_X1_isOnePlace (xG X) f x0 v7_ h4_ (xl X) r0 hr0) ⟨Nat.le_of_ble_eq_true rfl, Nat.le_of_ble_eq_true rfl⟩ rfl rfl (Nat.le_of_ble_eq_true rfl) dX1_isFelled_22 ⟨Nat.le_of_ble_eq_true rfl, Nat.le_of_ble_eq_true rfl⟩) (q := 25) rfl (cs' := 0) rfl (sl' := 0) rfl (fun v10_ h9_ => ?_)
    refine s_if_eq o (tgt := 42) dX1_isFelled_25 (by decide) (q := 28) rfl ?_ ?_
    · exact s_sub [] rfl (t_X1_isFelled_42 o f h9_)
    · refine s_aload_n o 0 rfl dX1_isFelled_28 (q := 29) rfl ?_
      refine s_aload_n o 0 rfl dX1_isFelled_29 (q := 30) rfl ?_
      refine s_gr o kf_X1_42 dX1_isFelled_30 (q := 33) rfl (fun a11_ => ?_)
      refine s_gi o kf_X1_187 dX1_isFelled_33 (q := 36) rfl (fun v12_ => ?_)
      refine s_on (fun hk13_ => ?_)
      refine s_bi (fun r0 hr0 => runV o hk13_ cv_X1_181 (c_X1_isOnePlace (xG X) f x0 v12_ h9_ (xl X) r0 hr0) ⟨Nat.le_of_ble_eq_true rfl, Nat.le_of_ble_eq_true rfl⟩ rfl rfl (Nat.le_of_ble_eq_true rfl) dX1_isFelled_36 ⟨Nat.le_of_ble_eq_true rfl, Nat.le_of_ble_eq_true rfl⟩) (q := 39) rfl (cs' := 0) rfl (sl' := 0) rfl (fun v15_ h14_ => ?_)
      refine s_if_ne o (tgt := 44) dX1_isFelled_39 (by decide) (q := 42) rfl ?_ ?_
      · refine s_aload_n o 0 rfl dX1_isFelled_44 (q := 45) rfl ?_
        refine s_gr o kf_X1_21 dX1_isFelled_45 (q := 48) rfl (fun a16_ => ?_)
        refine s_aload_n o 0 rfl dX1_isFelled_48 (q := 49) rfl ?_
        refine s_gr o kf_X1_42 dX1_isFelled_49 (q := 52) rfl (fun a17_ => ?_)
        refine s_gi o kf_X1_178 dX1_isFelled_52 (q := 55) rfl (fun v18_ => ?_)
        refine s_iald o dX1_isFelled_55 (q := 56) rfl (fun v19_ => ?_)
        refine s_aload_n o 0 rfl dX1_isFelled_56 (q := 57) rfl ?_
        refine s_gr o kf_X1_21 dX1_isFelled_57 (q := 60) rfl (fun a20_ => ?_)
        refine s_aload_n o 0 rfl dX1_isFelled_60 (q := 61) rfl ?_
        refine s_gr o kf_X1_42 dX1_isFelled_61 (q := 64) rfl (fun a21_ => ?_)
        refine s_gi o kf_X1_184 dX1_isFelled_64 (q := 67) rfl (fun v22_ => ?_)
        refine s_iald o dX1_isFelled_67 (q := 68) rfl (fun v23_ => ?_)
        refine s_iadd o dX1_isFelled_68 (q := 69) rfl ?_
        refine s_aload_n o 0 rfl dX1_isFelled_69 (q := 70) rfl ?_
        refine s_gr o kf_X1_21 dX1_isFelled_70 (q := 73) rfl (fun a24_ => ?_)
        refine s_aload_n o 0 rfl dX1_isFelled_73 (q := 74) rfl ?_
        refine s_gr o kf_X1_42 dX1_isFelled_74 (q := 77) rfl (fun a25_ => ?_)
        refine s_gi o kf_X1_187 dX1_isFelled_77 (q := 80) rfl (fun v26_ => ?_)
        refine s_iald o dX1_isFelled_80 (q := 81) rfl (fun v27_ => ?_)
        refine s_isub o dX1_isFelled_81 (q := 82) rfl ?_
        refine s_let (fun v28_ => ?_)
        refine s_istore_n o [1, 0] (lv' := [(0, rf (xG X) x0), (1, .int v28_)]) rfl dX1_isFelled_82 (by decide) (q := 83) rfl ?_
        refine s_aload_n o 0 rfl dX1_isFelled_83 (q := 84) rfl ?_
        refine s_gr o kf_X1_27 dX1_isFelled_84 (q := 87) rfl (fun a29_ => ?_)
        refine s_aload_n o 0 rfl dX1_isFelled_87 (q := 88) rfl ?_
        refine s_gr o kf_X1_42 dX1_isFelled_88 (q := 91) rfl (fun a30_ => ?_)
        refine s_gi o kf_X1_178 dX1_isFelled_91 (q := 94) rfl (fun v31_ => ?_)
        refine s_iald o dX1_isFelled_94 (q := 95) rfl (fun v32_ => ?_)
        refine s_aload_n o 0 rfl dX1_isFelled_95 (q := 96) rfl ?_
        refine s_gr o kf_X1_27 dX1_isFelled_96 (q := 99) rfl (fun a33_ => ?_)
        refine s_aload_n o 0 rfl dX1_isFelled_99 (q := 100) rfl ?_
        refine s_gr o kf_X1_42 dX1_isFelled_100 (q := 103) rfl (fun a34_ => ?_)
        refine s_gi o kf_X1_184 dX1_isFelled_103 (q := 106) rfl (fun v35_ => ?_)
        refine s_iald o dX1_isFelled_106 (q := 107) rfl (fun v36_ => ?_)
        refine s_iadd o dX1_isFelled_107 (q := 108) rfl ?_
        refine s_aload_n o 0 rfl dX1_isFelled_108 (q := 109) rfl ?_
        refine s_gr o kf_X1_27 dX1_isFelled_109 (q := 112) rfl (fun a37_ => ?_)
        refine s_aload_n o 0 rfl dX1_isFelled_112 (q := 113) rfl ?_
        refine s_gr o kf_X1_42 dX1_isFelled_113 (q := 116) rfl (fun a38_ => ?_)
        refine s_gi o kf_X1_187 dX1_isFelled_116 (q := 119) rfl (fun v39_ => ?_)
        refine s_iald o dX1_isFelled_119 (q := 120) rfl (fun v40_ => ?_)
        refine s_isub o dX1_isFelled_120 (q := 121) rfl ?_
        refine s_let (fun v41_ => ?_)
        refine s_istore_n o [1, 2, 0] (lv' := [(0, rf (xG X) x0), (1, .int v28_), (2, .int v41_)]) rfl dX1_isFelled_121 (by decide) (q := 122) rfl ?_
        refine s_iconst o dX1_isFelled_122 (v := (0 : Int32)) (by decide) (q := 123) rfl ?_
        refine s_istore_n o [1, 2, 3, 0] (lv' := [(0, rf (xG X) x0), (1, .int v28_), (2, .int v41_), (3, .int (0 : Int32))]) rfl dX1_isFelled_123 (by decide) (q := 124) rfl ?_
        exact s_sub [0, 1, 2, 3] rfl (tl_X1_isFelled_124 o f f x0 v28_ v41_ (0 : Int32) h14_)
      · exact s_sub [] rfl (t_X1_isFelled_42 o f h14_)
theorem c_X1_isFelled (G : Gx) (f : Nat) (x0 : Nat) (h : Hp) : z_M z_qi G yX1_isFelled cX1_isFelled 4 (some .boolean) 2 42 0 0 [rf G x0] h (f_X1_isFelled f x0 h) :=
  z_met (by decide +kernel) (Nat.le_of_ble_eq_true rfl) (fun X hG hn o hnm => by
    subst hG
    show Sim X (z_Zi X 0 0) 0 0 0 [(0, rf (xG X) x0)] [] h _
    exact s_sub [0] rfl (t_X1_isFelled_0 o f x0 h))
/-! SixMaps$Judge.lowestOf(I)I -/
def f_X1_lowestOf (f : Nat)  (x0 : Int32) (h : Hp) : Option (Int32 × Hp) :=
  bi (f_J6_bitCount_0f7a4 f ((x0 &&& (-x0)) - (1 : Int32)) h) fun v2_ h1_ =>
  some (v2_, h1_)
set_option maxRecDepth 20000 in
theorem t_X1_lowestOf_0 {X : Cx} (o : Ok X RX1 cX1_lowestOf 1 1 20 0 0 (some .int)) (f : Nat)  (x0 : Int32) (h : Hp) : Sim X (z_Zi X 0 0) 0 0 0 [(0, .int x0)] [] h (f_X1_lowestOf f x0 h) := by
  unfold f_X1_lowestOf
  refine s_iload_n o 0 rfl dX1_lowestOf_0 (q := 1) rfl ?_
  refine s_iload_n o 0 rfl dX1_lowestOf_1 (q := 2) rfl ?_
  refine s_ineg o dX1_lowestOf_2 (q := 3) rfl ?_
  refine s_iand o dX1_lowestOf_3 (q := 4) rfl ?_
  refine s_iconst o dX1_lowestOf_4 (v := (1 : Int32)) (by decide) (q := 5) rfl ?_
  refine s_isub o dX1_lowestOf_5 (q := 6) rfl ?_
  refine s_bi (fun r0 hr0 => runS o cs_X1_119 (c_J6_bitCount_0f7a4 (xG X) f ((x0 &&& (-x0)) - (1 : Int32)) h (xl X) r0 hr0) ⟨Nat.le_of_ble_eq_true rfl, Nat.le_of_ble_eq_true rfl⟩ rfl rfl (Nat.le_of_ble_eq_true rfl) dX1_lowestOf_6 ⟨Nat.le_of_ble_eq_true rfl, Nat.le_of_ble_eq_true rfl⟩) (q := 9) rfl (cs' := 0) rfl (sl' := 0) rfl (fun v2_ h1_ => ?_)
  exact s_iret o dX1_lowestOf_9
theorem c_X1_lowestOf (G : Gx) (f : Nat) (x0 : Int32) (h : Hp) : z_M z_qi G yX1_lowestOf cX1_lowestOf 1 (some .int) 1 20 0 0 [.int x0] h (f_X1_lowestOf f x0 h) :=
  z_met (by decide +kernel) (Nat.le_of_ble_eq_true rfl) (fun X hG hn o hnm => by
    subst hG
    show Sim X (z_Zi X 0 0) 0 0 0 [(0, .int x0)] [] h _
    exact s_sub [0] rfl (t_X1_lowestOf_0 o f x0 h))
/-! SixMaps$Judge.quarrels(I)I -/
def b_X1_quarrels_98 (f : Nat) (k32 : Nat → Int32 → Int32 → Int32 → Int32 → Hp → Option (Int32 × Hp)) (x0 : Nat) (x2 : Int32) (x3 : Int32) (x4 : Int32) (x5 : Int32) (h : Hp) : Option (Int32 × Hp) :=
  lt (x5 + (1 : Int32)) fun v1_ =>
  k32 x0 x2 x3 x4 v1_ h
def b_X1_quarrels_32 (f : Nat) (k32 : Nat → Int32 → Int32 → Int32 → Int32 → Hp → Option (Int32 × Hp)) (x0 : Nat) (x2 : Int32) (x3 : Int32) (x4 : Int32) (x5 : Int32) (h : Hp) : Option (Int32 × Hp) :=
  (q_gr h x0 1 9).bind fun a1_ =>
  (q_gi h a1_ 0 4).bind fun v2_ =>
  if v2_ ≤ x5 then
  (some (x4, h))
  else
  ((q_gi h x0 1 13).bind fun v3_ =>
  bi (f_X5_isIn f v3_ x5 h) fun v5_ h4_ =>
  if ¬ v5_ = 0 then
  (b_X1_quarrels_98 f k32 x0 x2 x3 x4 x5 h4_)
  else
  ((q_gr h4_ x0 1 0).bind fun a6_ =>
  (q_ai h4_ a6_ 9 x2).bind fun v7_ =>
  bi (f_X5_isIn f v7_ x5 h4_) fun v9_ h8_ =>
  if v9_ = 0 then
  (b_X1_quarrels_98 f k32 x0 x2 x3 x4 x5 h8_)
  else
  ((q_gr h8_ x0 1 0).bind fun a10_ =>
  (q_ai h8_ a10_ 9 x3).bind fun v11_ =>
  bi (f_X5_isIn f v11_ x5 h8_) fun v13_ h12_ =>
  if v13_ = 0 then
  (b_X1_quarrels_98 f k32 x0 x2 x3 x4 x5 h12_)
  else
  (q_on h12_ x0 1 (
  bi (f_X1_areApart f x0 x2 x3 x5 h12_) fun v16_ h15_ =>
  if v16_ = 0 then
  (b_X1_quarrels_98 f k32 x0 x2 x3 x4 x5 h15_)
  else
  (lt (x4 + (1 : Int32)) fun v17_ =>
  b_X1_quarrels_98 f k32 x0 x2 x3 v17_ x5 h15_))))))
def l_X1_quarrels_32 (f : Nat)  : Nat → Nat → Int32 → Int32 → Int32 → Int32 → Hp → Option (Int32 × Hp)
  | 0, _, _, _, _, _, _ => none
  | n + 1, x0, x2, x3, x4, x5, h => b_X1_quarrels_32 f  (l_X1_quarrels_32 f  n) x0 x2 x3 x4 x5 h
def f_X1_quarrels (f : Nat)  (x0 : Nat) (x1 : Int32) (h : Hp) : Option (Int32 × Hp) :=
  bi (f_J6_bitCount_0f7a4 f x1 h) fun v2_ h1_ =>
  if (2 : Int32) ≤ v2_ then
  (bi (f_X1_lowestOf f x1 h1_) fun v4_ h3_ =>
  bi (f_X1_lowestOf f (x1 &&& (((1 : Int32) <<< (v4_ &&& 31)) ^^^ (-1 : Int32))) h3_) fun v6_ h5_ =>
  l_X1_quarrels_32 f f x0 v4_ v6_ (0 : Int32) (0 : Int32) h5_)
  else
  (some ((0 : Int32), h1_))
set_option maxRecDepth 20000 in
theorem t_X1_quarrels_98 {X : Cx} (o : Ok X RX1 cX1_quarrels 6 2 40 0 0 (some .int)) (f : Nat) {k32 : Nat → Int32 → Int32 → Int32 → Int32 → Hp → Option (Int32 × Hp)} (hk32 : ∀ (x0 : Nat) (x2 : Int32) (x3 : Int32) (x4 : Int32) (x5 : Int32) (h : Hp), Sim X (z_Zi X 0 0) 0 0 32 [(0, rf (xG X) x0), (2, .int x2), (3, .int x3), (4, .int x4), (5, .int x5)] [] h (k32 x0 x2 x3 x4 x5 h)) (x0 : Nat) (x2 : Int32) (x3 : Int32) (x4 : Int32) (x5 : Int32) (h : Hp) : Sim X (z_Zi X 0 0) 0 0 98 [(0, rf (xG X) x0), (2, .int x2), (3, .int x3), (4, .int x4), (5, .int x5)] [] h (b_X1_quarrels_98 f k32 x0 x2 x3 x4 x5 h) := by
  unfold b_X1_quarrels_98
  refine s_iinc o 4 rfl (v := (1 : Int32)) (by decide) [1, 2, 3, 4, 0] (lv' := fun v1_ => [(0, rf (xG X) x0), (2, .int x2), (3, .int x3), (4, .int x4), (5, .int v1_)]) (fun _ => rfl) dX1_quarrels_98 (by decide) (q := 101) rfl (fun v1_ => ?_)
  refine s_goto o (tgt := 32) dX1_quarrels_101 (by decide) ?_
  exact s_sub [0, 1, 2, 3, 4] rfl (hk32 x0 x2 x3 x4 v1_ h)
set_option maxRecDepth 20000 in
theorem t_X1_quarrels_32 {X : Cx} (o : Ok X RX1 cX1_quarrels 6 2 40 0 0 (some .int)) (f : Nat) {k32 : Nat → Int32 → Int32 → Int32 → Int32 → Hp → Option (Int32 × Hp)} (hk32 : ∀ (x0 : Nat) (x2 : Int32) (x3 : Int32) (x4 : Int32) (x5 : Int32) (h : Hp), Sim X (z_Zi X 0 0) 0 0 32 [(0, rf (xG X) x0), (2, .int x2), (3, .int x3), (4, .int x4), (5, .int x5)] [] h (k32 x0 x2 x3 x4 x5 h)) (x0 : Nat) (x2 : Int32) (x3 : Int32) (x4 : Int32) (x5 : Int32) (h : Hp) : Sim X (z_Zi X 0 0) 0 0 32 [(0, rf (xG X) x0), (2, .int x2), (3, .int x3), (4, .int x4), (5, .int x5)] [] h (b_X1_quarrels_32 f k32 x0 x2 x3 x4 x5 h) := by
  unfold b_X1_quarrels_32
  refine s_iload o 4 rfl dX1_quarrels_32 (q := 34) rfl ?_
  refine s_aload_n o 0 rfl dX1_quarrels_34 (q := 35) rfl ?_
  refine s_gr o kf_X1_42 dX1_quarrels_35 (q := 38) rfl (fun a1_ => ?_)
  refine s_gi o kf_X1_92 dX1_quarrels_38 (q := 41) rfl (fun v2_ => ?_)
  refine s_ic_ge o (tgt := 104) dX1_quarrels_41 (by decide) (q := 44) rfl ?_ ?_
  · refine s_iload o 3 rfl dX1_quarrels_104 (q := 106) rfl ?_
    exact s_iret o dX1_quarrels_106
  · refine s_aload_n o 0 rfl dX1_quarrels_44 (q := 45) rfl ?_
    refine s_gi o kf_X1_60 dX1_quarrels_45 (q := 48) rfl (fun v3_ => ?_)
    refine s_iload o 4 rfl dX1_quarrels_48 (q := 50) rfl ?_
    refine s_bi (fun r0 hr0 => runN o cn_X1_105 (c_X5_isIn (xG X) f v3_ x5 h (xl X) r0 hr0) ⟨Nat.le_of_ble_eq_true rfl, Nat.le_of_ble_eq_true rfl⟩ rfl rfl (Nat.le_of_ble_eq_true rfl) dX1_quarrels_50 ⟨Nat.le_of_ble_eq_true rfl, Nat.le_of_ble_eq_true rfl⟩) (q := 53) rfl (cs' := 0) rfl (sl' := 0) rfl (fun v5_ h4_ => ?_)
    refine s_if_ne o (tgt := 98) dX1_quarrels_53 (by decide) (q := 56) rfl ?_ ?_
    · exact s_sub [0, 1, 2, 3, 4] rfl (t_X1_quarrels_98 o f hk32 x0 x2 x3 x4 x5 h4_)
    · refine s_aload_n o 0 rfl dX1_quarrels_56 (q := 57) rfl ?_
      refine s_gr o kf_X1_9 dX1_quarrels_57 (q := 60) rfl (fun a6_ => ?_)
      refine s_iload_n o 1 rfl dX1_quarrels_60 (q := 61) rfl ?_
      refine s_iald o dX1_quarrels_61 (q := 62) rfl (fun v7_ => ?_)
      refine s_iload o 4 rfl dX1_quarrels_62 (q := 64) rfl ?_
      refine s_bi (fun r0 hr0 => runN o cn_X1_105 (c_X5_isIn (xG X) f v7_ x5 h4_ (xl X) r0 hr0) ⟨Nat.le_of_ble_eq_true rfl, Nat.le_of_ble_eq_true rfl⟩ rfl rfl (Nat.le_of_ble_eq_true rfl) dX1_quarrels_64 ⟨Nat.le_of_ble_eq_true rfl, Nat.le_of_ble_eq_true rfl⟩) (q := 67) rfl (cs' := 0) rfl (sl' := 0) rfl (fun v9_ h8_ => ?_)
      refine s_if_eq o (tgt := 98) dX1_quarrels_67 (by decide) (q := 70) rfl ?_ ?_
      · exact s_sub [0, 1, 2, 3, 4] rfl (t_X1_quarrels_98 o f hk32 x0 x2 x3 x4 x5 h8_)
      · refine s_aload_n o 0 rfl dX1_quarrels_70 (q := 71) rfl ?_
        refine s_gr o kf_X1_9 dX1_quarrels_71 (q := 74) rfl (fun a10_ => ?_)
        refine s_iload_n o 2 rfl dX1_quarrels_74 (q := 75) rfl ?_
        refine s_iald o dX1_quarrels_75 (q := 76) rfl (fun v11_ => ?_)
        refine s_iload o 4 rfl dX1_quarrels_76 (q := 78) rfl ?_
        refine s_bi (fun r0 hr0 => runN o cn_X1_105 (c_X5_isIn (xG X) f v11_ x5 h8_ (xl X) r0 hr0) ⟨Nat.le_of_ble_eq_true rfl, Nat.le_of_ble_eq_true rfl⟩ rfl rfl (Nat.le_of_ble_eq_true rfl) dX1_quarrels_78 ⟨Nat.le_of_ble_eq_true rfl, Nat.le_of_ble_eq_true rfl⟩) (q := 81) rfl (cs' := 0) rfl (sl' := 0) rfl (fun v13_ h12_ => ?_)
        refine s_if_eq o (tgt := 98) dX1_quarrels_81 (by decide) (q := 84) rfl ?_ ?_
        · exact s_sub [0, 1, 2, 3, 4] rfl (t_X1_quarrels_98 o f hk32 x0 x2 x3 x4 x5 h12_)
        · refine s_aload_n o 0 rfl dX1_quarrels_84 (q := 85) rfl ?_
          refine s_iload_n o 1 rfl dX1_quarrels_85 (q := 86) rfl ?_
          refine s_iload_n o 2 rfl dX1_quarrels_86 (q := 87) rfl ?_
          refine s_iload o 4 rfl dX1_quarrels_87 (q := 89) rfl ?_
          refine s_on (fun hk14_ => ?_)
          refine s_bi (fun r0 hr0 => runV o hk14_ cv_X1_169 (c_X1_areApart (xG X) f x0 x2 x3 x5 h12_ (xl X) r0 hr0) ⟨Nat.le_of_ble_eq_true rfl, Nat.le_of_ble_eq_true rfl⟩ rfl rfl (Nat.le_of_ble_eq_true rfl) dX1_quarrels_89 ⟨Nat.le_of_ble_eq_true rfl, Nat.le_of_ble_eq_true rfl⟩) (q := 92) rfl (cs' := 0) rfl (sl' := 0) rfl (fun v16_ h15_ => ?_)
          refine s_if_eq o (tgt := 98) dX1_quarrels_92 (by decide) (q := 95) rfl ?_ ?_
          · exact s_sub [0, 1, 2, 3, 4] rfl (t_X1_quarrels_98 o f hk32 x0 x2 x3 x4 x5 h15_)
          · refine s_iinc o 3 rfl (v := (1 : Int32)) (by decide) [1, 2, 3, 0, 4] (lv' := fun v17_ => [(0, rf (xG X) x0), (2, .int x2), (3, .int x3), (4, .int v17_), (5, .int x5)]) (fun _ => rfl) dX1_quarrels_95 (by decide) (q := 98) rfl (fun v17_ => ?_)
            exact s_sub [0, 1, 2, 3, 4] rfl (t_X1_quarrels_98 o f hk32 x0 x2 x3 v17_ x5 h15_)
theorem tl_X1_quarrels_32 {X : Cx} (o : Ok X RX1 cX1_quarrels 6 2 40 0 0 (some .int)) (f : Nat)  : ∀ (n : Nat) (x0 : Nat) (x2 : Int32) (x3 : Int32) (x4 : Int32) (x5 : Int32) (h : Hp), Sim X (z_Zi X 0 0) 0 0 32 [(0, rf (xG X) x0), (2, .int x2), (3, .int x3), (4, .int x4), (5, .int x5)] [] h (l_X1_quarrels_32 f n x0 x2 x3 x4 x5 h) := by
  intro n
  induction n with
  | zero => intro x0 x2 x3 x4 x5 h; exact s_none
  | succ n ih => intro x0 x2 x3 x4 x5 h; exact t_X1_quarrels_32 o f  ih x0 x2 x3 x4 x5 h
set_option maxRecDepth 20000 in
theorem t_X1_quarrels_0 {X : Cx} (o : Ok X RX1 cX1_quarrels 6 2 40 0 0 (some .int)) (f : Nat)  (x0 : Nat) (x1 : Int32) (h : Hp) : Sim X (z_Zi X 0 0) 0 0 0 [(0, rf (xG X) x0), (1, .int x1)] [] h (f_X1_quarrels f x0 x1 h) := by
  unfold f_X1_quarrels
  refine s_iload_n o 1 rfl dX1_quarrels_0 (q := 1) rfl ?_
  refine s_bi (fun r0 hr0 => runS o cs_X1_119 (c_J6_bitCount_0f7a4 (xG X) f x1 h (xl X) r0 hr0) ⟨Nat.le_of_ble_eq_true rfl, Nat.le_of_ble_eq_true rfl⟩ rfl rfl (Nat.le_of_ble_eq_true rfl) dX1_quarrels_1 ⟨Nat.le_of_ble_eq_true rfl, Nat.le_of_ble_eq_true rfl⟩) (q := 4) rfl (cs' := 0) rfl (sl' := 0) rfl (fun v2_ h1_ => ?_)
  refine s_iconst o dX1_quarrels_4 (v := (2 : Int32)) (by decide) (q := 5) rfl ?_
  refine s_ic_ge o (tgt := 10) dX1_quarrels_5 (by decide) (q := 8) rfl ?_ ?_
  · refine s_iload_n o 1 rfl dX1_quarrels_10 (q := 11) rfl ?_
    refine s_bi (fun r0 hr0 => runS o cs_X1_166 (c_X1_lowestOf (xG X) f x1 h1_ (xl X) r0 hr0) ⟨Nat.le_of_ble_eq_true rfl, Nat.le_of_ble_eq_true rfl⟩ rfl rfl (Nat.le_of_ble_eq_true rfl) dX1_quarrels_11 ⟨Nat.le_of_ble_eq_true rfl, Nat.le_of_ble_eq_true rfl⟩) (q := 14) rfl (cs' := 0) rfl (sl' := 0) rfl (fun v4_ h3_ => ?_)
    refine s_istore_n o [1, 2, 0] (lv' := [(0, rf (xG X) x0), (1, .int x1), (2, .int v4_)]) rfl dX1_quarrels_14 (by decide) (q := 15) rfl ?_
    refine s_iload_n o 1 rfl dX1_quarrels_15 (q := 16) rfl ?_
    refine s_iconst o dX1_quarrels_16 (v := (1 : Int32)) (by decide) (q := 17) rfl ?_
    refine s_iload_n o 2 rfl dX1_quarrels_17 (q := 18) rfl ?_
    refine s_ishl o dX1_quarrels_18 (q := 19) rfl ?_
    refine s_iconst o dX1_quarrels_19 (v := (-1 : Int32)) (by decide) (q := 20) rfl ?_
    refine s_ixor o dX1_quarrels_20 (q := 21) rfl ?_
    refine s_iand o dX1_quarrels_21 (q := 22) rfl ?_
    refine s_bi (fun r0 hr0 => runS o cs_X1_166 (c_X1_lowestOf (xG X) f (x1 &&& (((1 : Int32) <<< (v4_ &&& 31)) ^^^ (-1 : Int32))) h3_ (xl X) r0 hr0) ⟨Nat.le_of_ble_eq_true rfl, Nat.le_of_ble_eq_true rfl⟩ rfl rfl (Nat.le_of_ble_eq_true rfl) dX1_quarrels_22 ⟨Nat.le_of_ble_eq_true rfl, Nat.le_of_ble_eq_true rfl⟩) (q := 25) rfl (cs' := 0) rfl (sl' := 0) rfl (fun v6_ h5_ => ?_)
    refine s_istore_n o [1, 2, 3, 0] (lv' := [(0, rf (xG X) x0), (1, .int x1), (2, .int v4_), (3, .int v6_)]) rfl dX1_quarrels_25 (by decide) (q := 26) rfl ?_
    refine s_iconst o dX1_quarrels_26 (v := (0 : Int32)) (by decide) (q := 27) rfl ?_
    refine s_istore o [1, 2, 3, 4, 0] (lv' := [(0, rf (xG X) x0), (1, .int x1), (2, .int v4_), (3, .int v6_), (4, .int (0 : Int32))]) rfl dX1_quarrels_27 (by decide) (q := 29) rfl ?_
    refine s_iconst o dX1_quarrels_29 (v := (0 : Int32)) (by decide) (q := 30) rfl ?_
    refine s_istore o [1, 2, 3, 4, 5, 0] (lv' := [(0, rf (xG X) x0), (1, .int x1), (2, .int v4_), (3, .int v6_), (4, .int (0 : Int32)), (5, .int (0 : Int32))]) rfl dX1_quarrels_30 (by decide) (q := 32) rfl ?_
    exact s_sub [0, 2, 3, 4, 5] rfl (tl_X1_quarrels_32 o f f x0 v4_ v6_ (0 : Int32) (0 : Int32) h5_)
  · refine s_iconst o dX1_quarrels_8 (v := (0 : Int32)) (by decide) (q := 9) rfl ?_
    exact s_iret o dX1_quarrels_9
theorem c_X1_quarrels (G : Gx) (f : Nat) (x0 : Nat) (x1 : Int32) (h : Hp) : z_M z_qi G yX1_quarrels cX1_quarrels 6 (some .int) 2 40 0 0 [rf G x0, .int x1] h (f_X1_quarrels f x0 x1 h) :=
  z_met (by decide +kernel) (Nat.le_of_ble_eq_true rfl) (fun X hG hn o hnm => by
    subst hG
    show Sim X (z_Zi X 0 0) 0 0 0 [(0, rf (xG X) x0), (1, .int x1)] [] h _
    exact s_sub [0, 1] rfl (t_X1_quarrels_0 o f x0 x1 h))
