/-! java/lang/Integer.bitCount(I)I -/
def f_J6_bitCount_0f7a4 (f : Nat)  (x0 : Int32) (h : Hp) : Option (Int32 × Hp) :=
  lt (x0 - (((x0.toUInt32 >>> ((1 : Int32).toUInt32 &&& Int32.toUInt32 31)).toInt32) &&& (1431655765 : Int32))) fun v1_ =>
  lt ((v1_ &&& (858993459 : Int32)) + (((v1_.toUInt32 >>> ((2 : Int32).toUInt32 &&& Int32.toUInt32 31)).toInt32) &&& (858993459 : Int32))) fun v2_ =>
  lt ((v2_ + ((v2_.toUInt32 >>> ((4 : Int32).toUInt32 &&& Int32.toUInt32 31)).toInt32)) &&& (252645135 : Int32)) fun v3_ =>
  lt (v3_ + ((v3_.toUInt32 >>> ((8 : Int32).toUInt32 &&& Int32.toUInt32 31)).toInt32)) fun v4_ =>
  lt (v4_ + ((v4_.toUInt32 >>> ((16 : Int32).toUInt32 &&& Int32.toUInt32 31)).toInt32)) fun v5_ =>
  some ((v5_ &&& (63 : Int32)), h)
set_option maxRecDepth 20000 in
theorem t_J6_bitCount_0f7a4_0 {X : Cx} (o : Ok X RJ6 cJ6_bitCount_0f7a4 1 0 0 0 0 (some .int)) (f : Nat)  (x0 : Int32) (h : Hp) : Sim X (z_Zi X 0 0) 0 0 0 [(0, .int x0)] [] h (f_J6_bitCount_0f7a4 f x0 h) := by
  unfold f_J6_bitCount_0f7a4
  refine s_iload_n o 0 rfl dJ6_bitCount_0f7a4_0 (q := 1) rfl ?_
  refine s_iload_n o 0 rfl dJ6_bitCount_0f7a4_1 (q := 2) rfl ?_
  refine s_iconst o dJ6_bitCount_0f7a4_2 (v := (1 : Int32)) (by decide) (q := 3) rfl ?_
  refine s_iushr o dJ6_bitCount_0f7a4_3 (q := 4) rfl ?_
  refine s_ldcw o kc_J6_265 dJ6_bitCount_0f7a4_4 (q := 7) rfl ?_
  refine s_iand o dJ6_bitCount_0f7a4_7 (q := 8) rfl ?_
  refine s_isub o dJ6_bitCount_0f7a4_8 (q := 9) rfl ?_
  refine s_let (fun v1_ => ?_)
  refine s_istore_n o [0] (lv' := [(0, .int v1_)]) rfl dJ6_bitCount_0f7a4_9 (by decide) (q := 10) rfl ?_
  refine s_iload_n o 0 rfl dJ6_bitCount_0f7a4_10 (q := 11) rfl ?_
  refine s_ldcw o kc_J6_266 dJ6_bitCount_0f7a4_11 (q := 14) rfl ?_
  refine s_iand o dJ6_bitCount_0f7a4_14 (q := 15) rfl ?_
  refine s_iload_n o 0 rfl dJ6_bitCount_0f7a4_15 (q := 16) rfl ?_
  refine s_iconst o dJ6_bitCount_0f7a4_16 (v := (2 : Int32)) (by decide) (q := 17) rfl ?_
  refine s_iushr o dJ6_bitCount_0f7a4_17 (q := 18) rfl ?_
  refine s_ldcw o kc_J6_266 dJ6_bitCount_0f7a4_18 (q := 21) rfl ?_
  refine s_iand o dJ6_bitCount_0f7a4_21 (q := 22) rfl ?_
  refine s_iadd o dJ6_bitCount_0f7a4_22 (q := 23) rfl ?_
  refine s_let (fun v2_ => ?_)
  refine s_istore_n o [0] (lv' := [(0, .int v2_)]) rfl dJ6_bitCount_0f7a4_23 (by decide) (q := 24) rfl ?_
  refine s_iload_n o 0 rfl dJ6_bitCount_0f7a4_24 (q := 25) rfl ?_
  refine s_iload_n o 0 rfl dJ6_bitCount_0f7a4_25 (q := 26) rfl ?_
  refine s_iconst o dJ6_bitCount_0f7a4_26 (v := (4 : Int32)) (by decide) (q := 27) rfl ?_
  refine s_iushr o dJ6_bitCount_0f7a4_27 (q := 28) rfl ?_
  refine s_iadd o dJ6_bitCount_0f7a4_28 (q := 29) rfl ?_
  refine s_ldcw o kc_J6_267 dJ6_bitCount_0f7a4_29 (q := 32) rfl ?_
  refine s_iand o dJ6_bitCount_0f7a4_32 (q := 33) rfl ?_
  refine s_let (fun v3_ => ?_)
  refine s_istore_n o [0] (lv' := [(0, .int v3_)]) rfl dJ6_bitCount_0f7a4_33 (by decide) (q := 34) rfl ?_
  refine s_iload_n o 0 rfl dJ6_bitCount_0f7a4_34 (q := 35) rfl ?_
  refine s_iload_n o 0 rfl dJ6_bitCount_0f7a4_35 (q := 36) rfl ?_
  refine s_bipush o dJ6_bitCount_0f7a4_36 (v := (8 : Int32)) (by decide) (q := 38) rfl ?_
  refine s_iushr o dJ6_bitCount_0f7a4_38 (q := 39) rfl ?_
  refine s_iadd o dJ6_bitCount_0f7a4_39 (q := 40) rfl ?_
  refine s_let (fun v4_ => ?_)
  refine s_istore_n o [0] (lv' := [(0, .int v4_)]) rfl dJ6_bitCount_0f7a4_40 (by decide) (q := 41) rfl ?_
  refine s_iload_n o 0 rfl dJ6_bitCount_0f7a4_41 (q := 42) rfl ?_
  refine s_iload_n o 0 rfl dJ6_bitCount_0f7a4_42 (q := 43) rfl ?_
  refine s_bipush o dJ6_bitCount_0f7a4_43 (v := (16 : Int32)) (by decide) (q := 45) rfl ?_
  refine s_iushr o dJ6_bitCount_0f7a4_45 (q := 46) rfl ?_
  refine s_iadd o dJ6_bitCount_0f7a4_46 (q := 47) rfl ?_
  refine s_let (fun v5_ => ?_)
  refine s_istore_n o [0] (lv' := [(0, .int v5_)]) rfl dJ6_bitCount_0f7a4_47 (by decide) (q := 48) rfl ?_
  refine s_iload_n o 0 rfl dJ6_bitCount_0f7a4_48 (q := 49) rfl ?_
  refine s_bipush o dJ6_bitCount_0f7a4_49 (v := (63 : Int32)) (by decide) (q := 51) rfl ?_
  refine s_iand o dJ6_bitCount_0f7a4_51 (q := 52) rfl ?_
  exact s_iret o dJ6_bitCount_0f7a4_52
theorem c_J6_bitCount_0f7a4 (G : Gx) (f : Nat) (x0 : Int32) (h : Hp) : z_M z_qi G yJ6_bitCount_0f7a4 cJ6_bitCount_0f7a4 1 (some .int) 0 0 0 0 [.int x0] h (f_J6_bitCount_0f7a4 f x0 h) :=
  z_met (by decide +kernel) (Nat.le_of_ble_eq_true rfl) (fun X hG hn o hnm => by
    subst hG
    show Sim X (z_Zi X 0 0) 0 0 0 [(0, .int x0)] [] h _
    exact s_sub [0] rfl (t_J6_bitCount_0f7a4_0 o f x0 h))
/-! java/util/Arrays.fill([II)V -/
def b_J7_fill_53178_5 (f : Nat) (k5 : Nat → Int32 → Int32 → Int32 → Hp → Option (Hp)) (x0 : Nat) (x1 : Int32) (x2 : Int32) (x3 : Int32) (h : Hp) : Option (Hp) :=
  if x3 ≤ x2 then
  (some h)
  else
  ((q_as h x0 9 x2 x1).bind fun h1_ =>
  lt (x2 + (1 : Int32)) fun v2_ =>
  k5 x0 x1 v2_ x3 h1_)
def l_J7_fill_53178_5 (f : Nat)  : Nat → Nat → Int32 → Int32 → Int32 → Hp → Option (Hp)
  | 0, _, _, _, _, _ => none
  | n + 1, x0, x1, x2, x3, h => b_J7_fill_53178_5 f  (l_J7_fill_53178_5 f  n) x0 x1 x2 x3 h
def f_J7_fill_53178 (f : Nat)  (x0 : Nat) (x1 : Int32) (h : Hp) : Option (Hp) :=
  (q_al h x0).bind fun v1_ =>
  l_J7_fill_53178_5 f f x0 x1 (0 : Int32) v1_ h
set_option maxRecDepth 20000 in
theorem t_J7_fill_53178_5 {X : Cx} (o : Ok X RJ7 cJ7_fill_53178 4 0 0 0 0 none) (f : Nat) {k5 : Nat → Int32 → Int32 → Int32 → Hp → Option (Hp)} (hk5 : ∀ (x0 : Nat) (x1 : Int32) (x2 : Int32) (x3 : Int32) (h : Hp), Sim X (z_Zv X 0 0) 0 0 5 [(0, rf (xG X) x0), (1, .int x1), (2, .int x2), (3, .int x3)] [] h (k5 x0 x1 x2 x3 h)) (x0 : Nat) (x1 : Int32) (x2 : Int32) (x3 : Int32) (h : Hp) : Sim X (z_Zv X 0 0) 0 0 5 [(0, rf (xG X) x0), (1, .int x1), (2, .int x2), (3, .int x3)] [] h (b_J7_fill_53178_5 f k5 x0 x1 x2 x3 h) := by
  unfold b_J7_fill_53178_5
  refine s_iload_n o 2 rfl dJ7_fill_53178_5 (q := 6) rfl ?_
  refine s_iload_n o 3 rfl dJ7_fill_53178_6 (q := 7) rfl ?_
  refine s_ic_ge o (tgt := 20) dJ7_fill_53178_7 (by decide) (q := 10) rfl ?_ ?_
  · exact s_vret o dJ7_fill_53178_20
  · refine s_aload_n o 0 rfl dJ7_fill_53178_10 (q := 11) rfl ?_
    refine s_iload_n o 2 rfl dJ7_fill_53178_11 (q := 12) rfl ?_
    refine s_iload_n o 1 rfl dJ7_fill_53178_12 (q := 13) rfl ?_
    refine s_iast o dJ7_fill_53178_13 (q := 14) rfl (fun h1_ => ?_)
    refine s_iinc o 2 rfl (v := (1 : Int32)) (by decide) [1, 2, 0, 3] (lv' := fun v2_ => [(0, rf (xG X) x0), (1, .int x1), (2, .int v2_), (3, .int x3)]) (fun _ => rfl) dJ7_fill_53178_14 (by decide) (q := 17) rfl (fun v2_ => ?_)
    refine s_goto o (tgt := 5) dJ7_fill_53178_17 (by decide) ?_
    exact s_sub [0, 1, 2, 3] rfl (hk5 x0 x1 v2_ x3 h1_)
theorem tl_J7_fill_53178_5 {X : Cx} (o : Ok X RJ7 cJ7_fill_53178 4 0 0 0 0 none) (f : Nat)  : ∀ (n : Nat) (x0 : Nat) (x1 : Int32) (x2 : Int32) (x3 : Int32) (h : Hp), Sim X (z_Zv X 0 0) 0 0 5 [(0, rf (xG X) x0), (1, .int x1), (2, .int x2), (3, .int x3)] [] h (l_J7_fill_53178_5 f n x0 x1 x2 x3 h) := by
  intro n
  induction n with
  | zero => intro x0 x1 x2 x3 h; exact s_none
  | succ n ih => intro x0 x1 x2 x3 h; exact t_J7_fill_53178_5 o f  ih x0 x1 x2 x3 h
set_option maxRecDepth 20000 in
theorem t_J7_fill_53178_0 {X : Cx} (o : Ok X RJ7 cJ7_fill_53178 4 0 0 0 0 none) (f : Nat)  (x0 : Nat) (x1 : Int32) (h : Hp) : Sim X (z_Zv X 0 0) 0 0 0 [(0, rf (xG X) x0), (1, .int x1)] [] h (f_J7_fill_53178 f x0 x1 h) := by
  unfold f_J7_fill_53178
  refine s_iconst o dJ7_fill_53178_0 (v := (0 : Int32)) (by decide) (q := 1) rfl ?_
  refine s_istore_n o [1, 2, 0] (lv' := [(0, rf (xG X) x0), (1, .int x1), (2, .int (0 : Int32))]) rfl dJ7_fill_53178_1 (by decide) (q := 2) rfl ?_
  refine s_aload_n o 0 rfl dJ7_fill_53178_2 (q := 3) rfl ?_
  refine s_alen o dJ7_fill_53178_3 (q := 4) rfl (fun v1_ => ?_)
  refine s_istore_n o [1, 2, 3, 0] (lv' := [(0, rf (xG X) x0), (1, .int x1), (2, .int (0 : Int32)), (3, .int v1_)]) rfl dJ7_fill_53178_4 (by decide) (q := 5) rfl ?_
  exact s_sub [0, 1, 2, 3] rfl (tl_J7_fill_53178_5 o f f x0 x1 (0 : Int32) v1_ h)
theorem c_J7_fill_53178 (G : Gx) (f : Nat) (x0 : Nat) (x1 : Int32) (h : Hp) : z_M z_qv G yJ7_fill_53178 cJ7_fill_53178 4 none 0 0 0 0 [rf G x0, .int x1] h (f_J7_fill_53178 f x0 x1 h) :=
  z_met (by decide +kernel) (Nat.le_of_ble_eq_true rfl) (fun X hG hn o hnm => by
    subst hG
    show Sim X (z_Zv X 0 0) 0 0 0 [(0, rf (xG X) x0), (1, .int x1)] [] h _
    exact s_sub [0, 1] rfl (t_J7_fill_53178_0 o f x0 x1 h))
/-! SixMaps$Island.put(IIII)V -/
def f_X0_put (f : Nat)  (x0 : Nat) (x1 : Int32) (x2 : Int32) (x3 : Int32) (x4 : Int32) (h : Hp) : Option (Hp) :=
  (q_gr h x0 0 2).bind fun a1_ =>
  (q_as h a1_ 9 ((x1 * (9 : Int32)) + x2) x3).bind fun h2_ =>
  (q_gr h2_ x0 0 3).bind fun a3_ =>
  (q_as h2_ a3_ 9 ((x1 * (9 : Int32)) + x2) x4).bind fun h4_ =>
  some h4_
set_option maxRecDepth 20000 in
theorem t_X0_put_0 {X : Cx} (o : Ok X RX0 cX0_put 5 0 0 0 0 none) (f : Nat)  (x0 : Nat) (x1 : Int32) (x2 : Int32) (x3 : Int32) (x4 : Int32) (h : Hp) : Sim X (z_Zv X 0 0) 0 0 0 [(0, rf (xG X) x0), (1, .int x1), (2, .int x2), (3, .int x3), (4, .int x4)] [] h (f_X0_put f x0 x1 x2 x3 x4 h) := by
  unfold f_X0_put
  refine s_aload_n o 0 rfl dX0_put_0 (q := 1) rfl ?_
  refine s_gr o kf_X0_18 dX0_put_1 (q := 4) rfl (fun a1_ => ?_)
  refine s_iload_n o 1 rfl dX0_put_4 (q := 5) rfl ?_
  refine s_bipush o dX0_put_5 (v := (9 : Int32)) (by decide) (q := 7) rfl ?_
  refine s_imul o dX0_put_7 (q := 8) rfl ?_
  refine s_iload_n o 2 rfl dX0_put_8 (q := 9) rfl ?_
  refine s_iadd o dX0_put_9 (q := 10) rfl ?_
  refine s_iload_n o 3 rfl dX0_put_10 (q := 11) rfl ?_
  refine s_iast o dX0_put_11 (q := 12) rfl (fun h2_ => ?_)
  refine s_aload_n o 0 rfl dX0_put_12 (q := 13) rfl ?_
  refine s_gr o kf_X0_21 dX0_put_13 (q := 16) rfl (fun a3_ => ?_)
  refine s_iload_n o 1 rfl dX0_put_16 (q := 17) rfl ?_
  refine s_bipush o dX0_put_17 (v := (9 : Int32)) (by decide) (q := 19) rfl ?_
  refine s_imul o dX0_put_19 (q := 20) rfl ?_
  refine s_iload_n o 2 rfl dX0_put_20 (q := 21) rfl ?_
  refine s_iadd o dX0_put_21 (q := 22) rfl ?_
  refine s_iload o 4 rfl dX0_put_22 (q := 24) rfl ?_
  refine s_iast o dX0_put_24 (q := 25) rfl (fun h4_ => ?_)
  exact s_vret o dX0_put_25
theorem c_X0_put (G : Gx) (f : Nat) (x0 : Nat) (x1 : Int32) (x2 : Int32) (x3 : Int32) (x4 : Int32) (h : Hp) : z_M z_qv G yX0_put cX0_put 5 none 0 0 0 0 [rf G x0, .int x1, .int x2, .int x3, .int x4] h (f_X0_put f x0 x1 x2 x3 x4 h) :=
  z_met (by decide +kernel) (Nat.le_of_ble_eq_true rfl) (fun X hG hn o hnm => by
    subst hG
    show Sim X (z_Zv X 0 0) 0 0 0 [(0, rf (xG X) x0), (1, .int x1), (2, .int x2), (3, .int x3), (4, .int x4)] [] h _
    exact s_sub [0, 1, 2, 3, 4] rfl (t_X0_put_0 o f x0 x1 x2 x3 x4 h))
/-! SixMaps$Island.addLie(IIII)V -/
def f_X0_addLie (f : Nat)  (x0 : Nat) (x1 : Int32) (x2 : Int32) (x3 : Int32) (x4 : Int32) (h : Hp) : Option (Hp) :=
  q_on h x0 0 (
  (f_X0_put f x0 x1 x2 x3 x4 h).bind fun h2_ =>
  (q_gi h2_ x0 0 5).bind fun v3_ =>
  (q_pi h2_ x0 0 5 (v3_ ||| ((1 : Int32) <<< (x1 &&& 31)))).bind fun h4_ =>
  (q_gi h4_ x0 0 6).bind fun v5_ =>
  (q_pi h4_ x0 0 6 (v5_ + (1 : Int32))).bind fun h6_ =>
  some h6_)
set_option maxRecDepth 20000 in
theorem t_X0_addLie_0 {X : Cx} (o : Ok X RX0 cX0_addLie 5 1 24 0 0 none) (f : Nat)  (x0 : Nat) (x1 : Int32) (x2 : Int32) (x3 : Int32) (x4 : Int32) (h : Hp) : Sim X (z_Zv X 0 0) 0 0 0 [(0, rf (xG X) x0), (1, .int x1), (2, .int x2), (3, .int x3), (4, .int x4)] [] h (f_X0_addLie f x0 x1 x2 x3 x4 h) := by
  unfold f_X0_addLie
  refine s_aload_n o 0 rfl dX0_addLie_0 (q := 1) rfl ?_
  refine s_iload_n o 1 rfl dX0_addLie_1 (q := 2) rfl ?_
  refine s_iload_n o 2 rfl dX0_addLie_2 (q := 3) rfl ?_
  refine s_iload_n o 3 rfl dX0_addLie_3 (q := 4) rfl ?_
  refine s_iload o 4 rfl dX0_addLie_4 (q := 6) rfl ?_
  refine s_on (fun hk1_ => ?_)
  refine s_callv (fun r0 hr0 => runV o hk1_ cv_X0_52 (c_X0_put (xG X) f x0 x1 x2 x3 x4 h (xl X) r0 hr0) ⟨Nat.le_of_ble_eq_true rfl, Nat.le_of_ble_eq_true rfl⟩ rfl rfl (Nat.le_of_ble_eq_true rfl) dX0_addLie_6 ⟨Nat.le_of_ble_eq_true rfl, Nat.le_of_ble_eq_true rfl⟩) (q := 9) rfl (cs' := 0) rfl (sl' := 0) rfl (fun h2_ => ?_)
  refine s_aload_n o 0 rfl dX0_addLie_9 (q := 10) rfl ?_
  refine s_dup o rfl dX0_addLie_10 (q := 11) rfl ?_
  refine s_gi o kf_X0_28 dX0_addLie_11 (q := 14) rfl (fun v3_ => ?_)
  refine s_iconst o dX0_addLie_14 (v := (1 : Int32)) (by decide) (q := 15) rfl ?_
  refine s_iload_n o 1 rfl dX0_addLie_15 (q := 16) rfl ?_
  refine s_ishl o dX0_addLie_16 (q := 17) rfl ?_
  refine s_ior o dX0_addLie_17 (q := 18) rfl ?_
  refine s_pi o kf_X0_28 dX0_addLie_18 (q := 21) rfl (fun h4_ => ?_)
  refine s_aload_n o 0 rfl dX0_addLie_21 (q := 22) rfl ?_
  refine s_dup o rfl dX0_addLie_22 (q := 23) rfl ?_
  refine s_gi o kf_X0_31 dX0_addLie_23 (q := 26) rfl (fun v5_ => ?_)
  refine s_iconst o dX0_addLie_26 (v := (1 : Int32)) (by decide) (q := 27) rfl ?_
  refine s_iadd o dX0_addLie_27 (q := 28) rfl ?_
  refine s_pi o kf_X0_31 dX0_addLie_28 (q := 31) rfl (fun h6_ => ?_)
  exact s_vret o dX0_addLie_31
theorem c_X0_addLie (G : Gx) (f : Nat) (x0 : Nat) (x1 : Int32) (x2 : Int32) (x3 : Int32) (x4 : Int32) (h : Hp) : z_M z_qv G yX0_addLie cX0_addLie 5 none 1 24 0 0 [rf G x0, .int x1, .int x2, .int x3, .int x4] h (f_X0_addLie f x0 x1 x2 x3 x4 h) :=
  z_met (by decide +kernel) (Nat.le_of_ble_eq_true rfl) (fun X hG hn o hnm => by
    subst hG
    show Sim X (z_Zv X 0 0) 0 0 0 [(0, rf (xG X) x0), (1, .int x1), (2, .int x2), (3, .int x3), (4, .int x4)] [] h _
    exact s_sub [0, 1, 2, 3, 4] rfl (t_X0_addLie_0 o f x0 x1 x2 x3 x4 h))
/-! SixMaps$Island.addMark(II)V -/
def b_X0_addMark_32 (f : Nat) (k32 : Nat → Int32 → Int32 → Int32 → Hp → Option (Hp)) (x0 : Nat) (x1 : Int32) (x2 : Int32) (x3 : Int32) (h : Hp) : Option (Hp) :=
  if (6 : Int32) ≤ x3 then
  ((q_gi h x0 0 4).bind fun v1_ =>
  (q_pi h x0 0 4 (v1_ + (1 : Int32))).bind fun h2_ =>
  some h2_)
  else
  ((q_gi h x0 0 4).bind fun v3_ =>
  q_on h x0 0 (
  (f_X0_put f x0 x3 v3_ x1 x2 h).bind fun h5_ =>
  lt (x3 + (1 : Int32)) fun v6_ =>
  k32 x0 x1 x2 v6_ h5_))
def l_X0_addMark_32 (f : Nat)  : Nat → Nat → Int32 → Int32 → Int32 → Hp → Option (Hp)
  | 0, _, _, _, _, _ => none
  | n + 1, x0, x1, x2, x3, h => b_X0_addMark_32 f  (l_X0_addMark_32 f  n) x0 x1 x2 x3 h
def f_X0_addMark (f : Nat)  (x0 : Nat) (x1 : Int32) (x2 : Int32) (h : Hp) : Option (Hp) :=
  (q_gi h x0 0 4).bind fun v1_ =>
  if v1_ < (9 : Int32) then
  ((q_gr h x0 0 0).bind fun a2_ =>
  (q_gi h x0 0 4).bind fun v3_ =>
  (q_as h a2_ 9 v3_ x1).bind fun h4_ =>
  (q_gr h4_ x0 0 1).bind fun a5_ =>
  (q_gi h4_ x0 0 4).bind fun v6_ =>
  (q_as h4_ a5_ 9 v6_ x2).bind fun h7_ =>
  l_X0_addMark_32 f f x0 x1 x2 (0 : Int32) h7_)
  else
  (some h)
set_option maxRecDepth 20000 in
theorem t_X0_addMark_32 {X : Cx} (o : Ok X RX0 cX0_addMark 4 1 24 0 0 none) (f : Nat) {k32 : Nat → Int32 → Int32 → Int32 → Hp → Option (Hp)} (hk32 : ∀ (x0 : Nat) (x1 : Int32) (x2 : Int32) (x3 : Int32) (h : Hp), Sim X (z_Zv X 0 0) 0 0 32 [(0, rf (xG X) x0), (1, .int x1), (2, .int x2), (3, .int x3)] [] h (k32 x0 x1 x2 x3 h)) (x0 : Nat) (x1 : Int32) (x2 : Int32) (x3 : Int32) (h : Hp) : Sim X (z_Zv X 0 0) 0 0 32 [(0, rf (xG X) x0), (1, .int x1), (2, .int x2), (3, .int x3)] [] h (b_X0_addMark_32 f k32 x0 x1 x2 x3 h) := by
  unfold b_X0_addMark_32
  refine s_iload_n o 3 rfl dX0_addMark_32 (q := 33) rfl ?_
  refine s_bipush o dX0_addMark_33 (v := (6 : Int32)) (by decide) (q := 35) rfl ?_
  refine s_ic_ge o (tgt := 55) dX0_addMark_35 (by decide) (q := 38) rfl ?_ ?_
  · refine s_aload_n o 0 rfl dX0_addMark_55 (q := 56) rfl ?_
    refine s_dup o rfl dX0_addMark_56 (q := 57) rfl ?_
    refine s_gi o kf_X0_24 dX0_addMark_57 (q := 60) rfl (fun v1_ => ?_)
    refine s_iconst o dX0_addMark_60 (v := (1 : Int32)) (by decide) (q := 61) rfl ?_
    refine s_iadd o dX0_addMark_61 (q := 62) rfl ?_
    refine s_pi o kf_X0_24 dX0_addMark_62 (q := 65) rfl (fun h2_ => ?_)
    exact s_vret o dX0_addMark_65
  · refine s_aload_n o 0 rfl dX0_addMark_38 (q := 39) rfl ?_
    refine s_iload_n o 3 rfl dX0_addMark_39 (q := 40) rfl ?_
    refine s_aload_n o 0 rfl dX0_addMark_40 (q := 41) rfl ?_
    refine s_gi o kf_X0_24 dX0_addMark_41 (q := 44) rfl (fun v3_ => ?_)
    refine s_iload_n o 1 rfl dX0_addMark_44 (q := 45) rfl ?_
    refine s_iload_n o 2 rfl dX0_addMark_45 (q := 46) rfl ?_
    refine s_on (fun hk4_ => ?_)
    refine s_callv (fun r0 hr0 => runV o hk4_ cv_X0_52 (c_X0_put (xG X) f x0 x3 v3_ x1 x2 h (xl X) r0 hr0) ⟨Nat.le_of_ble_eq_true rfl, Nat.le_of_ble_eq_true rfl⟩ rfl rfl (Nat.le_of_ble_eq_true rfl) dX0_addMark_46 ⟨Nat.le_of_ble_eq_true rfl, Nat.le_of_ble_eq_true rfl⟩) (q := 49) rfl (cs' := 0) rfl (sl' := 0) rfl (fun h5_ => ?_)
    refine s_iinc o 3 rfl (v := (1 : Int32)) (by decide) [1, 2, 3, 0] (lv' := fun v6_ => [(0, rf (xG X) x0), (1, .int x1), (2, .int x2), (3, .int v6_)]) (fun _ => rfl) dX0_addMark_49 (by decide) (q := 52) rfl (fun v6_ => ?_)
    refine s_goto o (tgt := 32) dX0_addMark_52 (by decide) ?_
    exact s_sub [0, 1, 2, 3] rfl (hk32 x0 x1 x2 v6_ h5_)
theorem tl_X0_addMark_32 {X : Cx} (o : Ok X RX0 cX0_addMark 4 1 24 0 0 none) (f : Nat)  : ∀ (n : Nat) (x0 : Nat) (x1 : Int32) (x2 : Int32) (x3 : Int32) (h : Hp), Sim X (z_Zv X 0 0) 0 0 32 [(0, rf (xG X) x0), (1, .int x1), (2, .int x2), (3, .int x3)] [] h (l_X0_addMark_32 f n x0 x1 x2 x3 h) := by
  intro n
  induction n with
  | zero => intro x0 x1 x2 x3 h; exact s_none
  | succ n ih => intro x0 x1 x2 x3 h; exact t_X0_addMark_32 o f  ih x0 x1 x2 x3 h
set_option maxRecDepth 20000 in
theorem t_X0_addMark_0 {X : Cx} (o : Ok X RX0 cX0_addMark 4 1 24 0 0 none) (f : Nat)  (x0 : Nat) (x1 : Int32) (x2 : Int32) (h : Hp) : Sim X (z_Zv X 0 0) 0 0 0 [(0, rf (xG X) x0), (1, .int x1), (2, .int x2)] [] h (f_X0_addMark f x0 x1 x2 h) := by
  unfold f_X0_addMark
  refine s_aload_n o 0 rfl dX0_addMark_0 (q := 1) rfl ?_
  refine s_gi o kf_X0_24 dX0_addMark_1 (q := 4) rfl (fun v1_ => ?_)
  refine s_bipush o dX0_addMark_4 (v := (9 : Int32)) (by decide) (q := 6) rfl ?_
  refine s_ic_lt o (tgt := 10) dX0_addMark_6 (by decide) (q := 9) rfl ?_ ?_
  · refine s_aload_n o 0 rfl dX0_addMark_10 (q := 11) rfl ?_
    refine s_gr o kf_X0_9 dX0_addMark_11 (q := 14) rfl (fun a2_ => ?_)
    refine s_aload_n o 0 rfl dX0_addMark_14 (q := 15) rfl ?_
    refine s_gi o kf_X0_24 dX0_addMark_15 (q := 18) rfl (fun v3_ => ?_)
    refine s_iload_n o 1 rfl dX0_addMark_18 (q := 19) rfl ?_
    refine s_iast o dX0_addMark_19 (q := 20) rfl (fun h4_ => ?_)
    refine s_aload_n o 0 rfl dX0_addMark_20 (q := 21) rfl ?_
    refine s_gr o kf_X0_15 dX0_addMark_21 (q := 24) rfl (fun a5_ => ?_)
    refine s_aload_n o 0 rfl dX0_addMark_24 (q := 25) rfl ?_
    refine s_gi o kf_X0_24 dX0_addMark_25 (q := 28) rfl (fun v6_ => ?_)
    refine s_iload_n o 2 rfl dX0_addMark_28 (q := 29) rfl ?_
    refine s_iast o dX0_addMark_29 (q := 30) rfl (fun h7_ => ?_)
    refine s_iconst o dX0_addMark_30 (v := (0 : Int32)) (by decide) (q := 31) rfl ?_
    refine s_istore_n o [1, 2, 3, 0] (lv' := [(0, rf (xG X) x0), (1, .int x1), (2, .int x2), (3, .int (0 : Int32))]) rfl dX0_addMark_31 (by decide) (q := 32) rfl ?_
    exact s_sub [0, 1, 2, 3] rfl (tl_X0_addMark_32 o f f x0 x1 x2 (0 : Int32) h7_)
  · exact s_vret o dX0_addMark_9
theorem c_X0_addMark (G : Gx) (f : Nat) (x0 : Nat) (x1 : Int32) (x2 : Int32) (h : Hp) : z_M z_qv G yX0_addMark cX0_addMark 4 none 1 24 0 0 [rf G x0, .int x1, .int x2] h (f_X0_addMark f x0 x1 x2 h) :=
  z_met (by decide +kernel) (Nat.le_of_ble_eq_true rfl) (fun X hG hn o hnm => by
    subst hG
    show Sim X (z_Zv X 0 0) 0 0 0 [(0, rf (xG X) x0), (1, .int x1), (2, .int x2)] [] h _
    exact s_sub [0, 1, 2] rfl (t_X0_addMark_0 o f x0 x1 x2 h))
/-! SixMaps$Island.clear()V -/
def f_X0_clear (f : Nat)  (x0 : Nat) (h : Hp) : Option (Hp) :=
  (q_pi h x0 0 4 (0 : Int32)).bind fun h1_ =>
  (q_pi h1_ x0 0 5 (0 : Int32)).bind fun h2_ =>
  (q_pi h2_ x0 0 6 (0 : Int32)).bind fun h3_ =>
  (q_pi h3_ x0 0 7 (0 : Int32)).bind fun h4_ =>
  (q_pi h4_ x0 0 8 (0 : Int32)).bind fun h5_ =>
  (q_pi h5_ x0 0 9 (0 : Int32)).bind fun h6_ =>
  (q_pi h6_ x0 0 10 (0 : Int32)).bind fun h7_ =>
  (q_pi h7_ x0 0 11 (10 : Int32)).bind fun h8_ =>
  (q_pi h8_ x0 0 12 (100 : Int32)).bind fun h9_ =>
  some h9_
set_option maxRecDepth 20000 in
theorem t_X0_clear_0 {X : Cx} (o : Ok X RX0 cX0_clear 1 0 0 0 0 none) (f : Nat)  (x0 : Nat) (h : Hp) : Sim X (z_Zv X 0 0) 0 0 0 [(0, rf (xG X) x0)] [] h (f_X0_clear f x0 h) := by
  unfold f_X0_clear
  refine s_aload_n o 0 rfl dX0_clear_0 (q := 1) rfl ?_
  refine s_iconst o dX0_clear_1 (v := (0 : Int32)) (by decide) (q := 2) rfl ?_
  refine s_pi o kf_X0_24 dX0_clear_2 (q := 5) rfl (fun h1_ => ?_)
  refine s_aload_n o 0 rfl dX0_clear_5 (q := 6) rfl ?_
  refine s_iconst o dX0_clear_6 (v := (0 : Int32)) (by decide) (q := 7) rfl ?_
  refine s_pi o kf_X0_28 dX0_clear_7 (q := 10) rfl (fun h2_ => ?_)
  refine s_aload_n o 0 rfl dX0_clear_10 (q := 11) rfl ?_
  refine s_iconst o dX0_clear_11 (v := (0 : Int32)) (by decide) (q := 12) rfl ?_
  refine s_pi o kf_X0_31 dX0_clear_12 (q := 15) rfl (fun h3_ => ?_)
  refine s_aload_n o 0 rfl dX0_clear_15 (q := 16) rfl ?_
  refine s_iconst o dX0_clear_16 (v := (0 : Int32)) (by decide) (q := 17) rfl ?_
  refine s_pi o kf_X0_34 dX0_clear_17 (q := 20) rfl (fun h4_ => ?_)
  refine s_aload_n o 0 rfl dX0_clear_20 (q := 21) rfl ?_
  refine s_iconst o dX0_clear_21 (v := (0 : Int32)) (by decide) (q := 22) rfl ?_
  refine s_pi o kf_X0_37 dX0_clear_22 (q := 25) rfl (fun h5_ => ?_)
  refine s_aload_n o 0 rfl dX0_clear_25 (q := 26) rfl ?_
  refine s_iconst o dX0_clear_26 (v := (0 : Int32)) (by decide) (q := 27) rfl ?_
  refine s_pi o kf_X0_40 dX0_clear_27 (q := 30) rfl (fun h6_ => ?_)
  refine s_aload_n o 0 rfl dX0_clear_30 (q := 31) rfl ?_
  refine s_iconst o dX0_clear_31 (v := (0 : Int32)) (by decide) (q := 32) rfl ?_
  refine s_pi o kf_X0_43 dX0_clear_32 (q := 35) rfl (fun h7_ => ?_)
  refine s_aload_n o 0 rfl dX0_clear_35 (q := 36) rfl ?_
  refine s_bipush o dX0_clear_36 (v := (10 : Int32)) (by decide) (q := 38) rfl ?_
  refine s_pi o kf_X0_46 dX0_clear_38 (q := 41) rfl (fun h8_ => ?_)
  refine s_aload_n o 0 rfl dX0_clear_41 (q := 42) rfl ?_
  refine s_bipush o dX0_clear_42 (v := (100 : Int32)) (by decide) (q := 44) rfl ?_
  refine s_pi o kf_X0_49 dX0_clear_44 (q := 47) rfl (fun h9_ => ?_)
  exact s_vret o dX0_clear_47
theorem c_X0_clear (G : Gx) (f : Nat) (x0 : Nat) (h : Hp) : z_M z_qv G yX0_clear cX0_clear 1 none 0 0 0 0 [rf G x0] h (f_X0_clear f x0 h) :=
  z_met (by decide +kernel) (Nat.le_of_ble_eq_true rfl) (fun X hG hn o hnm => by
    subst hG
    show Sim X (z_Zv X 0 0) 0 0 0 [(0, rf (xG X) x0)] [] h _
    exact s_sub [0] rfl (t_X0_clear_0 o f x0 h))
/-! SixMaps$Island.<init>()V -/
def f_X0_init (f : Nat)  (x0 : Nat) (h : Hp) : Option (Hp) :=
  bn (q_nwa h 9 9) fun a1_ h2_ =>
  (q_pr h2_ x0 0 0 a1_).bind fun h3_ =>
  bn (q_nwa h3_ 9 9) fun a4_ h5_ =>
  (q_pr h5_ x0 0 1 a4_).bind fun h6_ =>
  bn (q_nwa h6_ 9 54) fun a7_ h8_ =>
  (q_pr h8_ x0 0 2 a7_).bind fun h9_ =>
  bn (q_nwa h9_ 9 54) fun a10_ h11_ =>
  (q_pr h11_ x0 0 3 a10_).bind fun h12_ =>
  (q_pi h12_ x0 0 4 (0 : Int32)).bind fun h13_ =>
  (q_pi h13_ x0 0 5 (0 : Int32)).bind fun h14_ =>
  (q_pi h14_ x0 0 6 (0 : Int32)).bind fun h15_ =>
  (q_pi h15_ x0 0 7 (0 : Int32)).bind fun h16_ =>
  (q_pi h16_ x0 0 8 (0 : Int32)).bind fun h17_ =>
  (q_pi h17_ x0 0 9 (0 : Int32)).bind fun h18_ =>
  (q_pi h18_ x0 0 10 (0 : Int32)).bind fun h19_ =>
  (q_pi h19_ x0 0 11 (10 : Int32)).bind fun h20_ =>
  (q_pi h20_ x0 0 12 (100 : Int32)).bind fun h21_ =>
  some h21_
set_option maxRecDepth 20000 in
theorem t_X0_init_0 {X : Cx} (o : Ok X RX0 cX0_init 1 1 12 4 126 none) (hnm : (xM X).name = yX0_init.name) (f : Nat)  (x0 : Nat) (h : Hp) : Sim X (z_Zv X 4 126) 0 0 0 [(0, rf (xG X) x0)] [] h (f_X0_init f x0 h) := by
  unfold f_X0_init
  refine s_aload_n o 0 rfl dX0_init_0 (q := 1) rfl ?_
  refine s_obj o ob_X0_3 (Nat.le_of_ble_eq_true rfl) (Nat.le_of_ble_eq_true rfl) dX0_init_1 (q := 4) rfl ?_
  refine s_aload_n o 0 rfl dX0_init_4 (q := 5) rfl ?_
  refine s_bipush o dX0_init_5 (v := (9 : Int32)) (by decide) (q := 7) rfl ?_
  refine s_nwa_i o na_int (N := 9) (by decide) (by decide) (by decide) (by decide) (by decide) dX0_init_7 (q := 9) rfl (cs' := 1) rfl (sl' := 9) rfl (fun a1_ h2_ => ?_)
  refine s_prF o kf_X0_9 (fun _ => rfl) (fun _ => rfl) hnm (fun rr e => by rw [← Option.some.inj (show some (RX0, TX0, 13) = some rr from e)]; rfl) dX0_init_9 (q := 12) rfl (fun h3_ => ?_)
  refine s_aload_n o 0 rfl dX0_init_12 (q := 13) rfl ?_
  refine s_bipush o dX0_init_13 (v := (9 : Int32)) (by decide) (q := 15) rfl ?_
  refine s_nwa_i o na_int (N := 9) (by decide) (by decide) (by decide) (by decide) (by decide) dX0_init_15 (q := 17) rfl (cs' := 2) rfl (sl' := 18) rfl (fun a4_ h5_ => ?_)
  refine s_prF o kf_X0_15 (fun _ => rfl) (fun _ => rfl) hnm (fun rr e => by rw [← Option.some.inj (show some (RX0, TX0, 13) = some rr from e)]; rfl) dX0_init_17 (q := 20) rfl (fun h6_ => ?_)
  refine s_aload_n o 0 rfl dX0_init_20 (q := 21) rfl ?_
  refine s_bipush o dX0_init_21 (v := (54 : Int32)) (by decide) (q := 23) rfl ?_
  refine s_nwa_i o na_int (N := 54) (by decide) (by decide) (by decide) (by decide) (by decide) dX0_init_23 (q := 25) rfl (cs' := 3) rfl (sl' := 72) rfl (fun a7_ h8_ => ?_)
  refine s_prF o kf_X0_18 (fun _ => rfl) (fun _ => rfl) hnm (fun rr e => by rw [← Option.some.inj (show some (RX0, TX0, 13) = some rr from e)]; rfl) dX0_init_25 (q := 28) rfl (fun h9_ => ?_)
  refine s_aload_n o 0 rfl dX0_init_28 (q := 29) rfl ?_
  refine s_bipush o dX0_init_29 (v := (54 : Int32)) (by decide) (q := 31) rfl ?_
  refine s_nwa_i o na_int (N := 54) (by decide) (by decide) (by decide) (by decide) (by decide) dX0_init_31 (q := 33) rfl (cs' := 4) rfl (sl' := 126) rfl (fun a10_ h11_ => ?_)
  refine s_prF o kf_X0_21 (fun _ => rfl) (fun _ => rfl) hnm (fun rr e => by rw [← Option.some.inj (show some (RX0, TX0, 13) = some rr from e)]; rfl) dX0_init_33 (q := 36) rfl (fun h12_ => ?_)
  refine s_aload_n o 0 rfl dX0_init_36 (q := 37) rfl ?_
  refine s_iconst o dX0_init_37 (v := (0 : Int32)) (by decide) (q := 38) rfl ?_
  refine s_pi o kf_X0_24 dX0_init_38 (q := 41) rfl (fun h13_ => ?_)
  refine s_aload_n o 0 rfl dX0_init_41 (q := 42) rfl ?_
  refine s_iconst o dX0_init_42 (v := (0 : Int32)) (by decide) (q := 43) rfl ?_
  refine s_pi o kf_X0_28 dX0_init_43 (q := 46) rfl (fun h14_ => ?_)
  refine s_aload_n o 0 rfl dX0_init_46 (q := 47) rfl ?_
  refine s_iconst o dX0_init_47 (v := (0 : Int32)) (by decide) (q := 48) rfl ?_
  refine s_pi o kf_X0_31 dX0_init_48 (q := 51) rfl (fun h15_ => ?_)
  refine s_aload_n o 0 rfl dX0_init_51 (q := 52) rfl ?_
  refine s_iconst o dX0_init_52 (v := (0 : Int32)) (by decide) (q := 53) rfl ?_
  refine s_pi o kf_X0_34 dX0_init_53 (q := 56) rfl (fun h16_ => ?_)
  refine s_aload_n o 0 rfl dX0_init_56 (q := 57) rfl ?_
  refine s_iconst o dX0_init_57 (v := (0 : Int32)) (by decide) (q := 58) rfl ?_
  refine s_pi o kf_X0_37 dX0_init_58 (q := 61) rfl (fun h17_ => ?_)
  refine s_aload_n o 0 rfl dX0_init_61 (q := 62) rfl ?_
  refine s_iconst o dX0_init_62 (v := (0 : Int32)) (by decide) (q := 63) rfl ?_
  refine s_pi o kf_X0_40 dX0_init_63 (q := 66) rfl (fun h18_ => ?_)
  refine s_aload_n o 0 rfl dX0_init_66 (q := 67) rfl ?_
  refine s_iconst o dX0_init_67 (v := (0 : Int32)) (by decide) (q := 68) rfl ?_
  refine s_pi o kf_X0_43 dX0_init_68 (q := 71) rfl (fun h19_ => ?_)
  refine s_aload_n o 0 rfl dX0_init_71 (q := 72) rfl ?_
  refine s_bipush o dX0_init_72 (v := (10 : Int32)) (by decide) (q := 74) rfl ?_
  refine s_pi o kf_X0_46 dX0_init_74 (q := 77) rfl (fun h20_ => ?_)
  refine s_aload_n o 0 rfl dX0_init_77 (q := 78) rfl ?_
  refine s_bipush o dX0_init_78 (v := (100 : Int32)) (by decide) (q := 80) rfl ?_
  refine s_pi o kf_X0_49 dX0_init_80 (q := 83) rfl (fun h21_ => ?_)
  exact s_vret o dX0_init_83
theorem c_X0_init (G : Gx) (f : Nat) (x0 : Nat) (h : Hp) : z_M z_qv G yX0_init cX0_init 1 none 1 12 4 126 [rf G x0] h (f_X0_init f x0 h) :=
  z_met (by decide +kernel) (Nat.le_of_ble_eq_true rfl) (fun X hG hn o hnm => by
    subst hG
    show Sim X (z_Zv X 4 126) 0 0 0 [(0, rf (xG X) x0)] [] h _
    exact s_sub [0] rfl (t_X0_init_0 o hnm f x0 h))
/-! SixMaps$Island.soughtX()I -/
def f_X0_soughtX (f : Nat)  (x0 : Nat) (h : Hp) : Option (Int32 × Hp) :=
  (q_gr h x0 0 0).bind fun a1_ =>
  (q_gi h x0 0 8).bind fun v2_ =>
  (q_ai h a1_ 9 v2_).bind fun v3_ =>
  (q_gr h x0 0 0).bind fun a4_ =>
  (q_gi h x0 0 9).bind fun v5_ =>
  (q_ai h a4_ 9 v5_).bind fun v6_ =>
  (q_gr h x0 0 0).bind fun a7_ =>
  (q_gi h x0 0 10).bind fun v8_ =>
  (q_ai h a7_ 9 v8_).bind fun v9_ =>
  some (((v3_ + v6_) - v9_), h)
set_option maxRecDepth 20000 in
theorem t_X0_soughtX_0 {X : Cx} (o : Ok X RX0 cX0_soughtX 1 0 0 0 0 (some .int)) (f : Nat)  (x0 : Nat) (h : Hp) : Sim X (z_Zi X 0 0) 0 0 0 [(0, rf (xG X) x0)] [] h (f_X0_soughtX f x0 h) := by
  unfold f_X0_soughtX
  refine s_aload_n o 0 rfl dX0_soughtX_0 (q := 1) rfl ?_
  refine s_gr o kf_X0_9 dX0_soughtX_1 (q := 4) rfl (fun a1_ => ?_)
  refine s_aload_n o 0 rfl dX0_soughtX_4 (q := 5) rfl ?_
  refine s_gi o kf_X0_37 dX0_soughtX_5 (q := 8) rfl (fun v2_ => ?_)
  refine s_iald o dX0_soughtX_8 (q := 9) rfl (fun v3_ => ?_)
  refine s_aload_n o 0 rfl dX0_soughtX_9 (q := 10) rfl ?_
  refine s_gr o kf_X0_9 dX0_soughtX_10 (q := 13) rfl (fun a4_ => ?_)
  refine s_aload_n o 0 rfl dX0_soughtX_13 (q := 14) rfl ?_
  refine s_gi o kf_X0_40 dX0_soughtX_14 (q := 17) rfl (fun v5_ => ?_)
  refine s_iald o dX0_soughtX_17 (q := 18) rfl (fun v6_ => ?_)
  refine s_iadd o dX0_soughtX_18 (q := 19) rfl ?_
  refine s_aload_n o 0 rfl dX0_soughtX_19 (q := 20) rfl ?_
  refine s_gr o kf_X0_9 dX0_soughtX_20 (q := 23) rfl (fun a7_ => ?_)
  refine s_aload_n o 0 rfl dX0_soughtX_23 (q := 24) rfl ?_
  refine s_gi o kf_X0_43 dX0_soughtX_24 (q := 27) rfl (fun v8_ => ?_)
  refine s_iald o dX0_soughtX_27 (q := 28) rfl (fun v9_ => ?_)
  refine s_isub o dX0_soughtX_28 (q := 29) rfl ?_
  exact s_iret o dX0_soughtX_29
theorem c_X0_soughtX (G : Gx) (f : Nat) (x0 : Nat) (h : Hp) : z_M z_qi G yX0_soughtX cX0_soughtX 1 (some .int) 0 0 0 0 [rf G x0] h (f_X0_soughtX f x0 h) :=
  z_met (by decide +kernel) (Nat.le_of_ble_eq_true rfl) (fun X hG hn o hnm => by
    subst hG
    show Sim X (z_Zi X 0 0) 0 0 0 [(0, rf (xG X) x0)] [] h _
    exact s_sub [0] rfl (t_X0_soughtX_0 o f x0 h))
/-! SixMaps$Island.soughtY()I -/
def f_X0_soughtY (f : Nat)  (x0 : Nat) (h : Hp) : Option (Int32 × Hp) :=
  (q_gr h x0 0 1).bind fun a1_ =>
  (q_gi h x0 0 8).bind fun v2_ =>
  (q_ai h a1_ 9 v2_).bind fun v3_ =>
  (q_gr h x0 0 1).bind fun a4_ =>
  (q_gi h x0 0 9).bind fun v5_ =>
  (q_ai h a4_ 9 v5_).bind fun v6_ =>
  (q_gr h x0 0 1).bind fun a7_ =>
  (q_gi h x0 0 10).bind fun v8_ =>
  (q_ai h a7_ 9 v8_).bind fun v9_ =>
  some (((v3_ + v6_) - v9_), h)
set_option maxRecDepth 20000 in
theorem t_X0_soughtY_0 {X : Cx} (o : Ok X RX0 cX0_soughtY 1 0 0 0 0 (some .int)) (f : Nat)  (x0 : Nat) (h : Hp) : Sim X (z_Zi X 0 0) 0 0 0 [(0, rf (xG X) x0)] [] h (f_X0_soughtY f x0 h) := by
  unfold f_X0_soughtY
  refine s_aload_n o 0 rfl dX0_soughtY_0 (q := 1) rfl ?_
  refine s_gr o kf_X0_15 dX0_soughtY_1 (q := 4) rfl (fun a1_ => ?_)
  refine s_aload_n o 0 rfl dX0_soughtY_4 (q := 5) rfl ?_
  refine s_gi o kf_X0_37 dX0_soughtY_5 (q := 8) rfl (fun v2_ => ?_)
  refine s_iald o dX0_soughtY_8 (q := 9) rfl (fun v3_ => ?_)
  refine s_aload_n o 0 rfl dX0_soughtY_9 (q := 10) rfl ?_
  refine s_gr o kf_X0_15 dX0_soughtY_10 (q := 13) rfl (fun a4_ => ?_)
  refine s_aload_n o 0 rfl dX0_soughtY_13 (q := 14) rfl ?_
  refine s_gi o kf_X0_40 dX0_soughtY_14 (q := 17) rfl (fun v5_ => ?_)
  refine s_iald o dX0_soughtY_17 (q := 18) rfl (fun v6_ => ?_)
  refine s_iadd o dX0_soughtY_18 (q := 19) rfl ?_
  refine s_aload_n o 0 rfl dX0_soughtY_19 (q := 20) rfl ?_
  refine s_gr o kf_X0_15 dX0_soughtY_20 (q := 23) rfl (fun a7_ => ?_)
  refine s_aload_n o 0 rfl dX0_soughtY_23 (q := 24) rfl ?_
  refine s_gi o kf_X0_43 dX0_soughtY_24 (q := 27) rfl (fun v8_ => ?_)
  refine s_iald o dX0_soughtY_27 (q := 28) rfl (fun v9_ => ?_)
  refine s_isub o dX0_soughtY_28 (q := 29) rfl ?_
  exact s_iret o dX0_soughtY_29
theorem c_X0_soughtY (G : Gx) (f : Nat) (x0 : Nat) (h : Hp) : z_M z_qi G yX0_soughtY cX0_soughtY 1 (some .int) 0 0 0 0 [rf G x0] h (f_X0_soughtY f x0 h) :=
  z_met (by decide +kernel) (Nat.le_of_ble_eq_true rfl) (fun X hG hn o hnm => by
    subst hG
    show Sim X (z_Zi X 0 0) 0 0 0 [(0, rf (xG X) x0)] [] h _
    exact s_sub [0] rfl (t_X0_soughtY_0 o f x0 h))
/-! SixMaps$Judge.areApart(III)Z -/
def b_X1_areApart_78 (f : Nat)  (y0 : Int32) (h : Hp) : Option (Int32 × Hp) :=
  q_bo y0 (some (y0, h))
def b_X1_areApart_73 (f : Nat)   (h : Hp) : Option (Int32 × Hp) :=
  b_X1_areApart_78 f (1 : Int32) h
def f_X1_areApart (f : Nat)  (x0 : Nat) (x1 : Int32) (x2 : Int32) (x3 : Int32) (h : Hp) : Option (Int32 × Hp) :=
  lt ((x1 * (9 : Int32)) + x3) fun v1_ =>
  lt ((x2 * (9 : Int32)) + x3) fun v2_ =>
  (q_gr h x0 1 9).bind fun a3_ =>
  (q_gi h a3_ 0 7).bind fun v4_ =>
  lt ((2 : Int32) * v4_) fun v5_ =>
  (q_gr h x0 1 1).bind fun a6_ =>
  (q_ai h a6_ 9 v1_).bind fun v7_ =>
  (q_gr h x0 1 1).bind fun a8_ =>
  (q_ai h a8_ 9 v2_).bind fun v9_ =>
  if v5_ < (if 0 ≤ (v7_ - v9_) then (v7_ - v9_) else 0 - (v7_ - v9_)) then
  (b_X1_areApart_73 f h)
  else
  ((q_gr h x0 1 2).bind fun a10_ =>
  (q_ai h a10_ 9 v1_).bind fun v11_ =>
  (q_gr h x0 1 2).bind fun a12_ =>
  (q_ai h a12_ 9 v2_).bind fun v13_ =>
  if (if 0 ≤ (v11_ - v13_) then (v11_ - v13_) else 0 - (v11_ - v13_)) ≤ v5_ then
  (b_X1_areApart_78 f (0 : Int32) h)
  else
  (b_X1_areApart_73 f h))
set_option maxRecDepth 20000 in
theorem t_X1_areApart_78 {X : Cx} (o : Ok X RX1 cX1_areApart 7 1 13 0 0 (some .boolean)) (f : Nat)  (y0 : Int32) (h : Hp) : Sim X (z_Zi X 0 0) 0 0 78 [] [.int y0] h (b_X1_areApart_78 f y0 h) := by
  unfold b_X1_areApart_78
  exact s_zret o dX1_areApart_78
set_option maxRecDepth 20000 in
theorem t_X1_areApart_73 {X : Cx} (o : Ok X RX1 cX1_areApart 7 1 13 0 0 (some .boolean)) (f : Nat)   (h : Hp) : Sim X (z_Zi X 0 0) 0 0 73 [] [] h (b_X1_areApart_73 f h) := by
  unfold b_X1_areApart_73
  refine s_iconst o dX1_areApart_73 (v := (1 : Int32)) (by decide) (q := 74) rfl ?_
  refine s_goto o (tgt := 78) dX1_areApart_74 (by decide) ?_
  exact s_sub [] rfl (t_X1_areApart_78 o f (1 : Int32) h)
set_option maxRecDepth 20000 in
theorem t_X1_areApart_0 {X : Cx} (o : Ok X RX1 cX1_areApart 7 1 13 0 0 (some .boolean)) (f : Nat)  (x0 : Nat) (x1 : Int32) (x2 : Int32) (x3 : Int32) (h : Hp) : Sim X (z_Zi X 0 0) 0 0 0 [(0, rf (xG X) x0), (1, .int x1), (2, .int x2), (3, .int x3)] [] h (f_X1_areApart f x0 x1 x2 x3 h) := by
  unfold f_X1_areApart
  refine s_iload_n o 1 rfl dX1_areApart_0 (q := 1) rfl ?_
  refine s_bipush o dX1_areApart_1 (v := (9 : Int32)) (by decide) (q := 3) rfl ?_
  refine s_imul o dX1_areApart_3 (q := 4) rfl ?_
  refine s_iload_n o 3 rfl dX1_areApart_4 (q := 5) rfl ?_
  refine s_iadd o dX1_areApart_5 (q := 6) rfl ?_
  refine s_let (fun v1_ => ?_)
  refine s_istore o [1, 2, 3, 4, 0] (lv' := [(0, rf (xG X) x0), (1, .int x1), (2, .int x2), (3, .int x3), (4, .int v1_)]) rfl dX1_areApart_6 (by decide) (q := 8) rfl ?_
  refine s_iload_n o 2 rfl dX1_areApart_8 (q := 9) rfl ?_
  refine s_bipush o dX1_areApart_9 (v := (9 : Int32)) (by decide) (q := 11) rfl ?_
  refine s_imul o dX1_areApart_11 (q := 12) rfl ?_
  refine s_iload_n o 3 rfl dX1_areApart_12 (q := 13) rfl ?_
  refine s_iadd o dX1_areApart_13 (q := 14) rfl ?_
  refine s_let (fun v2_ => ?_)
  refine s_istore o [1, 2, 3, 4, 5, 0] (lv' := [(0, rf (xG X) x0), (1, .int x1), (2, .int x2), (3, .int x3), (4, .int v1_), (5, .int v2_)]) rfl dX1_areApart_14 (by decide) (q := 16) rfl ?_
  refine s_iconst o dX1_areApart_16 (v := (2 : Int32)) (by decide) (q := 17) rfl ?_
  refine s_aload_n o 0 rfl dX1_areApart_17 (q := 18) rfl ?_
  refine s_gr o kf_X1_42 dX1_areApart_18 (q := 21) rfl (fun a3_ => ?_)
  refine s_gi o kf_X1_157 dX1_areApart_21 (q := 24) rfl (fun v4_ => ?_)
  refine s_imul o dX1_areApart_24 (q := 25) rfl ?_
  refine s_let (fun v5_ => ?_)
  refine s_istore o [1, 2, 3, 4, 5, 6, 0] (lv' := [(0, rf (xG X) x0), (1, .int x1), (2, .int x2), (3, .int x3), (4, .int v1_), (5, .int v2_), (6, .int v5_)]) rfl dX1_areApart_25 (by decide) (q := 27) rfl ?_
  refine s_aload_n o 0 rfl dX1_areApart_27 (q := 28) rfl ?_
  refine s_gr o kf_X1_15 dX1_areApart_28 (q := 31) rfl (fun a6_ => ?_)
  refine s_iload o 4 rfl dX1_areApart_31 (q := 33) rfl ?_
  refine s_iald o dX1_areApart_33 (q := 34) rfl (fun v7_ => ?_)
  refine s_aload_n o 0 rfl dX1_areApart_34 (q := 35) rfl ?_
  refine s_gr o kf_X1_15 dX1_areApart_35 (q := 38) rfl (fun a8_ => ?_)
  refine s_iload o 5 rfl dX1_areApart_38 (q := 40) rfl ?_
  refine s_iald o dX1_areApart_40 (q := 41) rfl (fun v9_ => ?_)
  refine s_isub o dX1_areApart_41 (q := 42) rfl ?_
  refine s_abs o mw_X1_172 (Nat.le_of_ble_eq_true rfl) (Nat.le_of_ble_eq_true rfl) (by decide) (by decide) dX1_areApart_42 (q := 45) rfl ?_
  refine s_iload o 6 rfl dX1_areApart_45 (q := 47) rfl ?_
  refine s_ic_gt o (tgt := 73) dX1_areApart_47 (by decide) (q := 50) rfl ?_ ?_
  · exact s_sub [] rfl (t_X1_areApart_73 o f h)
  · refine s_aload_n o 0 rfl dX1_areApart_50 (q := 51) rfl ?_
    refine s_gr o kf_X1_18 dX1_areApart_51 (q := 54) rfl (fun a10_ => ?_)
    refine s_iload o 4 rfl dX1_areApart_54 (q := 56) rfl ?_
    refine s_iald o dX1_areApart_56 (q := 57) rfl (fun v11_ => ?_)
    refine s_aload_n o 0 rfl dX1_areApart_57 (q := 58) rfl ?_
    refine s_gr o kf_X1_18 dX1_areApart_58 (q := 61) rfl (fun a12_ => ?_)
    refine s_iload o 5 rfl dX1_areApart_61 (q := 63) rfl ?_
    refine s_iald o dX1_areApart_63 (q := 64) rfl (fun v13_ => ?_)
    refine s_isub o dX1_areApart_64 (q := 65) rfl ?_
    refine s_abs o mw_X1_172 (Nat.le_of_ble_eq_true rfl) (Nat.le_of_ble_eq_true rfl) (by decide) (by decide) dX1_areApart_65 (q := 68) rfl ?_
    refine s_iload o 6 rfl dX1_areApart_68 (q := 70) rfl ?_
    refine s_ic_le o (tgt := 77) dX1_areApart_70 (by decide) (q := 73) rfl ?_ ?_
    · refine s_iconst o dX1_areApart_77 (v := (0 : Int32)) (by decide) (q := 78) rfl ?_
      exact s_sub [] rfl (t_X1_areApart_78 o f (0 : Int32) h)
    · exact s_sub [] rfl (t_X1_areApart_73 o f h)
theorem c_X1_areApart (G : Gx) (f : Nat) (x0 : Nat) (x1 : Int32) (x2 : Int32) (x3 : Int32) (h : Hp) : z_M z_qi G yX1_areApart cX1_areApart 7 (some .boolean) 1 13 0 0 [rf G x0, .int x1, .int x2, .int x3] h (f_X1_areApart f x0 x1 x2 x3 h) :=
  z_met (by decide +kernel) (Nat.le_of_ble_eq_true rfl) (fun X hG hn o hnm => by
    subst hG
    show Sim X (z_Zi X 0 0) 0 0 0 [(0, rf (xG X) x0), (1, .int x1), (2, .int x2), (3, .int x3)] [] h _
    exact s_sub [0, 1, 2, 3] rfl (t_X1_areApart_0 o f x0 x1 x2 x3 h))
/-! SixMaps$Judge.narrow(II)V -/
def f_X1_narrow (f : Nat)  (x0 : Nat) (x1 : Int32) (x2 : Int32) (h : Hp) : Option (Hp) :=
  (q_gr h x0 1 1).bind fun a1_ =>
  (q_ai h a1_ 9 ((x1 * (9 : Int32)) + x2)).bind fun v2_ =>
  (q_gr h x0 1 2).bind fun a3_ =>
  (q_ai h a3_ 9 ((x1 * (9 : Int32)) + x2)).bind fun v4_ =>
  (q_gr h x0 1 3).bind fun a5_ =>
  (q_gr h x0 1 3).bind fun a6_ =>
  (q_ai h a6_ 9 x2).bind fun v7_ =>
  (q_gr h x0 1 9).bind fun a8_ =>
  (q_gi h a8_ 0 7).bind fun v9_ =>
  (q_as h a5_ 9 x2 (if v7_ < (v2_ - v9_) then (v2_ - v9_) else v7_)).bind fun h10_ =>
  (q_gr h10_ x0 1 4).bind fun a11_ =>
  (q_gr h10_ x0 1 4).bind fun a12_ =>
  (q_ai h10_ a12_ 9 x2).bind fun v13_ =>
  (q_gr h10_ x0 1 9).bind fun a14_ =>
  (q_gi h10_ a14_ 0 7).bind fun v15_ =>
  (q_as h10_ a11_ 9 x2 (if (v2_ + v15_) < v13_ then (v2_ + v15_) else v13_)).bind fun h16_ =>
  (q_gr h16_ x0 1 5).bind fun a17_ =>
  (q_gr h16_ x0 1 5).bind fun a18_ =>
  (q_ai h16_ a18_ 9 x2).bind fun v19_ =>
  (q_gr h16_ x0 1 9).bind fun a20_ =>
  (q_gi h16_ a20_ 0 7).bind fun v21_ =>
  (q_as h16_ a17_ 9 x2 (if v19_ < (v4_ - v21_) then (v4_ - v21_) else v19_)).bind fun h22_ =>
  (q_gr h22_ x0 1 6).bind fun a23_ =>
  (q_gr h22_ x0 1 6).bind fun a24_ =>
  (q_ai h22_ a24_ 9 x2).bind fun v25_ =>
  (q_gr h22_ x0 1 9).bind fun a26_ =>
  (q_gi h22_ a26_ 0 7).bind fun v27_ =>
  (q_as h22_ a23_ 9 x2 (if (v4_ + v27_) < v25_ then (v4_ + v27_) else v25_)).bind fun h28_ =>
  (q_gi h28_ x0 1 13).bind fun v29_ =>
  (q_pi h28_ x0 1 13 (v29_ ||| ((1 : Int32) <<< (x2 &&& 31)))).bind fun h30_ =>
  some h30_
set_option maxRecDepth 20000 in
theorem t_X1_narrow_0 {X : Cx} (o : Ok X RX1 cX1_narrow 5 1 15 0 0 none) (f : Nat)  (x0 : Nat) (x1 : Int32) (x2 : Int32) (h : Hp) : Sim X (z_Zv X 0 0) 0 0 0 [(0, rf (xG X) x0), (1, .int x1), (2, .int x2)] [] h (f_X1_narrow f x0 x1 x2 h) := by
  unfold f_X1_narrow
  refine s_aload_n o 0 rfl dX1_narrow_0 (q := 1) rfl ?_
  refine s_gr o kf_X1_15 dX1_narrow_1 (q := 4) rfl (fun a1_ => ?_)
  refine s_iload_n o 1 rfl dX1_narrow_4 (q := 5) rfl ?_
  refine s_bipush o dX1_narrow_5 (v := (9 : Int32)) (by decide) (q := 7) rfl ?_
  refine s_imul o dX1_narrow_7 (q := 8) rfl ?_
  refine s_iload_n o 2 rfl dX1_narrow_8 (q := 9) rfl ?_
  refine s_iadd o dX1_narrow_9 (q := 10) rfl ?_
  refine s_iald o dX1_narrow_10 (q := 11) rfl (fun v2_ => ?_)
  refine s_istore_n o [1, 2, 3, 0] (lv' := [(0, rf (xG X) x0), (1, .int x1), (2, .int x2), (3, .int v2_)]) rfl dX1_narrow_11 (by decide) (q := 12) rfl ?_
  refine s_aload_n o 0 rfl dX1_narrow_12 (q := 13) rfl ?_
  refine s_gr o kf_X1_18 dX1_narrow_13 (q := 16) rfl (fun a3_ => ?_)
  refine s_iload_n o 1 rfl dX1_narrow_16 (q := 17) rfl ?_
  refine s_bipush o dX1_narrow_17 (v := (9 : Int32)) (by decide) (q := 19) rfl ?_
  refine s_imul o dX1_narrow_19 (q := 20) rfl ?_
  refine s_iload_n o 2 rfl dX1_narrow_20 (q := 21) rfl ?_
  refine s_iadd o dX1_narrow_21 (q := 22) rfl ?_
  refine s_iald o dX1_narrow_22 (q := 23) rfl (fun v4_ => ?_)
  refine s_istore o [1, 2, 3, 4, 0] (lv' := [(0, rf (xG X) x0), (1, .int x1), (2, .int x2), (3, .int v2_), (4, .int v4_)]) rfl dX1_narrow_23 (by decide) (q := 25) rfl ?_
  refine s_aload_n o 0 rfl dX1_narrow_25 (q := 26) rfl ?_
  refine s_gr o kf_X1_21 dX1_narrow_26 (q := 29) rfl (fun a5_ => ?_)
  refine s_iload_n o 2 rfl dX1_narrow_29 (q := 30) rfl ?_
  refine s_aload_n o 0 rfl dX1_narrow_30 (q := 31) rfl ?_
  refine s_gr o kf_X1_21 dX1_narrow_31 (q := 34) rfl (fun a6_ => ?_)
  refine s_iload_n o 2 rfl dX1_narrow_34 (q := 35) rfl ?_
  refine s_iald o dX1_narrow_35 (q := 36) rfl (fun v7_ => ?_)
  refine s_iload_n o 3 rfl dX1_narrow_36 (q := 37) rfl ?_
  refine s_aload_n o 0 rfl dX1_narrow_37 (q := 38) rfl ?_
  refine s_gr o kf_X1_42 dX1_narrow_38 (q := 41) rfl (fun a8_ => ?_)
  refine s_gi o kf_X1_157 dX1_narrow_41 (q := 44) rfl (fun v9_ => ?_)
  refine s_isub o dX1_narrow_44 (q := 45) rfl ?_
  refine s_max o mw_X1_113 (Nat.le_of_ble_eq_true rfl) (Nat.le_of_ble_eq_true rfl) (by decide) (by decide) dX1_narrow_45 (q := 48) rfl ?_
  refine s_iast o dX1_narrow_48 (q := 49) rfl (fun h10_ => ?_)
  refine s_aload_n o 0 rfl dX1_narrow_49 (q := 50) rfl ?_
  refine s_gr o kf_X1_24 dX1_narrow_50 (q := 53) rfl (fun a11_ => ?_)
  refine s_iload_n o 2 rfl dX1_narrow_53 (q := 54) rfl ?_
  refine s_aload_n o 0 rfl dX1_narrow_54 (q := 55) rfl ?_
  refine s_gr o kf_X1_24 dX1_narrow_55 (q := 58) rfl (fun a12_ => ?_)
  refine s_iload_n o 2 rfl dX1_narrow_58 (q := 59) rfl ?_
  refine s_iald o dX1_narrow_59 (q := 60) rfl (fun v13_ => ?_)
  refine s_iload_n o 3 rfl dX1_narrow_60 (q := 61) rfl ?_
  refine s_aload_n o 0 rfl dX1_narrow_61 (q := 62) rfl ?_
  refine s_gr o kf_X1_42 dX1_narrow_62 (q := 65) rfl (fun a14_ => ?_)
  refine s_gi o kf_X1_157 dX1_narrow_65 (q := 68) rfl (fun v15_ => ?_)
  refine s_iadd o dX1_narrow_68 (q := 69) rfl ?_
  refine s_min o mw_X1_160 (Nat.le_of_ble_eq_true rfl) (Nat.le_of_ble_eq_true rfl) (by decide) (by decide) dX1_narrow_69 (q := 72) rfl ?_
  refine s_iast o dX1_narrow_72 (q := 73) rfl (fun h16_ => ?_)
  refine s_aload_n o 0 rfl dX1_narrow_73 (q := 74) rfl ?_
  refine s_gr o kf_X1_27 dX1_narrow_74 (q := 77) rfl (fun a17_ => ?_)
  refine s_iload_n o 2 rfl dX1_narrow_77 (q := 78) rfl ?_
  refine s_aload_n o 0 rfl dX1_narrow_78 (q := 79) rfl ?_
  refine s_gr o kf_X1_27 dX1_narrow_79 (q := 82) rfl (fun a18_ => ?_)
  refine s_iload_n o 2 rfl dX1_narrow_82 (q := 83) rfl ?_
  refine s_iald o dX1_narrow_83 (q := 84) rfl (fun v19_ => ?_)
  refine s_iload o 4 rfl dX1_narrow_84 (q := 86) rfl ?_
  refine s_aload_n o 0 rfl dX1_narrow_86 (q := 87) rfl ?_
  refine s_gr o kf_X1_42 dX1_narrow_87 (q := 90) rfl (fun a20_ => ?_)
  refine s_gi o kf_X1_157 dX1_narrow_90 (q := 93) rfl (fun v21_ => ?_)
  refine s_isub o dX1_narrow_93 (q := 94) rfl ?_
  refine s_max o mw_X1_113 (Nat.le_of_ble_eq_true rfl) (Nat.le_of_ble_eq_true rfl) (by decide) (by decide) dX1_narrow_94 (q := 97) rfl ?_
  refine s_iast o dX1_narrow_97 (q := 98) rfl (fun h22_ => ?_)
  refine s_aload_n o 0 rfl dX1_narrow_98 (q := 99) rfl ?_
  refine s_gr o kf_X1_30 dX1_narrow_99 (q := 102) rfl (fun a23_ => ?_)
  refine s_iload_n o 2 rfl dX1_narrow_102 (q := 103) rfl ?_
  refine s_aload_n o 0 rfl dX1_narrow_103 (q := 104) rfl ?_
  refine s_gr o kf_X1_30 dX1_narrow_104 (q := 107) rfl (fun a24_ => ?_)
  refine s_iload_n o 2 rfl dX1_narrow_107 (q := 108) rfl ?_
  refine s_iald o dX1_narrow_108 (q := 109) rfl (fun v25_ => ?_)
  refine s_iload o 4 rfl dX1_narrow_109 (q := 111) rfl ?_
  refine s_aload_n o 0 rfl dX1_narrow_111 (q := 112) rfl ?_
  refine s_gr o kf_X1_42 dX1_narrow_112 (q := 115) rfl (fun a26_ => ?_)
  refine s_gi o kf_X1_157 dX1_narrow_115 (q := 118) rfl (fun v27_ => ?_)
  refine s_iadd o dX1_narrow_118 (q := 119) rfl ?_
  refine s_min o mw_X1_160 (Nat.le_of_ble_eq_true rfl) (Nat.le_of_ble_eq_true rfl) (by decide) (by decide) dX1_narrow_119 (q := 122) rfl ?_
  refine s_iast o dX1_narrow_122 (q := 123) rfl (fun h28_ => ?_)
  refine s_aload_n o 0 rfl dX1_narrow_123 (q := 124) rfl ?_
  refine s_dup o rfl dX1_narrow_124 (q := 125) rfl ?_
  refine s_gi o kf_X1_60 dX1_narrow_125 (q := 128) rfl (fun v29_ => ?_)
  refine s_iconst o dX1_narrow_128 (v := (1 : Int32)) (by decide) (q := 129) rfl ?_
  refine s_iload_n o 2 rfl dX1_narrow_129 (q := 130) rfl ?_
  refine s_ishl o dX1_narrow_130 (q := 131) rfl ?_
  refine s_ior o dX1_narrow_131 (q := 132) rfl ?_
  refine s_pi o kf_X1_60 dX1_narrow_132 (q := 135) rfl (fun h30_ => ?_)
  exact s_vret o dX1_narrow_135
theorem c_X1_narrow (G : Gx) (f : Nat) (x0 : Nat) (x1 : Int32) (x2 : Int32) (h : Hp) : z_M z_qv G yX1_narrow cX1_narrow 5 none 1 15 0 0 [rf G x0, .int x1, .int x2] h (f_X1_narrow f x0 x1 x2 h) :=
  z_met (by decide +kernel) (Nat.le_of_ble_eq_true rfl) (fun X hG hn o hnm => by
    subst hG
    show Sim X (z_Zv X 0 0) 0 0 0 [(0, rf (xG X) x0), (1, .int x1), (2, .int x2)] [] h _
    exact s_sub [0, 1, 2] rfl (t_X1_narrow_0 o f x0 x1 x2 h))
/-! SixMaps.isIn(II)Z -/
def b_X5_isIn_13 (f : Nat)  (y0 : Int32) (h : Hp) : Option (Int32 × Hp) :=
  q_bo y0 (some (y0, h))
def f_X5_isIn (f : Nat)  (x0 : Int32) (x1 : Int32) (h : Hp) : Option (Int32 × Hp) :=
  if ((x0 >>> (x1 &&& 31)) &&& (1 : Int32)) = 0 then
  (b_X5_isIn_13 f (0 : Int32) h)
  else
  (b_X5_isIn_13 f (1 : Int32) h)
set_option maxRecDepth 20000 in
theorem t_X5_isIn_13 {X : Cx} (o : Ok X RX5 cX5_isIn 2 0 0 0 0 (some .boolean)) (f : Nat)  (y0 : Int32) (h : Hp) : Sim X (z_Zi X 0 0) 0 0 13 [] [.int y0] h (b_X5_isIn_13 f y0 h) := by
  unfold b_X5_isIn_13
  exact s_zret o dX5_isIn_13
set_option maxRecDepth 20000 in
theorem t_X5_isIn_0 {X : Cx} (o : Ok X RX5 cX5_isIn 2 0 0 0 0 (some .boolean)) (f : Nat)  (x0 : Int32) (x1 : Int32) (h : Hp) : Sim X (z_Zi X 0 0) 0 0 0 [(0, .int x0), (1, .int x1)] [] h (f_X5_isIn f x0 x1 h) := by
  unfold f_X5_isIn
  refine s_iload_n o 0 rfl dX5_isIn_0 (q := 1) rfl ?_
  refine s_iload_n o 1 rfl dX5_isIn_1 (q := 2) rfl ?_
  refine s_ishr o dX5_isIn_2 (q := 3) rfl ?_
  refine s_iconst o dX5_isIn_3 (v := (1 : Int32)) (by decide) (q := 4) rfl ?_
  refine s_iand o dX5_isIn_4 (q := 5) rfl ?_
  refine s_if_eq o (tgt := 12) dX5_isIn_5 (by decide) (q := 8) rfl ?_ ?_
  · refine s_iconst o dX5_isIn_12 (v := (0 : Int32)) (by decide) (q := 13) rfl ?_
    exact s_sub [] rfl (t_X5_isIn_13 o f (0 : Int32) h)
  · refine s_iconst o dX5_isIn_8 (v := (1 : Int32)) (by decide) (q := 9) rfl ?_
    refine s_goto o (tgt := 13) dX5_isIn_9 (by decide) ?_
    exact s_sub [] rfl (t_X5_isIn_13 o f (1 : Int32) h)
theorem c_X5_isIn (G : Gx) (f : Nat) (x0 : Int32) (x1 : Int32) (h : Hp) : z_M z_qi G yX5_isIn cX5_isIn 2 (some .boolean) 0 0 0 0 [.int x0, .int x1] h (f_X5_isIn f x0 x1 h) :=
  z_met (by decide +kernel) (Nat.le_of_ble_eq_true rfl) (fun X hG hn o hnm => by
    subst hG
    show Sim X (z_Zi X 0 0) 0 0 0 [(0, .int x0), (1, .int x1)] [] h _
    exact s_sub [0, 1] rfl (t_X5_isIn_0 o f x0 x1 h))
/-! SixMaps$Judge.arePlacesLeft(I)Z -/
def b_X1_arePlacesLeft_121 (f : Nat)   (h : Hp) : Option (Int32 × Hp) :=
  q_bo (0 : Int32) (some ((0 : Int32), h))
def b_X1_arePlacesLeft_85 (f : Nat) (k7 : Nat → Int32 → Int32 → Hp → Option (Int32 × Hp)) (k52 : Nat → Int32 → Int32 → Int32 → Hp → Option (Int32 × Hp)) (x0 : Nat) (x1 : Int32) (x2 : Int32) (x3 : Int32) (h : Hp) : Option (Int32 × Hp) :=
  lt (x3 + (1 : Int32)) fun v1_ =>
  k52 x0 x1 x2 v1_ h
def b_X1_arePlacesLeft_52 (f : Nat) (k7 : Nat → Int32 → Int32 → Hp → Option (Int32 × Hp)) (k52 : Nat → Int32 → Int32 → Int32 → Hp → Option (Int32 × Hp)) (x0 : Nat) (x1 : Int32) (x2 : Int32) (x3 : Int32) (h : Hp) : Option (Int32 × Hp) :=
  if (6 : Int32) ≤ x3 then
  ((q_gr h x0 1 3).bind fun a1_ =>
  (q_ai h a1_ 9 x2).bind fun v2_ =>
  (q_gr h x0 1 4).bind fun a3_ =>
  (q_ai h a3_ 9 x2).bind fun v4_ =>
  if v4_ < v2_ then
  (b_X1_arePlacesLeft_121 f h)
  else
  ((q_gr h x0 1 5).bind fun a5_ =>
  (q_ai h a5_ 9 x2).bind fun v6_ =>
  (q_gr h x0 1 6).bind fun a7_ =>
  (q_ai h a7_ 9 x2).bind fun v8_ =>
  if v6_ ≤ v8_ then
  (lt (x2 + (1 : Int32)) fun v9_ =>
  k7 x0 x1 v9_ h)
  else
  (b_X1_arePlacesLeft_121 f h)))
  else
  (bi (f_X5_isIn f x1 x3 h) fun v11_ h10_ =>
  if ¬ v11_ = 0 then
  (b_X1_arePlacesLeft_85 f k7 k52 x0 x1 x2 x3 h10_)
  else
  ((q_gr h10_ x0 1 0).bind fun a12_ =>
  (q_ai h10_ a12_ 9 x3).bind fun v13_ =>
  bi (f_X5_isIn f v13_ x2 h10_) fun v15_ h14_ =>
  if v15_ = 0 then
  (b_X1_arePlacesLeft_85 f k7 k52 x0 x1 x2 x3 h14_)
  else
  (q_on h14_ x0 1 (
  (f_X1_narrow f x0 x3 x2 h14_).bind fun h17_ =>
  b_X1_arePlacesLeft_85 f k7 k52 x0 x1 x2 x3 h17_))))
def l_X1_arePlacesLeft_52 (f : Nat) (k7 : Nat → Int32 → Int32 → Hp → Option (Int32 × Hp)) : Nat → Nat → Int32 → Int32 → Int32 → Hp → Option (Int32 × Hp)
  | 0, _, _, _, _, _ => none
  | n + 1, x0, x1, x2, x3, h => b_X1_arePlacesLeft_52 f k7 (l_X1_arePlacesLeft_52 f k7 n) x0 x1 x2 x3 h
def b_X1_arePlacesLeft_7 (f : Nat) (k7 : Nat → Int32 → Int32 → Hp → Option (Int32 × Hp)) (x0 : Nat) (x1 : Int32) (x2 : Int32) (h : Hp) : Option (Int32 × Hp) :=
  (q_gr h x0 1 9).bind fun a1_ =>
  (q_gi h a1_ 0 4).bind fun v2_ =>
  if v2_ ≤ x2 then
  (q_bo (1 : Int32) (some ((1 : Int32), h)))
  else
  ((q_gr h x0 1 3).bind fun a3_ =>
  (q_as h a3_ 9 x2 (-1000000 : Int32)).bind fun h4_ =>
  (q_gr h4_ x0 1 4).bind fun a5_ =>
  (q_as h4_ a5_ 9 x2 (1000000 : Int32)).bind fun h6_ =>
  (q_gr h6_ x0 1 5).bind fun a7_ =>
  (q_as h6_ a7_ 9 x2 (-1000000 : Int32)).bind fun h8_ =>
  (q_gr h8_ x0 1 6).bind fun a9_ =>
  (q_as h8_ a9_ 9 x2 (1000000 : Int32)).bind fun h10_ =>
  l_X1_arePlacesLeft_52 f k7 f x0 x1 x2 (0 : Int32) h10_)
def l_X1_arePlacesLeft_7 (f : Nat)  : Nat → Nat → Int32 → Int32 → Hp → Option (Int32 × Hp)
  | 0, _, _, _, _ => none
  | n + 1, x0, x1, x2, h => b_X1_arePlacesLeft_7 f  (l_X1_arePlacesLeft_7 f  n) x0 x1 x2 h
def f_X1_arePlacesLeft (f : Nat)  (x0 : Nat) (x1 : Int32) (h : Hp) : Option (Int32 × Hp) :=
  (q_pi h x0 1 13 (0 : Int32)).bind fun h1_ =>
  l_X1_arePlacesLeft_7 f f x0 x1 (0 : Int32) h1_
set_option maxRecDepth 20000 in
theorem t_X1_arePlacesLeft_121 {X : Cx} (o : Ok X RX1 cX1_arePlacesLeft 4 2 39 0 0 (some .boolean)) (f : Nat)   (h : Hp) : Sim X (z_Zi X 0 0) 0 0 121 [] [] h (b_X1_arePlacesLeft_121 f h) := by
  unfold b_X1_arePlacesLeft_121
  refine s_iconst o dX1_arePlacesLeft_121 (v := (0 : Int32)) (by decide) (q := 122) rfl ?_
  exact s_zret o dX1_arePlacesLeft_122
set_option maxRecDepth 20000 in
theorem t_X1_arePlacesLeft_85 {X : Cx} (o : Ok X RX1 cX1_arePlacesLeft 4 2 39 0 0 (some .boolean)) (f : Nat) {k7 : Nat → Int32 → Int32 → Hp → Option (Int32 × Hp)} (hk7 : ∀ (x0 : Nat) (x1 : Int32) (x2 : Int32) (h : Hp), Sim X (z_Zi X 0 0) 0 0 7 [(0, rf (xG X) x0), (1, .int x1), (2, .int x2)] [] h (k7 x0 x1 x2 h)) {k52 : Nat → Int32 → Int32 → Int32 → Hp → Option (Int32 × Hp)} (hk52 : ∀ (x0 : Nat) (x1 : Int32) (x2 : Int32) (x3 : Int32) (h : Hp), Sim X (z_Zi X 0 0) 0 0 52 [(0, rf (xG X) x0), (1, .int x1), (2, .int x2), (3, .int x3)] [] h (k52 x0 x1 x2 x3 h)) (x0 : Nat) (x1 : Int32) (x2 : Int32) (x3 : Int32) (h : Hp) : Sim X (z_Zi X 0 0) 0 0 85 [(0, rf (xG X) x0), (1, .int x1), (2, .int x2), (3, .int x3)] [] h (b_X1_arePlacesLeft_85 f k7 k52 x0 x1 x2 x3 h) := by
  unfold b_X1_arePlacesLeft_85
  refine s_iinc o 3 rfl (v := (1 : Int32)) (by decide) [1, 2, 3, 0] (lv' := fun v1_ => [(0, rf (xG X) x0), (1, .int x1), (2, .int x2), (3, .int v1_)]) (fun _ => rfl) dX1_arePlacesLeft_85 (by decide) (q := 88) rfl (fun v1_ => ?_)
  refine s_goto o (tgt := 52) dX1_arePlacesLeft_88 (by decide) ?_
  exact s_sub [0, 1, 2, 3] rfl (hk52 x0 x1 x2 v1_ h)
set_option maxRecDepth 20000 in
theorem t_X1_arePlacesLeft_52 {X : Cx} (o : Ok X RX1 cX1_arePlacesLeft 4 2 39 0 0 (some .boolean)) (f : Nat) {k7 : Nat → Int32 → Int32 → Hp → Option (Int32 × Hp)} (hk7 : ∀ (x0 : Nat) (x1 : Int32) (x2 : Int32) (h : Hp), Sim X (z_Zi X 0 0) 0 0 7 [(0, rf (xG X) x0), (1, .int x1), (2, .int x2)] [] h (k7 x0 x1 x2 h)) {k52 : Nat → Int32 → Int32 → Int32 → Hp → Option (Int32 × Hp)} (hk52 : ∀ (x0 : Nat) (x1 : Int32) (x2 : Int32) (x3 : Int32) (h : Hp), Sim X (z_Zi X 0 0) 0 0 52 [(0, rf (xG X) x0), (1, .int x1), (2, .int x2), (3, .int x3)] [] h (k52 x0 x1 x2 x3 h)) (x0 : Nat) (x1 : Int32) (x2 : Int32) (x3 : Int32) (h : Hp) : Sim X (z_Zi X 0 0) 0 0 52 [(0, rf (xG X) x0), (1, .int x1), (2, .int x2), (3, .int x3)] [] h (b_X1_arePlacesLeft_52 f k7 k52 x0 x1 x2 x3 h) := by
  unfold b_X1_arePlacesLeft_52
  refine s_iload_n o 3 rfl dX1_arePlacesLeft_52 (q := 53) rfl ?_
  refine s_bipush o dX1_arePlacesLeft_53 (v := (6 : Int32)) (by decide) (q := 55) rfl ?_
  refine s_ic_ge o (tgt := 91) dX1_arePlacesLeft_55 (by decide) (q := 58) rfl ?_ ?_
  · refine s_aload_n o 0 rfl dX1_arePlacesLeft_91 (q := 92) rfl ?_
    refine s_gr o kf_X1_21 dX1_arePlacesLeft_92 (q := 95) rfl (fun a1_ => ?_)
    refine s_iload_n o 2 rfl dX1_arePlacesLeft_95 (q := 96) rfl ?_
    refine s_iald o dX1_arePlacesLeft_96 (q := 97) rfl (fun v2_ => ?_)
    refine s_aload_n o 0 rfl dX1_arePlacesLeft_97 (q := 98) rfl ?_
    refine s_gr o kf_X1_24 dX1_arePlacesLeft_98 (q := 101) rfl (fun a3_ => ?_)
    refine s_iload_n o 2 rfl dX1_arePlacesLeft_101 (q := 102) rfl ?_
    refine s_iald o dX1_arePlacesLeft_102 (q := 103) rfl (fun v4_ => ?_)
    refine s_ic_gt o (tgt := 121) dX1_arePlacesLeft_103 (by decide) (q := 106) rfl ?_ ?_
    · exact s_sub [] rfl (t_X1_arePlacesLeft_121 o f h)
    · refine s_aload_n o 0 rfl dX1_arePlacesLeft_106 (q := 107) rfl ?_
      refine s_gr o kf_X1_27 dX1_arePlacesLeft_107 (q := 110) rfl (fun a5_ => ?_)
      refine s_iload_n o 2 rfl dX1_arePlacesLeft_110 (q := 111) rfl ?_
      refine s_iald o dX1_arePlacesLeft_111 (q := 112) rfl (fun v6_ => ?_)
      refine s_aload_n o 0 rfl dX1_arePlacesLeft_112 (q := 113) rfl ?_
      refine s_gr o kf_X1_30 dX1_arePlacesLeft_113 (q := 116) rfl (fun a7_ => ?_)
      refine s_iload_n o 2 rfl dX1_arePlacesLeft_116 (q := 117) rfl ?_
      refine s_iald o dX1_arePlacesLeft_117 (q := 118) rfl (fun v8_ => ?_)
      refine s_ic_le o (tgt := 123) dX1_arePlacesLeft_118 (by decide) (q := 121) rfl ?_ ?_
      · refine s_iinc o 2 rfl (v := (1 : Int32)) (by decide) [1, 2, 0, 3] (lv' := fun v9_ => [(0, rf (xG X) x0), (1, .int x1), (2, .int v9_), (3, .int x3)]) (fun _ => rfl) dX1_arePlacesLeft_123 (by decide) (q := 126) rfl (fun v9_ => ?_)
        refine s_goto o (tgt := 7) dX1_arePlacesLeft_126 (by decide) ?_
        exact s_sub [0, 1, 2] rfl (hk7 x0 x1 v9_ h)
      · exact s_sub [] rfl (t_X1_arePlacesLeft_121 o f h)
  · refine s_iload_n o 1 rfl dX1_arePlacesLeft_58 (q := 59) rfl ?_
    refine s_iload_n o 3 rfl dX1_arePlacesLeft_59 (q := 60) rfl ?_
    refine s_bi (fun r0 hr0 => runN o cn_X1_105 (c_X5_isIn (xG X) f x1 x3 h (xl X) r0 hr0) ⟨Nat.le_of_ble_eq_true rfl, Nat.le_of_ble_eq_true rfl⟩ rfl rfl (Nat.le_of_ble_eq_true rfl) dX1_arePlacesLeft_60 ⟨Nat.le_of_ble_eq_true rfl, Nat.le_of_ble_eq_true rfl⟩) (q := 63) rfl (cs' := 0) rfl (sl' := 0) rfl (fun v11_ h10_ => ?_)
    refine s_if_ne o (tgt := 85) dX1_arePlacesLeft_63 (by decide) (q := 66) rfl ?_ ?_
    · exact s_sub [0, 1, 2, 3] rfl (t_X1_arePlacesLeft_85 o f hk7 hk52 x0 x1 x2 x3 h10_)
    · refine s_aload_n o 0 rfl dX1_arePlacesLeft_66 (q := 67) rfl ?_
      refine s_gr o kf_X1_9 dX1_arePlacesLeft_67 (q := 70) rfl (fun a12_ => ?_)
      refine s_iload_n o 3 rfl dX1_arePlacesLeft_70 (q := 71) rfl ?_
      refine s_iald o dX1_arePlacesLeft_71 (q := 72) rfl (fun v13_ => ?_)
      refine s_iload_n o 2 rfl dX1_arePlacesLeft_72 (q := 73) rfl ?_
      refine s_bi (fun r0 hr0 => runN o cn_X1_105 (c_X5_isIn (xG X) f v13_ x2 h10_ (xl X) r0 hr0) ⟨Nat.le_of_ble_eq_true rfl, Nat.le_of_ble_eq_true rfl⟩ rfl rfl (Nat.le_of_ble_eq_true rfl) dX1_arePlacesLeft_73 ⟨Nat.le_of_ble_eq_true rfl, Nat.le_of_ble_eq_true rfl⟩) (q := 76) rfl (cs' := 0) rfl (sl' := 0) rfl (fun v15_ h14_ => ?_)
      refine s_if_eq o (tgt := 85) dX1_arePlacesLeft_76 (by decide) (q := 79) rfl ?_ ?_
      · exact s_sub [0, 1, 2, 3] rfl (t_X1_arePlacesLeft_85 o f hk7 hk52 x0 x1 x2 x3 h14_)
      · refine s_aload_n o 0 rfl dX1_arePlacesLeft_79 (q := 80) rfl ?_
        refine s_iload_n o 3 rfl dX1_arePlacesLeft_80 (q := 81) rfl ?_
        refine s_iload_n o 2 rfl dX1_arePlacesLeft_81 (q := 82) rfl ?_
        refine s_on (fun hk16_ => ?_)
        refine s_callv (fun r0 hr0 => runV o hk16_ cv_X1_154 (c_X1_narrow (xG X) f x0 x3 x2 h14_ (xl X) r0 hr0) ⟨Nat.le_of_ble_eq_true rfl, Nat.le_of_ble_eq_true rfl⟩ rfl rfl (Nat.le_of_ble_eq_true rfl) dX1_arePlacesLeft_82 ⟨Nat.le_of_ble_eq_true rfl, Nat.le_of_ble_eq_true rfl⟩) (q := 85) rfl (cs' := 0) rfl (sl' := 0) rfl (fun h17_ => ?_)
        exact s_sub [0, 1, 2, 3] rfl (t_X1_arePlacesLeft_85 o f hk7 hk52 x0 x1 x2 x3 h17_)
theorem tl_X1_arePlacesLeft_52 {X : Cx} (o : Ok X RX1 cX1_arePlacesLeft 4 2 39 0 0 (some .boolean)) (f : Nat) {k7 : Nat → Int32 → Int32 → Hp → Option (Int32 × Hp)} (hk7 : ∀ (x0 : Nat) (x1 : Int32) (x2 : Int32) (h : Hp), Sim X (z_Zi X 0 0) 0 0 7 [(0, rf (xG X) x0), (1, .int x1), (2, .int x2)] [] h (k7 x0 x1 x2 h)) : ∀ (n : Nat) (x0 : Nat) (x1 : Int32) (x2 : Int32) (x3 : Int32) (h : Hp), Sim X (z_Zi X 0 0) 0 0 52 [(0, rf (xG X) x0), (1, .int x1), (2, .int x2), (3, .int x3)] [] h (l_X1_arePlacesLeft_52 f k7 n x0 x1 x2 x3 h) := by
  intro n
  induction n with
  | zero => intro x0 x1 x2 x3 h; exact s_none
  | succ n ih => intro x0 x1 x2 x3 h; exact t_X1_arePlacesLeft_52 o f hk7 ih x0 x1 x2 x3 h
set_option maxRecDepth 20000 in
theorem t_X1_arePlacesLeft_7 {X : Cx} (o : Ok X RX1 cX1_arePlacesLeft 4 2 39 0 0 (some .boolean)) (f : Nat) {k7 : Nat → Int32 → Int32 → Hp → Option (Int32 × Hp)} (hk7 : ∀ (x0 : Nat) (x1 : Int32) (x2 : Int32) (h : Hp), Sim X (z_Zi X 0 0) 0 0 7 [(0, rf (xG X) x0), (1, .int x1), (2, .int x2)] [] h (k7 x0 x1 x2 h)) (x0 : Nat) (x1 : Int32) (x2 : Int32) (h : Hp) : Sim X (z_Zi X 0 0) 0 0 7 [(0, rf (xG X) x0), (1, .int x1), (2, .int x2)] [] h (b_X1_arePlacesLeft_7 f k7 x0 x1 x2 h) := by
  unfold b_X1_arePlacesLeft_7
  refine s_iload_n o 2 rfl dX1_arePlacesLeft_7 (q := 8) rfl ?_
  refine s_aload_n o 0 rfl dX1_arePlacesLeft_8 (q := 9) rfl ?_
  refine s_gr o kf_X1_42 dX1_arePlacesLeft_9 (q := 12) rfl (fun a1_ => ?_)
  refine s_gi o kf_X1_92 dX1_arePlacesLeft_12 (q := 15) rfl (fun v2_ => ?_)
  refine s_ic_ge o (tgt := 129) dX1_arePlacesLeft_15 (by decide) (q := 18) rfl ?_ ?_
  · refine s_iconst o dX1_arePlacesLeft_129 (v := (1 : Int32)) (by decide) (q := 130) rfl ?_
    exact s_zret o dX1_arePlacesLeft_130
  · refine s_aload_n o 0 rfl dX1_arePlacesLeft_18 (q := 19) rfl ?_
    refine s_gr o kf_X1_21 dX1_arePlacesLeft_19 (q := 22) rfl (fun a3_ => ?_)
    refine s_iload_n o 2 rfl dX1_arePlacesLeft_22 (q := 23) rfl ?_
    refine s_ldc o kc_X1_152 dX1_arePlacesLeft_23 (q := 25) rfl ?_
    refine s_iast o dX1_arePlacesLeft_25 (q := 26) rfl (fun h4_ => ?_)
    refine s_aload_n o 0 rfl dX1_arePlacesLeft_26 (q := 27) rfl ?_
    refine s_gr o kf_X1_24 dX1_arePlacesLeft_27 (q := 30) rfl (fun a5_ => ?_)
    refine s_iload_n o 2 rfl dX1_arePlacesLeft_30 (q := 31) rfl ?_
    refine s_ldc o kc_X1_153 dX1_arePlacesLeft_31 (q := 33) rfl ?_
    refine s_iast o dX1_arePlacesLeft_33 (q := 34) rfl (fun h6_ => ?_)
    refine s_aload_n o 0 rfl dX1_arePlacesLeft_34 (q := 35) rfl ?_
    refine s_gr o kf_X1_27 dX1_arePlacesLeft_35 (q := 38) rfl (fun a7_ => ?_)
    refine s_iload_n o 2 rfl dX1_arePlacesLeft_38 (q := 39) rfl ?_
    refine s_ldc o kc_X1_152 dX1_arePlacesLeft_39 (q := 41) rfl ?_
    refine s_iast o dX1_arePlacesLeft_41 (q := 42) rfl (fun h8_ => ?_)
    refine s_aload_n o 0 rfl dX1_arePlacesLeft_42 (q := 43) rfl ?_
    refine s_gr o kf_X1_30 dX1_arePlacesLeft_43 (q := 46) rfl (fun a9_ => ?_)
    refine s_iload_n o 2 rfl dX1_arePlacesLeft_46 (q := 47) rfl ?_
    refine s_ldc o kc_X1_153 dX1_arePlacesLeft_47 (q := 49) rfl ?_
    refine s_iast o dX1_arePlacesLeft_49 (q := 50) rfl (fun h10_ => ?_)
    refine s_iconst o dX1_arePlacesLeft_50 (v := (0 : Int32)) (by decide) (q := 51) rfl ?_
    refine s_istore_n o [1, 2, 3, 0] (lv' := [(0, rf (xG X) x0), (1, .int x1), (2, .int x2), (3, .int (0 : Int32))]) rfl dX1_arePlacesLeft_51 (by decide) (q := 52) rfl ?_
    exact s_sub [0, 1, 2, 3] rfl (tl_X1_arePlacesLeft_52 o f hk7 f x0 x1 x2 (0 : Int32) h10_)
theorem tl_X1_arePlacesLeft_7 {X : Cx} (o : Ok X RX1 cX1_arePlacesLeft 4 2 39 0 0 (some .boolean)) (f : Nat)  : ∀ (n : Nat) (x0 : Nat) (x1 : Int32) (x2 : Int32) (h : Hp), Sim X (z_Zi X 0 0) 0 0 7 [(0, rf (xG X) x0), (1, .int x1), (2, .int x2)] [] h (l_X1_arePlacesLeft_7 f n x0 x1 x2 h) := by
  intro n
  induction n with
  | zero => intro x0 x1 x2 h; exact s_none
  | succ n ih => intro x0 x1 x2 h; exact t_X1_arePlacesLeft_7 o f  ih x0 x1 x2 h
set_option maxRecDepth 20000 in
theorem t_X1_arePlacesLeft_0 {X : Cx} (o : Ok X RX1 cX1_arePlacesLeft 4 2 39 0 0 (some .boolean)) (f : Nat)  (x0 : Nat) (x1 : Int32) (h : Hp) : Sim X (z_Zi X 0 0) 0 0 0 [(0, rf (xG X) x0), (1, .int x1)] [] h (f_X1_arePlacesLeft f x0 x1 h) := by
  unfold f_X1_arePlacesLeft
  refine s_aload_n o 0 rfl dX1_arePlacesLeft_0 (q := 1) rfl ?_
  refine s_iconst o dX1_arePlacesLeft_1 (v := (0 : Int32)) (by decide) (q := 2) rfl ?_
  refine s_pi o kf_X1_60 dX1_arePlacesLeft_2 (q := 5) rfl (fun h1_ => ?_)
  refine s_iconst o dX1_arePlacesLeft_5 (v := (0 : Int32)) (by decide) (q := 6) rfl ?_
  refine s_istore_n o [1, 2, 0] (lv' := [(0, rf (xG X) x0), (1, .int x1), (2, .int (0 : Int32))]) rfl dX1_arePlacesLeft_6 (by decide) (q := 7) rfl ?_
  exact s_sub [0, 1, 2] rfl (tl_X1_arePlacesLeft_7 o f f x0 x1 (0 : Int32) h1_)
theorem c_X1_arePlacesLeft (G : Gx) (f : Nat) (x0 : Nat) (x1 : Int32) (h : Hp) : z_M z_qi G yX1_arePlacesLeft cX1_arePlacesLeft 4 (some .boolean) 2 39 0 0 [rf G x0, .int x1] h (f_X1_arePlacesLeft f x0 x1 h) :=
  z_met (by decide +kernel) (Nat.le_of_ble_eq_true rfl) (fun X hG hn o hnm => by
    subst hG
    show Sim X (z_Zi X 0 0) 0 0 0 [(0, rf (xG X) x0), (1, .int x1)] [] h _
    exact s_sub [0, 1] rfl (t_X1_arePlacesLeft_0 o f x0 x1 h))
/-! SixMaps$Judge.isPlace(I)Z -/
def b_X1_isPlace_49 (f : Nat)  (y0 : Int32) (h : Hp) : Option (Int32 × Hp) :=
  q_bo y0 (some (y0, h))
def b_X1_isPlace_48 (f : Nat)   (h : Hp) : Option (Int32 × Hp) :=
  b_X1_isPlace_49 f (0 : Int32) h
def f_X1_isPlace (f : Nat)  (x0 : Nat) (x1 : Int32) (h : Hp) : Option (Int32 × Hp) :=
  (q_gr h x0 1 8).bind fun a1_ =>
  (q_ai h a1_ 9 (x1 * (4 : Int32))).bind fun v2_ =>
  (q_gr h x0 1 8).bind fun a3_ =>
  (q_ai h a3_ 9 ((x1 * (4 : Int32)) + (1 : Int32))).bind fun v4_ =>
  if ¬ v2_ = v4_ then
  (b_X1_isPlace_48 f h)
  else
  ((q_gr h x0 1 8).bind fun a5_ =>
  (q_ai h a5_ 9 ((x1 * (4 : Int32)) + (2 : Int32))).bind fun v6_ =>
  (q_gr h x0 1 8).bind fun a7_ =>
  (q_ai h a7_ 9 ((x1 * (4 : Int32)) + (3 : Int32))).bind fun v8_ =>
  if ¬ v6_ = v8_ then
  (b_X1_isPlace_48 f h)
  else
  (b_X1_isPlace_49 f (1 : Int32) h))
set_option maxRecDepth 20000 in
theorem t_X1_isPlace_49 {X : Cx} (o : Ok X RX1 cX1_isPlace 2 0 0 0 0 (some .boolean)) (f : Nat)  (y0 : Int32) (h : Hp) : Sim X (z_Zi X 0 0) 0 0 49 [] [.int y0] h (b_X1_isPlace_49 f y0 h) := by
  unfold b_X1_isPlace_49
  exact s_zret o dX1_isPlace_49
set_option maxRecDepth 20000 in
theorem t_X1_isPlace_48 {X : Cx} (o : Ok X RX1 cX1_isPlace 2 0 0 0 0 (some .boolean)) (f : Nat)   (h : Hp) : Sim X (z_Zi X 0 0) 0 0 48 [] [] h (b_X1_isPlace_48 f h) := by
  unfold b_X1_isPlace_48
  refine s_iconst o dX1_isPlace_48 (v := (0 : Int32)) (by decide) (q := 49) rfl ?_
  exact s_sub [] rfl (t_X1_isPlace_49 o f (0 : Int32) h)
set_option maxRecDepth 20000 in
theorem t_X1_isPlace_0 {X : Cx} (o : Ok X RX1 cX1_isPlace 2 0 0 0 0 (some .boolean)) (f : Nat)  (x0 : Nat) (x1 : Int32) (h : Hp) : Sim X (z_Zi X 0 0) 0 0 0 [(0, rf (xG X) x0), (1, .int x1)] [] h (f_X1_isPlace f x0 x1 h) := by
  unfold f_X1_isPlace
  refine s_aload_n o 0 rfl dX1_isPlace_0 (q := 1) rfl ?_
  refine s_gr o kf_X1_36 dX1_isPlace_1 (q := 4) rfl (fun a1_ => ?_)
  refine s_iload_n o 1 rfl dX1_isPlace_4 (q := 5) rfl ?_
  refine s_iconst o dX1_isPlace_5 (v := (4 : Int32)) (by decide) (q := 6) rfl ?_
  refine s_imul o dX1_isPlace_6 (q := 7) rfl ?_
  refine s_iald o dX1_isPlace_7 (q := 8) rfl (fun v2_ => ?_)
  refine s_aload_n o 0 rfl dX1_isPlace_8 (q := 9) rfl ?_
  refine s_gr o kf_X1_36 dX1_isPlace_9 (q := 12) rfl (fun a3_ => ?_)
  refine s_iload_n o 1 rfl dX1_isPlace_12 (q := 13) rfl ?_
  refine s_iconst o dX1_isPlace_13 (v := (4 : Int32)) (by decide) (q := 14) rfl ?_
  refine s_imul o dX1_isPlace_14 (q := 15) rfl ?_
  refine s_iconst o dX1_isPlace_15 (v := (1 : Int32)) (by decide) (q := 16) rfl ?_
  refine s_iadd o dX1_isPlace_16 (q := 17) rfl ?_
  refine s_iald o dX1_isPlace_17 (q := 18) rfl (fun v4_ => ?_)
  refine s_ic_ne o (tgt := 48) dX1_isPlace_18 (by decide) (q := 21) rfl ?_ ?_
  · exact s_sub [] rfl (t_X1_isPlace_48 o f h)
  · refine s_aload_n o 0 rfl dX1_isPlace_21 (q := 22) rfl ?_
    refine s_gr o kf_X1_36 dX1_isPlace_22 (q := 25) rfl (fun a5_ => ?_)
    refine s_iload_n o 1 rfl dX1_isPlace_25 (q := 26) rfl ?_
    refine s_iconst o dX1_isPlace_26 (v := (4 : Int32)) (by decide) (q := 27) rfl ?_
    refine s_imul o dX1_isPlace_27 (q := 28) rfl ?_
    refine s_iconst o dX1_isPlace_28 (v := (2 : Int32)) (by decide) (q := 29) rfl ?_
    refine s_iadd o dX1_isPlace_29 (q := 30) rfl ?_
    refine s_iald o dX1_isPlace_30 (q := 31) rfl (fun v6_ => ?_)
    refine s_aload_n o 0 rfl dX1_isPlace_31 (q := 32) rfl ?_
    refine s_gr o kf_X1_36 dX1_isPlace_32 (q := 35) rfl (fun a7_ => ?_)
    refine s_iload_n o 1 rfl dX1_isPlace_35 (q := 36) rfl ?_
    refine s_iconst o dX1_isPlace_36 (v := (4 : Int32)) (by decide) (q := 37) rfl ?_
    refine s_imul o dX1_isPlace_37 (q := 38) rfl ?_
    refine s_iconst o dX1_isPlace_38 (v := (3 : Int32)) (by decide) (q := 39) rfl ?_
    refine s_iadd o dX1_isPlace_39 (q := 40) rfl ?_
    refine s_iald o dX1_isPlace_40 (q := 41) rfl (fun v8_ => ?_)
    refine s_ic_ne o (tgt := 48) dX1_isPlace_41 (by decide) (q := 44) rfl ?_ ?_
    · exact s_sub [] rfl (t_X1_isPlace_48 o f h)
    · refine s_iconst o dX1_isPlace_44 (v := (1 : Int32)) (by decide) (q := 45) rfl ?_
      refine s_goto o (tgt := 49) dX1_isPlace_45 (by decide) ?_
      exact s_sub [] rfl (t_X1_isPlace_49 o f (1 : Int32) h)
theorem c_X1_isPlace (G : Gx) (f : Nat) (x0 : Nat) (x1 : Int32) (h : Hp) : z_M z_qi G yX1_isPlace cX1_isPlace 2 (some .boolean) 0 0 0 0 [rf G x0, .int x1] h (f_X1_isPlace f x0 x1 h) :=
  z_met (by decide +kernel) (Nat.le_of_ble_eq_true rfl) (fun X hG hn o hnm => by
    subst hG
    show Sim X (z_Zi X 0 0) 0 0 0 [(0, rf (xG X) x0), (1, .int x1)] [] h _
    exact s_sub [0, 1] rfl (t_X1_isPlace_0 o f x0 x1 h))
