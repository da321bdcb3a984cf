/-! SixMaps$Sayings.bandOfMostUntrue(I)I -/
def b_X3_bandOfMostUntrue_35 (f : Nat) (k7 : Nat → Int32 → Int32 → Int32 → Int32 → Hp → Option (Int32 × Hp)) (x0 : Nat) (x1 : Int32) (x2 : Int32) (x3 : Int32) (x4 : Int32) (h : Hp) : Option (Int32 × Hp) :=
  lt (x4 + (1 : Int32)) fun v1_ =>
  k7 x0 x1 x2 x3 v1_ h
def b_X3_bandOfMostUntrue_7 (f : Nat) (k7 : Nat → Int32 → Int32 → Int32 → Int32 → Hp → Option (Int32 × Hp)) (x0 : Nat) (x1 : Int32) (x2 : Int32) (x3 : Int32) (x4 : Int32) (h : Hp) : Option (Int32 × Hp) :=
  if (6 : Int32) ≤ x4 then
  (some (x2, h))
  else
  (q_on h x0 3 (
  bi (f_X3_untrueOf f x0 x4 x1 h) fun v3_ h2_ =>
  if v3_ ≤ x3 then
  (b_X3_bandOfMostUntrue_35 f k7 x0 x1 x2 x3 x4 h2_)
  else
  (b_X3_bandOfMostUntrue_35 f k7 x0 x1 x4 v3_ x4 h2_)))
def l_X3_bandOfMostUntrue_7 (f : Nat)  : Nat → Nat → Int32 → Int32 → Int32 → Int32 → Hp → Option (Int32 × Hp)
  | 0, _, _, _, _, _, _ => none
  | n + 1, x0, x1, x2, x3, x4, h => b_X3_bandOfMostUntrue_7 f  (l_X3_bandOfMostUntrue_7 f  n) x0 x1 x2 x3 x4 h
def f_X3_bandOfMostUntrue (f : Nat)  (x0 : Nat) (x1 : Int32) (h : Hp) : Option (Int32 × Hp) :=
  l_X3_bandOfMostUntrue_7 f f x0 x1 (-1 : Int32) (0 : Int32) (0 : Int32) h
set_option maxRecDepth 20000 in
theorem t_X3_bandOfMostUntrue_35 {X : Cx} (o : Ok X RX3 cX3_bandOfMostUntrue 6 3 67 0 0 (some .int)) (f : Nat) {k7 : Nat → Int32 → Int32 → Int32 → Int32 → Hp → Option (Int32 × Hp)} (hk7 : ∀ (x0 : Nat) (x1 : Int32) (x2 : Int32) (x3 : Int32) (x4 : Int32) (h : Hp), Sim X (z_Zi X 0 0) 0 0 7 [(0, rf (xG X) x0), (1, .int x1), (2, .int x2), (3, .int x3), (4, .int x4)] [] h (k7 x0 x1 x2 x3 x4 h)) (x0 : Nat) (x1 : Int32) (x2 : Int32) (x3 : Int32) (x4 : Int32) (h : Hp) : Sim X (z_Zi X 0 0) 0 0 35 [(0, rf (xG X) x0), (1, .int x1), (2, .int x2), (3, .int x3), (4, .int x4)] [] h (b_X3_bandOfMostUntrue_35 f k7 x0 x1 x2 x3 x4 h) := by
  unfold b_X3_bandOfMostUntrue_35
  refine s_iinc o 4 rfl (v := (1 : Int32)) (by decide) [1, 2, 3, 4, 0] (lv' := fun v1_ => [(0, rf (xG X) x0), (1, .int x1), (2, .int x2), (3, .int x3), (4, .int v1_)]) (fun _ => rfl) dX3_bandOfMostUntrue_35 (by decide) (q := 38) rfl (fun v1_ => ?_)
  refine s_goto o (tgt := 7) dX3_bandOfMostUntrue_38 (by decide) ?_
  exact s_sub [0, 1, 2, 3, 4] rfl (hk7 x0 x1 x2 x3 v1_ h)
set_option maxRecDepth 20000 in
theorem t_X3_bandOfMostUntrue_7 {X : Cx} (o : Ok X RX3 cX3_bandOfMostUntrue 6 3 67 0 0 (some .int)) (f : Nat) {k7 : Nat → Int32 → Int32 → Int32 → Int32 → Hp → Option (Int32 × Hp)} (hk7 : ∀ (x0 : Nat) (x1 : Int32) (x2 : Int32) (x3 : Int32) (x4 : Int32) (h : Hp), Sim X (z_Zi X 0 0) 0 0 7 [(0, rf (xG X) x0), (1, .int x1), (2, .int x2), (3, .int x3), (4, .int x4)] [] h (k7 x0 x1 x2 x3 x4 h)) (x0 : Nat) (x1 : Int32) (x2 : Int32) (x3 : Int32) (x4 : Int32) (h : Hp) : Sim X (z_Zi X 0 0) 0 0 7 [(0, rf (xG X) x0), (1, .int x1), (2, .int x2), (3, .int x3), (4, .int x4)] [] h (b_X3_bandOfMostUntrue_7 f k7 x0 x1 x2 x3 x4 h) := by
  unfold b_X3_bandOfMostUntrue_7
  refine s_iload o 4 rfl dX3_bandOfMostUntrue_7 (q := 9) rfl ?_
  refine s_bipush o dX3_bandOfMostUntrue_9 (v := (6 : Int32)) (by decide) (q := 11) rfl ?_
  refine s_ic_ge o (tgt := 41) dX3_bandOfMostUntrue_11 (by decide) (q := 14) rfl ?_ ?_
  · refine s_iload_n o 2 rfl dX3_bandOfMostUntrue_41 (q := 42) rfl ?_
    exact s_iret o dX3_bandOfMostUntrue_42
  · refine s_aload_n o 0 rfl dX3_bandOfMostUntrue_14 (q := 15) rfl ?_
    refine s_iload o 4 rfl dX3_bandOfMostUntrue_15 (q := 17) rfl ?_
    refine s_iload_n o 1 rfl dX3_bandOfMostUntrue_17 (q := 18) rfl ?_
    refine s_on (fun hk1_ => ?_)
    refine s_bi (fun r0 hr0 => runV o hk1_ cv_X3_33 (c_X3_untrueOf (xG X) f x0 x4 x1 h (xl X) r0 hr0) ⟨Nat.le_of_ble_eq_true rfl, Nat.le_of_ble_eq_true rfl⟩ rfl rfl (Nat.le_of_ble_eq_true rfl) dX3_bandOfMostUntrue_18 ⟨Nat.le_of_ble_eq_true rfl, Nat.le_of_ble_eq_true rfl⟩) (q := 21) rfl (cs' := 0) rfl (sl' := 0) rfl (fun v3_ h2_ => ?_)
    refine s_istore o [1, 2, 3, 4, 5, 0] (lv' := [(0, rf (xG X) x0), (1, .int x1), (2, .int x2), (3, .int x3), (4, .int x4), (5, .int v3_)]) rfl dX3_bandOfMostUntrue_21 (by decide) (q := 23) rfl ?_
    refine s_iload o 5 rfl dX3_bandOfMostUntrue_23 (q := 25) rfl ?_
    refine s_iload_n o 3 rfl dX3_bandOfMostUntrue_25 (q := 26) rfl ?_
    refine s_ic_le o (tgt := 35) dX3_bandOfMostUntrue_26 (by decide) (q := 29) rfl ?_ ?_
    · exact s_sub [0, 1, 2, 3, 4] rfl (t_X3_bandOfMostUntrue_35 o f hk7 x0 x1 x2 x3 x4 h2_)
    · refine s_iload o 5 rfl dX3_bandOfMostUntrue_29 (q := 31) rfl ?_
      refine s_istore_n o [1, 2, 3, 0, 4, 5] (lv' := [(0, rf (xG X) x0), (1, .int x1), (2, .int x2), (3, .int v3_), (4, .int x4), (5, .int v3_)]) rfl dX3_bandOfMostUntrue_31 (by decide) (q := 32) rfl ?_
      refine s_iload o 4 rfl dX3_bandOfMostUntrue_32 (q := 34) rfl ?_
      refine s_istore_n o [1, 2, 0, 3, 4, 5] (lv' := [(0, rf (xG X) x0), (1, .int x1), (2, .int x4), (3, .int v3_), (4, .int x4), (5, .int v3_)]) rfl dX3_bandOfMostUntrue_34 (by decide) (q := 35) rfl ?_
      exact s_sub [0, 1, 2, 3, 4] rfl (t_X3_bandOfMostUntrue_35 o f hk7 x0 x1 x4 v3_ x4 h2_)
theorem tl_X3_bandOfMostUntrue_7 {X : Cx} (o : Ok X RX3 cX3_bandOfMostUntrue 6 3 67 0 0 (some .int)) (f : Nat)  : ∀ (n : Nat) (x0 : Nat) (x1 : Int32) (x2 : Int32) (x3 : Int32) (x4 : Int32) (h : Hp), Sim X (z_Zi X 0 0) 0 0 7 [(0, rf (xG X) x0), (1, .int x1), (2, .int x2), (3, .int x3), (4, .int x4)] [] h (l_X3_bandOfMostUntrue_7 f n x0 x1 x2 x3 x4 h) := by
  intro n
  induction n with
  | zero => intro x0 x1 x2 x3 x4 h; exact s_none
  | succ n ih => intro x0 x1 x2 x3 x4 h; exact t_X3_bandOfMostUntrue_7 o f  ih x0 x1 x2 x3 x4 h
set_option maxRecDepth 20000 in
theorem t_X3_bandOfMostUntrue_0 {X : Cx} (o : Ok X RX3 cX3_bandOfMostUntrue 6 3 67 0 0 (some .int)) (f : Nat)  (x0 : Nat) (x1 : Int32) (h : Hp) : Sim X (z_Zi X 0 0) 0 0 0 [(0, rf (xG X) x0), (1, .int x1)] [] h (f_X3_bandOfMostUntrue f x0 x1 h) := by
  unfold f_X3_bandOfMostUntrue
  refine s_iconst o dX3_bandOfMostUntrue_0 (v := (-1 : Int32)) (by decide) (q := 1) rfl ?_
  refine s_istore_n o [1, 2, 0] (lv' := [(0, rf (xG X) x0), (1, .int x1), (2, .int (-1 : Int32))]) rfl dX3_bandOfMostUntrue_1 (by decide) (q := 2) rfl ?_
  refine s_iconst o dX3_bandOfMostUntrue_2 (v := (0 : Int32)) (by decide) (q := 3) rfl ?_
  refine s_istore_n o [1, 2, 3, 0] (lv' := [(0, rf (xG X) x0), (1, .int x1), (2, .int (-1 : Int32)), (3, .int (0 : Int32))]) rfl dX3_bandOfMostUntrue_3 (by decide) (q := 4) rfl ?_
  refine s_iconst o dX3_bandOfMostUntrue_4 (v := (0 : Int32)) (by decide) (q := 5) rfl ?_
  refine s_istore o [1, 2, 3, 4, 0] (lv' := [(0, rf (xG X) x0), (1, .int x1), (2, .int (-1 : Int32)), (3, .int (0 : Int32)), (4, .int (0 : Int32))]) rfl dX3_bandOfMostUntrue_5 (by decide) (q := 7) rfl ?_
  exact s_sub [0, 1, 2, 3, 4] rfl (tl_X3_bandOfMostUntrue_7 o f f x0 x1 (-1 : Int32) (0 : Int32) (0 : Int32) h)
theorem c_X3_bandOfMostUntrue (G : Gx) (f : Nat) (x0 : Nat) (x1 : Int32) (h : Hp) : z_M z_qi G yX3_bandOfMostUntrue cX3_bandOfMostUntrue 6 (some .int) 3 67 0 0 [rf G x0, .int x1] h (f_X3_bandOfMostUntrue f x0 x1 h) :=
  z_met (by decide +kernel) (Nat.le_of_ble_eq_true rfl) (fun X hG hn o hnm => by
    subst hG
    show Sim X (z_Zi X 0 0) 0 0 0 [(0, rf (xG X) x0), (1, .int x1)] [] h _
    exact s_sub [0, 1] rfl (t_X3_bandOfMostUntrue_0 o f x0 x1 h))
/-! SixMaps$Sayings.<init>()V -/
def f_X3_init (f : Nat)  (x0 : Nat) (h : Hp) : Option (Hp) :=
  bn (q_nwa h 9 20) fun a1_ h2_ =>
  (q_pr h2_ x0 3 0 a1_).bind fun h3_ =>
  bn (q_nwa h3_ 9 20) fun a4_ h5_ =>
  (q_pr h5_ x0 3 1 a4_).bind fun h6_ =>
  bn (q_nwa h6_ 10 20) fun a7_ h8_ =>
  (q_pr h8_ x0 3 2 a7_).bind fun h9_ =>
  (q_pi h9_ x0 3 3 (0 : Int32)).bind fun h10_ =>
  some h10_
set_option maxRecDepth 20000 in
theorem t_X3_init_0 {X : Cx} (o : Ok X RX3 cX3_init 1 1 12 3 60 none) (hnm : (xM X).name = yX3_init.name) (f : Nat)  (x0 : Nat) (h : Hp) : Sim X (z_Zv X 3 60) 0 0 0 [(0, rf (xG X) x0)] [] h (f_X3_init f x0 h) := by
  unfold f_X3_init
  refine s_aload_n o 0 rfl dX3_init_0 (q := 1) rfl ?_
  refine s_obj o ob_X3_3 (Nat.le_of_ble_eq_true rfl) (Nat.le_of_ble_eq_true rfl) dX3_init_1 (q := 4) rfl ?_
  refine s_aload_n o 0 rfl dX3_init_4 (q := 5) rfl ?_
  refine s_bipush o dX3_init_5 (v := (20 : Int32)) (by decide) (q := 7) rfl ?_
  refine s_nwa_i o na_int (N := 20) (by decide) (by decide) (by decide) (by decide) (by decide) dX3_init_7 (q := 9) rfl (cs' := 1) rfl (sl' := 20) rfl (fun a1_ h2_ => ?_)
  refine s_prF o kf_X3_9 (fun _ => rfl) (fun _ => rfl) hnm (fun rr e => by rw [← Option.some.inj (show some (RX3, TX3, 4) = some rr from e)]; rfl) dX3_init_9 (q := 12) rfl (fun h3_ => ?_)
  refine s_aload_n o 0 rfl dX3_init_12 (q := 13) rfl ?_
  refine s_bipush o dX3_init_13 (v := (20 : Int32)) (by decide) (q := 15) rfl ?_
  refine s_nwa_i o na_int (N := 20) (by decide) (by decide) (by decide) (by decide) (by decide) dX3_init_15 (q := 17) rfl (cs' := 2) rfl (sl' := 40) rfl (fun a4_ h5_ => ?_)
  refine s_prF o kf_X3_15 (fun _ => rfl) (fun _ => rfl) hnm (fun rr e => by rw [← Option.some.inj (show some (RX3, TX3, 4) = some rr from e)]; rfl) dX3_init_17 (q := 20) rfl (fun h6_ => ?_)
  refine s_aload_n o 0 rfl dX3_init_20 (q := 21) rfl ?_
  refine s_bipush o dX3_init_21 (v := (20 : Int32)) (by decide) (q := 23) rfl ?_
  refine s_nwa_z o na_boolean (N := 20) (by decide) (by decide) (by decide) (by decide) (by decide) dX3_init_23 (q := 25) rfl (cs' := 3) rfl (sl' := 60) rfl (fun a7_ h8_ => ?_)
  refine s_prF o kf_X3_18 (fun _ => rfl) (fun _ => rfl) hnm (fun rr e => by rw [← Option.some.inj (show some (RX3, TX3, 4) = some rr from e)]; rfl) dX3_init_25 (q := 28) rfl (fun h9_ => ?_)
  refine s_aload_n o 0 rfl dX3_init_28 (q := 29) rfl ?_
  refine s_iconst o dX3_init_29 (v := (0 : Int32)) (by decide) (q := 30) rfl ?_
  refine s_pi o kf_X3_22 dX3_init_30 (q := 33) rfl (fun h10_ => ?_)
  exact s_vret o dX3_init_33
theorem c_X3_init (G : Gx) (f : Nat) (x0 : Nat) (h : Hp) : z_M z_qv G yX3_init cX3_init 1 none 1 12 3 60 [rf G x0] h (f_X3_init f x0 h) :=
  z_met (by decide +kernel) (Nat.le_of_ble_eq_true rfl) (fun X hG hn o hnm => by
    subst hG
    show Sim X (z_Zv X 3 60) 0 0 0 [(0, rf (xG X) x0)] [] h _
    exact s_sub [0] rfl (t_X3_init_0 o hnm f x0 h))
/-! SixMaps$Standing.begin(I)V -/
def b_X4_begin_18 (f : Nat) (k18 : Nat → Int32 → Int32 → Hp → Option (Hp)) (x0 : Nat) (x1 : Int32) (x2 : Int32) (h : Hp) : Option (Hp) :=
  if (6 : Int32) ≤ x2 then
  ((q_pi h x0 4 4 (0 : Int32)).bind fun h1_ =>
  (q_pi h1_ x0 4 5 (-1 : Int32)).bind fun h2_ =>
  some h2_)
  else
  ((q_gr h x0 4 0).bind fun a3_ =>
  (q_as h a3_ 9 ((x2 * (6 : Int32)) + x2) (((1 : Int32) <<< (x1 &&& 31)) - (1 : Int32))).bind fun h4_ =>
  lt (x2 + (1 : Int32)) fun v5_ =>
  k18 x0 x1 v5_ h4_)
def l_X4_begin_18 (f : Nat)  : Nat → Nat → Int32 → Int32 → Hp → Option (Hp)
  | 0, _, _, _, _ => none
  | n + 1, x0, x1, x2, h => b_X4_begin_18 f  (l_X4_begin_18 f  n) x0 x1 x2 h
def f_X4_begin (f : Nat)  (x0 : Nat) (x1 : Int32) (h : Hp) : Option (Hp) :=
  (q_gr h x0 4 0).bind fun a1_ =>
  (f_J7_fill_53178 f a1_ (0 : Int32) h).bind fun h2_ =>
  (q_gr h2_ x0 4 3).bind fun a3_ =>
  (f_J7_fill_53178 f a3_ (0 : Int32) h2_).bind fun h4_ =>
  l_X4_begin_18 f f x0 x1 (0 : Int32) h4_
set_option maxRecDepth 20000 in
theorem t_X4_begin_18 {X : Cx} (o : Ok X RX4 cX4_begin 3 1 23 0 0 none) (f : Nat) {k18 : Nat → Int32 → Int32 → Hp → Option (Hp)} (hk18 : ∀ (x0 : Nat) (x1 : Int32) (x2 : Int32) (h : Hp), Sim X (z_Zv X 0 0) 0 0 18 [(0, rf (xG X) x0), (1, .int x1), (2, .int x2)] [] h (k18 x0 x1 x2 h)) (x0 : Nat) (x1 : Int32) (x2 : Int32) (h : Hp) : Sim X (z_Zv X 0 0) 0 0 18 [(0, rf (xG X) x0), (1, .int x1), (2, .int x2)] [] h (b_X4_begin_18 f k18 x0 x1 x2 h) := by
  unfold b_X4_begin_18
  refine s_iload_n o 2 rfl dX4_begin_18 (q := 19) rfl ?_
  refine s_bipush o dX4_begin_19 (v := (6 : Int32)) (by decide) (q := 21) rfl ?_
  refine s_ic_ge o (tgt := 46) dX4_begin_21 (by decide) (q := 24) rfl ?_ ?_
  · refine s_aload_n o 0 rfl dX4_begin_46 (q := 47) rfl ?_
    refine s_iconst o dX4_begin_47 (v := (0 : Int32)) (by decide) (q := 48) rfl ?_
    refine s_pi o kf_X4_24 dX4_begin_48 (q := 51) rfl (fun h1_ => ?_)
    refine s_aload_n o 0 rfl dX4_begin_51 (q := 52) rfl ?_
    refine s_iconst o dX4_begin_52 (v := (-1 : Int32)) (by decide) (q := 53) rfl ?_
    refine s_pi o kf_X4_28 dX4_begin_53 (q := 56) rfl (fun h2_ => ?_)
    exact s_vret o dX4_begin_56
  · refine s_aload_n o 0 rfl dX4_begin_24 (q := 25) rfl ?_
    refine s_gr o kf_X4_9 dX4_begin_25 (q := 28) rfl (fun a3_ => ?_)
    refine s_iload_n o 2 rfl dX4_begin_28 (q := 29) rfl ?_
    refine s_bipush o dX4_begin_29 (v := (6 : Int32)) (by decide) (q := 31) rfl ?_
    refine s_imul o dX4_begin_31 (q := 32) rfl ?_
    refine s_iload_n o 2 rfl dX4_begin_32 (q := 33) rfl ?_
    refine s_iadd o dX4_begin_33 (q := 34) rfl ?_
    refine s_iconst o dX4_begin_34 (v := (1 : Int32)) (by decide) (q := 35) rfl ?_
    refine s_iload_n o 1 rfl dX4_begin_35 (q := 36) rfl ?_
    refine s_ishl o dX4_begin_36 (q := 37) rfl ?_
    refine s_iconst o dX4_begin_37 (v := (1 : Int32)) (by decide) (q := 38) rfl ?_
    refine s_isub o dX4_begin_38 (q := 39) rfl ?_
    refine s_iast o dX4_begin_39 (q := 40) rfl (fun h4_ => ?_)
    refine s_iinc o 2 rfl (v := (1 : Int32)) (by decide) [1, 2, 0] (lv' := fun v5_ => [(0, rf (xG X) x0), (1, .int x1), (2, .int v5_)]) (fun _ => rfl) dX4_begin_40 (by decide) (q := 43) rfl (fun v5_ => ?_)
    refine s_goto o (tgt := 18) dX4_begin_43 (by decide) ?_
    exact s_sub [0, 1, 2] rfl (hk18 x0 x1 v5_ h4_)
theorem tl_X4_begin_18 {X : Cx} (o : Ok X RX4 cX4_begin 3 1 23 0 0 none) (f : Nat)  : ∀ (n : Nat) (x0 : Nat) (x1 : Int32) (x2 : Int32) (h : Hp), Sim X (z_Zv X 0 0) 0 0 18 [(0, rf (xG X) x0), (1, .int x1), (2, .int x2)] [] h (l_X4_begin_18 f n x0 x1 x2 h) := by
  intro n
  induction n with
  | zero => intro x0 x1 x2 h; exact s_none
  | succ n ih => intro x0 x1 x2 h; exact t_X4_begin_18 o f  ih x0 x1 x2 h
set_option maxRecDepth 20000 in
theorem t_X4_begin_0 {X : Cx} (o : Ok X RX4 cX4_begin 3 1 23 0 0 none) (f : Nat)  (x0 : Nat) (x1 : Int32) (h : Hp) : Sim X (z_Zv X 0 0) 0 0 0 [(0, rf (xG X) x0), (1, .int x1)] [] h (f_X4_begin f x0 x1 h) := by
  unfold f_X4_begin
  refine s_aload_n o 0 rfl dX4_begin_0 (q := 1) rfl ?_
  refine s_gr o kf_X4_9 dX4_begin_1 (q := 4) rfl (fun a1_ => ?_)
  refine s_iconst o dX4_begin_4 (v := (0 : Int32)) (by decide) (q := 5) rfl ?_
  refine s_callv (fun r0 hr0 => runS o cs_X4_34 (c_J7_fill_53178 (xG X) f a1_ (0 : Int32) h (xl X) r0 hr0) ⟨Nat.le_of_ble_eq_true rfl, Nat.le_of_ble_eq_true rfl⟩ rfl rfl (Nat.le_of_ble_eq_true rfl) dX4_begin_5 ⟨Nat.le_of_ble_eq_true rfl, Nat.le_of_ble_eq_true rfl⟩) (q := 8) rfl (cs' := 0) rfl (sl' := 0) rfl (fun h2_ => ?_)
  refine s_aload_n o 0 rfl dX4_begin_8 (q := 9) rfl ?_
  refine s_gr o kf_X4_21 dX4_begin_9 (q := 12) rfl (fun a3_ => ?_)
  refine s_iconst o dX4_begin_12 (v := (0 : Int32)) (by decide) (q := 13) rfl ?_
  refine s_callv (fun r0 hr0 => runS o cs_X4_34 (c_J7_fill_53178 (xG X) f a3_ (0 : Int32) h2_ (xl X) r0 hr0) ⟨Nat.le_of_ble_eq_true rfl, Nat.le_of_ble_eq_true rfl⟩ rfl rfl (Nat.le_of_ble_eq_true rfl) dX4_begin_13 ⟨Nat.le_of_ble_eq_true rfl, Nat.le_of_ble_eq_true rfl⟩) (q := 16) rfl (cs' := 0) rfl (sl' := 0) rfl (fun h4_ => ?_)
  refine s_iconst o dX4_begin_16 (v := (0 : Int32)) (by decide) (q := 17) rfl ?_
  refine s_istore_n o [1, 2, 0] (lv' := [(0, rf (xG X) x0), (1, .int x1), (2, .int (0 : Int32))]) rfl dX4_begin_17 (by decide) (q := 18) rfl ?_
  exact s_sub [0, 1, 2] rfl (tl_X4_begin_18 o f f x0 x1 (0 : Int32) h4_)
theorem c_X4_begin (G : Gx) (f : Nat) (x0 : Nat) (x1 : Int32) (h : Hp) : z_M z_qv G yX4_begin cX4_begin 3 none 1 23 0 0 [rf G x0, .int x1] h (f_X4_begin f x0 x1 h) :=
  z_met (by decide +kernel) (Nat.le_of_ble_eq_true rfl) (fun X hG hn o hnm => by
    subst hG
    show Sim X (z_Zv X 0 0) 0 0 0 [(0, rf (xG X) x0), (1, .int x1)] [] h _
    exact s_sub [0, 1] rfl (t_X4_begin_0 o f x0 x1 h))
/-! SixMaps$Standing.copyFrom(LSixMaps$Standing;)V -/
def f_X4_copyFrom (f : Nat)  (x0 : Nat) (x1 : Nat) (h : Hp) : Option (Hp) :=
  (q_gr h x1 4 0).bind fun a1_ =>
  (q_gr h x0 4 0).bind fun a2_ =>
  (q_gr h x0 4 0).bind fun a3_ =>
  (q_al h a3_).bind fun v4_ =>
  (q_cp h a1_ (0 : Int32) a2_ (0 : Int32) v4_).bind fun h5_ =>
  (q_gr h5_ x1 4 1).bind fun a6_ =>
  (q_gr h5_ x0 4 1).bind fun a7_ =>
  (q_cp h5_ a6_ (0 : Int32) a7_ (0 : Int32) (20 : Int32)).bind fun h8_ =>
  (q_gr h8_ x1 4 2).bind fun a9_ =>
  (q_gr h8_ x0 4 2).bind fun a10_ =>
  (q_cp h8_ a9_ (0 : Int32) a10_ (0 : Int32) (20 : Int32)).bind fun h11_ =>
  (q_gr h11_ x1 4 3).bind fun a12_ =>
  (q_gr h11_ x0 4 3).bind fun a13_ =>
  (q_cp h11_ a12_ (0 : Int32) a13_ (0 : Int32) (6 : Int32)).bind fun h14_ =>
  (q_gi h14_ x1 4 4).bind fun v15_ =>
  (q_pi h14_ x0 4 4 v15_).bind fun h16_ =>
  (q_gi h16_ x1 4 5).bind fun v17_ =>
  (q_pi h16_ x0 4 5 v17_).bind fun h18_ =>
  (q_gi h18_ x1 4 6).bind fun v19_ =>
  (q_pi h18_ x0 4 6 v19_).bind fun h20_ =>
  some h20_
set_option maxRecDepth 20000 in
theorem t_X4_copyFrom_0 {X : Cx} (o : Ok X RX4 cX4_copyFrom 2 1 18 0 0 none) (f : Nat)  (x0 : Nat) (x1 : Nat) (h : Hp) : Sim X (z_Zv X 0 0) 0 0 0 [(0, rf (xG X) x0), (1, rf (xG X) x1)] [] h (f_X4_copyFrom f x0 x1 h) := by
  unfold f_X4_copyFrom
  refine s_aload_n o 1 rfl dX4_copyFrom_0 (q := 1) rfl ?_
  refine s_gr o kf_X4_9 dX4_copyFrom_1 (q := 4) rfl (fun a1_ => ?_)
  refine s_iconst o dX4_copyFrom_4 (v := (0 : Int32)) (by decide) (q := 5) rfl ?_
  refine s_aload_n o 0 rfl dX4_copyFrom_5 (q := 6) rfl ?_
  refine s_gr o kf_X4_9 dX4_copyFrom_6 (q := 9) rfl (fun a2_ => ?_)
  refine s_iconst o dX4_copyFrom_9 (v := (0 : Int32)) (by decide) (q := 10) rfl ?_
  refine s_aload_n o 0 rfl dX4_copyFrom_10 (q := 11) rfl ?_
  refine s_gr o kf_X4_9 dX4_copyFrom_11 (q := 14) rfl (fun a3_ => ?_)
  refine s_alen o dX4_copyFrom_14 (q := 15) rfl (fun v4_ => ?_)
  refine s_copy o ac_X4_40 (Nat.le_of_ble_eq_true rfl) (Nat.le_of_ble_eq_true rfl) dX4_copyFrom_15 (q := 18) rfl (fun h5_ => ?_)
  refine s_aload_n o 1 rfl dX4_copyFrom_18 (q := 19) rfl ?_
  refine s_gr o kf_X4_15 dX4_copyFrom_19 (q := 22) rfl (fun a6_ => ?_)
  refine s_iconst o dX4_copyFrom_22 (v := (0 : Int32)) (by decide) (q := 23) rfl ?_
  refine s_aload_n o 0 rfl dX4_copyFrom_23 (q := 24) rfl ?_
  refine s_gr o kf_X4_15 dX4_copyFrom_24 (q := 27) rfl (fun a7_ => ?_)
  refine s_iconst o dX4_copyFrom_27 (v := (0 : Int32)) (by decide) (q := 28) rfl ?_
  refine s_bipush o dX4_copyFrom_28 (v := (20 : Int32)) (by decide) (q := 30) rfl ?_
  refine s_copy o ac_X4_40 (Nat.le_of_ble_eq_true rfl) (Nat.le_of_ble_eq_true rfl) dX4_copyFrom_30 (q := 33) rfl (fun h8_ => ?_)
  refine s_aload_n o 1 rfl dX4_copyFrom_33 (q := 34) rfl ?_
  refine s_gr o kf_X4_18 dX4_copyFrom_34 (q := 37) rfl (fun a9_ => ?_)
  refine s_iconst o dX4_copyFrom_37 (v := (0 : Int32)) (by decide) (q := 38) rfl ?_
  refine s_aload_n o 0 rfl dX4_copyFrom_38 (q := 39) rfl ?_
  refine s_gr o kf_X4_18 dX4_copyFrom_39 (q := 42) rfl (fun a10_ => ?_)
  refine s_iconst o dX4_copyFrom_42 (v := (0 : Int32)) (by decide) (q := 43) rfl ?_
  refine s_bipush o dX4_copyFrom_43 (v := (20 : Int32)) (by decide) (q := 45) rfl ?_
  refine s_copy o ac_X4_40 (Nat.le_of_ble_eq_true rfl) (Nat.le_of_ble_eq_true rfl) dX4_copyFrom_45 (q := 48) rfl (fun h11_ => ?_)
  refine s_aload_n o 1 rfl dX4_copyFrom_48 (q := 49) rfl ?_
  refine s_gr o kf_X4_21 dX4_copyFrom_49 (q := 52) rfl (fun a12_ => ?_)
  refine s_iconst o dX4_copyFrom_52 (v := (0 : Int32)) (by decide) (q := 53) rfl ?_
  refine s_aload_n o 0 rfl dX4_copyFrom_53 (q := 54) rfl ?_
  refine s_gr o kf_X4_21 dX4_copyFrom_54 (q := 57) rfl (fun a13_ => ?_)
  refine s_iconst o dX4_copyFrom_57 (v := (0 : Int32)) (by decide) (q := 58) rfl ?_
  refine s_bipush o dX4_copyFrom_58 (v := (6 : Int32)) (by decide) (q := 60) rfl ?_
  refine s_copy o ac_X4_40 (Nat.le_of_ble_eq_true rfl) (Nat.le_of_ble_eq_true rfl) dX4_copyFrom_60 (q := 63) rfl (fun h14_ => ?_)
  refine s_aload_n o 0 rfl dX4_copyFrom_63 (q := 64) rfl ?_
  refine s_aload_n o 1 rfl dX4_copyFrom_64 (q := 65) rfl ?_
  refine s_gi o kf_X4_24 dX4_copyFrom_65 (q := 68) rfl (fun v15_ => ?_)
  refine s_pi o kf_X4_24 dX4_copyFrom_68 (q := 71) rfl (fun h16_ => ?_)
  refine s_aload_n o 0 rfl dX4_copyFrom_71 (q := 72) rfl ?_
  refine s_aload_n o 1 rfl dX4_copyFrom_72 (q := 73) rfl ?_
  refine s_gi o kf_X4_28 dX4_copyFrom_73 (q := 76) rfl (fun v17_ => ?_)
  refine s_pi o kf_X4_28 dX4_copyFrom_76 (q := 79) rfl (fun h18_ => ?_)
  refine s_aload_n o 0 rfl dX4_copyFrom_79 (q := 80) rfl ?_
  refine s_aload_n o 1 rfl dX4_copyFrom_80 (q := 81) rfl ?_
  refine s_gi o kf_X4_31 dX4_copyFrom_81 (q := 84) rfl (fun v19_ => ?_)
  refine s_pi o kf_X4_31 dX4_copyFrom_84 (q := 87) rfl (fun h20_ => ?_)
  exact s_vret o dX4_copyFrom_87
theorem c_X4_copyFrom (G : Gx) (f : Nat) (x0 : Nat) (x1 : Nat) (h : Hp) : z_M z_qv G yX4_copyFrom cX4_copyFrom 2 none 1 18 0 0 [rf G x0, rf G x1] h (f_X4_copyFrom f x0 x1 h) :=
  z_met (by decide +kernel) (Nat.le_of_ble_eq_true rfl) (fun X hG hn o hnm => by
    subst hG
    show Sim X (z_Zv X 0 0) 0 0 0 [(0, rf (xG X) x0), (1, rf (xG X) x1)] [] h _
    exact s_sub [0, 1] rfl (t_X4_copyFrom_0 o f x0 x1 h))
/-! SixMaps$Standing.draw(I)I -/
def b_X4_draw_40 (f : Nat)  (y0 : Int32) (h : Hp) : Option (Int32 × Hp) :=
  some (y0, h)
def f_X4_draw (f : Nat)  (x0 : Nat) (x1 : Int32) (h : Hp) : Option (Int32 × Hp) :=
  (q_gi h x0 4 6).bind fun v1_ =>
  (q_pi h x0 4 6 ((((v1_.toInt64 * (1103515245 : Int64)) + (12345 : Int64)) &&& (2147483647 : Int64)).toInt32)).bind fun h2_ =>
  if (1 : Int32) ≤ x1 then
  ((q_gi h2_ x0 4 6).bind fun v3_ =>
  q_nz (65536 : Int32) (
  q_nz x1 (
  b_X4_draw_40 f ((v3_ / (65536 : Int32)) - (v3_ / (65536 : Int32)) / x1 * x1) h2_)))
  else
  (b_X4_draw_40 f (0 : Int32) h2_)
set_option maxRecDepth 20000 in
theorem t_X4_draw_40 {X : Cx} (o : Ok X RX4 cX4_draw 2 0 0 0 0 (some .int)) (f : Nat)  (y0 : Int32) (h : Hp) : Sim X (z_Zi X 0 0) 0 0 40 [] [.int y0] h (b_X4_draw_40 f y0 h) := by
  unfold b_X4_draw_40
  exact s_iret o dX4_draw_40
set_option maxRecDepth 20000 in
theorem t_X4_draw_0 {X : Cx} (o : Ok X RX4 cX4_draw 2 0 0 0 0 (some .int)) (f : Nat)  (x0 : Nat) (x1 : Int32) (h : Hp) : Sim X (z_Zi X 0 0) 0 0 0 [(0, rf (xG X) x0), (1, .int x1)] [] h (f_X4_draw f x0 x1 h) := by
  unfold f_X4_draw
  refine s_aload_n o 0 rfl dX4_draw_0 (q := 1) rfl ?_
  refine s_aload_n o 0 rfl dX4_draw_1 (q := 2) rfl ?_
  refine s_gi o kf_X4_31 dX4_draw_2 (q := 5) rfl (fun v1_ => ?_)
  refine s_i2l o dX4_draw_5 (q := 6) rfl ?_
  refine s_ldc2 o kl_X4_50 dX4_draw_6 (q := 9) rfl ?_
  refine s_lmul o dX4_draw_9 (q := 10) rfl ?_
  refine s_ldc2 o kl_X4_52 dX4_draw_10 (q := 13) rfl ?_
  refine s_ladd o dX4_draw_13 (q := 14) rfl ?_
  refine s_ldc2 o kl_X4_54 dX4_draw_14 (q := 17) rfl ?_
  refine s_land o dX4_draw_17 (q := 18) rfl ?_
  refine s_l2i o dX4_draw_18 (q := 19) rfl ?_
  refine s_pi o kf_X4_31 dX4_draw_19 (q := 22) rfl (fun h2_ => ?_)
  refine s_iload_n o 1 rfl dX4_draw_22 (q := 23) rfl ?_
  refine s_iconst o dX4_draw_23 (v := (1 : Int32)) (by decide) (q := 24) rfl ?_
  refine s_ic_ge o (tgt := 31) dX4_draw_24 (by decide) (q := 27) rfl ?_ ?_
  · refine s_aload_n o 0 rfl dX4_draw_31 (q := 32) rfl ?_
    refine s_gi o kf_X4_31 dX4_draw_32 (q := 35) rfl (fun v3_ => ?_)
    refine s_ldc o kc_X4_56 dX4_draw_35 (q := 37) rfl ?_
    refine s_idiv o dX4_draw_37 (q := 38) rfl ?_
    refine s_iload_n o 1 rfl dX4_draw_38 (q := 39) rfl ?_
    refine s_irem o dX4_draw_39 (q := 40) rfl ?_
    exact s_sub [] rfl (t_X4_draw_40 o f ((v3_ / (65536 : Int32)) - (v3_ / (65536 : Int32)) / x1 * x1) h2_)
  · refine s_iconst o dX4_draw_27 (v := (0 : Int32)) (by decide) (q := 28) rfl ?_
    refine s_goto o (tgt := 40) dX4_draw_28 (by decide) ?_
    exact s_sub [] rfl (t_X4_draw_40 o f (0 : Int32) h2_)
theorem c_X4_draw (G : Gx) (f : Nat) (x0 : Nat) (x1 : Int32) (h : Hp) : z_M z_qi G yX4_draw cX4_draw 2 (some .int) 0 0 0 0 [rf G x0, .int x1] h (f_X4_draw f x0 x1 h) :=
  z_met (by decide +kernel) (Nat.le_of_ble_eq_true rfl) (fun X hG hn o hnm => by
    subst hG
    show Sim X (z_Zi X 0 0) 0 0 0 [(0, rf (xG X) x0), (1, .int x1)] [] h _
    exact s_sub [0, 1] rfl (t_X4_draw_0 o f x0 x1 h))
/-! SixMaps$Standing.has(III)Z -/
def f_X4_has (f : Nat)  (x0 : Nat) (x1 : Int32) (x2 : Int32) (x3 : Int32) (h : Hp) : Option (Int32 × Hp) :=
  (q_gr h x0 4 0).bind fun a1_ =>
  (q_ai h a1_ 9 ((x1 * (6 : Int32)) + x2)).bind fun v2_ =>
  bi (f_X5_isIn f v2_ x3 h) fun v4_ h3_ =>
  q_bo v4_ (some (v4_, h3_))
set_option maxRecDepth 20000 in
theorem t_X4_has_0 {X : Cx} (o : Ok X RX4 cX4_has 4 1 21 0 0 (some .boolean)) (f : Nat)  (x0 : Nat) (x1 : Int32) (x2 : Int32) (x3 : Int32) (h : Hp) : Sim X (z_Zi X 0 0) 0 0 0 [(0, rf (xG X) x0), (1, .int x1), (2, .int x2), (3, .int x3)] [] h (f_X4_has f x0 x1 x2 x3 h) := by
  unfold f_X4_has
  refine s_aload_n o 0 rfl dX4_has_0 (q := 1) rfl ?_
  refine s_gr o kf_X4_9 dX4_has_1 (q := 4) rfl (fun a1_ => ?_)
  refine s_iload_n o 1 rfl dX4_has_4 (q := 5) rfl ?_
  refine s_bipush o dX4_has_5 (v := (6 : Int32)) (by decide) (q := 7) rfl ?_
  refine s_imul o dX4_has_7 (q := 8) rfl ?_
  refine s_iload_n o 2 rfl dX4_has_8 (q := 9) rfl ?_
  refine s_iadd o dX4_has_9 (q := 10) rfl ?_
  refine s_iald o dX4_has_10 (q := 11) rfl (fun v2_ => ?_)
  refine s_iload_n o 3 rfl dX4_has_11 (q := 12) rfl ?_
  refine s_bi (fun r0 hr0 => runN o cn_X4_46 (c_X5_isIn (xG X) f v2_ x3 h (xl X) r0 hr0) ⟨Nat.le_of_ble_eq_true rfl, Nat.le_of_ble_eq_true rfl⟩ rfl rfl (Nat.le_of_ble_eq_true rfl) dX4_has_12 ⟨Nat.le_of_ble_eq_true rfl, Nat.le_of_ble_eq_true rfl⟩) (q := 15) rfl (cs' := 0) rfl (sl' := 0) rfl (fun v4_ h3_ => ?_)
  exact s_zret o dX4_has_15
theorem c_X4_has (G : Gx) (f : Nat) (x0 : Nat) (x1 : Int32) (x2 : Int32) (x3 : Int32) (h : Hp) : z_M z_qi G yX4_has cX4_has 4 (some .boolean) 1 21 0 0 [rf G x0, .int x1, .int x2, .int x3] h (f_X4_has f x0 x1 x2 x3 h) :=
  z_met (by decide +kernel) (Nat.le_of_ble_eq_true rfl) (fun X hG hn o hnm => by
    subst hG
    show Sim X (z_Zi X 0 0) 0 0 0 [(0, rf (xG X) x0), (1, .int x1), (2, .int x2), (3, .int x3)] [] h _
    exact s_sub [0, 1, 2, 3] rfl (t_X4_has_0 o f x0 x1 x2 x3 h))
/-! SixMaps$Standing.learn(III)V -/
def f_X4_learn (f : Nat)  (x0 : Nat) (x1 : Int32) (x2 : Int32) (x3 : Int32) (h : Hp) : Option (Hp) :=
  (q_gr h x0 4 0).bind fun a1_ =>
  (q_ai h a1_ 9 ((x1 * (6 : Int32)) + x2)).bind fun v2_ =>
  (q_as h a1_ 9 ((x1 * (6 : Int32)) + x2) (v2_ ||| ((1 : Int32) <<< (x3 &&& 31)))).bind fun h3_ =>
  some h3_
set_option maxRecDepth 20000 in
theorem t_X4_learn_0 {X : Cx} (o : Ok X RX4 cX4_learn 4 0 0 0 0 none) (f : Nat)  (x0 : Nat) (x1 : Int32) (x2 : Int32) (x3 : Int32) (h : Hp) : Sim X (z_Zv X 0 0) 0 0 0 [(0, rf (xG X) x0), (1, .int x1), (2, .int x2), (3, .int x3)] [] h (f_X4_learn f x0 x1 x2 x3 h) := by
  unfold f_X4_learn
  refine s_aload_n o 0 rfl dX4_learn_0 (q := 1) rfl ?_
  refine s_gr o kf_X4_9 dX4_learn_1 (q := 4) rfl (fun a1_ => ?_)
  refine s_iload_n o 1 rfl dX4_learn_4 (q := 5) rfl ?_
  refine s_bipush o dX4_learn_5 (v := (6 : Int32)) (by decide) (q := 7) rfl ?_
  refine s_imul o dX4_learn_7 (q := 8) rfl ?_
  refine s_iload_n o 2 rfl dX4_learn_8 (q := 9) rfl ?_
  refine s_iadd o dX4_learn_9 (q := 10) rfl ?_
  refine s_dup2 o rfl rfl dX4_learn_10 (q := 11) rfl ?_
  refine s_iald o dX4_learn_11 (q := 12) rfl (fun v2_ => ?_)
  refine s_iconst o dX4_learn_12 (v := (1 : Int32)) (by decide) (q := 13) rfl ?_
  refine s_iload_n o 3 rfl dX4_learn_13 (q := 14) rfl ?_
  refine s_ishl o dX4_learn_14 (q := 15) rfl ?_
  refine s_ior o dX4_learn_15 (q := 16) rfl ?_
  refine s_iast o dX4_learn_16 (q := 17) rfl (fun h3_ => ?_)
  exact s_vret o dX4_learn_17
theorem c_X4_learn (G : Gx) (f : Nat) (x0 : Nat) (x1 : Int32) (x2 : Int32) (x3 : Int32) (h : Hp) : z_M z_qv G yX4_learn cX4_learn 4 none 0 0 0 0 [rf G x0, .int x1, .int x2, .int x3] h (f_X4_learn f x0 x1 x2 x3 h) :=
  z_met (by decide +kernel) (Nat.le_of_ble_eq_true rfl) (fun X hG hn o hnm => by
    subst hG
    show Sim X (z_Zv X 0 0) 0 0 0 [(0, rf (xG X) x0), (1, .int x1), (2, .int x2), (3, .int x3)] [] h _
    exact s_sub [0, 1, 2, 3] rfl (t_X4_learn_0 o f x0 x1 x2 x3 h))
/-! SixMaps.isBand(I)Z -/
def b_X5_isBand_15 (f : Nat)  (y0 : Int32) (h : Hp) : Option (Int32 × Hp) :=
  q_bo y0 (some (y0, h))
def b_X5_isBand_14 (f : Nat)   (h : Hp) : Option (Int32 × Hp) :=
  b_X5_isBand_15 f (0 : Int32) h
def f_X5_isBand (f : Nat)  (x0 : Int32) (h : Hp) : Option (Int32 × Hp) :=
  if x0 < 0 then
  (b_X5_isBand_14 f h)
  else
  (if (6 : Int32) ≤ x0 then
  (b_X5_isBand_14 f h)
  else
  (b_X5_isBand_15 f (1 : Int32) h))
set_option maxRecDepth 20000 in
theorem t_X5_isBand_15 {X : Cx} (o : Ok X RX5 cX5_isBand 1 0 0 0 0 (some .boolean)) (f : Nat)  (y0 : Int32) (h : Hp) : Sim X (z_Zi X 0 0) 0 0 15 [] [.int y0] h (b_X5_isBand_15 f y0 h) := by
  unfold b_X5_isBand_15
  exact s_zret o dX5_isBand_15
set_option maxRecDepth 20000 in
theorem t_X5_isBand_14 {X : Cx} (o : Ok X RX5 cX5_isBand 1 0 0 0 0 (some .boolean)) (f : Nat)   (h : Hp) : Sim X (z_Zi X 0 0) 0 0 14 [] [] h (b_X5_isBand_14 f h) := by
  unfold b_X5_isBand_14
  refine s_iconst o dX5_isBand_14 (v := (0 : Int32)) (by decide) (q := 15) rfl ?_
  exact s_sub [] rfl (t_X5_isBand_15 o f (0 : Int32) h)
set_option maxRecDepth 20000 in
theorem t_X5_isBand_0 {X : Cx} (o : Ok X RX5 cX5_isBand 1 0 0 0 0 (some .boolean)) (f : Nat)  (x0 : Int32) (h : Hp) : Sim X (z_Zi X 0 0) 0 0 0 [(0, .int x0)] [] h (f_X5_isBand f x0 h) := by
  unfold f_X5_isBand
  refine s_iload_n o 0 rfl dX5_isBand_0 (q := 1) rfl ?_
  refine s_if_lt o (tgt := 14) dX5_isBand_1 (by decide) (q := 4) rfl ?_ ?_
  · exact s_sub [] rfl (t_X5_isBand_14 o f h)
  · refine s_iload_n o 0 rfl dX5_isBand_4 (q := 5) rfl ?_
    refine s_bipush o dX5_isBand_5 (v := (6 : Int32)) (by decide) (q := 7) rfl ?_
    refine s_ic_ge o (tgt := 14) dX5_isBand_7 (by decide) (q := 10) rfl ?_ ?_
    · exact s_sub [] rfl (t_X5_isBand_14 o f h)
    · refine s_iconst o dX5_isBand_10 (v := (1 : Int32)) (by decide) (q := 11) rfl ?_
      refine s_goto o (tgt := 15) dX5_isBand_11 (by decide) ?_
      exact s_sub [] rfl (t_X5_isBand_15 o f (1 : Int32) h)
theorem c_X5_isBand (G : Gx) (f : Nat) (x0 : Int32) (h : Hp) : z_M z_qi G yX5_isBand cX5_isBand 1 (some .boolean) 0 0 0 0 [.int x0] h (f_X5_isBand f x0 h) :=
  z_met (by decide +kernel) (Nat.le_of_ble_eq_true rfl) (fun X hG hn o hnm => by
    subst hG
    show Sim X (z_Zi X 0 0) 0 0 0 [(0, .int x0)] [] h _
    exact s_sub [0] rfl (t_X5_isBand_0 o f x0 h))
/-! SixMaps.areTwoBands(II)Z -/
def b_X5_areTwoBands_24 (f : Nat)  (y0 : Int32) (h : Hp) : Option (Int32 × Hp) :=
  q_bo y0 (some (y0, h))
def b_X5_areTwoBands_23 (f : Nat)   (h : Hp) : Option (Int32 × Hp) :=
  b_X5_areTwoBands_24 f (0 : Int32) h
def f_X5_areTwoBands (f : Nat)  (x0 : Int32) (x1 : Int32) (h : Hp) : Option (Int32 × Hp) :=
  bi (f_X5_isBand f x0 h) fun v2_ h1_ =>
  if v2_ = 0 then
  (b_X5_areTwoBands_23 f h1_)
  else
  (bi (f_X5_isBand f x1 h1_) fun v4_ h3_ =>
  if v4_ = 0 then
  (b_X5_areTwoBands_23 f h3_)
  else
  (if x0 = x1 then
  (b_X5_areTwoBands_23 f h3_)
  else
  (b_X5_areTwoBands_24 f (1 : Int32) h3_)))
set_option maxRecDepth 20000 in
theorem t_X5_areTwoBands_24 {X : Cx} (o : Ok X RX5 cX5_areTwoBands 2 1 20 0 0 (some .boolean)) (f : Nat)  (y0 : Int32) (h : Hp) : Sim X (z_Zi X 0 0) 0 0 24 [] [.int y0] h (b_X5_areTwoBands_24 f y0 h) := by
  unfold b_X5_areTwoBands_24
  exact s_zret o dX5_areTwoBands_24
set_option maxRecDepth 20000 in
theorem t_X5_areTwoBands_23 {X : Cx} (o : Ok X RX5 cX5_areTwoBands 2 1 20 0 0 (some .boolean)) (f : Nat)   (h : Hp) : Sim X (z_Zi X 0 0) 0 0 23 [] [] h (b_X5_areTwoBands_23 f h) := by
  unfold b_X5_areTwoBands_23
  refine s_iconst o dX5_areTwoBands_23 (v := (0 : Int32)) (by decide) (q := 24) rfl ?_
  exact s_sub [] rfl (t_X5_areTwoBands_24 o f (0 : Int32) h)
set_option maxRecDepth 20000 in
theorem t_X5_areTwoBands_0 {X : Cx} (o : Ok X RX5 cX5_areTwoBands 2 1 20 0 0 (some .boolean)) (f : Nat)  (x0 : Int32) (x1 : Int32) (h : Hp) : Sim X (z_Zi X 0 0) 0 0 0 [(0, .int x0), (1, .int x1)] [] h (f_X5_areTwoBands f x0 x1 h) := by
  unfold f_X5_areTwoBands
  refine s_iload_n o 0 rfl dX5_areTwoBands_0 (q := 1) rfl ?_
  refine s_bi (fun r0 hr0 => runS o cs_X5_124 (c_X5_isBand (xG X) f x0 h (xl X) r0 hr0) ⟨Nat.le_of_ble_eq_true rfl, Nat.le_of_ble_eq_true rfl⟩ rfl rfl (Nat.le_of_ble_eq_true rfl) dX5_areTwoBands_1 ⟨Nat.le_of_ble_eq_true rfl, Nat.le_of_ble_eq_true rfl⟩) (q := 4) rfl (cs' := 0) rfl (sl' := 0) rfl (fun v2_ h1_ => ?_)
  refine s_if_eq o (tgt := 23) dX5_areTwoBands_4 (by decide) (q := 7) rfl ?_ ?_
  · exact s_sub [] rfl (t_X5_areTwoBands_23 o f h1_)
  · refine s_iload_n o 1 rfl dX5_areTwoBands_7 (q := 8) rfl ?_
    refine s_bi (fun r0 hr0 => runS o cs_X5_124 (c_X5_isBand (xG X) f x1 h1_ (xl X) r0 hr0) ⟨Nat.le_of_ble_eq_true rfl, Nat.le_of_ble_eq_true rfl⟩ rfl rfl (Nat.le_of_ble_eq_true rfl) dX5_areTwoBands_8 ⟨Nat.le_of_ble_eq_true rfl, Nat.le_of_ble_eq_true rfl⟩) (q := 11) rfl (cs' := 0) rfl (sl' := 0) rfl (fun v4_ h3_ => ?_)
    refine s_if_eq o (tgt := 23) dX5_areTwoBands_11 (by decide) (q := 14) rfl ?_ ?_
    · exact s_sub [] rfl (t_X5_areTwoBands_23 o f h3_)
    · refine s_iload_n o 0 rfl dX5_areTwoBands_14 (q := 15) rfl ?_
      refine s_iload_n o 1 rfl dX5_areTwoBands_15 (q := 16) rfl ?_
      refine s_ic_eq o (tgt := 23) dX5_areTwoBands_16 (by decide) (q := 19) rfl ?_ ?_
      · exact s_sub [] rfl (t_X5_areTwoBands_23 o f h3_)
      · refine s_iconst o dX5_areTwoBands_19 (v := (1 : Int32)) (by decide) (q := 20) rfl ?_
        refine s_goto o (tgt := 24) dX5_areTwoBands_20 (by decide) ?_
        exact s_sub [] rfl (t_X5_areTwoBands_24 o f (1 : Int32) h3_)
theorem c_X5_areTwoBands (G : Gx) (f : Nat) (x0 : Int32) (x1 : Int32) (h : Hp) : z_M z_qi G yX5_areTwoBands cX5_areTwoBands 2 (some .boolean) 1 20 0 0 [.int x0, .int x1] h (f_X5_areTwoBands f x0 x1 h) :=
  z_met (by decide +kernel) (Nat.le_of_ble_eq_true rfl) (fun X hG hn o hnm => by
    subst hG
    show Sim X (z_Zi X 0 0) 0 0 0 [(0, .int x0), (1, .int x1)] [] h _
    exact s_sub [0, 1] rfl (t_X5_areTwoBands_0 o f x0 x1 h))
/-! SixMaps.area(III)I -/
def b_X5_area_96 (f : Nat)  (y0 : Int32) (h : Hp) : Option (Int32 × Hp) :=
  some (y0, h)
def b_X5_area_29 (f : Nat)   (h : Hp) : Option (Int32 × Hp) :=
  some ((-1000002 : Int32), h)
def f_X5_area (f : Nat)  (x0 : Nat) (x1 : Int32) (x2 : Int32) (x3 : Int32) (h : Hp) : Option (Int32 × Hp) :=
  bi (f_X5_isBand f x1 h) fun v2_ h1_ =>
  if ¬ v2_ = 0 then
  (if x2 < 0 then
  (b_X5_area_29 f h1_)
  else
  (if (63 : Int32) < x2 then
  (b_X5_area_29 f h1_)
  else
  (if x3 < 0 then
  (b_X5_area_29 f h1_)
  else
  (if x3 < (4 : Int32) then
  ((q_gr h1_ x0 5 3).bind fun a3_ =>
  (q_gi h1_ a3_ 0 4).bind fun v4_ =>
  if ¬ v4_ = 0 then
  ((q_gr h1_ x0 5 10).bind fun a5_ =>
  (q_gr h1_ x0 5 3).bind fun a6_ =>
  (q_gr h1_ x0 5 6).bind fun a7_ =>
  q_on h1_ a5_ 1 (
  (f_X1_weigh f a5_ a6_ a7_ x1 h1_).bind fun h9_ =>
  (q_gr h9_ x0 5 10).bind fun a10_ =>
  q_on h9_ a10_ 1 (
  bi (f_X1_indexOf f a10_ x2 h9_) fun v13_ h12_ =>
  if ¬ v13_ = (-1 : Int32) then
  ((q_gr h12_ x0 5 10).bind fun a14_ =>
  (q_gr h12_ a14_ 1 8).bind fun a15_ =>
  (q_ai h12_ a15_ 9 ((v13_ * (4 : Int32)) + x3)).bind fun v16_ =>
  b_X5_area_96 f v16_ h12_)
  else
  (b_X5_area_96 f (-1000003 : Int32) h12_))))
  else
  (some ((-1000003 : Int32), h1_)))
  else
  (b_X5_area_29 f h1_)))))
  else
  (some ((-1000001 : Int32), h1_))
set_option maxRecDepth 20000 in
theorem t_X5_area_96 {X : Cx} (o : Ok X RX5 cX5_area 5 6 133 0 0 (some .int)) (f : Nat)  (y0 : Int32) (h : Hp) : Sim X (z_Zi X 0 0) 0 0 96 [] [.int y0] h (b_X5_area_96 f y0 h) := by
  unfold b_X5_area_96
  exact s_iret o dX5_area_96
set_option maxRecDepth 20000 in
theorem t_X5_area_29 {X : Cx} (o : Ok X RX5 cX5_area 5 6 133 0 0 (some .int)) (f : Nat)   (h : Hp) : Sim X (z_Zi X 0 0) 0 0 29 [] [] h (b_X5_area_29 f h) := by
  unfold b_X5_area_29
  refine s_ldc o kc_X5_66 dX5_area_29 (q := 31) rfl ?_
  exact s_iret o dX5_area_31
set_option maxRecDepth 20000 in
theorem t_X5_area_0 {X : Cx} (o : Ok X RX5 cX5_area 5 6 133 0 0 (some .int)) (f : Nat)  (x0 : Nat) (x1 : Int32) (x2 : Int32) (x3 : Int32) (h : Hp) : Sim X (z_Zi X 0 0) 0 0 0 [(0, rf (xG X) x0), (1, .int x1), (2, .int x2), (3, .int x3)] [] h (f_X5_area f x0 x1 x2 x3 h) := by
  unfold f_X5_area
  refine s_iload_n o 1 rfl dX5_area_0 (q := 1) rfl ?_
  refine s_bi (fun r0 hr0 => runS o cs_X5_124 (c_X5_isBand (xG X) f x1 h (xl X) r0 hr0) ⟨Nat.le_of_ble_eq_true rfl, Nat.le_of_ble_eq_true rfl⟩ rfl rfl (Nat.le_of_ble_eq_true rfl) dX5_area_1 ⟨Nat.le_of_ble_eq_true rfl, Nat.le_of_ble_eq_true rfl⟩) (q := 4) rfl (cs' := 0) rfl (sl' := 0) rfl (fun v2_ h1_ => ?_)
  refine s_if_ne o (tgt := 10) dX5_area_4 (by decide) (q := 7) rfl ?_ ?_
  · refine s_iload_n o 2 rfl dX5_area_10 (q := 11) rfl ?_
    refine s_if_lt o (tgt := 29) dX5_area_11 (by decide) (q := 14) rfl ?_ ?_
    · exact s_sub [] rfl (t_X5_area_29 o f h1_)
    · refine s_iload_n o 2 rfl dX5_area_14 (q := 15) rfl ?_
      refine s_bipush o dX5_area_15 (v := (63 : Int32)) (by decide) (q := 17) rfl ?_
      refine s_ic_gt o (tgt := 29) dX5_area_17 (by decide) (q := 20) rfl ?_ ?_
      · exact s_sub [] rfl (t_X5_area_29 o f h1_)
      · refine s_iload_n o 3 rfl dX5_area_20 (q := 21) rfl ?_
        refine s_if_lt o (tgt := 29) dX5_area_21 (by decide) (q := 24) rfl ?_ ?_
        · exact s_sub [] rfl (t_X5_area_29 o f h1_)
        · refine s_iload_n o 3 rfl dX5_area_24 (q := 25) rfl ?_
          refine s_iconst o dX5_area_25 (v := (4 : Int32)) (by decide) (q := 26) rfl ?_
          refine s_ic_lt o (tgt := 32) dX5_area_26 (by decide) (q := 29) rfl ?_ ?_
          · refine s_aload_n o 0 rfl dX5_area_32 (q := 33) rfl ?_
            refine s_gr o kf_X5_23 dX5_area_33 (q := 36) rfl (fun a3_ => ?_)
            refine s_gi o kf_X5_75 dX5_area_36 (q := 39) rfl (fun v4_ => ?_)
            refine s_if_ne o (tgt := 45) dX5_area_39 (by decide) (q := 42) rfl ?_ ?_
            · refine s_aload_n o 0 rfl dX5_area_45 (q := 46) rfl ?_
              refine s_gr o kf_X5_62 dX5_area_46 (q := 49) rfl (fun a5_ => ?_)
              refine s_aload_n o 0 rfl dX5_area_49 (q := 50) rfl ?_
              refine s_gr o kf_X5_23 dX5_area_50 (q := 53) rfl (fun a6_ => ?_)
              refine s_aload_n o 0 rfl dX5_area_53 (q := 54) rfl ?_
              refine s_gr o kf_X5_40 dX5_area_54 (q := 57) rfl (fun a7_ => ?_)
              refine s_iload_n o 1 rfl dX5_area_57 (q := 58) rfl ?_
              refine s_on (fun hk8_ => ?_)
              refine s_callv (fun r0 hr0 => runV o hk8_ cv_X5_161 (c_X1_weigh (xG X) f a5_ a6_ a7_ x1 h1_ (xl X) r0 hr0) ⟨Nat.le_of_ble_eq_true rfl, Nat.le_of_ble_eq_true rfl⟩ rfl rfl (Nat.le_of_ble_eq_true rfl) dX5_area_58 ⟨Nat.le_of_ble_eq_true rfl, Nat.le_of_ble_eq_true rfl⟩) (q := 61) rfl (cs' := 0) rfl (sl' := 0) rfl (fun h9_ => ?_)
              refine s_aload_n o 0 rfl dX5_area_61 (q := 62) rfl ?_
              refine s_gr o kf_X5_62 dX5_area_62 (q := 65) rfl (fun a10_ => ?_)
              refine s_iload_n o 2 rfl dX5_area_65 (q := 66) rfl ?_
              refine s_on (fun hk11_ => ?_)
              refine s_bi (fun r0 hr0 => runV o hk11_ cv_X5_176 (c_X1_indexOf (xG X) f a10_ x2 h9_ (xl X) r0 hr0) ⟨Nat.le_of_ble_eq_true rfl, Nat.le_of_ble_eq_true rfl⟩ rfl rfl (Nat.le_of_ble_eq_true rfl) dX5_area_66 ⟨Nat.le_of_ble_eq_true rfl, Nat.le_of_ble_eq_true rfl⟩) (q := 69) rfl (cs' := 0) rfl (sl' := 0) rfl (fun v13_ h12_ => ?_)
              refine s_istore o [1, 2, 3, 4, 0] (lv' := [(0, rf (xG X) x0), (1, .int x1), (2, .int x2), (3, .int x3), (4, .int v13_)]) rfl dX5_area_69 (by decide) (q := 71) rfl ?_
              refine s_iload o 4 rfl dX5_area_71 (q := 73) rfl ?_
              refine s_iconst o dX5_area_73 (v := (-1 : Int32)) (by decide) (q := 74) rfl ?_
              refine s_ic_ne o (tgt := 82) dX5_area_74 (by decide) (q := 77) rfl ?_ ?_
              · refine s_aload_n o 0 rfl dX5_area_82 (q := 83) rfl ?_
                refine s_gr o kf_X5_62 dX5_area_83 (q := 86) rfl (fun a14_ => ?_)
                refine s_gr o kf_X5_179 dX5_area_86 (q := 89) rfl (fun a15_ => ?_)
                refine s_iload o 4 rfl dX5_area_89 (q := 91) rfl ?_
                refine s_iconst o dX5_area_91 (v := (4 : Int32)) (by decide) (q := 92) rfl ?_
                refine s_imul o dX5_area_92 (q := 93) rfl ?_
                refine s_iload_n o 3 rfl dX5_area_93 (q := 94) rfl ?_
                refine s_iadd o dX5_area_94 (q := 95) rfl ?_
                refine s_iald o dX5_area_95 (q := 96) rfl (fun v16_ => ?_)
                exact s_sub [] rfl (t_X5_area_96 o f v16_ h12_)
              · refine s_ldc o kc_X5_133 dX5_area_77 (q := 79) rfl ?_
                refine s_goto o (tgt := 96) dX5_area_79 (by decide) ?_
                exact s_sub [] rfl (t_X5_area_96 o f (-1000003 : Int32) h12_)
            · refine s_ldc o kc_X5_133 dX5_area_42 (q := 44) rfl ?_
              exact s_iret o dX5_area_44
          · exact s_sub [] rfl (t_X5_area_29 o f h1_)
  · refine s_ldc o kc_X5_116 dX5_area_7 (q := 9) rfl ?_
    exact s_iret o dX5_area_9
theorem c_X5_area (G : Gx) (f : Nat) (x0 : Nat) (x1 : Int32) (x2 : Int32) (x3 : Int32) (h : Hp) : z_M z_qi G yX5_area cX5_area 5 (some .int) 6 133 0 0 [rf G x0, .int x1, .int x2, .int x3] h (f_X5_area f x0 x1 x2 x3 h) :=
  z_met (by decide +kernel) (Nat.le_of_ble_eq_true rfl) (fun X hG hn o hnm => by
    subst hG
    show Sim X (z_Zi X 0 0) 0 0 0 [(0, rf (xG X) x0), (1, .int x1), (2, .int x2), (3, .int x3)] [] h _
    exact s_sub [0, 1, 2, 3] rfl (t_X5_area_0 o f x0 x1 x2 x3 h))
/-! SixMaps.best(II)I -/
def b_X5_best_19 (f : Nat)   (h : Hp) : Option (Int32 × Hp) :=
  some ((-1000002 : Int32), h)
def f_X5_best (f : Nat)  (x0 : Nat) (x1 : Int32) (x2 : Int32) (h : Hp) : Option (Int32 × Hp) :=
  bi (f_X5_isBand f x1 h) fun v2_ h1_ =>
  if ¬ v2_ = 0 then
  (if x2 < 0 then
  (b_X5_best_19 f h1_)
  else
  (if x2 ≤ (3 : Int32) then
  ((q_gr h1_ x0 5 10).bind fun a3_ =>
  (q_gr h1_ x0 5 3).bind fun a4_ =>
  (q_gr h1_ x0 5 6).bind fun a5_ =>
  q_on h1_ a3_ 1 (
  (f_X1_weigh f a3_ a4_ a5_ x1 h1_).bind fun h7_ =>
  (q_gr h7_ x0 5 10).bind fun a8_ =>
  q_on h7_ a8_ 1 (
  (f_X1_choosePlace f a8_ h7_).bind fun h10_ =>
  (q_gr h10_ x0 5 10).bind fun a11_ =>
  (q_gi h10_ a11_ 1 14).bind fun v12_ =>
  if ¬ v12_ = (-1 : Int32) then
  (sw x2 0 [
  ((q_gr h10_ x0 5 10).bind fun a13_ =>
  (q_gr h10_ x0 5 10).bind fun a14_ =>
  (q_gi h10_ a14_ 1 14).bind fun v15_ =>
  q_on h10_ a13_ 1 (
  bi (f_X1_placeX f a13_ v15_ h10_) fun v18_ h17_ =>
  some (v18_, h17_))), 
  ((q_gr h10_ x0 5 10).bind fun a19_ =>
  (q_gr h10_ x0 5 10).bind fun a20_ =>
  (q_gi h10_ a20_ 1 14).bind fun v21_ =>
  q_on h10_ a19_ 1 (
  bi (f_X1_placeY f a19_ v21_ h10_) fun v24_ h23_ =>
  some (v24_, h23_))), 
  ((q_gr h10_ x0 5 10).bind fun a25_ =>
  (q_gi h10_ a25_ 1 15).bind fun v26_ =>
  some (v26_, h10_))] ((q_gr h10_ x0 5 10).bind fun a27_ =>
  q_on h10_ a27_ 1 (
  bi (f_X1_worth f a27_ h10_) fun v30_ h29_ =>
  some (v30_, h29_))))
  else
  (some ((-1 : Int32), h10_)))))
  else
  (b_X5_best_19 f h1_)))
  else
  (some ((-1000001 : Int32), h1_))
set_option maxRecDepth 20000 in
theorem t_X5_best_19 {X : Cx} (o : Ok X RX5 cX5_best 3 6 133 0 0 (some .int)) (f : Nat)   (h : Hp) : Sim X (z_Zi X 0 0) 0 0 19 [] [] h (b_X5_best_19 f h) := by
  unfold b_X5_best_19
  refine s_ldc o kc_X5_66 dX5_best_19 (q := 21) rfl ?_
  exact s_iret o dX5_best_21
set_option maxRecDepth 20000 in
theorem t_X5_best_0 {X : Cx} (o : Ok X RX5 cX5_best 3 6 133 0 0 (some .int)) (f : Nat)  (x0 : Nat) (x1 : Int32) (x2 : Int32) (h : Hp) : Sim X (z_Zi X 0 0) 0 0 0 [(0, rf (xG X) x0), (1, .int x1), (2, .int x2)] [] h (f_X5_best f x0 x1 x2 h) := by
  unfold f_X5_best
  refine s_iload_n o 1 rfl dX5_best_0 (q := 1) rfl ?_
  refine s_bi (fun r0 hr0 => runS o cs_X5_124 (c_X5_isBand (xG X) f x1 h (xl X) r0 hr0) ⟨Nat.le_of_ble_eq_true rfl, Nat.le_of_ble_eq_true rfl⟩ rfl rfl (Nat.le_of_ble_eq_true rfl) dX5_best_1 ⟨Nat.le_of_ble_eq_true rfl, Nat.le_of_ble_eq_true rfl⟩) (q := 4) rfl (cs' := 0) rfl (sl' := 0) rfl (fun v2_ h1_ => ?_)
  refine s_if_ne o (tgt := 10) dX5_best_4 (by decide) (q := 7) rfl ?_ ?_
  · refine s_iload_n o 2 rfl dX5_best_10 (q := 11) rfl ?_
    refine s_if_lt o (tgt := 19) dX5_best_11 (by decide) (q := 14) rfl ?_ ?_
    · exact s_sub [] rfl (t_X5_best_19 o f h1_)
    · refine s_iload_n o 2 rfl dX5_best_14 (q := 15) rfl ?_
      refine s_iconst o dX5_best_15 (v := (3 : Int32)) (by decide) (q := 16) rfl ?_
      refine s_ic_le o (tgt := 22) dX5_best_16 (by decide) (q := 19) rfl ?_ ?_
      · refine s_aload_n o 0 rfl dX5_best_22 (q := 23) rfl ?_
        refine s_gr o kf_X5_62 dX5_best_23 (q := 26) rfl (fun a3_ => ?_)
        refine s_aload_n o 0 rfl dX5_best_26 (q := 27) rfl ?_
        refine s_gr o kf_X5_23 dX5_best_27 (q := 30) rfl (fun a4_ => ?_)
        refine s_aload_n o 0 rfl dX5_best_30 (q := 31) rfl ?_
        refine s_gr o kf_X5_40 dX5_best_31 (q := 34) rfl (fun a5_ => ?_)
        refine s_iload_n o 1 rfl dX5_best_34 (q := 35) rfl ?_
        refine s_on (fun hk6_ => ?_)
        refine s_callv (fun r0 hr0 => runV o hk6_ cv_X5_161 (c_X1_weigh (xG X) f a3_ a4_ a5_ x1 h1_ (xl X) r0 hr0) ⟨Nat.le_of_ble_eq_true rfl, Nat.le_of_ble_eq_true rfl⟩ rfl rfl (Nat.le_of_ble_eq_true rfl) dX5_best_35 ⟨Nat.le_of_ble_eq_true rfl, Nat.le_of_ble_eq_true rfl⟩) (q := 38) rfl (cs' := 0) rfl (sl' := 0) rfl (fun h7_ => ?_)
        refine s_aload_n o 0 rfl dX5_best_38 (q := 39) rfl ?_
        refine s_gr o kf_X5_62 dX5_best_39 (q := 42) rfl (fun a8_ => ?_)
        refine s_on (fun hk9_ => ?_)
        refine s_callv (fun r0 hr0 => runV o hk9_ cv_X5_182 (c_X1_choosePlace (xG X) f a8_ h7_ (xl X) r0 hr0) ⟨Nat.le_of_ble_eq_true rfl, Nat.le_of_ble_eq_true rfl⟩ rfl rfl (Nat.le_of_ble_eq_true rfl) dX5_best_42 ⟨Nat.le_of_ble_eq_true rfl, Nat.le_of_ble_eq_true rfl⟩) (q := 45) rfl (cs' := 0) rfl (sl' := 0) rfl (fun h10_ => ?_)
        refine s_aload_n o 0 rfl dX5_best_45 (q := 46) rfl ?_
        refine s_gr o kf_X5_62 dX5_best_46 (q := 49) rfl (fun a11_ => ?_)
        refine s_gi o kf_X5_185 dX5_best_49 (q := 52) rfl (fun v12_ => ?_)
        refine s_iconst o dX5_best_52 (v := (-1 : Int32)) (by decide) (q := 53) rfl ?_
        refine s_ic_ne o (tgt := 58) dX5_best_53 (by decide) (q := 56) rfl ?_ ?_
        · refine s_iload_n o 2 rfl dX5_best_58 (q := 59) rfl ?_
          refine s_sw o dX5_best_59 rfl (tgD := 122) (by decide) ?_ (⟨⟨84, by decide, ?_⟩, ⟨99, by decide, ?_⟩, ⟨114, by decide, ?_⟩, trivial⟩)
          · refine s_aload_n o 0 rfl dX5_best_122 (q := 123) rfl ?_
            refine s_gr o kf_X5_62 dX5_best_123 (q := 126) rfl (fun a27_ => ?_)
            refine s_on (fun hk28_ => ?_)
            refine s_bi (fun r0 hr0 => runV o hk28_ cv_X5_197 (c_X1_worth (xG X) f a27_ h10_ (xl X) r0 hr0) ⟨Nat.le_of_ble_eq_true rfl, Nat.le_of_ble_eq_true rfl⟩ rfl rfl (Nat.le_of_ble_eq_true rfl) dX5_best_126 ⟨Nat.le_of_ble_eq_true rfl, Nat.le_of_ble_eq_true rfl⟩) (q := 129) rfl (cs' := 0) rfl (sl' := 0) rfl (fun v30_ h29_ => ?_)
            exact s_iret o dX5_best_129
          · refine s_aload_n o 0 rfl dX5_best_84 (q := 85) rfl ?_
            refine s_gr o kf_X5_62 dX5_best_85 (q := 88) rfl (fun a13_ => ?_)
            refine s_aload_n o 0 rfl dX5_best_88 (q := 89) rfl ?_
            refine s_gr o kf_X5_62 dX5_best_89 (q := 92) rfl (fun a14_ => ?_)
            refine s_gi o kf_X5_185 dX5_best_92 (q := 95) rfl (fun v15_ => ?_)
            refine s_on (fun hk16_ => ?_)
            refine s_bi (fun r0 hr0 => runV o hk16_ cv_X5_188 (c_X1_placeX (xG X) f a13_ v15_ h10_ (xl X) r0 hr0) ⟨Nat.le_of_ble_eq_true rfl, Nat.le_of_ble_eq_true rfl⟩ rfl rfl (Nat.le_of_ble_eq_true rfl) dX5_best_95 ⟨Nat.le_of_ble_eq_true rfl, Nat.le_of_ble_eq_true rfl⟩) (q := 98) rfl (cs' := 0) rfl (sl' := 0) rfl (fun v18_ h17_ => ?_)
            exact s_iret o dX5_best_98
          · refine s_aload_n o 0 rfl dX5_best_99 (q := 100) rfl ?_
            refine s_gr o kf_X5_62 dX5_best_100 (q := 103) rfl (fun a19_ => ?_)
            refine s_aload_n o 0 rfl dX5_best_103 (q := 104) rfl ?_
            refine s_gr o kf_X5_62 dX5_best_104 (q := 107) rfl (fun a20_ => ?_)
            refine s_gi o kf_X5_185 dX5_best_107 (q := 110) rfl (fun v21_ => ?_)
            refine s_on (fun hk22_ => ?_)
            refine s_bi (fun r0 hr0 => runV o hk22_ cv_X5_191 (c_X1_placeY (xG X) f a19_ v21_ h10_ (xl X) r0 hr0) ⟨Nat.le_of_ble_eq_true rfl, Nat.le_of_ble_eq_true rfl⟩ rfl rfl (Nat.le_of_ble_eq_true rfl) dX5_best_110 ⟨Nat.le_of_ble_eq_true rfl, Nat.le_of_ble_eq_true rfl⟩) (q := 113) rfl (cs' := 0) rfl (sl' := 0) rfl (fun v24_ h23_ => ?_)
            exact s_iret o dX5_best_113
          · refine s_aload_n o 0 rfl dX5_best_114 (q := 115) rfl ?_
            refine s_gr o kf_X5_62 dX5_best_115 (q := 118) rfl (fun a25_ => ?_)
            refine s_gi o kf_X5_194 dX5_best_118 (q := 121) rfl (fun v26_ => ?_)
            exact s_iret o dX5_best_121
        · refine s_iconst o dX5_best_56 (v := (-1 : Int32)) (by decide) (q := 57) rfl ?_
          exact s_iret o dX5_best_57
      · exact s_sub [] rfl (t_X5_best_19 o f h1_)
  · refine s_ldc o kc_X5_116 dX5_best_7 (q := 9) rfl ?_
    exact s_iret o dX5_best_9
theorem c_X5_best (G : Gx) (f : Nat) (x0 : Nat) (x1 : Int32) (x2 : Int32) (h : Hp) : z_M z_qi G yX5_best cX5_best 3 (some .int) 6 133 0 0 [rf G x0, .int x1, .int x2] h (f_X5_best f x0 x1 x2 h) :=
  z_met (by decide +kernel) (Nat.le_of_ble_eq_true rfl) (fun X hG hn o hnm => by
    subst hG
    show Sim X (z_Zi X 0 0) 0 0 0 [(0, rf (xG X) x0), (1, .int x1), (2, .int x2)] [] h _
    exact s_sub [0, 1, 2] rfl (t_X5_best_0 o f x0 x1 x2 h))
/-! SixMaps.bestCorner(II)I -/
def b_X5_bestCorner_170 (f : Nat)  (y0 : Int32) (h : Hp) : Option (Int32 × Hp) :=
  some (y0, h)
def b_X5_bestCorner_138 (f : Nat) (k61 : Nat → Int32 → Int32 → Int32 → Int32 → Int32 → Int32 → Hp → Option (Int32 × Hp)) (k71 : Nat → Int32 → Int32 → Int32 → Int32 → Int32 → Int32 → Int32 → Hp → Option (Int32 × Hp)) (x0 : Nat) (x1 : Int32) (x2 : Int32) (x3 : Int32) (x4 : Int32) (x5 : Int32) (x6 : Int32) (x7 : Int32) (h : Hp) : Option (Int32 × Hp) :=
  lt (x7 + (1 : Int32)) fun v1_ =>
  k71 x0 x1 x2 x3 x4 x5 x6 v1_ h
def b_X5_bestCorner_127 (f : Nat) (k61 : Nat → Int32 → Int32 → Int32 → Int32 → Int32 → Int32 → Hp → Option (Int32 × Hp)) (k71 : Nat → Int32 → Int32 → Int32 → Int32 → Int32 → Int32 → Int32 → Hp → Option (Int32 × Hp)) (x0 : Nat) (x1 : Int32) (x2 : Int32) (x6 : Int32) (x7 : Int32) (x8 : Int32) (h : Hp) : Option (Int32 × Hp) :=
  b_X5_bestCorner_138 f k61 k71 x0 x1 x2 x6 x7 x8 x6 x7 h
def b_X5_bestCorner_71 (f : Nat) (k61 : Nat → Int32 → Int32 → Int32 → Int32 → Int32 → Int32 → Hp → Option (Int32 × Hp)) (k71 : Nat → Int32 → Int32 → Int32 → Int32 → Int32 → Int32 → Int32 → Hp → Option (Int32 × Hp)) (x0 : Nat) (x1 : Int32) (x2 : Int32) (x3 : Int32) (x4 : Int32) (x5 : Int32) (x6 : Int32) (x7 : Int32) (h : Hp) : Option (Int32 × Hp) :=
  (q_gr h x0 5 3).bind fun a1_ =>
  (q_gi h a1_ 0 4).bind fun v2_ =>
  if v2_ ≤ x7 then
  (lt (x6 + (1 : Int32)) fun v3_ =>
  k61 x0 x1 x2 x3 x4 x5 v3_ h)
  else
  ((q_gr h x0 5 6).bind fun a4_ =>
  q_on h a4_ 4 (
  bi (f_X4_has f a4_ x1 x6 x7 h) fun v7_ h6_ =>
  if v7_ = 0 then
  ((q_gr h6_ x0 5 10).bind fun a8_ =>
  q_on h6_ a8_ 1 (
  bi (f_X1_leftAtWorst f a8_ x6 x7 h6_) fun v11_ h10_ =>
  if x5 = (-1 : Int32) then
  (b_X5_bestCorner_127 f k61 k71 x0 x1 x2 x6 x7 v11_ h10_)
  else
  (if x5 ≤ v11_ then
  (b_X5_bestCorner_138 f k61 k71 x0 x1 x2 x3 x4 x5 x6 x7 h10_)
  else
  (b_X5_bestCorner_127 f k61 k71 x0 x1 x2 x6 x7 v11_ h10_))))
  else
  (b_X5_bestCorner_138 f k61 k71 x0 x1 x2 x3 x4 x5 x6 x7 h6_)))
def l_X5_bestCorner_71 (f : Nat) (k61 : Nat → Int32 → Int32 → Int32 → Int32 → Int32 → Int32 → Hp → Option (Int32 × Hp)) : Nat → Nat → Int32 → Int32 → Int32 → Int32 → Int32 → Int32 → Int32 → Hp → Option (Int32 × Hp)
  | 0, _, _, _, _, _, _, _, _, _ => none
  | n + 1, x0, x1, x2, x3, x4, x5, x6, x7, h => b_X5_bestCorner_71 f k61 (l_X5_bestCorner_71 f k61 n) x0 x1 x2 x3 x4 x5 x6 x7 h
def b_X5_bestCorner_61 (f : Nat) (k61 : Nat → Int32 → Int32 → Int32 → Int32 → Int32 → Int32 → Hp → Option (Int32 × Hp)) (x0 : Nat) (x1 : Int32) (x2 : Int32) (x3 : Int32) (x4 : Int32) (x5 : Int32) (x6 : Int32) (h : Hp) : Option (Int32 × Hp) :=
  if (6 : Int32) ≤ x6 then
  (if ¬ x2 = 0 then
  (if ¬ x2 = (1 : Int32) then
  (b_X5_bestCorner_170 f x5 h)
  else
  (b_X5_bestCorner_170 f x4 h))
  else
  (b_X5_bestCorner_170 f x3 h))
  else
  (l_X5_bestCorner_71 f k61 f x0 x1 x2 x3 x4 x5 x6 (0 : Int32) h)
def l_X5_bestCorner_61 (f : Nat)  : Nat → Nat → Int32 → Int32 → Int32 → Int32 → Int32 → Int32 → Hp → Option (Int32 × Hp)
  | 0, _, _, _, _, _, _, _, _ => none
  | n + 1, x0, x1, x2, x3, x4, x5, x6, h => b_X5_bestCorner_61 f  (l_X5_bestCorner_61 f  n) x0 x1 x2 x3 x4 x5 x6 h
def b_X5_bestCorner_19 (f : Nat)   (h : Hp) : Option (Int32 × Hp) :=
  some ((-1000002 : Int32), h)
def f_X5_bestCorner (f : Nat)  (x0 : Nat) (x1 : Int32) (x2 : Int32) (h : Hp) : Option (Int32 × Hp) :=
  bi (f_X5_isBand f x1 h) fun v2_ h1_ =>
  if ¬ v2_ = 0 then
  (if x2 < 0 then
  (b_X5_bestCorner_19 f h1_)
  else
  (if x2 ≤ (2 : Int32) then
  ((q_gr h1_ x0 5 10).bind fun a3_ =>
  (q_gr h1_ x0 5 3).bind fun a4_ =>
  (q_gr h1_ x0 5 6).bind fun a5_ =>
  q_on h1_ a3_ 1 (
  (f_X1_weigh f a3_ a4_ a5_ x1 h1_).bind fun h7_ =>
  (q_gr h7_ x0 5 10).bind fun a8_ =>
  (q_gi h7_ a8_ 1 12).bind fun v9_ =>
  if ¬ v9_ = 0 then
  (l_X5_bestCorner_61 f f x0 x1 x2 (-1 : Int32) (-1 : Int32) (-1 : Int32) (0 : Int32) h7_)
  else
  (some ((-1 : Int32), h7_))))
  else
  (b_X5_bestCorner_19 f h1_)))
  else
  (some ((-1000001 : Int32), h1_))
set_option maxRecDepth 20000 in
theorem t_X5_bestCorner_170 {X : Cx} (o : Ok X RX5 cX5_bestCorner 9 7 160 0 0 (some .int)) (f : Nat)  (y0 : Int32) (h : Hp) : Sim X (z_Zi X 0 0) 0 0 170 [] [.int y0] h (b_X5_bestCorner_170 f y0 h) := by
  unfold b_X5_bestCorner_170
  exact s_iret o dX5_bestCorner_170
set_option maxRecDepth 20000 in
theorem t_X5_bestCorner_138 {X : Cx} (o : Ok X RX5 cX5_bestCorner 9 7 160 0 0 (some .int)) (f : Nat) {k61 : Nat → Int32 → Int32 → Int32 → Int32 → Int32 → Int32 → Hp → Option (Int32 × Hp)} (hk61 : ∀ (x0 : Nat) (x1 : Int32) (x2 : Int32) (x3 : Int32) (x4 : Int32) (x5 : Int32) (x6 : Int32) (h : Hp), Sim X (z_Zi X 0 0) 0 0 61 [(0, rf (xG X) x0), (1, .int x1), (2, .int x2), (3, .int x3), (4, .int x4), (5, .int x5), (6, .int x6)] [] h (k61 x0 x1 x2 x3 x4 x5 x6 h)) {k71 : Nat → Int32 → Int32 → Int32 → Int32 → Int32 → Int32 → Int32 → Hp → Option (Int32 × Hp)} (hk71 : ∀ (x0 : Nat) (x1 : Int32) (x2 : Int32) (x3 : Int32) (x4 : Int32) (x5 : Int32) (x6 : Int32) (x7 : Int32) (h : Hp), Sim X (z_Zi X 0 0) 0 0 71 [(0, rf (xG X) x0), (1, .int x1), (2, .int x2), (3, .int x3), (4, .int x4), (5, .int x5), (6, .int x6), (7, .int x7)] [] h (k71 x0 x1 x2 x3 x4 x5 x6 x7 h)) (x0 : Nat) (x1 : Int32) (x2 : Int32) (x3 : Int32) (x4 : Int32) (x5 : Int32) (x6 : Int32) (x7 : Int32) (h : Hp) : Sim X (z_Zi X 0 0) 0 0 138 [(0, rf (xG X) x0), (1, .int x1), (2, .int x2), (3, .int x3), (4, .int x4), (5, .int x5), (6, .int x6), (7, .int x7)] [] h (b_X5_bestCorner_138 f k61 k71 x0 x1 x2 x3 x4 x5 x6 x7 h) := by
  unfold b_X5_bestCorner_138
  refine s_iinc o 7 rfl (v := (1 : Int32)) (by decide) [1, 2, 3, 4, 5, 6, 7, 0] (lv' := fun v1_ => [(0, rf (xG X) x0), (1, .int x1), (2, .int x2), (3, .int x3), (4, .int x4), (5, .int x5), (6, .int x6), (7, .int v1_)]) (fun _ => rfl) dX5_bestCorner_138 (by decide) (q := 141) rfl (fun v1_ => ?_)
  refine s_goto o (tgt := 71) dX5_bestCorner_141 (by decide) ?_
  exact s_sub [0, 1, 2, 3, 4, 5, 6, 7] rfl (hk71 x0 x1 x2 x3 x4 x5 x6 v1_ h)
set_option maxRecDepth 20000 in
theorem t_X5_bestCorner_127 {X : Cx} (o : Ok X RX5 cX5_bestCorner 9 7 160 0 0 (some .int)) (f : Nat) {k61 : Nat → Int32 → Int32 → Int32 → Int32 → Int32 → Int32 → Hp → Option (Int32 × Hp)} (hk61 : ∀ (x0 : Nat) (x1 : Int32) (x2 : Int32) (x3 : Int32) (x4 : Int32) (x5 : Int32) (x6 : Int32) (h : Hp), Sim X (z_Zi X 0 0) 0 0 61 [(0, rf (xG X) x0), (1, .int x1), (2, .int x2), (3, .int x3), (4, .int x4), (5, .int x5), (6, .int x6)] [] h (k61 x0 x1 x2 x3 x4 x5 x6 h)) {k71 : Nat → Int32 → Int32 → Int32 → Int32 → Int32 → Int32 → Int32 → Hp → Option (Int32 × Hp)} (hk71 : ∀ (x0 : Nat) (x1 : Int32) (x2 : Int32) (x3 : Int32) (x4 : Int32) (x5 : Int32) (x6 : Int32) (x7 : Int32) (h : Hp), Sim X (z_Zi X 0 0) 0 0 71 [(0, rf (xG X) x0), (1, .int x1), (2, .int x2), (3, .int x3), (4, .int x4), (5, .int x5), (6, .int x6), (7, .int x7)] [] h (k71 x0 x1 x2 x3 x4 x5 x6 x7 h)) (x0 : Nat) (x1 : Int32) (x2 : Int32) (x6 : Int32) (x7 : Int32) (x8 : Int32) (h : Hp) : Sim X (z_Zi X 0 0) 0 0 127 [(0, rf (xG X) x0), (1, .int x1), (2, .int x2), (6, .int x6), (7, .int x7), (8, .int x8)] [] h (b_X5_bestCorner_127 f k61 k71 x0 x1 x2 x6 x7 x8 h) := by
  unfold b_X5_bestCorner_127
  refine s_iload o 5 rfl dX5_bestCorner_127 (q := 129) rfl ?_
  refine s_istore o [1, 2, 3, 0, 4, 5, 6] (lv' := [(0, rf (xG X) x0), (1, .int x1), (2, .int x2), (5, .int x8), (6, .int x6), (7, .int x7), (8, .int x8)]) rfl dX5_bestCorner_129 (by decide) (q := 131) rfl ?_
  refine s_iload o 4 rfl dX5_bestCorner_131 (q := 133) rfl ?_
  refine s_istore_n o [1, 2, 3, 0, 4, 5, 6, 7] (lv' := [(0, rf (xG X) x0), (1, .int x1), (2, .int x2), (3, .int x6), (5, .int x8), (6, .int x6), (7, .int x7), (8, .int x8)]) rfl dX5_bestCorner_133 (by decide) (q := 134) rfl ?_
  refine s_iload o 6 rfl dX5_bestCorner_134 (q := 136) rfl ?_
  refine s_istore o [1, 2, 3, 4, 0, 5, 6, 7, 8] (lv' := [(0, rf (xG X) x0), (1, .int x1), (2, .int x2), (3, .int x6), (4, .int x7), (5, .int x8), (6, .int x6), (7, .int x7), (8, .int x8)]) rfl dX5_bestCorner_136 (by decide) (q := 138) rfl ?_
  exact s_sub [0, 1, 2, 3, 4, 5, 6, 7] rfl (t_X5_bestCorner_138 o f hk61 hk71 x0 x1 x2 x6 x7 x8 x6 x7 h)
set_option maxRecDepth 20000 in
theorem t_X5_bestCorner_71 {X : Cx} (o : Ok X RX5 cX5_bestCorner 9 7 160 0 0 (some .int)) (f : Nat) {k61 : Nat → Int32 → Int32 → Int32 → Int32 → Int32 → Int32 → Hp → Option (Int32 × Hp)} (hk61 : ∀ (x0 : Nat) (x1 : Int32) (x2 : Int32) (x3 : Int32) (x4 : Int32) (x5 : Int32) (x6 : Int32) (h : Hp), Sim X (z_Zi X 0 0) 0 0 61 [(0, rf (xG X) x0), (1, .int x1), (2, .int x2), (3, .int x3), (4, .int x4), (5, .int x5), (6, .int x6)] [] h (k61 x0 x1 x2 x3 x4 x5 x6 h)) {k71 : Nat → Int32 → Int32 → Int32 → Int32 → Int32 → Int32 → Int32 → Hp → Option (Int32 × Hp)} (hk71 : ∀ (x0 : Nat) (x1 : Int32) (x2 : Int32) (x3 : Int32) (x4 : Int32) (x5 : Int32) (x6 : Int32) (x7 : Int32) (h : Hp), Sim X (z_Zi X 0 0) 0 0 71 [(0, rf (xG X) x0), (1, .int x1), (2, .int x2), (3, .int x3), (4, .int x4), (5, .int x5), (6, .int x6), (7, .int x7)] [] h (k71 x0 x1 x2 x3 x4 x5 x6 x7 h)) (x0 : Nat) (x1 : Int32) (x2 : Int32) (x3 : Int32) (x4 : Int32) (x5 : Int32) (x6 : Int32) (x7 : Int32) (h : Hp) : Sim X (z_Zi X 0 0) 0 0 71 [(0, rf (xG X) x0), (1, .int x1), (2, .int x2), (3, .int x3), (4, .int x4), (5, .int x5), (6, .int x6), (7, .int x7)] [] h (b_X5_bestCorner_71 f k61 k71 x0 x1 x2 x3 x4 x5 x6 x7 h) := by
  unfold b_X5_bestCorner_71
  refine s_iload o 7 rfl dX5_bestCorner_71 (q := 73) rfl ?_
  refine s_aload_n o 0 rfl dX5_bestCorner_73 (q := 74) rfl ?_
  refine s_gr o kf_X5_23 dX5_bestCorner_74 (q := 77) rfl (fun a1_ => ?_)
  refine s_gi o kf_X5_75 dX5_bestCorner_77 (q := 80) rfl (fun v2_ => ?_)
  refine s_ic_ge o (tgt := 144) dX5_bestCorner_80 (by decide) (q := 83) rfl ?_ ?_
  · refine s_iinc o 6 rfl (v := (1 : Int32)) (by decide) [1, 2, 3, 4, 5, 6, 0, 7] (lv' := fun v3_ => [(0, rf (xG X) x0), (1, .int x1), (2, .int x2), (3, .int x3), (4, .int x4), (5, .int x5), (6, .int v3_), (7, .int x7)]) (fun _ => rfl) dX5_bestCorner_144 (by decide) (q := 147) rfl (fun v3_ => ?_)
    refine s_goto o (tgt := 61) dX5_bestCorner_147 (by decide) ?_
    exact s_sub [0, 1, 2, 3, 4, 5, 6] rfl (hk61 x0 x1 x2 x3 x4 x5 v3_ h)
  · refine s_aload_n o 0 rfl dX5_bestCorner_83 (q := 84) rfl ?_
    refine s_gr o kf_X5_40 dX5_bestCorner_84 (q := 87) rfl (fun a4_ => ?_)
    refine s_iload_n o 1 rfl dX5_bestCorner_87 (q := 88) rfl ?_
    refine s_iload o 6 rfl dX5_bestCorner_88 (q := 90) rfl ?_
    refine s_iload o 7 rfl dX5_bestCorner_90 (q := 92) rfl ?_
    refine s_on (fun hk5_ => ?_)
    refine s_bi (fun r0 hr0 => runV o hk5_ cv_X5_141 (c_X4_has (xG X) f a4_ x1 x6 x7 h (xl X) r0 hr0) ⟨Nat.le_of_ble_eq_true rfl, Nat.le_of_ble_eq_true rfl⟩ rfl rfl (Nat.le_of_ble_eq_true rfl) dX5_bestCorner_92 ⟨Nat.le_of_ble_eq_true rfl, Nat.le_of_ble_eq_true rfl⟩) (q := 95) rfl (cs' := 0) rfl (sl' := 0) rfl (fun v7_ h6_ => ?_)
    refine s_if_eq o (tgt := 101) dX5_bestCorner_95 (by decide) (q := 98) rfl ?_ ?_
    · refine s_aload_n o 0 rfl dX5_bestCorner_101 (q := 102) rfl ?_
      refine s_gr o kf_X5_62 dX5_bestCorner_102 (q := 105) rfl (fun a8_ => ?_)
      refine s_iload o 6 rfl dX5_bestCorner_105 (q := 107) rfl ?_
      refine s_iload o 7 rfl dX5_bestCorner_107 (q := 109) rfl ?_
      refine s_on (fun hk9_ => ?_)
      refine s_bi (fun r0 hr0 => runV o hk9_ cv_X5_200 (c_X1_leftAtWorst (xG X) f a8_ x6 x7 h6_ (xl X) r0 hr0) ⟨Nat.le_of_ble_eq_true rfl, Nat.le_of_ble_eq_true rfl⟩ rfl rfl (Nat.le_of_ble_eq_true rfl) dX5_bestCorner_109 ⟨Nat.le_of_ble_eq_true rfl, Nat.le_of_ble_eq_true rfl⟩) (q := 112) rfl (cs' := 0) rfl (sl' := 0) rfl (fun v11_ h10_ => ?_)
      refine s_istore o [1, 2, 3, 4, 5, 6, 7, 8, 0] (lv' := [(0, rf (xG X) x0), (1, .int x1), (2, .int x2), (3, .int x3), (4, .int x4), (5, .int x5), (6, .int x6), (7, .int x7), (8, .int v11_)]) rfl dX5_bestCorner_112 (by decide) (q := 114) rfl ?_
      refine s_iload o 5 rfl dX5_bestCorner_114 (q := 116) rfl ?_
      refine s_iconst o dX5_bestCorner_116 (v := (-1 : Int32)) (by decide) (q := 117) rfl ?_
      refine s_ic_eq o (tgt := 127) dX5_bestCorner_117 (by decide) (q := 120) rfl ?_ ?_
      · exact s_sub [0, 1, 2, 6, 7, 8] rfl (t_X5_bestCorner_127 o f hk61 hk71 x0 x1 x2 x6 x7 v11_ h10_)
      · refine s_iload o 8 rfl dX5_bestCorner_120 (q := 122) rfl ?_
        refine s_iload o 5 rfl dX5_bestCorner_122 (q := 124) rfl ?_
        refine s_ic_ge o (tgt := 138) dX5_bestCorner_124 (by decide) (q := 127) rfl ?_ ?_
        · exact s_sub [0, 1, 2, 3, 4, 5, 6, 7] rfl (t_X5_bestCorner_138 o f hk61 hk71 x0 x1 x2 x3 x4 x5 x6 x7 h10_)
        · exact s_sub [0, 1, 2, 6, 7, 8] rfl (t_X5_bestCorner_127 o f hk61 hk71 x0 x1 x2 x6 x7 v11_ h10_)
    · refine s_goto o (tgt := 138) dX5_bestCorner_98 (by decide) ?_
      exact s_sub [0, 1, 2, 3, 4, 5, 6, 7] rfl (t_X5_bestCorner_138 o f hk61 hk71 x0 x1 x2 x3 x4 x5 x6 x7 h6_)
theorem tl_X5_bestCorner_71 {X : Cx} (o : Ok X RX5 cX5_bestCorner 9 7 160 0 0 (some .int)) (f : Nat) {k61 : Nat → Int32 → Int32 → Int32 → Int32 → Int32 → Int32 → Hp → Option (Int32 × Hp)} (hk61 : ∀ (x0 : Nat) (x1 : Int32) (x2 : Int32) (x3 : Int32) (x4 : Int32) (x5 : Int32) (x6 : Int32) (h : Hp), Sim X (z_Zi X 0 0) 0 0 61 [(0, rf (xG X) x0), (1, .int x1), (2, .int x2), (3, .int x3), (4, .int x4), (5, .int x5), (6, .int x6)] [] h (k61 x0 x1 x2 x3 x4 x5 x6 h)) : ∀ (n : Nat) (x0 : Nat) (x1 : Int32) (x2 : Int32) (x3 : Int32) (x4 : Int32) (x5 : Int32) (x6 : Int32) (x7 : Int32) (h : Hp), Sim X (z_Zi X 0 0) 0 0 71 [(0, rf (xG X) x0), (1, .int x1), (2, .int x2), (3, .int x3), (4, .int x4), (5, .int x5), (6, .int x6), (7, .int x7)] [] h (l_X5_bestCorner_71 f k61 n x0 x1 x2 x3 x4 x5 x6 x7 h) := by
  intro n
  induction n with
  | zero => intro x0 x1 x2 x3 x4 x5 x6 x7 h; exact s_none
  | succ n ih => intro x0 x1 x2 x3 x4 x5 x6 x7 h; exact t_X5_bestCorner_71 o f hk61 ih x0 x1 x2 x3 x4 x5 x6 x7 h
set_option maxRecDepth 20000 in
theorem t_X5_bestCorner_61 {X : Cx} (o : Ok X RX5 cX5_bestCorner 9 7 160 0 0 (some .int)) (f : Nat) {k61 : Nat → Int32 → Int32 → Int32 → Int32 → Int32 → Int32 → Hp → Option (Int32 × Hp)} (hk61 : ∀ (x0 : Nat) (x1 : Int32) (x2 : Int32) (x3 : Int32) (x4 : Int32) (x5 : Int32) (x6 : Int32) (h : Hp), Sim X (z_Zi X 0 0) 0 0 61 [(0, rf (xG X) x0), (1, .int x1), (2, .int x2), (3, .int x3), (4, .int x4), (5, .int x5), (6, .int x6)] [] h (k61 x0 x1 x2 x3 x4 x5 x6 h)) (x0 : Nat) (x1 : Int32) (x2 : Int32) (x3 : Int32) (x4 : Int32) (x5 : Int32) (x6 : Int32) (h : Hp) : Sim X (z_Zi X 0 0) 0 0 61 [(0, rf (xG X) x0), (1, .int x1), (2, .int x2), (3, .int x3), (4, .int x4), (5, .int x5), (6, .int x6)] [] h (b_X5_bestCorner_61 f k61 x0 x1 x2 x3 x4 x5 x6 h) := by
  unfold b_X5_bestCorner_61
  refine s_iload o 6 rfl dX5_bestCorner_61 (q := 63) rfl ?_
  refine s_bipush o dX5_bestCorner_63 (v := (6 : Int32)) (by decide) (q := 65) rfl ?_
  refine s_ic_ge o (tgt := 150) dX5_bestCorner_65 (by decide) (q := 68) rfl ?_ ?_
  · refine s_iload_n o 2 rfl dX5_bestCorner_150 (q := 151) rfl ?_
    refine s_if_ne o (tgt := 158) dX5_bestCorner_151 (by decide) (q := 154) rfl ?_ ?_
    · refine s_iload_n o 2 rfl dX5_bestCorner_158 (q := 159) rfl ?_
      refine s_iconst o dX5_bestCorner_159 (v := (1 : Int32)) (by decide) (q := 160) rfl ?_
      refine s_ic_ne o (tgt := 168) dX5_bestCorner_160 (by decide) (q := 163) rfl ?_ ?_
      · refine s_iload o 5 rfl dX5_bestCorner_168 (q := 170) rfl ?_
        exact s_sub [] rfl (t_X5_bestCorner_170 o f x5 h)
      · refine s_iload o 4 rfl dX5_bestCorner_163 (q := 165) rfl ?_
        refine s_goto o (tgt := 170) dX5_bestCorner_165 (by decide) ?_
        exact s_sub [] rfl (t_X5_bestCorner_170 o f x4 h)
    · refine s_iload_n o 3 rfl dX5_bestCorner_154 (q := 155) rfl ?_
      refine s_goto o (tgt := 170) dX5_bestCorner_155 (by decide) ?_
      exact s_sub [] rfl (t_X5_bestCorner_170 o f x3 h)
  · refine s_iconst o dX5_bestCorner_68 (v := (0 : Int32)) (by decide) (q := 69) rfl ?_
    refine s_istore o [1, 2, 3, 4, 5, 6, 7, 0] (lv' := [(0, rf (xG X) x0), (1, .int x1), (2, .int x2), (3, .int x3), (4, .int x4), (5, .int x5), (6, .int x6), (7, .int (0 : Int32))]) rfl dX5_bestCorner_69 (by decide) (q := 71) rfl ?_
    exact s_sub [0, 1, 2, 3, 4, 5, 6, 7] rfl (tl_X5_bestCorner_71 o f hk61 f x0 x1 x2 x3 x4 x5 x6 (0 : Int32) h)
theorem tl_X5_bestCorner_61 {X : Cx} (o : Ok X RX5 cX5_bestCorner 9 7 160 0 0 (some .int)) (f : Nat)  : ∀ (n : Nat) (x0 : Nat) (x1 : Int32) (x2 : Int32) (x3 : Int32) (x4 : Int32) (x5 : Int32) (x6 : Int32) (h : Hp), Sim X (z_Zi X 0 0) 0 0 61 [(0, rf (xG X) x0), (1, .int x1), (2, .int x2), (3, .int x3), (4, .int x4), (5, .int x5), (6, .int x6)] [] h (l_X5_bestCorner_61 f n x0 x1 x2 x3 x4 x5 x6 h) := by
  intro n
  induction n with
  | zero => intro x0 x1 x2 x3 x4 x5 x6 h; exact s_none
  | succ n ih => intro x0 x1 x2 x3 x4 x5 x6 h; exact t_X5_bestCorner_61 o f  ih x0 x1 x2 x3 x4 x5 x6 h
set_option maxRecDepth 20000 in
theorem t_X5_bestCorner_19 {X : Cx} (o : Ok X RX5 cX5_bestCorner 9 7 160 0 0 (some .int)) (f : Nat)   (h : Hp) : Sim X (z_Zi X 0 0) 0 0 19 [] [] h (b_X5_bestCorner_19 f h) := by
  unfold b_X5_bestCorner_19
  refine s_ldc o kc_X5_66 dX5_bestCorner_19 (q := 21) rfl ?_
  exact s_iret o dX5_bestCorner_21
set_option maxRecDepth 20000 in
theorem t_X5_bestCorner_0 {X : Cx} (o : Ok X RX5 cX5_bestCorner 9 7 160 0 0 (some .int)) (f : Nat)  (x0 : Nat) (x1 : Int32) (x2 : Int32) (h : Hp) : Sim X (z_Zi X 0 0) 0 0 0 [(0, rf (xG X) x0), (1, .int x1), (2, .int x2)] [] h (f_X5_bestCorner f x0 x1 x2 h) := by
  unfold f_X5_bestCorner
  refine s_iload_n o 1 rfl dX5_bestCorner_0 (q := 1) rfl ?_
  refine s_bi (fun r0 hr0 => runS o cs_X5_124 (c_X5_isBand (xG X) f x1 h (xl X) r0 hr0) ⟨Nat.le_of_ble_eq_true rfl, Nat.le_of_ble_eq_true rfl⟩ rfl rfl (Nat.le_of_ble_eq_true rfl) dX5_bestCorner_1 ⟨Nat.le_of_ble_eq_true rfl, Nat.le_of_ble_eq_true rfl⟩) (q := 4) rfl (cs' := 0) rfl (sl' := 0) rfl (fun v2_ h1_ => ?_)
  refine s_if_ne o (tgt := 10) dX5_bestCorner_4 (by decide) (q := 7) rfl ?_ ?_
  · refine s_iload_n o 2 rfl dX5_bestCorner_10 (q := 11) rfl ?_
    refine s_if_lt o (tgt := 19) dX5_bestCorner_11 (by decide) (q := 14) rfl ?_ ?_
    · exact s_sub [] rfl (t_X5_bestCorner_19 o f h1_)
    · refine s_iload_n o 2 rfl dX5_bestCorner_14 (q := 15) rfl ?_
      refine s_iconst o dX5_bestCorner_15 (v := (2 : Int32)) (by decide) (q := 16) rfl ?_
      refine s_ic_le o (tgt := 22) dX5_bestCorner_16 (by decide) (q := 19) rfl ?_ ?_
      · refine s_aload_n o 0 rfl dX5_bestCorner_22 (q := 23) rfl ?_
        refine s_gr o kf_X5_62 dX5_bestCorner_23 (q := 26) rfl (fun a3_ => ?_)
        refine s_aload_n o 0 rfl dX5_bestCorner_26 (q := 27) rfl ?_
        refine s_gr o kf_X5_23 dX5_bestCorner_27 (q := 30) rfl (fun a4_ => ?_)
        refine s_aload_n o 0 rfl dX5_bestCorner_30 (q := 31) rfl ?_
        refine s_gr o kf_X5_40 dX5_bestCorner_31 (q := 34) rfl (fun a5_ => ?_)
        refine s_iload_n o 1 rfl dX5_bestCorner_34 (q := 35) rfl ?_
        refine s_on (fun hk6_ => ?_)
        refine s_callv (fun r0 hr0 => runV o hk6_ cv_X5_161 (c_X1_weigh (xG X) f a3_ a4_ a5_ x1 h1_ (xl X) r0 hr0) ⟨Nat.le_of_ble_eq_true rfl, Nat.le_of_ble_eq_true rfl⟩ rfl rfl (Nat.le_of_ble_eq_true rfl) dX5_bestCorner_35 ⟨Nat.le_of_ble_eq_true rfl, Nat.le_of_ble_eq_true rfl⟩) (q := 38) rfl (cs' := 0) rfl (sl' := 0) rfl (fun h7_ => ?_)
        refine s_aload_n o 0 rfl dX5_bestCorner_38 (q := 39) rfl ?_
        refine s_gr o kf_X5_62 dX5_bestCorner_39 (q := 42) rfl (fun a8_ => ?_)
        refine s_gi o kf_X5_165 dX5_bestCorner_42 (q := 45) rfl (fun v9_ => ?_)
        refine s_if_ne o (tgt := 50) dX5_bestCorner_45 (by decide) (q := 48) rfl ?_ ?_
        · refine s_iconst o dX5_bestCorner_50 (v := (-1 : Int32)) (by decide) (q := 51) rfl ?_
          refine s_istore_n o [1, 2, 3, 0] (lv' := [(0, rf (xG X) x0), (1, .int x1), (2, .int x2), (3, .int (-1 : Int32))]) rfl dX5_bestCorner_51 (by decide) (q := 52) rfl ?_
          refine s_iconst o dX5_bestCorner_52 (v := (-1 : Int32)) (by decide) (q := 53) rfl ?_
          refine s_istore o [1, 2, 3, 4, 0] (lv' := [(0, rf (xG X) x0), (1, .int x1), (2, .int x2), (3, .int (-1 : Int32)), (4, .int (-1 : Int32))]) rfl dX5_bestCorner_53 (by decide) (q := 55) rfl ?_
          refine s_iconst o dX5_bestCorner_55 (v := (-1 : Int32)) (by decide) (q := 56) rfl ?_
          refine s_istore o [1, 2, 3, 4, 5, 0] (lv' := [(0, rf (xG X) x0), (1, .int x1), (2, .int x2), (3, .int (-1 : Int32)), (4, .int (-1 : Int32)), (5, .int (-1 : Int32))]) rfl dX5_bestCorner_56 (by decide) (q := 58) rfl ?_
          refine s_iconst o dX5_bestCorner_58 (v := (0 : Int32)) (by decide) (q := 59) rfl ?_
          refine s_istore o [1, 2, 3, 4, 5, 6, 0] (lv' := [(0, rf (xG X) x0), (1, .int x1), (2, .int x2), (3, .int (-1 : Int32)), (4, .int (-1 : Int32)), (5, .int (-1 : Int32)), (6, .int (0 : Int32))]) rfl dX5_bestCorner_59 (by decide) (q := 61) rfl ?_
          exact s_sub [0, 1, 2, 3, 4, 5, 6] rfl (tl_X5_bestCorner_61 o f f x0 x1 x2 (-1 : Int32) (-1 : Int32) (-1 : Int32) (0 : Int32) h7_)
        · refine s_iconst o dX5_bestCorner_48 (v := (-1 : Int32)) (by decide) (q := 49) rfl ?_
          exact s_iret o dX5_bestCorner_49
      · exact s_sub [] rfl (t_X5_bestCorner_19 o f h1_)
  · refine s_ldc o kc_X5_116 dX5_bestCorner_7 (q := 9) rfl ?_
    exact s_iret o dX5_bestCorner_9
theorem c_X5_bestCorner (G : Gx) (f : Nat) (x0 : Nat) (x1 : Int32) (x2 : Int32) (h : Hp) : z_M z_qi G yX5_bestCorner cX5_bestCorner 9 (some .int) 7 160 0 0 [rf G x0, .int x1, .int x2] h (f_X5_bestCorner f x0 x1 x2 h) :=
  z_met (by decide +kernel) (Nat.le_of_ble_eq_true rfl) (fun X hG hn o hnm => by
    subst hG
    show Sim X (z_Zi X 0 0) 0 0 0 [(0, rf (xG X) x0), (1, .int x1), (2, .int x2)] [] h _
    exact s_sub [0, 1, 2] rfl (t_X5_bestCorner_0 o f x0 x1 x2 h))
/-! SixMaps.isMark(I)Z -/
def b_X5_isMark_20 (f : Nat)  (y0 : Int32) (h : Hp) : Option (Int32 × Hp) :=
  q_bo y0 (some (y0, h))
def b_X5_isMark_19 (f : Nat)   (h : Hp) : Option (Int32 × Hp) :=
  b_X5_isMark_20 f (0 : Int32) h
def f_X5_isMark (f : Nat)  (x0 : Nat) (x1 : Int32) (h : Hp) : Option (Int32 × Hp) :=
  if x1 < 0 then
  (b_X5_isMark_19 f h)
  else
  ((q_gr h x0 5 3).bind fun a1_ =>
  (q_gi h a1_ 0 4).bind fun v2_ =>
  if v2_ ≤ x1 then
  (b_X5_isMark_19 f h)
  else
  (b_X5_isMark_20 f (1 : Int32) h))
set_option maxRecDepth 20000 in
theorem t_X5_isMark_20 {X : Cx} (o : Ok X RX5 cX5_isMark 2 0 0 0 0 (some .boolean)) (f : Nat)  (y0 : Int32) (h : Hp) : Sim X (z_Zi X 0 0) 0 0 20 [] [.int y0] h (b_X5_isMark_20 f y0 h) := by
  unfold b_X5_isMark_20
  exact s_zret o dX5_isMark_20
set_option maxRecDepth 20000 in
theorem t_X5_isMark_19 {X : Cx} (o : Ok X RX5 cX5_isMark 2 0 0 0 0 (some .boolean)) (f : Nat)   (h : Hp) : Sim X (z_Zi X 0 0) 0 0 19 [] [] h (b_X5_isMark_19 f h) := by
  unfold b_X5_isMark_19
  refine s_iconst o dX5_isMark_19 (v := (0 : Int32)) (by decide) (q := 20) rfl ?_
  exact s_sub [] rfl (t_X5_isMark_20 o f (0 : Int32) h)
set_option maxRecDepth 20000 in
theorem t_X5_isMark_0 {X : Cx} (o : Ok X RX5 cX5_isMark 2 0 0 0 0 (some .boolean)) (f : Nat)  (x0 : Nat) (x1 : Int32) (h : Hp) : Sim X (z_Zi X 0 0) 0 0 0 [(0, rf (xG X) x0), (1, .int x1)] [] h (f_X5_isMark f x0 x1 h) := by
  unfold f_X5_isMark
  refine s_iload_n o 1 rfl dX5_isMark_0 (q := 1) rfl ?_
  refine s_if_lt o (tgt := 19) dX5_isMark_1 (by decide) (q := 4) rfl ?_ ?_
  · exact s_sub [] rfl (t_X5_isMark_19 o f h)
  · refine s_iload_n o 1 rfl dX5_isMark_4 (q := 5) rfl ?_
    refine s_aload_n o 0 rfl dX5_isMark_5 (q := 6) rfl ?_
    refine s_gr o kf_X5_23 dX5_isMark_6 (q := 9) rfl (fun a1_ => ?_)
    refine s_gi o kf_X5_75 dX5_isMark_9 (q := 12) rfl (fun v2_ => ?_)
    refine s_ic_ge o (tgt := 19) dX5_isMark_12 (by decide) (q := 15) rfl ?_ ?_
    · exact s_sub [] rfl (t_X5_isMark_19 o f h)
    · refine s_iconst o dX5_isMark_15 (v := (1 : Int32)) (by decide) (q := 16) rfl ?_
      refine s_goto o (tgt := 20) dX5_isMark_16 (by decide) ?_
      exact s_sub [] rfl (t_X5_isMark_20 o f (1 : Int32) h)
theorem c_X5_isMark (G : Gx) (f : Nat) (x0 : Nat) (x1 : Int32) (h : Hp) : z_M z_qi G yX5_isMark cX5_isMark 2 (some .boolean) 0 0 0 0 [rf G x0, .int x1] h (f_X5_isMark f x0 x1 h) :=
  z_met (by decide +kernel) (Nat.le_of_ble_eq_true rfl) (fun X hG hn o hnm => by
    subst hG
    show Sim X (z_Zi X 0 0) 0 0 0 [(0, rf (xG X) x0), (1, .int x1)] [] h _
    exact s_sub [0, 1] rfl (t_X5_isMark_0 o f x0 x1 h))
