/-! SixMapsModel.here()I -/
def b_X6_here_62 (f : Nat)  (y0 : Int32) (h : Hp) : Option (Int32 × Hp) :=
  some (y0, h)
def b_X6_here_38 (f : Nat)  (x0 : Nat) (h : Hp) : Option (Int32 × Hp) :=
  (q_gi h x0 6 21).bind fun v1_ =>
  (q_gi h x0 6 19).bind fun v2_ =>
  if v2_ ≤ v1_ then
  (b_X6_here_62 f (-1 : Int32) h)
  else
  ((q_gr h x0 6 18).bind fun a3_ =>
  (q_gi h x0 6 21).bind fun v4_ =>
  (q_ai h a3_ 9 v4_).bind fun v5_ =>
  b_X6_here_62 f v5_ h)
def b_X6_here_0 (f : Nat) (k0 : Nat → Hp → Option (Int32 × Hp)) (x0 : Nat) (h : Hp) : Option (Int32 × Hp) :=
  (q_gi h x0 6 21).bind fun v1_ =>
  (q_gi h x0 6 19).bind fun v2_ =>
  if v2_ ≤ v1_ then
  (b_X6_here_38 f x0 h)
  else
  ((q_gr h x0 6 18).bind fun a3_ =>
  (q_gi h x0 6 21).bind fun v4_ =>
  (q_ai h a3_ 9 v4_).bind fun v5_ =>
  if ¬ v5_ = (32 : Int32) then
  (b_X6_here_38 f x0 h)
  else
  ((q_gi h x0 6 21).bind fun v6_ =>
  (q_pi h x0 6 21 (v6_ + (1 : Int32))).bind fun h7_ =>
  k0 x0 h7_))
def l_X6_here_0 (f : Nat)  : Nat → Nat → Hp → Option (Int32 × Hp)
  | 0, _, _ => none
  | n + 1, x0, h => b_X6_here_0 f  (l_X6_here_0 f  n) x0 h
def f_X6_here (f : Nat) (x0 : Nat) (h : Hp) : Option (Int32 × Hp) := l_X6_here_0 f f x0 h
set_option maxRecDepth 20000 in
theorem t_X6_here_62 {X : Cx} (o : Ok X RX6 cX6_here 1 0 0 0 0 (some .int)) (f : Nat)  (y0 : Int32) (h : Hp) : Sim X (z_Zi X 0 0) 0 0 62 [] [.int y0] h (b_X6_here_62 f y0 h) := by
  unfold b_X6_here_62
  exact s_iret o dX6_here_62
set_option maxRecDepth 20000 in
theorem t_X6_here_38 {X : Cx} (o : Ok X RX6 cX6_here 1 0 0 0 0 (some .int)) (f : Nat)  (x0 : Nat) (h : Hp) : Sim X (z_Zi X 0 0) 0 0 38 [(0, rf (xG X) x0)] [] h (b_X6_here_38 f x0 h) := by
  unfold b_X6_here_38
  refine s_aload_n o 0 rfl dX6_here_38 (q := 39) rfl ?_
  refine s_gi o kf_X6_132 dX6_here_39 (q := 42) rfl (fun v1_ => ?_)
  refine s_aload_n o 0 rfl dX6_here_42 (q := 43) rfl ?_
  refine s_gi o kf_X6_126 dX6_here_43 (q := 46) rfl (fun v2_ => ?_)
  refine s_ic_ge o (tgt := 61) dX6_here_46 (by decide) (q := 49) rfl ?_ ?_
  · refine s_iconst o dX6_here_61 (v := (-1 : Int32)) (by decide) (q := 62) rfl ?_
    exact s_sub [] rfl (t_X6_here_62 o f (-1 : Int32) h)
  · refine s_aload_n o 0 rfl dX6_here_49 (q := 50) rfl ?_
    refine s_gr o kf_X6_47 dX6_here_50 (q := 53) rfl (fun a3_ => ?_)
    refine s_aload_n o 0 rfl dX6_here_53 (q := 54) rfl ?_
    refine s_gi o kf_X6_132 dX6_here_54 (q := 57) rfl (fun v4_ => ?_)
    refine s_iald o dX6_here_57 (q := 58) rfl (fun v5_ => ?_)
    refine s_goto o (tgt := 62) dX6_here_58 (by decide) ?_
    exact s_sub [] rfl (t_X6_here_62 o f v5_ h)
set_option maxRecDepth 20000 in
theorem t_X6_here_0 {X : Cx} (o : Ok X RX6 cX6_here 1 0 0 0 0 (some .int)) (f : Nat) {k0 : Nat → Hp → Option (Int32 × Hp)} (hk0 : ∀ (x0 : Nat) (h : Hp), Sim X (z_Zi X 0 0) 0 0 0 [(0, rf (xG X) x0)] [] h (k0 x0 h)) (x0 : Nat) (h : Hp) : Sim X (z_Zi X 0 0) 0 0 0 [(0, rf (xG X) x0)] [] h (b_X6_here_0 f k0 x0 h) := by
  unfold b_X6_here_0
  refine s_aload_n o 0 rfl dX6_here_0 (q := 1) rfl ?_
  refine s_gi o kf_X6_132 dX6_here_1 (q := 4) rfl (fun v1_ => ?_)
  refine s_aload_n o 0 rfl dX6_here_4 (q := 5) rfl ?_
  refine s_gi o kf_X6_126 dX6_here_5 (q := 8) rfl (fun v2_ => ?_)
  refine s_ic_ge o (tgt := 38) dX6_here_8 (by decide) (q := 11) rfl ?_ ?_
  · exact s_sub [0] rfl (t_X6_here_38 o f x0 h)
  · refine s_aload_n o 0 rfl dX6_here_11 (q := 12) rfl ?_
    refine s_gr o kf_X6_47 dX6_here_12 (q := 15) rfl (fun a3_ => ?_)
    refine s_aload_n o 0 rfl dX6_here_15 (q := 16) rfl ?_
    refine s_gi o kf_X6_132 dX6_here_16 (q := 19) rfl (fun v4_ => ?_)
    refine s_iald o dX6_here_19 (q := 20) rfl (fun v5_ => ?_)
    refine s_bipush o dX6_here_20 (v := (32 : Int32)) (by decide) (q := 22) rfl ?_
    refine s_ic_ne o (tgt := 38) dX6_here_22 (by decide) (q := 25) rfl ?_ ?_
    · exact s_sub [0] rfl (t_X6_here_38 o f x0 h)
    · refine s_aload_n o 0 rfl dX6_here_25 (q := 26) rfl ?_
      refine s_dup o rfl dX6_here_26 (q := 27) rfl ?_
      refine s_gi o kf_X6_132 dX6_here_27 (q := 30) rfl (fun v6_ => ?_)
      refine s_iconst o dX6_here_30 (v := (1 : Int32)) (by decide) (q := 31) rfl ?_
      refine s_iadd o dX6_here_31 (q := 32) rfl ?_
      refine s_pi o kf_X6_132 dX6_here_32 (q := 35) rfl (fun h7_ => ?_)
      refine s_goto o (tgt := 0) dX6_here_35 (by decide) ?_
      exact s_sub [0] rfl (hk0 x0 h7_)
theorem tl_X6_here_0 {X : Cx} (o : Ok X RX6 cX6_here 1 0 0 0 0 (some .int)) (f : Nat)  : ∀ (n : Nat) (x0 : Nat) (h : Hp), Sim X (z_Zi X 0 0) 0 0 0 [(0, rf (xG X) x0)] [] h (l_X6_here_0 f n x0 h) := by
  intro n
  induction n with
  | zero => intro x0 h; exact s_none
  | succ n ih => intro x0 h; exact t_X6_here_0 o f  ih x0 h
theorem c_X6_here (G : Gx) (f : Nat) (x0 : Nat) (h : Hp) : z_M z_qi G yX6_here cX6_here 1 (some .int) 0 0 0 0 [rf G x0] h (f_X6_here f x0 h) :=
  z_met (by decide +kernel) (Nat.le_of_ble_eq_true rfl) (fun X hG hn o hnm => by
    subst hG
    show Sim X (z_Zi X 0 0) 0 0 0 [(0, rf (xG X) x0)] [] h _
    exact s_sub [0] rfl (tl_X6_here_0 o f f x0 h))
/-! SixMapsModel.hunt(I)I -/
def b_X6_hunt_66 (f : Nat) (k35 : Nat → Int32 → Int32 → Hp → Option (Int32 × Hp)) (x0 : Nat) (x1 : Int32) (x2 : Int32) (h : Hp) : Option (Int32 × Hp) :=
  lt (x2 + (1 : Int32)) fun v1_ =>
  k35 x0 x1 v1_ h
def b_X6_hunt_42 (f : Nat) (k35 : Nat → Int32 → Int32 → Hp → Option (Int32 × Hp)) (k42 : Nat → Int32 → Int32 → Int32 → Hp → Option (Int32 × Hp)) (x0 : Nat) (x1 : Int32) (x2 : Int32) (x3 : Int32) (h : Hp) : Option (Int32 × Hp) :=
  if (6 : Int32) ≤ x3 then
  (b_X6_hunt_66 f k35 x0 x1 x2 h)
  else
  ((q_gi h x0 6 16).bind fun v1_ =>
  if 0 ≤ v1_ then
  (b_X6_hunt_66 f k35 x0 x1 x2 h)
  else
  (q_on h x0 6 (
  (f_X6_bandDay f x0 x3 h).bind fun h3_ =>
  lt (x3 + (1 : Int32)) fun v4_ =>
  k42 x0 x1 x2 v4_ h3_)))
def l_X6_hunt_42 (f : Nat) (k35 : Nat → Int32 → Int32 → Hp → Option (Int32 × Hp)) : Nat → Nat → Int32 → Int32 → Int32 → Hp → Option (Int32 × Hp)
  | 0, _, _, _, _, _ => none
  | n + 1, x0, x1, x2, x3, h => b_X6_hunt_42 f k35 (l_X6_hunt_42 f k35 n) x0 x1 x2 x3 h
def b_X6_hunt_35 (f : Nat) (k35 : Nat → Int32 → Int32 → Hp → Option (Int32 × Hp)) (x0 : Nat) (x1 : Int32) (x2 : Int32) (h : Hp) : Option (Int32 × Hp) :=
  if x1 ≤ x2 then
  ((q_gi h x0 6 16).bind fun v1_ =>
  some (v1_, h))
  else
  (l_X6_hunt_42 f k35 f x0 x1 x2 (0 : Int32) h)
def l_X6_hunt_35 (f : Nat)  : Nat → Nat → Int32 → Int32 → Hp → Option (Int32 × Hp)
  | 0, _, _, _, _ => none
  | n + 1, x0, x1, x2, h => b_X6_hunt_35 f  (l_X6_hunt_35 f  n) x0 x1 x2 h
def b_X6_hunt_29 (f : Nat)   (h : Hp) : Option (Int32 × Hp) :=
  some ((-1000003 : Int32), h)
def f_X6_hunt (f : Nat)  (x0 : Nat) (x1 : Int32) (h : Hp) : Option (Int32 × Hp) :=
  bi (f_X6_in f x1.toInt64 (1 : Int64) (20 : Int64) h) fun v2_ h1_ =>
  if ¬ v2_ = 0 then
  ((q_gi h1_ x0 6 16).bind fun v3_ =>
  if 0 ≤ v3_ then
  (b_X6_hunt_29 f h1_)
  else
  ((q_gi h1_ x0 6 0).bind fun v4_ =>
  if ¬ v4_ = 0 then
  (l_X6_hunt_35 f f x0 x1 (0 : Int32) h1_)
  else
  (b_X6_hunt_29 f h1_)))
  else
  (some ((-1000002 : Int32), h1_))
set_option maxRecDepth 20000 in
theorem t_X6_hunt_66 {X : Cx} (o : Ok X RX6 cX6_hunt 4 5 123 0 0 (some .int)) (f : Nat) {k35 : Nat → Int32 → Int32 → Hp → Option (Int32 × Hp)} (hk35 : ∀ (x0 : Nat) (x1 : Int32) (x2 : Int32) (h : Hp), Sim X (z_Zi X 0 0) 0 0 35 [(0, rf (xG X) x0), (1, .int x1), (2, .int x2)] [] h (k35 x0 x1 x2 h)) (x0 : Nat) (x1 : Int32) (x2 : Int32) (h : Hp) : Sim X (z_Zi X 0 0) 0 0 66 [(0, rf (xG X) x0), (1, .int x1), (2, .int x2)] [] h (b_X6_hunt_66 f k35 x0 x1 x2 h) := by
  unfold b_X6_hunt_66
  refine s_iinc o 2 rfl (v := (1 : Int32)) (by decide) [1, 2, 0] (lv' := fun v1_ => [(0, rf (xG X) x0), (1, .int x1), (2, .int v1_)]) (fun _ => rfl) dX6_hunt_66 (by decide) (q := 69) rfl (fun v1_ => ?_)
  refine s_goto o (tgt := 35) dX6_hunt_69 (by decide) ?_
  exact s_sub [0, 1, 2] rfl (hk35 x0 x1 v1_ h)
set_option maxRecDepth 20000 in
theorem t_X6_hunt_42 {X : Cx} (o : Ok X RX6 cX6_hunt 4 5 123 0 0 (some .int)) (f : Nat) {k35 : Nat → Int32 → Int32 → Hp → Option (Int32 × Hp)} (hk35 : ∀ (x0 : Nat) (x1 : Int32) (x2 : Int32) (h : Hp), Sim X (z_Zi X 0 0) 0 0 35 [(0, rf (xG X) x0), (1, .int x1), (2, .int x2)] [] h (k35 x0 x1 x2 h)) {k42 : Nat → Int32 → Int32 → Int32 → Hp → Option (Int32 × Hp)} (hk42 : ∀ (x0 : Nat) (x1 : Int32) (x2 : Int32) (x3 : Int32) (h : Hp), Sim X (z_Zi X 0 0) 0 0 42 [(0, rf (xG X) x0), (1, .int x1), (2, .int x2), (3, .int x3)] [] h (k42 x0 x1 x2 x3 h)) (x0 : Nat) (x1 : Int32) (x2 : Int32) (x3 : Int32) (h : Hp) : Sim X (z_Zi X 0 0) 0 0 42 [(0, rf (xG X) x0), (1, .int x1), (2, .int x2), (3, .int x3)] [] h (b_X6_hunt_42 f k35 k42 x0 x1 x2 x3 h) := by
  unfold b_X6_hunt_42
  refine s_iload_n o 3 rfl dX6_hunt_42 (q := 43) rfl ?_
  refine s_bipush o dX6_hunt_43 (v := (6 : Int32)) (by decide) (q := 45) rfl ?_
  refine s_ic_ge o (tgt := 66) dX6_hunt_45 (by decide) (q := 48) rfl ?_ ?_
  · exact s_sub [0, 1, 2] rfl (t_X6_hunt_66 o f hk35 x0 x1 x2 h)
  · refine s_aload_n o 0 rfl dX6_hunt_48 (q := 49) rfl ?_
    refine s_gi o kf_X6_44 dX6_hunt_49 (q := 52) rfl (fun v1_ => ?_)
    refine s_if_ge o (tgt := 66) dX6_hunt_52 (by decide) (q := 55) rfl ?_ ?_
    · exact s_sub [0, 1, 2] rfl (t_X6_hunt_66 o f hk35 x0 x1 x2 h)
    · refine s_aload_n o 0 rfl dX6_hunt_55 (q := 56) rfl ?_
      refine s_iload_n o 3 rfl dX6_hunt_56 (q := 57) rfl ?_
      refine s_on (fun hk2_ => ?_)
      refine s_callv (fun r0 hr0 => runV o hk2_ cv_X6_377 (c_X6_bandDay (xG X) f x0 x3 h (xl X) r0 hr0) ⟨Nat.le_of_ble_eq_true rfl, Nat.le_of_ble_eq_true rfl⟩ rfl rfl (Nat.le_of_ble_eq_true rfl) dX6_hunt_57 ⟨Nat.le_of_ble_eq_true rfl, Nat.le_of_ble_eq_true rfl⟩) (q := 60) rfl (cs' := 0) rfl (sl' := 0) rfl (fun h3_ => ?_)
      refine s_iinc o 3 rfl (v := (1 : Int32)) (by decide) [1, 2, 3, 0] (lv' := fun v4_ => [(0, rf (xG X) x0), (1, .int x1), (2, .int x2), (3, .int v4_)]) (fun _ => rfl) dX6_hunt_60 (by decide) (q := 63) rfl (fun v4_ => ?_)
      refine s_goto o (tgt := 42) dX6_hunt_63 (by decide) ?_
      exact s_sub [0, 1, 2, 3] rfl (hk42 x0 x1 x2 v4_ h3_)
theorem tl_X6_hunt_42 {X : Cx} (o : Ok X RX6 cX6_hunt 4 5 123 0 0 (some .int)) (f : Nat) {k35 : Nat → Int32 → Int32 → Hp → Option (Int32 × Hp)} (hk35 : ∀ (x0 : Nat) (x1 : Int32) (x2 : Int32) (h : Hp), Sim X (z_Zi X 0 0) 0 0 35 [(0, rf (xG X) x0), (1, .int x1), (2, .int x2)] [] h (k35 x0 x1 x2 h)) : ∀ (n : Nat) (x0 : Nat) (x1 : Int32) (x2 : Int32) (x3 : Int32) (h : Hp), Sim X (z_Zi X 0 0) 0 0 42 [(0, rf (xG X) x0), (1, .int x1), (2, .int x2), (3, .int x3)] [] h (l_X6_hunt_42 f k35 n x0 x1 x2 x3 h) := by
  intro n
  induction n with
  | zero => intro x0 x1 x2 x3 h; exact s_none
  | succ n ih => intro x0 x1 x2 x3 h; exact t_X6_hunt_42 o f hk35 ih x0 x1 x2 x3 h
set_option maxRecDepth 20000 in
theorem t_X6_hunt_35 {X : Cx} (o : Ok X RX6 cX6_hunt 4 5 123 0 0 (some .int)) (f : Nat) {k35 : Nat → Int32 → Int32 → Hp → Option (Int32 × Hp)} (hk35 : ∀ (x0 : Nat) (x1 : Int32) (x2 : Int32) (h : Hp), Sim X (z_Zi X 0 0) 0 0 35 [(0, rf (xG X) x0), (1, .int x1), (2, .int x2)] [] h (k35 x0 x1 x2 h)) (x0 : Nat) (x1 : Int32) (x2 : Int32) (h : Hp) : Sim X (z_Zi X 0 0) 0 0 35 [(0, rf (xG X) x0), (1, .int x1), (2, .int x2)] [] h (b_X6_hunt_35 f k35 x0 x1 x2 h) := by
  unfold b_X6_hunt_35
  refine s_iload_n o 2 rfl dX6_hunt_35 (q := 36) rfl ?_
  refine s_iload_n o 1 rfl dX6_hunt_36 (q := 37) rfl ?_
  refine s_ic_ge o (tgt := 72) dX6_hunt_37 (by decide) (q := 40) rfl ?_ ?_
  · refine s_aload_n o 0 rfl dX6_hunt_72 (q := 73) rfl ?_
    refine s_gi o kf_X6_44 dX6_hunt_73 (q := 76) rfl (fun v1_ => ?_)
    exact s_iret o dX6_hunt_76
  · refine s_iconst o dX6_hunt_40 (v := (0 : Int32)) (by decide) (q := 41) rfl ?_
    refine s_istore_n o [1, 2, 3, 0] (lv' := [(0, rf (xG X) x0), (1, .int x1), (2, .int x2), (3, .int (0 : Int32))]) rfl dX6_hunt_41 (by decide) (q := 42) rfl ?_
    exact s_sub [0, 1, 2, 3] rfl (tl_X6_hunt_42 o f hk35 f x0 x1 x2 (0 : Int32) h)
theorem tl_X6_hunt_35 {X : Cx} (o : Ok X RX6 cX6_hunt 4 5 123 0 0 (some .int)) (f : Nat)  : ∀ (n : Nat) (x0 : Nat) (x1 : Int32) (x2 : Int32) (h : Hp), Sim X (z_Zi X 0 0) 0 0 35 [(0, rf (xG X) x0), (1, .int x1), (2, .int x2)] [] h (l_X6_hunt_35 f n x0 x1 x2 h) := by
  intro n
  induction n with
  | zero => intro x0 x1 x2 h; exact s_none
  | succ n ih => intro x0 x1 x2 h; exact t_X6_hunt_35 o f  ih x0 x1 x2 h
set_option maxRecDepth 20000 in
theorem t_X6_hunt_29 {X : Cx} (o : Ok X RX6 cX6_hunt 4 5 123 0 0 (some .int)) (f : Nat)   (h : Hp) : Sim X (z_Zi X 0 0) 0 0 29 [] [] h (b_X6_hunt_29 f h) := by
  unfold b_X6_hunt_29
  refine s_ldcw o kc_X6_317 dX6_hunt_29 (q := 32) rfl ?_
  exact s_iret o dX6_hunt_32
set_option maxRecDepth 20000 in
theorem t_X6_hunt_0 {X : Cx} (o : Ok X RX6 cX6_hunt 4 5 123 0 0 (some .int)) (f : Nat)  (x0 : Nat) (x1 : Int32) (h : Hp) : Sim X (z_Zi X 0 0) 0 0 0 [(0, rf (xG X) x0), (1, .int x1)] [] h (f_X6_hunt f x0 x1 h) := by
  unfold f_X6_hunt
  refine s_iload_n o 1 rfl dX6_hunt_0 (q := 1) rfl ?_
  refine s_i2l o dX6_hunt_1 (q := 2) rfl ?_
  refine s_lconst o dX6_hunt_2 (v := (1 : Int64)) (by decide) (q := 3) rfl ?_
  refine s_ldc2 o kl_X6_375 dX6_hunt_3 (q := 6) rfl ?_
  refine s_bi (fun r0 hr0 => runS o cs_X6_114 (c_X6_in (xG X) f x1.toInt64 (1 : Int64) (20 : Int64) h (xl X) r0 hr0) ⟨Nat.le_of_ble_eq_true rfl, Nat.le_of_ble_eq_true rfl⟩ rfl rfl (Nat.le_of_ble_eq_true rfl) dX6_hunt_6 ⟨Nat.le_of_ble_eq_true rfl, Nat.le_of_ble_eq_true rfl⟩) (q := 9) rfl (cs' := 0) rfl (sl' := 0) rfl (fun v2_ h1_ => ?_)
  refine s_if_ne o (tgt := 15) dX6_hunt_9 (by decide) (q := 12) rfl ?_ ?_
  · refine s_aload_n o 0 rfl dX6_hunt_15 (q := 16) rfl ?_
    refine s_gi o kf_X6_44 dX6_hunt_16 (q := 19) rfl (fun v3_ => ?_)
    refine s_if_ge o (tgt := 29) dX6_hunt_19 (by decide) (q := 22) rfl ?_ ?_
    · exact s_sub [] rfl (t_X6_hunt_29 o f h1_)
    · refine s_aload_n o 0 rfl dX6_hunt_22 (q := 23) rfl ?_
      refine s_gi o kf_X6_111 dX6_hunt_23 (q := 26) rfl (fun v4_ => ?_)
      refine s_if_ne o (tgt := 33) dX6_hunt_26 (by decide) (q := 29) rfl ?_ ?_
      · refine s_iconst o dX6_hunt_33 (v := (0 : Int32)) (by decide) (q := 34) rfl ?_
        refine s_istore_n o [1, 2, 0] (lv' := [(0, rf (xG X) x0), (1, .int x1), (2, .int (0 : Int32))]) rfl dX6_hunt_34 (by decide) (q := 35) rfl ?_
        exact s_sub [0, 1, 2] rfl (tl_X6_hunt_35 o f f x0 x1 (0 : Int32) h1_)
      · exact s_sub [] rfl (t_X6_hunt_29 o f h1_)
  · refine s_ldc o kc_X6_125 dX6_hunt_12 (q := 14) rfl ?_
    exact s_iret o dX6_hunt_14
theorem c_X6_hunt (G : Gx) (f : Nat) (x0 : Nat) (x1 : Int32) (h : Hp) : z_M z_qi G yX6_hunt cX6_hunt 4 (some .int) 5 123 0 0 [rf G x0, .int x1] h (f_X6_hunt f x0 x1 h) :=
  z_met (by decide +kernel) (Nat.le_of_ble_eq_true rfl) (fun X hG hn o hnm => by
    subst hG
    show Sim X (z_Zi X 0 0) 0 0 0 [(0, rf (xG X) x0), (1, .int x1)] [] h _
    exact s_sub [0, 1] rfl (t_X6_hunt_0 o f x0 x1 h))
/-! SixMapsModel.<init>()V -/
def f_X6_init (f : Nat)  (x0 : Nat) (h : Hp) : Option (Hp) :=
  bn (q_nwa h 9 9) fun a1_ h2_ =>
  (q_pr h2_ x0 6 1 a1_).bind fun h3_ =>
  bn (q_nwa h3_ 9 9) fun a4_ h5_ =>
  (q_pr h5_ x0 6 2 a4_).bind fun h6_ =>
  bn (q_nwa h6_ 9 54) fun a7_ h8_ =>
  (q_pr h8_ x0 6 3 a7_).bind fun h9_ =>
  bn (q_nwa h9_ 9 54) fun a10_ h11_ =>
  (q_pr h11_ x0 6 4 a10_).bind fun h12_ =>
  bn (q_nwa h12_ 9 3) fun a13_ h14_ =>
  (q_pr h14_ x0 6 8 a13_).bind fun h15_ =>
  (q_pi h15_ x0 6 9 (10 : Int32)).bind fun h16_ =>
  (q_pi h16_ x0 6 10 (100 : Int32)).bind fun h17_ =>
  bn (q_nwa h17_ 9 36) fun a18_ h19_ =>
  (q_pr h19_ x0 6 11 a18_).bind fun h20_ =>
  bn (q_nwa h20_ 9 6) fun a21_ h22_ =>
  (q_pr h22_ x0 6 12 a21_).bind fun h23_ =>
  bn (q_nwa h23_ 9 20) fun a24_ h25_ =>
  (q_pr h25_ x0 6 14 a24_).bind fun h26_ =>
  bn (q_nwa h26_ 9 20) fun a27_ h28_ =>
  (q_pr h28_ x0 6 15 a27_).bind fun h29_ =>
  (q_pi h29_ x0 6 16 (-1 : Int32)).bind fun h30_ =>
  bn (q_nwa h30_ 9 400) fun a31_ h32_ =>
  (q_pr h32_ x0 6 18 a31_).bind fun h33_ =>
  (q_pi h33_ x0 6 20 (-1 : Int32)).bind fun h34_ =>
  bn (q_nwa h34_ 9 9) fun a35_ h36_ =>
  (q_pr h36_ x0 6 27 a35_).bind fun h37_ =>
  bn (q_nwa h37_ 9 9) fun a38_ h39_ =>
  (q_pr h39_ x0 6 28 a38_).bind fun h40_ =>
  bn (q_nwa h40_ 9 54) fun a41_ h42_ =>
  (q_pr h42_ x0 6 29 a41_).bind fun h43_ =>
  bn (q_nwa h43_ 9 54) fun a44_ h45_ =>
  (q_pr h45_ x0 6 30 a44_).bind fun h46_ =>
  bn (q_nwa h46_ 10 54) fun a47_ h48_ =>
  (q_pr h48_ x0 6 31 a47_).bind fun h49_ =>
  bn (q_nwa h49_ 9 3) fun a50_ h51_ =>
  (q_pr h51_ x0 6 35 a50_).bind fun h52_ =>
  bn (q_nwa h52_ 10 9) fun a53_ h54_ =>
  (q_pr h54_ x0 6 41 a53_).bind fun h55_ =>
  bn (q_nwa h55_ 9 36) fun a56_ h57_ =>
  (q_pr h57_ x0 6 42 a56_).bind fun h58_ =>
  bn (q_nwa h58_ 9 4) fun a59_ h60_ =>
  (q_pr h60_ x0 6 43 a59_).bind fun h61_ =>
  bn (q_nwa h61_ 9 15) fun a62_ h63_ =>
  (q_pr h63_ x0 6 46 a62_).bind fun h64_ =>
  bn (q_nwa h64_ 9 15) fun a65_ h66_ =>
  (q_pr h66_ x0 6 47 a65_).bind fun h67_ =>
  bn (q_nwa h67_ 9 15) fun a68_ h69_ =>
  (q_pr h69_ x0 6 48 a68_).bind fun h70_ =>
  bn (q_nwa h70_ 9 6) fun a71_ h72_ =>
  (q_pr h72_ x0 6 49 a71_).bind fun h73_ =>
  bn (q_nwa h73_ 9 20) fun a74_ h75_ =>
  (q_pr h75_ x0 6 51 a74_).bind fun h76_ =>
  bn (q_nwa h76_ 9 20) fun a77_ h78_ =>
  (q_pr h78_ x0 6 52 a77_).bind fun h79_ =>
  bn (q_nwa h79_ 10 20) fun a80_ h81_ =>
  (q_pr h81_ x0 6 53 a80_).bind fun h82_ =>
  bn (q_nwa h82_ 9 200) fun a83_ h84_ =>
  (q_pr h84_ x0 6 54 a83_).bind fun h85_ =>
  bn (q_nwa h85_ 10 2) fun a86_ h87_ =>
  (q_pr h87_ x0 6 55 a86_).bind fun h88_ =>
  q_on h88_ x0 6 (
  (f_X6_bare f x0 h88_).bind fun h90_ =>
  some h90_)
set_option maxRecDepth 20000 in
theorem t_X6_init_0 {X : Cx} (o : Ok X RX6 cX6_init 1 1 22 28 1156 none) (hnm : (xM X).name = yX6_init.name) (f : Nat)  (x0 : Nat) (h : Hp) : Sim X (z_Zv X 28 1156) 0 0 0 [(0, rf (xG X) x0)] [] h (f_X6_init f x0 h) := by
  unfold f_X6_init
  refine s_aload_n o 0 rfl dX6_init_0 (q := 1) rfl ?_
  refine s_obj o ob_X6_1 (Nat.le_of_ble_eq_true rfl) (Nat.le_of_ble_eq_true rfl) dX6_init_1 (q := 4) rfl ?_
  refine s_aload_n o 0 rfl dX6_init_4 (q := 5) rfl ?_
  refine s_bipush o dX6_init_5 (v := (9 : Int32)) (by decide) (q := 7) rfl ?_
  refine s_nwa_i o na_int (N := 9) (by decide) (by decide) (by decide) (by decide) (by decide) dX6_init_7 (q := 9) rfl (cs' := 1) rfl (sl' := 9) rfl (fun a1_ h2_ => ?_)
  refine s_prF o kf_X6_7 (fun _ => rfl) (fun _ => rfl) hnm (fun rr e => by rw [← Option.some.inj (show some (RX6, TX6, 56) = some rr from e)]; rfl) dX6_init_9 (q := 12) rfl (fun h3_ => ?_)
  refine s_aload_n o 0 rfl dX6_init_12 (q := 13) rfl ?_
  refine s_bipush o dX6_init_13 (v := (9 : Int32)) (by decide) (q := 15) rfl ?_
  refine s_nwa_i o na_int (N := 9) (by decide) (by decide) (by decide) (by decide) (by decide) dX6_init_15 (q := 17) rfl (cs' := 2) rfl (sl' := 18) rfl (fun a4_ h5_ => ?_)
  refine s_prF o kf_X6_13 (fun _ => rfl) (fun _ => rfl) hnm (fun rr e => by rw [← Option.some.inj (show some (RX6, TX6, 56) = some rr from e)]; rfl) dX6_init_17 (q := 20) rfl (fun h6_ => ?_)
  refine s_aload_n o 0 rfl dX6_init_20 (q := 21) rfl ?_
  refine s_bipush o dX6_init_21 (v := (54 : Int32)) (by decide) (q := 23) rfl ?_
  refine s_nwa_i o na_int (N := 54) (by decide) (by decide) (by decide) (by decide) (by decide) dX6_init_23 (q := 25) rfl (cs' := 3) rfl (sl' := 72) rfl (fun a7_ h8_ => ?_)
  refine s_prF o kf_X6_16 (fun _ => rfl) (fun _ => rfl) hnm (fun rr e => by rw [← Option.some.inj (show some (RX6, TX6, 56) = some rr from e)]; rfl) dX6_init_25 (q := 28) rfl (fun h9_ => ?_)
  refine s_aload_n o 0 rfl dX6_init_28 (q := 29) rfl ?_
  refine s_bipush o dX6_init_29 (v := (54 : Int32)) (by decide) (q := 31) rfl ?_
  refine s_nwa_i o na_int (N := 54) (by decide) (by decide) (by decide) (by decide) (by decide) dX6_init_31 (q := 33) rfl (cs' := 4) rfl (sl' := 126) rfl (fun a10_ h11_ => ?_)
  refine s_prF o kf_X6_19 (fun _ => rfl) (fun _ => rfl) hnm (fun rr e => by rw [← Option.some.inj (show some (RX6, TX6, 56) = some rr from e)]; rfl) dX6_init_33 (q := 36) rfl (fun h12_ => ?_)
  refine s_aload_n o 0 rfl dX6_init_36 (q := 37) rfl ?_
  refine s_iconst o dX6_init_37 (v := (3 : Int32)) (by decide) (q := 38) rfl ?_
  refine s_nwa_i o na_int (N := 3) (by decide) (by decide) (by decide) (by decide) (by decide) dX6_init_38 (q := 40) rfl (cs' := 5) rfl (sl' := 129) rfl (fun a13_ h14_ => ?_)
  refine s_prF o kf_X6_22 (fun _ => rfl) (fun _ => rfl) hnm (fun rr e => by rw [← Option.some.inj (show some (RX6, TX6, 56) = some rr from e)]; rfl) dX6_init_40 (q := 43) rfl (fun h15_ => ?_)
  refine s_aload_n o 0 rfl dX6_init_43 (q := 44) rfl ?_
  refine s_bipush o dX6_init_44 (v := (10 : Int32)) (by decide) (q := 46) rfl ?_
  refine s_pi o kf_X6_25 dX6_init_46 (q := 49) rfl (fun h16_ => ?_)
  refine s_aload_n o 0 rfl dX6_init_49 (q := 50) rfl ?_
  refine s_bipush o dX6_init_50 (v := (100 : Int32)) (by decide) (q := 52) rfl ?_
  refine s_pi o kf_X6_29 dX6_init_52 (q := 55) rfl (fun h17_ => ?_)
  refine s_aload_n o 0 rfl dX6_init_55 (q := 56) rfl ?_
  refine s_bipush o dX6_init_56 (v := (36 : Int32)) (by decide) (q := 58) rfl ?_
  refine s_nwa_i o na_int (N := 36) (by decide) (by decide) (by decide) (by decide) (by decide) dX6_init_58 (q := 60) rfl (cs' := 6) rfl (sl' := 165) rfl (fun a18_ h19_ => ?_)
  refine s_prF o kf_X6_32 (fun _ => rfl) (fun _ => rfl) hnm (fun rr e => by rw [← Option.some.inj (show some (RX6, TX6, 56) = some rr from e)]; rfl) dX6_init_60 (q := 63) rfl (fun h20_ => ?_)
  refine s_aload_n o 0 rfl dX6_init_63 (q := 64) rfl ?_
  refine s_bipush o dX6_init_64 (v := (6 : Int32)) (by decide) (q := 66) rfl ?_
  refine s_nwa_i o na_int (N := 6) (by decide) (by decide) (by decide) (by decide) (by decide) dX6_init_66 (q := 68) rfl (cs' := 7) rfl (sl' := 171) rfl (fun a21_ h22_ => ?_)
  refine s_prF o kf_X6_35 (fun _ => rfl) (fun _ => rfl) hnm (fun rr e => by rw [← Option.some.inj (show some (RX6, TX6, 56) = some rr from e)]; rfl) dX6_init_68 (q := 71) rfl (fun h23_ => ?_)
  refine s_aload_n o 0 rfl dX6_init_71 (q := 72) rfl ?_
  refine s_bipush o dX6_init_72 (v := (20 : Int32)) (by decide) (q := 74) rfl ?_
  refine s_nwa_i o na_int (N := 20) (by decide) (by decide) (by decide) (by decide) (by decide) dX6_init_74 (q := 76) rfl (cs' := 8) rfl (sl' := 191) rfl (fun a24_ h25_ => ?_)
  refine s_prF o kf_X6_38 (fun _ => rfl) (fun _ => rfl) hnm (fun rr e => by rw [← Option.some.inj (show some (RX6, TX6, 56) = some rr from e)]; rfl) dX6_init_76 (q := 79) rfl (fun h26_ => ?_)
  refine s_aload_n o 0 rfl dX6_init_79 (q := 80) rfl ?_
  refine s_bipush o dX6_init_80 (v := (20 : Int32)) (by decide) (q := 82) rfl ?_
  refine s_nwa_i o na_int (N := 20) (by decide) (by decide) (by decide) (by decide) (by decide) dX6_init_82 (q := 84) rfl (cs' := 9) rfl (sl' := 211) rfl (fun a27_ h28_ => ?_)
  refine s_prF o kf_X6_41 (fun _ => rfl) (fun _ => rfl) hnm (fun rr e => by rw [← Option.some.inj (show some (RX6, TX6, 56) = some rr from e)]; rfl) dX6_init_84 (q := 87) rfl (fun h29_ => ?_)
  refine s_aload_n o 0 rfl dX6_init_87 (q := 88) rfl ?_
  refine s_iconst o dX6_init_88 (v := (-1 : Int32)) (by decide) (q := 89) rfl ?_
  refine s_pi o kf_X6_44 dX6_init_89 (q := 92) rfl (fun h30_ => ?_)
  refine s_aload_n o 0 rfl dX6_init_92 (q := 93) rfl ?_
  refine s_sipush o dX6_init_93 (v := (400 : Int32)) (by decide) (q := 96) rfl ?_
  refine s_nwa_i o na_int (N := 400) (by decide) (by decide) (by decide) (by decide) (by decide) dX6_init_96 (q := 98) rfl (cs' := 10) rfl (sl' := 611) rfl (fun a31_ h32_ => ?_)
  refine s_prF o kf_X6_47 (fun _ => rfl) (fun _ => rfl) hnm (fun rr e => by rw [← Option.some.inj (show some (RX6, TX6, 56) = some rr from e)]; rfl) dX6_init_98 (q := 101) rfl (fun h33_ => ?_)
  refine s_aload_n o 0 rfl dX6_init_101 (q := 102) rfl ?_
  refine s_iconst o dX6_init_102 (v := (-1 : Int32)) (by decide) (q := 103) rfl ?_
  refine s_pi o kf_X6_50 dX6_init_103 (q := 106) rfl (fun h34_ => ?_)
  refine s_aload_n o 0 rfl dX6_init_106 (q := 107) rfl ?_
  refine s_bipush o dX6_init_107 (v := (9 : Int32)) (by decide) (q := 109) rfl ?_
  refine s_nwa_i o na_int (N := 9) (by decide) (by decide) (by decide) (by decide) (by decide) dX6_init_109 (q := 111) rfl (cs' := 11) rfl (sl' := 620) rfl (fun a35_ h36_ => ?_)
  refine s_prF o kf_X6_53 (fun _ => rfl) (fun _ => rfl) hnm (fun rr e => by rw [← Option.some.inj (show some (RX6, TX6, 56) = some rr from e)]; rfl) dX6_init_111 (q := 114) rfl (fun h37_ => ?_)
  refine s_aload_n o 0 rfl dX6_init_114 (q := 115) rfl ?_
  refine s_bipush o dX6_init_115 (v := (9 : Int32)) (by decide) (q := 117) rfl ?_
  refine s_nwa_i o na_int (N := 9) (by decide) (by decide) (by decide) (by decide) (by decide) dX6_init_117 (q := 119) rfl (cs' := 12) rfl (sl' := 629) rfl (fun a38_ h39_ => ?_)
  refine s_prF o kf_X6_56 (fun _ => rfl) (fun _ => rfl) hnm (fun rr e => by rw [← Option.some.inj (show some (RX6, TX6, 56) = some rr from e)]; rfl) dX6_init_119 (q := 122) rfl (fun h40_ => ?_)
  refine s_aload_n o 0 rfl dX6_init_122 (q := 123) rfl ?_
  refine s_bipush o dX6_init_123 (v := (54 : Int32)) (by decide) (q := 125) rfl ?_
  refine s_nwa_i o na_int (N := 54) (by decide) (by decide) (by decide) (by decide) (by decide) dX6_init_125 (q := 127) rfl (cs' := 13) rfl (sl' := 683) rfl (fun a41_ h42_ => ?_)
  refine s_prF o kf_X6_59 (fun _ => rfl) (fun _ => rfl) hnm (fun rr e => by rw [← Option.some.inj (show some (RX6, TX6, 56) = some rr from e)]; rfl) dX6_init_127 (q := 130) rfl (fun h43_ => ?_)
  refine s_aload_n o 0 rfl dX6_init_130 (q := 131) rfl ?_
  refine s_bipush o dX6_init_131 (v := (54 : Int32)) (by decide) (q := 133) rfl ?_
  refine s_nwa_i o na_int (N := 54) (by decide) (by decide) (by decide) (by decide) (by decide) dX6_init_133 (q := 135) rfl (cs' := 14) rfl (sl' := 737) rfl (fun a44_ h45_ => ?_)
  refine s_prF o kf_X6_62 (fun _ => rfl) (fun _ => rfl) hnm (fun rr e => by rw [← Option.some.inj (show some (RX6, TX6, 56) = some rr from e)]; rfl) dX6_init_135 (q := 138) rfl (fun h46_ => ?_)
  refine s_aload_n o 0 rfl dX6_init_138 (q := 139) rfl ?_
  refine s_bipush o dX6_init_139 (v := (54 : Int32)) (by decide) (q := 141) rfl ?_
  refine s_nwa_z o na_boolean (N := 54) (by decide) (by decide) (by decide) (by decide) (by decide) dX6_init_141 (q := 143) rfl (cs' := 15) rfl (sl' := 791) rfl (fun a47_ h48_ => ?_)
  refine s_prF o kf_X6_65 (fun _ => rfl) (fun _ => rfl) hnm (fun rr e => by rw [← Option.some.inj (show some (RX6, TX6, 56) = some rr from e)]; rfl) dX6_init_143 (q := 146) rfl (fun h49_ => ?_)
  refine s_aload_n o 0 rfl dX6_init_146 (q := 147) rfl ?_
  refine s_iconst o dX6_init_147 (v := (3 : Int32)) (by decide) (q := 148) rfl ?_
  refine s_nwa_i o na_int (N := 3) (by decide) (by decide) (by decide) (by decide) (by decide) dX6_init_148 (q := 150) rfl (cs' := 16) rfl (sl' := 794) rfl (fun a50_ h51_ => ?_)
  refine s_prF o kf_X6_69 (fun _ => rfl) (fun _ => rfl) hnm (fun rr e => by rw [← Option.some.inj (show some (RX6, TX6, 56) = some rr from e)]; rfl) dX6_init_150 (q := 153) rfl (fun h52_ => ?_)
  refine s_aload_n o 0 rfl dX6_init_153 (q := 154) rfl ?_
  refine s_bipush o dX6_init_154 (v := (9 : Int32)) (by decide) (q := 156) rfl ?_
  refine s_nwa_z o na_boolean (N := 9) (by decide) (by decide) (by decide) (by decide) (by decide) dX6_init_156 (q := 158) rfl (cs' := 17) rfl (sl' := 803) rfl (fun a53_ h54_ => ?_)
  refine s_prF o kf_X6_72 (fun _ => rfl) (fun _ => rfl) hnm (fun rr e => by rw [← Option.some.inj (show some (RX6, TX6, 56) = some rr from e)]; rfl) dX6_init_158 (q := 161) rfl (fun h55_ => ?_)
  refine s_aload_n o 0 rfl dX6_init_161 (q := 162) rfl ?_
  refine s_bipush o dX6_init_162 (v := (36 : Int32)) (by decide) (q := 164) rfl ?_
  refine s_nwa_i o na_int (N := 36) (by decide) (by decide) (by decide) (by decide) (by decide) dX6_init_164 (q := 166) rfl (cs' := 18) rfl (sl' := 839) rfl (fun a56_ h57_ => ?_)
  refine s_prF o kf_X6_75 (fun _ => rfl) (fun _ => rfl) hnm (fun rr e => by rw [← Option.some.inj (show some (RX6, TX6, 56) = some rr from e)]; rfl) dX6_init_166 (q := 169) rfl (fun h58_ => ?_)
  refine s_aload_n o 0 rfl dX6_init_169 (q := 170) rfl ?_
  refine s_iconst o dX6_init_170 (v := (4 : Int32)) (by decide) (q := 171) rfl ?_
  refine s_nwa_i o na_int (N := 4) (by decide) (by decide) (by decide) (by decide) (by decide) dX6_init_171 (q := 173) rfl (cs' := 19) rfl (sl' := 843) rfl (fun a59_ h60_ => ?_)
  refine s_prF o kf_X6_78 (fun _ => rfl) (fun _ => rfl) hnm (fun rr e => by rw [← Option.some.inj (show some (RX6, TX6, 56) = some rr from e)]; rfl) dX6_init_173 (q := 176) rfl (fun h61_ => ?_)
  refine s_aload_n o 0 rfl dX6_init_176 (q := 177) rfl ?_
  refine s_bipush o dX6_init_177 (v := (15 : Int32)) (by decide) (q := 179) rfl ?_
  refine s_nwa_i o na_int (N := 15) (by decide) (by decide) (by decide) (by decide) (by decide) dX6_init_179 (q := 181) rfl (cs' := 20) rfl (sl' := 858) rfl (fun a62_ h63_ => ?_)
  refine s_prF o kf_X6_81 (fun _ => rfl) (fun _ => rfl) hnm (fun rr e => by rw [← Option.some.inj (show some (RX6, TX6, 56) = some rr from e)]; rfl) dX6_init_181 (q := 184) rfl (fun h64_ => ?_)
  refine s_aload_n o 0 rfl dX6_init_184 (q := 185) rfl ?_
  refine s_bipush o dX6_init_185 (v := (15 : Int32)) (by decide) (q := 187) rfl ?_
  refine s_nwa_i o na_int (N := 15) (by decide) (by decide) (by decide) (by decide) (by decide) dX6_init_187 (q := 189) rfl (cs' := 21) rfl (sl' := 873) rfl (fun a65_ h66_ => ?_)
  refine s_prF o kf_X6_84 (fun _ => rfl) (fun _ => rfl) hnm (fun rr e => by rw [← Option.some.inj (show some (RX6, TX6, 56) = some rr from e)]; rfl) dX6_init_189 (q := 192) rfl (fun h67_ => ?_)
  refine s_aload_n o 0 rfl dX6_init_192 (q := 193) rfl ?_
  refine s_bipush o dX6_init_193 (v := (15 : Int32)) (by decide) (q := 195) rfl ?_
  refine s_nwa_i o na_int (N := 15) (by decide) (by decide) (by decide) (by decide) (by decide) dX6_init_195 (q := 197) rfl (cs' := 22) rfl (sl' := 888) rfl (fun a68_ h69_ => ?_)
  refine s_prF o kf_X6_87 (fun _ => rfl) (fun _ => rfl) hnm (fun rr e => by rw [← Option.some.inj (show some (RX6, TX6, 56) = some rr from e)]; rfl) dX6_init_197 (q := 200) rfl (fun h70_ => ?_)
  refine s_aload_n o 0 rfl dX6_init_200 (q := 201) rfl ?_
  refine s_bipush o dX6_init_201 (v := (6 : Int32)) (by decide) (q := 203) rfl ?_
  refine s_nwa_i o na_int (N := 6) (by decide) (by decide) (by decide) (by decide) (by decide) dX6_init_203 (q := 205) rfl (cs' := 23) rfl (sl' := 894) rfl (fun a71_ h72_ => ?_)
  refine s_prF o kf_X6_90 (fun _ => rfl) (fun _ => rfl) hnm (fun rr e => by rw [← Option.some.inj (show some (RX6, TX6, 56) = some rr from e)]; rfl) dX6_init_205 (q := 208) rfl (fun h73_ => ?_)
  refine s_aload_n o 0 rfl dX6_init_208 (q := 209) rfl ?_
  refine s_bipush o dX6_init_209 (v := (20 : Int32)) (by decide) (q := 211) rfl ?_
  refine s_nwa_i o na_int (N := 20) (by decide) (by decide) (by decide) (by decide) (by decide) dX6_init_211 (q := 213) rfl (cs' := 24) rfl (sl' := 914) rfl (fun a74_ h75_ => ?_)
  refine s_prF o kf_X6_93 (fun _ => rfl) (fun _ => rfl) hnm (fun rr e => by rw [← Option.some.inj (show some (RX6, TX6, 56) = some rr from e)]; rfl) dX6_init_213 (q := 216) rfl (fun h76_ => ?_)
  refine s_aload_n o 0 rfl dX6_init_216 (q := 217) rfl ?_
  refine s_bipush o dX6_init_217 (v := (20 : Int32)) (by decide) (q := 219) rfl ?_
  refine s_nwa_i o na_int (N := 20) (by decide) (by decide) (by decide) (by decide) (by decide) dX6_init_219 (q := 221) rfl (cs' := 25) rfl (sl' := 934) rfl (fun a77_ h78_ => ?_)
  refine s_prF o kf_X6_96 (fun _ => rfl) (fun _ => rfl) hnm (fun rr e => by rw [← Option.some.inj (show some (RX6, TX6, 56) = some rr from e)]; rfl) dX6_init_221 (q := 224) rfl (fun h79_ => ?_)
  refine s_aload_n o 0 rfl dX6_init_224 (q := 225) rfl ?_
  refine s_bipush o dX6_init_225 (v := (20 : Int32)) (by decide) (q := 227) rfl ?_
  refine s_nwa_z o na_boolean (N := 20) (by decide) (by decide) (by decide) (by decide) (by decide) dX6_init_227 (q := 229) rfl (cs' := 26) rfl (sl' := 954) rfl (fun a80_ h81_ => ?_)
  refine s_prF o kf_X6_99 (fun _ => rfl) (fun _ => rfl) hnm (fun rr e => by rw [← Option.some.inj (show some (RX6, TX6, 56) = some rr from e)]; rfl) dX6_init_229 (q := 232) rfl (fun h82_ => ?_)
  refine s_aload_n o 0 rfl dX6_init_232 (q := 233) rfl ?_
  refine s_sipush o dX6_init_233 (v := (200 : Int32)) (by decide) (q := 236) rfl ?_
  refine s_nwa_i o na_int (N := 200) (by decide) (by decide) (by decide) (by decide) (by decide) dX6_init_236 (q := 238) rfl (cs' := 27) rfl (sl' := 1154) rfl (fun a83_ h84_ => ?_)
  refine s_prF o kf_X6_102 (fun _ => rfl) (fun _ => rfl) hnm (fun rr e => by rw [← Option.some.inj (show some (RX6, TX6, 56) = some rr from e)]; rfl) dX6_init_238 (q := 241) rfl (fun h85_ => ?_)
  refine s_aload_n o 0 rfl dX6_init_241 (q := 242) rfl ?_
  refine s_iconst o dX6_init_242 (v := (2 : Int32)) (by decide) (q := 243) rfl ?_
  refine s_nwa_z o na_boolean (N := 2) (by decide) (by decide) (by decide) (by decide) (by decide) dX6_init_243 (q := 245) rfl (cs' := 28) rfl (sl' := 1156) rfl (fun a86_ h87_ => ?_)
  refine s_prF o kf_X6_105 (fun _ => rfl) (fun _ => rfl) hnm (fun rr e => by rw [← Option.some.inj (show some (RX6, TX6, 56) = some rr from e)]; rfl) dX6_init_245 (q := 248) rfl (fun h88_ => ?_)
  refine s_aload_n o 0 rfl dX6_init_248 (q := 249) rfl ?_
  refine s_on (fun hk89_ => ?_)
  refine s_callv (fun r0 hr0 => runV o hk89_ cv_X6_108 (c_X6_bare (xG X) f x0 h88_ (xl X) r0 hr0) ⟨Nat.le_of_ble_eq_true rfl, Nat.le_of_ble_eq_true rfl⟩ rfl rfl (Nat.le_of_ble_eq_true rfl) dX6_init_249 ⟨Nat.le_of_ble_eq_true rfl, Nat.le_of_ble_eq_true rfl⟩) (q := 252) rfl (cs' := 28) rfl (sl' := 1156) rfl (fun h90_ => ?_)
  exact s_vret o dX6_init_252
theorem c_X6_init (G : Gx) (f : Nat) (x0 : Nat) (h : Hp) : z_M z_qv G yX6_init cX6_init 1 none 1 22 28 1156 [rf G x0] h (f_X6_init f x0 h) :=
  z_met (by decide +kernel) (Nat.le_of_ble_eq_true rfl) (fun X hG hn o hnm => by
    subst hG
    show Sim X (z_Zv X 28 1156) 0 0 0 [(0, rf (xG X) x0)] [] h _
    exact s_sub [0] rfl (t_X6_init_0 o hnm f x0 h))
/-! SixMapsModel.isTrue(I)Z -/
def b_X6_isTrue_27 (f : Nat)  (y0 : Int32) (h : Hp) : Option (Int32 × Hp) :=
  q_bo y0 (some (y0, h))
def f_X6_isTrue (f : Nat)  (x0 : Nat) (x1 : Int32) (h : Hp) : Option (Int32 × Hp) :=
  (q_gi h x0 6 6).bind fun v1_ =>
  (q_gr h x0 6 52).bind fun a2_ =>
  (q_ai h a2_ 9 x1).bind fun v3_ =>
  bi (f_X6_has f v1_ v3_ h) fun v5_ h4_ =>
  (q_gr h4_ x0 6 53).bind fun a6_ =>
  (q_ai h4_ a6_ 10 x1).bind fun v7_ =>
  if ¬ v5_ = v7_ then
  (b_X6_isTrue_27 f (0 : Int32) h4_)
  else
  (b_X6_isTrue_27 f (1 : Int32) h4_)
set_option maxRecDepth 20000 in
theorem t_X6_isTrue_27 {X : Cx} (o : Ok X RX6 cX6_isTrue 2 1 21 0 0 (some .boolean)) (f : Nat)  (y0 : Int32) (h : Hp) : Sim X (z_Zi X 0 0) 0 0 27 [] [.int y0] h (b_X6_isTrue_27 f y0 h) := by
  unfold b_X6_isTrue_27
  exact s_zret o dX6_isTrue_27
set_option maxRecDepth 20000 in
theorem t_X6_isTrue_0 {X : Cx} (o : Ok X RX6 cX6_isTrue 2 1 21 0 0 (some .boolean)) (f : Nat)  (x0 : Nat) (x1 : Int32) (h : Hp) : Sim X (z_Zi X 0 0) 0 0 0 [(0, rf (xG X) x0), (1, .int x1)] [] h (f_X6_isTrue f x0 x1 h) := by
  unfold f_X6_isTrue
  refine s_aload_n o 0 rfl dX6_isTrue_0 (q := 1) rfl ?_
  refine s_gi o kf_X6_253 dX6_isTrue_1 (q := 4) rfl (fun v1_ => ?_)
  refine s_aload_n o 0 rfl dX6_isTrue_4 (q := 5) rfl ?_
  refine s_gr o kf_X6_96 dX6_isTrue_5 (q := 8) rfl (fun a2_ => ?_)
  refine s_iload_n o 1 rfl dX6_isTrue_8 (q := 9) rfl ?_
  refine s_iald o dX6_isTrue_9 (q := 10) rfl (fun v3_ => ?_)
  refine s_bi (fun r0 hr0 => runS o cs_X6_182 (c_X6_has (xG X) f v1_ v3_ h (xl X) r0 hr0) ⟨Nat.le_of_ble_eq_true rfl, Nat.le_of_ble_eq_true rfl⟩ rfl rfl (Nat.le_of_ble_eq_true rfl) dX6_isTrue_10 ⟨Nat.le_of_ble_eq_true rfl, Nat.le_of_ble_eq_true rfl⟩) (q := 13) rfl (cs' := 0) rfl (sl' := 0) rfl (fun v5_ h4_ => ?_)
  refine s_aload_n o 0 rfl dX6_isTrue_13 (q := 14) rfl ?_
  refine s_gr o kf_X6_99 dX6_isTrue_14 (q := 17) rfl (fun a6_ => ?_)
  refine s_iload_n o 1 rfl dX6_isTrue_17 (q := 18) rfl ?_
  refine s_zald o dX6_isTrue_18 (q := 19) rfl (fun v7_ => ?_)
  refine s_ic_ne o (tgt := 26) dX6_isTrue_19 (by decide) (q := 22) rfl ?_ ?_
  · refine s_iconst o dX6_isTrue_26 (v := (0 : Int32)) (by decide) (q := 27) rfl ?_
    exact s_sub [] rfl (t_X6_isTrue_27 o f (0 : Int32) h4_)
  · refine s_iconst o dX6_isTrue_22 (v := (1 : Int32)) (by decide) (q := 23) rfl ?_
    refine s_goto o (tgt := 27) dX6_isTrue_23 (by decide) ?_
    exact s_sub [] rfl (t_X6_isTrue_27 o f (1 : Int32) h4_)
theorem c_X6_isTrue (G : Gx) (f : Nat) (x0 : Nat) (x1 : Int32) (h : Hp) : z_M z_qi G yX6_isTrue cX6_isTrue 2 (some .boolean) 1 21 0 0 [rf G x0, .int x1] h (f_X6_isTrue f x0 x1 h) :=
  z_met (by decide +kernel) (Nat.le_of_ble_eq_true rfl) (fun X hG hn o hnm => by
    subst hG
    show Sim X (z_Zi X 0 0) 0 0 0 [(0, rf (xG X) x0), (1, .int x1)] [] h _
    exact s_sub [0, 1] rfl (t_X6_isTrue_0 o f x0 x1 h))
/-! SixMapsModel.readWord()V -/
def b_X6_readWord_108 (f : Nat)   (h : Hp) : Option (Hp) :=
  some h
def b_X6_readWord_92 (f : Nat) (k18 : Nat → Hp → Option (Hp)) (x0 : Nat) (y0 : Nat) (y1 : Int64) (h : Hp) : Option (Hp) :=
  (q_pl h y0 6 22 y1).bind fun h1_ =>
  (q_gi h1_ x0 6 23).bind fun v2_ =>
  (q_pi h1_ x0 6 23 (v2_ + (1 : Int32))).bind fun h3_ =>
  k18 x0 h3_
def b_X6_readWord_18 (f : Nat) (k18 : Nat → Hp → Option (Hp)) (x0 : Nat) (h : Hp) : Option (Hp) :=
  (q_gi h x0 6 23).bind fun v1_ =>
  (q_gi h x0 6 19).bind fun v2_ =>
  if v2_ ≤ v1_ then
  (b_X6_readWord_108 f h)
  else
  ((q_gr h x0 6 18).bind fun a3_ =>
  (q_gi h x0 6 23).bind fun v4_ =>
  (q_ai h a3_ 9 v4_).bind fun v5_ =>
  bi (f_X6_in f v5_.toInt64 (97 : Int64) (122 : Int64) h) fun v7_ h6_ =>
  if v7_ = 0 then
  (b_X6_readWord_108 f h6_)
  else
  ((q_gl h6_ x0 6 22).bind fun w8_ =>
  if (lg_cmp w8_ (1000000000000 : Int64)) ≤ 0 then
  ((q_gl h6_ x0 6 22).bind fun w9_ =>
  (q_gr h6_ x0 6 18).bind fun a10_ =>
  (q_gi h6_ x0 6 23).bind fun v11_ =>
  (q_ai h6_ a10_ 9 v11_).bind fun v12_ =>
  b_X6_readWord_92 f k18 x0 x0 ((((27 : Int64) * w9_) + v12_.toInt64) - (96 : Int64)) h6_)
  else
  (b_X6_readWord_92 f k18 x0 x0 (2000000000000 : Int64) h6_)))
def l_X6_readWord_18 (f : Nat)  : Nat → Nat → Hp → Option (Hp)
  | 0, _, _ => none
  | n + 1, x0, h => b_X6_readWord_18 f  (l_X6_readWord_18 f  n) x0 h
def f_X6_readWord (f : Nat)  (x0 : Nat) (h : Hp) : Option (Hp) :=
  q_on h x0 6 (
  bi (f_X6_here f x0 h) fun v3_ h2_ =>
  (q_pl h2_ x0 6 22 (0 : Int64)).bind fun h4_ =>
  (q_gi h4_ x0 6 21).bind fun v5_ =>
  (q_pi h4_ x0 6 23 v5_).bind fun h6_ =>
  l_X6_readWord_18 f f x0 h6_)
set_option maxRecDepth 20000 in
theorem t_X6_readWord_108 {X : Cx} (o : Ok X RX6 cX6_readWord 2 1 25 0 0 none) (f : Nat)   (h : Hp) : Sim X (z_Zv X 0 0) 0 0 108 [] [] h (b_X6_readWord_108 f h) := by
  unfold b_X6_readWord_108
  exact s_vret o dX6_readWord_108
set_option maxRecDepth 20000 in
theorem t_X6_readWord_92 {X : Cx} (o : Ok X RX6 cX6_readWord 2 1 25 0 0 none) (f : Nat) {k18 : Nat → Hp → Option (Hp)} (hk18 : ∀ (x0 : Nat) (h : Hp), Sim X (z_Zv X 0 0) 0 0 18 [(0, rf (xG X) x0)] [] h (k18 x0 h)) (x0 : Nat) (y0 : Nat) (y1 : Int64) (h : Hp) : Sim X (z_Zv X 0 0) 0 0 92 [(0, rf (xG X) x0)] [.long y1, rf (xG X) y0] h (b_X6_readWord_92 f k18 x0 y0 y1 h) := by
  unfold b_X6_readWord_92
  refine s_pl o kf_X6_139 dX6_readWord_92 (q := 95) rfl (fun h1_ => ?_)
  refine s_aload_n o 0 rfl dX6_readWord_95 (q := 96) rfl ?_
  refine s_dup o rfl dX6_readWord_96 (q := 97) rfl ?_
  refine s_gi o kf_X6_143 dX6_readWord_97 (q := 100) rfl (fun v2_ => ?_)
  refine s_iconst o dX6_readWord_100 (v := (1 : Int32)) (by decide) (q := 101) rfl ?_
  refine s_iadd o dX6_readWord_101 (q := 102) rfl ?_
  refine s_pi o kf_X6_143 dX6_readWord_102 (q := 105) rfl (fun h3_ => ?_)
  refine s_goto o (tgt := 18) dX6_readWord_105 (by decide) ?_
  exact s_sub [0] rfl (hk18 x0 h3_)
set_option maxRecDepth 20000 in
theorem t_X6_readWord_18 {X : Cx} (o : Ok X RX6 cX6_readWord 2 1 25 0 0 none) (f : Nat) {k18 : Nat → Hp → Option (Hp)} (hk18 : ∀ (x0 : Nat) (h : Hp), Sim X (z_Zv X 0 0) 0 0 18 [(0, rf (xG X) x0)] [] h (k18 x0 h)) (x0 : Nat) (h : Hp) : Sim X (z_Zv X 0 0) 0 0 18 [(0, rf (xG X) x0)] [] h (b_X6_readWord_18 f k18 x0 h) := by
  unfold b_X6_readWord_18
  refine s_aload_n o 0 rfl dX6_readWord_18 (q := 19) rfl ?_
  refine s_gi o kf_X6_143 dX6_readWord_19 (q := 22) rfl (fun v1_ => ?_)
  refine s_aload_n o 0 rfl dX6_readWord_22 (q := 23) rfl ?_
  refine s_gi o kf_X6_126 dX6_readWord_23 (q := 26) rfl (fun v2_ => ?_)
  refine s_ic_ge o (tgt := 108) dX6_readWord_26 (by decide) (q := 29) rfl ?_ ?_
  · exact s_sub [] rfl (t_X6_readWord_108 o f h)
  · refine s_aload_n o 0 rfl dX6_readWord_29 (q := 30) rfl ?_
    refine s_gr o kf_X6_47 dX6_readWord_30 (q := 33) rfl (fun a3_ => ?_)
    refine s_aload_n o 0 rfl dX6_readWord_33 (q := 34) rfl ?_
    refine s_gi o kf_X6_143 dX6_readWord_34 (q := 37) rfl (fun v4_ => ?_)
    refine s_iald o dX6_readWord_37 (q := 38) rfl (fun v5_ => ?_)
    refine s_i2l o dX6_readWord_38 (q := 39) rfl ?_
    refine s_ldc2 o kl_X6_146 dX6_readWord_39 (q := 42) rfl ?_
    refine s_ldc2 o kl_X6_148 dX6_readWord_42 (q := 45) rfl ?_
    refine s_bi (fun r0 hr0 => runS o cs_X6_114 (c_X6_in (xG X) f v5_.toInt64 (97 : Int64) (122 : Int64) h (xl X) r0 hr0) ⟨Nat.le_of_ble_eq_true rfl, Nat.le_of_ble_eq_true rfl⟩ rfl rfl (Nat.le_of_ble_eq_true rfl) dX6_readWord_45 ⟨Nat.le_of_ble_eq_true rfl, Nat.le_of_ble_eq_true rfl⟩) (q := 48) rfl (cs' := 0) rfl (sl' := 0) rfl (fun v7_ h6_ => ?_)
    refine s_if_eq o (tgt := 108) dX6_readWord_48 (by decide) (q := 51) rfl ?_ ?_
    · exact s_sub [] rfl (t_X6_readWord_108 o f h6_)
    · refine s_aload_n o 0 rfl dX6_readWord_51 (q := 52) rfl ?_
      refine s_aload_n o 0 rfl dX6_readWord_52 (q := 53) rfl ?_
      refine s_gl o kf_X6_139 dX6_readWord_53 (q := 56) rfl (fun w8_ => ?_)
      refine s_ldc2 o kl_X6_150 dX6_readWord_56 (q := 59) rfl ?_
      refine s_lcmp o dX6_readWord_59 (q := 60) rfl ?_
      refine s_if_le o (tgt := 69) dX6_readWord_60 (by decide) (q := 63) rfl ?_ ?_
      · refine s_ldc2 o kl_X6_154 dX6_readWord_69 (q := 72) rfl ?_
        refine s_aload_n o 0 rfl dX6_readWord_72 (q := 73) rfl ?_
        refine s_gl o kf_X6_139 dX6_readWord_73 (q := 76) rfl (fun w9_ => ?_)
        refine s_lmul o dX6_readWord_76 (q := 77) rfl ?_
        refine s_aload_n o 0 rfl dX6_readWord_77 (q := 78) rfl ?_
        refine s_gr o kf_X6_47 dX6_readWord_78 (q := 81) rfl (fun a10_ => ?_)
        refine s_aload_n o 0 rfl dX6_readWord_81 (q := 82) rfl ?_
        refine s_gi o kf_X6_143 dX6_readWord_82 (q := 85) rfl (fun v11_ => ?_)
        refine s_iald o dX6_readWord_85 (q := 86) rfl (fun v12_ => ?_)
        refine s_i2l o dX6_readWord_86 (q := 87) rfl ?_
        refine s_ladd o dX6_readWord_87 (q := 88) rfl ?_
        refine s_ldc2 o kl_X6_156 dX6_readWord_88 (q := 91) rfl ?_
        refine s_lsub o dX6_readWord_91 (q := 92) rfl ?_
        exact s_sub [0] rfl (t_X6_readWord_92 o f hk18 x0 x0 ((((27 : Int64) * w9_) + v12_.toInt64) - (96 : Int64)) h6_)
      · refine s_ldc2 o kl_X6_152 dX6_readWord_63 (q := 66) rfl ?_
        refine s_goto o (tgt := 92) dX6_readWord_66 (by decide) ?_
        exact s_sub [0] rfl (t_X6_readWord_92 o f hk18 x0 x0 (2000000000000 : Int64) h6_)
theorem tl_X6_readWord_18 {X : Cx} (o : Ok X RX6 cX6_readWord 2 1 25 0 0 none) (f : Nat)  : ∀ (n : Nat) (x0 : Nat) (h : Hp), Sim X (z_Zv X 0 0) 0 0 18 [(0, rf (xG X) x0)] [] h (l_X6_readWord_18 f n x0 h) := by
  intro n
  induction n with
  | zero => intro x0 h; exact s_none
  | succ n ih => intro x0 h; exact t_X6_readWord_18 o f  ih x0 h
set_option maxRecDepth 20000 in
theorem t_X6_readWord_0 {X : Cx} (o : Ok X RX6 cX6_readWord 2 1 25 0 0 none) (f : Nat)  (x0 : Nat) (h : Hp) : Sim X (z_Zv X 0 0) 0 0 0 [(0, rf (xG X) x0)] [] h (f_X6_readWord f x0 h) := by
  unfold f_X6_readWord
  refine s_aload_n o 0 rfl dX6_readWord_0 (q := 1) rfl ?_
  refine s_on (fun hk1_ => ?_)
  refine s_bi (fun r0 hr0 => runV o hk1_ cv_X6_135 (c_X6_here (xG X) f x0 h (xl X) r0 hr0) ⟨Nat.le_of_ble_eq_true rfl, Nat.le_of_ble_eq_true rfl⟩ rfl rfl (Nat.le_of_ble_eq_true rfl) dX6_readWord_1 ⟨Nat.le_of_ble_eq_true rfl, Nat.le_of_ble_eq_true rfl⟩) (q := 4) rfl (cs' := 0) rfl (sl' := 0) rfl (fun v3_ h2_ => ?_)
  refine s_istore_n o [1, 0] (lv' := [(0, rf (xG X) x0), (1, .int v3_)]) rfl dX6_readWord_4 (by decide) (q := 5) rfl ?_
  refine s_aload_n o 0 rfl dX6_readWord_5 (q := 6) rfl ?_
  refine s_lconst o dX6_readWord_6 (v := (0 : Int64)) (by decide) (q := 7) rfl ?_
  refine s_pl o kf_X6_139 dX6_readWord_7 (q := 10) rfl (fun h4_ => ?_)
  refine s_aload_n o 0 rfl dX6_readWord_10 (q := 11) rfl ?_
  refine s_aload_n o 0 rfl dX6_readWord_11 (q := 12) rfl ?_
  refine s_gi o kf_X6_132 dX6_readWord_12 (q := 15) rfl (fun v5_ => ?_)
  refine s_pi o kf_X6_143 dX6_readWord_15 (q := 18) rfl (fun h6_ => ?_)
  exact s_sub [0] rfl (tl_X6_readWord_18 o f f x0 h6_)
theorem c_X6_readWord (G : Gx) (f : Nat) (x0 : Nat) (h : Hp) : z_M z_qv G yX6_readWord cX6_readWord 2 none 1 25 0 0 [rf G x0] h (f_X6_readWord f x0 h) :=
  z_met (by decide +kernel) (Nat.le_of_ble_eq_true rfl) (fun X hG hn o hnm => by
    subst hG
    show Sim X (z_Zv X 0 0) 0 0 0 [(0, rf (xG X) x0)] [] h _
    exact s_sub [0] rfl (t_X6_readWord_0 o f x0 h))
/-! SixMapsModel.takeNumber(II)I -/
def b_X6_takeNumber_169 (f : Nat)  (y0 : Int32) (h : Hp) : Option (Int32 × Hp) :=
  some (y0, h)
def b_X6_takeNumber_156 (f : Nat)  (x0 : Nat) (h : Hp) : Option (Int32 × Hp) :=
  (q_gi h x0 6 25).bind fun v1_ =>
  q_on h x0 6 (
  bi (f_X6_fails f x0 (2 : Int32) v1_ h) fun v4_ h3_ =>
  b_X6_takeNumber_169 f v4_ h3_)
def b_X6_takeNumber_128 (f : Nat)  (x0 : Nat) (x1 : Int32) (x2 : Int32) (h : Hp) : Option (Int32 × Hp) :=
  (q_gi h x0 6 21).bind fun v1_ =>
  (q_gi h x0 6 25).bind fun v2_ =>
  if (4 : Int32) < (v1_ - v2_) then
  (b_X6_takeNumber_156 f x0 h)
  else
  ((q_gi h x0 6 24).bind fun v3_ =>
  bi (f_X6_in f v3_.toInt64 x1.toInt64 x2.toInt64 h) fun v5_ h4_ =>
  if ¬ v5_ = 0 then
  (b_X6_takeNumber_169 f (0 : Int32) h4_)
  else
  (b_X6_takeNumber_156 f x0 h4_))
def b_X6_takeNumber_112 (f : Nat) (k42 : Nat → Int32 → Int32 → Hp → Option (Int32 × Hp)) (x0 : Nat) (x1 : Int32) (x2 : Int32) (y0 : Nat) (y1 : Int32) (h : Hp) : Option (Int32 × Hp) :=
  (q_pi h y0 6 24 y1).bind fun h1_ =>
  (q_gi h1_ x0 6 21).bind fun v2_ =>
  (q_pi h1_ x0 6 21 (v2_ + (1 : Int32))).bind fun h3_ =>
  k42 x0 x1 x2 h3_
def b_X6_takeNumber_42 (f : Nat) (k42 : Nat → Int32 → Int32 → Hp → Option (Int32 × Hp)) (x0 : Nat) (x1 : Int32) (x2 : Int32) (h : Hp) : Option (Int32 × Hp) :=
  (q_gi h x0 6 21).bind fun v1_ =>
  (q_gi h x0 6 19).bind fun v2_ =>
  if v2_ ≤ v1_ then
  (b_X6_takeNumber_128 f x0 x1 x2 h)
  else
  ((q_gr h x0 6 18).bind fun a3_ =>
  (q_gi h x0 6 21).bind fun v4_ =>
  (q_ai h a3_ 9 v4_).bind fun v5_ =>
  bi (f_X6_in f v5_.toInt64 (48 : Int64) (57 : Int64) h) fun v7_ h6_ =>
  if v7_ = 0 then
  (b_X6_takeNumber_128 f x0 x1 x2 h6_)
  else
  ((q_gi h6_ x0 6 24).bind fun v8_ =>
  if v8_ ≤ (100000 : Int32) then
  ((q_gi h6_ x0 6 24).bind fun v9_ =>
  (q_gr h6_ x0 6 18).bind fun a10_ =>
  (q_gi h6_ x0 6 21).bind fun v11_ =>
  (q_ai h6_ a10_ 9 v11_).bind fun v12_ =>
  b_X6_takeNumber_112 f k42 x0 x1 x2 x0 ((((10 : Int32) * v9_) + v12_) - (48 : Int32)) h6_)
  else
  ((q_gi h6_ x0 6 24).bind fun v13_ =>
  b_X6_takeNumber_112 f k42 x0 x1 x2 x0 v13_ h6_)))
def l_X6_takeNumber_42 (f : Nat)  : Nat → Nat → Int32 → Int32 → Hp → Option (Int32 × Hp)
  | 0, _, _, _, _ => none
  | n + 1, x0, x1, x2, h => b_X6_takeNumber_42 f  (l_X6_takeNumber_42 f  n) x0 x1 x2 h
def f_X6_takeNumber (f : Nat)  (x0 : Nat) (x1 : Int32) (x2 : Int32) (h : Hp) : Option (Int32 × Hp) :=
  q_on h x0 6 (
  bi (f_X6_here f x0 h) fun v3_ h2_ =>
  bi (f_X6_in f v3_.toInt64 (48 : Int64) (57 : Int64) h2_) fun v5_ h4_ =>
  if ¬ v5_ = 0 then
  ((q_gi h4_ x0 6 21).bind fun v6_ =>
  (q_pi h4_ x0 6 25 v6_).bind fun h7_ =>
  (q_pi h7_ x0 6 24 (0 : Int32)).bind fun h8_ =>
  l_X6_takeNumber_42 f f x0 x1 x2 h8_)
  else
  ((q_gi h4_ x0 6 21).bind fun v9_ =>
  q_on h4_ x0 6 (
  bi (f_X6_fails f x0 (1 : Int32) v9_ h4_) fun v12_ h11_ =>
  some (v12_, h11_))))
set_option maxRecDepth 20000 in
theorem t_X6_takeNumber_169 {X : Cx} (o : Ok X RX6 cX6_takeNumber 4 1 25 0 0 (some .int)) (f : Nat)  (y0 : Int32) (h : Hp) : Sim X (z_Zi X 0 0) 0 0 169 [] [.int y0] h (b_X6_takeNumber_169 f y0 h) := by
  unfold b_X6_takeNumber_169
  exact s_iret o dX6_takeNumber_169
set_option maxRecDepth 20000 in
theorem t_X6_takeNumber_156 {X : Cx} (o : Ok X RX6 cX6_takeNumber 4 1 25 0 0 (some .int)) (f : Nat)  (x0 : Nat) (h : Hp) : Sim X (z_Zi X 0 0) 0 0 156 [(0, rf (xG X) x0)] [] h (b_X6_takeNumber_156 f x0 h) := by
  unfold b_X6_takeNumber_156
  refine s_aload_n o 0 rfl dX6_takeNumber_156 (q := 157) rfl ?_
  refine s_iconst o dX6_takeNumber_157 (v := (2 : Int32)) (by decide) (q := 158) rfl ?_
  refine s_aload_n o 0 rfl dX6_takeNumber_158 (q := 159) rfl ?_
  refine s_gi o kf_X6_166 dX6_takeNumber_159 (q := 162) rfl (fun v1_ => ?_)
  refine s_on (fun hk2_ => ?_)
  refine s_bi (fun r0 hr0 => runV o hk2_ cv_X6_162 (c_X6_fails (xG X) f x0 (2 : Int32) v1_ h (xl X) r0 hr0) ⟨Nat.le_of_ble_eq_true rfl, Nat.le_of_ble_eq_true rfl⟩ rfl rfl (Nat.le_of_ble_eq_true rfl) dX6_takeNumber_162 ⟨Nat.le_of_ble_eq_true rfl, Nat.le_of_ble_eq_true rfl⟩) (q := 165) rfl (cs' := 0) rfl (sl' := 0) rfl (fun v4_ h3_ => ?_)
  refine s_goto o (tgt := 169) dX6_takeNumber_165 (by decide) ?_
  exact s_sub [] rfl (t_X6_takeNumber_169 o f v4_ h3_)
set_option maxRecDepth 20000 in
theorem t_X6_takeNumber_128 {X : Cx} (o : Ok X RX6 cX6_takeNumber 4 1 25 0 0 (some .int)) (f : Nat)  (x0 : Nat) (x1 : Int32) (x2 : Int32) (h : Hp) : Sim X (z_Zi X 0 0) 0 0 128 [(0, rf (xG X) x0), (1, .int x1), (2, .int x2)] [] h (b_X6_takeNumber_128 f x0 x1 x2 h) := by
  unfold b_X6_takeNumber_128
  refine s_aload_n o 0 rfl dX6_takeNumber_128 (q := 129) rfl ?_
  refine s_gi o kf_X6_132 dX6_takeNumber_129 (q := 132) rfl (fun v1_ => ?_)
  refine s_aload_n o 0 rfl dX6_takeNumber_132 (q := 133) rfl ?_
  refine s_gi o kf_X6_166 dX6_takeNumber_133 (q := 136) rfl (fun v2_ => ?_)
  refine s_isub o dX6_takeNumber_136 (q := 137) rfl ?_
  refine s_iconst o dX6_takeNumber_137 (v := (4 : Int32)) (by decide) (q := 138) rfl ?_
  refine s_ic_gt o (tgt := 156) dX6_takeNumber_138 (by decide) (q := 141) rfl ?_ ?_
  · exact s_sub [0] rfl (t_X6_takeNumber_156 o f x0 h)
  · refine s_aload_n o 0 rfl dX6_takeNumber_141 (q := 142) rfl ?_
    refine s_gi o kf_X6_169 dX6_takeNumber_142 (q := 145) rfl (fun v3_ => ?_)
    refine s_i2l o dX6_takeNumber_145 (q := 146) rfl ?_
    refine s_iload_n o 1 rfl dX6_takeNumber_146 (q := 147) rfl ?_
    refine s_i2l o dX6_takeNumber_147 (q := 148) rfl ?_
    refine s_iload_n o 2 rfl dX6_takeNumber_148 (q := 149) rfl ?_
    refine s_i2l o dX6_takeNumber_149 (q := 150) rfl ?_
    refine s_bi (fun r0 hr0 => runS o cs_X6_114 (c_X6_in (xG X) f v3_.toInt64 x1.toInt64 x2.toInt64 h (xl X) r0 hr0) ⟨Nat.le_of_ble_eq_true rfl, Nat.le_of_ble_eq_true rfl⟩ rfl rfl (Nat.le_of_ble_eq_true rfl) dX6_takeNumber_150 ⟨Nat.le_of_ble_eq_true rfl, Nat.le_of_ble_eq_true rfl⟩) (q := 153) rfl (cs' := 0) rfl (sl' := 0) rfl (fun v5_ h4_ => ?_)
    refine s_if_ne o (tgt := 168) dX6_takeNumber_153 (by decide) (q := 156) rfl ?_ ?_
    · refine s_iconst o dX6_takeNumber_168 (v := (0 : Int32)) (by decide) (q := 169) rfl ?_
      exact s_sub [] rfl (t_X6_takeNumber_169 o f (0 : Int32) h4_)
    · exact s_sub [0] rfl (t_X6_takeNumber_156 o f x0 h4_)
set_option maxRecDepth 20000 in
theorem t_X6_takeNumber_112 {X : Cx} (o : Ok X RX6 cX6_takeNumber 4 1 25 0 0 (some .int)) (f : Nat) {k42 : Nat → Int32 → Int32 → Hp → Option (Int32 × Hp)} (hk42 : ∀ (x0 : Nat) (x1 : Int32) (x2 : Int32) (h : Hp), Sim X (z_Zi X 0 0) 0 0 42 [(0, rf (xG X) x0), (1, .int x1), (2, .int x2)] [] h (k42 x0 x1 x2 h)) (x0 : Nat) (x1 : Int32) (x2 : Int32) (y0 : Nat) (y1 : Int32) (h : Hp) : Sim X (z_Zi X 0 0) 0 0 112 [(0, rf (xG X) x0), (1, .int x1), (2, .int x2)] [.int y1, rf (xG X) y0] h (b_X6_takeNumber_112 f k42 x0 x1 x2 y0 y1 h) := by
  unfold b_X6_takeNumber_112
  refine s_pi o kf_X6_169 dX6_takeNumber_112 (q := 115) rfl (fun h1_ => ?_)
  refine s_aload_n o 0 rfl dX6_takeNumber_115 (q := 116) rfl ?_
  refine s_dup o rfl dX6_takeNumber_116 (q := 117) rfl ?_
  refine s_gi o kf_X6_132 dX6_takeNumber_117 (q := 120) rfl (fun v2_ => ?_)
  refine s_iconst o dX6_takeNumber_120 (v := (1 : Int32)) (by decide) (q := 121) rfl ?_
  refine s_iadd o dX6_takeNumber_121 (q := 122) rfl ?_
  refine s_pi o kf_X6_132 dX6_takeNumber_122 (q := 125) rfl (fun h3_ => ?_)
  refine s_goto o (tgt := 42) dX6_takeNumber_125 (by decide) ?_
  exact s_sub [0, 1, 2] rfl (hk42 x0 x1 x2 h3_)
set_option maxRecDepth 20000 in
theorem t_X6_takeNumber_42 {X : Cx} (o : Ok X RX6 cX6_takeNumber 4 1 25 0 0 (some .int)) (f : Nat) {k42 : Nat → Int32 → Int32 → Hp → Option (Int32 × Hp)} (hk42 : ∀ (x0 : Nat) (x1 : Int32) (x2 : Int32) (h : Hp), Sim X (z_Zi X 0 0) 0 0 42 [(0, rf (xG X) x0), (1, .int x1), (2, .int x2)] [] h (k42 x0 x1 x2 h)) (x0 : Nat) (x1 : Int32) (x2 : Int32) (h : Hp) : Sim X (z_Zi X 0 0) 0 0 42 [(0, rf (xG X) x0), (1, .int x1), (2, .int x2)] [] h (b_X6_takeNumber_42 f k42 x0 x1 x2 h) := by
  unfold b_X6_takeNumber_42
  refine s_aload_n o 0 rfl dX6_takeNumber_42 (q := 43) rfl ?_
  refine s_gi o kf_X6_132 dX6_takeNumber_43 (q := 46) rfl (fun v1_ => ?_)
  refine s_aload_n o 0 rfl dX6_takeNumber_46 (q := 47) rfl ?_
  refine s_gi o kf_X6_126 dX6_takeNumber_47 (q := 50) rfl (fun v2_ => ?_)
  refine s_ic_ge o (tgt := 128) dX6_takeNumber_50 (by decide) (q := 53) rfl ?_ ?_
  · exact s_sub [0, 1, 2] rfl (t_X6_takeNumber_128 o f x0 x1 x2 h)
  · refine s_aload_n o 0 rfl dX6_takeNumber_53 (q := 54) rfl ?_
    refine s_gr o kf_X6_47 dX6_takeNumber_54 (q := 57) rfl (fun a3_ => ?_)
    refine s_aload_n o 0 rfl dX6_takeNumber_57 (q := 58) rfl ?_
    refine s_gi o kf_X6_132 dX6_takeNumber_58 (q := 61) rfl (fun v4_ => ?_)
    refine s_iald o dX6_takeNumber_61 (q := 62) rfl (fun v5_ => ?_)
    refine s_i2l o dX6_takeNumber_62 (q := 63) rfl ?_
    refine s_ldc2 o kl_X6_158 dX6_takeNumber_63 (q := 66) rfl ?_
    refine s_ldc2 o kl_X6_160 dX6_takeNumber_66 (q := 69) rfl ?_
    refine s_bi (fun r0 hr0 => runS o cs_X6_114 (c_X6_in (xG X) f v5_.toInt64 (48 : Int64) (57 : Int64) h (xl X) r0 hr0) ⟨Nat.le_of_ble_eq_true rfl, Nat.le_of_ble_eq_true rfl⟩ rfl rfl (Nat.le_of_ble_eq_true rfl) dX6_takeNumber_69 ⟨Nat.le_of_ble_eq_true rfl, Nat.le_of_ble_eq_true rfl⟩) (q := 72) rfl (cs' := 0) rfl (sl' := 0) rfl (fun v7_ h6_ => ?_)
    refine s_if_eq o (tgt := 128) dX6_takeNumber_72 (by decide) (q := 75) rfl ?_ ?_
    · exact s_sub [0, 1, 2] rfl (t_X6_takeNumber_128 o f x0 x1 x2 h6_)
    · refine s_aload_n o 0 rfl dX6_takeNumber_75 (q := 76) rfl ?_
      refine s_aload_n o 0 rfl dX6_takeNumber_76 (q := 77) rfl ?_
      refine s_gi o kf_X6_169 dX6_takeNumber_77 (q := 80) rfl (fun v8_ => ?_)
      refine s_ldc o kc_X6_172 dX6_takeNumber_80 (q := 82) rfl ?_
      refine s_ic_le o (tgt := 92) dX6_takeNumber_82 (by decide) (q := 85) rfl ?_ ?_
      · refine s_bipush o dX6_takeNumber_92 (v := (10 : Int32)) (by decide) (q := 94) rfl ?_
        refine s_aload_n o 0 rfl dX6_takeNumber_94 (q := 95) rfl ?_
        refine s_gi o kf_X6_169 dX6_takeNumber_95 (q := 98) rfl (fun v9_ => ?_)
        refine s_imul o dX6_takeNumber_98 (q := 99) rfl ?_
        refine s_aload_n o 0 rfl dX6_takeNumber_99 (q := 100) rfl ?_
        refine s_gr o kf_X6_47 dX6_takeNumber_100 (q := 103) rfl (fun a10_ => ?_)
        refine s_aload_n o 0 rfl dX6_takeNumber_103 (q := 104) rfl ?_
        refine s_gi o kf_X6_132 dX6_takeNumber_104 (q := 107) rfl (fun v11_ => ?_)
        refine s_iald o dX6_takeNumber_107 (q := 108) rfl (fun v12_ => ?_)
        refine s_iadd o dX6_takeNumber_108 (q := 109) rfl ?_
        refine s_bipush o dX6_takeNumber_109 (v := (48 : Int32)) (by decide) (q := 111) rfl ?_
        refine s_isub o dX6_takeNumber_111 (q := 112) rfl ?_
        exact s_sub [0, 1, 2] rfl (t_X6_takeNumber_112 o f hk42 x0 x1 x2 x0 ((((10 : Int32) * v9_) + v12_) - (48 : Int32)) h6_)
      · refine s_aload_n o 0 rfl dX6_takeNumber_85 (q := 86) rfl ?_
        refine s_gi o kf_X6_169 dX6_takeNumber_86 (q := 89) rfl (fun v13_ => ?_)
        refine s_goto o (tgt := 112) dX6_takeNumber_89 (by decide) ?_
        exact s_sub [0, 1, 2] rfl (t_X6_takeNumber_112 o f hk42 x0 x1 x2 x0 v13_ h6_)
theorem tl_X6_takeNumber_42 {X : Cx} (o : Ok X RX6 cX6_takeNumber 4 1 25 0 0 (some .int)) (f : Nat)  : ∀ (n : Nat) (x0 : Nat) (x1 : Int32) (x2 : Int32) (h : Hp), Sim X (z_Zi X 0 0) 0 0 42 [(0, rf (xG X) x0), (1, .int x1), (2, .int x2)] [] h (l_X6_takeNumber_42 f n x0 x1 x2 h) := by
  intro n
  induction n with
  | zero => intro x0 x1 x2 h; exact s_none
  | succ n ih => intro x0 x1 x2 h; exact t_X6_takeNumber_42 o f  ih x0 x1 x2 h
set_option maxRecDepth 20000 in
theorem t_X6_takeNumber_0 {X : Cx} (o : Ok X RX6 cX6_takeNumber 4 1 25 0 0 (some .int)) (f : Nat)  (x0 : Nat) (x1 : Int32) (x2 : Int32) (h : Hp) : Sim X (z_Zi X 0 0) 0 0 0 [(0, rf (xG X) x0), (1, .int x1), (2, .int x2)] [] h (f_X6_takeNumber f x0 x1 x2 h) := by
  unfold f_X6_takeNumber
  refine s_aload_n o 0 rfl dX6_takeNumber_0 (q := 1) rfl ?_
  refine s_on (fun hk1_ => ?_)
  refine s_bi (fun r0 hr0 => runV o hk1_ cv_X6_135 (c_X6_here (xG X) f x0 h (xl X) r0 hr0) ⟨Nat.le_of_ble_eq_true rfl, Nat.le_of_ble_eq_true rfl⟩ rfl rfl (Nat.le_of_ble_eq_true rfl) dX6_takeNumber_1 ⟨Nat.le_of_ble_eq_true rfl, Nat.le_of_ble_eq_true rfl⟩) (q := 4) rfl (cs' := 0) rfl (sl' := 0) rfl (fun v3_ h2_ => ?_)
  refine s_istore_n o [1, 2, 3, 0] (lv' := [(0, rf (xG X) x0), (1, .int x1), (2, .int x2), (3, .int v3_)]) rfl dX6_takeNumber_4 (by decide) (q := 5) rfl ?_
  refine s_iload_n o 3 rfl dX6_takeNumber_5 (q := 6) rfl ?_
  refine s_i2l o dX6_takeNumber_6 (q := 7) rfl ?_
  refine s_ldc2 o kl_X6_158 dX6_takeNumber_7 (q := 10) rfl ?_
  refine s_ldc2 o kl_X6_160 dX6_takeNumber_10 (q := 13) rfl ?_
  refine s_bi (fun r0 hr0 => runS o cs_X6_114 (c_X6_in (xG X) f v3_.toInt64 (48 : Int64) (57 : Int64) h2_ (xl X) r0 hr0) ⟨Nat.le_of_ble_eq_true rfl, Nat.le_of_ble_eq_true rfl⟩ rfl rfl (Nat.le_of_ble_eq_true rfl) dX6_takeNumber_13 ⟨Nat.le_of_ble_eq_true rfl, Nat.le_of_ble_eq_true rfl⟩) (q := 16) rfl (cs' := 0) rfl (sl' := 0) rfl (fun v5_ h4_ => ?_)
  refine s_if_ne o (tgt := 29) dX6_takeNumber_16 (by decide) (q := 19) rfl ?_ ?_
  · refine s_aload_n o 0 rfl dX6_takeNumber_29 (q := 30) rfl ?_
    refine s_aload_n o 0 rfl dX6_takeNumber_30 (q := 31) rfl ?_
    refine s_gi o kf_X6_132 dX6_takeNumber_31 (q := 34) rfl (fun v6_ => ?_)
    refine s_pi o kf_X6_166 dX6_takeNumber_34 (q := 37) rfl (fun h7_ => ?_)
    refine s_aload_n o 0 rfl dX6_takeNumber_37 (q := 38) rfl ?_
    refine s_iconst o dX6_takeNumber_38 (v := (0 : Int32)) (by decide) (q := 39) rfl ?_
    refine s_pi o kf_X6_169 dX6_takeNumber_39 (q := 42) rfl (fun h8_ => ?_)
    exact s_sub [0, 1, 2] rfl (tl_X6_takeNumber_42 o f f x0 x1 x2 h8_)
  · refine s_aload_n o 0 rfl dX6_takeNumber_19 (q := 20) rfl ?_
    refine s_iconst o dX6_takeNumber_20 (v := (1 : Int32)) (by decide) (q := 21) rfl ?_
    refine s_aload_n o 0 rfl dX6_takeNumber_21 (q := 22) rfl ?_
    refine s_gi o kf_X6_132 dX6_takeNumber_22 (q := 25) rfl (fun v9_ => ?_)
    refine s_on (fun hk10_ => ?_)
    refine s_bi (fun r0 hr0 => runV o hk10_ cv_X6_162 (c_X6_fails (xG X) f x0 (1 : Int32) v9_ h4_ (xl X) r0 hr0) ⟨Nat.le_of_ble_eq_true rfl, Nat.le_of_ble_eq_true rfl⟩ rfl rfl (Nat.le_of_ble_eq_true rfl) dX6_takeNumber_25 ⟨Nat.le_of_ble_eq_true rfl, Nat.le_of_ble_eq_true rfl⟩) (q := 28) rfl (cs' := 0) rfl (sl' := 0) rfl (fun v12_ h11_ => ?_)
    exact s_iret o dX6_takeNumber_28
theorem c_X6_takeNumber (G : Gx) (f : Nat) (x0 : Nat) (x1 : Int32) (x2 : Int32) (h : Hp) : z_M z_qi G yX6_takeNumber cX6_takeNumber 4 (some .int) 1 25 0 0 [rf G x0, .int x1, .int x2] h (f_X6_takeNumber f x0 x1 x2 h) :=
  z_met (by decide +kernel) (Nat.le_of_ble_eq_true rfl) (fun X hG hn o hnm => by
    subst hG
    show Sim X (z_Zi X 0 0) 0 0 0 [(0, rf (xG X) x0), (1, .int x1), (2, .int x2)] [] h _
    exact s_sub [0, 1, 2] rfl (t_X6_takeNumber_0 o f x0 x1 x2 h))
/-! SixMapsModel.takeCorner(Z)I -/
def b_X6_takeCorner_99 (f : Nat)  (y0 : Int32) (h : Hp) : Option (Int32 × Hp) :=
  some (y0, h)
def b_X6_takeCorner_43 (f : Nat)  (x0 : Nat) (x3 : Int32) (h : Hp) : Option (Int32 × Hp) :=
  (q_gi h x0 6 26).bind fun v1_ =>
  q_on h x0 6 (
  bi (f_X6_takeNumber f x0 (0 : Int32) (v1_ - (1 : Int32)) h) fun v4_ h3_ =>
  if v4_ ≤ 0 then
  ((q_gi h3_ x0 6 24).bind fun v5_ =>
  (q_pi h3_ x0 6 40 (((9 : Int32) * x3) + v5_)).bind fun h6_ =>
  (q_gr h6_ x0 6 31).bind fun a7_ =>
  (q_gi h6_ x0 6 40).bind fun v8_ =>
  (q_ai h6_ a7_ 10 v8_).bind fun v9_ =>
  if v9_ = 0 then
  (b_X6_takeCorner_99 f (0 : Int32) h6_)
  else
  ((q_gi h6_ x0 6 25).bind fun v10_ =>
  q_on h6_ x0 6 (
  bi (f_X6_fails f x0 (4 : Int32) v10_ h6_) fun v13_ h12_ =>
  b_X6_takeCorner_99 f v13_ h12_)))
  else
  (some (v4_, h3_)))
def f_X6_takeCorner (f : Nat)  (x0 : Nat) (x1 : Int32) (h : Hp) : Option (Int32 × Hp) :=
  q_on h x0 6 (
  bi (f_X6_takeNumber f x0 (0 : Int32) (5 : Int32) h) fun v3_ h2_ =>
  if v3_ ≤ 0 then
  ((q_gi h2_ x0 6 24).bind fun v4_ =>
  if x1 = 0 then
  (b_X6_takeCorner_43 f x0 v4_ h2_)
  else
  ((q_gi h2_ x0 6 33).bind fun v5_ =>
  bi (f_X6_has f v5_ v4_ h2_) fun v7_ h6_ =>
  if v7_ = 0 then
  (b_X6_takeCorner_43 f x0 v4_ h6_)
  else
  ((q_gi h6_ x0 6 25).bind fun v8_ =>
  q_on h6_ x0 6 (
  bi (f_X6_fails f x0 (4 : Int32) v8_ h6_) fun v11_ h10_ =>
  some (v11_, h10_)))))
  else
  (some (v3_, h2_)))
set_option maxRecDepth 20000 in
theorem t_X6_takeCorner_99 {X : Cx} (o : Ok X RX6 cX6_takeCorner 4 2 48 0 0 (some .int)) (f : Nat)  (y0 : Int32) (h : Hp) : Sim X (z_Zi X 0 0) 0 0 99 [] [.int y0] h (b_X6_takeCorner_99 f y0 h) := by
  unfold b_X6_takeCorner_99
  exact s_iret o dX6_takeCorner_99
set_option maxRecDepth 20000 in
theorem t_X6_takeCorner_43 {X : Cx} (o : Ok X RX6 cX6_takeCorner 4 2 48 0 0 (some .int)) (f : Nat)  (x0 : Nat) (x3 : Int32) (h : Hp) : Sim X (z_Zi X 0 0) 0 0 43 [(0, rf (xG X) x0), (3, .int x3)] [] h (b_X6_takeCorner_43 f x0 x3 h) := by
  unfold b_X6_takeCorner_43
  refine s_aload_n o 0 rfl dX6_takeCorner_43 (q := 44) rfl ?_
  refine s_iconst o dX6_takeCorner_44 (v := (0 : Int32)) (by decide) (q := 45) rfl ?_
  refine s_aload_n o 0 rfl dX6_takeCorner_45 (q := 46) rfl ?_
  refine s_gi o kf_X6_176 dX6_takeCorner_46 (q := 49) rfl (fun v1_ => ?_)
  refine s_iconst o dX6_takeCorner_49 (v := (1 : Int32)) (by decide) (q := 50) rfl ?_
  refine s_isub o dX6_takeCorner_50 (q := 51) rfl ?_
  refine s_on (fun hk2_ => ?_)
  refine s_bi (fun r0 hr0 => runV o hk2_ cv_X6_173 (c_X6_takeNumber (xG X) f x0 (0 : Int32) (v1_ - (1 : Int32)) h (xl X) r0 hr0) ⟨Nat.le_of_ble_eq_true rfl, Nat.le_of_ble_eq_true rfl⟩ rfl rfl (Nat.le_of_ble_eq_true rfl) dX6_takeCorner_51 ⟨Nat.le_of_ble_eq_true rfl, Nat.le_of_ble_eq_true rfl⟩) (q := 54) rfl (cs' := 0) rfl (sl' := 0) rfl (fun v4_ h3_ => ?_)
  refine s_istore_n o [1, 0, 2] (lv' := [(0, rf (xG X) x0), (2, .int v4_), (3, .int x3)]) rfl dX6_takeCorner_54 (by decide) (q := 55) rfl ?_
  refine s_iload_n o 1 rfl dX6_takeCorner_55 (q := 56) rfl ?_
  refine s_if_le o (tgt := 61) dX6_takeCorner_56 (by decide) (q := 59) rfl ?_ ?_
  · refine s_aload_n o 0 rfl dX6_takeCorner_61 (q := 62) rfl ?_
    refine s_bipush o dX6_takeCorner_62 (v := (9 : Int32)) (by decide) (q := 64) rfl ?_
    refine s_iload_n o 2 rfl dX6_takeCorner_64 (q := 65) rfl ?_
    refine s_imul o dX6_takeCorner_65 (q := 66) rfl ?_
    refine s_aload_n o 0 rfl dX6_takeCorner_66 (q := 67) rfl ?_
    refine s_gi o kf_X6_169 dX6_takeCorner_67 (q := 70) rfl (fun v5_ => ?_)
    refine s_iadd o dX6_takeCorner_70 (q := 71) rfl ?_
    refine s_pi o kf_X6_186 dX6_takeCorner_71 (q := 74) rfl (fun h6_ => ?_)
    refine s_aload_n o 0 rfl dX6_takeCorner_74 (q := 75) rfl ?_
    refine s_gr o kf_X6_65 dX6_takeCorner_75 (q := 78) rfl (fun a7_ => ?_)
    refine s_aload_n o 0 rfl dX6_takeCorner_78 (q := 79) rfl ?_
    refine s_gi o kf_X6_186 dX6_takeCorner_79 (q := 82) rfl (fun v8_ => ?_)
    refine s_zald o dX6_takeCorner_82 (q := 83) rfl (fun v9_ => ?_)
    refine s_if_eq o (tgt := 98) dX6_takeCorner_83 (by decide) (q := 86) rfl ?_ ?_
    · refine s_iconst o dX6_takeCorner_98 (v := (0 : Int32)) (by decide) (q := 99) rfl ?_
      exact s_sub [] rfl (t_X6_takeCorner_99 o f (0 : Int32) h6_)
    · refine s_aload_n o 0 rfl dX6_takeCorner_86 (q := 87) rfl ?_
      refine s_iconst o dX6_takeCorner_87 (v := (4 : Int32)) (by decide) (q := 88) rfl ?_
      refine s_aload_n o 0 rfl dX6_takeCorner_88 (q := 89) rfl ?_
      refine s_gi o kf_X6_166 dX6_takeCorner_89 (q := 92) rfl (fun v10_ => ?_)
      refine s_on (fun hk11_ => ?_)
      refine s_bi (fun r0 hr0 => runV o hk11_ cv_X6_162 (c_X6_fails (xG X) f x0 (4 : Int32) v10_ h6_ (xl X) r0 hr0) ⟨Nat.le_of_ble_eq_true rfl, Nat.le_of_ble_eq_true rfl⟩ rfl rfl (Nat.le_of_ble_eq_true rfl) dX6_takeCorner_92 ⟨Nat.le_of_ble_eq_true rfl, Nat.le_of_ble_eq_true rfl⟩) (q := 95) rfl (cs' := 0) rfl (sl' := 0) rfl (fun v13_ h12_ => ?_)
      refine s_goto o (tgt := 99) dX6_takeCorner_95 (by decide) ?_
      exact s_sub [] rfl (t_X6_takeCorner_99 o f v13_ h12_)
  · refine s_iload_n o 1 rfl dX6_takeCorner_59 (q := 60) rfl ?_
    exact s_iret o dX6_takeCorner_60
set_option maxRecDepth 20000 in
theorem t_X6_takeCorner_0 {X : Cx} (o : Ok X RX6 cX6_takeCorner 4 2 48 0 0 (some .int)) (f : Nat)  (x0 : Nat) (x1 : Int32) (h : Hp) : Sim X (z_Zi X 0 0) 0 0 0 [(0, rf (xG X) x0), (1, .int x1)] [] h (f_X6_takeCorner f x0 x1 h) := by
  unfold f_X6_takeCorner
  refine s_aload_n o 0 rfl dX6_takeCorner_0 (q := 1) rfl ?_
  refine s_iconst o dX6_takeCorner_1 (v := (0 : Int32)) (by decide) (q := 2) rfl ?_
  refine s_iconst o dX6_takeCorner_2 (v := (5 : Int32)) (by decide) (q := 3) rfl ?_
  refine s_on (fun hk1_ => ?_)
  refine s_bi (fun r0 hr0 => runV o hk1_ cv_X6_173 (c_X6_takeNumber (xG X) f x0 (0 : Int32) (5 : Int32) h (xl X) r0 hr0) ⟨Nat.le_of_ble_eq_true rfl, Nat.le_of_ble_eq_true rfl⟩ rfl rfl (Nat.le_of_ble_eq_true rfl) dX6_takeCorner_3 ⟨Nat.le_of_ble_eq_true rfl, Nat.le_of_ble_eq_true rfl⟩) (q := 6) rfl (cs' := 0) rfl (sl' := 0) rfl (fun v3_ h2_ => ?_)
  refine s_istore_n o [1, 2, 0] (lv' := [(0, rf (xG X) x0), (1, .int x1), (2, .int v3_)]) rfl dX6_takeCorner_6 (by decide) (q := 7) rfl ?_
  refine s_iload_n o 2 rfl dX6_takeCorner_7 (q := 8) rfl ?_
  refine s_if_le o (tgt := 13) dX6_takeCorner_8 (by decide) (q := 11) rfl ?_ ?_
  · refine s_aload_n o 0 rfl dX6_takeCorner_13 (q := 14) rfl ?_
    refine s_gi o kf_X6_169 dX6_takeCorner_14 (q := 17) rfl (fun v4_ => ?_)
    refine s_istore_n o [1, 2, 3, 0] (lv' := [(0, rf (xG X) x0), (1, .int x1), (2, .int v3_), (3, .int v4_)]) rfl dX6_takeCorner_17 (by decide) (q := 18) rfl ?_
    refine s_iload_n o 1 rfl dX6_takeCorner_18 (q := 19) rfl ?_
    refine s_if_eq o (tgt := 43) dX6_takeCorner_19 (by decide) (q := 22) rfl ?_ ?_
    · exact s_sub [0, 3] rfl (t_X6_takeCorner_43 o f x0 v4_ h2_)
    · refine s_aload_n o 0 rfl dX6_takeCorner_22 (q := 23) rfl ?_
      refine s_gi o kf_X6_179 dX6_takeCorner_23 (q := 26) rfl (fun v5_ => ?_)
      refine s_iload_n o 3 rfl dX6_takeCorner_26 (q := 27) rfl ?_
      refine s_bi (fun r0 hr0 => runS o cs_X6_182 (c_X6_has (xG X) f v5_ v4_ h2_ (xl X) r0 hr0) ⟨Nat.le_of_ble_eq_true rfl, Nat.le_of_ble_eq_true rfl⟩ rfl rfl (Nat.le_of_ble_eq_true rfl) dX6_takeCorner_27 ⟨Nat.le_of_ble_eq_true rfl, Nat.le_of_ble_eq_true rfl⟩) (q := 30) rfl (cs' := 0) rfl (sl' := 0) rfl (fun v7_ h6_ => ?_)
      refine s_if_eq o (tgt := 43) dX6_takeCorner_30 (by decide) (q := 33) rfl ?_ ?_
      · exact s_sub [0, 3] rfl (t_X6_takeCorner_43 o f x0 v4_ h6_)
      · refine s_aload_n o 0 rfl dX6_takeCorner_33 (q := 34) rfl ?_
        refine s_iconst o dX6_takeCorner_34 (v := (4 : Int32)) (by decide) (q := 35) rfl ?_
        refine s_aload_n o 0 rfl dX6_takeCorner_35 (q := 36) rfl ?_
        refine s_gi o kf_X6_166 dX6_takeCorner_36 (q := 39) rfl (fun v8_ => ?_)
        refine s_on (fun hk9_ => ?_)
        refine s_bi (fun r0 hr0 => runV o hk9_ cv_X6_162 (c_X6_fails (xG X) f x0 (4 : Int32) v8_ h6_ (xl X) r0 hr0) ⟨Nat.le_of_ble_eq_true rfl, Nat.le_of_ble_eq_true rfl⟩ rfl rfl (Nat.le_of_ble_eq_true rfl) dX6_takeCorner_39 ⟨Nat.le_of_ble_eq_true rfl, Nat.le_of_ble_eq_true rfl⟩) (q := 42) rfl (cs' := 0) rfl (sl' := 0) rfl (fun v11_ h10_ => ?_)
        exact s_iret o dX6_takeCorner_42
  · refine s_iload_n o 2 rfl dX6_takeCorner_11 (q := 12) rfl ?_
    exact s_iret o dX6_takeCorner_12
theorem c_X6_takeCorner (G : Gx) (f : Nat) (x0 : Nat) (x1 : Int32) (h : Hp) : z_M z_qi G yX6_takeCorner cX6_takeCorner 4 (some .int) 2 48 0 0 [rf G x0, .int x1] h (f_X6_takeCorner f x0 x1 h) :=
  z_met (by decide +kernel) (Nat.le_of_ble_eq_true rfl) (fun X hG hn o hnm => by
    subst hG
    show Sim X (z_Zi X 0 0) 0 0 0 [(0, rf (xG X) x0), (1, .int x1)] [] h _
    exact s_sub [0, 1] rfl (t_X6_takeCorner_0 o f x0 x1 h))
/-! SixMapsModel.takeErr()I -/
def b_X6_takeErr_64 (f : Nat)  (x0 : Nat) (x2 : Int32) (y0 : Int32) (h : Hp) : Option (Int32 × Hp) :=
  if y0 ≤ 0 then
  ((q_gr h x0 6 29).bind fun a1_ =>
  (q_gi h x0 6 40).bind fun v2_ =>
  (q_gr h x0 6 27).bind fun a3_ =>
  (q_gi h x0 6 40).bind fun v4_ =>
  q_nz (9 : Int32) (
  (q_ai h a3_ 9 (v4_ - v4_ / (9 : Int32) * (9 : Int32))).bind fun v5_ =>
  (q_as h a1_ 9 v2_ ((v5_ + x2) - (9 : Int32))).bind fun h6_ =>
  (q_gr h6_ x0 6 30).bind fun a7_ =>
  (q_gi h6_ x0 6 40).bind fun v8_ =>
  (q_gr h6_ x0 6 28).bind fun a9_ =>
  (q_gi h6_ x0 6 40).bind fun v10_ =>
  q_nz (9 : Int32) (
  (q_ai h6_ a9_ 9 (v10_ - v10_ / (9 : Int32) * (9 : Int32))).bind fun v11_ =>
  (q_gi h6_ x0 6 24).bind fun v12_ =>
  (q_as h6_ a7_ 9 v8_ ((v11_ + v12_) - (9 : Int32))).bind fun h13_ =>
  (q_gr h13_ x0 6 31).bind fun a14_ =>
  (q_gi h13_ x0 6 40).bind fun v15_ =>
  (q_as h13_ a14_ 10 v15_ (vp_nar .boolean (1 : Int32))).bind fun h16_ =>
  (q_gi h16_ x0 6 34).bind fun v17_ =>
  (q_pi h16_ x0 6 34 (v17_ + (1 : Int32))).bind fun h18_ =>
  some ((0 : Int32), h18_))))
  else
  (some (y0, h))
def b_X6_takeErr_32 (f : Nat)  (x0 : Nat) (y0 : Int32) (h : Hp) : Option (Int32 × Hp) :=
  (q_gi h x0 6 24).bind fun v1_ =>
  if y0 ≤ 0 then
  ((q_gi h x0 6 36).bind fun v2_ =>
  (q_gi h x0 6 36).bind fun v3_ =>
  q_on h x0 6 (
  bi (f_X6_takeNumber f x0 ((9 : Int32) - v2_) ((9 : Int32) + v3_) h) fun v6_ h5_ =>
  b_X6_takeErr_64 f x0 v1_ v6_ h5_))
  else
  (b_X6_takeErr_64 f x0 v1_ y0 h)
def f_X6_takeErr (f : Nat)  (x0 : Nat) (h : Hp) : Option (Int32 × Hp) :=
  q_on h x0 6 (
  bi (f_X6_takeCorner f x0 (0 : Int32) h) fun v3_ h2_ =>
  if v3_ ≤ 0 then
  ((q_gi h2_ x0 6 36).bind fun v4_ =>
  (q_gi h2_ x0 6 36).bind fun v5_ =>
  q_on h2_ x0 6 (
  bi (f_X6_takeNumber f x0 ((9 : Int32) - v4_) ((9 : Int32) + v5_) h2_) fun v8_ h7_ =>
  b_X6_takeErr_32 f x0 v8_ h7_))
  else
  (b_X6_takeErr_32 f x0 v3_ h2_))
set_option maxRecDepth 20000 in
theorem t_X6_takeErr_64 {X : Cx} (o : Ok X RX6 cX6_takeErr 3 3 71 0 0 (some .int)) (f : Nat)  (x0 : Nat) (x2 : Int32) (y0 : Int32) (h : Hp) : Sim X (z_Zi X 0 0) 0 0 64 [(0, rf (xG X) x0), (2, .int x2)] [.int y0] h (b_X6_takeErr_64 f x0 x2 y0 h) := by
  unfold b_X6_takeErr_64
  refine s_istore_n o [1, 0, 2] (lv' := [(0, rf (xG X) x0), (1, .int y0), (2, .int x2)]) rfl dX6_takeErr_64 (by decide) (q := 65) rfl ?_
  refine s_iload_n o 1 rfl dX6_takeErr_65 (q := 66) rfl ?_
  refine s_if_le o (tgt := 71) dX6_takeErr_66 (by decide) (q := 69) rfl ?_ ?_
  · refine s_aload_n o 0 rfl dX6_takeErr_71 (q := 72) rfl ?_
    refine s_gr o kf_X6_59 dX6_takeErr_72 (q := 75) rfl (fun a1_ => ?_)
    refine s_aload_n o 0 rfl dX6_takeErr_75 (q := 76) rfl ?_
    refine s_gi o kf_X6_186 dX6_takeErr_76 (q := 79) rfl (fun v2_ => ?_)
    refine s_aload_n o 0 rfl dX6_takeErr_79 (q := 80) rfl ?_
    refine s_gr o kf_X6_53 dX6_takeErr_80 (q := 83) rfl (fun a3_ => ?_)
    refine s_aload_n o 0 rfl dX6_takeErr_83 (q := 84) rfl ?_
    refine s_gi o kf_X6_186 dX6_takeErr_84 (q := 87) rfl (fun v4_ => ?_)
    refine s_bipush o dX6_takeErr_87 (v := (9 : Int32)) (by decide) (q := 89) rfl ?_
    refine s_irem o dX6_takeErr_89 (q := 90) rfl ?_
    refine s_iald o dX6_takeErr_90 (q := 91) rfl (fun v5_ => ?_)
    refine s_iload_n o 2 rfl dX6_takeErr_91 (q := 92) rfl ?_
    refine s_iadd o dX6_takeErr_92 (q := 93) rfl ?_
    refine s_bipush o dX6_takeErr_93 (v := (9 : Int32)) (by decide) (q := 95) rfl ?_
    refine s_isub o dX6_takeErr_95 (q := 96) rfl ?_
    refine s_iast o dX6_takeErr_96 (q := 97) rfl (fun h6_ => ?_)
    refine s_aload_n o 0 rfl dX6_takeErr_97 (q := 98) rfl ?_
    refine s_gr o kf_X6_62 dX6_takeErr_98 (q := 101) rfl (fun a7_ => ?_)
    refine s_aload_n o 0 rfl dX6_takeErr_101 (q := 102) rfl ?_
    refine s_gi o kf_X6_186 dX6_takeErr_102 (q := 105) rfl (fun v8_ => ?_)
    refine s_aload_n o 0 rfl dX6_takeErr_105 (q := 106) rfl ?_
    refine s_gr o kf_X6_56 dX6_takeErr_106 (q := 109) rfl (fun a9_ => ?_)
    refine s_aload_n o 0 rfl dX6_takeErr_109 (q := 110) rfl ?_
    refine s_gi o kf_X6_186 dX6_takeErr_110 (q := 113) rfl (fun v10_ => ?_)
    refine s_bipush o dX6_takeErr_113 (v := (9 : Int32)) (by decide) (q := 115) rfl ?_
    refine s_irem o dX6_takeErr_115 (q := 116) rfl ?_
    refine s_iald o dX6_takeErr_116 (q := 117) rfl (fun v11_ => ?_)
    refine s_aload_n o 0 rfl dX6_takeErr_117 (q := 118) rfl ?_
    refine s_gi o kf_X6_169 dX6_takeErr_118 (q := 121) rfl (fun v12_ => ?_)
    refine s_iadd o dX6_takeErr_121 (q := 122) rfl ?_
    refine s_bipush o dX6_takeErr_122 (v := (9 : Int32)) (by decide) (q := 124) rfl ?_
    refine s_isub o dX6_takeErr_124 (q := 125) rfl ?_
    refine s_iast o dX6_takeErr_125 (q := 126) rfl (fun h13_ => ?_)
    refine s_aload_n o 0 rfl dX6_takeErr_126 (q := 127) rfl ?_
    refine s_gr o kf_X6_65 dX6_takeErr_127 (q := 130) rfl (fun a14_ => ?_)
    refine s_aload_n o 0 rfl dX6_takeErr_130 (q := 131) rfl ?_
    refine s_gi o kf_X6_186 dX6_takeErr_131 (q := 134) rfl (fun v15_ => ?_)
    refine s_iconst o dX6_takeErr_134 (v := (1 : Int32)) (by decide) (q := 135) rfl ?_
    refine s_zast o dX6_takeErr_135 (q := 136) rfl (fun h16_ => ?_)
    refine s_aload_n o 0 rfl dX6_takeErr_136 (q := 137) rfl ?_
    refine s_dup o rfl dX6_takeErr_137 (q := 138) rfl ?_
    refine s_gi o kf_X6_203 dX6_takeErr_138 (q := 141) rfl (fun v17_ => ?_)
    refine s_iconst o dX6_takeErr_141 (v := (1 : Int32)) (by decide) (q := 142) rfl ?_
    refine s_iadd o dX6_takeErr_142 (q := 143) rfl ?_
    refine s_pi o kf_X6_203 dX6_takeErr_143 (q := 146) rfl (fun h18_ => ?_)
    refine s_iconst o dX6_takeErr_146 (v := (0 : Int32)) (by decide) (q := 147) rfl ?_
    exact s_iret o dX6_takeErr_147
  · refine s_iload_n o 1 rfl dX6_takeErr_69 (q := 70) rfl ?_
    exact s_iret o dX6_takeErr_70
set_option maxRecDepth 20000 in
theorem t_X6_takeErr_32 {X : Cx} (o : Ok X RX6 cX6_takeErr 3 3 71 0 0 (some .int)) (f : Nat)  (x0 : Nat) (y0 : Int32) (h : Hp) : Sim X (z_Zi X 0 0) 0 0 32 [(0, rf (xG X) x0)] [.int y0] h (b_X6_takeErr_32 f x0 y0 h) := by
  unfold b_X6_takeErr_32
  refine s_istore_n o [1, 0] (lv' := [(0, rf (xG X) x0), (1, .int y0)]) rfl dX6_takeErr_32 (by decide) (q := 33) rfl ?_
  refine s_aload_n o 0 rfl dX6_takeErr_33 (q := 34) rfl ?_
  refine s_gi o kf_X6_169 dX6_takeErr_34 (q := 37) rfl (fun v1_ => ?_)
  refine s_istore_n o [1, 2, 0] (lv' := [(0, rf (xG X) x0), (1, .int y0), (2, .int v1_)]) rfl dX6_takeErr_37 (by decide) (q := 38) rfl ?_
  refine s_iload_n o 1 rfl dX6_takeErr_38 (q := 39) rfl ?_
  refine s_if_le o (tgt := 46) dX6_takeErr_39 (by decide) (q := 42) rfl ?_ ?_
  · refine s_aload_n o 0 rfl dX6_takeErr_46 (q := 47) rfl ?_
    refine s_bipush o dX6_takeErr_47 (v := (9 : Int32)) (by decide) (q := 49) rfl ?_
    refine s_aload_n o 0 rfl dX6_takeErr_49 (q := 50) rfl ?_
    refine s_gi o kf_X6_197 dX6_takeErr_50 (q := 53) rfl (fun v2_ => ?_)
    refine s_isub o dX6_takeErr_53 (q := 54) rfl ?_
    refine s_bipush o dX6_takeErr_54 (v := (9 : Int32)) (by decide) (q := 56) rfl ?_
    refine s_aload_n o 0 rfl dX6_takeErr_56 (q := 57) rfl ?_
    refine s_gi o kf_X6_197 dX6_takeErr_57 (q := 60) rfl (fun v3_ => ?_)
    refine s_iadd o dX6_takeErr_60 (q := 61) rfl ?_
    refine s_on (fun hk4_ => ?_)
    refine s_bi (fun r0 hr0 => runV o hk4_ cv_X6_173 (c_X6_takeNumber (xG X) f x0 ((9 : Int32) - v2_) ((9 : Int32) + v3_) h (xl X) r0 hr0) ⟨Nat.le_of_ble_eq_true rfl, Nat.le_of_ble_eq_true rfl⟩ rfl rfl (Nat.le_of_ble_eq_true rfl) dX6_takeErr_61 ⟨Nat.le_of_ble_eq_true rfl, Nat.le_of_ble_eq_true rfl⟩) (q := 64) rfl (cs' := 0) rfl (sl' := 0) rfl (fun v6_ h5_ => ?_)
    exact s_sub [0, 2] rfl (t_X6_takeErr_64 o f x0 v1_ v6_ h5_)
  · refine s_iload_n o 1 rfl dX6_takeErr_42 (q := 43) rfl ?_
    refine s_goto o (tgt := 64) dX6_takeErr_43 (by decide) ?_
    exact s_sub [0, 2] rfl (t_X6_takeErr_64 o f x0 v1_ y0 h)
set_option maxRecDepth 20000 in
theorem t_X6_takeErr_0 {X : Cx} (o : Ok X RX6 cX6_takeErr 3 3 71 0 0 (some .int)) (f : Nat)  (x0 : Nat) (h : Hp) : Sim X (z_Zi X 0 0) 0 0 0 [(0, rf (xG X) x0)] [] h (f_X6_takeErr f x0 h) := by
  unfold f_X6_takeErr
  refine s_aload_n o 0 rfl dX6_takeErr_0 (q := 1) rfl ?_
  refine s_iconst o dX6_takeErr_1 (v := (0 : Int32)) (by decide) (q := 2) rfl ?_
  refine s_on (fun hk1_ => ?_)
  refine s_bi (fun r0 hr0 => runV o hk1_ cv_X6_189 (c_X6_takeCorner (xG X) f x0 (0 : Int32) h (xl X) r0 hr0) ⟨Nat.le_of_ble_eq_true rfl, Nat.le_of_ble_eq_true rfl⟩ rfl rfl (Nat.le_of_ble_eq_true rfl) dX6_takeErr_2 ⟨Nat.le_of_ble_eq_true rfl, Nat.le_of_ble_eq_true rfl⟩) (q := 5) rfl (cs' := 0) rfl (sl' := 0) rfl (fun v3_ h2_ => ?_)
  refine s_istore_n o [1, 0] (lv' := [(0, rf (xG X) x0), (1, .int v3_)]) rfl dX6_takeErr_5 (by decide) (q := 6) rfl ?_
  refine s_iload_n o 1 rfl dX6_takeErr_6 (q := 7) rfl ?_
  refine s_if_le o (tgt := 14) dX6_takeErr_7 (by decide) (q := 10) rfl ?_ ?_
  · refine s_aload_n o 0 rfl dX6_takeErr_14 (q := 15) rfl ?_
    refine s_bipush o dX6_takeErr_15 (v := (9 : Int32)) (by decide) (q := 17) rfl ?_
    refine s_aload_n o 0 rfl dX6_takeErr_17 (q := 18) rfl ?_
    refine s_gi o kf_X6_197 dX6_takeErr_18 (q := 21) rfl (fun v4_ => ?_)
    refine s_isub o dX6_takeErr_21 (q := 22) rfl ?_
    refine s_bipush o dX6_takeErr_22 (v := (9 : Int32)) (by decide) (q := 24) rfl ?_
    refine s_aload_n o 0 rfl dX6_takeErr_24 (q := 25) rfl ?_
    refine s_gi o kf_X6_197 dX6_takeErr_25 (q := 28) rfl (fun v5_ => ?_)
    refine s_iadd o dX6_takeErr_28 (q := 29) rfl ?_
    refine s_on (fun hk6_ => ?_)
    refine s_bi (fun r0 hr0 => runV o hk6_ cv_X6_173 (c_X6_takeNumber (xG X) f x0 ((9 : Int32) - v4_) ((9 : Int32) + v5_) h2_ (xl X) r0 hr0) ⟨Nat.le_of_ble_eq_true rfl, Nat.le_of_ble_eq_true rfl⟩ rfl rfl (Nat.le_of_ble_eq_true rfl) dX6_takeErr_29 ⟨Nat.le_of_ble_eq_true rfl, Nat.le_of_ble_eq_true rfl⟩) (q := 32) rfl (cs' := 0) rfl (sl' := 0) rfl (fun v8_ h7_ => ?_)
    exact s_sub [0] rfl (t_X6_takeErr_32 o f x0 v8_ h7_)
  · refine s_iload_n o 1 rfl dX6_takeErr_10 (q := 11) rfl ?_
    refine s_goto o (tgt := 32) dX6_takeErr_11 (by decide) ?_
    exact s_sub [0] rfl (t_X6_takeErr_32 o f x0 v3_ h2_)
theorem c_X6_takeErr (G : Gx) (f : Nat) (x0 : Nat) (h : Hp) : z_M z_qi G yX6_takeErr cX6_takeErr 3 (some .int) 3 71 0 0 [rf G x0] h (f_X6_takeErr f x0 h) :=
  z_met (by decide +kernel) (Nat.le_of_ble_eq_true rfl) (fun X hG hn o hnm => by
    subst hG
    show Sim X (z_Zi X 0 0) 0 0 0 [(0, rf (xG X) x0)] [] h _
    exact s_sub [0] rfl (t_X6_takeErr_0 o f x0 h))
