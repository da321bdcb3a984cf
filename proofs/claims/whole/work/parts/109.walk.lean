/-! SixMapsModel.couldBe(II)Z -/
def b_X6_couldBe_52 (f : Nat) (k5 : Nat → Int32 → Int32 → Int32 → Int32 → Hp → Option (Int32 × Hp)) (x0 : Nat) (x1 : Int32) (x2 : Int32) (x4 : Int32) (y0 : Int32) (h : Hp) : Option (Int32 × Hp) :=
  lt (x4 + (1 : Int32)) fun v1_ =>
  k5 x0 x1 x2 y0 v1_ h
def b_X6_couldBe_47 (f : Nat) (k5 : Nat → Int32 → Int32 → Int32 → Int32 → Hp → Option (Int32 × Hp)) (x0 : Nat) (x1 : Int32) (x2 : Int32) (x4 : Int32) (h : Hp) : Option (Int32 × Hp) :=
  b_X6_couldBe_52 f k5 x0 x1 x2 x4 (1 : Int32) h
def b_X6_couldBe_5 (f : Nat) (k5 : Nat → Int32 → Int32 → Int32 → Int32 → Hp → Option (Int32 × Hp)) (x0 : Nat) (x1 : Int32) (x2 : Int32) (x3 : Int32) (x4 : Int32) (h : Hp) : Option (Int32 × Hp) :=
  (q_gi h x0 6 0).bind fun v1_ =>
  if v1_ ≤ x4 then
  (q_bo x3 (some (x3, h)))
  else
  (if ¬ x3 = 0 then
  (b_X6_couldBe_47 f k5 x0 x1 x2 x4 h)
  else
  ((q_gr h x0 6 11).bind fun a2_ =>
  (q_ai h a2_ 9 (((6 : Int32) * x1) + x2)).bind fun v3_ =>
  bi (f_X6_has f v3_ x4 h) fun v5_ h4_ =>
  if v5_ = 0 then
  (b_X6_couldBe_47 f k5 x0 x1 x2 x4 h4_)
  else
  (q_on h4_ x0 6 (
  bi (f_X6_isWithin f x0 x2 x4 h4_) fun v8_ h7_ =>
  if ¬ v8_ = 0 then
  (b_X6_couldBe_52 f k5 x0 x1 x2 x4 (0 : Int32) h7_)
  else
  (b_X6_couldBe_47 f k5 x0 x1 x2 x4 h7_)))))
def l_X6_couldBe_5 (f : Nat)  : Nat → Nat → Int32 → Int32 → Int32 → Int32 → Hp → Option (Int32 × Hp)
  | 0, _, _, _, _, _, _ => none
  | n + 1, x0, x1, x2, x3, x4, h => b_X6_couldBe_5 f  (l_X6_couldBe_5 f  n) x0 x1 x2 x3 x4 h
def f_X6_couldBe (f : Nat)  (x0 : Nat) (x1 : Int32) (x2 : Int32) (h : Hp) : Option (Int32 × Hp) :=
  l_X6_couldBe_5 f f x0 x1 x2 (0 : Int32) (0 : Int32) h
set_option maxRecDepth 20000 in
theorem t_X6_couldBe_52 {X : Cx} (o : Ok X RX6 cX6_couldBe 5 1 25 0 0 (some .boolean)) (f : Nat) {k5 : Nat → Int32 → Int32 → Int32 → Int32 → Hp → Option (Int32 × Hp)} (hk5 : ∀ (x0 : Nat) (x1 : Int32) (x2 : Int32) (x3 : Int32) (x4 : Int32) (h : Hp), Sim X (z_Zi X 0 0) 0 0 5 [(0, rf (xG X) x0), (1, .int x1), (2, .int x2), (3, .int x3), (4, .int x4)] [] h (k5 x0 x1 x2 x3 x4 h)) (x0 : Nat) (x1 : Int32) (x2 : Int32) (x4 : Int32) (y0 : Int32) (h : Hp) : Sim X (z_Zi X 0 0) 0 0 52 [(0, rf (xG X) x0), (1, .int x1), (2, .int x2), (4, .int x4)] [.int y0] h (b_X6_couldBe_52 f k5 x0 x1 x2 x4 y0 h) := by
  unfold b_X6_couldBe_52
  refine s_istore_n o [1, 2, 3, 0, 4] (lv' := [(0, rf (xG X) x0), (1, .int x1), (2, .int x2), (3, .int y0), (4, .int x4)]) rfl dX6_couldBe_52 (by decide) (q := 53) rfl ?_
  refine s_iinc o 4 rfl (v := (1 : Int32)) (by decide) [1, 2, 3, 4, 0] (lv' := fun v1_ => [(0, rf (xG X) x0), (1, .int x1), (2, .int x2), (3, .int y0), (4, .int v1_)]) (fun _ => rfl) dX6_couldBe_53 (by decide) (q := 56) rfl (fun v1_ => ?_)
  refine s_goto o (tgt := 5) dX6_couldBe_56 (by decide) ?_
  exact s_sub [0, 1, 2, 3, 4] rfl (hk5 x0 x1 x2 y0 v1_ h)
set_option maxRecDepth 20000 in
theorem t_X6_couldBe_47 {X : Cx} (o : Ok X RX6 cX6_couldBe 5 1 25 0 0 (some .boolean)) (f : Nat) {k5 : Nat → Int32 → Int32 → Int32 → Int32 → Hp → Option (Int32 × Hp)} (hk5 : ∀ (x0 : Nat) (x1 : Int32) (x2 : Int32) (x3 : Int32) (x4 : Int32) (h : Hp), Sim X (z_Zi X 0 0) 0 0 5 [(0, rf (xG X) x0), (1, .int x1), (2, .int x2), (3, .int x3), (4, .int x4)] [] h (k5 x0 x1 x2 x3 x4 h)) (x0 : Nat) (x1 : Int32) (x2 : Int32) (x4 : Int32) (h : Hp) : Sim X (z_Zi X 0 0) 0 0 47 [(0, rf (xG X) x0), (1, .int x1), (2, .int x2), (4, .int x4)] [] h (b_X6_couldBe_47 f k5 x0 x1 x2 x4 h) := by
  unfold b_X6_couldBe_47
  refine s_iconst o dX6_couldBe_47 (v := (1 : Int32)) (by decide) (q := 48) rfl ?_
  refine s_goto o (tgt := 52) dX6_couldBe_48 (by decide) ?_
  exact s_sub [0, 1, 2, 3] rfl (t_X6_couldBe_52 o f hk5 x0 x1 x2 x4 (1 : Int32) h)
set_option maxRecDepth 20000 in
theorem t_X6_couldBe_5 {X : Cx} (o : Ok X RX6 cX6_couldBe 5 1 25 0 0 (some .boolean)) (f : Nat) {k5 : Nat → Int32 → Int32 → Int32 → Int32 → Hp → Option (Int32 × Hp)} (hk5 : ∀ (x0 : Nat) (x1 : Int32) (x2 : Int32) (x3 : Int32) (x4 : Int32) (h : Hp), Sim X (z_Zi X 0 0) 0 0 5 [(0, rf (xG X) x0), (1, .int x1), (2, .int x2), (3, .int x3), (4, .int x4)] [] h (k5 x0 x1 x2 x3 x4 h)) (x0 : Nat) (x1 : Int32) (x2 : Int32) (x3 : Int32) (x4 : Int32) (h : Hp) : Sim X (z_Zi X 0 0) 0 0 5 [(0, rf (xG X) x0), (1, .int x1), (2, .int x2), (3, .int x3), (4, .int x4)] [] h (b_X6_couldBe_5 f k5 x0 x1 x2 x3 x4 h) := by
  unfold b_X6_couldBe_5
  refine s_iload o 4 rfl dX6_couldBe_5 (q := 7) rfl ?_
  refine s_aload_n o 0 rfl dX6_couldBe_7 (q := 8) rfl ?_
  refine s_gi o kf_X6_111 dX6_couldBe_8 (q := 11) rfl (fun v1_ => ?_)
  refine s_ic_ge o (tgt := 59) dX6_couldBe_11 (by decide) (q := 14) rfl ?_ ?_
  · refine s_iload_n o 3 rfl dX6_couldBe_59 (q := 60) rfl ?_
    exact s_zret o dX6_couldBe_60
  · refine s_iload_n o 3 rfl dX6_couldBe_14 (q := 15) rfl ?_
    refine s_if_ne o (tgt := 47) dX6_couldBe_15 (by decide) (q := 18) rfl ?_ ?_
    · exact s_sub [0, 1, 2, 4] rfl (t_X6_couldBe_47 o f hk5 x0 x1 x2 x4 h)
    · refine s_aload_n o 0 rfl dX6_couldBe_18 (q := 19) rfl ?_
      refine s_gr o kf_X6_32 dX6_couldBe_19 (q := 22) rfl (fun a2_ => ?_)
      refine s_bipush o dX6_couldBe_22 (v := (6 : Int32)) (by decide) (q := 24) rfl ?_
      refine s_iload_n o 1 rfl dX6_couldBe_24 (q := 25) rfl ?_
      refine s_imul o dX6_couldBe_25 (q := 26) rfl ?_
      refine s_iload_n o 2 rfl dX6_couldBe_26 (q := 27) rfl ?_
      refine s_iadd o dX6_couldBe_27 (q := 28) rfl ?_
      refine s_iald o dX6_couldBe_28 (q := 29) rfl (fun v3_ => ?_)
      refine s_iload o 4 rfl dX6_couldBe_29 (q := 31) rfl ?_
      refine s_bi (fun r0 hr0 => runS o cs_X6_182 (c_X6_has (xG X) f v3_ x4 h (xl X) r0 hr0) ⟨Nat.le_of_ble_eq_true rfl, Nat.le_of_ble_eq_true rfl⟩ rfl rfl (Nat.le_of_ble_eq_true rfl) dX6_couldBe_31 ⟨Nat.le_of_ble_eq_true rfl, Nat.le_of_ble_eq_true rfl⟩) (q := 34) rfl (cs' := 0) rfl (sl' := 0) rfl (fun v5_ h4_ => ?_)
      refine s_if_eq o (tgt := 47) dX6_couldBe_34 (by decide) (q := 37) rfl ?_ ?_
      · exact s_sub [0, 1, 2, 4] rfl (t_X6_couldBe_47 o f hk5 x0 x1 x2 x4 h4_)
      · refine s_aload_n o 0 rfl dX6_couldBe_37 (q := 38) rfl ?_
        refine s_iload_n o 2 rfl dX6_couldBe_38 (q := 39) rfl ?_
        refine s_iload o 4 rfl dX6_couldBe_39 (q := 41) rfl ?_
        refine s_on (fun hk6_ => ?_)
        refine s_bi (fun r0 hr0 => runV o hk6_ cv_X6_277 (c_X6_isWithin (xG X) f x0 x2 x4 h4_ (xl X) r0 hr0) ⟨Nat.le_of_ble_eq_true rfl, Nat.le_of_ble_eq_true rfl⟩ rfl rfl (Nat.le_of_ble_eq_true rfl) dX6_couldBe_41 ⟨Nat.le_of_ble_eq_true rfl, Nat.le_of_ble_eq_true rfl⟩) (q := 44) rfl (cs' := 0) rfl (sl' := 0) rfl (fun v8_ h7_ => ?_)
        refine s_if_ne o (tgt := 51) dX6_couldBe_44 (by decide) (q := 47) rfl ?_ ?_
        · refine s_iconst o dX6_couldBe_51 (v := (0 : Int32)) (by decide) (q := 52) rfl ?_
          exact s_sub [0, 1, 2, 4] rfl (t_X6_couldBe_52 o f hk5 x0 x1 x2 x4 (0 : Int32) h7_)
        · exact s_sub [0, 1, 2, 4] rfl (t_X6_couldBe_47 o f hk5 x0 x1 x2 x4 h7_)
theorem tl_X6_couldBe_5 {X : Cx} (o : Ok X RX6 cX6_couldBe 5 1 25 0 0 (some .boolean)) (f : Nat)  : ∀ (n : Nat) (x0 : Nat) (x1 : Int32) (x2 : Int32) (x3 : Int32) (x4 : Int32) (h : Hp), Sim X (z_Zi X 0 0) 0 0 5 [(0, rf (xG X) x0), (1, .int x1), (2, .int x2), (3, .int x3), (4, .int x4)] [] h (l_X6_couldBe_5 f n x0 x1 x2 x3 x4 h) := by
  intro n
  induction n with
  | zero => intro x0 x1 x2 x3 x4 h; exact s_none
  | succ n ih => intro x0 x1 x2 x3 x4 h; exact t_X6_couldBe_5 o f  ih x0 x1 x2 x3 x4 h
set_option maxRecDepth 20000 in
theorem t_X6_couldBe_0 {X : Cx} (o : Ok X RX6 cX6_couldBe 5 1 25 0 0 (some .boolean)) (f : Nat)  (x0 : Nat) (x1 : Int32) (x2 : Int32) (h : Hp) : Sim X (z_Zi X 0 0) 0 0 0 [(0, rf (xG X) x0), (1, .int x1), (2, .int x2)] [] h (f_X6_couldBe f x0 x1 x2 h) := by
  unfold f_X6_couldBe
  refine s_iconst o dX6_couldBe_0 (v := (0 : Int32)) (by decide) (q := 1) rfl ?_
  refine s_istore_n o [1, 2, 3, 0] (lv' := [(0, rf (xG X) x0), (1, .int x1), (2, .int x2), (3, .int (0 : Int32))]) rfl dX6_couldBe_1 (by decide) (q := 2) rfl ?_
  refine s_iconst o dX6_couldBe_2 (v := (0 : Int32)) (by decide) (q := 3) rfl ?_
  refine s_istore o [1, 2, 3, 4, 0] (lv' := [(0, rf (xG X) x0), (1, .int x1), (2, .int x2), (3, .int (0 : Int32)), (4, .int (0 : Int32))]) rfl dX6_couldBe_3 (by decide) (q := 5) rfl ?_
  exact s_sub [0, 1, 2, 3, 4] rfl (tl_X6_couldBe_5 o f f x0 x1 x2 (0 : Int32) (0 : Int32) h)
theorem c_X6_couldBe (G : Gx) (f : Nat) (x0 : Nat) (x1 : Int32) (x2 : Int32) (h : Hp) : z_M z_qi G yX6_couldBe cX6_couldBe 5 (some .boolean) 1 25 0 0 [rf G x0, .int x1, .int x2] h (f_X6_couldBe f x0 x1 x2 h) :=
  z_met (by decide +kernel) (Nat.le_of_ble_eq_true rfl) (fun X hG hn o hnm => by
    subst hG
    show Sim X (z_Zi X 0 0) 0 0 0 [(0, rf (xG X) x0), (1, .int x1), (2, .int x2)] [] h _
    exact s_sub [0, 1, 2] rfl (t_X6_couldBe_0 o f x0 x1 x2 h))
/-! SixMapsModel.narrow(III)V -/
def b_X6_narrow_264 (f : Nat)  (y0 : Nat) (y1 : Int32) (y2 : Int32) (h : Hp) : Option (Hp) :=
  (q_as h y0 9 y1 y2).bind fun h1_ =>
  some h1_
def b_X6_narrow_216 (f : Nat)  (x0 : Nat) (x1 : Int32) (x3 : Int32) (y0 : Nat) (y1 : Int32) (y2 : Int32) (h : Hp) : Option (Hp) :=
  (q_as h y0 9 y1 y2).bind fun h1_ =>
  (q_gr h1_ x0 6 42).bind fun a2_ =>
  (q_gi h1_ x0 6 7).bind fun v3_ =>
  (q_gr h1_ x0 6 42).bind fun a4_ =>
  (q_ai h1_ a4_ 9 (((4 : Int32) * x1) + (3 : Int32))).bind fun v5_ =>
  if v5_ ≤ (x3 + v3_) then
  ((q_gr h1_ x0 6 42).bind fun a6_ =>
  (q_ai h1_ a6_ 9 (((4 : Int32) * x1) + (3 : Int32))).bind fun v7_ =>
  b_X6_narrow_264 f a2_ (((4 : Int32) * x1) + (3 : Int32)) v7_ h1_)
  else
  ((q_gi h1_ x0 6 7).bind fun v8_ =>
  b_X6_narrow_264 f a2_ (((4 : Int32) * x1) + (3 : Int32)) (x3 + v8_) h1_)
def b_X6_narrow_168 (f : Nat)  (x0 : Nat) (x1 : Int32) (x3 : Int32) (y0 : Nat) (y1 : Int32) (y2 : Int32) (h : Hp) : Option (Hp) :=
  (q_as h y0 9 y1 y2).bind fun h1_ =>
  (q_gr h1_ x0 6 42).bind fun a2_ =>
  (q_gi h1_ x0 6 7).bind fun v3_ =>
  (q_gr h1_ x0 6 42).bind fun a4_ =>
  (q_ai h1_ a4_ 9 (((4 : Int32) * x1) + (2 : Int32))).bind fun v5_ =>
  if (x3 - v3_) ≤ v5_ then
  ((q_gr h1_ x0 6 42).bind fun a6_ =>
  (q_ai h1_ a6_ 9 (((4 : Int32) * x1) + (2 : Int32))).bind fun v7_ =>
  b_X6_narrow_216 f x0 x1 x3 a2_ (((4 : Int32) * x1) + (2 : Int32)) v7_ h1_)
  else
  ((q_gi h1_ x0 6 7).bind fun v8_ =>
  b_X6_narrow_216 f x0 x1 x3 a2_ (((4 : Int32) * x1) + (2 : Int32)) (x3 - v8_) h1_)
def b_X6_narrow_120 (f : Nat)  (x0 : Nat) (x1 : Int32) (x2 : Int32) (x3 : Int32) (y0 : Nat) (y1 : Int32) (y2 : Int32) (h : Hp) : Option (Hp) :=
  (q_as h y0 9 y1 y2).bind fun h1_ =>
  (q_gr h1_ x0 6 42).bind fun a2_ =>
  (q_gi h1_ x0 6 7).bind fun v3_ =>
  (q_gr h1_ x0 6 42).bind fun a4_ =>
  (q_ai h1_ a4_ 9 (((4 : Int32) * x1) + (1 : Int32))).bind fun v5_ =>
  if v5_ ≤ (x2 + v3_) then
  ((q_gr h1_ x0 6 42).bind fun a6_ =>
  (q_ai h1_ a6_ 9 (((4 : Int32) * x1) + (1 : Int32))).bind fun v7_ =>
  b_X6_narrow_168 f x0 x1 x3 a2_ (((4 : Int32) * x1) + (1 : Int32)) v7_ h1_)
  else
  ((q_gi h1_ x0 6 7).bind fun v8_ =>
  b_X6_narrow_168 f x0 x1 x3 a2_ (((4 : Int32) * x1) + (1 : Int32)) (x2 + v8_) h1_)
def f_X6_narrow (f : Nat)  (x0 : Nat) (x1 : Int32) (x2 : Int32) (x3 : Int32) (h : Hp) : Option (Hp) :=
  (q_gr h x0 6 41).bind fun a1_ =>
  (q_ai h a1_ 10 x1).bind fun v2_ =>
  if v2_ = 0 then
  ((q_gr h x0 6 42).bind fun a3_ =>
  (q_gi h x0 6 7).bind fun v4_ =>
  (q_gr h x0 6 42).bind fun a5_ =>
  (q_ai h a5_ 9 ((4 : Int32) * x1)).bind fun v6_ =>
  if (x2 - v4_) ≤ v6_ then
  ((q_gr h x0 6 42).bind fun a7_ =>
  (q_ai h a7_ 9 ((4 : Int32) * x1)).bind fun v8_ =>
  b_X6_narrow_120 f x0 x1 x2 x3 a3_ ((4 : Int32) * x1) v8_ h)
  else
  ((q_gi h x0 6 7).bind fun v9_ =>
  b_X6_narrow_120 f x0 x1 x2 x3 a3_ ((4 : Int32) * x1) (x2 - v9_) h))
  else
  ((q_gr h x0 6 42).bind fun a10_ =>
  (q_gi h x0 6 7).bind fun v11_ =>
  (q_as h a10_ 9 ((4 : Int32) * x1) (x2 - v11_)).bind fun h12_ =>
  (q_gr h12_ x0 6 42).bind fun a13_ =>
  (q_gi h12_ x0 6 7).bind fun v14_ =>
  (q_as h12_ a13_ 9 (((4 : Int32) * x1) + (1 : Int32)) (x2 + v14_)).bind fun h15_ =>
  (q_gr h15_ x0 6 42).bind fun a16_ =>
  (q_gi h15_ x0 6 7).bind fun v17_ =>
  (q_as h15_ a16_ 9 (((4 : Int32) * x1) + (2 : Int32)) (x3 - v17_)).bind fun h18_ =>
  (q_gr h18_ x0 6 42).bind fun a19_ =>
  (q_gi h18_ x0 6 7).bind fun v20_ =>
  (q_as h18_ a19_ 9 (((4 : Int32) * x1) + (3 : Int32)) (x3 + v20_)).bind fun h21_ =>
  (q_gr h21_ x0 6 41).bind fun a22_ =>
  (q_as h21_ a22_ 10 x1 (vp_nar .boolean (0 : Int32))).bind fun h23_ =>
  some h23_)
set_option maxRecDepth 20000 in
theorem t_X6_narrow_264 {X : Cx} (o : Ok X RX6 cX6_narrow 4 0 0 0 0 none) (f : Nat)  (y0 : Nat) (y1 : Int32) (y2 : Int32) (h : Hp) : Sim X (z_Zv X 0 0) 0 0 264 [] [.int y2, .int y1, rf (xG X) y0] h (b_X6_narrow_264 f y0 y1 y2 h) := by
  unfold b_X6_narrow_264
  refine s_iast o dX6_narrow_264 (q := 265) rfl (fun h1_ => ?_)
  exact s_vret o dX6_narrow_265
set_option maxRecDepth 20000 in
theorem t_X6_narrow_216 {X : Cx} (o : Ok X RX6 cX6_narrow 4 0 0 0 0 none) (f : Nat)  (x0 : Nat) (x1 : Int32) (x3 : Int32) (y0 : Nat) (y1 : Int32) (y2 : Int32) (h : Hp) : Sim X (z_Zv X 0 0) 0 0 216 [(0, rf (xG X) x0), (1, .int x1), (3, .int x3)] [.int y2, .int y1, rf (xG X) y0] h (b_X6_narrow_216 f x0 x1 x3 y0 y1 y2 h) := by
  unfold b_X6_narrow_216
  refine s_iast o dX6_narrow_216 (q := 217) rfl (fun h1_ => ?_)
  refine s_aload_n o 0 rfl dX6_narrow_217 (q := 218) rfl ?_
  refine s_gr o kf_X6_75 dX6_narrow_218 (q := 221) rfl (fun a2_ => ?_)
  refine s_iconst o dX6_narrow_221 (v := (4 : Int32)) (by decide) (q := 222) rfl ?_
  refine s_iload_n o 1 rfl dX6_narrow_222 (q := 223) rfl ?_
  refine s_imul o dX6_narrow_223 (q := 224) rfl ?_
  refine s_iconst o dX6_narrow_224 (v := (3 : Int32)) (by decide) (q := 225) rfl ?_
  refine s_iadd o dX6_narrow_225 (q := 226) rfl ?_
  refine s_iload_n o 2 rfl dX6_narrow_226 (q := 227) rfl ?_
  refine s_aload_n o 0 rfl dX6_narrow_227 (q := 228) rfl ?_
  refine s_gi o kf_X6_256 dX6_narrow_228 (q := 231) rfl (fun v3_ => ?_)
  refine s_iadd o dX6_narrow_231 (q := 232) rfl ?_
  refine s_aload_n o 0 rfl dX6_narrow_232 (q := 233) rfl ?_
  refine s_gr o kf_X6_75 dX6_narrow_233 (q := 236) rfl (fun a4_ => ?_)
  refine s_iconst o dX6_narrow_236 (v := (4 : Int32)) (by decide) (q := 237) rfl ?_
  refine s_iload_n o 1 rfl dX6_narrow_237 (q := 238) rfl ?_
  refine s_imul o dX6_narrow_238 (q := 239) rfl ?_
  refine s_iconst o dX6_narrow_239 (v := (3 : Int32)) (by decide) (q := 240) rfl ?_
  refine s_iadd o dX6_narrow_240 (q := 241) rfl ?_
  refine s_iald o dX6_narrow_241 (q := 242) rfl (fun v5_ => ?_)
  refine s_ic_ge o (tgt := 254) dX6_narrow_242 (by decide) (q := 245) rfl ?_ ?_
  · refine s_aload_n o 0 rfl dX6_narrow_254 (q := 255) rfl ?_
    refine s_gr o kf_X6_75 dX6_narrow_255 (q := 258) rfl (fun a6_ => ?_)
    refine s_iconst o dX6_narrow_258 (v := (4 : Int32)) (by decide) (q := 259) rfl ?_
    refine s_iload_n o 1 rfl dX6_narrow_259 (q := 260) rfl ?_
    refine s_imul o dX6_narrow_260 (q := 261) rfl ?_
    refine s_iconst o dX6_narrow_261 (v := (3 : Int32)) (by decide) (q := 262) rfl ?_
    refine s_iadd o dX6_narrow_262 (q := 263) rfl ?_
    refine s_iald o dX6_narrow_263 (q := 264) rfl (fun v7_ => ?_)
    exact s_sub [] rfl (t_X6_narrow_264 o f a2_ (((4 : Int32) * x1) + (3 : Int32)) v7_ h1_)
  · refine s_iload_n o 2 rfl dX6_narrow_245 (q := 246) rfl ?_
    refine s_aload_n o 0 rfl dX6_narrow_246 (q := 247) rfl ?_
    refine s_gi o kf_X6_256 dX6_narrow_247 (q := 250) rfl (fun v8_ => ?_)
    refine s_iadd o dX6_narrow_250 (q := 251) rfl ?_
    refine s_goto o (tgt := 264) dX6_narrow_251 (by decide) ?_
    exact s_sub [] rfl (t_X6_narrow_264 o f a2_ (((4 : Int32) * x1) + (3 : Int32)) (x3 + v8_) h1_)
set_option maxRecDepth 20000 in
theorem t_X6_narrow_168 {X : Cx} (o : Ok X RX6 cX6_narrow 4 0 0 0 0 none) (f : Nat)  (x0 : Nat) (x1 : Int32) (x3 : Int32) (y0 : Nat) (y1 : Int32) (y2 : Int32) (h : Hp) : Sim X (z_Zv X 0 0) 0 0 168 [(0, rf (xG X) x0), (1, .int x1), (3, .int x3)] [.int y2, .int y1, rf (xG X) y0] h (b_X6_narrow_168 f x0 x1 x3 y0 y1 y2 h) := by
  unfold b_X6_narrow_168
  refine s_iast o dX6_narrow_168 (q := 169) rfl (fun h1_ => ?_)
  refine s_aload_n o 0 rfl dX6_narrow_169 (q := 170) rfl ?_
  refine s_gr o kf_X6_75 dX6_narrow_170 (q := 173) rfl (fun a2_ => ?_)
  refine s_iconst o dX6_narrow_173 (v := (4 : Int32)) (by decide) (q := 174) rfl ?_
  refine s_iload_n o 1 rfl dX6_narrow_174 (q := 175) rfl ?_
  refine s_imul o dX6_narrow_175 (q := 176) rfl ?_
  refine s_iconst o dX6_narrow_176 (v := (2 : Int32)) (by decide) (q := 177) rfl ?_
  refine s_iadd o dX6_narrow_177 (q := 178) rfl ?_
  refine s_iload_n o 2 rfl dX6_narrow_178 (q := 179) rfl ?_
  refine s_aload_n o 0 rfl dX6_narrow_179 (q := 180) rfl ?_
  refine s_gi o kf_X6_256 dX6_narrow_180 (q := 183) rfl (fun v3_ => ?_)
  refine s_isub o dX6_narrow_183 (q := 184) rfl ?_
  refine s_aload_n o 0 rfl dX6_narrow_184 (q := 185) rfl ?_
  refine s_gr o kf_X6_75 dX6_narrow_185 (q := 188) rfl (fun a4_ => ?_)
  refine s_iconst o dX6_narrow_188 (v := (4 : Int32)) (by decide) (q := 189) rfl ?_
  refine s_iload_n o 1 rfl dX6_narrow_189 (q := 190) rfl ?_
  refine s_imul o dX6_narrow_190 (q := 191) rfl ?_
  refine s_iconst o dX6_narrow_191 (v := (2 : Int32)) (by decide) (q := 192) rfl ?_
  refine s_iadd o dX6_narrow_192 (q := 193) rfl ?_
  refine s_iald o dX6_narrow_193 (q := 194) rfl (fun v5_ => ?_)
  refine s_ic_le o (tgt := 206) dX6_narrow_194 (by decide) (q := 197) rfl ?_ ?_
  · refine s_aload_n o 0 rfl dX6_narrow_206 (q := 207) rfl ?_
    refine s_gr o kf_X6_75 dX6_narrow_207 (q := 210) rfl (fun a6_ => ?_)
    refine s_iconst o dX6_narrow_210 (v := (4 : Int32)) (by decide) (q := 211) rfl ?_
    refine s_iload_n o 1 rfl dX6_narrow_211 (q := 212) rfl ?_
    refine s_imul o dX6_narrow_212 (q := 213) rfl ?_
    refine s_iconst o dX6_narrow_213 (v := (2 : Int32)) (by decide) (q := 214) rfl ?_
    refine s_iadd o dX6_narrow_214 (q := 215) rfl ?_
    refine s_iald o dX6_narrow_215 (q := 216) rfl (fun v7_ => ?_)
    exact s_sub [0, 1, 2] rfl (t_X6_narrow_216 o f x0 x1 x3 a2_ (((4 : Int32) * x1) + (2 : Int32)) v7_ h1_)
  · refine s_iload_n o 2 rfl dX6_narrow_197 (q := 198) rfl ?_
    refine s_aload_n o 0 rfl dX6_narrow_198 (q := 199) rfl ?_
    refine s_gi o kf_X6_256 dX6_narrow_199 (q := 202) rfl (fun v8_ => ?_)
    refine s_isub o dX6_narrow_202 (q := 203) rfl ?_
    refine s_goto o (tgt := 216) dX6_narrow_203 (by decide) ?_
    exact s_sub [0, 1, 2] rfl (t_X6_narrow_216 o f x0 x1 x3 a2_ (((4 : Int32) * x1) + (2 : Int32)) (x3 - v8_) h1_)
set_option maxRecDepth 20000 in
theorem t_X6_narrow_120 {X : Cx} (o : Ok X RX6 cX6_narrow 4 0 0 0 0 none) (f : Nat)  (x0 : Nat) (x1 : Int32) (x2 : Int32) (x3 : Int32) (y0 : Nat) (y1 : Int32) (y2 : Int32) (h : Hp) : Sim X (z_Zv X 0 0) 0 0 120 [(0, rf (xG X) x0), (1, .int x1), (2, .int x2), (3, .int x3)] [.int y2, .int y1, rf (xG X) y0] h (b_X6_narrow_120 f x0 x1 x2 x3 y0 y1 y2 h) := by
  unfold b_X6_narrow_120
  refine s_iast o dX6_narrow_120 (q := 121) rfl (fun h1_ => ?_)
  refine s_aload_n o 0 rfl dX6_narrow_121 (q := 122) rfl ?_
  refine s_gr o kf_X6_75 dX6_narrow_122 (q := 125) rfl (fun a2_ => ?_)
  refine s_iconst o dX6_narrow_125 (v := (4 : Int32)) (by decide) (q := 126) rfl ?_
  refine s_iload_n o 1 rfl dX6_narrow_126 (q := 127) rfl ?_
  refine s_imul o dX6_narrow_127 (q := 128) rfl ?_
  refine s_iconst o dX6_narrow_128 (v := (1 : Int32)) (by decide) (q := 129) rfl ?_
  refine s_iadd o dX6_narrow_129 (q := 130) rfl ?_
  refine s_iload_n o 2 rfl dX6_narrow_130 (q := 131) rfl ?_
  refine s_aload_n o 0 rfl dX6_narrow_131 (q := 132) rfl ?_
  refine s_gi o kf_X6_256 dX6_narrow_132 (q := 135) rfl (fun v3_ => ?_)
  refine s_iadd o dX6_narrow_135 (q := 136) rfl ?_
  refine s_aload_n o 0 rfl dX6_narrow_136 (q := 137) rfl ?_
  refine s_gr o kf_X6_75 dX6_narrow_137 (q := 140) rfl (fun a4_ => ?_)
  refine s_iconst o dX6_narrow_140 (v := (4 : Int32)) (by decide) (q := 141) rfl ?_
  refine s_iload_n o 1 rfl dX6_narrow_141 (q := 142) rfl ?_
  refine s_imul o dX6_narrow_142 (q := 143) rfl ?_
  refine s_iconst o dX6_narrow_143 (v := (1 : Int32)) (by decide) (q := 144) rfl ?_
  refine s_iadd o dX6_narrow_144 (q := 145) rfl ?_
  refine s_iald o dX6_narrow_145 (q := 146) rfl (fun v5_ => ?_)
  refine s_ic_ge o (tgt := 158) dX6_narrow_146 (by decide) (q := 149) rfl ?_ ?_
  · refine s_aload_n o 0 rfl dX6_narrow_158 (q := 159) rfl ?_
    refine s_gr o kf_X6_75 dX6_narrow_159 (q := 162) rfl (fun a6_ => ?_)
    refine s_iconst o dX6_narrow_162 (v := (4 : Int32)) (by decide) (q := 163) rfl ?_
    refine s_iload_n o 1 rfl dX6_narrow_163 (q := 164) rfl ?_
    refine s_imul o dX6_narrow_164 (q := 165) rfl ?_
    refine s_iconst o dX6_narrow_165 (v := (1 : Int32)) (by decide) (q := 166) rfl ?_
    refine s_iadd o dX6_narrow_166 (q := 167) rfl ?_
    refine s_iald o dX6_narrow_167 (q := 168) rfl (fun v7_ => ?_)
    exact s_sub [0, 1, 3] rfl (t_X6_narrow_168 o f x0 x1 x3 a2_ (((4 : Int32) * x1) + (1 : Int32)) v7_ h1_)
  · refine s_iload_n o 2 rfl dX6_narrow_149 (q := 150) rfl ?_
    refine s_aload_n o 0 rfl dX6_narrow_150 (q := 151) rfl ?_
    refine s_gi o kf_X6_256 dX6_narrow_151 (q := 154) rfl (fun v8_ => ?_)
    refine s_iadd o dX6_narrow_154 (q := 155) rfl ?_
    refine s_goto o (tgt := 168) dX6_narrow_155 (by decide) ?_
    exact s_sub [0, 1, 3] rfl (t_X6_narrow_168 o f x0 x1 x3 a2_ (((4 : Int32) * x1) + (1 : Int32)) (x2 + v8_) h1_)
set_option maxRecDepth 20000 in
theorem t_X6_narrow_0 {X : Cx} (o : Ok X RX6 cX6_narrow 4 0 0 0 0 none) (f : Nat)  (x0 : Nat) (x1 : Int32) (x2 : Int32) (x3 : Int32) (h : Hp) : Sim X (z_Zv X 0 0) 0 0 0 [(0, rf (xG X) x0), (1, .int x1), (2, .int x2), (3, .int x3)] [] h (f_X6_narrow f x0 x1 x2 x3 h) := by
  unfold f_X6_narrow
  refine s_aload_n o 0 rfl dX6_narrow_0 (q := 1) rfl ?_
  refine s_gr o kf_X6_72 dX6_narrow_1 (q := 4) rfl (fun a1_ => ?_)
  refine s_iload_n o 1 rfl dX6_narrow_4 (q := 5) rfl ?_
  refine s_zald o dX6_narrow_5 (q := 6) rfl (fun v2_ => ?_)
  refine s_if_eq o (tgt := 79) dX6_narrow_6 (by decide) (q := 9) rfl ?_ ?_
  · refine s_aload_n o 0 rfl dX6_narrow_79 (q := 80) rfl ?_
    refine s_gr o kf_X6_75 dX6_narrow_80 (q := 83) rfl (fun a3_ => ?_)
    refine s_iconst o dX6_narrow_83 (v := (4 : Int32)) (by decide) (q := 84) rfl ?_
    refine s_iload_n o 1 rfl dX6_narrow_84 (q := 85) rfl ?_
    refine s_imul o dX6_narrow_85 (q := 86) rfl ?_
    refine s_iload_n o 2 rfl dX6_narrow_86 (q := 87) rfl ?_
    refine s_aload_n o 0 rfl dX6_narrow_87 (q := 88) rfl ?_
    refine s_gi o kf_X6_256 dX6_narrow_88 (q := 91) rfl (fun v4_ => ?_)
    refine s_isub o dX6_narrow_91 (q := 92) rfl ?_
    refine s_aload_n o 0 rfl dX6_narrow_92 (q := 93) rfl ?_
    refine s_gr o kf_X6_75 dX6_narrow_93 (q := 96) rfl (fun a5_ => ?_)
    refine s_iconst o dX6_narrow_96 (v := (4 : Int32)) (by decide) (q := 97) rfl ?_
    refine s_iload_n o 1 rfl dX6_narrow_97 (q := 98) rfl ?_
    refine s_imul o dX6_narrow_98 (q := 99) rfl ?_
    refine s_iald o dX6_narrow_99 (q := 100) rfl (fun v6_ => ?_)
    refine s_ic_le o (tgt := 112) dX6_narrow_100 (by decide) (q := 103) rfl ?_ ?_
    · refine s_aload_n o 0 rfl dX6_narrow_112 (q := 113) rfl ?_
      refine s_gr o kf_X6_75 dX6_narrow_113 (q := 116) rfl (fun a7_ => ?_)
      refine s_iconst o dX6_narrow_116 (v := (4 : Int32)) (by decide) (q := 117) rfl ?_
      refine s_iload_n o 1 rfl dX6_narrow_117 (q := 118) rfl ?_
      refine s_imul o dX6_narrow_118 (q := 119) rfl ?_
      refine s_iald o dX6_narrow_119 (q := 120) rfl (fun v8_ => ?_)
      exact s_sub [0, 1, 2, 3] rfl (t_X6_narrow_120 o f x0 x1 x2 x3 a3_ ((4 : Int32) * x1) v8_ h)
    · refine s_iload_n o 2 rfl dX6_narrow_103 (q := 104) rfl ?_
      refine s_aload_n o 0 rfl dX6_narrow_104 (q := 105) rfl ?_
      refine s_gi o kf_X6_256 dX6_narrow_105 (q := 108) rfl (fun v9_ => ?_)
      refine s_isub o dX6_narrow_108 (q := 109) rfl ?_
      refine s_goto o (tgt := 120) dX6_narrow_109 (by decide) ?_
      exact s_sub [0, 1, 2, 3] rfl (t_X6_narrow_120 o f x0 x1 x2 x3 a3_ ((4 : Int32) * x1) (x2 - v9_) h)
  · refine s_aload_n o 0 rfl dX6_narrow_9 (q := 10) rfl ?_
    refine s_gr o kf_X6_75 dX6_narrow_10 (q := 13) rfl (fun a10_ => ?_)
    refine s_iconst o dX6_narrow_13 (v := (4 : Int32)) (by decide) (q := 14) rfl ?_
    refine s_iload_n o 1 rfl dX6_narrow_14 (q := 15) rfl ?_
    refine s_imul o dX6_narrow_15 (q := 16) rfl ?_
    refine s_iload_n o 2 rfl dX6_narrow_16 (q := 17) rfl ?_
    refine s_aload_n o 0 rfl dX6_narrow_17 (q := 18) rfl ?_
    refine s_gi o kf_X6_256 dX6_narrow_18 (q := 21) rfl (fun v11_ => ?_)
    refine s_isub o dX6_narrow_21 (q := 22) rfl ?_
    refine s_iast o dX6_narrow_22 (q := 23) rfl (fun h12_ => ?_)
    refine s_aload_n o 0 rfl dX6_narrow_23 (q := 24) rfl ?_
    refine s_gr o kf_X6_75 dX6_narrow_24 (q := 27) rfl (fun a13_ => ?_)
    refine s_iconst o dX6_narrow_27 (v := (4 : Int32)) (by decide) (q := 28) rfl ?_
    refine s_iload_n o 1 rfl dX6_narrow_28 (q := 29) rfl ?_
    refine s_imul o dX6_narrow_29 (q := 30) rfl ?_
    refine s_iconst o dX6_narrow_30 (v := (1 : Int32)) (by decide) (q := 31) rfl ?_
    refine s_iadd o dX6_narrow_31 (q := 32) rfl ?_
    refine s_iload_n o 2 rfl dX6_narrow_32 (q := 33) rfl ?_
    refine s_aload_n o 0 rfl dX6_narrow_33 (q := 34) rfl ?_
    refine s_gi o kf_X6_256 dX6_narrow_34 (q := 37) rfl (fun v14_ => ?_)
    refine s_iadd o dX6_narrow_37 (q := 38) rfl ?_
    refine s_iast o dX6_narrow_38 (q := 39) rfl (fun h15_ => ?_)
    refine s_aload_n o 0 rfl dX6_narrow_39 (q := 40) rfl ?_
    refine s_gr o kf_X6_75 dX6_narrow_40 (q := 43) rfl (fun a16_ => ?_)
    refine s_iconst o dX6_narrow_43 (v := (4 : Int32)) (by decide) (q := 44) rfl ?_
    refine s_iload_n o 1 rfl dX6_narrow_44 (q := 45) rfl ?_
    refine s_imul o dX6_narrow_45 (q := 46) rfl ?_
    refine s_iconst o dX6_narrow_46 (v := (2 : Int32)) (by decide) (q := 47) rfl ?_
    refine s_iadd o dX6_narrow_47 (q := 48) rfl ?_
    refine s_iload_n o 3 rfl dX6_narrow_48 (q := 49) rfl ?_
    refine s_aload_n o 0 rfl dX6_narrow_49 (q := 50) rfl ?_
    refine s_gi o kf_X6_256 dX6_narrow_50 (q := 53) rfl (fun v17_ => ?_)
    refine s_isub o dX6_narrow_53 (q := 54) rfl ?_
    refine s_iast o dX6_narrow_54 (q := 55) rfl (fun h18_ => ?_)
    refine s_aload_n o 0 rfl dX6_narrow_55 (q := 56) rfl ?_
    refine s_gr o kf_X6_75 dX6_narrow_56 (q := 59) rfl (fun a19_ => ?_)
    refine s_iconst o dX6_narrow_59 (v := (4 : Int32)) (by decide) (q := 60) rfl ?_
    refine s_iload_n o 1 rfl dX6_narrow_60 (q := 61) rfl ?_
    refine s_imul o dX6_narrow_61 (q := 62) rfl ?_
    refine s_iconst o dX6_narrow_62 (v := (3 : Int32)) (by decide) (q := 63) rfl ?_
    refine s_iadd o dX6_narrow_63 (q := 64) rfl ?_
    refine s_iload_n o 3 rfl dX6_narrow_64 (q := 65) rfl ?_
    refine s_aload_n o 0 rfl dX6_narrow_65 (q := 66) rfl ?_
    refine s_gi o kf_X6_256 dX6_narrow_66 (q := 69) rfl (fun v20_ => ?_)
    refine s_iadd o dX6_narrow_69 (q := 70) rfl ?_
    refine s_iast o dX6_narrow_70 (q := 71) rfl (fun h21_ => ?_)
    refine s_aload_n o 0 rfl dX6_narrow_71 (q := 72) rfl ?_
    refine s_gr o kf_X6_72 dX6_narrow_72 (q := 75) rfl (fun a22_ => ?_)
    refine s_iload_n o 1 rfl dX6_narrow_75 (q := 76) rfl ?_
    refine s_iconst o dX6_narrow_76 (v := (0 : Int32)) (by decide) (q := 77) rfl ?_
    refine s_zast o dX6_narrow_77 (q := 78) rfl (fun h23_ => ?_)
    exact s_vret o dX6_narrow_78
theorem c_X6_narrow (G : Gx) (f : Nat) (x0 : Nat) (x1 : Int32) (x2 : Int32) (x3 : Int32) (h : Hp) : z_M z_qv G yX6_narrow cX6_narrow 4 none 0 0 0 0 [rf G x0, .int x1, .int x2, .int x3] h (f_X6_narrow f x0 x1 x2 x3 h) :=
  z_met (by decide +kernel) (Nat.le_of_ble_eq_true rfl) (fun X hG hn o hnm => by
    subst hG
    show Sim X (z_Zv X 0 0) 0 0 0 [(0, rf (xG X) x0), (1, .int x1), (2, .int x2), (3, .int x3)] [] h _
    exact s_sub [0, 1, 2, 3] rfl (t_X6_narrow_0 o f x0 x1 x2 x3 h))
/-! SixMapsModel.findLeft(II)V -/
def b_X6_findLeft_84 (f : Nat) (k2 : Nat → Int32 → Int32 → Int32 → Hp → Option (Hp)) (k20 : Nat → Int32 → Int32 → Int32 → Int32 → Hp → Option (Hp)) (x0 : Nat) (x1 : Int32) (x2 : Int32) (x3 : Int32) (x4 : Int32) (h : Hp) : Option (Hp) :=
  lt (x4 + (1 : Int32)) fun v1_ =>
  k20 x0 x1 x2 x3 v1_ h
def b_X6_findLeft_20 (f : Nat) (k2 : Nat → Int32 → Int32 → Int32 → Hp → Option (Hp)) (k20 : Nat → Int32 → Int32 → Int32 → Int32 → Hp → Option (Hp)) (x0 : Nat) (x1 : Int32) (x2 : Int32) (x3 : Int32) (x4 : Int32) (h : Hp) : Option (Hp) :=
  if (6 : Int32) ≤ x4 then
  (lt (x3 + (1 : Int32)) fun v1_ =>
  k2 x0 x1 x2 v1_ h)
  else
  (bi (f_X6_has f x2 x4 h) fun v3_ h2_ =>
  if ¬ v3_ = 0 then
  (b_X6_findLeft_84 f k2 k20 x0 x1 x2 x3 x4 h2_)
  else
  ((q_gr h2_ x0 6 11).bind fun a4_ =>
  (q_ai h2_ a4_ 9 (((6 : Int32) * x1) + x4)).bind fun v5_ =>
  bi (f_X6_has f v5_ x3 h2_) fun v7_ h6_ =>
  if v7_ = 0 then
  (b_X6_findLeft_84 f k2 k20 x0 x1 x2 x3 x4 h6_)
  else
  ((q_gr h6_ x0 6 3).bind fun a8_ =>
  (q_ai h6_ a8_ 9 (((9 : Int32) * x4) + x3)).bind fun v9_ =>
  (q_gr h6_ x0 6 4).bind fun a10_ =>
  (q_ai h6_ a10_ 9 (((9 : Int32) * x4) + x3)).bind fun v11_ =>
  q_on h6_ x0 6 (
  (f_X6_narrow f x0 x3 v9_ v11_ h6_).bind fun h13_ =>
  b_X6_findLeft_84 f k2 k20 x0 x1 x2 x3 x4 h13_))))
def l_X6_findLeft_20 (f : Nat) (k2 : Nat → Int32 → Int32 → Int32 → Hp → Option (Hp)) : Nat → Nat → Int32 → Int32 → Int32 → Int32 → Hp → Option (Hp)
  | 0, _, _, _, _, _, _ => none
  | n + 1, x0, x1, x2, x3, x4, h => b_X6_findLeft_20 f k2 (l_X6_findLeft_20 f k2 n) x0 x1 x2 x3 x4 h
def b_X6_findLeft_2 (f : Nat) (k2 : Nat → Int32 → Int32 → Int32 → Hp → Option (Hp)) (x0 : Nat) (x1 : Int32) (x2 : Int32) (x3 : Int32) (h : Hp) : Option (Hp) :=
  (q_gi h x0 6 0).bind fun v1_ =>
  if v1_ ≤ x3 then
  (some h)
  else
  ((q_gr h x0 6 41).bind fun a2_ =>
  (q_as h a2_ 10 x3 (vp_nar .boolean (1 : Int32))).bind fun h3_ =>
  l_X6_findLeft_20 f k2 f x0 x1 x2 x3 (0 : Int32) h3_)
def l_X6_findLeft_2 (f : Nat)  : Nat → Nat → Int32 → Int32 → Int32 → Hp → Option (Hp)
  | 0, _, _, _, _, _ => none
  | n + 1, x0, x1, x2, x3, h => b_X6_findLeft_2 f  (l_X6_findLeft_2 f  n) x0 x1 x2 x3 h
def f_X6_findLeft (f : Nat)  (x0 : Nat) (x1 : Int32) (x2 : Int32) (h : Hp) : Option (Hp) :=
  l_X6_findLeft_2 f f x0 x1 x2 (0 : Int32) h
set_option maxRecDepth 20000 in
theorem t_X6_findLeft_84 {X : Cx} (o : Ok X RX6 cX6_findLeft 5 1 23 0 0 none) (f : Nat) {k2 : Nat → Int32 → Int32 → Int32 → Hp → Option (Hp)} (hk2 : ∀ (x0 : Nat) (x1 : Int32) (x2 : Int32) (x3 : Int32) (h : Hp), Sim X (z_Zv X 0 0) 0 0 2 [(0, rf (xG X) x0), (1, .int x1), (2, .int x2), (3, .int x3)] [] h (k2 x0 x1 x2 x3 h)) {k20 : Nat → Int32 → Int32 → Int32 → Int32 → Hp → Option (Hp)} (hk20 : ∀ (x0 : Nat) (x1 : Int32) (x2 : Int32) (x3 : Int32) (x4 : Int32) (h : Hp), Sim X (z_Zv X 0 0) 0 0 20 [(0, rf (xG X) x0), (1, .int x1), (2, .int x2), (3, .int x3), (4, .int x4)] [] h (k20 x0 x1 x2 x3 x4 h)) (x0 : Nat) (x1 : Int32) (x2 : Int32) (x3 : Int32) (x4 : Int32) (h : Hp) : Sim X (z_Zv X 0 0) 0 0 84 [(0, rf (xG X) x0), (1, .int x1), (2, .int x2), (3, .int x3), (4, .int x4)] [] h (b_X6_findLeft_84 f k2 k20 x0 x1 x2 x3 x4 h) := by
  unfold b_X6_findLeft_84
  refine s_iinc o 4 rfl (v := (1 : Int32)) (by decide) [1, 2, 3, 4, 0] (lv' := fun v1_ => [(0, rf (xG X) x0), (1, .int x1), (2, .int x2), (3, .int x3), (4, .int v1_)]) (fun _ => rfl) dX6_findLeft_84 (by decide) (q := 87) rfl (fun v1_ => ?_)
  refine s_goto o (tgt := 20) dX6_findLeft_87 (by decide) ?_
  exact s_sub [0, 1, 2, 3, 4] rfl (hk20 x0 x1 x2 x3 v1_ h)
set_option maxRecDepth 20000 in
theorem t_X6_findLeft_20 {X : Cx} (o : Ok X RX6 cX6_findLeft 5 1 23 0 0 none) (f : Nat) {k2 : Nat → Int32 → Int32 → Int32 → Hp → Option (Hp)} (hk2 : ∀ (x0 : Nat) (x1 : Int32) (x2 : Int32) (x3 : Int32) (h : Hp), Sim X (z_Zv X 0 0) 0 0 2 [(0, rf (xG X) x0), (1, .int x1), (2, .int x2), (3, .int x3)] [] h (k2 x0 x1 x2 x3 h)) {k20 : Nat → Int32 → Int32 → Int32 → Int32 → Hp → Option (Hp)} (hk20 : ∀ (x0 : Nat) (x1 : Int32) (x2 : Int32) (x3 : Int32) (x4 : Int32) (h : Hp), Sim X (z_Zv X 0 0) 0 0 20 [(0, rf (xG X) x0), (1, .int x1), (2, .int x2), (3, .int x3), (4, .int x4)] [] h (k20 x0 x1 x2 x3 x4 h)) (x0 : Nat) (x1 : Int32) (x2 : Int32) (x3 : Int32) (x4 : Int32) (h : Hp) : Sim X (z_Zv X 0 0) 0 0 20 [(0, rf (xG X) x0), (1, .int x1), (2, .int x2), (3, .int x3), (4, .int x4)] [] h (b_X6_findLeft_20 f k2 k20 x0 x1 x2 x3 x4 h) := by
  unfold b_X6_findLeft_20
  refine s_iload o 4 rfl dX6_findLeft_20 (q := 22) rfl ?_
  refine s_bipush o dX6_findLeft_22 (v := (6 : Int32)) (by decide) (q := 24) rfl ?_
  refine s_ic_ge o (tgt := 90) dX6_findLeft_24 (by decide) (q := 27) rfl ?_ ?_
  · refine s_iinc o 3 rfl (v := (1 : Int32)) (by decide) [1, 2, 3, 0, 4] (lv' := fun v1_ => [(0, rf (xG X) x0), (1, .int x1), (2, .int x2), (3, .int v1_), (4, .int x4)]) (fun _ => rfl) dX6_findLeft_90 (by decide) (q := 93) rfl (fun v1_ => ?_)
    refine s_goto o (tgt := 2) dX6_findLeft_93 (by decide) ?_
    exact s_sub [0, 1, 2, 3] rfl (hk2 x0 x1 x2 v1_ h)
  · refine s_iload_n o 2 rfl dX6_findLeft_27 (q := 28) rfl ?_
    refine s_iload o 4 rfl dX6_findLeft_28 (q := 30) rfl ?_
    refine s_bi (fun r0 hr0 => runS o cs_X6_182 (c_X6_has (xG X) f x2 x4 h (xl X) r0 hr0) ⟨Nat.le_of_ble_eq_true rfl, Nat.le_of_ble_eq_true rfl⟩ rfl rfl (Nat.le_of_ble_eq_true rfl) dX6_findLeft_30 ⟨Nat.le_of_ble_eq_true rfl, Nat.le_of_ble_eq_true rfl⟩) (q := 33) rfl (cs' := 0) rfl (sl' := 0) rfl (fun v3_ h2_ => ?_)
    refine s_if_ne o (tgt := 84) dX6_findLeft_33 (by decide) (q := 36) rfl ?_ ?_
    · exact s_sub [0, 1, 2, 3, 4] rfl (t_X6_findLeft_84 o f hk2 hk20 x0 x1 x2 x3 x4 h2_)
    · refine s_aload_n o 0 rfl dX6_findLeft_36 (q := 37) rfl ?_
      refine s_gr o kf_X6_32 dX6_findLeft_37 (q := 40) rfl (fun a4_ => ?_)
      refine s_bipush o dX6_findLeft_40 (v := (6 : Int32)) (by decide) (q := 42) rfl ?_
      refine s_iload_n o 1 rfl dX6_findLeft_42 (q := 43) rfl ?_
      refine s_imul o dX6_findLeft_43 (q := 44) rfl ?_
      refine s_iload o 4 rfl dX6_findLeft_44 (q := 46) rfl ?_
      refine s_iadd o dX6_findLeft_46 (q := 47) rfl ?_
      refine s_iald o dX6_findLeft_47 (q := 48) rfl (fun v5_ => ?_)
      refine s_iload_n o 3 rfl dX6_findLeft_48 (q := 49) rfl ?_
      refine s_bi (fun r0 hr0 => runS o cs_X6_182 (c_X6_has (xG X) f v5_ x3 h2_ (xl X) r0 hr0) ⟨Nat.le_of_ble_eq_true rfl, Nat.le_of_ble_eq_true rfl⟩ rfl rfl (Nat.le_of_ble_eq_true rfl) dX6_findLeft_49 ⟨Nat.le_of_ble_eq_true rfl, Nat.le_of_ble_eq_true rfl⟩) (q := 52) rfl (cs' := 0) rfl (sl' := 0) rfl (fun v7_ h6_ => ?_)
      refine s_if_eq o (tgt := 84) dX6_findLeft_52 (by decide) (q := 55) rfl ?_ ?_
      · exact s_sub [0, 1, 2, 3, 4] rfl (t_X6_findLeft_84 o f hk2 hk20 x0 x1 x2 x3 x4 h6_)
      · refine s_aload_n o 0 rfl dX6_findLeft_55 (q := 56) rfl ?_
        refine s_iload_n o 3 rfl dX6_findLeft_56 (q := 57) rfl ?_
        refine s_aload_n o 0 rfl dX6_findLeft_57 (q := 58) rfl ?_
        refine s_gr o kf_X6_16 dX6_findLeft_58 (q := 61) rfl (fun a8_ => ?_)
        refine s_bipush o dX6_findLeft_61 (v := (9 : Int32)) (by decide) (q := 63) rfl ?_
        refine s_iload o 4 rfl dX6_findLeft_63 (q := 65) rfl ?_
        refine s_imul o dX6_findLeft_65 (q := 66) rfl ?_
        refine s_iload_n o 3 rfl dX6_findLeft_66 (q := 67) rfl ?_
        refine s_iadd o dX6_findLeft_67 (q := 68) rfl ?_
        refine s_iald o dX6_findLeft_68 (q := 69) rfl (fun v9_ => ?_)
        refine s_aload_n o 0 rfl dX6_findLeft_69 (q := 70) rfl ?_
        refine s_gr o kf_X6_19 dX6_findLeft_70 (q := 73) rfl (fun a10_ => ?_)
        refine s_bipush o dX6_findLeft_73 (v := (9 : Int32)) (by decide) (q := 75) rfl ?_
        refine s_iload o 4 rfl dX6_findLeft_75 (q := 77) rfl ?_
        refine s_imul o dX6_findLeft_77 (q := 78) rfl ?_
        refine s_iload_n o 3 rfl dX6_findLeft_78 (q := 79) rfl ?_
        refine s_iadd o dX6_findLeft_79 (q := 80) rfl ?_
        refine s_iald o dX6_findLeft_80 (q := 81) rfl (fun v11_ => ?_)
        refine s_on (fun hk12_ => ?_)
        refine s_callv (fun r0 hr0 => runV o hk12_ cv_X6_270 (c_X6_narrow (xG X) f x0 x3 v9_ v11_ h6_ (xl X) r0 hr0) ⟨Nat.le_of_ble_eq_true rfl, Nat.le_of_ble_eq_true rfl⟩ rfl rfl (Nat.le_of_ble_eq_true rfl) dX6_findLeft_81 ⟨Nat.le_of_ble_eq_true rfl, Nat.le_of_ble_eq_true rfl⟩) (q := 84) rfl (cs' := 0) rfl (sl' := 0) rfl (fun h13_ => ?_)
        exact s_sub [0, 1, 2, 3, 4] rfl (t_X6_findLeft_84 o f hk2 hk20 x0 x1 x2 x3 x4 h13_)
theorem tl_X6_findLeft_20 {X : Cx} (o : Ok X RX6 cX6_findLeft 5 1 23 0 0 none) (f : Nat) {k2 : Nat → Int32 → Int32 → Int32 → Hp → Option (Hp)} (hk2 : ∀ (x0 : Nat) (x1 : Int32) (x2 : Int32) (x3 : Int32) (h : Hp), Sim X (z_Zv X 0 0) 0 0 2 [(0, rf (xG X) x0), (1, .int x1), (2, .int x2), (3, .int x3)] [] h (k2 x0 x1 x2 x3 h)) : ∀ (n : Nat) (x0 : Nat) (x1 : Int32) (x2 : Int32) (x3 : Int32) (x4 : Int32) (h : Hp), Sim X (z_Zv X 0 0) 0 0 20 [(0, rf (xG X) x0), (1, .int x1), (2, .int x2), (3, .int x3), (4, .int x4)] [] h (l_X6_findLeft_20 f k2 n x0 x1 x2 x3 x4 h) := by
  intro n
  induction n with
  | zero => intro x0 x1 x2 x3 x4 h; exact s_none
  | succ n ih => intro x0 x1 x2 x3 x4 h; exact t_X6_findLeft_20 o f hk2 ih x0 x1 x2 x3 x4 h
set_option maxRecDepth 20000 in
theorem t_X6_findLeft_2 {X : Cx} (o : Ok X RX6 cX6_findLeft 5 1 23 0 0 none) (f : Nat) {k2 : Nat → Int32 → Int32 → Int32 → Hp → Option (Hp)} (hk2 : ∀ (x0 : Nat) (x1 : Int32) (x2 : Int32) (x3 : Int32) (h : Hp), Sim X (z_Zv X 0 0) 0 0 2 [(0, rf (xG X) x0), (1, .int x1), (2, .int x2), (3, .int x3)] [] h (k2 x0 x1 x2 x3 h)) (x0 : Nat) (x1 : Int32) (x2 : Int32) (x3 : Int32) (h : Hp) : Sim X (z_Zv X 0 0) 0 0 2 [(0, rf (xG X) x0), (1, .int x1), (2, .int x2), (3, .int x3)] [] h (b_X6_findLeft_2 f k2 x0 x1 x2 x3 h) := by
  unfold b_X6_findLeft_2
  refine s_iload_n o 3 rfl dX6_findLeft_2 (q := 3) rfl ?_
  refine s_aload_n o 0 rfl dX6_findLeft_3 (q := 4) rfl ?_
  refine s_gi o kf_X6_111 dX6_findLeft_4 (q := 7) rfl (fun v1_ => ?_)
  refine s_ic_ge o (tgt := 96) dX6_findLeft_7 (by decide) (q := 10) rfl ?_ ?_
  · exact s_vret o dX6_findLeft_96
  · refine s_aload_n o 0 rfl dX6_findLeft_10 (q := 11) rfl ?_
    refine s_gr o kf_X6_72 dX6_findLeft_11 (q := 14) rfl (fun a2_ => ?_)
    refine s_iload_n o 3 rfl dX6_findLeft_14 (q := 15) rfl ?_
    refine s_iconst o dX6_findLeft_15 (v := (1 : Int32)) (by decide) (q := 16) rfl ?_
    refine s_zast o dX6_findLeft_16 (q := 17) rfl (fun h3_ => ?_)
    refine s_iconst o dX6_findLeft_17 (v := (0 : Int32)) (by decide) (q := 18) rfl ?_
    refine s_istore o [1, 2, 3, 4, 0] (lv' := [(0, rf (xG X) x0), (1, .int x1), (2, .int x2), (3, .int x3), (4, .int (0 : Int32))]) rfl dX6_findLeft_18 (by decide) (q := 20) rfl ?_
    exact s_sub [0, 1, 2, 3, 4] rfl (tl_X6_findLeft_20 o f hk2 f x0 x1 x2 x3 (0 : Int32) h3_)
theorem tl_X6_findLeft_2 {X : Cx} (o : Ok X RX6 cX6_findLeft 5 1 23 0 0 none) (f : Nat)  : ∀ (n : Nat) (x0 : Nat) (x1 : Int32) (x2 : Int32) (x3 : Int32) (h : Hp), Sim X (z_Zv X 0 0) 0 0 2 [(0, rf (xG X) x0), (1, .int x1), (2, .int x2), (3, .int x3)] [] h (l_X6_findLeft_2 f n x0 x1 x2 x3 h) := by
  intro n
  induction n with
  | zero => intro x0 x1 x2 x3 h; exact s_none
  | succ n ih => intro x0 x1 x2 x3 h; exact t_X6_findLeft_2 o f  ih x0 x1 x2 x3 h
set_option maxRecDepth 20000 in
theorem t_X6_findLeft_0 {X : Cx} (o : Ok X RX6 cX6_findLeft 5 1 23 0 0 none) (f : Nat)  (x0 : Nat) (x1 : Int32) (x2 : Int32) (h : Hp) : Sim X (z_Zv X 0 0) 0 0 0 [(0, rf (xG X) x0), (1, .int x1), (2, .int x2)] [] h (f_X6_findLeft f x0 x1 x2 h) := by
  unfold f_X6_findLeft
  refine s_iconst o dX6_findLeft_0 (v := (0 : Int32)) (by decide) (q := 1) rfl ?_
  refine s_istore_n o [1, 2, 3, 0] (lv' := [(0, rf (xG X) x0), (1, .int x1), (2, .int x2), (3, .int (0 : Int32))]) rfl dX6_findLeft_1 (by decide) (q := 2) rfl ?_
  exact s_sub [0, 1, 2, 3] rfl (tl_X6_findLeft_2 o f f x0 x1 x2 (0 : Int32) h)
theorem c_X6_findLeft (G : Gx) (f : Nat) (x0 : Nat) (x1 : Int32) (x2 : Int32) (h : Hp) : z_M z_qv G yX6_findLeft cX6_findLeft 5 none 1 23 0 0 [rf G x0, .int x1, .int x2] h (f_X6_findLeft f x0 x1 x2 h) :=
  z_met (by decide +kernel) (Nat.le_of_ble_eq_true rfl) (fun X hG hn o hnm => by
    subst hG
    show Sim X (z_Zv X 0 0) 0 0 0 [(0, rf (xG X) x0), (1, .int x1), (2, .int x2)] [] h _
    exact s_sub [0, 1, 2] rfl (t_X6_findLeft_0 o f x0 x1 x2 h))
/-! SixMapsModel.isOne(I)Z -/
def b_X6_isOne_58 (f : Nat)  (y0 : Int32) (h : Hp) : Option (Int32 × Hp) :=
  q_bo y0 (some (y0, h))
def b_X6_isOne_57 (f : Nat)   (h : Hp) : Option (Int32 × Hp) :=
  b_X6_isOne_58 f (0 : Int32) h
def f_X6_isOne (f : Nat)  (x0 : Nat) (x1 : Int32) (h : Hp) : Option (Int32 × Hp) :=
  (q_gr h x0 6 41).bind fun a1_ =>
  (q_ai h a1_ 10 x1).bind fun v2_ =>
  if ¬ v2_ = 0 then
  (b_X6_isOne_57 f h)
  else
  ((q_gr h x0 6 42).bind fun a3_ =>
  (q_ai h a3_ 9 ((4 : Int32) * x1)).bind fun v4_ =>
  (q_gr h x0 6 42).bind fun a5_ =>
  (q_ai h a5_ 9 (((4 : Int32) * x1) + (1 : Int32))).bind fun v6_ =>
  if ¬ v4_ = v6_ then
  (b_X6_isOne_57 f h)
  else
  ((q_gr h x0 6 42).bind fun a7_ =>
  (q_ai h a7_ 9 (((4 : Int32) * x1) + (2 : Int32))).bind fun v8_ =>
  (q_gr h x0 6 42).bind fun a9_ =>
  (q_ai h a9_ 9 (((4 : Int32) * x1) + (3 : Int32))).bind fun v10_ =>
  if ¬ v8_ = v10_ then
  (b_X6_isOne_57 f h)
  else
  (b_X6_isOne_58 f (1 : Int32) h)))
set_option maxRecDepth 20000 in
theorem t_X6_isOne_58 {X : Cx} (o : Ok X RX6 cX6_isOne 2 0 0 0 0 (some .boolean)) (f : Nat)  (y0 : Int32) (h : Hp) : Sim X (z_Zi X 0 0) 0 0 58 [] [.int y0] h (b_X6_isOne_58 f y0 h) := by
  unfold b_X6_isOne_58
  exact s_zret o dX6_isOne_58
set_option maxRecDepth 20000 in
theorem t_X6_isOne_57 {X : Cx} (o : Ok X RX6 cX6_isOne 2 0 0 0 0 (some .boolean)) (f : Nat)   (h : Hp) : Sim X (z_Zi X 0 0) 0 0 57 [] [] h (b_X6_isOne_57 f h) := by
  unfold b_X6_isOne_57
  refine s_iconst o dX6_isOne_57 (v := (0 : Int32)) (by decide) (q := 58) rfl ?_
  exact s_sub [] rfl (t_X6_isOne_58 o f (0 : Int32) h)
set_option maxRecDepth 20000 in
theorem t_X6_isOne_0 {X : Cx} (o : Ok X RX6 cX6_isOne 2 0 0 0 0 (some .boolean)) (f : Nat)  (x0 : Nat) (x1 : Int32) (h : Hp) : Sim X (z_Zi X 0 0) 0 0 0 [(0, rf (xG X) x0), (1, .int x1)] [] h (f_X6_isOne f x0 x1 h) := by
  unfold f_X6_isOne
  refine s_aload_n o 0 rfl dX6_isOne_0 (q := 1) rfl ?_
  refine s_gr o kf_X6_72 dX6_isOne_1 (q := 4) rfl (fun a1_ => ?_)
  refine s_iload_n o 1 rfl dX6_isOne_4 (q := 5) rfl ?_
  refine s_zald o dX6_isOne_5 (q := 6) rfl (fun v2_ => ?_)
  refine s_if_ne o (tgt := 57) dX6_isOne_6 (by decide) (q := 9) rfl ?_ ?_
  · exact s_sub [] rfl (t_X6_isOne_57 o f h)
  · refine s_aload_n o 0 rfl dX6_isOne_9 (q := 10) rfl ?_
    refine s_gr o kf_X6_75 dX6_isOne_10 (q := 13) rfl (fun a3_ => ?_)
    refine s_iconst o dX6_isOne_13 (v := (4 : Int32)) (by decide) (q := 14) rfl ?_
    refine s_iload_n o 1 rfl dX6_isOne_14 (q := 15) rfl ?_
    refine s_imul o dX6_isOne_15 (q := 16) rfl ?_
    refine s_iald o dX6_isOne_16 (q := 17) rfl (fun v4_ => ?_)
    refine s_aload_n o 0 rfl dX6_isOne_17 (q := 18) rfl ?_
    refine s_gr o kf_X6_75 dX6_isOne_18 (q := 21) rfl (fun a5_ => ?_)
    refine s_iconst o dX6_isOne_21 (v := (4 : Int32)) (by decide) (q := 22) rfl ?_
    refine s_iload_n o 1 rfl dX6_isOne_22 (q := 23) rfl ?_
    refine s_imul o dX6_isOne_23 (q := 24) rfl ?_
    refine s_iconst o dX6_isOne_24 (v := (1 : Int32)) (by decide) (q := 25) rfl ?_
    refine s_iadd o dX6_isOne_25 (q := 26) rfl ?_
    refine s_iald o dX6_isOne_26 (q := 27) rfl (fun v6_ => ?_)
    refine s_ic_ne o (tgt := 57) dX6_isOne_27 (by decide) (q := 30) rfl ?_ ?_
    · exact s_sub [] rfl (t_X6_isOne_57 o f h)
    · refine s_aload_n o 0 rfl dX6_isOne_30 (q := 31) rfl ?_
      refine s_gr o kf_X6_75 dX6_isOne_31 (q := 34) rfl (fun a7_ => ?_)
      refine s_iconst o dX6_isOne_34 (v := (4 : Int32)) (by decide) (q := 35) rfl ?_
      refine s_iload_n o 1 rfl dX6_isOne_35 (q := 36) rfl ?_
      refine s_imul o dX6_isOne_36 (q := 37) rfl ?_
      refine s_iconst o dX6_isOne_37 (v := (2 : Int32)) (by decide) (q := 38) rfl ?_
      refine s_iadd o dX6_isOne_38 (q := 39) rfl ?_
      refine s_iald o dX6_isOne_39 (q := 40) rfl (fun v8_ => ?_)
      refine s_aload_n o 0 rfl dX6_isOne_40 (q := 41) rfl ?_
      refine s_gr o kf_X6_75 dX6_isOne_41 (q := 44) rfl (fun a9_ => ?_)
      refine s_iconst o dX6_isOne_44 (v := (4 : Int32)) (by decide) (q := 45) rfl ?_
      refine s_iload_n o 1 rfl dX6_isOne_45 (q := 46) rfl ?_
      refine s_imul o dX6_isOne_46 (q := 47) rfl ?_
      refine s_iconst o dX6_isOne_47 (v := (3 : Int32)) (by decide) (q := 48) rfl ?_
      refine s_iadd o dX6_isOne_48 (q := 49) rfl ?_
      refine s_iald o dX6_isOne_49 (q := 50) rfl (fun v10_ => ?_)
      refine s_ic_ne o (tgt := 57) dX6_isOne_50 (by decide) (q := 53) rfl ?_ ?_
      · exact s_sub [] rfl (t_X6_isOne_57 o f h)
      · refine s_iconst o dX6_isOne_53 (v := (1 : Int32)) (by decide) (q := 54) rfl ?_
        refine s_goto o (tgt := 58) dX6_isOne_54 (by decide) ?_
        exact s_sub [] rfl (t_X6_isOne_58 o f (1 : Int32) h)
theorem c_X6_isOne (G : Gx) (f : Nat) (x0 : Nat) (x1 : Int32) (h : Hp) : z_M z_qi G yX6_isOne cX6_isOne 2 (some .boolean) 0 0 0 0 [rf G x0, .int x1] h (f_X6_isOne f x0 x1 h) :=
  z_met (by decide +kernel) (Nat.le_of_ble_eq_true rfl) (fun X hG hn o hnm => by
    subst hG
    show Sim X (z_Zi X 0 0) 0 0 0 [(0, rf (xG X) x0), (1, .int x1)] [] h _
    exact s_sub [0, 1] rfl (t_X6_isOne_0 o f x0 x1 h))
/-! SixMapsModel.lead(I)I -/
def f_X6_lead (f : Nat)  (x0 : Nat) (x1 : Int32) (h : Hp) : Option (Int32 × Hp) :=
  (q_gr h x0 6 42).bind fun a1_ =>
  (q_gr h x0 6 8).bind fun a2_ =>
  (q_ai h a2_ 9 (0 : Int32)).bind fun v3_ =>
  (q_ai h a1_ 9 (((4 : Int32) * v3_) + x1)).bind fun v4_ =>
  (q_gr h x0 6 42).bind fun a5_ =>
  (q_gr h x0 6 8).bind fun a6_ =>
  (q_ai h a6_ 9 (1 : Int32)).bind fun v7_ =>
  (q_ai h a5_ 9 (((4 : Int32) * v7_) + x1)).bind fun v8_ =>
  (q_gr h x0 6 42).bind fun a9_ =>
  (q_gr h x0 6 8).bind fun a10_ =>
  (q_ai h a10_ 9 (2 : Int32)).bind fun v11_ =>
  (q_ai h a9_ 9 (((4 : Int32) * v11_) + x1)).bind fun v12_ =>
  some (((v4_ + v8_) - v12_), h)
set_option maxRecDepth 20000 in
theorem t_X6_lead_0 {X : Cx} (o : Ok X RX6 cX6_lead 2 0 0 0 0 (some .int)) (f : Nat)  (x0 : Nat) (x1 : Int32) (h : Hp) : Sim X (z_Zi X 0 0) 0 0 0 [(0, rf (xG X) x0), (1, .int x1)] [] h (f_X6_lead f x0 x1 h) := by
  unfold f_X6_lead
  refine s_aload_n o 0 rfl dX6_lead_0 (q := 1) rfl ?_
  refine s_gr o kf_X6_75 dX6_lead_1 (q := 4) rfl (fun a1_ => ?_)
  refine s_iconst o dX6_lead_4 (v := (4 : Int32)) (by decide) (q := 5) rfl ?_
  refine s_aload_n o 0 rfl dX6_lead_5 (q := 6) rfl ?_
  refine s_gr o kf_X6_22 dX6_lead_6 (q := 9) rfl (fun a2_ => ?_)
  refine s_iconst o dX6_lead_9 (v := (0 : Int32)) (by decide) (q := 10) rfl ?_
  refine s_iald o dX6_lead_10 (q := 11) rfl (fun v3_ => ?_)
  refine s_imul o dX6_lead_11 (q := 12) rfl ?_
  refine s_iload_n o 1 rfl dX6_lead_12 (q := 13) rfl ?_
  refine s_iadd o dX6_lead_13 (q := 14) rfl ?_
  refine s_iald o dX6_lead_14 (q := 15) rfl (fun v4_ => ?_)
  refine s_aload_n o 0 rfl dX6_lead_15 (q := 16) rfl ?_
  refine s_gr o kf_X6_75 dX6_lead_16 (q := 19) rfl (fun a5_ => ?_)
  refine s_iconst o dX6_lead_19 (v := (4 : Int32)) (by decide) (q := 20) rfl ?_
  refine s_aload_n o 0 rfl dX6_lead_20 (q := 21) rfl ?_
  refine s_gr o kf_X6_22 dX6_lead_21 (q := 24) rfl (fun a6_ => ?_)
  refine s_iconst o dX6_lead_24 (v := (1 : Int32)) (by decide) (q := 25) rfl ?_
  refine s_iald o dX6_lead_25 (q := 26) rfl (fun v7_ => ?_)
  refine s_imul o dX6_lead_26 (q := 27) rfl ?_
  refine s_iload_n o 1 rfl dX6_lead_27 (q := 28) rfl ?_
  refine s_iadd o dX6_lead_28 (q := 29) rfl ?_
  refine s_iald o dX6_lead_29 (q := 30) rfl (fun v8_ => ?_)
  refine s_iadd o dX6_lead_30 (q := 31) rfl ?_
  refine s_aload_n o 0 rfl dX6_lead_31 (q := 32) rfl ?_
  refine s_gr o kf_X6_75 dX6_lead_32 (q := 35) rfl (fun a9_ => ?_)
  refine s_iconst o dX6_lead_35 (v := (4 : Int32)) (by decide) (q := 36) rfl ?_
  refine s_aload_n o 0 rfl dX6_lead_36 (q := 37) rfl ?_
  refine s_gr o kf_X6_22 dX6_lead_37 (q := 40) rfl (fun a10_ => ?_)
  refine s_iconst o dX6_lead_40 (v := (2 : Int32)) (by decide) (q := 41) rfl ?_
  refine s_iald o dX6_lead_41 (q := 42) rfl (fun v11_ => ?_)
  refine s_imul o dX6_lead_42 (q := 43) rfl ?_
  refine s_iload_n o 1 rfl dX6_lead_43 (q := 44) rfl ?_
  refine s_iadd o dX6_lead_44 (q := 45) rfl ?_
  refine s_iald o dX6_lead_45 (q := 46) rfl (fun v12_ => ?_)
  refine s_isub o dX6_lead_46 (q := 47) rfl ?_
  exact s_iret o dX6_lead_47
theorem c_X6_lead (G : Gx) (f : Nat) (x0 : Nat) (x1 : Int32) (h : Hp) : z_M z_qi G yX6_lead cX6_lead 2 (some .int) 0 0 0 0 [rf G x0, .int x1] h (f_X6_lead f x0 x1 h) :=
  z_met (by decide +kernel) (Nat.le_of_ble_eq_true rfl) (fun X hG hn o hnm => by
    subst hG
    show Sim X (z_Zi X 0 0) 0 0 0 [(0, rf (xG X) x0), (1, .int x1)] [] h _
    exact s_sub [0, 1] rfl (t_X6_lead_0 o f x0 x1 h))
/-! SixMapsModel.isFelled()Z -/
def b_X6_isFelled_112 (f : Nat)  (x1 : Int32) (h : Hp) : Option (Int32 × Hp) :=
  q_bo x1 (some (x1, h))
def b_X6_isFelled_105 (f : Nat) (k4 : Nat → Int32 → Int32 → Hp → Option (Int32 × Hp)) (x0 : Nat) (x2 : Int32) (y0 : Int32) (h : Hp) : Option (Int32 × Hp) :=
  lt (x2 + (1 : Int32)) fun v1_ =>
  k4 x0 y0 v1_ h
def b_X6_isFelled_104 (f : Nat) (k4 : Nat → Int32 → Int32 → Hp → Option (Int32 × Hp)) (x0 : Nat) (x2 : Int32) (h : Hp) : Option (Int32 × Hp) :=
  b_X6_isFelled_105 f k4 x0 x2 (0 : Int32) h
def b_X6_isFelled_100 (f : Nat) (k4 : Nat → Int32 → Int32 → Hp → Option (Int32 × Hp)) (x0 : Nat) (x2 : Int32) (h : Hp) : Option (Int32 × Hp) :=
  b_X6_isFelled_105 f k4 x0 x2 (1 : Int32) h
def b_X6_isFelled_63 (f : Nat) (k4 : Nat → Int32 → Int32 → Hp → Option (Int32 × Hp)) (x0 : Nat) (x1 : Int32) (x2 : Int32) (y0 : Int32) (h : Hp) : Option (Int32 × Hp) :=
  if ¬ x1 = 0 then
  (b_X6_isFelled_100 f k4 x0 x2 h)
  else
  (if y0 = 0 then
  (b_X6_isFelled_104 f k4 x0 x2 h)
  else
  (q_on h x0 6 (
  bi (f_X6_lead f x0 (0 : Int32) h) fun v3_ h2_ =>
  (q_gr h2_ x0 6 14).bind fun a4_ =>
  (q_ai h2_ a4_ 9 x2).bind fun v5_ =>
  if ¬ v3_ = v5_ then
  (b_X6_isFelled_104 f k4 x0 x2 h2_)
  else
  (q_on h2_ x0 6 (
  bi (f_X6_lead f x0 (2 : Int32) h2_) fun v8_ h7_ =>
  (q_gr h7_ x0 6 15).bind fun a9_ =>
  (q_ai h7_ a9_ 9 x2).bind fun v10_ =>
  if ¬ v8_ = v10_ then
  (b_X6_isFelled_104 f k4 x0 x2 h7_)
  else
  (b_X6_isFelled_100 f k4 x0 x2 h7_))))))
def b_X6_isFelled_62 (f : Nat) (k4 : Nat → Int32 → Int32 → Hp → Option (Int32 × Hp)) (x0 : Nat) (x1 : Int32) (x2 : Int32) (h : Hp) : Option (Int32 × Hp) :=
  b_X6_isFelled_63 f k4 x0 x1 x2 (0 : Int32) h
def b_X6_isFelled_4 (f : Nat) (k4 : Nat → Int32 → Int32 → Hp → Option (Int32 × Hp)) (x0 : Nat) (x1 : Int32) (x2 : Int32) (h : Hp) : Option (Int32 × Hp) :=
  (q_gi h x0 6 13).bind fun v1_ =>
  if v1_ ≤ x2 then
  (b_X6_isFelled_112 f x1 h)
  else
  ((q_gi h x0 6 0).bind fun v2_ =>
  if v2_ ≤ 0 then
  (b_X6_isFelled_112 f x1 h)
  else
  ((q_gr h x0 6 8).bind fun a3_ =>
  (q_ai h a3_ 9 (0 : Int32)).bind fun v4_ =>
  q_on h x0 6 (
  bi (f_X6_isOne f x0 v4_ h) fun v7_ h6_ =>
  if v7_ = 0 then
  (b_X6_isFelled_62 f k4 x0 x1 x2 h6_)
  else
  ((q_gr h6_ x0 6 8).bind fun a8_ =>
  (q_ai h6_ a8_ 9 (1 : Int32)).bind fun v9_ =>
  q_on h6_ x0 6 (
  bi (f_X6_isOne f x0 v9_ h6_) fun v12_ h11_ =>
  if v12_ = 0 then
  (b_X6_isFelled_62 f k4 x0 x1 x2 h11_)
  else
  ((q_gr h11_ x0 6 8).bind fun a13_ =>
  (q_ai h11_ a13_ 9 (2 : Int32)).bind fun v14_ =>
  q_on h11_ x0 6 (
  bi (f_X6_isOne f x0 v14_ h11_) fun v17_ h16_ =>
  if v17_ = 0 then
  (b_X6_isFelled_62 f k4 x0 x1 x2 h16_)
  else
  (b_X6_isFelled_63 f k4 x0 x1 x2 (1 : Int32) h16_))))))))
def l_X6_isFelled_4 (f : Nat)  : Nat → Nat → Int32 → Int32 → Hp → Option (Int32 × Hp)
  | 0, _, _, _, _ => none
  | n + 1, x0, x1, x2, h => b_X6_isFelled_4 f  (l_X6_isFelled_4 f  n) x0 x1 x2 h
def f_X6_isFelled (f : Nat)  (x0 : Nat) (h : Hp) : Option (Int32 × Hp) :=
  l_X6_isFelled_4 f f x0 (0 : Int32) (0 : Int32) h
set_option maxRecDepth 20000 in
theorem t_X6_isFelled_112 {X : Cx} (o : Ok X RX6 cX6_isFelled 4 1 21 0 0 (some .boolean)) (f : Nat)  (x1 : Int32) (h : Hp) : Sim X (z_Zi X 0 0) 0 0 112 [(1, .int x1)] [] h (b_X6_isFelled_112 f x1 h) := by
  unfold b_X6_isFelled_112
  refine s_iload_n o 0 rfl dX6_isFelled_112 (q := 113) rfl ?_
  exact s_zret o dX6_isFelled_113
set_option maxRecDepth 20000 in
theorem t_X6_isFelled_105 {X : Cx} (o : Ok X RX6 cX6_isFelled 4 1 21 0 0 (some .boolean)) (f : Nat) {k4 : Nat → Int32 → Int32 → Hp → Option (Int32 × Hp)} (hk4 : ∀ (x0 : Nat) (x1 : Int32) (x2 : Int32) (h : Hp), Sim X (z_Zi X 0 0) 0 0 4 [(0, rf (xG X) x0), (1, .int x1), (2, .int x2)] [] h (k4 x0 x1 x2 h)) (x0 : Nat) (x2 : Int32) (y0 : Int32) (h : Hp) : Sim X (z_Zi X 0 0) 0 0 105 [(0, rf (xG X) x0), (2, .int x2)] [.int y0] h (b_X6_isFelled_105 f k4 x0 x2 y0 h) := by
  unfold b_X6_isFelled_105
  refine s_istore_n o [1, 0, 2] (lv' := [(0, rf (xG X) x0), (1, .int y0), (2, .int x2)]) rfl dX6_isFelled_105 (by decide) (q := 106) rfl ?_
  refine s_iinc o 2 rfl (v := (1 : Int32)) (by decide) [1, 2, 0] (lv' := fun v1_ => [(0, rf (xG X) x0), (1, .int y0), (2, .int v1_)]) (fun _ => rfl) dX6_isFelled_106 (by decide) (q := 109) rfl (fun v1_ => ?_)
  refine s_goto o (tgt := 4) dX6_isFelled_109 (by decide) ?_
  exact s_sub [0, 1, 2] rfl (hk4 x0 y0 v1_ h)
set_option maxRecDepth 20000 in
theorem t_X6_isFelled_104 {X : Cx} (o : Ok X RX6 cX6_isFelled 4 1 21 0 0 (some .boolean)) (f : Nat) {k4 : Nat → Int32 → Int32 → Hp → Option (Int32 × Hp)} (hk4 : ∀ (x0 : Nat) (x1 : Int32) (x2 : Int32) (h : Hp), Sim X (z_Zi X 0 0) 0 0 4 [(0, rf (xG X) x0), (1, .int x1), (2, .int x2)] [] h (k4 x0 x1 x2 h)) (x0 : Nat) (x2 : Int32) (h : Hp) : Sim X (z_Zi X 0 0) 0 0 104 [(0, rf (xG X) x0), (2, .int x2)] [] h (b_X6_isFelled_104 f k4 x0 x2 h) := by
  unfold b_X6_isFelled_104
  refine s_iconst o dX6_isFelled_104 (v := (0 : Int32)) (by decide) (q := 105) rfl ?_
  exact s_sub [0, 1] rfl (t_X6_isFelled_105 o f hk4 x0 x2 (0 : Int32) h)
set_option maxRecDepth 20000 in
theorem t_X6_isFelled_100 {X : Cx} (o : Ok X RX6 cX6_isFelled 4 1 21 0 0 (some .boolean)) (f : Nat) {k4 : Nat → Int32 → Int32 → Hp → Option (Int32 × Hp)} (hk4 : ∀ (x0 : Nat) (x1 : Int32) (x2 : Int32) (h : Hp), Sim X (z_Zi X 0 0) 0 0 4 [(0, rf (xG X) x0), (1, .int x1), (2, .int x2)] [] h (k4 x0 x1 x2 h)) (x0 : Nat) (x2 : Int32) (h : Hp) : Sim X (z_Zi X 0 0) 0 0 100 [(0, rf (xG X) x0), (2, .int x2)] [] h (b_X6_isFelled_100 f k4 x0 x2 h) := by
  unfold b_X6_isFelled_100
  refine s_iconst o dX6_isFelled_100 (v := (1 : Int32)) (by decide) (q := 101) rfl ?_
  refine s_goto o (tgt := 105) dX6_isFelled_101 (by decide) ?_
  exact s_sub [0, 1] rfl (t_X6_isFelled_105 o f hk4 x0 x2 (1 : Int32) h)
set_option maxRecDepth 20000 in
theorem t_X6_isFelled_63 {X : Cx} (o : Ok X RX6 cX6_isFelled 4 1 21 0 0 (some .boolean)) (f : Nat) {k4 : Nat → Int32 → Int32 → Hp → Option (Int32 × Hp)} (hk4 : ∀ (x0 : Nat) (x1 : Int32) (x2 : Int32) (h : Hp), Sim X (z_Zi X 0 0) 0 0 4 [(0, rf (xG X) x0), (1, .int x1), (2, .int x2)] [] h (k4 x0 x1 x2 h)) (x0 : Nat) (x1 : Int32) (x2 : Int32) (y0 : Int32) (h : Hp) : Sim X (z_Zi X 0 0) 0 0 63 [(0, rf (xG X) x0), (1, .int x1), (2, .int x2)] [.int y0] h (b_X6_isFelled_63 f k4 x0 x1 x2 y0 h) := by
  unfold b_X6_isFelled_63
  refine s_istore_n o [1, 2, 3, 0] (lv' := [(0, rf (xG X) x0), (1, .int x1), (2, .int x2), (3, .int y0)]) rfl dX6_isFelled_63 (by decide) (q := 64) rfl ?_
  refine s_iload_n o 1 rfl dX6_isFelled_64 (q := 65) rfl ?_
  refine s_if_ne o (tgt := 100) dX6_isFelled_65 (by decide) (q := 68) rfl ?_ ?_
  · exact s_sub [0, 2] rfl (t_X6_isFelled_100 o f hk4 x0 x2 h)
  · refine s_iload_n o 3 rfl dX6_isFelled_68 (q := 69) rfl ?_
    refine s_if_eq o (tgt := 104) dX6_isFelled_69 (by decide) (q := 72) rfl ?_ ?_
    · exact s_sub [0, 2] rfl (t_X6_isFelled_104 o f hk4 x0 x2 h)
    · refine s_aload_n o 0 rfl dX6_isFelled_72 (q := 73) rfl ?_
      refine s_iconst o dX6_isFelled_73 (v := (0 : Int32)) (by decide) (q := 74) rfl ?_
      refine s_on (fun hk1_ => ?_)
      refine s_bi (fun r0 hr0 => runV o hk1_ cv_X6_283 (c_X6_lead (xG X) f x0 (0 : Int32) h (xl X) r0 hr0) ⟨Nat.le_of_ble_eq_true rfl, Nat.le_of_ble_eq_true rfl⟩ rfl rfl (Nat.le_of_ble_eq_true rfl) dX6_isFelled_74 ⟨Nat.le_of_ble_eq_true rfl, Nat.le_of_ble_eq_true rfl⟩) (q := 77) rfl (cs' := 0) rfl (sl' := 0) rfl (fun v3_ h2_ => ?_)
      refine s_aload_n o 0 rfl dX6_isFelled_77 (q := 78) rfl ?_
      refine s_gr o kf_X6_38 dX6_isFelled_78 (q := 81) rfl (fun a4_ => ?_)
      refine s_iload_n o 2 rfl dX6_isFelled_81 (q := 82) rfl ?_
      refine s_iald o dX6_isFelled_82 (q := 83) rfl (fun v5_ => ?_)
      refine s_ic_ne o (tgt := 104) dX6_isFelled_83 (by decide) (q := 86) rfl ?_ ?_
      · exact s_sub [0, 2] rfl (t_X6_isFelled_104 o f hk4 x0 x2 h2_)
      · refine s_aload_n o 0 rfl dX6_isFelled_86 (q := 87) rfl ?_
        refine s_iconst o dX6_isFelled_87 (v := (2 : Int32)) (by decide) (q := 88) rfl ?_
        refine s_on (fun hk6_ => ?_)
        refine s_bi (fun r0 hr0 => runV o hk6_ cv_X6_283 (c_X6_lead (xG X) f x0 (2 : Int32) h2_ (xl X) r0 hr0) ⟨Nat.le_of_ble_eq_true rfl, Nat.le_of_ble_eq_true rfl⟩ rfl rfl (Nat.le_of_ble_eq_true rfl) dX6_isFelled_88 ⟨Nat.le_of_ble_eq_true rfl, Nat.le_of_ble_eq_true rfl⟩) (q := 91) rfl (cs' := 0) rfl (sl' := 0) rfl (fun v8_ h7_ => ?_)
        refine s_aload_n o 0 rfl dX6_isFelled_91 (q := 92) rfl ?_
        refine s_gr o kf_X6_41 dX6_isFelled_92 (q := 95) rfl (fun a9_ => ?_)
        refine s_iload_n o 2 rfl dX6_isFelled_95 (q := 96) rfl ?_
        refine s_iald o dX6_isFelled_96 (q := 97) rfl (fun v10_ => ?_)
        refine s_ic_ne o (tgt := 104) dX6_isFelled_97 (by decide) (q := 100) rfl ?_ ?_
        · exact s_sub [0, 2] rfl (t_X6_isFelled_104 o f hk4 x0 x2 h7_)
        · exact s_sub [0, 2] rfl (t_X6_isFelled_100 o f hk4 x0 x2 h7_)
set_option maxRecDepth 20000 in
theorem t_X6_isFelled_62 {X : Cx} (o : Ok X RX6 cX6_isFelled 4 1 21 0 0 (some .boolean)) (f : Nat) {k4 : Nat → Int32 → Int32 → Hp → Option (Int32 × Hp)} (hk4 : ∀ (x0 : Nat) (x1 : Int32) (x2 : Int32) (h : Hp), Sim X (z_Zi X 0 0) 0 0 4 [(0, rf (xG X) x0), (1, .int x1), (2, .int x2)] [] h (k4 x0 x1 x2 h)) (x0 : Nat) (x1 : Int32) (x2 : Int32) (h : Hp) : Sim X (z_Zi X 0 0) 0 0 62 [(0, rf (xG X) x0), (1, .int x1), (2, .int x2)] [] h (b_X6_isFelled_62 f k4 x0 x1 x2 h) := by
  unfold b_X6_isFelled_62
  refine s_iconst o dX6_isFelled_62 (v := (0 : Int32)) (by decide) (q := 63) rfl ?_
  exact s_sub [0, 1, 2] rfl (t_X6_isFelled_63 o f hk4 x0 x1 x2 (0 : Int32) h)
set_option maxRecDepth 20000 in
theorem t_X6_isFelled_4 {X : Cx} (o : Ok X RX6 cX6_isFelled 4 1 21 0 0 (some .boolean)) (f : Nat) {k4 : Nat → Int32 → Int32 → Hp → Option (Int32 × Hp)} (hk4 : ∀ (x0 : Nat) (x1 : Int32) (x2 : Int32) (h : Hp), Sim X (z_Zi X 0 0) 0 0 4 [(0, rf (xG X) x0), (1, .int x1), (2, .int x2)] [] h (k4 x0 x1 x2 h)) (x0 : Nat) (x1 : Int32) (x2 : Int32) (h : Hp) : Sim X (z_Zi X 0 0) 0 0 4 [(0, rf (xG X) x0), (1, .int x1), (2, .int x2)] [] h (b_X6_isFelled_4 f k4 x0 x1 x2 h) := by
  unfold b_X6_isFelled_4
  refine s_iload_n o 2 rfl dX6_isFelled_4 (q := 5) rfl ?_
  refine s_aload_n o 0 rfl dX6_isFelled_5 (q := 6) rfl ?_
  refine s_gi o kf_X6_120 dX6_isFelled_6 (q := 9) rfl (fun v1_ => ?_)
  refine s_ic_ge o (tgt := 112) dX6_isFelled_9 (by decide) (q := 12) rfl ?_ ?_
  · exact s_sub [1] rfl (t_X6_isFelled_112 o f x1 h)
  · refine s_aload_n o 0 rfl dX6_isFelled_12 (q := 13) rfl ?_
    refine s_gi o kf_X6_111 dX6_isFelled_13 (q := 16) rfl (fun v2_ => ?_)
    refine s_if_le o (tgt := 112) dX6_isFelled_16 (by decide) (q := 19) rfl ?_ ?_
    · exact s_sub [1] rfl (t_X6_isFelled_112 o f x1 h)
    · refine s_aload_n o 0 rfl dX6_isFelled_19 (q := 20) rfl ?_
      refine s_aload_n o 0 rfl dX6_isFelled_20 (q := 21) rfl ?_
      refine s_gr o kf_X6_22 dX6_isFelled_21 (q := 24) rfl (fun a3_ => ?_)
      refine s_iconst o dX6_isFelled_24 (v := (0 : Int32)) (by decide) (q := 25) rfl ?_
      refine s_iald o dX6_isFelled_25 (q := 26) rfl (fun v4_ => ?_)
      refine s_on (fun hk5_ => ?_)
      refine s_bi (fun r0 hr0 => runV o hk5_ cv_X6_280 (c_X6_isOne (xG X) f x0 v4_ h (xl X) r0 hr0) ⟨Nat.le_of_ble_eq_true rfl, Nat.le_of_ble_eq_true rfl⟩ rfl rfl (Nat.le_of_ble_eq_true rfl) dX6_isFelled_26 ⟨Nat.le_of_ble_eq_true rfl, Nat.le_of_ble_eq_true rfl⟩) (q := 29) rfl (cs' := 0) rfl (sl' := 0) rfl (fun v7_ h6_ => ?_)
      refine s_if_eq o (tgt := 62) dX6_isFelled_29 (by decide) (q := 32) rfl ?_ ?_
      · exact s_sub [0, 1, 2] rfl (t_X6_isFelled_62 o f hk4 x0 x1 x2 h6_)
      · refine s_aload_n o 0 rfl dX6_isFelled_32 (q := 33) rfl ?_
        refine s_aload_n o 0 rfl dX6_isFelled_33 (q := 34) rfl ?_
        refine s_gr o kf_X6_22 dX6_isFelled_34 (q := 37) rfl (fun a8_ => ?_)
        refine s_iconst o dX6_isFelled_37 (v := (1 : Int32)) (by decide) (q := 38) rfl ?_
        refine s_iald o dX6_isFelled_38 (q := 39) rfl (fun v9_ => ?_)
        refine s_on (fun hk10_ => ?_)
        refine s_bi (fun r0 hr0 => runV o hk10_ cv_X6_280 (c_X6_isOne (xG X) f x0 v9_ h6_ (xl X) r0 hr0) ⟨Nat.le_of_ble_eq_true rfl, Nat.le_of_ble_eq_true rfl⟩ rfl rfl (Nat.le_of_ble_eq_true rfl) dX6_isFelled_39 ⟨Nat.le_of_ble_eq_true rfl, Nat.le_of_ble_eq_true rfl⟩) (q := 42) rfl (cs' := 0) rfl (sl' := 0) rfl (fun v12_ h11_ => ?_)
        refine s_if_eq o (tgt := 62) dX6_isFelled_42 (by decide) (q := 45) rfl ?_ ?_
        · exact s_sub [0, 1, 2] rfl (t_X6_isFelled_62 o f hk4 x0 x1 x2 h11_)
        · refine s_aload_n o 0 rfl dX6_isFelled_45 (q := 46) rfl ?_
          refine s_aload_n o 0 rfl dX6_isFelled_46 (q := 47) rfl ?_
          refine s_gr o kf_X6_22 dX6_isFelled_47 (q := 50) rfl (fun a13_ => ?_)
          refine s_iconst o dX6_isFelled_50 (v := (2 : Int32)) (by decide) (q := 51) rfl ?_
          refine s_iald o dX6_isFelled_51 (q := 52) rfl (fun v14_ => ?_)
          refine s_on (fun hk15_ => ?_)
          refine s_bi (fun r0 hr0 => runV o hk15_ cv_X6_280 (c_X6_isOne (xG X) f x0 v14_ h11_ (xl X) r0 hr0) ⟨Nat.le_of_ble_eq_true rfl, Nat.le_of_ble_eq_true rfl⟩ rfl rfl (Nat.le_of_ble_eq_true rfl) dX6_isFelled_52 ⟨Nat.le_of_ble_eq_true rfl, Nat.le_of_ble_eq_true rfl⟩) (q := 55) rfl (cs' := 0) rfl (sl' := 0) rfl (fun v17_ h16_ => ?_)
          refine s_if_eq o (tgt := 62) dX6_isFelled_55 (by decide) (q := 58) rfl ?_ ?_
          · exact s_sub [0, 1, 2] rfl (t_X6_isFelled_62 o f hk4 x0 x1 x2 h16_)
          · refine s_iconst o dX6_isFelled_58 (v := (1 : Int32)) (by decide) (q := 59) rfl ?_
            refine s_goto o (tgt := 63) dX6_isFelled_59 (by decide) ?_
            exact s_sub [0, 1, 2] rfl (t_X6_isFelled_63 o f hk4 x0 x1 x2 (1 : Int32) h16_)
theorem tl_X6_isFelled_4 {X : Cx} (o : Ok X RX6 cX6_isFelled 4 1 21 0 0 (some .boolean)) (f : Nat)  : ∀ (n : Nat) (x0 : Nat) (x1 : Int32) (x2 : Int32) (h : Hp), Sim X (z_Zi X 0 0) 0 0 4 [(0, rf (xG X) x0), (1, .int x1), (2, .int x2)] [] h (l_X6_isFelled_4 f n x0 x1 x2 h) := by
  intro n
  induction n with
  | zero => intro x0 x1 x2 h; exact s_none
  | succ n ih => intro x0 x1 x2 h; exact t_X6_isFelled_4 o f  ih x0 x1 x2 h
set_option maxRecDepth 20000 in
theorem t_X6_isFelled_0 {X : Cx} (o : Ok X RX6 cX6_isFelled 4 1 21 0 0 (some .boolean)) (f : Nat)  (x0 : Nat) (h : Hp) : Sim X (z_Zi X 0 0) 0 0 0 [(0, rf (xG X) x0)] [] h (f_X6_isFelled f x0 h) := by
  unfold f_X6_isFelled
  refine s_iconst o dX6_isFelled_0 (v := (0 : Int32)) (by decide) (q := 1) rfl ?_
  refine s_istore_n o [1, 0] (lv' := [(0, rf (xG X) x0), (1, .int (0 : Int32))]) rfl dX6_isFelled_1 (by decide) (q := 2) rfl ?_
  refine s_iconst o dX6_isFelled_2 (v := (0 : Int32)) (by decide) (q := 3) rfl ?_
  refine s_istore_n o [1, 2, 0] (lv' := [(0, rf (xG X) x0), (1, .int (0 : Int32)), (2, .int (0 : Int32))]) rfl dX6_isFelled_3 (by decide) (q := 4) rfl ?_
  exact s_sub [0, 1, 2] rfl (tl_X6_isFelled_4 o f f x0 (0 : Int32) (0 : Int32) h)
theorem c_X6_isFelled (G : Gx) (f : Nat) (x0 : Nat) (h : Hp) : z_M z_qi G yX6_isFelled cX6_isFelled 4 (some .boolean) 1 21 0 0 [rf G x0] h (f_X6_isFelled f x0 h) :=
  z_met (by decide +kernel) (Nat.le_of_ble_eq_true rfl) (fun X hG hn o hnm => by
    subst hG
    show Sim X (z_Zi X 0 0) 0 0 0 [(0, rf (xG X) x0)] [] h _
    exact s_sub [0] rfl (t_X6_isFelled_0 o f x0 h))
/-! SixMapsModel.isLeft(I)Z -/
def b_X6_isLeft_58 (f : Nat)  (y0 : Int32) (h : Hp) : Option (Int32 × Hp) :=
  q_bo y0 (some (y0, h))
def b_X6_isLeft_57 (f : Nat)   (h : Hp) : Option (Int32 × Hp) :=
  b_X6_isLeft_58 f (0 : Int32) h
def b_X6_isLeft_53 (f : Nat)   (h : Hp) : Option (Int32 × Hp) :=
  b_X6_isLeft_58 f (1 : Int32) h
def f_X6_isLeft (f : Nat)  (x0 : Nat) (x1 : Int32) (h : Hp) : Option (Int32 × Hp) :=
  (q_gr h x0 6 41).bind fun a1_ =>
  (q_ai h a1_ 10 x1).bind fun v2_ =>
  if ¬ v2_ = 0 then
  (b_X6_isLeft_53 f h)
  else
  ((q_gr h x0 6 42).bind fun a3_ =>
  (q_ai h a3_ 9 ((4 : Int32) * x1)).bind fun v4_ =>
  (q_gr h x0 6 42).bind fun a5_ =>
  (q_ai h a5_ 9 (((4 : Int32) * x1) + (1 : Int32))).bind fun v6_ =>
  if v6_ < v4_ then
  (b_X6_isLeft_57 f h)
  else
  ((q_gr h x0 6 42).bind fun a7_ =>
  (q_ai h a7_ 9 (((4 : Int32) * x1) + (2 : Int32))).bind fun v8_ =>
  (q_gr h x0 6 42).bind fun a9_ =>
  (q_ai h a9_ 9 (((4 : Int32) * x1) + (3 : Int32))).bind fun v10_ =>
  if v10_ < v8_ then
  (b_X6_isLeft_57 f h)
  else
  (b_X6_isLeft_53 f h)))
set_option maxRecDepth 20000 in
theorem t_X6_isLeft_58 {X : Cx} (o : Ok X RX6 cX6_isLeft 2 0 0 0 0 (some .boolean)) (f : Nat)  (y0 : Int32) (h : Hp) : Sim X (z_Zi X 0 0) 0 0 58 [] [.int y0] h (b_X6_isLeft_58 f y0 h) := by
  unfold b_X6_isLeft_58
  exact s_zret o dX6_isLeft_58
set_option maxRecDepth 20000 in
theorem t_X6_isLeft_57 {X : Cx} (o : Ok X RX6 cX6_isLeft 2 0 0 0 0 (some .boolean)) (f : Nat)   (h : Hp) : Sim X (z_Zi X 0 0) 0 0 57 [] [] h (b_X6_isLeft_57 f h) := by
  unfold b_X6_isLeft_57
  refine s_iconst o dX6_isLeft_57 (v := (0 : Int32)) (by decide) (q := 58) rfl ?_
  exact s_sub [] rfl (t_X6_isLeft_58 o f (0 : Int32) h)
set_option maxRecDepth 20000 in
theorem t_X6_isLeft_53 {X : Cx} (o : Ok X RX6 cX6_isLeft 2 0 0 0 0 (some .boolean)) (f : Nat)   (h : Hp) : Sim X (z_Zi X 0 0) 0 0 53 [] [] h (b_X6_isLeft_53 f h) := by
  unfold b_X6_isLeft_53
  refine s_iconst o dX6_isLeft_53 (v := (1 : Int32)) (by decide) (q := 54) rfl ?_
  refine s_goto o (tgt := 58) dX6_isLeft_54 (by decide) ?_
  exact s_sub [] rfl (t_X6_isLeft_58 o f (1 : Int32) h)
set_option maxRecDepth 20000 in
theorem t_X6_isLeft_0 {X : Cx} (o : Ok X RX6 cX6_isLeft 2 0 0 0 0 (some .boolean)) (f : Nat)  (x0 : Nat) (x1 : Int32) (h : Hp) : Sim X (z_Zi X 0 0) 0 0 0 [(0, rf (xG X) x0), (1, .int x1)] [] h (f_X6_isLeft f x0 x1 h) := by
  unfold f_X6_isLeft
  refine s_aload_n o 0 rfl dX6_isLeft_0 (q := 1) rfl ?_
  refine s_gr o kf_X6_72 dX6_isLeft_1 (q := 4) rfl (fun a1_ => ?_)
  refine s_iload_n o 1 rfl dX6_isLeft_4 (q := 5) rfl ?_
  refine s_zald o dX6_isLeft_5 (q := 6) rfl (fun v2_ => ?_)
  refine s_if_ne o (tgt := 53) dX6_isLeft_6 (by decide) (q := 9) rfl ?_ ?_
  · exact s_sub [] rfl (t_X6_isLeft_53 o f h)
  · refine s_aload_n o 0 rfl dX6_isLeft_9 (q := 10) rfl ?_
    refine s_gr o kf_X6_75 dX6_isLeft_10 (q := 13) rfl (fun a3_ => ?_)
    refine s_iconst o dX6_isLeft_13 (v := (4 : Int32)) (by decide) (q := 14) rfl ?_
    refine s_iload_n o 1 rfl dX6_isLeft_14 (q := 15) rfl ?_
    refine s_imul o dX6_isLeft_15 (q := 16) rfl ?_
    refine s_iald o dX6_isLeft_16 (q := 17) rfl (fun v4_ => ?_)
    refine s_aload_n o 0 rfl dX6_isLeft_17 (q := 18) rfl ?_
    refine s_gr o kf_X6_75 dX6_isLeft_18 (q := 21) rfl (fun a5_ => ?_)
    refine s_iconst o dX6_isLeft_21 (v := (4 : Int32)) (by decide) (q := 22) rfl ?_
    refine s_iload_n o 1 rfl dX6_isLeft_22 (q := 23) rfl ?_
    refine s_imul o dX6_isLeft_23 (q := 24) rfl ?_
    refine s_iconst o dX6_isLeft_24 (v := (1 : Int32)) (by decide) (q := 25) rfl ?_
    refine s_iadd o dX6_isLeft_25 (q := 26) rfl ?_
    refine s_iald o dX6_isLeft_26 (q := 27) rfl (fun v6_ => ?_)
    refine s_ic_gt o (tgt := 57) dX6_isLeft_27 (by decide) (q := 30) rfl ?_ ?_
    · exact s_sub [] rfl (t_X6_isLeft_57 o f h)
    · refine s_aload_n o 0 rfl dX6_isLeft_30 (q := 31) rfl ?_
      refine s_gr o kf_X6_75 dX6_isLeft_31 (q := 34) rfl (fun a7_ => ?_)
      refine s_iconst o dX6_isLeft_34 (v := (4 : Int32)) (by decide) (q := 35) rfl ?_
      refine s_iload_n o 1 rfl dX6_isLeft_35 (q := 36) rfl ?_
      refine s_imul o dX6_isLeft_36 (q := 37) rfl ?_
      refine s_iconst o dX6_isLeft_37 (v := (2 : Int32)) (by decide) (q := 38) rfl ?_
      refine s_iadd o dX6_isLeft_38 (q := 39) rfl ?_
      refine s_iald o dX6_isLeft_39 (q := 40) rfl (fun v8_ => ?_)
      refine s_aload_n o 0 rfl dX6_isLeft_40 (q := 41) rfl ?_
      refine s_gr o kf_X6_75 dX6_isLeft_41 (q := 44) rfl (fun a9_ => ?_)
      refine s_iconst o dX6_isLeft_44 (v := (4 : Int32)) (by decide) (q := 45) rfl ?_
      refine s_iload_n o 1 rfl dX6_isLeft_45 (q := 46) rfl ?_
      refine s_imul o dX6_isLeft_46 (q := 47) rfl ?_
      refine s_iconst o dX6_isLeft_47 (v := (3 : Int32)) (by decide) (q := 48) rfl ?_
      refine s_iadd o dX6_isLeft_48 (q := 49) rfl ?_
      refine s_iald o dX6_isLeft_49 (q := 50) rfl (fun v10_ => ?_)
      refine s_ic_gt o (tgt := 57) dX6_isLeft_50 (by decide) (q := 53) rfl ?_ ?_
      · exact s_sub [] rfl (t_X6_isLeft_57 o f h)
      · exact s_sub [] rfl (t_X6_isLeft_53 o f h)
theorem c_X6_isLeft (G : Gx) (f : Nat) (x0 : Nat) (x1 : Int32) (h : Hp) : z_M z_qi G yX6_isLeft cX6_isLeft 2 (some .boolean) 0 0 0 0 [rf G x0, .int x1] h (f_X6_isLeft f x0 x1 h) :=
  z_met (by decide +kernel) (Nat.le_of_ble_eq_true rfl) (fun X hG hn o hnm => by
    subst hG
    show Sim X (z_Zi X 0 0) 0 0 0 [(0, rf (xG X) x0), (1, .int x1)] [] h _
    exact s_sub [0, 1] rfl (t_X6_isLeft_0 o f x0 x1 h))
