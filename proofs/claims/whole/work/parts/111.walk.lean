/-! SixMapsModel.mayLie(II)Z -/
def b_X6_mayLie_155 (f : Nat)  (y0 : Int32) (h : Hp) : Option (Int32 × Hp) :=
  q_bo y0 (some (y0, h))
def b_X6_mayLie_154 (f : Nat)   (h : Hp) : Option (Int32 × Hp) :=
  b_X6_mayLie_155 f (0 : Int32) h
def b_X6_mayLie_128 (f : Nat)  (x0 : Nat) (x1 : Int32) (x2 : Int32) (x3 : Int32) (x4 : Int32) (h : Hp) : Option (Int32 × Hp) :=
  if x3 = 0 then
  (b_X6_mayLie_154 f h)
  else
  (q_on h x0 6 (
  bi (f_X6_quarrels f x0 x1 x2 h) fun v3_ h2_ =>
  if x4 < v3_ then
  (b_X6_mayLie_154 f h2_)
  else
  (q_on h2_ x0 6 (
  bi (f_X6_isFelled f x0 h2_) fun v6_ h5_ =>
  if ¬ v6_ = 0 then
  (b_X6_mayLie_154 f h5_)
  else
  (b_X6_mayLie_155 f (1 : Int32) h5_)))))
def b_X6_mayLie_122 (f : Nat) (k51 : Nat → Int32 → Int32 → Int32 → Int32 → Int32 → Hp → Option (Int32 × Hp)) (x0 : Nat) (x1 : Int32) (x2 : Int32) (x3 : Int32) (x4 : Int32) (x5 : Int32) (h : Hp) : Option (Int32 × Hp) :=
  lt (x5 + (1 : Int32)) fun v1_ =>
  k51 x0 x1 x2 x3 x4 v1_ h
def b_X6_mayLie_121 (f : Nat) (k51 : Nat → Int32 → Int32 → Int32 → Int32 → Int32 → Hp → Option (Int32 × Hp)) (x0 : Nat) (x1 : Int32) (x2 : Int32) (x4 : Int32) (x5 : Int32) (y0 : Int32) (h : Hp) : Option (Int32 × Hp) :=
  b_X6_mayLie_122 f k51 x0 x1 x2 y0 x4 x5 h
def b_X6_mayLie_120 (f : Nat) (k51 : Nat → Int32 → Int32 → Int32 → Int32 → Int32 → Hp → Option (Int32 × Hp)) (x0 : Nat) (x1 : Int32) (x2 : Int32) (x4 : Int32) (x5 : Int32) (h : Hp) : Option (Int32 × Hp) :=
  b_X6_mayLie_121 f k51 x0 x1 x2 x4 x5 (0 : Int32) h
def b_X6_mayLie_116 (f : Nat) (k51 : Nat → Int32 → Int32 → Int32 → Int32 → Int32 → Hp → Option (Int32 × Hp)) (x0 : Nat) (x1 : Int32) (x2 : Int32) (x4 : Int32) (x5 : Int32) (h : Hp) : Option (Int32 × Hp) :=
  b_X6_mayLie_121 f k51 x0 x1 x2 x4 x5 (1 : Int32) h
def b_X6_mayLie_92 (f : Nat) (k51 : Nat → Int32 → Int32 → Int32 → Int32 → Int32 → Hp → Option (Int32 × Hp)) (x0 : Nat) (x1 : Int32) (x2 : Int32) (x5 : Int32) (x6 : Int32) (y0 : Int32) (y1 : Int32) (h : Hp) : Option (Int32 × Hp) :=
  lt (y0 + y1) fun v1_ =>
  if x6 = (1 : Int32) then
  (b_X6_mayLie_116 f k51 x0 x1 x2 v1_ x5 h)
  else
  (if ¬ x6 = 0 then
  (b_X6_mayLie_120 f k51 x0 x1 x2 v1_ x5 h)
  else
  (q_on h x0 6 (
  bi (f_X6_couldBe f x0 x1 x5 h) fun v4_ h3_ =>
  if v4_ = 0 then
  (b_X6_mayLie_120 f k51 x0 x1 x2 v1_ x5 h3_)
  else
  (b_X6_mayLie_116 f k51 x0 x1 x2 v1_ x5 h3_))))
def b_X6_mayLie_51 (f : Nat) (k51 : Nat → Int32 → Int32 → Int32 → Int32 → Int32 → Hp → Option (Int32 × Hp)) (x0 : Nat) (x1 : Int32) (x2 : Int32) (x3 : Int32) (x4 : Int32) (x5 : Int32) (h : Hp) : Option (Int32 × Hp) :=
  if (6 : Int32) ≤ x5 then
  (b_X6_mayLie_128 f x0 x1 x2 x3 x4 h)
  else
  (if x3 = 0 then
  (b_X6_mayLie_128 f x0 x1 x2 x3 x4 h)
  else
  (bi (f_X6_has f x2 x5 h) fun v2_ h1_ =>
  if v2_ = 0 then
  (b_X6_mayLie_122 f k51 x0 x1 x2 x3 x4 x5 h1_)
  else
  (q_on h1_ x0 6 (
  bi (f_X6_offTimes f x0 x1 x5 h1_) fun v5_ h4_ =>
  if ¬ v5_ = 0 then
  (b_X6_mayLie_92 f k51 x0 x1 x2 x5 v5_ x4 (0 : Int32) h4_)
  else
  (b_X6_mayLie_92 f k51 x0 x1 x2 x5 v5_ x4 (1 : Int32) h4_)))))
def l_X6_mayLie_51 (f : Nat)  : Nat → Nat → Int32 → Int32 → Int32 → Int32 → Int32 → Hp → Option (Int32 × Hp)
  | 0, _, _, _, _, _, _, _ => none
  | n + 1, x0, x1, x2, x3, x4, x5, h => b_X6_mayLie_51 f  (l_X6_mayLie_51 f  n) x0 x1 x2 x3 x4 x5 h
def b_X6_mayLie_38 (f : Nat) (k11 : Nat → Int32 → Int32 → Int32 → Int32 → Hp → Option (Int32 × Hp)) (x0 : Nat) (x1 : Int32) (x2 : Int32) (x4 : Int32) (y0 : Int32) (h : Hp) : Option (Int32 × Hp) :=
  lt (x4 + (1 : Int32)) fun v1_ =>
  k11 x0 x1 x2 y0 v1_ h
def b_X6_mayLie_37 (f : Nat) (k11 : Nat → Int32 → Int32 → Int32 → Int32 → Hp → Option (Int32 × Hp)) (x0 : Nat) (x1 : Int32) (x2 : Int32) (x4 : Int32) (h : Hp) : Option (Int32 × Hp) :=
  b_X6_mayLie_38 f k11 x0 x1 x2 x4 (0 : Int32) h
def b_X6_mayLie_11 (f : Nat) (k11 : Nat → Int32 → Int32 → Int32 → Int32 → Hp → Option (Int32 × Hp)) (x0 : Nat) (x1 : Int32) (x2 : Int32) (x3 : Int32) (x4 : Int32) (h : Hp) : Option (Int32 × Hp) :=
  (q_gi h x0 6 0).bind fun v1_ =>
  if v1_ ≤ x4 then
  (l_X6_mayLie_51 f f x0 x1 x2 x3 (0 : Int32) (0 : Int32) h)
  else
  (if x3 = 0 then
  (b_X6_mayLie_37 f k11 x0 x1 x2 x4 h)
  else
  (q_on h x0 6 (
  bi (f_X6_isLeft f x0 x4 h) fun v4_ h3_ =>
  if v4_ = 0 then
  (b_X6_mayLie_37 f k11 x0 x1 x2 x4 h3_)
  else
  (b_X6_mayLie_38 f k11 x0 x1 x2 x4 (1 : Int32) h3_))))
def l_X6_mayLie_11 (f : Nat)  : Nat → Nat → Int32 → Int32 → Int32 → Int32 → Hp → Option (Int32 × Hp)
  | 0, _, _, _, _, _, _ => none
  | n + 1, x0, x1, x2, x3, x4, h => b_X6_mayLie_11 f  (l_X6_mayLie_11 f  n) x0 x1 x2 x3 x4 h
def f_X6_mayLie (f : Nat)  (x0 : Nat) (x1 : Int32) (x2 : Int32) (h : Hp) : Option (Int32 × Hp) :=
  q_on h x0 6 (
  (f_X6_findLeft f x0 x1 x2 h).bind fun h2_ =>
  l_X6_mayLie_11 f f x0 x1 x2 (1 : Int32) (0 : Int32) h2_)
set_option maxRecDepth 20000 in
theorem t_X6_mayLie_155 {X : Cx} (o : Ok X RX6 cX6_mayLie 7 2 50 0 0 (some .boolean)) (f : Nat)  (y0 : Int32) (h : Hp) : Sim X (z_Zi X 0 0) 0 0 155 [] [.int y0] h (b_X6_mayLie_155 f y0 h) := by
  unfold b_X6_mayLie_155
  exact s_zret o dX6_mayLie_155
set_option maxRecDepth 20000 in
theorem t_X6_mayLie_154 {X : Cx} (o : Ok X RX6 cX6_mayLie 7 2 50 0 0 (some .boolean)) (f : Nat)   (h : Hp) : Sim X (z_Zi X 0 0) 0 0 154 [] [] h (b_X6_mayLie_154 f h) := by
  unfold b_X6_mayLie_154
  refine s_iconst o dX6_mayLie_154 (v := (0 : Int32)) (by decide) (q := 155) rfl ?_
  exact s_sub [] rfl (t_X6_mayLie_155 o f (0 : Int32) h)
set_option maxRecDepth 20000 in
theorem t_X6_mayLie_128 {X : Cx} (o : Ok X RX6 cX6_mayLie 7 2 50 0 0 (some .boolean)) (f : Nat)  (x0 : Nat) (x1 : Int32) (x2 : Int32) (x3 : Int32) (x4 : Int32) (h : Hp) : Sim X (z_Zi X 0 0) 0 0 128 [(0, rf (xG X) x0), (1, .int x1), (2, .int x2), (3, .int x3), (4, .int x4)] [] h (b_X6_mayLie_128 f x0 x1 x2 x3 x4 h) := by
  unfold b_X6_mayLie_128
  refine s_iload_n o 3 rfl dX6_mayLie_128 (q := 129) rfl ?_
  refine s_if_eq o (tgt := 154) dX6_mayLie_129 (by decide) (q := 132) rfl ?_ ?_
  · exact s_sub [] rfl (t_X6_mayLie_154 o f h)
  · refine s_aload_n o 0 rfl dX6_mayLie_132 (q := 133) rfl ?_
    refine s_iload_n o 1 rfl dX6_mayLie_133 (q := 134) rfl ?_
    refine s_iload_n o 2 rfl dX6_mayLie_134 (q := 135) rfl ?_
    refine s_on (fun hk1_ => ?_)
    refine s_bi (fun r0 hr0 => runV o hk1_ cv_X6_299 (c_X6_quarrels (xG X) f x0 x1 x2 h (xl X) r0 hr0) ⟨Nat.le_of_ble_eq_true rfl, Nat.le_of_ble_eq_true rfl⟩ rfl rfl (Nat.le_of_ble_eq_true rfl) dX6_mayLie_135 ⟨Nat.le_of_ble_eq_true rfl, Nat.le_of_ble_eq_true rfl⟩) (q := 138) rfl (cs' := 0) rfl (sl' := 0) rfl (fun v3_ h2_ => ?_)
    refine s_iload o 4 rfl dX6_mayLie_138 (q := 140) rfl ?_
    refine s_ic_gt o (tgt := 154) dX6_mayLie_140 (by decide) (q := 143) rfl ?_ ?_
    · exact s_sub [] rfl (t_X6_mayLie_154 o f h2_)
    · refine s_aload_n o 0 rfl dX6_mayLie_143 (q := 144) rfl ?_
      refine s_on (fun hk4_ => ?_)
      refine s_bi (fun r0 hr0 => runV o hk4_ cv_X6_302 (c_X6_isFelled (xG X) f x0 h2_ (xl X) r0 hr0) ⟨Nat.le_of_ble_eq_true rfl, Nat.le_of_ble_eq_true rfl⟩ rfl rfl (Nat.le_of_ble_eq_true rfl) dX6_mayLie_144 ⟨Nat.le_of_ble_eq_true rfl, Nat.le_of_ble_eq_true rfl⟩) (q := 147) rfl (cs' := 0) rfl (sl' := 0) rfl (fun v6_ h5_ => ?_)
      refine s_if_ne o (tgt := 154) dX6_mayLie_147 (by decide) (q := 150) rfl ?_ ?_
      · exact s_sub [] rfl (t_X6_mayLie_154 o f h5_)
      · refine s_iconst o dX6_mayLie_150 (v := (1 : Int32)) (by decide) (q := 151) rfl ?_
        refine s_goto o (tgt := 155) dX6_mayLie_151 (by decide) ?_
        exact s_sub [] rfl (t_X6_mayLie_155 o f (1 : Int32) h5_)
set_option maxRecDepth 20000 in
theorem t_X6_mayLie_122 {X : Cx} (o : Ok X RX6 cX6_mayLie 7 2 50 0 0 (some .boolean)) (f : Nat) {k51 : Nat → Int32 → Int32 → Int32 → Int32 → Int32 → Hp → Option (Int32 × Hp)} (hk51 : ∀ (x0 : Nat) (x1 : Int32) (x2 : Int32) (x3 : Int32) (x4 : Int32) (x5 : Int32) (h : Hp), Sim X (z_Zi X 0 0) 0 0 51 [(0, rf (xG X) x0), (1, .int x1), (2, .int x2), (3, .int x3), (4, .int x4), (5, .int x5)] [] h (k51 x0 x1 x2 x3 x4 x5 h)) (x0 : Nat) (x1 : Int32) (x2 : Int32) (x3 : Int32) (x4 : Int32) (x5 : Int32) (h : Hp) : Sim X (z_Zi X 0 0) 0 0 122 [(0, rf (xG X) x0), (1, .int x1), (2, .int x2), (3, .int x3), (4, .int x4), (5, .int x5)] [] h (b_X6_mayLie_122 f k51 x0 x1 x2 x3 x4 x5 h) := by
  unfold b_X6_mayLie_122
  refine s_iinc o 5 rfl (v := (1 : Int32)) (by decide) [1, 2, 3, 4, 5, 0] (lv' := fun v1_ => [(0, rf (xG X) x0), (1, .int x1), (2, .int x2), (3, .int x3), (4, .int x4), (5, .int v1_)]) (fun _ => rfl) dX6_mayLie_122 (by decide) (q := 125) rfl (fun v1_ => ?_)
  refine s_goto o (tgt := 51) dX6_mayLie_125 (by decide) ?_
  exact s_sub [0, 1, 2, 3, 4, 5] rfl (hk51 x0 x1 x2 x3 x4 v1_ h)
set_option maxRecDepth 20000 in
theorem t_X6_mayLie_121 {X : Cx} (o : Ok X RX6 cX6_mayLie 7 2 50 0 0 (some .boolean)) (f : Nat) {k51 : Nat → Int32 → Int32 → Int32 → Int32 → Int32 → Hp → Option (Int32 × Hp)} (hk51 : ∀ (x0 : Nat) (x1 : Int32) (x2 : Int32) (x3 : Int32) (x4 : Int32) (x5 : Int32) (h : Hp), Sim X (z_Zi X 0 0) 0 0 51 [(0, rf (xG X) x0), (1, .int x1), (2, .int x2), (3, .int x3), (4, .int x4), (5, .int x5)] [] h (k51 x0 x1 x2 x3 x4 x5 h)) (x0 : Nat) (x1 : Int32) (x2 : Int32) (x4 : Int32) (x5 : Int32) (y0 : Int32) (h : Hp) : Sim X (z_Zi X 0 0) 0 0 121 [(0, rf (xG X) x0), (1, .int x1), (2, .int x2), (4, .int x4), (5, .int x5)] [.int y0] h (b_X6_mayLie_121 f k51 x0 x1 x2 x4 x5 y0 h) := by
  unfold b_X6_mayLie_121
  refine s_istore_n o [1, 2, 3, 0, 4, 5] (lv' := [(0, rf (xG X) x0), (1, .int x1), (2, .int x2), (3, .int y0), (4, .int x4), (5, .int x5)]) rfl dX6_mayLie_121 (by decide) (q := 122) rfl ?_
  exact s_sub [0, 1, 2, 3, 4, 5] rfl (t_X6_mayLie_122 o f hk51 x0 x1 x2 y0 x4 x5 h)
set_option maxRecDepth 20000 in
theorem t_X6_mayLie_120 {X : Cx} (o : Ok X RX6 cX6_mayLie 7 2 50 0 0 (some .boolean)) (f : Nat) {k51 : Nat → Int32 → Int32 → Int32 → Int32 → Int32 → Hp → Option (Int32 × Hp)} (hk51 : ∀ (x0 : Nat) (x1 : Int32) (x2 : Int32) (x3 : Int32) (x4 : Int32) (x5 : Int32) (h : Hp), Sim X (z_Zi X 0 0) 0 0 51 [(0, rf (xG X) x0), (1, .int x1), (2, .int x2), (3, .int x3), (4, .int x4), (5, .int x5)] [] h (k51 x0 x1 x2 x3 x4 x5 h)) (x0 : Nat) (x1 : Int32) (x2 : Int32) (x4 : Int32) (x5 : Int32) (h : Hp) : Sim X (z_Zi X 0 0) 0 0 120 [(0, rf (xG X) x0), (1, .int x1), (2, .int x2), (4, .int x4), (5, .int x5)] [] h (b_X6_mayLie_120 f k51 x0 x1 x2 x4 x5 h) := by
  unfold b_X6_mayLie_120
  refine s_iconst o dX6_mayLie_120 (v := (0 : Int32)) (by decide) (q := 121) rfl ?_
  exact s_sub [0, 1, 2, 3, 4] rfl (t_X6_mayLie_121 o f hk51 x0 x1 x2 x4 x5 (0 : Int32) h)
set_option maxRecDepth 20000 in
theorem t_X6_mayLie_116 {X : Cx} (o : Ok X RX6 cX6_mayLie 7 2 50 0 0 (some .boolean)) (f : Nat) {k51 : Nat → Int32 → Int32 → Int32 → Int32 → Int32 → Hp → Option (Int32 × Hp)} (hk51 : ∀ (x0 : Nat) (x1 : Int32) (x2 : Int32) (x3 : Int32) (x4 : Int32) (x5 : Int32) (h : Hp), Sim X (z_Zi X 0 0) 0 0 51 [(0, rf (xG X) x0), (1, .int x1), (2, .int x2), (3, .int x3), (4, .int x4), (5, .int x5)] [] h (k51 x0 x1 x2 x3 x4 x5 h)) (x0 : Nat) (x1 : Int32) (x2 : Int32) (x4 : Int32) (x5 : Int32) (h : Hp) : Sim X (z_Zi X 0 0) 0 0 116 [(0, rf (xG X) x0), (1, .int x1), (2, .int x2), (4, .int x4), (5, .int x5)] [] h (b_X6_mayLie_116 f k51 x0 x1 x2 x4 x5 h) := by
  unfold b_X6_mayLie_116
  refine s_iconst o dX6_mayLie_116 (v := (1 : Int32)) (by decide) (q := 117) rfl ?_
  refine s_goto o (tgt := 121) dX6_mayLie_117 (by decide) ?_
  exact s_sub [0, 1, 2, 3, 4] rfl (t_X6_mayLie_121 o f hk51 x0 x1 x2 x4 x5 (1 : Int32) h)
set_option maxRecDepth 20000 in
theorem t_X6_mayLie_92 {X : Cx} (o : Ok X RX6 cX6_mayLie 7 2 50 0 0 (some .boolean)) (f : Nat) {k51 : Nat → Int32 → Int32 → Int32 → Int32 → Int32 → Hp → Option (Int32 × Hp)} (hk51 : ∀ (x0 : Nat) (x1 : Int32) (x2 : Int32) (x3 : Int32) (x4 : Int32) (x5 : Int32) (h : Hp), Sim X (z_Zi X 0 0) 0 0 51 [(0, rf (xG X) x0), (1, .int x1), (2, .int x2), (3, .int x3), (4, .int x4), (5, .int x5)] [] h (k51 x0 x1 x2 x3 x4 x5 h)) (x0 : Nat) (x1 : Int32) (x2 : Int32) (x5 : Int32) (x6 : Int32) (y0 : Int32) (y1 : Int32) (h : Hp) : Sim X (z_Zi X 0 0) 0 0 92 [(0, rf (xG X) x0), (1, .int x1), (2, .int x2), (5, .int x5), (6, .int x6)] [.int y1, .int y0] h (b_X6_mayLie_92 f k51 x0 x1 x2 x5 x6 y0 y1 h) := by
  unfold b_X6_mayLie_92
  refine s_iadd o dX6_mayLie_92 (q := 93) rfl ?_
  refine s_let (fun v1_ => ?_)
  refine s_istore o [1, 2, 3, 0, 4, 5] (lv' := [(0, rf (xG X) x0), (1, .int x1), (2, .int x2), (4, .int v1_), (5, .int x5), (6, .int x6)]) rfl dX6_mayLie_93 (by decide) (q := 95) rfl ?_
  refine s_iload o 5 rfl dX6_mayLie_95 (q := 97) rfl ?_
  refine s_iconst o dX6_mayLie_97 (v := (1 : Int32)) (by decide) (q := 98) rfl ?_
  refine s_ic_eq o (tgt := 116) dX6_mayLie_98 (by decide) (q := 101) rfl ?_ ?_
  · exact s_sub [0, 1, 2, 3, 4] rfl (t_X6_mayLie_116 o f hk51 x0 x1 x2 v1_ x5 h)
  · refine s_iload o 5 rfl dX6_mayLie_101 (q := 103) rfl ?_
    refine s_if_ne o (tgt := 120) dX6_mayLie_103 (by decide) (q := 106) rfl ?_ ?_
    · exact s_sub [0, 1, 2, 3, 4] rfl (t_X6_mayLie_120 o f hk51 x0 x1 x2 v1_ x5 h)
    · refine s_aload_n o 0 rfl dX6_mayLie_106 (q := 107) rfl ?_
      refine s_iload_n o 1 rfl dX6_mayLie_107 (q := 108) rfl ?_
      refine s_iload o 4 rfl dX6_mayLie_108 (q := 110) rfl ?_
      refine s_on (fun hk2_ => ?_)
      refine s_bi (fun r0 hr0 => runV o hk2_ cv_X6_296 (c_X6_couldBe (xG X) f x0 x1 x5 h (xl X) r0 hr0) ⟨Nat.le_of_ble_eq_true rfl, Nat.le_of_ble_eq_true rfl⟩ rfl rfl (Nat.le_of_ble_eq_true rfl) dX6_mayLie_110 ⟨Nat.le_of_ble_eq_true rfl, Nat.le_of_ble_eq_true rfl⟩) (q := 113) rfl (cs' := 0) rfl (sl' := 0) rfl (fun v4_ h3_ => ?_)
      refine s_if_eq o (tgt := 120) dX6_mayLie_113 (by decide) (q := 116) rfl ?_ ?_
      · exact s_sub [0, 1, 2, 3, 4] rfl (t_X6_mayLie_120 o f hk51 x0 x1 x2 v1_ x5 h3_)
      · exact s_sub [0, 1, 2, 3, 4] rfl (t_X6_mayLie_116 o f hk51 x0 x1 x2 v1_ x5 h3_)
set_option maxRecDepth 20000 in
theorem t_X6_mayLie_51 {X : Cx} (o : Ok X RX6 cX6_mayLie 7 2 50 0 0 (some .boolean)) (f : Nat) {k51 : Nat → Int32 → Int32 → Int32 → Int32 → Int32 → Hp → Option (Int32 × Hp)} (hk51 : ∀ (x0 : Nat) (x1 : Int32) (x2 : Int32) (x3 : Int32) (x4 : Int32) (x5 : Int32) (h : Hp), Sim X (z_Zi X 0 0) 0 0 51 [(0, rf (xG X) x0), (1, .int x1), (2, .int x2), (3, .int x3), (4, .int x4), (5, .int x5)] [] h (k51 x0 x1 x2 x3 x4 x5 h)) (x0 : Nat) (x1 : Int32) (x2 : Int32) (x3 : Int32) (x4 : Int32) (x5 : Int32) (h : Hp) : Sim X (z_Zi X 0 0) 0 0 51 [(0, rf (xG X) x0), (1, .int x1), (2, .int x2), (3, .int x3), (4, .int x4), (5, .int x5)] [] h (b_X6_mayLie_51 f k51 x0 x1 x2 x3 x4 x5 h) := by
  unfold b_X6_mayLie_51
  refine s_iload o 5 rfl dX6_mayLie_51 (q := 53) rfl ?_
  refine s_bipush o dX6_mayLie_53 (v := (6 : Int32)) (by decide) (q := 55) rfl ?_
  refine s_ic_ge o (tgt := 128) dX6_mayLie_55 (by decide) (q := 58) rfl ?_ ?_
  · exact s_sub [0, 1, 2, 3, 4] rfl (t_X6_mayLie_128 o f x0 x1 x2 x3 x4 h)
  · refine s_iload_n o 3 rfl dX6_mayLie_58 (q := 59) rfl ?_
    refine s_if_eq o (tgt := 128) dX6_mayLie_59 (by decide) (q := 62) rfl ?_ ?_
    · exact s_sub [0, 1, 2, 3, 4] rfl (t_X6_mayLie_128 o f x0 x1 x2 x3 x4 h)
    · refine s_iload_n o 2 rfl dX6_mayLie_62 (q := 63) rfl ?_
      refine s_iload o 5 rfl dX6_mayLie_63 (q := 65) rfl ?_
      refine s_bi (fun r0 hr0 => runS o cs_X6_182 (c_X6_has (xG X) f x2 x5 h (xl X) r0 hr0) ⟨Nat.le_of_ble_eq_true rfl, Nat.le_of_ble_eq_true rfl⟩ rfl rfl (Nat.le_of_ble_eq_true rfl) dX6_mayLie_65 ⟨Nat.le_of_ble_eq_true rfl, Nat.le_of_ble_eq_true rfl⟩) (q := 68) rfl (cs' := 0) rfl (sl' := 0) rfl (fun v2_ h1_ => ?_)
      refine s_if_eq o (tgt := 122) dX6_mayLie_68 (by decide) (q := 71) rfl ?_ ?_
      · exact s_sub [0, 1, 2, 3, 4, 5] rfl (t_X6_mayLie_122 o f hk51 x0 x1 x2 x3 x4 x5 h1_)
      · refine s_aload_n o 0 rfl dX6_mayLie_71 (q := 72) rfl ?_
        refine s_iload_n o 1 rfl dX6_mayLie_72 (q := 73) rfl ?_
        refine s_iload o 5 rfl dX6_mayLie_73 (q := 75) rfl ?_
        refine s_on (fun hk3_ => ?_)
        refine s_bi (fun r0 hr0 => runV o hk3_ cv_X6_293 (c_X6_offTimes (xG X) f x0 x1 x5 h1_ (xl X) r0 hr0) ⟨Nat.le_of_ble_eq_true rfl, Nat.le_of_ble_eq_true rfl⟩ rfl rfl (Nat.le_of_ble_eq_true rfl) dX6_mayLie_75 ⟨Nat.le_of_ble_eq_true rfl, Nat.le_of_ble_eq_true rfl⟩) (q := 78) rfl (cs' := 0) rfl (sl' := 0) rfl (fun v5_ h4_ => ?_)
        refine s_istore o [1, 2, 3, 4, 5, 6, 0] (lv' := [(0, rf (xG X) x0), (1, .int x1), (2, .int x2), (3, .int x3), (4, .int x4), (5, .int x5), (6, .int v5_)]) rfl dX6_mayLie_78 (by decide) (q := 80) rfl ?_
        refine s_iload o 4 rfl dX6_mayLie_80 (q := 82) rfl ?_
        refine s_iload o 6 rfl dX6_mayLie_82 (q := 84) rfl ?_
        refine s_if_ne o (tgt := 91) dX6_mayLie_84 (by decide) (q := 87) rfl ?_ ?_
        · refine s_iconst o dX6_mayLie_91 (v := (0 : Int32)) (by decide) (q := 92) rfl ?_
          exact s_sub [0, 1, 2, 5, 6] rfl (t_X6_mayLie_92 o f hk51 x0 x1 x2 x5 v5_ x4 (0 : Int32) h4_)
        · refine s_iconst o dX6_mayLie_87 (v := (1 : Int32)) (by decide) (q := 88) rfl ?_
          refine s_goto o (tgt := 92) dX6_mayLie_88 (by decide) ?_
          exact s_sub [0, 1, 2, 5, 6] rfl (t_X6_mayLie_92 o f hk51 x0 x1 x2 x5 v5_ x4 (1 : Int32) h4_)
theorem tl_X6_mayLie_51 {X : Cx} (o : Ok X RX6 cX6_mayLie 7 2 50 0 0 (some .boolean)) (f : Nat)  : ∀ (n : Nat) (x0 : Nat) (x1 : Int32) (x2 : Int32) (x3 : Int32) (x4 : Int32) (x5 : Int32) (h : Hp), Sim X (z_Zi X 0 0) 0 0 51 [(0, rf (xG X) x0), (1, .int x1), (2, .int x2), (3, .int x3), (4, .int x4), (5, .int x5)] [] h (l_X6_mayLie_51 f n x0 x1 x2 x3 x4 x5 h) := by
  intro n
  induction n with
  | zero => intro x0 x1 x2 x3 x4 x5 h; exact s_none
  | succ n ih => intro x0 x1 x2 x3 x4 x5 h; exact t_X6_mayLie_51 o f  ih x0 x1 x2 x3 x4 x5 h
set_option maxRecDepth 20000 in
theorem t_X6_mayLie_38 {X : Cx} (o : Ok X RX6 cX6_mayLie 7 2 50 0 0 (some .boolean)) (f : Nat) {k11 : Nat → Int32 → Int32 → Int32 → Int32 → Hp → Option (Int32 × Hp)} (hk11 : ∀ (x0 : Nat) (x1 : Int32) (x2 : Int32) (x3 : Int32) (x4 : Int32) (h : Hp), Sim X (z_Zi X 0 0) 0 0 11 [(0, rf (xG X) x0), (1, .int x1), (2, .int x2), (3, .int x3), (4, .int x4)] [] h (k11 x0 x1 x2 x3 x4 h)) (x0 : Nat) (x1 : Int32) (x2 : Int32) (x4 : Int32) (y0 : Int32) (h : Hp) : Sim X (z_Zi X 0 0) 0 0 38 [(0, rf (xG X) x0), (1, .int x1), (2, .int x2), (4, .int x4)] [.int y0] h (b_X6_mayLie_38 f k11 x0 x1 x2 x4 y0 h) := by
  unfold b_X6_mayLie_38
  refine s_istore_n o [1, 2, 3, 0, 4] (lv' := [(0, rf (xG X) x0), (1, .int x1), (2, .int x2), (3, .int y0), (4, .int x4)]) rfl dX6_mayLie_38 (by decide) (q := 39) rfl ?_
  refine s_iinc o 4 rfl (v := (1 : Int32)) (by decide) [1, 2, 3, 4, 0] (lv' := fun v1_ => [(0, rf (xG X) x0), (1, .int x1), (2, .int x2), (3, .int y0), (4, .int v1_)]) (fun _ => rfl) dX6_mayLie_39 (by decide) (q := 42) rfl (fun v1_ => ?_)
  refine s_goto o (tgt := 11) dX6_mayLie_42 (by decide) ?_
  exact s_sub [0, 1, 2, 3, 4] rfl (hk11 x0 x1 x2 y0 v1_ h)
set_option maxRecDepth 20000 in
theorem t_X6_mayLie_37 {X : Cx} (o : Ok X RX6 cX6_mayLie 7 2 50 0 0 (some .boolean)) (f : Nat) {k11 : Nat → Int32 → Int32 → Int32 → Int32 → Hp → Option (Int32 × Hp)} (hk11 : ∀ (x0 : Nat) (x1 : Int32) (x2 : Int32) (x3 : Int32) (x4 : Int32) (h : Hp), Sim X (z_Zi X 0 0) 0 0 11 [(0, rf (xG X) x0), (1, .int x1), (2, .int x2), (3, .int x3), (4, .int x4)] [] h (k11 x0 x1 x2 x3 x4 h)) (x0 : Nat) (x1 : Int32) (x2 : Int32) (x4 : Int32) (h : Hp) : Sim X (z_Zi X 0 0) 0 0 37 [(0, rf (xG X) x0), (1, .int x1), (2, .int x2), (4, .int x4)] [] h (b_X6_mayLie_37 f k11 x0 x1 x2 x4 h) := by
  unfold b_X6_mayLie_37
  refine s_iconst o dX6_mayLie_37 (v := (0 : Int32)) (by decide) (q := 38) rfl ?_
  exact s_sub [0, 1, 2, 3] rfl (t_X6_mayLie_38 o f hk11 x0 x1 x2 x4 (0 : Int32) h)
set_option maxRecDepth 20000 in
theorem t_X6_mayLie_11 {X : Cx} (o : Ok X RX6 cX6_mayLie 7 2 50 0 0 (some .boolean)) (f : Nat) {k11 : Nat → Int32 → Int32 → Int32 → Int32 → Hp → Option (Int32 × Hp)} (hk11 : ∀ (x0 : Nat) (x1 : Int32) (x2 : Int32) (x3 : Int32) (x4 : Int32) (h : Hp), Sim X (z_Zi X 0 0) 0 0 11 [(0, rf (xG X) x0), (1, .int x1), (2, .int x2), (3, .int x3), (4, .int x4)] [] h (k11 x0 x1 x2 x3 x4 h)) (x0 : Nat) (x1 : Int32) (x2 : Int32) (x3 : Int32) (x4 : Int32) (h : Hp) : Sim X (z_Zi X 0 0) 0 0 11 [(0, rf (xG X) x0), (1, .int x1), (2, .int x2), (3, .int x3), (4, .int x4)] [] h (b_X6_mayLie_11 f k11 x0 x1 x2 x3 x4 h) := by
  unfold b_X6_mayLie_11
  refine s_iload o 4 rfl dX6_mayLie_11 (q := 13) rfl ?_
  refine s_aload_n o 0 rfl dX6_mayLie_13 (q := 14) rfl ?_
  refine s_gi o kf_X6_111 dX6_mayLie_14 (q := 17) rfl (fun v1_ => ?_)
  refine s_ic_ge o (tgt := 45) dX6_mayLie_17 (by decide) (q := 20) rfl ?_ ?_
  · refine s_iconst o dX6_mayLie_45 (v := (0 : Int32)) (by decide) (q := 46) rfl ?_
    refine s_istore o [1, 2, 3, 4, 0] (lv' := [(0, rf (xG X) x0), (1, .int x1), (2, .int x2), (3, .int x3), (4, .int (0 : Int32))]) rfl dX6_mayLie_46 (by decide) (q := 48) rfl ?_
    refine s_iconst o dX6_mayLie_48 (v := (0 : Int32)) (by decide) (q := 49) rfl ?_
    refine s_istore o [1, 2, 3, 4, 5, 0] (lv' := [(0, rf (xG X) x0), (1, .int x1), (2, .int x2), (3, .int x3), (4, .int (0 : Int32)), (5, .int (0 : Int32))]) rfl dX6_mayLie_49 (by decide) (q := 51) rfl ?_
    exact s_sub [0, 1, 2, 3, 4, 5] rfl (tl_X6_mayLie_51 o f f x0 x1 x2 x3 (0 : Int32) (0 : Int32) h)
  · refine s_iload_n o 3 rfl dX6_mayLie_20 (q := 21) rfl ?_
    refine s_if_eq o (tgt := 37) dX6_mayLie_21 (by decide) (q := 24) rfl ?_ ?_
    · exact s_sub [0, 1, 2, 4] rfl (t_X6_mayLie_37 o f hk11 x0 x1 x2 x4 h)
    · refine s_aload_n o 0 rfl dX6_mayLie_24 (q := 25) rfl ?_
      refine s_iload o 4 rfl dX6_mayLie_25 (q := 27) rfl ?_
      refine s_on (fun hk2_ => ?_)
      refine s_bi (fun r0 hr0 => runV o hk2_ cv_X6_290 (c_X6_isLeft (xG X) f x0 x4 h (xl X) r0 hr0) ⟨Nat.le_of_ble_eq_true rfl, Nat.le_of_ble_eq_true rfl⟩ rfl rfl (Nat.le_of_ble_eq_true rfl) dX6_mayLie_27 ⟨Nat.le_of_ble_eq_true rfl, Nat.le_of_ble_eq_true rfl⟩) (q := 30) rfl (cs' := 0) rfl (sl' := 0) rfl (fun v4_ h3_ => ?_)
      refine s_if_eq o (tgt := 37) dX6_mayLie_30 (by decide) (q := 33) rfl ?_ ?_
      · exact s_sub [0, 1, 2, 4] rfl (t_X6_mayLie_37 o f hk11 x0 x1 x2 x4 h3_)
      · refine s_iconst o dX6_mayLie_33 (v := (1 : Int32)) (by decide) (q := 34) rfl ?_
        refine s_goto o (tgt := 38) dX6_mayLie_34 (by decide) ?_
        exact s_sub [0, 1, 2, 4] rfl (t_X6_mayLie_38 o f hk11 x0 x1 x2 x4 (1 : Int32) h3_)
theorem tl_X6_mayLie_11 {X : Cx} (o : Ok X RX6 cX6_mayLie 7 2 50 0 0 (some .boolean)) (f : Nat)  : ∀ (n : Nat) (x0 : Nat) (x1 : Int32) (x2 : Int32) (x3 : Int32) (x4 : Int32) (h : Hp), Sim X (z_Zi X 0 0) 0 0 11 [(0, rf (xG X) x0), (1, .int x1), (2, .int x2), (3, .int x3), (4, .int x4)] [] h (l_X6_mayLie_11 f n x0 x1 x2 x3 x4 h) := by
  intro n
  induction n with
  | zero => intro x0 x1 x2 x3 x4 h; exact s_none
  | succ n ih => intro x0 x1 x2 x3 x4 h; exact t_X6_mayLie_11 o f  ih x0 x1 x2 x3 x4 h
set_option maxRecDepth 20000 in
theorem t_X6_mayLie_0 {X : Cx} (o : Ok X RX6 cX6_mayLie 7 2 50 0 0 (some .boolean)) (f : Nat)  (x0 : Nat) (x1 : Int32) (x2 : Int32) (h : Hp) : Sim X (z_Zi X 0 0) 0 0 0 [(0, rf (xG X) x0), (1, .int x1), (2, .int x2)] [] h (f_X6_mayLie f x0 x1 x2 h) := by
  unfold f_X6_mayLie
  refine s_aload_n o 0 rfl dX6_mayLie_0 (q := 1) rfl ?_
  refine s_iload_n o 1 rfl dX6_mayLie_1 (q := 2) rfl ?_
  refine s_iload_n o 2 rfl dX6_mayLie_2 (q := 3) rfl ?_
  refine s_on (fun hk1_ => ?_)
  refine s_callv (fun r0 hr0 => runV o hk1_ cv_X6_286 (c_X6_findLeft (xG X) f x0 x1 x2 h (xl X) r0 hr0) ⟨Nat.le_of_ble_eq_true rfl, Nat.le_of_ble_eq_true rfl⟩ rfl rfl (Nat.le_of_ble_eq_true rfl) dX6_mayLie_3 ⟨Nat.le_of_ble_eq_true rfl, Nat.le_of_ble_eq_true rfl⟩) (q := 6) rfl (cs' := 0) rfl (sl' := 0) rfl (fun h2_ => ?_)
  refine s_iconst o dX6_mayLie_6 (v := (1 : Int32)) (by decide) (q := 7) rfl ?_
  refine s_istore_n o [1, 2, 3, 0] (lv' := [(0, rf (xG X) x0), (1, .int x1), (2, .int x2), (3, .int (1 : Int32))]) rfl dX6_mayLie_7 (by decide) (q := 8) rfl ?_
  refine s_iconst o dX6_mayLie_8 (v := (0 : Int32)) (by decide) (q := 9) rfl ?_
  refine s_istore o [1, 2, 3, 4, 0] (lv' := [(0, rf (xG X) x0), (1, .int x1), (2, .int x2), (3, .int (1 : Int32)), (4, .int (0 : Int32))]) rfl dX6_mayLie_9 (by decide) (q := 11) rfl ?_
  exact s_sub [0, 1, 2, 3, 4] rfl (tl_X6_mayLie_11 o f f x0 x1 x2 (1 : Int32) (0 : Int32) h2_)
theorem c_X6_mayLie (G : Gx) (f : Nat) (x0 : Nat) (x1 : Int32) (x2 : Int32) (h : Hp) : z_M z_qi G yX6_mayLie cX6_mayLie 7 (some .boolean) 2 50 0 0 [rf G x0, .int x1, .int x2] h (f_X6_mayLie f x0 x1 x2 h) :=
  z_met (by decide +kernel) (Nat.le_of_ble_eq_true rfl) (fun X hG hn o hnm => by
    subst hG
    show Sim X (z_Zi X 0 0) 0 0 0 [(0, rf (xG X) x0), (1, .int x1), (2, .int x2)] [] h _
    exact s_sub [0, 1, 2] rfl (t_X6_mayLie_0 o f x0 x1 x2 h))
/-! SixMapsModel.area(III)I -/
def b_X6_area_65 (f : Nat)   (h : Hp) : Option (Int32 × Hp) :=
  some ((-1000003 : Int32), h)
def b_X6_area_35 (f : Nat)   (h : Hp) : Option (Int32 × Hp) :=
  some ((-1000002 : Int32), h)
def f_X6_area (f : Nat)  (x0 : Nat) (x1 : Int32) (x2 : Int32) (x3 : Int32) (h : Hp) : Option (Int32 × Hp) :=
  bi (f_X6_isBand f x1 h) fun v2_ h1_ =>
  if ¬ v2_ = 0 then
  (bi (f_X6_in f x2.toInt64 (0 : Int64) (63 : Int64) h1_) fun v4_ h3_ =>
  if v4_ = 0 then
  (b_X6_area_35 f h3_)
  else
  (bi (f_X6_in f x3.toInt64 (0 : Int64) (3 : Int64) h3_) fun v6_ h5_ =>
  if ¬ v6_ = 0 then
  ((q_gi h5_ x0 6 0).bind fun v7_ =>
  if v7_ = 0 then
  (b_X6_area_65 f h5_)
  else
  (bi (f_X6_bits f x2 h5_) fun v9_ h8_ =>
  (q_gi h8_ x0 6 5).bind fun v10_ =>
  if ¬ v9_ = v10_ then
  (b_X6_area_65 f h8_)
  else
  (q_on h8_ x0 6 (
  bi (f_X6_mayLie f x0 x1 x2 h8_) fun v13_ h12_ =>
  if ¬ v13_ = 0 then
  (q_on h12_ x0 6 (
  (f_X6_findArea f x0 h12_).bind fun h15_ =>
  (q_gr h15_ x0 6 43).bind fun a16_ =>
  (q_ai h15_ a16_ 9 x3).bind fun v17_ =>
  some (v17_, h15_)))
  else
  (b_X6_area_65 f h12_)))))
  else
  (b_X6_area_35 f h5_)))
  else
  (some ((-1000001 : Int32), h1_))
set_option maxRecDepth 20000 in
theorem t_X6_area_65 {X : Cx} (o : Ok X RX6 cX6_area 4 3 76 0 0 (some .int)) (f : Nat)   (h : Hp) : Sim X (z_Zi X 0 0) 0 0 65 [] [] h (b_X6_area_65 f h) := by
  unfold b_X6_area_65
  refine s_ldcw o kc_X6_317 dX6_area_65 (q := 68) rfl ?_
  exact s_iret o dX6_area_68
set_option maxRecDepth 20000 in
theorem t_X6_area_35 {X : Cx} (o : Ok X RX6 cX6_area 4 3 76 0 0 (some .int)) (f : Nat)   (h : Hp) : Sim X (z_Zi X 0 0) 0 0 35 [] [] h (b_X6_area_35 f h) := by
  unfold b_X6_area_35
  refine s_ldc o kc_X6_125 dX6_area_35 (q := 37) rfl ?_
  exact s_iret o dX6_area_37
set_option maxRecDepth 20000 in
theorem t_X6_area_0 {X : Cx} (o : Ok X RX6 cX6_area 4 3 76 0 0 (some .int)) (f : Nat)  (x0 : Nat) (x1 : Int32) (x2 : Int32) (x3 : Int32) (h : Hp) : Sim X (z_Zi X 0 0) 0 0 0 [(0, rf (xG X) x0), (1, .int x1), (2, .int x2), (3, .int x3)] [] h (f_X6_area f x0 x1 x2 x3 h) := by
  unfold f_X6_area
  refine s_iload_n o 1 rfl dX6_area_0 (q := 1) rfl ?_
  refine s_bi (fun r0 hr0 => runS o cs_X6_267 (c_X6_isBand (xG X) f x1 h (xl X) r0 hr0) ⟨Nat.le_of_ble_eq_true rfl, Nat.le_of_ble_eq_true rfl⟩ rfl rfl (Nat.le_of_ble_eq_true rfl) dX6_area_1 ⟨Nat.le_of_ble_eq_true rfl, Nat.le_of_ble_eq_true rfl⟩) (q := 4) rfl (cs' := 0) rfl (sl' := 0) rfl (fun v2_ h1_ => ?_)
  refine s_if_ne o (tgt := 11) dX6_area_4 (by decide) (q := 7) rfl ?_ ?_
  · refine s_iload_n o 2 rfl dX6_area_11 (q := 12) rfl ?_
    refine s_i2l o dX6_area_12 (q := 13) rfl ?_
    refine s_lconst o dX6_area_13 (v := (0 : Int64)) (by decide) (q := 14) rfl ?_
    refine s_ldc2 o kl_X6_333 dX6_area_14 (q := 17) rfl ?_
    refine s_bi (fun r0 hr0 => runS o cs_X6_114 (c_X6_in (xG X) f x2.toInt64 (0 : Int64) (63 : Int64) h1_ (xl X) r0 hr0) ⟨Nat.le_of_ble_eq_true rfl, Nat.le_of_ble_eq_true rfl⟩ rfl rfl (Nat.le_of_ble_eq_true rfl) dX6_area_17 ⟨Nat.le_of_ble_eq_true rfl, Nat.le_of_ble_eq_true rfl⟩) (q := 20) rfl (cs' := 0) rfl (sl' := 0) rfl (fun v4_ h3_ => ?_)
    refine s_if_eq o (tgt := 35) dX6_area_20 (by decide) (q := 23) rfl ?_ ?_
    · exact s_sub [] rfl (t_X6_area_35 o f h3_)
    · refine s_iload_n o 3 rfl dX6_area_23 (q := 24) rfl ?_
      refine s_i2l o dX6_area_24 (q := 25) rfl ?_
      refine s_lconst o dX6_area_25 (v := (0 : Int64)) (by decide) (q := 26) rfl ?_
      refine s_ldc2 o kl_X6_315 dX6_area_26 (q := 29) rfl ?_
      refine s_bi (fun r0 hr0 => runS o cs_X6_114 (c_X6_in (xG X) f x3.toInt64 (0 : Int64) (3 : Int64) h3_ (xl X) r0 hr0) ⟨Nat.le_of_ble_eq_true rfl, Nat.le_of_ble_eq_true rfl⟩ rfl rfl (Nat.le_of_ble_eq_true rfl) dX6_area_29 ⟨Nat.le_of_ble_eq_true rfl, Nat.le_of_ble_eq_true rfl⟩) (q := 32) rfl (cs' := 0) rfl (sl' := 0) rfl (fun v6_ h5_ => ?_)
      refine s_if_ne o (tgt := 38) dX6_area_32 (by decide) (q := 35) rfl ?_ ?_
      · refine s_aload_n o 0 rfl dX6_area_38 (q := 39) rfl ?_
        refine s_gi o kf_X6_111 dX6_area_39 (q := 42) rfl (fun v7_ => ?_)
        refine s_if_eq o (tgt := 65) dX6_area_42 (by decide) (q := 45) rfl ?_ ?_
        · exact s_sub [] rfl (t_X6_area_65 o f h5_)
        · refine s_iload_n o 2 rfl dX6_area_45 (q := 46) rfl ?_
          refine s_bi (fun r0 hr0 => runS o cs_X6_306 (c_X6_bits (xG X) f x2 h5_ (xl X) r0 hr0) ⟨Nat.le_of_ble_eq_true rfl, Nat.le_of_ble_eq_true rfl⟩ rfl rfl (Nat.le_of_ble_eq_true rfl) dX6_area_46 ⟨Nat.le_of_ble_eq_true rfl, Nat.le_of_ble_eq_true rfl⟩) (q := 49) rfl (cs' := 0) rfl (sl' := 0) rfl (fun v9_ h8_ => ?_)
          refine s_aload_n o 0 rfl dX6_area_49 (q := 50) rfl ?_
          refine s_gi o kf_X6_250 dX6_area_50 (q := 53) rfl (fun v10_ => ?_)
          refine s_ic_ne o (tgt := 65) dX6_area_53 (by decide) (q := 56) rfl ?_ ?_
          · exact s_sub [] rfl (t_X6_area_65 o f h8_)
          · refine s_aload_n o 0 rfl dX6_area_56 (q := 57) rfl ?_
            refine s_iload_n o 1 rfl dX6_area_57 (q := 58) rfl ?_
            refine s_iload_n o 2 rfl dX6_area_58 (q := 59) rfl ?_
            refine s_on (fun hk11_ => ?_)
            refine s_bi (fun r0 hr0 => runV o hk11_ cv_X6_309 (c_X6_mayLie (xG X) f x0 x1 x2 h8_ (xl X) r0 hr0) ⟨Nat.le_of_ble_eq_true rfl, Nat.le_of_ble_eq_true rfl⟩ rfl rfl (Nat.le_of_ble_eq_true rfl) dX6_area_59 ⟨Nat.le_of_ble_eq_true rfl, Nat.le_of_ble_eq_true rfl⟩) (q := 62) rfl (cs' := 0) rfl (sl' := 0) rfl (fun v13_ h12_ => ?_)
            refine s_if_ne o (tgt := 69) dX6_area_62 (by decide) (q := 65) rfl ?_ ?_
            · refine s_aload_n o 0 rfl dX6_area_69 (q := 70) rfl ?_
              refine s_on (fun hk14_ => ?_)
              refine s_callv (fun r0 hr0 => runV o hk14_ cv_X6_318 (c_X6_findArea (xG X) f x0 h12_ (xl X) r0 hr0) ⟨Nat.le_of_ble_eq_true rfl, Nat.le_of_ble_eq_true rfl⟩ rfl rfl (Nat.le_of_ble_eq_true rfl) dX6_area_70 ⟨Nat.le_of_ble_eq_true rfl, Nat.le_of_ble_eq_true rfl⟩) (q := 73) rfl (cs' := 0) rfl (sl' := 0) rfl (fun h15_ => ?_)
              refine s_aload_n o 0 rfl dX6_area_73 (q := 74) rfl ?_
              refine s_gr o kf_X6_78 dX6_area_74 (q := 77) rfl (fun a16_ => ?_)
              refine s_iload_n o 3 rfl dX6_area_77 (q := 78) rfl ?_
              refine s_iald o dX6_area_78 (q := 79) rfl (fun v17_ => ?_)
              exact s_iret o dX6_area_79
            · exact s_sub [] rfl (t_X6_area_65 o f h12_)
      · exact s_sub [] rfl (t_X6_area_35 o f h5_)
  · refine s_ldcw o kc_X6_266 dX6_area_7 (q := 10) rfl ?_
    exact s_iret o dX6_area_10
theorem c_X6_area (G : Gx) (f : Nat) (x0 : Nat) (x1 : Int32) (x2 : Int32) (x3 : Int32) (h : Hp) : z_M z_qi G yX6_area cX6_area 4 (some .int) 3 76 0 0 [rf G x0, .int x1, .int x2, .int x3] h (f_X6_area f x0 x1 x2 x3 h) :=
  z_met (by decide +kernel) (Nat.le_of_ble_eq_true rfl) (fun X hG hn o hnm => by
    subst hG
    show Sim X (z_Zi X 0 0) 0 0 0 [(0, rf (xG X) x0), (1, .int x1), (2, .int x2), (3, .int x3)] [] h _
    exact s_sub [0, 1, 2, 3] rfl (t_X6_area_0 o f x0 x1 x2 x3 h))
/-! SixMapsModel.bestPlace()I -/
def b_X6_bestPlace_134 (f : Nat) (k4 : Nat → Int32 → Int32 → Hp → Option (Int32 × Hp)) (x0 : Nat) (x2 : Int32) (y0 : Int32) (h : Hp) : Option (Int32 × Hp) :=
  lt (x2 + (1 : Int32)) fun v1_ =>
  k4 x0 y0 v1_ h
def b_X6_bestPlace_129 (f : Nat) (k4 : Nat → Int32 → Int32 → Hp → Option (Int32 × Hp)) (x0 : Nat) (x2 : Int32) (h : Hp) : Option (Int32 × Hp) :=
  b_X6_bestPlace_134 f k4 x0 x2 x2 h
def b_X6_bestPlace_118 (f : Nat) (k4 : Nat → Int32 → Int32 → Hp → Option (Int32 × Hp)) (x0 : Nat) (x1 : Int32) (x2 : Int32) (x3 : Int32) (y0 : Int32) (h : Hp) : Option (Int32 × Hp) :=
  if ¬ x3 = 0 then
  (b_X6_bestPlace_129 f k4 x0 x2 h)
  else
  (if y0 = 0 then
  (b_X6_bestPlace_134 f k4 x0 x2 x1 h)
  else
  (b_X6_bestPlace_129 f k4 x0 x2 h))
def b_X6_bestPlace_117 (f : Nat) (k4 : Nat → Int32 → Int32 → Hp → Option (Int32 × Hp)) (x0 : Nat) (x1 : Int32) (x2 : Int32) (x3 : Int32) (h : Hp) : Option (Int32 × Hp) :=
  b_X6_bestPlace_118 f k4 x0 x1 x2 x3 (0 : Int32) h
def b_X6_bestPlace_113 (f : Nat) (k4 : Nat → Int32 → Int32 → Hp → Option (Int32 × Hp)) (x0 : Nat) (x1 : Int32) (x2 : Int32) (x3 : Int32) (h : Hp) : Option (Int32 × Hp) :=
  b_X6_bestPlace_118 f k4 x0 x1 x2 x3 (1 : Int32) h
def b_X6_bestPlace_61 (f : Nat) (k4 : Nat → Int32 → Int32 → Hp → Option (Int32 × Hp)) (x0 : Nat) (x1 : Int32) (x2 : Int32) (x3 : Int32) (y0 : Int32) (h : Hp) : Option (Int32 × Hp) :=
  if y0 = 0 then
  (b_X6_bestPlace_117 f k4 x0 x1 x2 x3 h)
  else
  ((q_gr h x0 6 46).bind fun a1_ =>
  (q_ai h a1_ 9 x2).bind fun v2_ =>
  (q_gr h x0 6 46).bind fun a3_ =>
  (q_ai h a3_ 9 x1).bind fun v4_ =>
  if v2_ < v4_ then
  (b_X6_bestPlace_113 f k4 x0 x1 x2 x3 h)
  else
  ((q_gr h x0 6 46).bind fun a5_ =>
  (q_ai h a5_ 9 x2).bind fun v6_ =>
  (q_gr h x0 6 46).bind fun a7_ =>
  (q_ai h a7_ 9 x1).bind fun v8_ =>
  if ¬ v6_ = v8_ then
  (b_X6_bestPlace_117 f k4 x0 x1 x2 x3 h)
  else
  ((q_gr h x0 6 47).bind fun a9_ =>
  (q_ai h a9_ 9 x2).bind fun v10_ =>
  (q_gr h x0 6 47).bind fun a11_ =>
  (q_ai h a11_ 9 x1).bind fun v12_ =>
  if v12_ ≤ v10_ then
  (b_X6_bestPlace_117 f k4 x0 x1 x2 x3 h)
  else
  (b_X6_bestPlace_113 f k4 x0 x1 x2 x3 h))))
def b_X6_bestPlace_60 (f : Nat) (k4 : Nat → Int32 → Int32 → Hp → Option (Int32 × Hp)) (x0 : Nat) (x1 : Int32) (x2 : Int32) (x3 : Int32) (h : Hp) : Option (Int32 × Hp) :=
  b_X6_bestPlace_61 f k4 x0 x1 x2 x3 (0 : Int32) h
def b_X6_bestPlace_36 (f : Nat) (k4 : Nat → Int32 → Int32 → Hp → Option (Int32 × Hp)) (x0 : Nat) (x1 : Int32) (x2 : Int32) (y0 : Int32) (h : Hp) : Option (Int32 × Hp) :=
  if x1 < 0 then
  (b_X6_bestPlace_60 f k4 x0 x1 x2 y0 h)
  else
  ((q_gr h x0 6 48).bind fun a1_ =>
  (q_ai h a1_ 9 x2).bind fun v2_ =>
  (q_gr h x0 6 48).bind fun a3_ =>
  (q_ai h a3_ 9 x1).bind fun v4_ =>
  if ¬ v2_ = v4_ then
  (b_X6_bestPlace_60 f k4 x0 x1 x2 y0 h)
  else
  (b_X6_bestPlace_61 f k4 x0 x1 x2 y0 (1 : Int32) h))
def b_X6_bestPlace_31 (f : Nat) (k4 : Nat → Int32 → Int32 → Hp → Option (Int32 × Hp)) (x0 : Nat) (x1 : Int32) (x2 : Int32) (h : Hp) : Option (Int32 × Hp) :=
  b_X6_bestPlace_36 f k4 x0 x1 x2 (1 : Int32) h
def b_X6_bestPlace_4 (f : Nat) (k4 : Nat → Int32 → Int32 → Hp → Option (Int32 × Hp)) (x0 : Nat) (x1 : Int32) (x2 : Int32) (h : Hp) : Option (Int32 × Hp) :=
  (q_gi h x0 6 44).bind fun v1_ =>
  if v1_ ≤ x2 then
  (some (x1, h))
  else
  (if x1 < 0 then
  (b_X6_bestPlace_31 f k4 x0 x1 x2 h)
  else
  ((q_gr h x0 6 48).bind fun a2_ =>
  (q_ai h a2_ 9 x2).bind fun v3_ =>
  (q_gr h x0 6 48).bind fun a4_ =>
  (q_ai h a4_ 9 x1).bind fun v5_ =>
  if v3_ ≤ v5_ then
  (b_X6_bestPlace_36 f k4 x0 x1 x2 (0 : Int32) h)
  else
  (b_X6_bestPlace_31 f k4 x0 x1 x2 h)))
def l_X6_bestPlace_4 (f : Nat)  : Nat → Nat → Int32 → Int32 → Hp → Option (Int32 × Hp)
  | 0, _, _, _, _ => none
  | n + 1, x0, x1, x2, h => b_X6_bestPlace_4 f  (l_X6_bestPlace_4 f  n) x0 x1 x2 h
def f_X6_bestPlace (f : Nat)  (x0 : Nat) (h : Hp) : Option (Int32 × Hp) :=
  l_X6_bestPlace_4 f f x0 (-1 : Int32) (0 : Int32) h
set_option maxRecDepth 20000 in
theorem t_X6_bestPlace_134 {X : Cx} (o : Ok X RX6 cX6_bestPlace 6 0 0 0 0 (some .int)) (f : Nat) {k4 : Nat → Int32 → Int32 → Hp → Option (Int32 × Hp)} (hk4 : ∀ (x0 : Nat) (x1 : Int32) (x2 : Int32) (h : Hp), Sim X (z_Zi X 0 0) 0 0 4 [(0, rf (xG X) x0), (1, .int x1), (2, .int x2)] [] h (k4 x0 x1 x2 h)) (x0 : Nat) (x2 : Int32) (y0 : Int32) (h : Hp) : Sim X (z_Zi X 0 0) 0 0 134 [(0, rf (xG X) x0), (2, .int x2)] [.int y0] h (b_X6_bestPlace_134 f k4 x0 x2 y0 h) := by
  unfold b_X6_bestPlace_134
  refine s_istore_n o [1, 0, 2] (lv' := [(0, rf (xG X) x0), (1, .int y0), (2, .int x2)]) rfl dX6_bestPlace_134 (by decide) (q := 135) rfl ?_
  refine s_iinc o 2 rfl (v := (1 : Int32)) (by decide) [1, 2, 0] (lv' := fun v1_ => [(0, rf (xG X) x0), (1, .int y0), (2, .int v1_)]) (fun _ => rfl) dX6_bestPlace_135 (by decide) (q := 138) rfl (fun v1_ => ?_)
  refine s_goto o (tgt := 4) dX6_bestPlace_138 (by decide) ?_
  exact s_sub [0, 1, 2] rfl (hk4 x0 y0 v1_ h)
set_option maxRecDepth 20000 in
theorem t_X6_bestPlace_129 {X : Cx} (o : Ok X RX6 cX6_bestPlace 6 0 0 0 0 (some .int)) (f : Nat) {k4 : Nat → Int32 → Int32 → Hp → Option (Int32 × Hp)} (hk4 : ∀ (x0 : Nat) (x1 : Int32) (x2 : Int32) (h : Hp), Sim X (z_Zi X 0 0) 0 0 4 [(0, rf (xG X) x0), (1, .int x1), (2, .int x2)] [] h (k4 x0 x1 x2 h)) (x0 : Nat) (x2 : Int32) (h : Hp) : Sim X (z_Zi X 0 0) 0 0 129 [(0, rf (xG X) x0), (2, .int x2)] [] h (b_X6_bestPlace_129 f k4 x0 x2 h) := by
  unfold b_X6_bestPlace_129
  refine s_iload_n o 1 rfl dX6_bestPlace_129 (q := 130) rfl ?_
  refine s_goto o (tgt := 134) dX6_bestPlace_130 (by decide) ?_
  exact s_sub [0, 1] rfl (t_X6_bestPlace_134 o f hk4 x0 x2 x2 h)
set_option maxRecDepth 20000 in
theorem t_X6_bestPlace_118 {X : Cx} (o : Ok X RX6 cX6_bestPlace 6 0 0 0 0 (some .int)) (f : Nat) {k4 : Nat → Int32 → Int32 → Hp → Option (Int32 × Hp)} (hk4 : ∀ (x0 : Nat) (x1 : Int32) (x2 : Int32) (h : Hp), Sim X (z_Zi X 0 0) 0 0 4 [(0, rf (xG X) x0), (1, .int x1), (2, .int x2)] [] h (k4 x0 x1 x2 h)) (x0 : Nat) (x1 : Int32) (x2 : Int32) (x3 : Int32) (y0 : Int32) (h : Hp) : Sim X (z_Zi X 0 0) 0 0 118 [(0, rf (xG X) x0), (1, .int x1), (2, .int x2), (3, .int x3)] [.int y0] h (b_X6_bestPlace_118 f k4 x0 x1 x2 x3 y0 h) := by
  unfold b_X6_bestPlace_118
  refine s_istore o [1, 2, 3, 4, 0] (lv' := [(0, rf (xG X) x0), (1, .int x1), (2, .int x2), (3, .int x3), (5, .int y0)]) rfl dX6_bestPlace_118 (by decide) (q := 120) rfl ?_
  refine s_iload_n o 3 rfl dX6_bestPlace_120 (q := 121) rfl ?_
  refine s_if_ne o (tgt := 129) dX6_bestPlace_121 (by decide) (q := 124) rfl ?_ ?_
  · exact s_sub [0, 2] rfl (t_X6_bestPlace_129 o f hk4 x0 x2 h)
  · refine s_iload o 4 rfl dX6_bestPlace_124 (q := 126) rfl ?_
    refine s_if_eq o (tgt := 133) dX6_bestPlace_126 (by decide) (q := 129) rfl ?_ ?_
    · refine s_iload_n o 1 rfl dX6_bestPlace_133 (q := 134) rfl ?_
      exact s_sub [0, 2] rfl (t_X6_bestPlace_134 o f hk4 x0 x2 x1 h)
    · exact s_sub [0, 2] rfl (t_X6_bestPlace_129 o f hk4 x0 x2 h)
set_option maxRecDepth 20000 in
theorem t_X6_bestPlace_117 {X : Cx} (o : Ok X RX6 cX6_bestPlace 6 0 0 0 0 (some .int)) (f : Nat) {k4 : Nat → Int32 → Int32 → Hp → Option (Int32 × Hp)} (hk4 : ∀ (x0 : Nat) (x1 : Int32) (x2 : Int32) (h : Hp), Sim X (z_Zi X 0 0) 0 0 4 [(0, rf (xG X) x0), (1, .int x1), (2, .int x2)] [] h (k4 x0 x1 x2 h)) (x0 : Nat) (x1 : Int32) (x2 : Int32) (x3 : Int32) (h : Hp) : Sim X (z_Zi X 0 0) 0 0 117 [(0, rf (xG X) x0), (1, .int x1), (2, .int x2), (3, .int x3)] [] h (b_X6_bestPlace_117 f k4 x0 x1 x2 x3 h) := by
  unfold b_X6_bestPlace_117
  refine s_iconst o dX6_bestPlace_117 (v := (0 : Int32)) (by decide) (q := 118) rfl ?_
  exact s_sub [0, 1, 2, 3] rfl (t_X6_bestPlace_118 o f hk4 x0 x1 x2 x3 (0 : Int32) h)
set_option maxRecDepth 20000 in
theorem t_X6_bestPlace_113 {X : Cx} (o : Ok X RX6 cX6_bestPlace 6 0 0 0 0 (some .int)) (f : Nat) {k4 : Nat → Int32 → Int32 → Hp → Option (Int32 × Hp)} (hk4 : ∀ (x0 : Nat) (x1 : Int32) (x2 : Int32) (h : Hp), Sim X (z_Zi X 0 0) 0 0 4 [(0, rf (xG X) x0), (1, .int x1), (2, .int x2)] [] h (k4 x0 x1 x2 h)) (x0 : Nat) (x1 : Int32) (x2 : Int32) (x3 : Int32) (h : Hp) : Sim X (z_Zi X 0 0) 0 0 113 [(0, rf (xG X) x0), (1, .int x1), (2, .int x2), (3, .int x3)] [] h (b_X6_bestPlace_113 f k4 x0 x1 x2 x3 h) := by
  unfold b_X6_bestPlace_113
  refine s_iconst o dX6_bestPlace_113 (v := (1 : Int32)) (by decide) (q := 114) rfl ?_
  refine s_goto o (tgt := 118) dX6_bestPlace_114 (by decide) ?_
  exact s_sub [0, 1, 2, 3] rfl (t_X6_bestPlace_118 o f hk4 x0 x1 x2 x3 (1 : Int32) h)
set_option maxRecDepth 20000 in
theorem t_X6_bestPlace_61 {X : Cx} (o : Ok X RX6 cX6_bestPlace 6 0 0 0 0 (some .int)) (f : Nat) {k4 : Nat → Int32 → Int32 → Hp → Option (Int32 × Hp)} (hk4 : ∀ (x0 : Nat) (x1 : Int32) (x2 : Int32) (h : Hp), Sim X (z_Zi X 0 0) 0 0 4 [(0, rf (xG X) x0), (1, .int x1), (2, .int x2)] [] h (k4 x0 x1 x2 h)) (x0 : Nat) (x1 : Int32) (x2 : Int32) (x3 : Int32) (y0 : Int32) (h : Hp) : Sim X (z_Zi X 0 0) 0 0 61 [(0, rf (xG X) x0), (1, .int x1), (2, .int x2), (3, .int x3)] [.int y0] h (b_X6_bestPlace_61 f k4 x0 x1 x2 x3 y0 h) := by
  unfold b_X6_bestPlace_61
  refine s_istore o [1, 2, 3, 4, 0] (lv' := [(0, rf (xG X) x0), (1, .int x1), (2, .int x2), (3, .int x3), (4, .int y0)]) rfl dX6_bestPlace_61 (by decide) (q := 63) rfl ?_
  refine s_iload o 4 rfl dX6_bestPlace_63 (q := 65) rfl ?_
  refine s_if_eq o (tgt := 117) dX6_bestPlace_65 (by decide) (q := 68) rfl ?_ ?_
  · exact s_sub [0, 1, 2, 3] rfl (t_X6_bestPlace_117 o f hk4 x0 x1 x2 x3 h)
  · refine s_aload_n o 0 rfl dX6_bestPlace_68 (q := 69) rfl ?_
    refine s_gr o kf_X6_81 dX6_bestPlace_69 (q := 72) rfl (fun a1_ => ?_)
    refine s_iload_n o 2 rfl dX6_bestPlace_72 (q := 73) rfl ?_
    refine s_iald o dX6_bestPlace_73 (q := 74) rfl (fun v2_ => ?_)
    refine s_aload_n o 0 rfl dX6_bestPlace_74 (q := 75) rfl ?_
    refine s_gr o kf_X6_81 dX6_bestPlace_75 (q := 78) rfl (fun a3_ => ?_)
    refine s_iload_n o 1 rfl dX6_bestPlace_78 (q := 79) rfl ?_
    refine s_iald o dX6_bestPlace_79 (q := 80) rfl (fun v4_ => ?_)
    refine s_ic_lt o (tgt := 113) dX6_bestPlace_80 (by decide) (q := 83) rfl ?_ ?_
    · exact s_sub [0, 1, 2, 3] rfl (t_X6_bestPlace_113 o f hk4 x0 x1 x2 x3 h)
    · refine s_aload_n o 0 rfl dX6_bestPlace_83 (q := 84) rfl ?_
      refine s_gr o kf_X6_81 dX6_bestPlace_84 (q := 87) rfl (fun a5_ => ?_)
      refine s_iload_n o 2 rfl dX6_bestPlace_87 (q := 88) rfl ?_
      refine s_iald o dX6_bestPlace_88 (q := 89) rfl (fun v6_ => ?_)
      refine s_aload_n o 0 rfl dX6_bestPlace_89 (q := 90) rfl ?_
      refine s_gr o kf_X6_81 dX6_bestPlace_90 (q := 93) rfl (fun a7_ => ?_)
      refine s_iload_n o 1 rfl dX6_bestPlace_93 (q := 94) rfl ?_
      refine s_iald o dX6_bestPlace_94 (q := 95) rfl (fun v8_ => ?_)
      refine s_ic_ne o (tgt := 117) dX6_bestPlace_95 (by decide) (q := 98) rfl ?_ ?_
      · exact s_sub [0, 1, 2, 3] rfl (t_X6_bestPlace_117 o f hk4 x0 x1 x2 x3 h)
      · refine s_aload_n o 0 rfl dX6_bestPlace_98 (q := 99) rfl ?_
        refine s_gr o kf_X6_84 dX6_bestPlace_99 (q := 102) rfl (fun a9_ => ?_)
        refine s_iload_n o 2 rfl dX6_bestPlace_102 (q := 103) rfl ?_
        refine s_iald o dX6_bestPlace_103 (q := 104) rfl (fun v10_ => ?_)
        refine s_aload_n o 0 rfl dX6_bestPlace_104 (q := 105) rfl ?_
        refine s_gr o kf_X6_84 dX6_bestPlace_105 (q := 108) rfl (fun a11_ => ?_)
        refine s_iload_n o 1 rfl dX6_bestPlace_108 (q := 109) rfl ?_
        refine s_iald o dX6_bestPlace_109 (q := 110) rfl (fun v12_ => ?_)
        refine s_ic_ge o (tgt := 117) dX6_bestPlace_110 (by decide) (q := 113) rfl ?_ ?_
        · exact s_sub [0, 1, 2, 3] rfl (t_X6_bestPlace_117 o f hk4 x0 x1 x2 x3 h)
        · exact s_sub [0, 1, 2, 3] rfl (t_X6_bestPlace_113 o f hk4 x0 x1 x2 x3 h)
set_option maxRecDepth 20000 in
theorem t_X6_bestPlace_60 {X : Cx} (o : Ok X RX6 cX6_bestPlace 6 0 0 0 0 (some .int)) (f : Nat) {k4 : Nat → Int32 → Int32 → Hp → Option (Int32 × Hp)} (hk4 : ∀ (x0 : Nat) (x1 : Int32) (x2 : Int32) (h : Hp), Sim X (z_Zi X 0 0) 0 0 4 [(0, rf (xG X) x0), (1, .int x1), (2, .int x2)] [] h (k4 x0 x1 x2 h)) (x0 : Nat) (x1 : Int32) (x2 : Int32) (x3 : Int32) (h : Hp) : Sim X (z_Zi X 0 0) 0 0 60 [(0, rf (xG X) x0), (1, .int x1), (2, .int x2), (3, .int x3)] [] h (b_X6_bestPlace_60 f k4 x0 x1 x2 x3 h) := by
  unfold b_X6_bestPlace_60
  refine s_iconst o dX6_bestPlace_60 (v := (0 : Int32)) (by decide) (q := 61) rfl ?_
  exact s_sub [0, 1, 2, 3] rfl (t_X6_bestPlace_61 o f hk4 x0 x1 x2 x3 (0 : Int32) h)
set_option maxRecDepth 20000 in
theorem t_X6_bestPlace_36 {X : Cx} (o : Ok X RX6 cX6_bestPlace 6 0 0 0 0 (some .int)) (f : Nat) {k4 : Nat → Int32 → Int32 → Hp → Option (Int32 × Hp)} (hk4 : ∀ (x0 : Nat) (x1 : Int32) (x2 : Int32) (h : Hp), Sim X (z_Zi X 0 0) 0 0 4 [(0, rf (xG X) x0), (1, .int x1), (2, .int x2)] [] h (k4 x0 x1 x2 h)) (x0 : Nat) (x1 : Int32) (x2 : Int32) (y0 : Int32) (h : Hp) : Sim X (z_Zi X 0 0) 0 0 36 [(0, rf (xG X) x0), (1, .int x1), (2, .int x2)] [.int y0] h (b_X6_bestPlace_36 f k4 x0 x1 x2 y0 h) := by
  unfold b_X6_bestPlace_36
  refine s_istore_n o [1, 2, 3, 0] (lv' := [(0, rf (xG X) x0), (1, .int x1), (2, .int x2), (3, .int y0)]) rfl dX6_bestPlace_36 (by decide) (q := 37) rfl ?_
  refine s_iload_n o 1 rfl dX6_bestPlace_37 (q := 38) rfl ?_
  refine s_if_lt o (tgt := 60) dX6_bestPlace_38 (by decide) (q := 41) rfl ?_ ?_
  · exact s_sub [0, 1, 2, 3] rfl (t_X6_bestPlace_60 o f hk4 x0 x1 x2 y0 h)
  · refine s_aload_n o 0 rfl dX6_bestPlace_41 (q := 42) rfl ?_
    refine s_gr o kf_X6_87 dX6_bestPlace_42 (q := 45) rfl (fun a1_ => ?_)
    refine s_iload_n o 2 rfl dX6_bestPlace_45 (q := 46) rfl ?_
    refine s_iald o dX6_bestPlace_46 (q := 47) rfl (fun v2_ => ?_)
    refine s_aload_n o 0 rfl dX6_bestPlace_47 (q := 48) rfl ?_
    refine s_gr o kf_X6_87 dX6_bestPlace_48 (q := 51) rfl (fun a3_ => ?_)
    refine s_iload_n o 1 rfl dX6_bestPlace_51 (q := 52) rfl ?_
    refine s_iald o dX6_bestPlace_52 (q := 53) rfl (fun v4_ => ?_)
    refine s_ic_ne o (tgt := 60) dX6_bestPlace_53 (by decide) (q := 56) rfl ?_ ?_
    · exact s_sub [0, 1, 2, 3] rfl (t_X6_bestPlace_60 o f hk4 x0 x1 x2 y0 h)
    · refine s_iconst o dX6_bestPlace_56 (v := (1 : Int32)) (by decide) (q := 57) rfl ?_
      refine s_goto o (tgt := 61) dX6_bestPlace_57 (by decide) ?_
      exact s_sub [0, 1, 2, 3] rfl (t_X6_bestPlace_61 o f hk4 x0 x1 x2 y0 (1 : Int32) h)
set_option maxRecDepth 20000 in
theorem t_X6_bestPlace_31 {X : Cx} (o : Ok X RX6 cX6_bestPlace 6 0 0 0 0 (some .int)) (f : Nat) {k4 : Nat → Int32 → Int32 → Hp → Option (Int32 × Hp)} (hk4 : ∀ (x0 : Nat) (x1 : Int32) (x2 : Int32) (h : Hp), Sim X (z_Zi X 0 0) 0 0 4 [(0, rf (xG X) x0), (1, .int x1), (2, .int x2)] [] h (k4 x0 x1 x2 h)) (x0 : Nat) (x1 : Int32) (x2 : Int32) (h : Hp) : Sim X (z_Zi X 0 0) 0 0 31 [(0, rf (xG X) x0), (1, .int x1), (2, .int x2)] [] h (b_X6_bestPlace_31 f k4 x0 x1 x2 h) := by
  unfold b_X6_bestPlace_31
  refine s_iconst o dX6_bestPlace_31 (v := (1 : Int32)) (by decide) (q := 32) rfl ?_
  refine s_goto o (tgt := 36) dX6_bestPlace_32 (by decide) ?_
  exact s_sub [0, 1, 2] rfl (t_X6_bestPlace_36 o f hk4 x0 x1 x2 (1 : Int32) h)
set_option maxRecDepth 20000 in
theorem t_X6_bestPlace_4 {X : Cx} (o : Ok X RX6 cX6_bestPlace 6 0 0 0 0 (some .int)) (f : Nat) {k4 : Nat → Int32 → Int32 → Hp → Option (Int32 × Hp)} (hk4 : ∀ (x0 : Nat) (x1 : Int32) (x2 : Int32) (h : Hp), Sim X (z_Zi X 0 0) 0 0 4 [(0, rf (xG X) x0), (1, .int x1), (2, .int x2)] [] h (k4 x0 x1 x2 h)) (x0 : Nat) (x1 : Int32) (x2 : Int32) (h : Hp) : Sim X (z_Zi X 0 0) 0 0 4 [(0, rf (xG X) x0), (1, .int x1), (2, .int x2)] [] h (b_X6_bestPlace_4 f k4 x0 x1 x2 h) := by
  unfold b_X6_bestPlace_4
  refine s_iload_n o 2 rfl dX6_bestPlace_4 (q := 5) rfl ?_
  refine s_aload_n o 0 rfl dX6_bestPlace_5 (q := 6) rfl ?_
  refine s_gi o kf_X6_335 dX6_bestPlace_6 (q := 9) rfl (fun v1_ => ?_)
  refine s_ic_ge o (tgt := 141) dX6_bestPlace_9 (by decide) (q := 12) rfl ?_ ?_
  · refine s_iload_n o 1 rfl dX6_bestPlace_141 (q := 142) rfl ?_
    exact s_iret o dX6_bestPlace_142
  · refine s_iload_n o 1 rfl dX6_bestPlace_12 (q := 13) rfl ?_
    refine s_if_lt o (tgt := 31) dX6_bestPlace_13 (by decide) (q := 16) rfl ?_ ?_
    · exact s_sub [0, 1, 2] rfl (t_X6_bestPlace_31 o f hk4 x0 x1 x2 h)
    · refine s_aload_n o 0 rfl dX6_bestPlace_16 (q := 17) rfl ?_
      refine s_gr o kf_X6_87 dX6_bestPlace_17 (q := 20) rfl (fun a2_ => ?_)
      refine s_iload_n o 2 rfl dX6_bestPlace_20 (q := 21) rfl ?_
      refine s_iald o dX6_bestPlace_21 (q := 22) rfl (fun v3_ => ?_)
      refine s_aload_n o 0 rfl dX6_bestPlace_22 (q := 23) rfl ?_
      refine s_gr o kf_X6_87 dX6_bestPlace_23 (q := 26) rfl (fun a4_ => ?_)
      refine s_iload_n o 1 rfl dX6_bestPlace_26 (q := 27) rfl ?_
      refine s_iald o dX6_bestPlace_27 (q := 28) rfl (fun v5_ => ?_)
      refine s_ic_le o (tgt := 35) dX6_bestPlace_28 (by decide) (q := 31) rfl ?_ ?_
      · refine s_iconst o dX6_bestPlace_35 (v := (0 : Int32)) (by decide) (q := 36) rfl ?_
        exact s_sub [0, 1, 2] rfl (t_X6_bestPlace_36 o f hk4 x0 x1 x2 (0 : Int32) h)
      · exact s_sub [0, 1, 2] rfl (t_X6_bestPlace_31 o f hk4 x0 x1 x2 h)
theorem tl_X6_bestPlace_4 {X : Cx} (o : Ok X RX6 cX6_bestPlace 6 0 0 0 0 (some .int)) (f : Nat)  : ∀ (n : Nat) (x0 : Nat) (x1 : Int32) (x2 : Int32) (h : Hp), Sim X (z_Zi X 0 0) 0 0 4 [(0, rf (xG X) x0), (1, .int x1), (2, .int x2)] [] h (l_X6_bestPlace_4 f n x0 x1 x2 h) := by
  intro n
  induction n with
  | zero => intro x0 x1 x2 h; exact s_none
  | succ n ih => intro x0 x1 x2 h; exact t_X6_bestPlace_4 o f  ih x0 x1 x2 h
set_option maxRecDepth 20000 in
theorem t_X6_bestPlace_0 {X : Cx} (o : Ok X RX6 cX6_bestPlace 6 0 0 0 0 (some .int)) (f : Nat)  (x0 : Nat) (h : Hp) : Sim X (z_Zi X 0 0) 0 0 0 [(0, rf (xG X) x0)] [] h (f_X6_bestPlace f x0 h) := by
  unfold f_X6_bestPlace
  refine s_iconst o dX6_bestPlace_0 (v := (-1 : Int32)) (by decide) (q := 1) rfl ?_
  refine s_istore_n o [1, 0] (lv' := [(0, rf (xG X) x0), (1, .int (-1 : Int32))]) rfl dX6_bestPlace_1 (by decide) (q := 2) rfl ?_
  refine s_iconst o dX6_bestPlace_2 (v := (0 : Int32)) (by decide) (q := 3) rfl ?_
  refine s_istore_n o [1, 2, 0] (lv' := [(0, rf (xG X) x0), (1, .int (-1 : Int32)), (2, .int (0 : Int32))]) rfl dX6_bestPlace_3 (by decide) (q := 4) rfl ?_
  exact s_sub [0, 1, 2] rfl (tl_X6_bestPlace_4 o f f x0 (-1 : Int32) (0 : Int32) h)
theorem c_X6_bestPlace (G : Gx) (f : Nat) (x0 : Nat) (h : Hp) : z_M z_qi G yX6_bestPlace cX6_bestPlace 6 (some .int) 0 0 0 0 [rf G x0] h (f_X6_bestPlace f x0 h) :=
  z_met (by decide +kernel) (Nat.le_of_ble_eq_true rfl) (fun X hG hn o hnm => by
    subst hG
    show Sim X (z_Zi X 0 0) 0 0 0 [(0, rf (xG X) x0)] [] h _
    exact s_sub [0] rfl (t_X6_bestPlace_0 o f x0 h))
/-! SixMapsModel.digNow(III)I -/
def b_X6_digNow_158 (f : Nat)   (h : Hp) : Option (Int32 × Hp) :=
  some ((0 : Int32), h)
def b_X6_digNow_119 (f : Nat)  (x0 : Nat) (x2 : Int32) (x3 : Int32) (h : Hp) : Option (Int32 × Hp) :=
  (q_gi h x0 6 13).bind fun v1_ =>
  if (20 : Int32) ≤ v1_ then
  (b_X6_digNow_158 f h)
  else
  ((q_gr h x0 6 14).bind fun a2_ =>
  (q_gi h x0 6 13).bind fun v3_ =>
  (q_as h a2_ 9 v3_ x2).bind fun h4_ =>
  (q_gr h4_ x0 6 15).bind fun a5_ =>
  (q_gi h4_ x0 6 13).bind fun v6_ =>
  (q_as h4_ a5_ 9 v6_ x3).bind fun h7_ =>
  (q_gi h7_ x0 6 13).bind fun v8_ =>
  (q_pi h7_ x0 6 13 (v8_ + (1 : Int32))).bind fun h9_ =>
  b_X6_digNow_158 f h9_)
def f_X6_digNow (f : Nat)  (x0 : Nat) (x1 : Int32) (x2 : Int32) (x3 : Int32) (h : Hp) : Option (Int32 × Hp) :=
  (q_gr h x0 6 1).bind fun a1_ =>
  (q_gr h x0 6 8).bind fun a2_ =>
  (q_ai h a2_ 9 (0 : Int32)).bind fun v3_ =>
  (q_ai h a1_ 9 v3_).bind fun v4_ =>
  (q_gr h x0 6 1).bind fun a5_ =>
  (q_gr h x0 6 8).bind fun a6_ =>
  (q_ai h a6_ 9 (1 : Int32)).bind fun v7_ =>
  (q_ai h a5_ 9 v7_).bind fun v8_ =>
  (q_gr h x0 6 1).bind fun a9_ =>
  (q_gr h x0 6 8).bind fun a10_ =>
  (q_ai h a10_ 9 (2 : Int32)).bind fun v11_ =>
  (q_ai h a9_ 9 v11_).bind fun v12_ =>
  lt ((v4_ + v8_) - v12_) fun v13_ =>
  (q_gr h x0 6 2).bind fun a14_ =>
  (q_gr h x0 6 8).bind fun a15_ =>
  (q_ai h a15_ 9 (0 : Int32)).bind fun v16_ =>
  (q_ai h a14_ 9 v16_).bind fun v17_ =>
  (q_gr h x0 6 2).bind fun a18_ =>
  (q_gr h x0 6 8).bind fun a19_ =>
  (q_ai h a19_ 9 (1 : Int32)).bind fun v20_ =>
  (q_ai h a18_ 9 v20_).bind fun v21_ =>
  (q_gr h x0 6 2).bind fun a22_ =>
  (q_gr h x0 6 8).bind fun a23_ =>
  (q_ai h a23_ 9 (2 : Int32)).bind fun v24_ =>
  (q_ai h a22_ 9 v24_).bind fun v25_ =>
  lt ((v17_ + v21_) - v25_) fun v26_ =>
  (q_gr h x0 6 12).bind fun a27_ =>
  (q_ai h a27_ 9 x1).bind fun v28_ =>
  (q_gi h x0 6 9).bind fun v29_ =>
  (q_as h a27_ 9 x1 (v28_ - v29_)).bind fun h30_ =>
  if ¬ x2 = v13_ then
  (b_X6_digNow_119 f x0 x2 x3 h30_)
  else
  (if ¬ x3 = v26_ then
  (b_X6_digNow_119 f x0 x2 x3 h30_)
  else
  ((q_gr h30_ x0 6 12).bind fun a31_ =>
  (q_ai h30_ a31_ 9 x1).bind fun v32_ =>
  (q_gi h30_ x0 6 10).bind fun v33_ =>
  (q_as h30_ a31_ 9 x1 (v32_ + v33_)).bind fun h34_ =>
  (q_pi h34_ x0 6 16 x1).bind fun h35_ =>
  some ((1 : Int32), h35_)))
set_option maxRecDepth 20000 in
theorem t_X6_digNow_158 {X : Cx} (o : Ok X RX6 cX6_digNow 6 0 0 0 0 (some .int)) (f : Nat)   (h : Hp) : Sim X (z_Zi X 0 0) 0 0 158 [] [] h (b_X6_digNow_158 f h) := by
  unfold b_X6_digNow_158
  refine s_iconst o dX6_digNow_158 (v := (0 : Int32)) (by decide) (q := 159) rfl ?_
  exact s_iret o dX6_digNow_159
set_option maxRecDepth 20000 in
theorem t_X6_digNow_119 {X : Cx} (o : Ok X RX6 cX6_digNow 6 0 0 0 0 (some .int)) (f : Nat)  (x0 : Nat) (x2 : Int32) (x3 : Int32) (h : Hp) : Sim X (z_Zi X 0 0) 0 0 119 [(0, rf (xG X) x0), (2, .int x2), (3, .int x3)] [] h (b_X6_digNow_119 f x0 x2 x3 h) := by
  unfold b_X6_digNow_119
  refine s_aload_n o 0 rfl dX6_digNow_119 (q := 120) rfl ?_
  refine s_gi o kf_X6_120 dX6_digNow_120 (q := 123) rfl (fun v1_ => ?_)
  refine s_bipush o dX6_digNow_123 (v := (20 : Int32)) (by decide) (q := 125) rfl ?_
  refine s_ic_ge o (tgt := 158) dX6_digNow_125 (by decide) (q := 128) rfl ?_ ?_
  · exact s_sub [] rfl (t_X6_digNow_158 o f h)
  · refine s_aload_n o 0 rfl dX6_digNow_128 (q := 129) rfl ?_
    refine s_gr o kf_X6_38 dX6_digNow_129 (q := 132) rfl (fun a2_ => ?_)
    refine s_aload_n o 0 rfl dX6_digNow_132 (q := 133) rfl ?_
    refine s_gi o kf_X6_120 dX6_digNow_133 (q := 136) rfl (fun v3_ => ?_)
    refine s_iload_n o 1 rfl dX6_digNow_136 (q := 137) rfl ?_
    refine s_iast o dX6_digNow_137 (q := 138) rfl (fun h4_ => ?_)
    refine s_aload_n o 0 rfl dX6_digNow_138 (q := 139) rfl ?_
    refine s_gr o kf_X6_41 dX6_digNow_139 (q := 142) rfl (fun a5_ => ?_)
    refine s_aload_n o 0 rfl dX6_digNow_142 (q := 143) rfl ?_
    refine s_gi o kf_X6_120 dX6_digNow_143 (q := 146) rfl (fun v6_ => ?_)
    refine s_iload_n o 2 rfl dX6_digNow_146 (q := 147) rfl ?_
    refine s_iast o dX6_digNow_147 (q := 148) rfl (fun h7_ => ?_)
    refine s_aload_n o 0 rfl dX6_digNow_148 (q := 149) rfl ?_
    refine s_dup o rfl dX6_digNow_149 (q := 150) rfl ?_
    refine s_gi o kf_X6_120 dX6_digNow_150 (q := 153) rfl (fun v8_ => ?_)
    refine s_iconst o dX6_digNow_153 (v := (1 : Int32)) (by decide) (q := 154) rfl ?_
    refine s_iadd o dX6_digNow_154 (q := 155) rfl ?_
    refine s_pi o kf_X6_120 dX6_digNow_155 (q := 158) rfl (fun h9_ => ?_)
    exact s_sub [] rfl (t_X6_digNow_158 o f h9_)
set_option maxRecDepth 20000 in
theorem t_X6_digNow_0 {X : Cx} (o : Ok X RX6 cX6_digNow 6 0 0 0 0 (some .int)) (f : Nat)  (x0 : Nat) (x1 : Int32) (x2 : Int32) (x3 : Int32) (h : Hp) : Sim X (z_Zi X 0 0) 0 0 0 [(0, rf (xG X) x0), (1, .int x1), (2, .int x2), (3, .int x3)] [] h (f_X6_digNow f x0 x1 x2 x3 h) := by
  unfold f_X6_digNow
  refine s_aload_n o 0 rfl dX6_digNow_0 (q := 1) rfl ?_
  refine s_gr o kf_X6_7 dX6_digNow_1 (q := 4) rfl (fun a1_ => ?_)
  refine s_aload_n o 0 rfl dX6_digNow_4 (q := 5) rfl ?_
  refine s_gr o kf_X6_22 dX6_digNow_5 (q := 8) rfl (fun a2_ => ?_)
  refine s_iconst o dX6_digNow_8 (v := (0 : Int32)) (by decide) (q := 9) rfl ?_
  refine s_iald o dX6_digNow_9 (q := 10) rfl (fun v3_ => ?_)
  refine s_iald o dX6_digNow_10 (q := 11) rfl (fun v4_ => ?_)
  refine s_aload_n o 0 rfl dX6_digNow_11 (q := 12) rfl ?_
  refine s_gr o kf_X6_7 dX6_digNow_12 (q := 15) rfl (fun a5_ => ?_)
  refine s_aload_n o 0 rfl dX6_digNow_15 (q := 16) rfl ?_
  refine s_gr o kf_X6_22 dX6_digNow_16 (q := 19) rfl (fun a6_ => ?_)
  refine s_iconst o dX6_digNow_19 (v := (1 : Int32)) (by decide) (q := 20) rfl ?_
  refine s_iald o dX6_digNow_20 (q := 21) rfl (fun v7_ => ?_)
  refine s_iald o dX6_digNow_21 (q := 22) rfl (fun v8_ => ?_)
  refine s_iadd o dX6_digNow_22 (q := 23) rfl ?_
  refine s_aload_n o 0 rfl dX6_digNow_23 (q := 24) rfl ?_
  refine s_gr o kf_X6_7 dX6_digNow_24 (q := 27) rfl (fun a9_ => ?_)
  refine s_aload_n o 0 rfl dX6_digNow_27 (q := 28) rfl ?_
  refine s_gr o kf_X6_22 dX6_digNow_28 (q := 31) rfl (fun a10_ => ?_)
  refine s_iconst o dX6_digNow_31 (v := (2 : Int32)) (by decide) (q := 32) rfl ?_
  refine s_iald o dX6_digNow_32 (q := 33) rfl (fun v11_ => ?_)
  refine s_iald o dX6_digNow_33 (q := 34) rfl (fun v12_ => ?_)
  refine s_isub o dX6_digNow_34 (q := 35) rfl ?_
  refine s_let (fun v13_ => ?_)
  refine s_istore o [1, 2, 3, 4, 0] (lv' := [(0, rf (xG X) x0), (1, .int x1), (2, .int x2), (3, .int x3), (4, .int v13_)]) rfl dX6_digNow_35 (by decide) (q := 37) rfl ?_
  refine s_aload_n o 0 rfl dX6_digNow_37 (q := 38) rfl ?_
  refine s_gr o kf_X6_13 dX6_digNow_38 (q := 41) rfl (fun a14_ => ?_)
  refine s_aload_n o 0 rfl dX6_digNow_41 (q := 42) rfl ?_
  refine s_gr o kf_X6_22 dX6_digNow_42 (q := 45) rfl (fun a15_ => ?_)
  refine s_iconst o dX6_digNow_45 (v := (0 : Int32)) (by decide) (q := 46) rfl ?_
  refine s_iald o dX6_digNow_46 (q := 47) rfl (fun v16_ => ?_)
  refine s_iald o dX6_digNow_47 (q := 48) rfl (fun v17_ => ?_)
  refine s_aload_n o 0 rfl dX6_digNow_48 (q := 49) rfl ?_
  refine s_gr o kf_X6_13 dX6_digNow_49 (q := 52) rfl (fun a18_ => ?_)
  refine s_aload_n o 0 rfl dX6_digNow_52 (q := 53) rfl ?_
  refine s_gr o kf_X6_22 dX6_digNow_53 (q := 56) rfl (fun a19_ => ?_)
  refine s_iconst o dX6_digNow_56 (v := (1 : Int32)) (by decide) (q := 57) rfl ?_
  refine s_iald o dX6_digNow_57 (q := 58) rfl (fun v20_ => ?_)
  refine s_iald o dX6_digNow_58 (q := 59) rfl (fun v21_ => ?_)
  refine s_iadd o dX6_digNow_59 (q := 60) rfl ?_
  refine s_aload_n o 0 rfl dX6_digNow_60 (q := 61) rfl ?_
  refine s_gr o kf_X6_13 dX6_digNow_61 (q := 64) rfl (fun a22_ => ?_)
  refine s_aload_n o 0 rfl dX6_digNow_64 (q := 65) rfl ?_
  refine s_gr o kf_X6_22 dX6_digNow_65 (q := 68) rfl (fun a23_ => ?_)
  refine s_iconst o dX6_digNow_68 (v := (2 : Int32)) (by decide) (q := 69) rfl ?_
  refine s_iald o dX6_digNow_69 (q := 70) rfl (fun v24_ => ?_)
  refine s_iald o dX6_digNow_70 (q := 71) rfl (fun v25_ => ?_)
  refine s_isub o dX6_digNow_71 (q := 72) rfl ?_
  refine s_let (fun v26_ => ?_)
  refine s_istore o [1, 2, 3, 4, 5, 0] (lv' := [(0, rf (xG X) x0), (1, .int x1), (2, .int x2), (3, .int x3), (4, .int v13_), (5, .int v26_)]) rfl dX6_digNow_72 (by decide) (q := 74) rfl ?_
  refine s_aload_n o 0 rfl dX6_digNow_74 (q := 75) rfl ?_
  refine s_gr o kf_X6_35 dX6_digNow_75 (q := 78) rfl (fun a27_ => ?_)
  refine s_iload_n o 1 rfl dX6_digNow_78 (q := 79) rfl ?_
  refine s_dup2 o rfl rfl dX6_digNow_79 (q := 80) rfl ?_
  refine s_iald o dX6_digNow_80 (q := 81) rfl (fun v28_ => ?_)
  refine s_aload_n o 0 rfl dX6_digNow_81 (q := 82) rfl ?_
  refine s_gi o kf_X6_25 dX6_digNow_82 (q := 85) rfl (fun v29_ => ?_)
  refine s_isub o dX6_digNow_85 (q := 86) rfl ?_
  refine s_iast o dX6_digNow_86 (q := 87) rfl (fun h30_ => ?_)
  refine s_iload_n o 2 rfl dX6_digNow_87 (q := 88) rfl ?_
  refine s_iload o 4 rfl dX6_digNow_88 (q := 90) rfl ?_
  refine s_ic_ne o (tgt := 119) dX6_digNow_90 (by decide) (q := 93) rfl ?_ ?_
  · exact s_sub [0, 2, 3] rfl (t_X6_digNow_119 o f x0 x2 x3 h30_)
  · refine s_iload_n o 3 rfl dX6_digNow_93 (q := 94) rfl ?_
    refine s_iload o 5 rfl dX6_digNow_94 (q := 96) rfl ?_
    refine s_ic_ne o (tgt := 119) dX6_digNow_96 (by decide) (q := 99) rfl ?_ ?_
    · exact s_sub [0, 2, 3] rfl (t_X6_digNow_119 o f x0 x2 x3 h30_)
    · refine s_aload_n o 0 rfl dX6_digNow_99 (q := 100) rfl ?_
      refine s_gr o kf_X6_35 dX6_digNow_100 (q := 103) rfl (fun a31_ => ?_)
      refine s_iload_n o 1 rfl dX6_digNow_103 (q := 104) rfl ?_
      refine s_dup2 o rfl rfl dX6_digNow_104 (q := 105) rfl ?_
      refine s_iald o dX6_digNow_105 (q := 106) rfl (fun v32_ => ?_)
      refine s_aload_n o 0 rfl dX6_digNow_106 (q := 107) rfl ?_
      refine s_gi o kf_X6_29 dX6_digNow_107 (q := 110) rfl (fun v33_ => ?_)
      refine s_iadd o dX6_digNow_110 (q := 111) rfl ?_
      refine s_iast o dX6_digNow_111 (q := 112) rfl (fun h34_ => ?_)
      refine s_aload_n o 0 rfl dX6_digNow_112 (q := 113) rfl ?_
      refine s_iload_n o 1 rfl dX6_digNow_113 (q := 114) rfl ?_
      refine s_pi o kf_X6_44 dX6_digNow_114 (q := 117) rfl (fun h35_ => ?_)
      refine s_iconst o dX6_digNow_117 (v := (1 : Int32)) (by decide) (q := 118) rfl ?_
      exact s_iret o dX6_digNow_118
theorem c_X6_digNow (G : Gx) (f : Nat) (x0 : Nat) (x1 : Int32) (x2 : Int32) (x3 : Int32) (h : Hp) : z_M z_qi G yX6_digNow cX6_digNow 6 (some .int) 0 0 0 0 [rf G x0, .int x1, .int x2, .int x3] h (f_X6_digNow f x0 x1 x2 x3 h) :=
  z_met (by decide +kernel) (Nat.le_of_ble_eq_true rfl) (fun X hG hn o hnm => by
    subst hG
    show Sim X (z_Zi X 0 0) 0 0 0 [(0, rf (xG X) x0), (1, .int x1), (2, .int x2), (3, .int x3)] [] h _
    exact s_sub [0, 1, 2, 3] rfl (t_X6_digNow_0 o f x0 x1 x2 x3 h))
/-! SixMapsModel.draw(I)I -/
def f_X6_draw (f : Nat)  (x0 : Nat) (x1 : Int32) (h : Hp) : Option (Int32 × Hp) :=
  (q_gi h x0 6 17).bind fun v1_ =>
  q_nzl (2147483648 : Int64) (
  (q_pi h x0 6 17 ((((v1_.toInt64 * (1103515245 : Int64)) + (12345 : Int64)) - ((v1_.toInt64 * (1103515245 : Int64)) + (12345 : Int64)) / (2147483648 : Int64) * (2147483648 : Int64)).toInt32)).bind fun h2_ =>
  (q_gi h2_ x0 6 17).bind fun v3_ =>
  q_nz (65536 : Int32) (
  q_nz x1 (
  some (((v3_ / (65536 : Int32)) - (v3_ / (65536 : Int32)) / x1 * x1), h2_))))
set_option maxRecDepth 20000 in
theorem t_X6_draw_0 {X : Cx} (o : Ok X RX6 cX6_draw 2 0 0 0 0 (some .int)) (f : Nat)  (x0 : Nat) (x1 : Int32) (h : Hp) : Sim X (z_Zi X 0 0) 0 0 0 [(0, rf (xG X) x0), (1, .int x1)] [] h (f_X6_draw f x0 x1 h) := by
  unfold f_X6_draw
  refine s_aload_n o 0 rfl dX6_draw_0 (q := 1) rfl ?_
  refine s_aload_n o 0 rfl dX6_draw_1 (q := 2) rfl ?_
  refine s_gi o kf_X6_362 dX6_draw_2 (q := 5) rfl (fun v1_ => ?_)
  refine s_i2l o dX6_draw_5 (q := 6) rfl ?_
  refine s_ldc2 o kl_X6_365 dX6_draw_6 (q := 9) rfl ?_
  refine s_lmul o dX6_draw_9 (q := 10) rfl ?_
  refine s_ldc2 o kl_X6_367 dX6_draw_10 (q := 13) rfl ?_
  refine s_ladd o dX6_draw_13 (q := 14) rfl ?_
  refine s_ldc2 o kl_X6_369 dX6_draw_14 (q := 17) rfl ?_
  refine s_lrem o dX6_draw_17 (q := 18) rfl ?_
  refine s_l2i o dX6_draw_18 (q := 19) rfl ?_
  refine s_pi o kf_X6_362 dX6_draw_19 (q := 22) rfl (fun h2_ => ?_)
  refine s_aload_n o 0 rfl dX6_draw_22 (q := 23) rfl ?_
  refine s_gi o kf_X6_362 dX6_draw_23 (q := 26) rfl (fun v3_ => ?_)
  refine s_ldcw o kc_X6_371 dX6_draw_26 (q := 29) rfl ?_
  refine s_idiv o dX6_draw_29 (q := 30) rfl ?_
  refine s_iload_n o 1 rfl dX6_draw_30 (q := 31) rfl ?_
  refine s_irem o dX6_draw_31 (q := 32) rfl ?_
  exact s_iret o dX6_draw_32
theorem c_X6_draw (G : Gx) (f : Nat) (x0 : Nat) (x1 : Int32) (h : Hp) : z_M z_qi G yX6_draw cX6_draw 2 (some .int) 0 0 0 0 [rf G x0, .int x1] h (f_X6_draw f x0 x1 h) :=
  z_met (by decide +kernel) (Nat.le_of_ble_eq_true rfl) (fun X hG hn o hnm => by
    subst hG
    show Sim X (z_Zi X 0 0) 0 0 0 [(0, rf (xG X) x0), (1, .int x1)] [] h _
    exact s_sub [0, 1] rfl (t_X6_draw_0 o f x0 x1 h))
/-! SixMapsModel.findPlaces(I)V -/
def b_X6_findPlaces_111 (f : Nat)   (h : Hp) : Option (Hp) :=
  some h
def b_X6_findPlaces_105 (f : Nat) (k12 : Nat → Int32 → Int32 → Hp → Option (Hp)) (x0 : Nat) (x1 : Int32) (x2 : Int32) (h : Hp) : Option (Hp) :=
  lt (x2 + (1 : Int32)) fun v1_ =>
  k12 x0 x1 v1_ h
def b_X6_findPlaces_12 (f : Nat) (k12 : Nat → Int32 → Int32 → Hp → Option (Hp)) (x0 : Nat) (x1 : Int32) (x2 : Int32) (h : Hp) : Option (Hp) :=
  if (64 : Int32) ≤ x2 then
  (b_X6_findPlaces_111 f h)
  else
  ((q_gi h x0 6 0).bind fun v1_ =>
  if v1_ ≤ 0 then
  (b_X6_findPlaces_111 f h)
  else
  (bi (f_X6_bits f x2 h) fun v3_ h2_ =>
  (q_gi h2_ x0 6 5).bind fun v4_ =>
  if ¬ v3_ = v4_ then
  (b_X6_findPlaces_105 f k12 x0 x1 x2 h2_)
  else
  (q_on h2_ x0 6 (
  bi (f_X6_mayLie f x0 x1 x2 h2_) fun v7_ h6_ =>
  if v7_ = 0 then
  (b_X6_findPlaces_105 f k12 x0 x1 x2 h6_)
  else
  ((q_gi h6_ x0 6 45).bind fun v8_ =>
  (q_pi h6_ x0 6 45 (v8_ + (1 : Int32))).bind fun h9_ =>
  q_on h9_ x0 6 (
  (f_X6_findArea f x0 h9_).bind fun h11_ =>
  (q_gr h11_ x0 6 43).bind fun a12_ =>
  (q_ai h11_ a12_ 9 (0 : Int32)).bind fun v13_ =>
  (q_gr h11_ x0 6 43).bind fun a14_ =>
  (q_ai h11_ a14_ 9 (1 : Int32)).bind fun v15_ =>
  if ¬ v13_ = v15_ then
  (b_X6_findPlaces_105 f k12 x0 x1 x2 h11_)
  else
  ((q_gr h11_ x0 6 43).bind fun a16_ =>
  (q_ai h11_ a16_ 9 (2 : Int32)).bind fun v17_ =>
  (q_gr h11_ x0 6 43).bind fun a18_ =>
  (q_ai h11_ a18_ 9 (3 : Int32)).bind fun v19_ =>
  if ¬ v17_ = v19_ then
  (b_X6_findPlaces_105 f k12 x0 x1 x2 h11_)
  else
  ((q_gr h11_ x0 6 43).bind fun a20_ =>
  (q_ai h11_ a20_ 9 (0 : Int32)).bind fun v21_ =>
  (q_gr h11_ x0 6 43).bind fun a22_ =>
  (q_ai h11_ a22_ 9 (2 : Int32)).bind fun v23_ =>
  q_on h11_ x0 6 (
  (f_X6_addPlace f x0 v21_ v23_ h11_).bind fun h25_ =>
  b_X6_findPlaces_105 f k12 x0 x1 x2 h25_)))))))))
def l_X6_findPlaces_12 (f : Nat)  : Nat → Nat → Int32 → Int32 → Hp → Option (Hp)
  | 0, _, _, _, _ => none
  | n + 1, x0, x1, x2, h => b_X6_findPlaces_12 f  (l_X6_findPlaces_12 f  n) x0 x1 x2 h
def f_X6_findPlaces (f : Nat)  (x0 : Nat) (x1 : Int32) (h : Hp) : Option (Hp) :=
  (q_pi h x0 6 44 (0 : Int32)).bind fun h1_ =>
  (q_pi h1_ x0 6 45 (0 : Int32)).bind fun h2_ =>
  l_X6_findPlaces_12 f f x0 x1 (0 : Int32) h2_
set_option maxRecDepth 20000 in
theorem t_X6_findPlaces_111 {X : Cx} (o : Ok X RX6 cX6_findPlaces 3 3 76 0 0 none) (f : Nat)   (h : Hp) : Sim X (z_Zv X 0 0) 0 0 111 [] [] h (b_X6_findPlaces_111 f h) := by
  unfold b_X6_findPlaces_111
  exact s_vret o dX6_findPlaces_111
set_option maxRecDepth 20000 in
theorem t_X6_findPlaces_105 {X : Cx} (o : Ok X RX6 cX6_findPlaces 3 3 76 0 0 none) (f : Nat) {k12 : Nat → Int32 → Int32 → Hp → Option (Hp)} (hk12 : ∀ (x0 : Nat) (x1 : Int32) (x2 : Int32) (h : Hp), Sim X (z_Zv X 0 0) 0 0 12 [(0, rf (xG X) x0), (1, .int x1), (2, .int x2)] [] h (k12 x0 x1 x2 h)) (x0 : Nat) (x1 : Int32) (x2 : Int32) (h : Hp) : Sim X (z_Zv X 0 0) 0 0 105 [(0, rf (xG X) x0), (1, .int x1), (2, .int x2)] [] h (b_X6_findPlaces_105 f k12 x0 x1 x2 h) := by
  unfold b_X6_findPlaces_105
  refine s_iinc o 2 rfl (v := (1 : Int32)) (by decide) [1, 2, 0] (lv' := fun v1_ => [(0, rf (xG X) x0), (1, .int x1), (2, .int v1_)]) (fun _ => rfl) dX6_findPlaces_105 (by decide) (q := 108) rfl (fun v1_ => ?_)
  refine s_goto o (tgt := 12) dX6_findPlaces_108 (by decide) ?_
  exact s_sub [0, 1, 2] rfl (hk12 x0 x1 v1_ h)
set_option maxRecDepth 20000 in
theorem t_X6_findPlaces_12 {X : Cx} (o : Ok X RX6 cX6_findPlaces 3 3 76 0 0 none) (f : Nat) {k12 : Nat → Int32 → Int32 → Hp → Option (Hp)} (hk12 : ∀ (x0 : Nat) (x1 : Int32) (x2 : Int32) (h : Hp), Sim X (z_Zv X 0 0) 0 0 12 [(0, rf (xG X) x0), (1, .int x1), (2, .int x2)] [] h (k12 x0 x1 x2 h)) (x0 : Nat) (x1 : Int32) (x2 : Int32) (h : Hp) : Sim X (z_Zv X 0 0) 0 0 12 [(0, rf (xG X) x0), (1, .int x1), (2, .int x2)] [] h (b_X6_findPlaces_12 f k12 x0 x1 x2 h) := by
  unfold b_X6_findPlaces_12
  refine s_iload_n o 2 rfl dX6_findPlaces_12 (q := 13) rfl ?_
  refine s_bipush o dX6_findPlaces_13 (v := (64 : Int32)) (by decide) (q := 15) rfl ?_
  refine s_ic_ge o (tgt := 111) dX6_findPlaces_15 (by decide) (q := 18) rfl ?_ ?_
  · exact s_sub [] rfl (t_X6_findPlaces_111 o f h)
  · refine s_aload_n o 0 rfl dX6_findPlaces_18 (q := 19) rfl ?_
    refine s_gi o kf_X6_111 dX6_findPlaces_19 (q := 22) rfl (fun v1_ => ?_)
    refine s_if_le o (tgt := 111) dX6_findPlaces_22 (by decide) (q := 25) rfl ?_ ?_
    · exact s_sub [] rfl (t_X6_findPlaces_111 o f h)
    · refine s_iload_n o 2 rfl dX6_findPlaces_25 (q := 26) rfl ?_
      refine s_bi (fun r0 hr0 => runS o cs_X6_306 (c_X6_bits (xG X) f x2 h (xl X) r0 hr0) ⟨Nat.le_of_ble_eq_true rfl, Nat.le_of_ble_eq_true rfl⟩ rfl rfl (Nat.le_of_ble_eq_true rfl) dX6_findPlaces_26 ⟨Nat.le_of_ble_eq_true rfl, Nat.le_of_ble_eq_true rfl⟩) (q := 29) rfl (cs' := 0) rfl (sl' := 0) rfl (fun v3_ h2_ => ?_)
      refine s_aload_n o 0 rfl dX6_findPlaces_29 (q := 30) rfl ?_
      refine s_gi o kf_X6_250 dX6_findPlaces_30 (q := 33) rfl (fun v4_ => ?_)
      refine s_ic_ne o (tgt := 105) dX6_findPlaces_33 (by decide) (q := 36) rfl ?_ ?_
      · exact s_sub [0, 1, 2] rfl (t_X6_findPlaces_105 o f hk12 x0 x1 x2 h2_)
      · refine s_aload_n o 0 rfl dX6_findPlaces_36 (q := 37) rfl ?_
        refine s_iload_n o 1 rfl dX6_findPlaces_37 (q := 38) rfl ?_
        refine s_iload_n o 2 rfl dX6_findPlaces_38 (q := 39) rfl ?_
        refine s_on (fun hk5_ => ?_)
        refine s_bi (fun r0 hr0 => runV o hk5_ cv_X6_309 (c_X6_mayLie (xG X) f x0 x1 x2 h2_ (xl X) r0 hr0) ⟨Nat.le_of_ble_eq_true rfl, Nat.le_of_ble_eq_true rfl⟩ rfl rfl (Nat.le_of_ble_eq_true rfl) dX6_findPlaces_39 ⟨Nat.le_of_ble_eq_true rfl, Nat.le_of_ble_eq_true rfl⟩) (q := 42) rfl (cs' := 0) rfl (sl' := 0) rfl (fun v7_ h6_ => ?_)
        refine s_if_eq o (tgt := 105) dX6_findPlaces_42 (by decide) (q := 45) rfl ?_ ?_
        · exact s_sub [0, 1, 2] rfl (t_X6_findPlaces_105 o f hk12 x0 x1 x2 h6_)
        · refine s_aload_n o 0 rfl dX6_findPlaces_45 (q := 46) rfl ?_
          refine s_dup o rfl dX6_findPlaces_46 (q := 47) rfl ?_
          refine s_gi o kf_X6_338 dX6_findPlaces_47 (q := 50) rfl (fun v8_ => ?_)
          refine s_iconst o dX6_findPlaces_50 (v := (1 : Int32)) (by decide) (q := 51) rfl ?_
          refine s_iadd o dX6_findPlaces_51 (q := 52) rfl ?_
          refine s_pi o kf_X6_338 dX6_findPlaces_52 (q := 55) rfl (fun h9_ => ?_)
          refine s_aload_n o 0 rfl dX6_findPlaces_55 (q := 56) rfl ?_
          refine s_on (fun hk10_ => ?_)
          refine s_callv (fun r0 hr0 => runV o hk10_ cv_X6_318 (c_X6_findArea (xG X) f x0 h9_ (xl X) r0 hr0) ⟨Nat.le_of_ble_eq_true rfl, Nat.le_of_ble_eq_true rfl⟩ rfl rfl (Nat.le_of_ble_eq_true rfl) dX6_findPlaces_56 ⟨Nat.le_of_ble_eq_true rfl, Nat.le_of_ble_eq_true rfl⟩) (q := 59) rfl (cs' := 0) rfl (sl' := 0) rfl (fun h11_ => ?_)
          refine s_aload_n o 0 rfl dX6_findPlaces_59 (q := 60) rfl ?_
          refine s_gr o kf_X6_78 dX6_findPlaces_60 (q := 63) rfl (fun a12_ => ?_)
          refine s_iconst o dX6_findPlaces_63 (v := (0 : Int32)) (by decide) (q := 64) rfl ?_
          refine s_iald o dX6_findPlaces_64 (q := 65) rfl (fun v13_ => ?_)
          refine s_aload_n o 0 rfl dX6_findPlaces_65 (q := 66) rfl ?_
          refine s_gr o kf_X6_78 dX6_findPlaces_66 (q := 69) rfl (fun a14_ => ?_)
          refine s_iconst o dX6_findPlaces_69 (v := (1 : Int32)) (by decide) (q := 70) rfl ?_
          refine s_iald o dX6_findPlaces_70 (q := 71) rfl (fun v15_ => ?_)
          refine s_ic_ne o (tgt := 105) dX6_findPlaces_71 (by decide) (q := 74) rfl ?_ ?_
          · exact s_sub [0, 1, 2] rfl (t_X6_findPlaces_105 o f hk12 x0 x1 x2 h11_)
          · refine s_aload_n o 0 rfl dX6_findPlaces_74 (q := 75) rfl ?_
            refine s_gr o kf_X6_78 dX6_findPlaces_75 (q := 78) rfl (fun a16_ => ?_)
            refine s_iconst o dX6_findPlaces_78 (v := (2 : Int32)) (by decide) (q := 79) rfl ?_
            refine s_iald o dX6_findPlaces_79 (q := 80) rfl (fun v17_ => ?_)
            refine s_aload_n o 0 rfl dX6_findPlaces_80 (q := 81) rfl ?_
            refine s_gr o kf_X6_78 dX6_findPlaces_81 (q := 84) rfl (fun a18_ => ?_)
            refine s_iconst o dX6_findPlaces_84 (v := (3 : Int32)) (by decide) (q := 85) rfl ?_
            refine s_iald o dX6_findPlaces_85 (q := 86) rfl (fun v19_ => ?_)
            refine s_ic_ne o (tgt := 105) dX6_findPlaces_86 (by decide) (q := 89) rfl ?_ ?_
            · exact s_sub [0, 1, 2] rfl (t_X6_findPlaces_105 o f hk12 x0 x1 x2 h11_)
            · refine s_aload_n o 0 rfl dX6_findPlaces_89 (q := 90) rfl ?_
              refine s_aload_n o 0 rfl dX6_findPlaces_90 (q := 91) rfl ?_
              refine s_gr o kf_X6_78 dX6_findPlaces_91 (q := 94) rfl (fun a20_ => ?_)
              refine s_iconst o dX6_findPlaces_94 (v := (0 : Int32)) (by decide) (q := 95) rfl ?_
              refine s_iald o dX6_findPlaces_95 (q := 96) rfl (fun v21_ => ?_)
              refine s_aload_n o 0 rfl dX6_findPlaces_96 (q := 97) rfl ?_
              refine s_gr o kf_X6_78 dX6_findPlaces_97 (q := 100) rfl (fun a22_ => ?_)
              refine s_iconst o dX6_findPlaces_100 (v := (2 : Int32)) (by decide) (q := 101) rfl ?_
              refine s_iald o dX6_findPlaces_101 (q := 102) rfl (fun v23_ => ?_)
              refine s_on (fun hk24_ => ?_)
              refine s_callv (fun r0 hr0 => runV o hk24_ cv_X6_341 (c_X6_addPlace (xG X) f x0 v21_ v23_ h11_ (xl X) r0 hr0) ⟨Nat.le_of_ble_eq_true rfl, Nat.le_of_ble_eq_true rfl⟩ rfl rfl (Nat.le_of_ble_eq_true rfl) dX6_findPlaces_102 ⟨Nat.le_of_ble_eq_true rfl, Nat.le_of_ble_eq_true rfl⟩) (q := 105) rfl (cs' := 0) rfl (sl' := 0) rfl (fun h25_ => ?_)
              exact s_sub [0, 1, 2] rfl (t_X6_findPlaces_105 o f hk12 x0 x1 x2 h25_)
theorem tl_X6_findPlaces_12 {X : Cx} (o : Ok X RX6 cX6_findPlaces 3 3 76 0 0 none) (f : Nat)  : ∀ (n : Nat) (x0 : Nat) (x1 : Int32) (x2 : Int32) (h : Hp), Sim X (z_Zv X 0 0) 0 0 12 [(0, rf (xG X) x0), (1, .int x1), (2, .int x2)] [] h (l_X6_findPlaces_12 f n x0 x1 x2 h) := by
  intro n
  induction n with
  | zero => intro x0 x1 x2 h; exact s_none
  | succ n ih => intro x0 x1 x2 h; exact t_X6_findPlaces_12 o f  ih x0 x1 x2 h
set_option maxRecDepth 20000 in
theorem t_X6_findPlaces_0 {X : Cx} (o : Ok X RX6 cX6_findPlaces 3 3 76 0 0 none) (f : Nat)  (x0 : Nat) (x1 : Int32) (h : Hp) : Sim X (z_Zv X 0 0) 0 0 0 [(0, rf (xG X) x0), (1, .int x1)] [] h (f_X6_findPlaces f x0 x1 h) := by
  unfold f_X6_findPlaces
  refine s_aload_n o 0 rfl dX6_findPlaces_0 (q := 1) rfl ?_
  refine s_iconst o dX6_findPlaces_1 (v := (0 : Int32)) (by decide) (q := 2) rfl ?_
  refine s_pi o kf_X6_335 dX6_findPlaces_2 (q := 5) rfl (fun h1_ => ?_)
  refine s_aload_n o 0 rfl dX6_findPlaces_5 (q := 6) rfl ?_
  refine s_iconst o dX6_findPlaces_6 (v := (0 : Int32)) (by decide) (q := 7) rfl ?_
  refine s_pi o kf_X6_338 dX6_findPlaces_7 (q := 10) rfl (fun h2_ => ?_)
  refine s_iconst o dX6_findPlaces_10 (v := (0 : Int32)) (by decide) (q := 11) rfl ?_
  refine s_istore_n o [1, 2, 0] (lv' := [(0, rf (xG X) x0), (1, .int x1), (2, .int (0 : Int32))]) rfl dX6_findPlaces_11 (by decide) (q := 12) rfl ?_
  exact s_sub [0, 1, 2] rfl (tl_X6_findPlaces_12 o f f x0 x1 (0 : Int32) h2_)
theorem c_X6_findPlaces (G : Gx) (f : Nat) (x0 : Nat) (x1 : Int32) (h : Hp) : z_M z_qv G yX6_findPlaces cX6_findPlaces 3 none 3 76 0 0 [rf G x0, .int x1] h (f_X6_findPlaces f x0 x1 h) :=
  z_met (by decide +kernel) (Nat.le_of_ble_eq_true rfl) (fun X hG hn o hnm => by
    subst hG
    show Sim X (z_Zv X 0 0) 0 0 0 [(0, rf (xG X) x0), (1, .int x1)] [] h _
    exact s_sub [0, 1] rfl (t_X6_findPlaces_0 o f x0 x1 h))
