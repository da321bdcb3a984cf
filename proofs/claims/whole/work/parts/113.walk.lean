/-! SixMapsModel.code(III)J -/
def f_X6_code (f : Nat)  (x0 : Int32) (x1 : Int32) (x2 : Int32) (h : Hp) : Option (Int64 × Hp) :=
  some (((((27 : Int64) * ((((27 : Int64) * (x0.toInt64 - (96 : Int64))) + x1.toInt64) - (96 : Int64))) + x2.toInt64) - (96 : Int64)), h)
set_option maxRecDepth 20000 in
theorem t_X6_code_0 {X : Cx} (o : Ok X RX6 cX6_code 3 0 0 0 0 (some .long)) (f : Nat)  (x0 : Int32) (x1 : Int32) (x2 : Int32) (h : Hp) : Sim X (z_Zl X 0 0) 0 0 0 [(0, .int x0), (1, .int x1), (2, .int x2)] [] h (f_X6_code f x0 x1 x2 h) := by
  unfold f_X6_code
  refine s_ldc2 o kl_X6_154 dX6_code_0 (q := 3) rfl ?_
  refine s_ldc2 o kl_X6_154 dX6_code_3 (q := 6) rfl ?_
  refine s_iload_n o 0 rfl dX6_code_6 (q := 7) rfl ?_
  refine s_i2l o dX6_code_7 (q := 8) rfl ?_
  refine s_ldc2 o kl_X6_156 dX6_code_8 (q := 11) rfl ?_
  refine s_lsub o dX6_code_11 (q := 12) rfl ?_
  refine s_lmul o dX6_code_12 (q := 13) rfl ?_
  refine s_iload_n o 1 rfl dX6_code_13 (q := 14) rfl ?_
  refine s_i2l o dX6_code_14 (q := 15) rfl ?_
  refine s_ladd o dX6_code_15 (q := 16) rfl ?_
  refine s_ldc2 o kl_X6_156 dX6_code_16 (q := 19) rfl ?_
  refine s_lsub o dX6_code_19 (q := 20) rfl ?_
  refine s_lmul o dX6_code_20 (q := 21) rfl ?_
  refine s_iload_n o 2 rfl dX6_code_21 (q := 22) rfl ?_
  refine s_i2l o dX6_code_22 (q := 23) rfl ?_
  refine s_ladd o dX6_code_23 (q := 24) rfl ?_
  refine s_ldc2 o kl_X6_156 dX6_code_24 (q := 27) rfl ?_
  refine s_lsub o dX6_code_27 (q := 28) rfl ?_
  exact s_lret o dX6_code_28
theorem c_X6_code (G : Gx) (f : Nat) (x0 : Int32) (x1 : Int32) (x2 : Int32) (h : Hp) : z_M z_ql G yX6_code cX6_code 3 (some .long) 0 0 0 0 [.int x0, .int x1, .int x2] h (f_X6_code f x0 x1 x2 h) :=
  z_met (by decide +kernel) (Nat.le_of_ble_eq_true rfl) (fun X hG hn o hnm => by
    subst hG
    show Sim X (z_Zl X 0 0) 0 0 0 [(0, .int x0), (1, .int x1), (2, .int x2)] [] h _
    exact s_sub [0, 1, 2] rfl (t_X6_code_0 o f x0 x1 x2 h))
/-! SixMapsModel.longer(JII)J -/
def b_X6_longer_42 (f : Nat)  (y0 : Int64) (h : Hp) : Option (Int64 × Hp) :=
  some (y0, h)
def f_X6_longer (f : Nat)  (x0 : Int64) (x2 : Int32) (x3 : Int32) (h : Hp) : Option (Int64 × Hp) :=
  if ¬ x3 = 0 then
  (b_X6_longer_42 f ((((27 : Int64) * ((((27 : Int64) * x0) + x2.toInt64) - (96 : Int64))) + x3.toInt64) - (96 : Int64)) h)
  else
  (b_X6_longer_42 f ((((27 : Int64) * x0) + x2.toInt64) - (96 : Int64)) h)
set_option maxRecDepth 20000 in
theorem t_X6_longer_42 {X : Cx} (o : Ok X RX6 cX6_longer 4 0 0 0 0 (some .long)) (f : Nat)  (y0 : Int64) (h : Hp) : Sim X (z_Zl X 0 0) 0 0 42 [] [.long y0] h (b_X6_longer_42 f y0 h) := by
  unfold b_X6_longer_42
  exact s_lret o dX6_longer_42
set_option maxRecDepth 20000 in
theorem t_X6_longer_0 {X : Cx} (o : Ok X RX6 cX6_longer 4 0 0 0 0 (some .long)) (f : Nat)  (x0 : Int64) (x2 : Int32) (x3 : Int32) (h : Hp) : Sim X (z_Zl X 0 0) 0 0 0 [(0, .long x0), (2, .int x2), (3, .int x3)] [] h (f_X6_longer f x0 x2 x3 h) := by
  unfold f_X6_longer
  refine s_iload_n o 2 rfl dX6_longer_0 (q := 1) rfl ?_
  refine s_if_ne o (tgt := 19) dX6_longer_1 (by decide) (q := 4) rfl ?_ ?_
  · refine s_ldc2 o kl_X6_154 dX6_longer_19 (q := 22) rfl ?_
    refine s_ldc2 o kl_X6_154 dX6_longer_22 (q := 25) rfl ?_
    refine s_lload_n o 0 rfl dX6_longer_25 (q := 26) rfl ?_
    refine s_lmul o dX6_longer_26 (q := 27) rfl ?_
    refine s_iload_n o 1 rfl dX6_longer_27 (q := 28) rfl ?_
    refine s_i2l o dX6_longer_28 (q := 29) rfl ?_
    refine s_ladd o dX6_longer_29 (q := 30) rfl ?_
    refine s_ldc2 o kl_X6_156 dX6_longer_30 (q := 33) rfl ?_
    refine s_lsub o dX6_longer_33 (q := 34) rfl ?_
    refine s_lmul o dX6_longer_34 (q := 35) rfl ?_
    refine s_iload_n o 2 rfl dX6_longer_35 (q := 36) rfl ?_
    refine s_i2l o dX6_longer_36 (q := 37) rfl ?_
    refine s_ladd o dX6_longer_37 (q := 38) rfl ?_
    refine s_ldc2 o kl_X6_156 dX6_longer_38 (q := 41) rfl ?_
    refine s_lsub o dX6_longer_41 (q := 42) rfl ?_
    exact s_sub [] rfl (t_X6_longer_42 o f ((((27 : Int64) * ((((27 : Int64) * x0) + x2.toInt64) - (96 : Int64))) + x3.toInt64) - (96 : Int64)) h)
  · refine s_ldc2 o kl_X6_154 dX6_longer_4 (q := 7) rfl ?_
    refine s_lload_n o 0 rfl dX6_longer_7 (q := 8) rfl ?_
    refine s_lmul o dX6_longer_8 (q := 9) rfl ?_
    refine s_iload_n o 1 rfl dX6_longer_9 (q := 10) rfl ?_
    refine s_i2l o dX6_longer_10 (q := 11) rfl ?_
    refine s_ladd o dX6_longer_11 (q := 12) rfl ?_
    refine s_ldc2 o kl_X6_156 dX6_longer_12 (q := 15) rfl ?_
    refine s_lsub o dX6_longer_15 (q := 16) rfl ?_
    refine s_goto o (tgt := 42) dX6_longer_16 (by decide) ?_
    exact s_sub [] rfl (t_X6_longer_42 o f ((((27 : Int64) * x0) + x2.toInt64) - (96 : Int64)) h)
theorem c_X6_longer (G : Gx) (f : Nat) (x0 : Int64) (x2 : Int32) (x3 : Int32) (h : Hp) : z_M z_ql G yX6_longer cX6_longer 4 (some .long) 0 0 0 0 [.long x0, .int x2, .int x3] h (f_X6_longer f x0 x2 x3 h) :=
  z_met (by decide +kernel) (Nat.le_of_ble_eq_true rfl) (fun X hG hn o hnm => by
    subst hG
    show Sim X (z_Zl X 0 0) 0 0 0 [(0, .long x0), (2, .int x2), (3, .int x3)] [] h _
    exact s_sub [0, 1, 2] rfl (t_X6_longer_0 o f x0 x2 x3 h))
/-! SixMapsModel.clauseOf()I -/
def b_X6_clauseOf_200 (f : Nat)  (y0 : Int32) (h : Hp) : Option (Int32 × Hp) :=
  some (y0, h)
def b_X6_clauseOf_190 (f : Nat)  (x1 : Int32) (y0 : Int32) (h : Hp) : Option (Int32 × Hp) :=
  if x1 < 0 then
  (b_X6_clauseOf_200 f y0 h)
  else
  (b_X6_clauseOf_200 f x1 h)
def b_X6_clauseOf_89 (f : Nat)  (x0 : Nat) (y0 : Int32) (h : Hp) : Option (Int32 × Hp) :=
  (q_gl h x0 6 22).bind fun w1_ =>
  bi (f_X6_code f (108 : Int32) (105 : Int32) (101 : Int32) h) fun w3_ h2_ =>
  if ¬ (lg_cmp w1_ w3_) = 0 then
  ((q_gl h2_ x0 6 22).bind fun w4_ =>
  bi (f_X6_code f (101 : Int32) (114 : Int32) (114 : Int32) h2_) fun w6_ h5_ =>
  if ¬ (lg_cmp w4_ w6_) = 0 then
  ((q_gl h5_ x0 6 22).bind fun w7_ =>
  bi (f_X6_code f (115 : Int32) (112 : Int32) (97 : Int32) h5_) fun w9_ h8_ =>
  bi (f_X6_longer f w9_ (100 : Int32) (101 : Int32) h8_) fun w11_ h10_ =>
  if ¬ (lg_cmp w7_ w11_) = 0 then
  ((q_gl h10_ x0 6 22).bind fun w12_ =>
  bi (f_X6_code f (112 : Int32) (114 : Int32) (105 : Int32) h10_) fun w14_ h13_ =>
  bi (f_X6_longer f w14_ (122 : Int32) (101 : Int32) h13_) fun w16_ h15_ =>
  if ¬ (lg_cmp w12_ w16_) = 0 then
  (b_X6_clauseOf_190 f y0 (-1 : Int32) h15_)
  else
  (b_X6_clauseOf_190 f y0 (6 : Int32) h15_))
  else
  (b_X6_clauseOf_190 f y0 (5 : Int32) h10_))
  else
  (b_X6_clauseOf_190 f y0 (4 : Int32) h5_))
  else
  (b_X6_clauseOf_190 f y0 (3 : Int32) h2_)
def f_X6_clauseOf (f : Nat)  (x0 : Nat) (h : Hp) : Option (Int32 × Hp) :=
  (q_gl h x0 6 22).bind fun w1_ =>
  bi (f_X6_code f (109 : Int32) (97 : Int32) (114 : Int32) h) fun w3_ h2_ =>
  bi (f_X6_longer f w3_ (107 : Int32) (0 : Int32) h2_) fun w5_ h4_ =>
  if ¬ (lg_cmp w1_ w5_) = 0 then
  ((q_gl h4_ x0 6 22).bind fun w6_ =>
  bi (f_X6_code f (103 : Int32) (111 : Int32) (97 : Int32) h4_) fun w8_ h7_ =>
  bi (f_X6_longer f w8_ (108 : Int32) (0 : Int32) h7_) fun w10_ h9_ =>
  if ¬ (lg_cmp w6_ w10_) = 0 then
  ((q_gl h9_ x0 6 22).bind fun w11_ =>
  bi (f_X6_code f (119 : Int32) (105 : Int32) (116 : Int32) h9_) fun w13_ h12_ =>
  bi (f_X6_longer f w13_ (104 : Int32) (105 : Int32) h12_) fun w15_ h14_ =>
  bi (f_X6_longer f w15_ (110 : Int32) (0 : Int32) h14_) fun w17_ h16_ =>
  if ¬ (lg_cmp w11_ w17_) = 0 then
  (b_X6_clauseOf_89 f x0 (-1 : Int32) h16_)
  else
  (b_X6_clauseOf_89 f x0 (2 : Int32) h16_))
  else
  (b_X6_clauseOf_89 f x0 (1 : Int32) h9_))
  else
  (b_X6_clauseOf_89 f x0 (0 : Int32) h4_)
set_option maxRecDepth 20000 in
theorem t_X6_clauseOf_200 {X : Cx} (o : Ok X RX6 cX6_clauseOf 3 1 23 0 0 (some .int)) (f : Nat)  (y0 : Int32) (h : Hp) : Sim X (z_Zi X 0 0) 0 0 200 [] [.int y0] h (b_X6_clauseOf_200 f y0 h) := by
  unfold b_X6_clauseOf_200
  exact s_iret o dX6_clauseOf_200
set_option maxRecDepth 20000 in
theorem t_X6_clauseOf_190 {X : Cx} (o : Ok X RX6 cX6_clauseOf 3 1 23 0 0 (some .int)) (f : Nat)  (x1 : Int32) (y0 : Int32) (h : Hp) : Sim X (z_Zi X 0 0) 0 0 190 [(1, .int x1)] [.int y0] h (b_X6_clauseOf_190 f x1 y0 h) := by
  unfold b_X6_clauseOf_190
  refine s_istore_n o [1, 0] (lv' := [(1, .int x1), (2, .int y0)]) rfl dX6_clauseOf_190 (by decide) (q := 191) rfl ?_
  refine s_iload_n o 0 rfl dX6_clauseOf_191 (q := 192) rfl ?_
  refine s_if_lt o (tgt := 199) dX6_clauseOf_192 (by decide) (q := 195) rfl ?_ ?_
  · refine s_iload_n o 1 rfl dX6_clauseOf_199 (q := 200) rfl ?_
    exact s_sub [] rfl (t_X6_clauseOf_200 o f y0 h)
  · refine s_iload_n o 0 rfl dX6_clauseOf_195 (q := 196) rfl ?_
    refine s_goto o (tgt := 200) dX6_clauseOf_196 (by decide) ?_
    exact s_sub [] rfl (t_X6_clauseOf_200 o f x1 h)
set_option maxRecDepth 20000 in
theorem t_X6_clauseOf_89 {X : Cx} (o : Ok X RX6 cX6_clauseOf 3 1 23 0 0 (some .int)) (f : Nat)  (x0 : Nat) (y0 : Int32) (h : Hp) : Sim X (z_Zi X 0 0) 0 0 89 [(0, rf (xG X) x0)] [.int y0] h (b_X6_clauseOf_89 f x0 y0 h) := by
  unfold b_X6_clauseOf_89
  refine s_istore_n o [1, 0] (lv' := [(0, rf (xG X) x0), (1, .int y0)]) rfl dX6_clauseOf_89 (by decide) (q := 90) rfl ?_
  refine s_aload_n o 0 rfl dX6_clauseOf_90 (q := 91) rfl ?_
  refine s_gl o kf_X6_139 dX6_clauseOf_91 (q := 94) rfl (fun w1_ => ?_)
  refine s_bipush o dX6_clauseOf_94 (v := (108 : Int32)) (by decide) (q := 96) rfl ?_
  refine s_bipush o dX6_clauseOf_96 (v := (105 : Int32)) (by decide) (q := 98) rfl ?_
  refine s_bipush o dX6_clauseOf_98 (v := (101 : Int32)) (by decide) (q := 100) rfl ?_
  refine s_bl (fun r0 hr0 => runS o cs_X6_206 (c_X6_code (xG X) f (108 : Int32) (105 : Int32) (101 : Int32) h (xl X) r0 hr0) ⟨Nat.le_of_ble_eq_true rfl, Nat.le_of_ble_eq_true rfl⟩ rfl rfl (Nat.le_of_ble_eq_true rfl) dX6_clauseOf_100 ⟨Nat.le_of_ble_eq_true rfl, Nat.le_of_ble_eq_true rfl⟩) (q := 103) rfl (cs' := 0) rfl (sl' := 0) rfl (fun w3_ h2_ => ?_)
  refine s_lcmp o dX6_clauseOf_103 (q := 104) rfl ?_
  refine s_if_ne o (tgt := 111) dX6_clauseOf_104 (by decide) (q := 107) rfl ?_ ?_
  · refine s_aload_n o 0 rfl dX6_clauseOf_111 (q := 112) rfl ?_
    refine s_gl o kf_X6_139 dX6_clauseOf_112 (q := 115) rfl (fun w4_ => ?_)
    refine s_bipush o dX6_clauseOf_115 (v := (101 : Int32)) (by decide) (q := 117) rfl ?_
    refine s_bipush o dX6_clauseOf_117 (v := (114 : Int32)) (by decide) (q := 119) rfl ?_
    refine s_bipush o dX6_clauseOf_119 (v := (114 : Int32)) (by decide) (q := 121) rfl ?_
    refine s_bl (fun r0 hr0 => runS o cs_X6_206 (c_X6_code (xG X) f (101 : Int32) (114 : Int32) (114 : Int32) h2_ (xl X) r0 hr0) ⟨Nat.le_of_ble_eq_true rfl, Nat.le_of_ble_eq_true rfl⟩ rfl rfl (Nat.le_of_ble_eq_true rfl) dX6_clauseOf_121 ⟨Nat.le_of_ble_eq_true rfl, Nat.le_of_ble_eq_true rfl⟩) (q := 124) rfl (cs' := 0) rfl (sl' := 0) rfl (fun w6_ h5_ => ?_)
    refine s_lcmp o dX6_clauseOf_124 (q := 125) rfl ?_
    refine s_if_ne o (tgt := 132) dX6_clauseOf_125 (by decide) (q := 128) rfl ?_ ?_
    · refine s_aload_n o 0 rfl dX6_clauseOf_132 (q := 133) rfl ?_
      refine s_gl o kf_X6_139 dX6_clauseOf_133 (q := 136) rfl (fun w7_ => ?_)
      refine s_bipush o dX6_clauseOf_136 (v := (115 : Int32)) (by decide) (q := 138) rfl ?_
      refine s_bipush o dX6_clauseOf_138 (v := (112 : Int32)) (by decide) (q := 140) rfl ?_
      refine s_bipush o dX6_clauseOf_140 (v := (97 : Int32)) (by decide) (q := 142) rfl ?_
      refine s_bl (fun r0 hr0 => runS o cs_X6_206 (c_X6_code (xG X) f (115 : Int32) (112 : Int32) (97 : Int32) h5_ (xl X) r0 hr0) ⟨Nat.le_of_ble_eq_true rfl, Nat.le_of_ble_eq_true rfl⟩ rfl rfl (Nat.le_of_ble_eq_true rfl) dX6_clauseOf_142 ⟨Nat.le_of_ble_eq_true rfl, Nat.le_of_ble_eq_true rfl⟩) (q := 145) rfl (cs' := 0) rfl (sl' := 0) rfl (fun w9_ h8_ => ?_)
      refine s_bipush o dX6_clauseOf_145 (v := (100 : Int32)) (by decide) (q := 147) rfl ?_
      refine s_bipush o dX6_clauseOf_147 (v := (101 : Int32)) (by decide) (q := 149) rfl ?_
      refine s_bl (fun r0 hr0 => runS o cs_X6_210 (c_X6_longer (xG X) f w9_ (100 : Int32) (101 : Int32) h8_ (xl X) r0 hr0) ⟨Nat.le_of_ble_eq_true rfl, Nat.le_of_ble_eq_true rfl⟩ rfl rfl (Nat.le_of_ble_eq_true rfl) dX6_clauseOf_149 ⟨Nat.le_of_ble_eq_true rfl, Nat.le_of_ble_eq_true rfl⟩) (q := 152) rfl (cs' := 0) rfl (sl' := 0) rfl (fun w11_ h10_ => ?_)
      refine s_lcmp o dX6_clauseOf_152 (q := 153) rfl ?_
      refine s_if_ne o (tgt := 160) dX6_clauseOf_153 (by decide) (q := 156) rfl ?_ ?_
      · refine s_aload_n o 0 rfl dX6_clauseOf_160 (q := 161) rfl ?_
        refine s_gl o kf_X6_139 dX6_clauseOf_161 (q := 164) rfl (fun w12_ => ?_)
        refine s_bipush o dX6_clauseOf_164 (v := (112 : Int32)) (by decide) (q := 166) rfl ?_
        refine s_bipush o dX6_clauseOf_166 (v := (114 : Int32)) (by decide) (q := 168) rfl ?_
        refine s_bipush o dX6_clauseOf_168 (v := (105 : Int32)) (by decide) (q := 170) rfl ?_
        refine s_bl (fun r0 hr0 => runS o cs_X6_206 (c_X6_code (xG X) f (112 : Int32) (114 : Int32) (105 : Int32) h10_ (xl X) r0 hr0) ⟨Nat.le_of_ble_eq_true rfl, Nat.le_of_ble_eq_true rfl⟩ rfl rfl (Nat.le_of_ble_eq_true rfl) dX6_clauseOf_170 ⟨Nat.le_of_ble_eq_true rfl, Nat.le_of_ble_eq_true rfl⟩) (q := 173) rfl (cs' := 0) rfl (sl' := 0) rfl (fun w14_ h13_ => ?_)
        refine s_bipush o dX6_clauseOf_173 (v := (122 : Int32)) (by decide) (q := 175) rfl ?_
        refine s_bipush o dX6_clauseOf_175 (v := (101 : Int32)) (by decide) (q := 177) rfl ?_
        refine s_bl (fun r0 hr0 => runS o cs_X6_210 (c_X6_longer (xG X) f w14_ (122 : Int32) (101 : Int32) h13_ (xl X) r0 hr0) ⟨Nat.le_of_ble_eq_true rfl, Nat.le_of_ble_eq_true rfl⟩ rfl rfl (Nat.le_of_ble_eq_true rfl) dX6_clauseOf_177 ⟨Nat.le_of_ble_eq_true rfl, Nat.le_of_ble_eq_true rfl⟩) (q := 180) rfl (cs' := 0) rfl (sl' := 0) rfl (fun w16_ h15_ => ?_)
        refine s_lcmp o dX6_clauseOf_180 (q := 181) rfl ?_
        refine s_if_ne o (tgt := 189) dX6_clauseOf_181 (by decide) (q := 184) rfl ?_ ?_
        · refine s_iconst o dX6_clauseOf_189 (v := (-1 : Int32)) (by decide) (q := 190) rfl ?_
          exact s_sub [1] rfl (t_X6_clauseOf_190 o f y0 (-1 : Int32) h15_)
        · refine s_bipush o dX6_clauseOf_184 (v := (6 : Int32)) (by decide) (q := 186) rfl ?_
          refine s_goto o (tgt := 190) dX6_clauseOf_186 (by decide) ?_
          exact s_sub [1] rfl (t_X6_clauseOf_190 o f y0 (6 : Int32) h15_)
      · refine s_iconst o dX6_clauseOf_156 (v := (5 : Int32)) (by decide) (q := 157) rfl ?_
        refine s_goto o (tgt := 190) dX6_clauseOf_157 (by decide) ?_
        exact s_sub [1] rfl (t_X6_clauseOf_190 o f y0 (5 : Int32) h10_)
    · refine s_iconst o dX6_clauseOf_128 (v := (4 : Int32)) (by decide) (q := 129) rfl ?_
      refine s_goto o (tgt := 190) dX6_clauseOf_129 (by decide) ?_
      exact s_sub [1] rfl (t_X6_clauseOf_190 o f y0 (4 : Int32) h5_)
  · refine s_iconst o dX6_clauseOf_107 (v := (3 : Int32)) (by decide) (q := 108) rfl ?_
    refine s_goto o (tgt := 190) dX6_clauseOf_108 (by decide) ?_
    exact s_sub [1] rfl (t_X6_clauseOf_190 o f y0 (3 : Int32) h2_)
set_option maxRecDepth 20000 in
theorem t_X6_clauseOf_0 {X : Cx} (o : Ok X RX6 cX6_clauseOf 3 1 23 0 0 (some .int)) (f : Nat)  (x0 : Nat) (h : Hp) : Sim X (z_Zi X 0 0) 0 0 0 [(0, rf (xG X) x0)] [] h (f_X6_clauseOf f x0 h) := by
  unfold f_X6_clauseOf
  refine s_aload_n o 0 rfl dX6_clauseOf_0 (q := 1) rfl ?_
  refine s_gl o kf_X6_139 dX6_clauseOf_1 (q := 4) rfl (fun w1_ => ?_)
  refine s_bipush o dX6_clauseOf_4 (v := (109 : Int32)) (by decide) (q := 6) rfl ?_
  refine s_bipush o dX6_clauseOf_6 (v := (97 : Int32)) (by decide) (q := 8) rfl ?_
  refine s_bipush o dX6_clauseOf_8 (v := (114 : Int32)) (by decide) (q := 10) rfl ?_
  refine s_bl (fun r0 hr0 => runS o cs_X6_206 (c_X6_code (xG X) f (109 : Int32) (97 : Int32) (114 : Int32) h (xl X) r0 hr0) ⟨Nat.le_of_ble_eq_true rfl, Nat.le_of_ble_eq_true rfl⟩ rfl rfl (Nat.le_of_ble_eq_true rfl) dX6_clauseOf_10 ⟨Nat.le_of_ble_eq_true rfl, Nat.le_of_ble_eq_true rfl⟩) (q := 13) rfl (cs' := 0) rfl (sl' := 0) rfl (fun w3_ h2_ => ?_)
  refine s_bipush o dX6_clauseOf_13 (v := (107 : Int32)) (by decide) (q := 15) rfl ?_
  refine s_iconst o dX6_clauseOf_15 (v := (0 : Int32)) (by decide) (q := 16) rfl ?_
  refine s_bl (fun r0 hr0 => runS o cs_X6_210 (c_X6_longer (xG X) f w3_ (107 : Int32) (0 : Int32) h2_ (xl X) r0 hr0) ⟨Nat.le_of_ble_eq_true rfl, Nat.le_of_ble_eq_true rfl⟩ rfl rfl (Nat.le_of_ble_eq_true rfl) dX6_clauseOf_16 ⟨Nat.le_of_ble_eq_true rfl, Nat.le_of_ble_eq_true rfl⟩) (q := 19) rfl (cs' := 0) rfl (sl' := 0) rfl (fun w5_ h4_ => ?_)
  refine s_lcmp o dX6_clauseOf_19 (q := 20) rfl ?_
  refine s_if_ne o (tgt := 27) dX6_clauseOf_20 (by decide) (q := 23) rfl ?_ ?_
  · refine s_aload_n o 0 rfl dX6_clauseOf_27 (q := 28) rfl ?_
    refine s_gl o kf_X6_139 dX6_clauseOf_28 (q := 31) rfl (fun w6_ => ?_)
    refine s_bipush o dX6_clauseOf_31 (v := (103 : Int32)) (by decide) (q := 33) rfl ?_
    refine s_bipush o dX6_clauseOf_33 (v := (111 : Int32)) (by decide) (q := 35) rfl ?_
    refine s_bipush o dX6_clauseOf_35 (v := (97 : Int32)) (by decide) (q := 37) rfl ?_
    refine s_bl (fun r0 hr0 => runS o cs_X6_206 (c_X6_code (xG X) f (103 : Int32) (111 : Int32) (97 : Int32) h4_ (xl X) r0 hr0) ⟨Nat.le_of_ble_eq_true rfl, Nat.le_of_ble_eq_true rfl⟩ rfl rfl (Nat.le_of_ble_eq_true rfl) dX6_clauseOf_37 ⟨Nat.le_of_ble_eq_true rfl, Nat.le_of_ble_eq_true rfl⟩) (q := 40) rfl (cs' := 0) rfl (sl' := 0) rfl (fun w8_ h7_ => ?_)
    refine s_bipush o dX6_clauseOf_40 (v := (108 : Int32)) (by decide) (q := 42) rfl ?_
    refine s_iconst o dX6_clauseOf_42 (v := (0 : Int32)) (by decide) (q := 43) rfl ?_
    refine s_bl (fun r0 hr0 => runS o cs_X6_210 (c_X6_longer (xG X) f w8_ (108 : Int32) (0 : Int32) h7_ (xl X) r0 hr0) ⟨Nat.le_of_ble_eq_true rfl, Nat.le_of_ble_eq_true rfl⟩ rfl rfl (Nat.le_of_ble_eq_true rfl) dX6_clauseOf_43 ⟨Nat.le_of_ble_eq_true rfl, Nat.le_of_ble_eq_true rfl⟩) (q := 46) rfl (cs' := 0) rfl (sl' := 0) rfl (fun w10_ h9_ => ?_)
    refine s_lcmp o dX6_clauseOf_46 (q := 47) rfl ?_
    refine s_if_ne o (tgt := 54) dX6_clauseOf_47 (by decide) (q := 50) rfl ?_ ?_
    · refine s_aload_n o 0 rfl dX6_clauseOf_54 (q := 55) rfl ?_
      refine s_gl o kf_X6_139 dX6_clauseOf_55 (q := 58) rfl (fun w11_ => ?_)
      refine s_bipush o dX6_clauseOf_58 (v := (119 : Int32)) (by decide) (q := 60) rfl ?_
      refine s_bipush o dX6_clauseOf_60 (v := (105 : Int32)) (by decide) (q := 62) rfl ?_
      refine s_bipush o dX6_clauseOf_62 (v := (116 : Int32)) (by decide) (q := 64) rfl ?_
      refine s_bl (fun r0 hr0 => runS o cs_X6_206 (c_X6_code (xG X) f (119 : Int32) (105 : Int32) (116 : Int32) h9_ (xl X) r0 hr0) ⟨Nat.le_of_ble_eq_true rfl, Nat.le_of_ble_eq_true rfl⟩ rfl rfl (Nat.le_of_ble_eq_true rfl) dX6_clauseOf_64 ⟨Nat.le_of_ble_eq_true rfl, Nat.le_of_ble_eq_true rfl⟩) (q := 67) rfl (cs' := 0) rfl (sl' := 0) rfl (fun w13_ h12_ => ?_)
      refine s_bipush o dX6_clauseOf_67 (v := (104 : Int32)) (by decide) (q := 69) rfl ?_
      refine s_bipush o dX6_clauseOf_69 (v := (105 : Int32)) (by decide) (q := 71) rfl ?_
      refine s_bl (fun r0 hr0 => runS o cs_X6_210 (c_X6_longer (xG X) f w13_ (104 : Int32) (105 : Int32) h12_ (xl X) r0 hr0) ⟨Nat.le_of_ble_eq_true rfl, Nat.le_of_ble_eq_true rfl⟩ rfl rfl (Nat.le_of_ble_eq_true rfl) dX6_clauseOf_71 ⟨Nat.le_of_ble_eq_true rfl, Nat.le_of_ble_eq_true rfl⟩) (q := 74) rfl (cs' := 0) rfl (sl' := 0) rfl (fun w15_ h14_ => ?_)
      refine s_bipush o dX6_clauseOf_74 (v := (110 : Int32)) (by decide) (q := 76) rfl ?_
      refine s_iconst o dX6_clauseOf_76 (v := (0 : Int32)) (by decide) (q := 77) rfl ?_
      refine s_bl (fun r0 hr0 => runS o cs_X6_210 (c_X6_longer (xG X) f w15_ (110 : Int32) (0 : Int32) h14_ (xl X) r0 hr0) ⟨Nat.le_of_ble_eq_true rfl, Nat.le_of_ble_eq_true rfl⟩ rfl rfl (Nat.le_of_ble_eq_true rfl) dX6_clauseOf_77 ⟨Nat.le_of_ble_eq_true rfl, Nat.le_of_ble_eq_true rfl⟩) (q := 80) rfl (cs' := 0) rfl (sl' := 0) rfl (fun w17_ h16_ => ?_)
      refine s_lcmp o dX6_clauseOf_80 (q := 81) rfl ?_
      refine s_if_ne o (tgt := 88) dX6_clauseOf_81 (by decide) (q := 84) rfl ?_ ?_
      · refine s_iconst o dX6_clauseOf_88 (v := (-1 : Int32)) (by decide) (q := 89) rfl ?_
        exact s_sub [0] rfl (t_X6_clauseOf_89 o f x0 (-1 : Int32) h16_)
      · refine s_iconst o dX6_clauseOf_84 (v := (2 : Int32)) (by decide) (q := 85) rfl ?_
        refine s_goto o (tgt := 89) dX6_clauseOf_85 (by decide) ?_
        exact s_sub [0] rfl (t_X6_clauseOf_89 o f x0 (2 : Int32) h16_)
    · refine s_iconst o dX6_clauseOf_50 (v := (1 : Int32)) (by decide) (q := 51) rfl ?_
      refine s_goto o (tgt := 89) dX6_clauseOf_51 (by decide) ?_
      exact s_sub [0] rfl (t_X6_clauseOf_89 o f x0 (1 : Int32) h9_)
  · refine s_iconst o dX6_clauseOf_23 (v := (0 : Int32)) (by decide) (q := 24) rfl ?_
    refine s_goto o (tgt := 89) dX6_clauseOf_24 (by decide) ?_
    exact s_sub [0] rfl (t_X6_clauseOf_89 o f x0 (0 : Int32) h4_)
theorem c_X6_clauseOf (G : Gx) (f : Nat) (x0 : Nat) (h : Hp) : z_M z_qi G yX6_clauseOf cX6_clauseOf 3 (some .int) 1 23 0 0 [rf G x0] h (f_X6_clauseOf f x0 h) :=
  z_met (by decide +kernel) (Nat.le_of_ble_eq_true rfl) (fun X hG hn o hnm => by
    subst hG
    show Sim X (z_Zi X 0 0) 0 0 0 [(0, rf (xG X) x0)] [] h _
    exact s_sub [0] rfl (t_X6_clauseOf_0 o f x0 h))
/-! SixMapsModel.isMark(I)Z -/
def f_X6_isMark (f : Nat)  (x0 : Nat) (x1 : Int32) (h : Hp) : Option (Int32 × Hp) :=
  (q_gi h x0 6 0).bind fun v1_ =>
  bi (f_X6_in f x1.toInt64 (0 : Int64) ((v1_ - (1 : Int32)).toInt64) h) fun v3_ h2_ =>
  q_bo v3_ (some (v3_, h2_))
set_option maxRecDepth 20000 in
theorem t_X6_isMark_0 {X : Cx} (o : Ok X RX6 cX6_isMark 2 1 25 0 0 (some .boolean)) (f : Nat)  (x0 : Nat) (x1 : Int32) (h : Hp) : Sim X (z_Zi X 0 0) 0 0 0 [(0, rf (xG X) x0), (1, .int x1)] [] h (f_X6_isMark f x0 x1 h) := by
  unfold f_X6_isMark
  refine s_iload_n o 1 rfl dX6_isMark_0 (q := 1) rfl ?_
  refine s_i2l o dX6_isMark_1 (q := 2) rfl ?_
  refine s_lconst o dX6_isMark_2 (v := (0 : Int64)) (by decide) (q := 3) rfl ?_
  refine s_aload_n o 0 rfl dX6_isMark_3 (q := 4) rfl ?_
  refine s_gi o kf_X6_111 dX6_isMark_4 (q := 7) rfl (fun v1_ => ?_)
  refine s_iconst o dX6_isMark_7 (v := (1 : Int32)) (by decide) (q := 8) rfl ?_
  refine s_isub o dX6_isMark_8 (q := 9) rfl ?_
  refine s_i2l o dX6_isMark_9 (q := 10) rfl ?_
  refine s_bi (fun r0 hr0 => runS o cs_X6_114 (c_X6_in (xG X) f x1.toInt64 (0 : Int64) ((v1_ - (1 : Int32)).toInt64) h (xl X) r0 hr0) ⟨Nat.le_of_ble_eq_true rfl, Nat.le_of_ble_eq_true rfl⟩ rfl rfl (Nat.le_of_ble_eq_true rfl) dX6_isMark_10 ⟨Nat.le_of_ble_eq_true rfl, Nat.le_of_ble_eq_true rfl⟩) (q := 13) rfl (cs' := 0) rfl (sl' := 0) rfl (fun v3_ h2_ => ?_)
  exact s_zret o dX6_isMark_13
theorem c_X6_isMark (G : Gx) (f : Nat) (x0 : Nat) (x1 : Int32) (h : Hp) : z_M z_qi G yX6_isMark cX6_isMark 2 (some .boolean) 1 25 0 0 [rf G x0, .int x1] h (f_X6_isMark f x0 x1 h) :=
  z_met (by decide +kernel) (Nat.le_of_ble_eq_true rfl) (fun X hG hn o hnm => by
    subst hG
    show Sim X (z_Zi X 0 0) 0 0 0 [(0, rf (xG X) x0), (1, .int x1)] [] h _
    exact s_sub [0, 1] rfl (t_X6_isMark_0 o f x0 x1 h))
/-! SixMapsModel.corner(III)I -/
def b_X6_corner_46 (f : Nat)   (h : Hp) : Option (Int32 × Hp) :=
  some ((-1000003 : Int32), h)
def b_X6_corner_16 (f : Nat)   (h : Hp) : Option (Int32 × Hp) :=
  some ((-1000001 : Int32), h)
def f_X6_corner (f : Nat)  (x0 : Nat) (x1 : Int32) (x2 : Int32) (x3 : Int32) (h : Hp) : Option (Int32 × Hp) :=
  bi (f_X6_areTwo f x1 x2 h) fun v2_ h1_ =>
  if v2_ = 0 then
  (b_X6_corner_16 f h1_)
  else
  (q_on h1_ x0 6 (
  bi (f_X6_isMark f x0 x3 h1_) fun v5_ h4_ =>
  if ¬ v5_ = 0 then
  ((q_gr h4_ x0 6 11).bind fun a6_ =>
  (q_ai h4_ a6_ 9 (((6 : Int32) * x1) + x2)).bind fun v7_ =>
  bi (f_X6_has f v7_ x3 h4_) fun v9_ h8_ =>
  if ¬ v9_ = 0 then
  (b_X6_corner_46 f h8_)
  else
  (q_on h8_ x0 6 (
  bi (f_X6_mayMany f x0 x1 h8_) fun v12_ h11_ =>
  if ¬ v12_ = 0 then
  (q_on h11_ x0 6 (
  bi (f_X6_worstOf f x0 x1 x2 x3 h11_) fun v15_ h14_ =>
  some (v15_, h14_)))
  else
  (b_X6_corner_46 f h11_))))
  else
  (b_X6_corner_16 f h4_)))
set_option maxRecDepth 20000 in
theorem t_X6_corner_46 {X : Cx} (o : Ok X RX6 cX6_corner 4 5 129 0 0 (some .int)) (f : Nat)   (h : Hp) : Sim X (z_Zi X 0 0) 0 0 46 [] [] h (b_X6_corner_46 f h) := by
  unfold b_X6_corner_46
  refine s_ldcw o kc_X6_317 dX6_corner_46 (q := 49) rfl ?_
  exact s_iret o dX6_corner_49
set_option maxRecDepth 20000 in
theorem t_X6_corner_16 {X : Cx} (o : Ok X RX6 cX6_corner 4 5 129 0 0 (some .int)) (f : Nat)   (h : Hp) : Sim X (z_Zi X 0 0) 0 0 16 [] [] h (b_X6_corner_16 f h) := by
  unfold b_X6_corner_16
  refine s_ldcw o kc_X6_266 dX6_corner_16 (q := 19) rfl ?_
  exact s_iret o dX6_corner_19
set_option maxRecDepth 20000 in
theorem t_X6_corner_0 {X : Cx} (o : Ok X RX6 cX6_corner 4 5 129 0 0 (some .int)) (f : Nat)  (x0 : Nat) (x1 : Int32) (x2 : Int32) (x3 : Int32) (h : Hp) : Sim X (z_Zi X 0 0) 0 0 0 [(0, rf (xG X) x0), (1, .int x1), (2, .int x2), (3, .int x3)] [] h (f_X6_corner f x0 x1 x2 x3 h) := by
  unfold f_X6_corner
  refine s_iload_n o 1 rfl dX6_corner_0 (q := 1) rfl ?_
  refine s_iload_n o 2 rfl dX6_corner_1 (q := 2) rfl ?_
  refine s_bi (fun r0 hr0 => runS o cs_X6_321 (c_X6_areTwo (xG X) f x1 x2 h (xl X) r0 hr0) ⟨Nat.le_of_ble_eq_true rfl, Nat.le_of_ble_eq_true rfl⟩ rfl rfl (Nat.le_of_ble_eq_true rfl) dX6_corner_2 ⟨Nat.le_of_ble_eq_true rfl, Nat.le_of_ble_eq_true rfl⟩) (q := 5) rfl (cs' := 0) rfl (sl' := 0) rfl (fun v2_ h1_ => ?_)
  refine s_if_eq o (tgt := 16) dX6_corner_5 (by decide) (q := 8) rfl ?_ ?_
  · exact s_sub [] rfl (t_X6_corner_16 o f h1_)
  · refine s_aload_n o 0 rfl dX6_corner_8 (q := 9) rfl ?_
    refine s_iload_n o 3 rfl dX6_corner_9 (q := 10) rfl ?_
    refine s_on (fun hk3_ => ?_)
    refine s_bi (fun r0 hr0 => runV o hk3_ cv_X6_262 (c_X6_isMark (xG X) f x0 x3 h1_ (xl X) r0 hr0) ⟨Nat.le_of_ble_eq_true rfl, Nat.le_of_ble_eq_true rfl⟩ rfl rfl (Nat.le_of_ble_eq_true rfl) dX6_corner_10 ⟨Nat.le_of_ble_eq_true rfl, Nat.le_of_ble_eq_true rfl⟩) (q := 13) rfl (cs' := 0) rfl (sl' := 0) rfl (fun v5_ h4_ => ?_)
    refine s_if_ne o (tgt := 20) dX6_corner_13 (by decide) (q := 16) rfl ?_ ?_
    · refine s_aload_n o 0 rfl dX6_corner_20 (q := 21) rfl ?_
      refine s_gr o kf_X6_32 dX6_corner_21 (q := 24) rfl (fun a6_ => ?_)
      refine s_bipush o dX6_corner_24 (v := (6 : Int32)) (by decide) (q := 26) rfl ?_
      refine s_iload_n o 1 rfl dX6_corner_26 (q := 27) rfl ?_
      refine s_imul o dX6_corner_27 (q := 28) rfl ?_
      refine s_iload_n o 2 rfl dX6_corner_28 (q := 29) rfl ?_
      refine s_iadd o dX6_corner_29 (q := 30) rfl ?_
      refine s_iald o dX6_corner_30 (q := 31) rfl (fun v7_ => ?_)
      refine s_iload_n o 3 rfl dX6_corner_31 (q := 32) rfl ?_
      refine s_bi (fun r0 hr0 => runS o cs_X6_182 (c_X6_has (xG X) f v7_ x3 h4_ (xl X) r0 hr0) ⟨Nat.le_of_ble_eq_true rfl, Nat.le_of_ble_eq_true rfl⟩ rfl rfl (Nat.le_of_ble_eq_true rfl) dX6_corner_32 ⟨Nat.le_of_ble_eq_true rfl, Nat.le_of_ble_eq_true rfl⟩) (q := 35) rfl (cs' := 0) rfl (sl' := 0) rfl (fun v9_ h8_ => ?_)
      refine s_if_ne o (tgt := 46) dX6_corner_35 (by decide) (q := 38) rfl ?_ ?_
      · exact s_sub [] rfl (t_X6_corner_46 o f h8_)
      · refine s_aload_n o 0 rfl dX6_corner_38 (q := 39) rfl ?_
        refine s_iload_n o 1 rfl dX6_corner_39 (q := 40) rfl ?_
        refine s_on (fun hk10_ => ?_)
        refine s_bi (fun r0 hr0 => runV o hk10_ cv_X6_330 (c_X6_mayMany (xG X) f x0 x1 h8_ (xl X) r0 hr0) ⟨Nat.le_of_ble_eq_true rfl, Nat.le_of_ble_eq_true rfl⟩ rfl rfl (Nat.le_of_ble_eq_true rfl) dX6_corner_40 ⟨Nat.le_of_ble_eq_true rfl, Nat.le_of_ble_eq_true rfl⟩) (q := 43) rfl (cs' := 0) rfl (sl' := 0) rfl (fun v12_ h11_ => ?_)
        refine s_if_ne o (tgt := 50) dX6_corner_43 (by decide) (q := 46) rfl ?_ ?_
        · refine s_aload_n o 0 rfl dX6_corner_50 (q := 51) rfl ?_
          refine s_iload_n o 1 rfl dX6_corner_51 (q := 52) rfl ?_
          refine s_iload_n o 2 rfl dX6_corner_52 (q := 53) rfl ?_
          refine s_iload_n o 3 rfl dX6_corner_53 (q := 54) rfl ?_
          refine s_on (fun hk13_ => ?_)
          refine s_bi (fun r0 hr0 => runV o hk13_ cv_X6_354 (c_X6_worstOf (xG X) f x0 x1 x2 x3 h11_ (xl X) r0 hr0) ⟨Nat.le_of_ble_eq_true rfl, Nat.le_of_ble_eq_true rfl⟩ rfl rfl (Nat.le_of_ble_eq_true rfl) dX6_corner_54 ⟨Nat.le_of_ble_eq_true rfl, Nat.le_of_ble_eq_true rfl⟩) (q := 57) rfl (cs' := 0) rfl (sl' := 0) rfl (fun v15_ h14_ => ?_)
          exact s_iret o dX6_corner_57
        · exact s_sub [] rfl (t_X6_corner_46 o f h11_)
    · exact s_sub [] rfl (t_X6_corner_16 o f h4_)
theorem c_X6_corner (G : Gx) (f : Nat) (x0 : Nat) (x1 : Int32) (x2 : Int32) (x3 : Int32) (h : Hp) : z_M z_qi G yX6_corner cX6_corner 4 (some .int) 5 129 0 0 [rf G x0, .int x1, .int x2, .int x3] h (f_X6_corner f x0 x1 x2 x3 h) :=
  z_met (by decide +kernel) (Nat.le_of_ble_eq_true rfl) (fun X hG hn o hnm => by
    subst hG
    show Sim X (z_Zi X 0 0) 0 0 0 [(0, rf (xG X) x0), (1, .int x1), (2, .int x2), (3, .int x3)] [] h _
    exact s_sub [0, 1, 2, 3] rfl (t_X6_corner_0 o f x0 x1 x2 x3 h))
/-! SixMapsModel.dig(III)I -/
def b_X6_dig_77 (f : Nat)  (y0 : Int32) (h : Hp) : Option (Int32 × Hp) :=
  some (y0, h)
def b_X6_dig_52 (f : Nat)   (h : Hp) : Option (Int32 × Hp) :=
  some ((-1000003 : Int32), h)
def b_X6_dig_35 (f : Nat)   (h : Hp) : Option (Int32 × Hp) :=
  some ((-1000002 : Int32), h)
def f_X6_dig (f : Nat)  (x0 : Nat) (x1 : Int32) (x2 : Int32) (x3 : Int32) (h : Hp) : Option (Int32 × Hp) :=
  bi (f_X6_isBand f x1 h) fun v2_ h1_ =>
  if ¬ v2_ = 0 then
  (bi (f_X6_in f x2.toInt64 (0 : Int64) (99 : Int64) h1_) fun v4_ h3_ =>
  if v4_ = 0 then
  (b_X6_dig_35 f h3_)
  else
  (bi (f_X6_in f x3.toInt64 (0 : Int64) (99 : Int64) h3_) fun v6_ h5_ =>
  if ¬ v6_ = 0 then
  ((q_gi h5_ x0 6 16).bind fun v7_ =>
  if 0 ≤ v7_ then
  (b_X6_dig_52 f h5_)
  else
  ((q_gi h5_ x0 6 0).bind fun v8_ =>
  if ¬ v8_ = 0 then
  ((q_gi h5_ x0 6 13).bind fun v9_ =>
  if ¬ v9_ = (20 : Int32) then
  (q_on h5_ x0 6 (
  bi (f_X6_digNow f x0 x1 x2 x3 h5_) fun v12_ h11_ =>
  b_X6_dig_77 f v12_ h11_))
  else
  (b_X6_dig_77 f (-1000004 : Int32) h5_))
  else
  (b_X6_dig_52 f h5_)))
  else
  (b_X6_dig_35 f h5_)))
  else
  (some ((-1000001 : Int32), h1_))
set_option maxRecDepth 20000 in
theorem t_X6_dig_77 {X : Cx} (o : Ok X RX6 cX6_dig 4 2 45 0 0 (some .int)) (f : Nat)  (y0 : Int32) (h : Hp) : Sim X (z_Zi X 0 0) 0 0 77 [] [.int y0] h (b_X6_dig_77 f y0 h) := by
  unfold b_X6_dig_77
  exact s_iret o dX6_dig_77
set_option maxRecDepth 20000 in
theorem t_X6_dig_52 {X : Cx} (o : Ok X RX6 cX6_dig 4 2 45 0 0 (some .int)) (f : Nat)   (h : Hp) : Sim X (z_Zi X 0 0) 0 0 52 [] [] h (b_X6_dig_52 f h) := by
  unfold b_X6_dig_52
  refine s_ldcw o kc_X6_317 dX6_dig_52 (q := 55) rfl ?_
  exact s_iret o dX6_dig_55
set_option maxRecDepth 20000 in
theorem t_X6_dig_35 {X : Cx} (o : Ok X RX6 cX6_dig 4 2 45 0 0 (some .int)) (f : Nat)   (h : Hp) : Sim X (z_Zi X 0 0) 0 0 35 [] [] h (b_X6_dig_35 f h) := by
  unfold b_X6_dig_35
  refine s_ldc o kc_X6_125 dX6_dig_35 (q := 37) rfl ?_
  exact s_iret o dX6_dig_37
set_option maxRecDepth 20000 in
theorem t_X6_dig_0 {X : Cx} (o : Ok X RX6 cX6_dig 4 2 45 0 0 (some .int)) (f : Nat)  (x0 : Nat) (x1 : Int32) (x2 : Int32) (x3 : Int32) (h : Hp) : Sim X (z_Zi X 0 0) 0 0 0 [(0, rf (xG X) x0), (1, .int x1), (2, .int x2), (3, .int x3)] [] h (f_X6_dig f x0 x1 x2 x3 h) := by
  unfold f_X6_dig
  refine s_iload_n o 1 rfl dX6_dig_0 (q := 1) rfl ?_
  refine s_bi (fun r0 hr0 => runS o cs_X6_267 (c_X6_isBand (xG X) f x1 h (xl X) r0 hr0) ⟨Nat.le_of_ble_eq_true rfl, Nat.le_of_ble_eq_true rfl⟩ rfl rfl (Nat.le_of_ble_eq_true rfl) dX6_dig_1 ⟨Nat.le_of_ble_eq_true rfl, Nat.le_of_ble_eq_true rfl⟩) (q := 4) rfl (cs' := 0) rfl (sl' := 0) rfl (fun v2_ h1_ => ?_)
  refine s_if_ne o (tgt := 11) dX6_dig_4 (by decide) (q := 7) rfl ?_ ?_
  · refine s_iload_n o 2 rfl dX6_dig_11 (q := 12) rfl ?_
    refine s_i2l o dX6_dig_12 (q := 13) rfl ?_
    refine s_lconst o dX6_dig_13 (v := (0 : Int64)) (by decide) (q := 14) rfl ?_
    refine s_ldc2 o kl_X6_324 dX6_dig_14 (q := 17) rfl ?_
    refine s_bi (fun r0 hr0 => runS o cs_X6_114 (c_X6_in (xG X) f x2.toInt64 (0 : Int64) (99 : Int64) h1_ (xl X) r0 hr0) ⟨Nat.le_of_ble_eq_true rfl, Nat.le_of_ble_eq_true rfl⟩ rfl rfl (Nat.le_of_ble_eq_true rfl) dX6_dig_17 ⟨Nat.le_of_ble_eq_true rfl, Nat.le_of_ble_eq_true rfl⟩) (q := 20) rfl (cs' := 0) rfl (sl' := 0) rfl (fun v4_ h3_ => ?_)
    refine s_if_eq o (tgt := 35) dX6_dig_20 (by decide) (q := 23) rfl ?_ ?_
    · exact s_sub [] rfl (t_X6_dig_35 o f h3_)
    · refine s_iload_n o 3 rfl dX6_dig_23 (q := 24) rfl ?_
      refine s_i2l o dX6_dig_24 (q := 25) rfl ?_
      refine s_lconst o dX6_dig_25 (v := (0 : Int64)) (by decide) (q := 26) rfl ?_
      refine s_ldc2 o kl_X6_324 dX6_dig_26 (q := 29) rfl ?_
      refine s_bi (fun r0 hr0 => runS o cs_X6_114 (c_X6_in (xG X) f x3.toInt64 (0 : Int64) (99 : Int64) h3_ (xl X) r0 hr0) ⟨Nat.le_of_ble_eq_true rfl, Nat.le_of_ble_eq_true rfl⟩ rfl rfl (Nat.le_of_ble_eq_true rfl) dX6_dig_29 ⟨Nat.le_of_ble_eq_true rfl, Nat.le_of_ble_eq_true rfl⟩) (q := 32) rfl (cs' := 0) rfl (sl' := 0) rfl (fun v6_ h5_ => ?_)
      refine s_if_ne o (tgt := 38) dX6_dig_32 (by decide) (q := 35) rfl ?_ ?_
      · refine s_aload_n o 0 rfl dX6_dig_38 (q := 39) rfl ?_
        refine s_gi o kf_X6_44 dX6_dig_39 (q := 42) rfl (fun v7_ => ?_)
        refine s_if_ge o (tgt := 52) dX6_dig_42 (by decide) (q := 45) rfl ?_ ?_
        · exact s_sub [] rfl (t_X6_dig_52 o f h5_)
        · refine s_aload_n o 0 rfl dX6_dig_45 (q := 46) rfl ?_
          refine s_gi o kf_X6_111 dX6_dig_46 (q := 49) rfl (fun v8_ => ?_)
          refine s_if_ne o (tgt := 56) dX6_dig_49 (by decide) (q := 52) rfl ?_ ?_
          · refine s_aload_n o 0 rfl dX6_dig_56 (q := 57) rfl ?_
            refine s_gi o kf_X6_120 dX6_dig_57 (q := 60) rfl (fun v9_ => ?_)
            refine s_bipush o dX6_dig_60 (v := (20 : Int32)) (by decide) (q := 62) rfl ?_
            refine s_ic_ne o (tgt := 70) dX6_dig_62 (by decide) (q := 65) rfl ?_ ?_
            · refine s_aload_n o 0 rfl dX6_dig_70 (q := 71) rfl ?_
              refine s_iload_n o 1 rfl dX6_dig_71 (q := 72) rfl ?_
              refine s_iload_n o 2 rfl dX6_dig_72 (q := 73) rfl ?_
              refine s_iload_n o 3 rfl dX6_dig_73 (q := 74) rfl ?_
              refine s_on (fun hk10_ => ?_)
              refine s_bi (fun r0 hr0 => runV o hk10_ cv_X6_326 (c_X6_digNow (xG X) f x0 x1 x2 x3 h5_ (xl X) r0 hr0) ⟨Nat.le_of_ble_eq_true rfl, Nat.le_of_ble_eq_true rfl⟩ rfl rfl (Nat.le_of_ble_eq_true rfl) dX6_dig_74 ⟨Nat.le_of_ble_eq_true rfl, Nat.le_of_ble_eq_true rfl⟩) (q := 77) rfl (cs' := 0) rfl (sl' := 0) rfl (fun v12_ h11_ => ?_)
              exact s_sub [] rfl (t_X6_dig_77 o f v12_ h11_)
            · refine s_ldc o kc_X6_129 dX6_dig_65 (q := 67) rfl ?_
              refine s_goto o (tgt := 77) dX6_dig_67 (by decide) ?_
              exact s_sub [] rfl (t_X6_dig_77 o f (-1000004 : Int32) h5_)
          · exact s_sub [] rfl (t_X6_dig_52 o f h5_)
      · exact s_sub [] rfl (t_X6_dig_35 o f h5_)
  · refine s_ldcw o kc_X6_266 dX6_dig_7 (q := 10) rfl ?_
    exact s_iret o dX6_dig_10
theorem c_X6_dig (G : Gx) (f : Nat) (x0 : Nat) (x1 : Int32) (x2 : Int32) (x3 : Int32) (h : Hp) : z_M z_qi G yX6_dig cX6_dig 4 (some .int) 2 45 0 0 [rf G x0, .int x1, .int x2, .int x3] h (f_X6_dig f x0 x1 x2 x3 h) :=
  z_met (by decide +kernel) (Nat.le_of_ble_eq_true rfl) (fun X hG hn o hnm => by
    subst hG
    show Sim X (z_Zi X 0 0) 0 0 0 [(0, rf (xG X) x0), (1, .int x1), (2, .int x2), (3, .int x3)] [] h _
    exact s_sub [0, 1, 2, 3] rfl (t_X6_dig_0 o f x0 x1 x2 x3 h))
/-! SixMapsModel.fails(II)I -/
def f_X6_fails (f : Nat)  (x0 : Nat) (x1 : Int32) (x2 : Int32) (h : Hp) : Option (Int32 × Hp) :=
  (q_pi h x0 6 20 x2).bind fun h1_ =>
  some (x1, h1_)
set_option maxRecDepth 20000 in
theorem t_X6_fails_0 {X : Cx} (o : Ok X RX6 cX6_fails 3 0 0 0 0 (some .int)) (f : Nat)  (x0 : Nat) (x1 : Int32) (x2 : Int32) (h : Hp) : Sim X (z_Zi X 0 0) 0 0 0 [(0, rf (xG X) x0), (1, .int x1), (2, .int x2)] [] h (f_X6_fails f x0 x1 x2 h) := by
  unfold f_X6_fails
  refine s_aload_n o 0 rfl dX6_fails_0 (q := 1) rfl ?_
  refine s_iload_n o 2 rfl dX6_fails_1 (q := 2) rfl ?_
  refine s_pi o kf_X6_50 dX6_fails_2 (q := 5) rfl (fun h1_ => ?_)
  refine s_iload_n o 1 rfl dX6_fails_5 (q := 6) rfl ?_
  exact s_iret o dX6_fails_6
theorem c_X6_fails (G : Gx) (f : Nat) (x0 : Nat) (x1 : Int32) (x2 : Int32) (h : Hp) : z_M z_qi G yX6_fails cX6_fails 3 (some .int) 0 0 0 0 [rf G x0, .int x1, .int x2] h (f_X6_fails f x0 x1 x2 h) :=
  z_met (by decide +kernel) (Nat.le_of_ble_eq_true rfl) (fun X hG hn o hnm => by
    subst hG
    show Sim X (z_Zi X 0 0) 0 0 0 [(0, rf (xG X) x0), (1, .int x1), (2, .int x2)] [] h _
    exact s_sub [0, 1, 2] rfl (t_X6_fails_0 o f x0 x1 x2 h))
/-! SixMapsModel.fault()I -/
def f_X6_fault (f : Nat)  (x0 : Nat) (h : Hp) : Option (Int32 × Hp) :=
  (q_gi h x0 6 20).bind fun v1_ =>
  some (v1_, h)
set_option maxRecDepth 20000 in
theorem t_X6_fault_0 {X : Cx} (o : Ok X RX6 cX6_fault 1 0 0 0 0 (some .int)) (f : Nat)  (x0 : Nat) (h : Hp) : Sim X (z_Zi X 0 0) 0 0 0 [(0, rf (xG X) x0)] [] h (f_X6_fault f x0 h) := by
  unfold f_X6_fault
  refine s_aload_n o 0 rfl dX6_fault_0 (q := 1) rfl ?_
  refine s_gi o kf_X6_50 dX6_fault_1 (q := 4) rfl (fun v1_ => ?_)
  exact s_iret o dX6_fault_4
theorem c_X6_fault (G : Gx) (f : Nat) (x0 : Nat) (h : Hp) : z_M z_qi G yX6_fault cX6_fault 1 (some .int) 0 0 0 0 [rf G x0] h (f_X6_fault f x0 h) :=
  z_met (by decide +kernel) (Nat.le_of_ble_eq_true rfl) (fun X hG hn o hnm => by
    subst hG
    show Sim X (z_Zi X 0 0) 0 0 0 [(0, rf (xG X) x0)] [] h _
    exact s_sub [0] rfl (t_X6_fault_0 o f x0 h))
/-! SixMapsModel.feed(IJ)I -/
def b_X6_feed_35 (f : Nat) (k35 : Nat → Int64 → Int32 → Hp → Option (Int32 × Hp)) (x0 : Nat) (x2 : Int64) (x4 : Int32) (h : Hp) : Option (Int32 × Hp) :=
  if x4 < 0 then
  ((q_gi h x0 6 19).bind fun v1_ =>
  some (v1_, h))
  else
  ((q_gr h x0 6 18).bind fun a2_ =>
  (q_gi h x0 6 19).bind fun v3_ =>
  (q_as h a2_ 9 v3_ (((x2 >>> (((8 : Int32) * x4).toInt64 &&& 63)) &&& (255 : Int64)).toInt32)).bind fun h4_ =>
  (q_gi h4_ x0 6 19).bind fun v5_ =>
  (q_pi h4_ x0 6 19 (v5_ + (1 : Int32))).bind fun h6_ =>
  lt (x4 + (-1 : Int32)) fun v7_ =>
  k35 x0 x2 v7_ h6_)
def l_X6_feed_35 (f : Nat)  : Nat → Nat → Int64 → Int32 → Hp → Option (Int32 × Hp)
  | 0, _, _, _, _ => none
  | n + 1, x0, x2, x4, h => b_X6_feed_35 f  (l_X6_feed_35 f  n) x0 x2 x4 h
def f_X6_feed (f : Nat)  (x0 : Nat) (x1 : Int32) (x2 : Int64) (h : Hp) : Option (Int32 × Hp) :=
  bi (f_X6_in f x1.toInt64 (1 : Int64) (8 : Int64) h) fun v2_ h1_ =>
  if ¬ v2_ = 0 then
  ((q_gi h1_ x0 6 19).bind fun v3_ =>
  if (v3_ + x1) ≤ (400 : Int32) then
  (lt (x1 - (1 : Int32)) fun v4_ =>
  l_X6_feed_35 f f x0 x2 v4_ h1_)
  else
  (some ((-1000004 : Int32), h1_)))
  else
  (some ((-1000002 : Int32), h1_))
set_option maxRecDepth 20000 in
theorem t_X6_feed_35 {X : Cx} (o : Ok X RX6 cX6_feed 5 1 25 0 0 (some .int)) (f : Nat) {k35 : Nat → Int64 → Int32 → Hp → Option (Int32 × Hp)} (hk35 : ∀ (x0 : Nat) (x2 : Int64) (x4 : Int32) (h : Hp), Sim X (z_Zi X 0 0) 0 0 35 [(0, rf (xG X) x0), (2, .long x2), (4, .int x4)] [] h (k35 x0 x2 x4 h)) (x0 : Nat) (x2 : Int64) (x4 : Int32) (h : Hp) : Sim X (z_Zi X 0 0) 0 0 35 [(0, rf (xG X) x0), (2, .long x2), (4, .int x4)] [] h (b_X6_feed_35 f k35 x0 x2 x4 h) := by
  unfold b_X6_feed_35
  refine s_iload o 2 rfl dX6_feed_35 (q := 37) rfl ?_
  refine s_if_lt o (tgt := 77) dX6_feed_37 (by decide) (q := 40) rfl ?_ ?_
  · refine s_aload_n o 0 rfl dX6_feed_77 (q := 78) rfl ?_
    refine s_gi o kf_X6_126 dX6_feed_78 (q := 81) rfl (fun v1_ => ?_)
    exact s_iret o dX6_feed_81
  · refine s_aload_n o 0 rfl dX6_feed_40 (q := 41) rfl ?_
    refine s_gr o kf_X6_47 dX6_feed_41 (q := 44) rfl (fun a2_ => ?_)
    refine s_aload_n o 0 rfl dX6_feed_44 (q := 45) rfl ?_
    refine s_gi o kf_X6_126 dX6_feed_45 (q := 48) rfl (fun v3_ => ?_)
    refine s_lload_n o 1 rfl dX6_feed_48 (q := 49) rfl ?_
    refine s_bipush o dX6_feed_49 (v := (8 : Int32)) (by decide) (q := 51) rfl ?_
    refine s_iload o 2 rfl dX6_feed_51 (q := 53) rfl ?_
    refine s_imul o dX6_feed_53 (q := 54) rfl ?_
    refine s_lshr o dX6_feed_54 (q := 55) rfl ?_
    refine s_ldc2 o kl_X6_130 dX6_feed_55 (q := 58) rfl ?_
    refine s_land o dX6_feed_58 (q := 59) rfl ?_
    refine s_l2i o dX6_feed_59 (q := 60) rfl ?_
    refine s_iast o dX6_feed_60 (q := 61) rfl (fun h4_ => ?_)
    refine s_aload_n o 0 rfl dX6_feed_61 (q := 62) rfl ?_
    refine s_dup o rfl dX6_feed_62 (q := 63) rfl ?_
    refine s_gi o kf_X6_126 dX6_feed_63 (q := 66) rfl (fun v5_ => ?_)
    refine s_iconst o dX6_feed_66 (v := (1 : Int32)) (by decide) (q := 67) rfl ?_
    refine s_iadd o dX6_feed_67 (q := 68) rfl ?_
    refine s_pi o kf_X6_126 dX6_feed_68 (q := 71) rfl (fun h6_ => ?_)
    refine s_iinc o 2 rfl (v := (-1 : Int32)) (by decide) [1, 2, 0] (lv' := fun v7_ => [(0, rf (xG X) x0), (2, .long x2), (4, .int v7_)]) (fun _ => rfl) dX6_feed_71 (by decide) (q := 74) rfl (fun v7_ => ?_)
    refine s_goto o (tgt := 35) dX6_feed_74 (by decide) ?_
    exact s_sub [0, 1, 2] rfl (hk35 x0 x2 v7_ h6_)
theorem tl_X6_feed_35 {X : Cx} (o : Ok X RX6 cX6_feed 5 1 25 0 0 (some .int)) (f : Nat)  : ∀ (n : Nat) (x0 : Nat) (x2 : Int64) (x4 : Int32) (h : Hp), Sim X (z_Zi X 0 0) 0 0 35 [(0, rf (xG X) x0), (2, .long x2), (4, .int x4)] [] h (l_X6_feed_35 f n x0 x2 x4 h) := by
  intro n
  induction n with
  | zero => intro x0 x2 x4 h; exact s_none
  | succ n ih => intro x0 x2 x4 h; exact t_X6_feed_35 o f  ih x0 x2 x4 h
set_option maxRecDepth 20000 in
theorem t_X6_feed_0 {X : Cx} (o : Ok X RX6 cX6_feed 5 1 25 0 0 (some .int)) (f : Nat)  (x0 : Nat) (x1 : Int32) (x2 : Int64) (h : Hp) : Sim X (z_Zi X 0 0) 0 0 0 [(0, rf (xG X) x0), (1, .int x1), (2, .long x2)] [] h (f_X6_feed f x0 x1 x2 h) := by
  unfold f_X6_feed
  refine s_iload_n o 1 rfl dX6_feed_0 (q := 1) rfl ?_
  refine s_i2l o dX6_feed_1 (q := 2) rfl ?_
  refine s_lconst o dX6_feed_2 (v := (1 : Int64)) (by decide) (q := 3) rfl ?_
  refine s_ldc2 o kl_X6_123 dX6_feed_3 (q := 6) rfl ?_
  refine s_bi (fun r0 hr0 => runS o cs_X6_114 (c_X6_in (xG X) f x1.toInt64 (1 : Int64) (8 : Int64) h (xl X) r0 hr0) ⟨Nat.le_of_ble_eq_true rfl, Nat.le_of_ble_eq_true rfl⟩ rfl rfl (Nat.le_of_ble_eq_true rfl) dX6_feed_6 ⟨Nat.le_of_ble_eq_true rfl, Nat.le_of_ble_eq_true rfl⟩) (q := 9) rfl (cs' := 0) rfl (sl' := 0) rfl (fun v2_ h1_ => ?_)
  refine s_if_ne o (tgt := 15) dX6_feed_9 (by decide) (q := 12) rfl ?_ ?_
  · refine s_aload_n o 0 rfl dX6_feed_15 (q := 16) rfl ?_
    refine s_gi o kf_X6_126 dX6_feed_16 (q := 19) rfl (fun v3_ => ?_)
    refine s_iload_n o 1 rfl dX6_feed_19 (q := 20) rfl ?_
    refine s_iadd o dX6_feed_20 (q := 21) rfl ?_
    refine s_sipush o dX6_feed_21 (v := (400 : Int32)) (by decide) (q := 24) rfl ?_
    refine s_ic_le o (tgt := 30) dX6_feed_24 (by decide) (q := 27) rfl ?_ ?_
    · refine s_iload_n o 1 rfl dX6_feed_30 (q := 31) rfl ?_
      refine s_iconst o dX6_feed_31 (v := (1 : Int32)) (by decide) (q := 32) rfl ?_
      refine s_isub o dX6_feed_32 (q := 33) rfl ?_
      refine s_let (fun v4_ => ?_)
      refine s_istore o [1, 2, 3, 0] (lv' := [(0, rf (xG X) x0), (1, .int x1), (2, .long x2), (4, .int v4_)]) rfl dX6_feed_33 (by decide) (q := 35) rfl ?_
      exact s_sub [0, 2, 3] rfl (tl_X6_feed_35 o f f x0 x2 v4_ h1_)
    · refine s_ldc o kc_X6_129 dX6_feed_27 (q := 29) rfl ?_
      exact s_iret o dX6_feed_29
  · refine s_ldc o kc_X6_125 dX6_feed_12 (q := 14) rfl ?_
    exact s_iret o dX6_feed_14
theorem c_X6_feed (G : Gx) (f : Nat) (x0 : Nat) (x1 : Int32) (x2 : Int64) (h : Hp) : z_M z_qi G yX6_feed cX6_feed 5 (some .int) 1 25 0 0 [rf G x0, .int x1, .long x2] h (f_X6_feed f x0 x1 x2 h) :=
  z_met (by decide +kernel) (Nat.le_of_ble_eq_true rfl) (fun X hG hn o hnm => by
    subst hG
    show Sim X (z_Zi X 0 0) 0 0 0 [(0, rf (xG X) x0), (1, .int x1), (2, .long x2)] [] h _
    exact s_sub [0, 1, 2] rfl (t_X6_feed_0 o f x0 x1 x2 h))
/-! SixMapsModel.forget()I -/
def f_X6_forget (f : Nat)  (x0 : Nat) (h : Hp) : Option (Int32 × Hp) :=
  (q_gi h x0 6 50).bind fun v1_ =>
  (q_pi h x0 6 50 (0 : Int32)).bind fun h2_ =>
  some (v1_, h2_)
set_option maxRecDepth 20000 in
theorem t_X6_forget_0 {X : Cx} (o : Ok X RX6 cX6_forget 2 0 0 0 0 (some .int)) (f : Nat)  (x0 : Nat) (h : Hp) : Sim X (z_Zi X 0 0) 0 0 0 [(0, rf (xG X) x0)] [] h (f_X6_forget f x0 h) := by
  unfold f_X6_forget
  refine s_aload_n o 0 rfl dX6_forget_0 (q := 1) rfl ?_
  refine s_gi o kf_X6_259 dX6_forget_1 (q := 4) rfl (fun v1_ => ?_)
  refine s_istore_n o [1, 0] (lv' := [(0, rf (xG X) x0), (1, .int v1_)]) rfl dX6_forget_4 (by decide) (q := 5) rfl ?_
  refine s_aload_n o 0 rfl dX6_forget_5 (q := 6) rfl ?_
  refine s_iconst o dX6_forget_6 (v := (0 : Int32)) (by decide) (q := 7) rfl ?_
  refine s_pi o kf_X6_259 dX6_forget_7 (q := 10) rfl (fun h2_ => ?_)
  refine s_iload_n o 1 rfl dX6_forget_10 (q := 11) rfl ?_
  exact s_iret o dX6_forget_11
theorem c_X6_forget (G : Gx) (f : Nat) (x0 : Nat) (h : Hp) : z_M z_qi G yX6_forget cX6_forget 2 (some .int) 0 0 0 0 [rf G x0] h (f_X6_forget f x0 h) :=
  z_met (by decide +kernel) (Nat.le_of_ble_eq_true rfl) (fun X hG hn o hnm => by
    subst hG
    show Sim X (z_Zi X 0 0) 0 0 0 [(0, rf (xG X) x0)] [] h _
    exact s_sub [0] rfl (t_X6_forget_0 o f x0 h))
/-! SixMapsModel.found(I)I -/
def b_X6_found_187 (f : Nat) (k187 : Nat → Int32 → Int32 → Int32 → Int32 → Hp → Option (Int32 × Hp)) (x0 : Nat) (x1 : Int32) (x2 : Int32) (x4 : Int32) (x5 : Int32) (h : Hp) : Option (Int32 × Hp) :=
  if (6 : Int32) ≤ x5 then
  ((q_pi h x0 6 13 x2).bind fun h1_ =>
  some (x4, h1_))
  else
  ((q_gr h x0 6 11).bind fun a2_ =>
  (q_gr h x0 6 49).bind fun a3_ =>
  (q_ai h a3_ 9 x5).bind fun v4_ =>
  (q_as h a2_ 9 (((6 : Int32) * x1) + x5) v4_).bind fun h5_ =>
  lt (x5 + (1 : Int32)) fun v6_ =>
  k187 x0 x1 x2 x4 v6_ h5_)
def l_X6_found_187 (f : Nat)  : Nat → Nat → Int32 → Int32 → Int32 → Int32 → Hp → Option (Int32 × Hp)
  | 0, _, _, _, _, _, _ => none
  | n + 1, x0, x1, x2, x4, x5, h => b_X6_found_187 f  (l_X6_found_187 f  n) x0 x1 x2 x4 x5 h
def b_X6_found_184 (f : Nat)  (x0 : Nat) (x1 : Int32) (x2 : Int32) (x4 : Int32) (h : Hp) : Option (Int32 × Hp) :=
  l_X6_found_187 f f x0 x1 x2 x4 (0 : Int32) h
def b_X6_found_178 (f : Nat) (k99 : Nat → Int32 → Int32 → Int32 → Int32 → Int32 → Hp → Option (Int32 × Hp)) (x0 : Nat) (x1 : Int32) (x2 : Int32) (x3 : Int32) (x4 : Int32) (x5 : Int32) (h : Hp) : Option (Int32 × Hp) :=
  lt (x5 + (1 : Int32)) fun v1_ =>
  k99 x0 x1 x2 x3 x4 v1_ h
def b_X6_found_176 (f : Nat) (k99 : Nat → Int32 → Int32 → Int32 → Int32 → Int32 → Hp → Option (Int32 × Hp)) (x0 : Nat) (x1 : Int32) (x2 : Int32) (x3 : Int32) (x5 : Int32) (y0 : Int32) (h : Hp) : Option (Int32 × Hp) :=
  b_X6_found_178 f k99 x0 x1 x2 x3 y0 x5 h
def b_X6_found_99 (f : Nat) (k99 : Nat → Int32 → Int32 → Int32 → Int32 → Int32 → Hp → Option (Int32 × Hp)) (x0 : Nat) (x1 : Int32) (x2 : Int32) (x3 : Int32) (x4 : Int32) (x5 : Int32) (h : Hp) : Option (Int32 × Hp) :=
  if (54 : Int32) ≤ x5 then
  (b_X6_found_184 f x0 x1 x2 x4 h)
  else
  (if 0 ≤ x4 then
  (b_X6_found_184 f x0 x1 x2 x4 h)
  else
  (q_nz (9 : Int32) (
  lt (x5 / (9 : Int32)) fun v1_ =>
  q_nz (9 : Int32) (
  lt (x5 - x5 / (9 : Int32) * (9 : Int32)) fun v2_ =>
  if v1_ = x1 then
  (b_X6_found_178 f k99 x0 x1 x2 x3 x4 x5 h)
  else
  ((q_gi h x0 6 0).bind fun v3_ =>
  if v3_ ≤ v2_ then
  (b_X6_found_178 f k99 x0 x1 x2 x3 x4 x5 h)
  else
  ((q_gr h x0 6 11).bind fun a4_ =>
  (q_ai h a4_ 9 (((6 : Int32) * x1) + v1_)).bind fun v5_ =>
  (q_as h a4_ 9 (((6 : Int32) * x1) + v1_) (v5_ ||| ((1 : Int32) <<< (v2_ &&& 31)))).bind fun h6_ =>
  lt (x3 + (1 : Int32)) fun v7_ =>
  q_on h6_ x0 6 (
  bi (f_X6_mayMany f x0 x1 h6_) fun v10_ h9_ =>
  if ¬ v10_ = (1 : Int32) then
  (b_X6_found_176 f k99 x0 x1 x2 v7_ x5 (-1 : Int32) h9_)
  else
  (b_X6_found_176 f k99 x0 x1 x2 v7_ x5 v7_ h9_))))))))
def l_X6_found_99 (f : Nat)  : Nat → Nat → Int32 → Int32 → Int32 → Int32 → Int32 → Hp → Option (Int32 × Hp)
  | 0, _, _, _, _, _, _, _ => none
  | n + 1, x0, x1, x2, x3, x4, x5, h => b_X6_found_99 f  (l_X6_found_99 f  n) x0 x1 x2 x3 x4 x5 h
def b_X6_found_94 (f : Nat)  (x0 : Nat) (x1 : Int32) (x2 : Int32) (x3 : Int32) (y0 : Int32) (h : Hp) : Option (Int32 × Hp) :=
  l_X6_found_99 f f x0 x1 x2 x3 y0 (0 : Int32) h
def b_X6_found_71 (f : Nat) (k23 : Nat → Int32 → Int32 → Int32 → Hp → Option (Int32 × Hp)) (x0 : Nat) (x1 : Int32) (x2 : Int32) (x3 : Int32) (y0 : Nat) (y1 : Int32) (y2 : Int32) (h : Hp) : Option (Int32 × Hp) :=
  (q_as h y0 9 y1 y2).bind fun h1_ =>
  lt (x3 + (1 : Int32)) fun v2_ =>
  k23 x0 x1 x2 v2_ h1_
def b_X6_found_23 (f : Nat) (k23 : Nat → Int32 → Int32 → Int32 → Hp → Option (Int32 × Hp)) (x0 : Nat) (x1 : Int32) (x2 : Int32) (x3 : Int32) (h : Hp) : Option (Int32 × Hp) :=
  if (6 : Int32) ≤ x3 then
  (q_on h x0 6 (
  bi (f_X6_mayMany f x0 x1 h) fun v3_ h2_ =>
  if ¬ v3_ = (1 : Int32) then
  (b_X6_found_94 f x0 x1 x2 (0 : Int32) (-1 : Int32) h2_)
  else
  (b_X6_found_94 f x0 x1 x2 (0 : Int32) (0 : Int32) h2_)))
  else
  ((q_gr h x0 6 49).bind fun a4_ =>
  (q_gr h x0 6 11).bind fun a5_ =>
  (q_ai h a5_ 9 (((6 : Int32) * x1) + x3)).bind fun v6_ =>
  (q_as h a4_ 9 x3 v6_).bind fun h7_ =>
  (q_gr h7_ x0 6 11).bind fun a8_ =>
  if ¬ x3 = x1 then
  (b_X6_found_71 f k23 x0 x1 x2 x3 a8_ (((6 : Int32) * x1) + x3) (0 : Int32) h7_)
  else
  ((q_gr h7_ x0 6 49).bind fun a9_ =>
  (q_ai h7_ a9_ 9 x3).bind fun v10_ =>
  b_X6_found_71 f k23 x0 x1 x2 x3 a8_ (((6 : Int32) * x1) + x3) v10_ h7_))
def l_X6_found_23 (f : Nat)  : Nat → Nat → Int32 → Int32 → Int32 → Hp → Option (Int32 × Hp)
  | 0, _, _, _, _, _ => none
  | n + 1, x0, x1, x2, x3, h => b_X6_found_23 f  (l_X6_found_23 f  n) x0 x1 x2 x3 h
def f_X6_found (f : Nat)  (x0 : Nat) (x1 : Int32) (h : Hp) : Option (Int32 × Hp) :=
  bi (f_X6_isBand f x1 h) fun v2_ h1_ =>
  if ¬ v2_ = 0 then
  ((q_gi h1_ x0 6 13).bind fun v3_ =>
  (q_pi h1_ x0 6 13 (0 : Int32)).bind fun h4_ =>
  l_X6_found_23 f f x0 x1 v3_ (0 : Int32) h4_)
  else
  (some ((-1000001 : Int32), h1_))
set_option maxRecDepth 20000 in
theorem t_X6_found_187 {X : Cx} (o : Ok X RX6 cX6_found 8 4 99 0 0 (some .int)) (f : Nat) {k187 : Nat → Int32 → Int32 → Int32 → Int32 → Hp → Option (Int32 × Hp)} (hk187 : ∀ (x0 : Nat) (x1 : Int32) (x2 : Int32) (x4 : Int32) (x5 : Int32) (h : Hp), Sim X (z_Zi X 0 0) 0 0 187 [(0, rf (xG X) x0), (1, .int x1), (2, .int x2), (4, .int x4), (5, .int x5)] [] h (k187 x0 x1 x2 x4 x5 h)) (x0 : Nat) (x1 : Int32) (x2 : Int32) (x4 : Int32) (x5 : Int32) (h : Hp) : Sim X (z_Zi X 0 0) 0 0 187 [(0, rf (xG X) x0), (1, .int x1), (2, .int x2), (4, .int x4), (5, .int x5)] [] h (b_X6_found_187 f k187 x0 x1 x2 x4 x5 h) := by
  unfold b_X6_found_187
  refine s_iload o 4 rfl dX6_found_187 (q := 189) rfl ?_
  refine s_bipush o dX6_found_189 (v := (6 : Int32)) (by decide) (q := 191) rfl ?_
  refine s_ic_ge o (tgt := 219) dX6_found_191 (by decide) (q := 194) rfl ?_ ?_
  · refine s_aload_n o 0 rfl dX6_found_219 (q := 220) rfl ?_
    refine s_iload_n o 2 rfl dX6_found_220 (q := 221) rfl ?_
    refine s_pi o kf_X6_120 dX6_found_221 (q := 224) rfl (fun h1_ => ?_)
    refine s_iload o 3 rfl dX6_found_224 (q := 226) rfl ?_
    exact s_iret o dX6_found_226
  · refine s_aload_n o 0 rfl dX6_found_194 (q := 195) rfl ?_
    refine s_gr o kf_X6_32 dX6_found_195 (q := 198) rfl (fun a2_ => ?_)
    refine s_bipush o dX6_found_198 (v := (6 : Int32)) (by decide) (q := 200) rfl ?_
    refine s_iload_n o 1 rfl dX6_found_200 (q := 201) rfl ?_
    refine s_imul o dX6_found_201 (q := 202) rfl ?_
    refine s_iload o 4 rfl dX6_found_202 (q := 204) rfl ?_
    refine s_iadd o dX6_found_204 (q := 205) rfl ?_
    refine s_aload_n o 0 rfl dX6_found_205 (q := 206) rfl ?_
    refine s_gr o kf_X6_90 dX6_found_206 (q := 209) rfl (fun a3_ => ?_)
    refine s_iload o 4 rfl dX6_found_209 (q := 211) rfl ?_
    refine s_iald o dX6_found_211 (q := 212) rfl (fun v4_ => ?_)
    refine s_iast o dX6_found_212 (q := 213) rfl (fun h5_ => ?_)
    refine s_iinc o 4 rfl (v := (1 : Int32)) (by decide) [1, 2, 3, 4, 0] (lv' := fun v6_ => [(0, rf (xG X) x0), (1, .int x1), (2, .int x2), (4, .int x4), (5, .int v6_)]) (fun _ => rfl) dX6_found_213 (by decide) (q := 216) rfl (fun v6_ => ?_)
    refine s_goto o (tgt := 187) dX6_found_216 (by decide) ?_
    exact s_sub [0, 1, 2, 3, 4] rfl (hk187 x0 x1 x2 x4 v6_ h5_)
theorem tl_X6_found_187 {X : Cx} (o : Ok X RX6 cX6_found 8 4 99 0 0 (some .int)) (f : Nat)  : ∀ (n : Nat) (x0 : Nat) (x1 : Int32) (x2 : Int32) (x4 : Int32) (x5 : Int32) (h : Hp), Sim X (z_Zi X 0 0) 0 0 187 [(0, rf (xG X) x0), (1, .int x1), (2, .int x2), (4, .int x4), (5, .int x5)] [] h (l_X6_found_187 f n x0 x1 x2 x4 x5 h) := by
  intro n
  induction n with
  | zero => intro x0 x1 x2 x4 x5 h; exact s_none
  | succ n ih => intro x0 x1 x2 x4 x5 h; exact t_X6_found_187 o f  ih x0 x1 x2 x4 x5 h
set_option maxRecDepth 20000 in
theorem t_X6_found_184 {X : Cx} (o : Ok X RX6 cX6_found 8 4 99 0 0 (some .int)) (f : Nat)  (x0 : Nat) (x1 : Int32) (x2 : Int32) (x4 : Int32) (h : Hp) : Sim X (z_Zi X 0 0) 0 0 184 [(0, rf (xG X) x0), (1, .int x1), (2, .int x2), (4, .int x4)] [] h (b_X6_found_184 f x0 x1 x2 x4 h) := by
  unfold b_X6_found_184
  refine s_iconst o dX6_found_184 (v := (0 : Int32)) (by decide) (q := 185) rfl ?_
  refine s_istore o [1, 2, 3, 4, 0] (lv' := [(0, rf (xG X) x0), (1, .int x1), (2, .int x2), (4, .int x4), (5, .int (0 : Int32))]) rfl dX6_found_185 (by decide) (q := 187) rfl ?_
  exact s_sub [0, 1, 2, 3, 4] rfl (tl_X6_found_187 o f f x0 x1 x2 x4 (0 : Int32) h)
set_option maxRecDepth 20000 in
theorem t_X6_found_178 {X : Cx} (o : Ok X RX6 cX6_found 8 4 99 0 0 (some .int)) (f : Nat) {k99 : Nat → Int32 → Int32 → Int32 → Int32 → Int32 → Hp → Option (Int32 × Hp)} (hk99 : ∀ (x0 : Nat) (x1 : Int32) (x2 : Int32) (x3 : Int32) (x4 : Int32) (x5 : Int32) (h : Hp), Sim X (z_Zi X 0 0) 0 0 99 [(0, rf (xG X) x0), (1, .int x1), (2, .int x2), (3, .int x3), (4, .int x4), (5, .int x5)] [] h (k99 x0 x1 x2 x3 x4 x5 h)) (x0 : Nat) (x1 : Int32) (x2 : Int32) (x3 : Int32) (x4 : Int32) (x5 : Int32) (h : Hp) : Sim X (z_Zi X 0 0) 0 0 178 [(0, rf (xG X) x0), (1, .int x1), (2, .int x2), (3, .int x3), (4, .int x4), (5, .int x5)] [] h (b_X6_found_178 f k99 x0 x1 x2 x3 x4 x5 h) := by
  unfold b_X6_found_178
  refine s_iinc o 5 rfl (v := (1 : Int32)) (by decide) [1, 2, 3, 4, 5, 0] (lv' := fun v1_ => [(0, rf (xG X) x0), (1, .int x1), (2, .int x2), (3, .int x3), (4, .int x4), (5, .int v1_)]) (fun _ => rfl) dX6_found_178 (by decide) (q := 181) rfl (fun v1_ => ?_)
  refine s_goto o (tgt := 99) dX6_found_181 (by decide) ?_
  exact s_sub [0, 1, 2, 3, 4, 5] rfl (hk99 x0 x1 x2 x3 x4 v1_ h)
set_option maxRecDepth 20000 in
theorem t_X6_found_176 {X : Cx} (o : Ok X RX6 cX6_found 8 4 99 0 0 (some .int)) (f : Nat) {k99 : Nat → Int32 → Int32 → Int32 → Int32 → Int32 → Hp → Option (Int32 × Hp)} (hk99 : ∀ (x0 : Nat) (x1 : Int32) (x2 : Int32) (x3 : Int32) (x4 : Int32) (x5 : Int32) (h : Hp), Sim X (z_Zi X 0 0) 0 0 99 [(0, rf (xG X) x0), (1, .int x1), (2, .int x2), (3, .int x3), (4, .int x4), (5, .int x5)] [] h (k99 x0 x1 x2 x3 x4 x5 h)) (x0 : Nat) (x1 : Int32) (x2 : Int32) (x3 : Int32) (x5 : Int32) (y0 : Int32) (h : Hp) : Sim X (z_Zi X 0 0) 0 0 176 [(0, rf (xG X) x0), (1, .int x1), (2, .int x2), (3, .int x3), (5, .int x5)] [.int y0] h (b_X6_found_176 f k99 x0 x1 x2 x3 x5 y0 h) := by
  unfold b_X6_found_176
  refine s_istore o [1, 2, 3, 4, 0, 5] (lv' := [(0, rf (xG X) x0), (1, .int x1), (2, .int x2), (3, .int x3), (4, .int y0), (5, .int x5)]) rfl dX6_found_176 (by decide) (q := 178) rfl ?_
  exact s_sub [0, 1, 2, 3, 4, 5] rfl (t_X6_found_178 o f hk99 x0 x1 x2 x3 y0 x5 h)
set_option maxRecDepth 20000 in
theorem t_X6_found_99 {X : Cx} (o : Ok X RX6 cX6_found 8 4 99 0 0 (some .int)) (f : Nat) {k99 : Nat → Int32 → Int32 → Int32 → Int32 → Int32 → Hp → Option (Int32 × Hp)} (hk99 : ∀ (x0 : Nat) (x1 : Int32) (x2 : Int32) (x3 : Int32) (x4 : Int32) (x5 : Int32) (h : Hp), Sim X (z_Zi X 0 0) 0 0 99 [(0, rf (xG X) x0), (1, .int x1), (2, .int x2), (3, .int x3), (4, .int x4), (5, .int x5)] [] h (k99 x0 x1 x2 x3 x4 x5 h)) (x0 : Nat) (x1 : Int32) (x2 : Int32) (x3 : Int32) (x4 : Int32) (x5 : Int32) (h : Hp) : Sim X (z_Zi X 0 0) 0 0 99 [(0, rf (xG X) x0), (1, .int x1), (2, .int x2), (3, .int x3), (4, .int x4), (5, .int x5)] [] h (b_X6_found_99 f k99 x0 x1 x2 x3 x4 x5 h) := by
  unfold b_X6_found_99
  refine s_iload o 5 rfl dX6_found_99 (q := 101) rfl ?_
  refine s_bipush o dX6_found_101 (v := (54 : Int32)) (by decide) (q := 103) rfl ?_
  refine s_ic_ge o (tgt := 184) dX6_found_103 (by decide) (q := 106) rfl ?_ ?_
  · exact s_sub [0, 1, 2, 4] rfl (t_X6_found_184 o f x0 x1 x2 x4 h)
  · refine s_iload o 4 rfl dX6_found_106 (q := 108) rfl ?_
    refine s_if_ge o (tgt := 184) dX6_found_108 (by decide) (q := 111) rfl ?_ ?_
    · exact s_sub [0, 1, 2, 4] rfl (t_X6_found_184 o f x0 x1 x2 x4 h)
    · refine s_iload o 5 rfl dX6_found_111 (q := 113) rfl ?_
      refine s_bipush o dX6_found_113 (v := (9 : Int32)) (by decide) (q := 115) rfl ?_
      refine s_idiv o dX6_found_115 (q := 116) rfl ?_
      refine s_let (fun v1_ => ?_)
      refine s_istore o [1, 2, 3, 4, 5, 6, 0] (lv' := [(0, rf (xG X) x0), (1, .int x1), (2, .int x2), (3, .int x3), (4, .int x4), (5, .int x5), (6, .int v1_)]) rfl dX6_found_116 (by decide) (q := 118) rfl ?_
      refine s_iload o 5 rfl dX6_found_118 (q := 120) rfl ?_
      refine s_bipush o dX6_found_120 (v := (9 : Int32)) (by decide) (q := 122) rfl ?_
      refine s_irem o dX6_found_122 (q := 123) rfl ?_
      refine s_let (fun v2_ => ?_)
      refine s_istore o [1, 2, 3, 4, 5, 6, 7, 0] (lv' := [(0, rf (xG X) x0), (1, .int x1), (2, .int x2), (3, .int x3), (4, .int x4), (5, .int x5), (6, .int v1_), (7, .int v2_)]) rfl dX6_found_123 (by decide) (q := 125) rfl ?_
      refine s_iload o 6 rfl dX6_found_125 (q := 127) rfl ?_
      refine s_iload_n o 1 rfl dX6_found_127 (q := 128) rfl ?_
      refine s_ic_eq o (tgt := 178) dX6_found_128 (by decide) (q := 131) rfl ?_ ?_
      · exact s_sub [0, 1, 2, 3, 4, 5] rfl (t_X6_found_178 o f hk99 x0 x1 x2 x3 x4 x5 h)
      · refine s_iload o 7 rfl dX6_found_131 (q := 133) rfl ?_
        refine s_aload_n o 0 rfl dX6_found_133 (q := 134) rfl ?_
        refine s_gi o kf_X6_111 dX6_found_134 (q := 137) rfl (fun v3_ => ?_)
        refine s_ic_ge o (tgt := 178) dX6_found_137 (by decide) (q := 140) rfl ?_ ?_
        · exact s_sub [0, 1, 2, 3, 4, 5] rfl (t_X6_found_178 o f hk99 x0 x1 x2 x3 x4 x5 h)
        · refine s_aload_n o 0 rfl dX6_found_140 (q := 141) rfl ?_
          refine s_gr o kf_X6_32 dX6_found_141 (q := 144) rfl (fun a4_ => ?_)
          refine s_bipush o dX6_found_144 (v := (6 : Int32)) (by decide) (q := 146) rfl ?_
          refine s_iload_n o 1 rfl dX6_found_146 (q := 147) rfl ?_
          refine s_imul o dX6_found_147 (q := 148) rfl ?_
          refine s_iload o 6 rfl dX6_found_148 (q := 150) rfl ?_
          refine s_iadd o dX6_found_150 (q := 151) rfl ?_
          refine s_dup2 o rfl rfl dX6_found_151 (q := 152) rfl ?_
          refine s_iald o dX6_found_152 (q := 153) rfl (fun v5_ => ?_)
          refine s_iconst o dX6_found_153 (v := (1 : Int32)) (by decide) (q := 154) rfl ?_
          refine s_iload o 7 rfl dX6_found_154 (q := 156) rfl ?_
          refine s_ishl o dX6_found_156 (q := 157) rfl ?_
          refine s_ior o dX6_found_157 (q := 158) rfl ?_
          refine s_iast o dX6_found_158 (q := 159) rfl (fun h6_ => ?_)
          refine s_iinc o 3 rfl (v := (1 : Int32)) (by decide) [1, 2, 3, 0, 4, 5, 6, 7] (lv' := fun v7_ => [(0, rf (xG X) x0), (1, .int x1), (2, .int x2), (3, .int v7_), (4, .int x4), (5, .int x5), (6, .int v1_), (7, .int v2_)]) (fun _ => rfl) dX6_found_159 (by decide) (q := 162) rfl (fun v7_ => ?_)
          refine s_aload_n o 0 rfl dX6_found_162 (q := 163) rfl ?_
          refine s_iload_n o 1 rfl dX6_found_163 (q := 164) rfl ?_
          refine s_on (fun hk8_ => ?_)
          refine s_bi (fun r0 hr0 => runV o hk8_ cv_X6_330 (c_X6_mayMany (xG X) f x0 x1 h6_ (xl X) r0 hr0) ⟨Nat.le_of_ble_eq_true rfl, Nat.le_of_ble_eq_true rfl⟩ rfl rfl (Nat.le_of_ble_eq_true rfl) dX6_found_164 ⟨Nat.le_of_ble_eq_true rfl, Nat.le_of_ble_eq_true rfl⟩) (q := 167) rfl (cs' := 0) rfl (sl' := 0) rfl (fun v10_ h9_ => ?_)
          refine s_iconst o dX6_found_167 (v := (1 : Int32)) (by decide) (q := 168) rfl ?_
          refine s_ic_ne o (tgt := 175) dX6_found_168 (by decide) (q := 171) rfl ?_ ?_
          · refine s_iconst o dX6_found_175 (v := (-1 : Int32)) (by decide) (q := 176) rfl ?_
            exact s_sub [0, 1, 2, 3, 5] rfl (t_X6_found_176 o f hk99 x0 x1 x2 v7_ x5 (-1 : Int32) h9_)
          · refine s_iload_n o 3 rfl dX6_found_171 (q := 172) rfl ?_
            refine s_goto o (tgt := 176) dX6_found_172 (by decide) ?_
            exact s_sub [0, 1, 2, 3, 5] rfl (t_X6_found_176 o f hk99 x0 x1 x2 v7_ x5 v7_ h9_)
theorem tl_X6_found_99 {X : Cx} (o : Ok X RX6 cX6_found 8 4 99 0 0 (some .int)) (f : Nat)  : ∀ (n : Nat) (x0 : Nat) (x1 : Int32) (x2 : Int32) (x3 : Int32) (x4 : Int32) (x5 : Int32) (h : Hp), Sim X (z_Zi X 0 0) 0 0 99 [(0, rf (xG X) x0), (1, .int x1), (2, .int x2), (3, .int x3), (4, .int x4), (5, .int x5)] [] h (l_X6_found_99 f n x0 x1 x2 x3 x4 x5 h) := by
  intro n
  induction n with
  | zero => intro x0 x1 x2 x3 x4 x5 h; exact s_none
  | succ n ih => intro x0 x1 x2 x3 x4 x5 h; exact t_X6_found_99 o f  ih x0 x1 x2 x3 x4 x5 h
set_option maxRecDepth 20000 in
theorem t_X6_found_94 {X : Cx} (o : Ok X RX6 cX6_found 8 4 99 0 0 (some .int)) (f : Nat)  (x0 : Nat) (x1 : Int32) (x2 : Int32) (x3 : Int32) (y0 : Int32) (h : Hp) : Sim X (z_Zi X 0 0) 0 0 94 [(0, rf (xG X) x0), (1, .int x1), (2, .int x2), (3, .int x3)] [.int y0] h (b_X6_found_94 f x0 x1 x2 x3 y0 h) := by
  unfold b_X6_found_94
  refine s_istore o [1, 2, 3, 4, 0] (lv' := [(0, rf (xG X) x0), (1, .int x1), (2, .int x2), (3, .int x3), (4, .int y0)]) rfl dX6_found_94 (by decide) (q := 96) rfl ?_
  refine s_iconst o dX6_found_96 (v := (0 : Int32)) (by decide) (q := 97) rfl ?_
  refine s_istore o [1, 2, 3, 4, 5, 0] (lv' := [(0, rf (xG X) x0), (1, .int x1), (2, .int x2), (3, .int x3), (4, .int y0), (5, .int (0 : Int32))]) rfl dX6_found_97 (by decide) (q := 99) rfl ?_
  exact s_sub [0, 1, 2, 3, 4, 5] rfl (tl_X6_found_99 o f f x0 x1 x2 x3 y0 (0 : Int32) h)
set_option maxRecDepth 20000 in
theorem t_X6_found_71 {X : Cx} (o : Ok X RX6 cX6_found 8 4 99 0 0 (some .int)) (f : Nat) {k23 : Nat → Int32 → Int32 → Int32 → Hp → Option (Int32 × Hp)} (hk23 : ∀ (x0 : Nat) (x1 : Int32) (x2 : Int32) (x3 : Int32) (h : Hp), Sim X (z_Zi X 0 0) 0 0 23 [(0, rf (xG X) x0), (1, .int x1), (2, .int x2), (3, .int x3)] [] h (k23 x0 x1 x2 x3 h)) (x0 : Nat) (x1 : Int32) (x2 : Int32) (x3 : Int32) (y0 : Nat) (y1 : Int32) (y2 : Int32) (h : Hp) : Sim X (z_Zi X 0 0) 0 0 71 [(0, rf (xG X) x0), (1, .int x1), (2, .int x2), (3, .int x3)] [.int y2, .int y1, rf (xG X) y0] h (b_X6_found_71 f k23 x0 x1 x2 x3 y0 y1 y2 h) := by
  unfold b_X6_found_71
  refine s_iast o dX6_found_71 (q := 72) rfl (fun h1_ => ?_)
  refine s_iinc o 3 rfl (v := (1 : Int32)) (by decide) [1, 2, 3, 0] (lv' := fun v2_ => [(0, rf (xG X) x0), (1, .int x1), (2, .int x2), (3, .int v2_)]) (fun _ => rfl) dX6_found_72 (by decide) (q := 75) rfl (fun v2_ => ?_)
  refine s_goto o (tgt := 23) dX6_found_75 (by decide) ?_
  exact s_sub [0, 1, 2, 3] rfl (hk23 x0 x1 x2 v2_ h1_)
set_option maxRecDepth 20000 in
theorem t_X6_found_23 {X : Cx} (o : Ok X RX6 cX6_found 8 4 99 0 0 (some .int)) (f : Nat) {k23 : Nat → Int32 → Int32 → Int32 → Hp → Option (Int32 × Hp)} (hk23 : ∀ (x0 : Nat) (x1 : Int32) (x2 : Int32) (x3 : Int32) (h : Hp), Sim X (z_Zi X 0 0) 0 0 23 [(0, rf (xG X) x0), (1, .int x1), (2, .int x2), (3, .int x3)] [] h (k23 x0 x1 x2 x3 h)) (x0 : Nat) (x1 : Int32) (x2 : Int32) (x3 : Int32) (h : Hp) : Sim X (z_Zi X 0 0) 0 0 23 [(0, rf (xG X) x0), (1, .int x1), (2, .int x2), (3, .int x3)] [] h (b_X6_found_23 f k23 x0 x1 x2 x3 h) := by
  unfold b_X6_found_23
  refine s_iload_n o 3 rfl dX6_found_23 (q := 24) rfl ?_
  refine s_bipush o dX6_found_24 (v := (6 : Int32)) (by decide) (q := 26) rfl ?_
  refine s_ic_ge o (tgt := 78) dX6_found_26 (by decide) (q := 29) rfl ?_ ?_
  · refine s_iconst o dX6_found_78 (v := (0 : Int32)) (by decide) (q := 79) rfl ?_
    refine s_istore_n o [1, 2, 3, 0] (lv' := [(0, rf (xG X) x0), (1, .int x1), (2, .int x2), (3, .int (0 : Int32))]) rfl dX6_found_79 (by decide) (q := 80) rfl ?_
    refine s_aload_n o 0 rfl dX6_found_80 (q := 81) rfl ?_
    refine s_iload_n o 1 rfl dX6_found_81 (q := 82) rfl ?_
    refine s_on (fun hk1_ => ?_)
    refine s_bi (fun r0 hr0 => runV o hk1_ cv_X6_330 (c_X6_mayMany (xG X) f x0 x1 h (xl X) r0 hr0) ⟨Nat.le_of_ble_eq_true rfl, Nat.le_of_ble_eq_true rfl⟩ rfl rfl (Nat.le_of_ble_eq_true rfl) dX6_found_82 ⟨Nat.le_of_ble_eq_true rfl, Nat.le_of_ble_eq_true rfl⟩) (q := 85) rfl (cs' := 0) rfl (sl' := 0) rfl (fun v3_ h2_ => ?_)
    refine s_iconst o dX6_found_85 (v := (1 : Int32)) (by decide) (q := 86) rfl ?_
    refine s_ic_ne o (tgt := 93) dX6_found_86 (by decide) (q := 89) rfl ?_ ?_
    · refine s_iconst o dX6_found_93 (v := (-1 : Int32)) (by decide) (q := 94) rfl ?_
      exact s_sub [0, 1, 2, 3] rfl (t_X6_found_94 o f x0 x1 x2 (0 : Int32) (-1 : Int32) h2_)
    · refine s_iconst o dX6_found_89 (v := (0 : Int32)) (by decide) (q := 90) rfl ?_
      refine s_goto o (tgt := 94) dX6_found_90 (by decide) ?_
      exact s_sub [0, 1, 2, 3] rfl (t_X6_found_94 o f x0 x1 x2 (0 : Int32) (0 : Int32) h2_)
  · refine s_aload_n o 0 rfl dX6_found_29 (q := 30) rfl ?_
    refine s_gr o kf_X6_90 dX6_found_30 (q := 33) rfl (fun a4_ => ?_)
    refine s_iload_n o 3 rfl dX6_found_33 (q := 34) rfl ?_
    refine s_aload_n o 0 rfl dX6_found_34 (q := 35) rfl ?_
    refine s_gr o kf_X6_32 dX6_found_35 (q := 38) rfl (fun a5_ => ?_)
    refine s_bipush o dX6_found_38 (v := (6 : Int32)) (by decide) (q := 40) rfl ?_
    refine s_iload_n o 1 rfl dX6_found_40 (q := 41) rfl ?_
    refine s_imul o dX6_found_41 (q := 42) rfl ?_
    refine s_iload_n o 3 rfl dX6_found_42 (q := 43) rfl ?_
    refine s_iadd o dX6_found_43 (q := 44) rfl ?_
    refine s_iald o dX6_found_44 (q := 45) rfl (fun v6_ => ?_)
    refine s_iast o dX6_found_45 (q := 46) rfl (fun h7_ => ?_)
    refine s_aload_n o 0 rfl dX6_found_46 (q := 47) rfl ?_
    refine s_gr o kf_X6_32 dX6_found_47 (q := 50) rfl (fun a8_ => ?_)
    refine s_bipush o dX6_found_50 (v := (6 : Int32)) (by decide) (q := 52) rfl ?_
    refine s_iload_n o 1 rfl dX6_found_52 (q := 53) rfl ?_
    refine s_imul o dX6_found_53 (q := 54) rfl ?_
    refine s_iload_n o 3 rfl dX6_found_54 (q := 55) rfl ?_
    refine s_iadd o dX6_found_55 (q := 56) rfl ?_
    refine s_iload_n o 3 rfl dX6_found_56 (q := 57) rfl ?_
    refine s_iload_n o 1 rfl dX6_found_57 (q := 58) rfl ?_
    refine s_ic_ne o (tgt := 70) dX6_found_58 (by decide) (q := 61) rfl ?_ ?_
    · refine s_iconst o dX6_found_70 (v := (0 : Int32)) (by decide) (q := 71) rfl ?_
      exact s_sub [0, 1, 2, 3] rfl (t_X6_found_71 o f hk23 x0 x1 x2 x3 a8_ (((6 : Int32) * x1) + x3) (0 : Int32) h7_)
    · refine s_aload_n o 0 rfl dX6_found_61 (q := 62) rfl ?_
      refine s_gr o kf_X6_90 dX6_found_62 (q := 65) rfl (fun a9_ => ?_)
      refine s_iload_n o 3 rfl dX6_found_65 (q := 66) rfl ?_
      refine s_iald o dX6_found_66 (q := 67) rfl (fun v10_ => ?_)
      refine s_goto o (tgt := 71) dX6_found_67 (by decide) ?_
      exact s_sub [0, 1, 2, 3] rfl (t_X6_found_71 o f hk23 x0 x1 x2 x3 a8_ (((6 : Int32) * x1) + x3) v10_ h7_)
theorem tl_X6_found_23 {X : Cx} (o : Ok X RX6 cX6_found 8 4 99 0 0 (some .int)) (f : Nat)  : ∀ (n : Nat) (x0 : Nat) (x1 : Int32) (x2 : Int32) (x3 : Int32) (h : Hp), Sim X (z_Zi X 0 0) 0 0 23 [(0, rf (xG X) x0), (1, .int x1), (2, .int x2), (3, .int x3)] [] h (l_X6_found_23 f n x0 x1 x2 x3 h) := by
  intro n
  induction n with
  | zero => intro x0 x1 x2 x3 h; exact s_none
  | succ n ih => intro x0 x1 x2 x3 h; exact t_X6_found_23 o f  ih x0 x1 x2 x3 h
set_option maxRecDepth 20000 in
theorem t_X6_found_0 {X : Cx} (o : Ok X RX6 cX6_found 8 4 99 0 0 (some .int)) (f : Nat)  (x0 : Nat) (x1 : Int32) (h : Hp) : Sim X (z_Zi X 0 0) 0 0 0 [(0, rf (xG X) x0), (1, .int x1)] [] h (f_X6_found f x0 x1 h) := by
  unfold f_X6_found
  refine s_iload_n o 1 rfl dX6_found_0 (q := 1) rfl ?_
  refine s_bi (fun r0 hr0 => runS o cs_X6_267 (c_X6_isBand (xG X) f x1 h (xl X) r0 hr0) ⟨Nat.le_of_ble_eq_true rfl, Nat.le_of_ble_eq_true rfl⟩ rfl rfl (Nat.le_of_ble_eq_true rfl) dX6_found_1 ⟨Nat.le_of_ble_eq_true rfl, Nat.le_of_ble_eq_true rfl⟩) (q := 4) rfl (cs' := 0) rfl (sl' := 0) rfl (fun v2_ h1_ => ?_)
  refine s_if_ne o (tgt := 11) dX6_found_4 (by decide) (q := 7) rfl ?_ ?_
  · refine s_aload_n o 0 rfl dX6_found_11 (q := 12) rfl ?_
    refine s_gi o kf_X6_120 dX6_found_12 (q := 15) rfl (fun v3_ => ?_)
    refine s_istore_n o [1, 2, 0] (lv' := [(0, rf (xG X) x0), (1, .int x1), (2, .int v3_)]) rfl dX6_found_15 (by decide) (q := 16) rfl ?_
    refine s_aload_n o 0 rfl dX6_found_16 (q := 17) rfl ?_
    refine s_iconst o dX6_found_17 (v := (0 : Int32)) (by decide) (q := 18) rfl ?_
    refine s_pi o kf_X6_120 dX6_found_18 (q := 21) rfl (fun h4_ => ?_)
    refine s_iconst o dX6_found_21 (v := (0 : Int32)) (by decide) (q := 22) rfl ?_
    refine s_istore_n o [1, 2, 3, 0] (lv' := [(0, rf (xG X) x0), (1, .int x1), (2, .int v3_), (3, .int (0 : Int32))]) rfl dX6_found_22 (by decide) (q := 23) rfl ?_
    exact s_sub [0, 1, 2, 3] rfl (tl_X6_found_23 o f f x0 x1 v3_ (0 : Int32) h4_)
  · refine s_ldcw o kc_X6_266 dX6_found_7 (q := 10) rfl ?_
    exact s_iret o dX6_found_10
theorem c_X6_found (G : Gx) (f : Nat) (x0 : Nat) (x1 : Int32) (h : Hp) : z_M z_qi G yX6_found cX6_found 8 (some .int) 4 99 0 0 [rf G x0, .int x1] h (f_X6_found f x0 x1 h) :=
  z_met (by decide +kernel) (Nat.le_of_ble_eq_true rfl) (fun X hG hn o hnm => by
    subst hG
    show Sim X (z_Zi X 0 0) 0 0 0 [(0, rf (xG X) x0), (1, .int x1)] [] h _
    exact s_sub [0, 1] rfl (t_X6_found_0 o f x0 x1 h))
/-! SixMapsModel.goBack(I)I -/
def b_X6_goBack_93 (f : Nat) (k93 : Nat → Int32 → Int32 → Hp → Option (Int32 × Hp)) (x0 : Nat) (x2 : Int32) (x3 : Int32) (h : Hp) : Option (Int32 × Hp) :=
  if (20 : Int32) ≤ x3 then
  ((q_gr h x0 6 54).bind fun a1_ =>
  (q_ai h a1_ 9 (x2 + (82 : Int32))).bind fun v2_ =>
  (q_pi h x0 6 13 v2_).bind fun h3_ =>
  (q_gr h3_ x0 6 54).bind fun a4_ =>
  (q_ai h3_ a4_ 9 (x2 + (83 : Int32))).bind fun v5_ =>
  (q_pi h3_ x0 6 16 v5_).bind fun h6_ =>
  (q_gr h6_ x0 6 54).bind fun a7_ =>
  (q_ai h6_ a7_ 9 (x2 + (84 : Int32))).bind fun v8_ =>
  (q_pi h6_ x0 6 17 v8_).bind fun h9_ =>
  some ((1 : Int32), h9_))
  else
  ((q_gr h x0 6 14).bind fun a10_ =>
  (q_gr h x0 6 54).bind fun a11_ =>
  (q_ai h a11_ 9 ((x2 + (42 : Int32)) + x3)).bind fun v12_ =>
  (q_as h a10_ 9 x3 v12_).bind fun h13_ =>
  (q_gr h13_ x0 6 15).bind fun a14_ =>
  (q_gr h13_ x0 6 54).bind fun a15_ =>
  (q_ai h13_ a15_ 9 ((x2 + (62 : Int32)) + x3)).bind fun v16_ =>
  (q_as h13_ a14_ 9 x3 v16_).bind fun h17_ =>
  lt (x3 + (1 : Int32)) fun v18_ =>
  k93 x0 x2 v18_ h17_)
def l_X6_goBack_93 (f : Nat)  : Nat → Nat → Int32 → Int32 → Hp → Option (Int32 × Hp)
  | 0, _, _, _, _ => none
  | n + 1, x0, x2, x3, h => b_X6_goBack_93 f  (l_X6_goBack_93 f  n) x0 x2 x3 h
def b_X6_goBack_62 (f : Nat) (k62 : Nat → Int32 → Int32 → Hp → Option (Int32 × Hp)) (x0 : Nat) (x2 : Int32) (x3 : Int32) (h : Hp) : Option (Int32 × Hp) :=
  if (6 : Int32) ≤ x3 then
  (l_X6_goBack_93 f f x0 x2 (0 : Int32) h)
  else
  ((q_gr h x0 6 12).bind fun a1_ =>
  (q_gr h x0 6 54).bind fun a2_ =>
  (q_ai h a2_ 9 ((x2 + (36 : Int32)) + x3)).bind fun v3_ =>
  (q_as h a1_ 9 x3 v3_).bind fun h4_ =>
  lt (x3 + (1 : Int32)) fun v5_ =>
  k62 x0 x2 v5_ h4_)
def l_X6_goBack_62 (f : Nat)  : Nat → Nat → Int32 → Int32 → Hp → Option (Int32 × Hp)
  | 0, _, _, _, _ => none
  | n + 1, x0, x2, x3, h => b_X6_goBack_62 f  (l_X6_goBack_62 f  n) x0 x2 x3 h
def b_X6_goBack_34 (f : Nat) (k34 : Nat → Int32 → Int32 → Hp → Option (Int32 × Hp)) (x0 : Nat) (x2 : Int32) (x3 : Int32) (h : Hp) : Option (Int32 × Hp) :=
  if (36 : Int32) ≤ x3 then
  (l_X6_goBack_62 f f x0 x2 (0 : Int32) h)
  else
  ((q_gr h x0 6 11).bind fun a1_ =>
  (q_gr h x0 6 54).bind fun a2_ =>
  (q_ai h a2_ 9 (x2 + x3)).bind fun v3_ =>
  (q_as h a1_ 9 x3 v3_).bind fun h4_ =>
  lt (x3 + (1 : Int32)) fun v5_ =>
  k34 x0 x2 v5_ h4_)
def l_X6_goBack_34 (f : Nat)  : Nat → Nat → Int32 → Int32 → Hp → Option (Int32 × Hp)
  | 0, _, _, _, _ => none
  | n + 1, x0, x2, x3, h => b_X6_goBack_34 f  (l_X6_goBack_34 f  n) x0 x2 x3 h
def f_X6_goBack (f : Nat)  (x0 : Nat) (x1 : Int32) (h : Hp) : Option (Int32 × Hp) :=
  bi (f_X6_in f x1.toInt64 (0 : Int64) (1 : Int64) h) fun v2_ h1_ =>
  if ¬ v2_ = 0 then
  ((q_gr h1_ x0 6 55).bind fun a3_ =>
  (q_ai h1_ a3_ 10 x1).bind fun v4_ =>
  if ¬ v4_ = 0 then
  (lt ((100 : Int32) * x1) fun v5_ =>
  l_X6_goBack_34 f f x0 v5_ (0 : Int32) h1_)
  else
  (some ((-1000003 : Int32), h1_)))
  else
  (some ((-1000001 : Int32), h1_))
set_option maxRecDepth 20000 in
theorem t_X6_goBack_93 {X : Cx} (o : Ok X RX6 cX6_goBack 4 1 25 0 0 (some .int)) (f : Nat) {k93 : Nat → Int32 → Int32 → Hp → Option (Int32 × Hp)} (hk93 : ∀ (x0 : Nat) (x2 : Int32) (x3 : Int32) (h : Hp), Sim X (z_Zi X 0 0) 0 0 93 [(0, rf (xG X) x0), (2, .int x2), (3, .int x3)] [] h (k93 x0 x2 x3 h)) (x0 : Nat) (x2 : Int32) (x3 : Int32) (h : Hp) : Sim X (z_Zi X 0 0) 0 0 93 [(0, rf (xG X) x0), (2, .int x2), (3, .int x3)] [] h (b_X6_goBack_93 f k93 x0 x2 x3 h) := by
  unfold b_X6_goBack_93
  refine s_iload_n o 2 rfl dX6_goBack_93 (q := 94) rfl ?_
  refine s_bipush o dX6_goBack_94 (v := (20 : Int32)) (by decide) (q := 96) rfl ?_
  refine s_ic_ge o (tgt := 139) dX6_goBack_96 (by decide) (q := 99) rfl ?_ ?_
  · refine s_aload_n o 0 rfl dX6_goBack_139 (q := 140) rfl ?_
    refine s_aload_n o 0 rfl dX6_goBack_140 (q := 141) rfl ?_
    refine s_gr o kf_X6_102 dX6_goBack_141 (q := 144) rfl (fun a1_ => ?_)
    refine s_iload_n o 1 rfl dX6_goBack_144 (q := 145) rfl ?_
    refine s_bipush o dX6_goBack_145 (v := (82 : Int32)) (by decide) (q := 147) rfl ?_
    refine s_iadd o dX6_goBack_147 (q := 148) rfl ?_
    refine s_iald o dX6_goBack_148 (q := 149) rfl (fun v2_ => ?_)
    refine s_pi o kf_X6_120 dX6_goBack_149 (q := 152) rfl (fun h3_ => ?_)
    refine s_aload_n o 0 rfl dX6_goBack_152 (q := 153) rfl ?_
    refine s_aload_n o 0 rfl dX6_goBack_153 (q := 154) rfl ?_
    refine s_gr o kf_X6_102 dX6_goBack_154 (q := 157) rfl (fun a4_ => ?_)
    refine s_iload_n o 1 rfl dX6_goBack_157 (q := 158) rfl ?_
    refine s_bipush o dX6_goBack_158 (v := (83 : Int32)) (by decide) (q := 160) rfl ?_
    refine s_iadd o dX6_goBack_160 (q := 161) rfl ?_
    refine s_iald o dX6_goBack_161 (q := 162) rfl (fun v5_ => ?_)
    refine s_pi o kf_X6_44 dX6_goBack_162 (q := 165) rfl (fun h6_ => ?_)
    refine s_aload_n o 0 rfl dX6_goBack_165 (q := 166) rfl ?_
    refine s_aload_n o 0 rfl dX6_goBack_166 (q := 167) rfl ?_
    refine s_gr o kf_X6_102 dX6_goBack_167 (q := 170) rfl (fun a7_ => ?_)
    refine s_iload_n o 1 rfl dX6_goBack_170 (q := 171) rfl ?_
    refine s_bipush o dX6_goBack_171 (v := (84 : Int32)) (by decide) (q := 173) rfl ?_
    refine s_iadd o dX6_goBack_173 (q := 174) rfl ?_
    refine s_iald o dX6_goBack_174 (q := 175) rfl (fun v8_ => ?_)
    refine s_pi o kf_X6_362 dX6_goBack_175 (q := 178) rfl (fun h9_ => ?_)
    refine s_iconst o dX6_goBack_178 (v := (1 : Int32)) (by decide) (q := 179) rfl ?_
    exact s_iret o dX6_goBack_179
  · refine s_aload_n o 0 rfl dX6_goBack_99 (q := 100) rfl ?_
    refine s_gr o kf_X6_38 dX6_goBack_100 (q := 103) rfl (fun a10_ => ?_)
    refine s_iload_n o 2 rfl dX6_goBack_103 (q := 104) rfl ?_
    refine s_aload_n o 0 rfl dX6_goBack_104 (q := 105) rfl ?_
    refine s_gr o kf_X6_102 dX6_goBack_105 (q := 108) rfl (fun a11_ => ?_)
    refine s_iload_n o 1 rfl dX6_goBack_108 (q := 109) rfl ?_
    refine s_bipush o dX6_goBack_109 (v := (42 : Int32)) (by decide) (q := 111) rfl ?_
    refine s_iadd o dX6_goBack_111 (q := 112) rfl ?_
    refine s_iload_n o 2 rfl dX6_goBack_112 (q := 113) rfl ?_
    refine s_iadd o dX6_goBack_113 (q := 114) rfl ?_
    refine s_iald o dX6_goBack_114 (q := 115) rfl (fun v12_ => ?_)
    refine s_iast o dX6_goBack_115 (q := 116) rfl (fun h13_ => ?_)
    refine s_aload_n o 0 rfl dX6_goBack_116 (q := 117) rfl ?_
    refine s_gr o kf_X6_41 dX6_goBack_117 (q := 120) rfl (fun a14_ => ?_)
    refine s_iload_n o 2 rfl dX6_goBack_120 (q := 121) rfl ?_
    refine s_aload_n o 0 rfl dX6_goBack_121 (q := 122) rfl ?_
    refine s_gr o kf_X6_102 dX6_goBack_122 (q := 125) rfl (fun a15_ => ?_)
    refine s_iload_n o 1 rfl dX6_goBack_125 (q := 126) rfl ?_
    refine s_bipush o dX6_goBack_126 (v := (62 : Int32)) (by decide) (q := 128) rfl ?_
    refine s_iadd o dX6_goBack_128 (q := 129) rfl ?_
    refine s_iload_n o 2 rfl dX6_goBack_129 (q := 130) rfl ?_
    refine s_iadd o dX6_goBack_130 (q := 131) rfl ?_
    refine s_iald o dX6_goBack_131 (q := 132) rfl (fun v16_ => ?_)
    refine s_iast o dX6_goBack_132 (q := 133) rfl (fun h17_ => ?_)
    refine s_iinc o 2 rfl (v := (1 : Int32)) (by decide) [1, 2, 0] (lv' := fun v18_ => [(0, rf (xG X) x0), (2, .int x2), (3, .int v18_)]) (fun _ => rfl) dX6_goBack_133 (by decide) (q := 136) rfl (fun v18_ => ?_)
    refine s_goto o (tgt := 93) dX6_goBack_136 (by decide) ?_
    exact s_sub [0, 1, 2] rfl (hk93 x0 x2 v18_ h17_)
theorem tl_X6_goBack_93 {X : Cx} (o : Ok X RX6 cX6_goBack 4 1 25 0 0 (some .int)) (f : Nat)  : ∀ (n : Nat) (x0 : Nat) (x2 : Int32) (x3 : Int32) (h : Hp), Sim X (z_Zi X 0 0) 0 0 93 [(0, rf (xG X) x0), (2, .int x2), (3, .int x3)] [] h (l_X6_goBack_93 f n x0 x2 x3 h) := by
  intro n
  induction n with
  | zero => intro x0 x2 x3 h; exact s_none
  | succ n ih => intro x0 x2 x3 h; exact t_X6_goBack_93 o f  ih x0 x2 x3 h
set_option maxRecDepth 20000 in
theorem t_X6_goBack_62 {X : Cx} (o : Ok X RX6 cX6_goBack 4 1 25 0 0 (some .int)) (f : Nat) {k62 : Nat → Int32 → Int32 → Hp → Option (Int32 × Hp)} (hk62 : ∀ (x0 : Nat) (x2 : Int32) (x3 : Int32) (h : Hp), Sim X (z_Zi X 0 0) 0 0 62 [(0, rf (xG X) x0), (2, .int x2), (3, .int x3)] [] h (k62 x0 x2 x3 h)) (x0 : Nat) (x2 : Int32) (x3 : Int32) (h : Hp) : Sim X (z_Zi X 0 0) 0 0 62 [(0, rf (xG X) x0), (2, .int x2), (3, .int x3)] [] h (b_X6_goBack_62 f k62 x0 x2 x3 h) := by
  unfold b_X6_goBack_62
  refine s_iload_n o 2 rfl dX6_goBack_62 (q := 63) rfl ?_
  refine s_bipush o dX6_goBack_63 (v := (6 : Int32)) (by decide) (q := 65) rfl ?_
  refine s_ic_ge o (tgt := 91) dX6_goBack_65 (by decide) (q := 68) rfl ?_ ?_
  · refine s_iconst o dX6_goBack_91 (v := (0 : Int32)) (by decide) (q := 92) rfl ?_
    refine s_istore_n o [1, 2, 0] (lv' := [(0, rf (xG X) x0), (2, .int x2), (3, .int (0 : Int32))]) rfl dX6_goBack_92 (by decide) (q := 93) rfl ?_
    exact s_sub [0, 1, 2] rfl (tl_X6_goBack_93 o f f x0 x2 (0 : Int32) h)
  · refine s_aload_n o 0 rfl dX6_goBack_68 (q := 69) rfl ?_
    refine s_gr o kf_X6_35 dX6_goBack_69 (q := 72) rfl (fun a1_ => ?_)
    refine s_iload_n o 2 rfl dX6_goBack_72 (q := 73) rfl ?_
    refine s_aload_n o 0 rfl dX6_goBack_73 (q := 74) rfl ?_
    refine s_gr o kf_X6_102 dX6_goBack_74 (q := 77) rfl (fun a2_ => ?_)
    refine s_iload_n o 1 rfl dX6_goBack_77 (q := 78) rfl ?_
    refine s_bipush o dX6_goBack_78 (v := (36 : Int32)) (by decide) (q := 80) rfl ?_
    refine s_iadd o dX6_goBack_80 (q := 81) rfl ?_
    refine s_iload_n o 2 rfl dX6_goBack_81 (q := 82) rfl ?_
    refine s_iadd o dX6_goBack_82 (q := 83) rfl ?_
    refine s_iald o dX6_goBack_83 (q := 84) rfl (fun v3_ => ?_)
    refine s_iast o dX6_goBack_84 (q := 85) rfl (fun h4_ => ?_)
    refine s_iinc o 2 rfl (v := (1 : Int32)) (by decide) [1, 2, 0] (lv' := fun v5_ => [(0, rf (xG X) x0), (2, .int x2), (3, .int v5_)]) (fun _ => rfl) dX6_goBack_85 (by decide) (q := 88) rfl (fun v5_ => ?_)
    refine s_goto o (tgt := 62) dX6_goBack_88 (by decide) ?_
    exact s_sub [0, 1, 2] rfl (hk62 x0 x2 v5_ h4_)
theorem tl_X6_goBack_62 {X : Cx} (o : Ok X RX6 cX6_goBack 4 1 25 0 0 (some .int)) (f : Nat)  : ∀ (n : Nat) (x0 : Nat) (x2 : Int32) (x3 : Int32) (h : Hp), Sim X (z_Zi X 0 0) 0 0 62 [(0, rf (xG X) x0), (2, .int x2), (3, .int x3)] [] h (l_X6_goBack_62 f n x0 x2 x3 h) := by
  intro n
  induction n with
  | zero => intro x0 x2 x3 h; exact s_none
  | succ n ih => intro x0 x2 x3 h; exact t_X6_goBack_62 o f  ih x0 x2 x3 h
set_option maxRecDepth 20000 in
theorem t_X6_goBack_34 {X : Cx} (o : Ok X RX6 cX6_goBack 4 1 25 0 0 (some .int)) (f : Nat) {k34 : Nat → Int32 → Int32 → Hp → Option (Int32 × Hp)} (hk34 : ∀ (x0 : Nat) (x2 : Int32) (x3 : Int32) (h : Hp), Sim X (z_Zi X 0 0) 0 0 34 [(0, rf (xG X) x0), (2, .int x2), (3, .int x3)] [] h (k34 x0 x2 x3 h)) (x0 : Nat) (x2 : Int32) (x3 : Int32) (h : Hp) : Sim X (z_Zi X 0 0) 0 0 34 [(0, rf (xG X) x0), (2, .int x2), (3, .int x3)] [] h (b_X6_goBack_34 f k34 x0 x2 x3 h) := by
  unfold b_X6_goBack_34
  refine s_iload_n o 2 rfl dX6_goBack_34 (q := 35) rfl ?_
  refine s_bipush o dX6_goBack_35 (v := (36 : Int32)) (by decide) (q := 37) rfl ?_
  refine s_ic_ge o (tgt := 60) dX6_goBack_37 (by decide) (q := 40) rfl ?_ ?_
  · refine s_iconst o dX6_goBack_60 (v := (0 : Int32)) (by decide) (q := 61) rfl ?_
    refine s_istore_n o [1, 2, 0] (lv' := [(0, rf (xG X) x0), (2, .int x2), (3, .int (0 : Int32))]) rfl dX6_goBack_61 (by decide) (q := 62) rfl ?_
    exact s_sub [0, 1, 2] rfl (tl_X6_goBack_62 o f f x0 x2 (0 : Int32) h)
  · refine s_aload_n o 0 rfl dX6_goBack_40 (q := 41) rfl ?_
    refine s_gr o kf_X6_32 dX6_goBack_41 (q := 44) rfl (fun a1_ => ?_)
    refine s_iload_n o 2 rfl dX6_goBack_44 (q := 45) rfl ?_
    refine s_aload_n o 0 rfl dX6_goBack_45 (q := 46) rfl ?_
    refine s_gr o kf_X6_102 dX6_goBack_46 (q := 49) rfl (fun a2_ => ?_)
    refine s_iload_n o 1 rfl dX6_goBack_49 (q := 50) rfl ?_
    refine s_iload_n o 2 rfl dX6_goBack_50 (q := 51) rfl ?_
    refine s_iadd o dX6_goBack_51 (q := 52) rfl ?_
    refine s_iald o dX6_goBack_52 (q := 53) rfl (fun v3_ => ?_)
    refine s_iast o dX6_goBack_53 (q := 54) rfl (fun h4_ => ?_)
    refine s_iinc o 2 rfl (v := (1 : Int32)) (by decide) [1, 2, 0] (lv' := fun v5_ => [(0, rf (xG X) x0), (2, .int x2), (3, .int v5_)]) (fun _ => rfl) dX6_goBack_54 (by decide) (q := 57) rfl (fun v5_ => ?_)
    refine s_goto o (tgt := 34) dX6_goBack_57 (by decide) ?_
    exact s_sub [0, 1, 2] rfl (hk34 x0 x2 v5_ h4_)
theorem tl_X6_goBack_34 {X : Cx} (o : Ok X RX6 cX6_goBack 4 1 25 0 0 (some .int)) (f : Nat)  : ∀ (n : Nat) (x0 : Nat) (x2 : Int32) (x3 : Int32) (h : Hp), Sim X (z_Zi X 0 0) 0 0 34 [(0, rf (xG X) x0), (2, .int x2), (3, .int x3)] [] h (l_X6_goBack_34 f n x0 x2 x3 h) := by
  intro n
  induction n with
  | zero => intro x0 x2 x3 h; exact s_none
  | succ n ih => intro x0 x2 x3 h; exact t_X6_goBack_34 o f  ih x0 x2 x3 h
set_option maxRecDepth 20000 in
theorem t_X6_goBack_0 {X : Cx} (o : Ok X RX6 cX6_goBack 4 1 25 0 0 (some .int)) (f : Nat)  (x0 : Nat) (x1 : Int32) (h : Hp) : Sim X (z_Zi X 0 0) 0 0 0 [(0, rf (xG X) x0), (1, .int x1)] [] h (f_X6_goBack f x0 x1 h) := by
  unfold f_X6_goBack
  refine s_iload_n o 1 rfl dX6_goBack_0 (q := 1) rfl ?_
  refine s_i2l o dX6_goBack_1 (q := 2) rfl ?_
  refine s_lconst o dX6_goBack_2 (v := (0 : Int64)) (by decide) (q := 3) rfl ?_
  refine s_lconst o dX6_goBack_3 (v := (1 : Int64)) (by decide) (q := 4) rfl ?_
  refine s_bi (fun r0 hr0 => runS o cs_X6_114 (c_X6_in (xG X) f x1.toInt64 (0 : Int64) (1 : Int64) h (xl X) r0 hr0) ⟨Nat.le_of_ble_eq_true rfl, Nat.le_of_ble_eq_true rfl⟩ rfl rfl (Nat.le_of_ble_eq_true rfl) dX6_goBack_4 ⟨Nat.le_of_ble_eq_true rfl, Nat.le_of_ble_eq_true rfl⟩) (q := 7) rfl (cs' := 0) rfl (sl' := 0) rfl (fun v2_ h1_ => ?_)
  refine s_if_ne o (tgt := 14) dX6_goBack_7 (by decide) (q := 10) rfl ?_ ?_
  · refine s_aload_n o 0 rfl dX6_goBack_14 (q := 15) rfl ?_
    refine s_gr o kf_X6_105 dX6_goBack_15 (q := 18) rfl (fun a3_ => ?_)
    refine s_iload_n o 1 rfl dX6_goBack_18 (q := 19) rfl ?_
    refine s_zald o dX6_goBack_19 (q := 20) rfl (fun v4_ => ?_)
    refine s_if_ne o (tgt := 27) dX6_goBack_20 (by decide) (q := 23) rfl ?_ ?_
    · refine s_bipush o dX6_goBack_27 (v := (100 : Int32)) (by decide) (q := 29) rfl ?_
      refine s_iload_n o 1 rfl dX6_goBack_29 (q := 30) rfl ?_
      refine s_imul o dX6_goBack_30 (q := 31) rfl ?_
      refine s_let (fun v5_ => ?_)
      refine s_istore_n o [1, 2, 0] (lv' := [(0, rf (xG X) x0), (1, .int x1), (2, .int v5_)]) rfl dX6_goBack_31 (by decide) (q := 32) rfl ?_
      refine s_iconst o dX6_goBack_32 (v := (0 : Int32)) (by decide) (q := 33) rfl ?_
      refine s_istore_n o [1, 2, 3, 0] (lv' := [(0, rf (xG X) x0), (1, .int x1), (2, .int v5_), (3, .int (0 : Int32))]) rfl dX6_goBack_33 (by decide) (q := 34) rfl ?_
      exact s_sub [0, 2, 3] rfl (tl_X6_goBack_34 o f f x0 v5_ (0 : Int32) h1_)
    · refine s_ldcw o kc_X6_317 dX6_goBack_23 (q := 26) rfl ?_
      exact s_iret o dX6_goBack_26
  · refine s_ldcw o kc_X6_266 dX6_goBack_10 (q := 13) rfl ?_
    exact s_iret o dX6_goBack_13
theorem c_X6_goBack (G : Gx) (f : Nat) (x0 : Nat) (x1 : Int32) (h : Hp) : z_M z_qi G yX6_goBack cX6_goBack 4 (some .int) 1 25 0 0 [rf G x0, .int x1] h (f_X6_goBack f x0 x1 h) :=
  z_met (by decide +kernel) (Nat.le_of_ble_eq_true rfl) (fun X hG hn o hnm => by
    subst hG
    show Sim X (z_Zi X 0 0) 0 0 0 [(0, rf (xG X) x0), (1, .int x1)] [] h _
    exact s_sub [0, 1] rfl (t_X6_goBack_0 o f x0 x1 h))
