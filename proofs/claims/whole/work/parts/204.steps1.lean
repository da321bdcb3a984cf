/-! ===== the plain reads ===== -/
theorem zI_row {h : Hp} {a k x : Nat} {v : Int32} (hx : x ≠ a) : zI (sI h a k v) x = zI h x := by
  funext y
  rw [zI_sI, if_neg (fun e => hx e.1)]
theorem st_fault (f : Nat) : StpR (f_X5_fault f 0) (f_X6_fault f 58) := by
  intro h r R
  have H := R.1
  refine ⟨zI h 0 2, h, h, r, ?_, by rw [S_58 H], ?_, R⟩
  · unfold f_X5_fault; rw [gi_k (S_0 H)]; rfl
  · unfold f_X6_fault; rw [gi_k (S_58 H), R.2.2.2.1]; rfl
theorem st_purse (f : Nat) (b : Int32) : StpR (f_X5_purse f 0 b) (f_X6_purse f 58 b) := by
  intro h r R
  obtain ⟨H, rp, tx, ft, n, w, l, ga, gb, gc, il, st, sy, im0, im1⟩ := id R
  unfold f_X5_purse f_X6_purse b_X5_purse_21 b_X6_purse_19
  simp only [e_bandC, e_bandM, bi_some, b2_0]
  cases eb : mkB 6 b with
  | false => exact ⟨_, h, h, r, rfl, by rw [S_58 H], by simp, R⟩
  | true =>
    obtain ⟨j, hj, rfl⟩ := mkB_t (by decide) eb
    refine ⟨zI h 65 j, h, h, r, ?_, by rw [S_58 H], ?_, R⟩
    · rw [if_neg (by simp), gr_k (S_0 H) (R_0_6 H), Option.bind_some, gr_k (S_17 H) (R_17_3 H), Option.bind_some, ai_nI (S_21 H) hj (by decide), Option.bind_some, st.1.2.1 j hj]
    · rw [if_neg (by simp), gr_k (S_58 H) (R_58_12 H), Option.bind_some, ai_nI (S_65 H) hj (by decide), Option.bind_some]
theorem ix6 (a b : Nat) : (nI a * 6 + nI b) = nI (6 * a + b) := by
  rw [show (6 : Int32) = nI 6 from rfl, pk_mul, nI_add, Nat.mul_comm]
theorem ix6' (a b : Nat) : (6 * nI a + nI b) = nI (6 * a + b) := by
  rw [show (6 : Int32) = nI 6 from rfl, pk_mul, nI_add]
theorem ix9 (a b : Nat) : (nI a * 9 + nI b) = nI (9 * a + b) := by
  rw [show (9 : Int32) = nI 9 from rfl, pk_mul, nI_add, Nat.mul_comm]
theorem ix9' (a b : Nat) : (9 * nI a + nI b) = nI (9 * a + b) := by
  rw [show (9 : Int32) = nI 9 from rfl, pk_mul, nI_add]
theorem st_knows (f : Nat) (a b : Int32) : StpR (f_X5_knows f 0 a b) (f_X6_knows f 58 a b) := by
  intro h r R
  obtain ⟨H, rp, tx, ft, n, w, l, ga, gb, gc, il, st, sy, im0, im1⟩ := id R
  unfold f_X5_knows f_X6_knows b_X5_knows_31 b_X5_knows_33 b_X6_knows_28 b_X6_knows_31
  simp only [e_bandC, e_bandM, bi_some, b2_0]
  cases ea : mkB 6 a with
  | false => exact ⟨_, h, h, r, rfl, by rw [S_58 H], by simp, R⟩
  | true =>
    cases eb : mkB 6 b with
    | false => exact ⟨_, h, h, r, rfl, by rw [S_58 H], by simp, R⟩
    | true =>
      obtain ⟨i, hi, rfl⟩ := mkB_t (by decide) ea
      obtain ⟨j, hj, rfl⟩ := mkB_t (by decide) eb
      refine ⟨zI h 64 (6 * i + j), h, h, r, ?_, by rw [S_58 H], ?_, R⟩
      · rw [if_neg (by simp), if_neg (by simp), gr_k (S_0 H) (R_0_6 H), Option.bind_some, gr_k (S_17 H) (R_17_0 H), Option.bind_some, ix6, ai_nI (S_18 H) (by omega) (by decide), Option.bind_some, st.1.1 _ (by omega)]
      · rw [if_neg (by simp), if_neg (by simp), gr_k (S_58 H) (R_58_11 H), Option.bind_some, ix6', ai_nI (S_64 H) (by omega) (by decide), Option.bind_some]
/-- what of two: 0, 1 or outside -/
theorem two_cases (x : Int32) : x = 0 ∨ x = 1 ∨ ((x < 0 ∨ ¬ x ≤ 1) ∧ ¬ x = 0 ∧ ¬ x = 1) := by
  by_cases h0 : x = 0
  · exact Or.inl h0
  · by_cases h1 : x = 1
    · exact Or.inr (Or.inl h1)
    · refine Or.inr (Or.inr ⟨?_, h0, h1⟩)
      rw [fa_lt, fa_le, i0, i1]
      have h0' : ¬ x.toInt = 0 := fun e => h0 (Int32.toInt_inj.mp (by rw [e]; rfl))
      have h1' : ¬ x.toInt = 1 := fun e => h1 (Int32.toInt_inj.mp (by rw [e]; rfl))
      omega
theorem b2T : b2 true = 1 := rfl
theorem b2F : b2 false = 0 := rfl
theorem bi_mk {α β : Type} (v : α) (h : Hp) (K : α → Hp → Option β) : bi (some (v, h)) K = K v h := rfl
theorem c10 : ¬ (1 : Int32) = 0 := by decide
theorem two_out {α : Type} {x : Int32} {A B : α} (h : x < 0 ∨ ¬ x ≤ 1) : (if x < 0 then A else if x ≤ 1 then B else A) = A := by
  by_cases c2 : x < 0
  · rw [if_pos c2]
  · rw [if_neg c2, if_neg (h.resolve_left c2)]
theorem st_mark (f : Nat) (a b : Int32) : StpR (f_X5_mark f 0 a b) (f_X6_mark f 58 a b) := by
  intro h r R
  obtain ⟨H, rp, tx, ft, n, w, l, ga, gb, gc, il, st, sy, im0, im1⟩ := id R
  have hp := Rp_p rp
  have eC := e_isMarkC (f := f) H rp il.2.1.1 il.1.1 a
  have eM := e_isMarkM (f := f) H il.2.1.2 il.1.1 a
  cases ea : mkB n a with
  | false =>
    rw [ea] at eC eM
    refine ⟨-1000001, h, h, r, ?_, by rw [S_58 H], ?_, R⟩
    · simp [f_X5_mark, on_k (S_0 H), eC, bi_some, b2F]
    · simp [f_X6_mark, on_k (S_58 H), eM, bi_some, b2F]
  | true =>
    rw [ea] at eC eM
    obtain ⟨i, hi, rfl⟩ := mkB_t (by have := il.1.1; omega) ea
    have hi9 : i < 9 := by have := il.1.1; omega
    have hxy := il.2.2.2.2.2.2.2.2.2.2.1 i hi
    rcases two_cases b with rfl | rfl | ⟨hb, hb0, hb1⟩
    · refine ⟨zI h 59 i, h, h, r, ?_, by rw [S_58 H], ?_, R⟩
      · simp [f_X5_mark, b_X5_mark_48, on_k (S_0 H), eC, bi_some, b2T, gr_k (S_0 H) (R_0_3 H), gr_k (Ip_S H hp) (Ip_R0 H hp), ai_nI (Ip_S1 H hp) hi9 (by decide), hxy.1]
      · simp [f_X6_mark, b_X6_mark_41, on_k (S_58 H), eM, bi_some, b2T, gr_k (S_58 H) (R_58_1 H), ai_nI (S_59 H) hi9 (by decide)]
    · refine ⟨zI h 60 i, h, h, r, ?_, by rw [S_58 H], ?_, R⟩
      · simp [f_X5_mark, b_X5_mark_48, on_k (S_0 H), eC, bi_some, b2T, gr_k (S_0 H) (R_0_3 H), gr_k (Ip_S H hp) (Ip_R1 H hp), ai_nI (Ip_S2 H hp) hi9 (by decide), hxy.2]
      · simp [f_X6_mark, b_X6_mark_41, on_k (S_58 H), eM, bi_some, b2T, gr_k (S_58 H) (R_58_2 H), ai_nI (S_60 H) hi9 (by decide)]
    · refine ⟨-1000002, h, h, r, ?_, by rw [S_58 H], ?_, R⟩
      · rw [b2T] at eC; rw [f_X5_mark, on_k (S_0 H), eC, bi_mk, if_pos c10, two_out hb]; rfl
      · simp [f_X6_mark, b_X6_mark_41, on_k (S_58 H), eM, bi_some, b2T, hb0, hb1]
theorem st_map (f : Nat) (m a b : Int32) : StpR (f_X5_map f 0 m a b) (f_X6_map f 58 m a b) := by
  intro h r R
  obtain ⟨H, rp, tx, ft, n, w, l, ga, gb, gc, il, st, sy, im0, im1⟩ := id R
  have hp := Rp_p rp
  have eC := e_isMarkC (f := f) H rp il.2.1.1 il.1.1 a
  have eM := e_isMarkM (f := f) H il.2.1.2 il.1.1 a
  have bC := e_bandC f m h
  have bM := e_bandM f m h
  cases em : mkB 6 m with
  | false =>
    rw [em] at bC bM
    refine ⟨-1000001, h, h, r, ?_, by rw [S_58 H], ?_, R⟩
    · simp [f_X5_map, b_X5_map_15, bC, bi_some, b2F]
    · simp [f_X6_map, b_X6_map_15, bM, bi_some, b2F]
  | true =>
    rw [em] at bC bM
    obtain ⟨j, hj, rfl⟩ := mkB_t (by decide) em
    cases ea : mkB n a with
    | false =>
      rw [ea] at eC eM
      refine ⟨-1000001, h, h, r, ?_, by rw [S_58 H], ?_, R⟩
      · simp [f_X5_map, b_X5_map_15, bC, on_k (S_0 H), eC, bi_some, b2F, b2T]
      · simp [f_X6_map, b_X6_map_15, bM, on_k (S_58 H), eM, bi_some, b2F, b2T]
    | true =>
      rw [ea] at eC eM
      obtain ⟨i, hi, rfl⟩ := mkB_t (by have := il.1.1; omega) ea
      have hi9 : i < 9 := by have := il.1.1; omega
      have hxy := il.2.2.2.2.2.2.2.2.2.2.2 j hj i hi
      rcases two_cases b with rfl | rfl | ⟨hb, hb0, hb1⟩
      · refine ⟨zI h 61 (9 * j + i), h, h, r, ?_, by rw [S_58 H], ?_, R⟩
        · simp [f_X5_map, b_X5_map_65, bC, on_k (S_0 H), eC, bi_some, b2T, gr_k (S_0 H) (R_0_3 H), gr_k (Ip_S H hp) (Ip_R2 H hp), ix9, ai_nI (Ip_S3 H hp) (show 9 * j + i < 54 by omega) (by decide), hxy.1]
        · simp [f_X6_map, b_X6_map_58, bM, on_k (S_58 H), eM, bi_some, b2T, gr_k (S_58 H) (R_58_3 H), ix9', ai_nI (S_61 H) (show 9 * j + i < 54 by omega) (by decide)]
      · refine ⟨zI h 62 (9 * j + i), h, h, r, ?_, by rw [S_58 H], ?_, R⟩
        · simp [f_X5_map, b_X5_map_65, bC, on_k (S_0 H), eC, bi_some, b2T, gr_k (S_0 H) (R_0_3 H), gr_k (Ip_S H hp) (Ip_R3 H hp), ix9, ai_nI (Ip_S4 H hp) (show 9 * j + i < 54 by omega) (by decide), hxy.2.1]
        · simp [f_X6_map, b_X6_map_58, bM, on_k (S_58 H), eM, bi_some, b2T, gr_k (S_58 H) (R_58_4 H), ix9', ai_nI (S_62 H) (show 9 * j + i < 54 by omega) (by decide)]
      · refine ⟨-1000002, h, h, r, ?_, by rw [S_58 H], ?_, R⟩
        · rw [b2T] at eC bC; rw [f_X5_map, bC, bi_mk, if_neg c10, on_k (S_0 H), eC, bi_mk, if_pos c10, two_out hb]; rfl
        · simp [f_X6_map, b_X6_map_58, bM, on_k (S_58 H), eM, bi_some, b2T, hb0, hb1]
/-! ===== seed, forget, say ===== -/
theorem st_seed (f : Nat) (v : Int32) : StpR (f_X5_seed f 0 v) (f_X6_seed f 58 v) := by
  intro h r R
  obtain ⟨H, rp, tx, ft, n, w, l, ga, gb, gc, il, st, sy, im0, im1⟩ := id R
  have hp := Rp_p rp
  unfold f_X5_seed f_X6_seed
  by_cases c : 0 ≤ v
  · rw [if_pos c]
    have H1 : Sh (sI h 17 6 v) r := H
    refine ⟨zI h 58 17, sI h 17 6 v, sI (sI h 17 6 v) 58 17 v, r, ?_, by rw [S_58 H1], ?_, ?_⟩
    · rw [gr_k (S_0 H) (R_0_6 H), Option.bind_some, gi_k (S_17 H), Option.bind_some, Option.bind_some, pi_k (S_17 H), Option.bind_some, st.1.2.2.2.2.2]
    · rw [if_pos c, gi_k (S_58 H1), Option.bind_some, pi_k (S_58 H1), Option.bind_some, zI_row (by decide)]
    · refine ⟨H, rp, ?_, ?_, n, w, l, ga, gb, gc, ?_, ?_, ?_, ?_, ?_⟩
      · simpa [Tx, zI_sI] using tx
      · simpa [Ft, zI_sI] using ft
      · rcases hp with e | e <;> (rw [e] at il ⊢; simpa [Il, zI_sI] using il)
      · obtain ⟨⟨s1, s2, s3, s4, s5, s6⟩, t1, t2, t3, t4, t5⟩ := st
        refine ⟨⟨?_, ?_, ?_, ?_, ?_, ?_⟩, ?_, ?_, ?_, ?_, ?_⟩
        · simpa [zI_sI] using s1
        · simpa [zI_sI] using s2
        · simpa [zI_sI] using s3
        · simpa [zI_sI] using s4
        · simpa [zI_sI] using s5
        · simp [zI_sI]
        · simpa [zI_sI] using t1
        · simpa [zI_sI] using t2
        · simpa [zI_sI] using t3
        · simpa [zI_sI] using t4
        · simpa [zI_sI] using c
      · simpa [Sy, zI_sI] using sy
      · simpa [Im, StEq, StOk, zI_sI] using im0
      · simpa [Im, StEq, StOk, zI_sI] using im1
  · rw [if_neg c]
    exact ⟨_, h, h, r, rfl, by rw [S_58 H], by rw [if_neg c], R⟩
theorem st_forget (f : Nat) : StpR (f_X5_forget f 0) (f_X6_forget f 58) := by
  intro h r R
  obtain ⟨H, rp, tx, ft, n, w, l, ga, gb, gc, il, st, sy, im0, im1⟩ := id R
  have hp := Rp_p rp
  obtain ⟨c, hc, c1, c2, c3⟩ := sy
  have H1 : Sh (sI h 34 3 0) r := H
  refine ⟨nI c, sI h 34 3 0, sI (sI h 34 3 0) 58 50 0, r, ?_, by rw [S_58 H1], ?_, ?_⟩
  · simp [f_X5_forget, gr_k (S_0 H) (R_0_9 H), gi_k (S_34 H), pi_k (S_34 H), c1]
  · simp [f_X6_forget, gi_k (S_58 H1), pi_k (S_58 H1), zI_sI, c2]
  · refine ⟨H, rp, ?_, ?_, n, w, l, ga, gb, gc, ?_, ?_, ?_, ?_, ?_⟩
    · simpa [Tx, zI_sI] using tx
    · simpa [Ft, zI_sI] using ft
    · rcases hp with e | e <;> (rw [e] at il ⊢; simpa [Il, zI_sI] using il)
    · simpa [StN, StEq, StOk, zI_sI] using st
    · exact ⟨0, by omega, by simp [zI_sI, nI_0], by simp [zI_sI, nI_0], fun i hi => by omega⟩
    · simpa [Im, StEq, StOk, zI_sI] using im0
    · simpa [Im, StEq, StOk, zI_sI] using im1
theorem nar_b {x : Int32} (h : x = 0 ∨ x = 1) : vp_nar .boolean x = x := by rcases h with rfl | rfl <;> rfl
theorem nI_lt20 {c : Nat} (hc : c ≤ 20) : (nI c < 20) ↔ c < 20 := nI_ltI (b := 20) (by omega) (by omega)
theorem nI_eq20 {c : Nat} (hc : c ≤ 20) : (nI c = 20) ↔ c = 20 := nI_eq (b := 20) (by omega) (by omega)
theorem nI_p1 (c : Nat) : nI c + 1 = nI (c + 1) := nI_1 c
theorem nI_m1 (c : Nat) : nI (c + 1) - 1 = nI c := nI_pred c
theorem st_say (f : Nat) (a b x : Int32) (hx : x = 0 ∨ x = 1) : StpR (f_X5_say f 0 a b x) (f_X6_say f 58 a b x) := by
  intro h r R
  obtain ⟨H, rp, tx, ft, n, w, l, ga, gb, gc, il, st, sy, im0, im1⟩ := id R
  have hp := Rp_p rp
  obtain ⟨c, hc, c1, c2, c3⟩ := sy
  have aC := e_bandC f a h
  have bC := e_bandC f b h
  cases ea : mkB 6 a with
  | false =>
    refine ⟨-1000001, h, h, r, ?_, by rw [S_58 H], ?_, R⟩
    · simp [f_X5_say, b_X5_say_14, e_bandC, bi_mk, ea, b2F]
    · simp [f_X6_say, b_X6_say_14, e_bandM, bi_mk, ea, b2F]
  | true =>
    cases eb : mkB 6 b with
    | false =>
      refine ⟨-1000001, h, h, r, ?_, by rw [S_58 H], ?_, R⟩
      · simp [f_X5_say, b_X5_say_14, e_bandC, bi_mk, ea, eb, b2F, b2T]
      · simp [f_X6_say, b_X6_say_14, e_bandM, bi_mk, ea, eb, b2F, b2T]
    | true =>
      obtain ⟨i, hi, ei⟩ := mkB_t (by decide) ea
      obtain ⟨j, hj, ej⟩ := mkB_t (by decide) eb
      by_cases c20 : c = 20
      · refine ⟨-1000004, h, h, r, ?_, by rw [S_58 H], ?_, R⟩
        · have : ¬ nI c < 20 := fun e => by have := (nI_lt20 hc).mp e; omega
          simp [f_X5_say, e_bandC, bi_mk, ea, eb, b2T, gr_k (S_0 H) (R_0_9 H), gi_k (S_34 H), c1, this]
        · have : nI c = 20 := (nI_eq20 hc).mpr c20
          simp [f_X6_say, e_bandM, bi_mk, ea, eb, b2T, gi_k (S_58 H), c2, this]
      · have hc9 : c < 20 := by omega
        have lt9 : nI c < 20 := (nI_lt20 hc).mpr hc9
        have ne9 : ¬ nI c = 20 := fun e => c20 ((nI_eq20 hc).mp e)
        have H1 : Sh (sI (sI (sI (sI h 35 c a) 36 c b) 37 c x) 34 3 (nI (c + 1))) r := H
        refine ⟨nI c, sI (sI (sI (sI h 35 c a) 36 c b) 37 c x) 34 3 (nI (c + 1)), sI (sI (sI (sI (sI (sI (sI (sI h 35 c a) 36 c b) 37 c x) 34 3 (nI (c + 1))) 82 c a) 83 c b) 84 c x) 58 50 (nI (c + 1)), r, ?_, by rw [S_58 H1], ?_, ?_⟩
        · simp only [f_X5_say, e_bandC, bi_mk, ea, eb, b2T, gr_k (S_0 H) (R_0_9 H), Option.bind_some, gi_k (S_34 H), c1, lt9, if_true, c10, if_false, not_false_eq_true, on_k (S_34 H), f_X3_add, gr_k (S_34 H) (R_34_0 H), as_nI (S_35 H) hc9 (by decide)]
          have Ha : Sh (sI h 35 c a) r := H
          have Hb : Sh (sI (sI h 35 c a) 36 c b) r := H
          have Hc : Sh (sI (sI (sI h 35 c a) 36 c b) 37 c x) r := H
          simp only [gr_k (S_34 Ha) (R_34_1 Ha), gi_k (S_34 Ha), Option.bind_some, zI_row (show (34 : Nat) ≠ 35 by decide), c1, as_nI (S_36 Ha) hc9 (by decide)]
          simp only [gr_k (S_34 Hb) (R_34_2 Hb), gi_k (S_34 Hb), Option.bind_some, zI_row (show (34 : Nat) ≠ 35 by decide), zI_row (show (34 : Nat) ≠ 36 by decide), c1, as_nI (S_37 Hb) hc9 (by decide), nar_b hx]
          simp only [gi_k (S_34 Hc), pi_k (S_34 Hc), Option.bind_some, zI_row (show (34 : Nat) ≠ 35 by decide), zI_row (show (34 : Nat) ≠ 36 by decide), zI_row (show (34 : Nat) ≠ 37 by decide), c1, nI_p1]
          rw [gi_k (S_34 H1), Option.bind_some, zI_sI, if_pos ⟨rfl, rfl⟩, nI_m1, bi_mk]
        · have c2' : zI (sI (sI (sI (sI h 35 c a) 36 c b) 37 c x) 34 3 (nI (c + 1))) 58 50 = nI c := by simpa [zI_sI] using c2
          generalize sI (sI (sI (sI h 35 c a) 36 c b) 37 c x) 34 3 (nI (c + 1)) = g at H1 c2'
          have Ha : Sh (sI g 82 c a) r := H1
          have Hb : Sh (sI (sI g 82 c a) 83 c b) r := H1
          have Hc : Sh (sI (sI (sI g 82 c a) 83 c b) 84 c x) r := H1
          have Hd : Sh (sI (sI (sI (sI g 82 c a) 83 c b) 84 c x) 58 50 (nI (c + 1))) r := H1
          simp only [f_X6_say, e_bandM, bi_mk, ea, eb, b2T, gi_k (S_58 H1), Option.bind_some, c2', ne9, if_true, c10, if_false, not_false_eq_true, gr_k (S_58 H1) (R_58_51 H1), as_nI (S_82 H1) hc9 (by decide)]
          simp only [gr_k (S_58 Ha) (R_58_52 Ha), gi_k (S_58 Ha), Option.bind_some, zI_row (show (58 : Nat) ≠ 82 by decide), c2', as_nI (S_83 Ha) hc9 (by decide)]
          simp only [gr_k (S_58 Hb) (R_58_53 Hb), gi_k (S_58 Hb), Option.bind_some, zI_row (show (58 : Nat) ≠ 82 by decide), zI_row (show (58 : Nat) ≠ 83 by decide), c2', as_nI (S_84 Hb) hc9 (by decide), nar_b hx]
          simp only [gi_k (S_58 Hc), pi_k (S_58 Hc), Option.bind_some, zI_row (show (58 : Nat) ≠ 82 by decide), zI_row (show (58 : Nat) ≠ 83 by decide), zI_row (show (58 : Nat) ≠ 84 by decide), c2', nI_p1]
          rw [gi_k (S_58 Hd), Option.bind_some, zI_sI, if_pos ⟨rfl, rfl⟩, nI_m1]
        · refine ⟨H, rp, ?_, ?_, n, w, l, ga, gb, gc, ?_, ?_, ?_, ?_, ?_⟩
          · simpa [Tx, zI_sI] using tx
          · simpa [Ft, zI_sI] using ft
          · rcases hp with e | e <;> (rw [e] at il ⊢; simpa [Il, zI_sI] using il)
          · simpa [StN, StEq, StOk, zI_sI] using st
          · refine ⟨c + 1, by omega, by simp [zI_sI], by simp [zI_sI], fun k hk => ?_⟩
            by_cases e : k = c
            · subst e
              simp only [zI_sI]
              simp
              exact ⟨⟨i, hi, ei⟩, ⟨j, hj, ej⟩, hx⟩
            · have := c3 k (by omega)
              simpa [zI_sI, e] using this
          · simpa [Im, StEq, StOk, zI_sI] using im0
          · simpa [Im, StEq, StOk, zI_sI] using im1
