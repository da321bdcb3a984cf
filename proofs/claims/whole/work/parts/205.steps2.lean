/-! ===== told; bits; show, trade ===== -/
theorem sw_k {β : Type} {j : Nat} (hj : j < 2 ^ 31) (Ks : List (Option β)) (D : Option β) : sw (nI j) 0 Ks D = (Ks[j]?).getD D := by
  unfold sw
  rw [nI_toInt hj, if_neg (by omega)]
  have : ((j : Int) - 0).toNat = j := by omega
  rw [this]
  cases Ks[j]? <;> rfl
theorem sw_neg {β : Type} {x : Int32} (hx : x < 0) (Ks : List (Option β)) (D : Option β) : sw x 0 Ks D = D := by
  unfold sw
  rw [fa_lt, i0] at hx
  rw [if_pos hx]
theorem Rel_parts {h h' : Hp} {r : Rs} (R : Rel h r) (S : Sh h' r) (tx : Tx h → Tx h') (ft : Ft h → Ft h') (il : ∀ n w l a b c, Il h r.1 n w l a b c → Il h' r.1 n w l a b c) (st : ∀ n, n ≤ 9 → StN h n → StN h' n) (sy : Sy h → Sy h') (im0 : ∀ n, Im h n 0 → Im h' n 0) (im1 : ∀ n, Im h n 1 → Im h' n 1) : Rel h' r := by
  obtain ⟨H, rp, tx', ft', n, w, l, ga, gb, gc, il', st', sy', im0', im1'⟩ := R
  exact ⟨S, rp, tx tx', ft ft', n, w, l, ga, gb, gc, il _ _ _ _ _ _ il', st _ il'.1.1 st', sy sy', im0 _ im0', im1 _ im1'⟩
theorem st_told (f : Nat) (a : Int32) : StpR (f_X5_told f 0 a) (f_X6_told f 58 a) := by
  intro h r R
  obtain ⟨H, rp, tx, ft, n, w, l, ga, gb, gc, il, st, sy, im0, im1⟩ := id R
  have hp := Rp_p rp
  have Sp := Ip_S H hp
  obtain ⟨-, l1, l2, l3, l4, l5, l6, l7, ⟨q1, -, l8, l8'⟩, ⟨q2, -, l9, l9'⟩, -, -⟩ := il
  obtain ⟨tn, -, t1, t2, -⟩ := tx
  obtain ⟨sc, -, y1, y2, -⟩ := sy
  have key : ∃ v, f_X5_told f 0 a h = some (v, h) ∧ f_X6_told f 58 a h = some (v, h) := by
    by_cases c : a < 0
    · exact ⟨-1000002, sw_neg c _ _, sw_neg c _ _⟩
    · obtain ⟨j, hj, rfl⟩ := nI_of c
      unfold f_X5_told f_X6_told
      rw [sw_k hj, sw_k hj]
      rcases (show j = 0 ∨ j = 1 ∨ j = 2 ∨ j = 3 ∨ j = 4 ∨ j = 5 ∨ j = 6 ∨ j = 7 ∨ j = 8 ∨ j = 9 ∨ j = 10 ∨ j = 11 ∨ 12 ≤ j by omega) with rfl | rfl | rfl | rfl | rfl | rfl | rfl | rfl | rfl | rfl | rfl | rfl | h12
      · exact ⟨nI n, by simp [gr_k (S_0 H) (R_0_3 H), gi_k Sp, l1.1], by simp [gi_k (S_58 H), l1.2]⟩
      · exact ⟨nI l, by simp [gr_k (S_0 H) (R_0_3 H), gi_k Sp, l3.1], by simp [gi_k (S_58 H), l3.2]⟩
      · exact ⟨nI w, by simp [gr_k (S_0 H) (R_0_3 H), gi_k Sp, l2.1], by simp [gi_k (S_58 H), l2.2]⟩
      · refine ⟨nI ga, by simp [gr_k (S_0 H) (R_0_3 H), gi_k Sp, l4.1], ?_⟩
        have e : nI 3 - (3 : Int32) = nI 0 := by decide
        simp [b_X6_told_79, gr_k (S_58 H) (R_58_8 H), e, ai_nI (S_63 H) (show 0 < 3 by decide) (by decide), l4.2]
      · refine ⟨nI gb, by simp [gr_k (S_0 H) (R_0_3 H), gi_k Sp, l5.1], ?_⟩
        have e : nI 4 - (3 : Int32) = nI 1 := by decide
        simp [b_X6_told_79, gr_k (S_58 H) (R_58_8 H), e, ai_nI (S_63 H) (show 1 < 3 by decide) (by decide), l5.2]
      · refine ⟨nI gc, by simp [gr_k (S_0 H) (R_0_3 H), gi_k Sp, l6.1], ?_⟩
        have e : nI 5 - (3 : Int32) = nI 2 := by decide
        simp [b_X6_told_79, gr_k (S_58 H) (R_58_8 H), e, ai_nI (S_63 H) (show 2 < 3 by decide) (by decide), l6.2]
      · exact ⟨nI q1, by simp [gr_k (S_0 H) (R_0_3 H), gi_k Sp, l8], by simp [gi_k (S_58 H), l8']⟩
      · exact ⟨nI q2, by simp [gr_k (S_0 H) (R_0_3 H), gi_k Sp, l9], by simp [gi_k (S_58 H), l9']⟩
      · exact ⟨nI tn, by simp [gi_k (S_0 H), t1], by simp [gi_k (S_58 H), t2]⟩
      · exact ⟨zI h 58 13, by simp [gr_k (S_0 H) (R_0_6 H), gi_k (S_17 H), st.1.2.2.2.1], by simp [gi_k (S_58 H)]⟩
      · exact ⟨nI sc, by simp [gr_k (S_0 H) (R_0_9 H), gi_k (S_34 H), y1], by simp [gi_k (S_58 H), y2]⟩
      · exact ⟨zI h 58 16, by simp [gr_k (S_0 H) (R_0_6 H), gi_k (S_17 H), st.1.2.2.2.2.1], by simp [gi_k (S_58 H)]⟩
      · rw [List.getElem?_eq_none (by simpa using h12), List.getElem?_eq_none (by simpa using h12)]
        exact ⟨_, rfl, rfl⟩
  obtain ⟨v, e1, e2⟩ := key
  exact ⟨v, h, h, r, e1, by rw [S_58 H], e2, R⟩
/-! bits -/
def bcV (x : Int32) : Int32 := match f_J6_bitCount_0f7a4 0 x h00 with
  | some q => q.1
  | none => 0
theorem e_bc (f : Nat) (x : Int32) (h : Hp) : f_J6_bitCount_0f7a4 f x h = some (bcV x, h) := rfl
def btV (x : Int32) : Int32 := 0 + ((x >>> ((0 : Int32) &&& 31)) &&& 1) + ((x >>> ((1 : Int32) &&& 31)) &&& 1) + ((x >>> ((2 : Int32) &&& 31)) &&& 1) + ((x >>> ((3 : Int32) &&& 31)) &&& 1) + ((x >>> ((4 : Int32) &&& 31)) &&& 1) + ((x >>> ((5 : Int32) &&& 31)) &&& 1) + ((x >>> ((6 : Int32) &&& 31)) &&& 1) + ((x >>> ((7 : Int32) &&& 31)) &&& 1) + ((x >>> ((8 : Int32) &&& 31)) &&& 1)
theorem bits_go (f n : Nat) (x c i : Int32) (h : Hp) (hi : ¬ (9 : Int32) ≤ i) : l_X6_bits_4 f (n + 1) x c i h = l_X6_bits_4 f n x (c + ((x >>> (i &&& 31)) &&& 1)) (i + 1) h := by
  show b_X6_bits_4 f (l_X6_bits_4 f n) x c i h = _
  unfold b_X6_bits_4 lt
  rw [if_neg hi]
theorem bits_end (f n : Nat) (x c : Int32) (h : Hp) : l_X6_bits_4 f (n + 1) x c 9 h = some (c, h) := by
  show b_X6_bits_4 f (l_X6_bits_4 f n) x c 9 h = _
  unfold b_X6_bits_4
  rw [if_pos (by decide)]
theorem e_bits {f : Nat} (hf : 10 ≤ f) (x : Int32) (h : Hp) : f_X6_bits f x h = some (btV x, h) := by
  unfold f_X6_bits
  obtain ⟨n, e⟩ : ∃ n, f = n + 10 := ⟨f - 10, by omega⟩
  have g : ∀ g, l_X6_bits_4 g (n + 10) x 0 0 h = some (btV x, h) := fun g => by
    rw [bits_go _ _ _ _ _ _ (by decide), show (0 : Int32) + 1 = 1 by decide, bits_go _ _ _ _ _ _ (by decide), show (1 : Int32) + 1 = 2 by decide, bits_go _ _ _ _ _ _ (by decide), show (2 : Int32) + 1 = 3 by decide, bits_go _ _ _ _ _ _ (by decide), show (3 : Int32) + 1 = 4 by decide, bits_go _ _ _ _ _ _ (by decide), show (4 : Int32) + 1 = 5 by decide, bits_go _ _ _ _ _ _ (by decide), show (5 : Int32) + 1 = 6 by decide, bits_go _ _ _ _ _ _ (by decide), show (6 : Int32) + 1 = 7 by decide, bits_go _ _ _ _ _ _ (by decide), show (7 : Int32) + 1 = 8 by decide, bits_go _ _ _ _ _ _ (by decide), show (8 : Int32) + 1 = 9 by decide, bits_end]
    rfl
  have h1 := g f
  rw [← e] at h1
  exact h1
def pcn (s : Nat) : Nat := (List.range 9).countP (fun k => s.testBit k)
theorem pc_all : ∀ s, s < 512 → btV (nI s) = nI (pcn s) ∧ bcV (nI s) = nI (pcn s) := by decide +kernel
/-! areTwo -/
def twB (a b : Int32) : Bool := mkB 6 a && mkB 6 b && !decide (a = b)
theorem e_twoC (f : Nat) (a b : Int32) (h : Hp) : f_X5_areTwoBands f a b h = some (b2 (twB a b), h) := by
  unfold f_X5_areTwoBands b_X5_areTwoBands_23 b_X5_areTwoBands_24 twB
  rw [e_bandC, bi_mk]
  cases mkB 6 a with
  | false => rfl
  | true =>
    rw [b2T, if_neg c10, e_bandC, bi_mk]
    cases mkB 6 b with
    | false => rfl
    | true =>
      rw [b2T, if_neg c10]
      by_cases e : a = b
      · rw [if_pos e]; simp [e]; rfl
      · rw [if_neg e]; simp [e]; rfl
theorem e_twoM (f : Nat) (a b : Int32) (h : Hp) : f_X6_areTwo f a b h = some (b2 (twB a b), h) := by
  unfold f_X6_areTwo b_X6_areTwo_23 b_X6_areTwo_24 twB
  rw [e_bandM, bi_mk]
  cases mkB 6 a with
  | false => rfl
  | true =>
    rw [b2T, if_neg c10, e_bandM, bi_mk]
    cases mkB 6 b with
    | false => rfl
    | true =>
      rw [b2T, if_neg c10]
      by_cases e : a = b
      · rw [if_pos e]; simp [e]; rfl
      · rw [if_neg e]; simp [e]; rfl
theorem twB_t {a b : Int32} (h : twB a b = true) : ∃ i j, i < 6 ∧ j < 6 ∧ i ≠ j ∧ a = nI i ∧ b = nI j := by
  unfold twB at h
  simp only [Bool.and_eq_true, Bool.not_eq_true', decide_eq_false_iff_not] at h
  obtain ⟨i, hi, ei⟩ := mkB_t (by decide) h.1.1
  obtain ⟨j, hj, ej⟩ := mkB_t (by decide) h.1.2
  exact ⟨i, j, hi, hj, fun e => h.2 (by rw [ei, ej, e]), ei, ej⟩
/-! learning: one bit more -/
theorem sh1 : ∀ k, k < 9 → (1 : Int32) <<< (nI k &&& 31) = nI (2 ^ k) := by decide +kernel
theorem or1 {s k n : Nat} (hs : s < 2 ^ n) (hk : k < n) (hn : n ≤ 9) : ∃ t, t < 2 ^ n ∧ nI s ||| (1 : Int32) <<< (nI k &&& 31) = nI t := by
  refine ⟨s ||| 2 ^ k, Nat.or_lt_two_pow hs (Nat.pow_lt_pow_right (by decide) hk), ?_⟩
  rw [sh1 k (by omega), fa_or]
theorem StN_learn {h : Hp} {n i t : Nat} (st : StN h n) (hi : ∀ b, b < 6 → i ≠ 7 * b) (ht : t < 2 ^ n) : StN (sI (sI h 18 i (nI t)) 64 i (nI t)) n := by
  obtain ⟨⟨s1, s2, s3, s4, s5, s6⟩, t1, t2, t3, t4, t5⟩ := st
  refine ⟨⟨fun j hj => ?_, ?_, ?_, ?_, ?_, ?_⟩, fun j hj => ?_, fun b hb => ?_, ?_, ?_, ?_⟩
  · by_cases e : j = i
    · simp [zI_sI, e]
    · simpa [zI_sI, e] using s1 j hj
  · simpa [zI_sI] using s2
  · simpa [zI_sI] using s3
  · simpa [zI_sI] using s4
  · simpa [zI_sI] using s5
  · simpa [zI_sI] using s6
  · by_cases e : j = i
    · exact ⟨t, ht, by simp [zI_sI, e]⟩
    · obtain ⟨s, e1, e2⟩ := t1 j hj
      exact ⟨s, e1, by simpa [zI_sI, e] using e2⟩
  · have := hi b hb
    have e2 := t2 b hb
    rw [zI_sI, if_neg (by omega), zI_sI, if_neg (by omega)]
    exact e2
  · simpa [zI_sI] using t3
  · simpa [zI_sI] using t4
  · simpa [zI_sI] using t5
theorem Rel_learn {h : Hp} {r : Rs} {i : Nat} {v : Int32} (R : Rel h r) (hi : ∀ b, b < 6 → i ≠ 7 * b) (ht : ∀ n, n ≤ 9 → StN h n → zI h r.1 4 = nI n → ∃ t, t < 2 ^ n ∧ v = nI t) : Rel (sI (sI h 18 i v) 64 i v) r := by
  obtain ⟨H, rp, tx, ft, n, w, l, ga, gb, gc, il, st, sy, im0, im1⟩ := R
  have hp := Rp_p rp
  obtain ⟨t, h1, rfl⟩ := ht n il.1.1 st il.2.1.1
  refine ⟨H, rp, ?_, ?_, n, w, l, ga, gb, gc, ?_, StN_learn st hi h1, ?_, ?_, ?_⟩
  · simpa [Tx, zI_sI] using tx
  · simpa [Ft, zI_sI] using ft
  · rcases hp with e | e <;> (rw [e] at il ⊢; simpa [Il, zI_sI] using il)
  · simpa [Sy, zI_sI] using sy
  · simpa [Im, StEq, StOk, zI_sI] using im0
  · simpa [Im, StEq, StOk, zI_sI] using im1
theorem e_hasC {f a b : Nat} {h : Hp} {r : Rs} (H : Sh h r) (ha : a < 6) (hb6 : b < 6) (k : Int32) : f_X4_has f 17 (nI a) (nI b) k h = some (b2 (hb (zI h 18 (6 * a + b)) k), h) := by
  unfold f_X4_has
  rw [gr_k (S_17 H) (R_17_0 H), Option.bind_some, ix6, ai_nI (S_18 H) (show 6 * a + b < 36 by omega) (by decide), Option.bind_some, e_isIn, bi_mk, b2_bo]
theorem e_learnC {f a b : Nat} {h : Hp} {r : Rs} (H : Sh h r) (ha : a < 6) (hb6 : b < 6) (k : Int32) : f_X4_learn f 17 (nI a) (nI b) k h = some (sI h 18 (6 * a + b) (zI h 18 (6 * a + b) ||| (1 : Int32) <<< (k &&& 31))) := by
  unfold f_X4_learn
  rw [gr_k (S_17 H) (R_17_0 H), Option.bind_some, ix6, ai_nI (S_18 H) (show 6 * a + b < 36 by omega) (by decide), Option.bind_some, as_nI (S_18 H) (show 6 * a + b < 36 by omega) (by decide), Option.bind_some]
theorem st_show {f : Nat} (hf : 10 ≤ f) (a b k : Int32) : StpR (f_X5_show f 0 a b k) (f_X6_show f 58 a b k) := by
  intro h r R
  obtain ⟨H, rp, tx, ft, n, w, l, ga, gb, gc, il, st, sy, im0, im1⟩ := id R
  have hp := Rp_p rp
  have eC := e_isMarkC (f := f) H rp il.2.1.1 il.1.1 k
  have eM := e_isMarkM (f := f) H il.2.1.2 il.1.1 k
  cases et : twB a b with
  | false =>
    refine ⟨-1000001, h, h, r, ?_, by rw [S_58 H], ?_, R⟩
    · simp [f_X5_show, b_X5_show_16, e_twoC, bi_mk, et, b2F]
    · simp [f_X6_show, b_X6_show_16, e_twoM, bi_mk, et, b2F]
  | true =>
    obtain ⟨i, j, hi, hj, hij, rfl, rfl⟩ := twB_t et
    cases ek : mkB n k with
    | false =>
      rw [ek] at eC eM
      refine ⟨-1000001, h, h, r, ?_, by rw [S_58 H], ?_, R⟩
      · simp [f_X5_show, b_X5_show_16, e_twoC, bi_mk, et, b2F, b2T, on_k (S_0 H), eC]
      · simp [f_X6_show, b_X6_show_16, e_twoM, bi_mk, et, b2F, b2T, on_k (S_58 H), eM]
    | true =>
      rw [ek] at eC eM
      obtain ⟨m, hm, rfl⟩ := mkB_t (by have := il.1.1; omega) ek
      have x36 : 6 * j + i < 36 := by omega
      have es := st.1.1 _ x36
      obtain ⟨s, hs, e64⟩ := st.2.1 _ x36
      have e18 : zI h 18 (6 * j + i) = nI s := es.trans e64
      cases eh : hb (nI s) (nI m) with
      | true =>
        refine ⟨-1000003, h, h, r, ?_, by rw [S_58 H], ?_, R⟩
        · simp [f_X5_show, e_twoC, bi_mk, et, b2T, on_k (S_0 H), eC, gr_k (S_0 H) (R_0_6 H), on_k (S_17 H), e_hasC H hj hi, e18, eh]
        · simp [f_X6_show, e_twoM, bi_mk, et, b2T, on_k (S_58 H), eM, gr_k (S_58 H) (R_58_11 H), ix6', ai_nI (S_64 H) x36 (by decide), e64, e_has, eh]
      | false =>
        obtain ⟨t, ht, et2⟩ := or1 hs hm il.1.1
        have ht9 : t < 512 := Nat.lt_of_lt_of_le ht (Nat.pow_le_pow_right (by decide) il.1.1)
        have H1 : Sh (sI h 18 (6 * j + i) (nI t)) r := H
        have H2 : Sh (sI (sI h 18 (6 * j + i) (nI t)) 64 (6 * j + i) (nI t)) r := H
        refine ⟨nI (pcn t), sI h 18 (6 * j + i) (nI t), sI (sI h 18 (6 * j + i) (nI t)) 64 (6 * j + i) (nI t), r, ?_, by rw [S_58 H1], ?_, ?_⟩
        · simp [f_X5_show, e_twoC, bi_mk, et, b2T, b2F, on_k (S_0 H), eC, gr_k (S_0 H) (R_0_6 H), on_k (S_17 H), e_hasC H hj hi, e18, eh, e_learnC H hj hi, et2, gr_k (S_0 H1) (R_0_6 H1), gr_k (S_17 H1) (R_17_0 H1), ix6, ai_nI (S_18 H1) x36 (by decide), zI_sI, e_bc, (pc_all t ht9).2]
        · have eM1 := e_isMarkM (f := f) H1 (show zI (sI h 18 (6 * j + i) (nI t)) 58 0 = nI n by simpa [zI_sI] using il.2.1.2) il.1.1 (nI m)
          rw [ek] at eM1
          have e64' : zI (sI h 18 (6 * j + i) (nI t)) 64 (6 * j + i) = nI s := by simpa [zI_sI] using e64
          simp only [f_X6_show, e_twoM, bi_mk, et, b2T, c10, if_false, on_k (S_58 H1), eM1, not_false_eq_true, if_true, gr_k (S_58 H1) (R_58_11 H1), Option.bind_some, ix6', ai_nI (S_64 H1) x36 (by decide), e64', e_has, eh, b2F, as_nI (S_64 H1) x36 (by decide), et2, gr_k (S_58 H2) (R_58_11 H2), ai_nI (S_64 H2) x36 (by decide), e_bits hf]
          simp [zI_sI, (pc_all t ht9).1]
        · exact Rel_learn R (fun b hb => by omega) (fun n' hn' st' e' => by
            have : n' = n := (nI_eq (by omega) (by have := il.1.1; omega)).mp (e'.symm.trans il.2.1.1)
            subst this
            exact ⟨t, ht, rfl⟩)
