/-! ===== trade, dig ===== -/
theorem sI_comm {h : Hp} {a k a' k' : Nat} {v v' : Int32} (e : ¬ (a = a' ∧ k = k')) : sI (sI h a k v) a' k' v' = sI (sI h a' k' v') a k v := by
  unfold sI
  simp only
  congr 3
  funext x y
  unfold up2
  by_cases c1 : x = a ∧ y = k
  · by_cases c2 : x = a' ∧ y = k'
    · exact absurd ⟨c1.1.symm.trans c2.1, c1.2.symm.trans c2.2⟩ e
    · simp [c1, c2]
      intro q1 q2
      exact absurd ⟨c1.1.trans q1, c1.2.trans q2⟩ c2
  · simp [c1]
theorem qin {m n : Nat} (h : m < n) (hn : n < 2 ^ 31) : q_in (nI m) n := by
  rw [q_in, nI_toInt (by omega)]; omega
theorem st_trade {f : Nat} (a k b j : Int32) : StpR (f_X5_trade f 0 a k b j) (f_X6_trade f 58 a k b j) := by
  intro h r R
  obtain ⟨H, rp, tx, ft, n, w, l, ga, gb, gc, il, st, sy, im0, im1⟩ := id R
  have hp := Rp_p rp
  have kC := e_isMarkC (f := f) H rp il.2.1.1 il.1.1 k
  have kM := e_isMarkM (f := f) H il.2.1.2 il.1.1 k
  have jC := e_isMarkC (f := f) H rp il.2.1.1 il.1.1 j
  have jM := e_isMarkM (f := f) H il.2.1.2 il.1.1 j
  cases et : twB a b with
  | false =>
    refine ⟨-1000001, h, h, r, ?_, by rw [S_58 H], ?_, R⟩
    · simp [f_X5_trade, b_X5_trade_25, e_twoC, bi_mk, et, b2F]
    · simp [f_X6_trade, b_X6_trade_25, e_twoM, bi_mk, et, b2F]
  | true =>
    obtain ⟨i, i', hi, hi', hii, rfl, rfl⟩ := twB_t et
    cases ek : mkB n k with
    | false =>
      rw [ek] at kC kM
      refine ⟨-1000001, h, h, r, ?_, by rw [S_58 H], ?_, R⟩
      · simp [f_X5_trade, b_X5_trade_25, e_twoC, bi_mk, et, b2F, b2T, on_k (S_0 H), kC]
      · simp [f_X6_trade, b_X6_trade_25, e_twoM, bi_mk, et, b2F, b2T, on_k (S_58 H), kM]
    | true =>
      rw [ek] at kC kM
      cases ej : mkB n j with
      | false =>
        rw [ej] at jC jM
        refine ⟨-1000001, h, h, r, ?_, by rw [S_58 H], ?_, R⟩
        · simp [f_X5_trade, b_X5_trade_25, e_twoC, bi_mk, et, b2F, b2T, on_k (S_0 H), kC, jC]
        · simp [f_X6_trade, b_X6_trade_25, e_twoM, bi_mk, et, b2F, b2T, on_k (S_58 H), kM, jM]
      | true =>
        rw [ej] at jC jM
        obtain ⟨m, hm, rfl⟩ := mkB_t (by have := il.1.1; omega) ek
        obtain ⟨m', hm', rfl⟩ := mkB_t (by have := il.1.1; omega) ej
        have x1 : 6 * i' + i < 36 := by omega
        have x2 : 6 * i + i' < 36 := by omega
        obtain ⟨s1, hs1, e1⟩ := st.2.1 _ x1
        obtain ⟨s2, hs2, e2⟩ := st.2.1 _ x2
        have e1' : zI h 18 (6 * i' + i) = nI s1 := (st.1.1 _ x1).trans e1
        have e2' : zI h 18 (6 * i + i') = nI s2 := (st.1.1 _ x2).trans e2
        cases eh : hb (nI s1) (nI m) with
        | true =>
          refine ⟨-1000003, h, h, r, ?_, by rw [S_58 H], ?_, R⟩
          · simp [f_X5_trade, b_X5_trade_55, e_twoC, bi_mk, et, b2T, on_k (S_0 H), kC, jC, gr_k (S_0 H) (R_0_6 H), on_k (S_17 H), e_hasC H hi' hi, e1', eh]
          · simp [f_X6_trade, b_X6_trade_66, e_twoM, bi_mk, et, b2T, on_k (S_58 H), kM, jM, gr_k (S_58 H) (R_58_11 H), ix6', ai_nI (S_64 H) x1 (by decide), e1, e_has, eh]
        | false =>
          cases eh2 : hb (nI s2) (nI m') with
          | true =>
            refine ⟨-1000003, h, h, r, ?_, by rw [S_58 H], ?_, R⟩
            · simp [f_X5_trade, b_X5_trade_55, e_twoC, bi_mk, et, b2T, b2F, on_k (S_0 H), kC, jC, gr_k (S_0 H) (R_0_6 H), on_k (S_17 H), e_hasC H hi' hi, e_hasC H hi hi', e1', e2', eh, eh2]
            · simp [f_X6_trade, b_X6_trade_66, e_twoM, bi_mk, et, b2T, b2F, on_k (S_58 H), kM, jM, gr_k (S_58 H) (R_58_11 H), ix6', ai_nI (S_64 H) x1 (by decide), ai_nI (S_64 H) x2 (by decide), e1, e2, e_has, eh, eh2]
          | false =>
            obtain ⟨t1, ht1, et1⟩ := or1 hs1 hm il.1.1
            obtain ⟨t2, ht2, et2⟩ := or1 hs2 hm' il.1.1
            have nx : ¬ (6 * i + i' = 6 * i' + i) := by omega
            have H1 : Sh (sI h 18 (6 * i' + i) (nI t1)) r := H
            have H2 : Sh (sI (sI h 18 (6 * i' + i) (nI t1)) 18 (6 * i + i') (nI t2)) r := H
            have H3 : Sh (sI (sI (sI h 18 (6 * i' + i) (nI t1)) 18 (6 * i + i') (nI t2)) 64 (6 * i' + i) (nI t1)) r := H
            refine ⟨1, sI (sI h 18 (6 * i' + i) (nI t1)) 18 (6 * i + i') (nI t2), sI (sI (sI (sI h 18 (6 * i' + i) (nI t1)) 18 (6 * i + i') (nI t2)) 64 (6 * i' + i) (nI t1)) 64 (6 * i + i') (nI t2), r, ?_, by rw [S_58 H2], ?_, ?_⟩
            · simp [f_X5_trade, e_twoC, bi_mk, et, b2T, b2F, on_k (S_0 H), kC, jC, gr_k (S_0 H) (R_0_6 H), on_k (S_17 H), e_hasC H hi' hi, e_hasC H hi hi', e1', e2', eh, eh2, e_learnC H hi' hi, et1, gr_k (S_0 H1) (R_0_6 H1), on_k (S_17 H1), e_learnC H1 hi hi', zI_sI, nx, et2]
            · have kM2 := e_isMarkM (f := f) H2 (show zI (sI (sI h 18 (6 * i' + i) (nI t1)) 18 (6 * i + i') (nI t2)) 58 0 = nI n by simpa [zI_sI] using il.2.1.2) il.1.1 (nI m)
              have jM2 := e_isMarkM (f := f) H2 (show zI (sI (sI h 18 (6 * i' + i) (nI t1)) 18 (6 * i + i') (nI t2)) 58 0 = nI n by simpa [zI_sI] using il.2.1.2) il.1.1 (nI m')
              rw [ek] at kM2
              rw [ej] at jM2
              have g1 : zI (sI (sI h 18 (6 * i' + i) (nI t1)) 18 (6 * i + i') (nI t2)) 64 (6 * i' + i) = nI s1 := by simpa [zI_sI] using e1
              have g2 : zI (sI (sI h 18 (6 * i' + i) (nI t1)) 18 (6 * i + i') (nI t2)) 64 (6 * i + i') = nI s2 := by simpa [zI_sI] using e2
              have g3 : zI (sI (sI (sI h 18 (6 * i' + i) (nI t1)) 18 (6 * i + i') (nI t2)) 64 (6 * i' + i) (nI t1)) 64 (6 * i + i') = nI s2 := by simpa [zI_sI, nx] using e2
              simp only [f_X6_trade, e_twoM, bi_mk, et, b2T, b2F, c10, if_false, not_false_eq_true, if_true, not_true_eq_false, on_k (S_58 H2), kM2, jM2, gr_k (S_58 H2) (R_58_11 H2), Option.bind_some, ix6', ai_nI (S_64 H2) x1 (by decide), ai_nI (S_64 H2) x2 (by decide), g1, g2, e_has, eh, eh2, as_nI (S_64 H2) x1 (by decide), et1, gr_k (S_58 H3) (R_58_11 H3), ai_nI (S_64 H3) x2 (by decide), g3, as_nI (S_64 H3) x2 (by decide), et2]
            · rw [sI_comm (h := sI h 18 (6 * i' + i) (nI t1)) (a := 18) (k := 6 * i + i') (a' := 64) (k' := 6 * i' + i) (by omega)]
              refine Rel_learn (Rel_learn R (fun b hb => by omega) ?_) (fun b hb => by omega) ?_
              · intro n' hn' st' e'
                have : n' = n := (nI_eq (by omega) (by have := il.1.1; omega)).mp (e'.symm.trans il.2.1.1)
                subst this
                exact ⟨t1, ht1, rfl⟩
              · intro n' hn' st' e'
                have e9 : zI h r.1 4 = nI n' := by
                  rcases hp with q | q <;> (rw [q] at e' ⊢; simpa [zI_sI] using e')
                have : n' = n := (nI_eq (by omega) (by have := il.1.1; omega)).mp (e9.symm.trans il.2.1.1)
                subst this
                exact ⟨t2, ht2, rfl⟩
