/-! ===== err; all kinds ===== -/
section TK3
variable {f n : Nat} {r : Rs} {t : Nat → Nat} {P : Ps}
theorem take_4 {h : Hp} {i : Nat} {a : Nat → Nat} (M : MJl h r t n P) (G : MGl h P) (W : PW P) (hi : i ≤ n) (hf : 500 ≤ f) (e5 : zI h 58 21 = nI i) : ∃ h', f_X6_takeErr f 58 h = some (nI (rdl t n P 4 4 0 a i).1, h') ∧ TkR h h' r t n P 4 (rdl t n P 4 4 0 a i) := by
  have H := M.1.1
  obtain ⟨h1, e1, r4, F1, w1, w2⟩ := e_takeCorner (f := f) (a := a) (Or.inr ⟨rfl, rfl⟩) M W hi hf e5
  have M1 : MJl h1 r t n P := MJl_Fx M F1 (fun b j w => by
    unfold QCr
    simp only [Bool.and_eq_false_iff, Bool.or_eq_false_iff, decide_eq_false_iff_not]
    omega)
  have H1 := M1.1.1
  have n9 := W.1.1
  have i9 := W.1.2.1
  rw [rdl_two 0]
  unfold f_X6_takeErr
  rw [on_k (S_58 H), e1, bi_mk]
  by_cases c1 : (rdl t n P 4 2 0 a i).1 = 0
  · obtain ⟨v20, v21, v40, m6, kN, i2n⟩ := w1 c1
    rw [if_pos c1, if_pos (by rw [c1]; decide), gi_k (S_58 H1), Option.bind_some, Option.bind_some, on_k (S_58 H1), M1.2.1.2.2.2.2.1]
    generalize (rdl t n P 4 2 0 a i).2.2.1 = a2 at *
    generalize (rdl t n P 4 2 0 a i).2.2.2 = i2 at *
    have ck2 : ∀ (j : Nat) (a2 : Nat → Nat), 2 ≤ j → ∀ v, chk P 4 j a2 v = if decide (dst v 9 ≤ qI P) = true then 0 else 2 := fun j a2 hj v => by
      have j0 : j ≠ 0 := by omega
      have j1 : j ≠ 1 := by omega
      simp [chk, j0, j1]
    obtain ⟨h3, e3, F3, y1, y2⟩ := num_s (f := f) (okN_e i9) (ck2 2 a2 (by omega)) M1.1 i2n hf v21
    have M3 := MJl_tn M1 F3
    have H3 := M3.1.1
    have s4 := rdl_4 (t := t) (n := n) (P := P) (k := 4) (c := 1) (j := 2) (a := a2) (i := i2)
    rw [rdl_app 1, e3, bi_mk]
    unfold b_X6_takeErr_32
    rw [gi_k (S_58 H3), Option.bind_some]
    by_cases c2 : (rdl t n P 4 1 2 a2 i2).1 = 0
    · obtain ⟨u20, u21, u24, u4, u5, u6⟩ := y1 c2
      rw [if_pos c2, if_pos (by rw [c2]; decide), gi_k (S_58 H3), Option.bind_some, Option.bind_some, on_k (S_58 H3), M3.2.1.2.2.2.2.1, u24]
      generalize (rdl t n P 4 1 2 a2 i2).2.2.1 = a3 at *
      generalize (rdl t n P 4 1 2 a2 i2).2.2.2 = i3 at *
      rw [← u4 0 (by omega), ← u4 1 (by omega)] at v40
      rw [← u4 0 (by omega)] at m6
      rw [← u4 1 (by omega)] at kN
      obtain ⟨h4, e4, F4, z1, z2⟩ := num_s (f := f) (okN_e i9) (ck2 3 a3 (by omega)) M3.1 u5 hf u21
      have M4 := MJl_tn M3 F4
      have H4 := M4.1.1
      have F14 : Fx QMt h h4 := Fx_tr (Fx_cm F1) (Fx_tr (Fx_tt F3) (Fx_tt F4))
      have s5 := rdl_4 (t := t) (n := n) (P := P) (k := 4) (c := 1) (j := 3) (a := a3) (i := i3)
      show ∃ h', _ = some (nI (rdl t n P 4 1 3 a3 i3).1, h') ∧ TkR h h' r t n P 4 (rdl t n P 4 1 3 a3 i3)
      rw [e4, bi_mk]
      unfold b_X6_takeErr_64
      by_cases c0 : (rdl t n P 4 1 3 a3 i3).1 = 0
      · obtain ⟨x20, x21, x24, x4, x5, x6⟩ := z1 c0
        rw [if_pos (by rw [c0]; decide)]
        generalize hR : rdl t n P 4 1 3 a3 i3 = R at *
        have z40 : zI h4 58 40 = nI (9 * a3 0 + a3 1) := by rw [F4.1 58 40 rfl, F3.1 58 40 rfl]; exact v40
        rw [← x4 0 (by omega), ← x4 1 (by omega)] at z40
        rw [← x4 0 (by omega)] at m6
        rw [← x4 1 (by omega)] at kN
        rw [← x4 2 (by omega)]
        generalize hb : R.2.2.1 = b at *
        obtain ⟨d1, d2⟩ := q9 m6 (show b 1 < 9 by omega)
        obtain ⟨T4, ⟨m26, m32, m33, m34, m36, m37, m38⟩, m2, m3⟩ := id M4
        have n0 : ¬ (9 : Int32) = 0 := by decide
        have c54 : 9 * b 0 + b 1 < 54 := by omega
        generalize hg1 : sI h4 71 (9 * b 0 + b 1) (nI (qX P (b 1)) + nI (b 2) - 9) = g1
        have G1 : Sh g1 r := by rw [← hg1]; exact H4
        have zg1 : ∀ c, c ≠ 71 → zI g1 c = zI h4 c := fun c hc => by rw [← hg1, zI_row hc]
        generalize hg2 : sI g1 72 (9 * b 0 + b 1) (nI (qY P (b 1)) + nI (b 3) - 9) = g2
        have G2 : Sh g2 r := by rw [← hg2]; exact G1
        have zg2 : ∀ c, c ≠ 72 → zI g2 c = zI g1 c := fun c hc => by rw [← hg2, zI_row hc]
        generalize hg3 : sI g2 73 (9 * b 0 + b 1) 1 = g3
        have G3 : Sh g3 r := by rw [← hg3]; exact G2
        have zg3 : ∀ c, c ≠ 73 → zI g3 c = zI g2 c := fun c hc => by rw [← hg3, zI_row hc]
        have z58 : ∀ j, zI g3 58 j = zI h4 58 j := fun j => by rw [zg3 58 (by omega), zg2 58 (by omega), zg1 58 (by omega)]
        have Fg : Fx QMt h4 (sI g3 58 34 (nI (qE P + 1))) := by
          rw [← hg3, ← hg2, ← hg1]
          exact Fx_then (Fx_then (Fx_then (Fx_sI rfl) rfl) rfl) rfl
        have zr : ∀ c, c ≠ 58 → c ≠ 71 → c ≠ 72 → c ≠ 73 → zI (sI g3 58 34 (nI (qE P + 1))) c = zI h4 c := fun c q0 q1 q2 q3 => by rw [zI_row q0, zg3 c q3, zg2 c q2, zg1 c q1]
        refine ⟨sI g3 58 34 (nI (qE P + 1)), ?_, s5, Fx_tr F14 Fg, fun w => absurd c0 w, fun _ => ⟨?_, ?_, ?_, ?_⟩⟩
        · unfold q_nz
          rw [gr_k (S_58 H4) (R_58_29 H4), Option.bind_some, gi_k (S_58 H4), Option.bind_some, z40, gr_k (S_58 H4) (R_58_27 H4), Option.bind_some, Option.bind_some, if_neg n0, d2, ai_nI (S_69 H4) (by omega) (by decide), Option.bind_some, (m2 _ kN).1, as_nI (S_71 H4) c54 (by decide), Option.bind_some, hg1, gr_k (S_58 G1) (R_58_30 G1), Option.bind_some, gi_k (S_58 G1), Option.bind_some, zg1 58 (by omega), z40, gr_k (S_58 G1) (R_58_28 G1), Option.bind_some, Option.bind_some, if_neg n0, d2, ai_nI (S_70 G1) (by omega) (by decide), Option.bind_some, zg1 70 (by omega), (m2 _ kN).2, gi_k (S_58 G1), Option.bind_some, zg1 58 (by omega), x24, as_nI (S_72 G1) c54 (by decide), Option.bind_some, hg2, gr_k (S_58 G2) (R_58_31 G2), Option.bind_some, gi_k (S_58 G2), Option.bind_some, zg2 58 (by omega), zg1 58 (by omega), z40, nar_b (Or.inr rfl), as_nI (S_73 G2) c54 (by decide), Option.bind_some, hg3, gi_k (S_58 G3), Option.bind_some, z58 34, m34, nI_p1, pi_k (S_58 G3), Option.bind_some, c0]
          rfl
        · rw [hb]
          have T' : TM (sI g3 58 34 (nI (qE P + 1))) r t n := by
            refine ⟨G3, T4.2.1, ?_, fun j hj => ⟨(T4.2.2.2 j hj).1, ?_⟩⟩
            · rw [zI_sI, if_neg (by omega), z58 19]; exact T4.2.2.1
            · rw [zr 68 (by omega) (by omega) (by omega) (by omega)]; exact (T4.2.2.2 j hj).2
          refine MJl_map (m := b 0) (k := b 1) (x := nI (qX P (b 1)) + nI (b 2) - 9) (y := nI (qY P (b 1)) + nI (b 3) - 9) M4 T' m6 kN n9 rfl rfl rfl rfl rfl rfl (zr 69 (by omega) (by omega) (by omega) (by omega)) (zr 70 (by omega) (by omega) (by omega) (by omega)) (fun j => ?_) (fun j => ?_) (fun j => ?_) ⟨?_, ?_, ?_, ?_, ?_, ?_, ?_⟩
          · rw [zI_row (by omega), zg3 71 (by omega), zg2 71 (by omega), ← hg1, zI_sI]
            by_cases e : j = 9 * b 0 + b 1
            · rw [if_pos ⟨rfl, e⟩, if_pos e]
            · rw [if_neg (fun w => e w.2), if_neg e]
          · rw [zI_row (by omega), zg3 72 (by omega), ← hg2, zI_sI]
            by_cases e : j = 9 * b 0 + b 1
            · rw [if_pos ⟨rfl, e⟩, if_pos e]
            · rw [if_neg (fun w => e w.2), if_neg e, zg1 72 (by omega)]
          · rw [zI_row (by omega), ← hg3, zI_sI]
            by_cases e : j = 9 * b 0 + b 1
            · rw [if_pos ⟨rfl, e⟩, if_pos e]
            · rw [if_neg (fun w => e w.2), if_neg e, zg2 73 (by omega), zg1 73 (by omega)]
          · rw [zI_sI, if_neg (by omega), z58 26]; exact m26
          · rw [zI_sI, if_neg (by omega), z58 32]; exact m32
          · rw [zI_sI, if_neg (by omega), z58 33]; exact m33
          · rw [zI_sI, if_pos ⟨rfl, rfl⟩]; rfl
          · rw [zI_sI, if_neg (by omega), z58 36]; exact m36
          · rw [zI_sI, if_neg (by omega), z58 37]; exact m37
          · rw [zI_sI, if_neg (by omega), z58 38]; exact m38
        · refine MGl_row G ?_ rfl rfl rfl
          rw [zr 74 (by omega) (by omega) (by omega) (by omega), Fx_row F4 (fun _ => rfl), Fx_row F3 (fun _ => rfl), Fx_row F1 (fun _ => rfl)]
        · rw [zI_sI, if_neg (by omega), z58 21]; exact x21
        · rw [zI_sI, if_neg (by omega), z58 20, x20, u20]; exact v20
      · rw [if_neg (fun w => c0 ((nI_le0 (by omega)).mp w))]
        exact ⟨h4, rfl, s5, F14, z2, fun w => absurd w c0⟩
    · rw [if_neg c2, if_neg (fun w => c2 ((nI_le0 (by omega)).mp w))]
      unfold b_X6_takeErr_64
      rw [if_neg (fun w => c2 ((nI_le0 (by omega)).mp w))]
      exact ⟨h3, rfl, s4, Fx_tr (Fx_cm F1) (Fx_tt F3), y2, fun w => absurd w c2⟩
  · rw [if_neg c1, if_neg (fun w => c1 ((nI_le0 (by omega)).mp w))]
    unfold b_X6_takeErr_32 b_X6_takeErr_64
    rw [gi_k (S_58 H1), Option.bind_some, if_neg (fun w => c1 ((nI_le0 (by omega)).mp w)), if_neg (fun w => c1 ((nI_le0 (by omega)).mp w))]
    exact ⟨h1, rfl, r4, Fx_cm F1, w2, fun w => absurd w c1⟩
theorem e_takeOf {h : Hp} {k i : Nat} {a : Nat → Nat} (M : MJl h r t n P) (G : MGl h P) (W : PW P) (hk : k < 7) (hfu : fullP P k = false) (hi : i ≤ n) (hf : 500 ≤ f) (e5 : zI h 58 21 = nI i) : ∃ h', f_X6_takeOf f 58 (nI k) h = some (nI (rdl t n P k (cnt k) 0 a i).1, h') ∧ TkR h h' r t n P k (rdl t n P k (cnt k) 0 a i) := by
  have H := M.1.1
  unfold f_X6_takeOf
  rw [sw_k (by omega)]
  rcases (show k = 0 ∨ k = 1 ∨ k = 2 ∨ k = 3 ∨ k = 4 ∨ k = 5 ∨ k = 6 by omega) with rfl | rfl | rfl | rfl | rfl | rfl | rfl
  · obtain ⟨h', e, K⟩ := take_0 (f := f) (a := a) M G W hfu hi hf e5
    refine ⟨h', ?_, K⟩
    simp only [List.getElem?_cons_zero, Option.getD_some]
    rw [on_k (S_58 H), e, bi_mk]; rfl
  · obtain ⟨h', e, K⟩ := take_1 (f := f) (a := a) M W hi hf e5
    refine ⟨h', ?_, K⟩
    simp only [List.getElem?_cons_succ, List.getElem?_cons_zero, Option.getD_some]
    rw [on_k (S_58 H), e, bi_mk]; rfl
  · obtain ⟨h', h1, v, e1, e2, e3, e4, K⟩ := take_s (f := f) (a := a) (m := 9) (Or.inl ⟨rfl, rfl, rfl⟩) rfl M G hi hf e5
    refine ⟨h', ?_, K⟩
    simp only [List.getElem?_cons_succ, List.getElem?_cons_zero, Option.getD_some]
    rw [on_k (S_58 H), e1, bi_mk, e2, Option.bind_some, e3, Option.bind_some, e4]; rfl
  · obtain ⟨h', e, K⟩ := take_3 (f := f) (a := a) M G W hi hf e5
    refine ⟨h', ?_, K⟩
    simp only [List.getElem?_cons_succ, List.getElem?_cons_zero, Option.getD_some]
    rw [on_k (S_58 H), e, bi_mk]; rfl
  · obtain ⟨h', e, K⟩ := take_4 (f := f) (a := a) M G W hi hf e5
    refine ⟨h', ?_, K⟩
    simp only [List.getElem?_cons_succ, List.getElem?_cons_zero, Option.getD_some]
    rw [on_k (S_58 H), e, bi_mk]; rfl
  · obtain ⟨h', h1, v, e1, e2, e3, e4, K⟩ := take_s (f := f) (a := a) (m := 999) (Or.inr (Or.inl ⟨rfl, rfl, rfl⟩)) rfl M G hi hf e5
    refine ⟨h', ?_, K⟩
    simp only [List.getElem?_cons_succ, List.getElem?_cons_zero, Option.getD_some]
    rw [on_k (S_58 H), e1, bi_mk, e2, Option.bind_some, e3, Option.bind_some, e4]; rfl
  · obtain ⟨h', h1, v, e1, e2, e3, e4, K⟩ := take_s (f := f) (a := a) (m := 9999) (Or.inr (Or.inr ⟨rfl, rfl, rfl⟩)) rfl M G hi hf e5
    refine ⟨h', ?_, K⟩
    show q_on h 58 6 _ = _
    rw [on_k (S_58 H), e1, bi_mk, e2, Option.bind_some, e3, Option.bind_some, e4]; rfl
end TK3
