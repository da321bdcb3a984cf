/-! ===== goal, lie, err ===== -/
section TK2
variable {f n : Nat} {r : Rs} {t : Nat → Nat} {P : Ps}
theorem goal_go (N9 : qN P ≤ 9) (hf : 500 ≤ f) : ∀ (c j : Nat) (a : Nat → Nat) (i : Nat) (h : Hp) (d : Nat), j + c = 3 → c < d → MJl h r t n P → (∀ x, x < j → zI h 74 x = nI (a x)) → i ≤ n → zI h 58 21 = nI i → ∃ h', l_X6_takeGoal_4 f d 58 0 (nI j) h = some (nI (rdl t n P 1 c j a i).1, h') ∧ Fx QMt h h' ∧ ((rdl t n P 1 c j a i).1 ≠ 0 → zI h' 58 20 = nI (rdl t n P 1 c j a i).2.1) ∧ ((rdl t n P 1 c j a i).1 = 0 → MJl h' r t n P ∧ (∀ x, x < 3 → zI h' 74 x = nI ((rdl t n P 1 c j a i).2.2.1 x)) ∧ zI h' 58 21 = nI (rdl t n P 1 c j a i).2.2.2 ∧ zI h' 58 20 = zI h 58 20) := by
  intro c
  induction c with
  | zero =>
    intro j a i h d hj hd M ea hi e21
    obtain ⟨d', rfl⟩ : ∃ d', d = d' + 1 := ⟨d - 1, by omega⟩
    show ∃ h', b_X6_takeGoal_4 f (l_X6_takeGoal_4 f d') 58 0 (nI j) h = _ ∧ _
    unfold b_X6_takeGoal_4 b_X6_takeGoal_41
    rw [if_pos (show (3 : Int32) ≤ nI j from (nI_leI (a := 3) (by omega) (by omega)).mpr (by omega))]
    exact ⟨h, rfl, Fx_rf _ _, fun w => absurd rfl w, fun _ => ⟨M, fun x hx => ea x (by omega), e21, rfl⟩⟩
  | succ c ih =>
    intro j a i h d hj hd M ea hi e21
    obtain ⟨d', rfl⟩ : ∃ d', d = d' + 1 := ⟨d - 1, by omega⟩
    have H := M.1.1
    have ck : ∀ v, chk P 1 j a v = if decide (v < qN P) = true then 0 else 2 := fun v => by simp [chk]
    obtain ⟨h1, e1, F1, w1, w2⟩ := num_s (f := f) (okN_m N9) ck M.1 hi hf e21
    have M1 := MJl_tn M F1
    have H1 := M1.1.1
    have r4 := rdl_4 (t := t) (n := n) (P := P) (k := 1) (c := 1) (j := j) (a := a) (i := i)
    rw [rdl_app c]
    show ∃ h', b_X6_takeGoal_4 f (l_X6_takeGoal_4 f d') 58 0 (nI j) h = _ ∧ _
    unfold b_X6_takeGoal_4 lt
    rw [if_neg (show ¬ (3 : Int32) ≤ nI j from fun w => by have := (nI_leI (a := 3) (b := j) (by omega) (by omega)).mp w; omega), if_neg (fun w => w rfl), gi_k (S_58 H), Option.bind_some, on_k (S_58 H), M.2.1.1, e1, bi_mk, gr_k (S_58 H1) (R_58_35 H1), Option.bind_some, gi_k (S_58 H1), Option.bind_some, as_nI (S_74 H1) (by omega) (by decide), Option.bind_some, nI_p1]
    have F2 : Fx QMt h1 (sI h1 74 j (zI h1 58 24)) := Fx_sI rfl
    have M2 : MJl (sI h1 74 j (zI h1 58 24)) r t n P := MJl_Fx (Q := fun b _ => decide (b = 74)) M1 (Fx_sI (by simp)) (fun b j w => decide_eq_false (by omega))
    by_cases c1 : (rdl t n P 1 1 j a i).1 = 0
    · obtain ⟨v1, v2, v3, v4, v5, v6⟩ := w1 c1
      rw [if_pos c1, c1]
      generalize (rdl t n P 1 1 j a i).2.2.1 = a1 at *
      generalize (rdl t n P 1 1 j a i).2.2.2 = i1 at *
      obtain ⟨h', e', F', x1, x2⟩ := ih (j + 1) a1 i1 (sI h1 74 j (zI h1 58 24)) d' (by omega) (by omega) M2 (fun x hx => by
        rw [zI_sI]
        by_cases ex : x = j
        · rw [if_pos ⟨rfl, ex⟩, ex]; exact v3
        · rw [if_neg (fun w => ex w.2), v4 x ex, F1.1 74 x rfl]; exact ea x (by omega)) v5 (by rw [zI_row (by omega)]; exact v2)
      refine ⟨h', e', Fx_tr (Fx_tr (Fx_tt F1) F2) F', x1, fun w => ?_⟩
      obtain ⟨y1, y2, y3, y4⟩ := x2 w
      exact ⟨y1, y2, y3, by rw [y4, zI_row (by omega)]; exact v1⟩
    · rw [if_neg c1]
      obtain ⟨d'', rfl⟩ : ∃ d'', d' = d'' + 1 := ⟨d' - 1, by omega⟩
      refine ⟨sI h1 74 j (zI h1 58 24), ?_, Fx_tr (Fx_tt F1) F2, fun w => by rw [zI_row (by omega)]; exact w2 w, fun w => absurd w c1⟩
      show b_X6_takeGoal_4 f (l_X6_takeGoal_4 f d'') 58 _ (nI (j + 1)) _ = _
      unfold b_X6_takeGoal_4 b_X6_takeGoal_41
      have nz : ¬ nI (rdl t n P 1 1 j a i).1 = (0 : Int32) := fun w => c1 ((nI_eq (b := 0) (by omega) (by omega)).mp w)
      rw [if_pos nz]
      split <;> rfl
theorem take_1 {h : Hp} {i : Nat} {a : Nat → Nat} (M : MJl h r t n P) (W : PW P) (hi : i ≤ n) (hf : 500 ≤ f) (e5 : zI h 58 21 = nI i) : ∃ h', f_X6_takeGoal f 58 h = some (nI (rdl t n P 1 3 0 a i).1, h') ∧ TkR h h' r t n P 1 (rdl t n P 1 3 0 a i) := by
  obtain ⟨h', e, F, w1, w2⟩ := goal_go (f := f) W.1.1 hf 3 0 a i h f rfl (by omega) M (fun x hx => by omega) hi e5
  refine ⟨h', e, rdl_4, F, w1, fun w => ?_⟩
  obtain ⟨y1, y2, y3, y4⟩ := w2 w
  exact ⟨y1, ⟨y2 0 (by omega), y2 1 (by omega), y2 2 (by omega)⟩, y3, y4⟩
theorem e_sizeN {a b : Nat} {h : Hp} (ha : a < 2 ^ 20) (hb : b < 2 ^ 20) : f_X6_size f (nI a - nI b) h = some (nI (dst a b), h) := by
  have e := e_abs ha hb
  unfold f_X6_size b_X6_size_10
  by_cases c : 0 ≤ nI a - nI b
  · rw [if_pos c] at e ⊢; rw [e]
  · rw [if_neg c] at e ⊢; rw [Int32.zero_sub] at e; rw [e]
theorem MJl_map {h h' : Hp} {P P' : Ps} {m k : Nat} {x y : Int32} (M : MJl h r t n P) (T' : TM h' r t n) (hm : m < 6) (hk : k < qN P) (n9 : qN P ≤ 9) (eN : qN P' = qN P) (eX : qX P' = qX P) (eY : qY P' = qY P) (eU : qU P' = up2 (qU P) m k x) (eV : qV P' = up2 (qV P) m k y) (eC : qC P' = up1 (qC P) m (qC P m ||| 2 ^ k)) (z69 : zI h' 69 = zI h 69) (z70 : zI h' 70 = zI h 70) (z71 : ∀ j, zI h' 71 j = if j = 9 * m + k then x else zI h 71 j) (z72 : ∀ j, zI h' 72 j = if j = 9 * m + k then y else zI h 72 j) (z73 : ∀ j, zI h' 73 j = if j = 9 * m + k then 1 else zI h 73 j) (fs : zI h' 58 26 = nI (qN P') ∧ zI h' 58 32 = nI (qJ P') ∧ zI h' 58 33 = nI (qL P') ∧ zI h' 58 34 = nI (qE P') ∧ zI h' 58 36 = nI (qI P') ∧ zI h' 58 37 = nI (qp P') ∧ zI h' 58 38 = nI (qz P')) : MJl h' r t n P' := by
  obtain ⟨-, c1, c2, c3⟩ := M
  refine ⟨T', fs, ?_, ?_⟩
  · rw [eN, eX, eY, z69, z70]; exact c2
  · rw [eN, eU, eV, eC]
    intro m' hm' k' hk'
    rw [z71, z72, z73]
    unfold up2 up1
    by_cases e : m' = m ∧ k' = k
    · rw [if_pos e, if_pos e, if_pos e.1, if_pos (by omega), if_pos (by omega), if_pos (by omega)]
      refine ⟨fun _ => ⟨rfl, rfl, rfl⟩, fun w => ?_⟩
      rw [Nat.testBit_or, e.2, Nat.testBit_two_pow_self, Bool.or_true] at w; cases w
    · have nx : ¬ 9 * m' + k' = 9 * m + k := by omega
      rw [if_neg e, if_neg e, if_neg nx, if_neg nx, if_neg nx]
      by_cases e1 : m' = m
      · have ek : k ≠ k' := fun w => e ⟨e1, w.symm⟩
        rw [if_pos e1, Nat.testBit_or, Nat.testBit_two_pow_of_ne ek, Bool.or_false, ← e1]
        exact c3 m' hm' k' hk'
      · rw [if_neg e1]; exact c3 m' hm' k' hk'
theorem q9 {m k : Nat} (hm : m < 6) (hk : k < 9) : nI (9 * m + k) / (9 : Int32) = nI m ∧ nI (9 * m + k) - nI (9 * m + k) / (9 : Int32) * (9 : Int32) = nI k := by
  refine ⟨?_, ?_⟩
  · show nI (9 * m + k) / nI 9 = nI m
    rw [pk_div (by omega) (by decide) (by decide), show (9 * m + k) / 9 = m by omega]
  · show nI (9 * m + k) - nI (9 * m + k) / nI 9 * nI 9 = nI k
    rw [pk_rem (by omega) (by decide) (by decide), show (9 * m + k) % 9 = k by omega]
theorem take_3 {h : Hp} {i : Nat} {a : Nat → Nat} (M : MJl h r t n P) (G : MGl h P) (W : PW P) (hi : i ≤ n) (hf : 500 ≤ f) (e5 : zI h 58 21 = nI i) : ∃ h', f_X6_takeLie f 58 h = some (nI (rdl t n P 3 4 0 a i).1, h') ∧ TkR h h' r t n P 3 (rdl t n P 3 4 0 a i) := by
  have H := M.1.1
  obtain ⟨h1, e1, r4, F1, w1, w2⟩ := e_takeCorner (f := f) (a := a) (Or.inl ⟨rfl, rfl⟩) M W hi hf e5
  have M1 : MJl h1 r t n P := MJl_Fx M F1 (fun b j w => by
    unfold QCr
    simp only [Bool.and_eq_false_iff, Bool.or_eq_false_iff, decide_eq_false_iff_not]
    omega)
  have H1 := M1.1.1
  have n9 := W.1.1
  have i9 := W.1.2.1
  rw [rdl_two 0]
  unfold f_X6_takeLie
  rw [on_k (S_58 H), e1, bi_mk]
  by_cases c1 : (rdl t n P 3 2 0 a i).1 = 0
  · obtain ⟨v20, v21, v40, m6, kN, i2n⟩ := w1 c1
    rw [if_pos c1, if_pos (by rw [c1]; decide), on_k (S_58 H1)]
    generalize (rdl t n P 3 2 0 a i).2.2.1 = a2 at *
    generalize (rdl t n P 3 2 0 a i).2.2.2 = i2 at *
    have ck2 : ∀ v, chk P 3 2 a2 v = if decide (v ≤ 99) = true then 0 else 2 := fun v => by simp [chk, c99]
    have O : OkN 0 99 (fun v => decide (v ≤ 99)) := okN_c (m := 99) (by omega)
    obtain ⟨h3, e3, F3, y1, y2⟩ := num_s (f := f) O ck2 M1.1 i2n hf v21
    have M3 := MJl_tn M1 F3
    have H3 := M3.1.1
    have s4 := rdl_4 (t := t) (n := n) (P := P) (k := 3) (c := 1) (j := 2) (a := a2) (i := i2)
    rw [rdl_app 1, e3, bi_mk]
    unfold b_X6_takeLie_21
    rw [gi_k (S_58 H3), Option.bind_some]
    by_cases c2 : (rdl t n P 3 1 2 a2 i2).1 = 0
    · obtain ⟨u20, u21, u24, u4, u5, u6⟩ := y1 c2
      rw [if_pos c2, if_pos (by rw [c2]; decide), on_k (S_58 H3), u24]
      generalize (rdl t n P 3 1 2 a2 i2).2.2.1 = a3 at *
      generalize (rdl t n P 3 1 2 a2 i2).2.2.2 = i3 at *
      have x99 : a3 2 ≤ 99 := by rw [ck2] at u6; by_cases q : a3 2 ≤ 99; exact q; rw [decide_eq_false q] at u6; exact absurd u6 (by decide)
      rw [← u4 0 (by omega), ← u4 1 (by omega)] at v40
      rw [← u4 0 (by omega)] at m6
      rw [← u4 1 (by omega)] at kN
      have ck3 : ∀ v, chk P 3 3 a3 v = if decide (v ≤ 99) = true then (if decide (dst (a3 2) (qX P (a3 1)) ≤ 2 * qI P ∧ dst v (qY P (a3 1)) ≤ 2 * qI P) = true then 4 else 0) else 2 := fun v => by simp [chk]
      obtain ⟨h4, cd, e4, cd2, F4, z⟩ := num_b (f := f) O ck3 M3.1 u5 hf u21
      have M4 := MJl_tn M3 F4
      have H4 := M4.1.1
      have F14 : Fx QMt h h4 := Fx_tr (Fx_cm F1) (Fx_tr (Fx_tt F3) (Fx_tt F4))
      rw [e4, bi_mk]
      unfold b_X6_takeLie_42
      rcases z with ⟨c0, er, z20⟩ | ⟨c0, V, V9, okV, z20, z21, z24, z25, hd, er⟩
      · rw [er, if_neg (fun w => c0 ((nI_le0 (by omega)).mp w))]
        exact ⟨h4, rfl, by show cd ≤ 4; omega, F14, fun _ => z20, fun w => absurd w c0⟩
      · have V99 : V ≤ 99 := of_decide_eq_true okV
        have z40 : zI h4 58 40 = nI (9 * a3 0 + a3 1) := by rw [F4.1 58 40 rfl, F3.1 58 40 rfl]; exact v40
        obtain ⟨d1, d2⟩ := q9 m6 (show a3 1 < 9 by omega)
        obtain ⟨x9, y9⟩ := W.2.2.2.2.1 (a3 1) kN
        obtain ⟨T4, ⟨m26, m32, m33, m34, m36, m37, m38⟩, m2, m3⟩ := id M4
        have e2w : (2 : Int32) * nI (qI P) = nI (2 * qI P) := pk_mul 2 (qI P)
        have n0 : ¬ (9 : Int32) = 0 := by decide
        have dd1 : dst (a3 2) (qX P (a3 1)) ≤ 99 := by unfold dst; omega
        have dd2 : dst V (qY P (a3 1)) ≤ 99 := by unfold dst; omega
        have sz1 := e_sizeN (f := f) (h := h4) (show a3 2 < 2 ^ 20 by omega) (show qX P (a3 1) < 2 ^ 20 by omega)
        have sz2 := e_sizeN (f := f) (h := h4) (show V < 2 ^ 20 by omega) (show qY P (a3 1) < 2 ^ 20 by omega)
        unfold f_X6_fails q_nz
        rw [if_pos ((nI_le0 (by omega)).mpr c0), gi_k (S_58 H4), Option.bind_some, z40, if_neg n0, d2]
        simp only [lt]
        rw [gr_k (S_58 H4) (R_58_27 H4), Option.bind_some, ai_nI (S_69 H4) (by omega) (by decide), Option.bind_some, (m2 _ kN).1, sz1, bi_mk, gi_k (S_58 H4), Option.bind_some, m36, e2w, er]
        have good : ¬ (dst (a3 2) (qX P (a3 1)) ≤ 2 * qI P ∧ dst V (qY P (a3 1)) ≤ 2 * qI P) → ∃ h', b_X6_takeLie_110 f 58 (nI (a3 2)) h4 = some (nI (if decide (dst (a3 2) (qX P (a3 1)) ≤ 2 * qI P ∧ dst V (qY P (a3 1)) ≤ 2 * qI P) = true then (4, sk t n i3, a3, i3) else (0, 0, up1 a3 3 V, dE t n (sk t n i3))).1, h') ∧ TkR h h' r t n P 3 (if decide (dst (a3 2) (qX P (a3 1)) ≤ 2 * qI P ∧ dst V (qY P (a3 1)) ≤ 2 * qI P) = true then (4, sk t n i3, a3, i3) else (0, 0, up1 a3 3 V, dE t n (sk t n i3))) := fun nb => by
          rw [if_neg (fun w => nb (of_decide_eq_true w))]
          have c54 : 9 * a3 0 + a3 1 < 54 := by omega
          generalize hg1 : sI h4 71 (9 * a3 0 + a3 1) (nI (a3 2)) = g1
          have G1 : Sh g1 r := by rw [← hg1]; exact H4
          have zg1 : ∀ b, b ≠ 71 → zI g1 b = zI h4 b := fun b hb => by rw [← hg1, zI_row hb]
          generalize hg2 : sI g1 72 (9 * a3 0 + a3 1) (nI V) = g2
          have G2 : Sh g2 r := by rw [← hg2]; exact G1
          have zg2 : ∀ b, b ≠ 72 → zI g2 b = zI g1 b := fun b hb => by rw [← hg2, zI_row hb]
          generalize hg3 : sI g2 73 (9 * a3 0 + a3 1) 1 = g3
          have G3 : Sh g3 r := by rw [← hg3]; exact G2
          have zg3 : ∀ b, b ≠ 73 → zI g3 b = zI g2 b := fun b hb => by rw [← hg3, zI_row hb]
          have z58 : ∀ j, zI g3 58 j = zI h4 58 j := fun j => by rw [zg3 58 (by omega), zg2 58 (by omega), zg1 58 (by omega)]
          have G4 : Sh (sI g3 58 33 (nI (qL P ||| 2 ^ a3 0))) r := G3
          have Fg : Fx QMt h4 (sI (sI g3 58 33 (nI (qL P ||| 2 ^ a3 0))) 58 32 (nI (qJ P + 1))) := by
            rw [← hg3, ← hg2, ← hg1]
            exact Fx_then (Fx_then (Fx_then (Fx_then (Fx_sI rfl) rfl) rfl) rfl) rfl
          have zr : ∀ b, b ≠ 58 → b ≠ 71 → b ≠ 72 → b ≠ 73 → zI (sI (sI g3 58 33 (nI (qL P ||| 2 ^ a3 0))) 58 32 (nI (qJ P + 1))) b = zI h4 b := fun b q0 q1 q2 q3 => by rw [zI_row q0, zI_row q0, zg3 b q3, zg2 b q2, zg1 b q1]
          refine ⟨sI (sI g3 58 33 (nI (qL P ||| 2 ^ a3 0))) 58 32 (nI (qJ P + 1)), ?_, by show 0 ≤ 4; omega, Fx_tr F14 Fg, fun w => absurd rfl w, fun _ => ⟨?_, ?_, ?_, ?_⟩⟩
          · unfold b_X6_takeLie_110 q_nz
            rw [gr_k (S_58 H4) (R_58_29 H4), Option.bind_some, gi_k (S_58 H4), Option.bind_some, z40, as_nI (S_71 H4) c54 (by decide), Option.bind_some, hg1, gr_k (S_58 G1) (R_58_30 G1), Option.bind_some, gi_k (S_58 G1), Option.bind_some, zg1 58 (by omega), z40, gi_k (S_58 G1), Option.bind_some, zg1 58 (by omega), z24, as_nI (S_72 G1) c54 (by decide), Option.bind_some, hg2, gr_k (S_58 G2) (R_58_31 G2), Option.bind_some, gi_k (S_58 G2), Option.bind_some, zg2 58 (by omega), zg1 58 (by omega), z40, nar_b (Or.inr rfl), as_nI (S_73 G2) c54 (by decide), Option.bind_some, hg3, gi_k (S_58 G3), Option.bind_some, gi_k (S_58 G3), Option.bind_some, z58 33, z58 40, z40, m33, if_neg n0, d1, or_sh (by omega), pi_k (S_58 G3), Option.bind_some, gi_k (S_58 G4), Option.bind_some, zI_sI, if_neg (by omega), z58 32, m32, nI_p1, pi_k (S_58 G4), Option.bind_some]
            rfl
          · have T' : TM (sI (sI g3 58 33 (nI (qL P ||| 2 ^ a3 0))) 58 32 (nI (qJ P + 1))) r t n := by
              refine ⟨G4, T4.2.1, ?_, fun j hj => ⟨(T4.2.2.2 j hj).1, ?_⟩⟩
              · rw [zI_sI, if_neg (by omega), zI_sI, if_neg (by omega), z58 19]; exact T4.2.2.1
              · rw [zr 68 (by omega) (by omega) (by omega) (by omega)]; exact (T4.2.2.2 j hj).2
            refine MJl_map (m := a3 0) (k := a3 1) (x := nI (a3 2)) (y := nI V) M4 T' m6 kN n9 rfl rfl rfl rfl rfl rfl (zr 69 (by omega) (by omega) (by omega) (by omega)) (zr 70 (by omega) (by omega) (by omega) (by omega)) (fun j => ?_) (fun j => ?_) (fun j => ?_) ⟨?_, ?_, ?_, ?_, ?_, ?_, ?_⟩
            · rw [zI_row (by omega), zI_row (by omega), zg3 71 (by omega), zg2 71 (by omega), ← hg1, zI_sI]
              by_cases e : j = 9 * a3 0 + a3 1
              · rw [if_pos ⟨rfl, e⟩, if_pos e]
              · rw [if_neg (fun w => e w.2), if_neg e]
            · rw [zI_row (by omega), zI_row (by omega), zg3 72 (by omega), ← hg2, zI_sI]
              by_cases e : j = 9 * a3 0 + a3 1
              · rw [if_pos ⟨rfl, e⟩, if_pos e]
              · rw [if_neg (fun w => e w.2), if_neg e, zg1 72 (by omega)]
            · rw [zI_row (by omega), zI_row (by omega), ← hg3, zI_sI]
              by_cases e : j = 9 * a3 0 + a3 1
              · rw [if_pos ⟨rfl, e⟩, if_pos e]
              · rw [if_neg (fun w => e w.2), if_neg e, zg2 73 (by omega), zg1 73 (by omega)]
            · rw [zI_sI, if_neg (by omega), zI_sI, if_neg (by omega), z58 26]; exact m26
            · rw [zI_sI, if_pos ⟨rfl, rfl⟩]; rfl
            · rw [zI_sI, if_neg (by omega), zI_sI, if_pos ⟨rfl, rfl⟩]; rfl
            · rw [zI_sI, if_neg (by omega), zI_sI, if_neg (by omega), z58 34]; exact m34
            · rw [zI_sI, if_neg (by omega), zI_sI, if_neg (by omega), z58 36]; exact m36
            · rw [zI_sI, if_neg (by omega), zI_sI, if_neg (by omega), z58 37]; exact m37
            · rw [zI_sI, if_neg (by omega), zI_sI, if_neg (by omega), z58 38]; exact m38
          · refine MGl_row G ?_ rfl rfl rfl
            rw [zr 74 (by omega) (by omega) (by omega) (by omega), Fx_row F4 (fun _ => rfl), Fx_row F3 (fun _ => rfl), Fx_row F1 (fun _ => rfl)]
          · rw [zI_sI, if_neg (by omega), zI_sI, if_neg (by omega), z58 21]; exact z21
          · rw [zI_sI, if_neg (by omega), zI_sI, if_neg (by omega), z58 20, z20, u20]; exact v20
        by_cases b1 : dst (a3 2) (qX P (a3 1)) ≤ 2 * qI P
        · rw [if_neg (fun w => by have := (nI_ltI (a := 2 * qI P) (b := dst (a3 2) (qX P (a3 1))) (by omega) (by omega)).mp w; omega), gi_k (S_58 H4), Option.bind_some, z24, gr_k (S_58 H4) (R_58_28 H4), Option.bind_some, ai_nI (S_70 H4) (by omega) (by decide), Option.bind_some, (m2 _ kN).2, sz2, bi_mk, gi_k (S_58 H4), Option.bind_some, m36, e2w]
          by_cases b2' : dst V (qY P (a3 1)) ≤ 2 * qI P
          · rw [if_neg (fun w => by have := (nI_ltI (a := 2 * qI P) (b := dst V (qY P (a3 1))) (by omega) (by omega)).mp w; omega), gi_k (S_58 H4), Option.bind_some, on_k (S_58 H4), z25, pi_k (S_58 H4), Option.bind_some, bi_mk, if_pos (decide_eq_true ⟨b1, b2'⟩)]
            exact ⟨_, rfl, by show 4 ≤ 4; omega, Fx_then F14 rfl, fun _ => by rw [zI_sI, if_pos ⟨rfl, rfl⟩], fun w => absurd (show 4 = 0 from w) (by decide)⟩
          · rw [if_pos ((nI_ltI (by omega) (by omega)).mpr (by omega))]
            exact good (fun w => b2' w.2)
        · rw [if_pos ((nI_ltI (by omega) (by omega)).mpr (by omega))]
          exact good (fun w => b1 w.1)
    · rw [if_neg c2, if_neg (fun w => c2 ((nI_le0 (by omega)).mp w))]
      unfold b_X6_takeLie_42
      rw [if_neg (fun w => c2 ((nI_le0 (by omega)).mp w))]
      exact ⟨h3, rfl, s4, Fx_tr (Fx_cm F1) (Fx_tt F3), y2, fun w => absurd w c2⟩
  · rw [if_neg c1, if_neg (fun w => c1 ((nI_le0 (by omega)).mp w))]
    unfold b_X6_takeLie_21 b_X6_takeLie_42
    rw [gi_k (S_58 H1), Option.bind_some, if_neg (fun w => c1 ((nI_le0 (by omega)).mp w)), if_neg (fun w => c1 ((nI_le0 (by omega)).mp w))]
    exact ⟨h1, rfl, r4, Fx_cm F1, w2, fun w => absurd w c1⟩
end TK2
