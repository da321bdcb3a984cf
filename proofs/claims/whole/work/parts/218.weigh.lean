/-! ===== the reference's matter; class: weigh ===== -/
theorem ti_sub {a b : Int32} (h1 : -2147483648 ≤ a.toInt - b.toInt) (h2 : a.toInt - b.toInt < 2147483648) : (a - b).toInt = a.toInt - b.toInt := by
  rw [Int32.toInt_sub, Int.bmod_def]
  omega
theorem ti_add {a b : Int32} (h1 : -2147483648 ≤ a.toInt + b.toInt) (h2 : a.toInt + b.toInt < 2147483648) : (a + b).toInt = a.toInt + b.toInt := by
  rw [Int32.toInt_add, Int.bmod_def]
  omega
def Bd2 (v : Int32) : Prop := -9 ≤ v.toInt ∧ v.toInt ≤ 2000
theorem Bd_2 {v : Int32} (h : Bd v) : Bd2 v := ⟨h.1, by have := h.2; omega⟩
theorem far_1 {w x y : Int32} {w0 : Nat} (hw : w = nI w0) (h9 : w0 ≤ 9) (hx : Bd2 x) (hy : Bd2 y) : nbC w x y (cbx none) = nb w x y none ∧ apC w x y (cbx none) = false ∧ wiC w x y (cbx none) = false := by
  have tw : w.toInt = w0 := by rw [hw, nI_toInt (by omega)]
  obtain ⟨x1, x2⟩ := hx
  obtain ⟨y1, y2⟩ := hy
  have a1 : (x - w).toInt = x.toInt - w0 := by rw [← tw]; exact ti_sub (by omega) (by omega)
  have a2 : (x + w).toInt = x.toInt + w0 := by rw [← tw]; exact ti_add (by omega) (by omega)
  have a3 : (y - w).toInt = y.toInt - w0 := by rw [← tw]; exact ti_sub (by omega) (by omega)
  have a4 : (y + w).toInt = y.toInt + w0 := by rw [← tw]; exact ti_add (by omega) (by omega)
  have m1 : (-1000000 : Int32).toInt = -1000000 := by decide
  have m2 : (1000000 : Int32).toInt = 1000000 := by decide
  have q1 : (-1000000 : Int32) < x - w := by rw [fa_lt, a1, m1]; omega
  have q2 : x + w < (1000000 : Int32) := by rw [fa_lt, a2, m2]; omega
  have q3 : (-1000000 : Int32) < y - w := by rw [fa_lt, a3, m1]; omega
  have q4 : y + w < (1000000 : Int32) := by rw [fa_lt, a4, m2]; omega
  have p1 : ¬ x + w < (-1000000 : Int32) := by rw [fa_lt, a2, m1]; omega
  have p2 : ¬ (1000000 : Int32) < x - w := by rw [fa_lt, a1, m2]; omega
  have p3 : ¬ y + w < (-1000000 : Int32) := by rw [fa_lt, a4, m1]; omega
  have p4 : y - w ≤ (1000000 : Int32) := by rw [fa_le, a3, m2]; omega
  refine ⟨?_, ?_, ?_⟩
  · simp [nbC, nb, cbx, mx, mn, q1, q2, q3, q4]
  · simp [apC, cbx, p1, p2, p3, p4]
  · simp [wiC, cbx, q1]
/-- the reference's matter for band b -/
def mo (h : Hp) (b : Nat) : Ma := (zI h 58 7, fun m => zI h 64 (6 * b + m), zI h 61, zI h 62, (zI h 58 0).toNatClampNeg, (zI h 58 5).toNatClampNeg, zI h 66, zI h 67, (zI h 58 13).toNatClampNeg, (zI h 63 0).toNatClampNeg, (zI h 63 1).toNatClampNeg, (zI h 63 2).toNatClampNeg)
def Gd (h : Hp) (b : Nat) : Prop := zI h 58 0 = nI (aN (mo h b)) ∧ zI h 58 5 = nI (aL (mo h b)) ∧ zI h 58 13 = nI (aC (mo h b)) ∧ zI h 63 0 = nI (aA (mo h b)) ∧ zI h 63 1 = nI (aB (mo h b)) ∧ zI h 63 2 = nI (aD (mo h b)) ∧ (0 < aN (mo h b) → aA (mo h b) < aN (mo h b) ∧ aB (mo h b) < aN (mo h b) ∧ aD (mo h b) < aN (mo h b)) ∧ OkM (mo h b)
theorem hb_out {s n k : Nat} (hs : s < 2 ^ n) (hn : n ≤ 9) (hk : n ≤ k) (hk9 : k < 9) : hb (nI s) (nI k) = false := by
  rw [hb_all s (Nat.lt_of_lt_of_le hs (Nat.pow_le_pow_right (by decide) hn)) k hk9]
  exact Nat.testBit_lt_two_pow (Nat.lt_of_lt_of_le hs (Nat.pow_le_pow_right (by decide) hk))
/-- what the judging of a model's heap wants -/
theorem OkM_of {M : Ma} {w0 : Nat} (h1 : aN M ≤ 9) (h2 : aL M ≤ 2) (h3 : aC M ≤ 20) (h4 : aA M < 9) (h5 : aB M < 9) (h6 : aD M < 9) (hw : aW M = nI w0) (h9 : w0 ≤ 9) (hB : ∀ m, m < 6 → ∀ k, k < aN M → hb (aK M m) (nI k) = true → Bd2 (aX M (9 * m + k)) ∧ Bd2 (aY M (9 * m + k))) (hK : ∀ m, m < 6 → ∃ s, s < 2 ^ aN M ∧ aK M m = nI s) : OkM M := by
  refine ⟨h1, h2, h3, h4, h5, h6, ?_, ?_, ?_⟩
  · intro m hm k hk hh
    exact (far_1 hw h9 (hB m hm k hk hh).1 (hB m hm k hk hh).2).1
  · intro m hm k hk hh
    exact (far_1 hw h9 (hB m hm k hk hh).1 (hB m hm k hk hh).2).2
  · intro m hm k hk hk9
    obtain ⟨s, hs, e⟩ := hK m hm
    rw [e]
    exact hb_out hs h1 hk hk9
theorem OkM_cong {M M' : Ma} (E : Eqv M M') (O : OkM M) : OkM M' := by
  obtain ⟨e1, e2, e3, e4, e5, e6, e7, e8, e9, e10⟩ := E
  obtain ⟨o1, o2, o3, o4, o5, o6, o7, o8, o9⟩ := O
  refine ⟨by rw [e2]; exact o1, by rw [e3]; exact o2, by rw [e4]; exact o3, by rw [e5]; exact o4, by rw [e6]; exact o5, by rw [e7]; exact o6, ?_, ?_, ?_⟩
  · intro m hm k hk hh
    rw [e8 m hm] at hh
    rw [e2] at hk
    rw [e1, (e9 m hm k hk hh).1, (e9 m hm k hk hh).2]
    exact o7 m hm k hk hh
  · intro m hm k hk hh
    rw [e8 m hm] at hh
    rw [e2] at hk
    rw [e1, (e9 m hm k hk hh).1, (e9 m hm k hk hh).2]
    exact o8 m hm k hk hh
  · intro m hm k hk hk9
    rw [e8 m hm]
    rw [e2] at hk
    exact o9 m hm k hk hk9
theorem clI {n : Nat} (h : n < 2 ^ 31) : (nI n).toNatClampNeg = n := nI_clamp h
theorem mo_of {h : Hp} {p n w l ga gb gc : Nat} (il : Il h p n w l ga gb gc) {b c : Nat} (ec : zI h 58 13 = nI c) (hc : c ≤ 20) : aN (mo h b) = n ∧ aL (mo h b) = l ∧ aC (mo h b) = c ∧ aA (mo h b) = ga ∧ aB (mo h b) = gb ∧ aD (mo h b) = gc ∧ aW (mo h b) = nI w := by
  obtain ⟨⟨b1, b2', b3, b4, b5, b6, b7⟩, l1, l2, l3, l4, l5, l6, -⟩ := il
  refine ⟨?_, ?_, ?_, ?_, ?_, ?_, l2.2⟩
  · show (zI h 58 0).toNatClampNeg = n; rw [l1.2]; exact clI (by omega)
  · show (zI h 58 5).toNatClampNeg = l; rw [l3.2]; exact clI (by omega)
  · show (zI h 58 13).toNatClampNeg = c; rw [ec]; exact clI (by omega)
  · show (zI h 63 0).toNatClampNeg = ga; rw [l4.2]; exact clI (by omega)
  · show (zI h 63 1).toNatClampNeg = gb; rw [l5.2]; exact clI (by omega)
  · show (zI h 63 2).toNatClampNeg = gc; rw [l6.2]; exact clI (by omega)
theorem Gd_of {h : Hp} {p n w l ga gb gc : Nat} (il : Il h p n w l ga gb gc) (st : StN h n) {b : Nat} (hb6 : b < 6) : Gd h b := by
  obtain ⟨c, hc, ec⟩ := st.2.2.2.1
  obtain ⟨q1, q2, q3, q4, q5, q6, q7⟩ := mo_of il (b := b) ec hc
  obtain ⟨⟨b1, b2', b3, b4, b5, b6, b7⟩, l1, l2, l3, l4, l5, l6, -, -, -, -, lm⟩ := il
  refine ⟨by rw [q1]; exact l1.2, by rw [q2]; exact l3.2, by rw [q3]; exact ec, by rw [q4]; exact l4.2, by rw [q5]; exact l5.2, by rw [q6]; exact l6.2, by rw [q1, q4, q5, q6]; exact b7, ?_⟩
  refine OkM_of (w0 := w) (by rw [q1]; exact b1) (by rw [q2]; exact b3) (by rw [q3]; exact hc) (by rw [q4]; exact b4) (by rw [q5]; exact b5) (by rw [q6]; exact b6) q7 b2' ?_ ?_
  · intro m hm k hk _
    rw [q1] at hk
    exact ⟨Bd_2 (lm m hm k hk).2.2.1, Bd_2 (lm m hm k hk).2.2.2⟩
  · intro m hm
    rw [q1]
    exact st.2.1 (6 * b + m) (by omega)
theorem cp_k {h : Hp} {a b la lb s d n : Nat} (ea : zS h a = (9, la)) (eb : zS h b = (9, lb)) (h1 : s + n ≤ la) (h2 : d + n ≤ lb) (h3 : la < 2 ^ 31) (h4 : lb < 2 ^ 31) : q_cp h a (nI s) b (nI d) (nI n) = some (sC h a b s d n) := by
  unfold q_cp
  rw [nI_clamp (by omega), nI_clamp (by omega), nI_clamp (by omega), ea, eb, nI_toInt (by omega), nI_toInt (by omega), nI_toInt (by omega), if_pos ⟨rfl, rfl, by omega, by omega, by omega, h1, h2⟩]
theorem pr_k {h : Hp} {a ci k n v : Nat} (e : zS h a = (ci + 1, n)) : q_pr h a ci k v = some (sR h a k (some v)) := by unfold q_pr; rw [e, if_pos rfl]
theorem al_k {h : Hp} {a n : Nat} (e : zS h a = (9, n)) : q_al h a = some (nI n) := by unfold q_al; rw [e, if_pos ⟨by show 8 ≤ 9; omega, by show 9 ≤ 11; omega⟩]; rfl
theorem Sh_R9 {h : Hp} {r : Rs} (H : Sh h r) (p : Nat) : Sh (sR h 38 9 (some p)) (r.1, r.2.1, r.2.2.1, p, r.2.2.2.2) := by
  obtain ⟨h1, h2, h3, h4, h5, h6, h7⟩ := H
  refine ⟨h1, fun a ha k hk e => ?_, h3, h4, h5, rfl, h7⟩
  rw [zR_sR, if_neg (by rintro ⟨rfl, rfl⟩; cases e)]
  exact h2 a ha k hk e
theorem Sh_R10 {h : Hp} {r : Rs} (H : Sh h r) (p : Nat) : Sh (sR h 38 10 (some p)) (r.1, r.2.1, r.2.2.1, r.2.2.2.1, p) := by
  obtain ⟨h1, h2, h3, h4, h5, h6, h7⟩ := H
  refine ⟨h1, fun a ha k hk e => ?_, h3, h4, h5, h6, rfl⟩
  rw [zR_sR, if_neg (by rintro ⟨rfl, rfl⟩; cases e)]
  exact h2 a ha k hk e
/-- outside the judge all stands -/
def WF (h h' : Hp) : Prop := ∀ a j, ¬ (38 ≤ a ∧ a ≤ 57) → zI h' a j = zI h a j
theorem WF_Sm {h h' : Hp} (x : WF h h') : Sm h h' := fun a k e => x a k (by
  unfold rc at e
  simp only [Bool.or_eq_true, Bool.and_eq_true, decide_eq_true_eq] at e
  omega)
theorem WF_tr {a b c : Hp} (x : WF a b) (y : WF b c) : WF a c := fun p q h1 => (y p q h1).trans (x p q h1)
theorem WF_QJ {h h' : Hp} (x : Fr QJ h h') : WF h h' := fun a j e => x.1 a j (QJ_f (by omega) (by omega))
theorem WF_row {h h' : Hp} (x : WF h h') {a : Nat} (e : ¬ (38 ≤ a ∧ a ≤ 57)) : zI h' a = zI h a := funext fun j => x a j e
theorem WF_mo {h h' : Hp} (x : WF h h') (b : Nat) : mo h' b = mo h b := by
  unfold mo
  rw [WF_row x (a := 58) (by omega), WF_row x (a := 64) (by omega), WF_row x (a := 61) (by omega), WF_row x (a := 62) (by omega), WF_row x (a := 63) (by omega), WF_row x (a := 66) (by omega), WF_row x (a := 67) (by omega)]
def tmH (h : Hp) (p : Nat) : Hp := sC (sC (sR h 38 9 (some p)) (p + 3) 40 0 0 54) (p + 4) 41 0 0 54
theorem e_takeMaps {f p : Nat} {h : Hp} {r : Rs} (H : Sh h r) (hp : p = 2 ∨ p = 7) : f_X1_takeMaps f 38 p h = some (tmH h p) ∧ Sh (tmH h p) (r.1, r.2.1, r.2.2.1, p, r.2.2.2.2) := by
  have H1 := Sh_R9 H p
  have H2 := Sh_sC H1 (p + 3) 40 0 0 54
  refine ⟨?_, Sh_sC H2 (p + 4) 41 0 0 54⟩
  unfold f_X1_takeMaps tmH
  rw [pr_k (S_38 H), Option.bind_some, gr_k (Ip_S H1 hp) (Ip_R2 H1 hp), Option.bind_some, gr_k (S_38 H1) (R_38_1 H1), Option.bind_some, Option.bind_some, al_k (S_40 H1), Option.bind_some, show (0 : Int32) = nI 0 from rfl, cp_k (Ip_S3 H1 hp) (S_40 H1) (by omega) (by omega) (by decide) (by decide), Option.bind_some, gr_k (Ip_S H2 hp) (Ip_R3 H2 hp), Option.bind_some, gr_k (S_38 H2) (R_38_2 H2), Option.bind_some, Option.bind_some, al_k (S_41 H2), Option.bind_some, cp_k (Ip_S4 H2 hp) (S_41 H2) (by omega) (by omega) (by decide) (by decide), Option.bind_some]
theorem tmH_z (h : Hp) {p : Nat} (hp : p = 2 ∨ p = 7) : (∀ a, a ≠ 40 → a ≠ 41 → zI (tmH h p) a = zI h a) ∧ (∀ j, j < 54 → zI (tmH h p) 40 j = zI h (p + 3) j) ∧ (∀ j, j < 54 → zI (tmH h p) 41 j = zI h (p + 4) j) := by
  unfold tmH
  refine ⟨fun a h1 h2 => funext fun j => ?_, fun j hj => ?_, fun j hj => ?_⟩
  · rw [zI_sC, if_neg (by omega), zI_sC, if_neg (by omega)]; rfl
  · rw [zI_sC, if_neg (by omega), zI_sC, if_pos ⟨rfl, by omega, by omega⟩, Nat.sub_zero, Nat.zero_add]; rfl
  · rw [zI_sC, if_pos ⟨rfl, by omega, by omega⟩, zI_sC, if_neg (by rcases hp with q | q <;> omega), Nat.sub_zero, Nat.zero_add]; rfl
theorem CL_cong {h : Hp} {M M' : Ma} (E : Eqv M M') (O : OkM M) (C : CL h M' 64) : CL h M 64 := by
  unfold CL at C ⊢
  rw [fl_cong E O (Nat.le_refl 64)] at C
  refine ⟨C.1, fun i s hs => ⟨(C.2 i s hs).1, fun j hj => ?_⟩⟩
  rw [(C.2 i s hs).2 j hj, eS_cong E O]
def rW (r : Rs) : Rs := (r.1, r.2.1, r.2.2.1, r.1, 17)
theorem e_weigh {f b : Nat} {h : Hp} {r : Rs} (R : Rel h r) (hb6 : b < 6) (hf : 100 ≤ f) : ∃ h' M, f_X1_weigh f 38 r.1 17 (nI b) h = some h' ∧ WF h h' ∧ Rel h' (rW r) ∧ JC h' (rW r) M ∧ Eqv (mo h' b) M ∧ CL h' M 64 ∧ Gd h' b := by
  obtain ⟨H, rp, tx, ft, n, w, l, ga, gb, gc, il, st, sy, im0, im1⟩ := id R
  have hp := Rp_p rp
  obtain ⟨T1, T2⟩ := e_takeMaps (f := f) H hp
  obtain ⟨z1, z2, z3⟩ := tmH_z h hp
  have H3 := Sh_R10 T2 17
  generalize hg : sI (sR (tmH h r.1) 38 10 (some 17)) 38 11 (zI h 17 4) = g at *
  have Hg : Sh g (rW r) := by rw [← hg]; exact H3
  have zg : ∀ a, a ≠ 38 → zI g a = zI (tmH h r.1) a := fun a ha => by rw [← hg, zI_row ha]; rfl
  have Hk : Sh (sC g 18 39 (6 * b) 0 6) (rW r) := Sh_sC Hg _ _ _ _ _
  generalize hk : sC g 18 39 (6 * b) 0 6 = k at *
  have zk : ∀ a, a ≠ 39 → zI k a = zI g a := fun a ha => by funext j; rw [← hk, zI_sC, if_neg (by omega)]
  have k39 : ∀ m, m < 6 → zI k 39 m = zI h 18 (6 * b + m) := fun m hm => by
    rw [← hk, zI_sC, if_pos ⟨rfl, by omega, by omega⟩, zg 18 (by decide), z1 18 (by decide) (by decide), Nat.sub_zero]
  have WFk : WF h k := fun a j e => by
    rw [zk a (by omega), zg a (by omega), z1 a (by omega) (by omega)]
  obtain ⟨c, hc, ec⟩ := st.2.2.2.1
  obtain ⟨q1, q2, q3, q4, q5, q6, q7⟩ := mo_of il (b := b) ec hc
  have ec17 : zI h 17 4 = nI c := st.1.2.2.2.1.trans ec
  obtain ⟨⟨b1, b2', b3, b4, b5, b6, b7⟩, l1, l2, l3, l4, l5, l6, -, -, -, -, lm⟩ := id il
  have kp : ∀ j, zI k r.1 j = zI h r.1 j := fun j => WFk _ _ (by rcases hp with q | q <;> omega)
  let M : Ma := (nI w, zI k 39, zI k 40, zI k 41, n, l, zI k 19, zI k 20, c, ga, gb, gc)
  have JM : JC k (rW r) M := by
    refine ⟨Hk, hp, Or.inl rfl, ?_, rfl, rfl, rfl, ?_, ?_, rfl, rfl, ?_, ?_, ?_, ?_⟩
    · exact (kp 7).trans l2.1
    · exact (kp 4).trans l1.1
    · exact (kp 6).trans l3.1
    · show zI k 38 11 = nI c
      rw [zk 38 (by decide), ← hg, zI_sI, if_pos ⟨rfl, rfl⟩]; exact ec17
    · exact (kp 8).trans l4.1
    · exact (kp 9).trans l5.1
    · exact (kp 10).trans l6.1
  have mk : mo k b = mo h b := WF_mo WFk b
  have E : Eqv (mo h b) M := by
    refine ⟨q7.symm, q1.symm, q2.symm, q3.symm, q4.symm, q5.symm, q6.symm, ?_, ?_, ?_⟩
    · intro m hm
      show zI k 39 m = zI h 64 (6 * b + m)
      rw [k39 m hm]
      exact st.1.1 _ (by omega)
    · intro m hm j hj _
      rw [q1] at hj
      have := lm m hm j hj
      refine ⟨?_, ?_⟩
      · show zI k 40 (9 * m + j) = zI h 61 (9 * m + j)
        rw [zk 40 (by decide), zg 40 (by decide), z2 _ (by omega)]
        exact this.1
      · show zI k 41 (9 * m + j) = zI h 62 (9 * m + j)
        rw [zk 41 (by decide), zg 41 (by decide), z3 _ (by omega)]
        exact this.2.1
    · intro i hi
      rw [q3] at hi
      have := st.1.2.2.1 i (by omega)
      refine ⟨?_, ?_⟩
      · show zI k 19 i = zI h 66 i
        rw [WFk 19 i (by omega)]; exact this.1
      · show zI k 20 i = zI h 67 i
        rw [WFk 20 i (by omega)]; exact this.2
  have G := Gd_of il st hb6
  have OM : OkM M := OkM_cong E G.2.2.2.2.2.2.2
  obtain ⟨h', F, C, e⟩ := e_collect (f := f) JM OM hf
  have W : WF h h' := WF_tr WFk (WF_QJ F)
  have R' : Rel h' (rW r) := Rel_Sm R (Fr_Sh F Hk) rfl rfl (WF_Sm W)
  refine ⟨h', M, ?_, W, R', JC_Fr F JM, by rw [WF_mo W]; exact E, C, ?_⟩
  · unfold f_X1_weigh
    have i6 : nI b * 6 = nI (6 * b) := by rw [show (6 : Int32) = nI 6 from rfl, pk_mul, Nat.mul_comm]
    have zz : zI (sR (tmH h r.1) 38 10 (some 17)) 17 4 = zI h 17 4 := by
      show zI (tmH h r.1) 17 4 = _
      rw [z1 17 (by decide) (by decide)]
    rw [on_k (S_38 H), T1, Option.bind_some, pr_k (S_38 T2), Option.bind_some, gi_k (S_17 H3), Option.bind_some, zz, pi_k (S_38 H3), Option.bind_some, hg, gr_k (S_17 Hg) (R_17_0 Hg), Option.bind_some, gr_k (S_38 Hg) (R_38_0 Hg), Option.bind_some, i6, show (0 : Int32) = nI 0 from rfl, show (6 : Int32) = nI 6 from rfl, cp_k (S_18 Hg) (S_39 Hg) (by omega) (by omega) (by decide) (by decide), Option.bind_some, hk, on_k (S_38 Hk), e, Option.bind_some]
  · obtain ⟨-, -, -, -, n', w', l', ga', gb', gc', il', st', -, -, -⟩ := R'
    exact Gd_of il' st' hb6
