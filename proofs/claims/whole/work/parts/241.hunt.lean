/-! ===== hunt: weigh on a heap of its own ===== -/
theorem e_weigh2 {f b : Nat} {hc hm : Hp} {r : Rs} (R : RR hc hm r) (hb6 : b < 6) (hf : 100 ≤ f) : ∃ h', f_X1_weigh f 38 r.1 17 (nI b) hc = some h' ∧ WF hc h' ∧ Sh h' (rW r) ∧ CL h' (mo hm b) 64 ∧ Gd hm b := by
  obtain ⟨R0, rm, Hm⟩ := R
  obtain ⟨H0, rp, tx, ft, n, w, l, ga, gb, gc, il, st, sy, im0, im1⟩ := id R0
  have H : Sh hc r := H0
  have hp := Rp_p rp
  obtain ⟨T1, T2⟩ := e_takeMaps (f := f) H hp
  obtain ⟨z1, z2, z3⟩ := tmH_z hc hp
  have H3 := Sh_R10 T2 17
  generalize hg : sI (sR (tmH hc r.1) 38 10 (some 17)) 38 11 (zI hc 17 4) = g at *
  have Hg : Sh g (rW r) := by rw [← hg]; exact H3
  have zg : ∀ a, a ≠ 38 → zI g a = zI (tmH hc r.1) a := fun a ha => by rw [← hg, zI_row ha]; rfl
  have Hk : Sh (sC g 18 39 (6 * b) 0 6) (rW r) := Sh_sC Hg _ _ _ _ _
  generalize hk : sC g 18 39 (6 * b) 0 6 = k at *
  have zk : ∀ a, a ≠ 39 → zI k a = zI g a := fun a ha => by funext j; rw [← hk, zI_sC, if_neg (by omega)]
  have k39 : ∀ m, m < 6 → zI k 39 m = zI hc 18 (6 * b + m) := fun m hm' => by
    rw [← hk, zI_sC, if_pos ⟨rfl, by omega, by omega⟩, zg 18 (by decide), z1 18 (by decide) (by decide), Nat.sub_zero]
  have WFk : WF hc k := fun a j e => by
    rw [zk a (by omega), zg a (by omega), z1 a (by omega) (by omega)]
  obtain ⟨c, hc20, ec⟩ := st.2.2.2.1
  obtain ⟨q1, q2, q3, q4, q5, q6, q7⟩ := mo_of il (b := b) ec hc20
  have G0 := Gd_of il st hb6
  have mm : mo (mrg hc hm) b = mo hm b := mo_mrg hc hm b
  have G : Gd hm b := by
    unfold Gd at G0 ⊢
    rw [mm, mz_m (a := 58) (by omega), mz_m (a := 63) (by omega)] at G0
    exact G0
  rw [mm] at q1 q2 q3 q4 q5 q6 q7
  have s4 : zI hc 17 4 = nI c := by rw [← mz_c (hc := hc) (hm := hm) (a := 17) (by omega)]; exact st.1.2.2.2.1.trans ec
  obtain ⟨⟨b1, b2', b3, b4, b5, b6, b7⟩, l1, l2, l3, l4, l5, l6, -, -, -, -, lm⟩ := id il
  have kp : ∀ j, zI k r.1 j = zI (mrg hc hm) r.1 j := fun j => by
    rw [mz_c (by omega)]; exact WFk _ _ (by rcases hp with q | q <;> omega)
  let M : Ma := (nI w, zI k 39, zI k 40, zI k 41, n, l, zI k 19, zI k 20, c, ga, gb, gc)
  have JMk : JC k (rW r) M := by
    refine ⟨Hk, hp, Or.inl rfl, ?_, rfl, rfl, rfl, ?_, ?_, rfl, rfl, ?_, ?_, ?_, ?_⟩
    · exact (kp 7).trans l2.1
    · exact (kp 4).trans l1.1
    · exact (kp 6).trans l3.1
    · show zI k 38 11 = nI c
      rw [zk 38 (by decide), ← hg, zI_sI, if_pos ⟨rfl, rfl⟩]; exact s4
    · exact (kp 8).trans l4.1
    · exact (kp 9).trans l5.1
    · exact (kp 10).trans l6.1
  have E : Eqv (mo hm b) M := by
    refine ⟨q7.symm, q1.symm, q2.symm, q3.symm, q4.symm, q5.symm, q6.symm, ?_, ?_, ?_⟩
    · intro m hm'
      show zI k 39 m = zI hm 64 (6 * b + m)
      rw [k39 m hm']
      have := st.1.1 (6 * b + m) (by omega)
      rw [mz_c (a := 18) (by omega), mz_m (a := 64) (by omega)] at this
      exact this
    · intro m hm' j hj _
      rw [q1] at hj
      have := lm m hm' j hj
      rw [mz_c (a := r.1 + 3) (by omega), mz_c (a := r.1 + 4) (by omega), mz_m (a := 61) (by omega), mz_m (a := 62) (by omega)] at this
      refine ⟨?_, ?_⟩
      · show zI k 40 (9 * m + j) = zI hm 61 (9 * m + j)
        rw [zk 40 (by decide), zg 40 (by decide), z2 _ (by omega)]
        exact this.1
      · show zI k 41 (9 * m + j) = zI hm 62 (9 * m + j)
        rw [zk 41 (by decide), zg 41 (by decide), z3 _ (by omega)]
        exact this.2.1
    · intro i hi
      rw [q3] at hi
      have := st.1.2.2.1 i (by omega)
      rw [mz_c (a := 19) (by omega), mz_c (a := 20) (by omega), mz_m (a := 66) (by omega), mz_m (a := 67) (by omega)] at this
      refine ⟨?_, ?_⟩
      · show zI k 19 i = zI hm 66 i
        rw [WFk 19 i (by omega)]; exact this.1
      · show zI k 20 i = zI hm 67 i
        rw [WFk 20 i (by omega)]; exact this.2
  have OM : OkM M := OkM_cong E G.2.2.2.2.2.2.2
  obtain ⟨h', F, C, e⟩ := e_collect (f := f) JMk OM hf
  have W : WF hc h' := WF_tr WFk (WF_QJ F)
  refine ⟨h', ?_, W, Fr_Sh F Hk, CL_cong E G.2.2.2.2.2.2.2 C, G⟩
  unfold f_X1_weigh
  have i6 : nI b * 6 = nI (6 * b) := by rw [show (6 : Int32) = nI 6 from rfl, pk_mul, Nat.mul_comm]
  have zz : zI (sR (tmH hc r.1) 38 10 (some 17)) 17 4 = zI hc 17 4 := by
    show zI (tmH hc r.1) 17 4 = _
    rw [z1 17 (by decide) (by decide)]
  rw [on_k (S_38 H), T1, Option.bind_some, pr_k (S_38 T2), Option.bind_some, gi_k (S_17 H3), Option.bind_some, zz, pi_k (S_38 H3), Option.bind_some, hg, gr_k (S_17 Hg) (R_17_0 Hg), Option.bind_some, gr_k (S_38 Hg) (R_38_0 Hg), Option.bind_some, i6, show (0 : Int32) = nI 0 from rfl, show (6 : Int32) = nI 6 from rfl, cp_k (S_18 Hg) (S_39 Hg) (by omega) (by omega) (by decide) (by decide), Option.bind_some, hk, on_k (S_38 Hk), e, Option.bind_some]
/-- only what Rel doesn't speak of has changed on the class's side -/
theorem RR_c {hc hc' hm : Hp} {r r' : Rs} (R : RR hc hm r) (S : Sh hc' r') (e1 : r'.1 = r.1) (e2 : r'.2.1 = r.2.1) (W : WF hc hc') (e3 : r'.2.2.2.2 = r.2.2.2.2 ∨ r'.2.2.2.2 = 17) : RR hc' hm r' := by
  refine ⟨Rel_Sm R.1 S e1 e2 (fun a k q => ?_) e3, R.2⟩
  by_cases c : a < 58
  · rw [mz_c c, mz_c c]; exact WF_Sm W a k q
  · rw [mz_m (by omega), mz_m (by omega)]
theorem RR_m2 {hc hm hm' : Hp} {r : Rs} (R : RR hc hm r) (F : Fr QN hm hm') : RR hc hm' r := by
  obtain ⟨R0, rm, Hm⟩ := R
  refine ⟨Rel_QN R0 ⟨fun a j q => ?_, rfl, rfl, rfl, rfl⟩, rm, Fr_Sh F Hm⟩
  by_cases c : a < 58
  · rw [mz_c c, mz_c c]
  · rw [mz_m (by omega), mz_m (by omega)]; exact F.1 a j q
theorem chosen2 {f b : Nat} {hc hm : Hp} {r : Rs} (R : RR hc hm r) (hb6 : b < 6) (hf : 100 ≤ f) : ∃ h1 h', f_X1_weigh f 38 r.1 17 (nI b) hc = some h1 ∧ Sh h1 (rW r) ∧ f_X1_choosePlace f 38 h1 = some h' ∧ WF hc h' ∧ Sh h' (rW r) ∧ CL h' (mo hm b) 64 ∧ ln (mo hm b) ≤ 15 ∧ CP h' (mo hm b) (ln (mo hm b)) ∧ Gd hm b := by
  obtain ⟨h1, e, W, H1, C, G⟩ := e_weigh2 (f := f) R hb6 hf
  have h15 : ln (mo hm b) ≤ 15 := fl_15 G.2.2.2.2.2.2.2.2.1 (Nat.le_refl 64)
  obtain ⟨h', F, P, e'⟩ := e_choose (f := f) H1 C h15 (by omega)
  have W' : WF h1 h' := fun a j hh => F.1 a j (by
    unfold QP
    simp only [Bool.and_eq_false_iff, decide_eq_false_iff_not]
    omega)
  exact ⟨h1, h', e, H1, e', WF_tr W W', Fr_Sh F H1, CL_QP F C, h15, P, G⟩
/-- both sides trade by draws -/
theorem trade_RR {hc hm : Hp} {r : Rs} {b : Nat} (R : RR hc hm r) (hb6 : b < 6) (hn : ¬ zI hm 58 0 = 0) : ∃ hc' hm', (∀ f, f_X5_tradeByDraws f 0 (nI b) hc = some hc') ∧ (∀ f, b_X6_bandDay_41 f 58 (nI b) hm = some hm') ∧ RR hc' hm' r ∧ (∀ a, 58 ≤ a → zI hc' a = zI hc a) ∧ Fr (fun a _ => decide (58 ≤ a)) hm hm' ∧ zI hm' 58 0 = zI hm 58 0 := by
  obtain ⟨R0, rm, Hm⟩ := R
  obtain ⟨H, rp, tx, ft, n, w, l, ga, gb, gc, il, st, sy, im0, im1⟩ := id R0
  have Hc : Sh hc r := H
  have hp := Rp_p rp
  have n9 := il.1.1
  have l1 := il.2.1
  rw [mz_c (a := r.1) (by omega), mz_m (a := 58) (by omega)] at l1
  have n0 : 0 < n := by
    rcases Nat.eq_zero_or_pos n with e | e
    · exact absurd (by rw [l1.2, e]; rfl) hn
    · exact e
  obtain ⟨⟨s1, s2, s3, s4, s5, s6⟩, t1, t2, t3, t4, t5⟩ := id st
  rw [mz_c (a := 17) (by omega), mz_m (a := 58) (by omega)] at s6
  rw [mz_m (a := 58) (by omega)] at t5
  obtain ⟨s, hs, es⟩ := nI_of (x := zI hm 58 17) (Int32.not_lt.mpr t5)
  have ec := s6.trans es
  have eC := fun f => e_tradeC (f := f) (s := s) Hc hp hb6 l1.1 n0 n9 ec hs
  have eM := fun f => e_tradeM (f := f) (s := s) Hm hb6 l1.2 n0 n9 es hs
  have ob := trO_lt (s := s) hb6
  have hx : trX s n < n := Nat.mod_lt _ n0
  have hy : trY s n < n := Nat.mod_lt _ n0
  refine ⟨_, _, eC, eM, ⟨?_, rm, ?_⟩, ?_, ⟨?_, rfl, rfl, rfl, rfl⟩, ?_⟩
  · have k1 : zI hc 18 (6 * trO s b + b) = zI hm 64 (6 * trO s b + b) := by
      have := s1 (6 * trO s b + b) (by omega)
      rw [mz_c (a := 18) (by omega), mz_m (a := 64) (by omega)] at this; exact this
    have k2 : zI hc 18 (6 * b + trO s b) = zI hm 64 (6 * b + trO s b) := by
      have := s1 (6 * b + trO s b) (by omega)
      rw [mz_c (a := 18) (by omega), mz_m (a := 64) (by omega)] at this; exact this
    have RA : Rel (sI (sI (mrg hc hm) 17 6 (nI (sn (sn (sn s))))) 58 17 (nI (sn (sn (sn s))))) r := by
      refine Rel_St R0 H rfl rfl (fun a k _ q => ?_) (fun n' hn' e' st' _ _ => ?_)
      · unfold QS at q
        simp only [Bool.or_eq_false_iff, Bool.and_eq_false_iff, decide_eq_false_iff_not] at q
        rw [zI_sI, if_neg (by omega), zI_sI, if_neg (by omega)]
      · obtain ⟨⟨u1, u2, u3, u4, u5, u6⟩, v1, v2, v3, v4, v5⟩ := st'
        have s31 := sn_lt (sn (sn s))
        have z0 : (0 : Int32) ≤ nI (sn (sn (sn s))) := Int32.not_lt.mp (nI_ge0 s31)
        refine ⟨⟨?_, ?_, ?_, ?_, ?_, ?_⟩, ?_, ?_, ?_, ?_, ?_⟩ <;> simp [zI_sI]
        · exact u1
        · exact u2
        · exact u3
        · exact u4
        · exact u5
        · exact v1
        · exact v2
        · exact v3
        · exact v4
        · exact z0
    have go : ∀ n', n' ≤ 9 → zI hc r.1 4 = nI n' → n' = n := fun n' h1 h2 => (nI_eq (by omega) (by omega)).mp (h2.symm.trans l1.1)
    have RB := Rel_learn (i := 6 * trO s b + b) (v := zI hc 18 (6 * trO s b + b) ||| (1 : Int32) <<< (nI (trX s n) &&& 31)) RA (fun b' hb' => by omega) (fun n' hn' st' e' => by
      have e2 : n' = n := go n' hn' (by
        rw [zI_row (by omega), zI_row (by rcases hp with q | q <;> omega), mz_c (by omega)] at e'; exact e')
      subst e2
      obtain ⟨q, hq, eq⟩ := t1 (6 * trO s b + b) (by omega)
      rw [mz_m (a := 64) (by omega)] at eq
      obtain ⟨t, ht, et⟩ := or1 (k := trX s n') hq hx hn'
      exact ⟨t, ht, by rw [k1, eq]; exact et⟩)
    have RC := Rel_learn (i := 6 * b + trO s b) (v := zI hc 18 (6 * b + trO s b) ||| (1 : Int32) <<< (nI (trY s n) &&& 31)) RB (fun b' hb' => by omega) (fun n' hn' st' e' => by
      have e2 : n' = n := go n' hn' (by
        rw [zI_row (by omega), zI_row (by rcases hp with q | q <;> omega), zI_row (by omega), zI_row (by rcases hp with q | q <;> omega), mz_c (by omega)] at e'; exact e')
      subst e2
      obtain ⟨q, hq, eq⟩ := t1 (6 * b + trO s b) (by omega)
      rw [mz_m (a := 64) (by omega)] at eq
      obtain ⟨t, ht, et⟩ := or1 (k := trY s n') hq hy hn'
      exact ⟨t, ht, by rw [k2, eq]; exact et⟩)
    refine Rel_same RC H (fun a => funext fun j => ?_)
    have nx : 6 * b + trO s b ≠ 6 * trO s b + b := by omega
    by_cases c : a < 58
    · rw [mz_c c]
      have d1 : a ≠ 64 := by omega
      have d2 : a ≠ 58 := by omega
      have d3 := mz_c (hc := hc) (hm := hm) c
      by_cases q1 : a = 17 ∧ j = 6
      · obtain ⟨rfl, rfl⟩ := q1; simp [trH, zI_sI]
      · by_cases q2 : a = 18 ∧ j = 6 * trO s b + b
        · obtain ⟨rfl, rfl⟩ := q2; simp [trH, zI_sI, nx, nx.symm]
        · by_cases q3 : a = 18 ∧ j = 6 * b + trO s b
          · obtain ⟨rfl, rfl⟩ := q3; simp [trH, zI_sI]
          · simp only [trH, zI_sI, q1, q2, q3, d1, d2, d3, if_false, false_and]
    · rw [mz_m (by omega)]
      have d1 : a ≠ 17 := by omega
      have d2 : a ≠ 18 := by omega
      have d3 := mz_m (hc := hc) (hm := hm) (a := a) (by omega)
      by_cases q1 : a = 58 ∧ j = 17
      · obtain ⟨rfl, rfl⟩ := q1; simp [trH, zI_sI]
      · by_cases q2 : a = 64 ∧ j = 6 * trO s b + b
        · obtain ⟨rfl, rfl⟩ := q2; simp [trH, zI_sI, nx, nx.symm, k1]
        · by_cases q3 : a = 64 ∧ j = 6 * b + trO s b
          · obtain ⟨rfl, rfl⟩ := q3; simp [trH, zI_sI, k2]
          · simp only [trH, zI_sI, q1, q2, q3, d1, d2, d3, if_false, false_and]
  · exact Hm
  · intro a ha
    funext j
    unfold trH
    rw [zI_sI, if_neg (by omega), zI_sI, if_neg (by omega), zI_sI, if_neg (by omega), zI_sI, if_neg (by omega), zI_sI, if_neg (by omega)]
  · intro a j q
    have := of_decide_eq_false q
    unfold trH
    rw [zI_sI, if_neg (by omega), zI_sI, if_neg (by omega), zI_sI, if_neg (by omega), zI_sI, if_neg (by omega), zI_sI, if_neg (by omega)]
  · unfold trH
    simp [zI_sI]
