/-! ===== island ===== -/
def Two2 (fc fm : Hp → Option (Int32 × Hp)) : Prop := ∀ hc hm r, RR hc hm r → ∃ v hc' hm' r', fc hc = some (v, hc') ∧ fm hm = some (v, hm') ∧ RR hc' hm' r' ∧ (∀ a, 58 ≤ a → zI hc' a = zI hc a) ∧ Fx (fun a _ => decide (58 ≤ a)) hm hm'
theorem two_runs2 {fc fm : Hp → Option (Int32 × Hp)} (T : Two2 fc fm) : StpR fc fm := by
  intro h r R
  have RR0 : RR h h r := ⟨Rel_same R R.1 (fun a => by
    by_cases c : a < 58
    · exact mz_c c
    · exact mz_m (by omega)), r, R.1⟩
  obtain ⟨v, h1, hm', r1, e1, -, R1, z1, -⟩ := T h h r RR0
  have RR1 : RR h h1 r := ⟨Rel_same R R.1 (fun a => by
    by_cases c : a < 58
    · exact mz_c c
    · rw [mz_m (by omega)]; exact z1 a (by omega)), r1, RR_Sh R1⟩
  obtain ⟨v', h1', h2, r2, e2, e3, R2, -, F2⟩ := T h h1 r RR1
  have ee : (v, h1) = (v', h1') := Option.some.inj (e1.symm.trans e2)
  have ev : v' = v := (congrArg Prod.fst ee).symm
  have eh : h1' = h1 := (congrArg Prod.snd ee).symm
  subst ev eh
  have H1 : Sh h1' r2 := RR_Sh R2
  refine ⟨v', h1', h2, r2, e1, by rw [S_58 H1], e3, Rel_same R2.1 (Fx_Sh F2 H1) (fun a => ?_)⟩
  by_cases c : a < 58
  · rw [mz_c c]; exact Fx_row F2 (fun j => decide_eq_false (by omega))
  · rw [mz_m (by omega)]
/-- all but text and fault stands -/
theorem Rel_tx {h h' : Hp} {r r' : Rs} (R : Rel h r) (S : Sh h' r') (e1 : r'.1 = r.1) (e2 : r'.2.1 = r.2.1) (e3 : r'.2.2.2.2 = r.2.2.2.2) (tx : Tx h') (ft : Ft h') (row : ∀ q, ((r.1 ≤ q ∧ q ≤ r.1 + 4) ∨ (17 ≤ q ∧ q < 38) ∨ (59 ≤ q ∧ q < 68) ∨ (82 ≤ q ∧ q < 87)) → zI h' q = zI h q) (x : ∀ j, (j < 19 ∨ j = 50) → zI h' 58 j = zI h 58 j) : Rel h' r' := by
  obtain ⟨-, rp, -, -, n, w, l, a, b, c, il, st, sy, i0, i1⟩ := R
  refine ⟨S, ⟨by rw [e1, e2]; exact rp.1, by rw [e3]; exact rp.2⟩, tx, ft, n, w, l, a, b, c, ?_, ?_, ?_, ?_, ?_⟩
  · unfold Il
    rw [e1, row r.1 (by omega), row (r.1 + 1) (by omega), row (r.1 + 2) (by omega), row (r.1 + 3) (by omega), row (r.1 + 4) (by omega), row 59 (by omega), row 60 (by omega), row 61 (by omega), row 62 (by omega), row 63 (by omega), x 0 (by omega), x 5 (by omega), x 6 (by omega), x 7 (by omega), x 9 (by omega), x 10 (by omega)]
    exact il
  · unfold StN
    rw [row 17 (by omega), row 18 (by omega), row 19 (by omega), row 20 (by omega), row 21 (by omega), row 64 (by omega), row 65 (by omega), row 66 (by omega), row 67 (by omega), x 13 (by omega), x 16 (by omega), x 17 (by omega)]
    exact st
  · unfold Sy
    rw [row 34 (by omega), row 35 (by omega), row 36 (by omega), row 37 (by omega), row 82 (by omega), row 83 (by omega), row 84 (by omega), x 50 (by omega)]
    exact sy
  · unfold Im
    rw [row 33 (by omega), row 86 (by omega), row 85 (by omega), row (24 + 5 * 0) (by omega), row (27 + 5 * 0) (by omega), row (25 + 5 * 0) (by omega), row (26 + 5 * 0) (by omega), row (23 + 5 * 0) (by omega)]
    exact i0
  · unfold Im
    rw [row 33 (by omega), row 86 (by omega), row 85 (by omega), row (24 + 5 * 1) (by omega), row (27 + 5 * 1) (by omega), row (25 + 5 * 1) (by omega), row (26 + 5 * 1) (by omega), row (23 + 5 * 1) (by omega)]
    exact i1
theorem st_island {f : Nat} (hf : 500 ≤ f) : StpR (f_X5_island f 0) (f_X6_island f 58) := by
  apply two_runs2
  intro hc hm r R
  obtain ⟨R0, rm, Hm⟩ := id R
  obtain ⟨H0, rp, tx, ft, n0, w0, l0, ga, gb, gc, il, st, sy, im0, im1⟩ := id R0
  have Hc : Sh hc r := H0
  have hp1 := Rp_p rp
  obtain ⟨n, n400, t1, t2, t3⟩ := tx
  rw [mz_c (a := 0) (by omega)] at t1
  rw [mz_m (a := 58) (by omega)] at t2
  generalize ht : (fun j => (zI hm 68 j).toNatClampNeg) = t
  have tt : ∀ j, j < n → t j < 256 ∧ zI hm 68 j = nI (t j) ∧ zI hc 1 j = bv (t j) := fun j hj => by
    obtain ⟨c, c256, q1, q2⟩ := t3 j hj
    rw [mz_m (a := 68) (by omega)] at q1
    rw [mz_c (a := 1) (by omega)] at q2
    have e : t j = c := by rw [← ht]; show (zI hm 68 j).toNatClampNeg = c; rw [q1]; exact nI_clamp (by omega)
    rw [e]; exact ⟨c256, q1, q2⟩
  have hq : r.2.1 = 2 ∨ r.2.1 = 7 := by rcases rp.1 with w | w <;> omega
  obtain ⟨hc', Hc', eC, c1, c2, c3, c4, c5⟩ := isle_fC (f := f) Hc rp t1 n400 (fun j hj => ⟨(tt j hj).1, (tt j hj).2.2⟩) hf rfl
  obtain ⟨hm', eM, Fm, m1, m2, m3, m4⟩ := isle_M (f := f) (r := rm) (t := t) (n := n) ⟨Hm, n400, t2, fun j hj => ⟨(tt j hj).1, (tt j hj).2.1⟩⟩ hf rfl
  have W : PW (par t n (n + 1) P0 0).2.2 := par_PW _ _ _ PW_0 (by omega)
  generalize par t n (n + 1) P0 0 = Q at *
  have txN : Tx (mrg hc' hm') := ⟨0, by omega, by rw [mz_c (a := 0) (by omega), c1]; rfl, by rw [mz_m (a := 58) (by omega), m1]; rfl, fun j hj => absurd hj (by omega)⟩
  have ftN : Ft (mrg hc' hm') := by
    unfold Ft
    rw [mz_c (a := 0) (by omega), mz_m (a := 58) (by omega), c2, m2]
  refine ⟨_, hc', hm', (if Q.1 = 0 then (r.2.1, r.1, 1, r.2.2.2.1, r.2.2.2.2) else rR r), eC, eM, ⟨?_, rm, Fx_Sh Fm Hm⟩, c5, Fm⟩
  by_cases c0 : Q.1 = 0
  · rw [if_pos c0] at Hc' ⊢
    obtain ⟨C, k4, k5, k6, k18, k21, k19, k20, k34, k330, k331⟩ := c4 c0
    obtain ⟨⟨x0, ⟨x5, x6, x7, x9, x10⟩, x13, x16, x50, ⟨xa, xb, xd⟩, xI, x64, x65, x860, x861⟩, y66, y67, y17⟩ := m4 c0
    obtain ⟨_, -, ⟨f4, f5, f6, f7, f8, f9, f10, f11, f12⟩, fx, fm, -⟩ := C
    generalize Q.2.2 = P at *
    obtain ⟨⟨w1, w2, w3, w4, w5, w6, w7⟩, wa, wb, wc, wx, wm⟩ := W
    obtain ⟨⟨s1, s2, s3, s4, s5, s6⟩, u1, u2, u3, u4, u5⟩ := st
    have zc : ∀ a, a < 58 → zI (mrg hc' hm') a = zI hc' a := fun a ha => mz_c ha
    have zm : ∀ a, 58 ≤ a → zI (mrg hc' hm') a = zI hm' a := fun a ha => mz_m ha
    rw [mz_c (a := 19) (by omega), mz_c (a := 20) (by omega), mz_m (a := 66) (by omega), mz_m (a := 67) (by omega)] at s3
    rw [mz_c (a := 17) (by omega), mz_m (a := 58) (by omega)] at s6
    rw [mz_m (a := 58) (by omega)] at u5
    refine ⟨Hc', ⟨?_, rp.2⟩, txN, ftN, qN P, qI P, qJ P, qA P, qB P, qD P, ?_, ?_, ?_, ?_, ?_⟩
    · rcases rp.1 with w | w
      · exact Or.inr ⟨w.2, w.1⟩
      · exact Or.inl ⟨w.2, w.1⟩
    · show Il (mrg hc' hm') r.2.1 (qN P) (qI P) (qJ P) (qA P) (qB P) (qD P)
      unfold Il
      rw [zc r.2.1 (by omega), zc (r.2.1 + 1) (by omega), zc (r.2.1 + 2) (by omega), zc (r.2.1 + 3) (by omega), zc (r.2.1 + 4) (by omega), zm 58 (by omega), zm 59 (by omega), zm 60 (by omega), zm 61 (by omega), zm 62 (by omega), zm 63 (by omega)]
      refine ⟨⟨w1, w2, w3, by omega, by omega, by omega, fun _ => by omega⟩, ⟨f4, x0⟩, ⟨f7, x7⟩, ⟨f6, x5⟩, ⟨f8, xa⟩, ⟨f9, xb⟩, ⟨f10, xd⟩, by rw [f5, x6], ⟨qp P, w6, f11, x9⟩, ⟨qz P, w7, f12, x10⟩, fun k hk => ?_, fun m hm k hk => ?_⟩
      · obtain ⟨a1, a2⟩ := fx k hk
        obtain ⟨b1, b2'⟩ := xI.1 k (by omega)
        rw [a1, a2, b1, b2']; exact ⟨rfl, rfl⟩
      · obtain ⟨a1, a2⟩ := fm m hm k hk
        obtain ⟨b1, b2'⟩ := xI.2 m k hm (by omega)
        obtain ⟨d1, d2, -⟩ := (wm m hm).2 k hk
        rw [a1, a2, b1, b2']; exact ⟨rfl, rfl, d1, d2⟩
    · unfold StN
      rw [zc 17 (by omega), zc 18 (by omega), zc 19 (by omega), zc 20 (by omega), zc 21 (by omega), zm 58 (by omega), zm 64 (by omega), zm 65 (by omega), zm 66 (by omega), zm 67 (by omega)]
      refine ⟨⟨fun i hi => by rw [k18 i hi, x64 i hi], fun b hb => by rw [k21 b hb, x65 b hb], fun j hj => by rw [k19, k20, y66, y67]; exact s3 j hj, by rw [k4, x13], by rw [k5, x16], by rw [k6, y17]; exact s6⟩, fun i hi => ?_, fun b hb => ?_, ⟨0, by omega, by rw [x13]; rfl⟩, Or.inl x16, by rw [y17]; exact u5⟩
      · rw [x64 i hi]
        have := Nat.two_pow_pos (qN P)
        by_cases c : i % 7 = 0
        · rw [if_pos c]; exact ⟨_, by omega, rfl⟩
        · rw [if_neg c]; exact ⟨0, by omega, rfl⟩
      · rw [x64 (7 * b) (by omega), if_pos (by omega)]
    · refine ⟨0, by omega, ?_, ?_, fun i hi => absurd hi (by omega)⟩
      · rw [zc 34 (by omega), k34]; rfl
      · rw [zm 58 (by omega), x50]; rfl
    · exact Or.inl ⟨by rw [zc 33 (by omega)]; exact k330, by rw [zm 86 (by omega)]; exact x860⟩
    · exact Or.inl ⟨by rw [zc 33 (by omega)]; exact k331, by rw [zm 86 (by omega)]; exact x861⟩
  · rw [if_neg c0] at Hc' ⊢
    refine Rel_tx R0 Hc' rfl rfl rfl txN ftN (fun q hq' => ?_) (fun j hj => ?_)
    · by_cases c : q < 58
      · rw [mz_c c, mz_c c]
        exact funext fun j => c3 c0 q j (QRI_f (by rcases rp.1 with w | w <;> omega) (by rcases rp.1 with w | w <;> omega) (by rcases rp.1 with w | w <;> omega)) (by rcases rp.1 with w | w <;> omega)
      · rw [mz_m (by omega), mz_m (by omega)]
        exact funext fun j => m3 c0 q j (by unfold QMc; simp only [Bool.or_eq_false_iff, Bool.and_eq_false_iff, decide_eq_false_iff_not]; omega) (Or.inl (by omega))
    · rw [mz_m (by omega), mz_m (by omega)]
      exact m3 c0 58 j (by unfold QMc; simp only [Bool.or_eq_false_iff, Bool.and_eq_false_iff, decide_eq_false_iff_not]; omega) (Or.inr (by omega))
