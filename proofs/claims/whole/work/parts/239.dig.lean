/-! ===== dig: two heaps beside each other ===== -/
/-- the class's cells from one heap, the reference's from another -/
def mrg (hc hm : Hp) : Hp := (hc.1, hc.2.1, (fun a => if a < 58 then hc.2.2.1 a else hm.2.2.1 a), hc.2.2.2.1, hc.2.2.2.2)
theorem mz_c {hc hm : Hp} {a : Nat} (h : a < 58) : zI (mrg hc hm) a = zI hc a := by
  show (if a < 58 then hc.2.2.1 a else hm.2.2.1 a) = _
  rw [if_pos h]
theorem mz_m {hc hm : Hp} {a : Nat} (h : 58 ≤ a) : zI (mrg hc hm) a = zI hm a := by
  show (if a < 58 then hc.2.2.1 a else hm.2.2.1 a) = _
  rw [if_neg (by omega)]
def RR (hc hm : Hp) (r : Rs) : Prop := Rel (mrg hc hm) r ∧ ∃ rm, Sh hm rm
theorem RR_Sh {hc hm : Hp} {r : Rs} (x : RR hc hm r) : Sh hc r := x.1.1
theorem mo_mrg (hc hm : Hp) (b : Nat) : mo (mrg hc hm) b = mo hm b := by
  unfold mo
  rw [mz_m (a := 58) (by omega), mz_m (a := 61) (by omega), mz_m (a := 62) (by omega), mz_m (a := 63) (by omega), mz_m (a := 64) (by omega), mz_m (a := 66) (by omega), mz_m (a := 67) (by omega)]
/-- a dig on one side: purses, spades x, y, their count, the finder -/
def dgH (pu sx sy cn cj fj : Nat) (h : Hp) (b : Nat) (x y : Int32) (c : Nat) (win : Bool) (pr pz : Int32) : Hp :=
  if win then sI (sI (sI h pu b (zI h pu b - pr)) pu b (zI h pu b - pr + pz)) cn fj (nI b)
  else if c < 20 then sI (sI (sI (sI h pu b (zI h pu b - pr)) sx c x) sy c y) cn cj (nI (c + 1)) else sI h pu b (zI h pu b - pr)
section DG
variable {f b c p ga gb gc : Nat} {r : Rs} {h : Hp} {x y : Int32}
theorem e_sought (H : Sh h r) (hp : p = 2 ∨ p = 7) (ea : zI h p 8 = nI ga) (eb : zI h p 9 = nI gb) (ec : zI h p 10 = nI gc) (ha : ga < 9) (hb9 : gb < 9) (hc9 : gc < 9) : f_X0_soughtX f p h = some (zI h (p + 1) ga + zI h (p + 1) gb - zI h (p + 1) gc, h) ∧ f_X0_soughtY f p h = some (zI h (p + 2) ga + zI h (p + 2) gb - zI h (p + 2) gc, h) := by
  unfold f_X0_soughtX f_X0_soughtY
  constructor
  · simp only [gr_k (Ip_S H hp) (Ip_R0 H hp), Option.bind_some, gi_k (Ip_S H hp), ea, eb, ec, ai_nI (Ip_S1 H hp) ha (by decide), ai_nI (Ip_S1 H hp) hb9 (by decide), ai_nI (Ip_S1 H hp) hc9 (by decide)]
  · simp only [gr_k (Ip_S H hp) (Ip_R1 H hp), Option.bind_some, gi_k (Ip_S H hp), ea, eb, ec, ai_nI (Ip_S2 H hp) ha (by decide), ai_nI (Ip_S2 H hp) hb9 (by decide), ai_nI (Ip_S2 H hp) hc9 (by decide)]
def winB (h : Hp) (p ga gb gc : Nat) (x y : Int32) : Bool := decide (x = zI h (p + 1) ga + zI h (p + 1) gb - zI h (p + 1) gc) && decide (y = zI h (p + 2) ga + zI h (p + 2) gb - zI h (p + 2) gc)
theorem dg71 {g : Hp} (H : Sh g r) (ec : zI g 17 4 = nI c) (hc : c ≤ 20) : b_X5_digAt_71 f 0 x y g = some (if c < 20 then sI (sI (sI g 19 c x) 20 c y) 17 4 (nI (c + 1)) else g) := by
  unfold b_X5_digAt_71 b_X5_digAt_128
  rw [gr_k (S_0 H) (R_0_6 H), Option.bind_some, gi_k (S_17 H), Option.bind_some, ec]
  by_cases c1 : c < 20
  · have H1 : ∀ v, Sh (sI g 19 c v) r := fun _ => H
    have H2 : ∀ v w, Sh (sI (sI g 19 c v) 20 c w) r := fun _ _ => H
    rw [if_neg (fun e9 => by have := (nI_leI (a := 20) (b := c) (by omega) (by omega)).mp e9; omega), if_pos c1, Option.bind_some, gr_k (S_17 H) (R_17_1 H), Option.bind_some, Option.bind_some, gi_k (S_17 H), Option.bind_some, ec, as_nI (S_19 H) c1 (by decide), Option.bind_some, gr_k (S_0 (H1 _)) (R_0_6 (H1 _)), Option.bind_some, gr_k (S_17 (H1 _)) (R_17_2 (H1 _)), Option.bind_some, Option.bind_some, gi_k (S_17 (H1 _)), Option.bind_some, zI_row (by decide), ec, as_nI (S_20 (H1 _)) c1 (by decide), Option.bind_some, gr_k (S_0 (H2 _ _)) (R_0_6 (H2 _ _)), Option.bind_some, gi_k (S_17 (H2 _ _)), Option.bind_some, zI_row (by decide), zI_row (by decide), ec, nI_p1, pi_k (S_17 (H2 _ _)), Option.bind_some]
  · rw [if_pos (show (20 : Int32) ≤ nI c from (nI_leI (a := 20) (b := c) (by omega) (by omega)).mpr (by omega)), if_neg c1]
theorem e_digAt (H : Sh h r) (hp : r.1 = 2 ∨ r.1 = 7) (hb6 : b < 6) (ea : zI h r.1 8 = nI ga) (eb : zI h r.1 9 = nI gb) (ec : zI h r.1 10 = nI gc) (ha : ga < 9) (hb9 : gb < 9) (hc9 : gc < 9) (e4 : zI h 17 4 = nI c) (hc : c ≤ 20) : f_X5_digAt f 0 (nI b) x y h = some (dgH 21 19 20 17 4 5 h b x y c (winB h r.1 ga gb gc x y) (zI h r.1 11) (zI h r.1 12)) := by
  unfold f_X5_digAt
  rw [gr_k (S_0 H) (R_0_6 H), Option.bind_some, gr_k (S_17 H) (R_17_3 H), Option.bind_some, ai_nI (S_21 H) hb6 (by decide), Option.bind_some, gr_k (S_0 H) (R_0_3 H), Option.bind_some, gi_k (Ip_S H hp), Option.bind_some, as_nI (S_21 H) hb6 (by decide), Option.bind_some]
  have pr : ∀ v a, a ≠ 21 → zI (sI h 21 b v) a = zI h a := fun v a ha => zI_row ha
  have H1 : Sh (sI h 21 b (zI h 21 b - zI h r.1 11)) r := H
  have e1 := (pr (zI h 21 b - zI h r.1 11) r.1 (by rcases hp with q | q <;> omega))
  have e2 := (pr (zI h 21 b - zI h r.1 11) (r.1 + 1) (by rcases hp with q | q <;> omega))
  have e3 := (pr (zI h 21 b - zI h r.1 11) (r.1 + 2) (by rcases hp with q | q <;> omega))
  obtain ⟨s1, s2⟩ := e_sought (f := f) H1 hp (by rw [e1]; exact ea) (by rw [e1]; exact eb) (by rw [e1]; exact ec) ha hb9 hc9
  rw [e2] at s1
  rw [e3] at s2
  have d71 := dg71 (f := f) (x := x) (y := y) H1 (by rw [pr _ 17 (by decide)]; exact e4) hc
  rw [gr_k (S_0 H1) (R_0_3 H1), Option.bind_some, on_k (Ip_S H1 hp), s1, bi_mk]
  unfold dgH winB
  by_cases c1 : x = zI h (r.1 + 1) ga + zI h (r.1 + 1) gb - zI h (r.1 + 1) gc
  · rw [if_neg (fun n9 => n9 c1), gr_k (S_0 H1) (R_0_3 H1), Option.bind_some, on_k (Ip_S H1 hp), s2, bi_mk]
    by_cases c2 : y = zI h (r.1 + 2) ga + zI h (r.1 + 2) gb - zI h (r.1 + 2) gc
    · have H2 : ∀ v, Sh (sI (sI h 21 b (zI h 21 b - zI h r.1 11)) 21 b v) r := fun _ => H
      unfold b_X5_digAt_128
      rw [if_neg (fun n9 => n9 c2), gr_k (S_0 H1) (R_0_6 H1), Option.bind_some, gr_k (S_17 H1) (R_17_3 H1), Option.bind_some, ai_nI (S_21 H1) hb6 (by decide), Option.bind_some, gr_k (S_0 H1) (R_0_3 H1), Option.bind_some, gi_k (Ip_S H1 hp), Option.bind_some, as_nI (S_21 H1) hb6 (by decide), Option.bind_some, gr_k (S_0 (H2 _)) (R_0_6 (H2 _)), Option.bind_some, pi_k (S_17 (H2 _)), Option.bind_some, e1, zI_sI, if_pos ⟨rfl, rfl⟩, decide_eq_true c1, decide_eq_true c2]
      rfl
    · rw [if_pos c2, decide_eq_false c2, Bool.and_false]
      exact d71.trans (by by_cases c9 : c < 20 <;> simp [c9])
  · rw [if_pos c1, decide_eq_false c1, Bool.false_and]
    exact d71.trans (by by_cases c9 : c < 20 <;> simp [c9])
def winM (h : Hp) (ga gb gc : Nat) (x y : Int32) : Bool := decide (x = zI h 59 ga + zI h 59 gb - zI h 59 gc) && decide (y = zI h 60 ga + zI h 60 gb - zI h 60 gc)
theorem dg119 {g : Hp} (H : Sh g r) (ec : zI g 58 13 = nI c) (hc : c ≤ 20) : b_X6_digNow_119 f 58 x y g = some (0, if c < 20 then sI (sI (sI g 66 c x) 67 c y) 58 13 (nI (c + 1)) else g) := by
  unfold b_X6_digNow_119 b_X6_digNow_158
  rw [gi_k (S_58 H), Option.bind_some, ec]
  by_cases c1 : c < 20
  · have H1 : ∀ v, Sh (sI g 66 c v) r := fun _ => H
    have H2 : ∀ v w, Sh (sI (sI g 66 c v) 67 c w) r := fun _ _ => H
    rw [if_neg (fun e9 => by have := (nI_leI (a := 20) (b := c) (by omega) (by omega)).mp e9; omega), if_pos c1, gr_k (S_58 H) (R_58_14 H), Option.bind_some, Option.bind_some, as_nI (S_66 H) c1 (by decide), Option.bind_some, gr_k (S_58 (H1 _)) (R_58_15 (H1 _)), Option.bind_some, gi_k (S_58 (H1 _)), Option.bind_some, zI_row (by decide), ec, as_nI (S_67 (H1 _)) c1 (by decide), Option.bind_some, gi_k (S_58 (H2 _ _)), Option.bind_some, zI_row (by decide), zI_row (by decide), ec, nI_p1, pi_k (S_58 (H2 _ _)), Option.bind_some]
  · rw [if_pos (show (20 : Int32) ≤ nI c from (nI_leI (a := 20) (b := c) (by omega) (by omega)).mpr (by omega)), if_neg c1]
theorem e_digNow (H : Sh h r) (hb6 : b < 6) (ea : zI h 63 0 = nI ga) (eb : zI h 63 1 = nI gb) (ec : zI h 63 2 = nI gc) (ha : ga < 9) (hb9 : gb < 9) (hc9 : gc < 9) (e4 : zI h 58 13 = nI c) (hc : c ≤ 20) : f_X6_digNow f 58 (nI b) x y h = some (b2 (winM h ga gb gc x y), dgH 65 66 67 58 13 16 h b x y c (winM h ga gb gc x y) (zI h 58 9) (zI h 58 10)) := by
  unfold f_X6_digNow
  have a0 : q_ai h 63 9 0 = some (nI ga) := by rw [show (0 : Int32) = nI 0 from rfl, ai_nI (S_63 H) (by decide) (by decide), ea]
  have a1 : q_ai h 63 9 1 = some (nI gb) := by rw [show (1 : Int32) = nI 1 from rfl, ai_nI (S_63 H) (by decide) (by decide), eb]
  have a2 : q_ai h 63 9 2 = some (nI gc) := by rw [show (2 : Int32) = nI 2 from rfl, ai_nI (S_63 H) (by decide) (by decide), ec]
  simp only [gr_k (S_58 H) (R_58_1 H), gr_k (S_58 H) (R_58_2 H), gr_k (S_58 H) (R_58_8 H), gr_k (S_58 H) (R_58_12 H), Option.bind_some, a0, a1, a2, ai_nI (S_59 H) ha (by decide), ai_nI (S_59 H) hb9 (by decide), ai_nI (S_59 H) hc9 (by decide), ai_nI (S_60 H) ha (by decide), ai_nI (S_60 H) hb9 (by decide), ai_nI (S_60 H) hc9 (by decide), lt, ai_nI (S_65 H) hb6 (by decide), gi_k (S_58 H), as_nI (S_65 H) hb6 (by decide)]
  have H1 : Sh (sI h 65 b (zI h 65 b - zI h 58 9)) r := H
  have d := dg119 (f := f) (x := x) (y := y) H1 (by rw [zI_row (by decide)]; exact e4) hc
  unfold dgH winM
  by_cases c1 : x = zI h 59 ga + zI h 59 gb - zI h 59 gc
  · rw [if_neg (fun n9 => n9 c1)]
    by_cases c2 : y = zI h 60 ga + zI h 60 gb - zI h 60 gc
    · have H2 : ∀ v, Sh (sI (sI h 65 b (zI h 65 b - zI h 58 9)) 65 b v) r := fun _ => H
      rw [if_neg (fun n9 => n9 c2), gr_k (S_58 H1) (R_58_12 H1), Option.bind_some, ai_nI (S_65 H1) hb6 (by decide), Option.bind_some, gi_k (S_58 H1), Option.bind_some, as_nI (S_65 H1) hb6 (by decide), Option.bind_some, pi_k (S_58 (H2 _)), Option.bind_some, zI_row (show (58 : Nat) ≠ 65 by decide), zI_sI, if_pos ⟨rfl, rfl⟩, decide_eq_true c1, decide_eq_true c2]
      rfl
    · rw [if_pos c2, decide_eq_false c2, Bool.and_false]
      exact d.trans (by by_cases c9 : c < 20 <;> simp [c9, b2])
  · rw [if_pos c1, decide_eq_false c1, Bool.false_and]
    exact d.trans (by by_cases c9 : c < 20 <;> simp [c9, b2])
end DG
/-- what a dig leaves as it was -/
theorem dg_z {pu sx sy cn cj fj : Nat} {h : Hp} {b : Nat} {x y : Int32} {c : Nat} {win : Bool} {pr pz : Int32} : (∀ a j, a ≠ pu → a ≠ sx → a ≠ sy → (a ≠ cn ∨ (j ≠ cj ∧ j ≠ fj)) → zI (dgH pu sx sy cn cj fj h b x y c win pr pz) a j = zI h a j) := by
  intro a j h1 h2 h3 h4
  unfold dgH
  split
  · rw [zI_sI, if_neg (by omega), zI_sI, if_neg (by omega), zI_sI, if_neg (by omega)]
  · split
    · rw [zI_sI, if_neg (by omega), zI_sI, if_neg (by omega), zI_sI, if_neg (by omega), zI_sI, if_neg (by omega)]
    · rw [zI_sI, if_neg (by omega)]
theorem dg_Sh {pu sx sy cn cj fj : Nat} {h : Hp} {b : Nat} {x y : Int32} {c : Nat} {win : Bool} {pr pz : Int32} {r : Rs} (H : Sh h r) : Sh (dgH pu sx sy cn cj fj h b x y c win pr pz) r := by
  unfold dgH
  split
  · exact H
  · split
    · exact H
    · exact H
/-- both sides dig -/
theorem dig_RR {hc hm : Hp} {r : Rs} {b : Nat} {x y : Int32} (R : RR hc hm r) (hb6 : b < 6) (hn : ¬ zI hm 58 0 = 0) : ∃ (hc' hm' : Hp) (win : Bool), (∀ f, f_X5_digAt f 0 (nI b) x y hc = some hc') ∧ (∀ f, f_X6_digNow f 58 (nI b) x y hm = some (b2 win, hm')) ∧ RR hc' hm' r ∧ (∀ a, 58 ≤ a → zI hc' a = zI hc a) ∧ Fr (fun a _ => decide (58 ≤ a)) hm hm' ∧ zS hc' = zS hc ∧ zR hc' = zR hc ∧ (win = true → zI hc' 17 5 = nI b ∧ zI hm' 58 16 = nI b) ∧ (win = false → zI hc' 17 5 = zI hc 17 5 ∧ zI hm' 58 16 = zI hm 58 16) ∧ zI hm' 58 0 = zI hm 58 0 := by
  obtain ⟨R0, rm, Hm⟩ := R
  obtain ⟨H, rp, tx, ft, n, w, l, ga, gb, gc, il, st, sy, im0, im1⟩ := id R0
  have Hc : Sh hc r := H
  have hp := Rp_p rp
  obtain ⟨⟨b1, b2', b3, b4, b5, b6, b7⟩, l1, l2, l3, l4, l5, l6, -, ⟨q1, -, l11, l11'⟩, ⟨q2, -, l12, l12'⟩, lx, -⟩ := id il
  have pc : ∀ k, k ≤ 4 → zI (mrg hc hm) (r.1 + k) = zI hc (r.1 + k) := fun k hk => mz_c (by omega)
  have pc0 : zI (mrg hc hm) r.1 = zI hc r.1 := pc 0 (by omega)
  have m58 : zI (mrg hc hm) 58 = zI hm 58 := mz_m (by omega)
  have m63 : zI (mrg hc hm) 63 = zI hm 63 := mz_m (by omega)
  have m59 : zI (mrg hc hm) 59 = zI hm 59 := mz_m (by omega)
  have m60 : zI (mrg hc hm) 60 = zI hm 60 := mz_m (by omega)
  rw [pc0] at l1 l2 l3 l4 l5 l6 l11 l12
  rw [m58] at l1 l2 l3 l11' l12'
  rw [m63] at l4 l5 l6
  rw [pc 1 (by omega), pc 2 (by omega), m59, m60] at lx
  obtain ⟨⟨s1, s2, s3, s4, s5, s6⟩, t1, t2, ⟨c, hc20, t3⟩, t4, t5⟩ := id st
  have n0 : 0 < n := by
    rcases Nat.eq_zero_or_pos n with e | e
    · exact absurd (by rw [l1.2, e]; rfl) hn
    · exact e
  obtain ⟨g1, g2, g3⟩ := b7 n0
  have c4 : zI hc 17 4 = nI c := by rw [← mz_c (hc := hc) (hm := hm) (a := 17) (by omega)]; exact s4.trans t3
  have c13 : zI hm 58 13 = nI c := by rw [← m58]; exact t3
  have ew : winB hc r.1 ga gb gc x y = winM hm ga gb gc x y := by
    unfold winB winM
    rw [(lx ga g1).1, (lx gb g2).1, (lx gc g3).1, (lx ga g1).2, (lx gb g2).2, (lx gc g3).2]
  have eC := fun f => e_digAt (f := f) (b := b) (x := x) (y := y) Hc hp hb6 l4.1 l5.1 l6.1 b4 b5 b6 c4 hc20
  have eM := fun f => e_digNow (f := f) (b := b) (x := x) (y := y) Hm hb6 l4.2 l5.2 l6.2 b4 b5 b6 c13 hc20
  rw [l11, l12, ew] at eC
  rw [l11', l12'] at eM
  generalize winM hm ga gb gc x y = win at *
  refine ⟨_, _, win, eC, eM, ⟨?_, rm, dg_Sh Hm⟩, fun a ha => funext fun j => dg_z a j (by omega) (by omega) (by omega) (by omega), ⟨fun a j q => ?_, ?_⟩, ?_, ?_, ?_, ?_, dg_z 58 0 (by omega) (by omega) (by omega) (by omega)⟩
  · refine Rel_St R0 (dg_Sh Hc) rfl rfl (fun a k _ q => ?_) (fun n' hn' e' st' _ _ => ?_)
    · unfold QS at q
      simp only [Bool.or_eq_false_iff, Bool.and_eq_false_iff, decide_eq_false_iff_not] at q
      by_cases ca : a < 58
      · rw [mz_c ca, mz_c ca, dg_z a k (by omega) (by omega) (by omega) (by omega)]
      · rw [mz_m (by omega), mz_m (by omega), dg_z a k (by omega) (by omega) (by omega) (by omega)]
    · obtain ⟨-, u1, u2, u3, u4, u5⟩ := st'
      have z17 : ∀ j, zI (mrg hc hm) 17 j = zI hc 17 j := fun j => by rw [mz_c (by omega)]
      have z58 : ∀ j, zI (mrg hc hm) 58 j = zI hm 58 j := fun j => by rw [mz_m (by omega)]
      have pb : zI hc 21 b = zI hm 65 b := by have := s2 b hb6; rw [mz_c (a := 21) (by omega), mz_m (a := 65) (by omega)] at this; exact this
      unfold StN
      rw [mz_c (a := 17) (by omega), mz_c (a := 18) (by omega), mz_c (a := 19) (by omega), mz_c (a := 20) (by omega), mz_c (a := 21) (by omega), mz_m (a := 58) (by omega), mz_m (a := 64) (by omega), mz_m (a := 65) (by omega), mz_m (a := 66) (by omega), mz_m (a := 67) (by omega)]
      rw [mz_c (a := 18) (by omega), mz_m (a := 64) (by omega)] at s1
      rw [mz_c (a := 21) (by omega), mz_m (a := 65) (by omega)] at s2
      rw [mz_c (a := 19) (by omega), mz_c (a := 20) (by omega), mz_m (a := 66) (by omega), mz_m (a := 67) (by omega)] at s3
      rw [z17, z58] at s4 s5 s6
      rw [mz_m (a := 64) (by omega)] at u1 u2
      rw [z58] at u3 u4 u5
      have k18 : ∀ j, zI (dgH 21 19 20 17 4 5 hc b x y c win (nI q1) (nI q2)) 18 j = zI hc 18 j := fun j => dg_z 18 j (by omega) (by omega) (by omega) (by omega)
      have k64 : ∀ j, zI (dgH 65 66 67 58 13 16 hm b x y c win (nI q1) (nI q2)) 64 j = zI hm 64 j := fun j => dg_z 64 j (by omega) (by omega) (by omega) (by omega)
      have k176 : zI (dgH 21 19 20 17 4 5 hc b x y c win (nI q1) (nI q2)) 17 6 = zI hc 17 6 := dg_z 17 6 (by omega) (by omega) (by omega) (by omega)
      have k5817 : zI (dgH 65 66 67 58 13 16 hm b x y c win (nI q1) (nI q2)) 58 17 = zI hm 58 17 := dg_z 58 17 (by omega) (by omega) (by omega) (by omega)
      have kn1 : ∀ i, i < 36 → zI (dgH 21 19 20 17 4 5 hc b x y c win (nI q1) (nI q2)) 18 i = zI (dgH 65 66 67 58 13 16 hm b x y c win (nI q1) (nI q2)) 64 i := fun i hi => by rw [k18, k64]; exact s1 i hi
      have o1 : ∀ i, i < 36 → ∃ s, s < 2 ^ n' ∧ zI (dgH 65 66 67 58 13 16 hm b x y c win (nI q1) (nI q2)) 64 i = nI s := fun i hi => by rw [k64]; exact u1 i hi
      have o2 : ∀ b', b' < 6 → zI (dgH 65 66 67 58 13 16 hm b x y c win (nI q1) (nI q2)) 64 (7 * b') = nI (2 ^ n' - 1) := fun b' hb' => by rw [k64]; exact u2 b' hb'
      have o5 : (0 : Int32) ≤ zI (dgH 65 66 67 58 13 16 hm b x y c win (nI q1) (nI q2)) 58 17 := by rw [k5817]; exact u5
      have e6 : zI (dgH 21 19 20 17 4 5 hc b x y c win (nI q1) (nI q2)) 17 6 = zI (dgH 65 66 67 58 13 16 hm b x y c win (nI q1) (nI q2)) 58 17 := by rw [k176, k5817]; exact s6
      have pu : ∀ b', b' < 6 → zI (dgH 21 19 20 17 4 5 hc b x y c win (nI q1) (nI q2)) 21 b' = zI (dgH 65 66 67 58 13 16 hm b x y c win (nI q1) (nI q2)) 65 b' := fun b' hb' => by
        have sb := s2 b' hb'
        unfold dgH
        by_cases e : b' = b
        · subst e
          split
          · simp [zI_sI, pb]
          · split <;> simp [zI_sI, pb]
        · split
          · simp [zI_sI, e, sb]
          · split <;> simp [zI_sI, e, sb]
      have sp : ∀ j, j < 20 → zI (dgH 21 19 20 17 4 5 hc b x y c win (nI q1) (nI q2)) 19 j = zI (dgH 65 66 67 58 13 16 hm b x y c win (nI q1) (nI q2)) 66 j ∧ zI (dgH 21 19 20 17 4 5 hc b x y c win (nI q1) (nI q2)) 20 j = zI (dgH 65 66 67 58 13 16 hm b x y c win (nI q1) (nI q2)) 67 j := fun j hj => by
        have sj := s3 j hj
        unfold dgH
        split
        · simp [zI_sI, sj]
        · split
          · by_cases e : j = c
            · simp [zI_sI, e]
            · simp [zI_sI, e, sj]
          · simp [zI_sI, sj]
      have cnt : zI (dgH 21 19 20 17 4 5 hc b x y c win (nI q1) (nI q2)) 17 4 = zI (dgH 65 66 67 58 13 16 hm b x y c win (nI q1) (nI q2)) 58 13 ∧ ∃ k, k ≤ 20 ∧ zI (dgH 65 66 67 58 13 16 hm b x y c win (nI q1) (nI q2)) 58 13 = nI k := by
        unfold dgH
        split
        · simp [zI_sI, c4, c13]
          exact ⟨c, hc20, rfl⟩
        · split
          · simp [zI_sI]
            exact ⟨c + 1, by omega, rfl⟩
          · simp [zI_sI, c4, c13]
            exact ⟨c, hc20, rfl⟩
      have fin : zI (dgH 21 19 20 17 4 5 hc b x y c win (nI q1) (nI q2)) 17 5 = zI (dgH 65 66 67 58 13 16 hm b x y c win (nI q1) (nI q2)) 58 16 ∧ (zI (dgH 65 66 67 58 13 16 hm b x y c win (nI q1) (nI q2)) 58 16 = -1 ∨ ∃ b', b' < 6 ∧ zI (dgH 65 66 67 58 13 16 hm b x y c win (nI q1) (nI q2)) 58 16 = nI b') := by
        unfold dgH
        split
        · simp [zI_sI]
          exact Or.inr ⟨b, hb6, rfl⟩
        · split
          · simp [zI_sI, s5]
            exact u4
          · simp [zI_sI, s5]
            exact u4
      exact ⟨⟨kn1, pu, sp, cnt.1, fin.1, e6⟩, o1, o2, cnt.2, fin.2, o5⟩
  · have := of_decide_eq_false q
    exact dg_z a j (by omega) (by omega) (by omega) (by omega)
  · refine ⟨?_, ?_, ?_, ?_⟩
    · unfold dgH; split; rfl; split; rfl; rfl
    · unfold dgH; split; rfl; split; rfl; rfl
    · unfold dgH; split; rfl; split; rfl; rfl
    · unfold dgH; split; rfl; split; rfl; rfl
  · unfold dgH; split; rfl; split; rfl; rfl
  · unfold dgH; split; rfl; split; rfl; rfl
  · intro e; subst e; unfold dgH; simp [zI_sI]
  · intro e; subst e
    unfold dgH
    by_cases c9 : c < 20
    · simp [zI_sI, c9]
    · simp [zI_sI, c9]
