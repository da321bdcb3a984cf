/-! ===== saying, loudest, leads ===== -/
theorem mkB_f {n : Nat} {x : Int32} (e : mkB n x = false) (h0 : ¬ x < 0) (hn : n < 1000) : ¬ x < nI n := by
  unfold mkB at e
  simp only [decide_eq_false_iff_not] at e
  rw [fa_lt, i0] at h0
  rw [fa_lt, nI_toInt (by omega)]
  omega
theorem mkB_p {n : Nat} {x : Int32} (hn : n < 1000) (h0 : ¬ x < 0) (h1 : x < nI n) : mkB n x = true := by
  unfold mkB
  simp only [decide_eq_true_eq]
  rw [fa_lt, i0] at h0
  rw [fa_lt, nI_toInt (by omega)] at h1
  omega
theorem e_inS {f c : Nat} {x : Int32} {h : Hp} (hc : c ≤ 1000) : f_X6_in f x.toInt64 (0 : Int64) (nI c - 1).toInt64 h = some (b2 (mkB c x), h) := by
  rw [e_inM f x 0 _ 0 (nI c - 1) (by decide) rfl]
  congr 3
  unfold mkB
  have e : ((0 : Int32) ≤ x ∧ x ≤ nI c - 1) ↔ (0 ≤ x.toInt ∧ x.toInt < c) := by
    rw [fa_le, fa_le, i0, nI_sub1 (by omega)]; omega
  simp only [e]
section SY
variable {f i : Nat} {r : Rs} {h : Hp}
theorem e_trueC (H : Sh h r) (hi : i < 20) (v : Int32) : f_X3_isTrue f 34 (nI i) v h = some (b2 (decide (b2 (hb v (zI h 36 i)) = zI h 37 i)), h) := by
  unfold f_X3_isTrue b_X3_isTrue_24
  rw [gr_k (S_34 H) (R_34_1 H), Option.bind_some, ai_nI (S_36 H) hi (by decide), Option.bind_some, e_isIn, bi_mk, gr_k (S_34 H) (R_34_2 H), Option.bind_some, ai_nI (S_37 H) hi (by decide), Option.bind_some]
  by_cases c : b2 (hb v (zI h 36 i)) = zI h 37 i
  · rw [if_neg (fun n9 => n9 c), decide_eq_true c]; rfl
  · rw [if_pos c, decide_eq_false c]; rfl
theorem e_trueM (H : Sh h r) (hi : i < 20) : f_X6_isTrue f 58 (nI i) h = some (b2 (decide (b2 (hb (zI h 58 6) (zI h 83 i)) = zI h 84 i)), h) := by
  unfold f_X6_isTrue b_X6_isTrue_27
  rw [gi_k (S_58 H), Option.bind_some, gr_k (S_58 H) (R_58_52 H), Option.bind_some, ai_nI (S_83 H) hi (by decide), Option.bind_some, e_has, bi_mk, gr_k (S_58 H) (R_58_53 H), Option.bind_some, ai_nI (S_84 H) hi (by decide), Option.bind_some]
  by_cases c : b2 (hb (zI h 58 6) (zI h 83 i)) = zI h 84 i
  · rw [if_neg (fun n9 => n9 c), decide_eq_true c]; rfl
  · rw [if_pos c, decide_eq_false c]; rfl
end SY
theorem st_saying {f : Nat} (hf : 100 ≤ f) (a x : Int32) : StpR (f_X5_saying f 0 a x) (f_X6_saying f 58 a x) := by
  intro h r R
  obtain ⟨H, rp, tx, ft, n, w, l, ga, gb, gc, il, st, sy, im0, im1⟩ := id R
  have hp := Rp_p rp
  obtain ⟨c, hc, c1, c2, c3⟩ := sy
  have eM : ∀ (K : Int32 → Hp → Option (Int32 × Hp)), ((q_gi h 58 6 50).bind fun v1_ => bi (f_X6_in f a.toInt64 (0 : Int64) ((v1_ - (1 : Int32)).toInt64) h) K) = K (b2 (mkB c a)) h := fun K => by
    rw [gi_k (S_58 H), Option.bind_some, c2, e_inS (by omega), bi_mk]
  cases ea : mkB c a with
  | false =>
    refine ⟨-1000001, h, h, r, ?_, by rw [S_58 H], ?_, R⟩
    · unfold f_X5_saying b_X5_saying_15
      by_cases c0 : a < 0
      · rw [if_pos c0]
      · rw [if_neg c0, gr_k (S_0 H) (R_0_9 H), Option.bind_some, gi_k (S_34 H), Option.bind_some, c1, if_neg (mkB_f ea c0 (by omega))]
    · unfold f_X6_saying
      rw [eM, ea]; rfl
  | true =>
    obtain ⟨i, hi, rfl⟩ := mkB_t (by omega) ea
    obtain ⟨d1, d2, d3, ⟨b, hb6, d4⟩, ⟨m, hm6, d5⟩, d6⟩ := c3 i hi
    have lti : nI i < nI c := (nI_ltI (by omega) (by omega)).mpr hi
    have hi20 : i < 20 := by omega
    cases ex : mkB 2 x with
    | false =>
      refine ⟨-1000002, h, h, r, ?_, by rw [S_58 H], ?_, R⟩
      · unfold f_X5_saying b_X5_saying_27
        rw [if_neg (nI_ge0 (by omega)), gr_k (S_0 H) (R_0_9 H), Option.bind_some, gi_k (S_34 H), Option.bind_some, c1, if_pos lti, rg_le (k := 1) (c := 1) rfl (by omega), ex]; rfl
      · unfold f_X6_saying
        rw [eM, ea, b2T, if_pos c10, e_inK (k := 1) (by decide) (by omega), bi_mk, ex]; rfl
    | true =>
      by_cases cx : x = 0
      · refine ⟨b2 (decide (b2 (hb (zI h 58 6) (zI h 83 i)) = zI h 84 i)), h, h, r, ?_, by rw [S_58 H], ?_, R⟩
        · unfold f_X5_saying b_X5_saying_27 b_X5_saying_57
          rw [if_neg (nI_ge0 (by omega)), gr_k (S_0 H) (R_0_9 H), Option.bind_some, gi_k (S_34 H), Option.bind_some, c1, if_pos lti, rg_le (k := 1) (c := 1) rfl (by omega), ex, if_pos rfl, if_neg (fun n9 => n9 cx), Option.bind_some, gr_k (S_0 H) (R_0_3 H), Option.bind_some, gi_k (Ip_S H hp), Option.bind_some, on_k (S_34 H), e_trueC H hi20, bi_mk, d2, d3, il.2.2.2.2.2.2.2.1]
          cases decide (b2 (hb (zI h 58 6) (zI h 83 i)) = zI h 84 i) <;> rfl
        · unfold f_X6_saying b_X6_saying_50
          rw [eM, ea, b2T, if_pos c10, e_inK (k := 1) (by decide) (by omega), bi_mk, ex, b2T, if_pos c10, if_neg (fun n9 => n9 cx), on_k (S_58 H), e_trueM H hi20, bi_mk]
          cases decide (b2 (hb (zI h 58 6) (zI h 83 i)) = zI h 84 i) <;> rfl
      · obtain ⟨h', e, W, R', J, C, h15⟩ := weighed (f := f) R hb6 hf
        have H' := R'.1
        have e82 : zI h' 82 i = nI b := (W 82 i (by omega)).trans d4
        have e83 : zI h' 83 i = nI m := (W 83 i (by omega)).trans d5
        have e84 : zI h' 84 i = zI h 84 i := W 84 i (by omega)
        have e36 : zI h' 36 i = nI m := (W 36 i (by omega)).trans (d2.trans d5)
        have e37 : zI h' 37 i = zI h 84 i := (W 37 i (by omega)).trans d3
        obtain ⟨h2, F2, e2⟩ := say_go (f := f) J (by omega) hi20 e82 e83 e84 f 0 0 0 h' (by omega) (by omega) (by omega) (Fr_rf _ _)
        rw [fr_0, Nat.zero_add, Nat.zero_add] at e2
        have c2' : zI h' 58 50 = nI c := (W 58 50 (by omega)).trans c2
        refine ⟨(if (fl (mo h' b) 64).length = 0 then -1 else 100 * nI (hcV (nI m) (zI h 84 i) (fl (mo h' b) 64)) / nI (fl (mo h' b) 64).length), h', h2, rW r, ?_, by rw [S_58 H'], ?_, Rel_QN R' F2⟩
        · unfold f_X5_saying b_X5_saying_27
          rw [if_neg (nI_ge0 (by omega)), gr_k (S_0 H) (R_0_9 H), Option.bind_some, gi_k (S_34 H), Option.bind_some, c1, if_pos lti, rg_le (k := 1) (c := 1) rfl (by omega), ex, if_pos rfl, if_pos cx, gr_k (S_0 H) (R_0_10 H), Option.bind_some, gr_k (S_0 H) (R_0_3 H), Option.bind_some, gr_k (S_0 H) (R_0_6 H), Option.bind_some, Option.bind_some, gr_k (S_34 H) (R_34_0 H), Option.bind_some, ai_nI (S_35 H) hi20 (by decide), Option.bind_some, d1, d4, on_k (S_38 H), e, Option.bind_some, gr_k (S_0 H') (R_0_10 H'), Option.bind_some, gr_k (S_0 H') (R_0_9 H'), Option.bind_some, gr_k (S_34 H') (R_34_1 H'), Option.bind_some, ai_nI (S_36 H') hi20 (by decide), Option.bind_some, e36, Option.bind_some, gr_k (S_34 H') (R_34_2 H'), Option.bind_some, ai_nI (S_37 H') hi20 (by decide), Option.bind_some, e37, on_k (S_38 H')]
          unfold f_X1_ofHundred
          rw [gi_k (S_38 H'), Option.bind_some, C.1]
          by_cases c0 : (fl (mo h' b) 64).length = 0
          · rw [c0, if_pos rfl]; rfl
          · have q := hun_go (f := f) (m := nI m) (x := zI h 84 i) H' C h15 (by omega) f 0 0 (by omega) (by omega)
            rw [List.drop_zero, Nat.zero_add] at q
            rw [if_pos (n0_of (by omega) (by omega)), if_neg c0]
            exact congrArg (fun o => bi o fun v20_ h19_ => some (v20_, h19_)) q
        · unfold f_X6_saying
          rw [gi_k (S_58 H'), Option.bind_some, c2', e_inS (by omega), bi_mk, ea, b2T, if_pos c10, e_inK (k := 1) (by decide) (by omega), bi_mk, ex, b2T, if_pos c10, if_pos cx]
          exact e2
/-! loudest -/
def utP (h : Hp) (b i : Nat) : Bool := decide (zI h 82 i = nI b) && !decide (b2 (hb (zI h 58 6) (zI h 83 i)) = zI h 84 i)
def loV (h : Hp) (c : Nat) : Nat → Int32 × Nat
  | 0 => (-1, 0)
  | b + 1 => if fb_ct (utP h b) c ≤ (loV h c b).2 then loV h c b else (nI b, fb_ct (utP h b) c)
theorem loV_le (h : Hp) (c : Nat) : ∀ b, (loV h c b).2 ≤ c
  | 0 => Nat.zero_le _
  | b + 1 => by
    unfold loV
    split
    · exact loV_le h c b
    · exact fb_ct_le _ _
section LO
variable {f c : Nat} {r : Rs} {h : Hp}
theorem ut_go {b : Nat} {v : Int32} (H : Sh h r) (hc : c ≤ 20) (c1 : zI h 34 3 = nI c) (ev : v = zI h 58 6) (c3 : ∀ i, i < c → zI h 35 i = zI h 82 i ∧ zI h 36 i = zI h 83 i ∧ zI h 37 i = zI h 84 i) : ∀ (d i : Nat), i ≤ c → c < i + d → l_X3_untrueOf_5 f d 34 (nI b) v (nI (fb_ct (utP h b) i)) (nI i) h = some (nI (fb_ct (utP h b) c), h) := by
  intro d
  induction d with
  | zero => intro i h1 h2; omega
  | succ d ih =>
    intro i hi hid
    show b_X3_untrueOf_5 f (l_X3_untrueOf_5 f d) 34 (nI b) v _ (nI i) h = _
    unfold b_X3_untrueOf_5 b_X3_untrueOf_38 lt
    rw [gi_k (S_34 H), Option.bind_some, c1]
    by_cases e : i = c
    · rw [e, if_pos ((nI_leI (by omega) (by omega)).mpr (Nat.le_refl _))]
    · obtain ⟨d1, d2, d3⟩ := c3 i (by omega)
      rw [if_neg (fun e => by have := (nI_leI (a := c) (b := i) (by omega) (by omega)).mp e; omega), gr_k (S_34 H) (R_34_0 H), Option.bind_some, ai_nI (S_35 H) (by omega) (by decide), Option.bind_some, d1]
      simp only [nI_p1]
      have ih' := ih (i + 1) (by omega) (by omega)
      rw [fb_ct_succ] at ih'
      by_cases c5 : zI h 82 i = nI b
      · rw [if_neg (fun n9 => n9 c5), on_k (S_34 H), e_trueC H (by omega), bi_mk, d2, d3, ev]
        have eu : utP h b i = !decide (b2 (hb (zI h 58 6) (zI h 83 i)) = zI h 84 i) := by unfold utP; rw [decide_eq_true c5]; rfl
        rw [eu, ev] at ih'
        cases eq : decide (b2 (hb (zI h 58 6) (zI h 83 i)) = zI h 84 i) with
        | true => rw [eq] at ih'; rw [b2T, if_pos c10]; exact ih'
        | false => rw [eq] at ih'; rw [b2F, if_neg (by simp)]; exact ih'
      · have eu : utP h b i = false := by unfold utP; rw [decide_eq_false c5]; rfl
        rw [eu] at ih'
        rw [if_pos c5]
        exact ih'
theorem lo_go {v : Int32} (H : Sh h r) (hc : c ≤ 20) (c1 : zI h 34 3 = nI c) (ev : v = zI h 58 6) (c3 : ∀ i, i < c → zI h 35 i = zI h 82 i ∧ zI h 36 i = zI h 83 i ∧ zI h 37 i = zI h 84 i) (hf : 30 ≤ f) : ∀ (d b : Nat), b ≤ 6 → 6 < b + d → l_X3_bandOfMostUntrue_7 f d 34 v (loV h c b).1 (nI (loV h c b).2) (nI b) h = some ((loV h c 6).1, h) := by
  intro d
  induction d with
  | zero => intro i h1 h2; omega
  | succ d ih =>
    intro b hb6 hbd
    show b_X3_bandOfMostUntrue_7 f (l_X3_bandOfMostUntrue_7 f d) 34 v _ _ (nI b) h = _
    unfold b_X3_bandOfMostUntrue_7 b_X3_bandOfMostUntrue_35 lt
    by_cases e : b = 6
    · subst e; rw [if_pos (by decide)]
    · rw [if_neg (fun e => by have := (nI_leI (a := 6) (b := b) (by omega) (by omega)).mp e; omega), on_k (S_34 H)]
      have u := ut_go (f := f) (b := b) H hc c1 ev c3 f 0 (by omega) (by omega)
      have u' : f_X3_untrueOf f 34 (nI b) v h = some (nI (fb_ct (utP h b) c), h) := u
      rw [u', bi_mk]
      simp only [nI_p1]
      have l1 := loV_le h c b
      have l2 := fb_ct_le (utP h b) c
      have ih' := ih (b + 1) (by omega) (by omega)
      unfold loV at ih'
      by_cases c5 : fb_ct (utP h b) c ≤ (loV h c b).2
      · rw [if_pos c5] at ih'
        rw [if_pos ((nI_leI (by omega) (by omega)).mpr c5)]
        exact ih'
      · rw [if_neg c5] at ih'
        rw [if_neg (fun e => c5 ((nI_leI (by omega) (by omega)).mp e))]
        exact ih'
theorem utM_go {b : Nat} {x1 : Int32} {mo' : Nat} {k6 : Nat → Int32 → Int32 → Int32 → Hp → Option (Int32 × Hp)} (H : Sh h r) (hc : c ≤ 20) (hm : mo' ≤ 1000) (c2 : zI h 58 50 = nI c) : ∀ (d i : Nat), i ≤ c → c < i + d → l_X6_loudest_18 f k6 d 58 x1 (nI mo') (nI b) (nI (fb_ct (utP h b) i)) (nI i) h = (if fb_ct (utP h b) c ≤ mo' then k6 58 x1 (nI mo') (nI (b + 1)) h else k6 58 (nI b) (nI (fb_ct (utP h b) c)) (nI (b + 1)) h) := by
  intro d
  induction d with
  | zero => intro i h1 h2; omega
  | succ d ih =>
    intro i hi hid
    show b_X6_loudest_18 f k6 (l_X6_loudest_18 f k6 d) 58 x1 (nI mo') (nI b) _ (nI i) h = _
    unfold b_X6_loudest_18 b_X6_loudest_74 b_X6_loudest_87 b_X6_loudest_53 b_X6_loudest_54 lt
    rw [gi_k (S_58 H), Option.bind_some, c2]
    have l2 := fb_ct_le (utP h b) c
    by_cases e : i = c
    · rw [e, if_pos ((nI_leI (by omega) (by omega)).mpr (Nat.le_refl _))]
      simp only [nI_p1]
      by_cases c5 : fb_ct (utP h b) c ≤ mo'
      · rw [if_pos ((nI_leI (by omega) (by omega)).mpr c5), if_pos ((nI_leI (by omega) (by omega)).mpr c5), if_pos c5]
      · rw [if_neg (fun e => c5 ((nI_leI (by omega) (by omega)).mp e)), if_neg (fun e => c5 ((nI_leI (by omega) (by omega)).mp e)), if_neg c5]
    · rw [if_neg (fun e => by have := (nI_leI (a := c) (b := i) (by omega) (by omega)).mp e; omega), gr_k (S_58 H) (R_58_51 H), Option.bind_some, ai_nI (S_82 H) (by omega) (by decide), Option.bind_some]
      have z : ∀ x : Nat, nI x + (0 : Int32) = nI (x + 0) := fun x => nI_add x 0
      simp only [nI_p1, z]
      have ih' := ih (i + 1) (by omega) (by omega)
      rw [fb_ct_succ] at ih'
      by_cases c5 : zI h 82 i = nI b
      · rw [if_neg (fun n9 => n9 c5), on_k (S_58 H), e_trueM H (by omega), bi_mk]
        have eu : utP h b i = !decide (b2 (hb (zI h 58 6) (zI h 83 i)) = zI h 84 i) := by unfold utP; rw [decide_eq_true c5]; rfl
        rw [eu] at ih'
        cases eq : decide (b2 (hb (zI h 58 6) (zI h 83 i)) = zI h 84 i) with
        | true => rw [eq] at ih'; rw [b2T, if_pos c10]; exact ih'
        | false => rw [eq] at ih'; rw [b2F, if_neg (by simp)]; exact ih'
      · have eu : utP h b i = false := by unfold utP; rw [decide_eq_false c5]; rfl
        rw [eu] at ih'
        rw [if_pos c5]
        exact ih'
theorem loM_go (H : Sh h r) (hc : c ≤ 20) (c2 : zI h 58 50 = nI c) (hf : 30 ≤ f) : ∀ (d b : Nat), b ≤ 6 → 6 < b + d → l_X6_loudest_6 f d 58 (loV h c b).1 (nI (loV h c b).2) (nI b) h = some ((loV h c 6).1, h) := by
  intro d
  induction d with
  | zero => intro i h1 h2; omega
  | succ d ih =>
    intro b hb6 hbd
    show b_X6_loudest_6 f (l_X6_loudest_6 f d) 58 _ _ (nI b) h = _
    unfold b_X6_loudest_6
    by_cases e : b = 6
    · subst e; rw [if_pos (by decide)]
    · rw [if_neg (fun e => by have := (nI_leI (a := 6) (b := b) (by omega) (by omega)).mp e; omega)]
      have l1 := loV_le h c b
      have u := utM_go (f := f) (b := b) (x1 := (loV h c b).1) (mo' := (loV h c b).2) (k6 := l_X6_loudest_6 f d) H hc (by omega) c2 f 0 (by omega) (by omega)
      refine Eq.trans u ?_
      have ih' := ih (b + 1) (by omega) (by omega)
      unfold loV at ih'
      by_cases c5 : fb_ct (utP h b) c ≤ (loV h c b).2
      · rw [if_pos c5] at ih'
        rw [if_pos c5]
        exact ih'
      · rw [if_neg c5] at ih'
        rw [if_neg c5]
        exact ih'
end LO
theorem st_loudest {f : Nat} (hf : 100 ≤ f) : StpR (f_X5_loudest f 0) (f_X6_loudest f 58) := by
  intro h r R
  obtain ⟨H, rp, tx, ft, n, w, l, ga, gb, gc, il, st, sy, im0, im1⟩ := id R
  have hp := Rp_p rp
  obtain ⟨c, hc, c1, c2, c3⟩ := sy
  refine ⟨(loV h c 6).1, h, h, r, ?_, by rw [S_58 H], loM_go (f := f) H hc c2 (by omega) f 0 (by omega) (by omega), R⟩
  unfold f_X5_loudest
  rw [gr_k (S_0 H) (R_0_9 H), Option.bind_some, gr_k (S_0 H) (R_0_3 H), Option.bind_some, gi_k (Ip_S H hp), Option.bind_some, on_k (S_34 H)]
  have u := lo_go (f := f) H hc c1 (il.2.2.2.2.2.2.2.1) (fun i hi => ⟨(c3 i hi).1, (c3 i hi).2.1, (c3 i hi).2.2.1⟩) (by omega) f 0 (by omega) (by omega)
  have u' : f_X3_bandOfMostUntrue f 34 (zI h r.1 5) h = some ((loV h c 6).1, h) := u
  rw [u', bi_mk]
/-! leads -/
section LE
variable {f b : Nat} {r : Rs} {h : Hp} {M : Ma}
theorem fg_22 {j i : Nat} {oA oB oD : Option Bx} {k2 : Nat → Int32 → Hp → Option Hp} (J : JM h r b M) (BA : MB h (aA M) oA) (BB : MB h (aB M) oB) (BD : MB h (aD M) oD) (hn : 0 < aN M) (hj : j < 4) (hi : i < 4) : b_X6_findArea_22 f k2 58 (nI j) (nI i) h = k2 58 (nI (j + 1)) (sI h 77 j (enO j oA + enO j oB - enO i oD)) := by
  obtain ⟨H, hb6, -, e1, e2, e3, e4, e5, e6, e7, e8⟩ := id J
  have hn9 : aN M ≤ 9 := e8.1
  obtain ⟨g1, g2, g3⟩ := e7 hn
  have a0 : q_ai h 63 9 0 = some (nI (aA M)) := by rw [show (0 : Int32) = nI 0 from rfl, ai_nI (S_63 H) (by decide) (by decide), e4]
  have a1 : q_ai h 63 9 1 = some (nI (aB M)) := by rw [show (1 : Int32) = nI 1 from rfl, ai_nI (S_63 H) (by decide) (by decide), e5]
  have a2 : q_ai h 63 9 2 = some (nI (aD M)) := by rw [show (2 : Int32) = nI 2 from rfl, ai_nI (S_63 H) (by decide) (by decide), e6]
  unfold b_X6_findArea_22 lt
  rw [gr_k (S_58 H) (R_58_43 H), Option.bind_some, gr_k (S_58 H) (R_58_8 H), Option.bind_some, a0, Option.bind_some, on_k (S_58 H), en_i H (by omega) hj BA, bi_mk, gr_k (S_58 H) (R_58_8 H), Option.bind_some, a1, Option.bind_some, on_k (S_58 H), en_i H (by omega) hj BB, bi_mk, gr_k (S_58 H) (R_58_8 H), Option.bind_some, a2, Option.bind_some, on_k (S_58 H), en_i H (by omega) hi BD, bi_mk, as_nI (S_77 H) hj (by decide), Option.bind_some, nI_p1]
def eG (oA oB oD : Option Bx) (j : Nat) : Int32 := enO j oA + enO j oB - enO (otJ j) oD
theorem fg_step {j d : Nat} {oA oB oD : Option Bx} (J : JM h r b M) (BA : MB h (aA M) oA) (BB : MB h (aB M) oB) (BD : MB h (aD M) oD) (hn : 0 < aN M) (hj : j < 4) : l_X6_findArea_2 f (d + 1) 58 (nI j) h = l_X6_findArea_2 f d 58 (nI (j + 1)) (sI h 77 j (eG oA oB oD j)) := by
  show b_X6_findArea_2 f (l_X6_findArea_2 f d) 58 (nI j) h = _
  unfold b_X6_findArea_2
  rw [if_neg (fun e => by have := (nI_leI (a := 4) (b := j) (by omega) (by omega)).mp e; omega)]
  rcases (show j = 0 ∨ j = 1 ∨ j = 2 ∨ j = 3 by omega) with rfl | rfl | rfl | rfl
  · exact fg_22 (i := 1) J BA BB BD hn (by omega) (by omega)
  · exact fg_22 (i := 0) J BA BB BD hn (by omega) (by omega)
  · exact fg_22 (i := 3) J BA BB BD hn (by omega) (by omega)
  · exact fg_22 (i := 2) J BA BB BD hn (by omega) (by omega)
theorem e_findAreaG {oA oB oD : Option Bx} (J : JM h r b M) (BA : MB h (aA M) oA) (BB : MB h (aB M) oB) (BD : MB h (aD M) oD) (hn : 0 < aN M) (hf : 10 ≤ f) : ∃ h', Fr QA h h' ∧ (∀ j, j < 4 → zI h' 77 j = eG oA oB oD j) ∧ f_X6_findArea f 58 h = some h' := by
  have F1 : Fr QA h (sI h 77 0 (eG oA oB oD 0)) := Fr_sI rfl
  have F2 : Fr QA h (sI (sI h 77 0 (eG oA oB oD 0)) 77 1 (eG oA oB oD 1)) := Fr_then F1 rfl
  have F3 : Fr QA h (sI (sI (sI h 77 0 (eG oA oB oD 0)) 77 1 (eG oA oB oD 1)) 77 2 (eG oA oB oD 2)) := Fr_then F2 rfl
  have F4 : Fr QA h (sI (sI (sI (sI h 77 0 (eG oA oB oD 0)) 77 1 (eG oA oB oD 1)) 77 2 (eG oA oB oD 2)) 77 3 (eG oA oB oD 3)) := Fr_then F3 rfl
  have jj : ∀ g, Fr QA h g → JM g r b M := fun g F => JM_Fr (Fr_mono F QA_QN) J
  have bb : ∀ g, Fr QA h g → ∀ k o, MB h k o → MB g k o := fun g F k o B => MB_same (F.1 75 k rfl) (fun i _ => F.1 76 _ rfl) B
  refine ⟨_, F4, ?_, ?_⟩
  · intro j hj
    rcases (show j = 0 ∨ j = 1 ∨ j = 2 ∨ j = 3 by omega) with rfl | rfl | rfl | rfl <;> simp [zI_sI]
  · unfold f_X6_findArea
    have key : ∀ g, 5 ≤ g → l_X6_findArea_2 f g 58 (nI 0) h = some (sI (sI (sI (sI h 77 0 (eG oA oB oD 0)) 77 1 (eG oA oB oD 1)) 77 2 (eG oA oB oD 2)) 77 3 (eG oA oB oD 3)) := fun g hg => by
      obtain ⟨e, rfl⟩ : ∃ e, g = e + 5 := ⟨g - 5, by omega⟩
      rw [fg_step (d := e + 4) J BA BB BD hn (by omega), fg_step (d := e + 3) (jj _ F1) (bb _ F1 _ _ BA) (bb _ F1 _ _ BB) (bb _ F1 _ _ BD) hn (by omega), fg_step (d := e + 2) (jj _ F2) (bb _ F2 _ _ BA) (bb _ F2 _ _ BB) (bb _ F2 _ _ BD) hn (by omega), fg_step (d := e + 1) (jj _ F3) (bb _ F3 _ _ BA) (bb _ F3 _ _ BB) (bb _ F3 _ _ BD) hn (by omega)]
      show b_X6_findArea_2 f (l_X6_findArea_2 f e) 58 (nI 4) _ = _
      unfold b_X6_findArea_2
      rw [if_pos (by decide)]
    exact key f (by omega)
def ldB (M : Ma) (m k : Nat) : Option Bx := some (nb (aW M) (aX M (9 * m + k)) (aY M (9 * m + k)) none)
def ldV (M : Ma) (m j : Nat) : Int32 := eG (ldB M m (aA M)) (ldB M m (aB M)) (ldB M m (aD M)) j
theorem le_go {h0 : Hp} {m j : Nat} (J0 : JM h0 r b M) (hn : 0 < aN M) (hm : m < 6) (hj : j < 4) (hf : 10 ≤ f) : ∀ (d k : Nat) (h : Hp), k ≤ aN M → aN M < k + d → Fr QN h0 h → (∀ i, i < k → MB h i (ldB M m i)) → ∃ h', Fr QN h0 h' ∧ l_X6_leads_39 f d 58 (nI m) (nI j) (nI k) h = some (ldV M m j, h') := by
  intro d
  induction d with
  | zero => intro k h h1 h2; omega
  | succ d ih =>
    intro k h hk hkd F B
    have J := JM_Fr F J0
    have H := J.1
    have hn9 : aN M ≤ 9 := J.2.2.2.2.2.2.2.2.2.2.1
    show ∃ h', _ ∧ b_X6_leads_39 f (l_X6_leads_39 f d) 58 (nI m) (nI j) (nI k) h = _
    unfold b_X6_leads_39 lt
    rw [gi_k (S_58 H), Option.bind_some, J.2.2.2.1]
    by_cases c : k = aN M
    · obtain ⟨g1, g2, g3⟩ := J.2.2.2.2.2.2.2.2.2.1 hn
      obtain ⟨h', F', a', e'⟩ := e_findAreaG (f := f) J (B _ (by omega)) (B _ (by omega)) (B _ (by omega)) hn hf
      have H' := Fr_Sh F' H
      refine ⟨h', Fr_tr F (Fr_mono F' QA_QN), ?_⟩
      rw [c, if_pos ((nI_leI (by omega) (by omega)).mpr (Nat.le_refl _)), on_k (S_58 H), e', Option.bind_some, gr_k (S_58 H') (R_58_43 H'), Option.bind_some, ai_nI (S_77 H') hj (by decide), Option.bind_some, a' j hj]
      rfl
    · have hk9 : k < 9 := by omega
      have H1 : Sh (sI h 75 k 1) r := H
      have F1 : Fr QN h0 (sI h 75 k 1) := Fr_then F (by unfold QN; rfl)
      obtain ⟨fw, -, fx, fy, -, -⟩ := JM_f (JM_Fr F1 J0)
      obtain ⟨h1, q1, q2, q3, q4⟩ := e_narrowM (f := f) (x := aX M (9 * m + k)) (y := aY M (9 * m + k)) (o := none) H1 hk9 fw (show zI (sI h 75 k 1) 75 k = 1 by rw [zI_sI, if_pos ⟨rfl, rfl⟩])
      obtain ⟨h', F', e'⟩ := ih (k + 1) h1 (by omega) (by omega) (Fr_tr F1 (Fr_mono q2 QM_QN)) (fun i hi => by
        by_cases ei : i = k
        · rw [ei]; exact q3
        · refine MB_same ?_ ?_ (B i (by omega))
          · rw [(q4 i ei).1, zI_sI, if_neg (by omega)]
          · intro t ht
            rw [(q4 i ei).2 t ht, zI_row (by decide)])
      refine ⟨h', F', ?_⟩
      rw [if_neg (fun e => by have := (nI_leI (a := aN M) (b := k) (by omega) (by omega)).mp e; omega), gr_k (S_58 H) (R_58_41 H), Option.bind_some, as_nI (S_75 H) hk9 (by decide), Option.bind_some, nar_b (Or.inr rfl), gr_k (S_58 H1) (R_58_3 H1), Option.bind_some, ix9', ai_nI (S_61 H1) (by omega) (by decide), Option.bind_some, gr_k (S_58 H1) (R_58_4 H1), Option.bind_some, ai_nI (S_62 H1) (by omega) (by decide), Option.bind_some, on_k (S_58 H1), fx, fy, q1, Option.bind_some, nI_p1]
      exact e'
end LE
theorem ring_lo (a b c w : Int32) : (a - w) + (b - w) - (c + w) = (a + b - c) - 3 * w := by grind
theorem ring_hi (a b c w : Int32) : (a + w) + (b + w) - (c - w) = (a + b - c) + 3 * w := by grind
theorem st_leads {f : Nat} (hf : 100 ≤ f) (a x : Int32) : StpR (f_X5_leads f 0 a x) (f_X6_leads f 58 a x) := by
  intro h r R
  obtain ⟨H, rp, tx, ft, n, w, l, ga, gb, gc, il, st, sy, im0, im1⟩ := id R
  have hp := Rp_p rp
  have h9 := il.1.1
  unfold f_X5_leads f_X6_leads b_X5_leads_19
  simp only [e_bandC, e_bandM, bi_mk, b2_ne]
  cases ea : mkB 6 a with
  | false => exact ⟨_, h, h, r, rfl, by rw [S_58 H], rfl, R⟩
  | true =>
    obtain ⟨m, hm, rfl⟩ := mkB_t (by decide) ea
    rw [if_pos rfl, rg_lt (k := 4) (c := 4) rfl (by omega)]
    cases ex : mkB 4 x with
    | false =>
      rw [if_neg (by decide)]
      exact ⟨_, h, h, r, rfl, by rw [S_58 H], by rw [if_pos rfl, e_inK (k := 3) (by decide) (by omega), bi_mk, ex]; rfl, R⟩
    | true =>
      obtain ⟨j, hj, rfl⟩ := mkB_t (by decide) ex
      rw [if_pos rfl, gr_k (S_0 H) (R_0_3 H), Option.bind_some, gi_k (Ip_S H hp), Option.bind_some, il.2.1.1]
      by_cases c0 : n = 0
      · have n0 : nI n = 0 := by rw [c0]; rfl
        rw [if_neg (fun n9 => n9 n0)]
        refine ⟨_, h, h, r, rfl, by rw [S_58 H], ?_, R⟩
        rw [if_pos rfl, e_inK (k := 3) (by decide) (by omega), bi_mk, ex, b2T, if_pos c10, gi_k (S_58 H), Option.bind_some, il.2.1.2, if_neg (fun n9 => n9 n0)]
      · have J := JM_of (b := 0) H (by omega) (Gd_of il st (by omega))
        obtain ⟨c, hc, ec⟩ := st.2.2.2.1
        obtain ⟨q1, q2, q3, q4, q5, q6, q7⟩ := mo_of il (b := 0) ec hc
        obtain ⟨h2, F2, e2⟩ := le_go (f := f) (m := m) (j := j) J (by omega) hm hj (by omega) f 0 h (by omega) (by omega) (Fr_rf _ _) (fun i hi => by omega)
        refine ⟨ldV (mo h 0) m j, h, h2, r, ?_, by rw [S_58 H], ?_, Rel_QN R F2⟩
        · rw [if_pos (n0_of (by omega) (by omega))]
          obtain ⟨gA, gB, gD⟩ := il.1.2.2.2.2.2.2 (by omega)
          have lm := il.2.2.2.2.2.2.2.2.2.2.2 m hm
          obtain ⟨-, -, l2, -, l4, l5, l6, -⟩ := id il
          have g54 : ∀ k, k < n → 9 * m + k < 54 := fun k hk => by omega
          unfold ldV eG ldB nb
          rw [q4, q5, q6, q7]
          rcases (show j = 0 ∨ j = 1 ∨ j = 2 ∨ j = 3 by omega) with rfl | rfl | rfl | rfl
          · rw [if_neg (by decide), Option.bind_some, gr_k (Ip_S H hp) (Ip_R2 H hp), Option.bind_some]
            unfold b_X5_leads_57 b_X5_leads_134 lt
            simp only [gr_k (S_0 H) (R_0_3 H), Option.bind_some, gi_k (Ip_S H hp), l2.1, l4.1, l5.1, l6.1, ix9, ai_nI (Ip_S3 H hp) (g54 _ gA) (by decide), ai_nI (Ip_S3 H hp) (g54 _ gB) (by decide), ai_nI (Ip_S3 H hp) (g54 _ gD) (by decide), (lm _ gA).1, (lm _ gB).1, (lm _ gD).1]
            rw [← ring_lo]; rfl
          · rw [if_neg (by decide), Option.bind_some, gr_k (Ip_S H hp) (Ip_R2 H hp), Option.bind_some]
            unfold b_X5_leads_57 b_X5_leads_134 lt
            simp only [gr_k (S_0 H) (R_0_3 H), Option.bind_some, gi_k (Ip_S H hp), l2.1, l4.1, l5.1, l6.1, ix9, ai_nI (Ip_S3 H hp) (g54 _ gA) (by decide), ai_nI (Ip_S3 H hp) (g54 _ gB) (by decide), ai_nI (Ip_S3 H hp) (g54 _ gD) (by decide), (lm _ gA).1, (lm _ gB).1, (lm _ gD).1]
            rw [← ring_hi]; rfl
          · rw [if_pos (by decide), Option.bind_some, gr_k (Ip_S H hp) (Ip_R3 H hp), Option.bind_some]
            unfold b_X5_leads_57 b_X5_leads_134 lt
            simp only [gr_k (S_0 H) (R_0_3 H), Option.bind_some, gi_k (Ip_S H hp), l2.1, l4.1, l5.1, l6.1, ix9, ai_nI (Ip_S4 H hp) (g54 _ gA) (by decide), ai_nI (Ip_S4 H hp) (g54 _ gB) (by decide), ai_nI (Ip_S4 H hp) (g54 _ gD) (by decide), (lm _ gA).2.1, (lm _ gB).2.1, (lm _ gD).2.1]
            rw [← ring_lo]; rfl
          · rw [if_pos (by decide), Option.bind_some, gr_k (Ip_S H hp) (Ip_R3 H hp), Option.bind_some]
            unfold b_X5_leads_57 b_X5_leads_134 lt
            simp only [gr_k (S_0 H) (R_0_3 H), Option.bind_some, gi_k (Ip_S H hp), l2.1, l4.1, l5.1, l6.1, ix9, ai_nI (Ip_S4 H hp) (g54 _ gA) (by decide), ai_nI (Ip_S4 H hp) (g54 _ gB) (by decide), ai_nI (Ip_S4 H hp) (g54 _ gD) (by decide), (lm _ gA).2.1, (lm _ gB).2.1, (lm _ gD).2.1]
            rw [← ring_hi]; rfl
        · rw [if_pos rfl, e_inK (k := 3) (by decide) (by omega), bi_mk, ex, b2T, if_pos c10, gi_k (S_58 H), Option.bind_some, il.2.1.2, if_pos (n0_of (by omega) (by omega))]
          exact e2
