/-! ===== the reference reads a clause ===== -/
def sb7 (c0 c1 c2 c3 c4 c5 c6 : Bool) : Nat := c0.toNat + 2 * c1.toNat + 4 * c2.toNat + 8 * c3.toNat + 16 * c4.toNat + 32 * c5.toNat + 64 * c6.toNat
theorem sb_26 : ∀ c0 c1 c2 c3 c4 c5 c6 : Bool, (nI (sb7 c0 c1 c2 c3 c4 c5 c6) &&& 26 = 0) ↔ (c1 = false ∧ c3 = false ∧ c4 = false) := by decide +kernel
theorem sb_24 : ∀ c0 c1 c2 c3 c4 c5 c6 : Bool, (nI (sb7 c0 c1 c2 c3 c4 c5 c6) &&& 24 = 0) ↔ (c3 = false ∧ c4 = false) := by decide +kernel
theorem sb_has : ∀ c0 c1 c2 c3 c4 c5 c6 : Bool, hb (nI (sb7 c0 c1 c2 c3 c4 c5 c6)) (nI 1) = c1 ∧ hb (nI (sb7 c0 c1 c2 c3 c4 c5 c6)) (nI 2) = c2 ∧ hb (nI (sb7 c0 c1 c2 c3 c4 c5 c6)) (nI 5) = c5 ∧ hb (nI (sb7 c0 c1 c2 c3 c4 c5 c6)) (nI 6) = c6 := by decide +kernel
theorem sb_or : ∀ c0 c1 c2 c3 c4 c5 c6 : Bool, nI (sb7 c0 c1 c2 c3 c4 c5 c6) ||| (1 : Int32) <<< (nI 0 &&& 31) = nI (sb7 true c1 c2 c3 c4 c5 c6) ∧ nI (sb7 c0 c1 c2 c3 c4 c5 c6) ||| (1 : Int32) <<< (nI 1 &&& 31) = nI (sb7 c0 true c2 c3 c4 c5 c6) ∧ nI (sb7 c0 c1 c2 c3 c4 c5 c6) ||| (1 : Int32) <<< (nI 2 &&& 31) = nI (sb7 c0 c1 true c3 c4 c5 c6) ∧ nI (sb7 c0 c1 c2 c3 c4 c5 c6) ||| (1 : Int32) <<< (nI 3 &&& 31) = nI (sb7 c0 c1 c2 true c4 c5 c6) ∧ nI (sb7 c0 c1 c2 c3 c4 c5 c6) ||| (1 : Int32) <<< (nI 4 &&& 31) = nI (sb7 c0 c1 c2 c3 true c5 c6) ∧ nI (sb7 c0 c1 c2 c3 c4 c5 c6) ||| (1 : Int32) <<< (nI 5 &&& 31) = nI (sb7 c0 c1 c2 c3 c4 true c6) ∧ nI (sb7 c0 c1 c2 c3 c4 c5 c6) ||| (1 : Int32) <<< (nI 6 &&& 31) = nI (sb7 c0 c1 c2 c3 c4 c5 true) := by decide +kernel
def sbP (P : Ps) : Nat := sb7 (decide (0 < qN P)) (qg P) (qw P) (decide (0 < qJ P)) (decide (0 < qE P)) (qs P) (qt P)
theorem sb_tel {P : Ps} {k : Nat} {a : Nat → Nat} (hk : k < 7) : nI (sbP P) ||| (1 : Int32) <<< (nI k &&& 31) = nI (sbP (tel P k a)) := by
  unfold sbP
  obtain ⟨o0, o1, o2, o3, o4, o5, o6⟩ := sb_or (decide (0 < qN P)) (qg P) (qw P) (decide (0 < qJ P)) (decide (0 < qE P)) (qs P) (qt P)
  rcases (show k = 0 ∨ k = 1 ∨ k = 2 ∨ k = 3 ∨ k = 4 ∨ k = 5 ∨ k = 6 by omega) with rfl | rfl | rfl | rfl | rfl | rfl | rfl
  · rw [o0, show decide (0 < qN (tel P 0 a)) = true from decide_eq_true (by show 0 < qN P + 1; omega)]; rfl
  · rw [o1]; rfl
  · rw [o2]; rfl
  · rw [o3, show decide (0 < qJ (tel P 3 a)) = true from decide_eq_true (by show 0 < qJ P + 1; omega)]; rfl
  · rw [o4, show decide (0 < qE (tel P 4 a)) = true from decide_eq_true (by show 0 < qE P + 1; omega)]; rfl
  · rw [o5]; rfl
  · rw [o6]; rfl
def QMc (a j : Nat) : Bool := (decide (a = 58) && ((decide (20 ≤ j) && decide (j ≤ 26)) || (decide (32 ≤ j) && decide (j ≤ 40)))) || (decide (69 ≤ a) && decide (a ≤ 74))
theorem Fx_mc {h h' : Hp} (F : Fx QMt h h') : Fx QMc h h' := Fx_mono F (fun a j w => by
  unfold QMc at w
  unfold QMt
  simp only [Bool.or_eq_false_iff, Bool.and_eq_false_iff, decide_eq_false_iff_not] at w ⊢
  omega)
theorem Fx_wc {h h' : Hp} (F : Fx QWm h h') : Fx QMc h h' := Fx_mono F (fun a j w => by
  unfold QMc at w
  unfold QWm
  simp only [Bool.or_eq_false_iff, Bool.and_eq_false_iff, decide_eq_false_iff_not] at w ⊢
  omega)
theorem Fx_hc {h h' : Hp} (F : Fx QHe h h') : Fx QMc h h' := Fx_mono F (fun a j w => by
  unfold QMc at w
  unfold QHe
  simp only [Bool.or_eq_false_iff, Bool.and_eq_false_iff, decide_eq_false_iff_not] at w ⊢
  omega)
section CLM
variable {f n : Nat} {r : Rs} {t : Nat → Nat} {P : Ps}
theorem late_M {h : Hp} {k : Nat} (H : Sh h r) (e39 : zI h 58 39 = nI (sbP P)) (hk : k < 7) : (if ¬ nI k = 0 then b_X6_takeClause_23 f 58 (nI k) h else (q_gi h 58 6 39).bind fun v6_ => if ¬ (v6_ &&& (26 : Int32)) = 0 then b_X6_takeClause_38 f 58 (nI k) h else b_X6_takeClause_23 f 58 (nI k) h) = b_X6_takeClause_43 f 58 (nI k) (b2 (lateP P k)) h := by
  unfold b_X6_takeClause_23 b_X6_takeClause_38 b_X6_takeClause_42
  have k0 : (nI k = (0 : Int32)) ↔ k = 0 := nI_eq (b := 0) (by omega) (by omega)
  have k2 : (nI k = (2 : Int32)) ↔ k = 2 := nI_eq (b := 2) (by omega) (by omega)
  have s26 := sb_26 (decide (0 < qN P)) (qg P) (qw P) (decide (0 < qJ P)) (decide (0 < qE P)) (qs P) (qt P)
  have s24 := sb_24 (decide (0 < qN P)) (qg P) (qw P) (decide (0 < qJ P)) (decide (0 < qE P)) (qs P) (qt P)
  simp only [decide_eq_false_iff_not] at s26 s24
  rw [gi_k (S_58 H), Option.bind_some, Option.bind_some, e39]
  unfold sbP
  rcases (show k = 0 ∨ k = 2 ∨ (k ≠ 0 ∧ k ≠ 2) by omega) with rfl | rfl | ⟨n0, n2⟩
  · rw [if_neg (fun w => w rfl)]
    by_cases c : qg P = false ∧ ¬ 0 < qJ P ∧ ¬ 0 < qE P
    · rw [if_neg (fun w => w (s26.mpr c)), if_pos (by decide)]
      have : lateP P 0 = false := by
        unfold lateP
        rw [c.1, decide_eq_false (show ¬ 0 < qJ P + qE P by omega)]; rfl
      rw [this]; rfl
    · rw [if_pos (fun w => c (s26.mp w))]
      have : lateP P 0 = true := by
        unfold lateP
        cases b : qg P with
        | true => simp
        | false =>
          have : 0 < qJ P + qE P := by
            rw [b] at c
            rcases Nat.lt_or_ge 0 (qJ P + qE P) with q | q
            · exact q
            · exact absurd ⟨rfl, by omega, by omega⟩ c
          rw [decide_eq_true this]; rfl
      rw [this]; rfl
  · rw [if_pos (by decide), if_neg (fun w => w rfl)]
    by_cases c : ¬ 0 < qJ P ∧ ¬ 0 < qE P
    · rw [if_pos (s24.mpr c)]
      have : lateP P 2 = false := by
        unfold lateP
        rw [decide_eq_false (show ¬ 0 < qJ P + qE P by omega)]; rfl
      rw [this]; rfl
    · rw [if_neg (fun w => c (s24.mp w))]
      have : lateP P 2 = true := by
        unfold lateP
        rw [decide_eq_true (show 0 < qJ P + qE P by omega)]; rfl
      rw [this]; rfl
  · rw [if_pos (fun w => n0 (k0.mp w)), if_pos (fun w => n2 (k2.mp w))]
    have : lateP P k = false := by
      unfold lateP
      rw [decide_eq_false n0, decide_eq_false n2]; rfl
    rw [this]; rfl
theorem full_M {h : Hp} {k : Nat} (M : MJl h r t n P) (W : PW P) (e39 : zI h 58 39 = nI (sbP P)) (hk : k < 7) : b_X6_takeClause_43 f 58 (nI k) 0 h = b_X6_takeClause_134 f 58 (nI k) (b2 (fullP P k)) h := by
  have H := M.1.1
  obtain ⟨m26, m32, m33, m34, m36, m37, m38⟩ := M.2.1
  obtain ⟨w1, w2, w3, w4, w5, w6, w7⟩ := W.1
  obtain ⟨s1, s2, s5, s6⟩ := sb_has (decide (0 < qN P)) (qg P) (qw P) (decide (0 < qJ P)) (decide (0 < qE P)) (qs P) (qt P)
  unfold b_X6_takeClause_43
  rw [if_neg (nI_ge0 (by omega)), if_pos rfl]
  rcases (show k = 0 ∨ k = 1 ∨ k = 2 ∨ k = 3 ∨ k = 4 ∨ k = 5 ∨ k = 6 by omega) with rfl | rfl | rfl | rfl | rfl | rfl | rfl
  · rw [if_neg (fun w => w rfl), gi_k (S_58 H), Option.bind_some, m26]
    have e9 : nI (qN P) = (9 : Int32) ↔ qN P = 9 := nI_eq (b := 9) (by omega) (by omega)
    by_cases c : qN P = 9
    · rw [if_neg (fun w => w (e9.mpr c)), show fullP P 0 = true by simp [fullP, c]]; rfl
    · rw [if_pos (fun w => c (e9.mp w)), show fullP P 0 = false by simp [fullP, c]]; rfl
  · rw [if_pos (by decide), if_pos (by decide), if_pos (by decide), gi_k (S_58 H), Option.bind_some, e39, e_has, bi_mk]
    unfold sbP
    rw [s1]; rfl
  · rw [if_pos (by decide), if_pos (by decide), if_pos (by decide), gi_k (S_58 H), Option.bind_some, e39, e_has, bi_mk]
    unfold sbP
    rw [s2]; rfl
  · rw [if_pos (by decide), if_neg (fun w => w rfl), gi_k (S_58 H), Option.bind_some, m32]
    have e9 : nI (qJ P) = (2 : Int32) ↔ qJ P = 2 := nI_eq (b := 2) (by omega) (by omega)
    by_cases c : qJ P = 2
    · rw [if_neg (fun w => w (e9.mpr c)), show fullP P 3 = true by simp [fullP, c]]; rfl
    · rw [if_pos (fun w => c (e9.mp w)), show fullP P 3 = false by simp [fullP, c]]; rfl
  · rw [if_pos (by decide), if_pos (by decide), if_neg (fun w => w rfl), gi_k (S_58 H), Option.bind_some, m34]
    have e9 : nI (qE P) = (30 : Int32) ↔ qE P = 30 := nI_eq (b := 30) (by omega) (by omega)
    by_cases c : qE P = 30
    · rw [if_neg (fun w => w (e9.mpr c)), show fullP P 4 = true by simp [fullP, c]]; rfl
    · rw [if_pos (fun w => c (e9.mp w)), show fullP P 4 = false by simp [fullP, c]]; rfl
  · rw [if_pos (by decide), if_pos (by decide), if_pos (by decide), gi_k (S_58 H), Option.bind_some, e39, e_has, bi_mk]
    unfold sbP
    rw [s5]; rfl
  · rw [if_pos (by decide), if_pos (by decide), if_pos (by decide), gi_k (S_58 H), Option.bind_some, e39, e_has, bi_mk]
    unfold sbP
    rw [s6]; rfl
/-- what the reading of a clause comes to -/
def ClR (h h' : Hp) (r : Rs) (t : Nat → Nat) (n : Nat) (R : Nat × Nat × Ps × Nat) : Prop := R.1 ≤ 4 ∧ Fx QMc h h' ∧ (R.1 ≠ 0 → zI h' 58 20 = nI R.2.1) ∧ (R.1 = 0 → MJl h' r t n R.2.2.1 ∧ MGl h' R.2.2.1 ∧ zI h' 58 39 = nI (sbP R.2.2.1) ∧ zI h' 58 21 = nI R.2.2.2 ∧ zI h' 58 20 = zI h 58 20)
theorem fails_M {h h1 : Hp} {R : Nat × Nat × Ps × Nat} {c s : Nat} (H1 : Sh h1 r) (F : Fx QMc h h1) (e21 : zI h1 58 21 = nI s) (hc : 0 < c) (hc4 : c ≤ 4) (hR : R.1 = c ∧ R.2.1 = s) : ∃ h', ((q_gi h1 58 6 21).bind fun v1_ => q_on h1 58 6 (bi (f_X6_fails f 58 (nI c) v1_ h1) fun v4_ h3_ => some (v4_, h3_))) = some (nI R.1, h') ∧ ClR h h' r t n R := by
  unfold f_X6_fails
  rw [gi_k (S_58 H1), Option.bind_some, on_k (S_58 H1), e21, pi_k (S_58 H1), Option.bind_some, bi_mk, hR.1]
  refine ⟨_, rfl, by rw [hR.1]; exact hc4, Fx_then F rfl, fun _ => by rw [hR.2, zI_sI, if_pos ⟨rfl, rfl⟩], fun w => by rw [hR.1] at w; omega⟩
theorem e_clauseM {h : Hp} {i : Nat} (M : MJl h r t n P) (G : MGl h P) (e39 : zI h 58 39 = nI (sbP P)) (W : PW P) (hi : i ≤ n) (hs : sk t n i = i) (hf : 500 ≤ f) (e21 : zI h 58 21 = nI i) : ∃ h', f_X6_takeClause f 58 h = some (nI (cls t n P i).1, h') ∧ ClR h h' r t n (cls t n P i) := by
  have H := M.1.1
  obtain ⟨h1, e1, F1, z21, z23, z22⟩ := e_readWordM (f := f) M.1 hi hf e21
  rw [hs] at z21 z23 z22
  have M1 : MJl h1 r t n P := MJl_Fx M F1 (fun b j w => by
    unfold QWm
    simp only [Bool.and_eq_false_iff, Bool.or_eq_false_iff, decide_eq_false_iff_not]
    omega)
  have G1 : MGl h1 P := MGl_row G (Fx_row F1 (fun _ => rfl)) rfl rfl rfl
  have H1 := M1.1.1
  have e39' : zI h1 58 39 = nI (sbP P) := (F1.1 58 39 rfl).trans e39
  have hw : wE t n i ≤ n := en_le hi
  have hl : ∀ j, j < wE t n i - i → 97 ≤ t (i + j) ∧ t (i + j) ≤ 122 := fun j hj => by
    have := en_all (p := pW t) hi (i + j) (by omega) (by show i + j < wE t n i; omega)
    unfold pW at this
    simpa using this
  have big := sv_big (t := t) (s := i) (wE t n i - i) hl
  have k7 := kd_le t i (wE t n i)
  unfold f_X6_takeClause
  rw [on_k (S_58 H), e1, Option.bind_some, on_k (S_58 H1), e_clauseOf H1 z22 (by omega), bi_mk, cO_kd hl]
  unfold cls
  generalize kd t i (wE t n i) = k at *
  by_cases c7 : k = 7
  · rw [if_pos (Or.inl c7)]
    have ek : kI k = -1 := by unfold kI; rw [if_pos c7]
    rw [ek, if_pos (by decide)]
    unfold b_X6_takeClause_23 b_X6_takeClause_42 b_X6_takeClause_43 b_X6_takeClause_52
    rw [if_pos (by decide), if_pos (by decide)]
    exact fails_M (c := 1) H1 (Fx_wc F1) z21 (by omega) (by omega) ⟨rfl, rfl⟩
  · have hk : k < 7 := by omega
    have ek : kI k = nI k := by unfold kI; rw [if_neg c7]
    rw [ek, late_M (f := f) H1 e39' hk]
    by_cases cl : lateP P k = true
    · rw [if_pos (Or.inr cl), cl, b2T]
      unfold b_X6_takeClause_43 b_X6_takeClause_52
      rw [if_neg (nI_ge0 (by omega)), if_neg c10]
      exact fails_M (c := 1) H1 (Fx_wc F1) z21 (by omega) (by omega) ⟨rfl, rfl⟩
    · have cl' : lateP P k = false := by cases b : lateP P k with
        | false => rfl
        | true => exact absurd b cl
      rw [if_neg (show ¬ (k = 7 ∨ lateP P k = true) from fun w => w.elim c7 cl), cl', b2F, full_M (f := f) M1 W e39' hk]
      unfold b_X6_takeClause_134
      by_cases cf : fullP P k = true
      · rw [if_pos cf, cf, b2T, if_neg c10]
        exact fails_M (c := 3) H1 (Fx_wc F1) z21 (by omega) (by omega) ⟨rfl, rfl⟩
      · have cf' : fullP P k = false := by cases b : fullP P k with
          | false => rfl
          | true => exact absurd b cf
        have H2 : Sh (sI h1 58 21 (nI (wE t n i))) r := H1
        have H3 : Sh (sI (sI h1 58 21 (nI (wE t n i))) 58 39 (nI (sbP P) ||| (1 : Int32) <<< (nI k &&& 31))) r := H1
        rw [if_neg cf, cf', b2F, if_pos rfl, gi_k (S_58 H1), Option.bind_some, z23, pi_k (S_58 H1), Option.bind_some, gi_k (S_58 H2), Option.bind_some, zI_sI, if_neg (by omega), e39', pi_k (S_58 H2), Option.bind_some, on_k (S_58 H3)]
        have F3 : Fx QMc h1 (sI (sI h1 58 21 (nI (wE t n i))) 58 39 (nI (sbP P) ||| (1 : Int32) <<< (nI k &&& 31))) := Fx_then (Fx_sI rfl) rfl
        have F3' : Fx (fun b j => decide (b = 58) && (decide (j = 21) || decide (j = 39))) h1 (sI (sI h1 58 21 (nI (wE t n i))) 58 39 (nI (sbP P) ||| (1 : Int32) <<< (nI k &&& 31))) := Fx_then (Fx_sI rfl) rfl
        have M3 : MJl (sI (sI h1 58 21 (nI (wE t n i))) 58 39 (nI (sbP P) ||| (1 : Int32) <<< (nI k &&& 31))) r t n P := MJl_Fx M1 F3' (fun b j w => by
          simp only [Bool.and_eq_false_iff, Bool.or_eq_false_iff, decide_eq_false_iff_not]
          omega)
        have G3 : MGl (sI (sI h1 58 21 (nI (wE t n i))) 58 39 (nI (sbP P) ||| (1 : Int32) <<< (nI k &&& 31))) P := MGl_row G1 (by rw [zI_row (by omega), zI_row (by omega)]) rfl rfl rfl
        obtain ⟨h4, e4, r4, F4, y1, y2⟩ := e_takeOf (f := f) (a := fun _ => 0) M3 G3 W hk cf' hw hf (by rw [zI_sI, if_neg (by omega), zI_sI, if_pos ⟨rfl, rfl⟩])
        have H4 := Fx_Sh F4 H3
        have F14 : Fx QMc h h4 := Fx_tr (Fx_wc F1) (Fx_tr F3 (Fx_mc F4))
        have ro := rdl_ok (t := t) (n := n) (P := P) (k := k) (cnt k) 0 (fun _ => 0) (wE t n i) hw (fun x hx => by omega)
        generalize rdl t n P k (cnt k) 0 (fun _ => 0) (wE t n i) = R at *
        rw [e4, bi_mk]
        unfold b_X6_takeClause_200
        by_cases c0 : R.1 = 0
        · obtain ⟨M4, G4, u21, u20⟩ := y2 c0
          have o2 := (ro c0).2
          obtain ⟨h5, e5, F5, z5⟩ := e_here (f := f) M4.1 o2 hf u21
          have M5 : MJl h5 r t n (tel P k R.2.2.1) := MJl_Fx M4 F5 (fun b j w => by
            unfold QHe
            simp only [Bool.and_eq_false_iff, decide_eq_false_iff_not]
            omega)
          have H5 := M5.1.1
          have ef : fin t n P (tel P k) R = if sk t n R.2.2.2 < n ∧ t (sk t n R.2.2.2) = 59 then (0, 0, tel P k R.2.2.1, sk t n R.2.2.2 + 1) else (1, sk t n R.2.2.2, P, 0) := by unfold fin; rw [if_pos c0]
          rw [if_neg (fun w => w (by rw [c0]; rfl)), on_k (S_58 H4), e5, bi_mk, ef]
          have F15 : Fx QMc h h5 := Fx_tr F14 (Fx_hc F5)
          unfold hv
          by_cases c9 : sk t n R.2.2.2 < n ∧ t (sk t n R.2.2.2) = 59
          · have H6 : Sh (sI h5 58 21 (nI (sk t n R.2.2.2 + 1))) r := H5
            rw [if_pos c9, if_pos c9.1, if_pos (by rw [c9.2]; rfl), gi_k (S_58 H5), Option.bind_some, z5, nI_p1, pi_k (S_58 H5), Option.bind_some, c0]
            refine ⟨_, rfl, by show 0 ≤ 4; omega, Fx_then F15 rfl, fun w => absurd rfl w, fun _ => ⟨?_, ?_, ?_, ?_, ?_⟩⟩
            · exact MJl_Fx (Q := QHe) M5 (Fx_sI rfl) (fun b j w => by
                unfold QHe
                simp only [Bool.and_eq_false_iff, decide_eq_false_iff_not]
                omega)
            · exact MGl_row G4 (by rw [zI_row (by omega), Fx_row F5 (fun _ => rfl)]) rfl rfl rfl
            · rw [zI_sI, if_neg (by omega), F5.1 58 39 rfl, F4.1 58 39 rfl, zI_sI, if_pos ⟨rfl, rfl⟩]; exact sb_tel hk
            · rw [zI_sI, if_pos ⟨rfl, rfl⟩]
            · rw [zI_sI, if_neg (by omega), F5.1 58 20 rfl, u20, zI_sI, if_neg (by omega), zI_sI, if_neg (by omega), F1.1 58 20 rfl]
          · have nq : ¬ (if sk t n R.2.2.2 < n then nI (t (sk t n R.2.2.2)) else -1) = (59 : Int32) := by
              by_cases c8 : sk t n R.2.2.2 < n
              · rw [if_pos c8]
                have t256 := (M5.1.2.2.2 _ c8).1
                exact fun w => c9 ⟨c8, (nI_eq (b := 59) (by omega) (by omega)).mp w⟩
              · rw [if_neg c8]; decide
            rw [if_neg nq, if_neg c9]
            exact fails_M (c := 1) H5 F15 z5 (by omega) (by omega) ⟨rfl, rfl⟩
        · have ef : fin t n P (tel P k) R = (R.1, R.2.1, P, 0) := by unfold fin; rw [if_neg c0]
          have nz : ¬ nI R.1 = (0 : Int32) := fun w => c0 ((nI_eq (b := 0) (by omega) (by omega)).mp w)
          rw [if_pos nz, gi_k (S_58 H4), Option.bind_some, pi_k (S_58 H4), Option.bind_some, ef]
          exact ⟨_, rfl, r4, Fx_then F14 rfl, fun w => by rw [zI_sI, if_neg (by omega)]; exact y1 w, fun w => absurd w c0⟩
end CLM
