/-! ===== the reference takes a clause ===== -/
def QMt (a j : Nat) : Bool := (decide (a = 58) && (decide (j = 20) || decide (j = 21) || decide (j = 24) || decide (j = 25) || decide (j = 26) || decide (j = 32) || decide (j = 33) || decide (j = 34) || decide (j = 36) || decide (j = 37) || decide (j = 38) || decide (j = 40))) || (decide (69 ≤ a) && decide (a ≤ 74))
theorem Fx_cm {h h' : Hp} (F : Fx QCr h h') : Fx QMt h h' := Fx_mono F (fun a j w => by
  unfold QMt at w
  unfold QCr
  simp only [Bool.or_eq_false_iff, Bool.and_eq_false_iff, decide_eq_false_iff_not] at w ⊢
  omega)
theorem Fx_tt {h h' : Hp} (F : Fx QTn h h') : Fx QMt h h' := Fx_cm (Fx_tc F)
/-- what a taking comes to: R, as the numbers say -/
def TkR (h h' : Hp) (r : Rs) (t : Nat → Nat) (n : Nat) (P : Ps) (k : Nat) (R : Nat × Nat × (Nat → Nat) × Nat) : Prop := R.1 ≤ 4 ∧ Fx QMt h h' ∧ (R.1 ≠ 0 → zI h' 58 20 = nI R.2.1) ∧ (R.1 = 0 → MJl h' r t n (tel P k R.2.2.1) ∧ MGl h' (tel P k R.2.2.1) ∧ zI h' 58 21 = nI R.2.2.2 ∧ zI h' 58 20 = zI h 58 20)
section TK
variable {f n : Nat} {r : Rs} {t : Nat → Nat} {P : Ps}
theorem rdl_4 {k c j : Nat} {a : Nat → Nat} {i : Nat} : (rdl t n P k c j a i).1 ≤ 4 := by
  induction c generalizing j a i with
  | zero => show 0 ≤ 4; omega
  | succ c ih =>
    unfold rdl
    split
    · show 1 ≤ 4; omega
    · split
      · exact ih
      · exact chk_le
theorem MGl_row {h h' : Hp} {P P' : Ps} (G : MGl h P) (e : zI h' 74 = zI h 74) (e1 : qA P' = qA P) (e2 : qB P' = qB P) (e3 : qD P' = qD P) : MGl h' P' := by
  unfold MGl; rw [e, e1, e2, e3]; exact G
/-- within, spade, prize -/
theorem take_s {h : Hp} {k z i : Nat} {m : Int32} {mm : Nat} {a : Nat → Nat} (hk : (k = 2 ∧ z = 36 ∧ mm = 9) ∨ (k = 5 ∧ z = 37 ∧ mm = 999) ∨ (k = 6 ∧ z = 38 ∧ mm = 9999)) (em : m = nI mm) (M : MJl h r t n P) (G : MGl h P) (hi : i ≤ n) (hf : 500 ≤ f) (e5 : zI h 58 21 = nI i) : ∃ h' h1 v, f_X6_takeNumber f 58 0 m h = some (v, h1) ∧ q_gi h1 58 6 24 = some (zI h1 58 24) ∧ q_pi h1 58 6 z (zI h1 58 24) = some h' ∧ v = nI (rdl t n P k 1 0 a i).1 ∧ TkR h h' r t n P k (rdl t n P k 1 0 a i) := by
  have ck : ∀ v, chk P k 0 a v = if decide (v ≤ mm) = true then 0 else 2 := fun v => by
    rcases hk with ⟨rfl, rfl, rfl⟩ | ⟨rfl, rfl, rfl⟩ | ⟨rfl, rfl, rfl⟩ <;> simp [chk, c99]
  have O : OkN 0 m (fun v => decide (v ≤ mm)) := by rw [em]; exact okN_c (by omega)
  obtain ⟨h1, e1, F1, w1, w2⟩ := num_s (f := f) O ck M.1 hi hf e5
  have M1 := MJl_tn M F1
  have H1 := M1.1.1
  obtain ⟨T1, ⟨m26, m32, m33, m34, m36, m37, m38⟩, m2, m3⟩ := id M1
  have z58 : z = 36 ∨ z = 37 ∨ z = 38 := by omega
  have F2 : Fx QMt h1 (sI h1 58 z (zI h1 58 24)) := Fx_sI (by unfold QMt; rcases z58 with rfl | rfl | rfl <;> rfl)
  refine ⟨sI h1 58 z (zI h1 58 24), h1, _, e1, gi_k (S_58 H1), pi_k (S_58 H1), rfl, rdl_4, Fx_tr (Fx_tt F1) F2, fun w => ?_, fun w => ?_⟩
  · rw [zI_sI, if_neg (by omega)]; exact w2 w
  · obtain ⟨v1, v2, v3, v4, v5, v6⟩ := w1 w
    have T2 : TM (sI h1 58 z (zI h1 58 24)) r t n := TM_Fx (Q := fun b j => decide (b = 58) && decide (j = z)) T1 (Fx_sI (by simp)) (fun j => by simp) (by simp; omega)
    have m2' : ∀ k, k < qN P → zI (sI h1 58 z (zI h1 58 24)) 69 k = nI (qX P k) ∧ zI (sI h1 58 z (zI h1 58 24)) 70 k = nI (qY P k) := fun k hk => by
      rw [zI_row (by omega), zI_row (by omega)]; exact m2 k hk
    have m3' : ∀ m, m < 6 → ∀ k, k < qN P → ((qC P m).testBit k = true → zI (sI h1 58 z (zI h1 58 24)) 73 (9 * m + k) = 1 ∧ zI (sI h1 58 z (zI h1 58 24)) 71 (9 * m + k) = qU P m k ∧ zI (sI h1 58 z (zI h1 58 24)) 72 (9 * m + k) = qV P m k) ∧ ((qC P m).testBit k = false → zI (sI h1 58 z (zI h1 58 24)) 73 (9 * m + k) = 0) := fun m hm k hk => by
      rw [zI_row (by omega), zI_row (by omega), zI_row (by omega)]; exact m3 m hm k hk
    have g74 : zI (sI h1 58 z (zI h1 58 24)) 74 = zI h 74 := by rw [zI_row (by omega)]; exact Fx_row F1 (fun _ => rfl)
    refine ⟨?_, ?_, by rw [zI_sI, if_neg (by omega)]; exact v2, by rw [zI_sI, if_neg (by omega)]; exact v1⟩
    · rcases hk with ⟨rfl, rfl, rfl⟩ | ⟨rfl, rfl, rfl⟩ | ⟨rfl, rfl, rfl⟩
      · refine ⟨T2, ⟨?_, ?_, ?_, ?_, ?_, ?_, ?_⟩, m2', m3'⟩
        all_goals simp only [zI_sI, true_and]
        all_goals first | exact m26 | exact m32 | exact m33 | exact m34 | exact m37 | exact m38 | exact v3
      · refine ⟨T2, ⟨?_, ?_, ?_, ?_, ?_, ?_, ?_⟩, m2', m3'⟩
        all_goals simp only [zI_sI, true_and]
        all_goals first | exact m26 | exact m32 | exact m33 | exact m34 | exact m36 | exact m38 | exact v3
      · refine ⟨T2, ⟨?_, ?_, ?_, ?_, ?_, ?_, ?_⟩, m2', m3'⟩
        all_goals simp only [zI_sI, true_and]
        all_goals first | exact m26 | exact m32 | exact m33 | exact m34 | exact m36 | exact m37 | exact v3
    · rcases hk with ⟨rfl, rfl, rfl⟩ | ⟨rfl, rfl, rfl⟩ | ⟨rfl, rfl, rfl⟩ <;> exact MGl_row G g74 rfl rfl rfl
def QOt (a j : Nat) : Bool := (decide (a = 58) && decide (j = 26)) || decide (a = 73)
theorem tm52_go {N : Nat} {v : Int32} (hN : N < 9) : ∀ (d m : Nat) (h : Hp), Sh h r → m ≤ 6 → 6 < m + d → zI h 58 26 = nI N → ∃ h', l_X6_takeMark_52 f d 58 v (nI m) h = some (v, h') ∧ Fx QOt h h' ∧ zI h' 58 26 = nI (N + 1) ∧ (∀ m', m ≤ m' → m' < 6 → zI h' 73 (9 * m' + N) = 0) ∧ (∀ z, (∀ m', m ≤ m' → m' < 6 → z ≠ 9 * m' + N) → zI h' 73 z = zI h 73 z) := by
  intro d
  induction d with
  | zero => intro m h _ h1 h2; omega
  | succ d ih =>
    intro m h H hm hd e26
    show ∃ h', b_X6_takeMark_52 f (l_X6_takeMark_52 f d) 58 v (nI m) h = _ ∧ _
    unfold b_X6_takeMark_52 lt
    rw [gi_k (S_58 H), Option.bind_some, e26]
    by_cases c : m = 6
    · rw [if_pos (show (6 : Int32) ≤ nI m from (nI_leI (a := 6) (by omega) (by omega)).mpr (by omega)), pi_k (S_58 H), Option.bind_some, nI_p1]
      exact ⟨_, rfl, Fx_sI rfl, by rw [zI_sI, if_pos ⟨rfl, rfl⟩], fun m' h1 h2 => by omega, fun z _ => by rw [zI_row (by omega)]⟩
    · have F : Fx QOt h (sI h 73 (9 * m + N) 0) := Fx_sI rfl
      have H1 : Sh (sI h 73 (9 * m + N) 0) r := H
      obtain ⟨h', e, F', z1, z2, z3⟩ := ih (m + 1) _ H1 (by omega) (by omega) (by rw [zI_row (by omega)]; exact e26)
      rw [if_neg (show ¬ (6 : Int32) ≤ nI m from fun e => by have := (nI_leI (a := 6) (b := m) (by omega) (by omega)).mp e; omega), gr_k (S_58 H) (R_58_31 H), Option.bind_some, Option.bind_some, ix9', nar_b (Or.inl rfl), as_nI (S_73 H) (by omega) (by decide), Option.bind_some, nI_p1]
      refine ⟨h', e, Fx_tr F F', z1, fun m' h1 h2 => ?_, fun z hz => ?_⟩
      · by_cases em : m' = m
        · rw [z3 (9 * m' + N) (fun m2 h3 h4 => by omega), em, zI_sI, if_pos ⟨rfl, rfl⟩]
        · exact z2 m' (by omega) h2
      · have := hz m (Nat.le_refl m) (by omega)
        rw [z3 z (fun m2 h3 h4 => hz m2 (by omega) h4), zI_sI, if_neg (fun w => this w.2)]
theorem take_0 {h : Hp} {i : Nat} {a : Nat → Nat} (M : MJl h r t n P) (G : MGl h P) (W : PW P) (hfu : fullP P 0 = false) (hi : i ≤ n) (hf : 500 ≤ f) (e5 : zI h 58 21 = nI i) : ∃ h', f_X6_takeMark f 58 h = some (nI (rdl t n P 0 2 0 a i).1, h') ∧ TkR h h' r t n P 0 (rdl t n P 0 2 0 a i) := by
  have H := M.1.1
  have nn : qN P ≠ 9 := by unfold fullP at hfu; simpa using hfu
  have N9 : qN P < 9 := by have := W.1.1; omega
  have ck : ∀ (j : Nat) (a : Nat → Nat) v, chk P 0 j a v = if decide (v ≤ 99) = true then 0 else 2 := fun j a v => by simp [chk, c99]
  have O : OkN 0 99 (fun v => decide (v ≤ 99)) := okN_c (m := 99) (by omega)
  obtain ⟨h1, e1, F1, w1, w2⟩ := num_s (f := f) (k := 0) (P := P) (j := 0) (a := a) O (ck 0 a) M.1 hi hf e5
  have M1 := MJl_tn M F1
  have H1 := M1.1.1
  have r4 := rdl_4 (t := t) (n := n) (P := P) (k := 0) (c := 1) (j := 0) (a := a) (i := i)
  rw [rdl_app 1]
  unfold f_X6_takeMark
  rw [on_k (S_58 H), e1, bi_mk, gr_k (S_58 H1) (R_58_27 H1), Option.bind_some, gi_k (S_58 H1), Option.bind_some, gi_k (S_58 H1), Option.bind_some, M1.2.1.1, as_nI (S_69 H1) N9 (by decide), Option.bind_some]
  have H2 : Sh (sI h1 69 (qN P) (zI h1 58 24)) r := H1
  have F2 : Fx QMt h1 (sI h1 69 (qN P) (zI h1 58 24)) := Fx_sI rfl
  have T2 : TM (sI h1 69 (qN P) (zI h1 58 24)) r t n := TM_Fx M1.1 (Fx_sI (Q := fun b _ => decide (b = 69)) (by simp)) (fun j => by simp) (by simp)
  /- the end: 70, isOther, the count -/
  have fin36 : ∀ (g : Hp) (y : Int32), Sh g r → zI g 58 26 = nI (qN P) → ∃ g', b_X6_takeMark_36 f 58 y g = some (y, g') ∧ Fx QMt g g' ∧ zI g' 58 26 = nI (qN P + 1) ∧ (∀ j, j ≠ 26 → zI g' 58 j = zI g 58 j) ∧ (∀ b, 68 ≤ b → b ≠ 70 → b ≠ 73 → zI g' b = zI g b) ∧ (∀ k, zI g' 70 k = if k = qN P then zI g 58 24 else zI g 70 k) ∧ (∀ m', m' < 6 → zI g' 73 (9 * m' + qN P) = 0) ∧ (∀ z, (∀ m', m' < 6 → z ≠ 9 * m' + qN P) → zI g' 73 z = zI g 73 z) := fun g y Hg e26 => by
    have Hg1 : Sh (sI g 70 (qN P) (zI g 58 24)) r := Hg
    obtain ⟨g', e, F', z1, z2, z3⟩ := tm52_go (f := f) (v := y) N9 f 0 _ Hg1 (by omega) (by omega) (by rw [zI_row (by omega)]; exact e26)
    have Fg : Fx QMt g (sI g 70 (qN P) (zI g 58 24)) := Fx_sI rfl
    have F'' : Fx QMt (sI g 70 (qN P) (zI g 58 24)) g' := Fx_mono F' (fun a j w => by
      unfold QMt at w
      unfold QOt
      simp only [Bool.or_eq_false_iff, Bool.and_eq_false_iff, decide_eq_false_iff_not] at w ⊢
      omega)
    refine ⟨g', ?_, Fx_tr Fg F'', z1, fun j hj => ?_, fun b h1 h2 h3 => ?_, fun k => ?_, fun m' hm' => z2 m' (by omega) hm', fun z hz => ?_⟩
    · unfold b_X6_takeMark_36
      rw [gr_k (S_58 Hg) (R_58_28 Hg), Option.bind_some, gi_k (S_58 Hg), Option.bind_some, gi_k (S_58 Hg), Option.bind_some, e26, as_nI (S_70 Hg) N9 (by decide), Option.bind_some]
      exact e
    · rw [F'.1 58 j (by unfold QOt; simp [hj]), zI_row (by omega)]
    · have : zI g' b = zI (sI g 70 (qN P) (zI g 58 24)) b := Fx_row F' (fun j => by unfold QOt; simp; omega)
      rw [this, zI_row h2]
    · rw [F'.1 70 k rfl, zI_sI]
      by_cases ek : k = qN P
      · rw [if_pos ⟨rfl, ek⟩, if_pos ek]
      · rw [if_neg (fun w => ek w.2), if_neg ek]
    · rw [z3 z (fun m' _ h4 => hz m' h4), zI_row (by omega)]
  by_cases c1 : (rdl t n P 0 1 0 a i).1 = 0
  · obtain ⟨v1, v2, v3, v4, v5, v6⟩ := w1 c1
    rw [if_pos c1, if_pos (by rw [c1]; decide), on_k (S_58 H2)]
    generalize ea1 : (rdl t n P 0 1 0 a i).2.2.1 = a1 at *
    generalize ei1 : (rdl t n P 0 1 0 a i).2.2.2 = i1 at *
    obtain ⟨h3, e3, F3, y1, y2⟩ := num_s (f := f) (k := 0) (P := P) (j := 1) (a := a1) O (ck 1 a1) T2 v5 hf (by rw [zI_row (by omega)]; exact v2)
    have H3 := Fx_Sh F3 H2
    rw [e3, bi_mk]
    obtain ⟨h4, e4, F4, x26, x58, xb, x70, x73, x73'⟩ := fin36 h3 (nI (rdl t n P 0 1 1 a1 i1).1) H3 (by rw [F3.1 58 26 rfl, zI_row (by omega)]; exact M1.2.1.1)
    refine ⟨h4, e4, rdl_4, Fx_tr (Fx_tr (Fx_tt F1) F2) (Fx_tr (Fx_tt F3) F4), fun w => ?_, fun w => ?_⟩
    · rw [x58 20 (by omega)]; exact y2 w
    · obtain ⟨u1, u2, u3, u4, u5, u6⟩ := y1 w
      generalize (rdl t n P 0 1 1 a1 i1).2.2.1 = a2 at *
      have z58 : ∀ j, j ≠ 20 → j ≠ 21 → j ≠ 24 → j ≠ 25 → j ≠ 26 → zI h4 58 j = zI h1 58 j := fun j q1 q2 q3 q4 q5 => by
        rw [x58 j q5, F3.1 58 j (by unfold QTn; simp; omega), zI_row (by omega)]
      have z3r : ∀ b, 59 ≤ b → zI h3 b = zI (sI h1 69 (qN P) (zI h1 58 24)) b := fun b hb => Fx_row F3 (fun j => by unfold QTn; simp; omega)
      have a20 : a2 0 = a1 0 := u4 0 (by omega)
      obtain ⟨T1, ⟨m26, m32, m33, m34, m36, m37, m38⟩, m2, m3⟩ := id M1
      have T4 : TM h4 r t n := by
        refine ⟨Fx_Sh F4 H3, T1.2.1, ?_, fun j hj => ⟨(T1.2.2.2 j hj).1, ?_⟩⟩
        · rw [z58 19 (by omega) (by omega) (by omega) (by omega) (by omega)]; exact T1.2.2.1
        · rw [xb 68 (by omega) (by omega) (by omega), z3r 68 (by omega), zI_row (by omega)]; exact (T1.2.2.2 j hj).2
      have g74 : zI h4 74 = zI h 74 := by
        rw [xb 74 (by omega) (by omega) (by omega), z3r 74 (by omega), zI_row (by omega)]
        exact Fx_row F1 (fun _ => rfl)
      refine ⟨⟨T4, ⟨x26, ?_, ?_, ?_, ?_, ?_, ?_⟩, fun k hk => ?_, fun m hm k hk => ?_⟩, MGl_row G g74 rfl rfl rfl, ?_, ?_⟩
      · rw [z58 32 (by omega) (by omega) (by omega) (by omega) (by omega)]; exact m32
      · rw [z58 33 (by omega) (by omega) (by omega) (by omega) (by omega)]; exact m33
      · rw [z58 34 (by omega) (by omega) (by omega) (by omega) (by omega)]; exact m34
      · rw [z58 36 (by omega) (by omega) (by omega) (by omega) (by omega)]; exact m36
      · rw [z58 37 (by omega) (by omega) (by omega) (by omega) (by omega)]; exact m37
      · rw [z58 38 (by omega) (by omega) (by omega) (by omega) (by omega)]; exact m38
      · have hk' : k < qN P + 1 := hk
        show zI h4 69 k = nI (up1 (qX P) (qN P) (a2 0) k) ∧ zI h4 70 k = nI (up1 (qY P) (qN P) (a2 1) k)
        rw [x70, xb 69 (by omega) (by omega) (by omega), z3r 69 (by omega), zI_sI]
        unfold up1
        by_cases ek : k = qN P
        · rw [if_pos ⟨rfl, ek⟩, if_pos ek, if_pos ek, if_pos ek, a20]; exact ⟨v3, u3⟩
        · rw [if_neg (fun w => ek w.2), if_neg ek, if_neg ek, if_neg ek, z3r 70 (by omega), zI_row (by omega)]
          exact m2 k (by omega)
      · have hk' : k < qN P + 1 := hk
        show ((qC P m).testBit k = true → zI h4 73 (9 * m + k) = 1 ∧ zI h4 71 (9 * m + k) = upC (qU P) (qN P) (nI (a2 0)) m k ∧ zI h4 72 (9 * m + k) = upC (qV P) (qN P) (nI (a2 1)) m k) ∧ ((qC P m).testBit k = false → zI h4 73 (9 * m + k) = 0)
        by_cases ek : k = qN P
        · have bf : (qC P m).testBit k = false := by rw [ek]; exact Nat.testBit_lt_two_pow (W.2.2.2.2.2 m hm).1
          rw [bf]
          exact ⟨(fun w => by cases w), fun _ => by rw [ek]; exact x73 m hm⟩
        · unfold upC
          rw [if_neg ek, if_neg ek, x73' (9 * m + k) (fun m' h1 => by omega), xb 71 (by omega) (by omega) (by omega), xb 72 (by omega) (by omega) (by omega), z3r 71 (by omega), z3r 72 (by omega), z3r 73 (by omega), zI_row (by omega), zI_row (by omega), zI_row (by omega)]
          exact m3 m hm k (by omega)
      · rw [x58 21 (by omega)]; exact u2
      · rw [x58 20 (by omega), u1, zI_row (by omega)]; exact v1
  · rw [if_neg c1, if_neg (fun w => c1 ((nI_le0 (by omega)).mp w))]
    obtain ⟨h4, e4, F4, x26, x58, -⟩ := fin36 (sI h1 69 (qN P) (zI h1 58 24)) (nI (rdl t n P 0 1 0 a i).1) H2 (by rw [zI_row (by omega)]; exact M1.2.1.1)
    refine ⟨h4, e4, r4, Fx_tr (Fx_tr (Fx_tt F1) F2) F4, fun w => ?_, fun w => absurd w c1⟩
    rw [x58 20 (by omega), zI_row (by omega)]; exact w2 w
end TK
