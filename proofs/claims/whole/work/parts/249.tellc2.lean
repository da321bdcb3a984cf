/-! ===== the class tells a clause ===== -/
def QTl (q a _j : Nat) : Bool := decide (a = 15) || (decide (q ≤ a) && decide (a ≤ q + 4))
theorem QTl_t {q a j : Nat} (h : a = 15 ∨ (q ≤ a ∧ a ≤ q + 4)) : QTl q a j = true := by
  unfold QTl
  simp only [Bool.or_eq_true, Bool.and_eq_true, decide_eq_true_eq]; exact h
theorem QTl_f {q a j : Nat} (h : ¬ (a = 15 ∨ (q ≤ a ∧ a ≤ q + 4))) : QTl q a j = false := by
  unfold QTl
  simp only [Bool.or_eq_false_iff, Bool.and_eq_false_iff, decide_eq_false_iff_not]; omega
section TL
variable {f q n : Nat} {r : Rs} {t : Nat → Nat} {h : Hp} {P : Ps} {a : Nat → Nat}
theorem e_put {m k : Nat} {x y : Int32} (H : Sh h r) (hq : q = 2 ∨ q = 7) (hm : m < 6) (hk : k < 9) : f_X0_put f q (nI m) (nI k) x y h = some (sI (sI h (q + 3) (9 * m + k) x) (q + 4) (9 * m + k) y) := by
  unfold f_X0_put
  have H1 : Sh (sI h (q + 3) (9 * m + k) x) r := H
  rw [gr_k (Ip_S H hq) (Ip_R2 H hq), Option.bind_some, ix9, as_nI (Ip_S3 H hq) (by omega) (by decide), Option.bind_some, gr_k (Ip_S H1 hq) (Ip_R3 H1 hq), Option.bind_some, as_nI (Ip_S4 H1 hq) (by omega) (by decide), Option.bind_some]
def QAm (q N a j : Nat) : Bool := (decide (a = q) && decide (j = 4)) || decide (a = q + 3) || decide (a = q + 4)
theorem am_go {N : Nat} {x y : Int32} (hq : q = 2 ∨ q = 7) (hN : N < 9) : ∀ (d m : Nat) (h : Hp), Sh h r → m ≤ 6 → 6 < m + d → zI h q 4 = nI N → ∃ h', l_X0_addMark_32 f d q x y (nI m) h = some h' ∧ Fx (QAm q N) h h' ∧ zI h' q 4 = nI (N + 1) ∧ (∀ m', m ≤ m' → m' < 6 → zI h' (q + 3) (9 * m' + N) = x ∧ zI h' (q + 4) (9 * m' + N) = y) ∧ (∀ z, (∀ m', m ≤ m' → m' < 6 → z ≠ 9 * m' + N) → zI h' (q + 3) z = zI h (q + 3) z ∧ zI h' (q + 4) z = zI h (q + 4) z) := by
  intro d
  induction d with
  | zero => intro m h _ h1 h2; omega
  | succ d ih =>
    intro m h H hm hd e4
    show ∃ h', b_X0_addMark_32 f (l_X0_addMark_32 f d) q x y (nI m) h = some h' ∧ _
    unfold b_X0_addMark_32 lt
    rw [gi_k (Ip_S H hq), Option.bind_some, e4]
    by_cases c : m = 6
    · rw [if_pos (show (6 : Int32) ≤ nI m from (nI_leI (a := 6) (by omega) (by omega)).mpr (by omega)), pi_k (Ip_S H hq), Option.bind_some, nI_p1]
      refine ⟨_, rfl, Fx_sI (by unfold QAm; simp), by rw [zI_sI, if_pos ⟨rfl, rfl⟩], fun m' h1 h2 => by omega, fun z _ => ⟨by rw [zI_sI, if_neg (by omega)], by rw [zI_sI, if_neg (by omega)]⟩⟩
    · have F : Fx (QAm q N) h (sI (sI h (q + 3) (9 * m + N) x) (q + 4) (9 * m + N) y) := Fx_then (Fx_sI (by unfold QAm; simp)) (by unfold QAm; simp)
      have H1 : Sh (sI (sI h (q + 3) (9 * m + N) x) (q + 4) (9 * m + N) y) r := H
      obtain ⟨h', e, F', z1, z2, z3⟩ := ih (m + 1) _ H1 (by omega) (by omega) (by rw [zI_sI, if_neg (by omega), zI_sI, if_neg (by omega)]; exact e4)
      rw [if_neg (show ¬ (6 : Int32) ≤ nI m from fun e => by have := (nI_leI (a := 6) (b := m) (by omega) (by omega)).mp e; omega), Option.bind_some, on_k (Ip_S H hq), e_put H hq (by omega) hN, Option.bind_some, nI_p1]
      refine ⟨h', e, Fx_tr F F', z1, fun m' h1 h2 => ?_, fun z hz => ?_⟩
      · by_cases em : m' = m
        · obtain ⟨w1, w2⟩ := z3 (9 * m' + N) (fun m2 h3 h4 => by omega)
          rw [w1, w2, em]
          refine ⟨?_, ?_⟩
          · rw [zI_sI, if_neg (by omega), zI_sI, if_pos ⟨rfl, rfl⟩]
          · rw [zI_sI, if_pos ⟨rfl, rfl⟩]
        · exact z2 m' (by omega) h2
      · obtain ⟨w1, w2⟩ := z3 z (fun m2 h3 h4 => hz m2 (by omega) h4)
        have := hz m (Nat.le_refl m) (by omega)
        rw [w1, w2]
        refine ⟨?_, ?_⟩
        · rw [zI_sI, if_neg (by omega), zI_sI, if_neg (by omega)]
        · rw [zI_sI, if_neg (by omega), zI_sI, if_neg (by omega)]
/-- only the island's own fields have changed -/
theorem CIl_row {h h' : Hp} {P P' : Ps} (C : CIl h r q t n P) (F : Fx (fun a _ => decide (a = q)) h h') (eN : qN P' = qN P) (eX : qX P' = qX P) (eY : qY P' = qY P) (eU : qU P' = qU P) (eV : qV P' = qV P) (eC : qC P' = qC P) (fs : zI h' q 4 = nI (qN P') ∧ zI h' q 5 = nI (qL P') ∧ zI h' q 6 = nI (qJ P') ∧ zI h' q 7 = nI (qI P') ∧ zI h' q 8 = nI (qA P') ∧ zI h' q 9 = nI (qB P') ∧ zI h' q 10 = nI (qD P') ∧ zI h' q 11 = nI (qp P') ∧ zI h' q 12 = nI (qz P')) : CIl h' r q t n P' := by
  obtain ⟨T, hq, c1, c2, c3, c4⟩ := C
  have z : ∀ a, a ≠ q → zI h' a = zI h a := fun a ha => Fx_row F (fun j => decide_eq_false ha)
  refine ⟨TC_Fx T F (fun j => decide_eq_false (by omega)) (decide_eq_false (by omega)), hq, fs, ?_, ?_, ?_⟩
  · rw [eN, eX, eY, z _ (by omega), z _ (by omega)]; exact c2
  · rw [eN, eU, eV, z _ (by omega), z _ (by omega)]; exact c3
  · rw [eC, z _ (by omega)]; exact c4
theorem or_sh {c k : Nat} (hk : k < 9) : nI c ||| (1 : Int32) <<< (nI k &&& 31) = nI (c ||| 2 ^ k) := by rw [sh1 k hk, fa_or]
theorem at14 {x : Nat} (H : Sh h r) (hx : x < 4) {v : Int32} (e : zI h 14 x = v) : q_ai h 14 9 (nI x) = some v := by rw [ai_nI (S_14 H) hx (by decide), e]
theorem tell_0 (C : CIl h r q t n P) (W : PW P) (hf : fullP P 0 = false) (e0 : zI h 14 0 = nI (a 0)) (e1 : zI h 14 1 = nI (a 1)) (hfu : 100 ≤ f) : ∃ h', f_X2_tell f 12 (nI 0) q h = some h' ∧ Fx (QTl q) h h' ∧ CIl h' r q t n (tel P 0 a) := by
  obtain ⟨T, hq, ⟨f4, f5, f6, f7, f8, f9, f10, f11, f12⟩, c2, c3, c4⟩ := id C
  have H := T.1
  have n9 := W.1.1
  have nn : qN P ≠ 9 := by unfold fullP at hf; simpa using hf
  have N9 : qN P < 9 := by omega
  have g0 : q_ai h 14 9 0 = some (nI (a 0)) := at14 (x := 0) H (by decide) e0
  have g1 : q_ai h 14 9 1 = some (nI (a 1)) := at14 (x := 1) H (by decide) e1
  have H1 : Sh (sI h (q + 1) (qN P) (nI (a 0))) r := H
  have H2 : Sh (sI (sI h (q + 1) (qN P) (nI (a 0))) (q + 2) (qN P) (nI (a 1))) r := H
  have zq : ∀ z : Nat, z ≤ 12 → zI (sI (sI h (q + 1) (qN P) (nI (a 0))) (q + 2) (qN P) (nI (a 1))) q z = zI h q z := fun z _ => by rw [zI_sI, if_neg (by omega), zI_sI, if_neg (by omega)]
  obtain ⟨h', e, F', z1, z2, z3⟩ := am_go (f := f) (x := nI (a 0)) (y := nI (a 1)) hq N9 f 0 _ H2 (by omega) (by omega) ((zq 4 (by omega)).trans f4)
  have F0 : Fx (QTl q) h (sI (sI h (q + 1) (qN P) (nI (a 0))) (q + 2) (qN P) (nI (a 1))) := Fx_then (Fx_sI (QTl_t (by omega))) (QTl_t (by omega))
  have F1 : Fx (QTl q) h h' := Fx_tr F0 (Fx_mono F' (fun a j w => by
    unfold QTl at w
    unfold QAm
    simp only [Bool.or_eq_false_iff, Bool.and_eq_false_iff, decide_eq_false_iff_not] at w ⊢
    omega))
  refine ⟨h', ?_, F1, TC_Fx T F1 (fun j => QTl_f (by omega)) (QTl_f (by omega)), hq, ?_, ?_, ?_, ?_⟩
  · unfold f_X2_tell f_X0_addMark b_X2_tell_141
    rw [sw_k (by omega)]
    simp only [List.getElem?_cons_zero, Option.getD_some, gr_k (S_12 H) (R_12_1 H), Option.bind_some, g0, g1, on_k (Ip_S H hq), gi_k (Ip_S H hq), f4]
    rw [if_pos (show nI (qN P) < (9 : Int32) from (nI_ltI (b := 9) (by omega) (by omega)).mpr N9), gr_k (Ip_S H hq) (Ip_R0 H hq), Option.bind_some, as_nI (Ip_S1 H hq) N9 (by decide), Option.bind_some, gr_k (Ip_S H1 hq) (Ip_R1 H1 hq), Option.bind_some, gi_k (Ip_S H1 hq), Option.bind_some, zI_row (by omega), f4, as_nI (Ip_S2 H1 hq) N9 (by decide), Option.bind_some]
    have e' : l_X0_addMark_32 f f q (nI (a 0)) (nI (a 1)) 0 (sI (sI h (q + 1) (qN P) (nI (a 0))) (q + 2) (qN P) (nI (a 1))) = some h' := e
    rw [e', Option.bind_some]
  · have fz : ∀ z, z ≠ 4 → z ≤ 12 → zI h' q z = zI h q z := fun z hz hz2 => (F'.1 q z (by unfold QAm; simp [hz])).trans (zq z hz2)
    refine ⟨z1, ?_, ?_, ?_, ?_, ?_, ?_, ?_, ?_⟩
    · exact (fz 5 (by omega) (by omega)).trans f5
    · exact (fz 6 (by omega) (by omega)).trans f6
    · exact (fz 7 (by omega) (by omega)).trans f7
    · exact (fz 8 (by omega) (by omega)).trans f8
    · exact (fz 9 (by omega) (by omega)).trans f9
    · exact (fz 10 (by omega) (by omega)).trans f10
    · exact (fz 11 (by omega) (by omega)).trans f11
    · exact (fz 12 (by omega) (by omega)).trans f12
  · intro k hk
    have hk' : k < qN P + 1 := hk
    show zI h' (q + 1) k = nI (up1 (qX P) (qN P) (a 0) k) ∧ zI h' (q + 2) k = nI (up1 (qY P) (qN P) (a 1) k)
    rw [F'.1 (q + 1) k (by unfold QAm; simp), F'.1 (q + 2) k (by unfold QAm; simp)]
    unfold up1
    by_cases ek : k = qN P
    · rw [if_pos ek, if_pos ek, ek]
      exact ⟨by rw [zI_sI, if_neg (by omega), zI_sI, if_pos ⟨rfl, rfl⟩], by rw [zI_sI, if_pos ⟨rfl, rfl⟩]⟩
    · rw [if_neg ek, if_neg ek]
      exact ⟨by rw [zI_sI, if_neg (by omega), zI_sI, if_neg (by omega)]; exact (c2 k (by omega)).1, by rw [zI_sI, if_neg (by omega), zI_sI, if_neg (by omega)]; exact (c2 k (by omega)).2⟩
  · intro m hm k hk
    have hk' : k < qN P + 1 := hk
    show zI h' (q + 3) (9 * m + k) = upC (qU P) (qN P) (nI (a 0)) m k ∧ zI h' (q + 4) (9 * m + k) = upC (qV P) (qN P) (nI (a 1)) m k
    unfold upC
    by_cases ek : k = qN P
    · rw [if_pos ek, if_pos ek, ek]; exact z2 m (by omega) hm
    · rw [if_neg ek, if_neg ek]
      obtain ⟨w1, w2⟩ := z3 (9 * m + k) (fun m' h1 h2 => by omega)
      rw [w1, w2, zI_sI, if_neg (by omega), zI_sI, if_neg (by omega), zI_sI, if_neg (by omega), zI_sI, if_neg (by omega)]
      exact c3 m hm k (by omega)
  · intro m hm
    rw [F1.1 15 m |> fun w => (F'.1 15 m (by unfold QAm; simp only [Bool.or_eq_false_iff, Bool.and_eq_false_iff, decide_eq_false_iff_not]; omega)), zI_sI, if_neg (by omega), zI_sI, if_neg (by omega)]
    exact c4 m hm
theorem Fq_QTl {h h' : Hp} (F : Fx (fun a _ => decide (a = q)) h h') : Fx (QTl q) h h' := Fx_mono F (fun a j w => by
  unfold QTl at w
  simp only [Bool.or_eq_false_iff, Bool.and_eq_false_iff, decide_eq_false_iff_not] at w ⊢
  omega)
theorem tell_1 (C : CIl h r q t n P) (e0 : zI h 14 0 = nI (a 0)) (e1 : zI h 14 1 = nI (a 1)) (e2 : zI h 14 2 = nI (a 2)) : ∃ h', f_X2_tell f 12 (nI 1) q h = some h' ∧ Fx (QTl q) h h' ∧ CIl h' r q t n (tel P 1 a) := by
  obtain ⟨T, hq, ⟨f4, f5, f6, f7, f8, f9, f10, f11, f12⟩, c2, c3, c4⟩ := id C
  have H := T.1
  have H1 : Sh (sI h q 8 (nI (a 0))) r := H
  have H2 : Sh (sI (sI h q 8 (nI (a 0))) q 9 (nI (a 1))) r := H
  have g0 : q_ai h 14 9 0 = some (nI (a 0)) := at14 (x := 0) H (by decide) e0
  have g1 : q_ai (sI h q 8 (nI (a 0))) 14 9 1 = some (nI (a 1)) := at14 (x := 1) H1 (by decide) (by rw [zI_sI, if_neg (by omega)]; exact e1)
  have g2 : q_ai (sI (sI h q 8 (nI (a 0))) q 9 (nI (a 1))) 14 9 2 = some (nI (a 2)) := at14 (x := 2) H2 (by decide) (by rw [zI_sI, if_neg (by omega), zI_sI, if_neg (by omega)]; exact e2)
  have F : Fx (fun a _ => decide (a = q)) h (sI (sI (sI h q 8 (nI (a 0))) q 9 (nI (a 1))) q 10 (nI (a 2))) := Fx_then (Fx_then (Fx_sI (by simp)) (by simp)) (by simp)
  refine ⟨_, ?_, Fq_QTl F, CIl_row C F rfl rfl rfl rfl rfl rfl ?_⟩
  · unfold f_X2_tell b_X2_tell_141
    rw [sw_k (by omega)]
    simp only [List.getElem?_cons_succ, List.getElem?_cons_zero, Option.getD_some]
    rw [gr_k (S_12 H) (R_12_1 H), Option.bind_some, g0, Option.bind_some, pi_k (Ip_S H hq), Option.bind_some, gr_k (S_12 H1) (R_12_1 H1), Option.bind_some, g1, Option.bind_some, pi_k (Ip_S H1 hq), Option.bind_some, gr_k (S_12 H2) (R_12_1 H2), Option.bind_some, g2, Option.bind_some, pi_k (Ip_S H2 hq), Option.bind_some]
  · refine ⟨?_, ?_, ?_, ?_, ?_, ?_, ?_, ?_, ?_⟩
    all_goals simp only [zI_sI, true_and]
    all_goals first | exact f4 | exact f5 | exact f6 | exact f7 | exact f11 | exact f12 | rfl
theorem tell_s {k z : Nat} (C : CIl h r q t n P) (e0 : zI h 14 0 = nI (a 0)) (hk : (k = 2 ∧ z = 7) ∨ (k = 5 ∧ z = 11) ∨ (k = 6 ∧ z = 12)) : ∃ h', f_X2_tell f 12 (nI k) q h = some h' ∧ Fx (QTl q) h h' ∧ CIl h' r q t n (tel P k a) := by
  obtain ⟨T, hq, ⟨f4, f5, f6, f7, f8, f9, f10, f11, f12⟩, c2, c3, c4⟩ := id C
  have H := T.1
  have g0 : q_ai h 14 9 0 = some (nI (a 0)) := at14 (x := 0) H (by decide) e0
  have F : Fx (fun a _ => decide (a = q)) h (sI h q z (nI (a 0))) := Fx_sI (by simp)
  have e : f_X2_tell f 12 (nI k) q h = some (sI h q z (nI (a 0))) := by
    unfold f_X2_tell b_X2_tell_141
    rw [sw_k (by omega)]
    rcases hk with ⟨rfl, rfl⟩ | ⟨rfl, rfl⟩ | ⟨rfl, rfl⟩ <;>
    · simp only [List.getElem?_cons_succ, List.getElem?_cons_zero, Option.getD_some]
      rw [gr_k (S_12 H) (R_12_1 H), Option.bind_some, g0, Option.bind_some, pi_k (Ip_S H hq), Option.bind_some]
  refine ⟨_, e, Fq_QTl F, ?_⟩
  rcases hk with ⟨rfl, rfl⟩ | ⟨rfl, rfl⟩ | ⟨rfl, rfl⟩
  · refine CIl_row C F rfl rfl rfl rfl rfl rfl ?_
    refine ⟨?_, ?_, ?_, ?_, ?_, ?_, ?_, ?_, ?_⟩
    all_goals simp only [zI_sI, true_and]
    all_goals first | exact f4 | exact f5 | exact f6 | exact f8 | exact f9 | exact f10 | exact f11 | exact f12 | rfl
  · refine CIl_row C F rfl rfl rfl rfl rfl rfl ?_
    refine ⟨?_, ?_, ?_, ?_, ?_, ?_, ?_, ?_, ?_⟩
    all_goals simp only [zI_sI, true_and]
    all_goals first | exact f4 | exact f5 | exact f6 | exact f7 | exact f8 | exact f9 | exact f10 | exact f12 | rfl
  · refine CIl_row C F rfl rfl rfl rfl rfl rfl ?_
    refine ⟨?_, ?_, ?_, ?_, ?_, ?_, ?_, ?_, ?_⟩
    all_goals simp only [zI_sI, true_and]
    all_goals first | exact f4 | exact f5 | exact f6 | exact f7 | exact f8 | exact f9 | exact f10 | exact f11 | rfl
/-- a map has changed at a mark -/
theorem CIl_map {h h' : Hp} {P P' : Ps} {m k : Nat} {x y : Int32} (C : CIl h r q t n P) (F : Fx (QTl q) h h') (hm : m < 6) (hk : k < 9) (n9 : qN P ≤ 9) (eN : qN P' = qN P) (eX : qX P' = qX P) (eY : qY P' = qY P) (eU : qU P' = up2 (qU P) m k x) (eV : qV P' = up2 (qV P) m k y) (eC : qC P' = up1 (qC P) m (qC P m ||| 2 ^ k)) (z1 : zI h' (q + 1) = zI h (q + 1)) (z2 : zI h' (q + 2) = zI h (q + 2)) (z3 : ∀ j, zI h' (q + 3) j = if j = 9 * m + k then x else zI h (q + 3) j) (z4 : ∀ j, zI h' (q + 4) j = if j = 9 * m + k then y else zI h (q + 4) j) (z5 : ∀ j, zI h' 15 j = if j = m then nI (qC P m ||| 2 ^ k) else zI h 15 j) (fs : zI h' q 4 = nI (qN P') ∧ zI h' q 5 = nI (qL P') ∧ zI h' q 6 = nI (qJ P') ∧ zI h' q 7 = nI (qI P') ∧ zI h' q 8 = nI (qA P') ∧ zI h' q 9 = nI (qB P') ∧ zI h' q 10 = nI (qD P') ∧ zI h' q 11 = nI (qp P') ∧ zI h' q 12 = nI (qz P')) : CIl h' r q t n P' := by
  obtain ⟨T, hq, c1, c2, c3, c4⟩ := C
  refine ⟨TC_Fx T F (fun j => QTl_f (by omega)) (QTl_f (by omega)), hq, fs, ?_, ?_, ?_⟩
  · rw [eN, eX, eY, z1, z2]; exact c2
  · rw [eN, eU, eV]
    intro m' hm' k' hk'
    rw [z3, z4]
    unfold up2
    by_cases e : m' = m ∧ k' = k
    · rw [if_pos e, if_pos e, if_pos (by omega), if_pos (by omega)]; exact ⟨rfl, rfl⟩
    · rw [if_neg e, if_neg e, if_neg (by omega), if_neg (by omega)]; exact c3 m' hm' k' hk'
  · rw [eC]
    intro m' hm'
    rw [z5]
    unfold up1
    by_cases e : m' = m
    · rw [if_pos e, if_pos e]
    · rw [if_neg e, if_neg e]; exact c4 m' hm'
theorem tell_3 (C : CIl h r q t n P) (W : PW P) (e0 : zI h 14 0 = nI (a 0)) (e1 : zI h 14 1 = nI (a 1)) (e2 : zI h 14 2 = nI (a 2)) (e3 : zI h 14 3 = nI (a 3)) (a6 : a 0 < 6) (a1 : a 1 < qN P) : ∃ h', f_X2_tell f 12 (nI 3) q h = some h' ∧ Fx (QTl q) h h' ∧ CIl h' r q t n (tel P 3 a) := by
  obtain ⟨T, hq, ⟨f4, f5, f6, f7, f8, f9, f10, f11, f12⟩, c2, c3, c4⟩ := id C
  have H := T.1
  have n9 := W.1.1
  have g0 : q_ai h 14 9 0 = some (nI (a 0)) := at14 (x := 0) H (by decide) e0
  have g1 : q_ai h 14 9 1 = some (nI (a 1)) := at14 (x := 1) H (by decide) e1
  generalize hg : sI h 15 (a 0) (nI (qC P (a 0) ||| 2 ^ a 1)) = g
  have Hg : Sh g r := by rw [← hg]; exact H
  have zg : ∀ b, b ≠ 15 → zI g b = zI h b := fun b hb => by rw [← hg, zI_row hb]
  have g2 : q_ai g 14 9 2 = some (nI (a 2)) := at14 (x := 2) Hg (by decide) (by rw [zg 14 (by omega)]; exact e2)
  have g3 : q_ai g 14 9 3 = some (nI (a 3)) := at14 (x := 3) Hg (by decide) (by rw [zg 14 (by omega)]; exact e3)
  generalize hk : sI (sI g (q + 3) (9 * a 0 + a 1) (nI (a 2))) (q + 4) (9 * a 0 + a 1) (nI (a 3)) = w
  have Hw : Sh w r := by rw [← hk]; exact Hg
  have zw : ∀ b, b ≠ q + 3 → b ≠ q + 4 → zI w b = zI g b := fun b h1 h2 => by rw [← hk, zI_row h2, zI_row h1]
  have zq : ∀ j, zI w q j = zI h q j := fun j => by rw [zw q (by omega) (by omega), zg q (by omega)]
  have H1 : Sh (sI w q 5 (nI (qL P ||| 2 ^ a 0))) r := Hw
  have F : Fx (QTl q) h (sI (sI w q 5 (nI (qL P ||| 2 ^ a 0))) q 6 (nI (qJ P + 1))) := by
    rw [← hk, ← hg]
    exact Fx_then (Fx_then (Fx_then (Fx_then (Fx_sI (QTl_t (by omega))) (QTl_t (by omega))) (QTl_t (by omega))) (QTl_t (by omega))) (QTl_t (by omega))
  refine ⟨_, ?_, F, CIl_map C F a6 (show a 1 < 9 by omega) n9 rfl rfl rfl rfl rfl rfl ?_ ?_ ?_ ?_ ?_ ?_⟩
  · unfold f_X2_tell
    rw [sw_k (by omega)]
    simp only [List.getElem?_cons_succ, List.getElem?_cons_zero, Option.getD_some]
    unfold b_X2_tell_135 b_X2_tell_141 f_X2_changeMap b_X2_changeMap_96 f_X0_addLie
    rw [on_k (S_12 H), gr_k (S_12 H) (R_12_1 H), Option.bind_some, g0, Option.bind_some, Option.bind_some, g1, Option.bind_some, gr_k (S_12 H) (R_12_2 H), Option.bind_some, ai_nI (S_15 H) a6 (by decide), Option.bind_some, c4 _ a6, or_sh (by omega), as_nI (S_15 H) a6 (by decide), Option.bind_some, hg, if_neg (fun q => q rfl), gr_k (S_12 Hg) (R_12_1 Hg), Option.bind_some, g2, Option.bind_some, Option.bind_some, g3, Option.bind_some, on_k (Ip_S Hg hq), on_k (Ip_S Hg hq), e_put Hg hq a6 (by omega), Option.bind_some, hk, gi_k (Ip_S Hw hq), Option.bind_some, zq 5, f5, or_sh (by omega), pi_k (Ip_S Hw hq), Option.bind_some, gi_k (Ip_S H1 hq), Option.bind_some, zI_sI, if_neg (by omega), zq 6, f6, nI_p1, pi_k (Ip_S H1 hq), Option.bind_some, Option.bind_some, Option.bind_some]
  · rw [zI_row (by omega), zI_row (by omega), zw _ (by omega) (by omega), zg _ (by omega)]
  · rw [zI_row (by omega), zI_row (by omega), zw _ (by omega) (by omega), zg _ (by omega)]
  · intro j
    rw [zI_row (by omega), zI_row (by omega), ← hk, zI_row (by omega), zI_sI]
    by_cases e : j = 9 * a 0 + a 1
    · rw [if_pos ⟨rfl, e⟩, if_pos e]
    · rw [if_neg (fun w9 => e w9.2), if_neg e, zg _ (by omega)]
  · intro j
    rw [zI_row (by omega), zI_row (by omega), ← hk, zI_sI]
    by_cases e : j = 9 * a 0 + a 1
    · rw [if_pos ⟨rfl, e⟩, if_pos e]
    · rw [if_neg (fun w9 => e w9.2), if_neg e, zI_row (by omega), zg _ (by omega)]
  · intro j
    rw [zI_row (by omega), zI_row (by omega), zw _ (by omega) (by omega), ← hg, zI_sI]
    by_cases e : j = a 0
    · rw [if_pos ⟨rfl, e⟩, if_pos e]
    · rw [if_neg (fun w9 => e w9.2), if_neg e]
  · refine ⟨?_, ?_, ?_, ?_, ?_, ?_, ?_, ?_, ?_⟩
    all_goals simp only [zI_sI, true_and, zq]
    all_goals first | exact f4 | exact f7 | exact f8 | exact f9 | exact f10 | exact f11 | exact f12 | rfl
theorem tell_4 (C : CIl h r q t n P) (W : PW P) (e0 : zI h 14 0 = nI (a 0)) (e1 : zI h 14 1 = nI (a 1)) (e2 : zI h 14 2 = nI (a 2)) (e3 : zI h 14 3 = nI (a 3)) (a6 : a 0 < 6) (a1 : a 1 < qN P) : ∃ h', f_X2_tell f 12 (nI 4) q h = some h' ∧ Fx (QTl q) h h' ∧ CIl h' r q t n (tel P 4 a) := by
  obtain ⟨T, hq, ⟨f4, f5, f6, f7, f8, f9, f10, f11, f12⟩, c2, c3, c4⟩ := id C
  have H := T.1
  have n9 := W.1.1
  have g0 : q_ai h 14 9 0 = some (nI (a 0)) := at14 (x := 0) H (by decide) e0
  have g1 : q_ai h 14 9 1 = some (nI (a 1)) := at14 (x := 1) H (by decide) e1
  generalize hg : sI h 15 (a 0) (nI (qC P (a 0) ||| 2 ^ a 1)) = g
  have Hg : Sh g r := by rw [← hg]; exact H
  have zg : ∀ b, b ≠ 15 → zI g b = zI h b := fun b hb => by rw [← hg, zI_row hb]
  have g2 : q_ai g 14 9 2 = some (nI (a 2)) := at14 (x := 2) Hg (by decide) (by rw [zg 14 (by omega)]; exact e2)
  have g3 : q_ai g 14 9 3 = some (nI (a 3)) := at14 (x := 3) Hg (by decide) (by rw [zg 14 (by omega)]; exact e3)
  have x1 : q_ai g (q + 1) 9 (nI (a 1)) = some (nI (qX P (a 1))) := by rw [ai_nI (Ip_S1 Hg hq) (by omega) (by decide), zg _ (by omega), (c2 _ a1).1]
  have x2 : q_ai g (q + 2) 9 (nI (a 1)) = some (nI (qY P (a 1))) := by rw [ai_nI (Ip_S2 Hg hq) (by omega) (by decide), zg _ (by omega), (c2 _ a1).2]
  have F : Fx (QTl q) h (sI (sI g (q + 3) (9 * a 0 + a 1) (nI (qX P (a 1)) + nI (a 2) - 9)) (q + 4) (9 * a 0 + a 1) (nI (qY P (a 1)) + nI (a 3) - 9)) := by
    rw [← hg]
    exact Fx_then (Fx_then (Fx_sI (QTl_t (by omega))) (QTl_t (by omega))) (QTl_t (by omega))
  refine ⟨_, ?_, F, CIl_map C F a6 (show a 1 < 9 by omega) n9 rfl rfl rfl rfl rfl rfl ?_ ?_ ?_ ?_ ?_ ?_⟩
  · unfold f_X2_tell
    rw [sw_k (by omega)]
    simp only [List.getElem?_cons_succ, List.getElem?_cons_zero, Option.getD_some]
    unfold b_X2_tell_135 b_X2_tell_141 f_X2_changeMap b_X2_changeMap_96
    rw [on_k (S_12 H), gr_k (S_12 H) (R_12_1 H), Option.bind_some, g0, Option.bind_some, Option.bind_some, g1, Option.bind_some, gr_k (S_12 H) (R_12_2 H), Option.bind_some, ai_nI (S_15 H) a6 (by decide), Option.bind_some, c4 _ a6, or_sh (by omega), as_nI (S_15 H) a6 (by decide), Option.bind_some, hg, if_pos (by decide), gr_k (Ip_S Hg hq) (Ip_R0 Hg hq), Option.bind_some, x1, Option.bind_some, gr_k (S_12 Hg) (R_12_1 Hg), Option.bind_some, g2, Option.bind_some, gr_k (Ip_S Hg hq) (Ip_R1 Hg hq), Option.bind_some, x2, Option.bind_some, Option.bind_some, g3, Option.bind_some, on_k (Ip_S Hg hq), e_put Hg hq a6 (by omega), Option.bind_some, Option.bind_some]
  · rw [zI_row (by omega), zI_row (by omega), zg _ (by omega)]
  · rw [zI_row (by omega), zI_row (by omega), zg _ (by omega)]
  · intro j
    rw [zI_row (by omega), zI_sI]
    by_cases e : j = 9 * a 0 + a 1
    · rw [if_pos ⟨rfl, e⟩, if_pos e]
    · rw [if_neg (fun w9 => e w9.2), if_neg e, zg _ (by omega)]
  · intro j
    rw [zI_sI]
    by_cases e : j = 9 * a 0 + a 1
    · rw [if_pos ⟨rfl, e⟩, if_pos e]
    · rw [if_neg (fun w9 => e w9.2), if_neg e, zI_row (by omega), zg _ (by omega)]
  · intro j
    rw [zI_row (by omega), zI_row (by omega), ← hg, zI_sI]
    by_cases e : j = a 0
    · rw [if_pos ⟨rfl, e⟩, if_pos e]
    · rw [if_neg (fun w9 => e w9.2), if_neg e]
  · have zq : ∀ j, zI (sI (sI g (q + 3) (9 * a 0 + a 1) (nI (qX P (a 1)) + nI (a 2) - 9)) (q + 4) (9 * a 0 + a 1) (nI (qY P (a 1)) + nI (a 3) - 9)) q j = zI h q j := fun j => by rw [zI_row (by omega), zI_row (by omega), zg q (by omega)]
    simp only [zq]
    exact ⟨f4, f5, f6, f7, f8, f9, f10, f11, f12⟩
theorem e_tell {k : Nat} (C : CIl h r q t n P) (W : PW P) (hk : k < 7) (hf : fullP P k = false) (K : CK P k (cnt k) a) (ea : ∀ x, x < cnt k → zI h 14 x = nI (a x)) (hfu : 100 ≤ f) : ∃ h', f_X2_tell f 12 (nI k) q h = some h' ∧ Fx (QTl q) h h' ∧ CIl h' r q t n (tel P k a) := by
  rcases (show k = 0 ∨ k = 1 ∨ k = 2 ∨ k = 3 ∨ k = 4 ∨ k = 5 ∨ k = 6 by omega) with rfl | rfl | rfl | rfl | rfl | rfl | rfl
  · exact tell_0 C W hf (ea 0 (by decide)) (ea 1 (by decide)) hfu
  · exact tell_1 C (ea 0 (by decide)) (ea 1 (by decide)) (ea 2 (by decide))
  · exact tell_s C (ea 0 (by decide)) (Or.inl ⟨rfl, rfl⟩)
  · exact tell_3 C W (ea 0 (by decide)) (ea 1 (by decide)) (ea 2 (by decide)) (ea 3 (by decide)) (if2 (show (if a 0 < 6 then _ else 2) = 0 from K 0 (by decide))) (if2 (show (if a 1 < qN P then _ else 2) = 0 from K 1 (by decide)))
  · exact tell_4 C W (ea 0 (by decide)) (ea 1 (by decide)) (ea 2 (by decide)) (ea 3 (by decide)) (if2 (show (if a 0 < 6 then _ else 2) = 0 from K 0 (by decide))) (if2 (show (if a 1 < qN P then _ else 2) = 0 from K 1 (by decide)))
  · exact tell_s C (ea 0 (by decide)) (Or.inr (Or.inl ⟨rfl, rfl⟩))
  · exact tell_s C (ea 0 (by decide)) (Or.inr (Or.inr ⟨rfl, rfl⟩))
end TL
