/-! ===== the reference takes a clause's numbers ===== -/
def MJl (h : Hp) (r : Rs) (t : Nat → Nat) (n : Nat) (P : Ps) : Prop := TM h r t n ∧
  (zI h 58 26 = nI (qN P) ∧ zI h 58 32 = nI (qJ P) ∧ zI h 58 33 = nI (qL P) ∧ zI h 58 34 = nI (qE P) ∧ zI h 58 36 = nI (qI P) ∧ zI h 58 37 = nI (qp P) ∧ zI h 58 38 = nI (qz P)) ∧
  (∀ k, k < qN P → zI h 69 k = nI (qX P k) ∧ zI h 70 k = nI (qY P k)) ∧
  (∀ m, m < 6 → ∀ k, k < qN P → ((qC P m).testBit k = true → zI h 73 (9 * m + k) = 1 ∧ zI h 71 (9 * m + k) = qU P m k ∧ zI h 72 (9 * m + k) = qV P m k) ∧ ((qC P m).testBit k = false → zI h 73 (9 * m + k) = 0))
def MGl (h : Hp) (P : Ps) : Prop := zI h 74 0 = nI (qA P) ∧ zI h 74 1 = nI (qB P) ∧ zI h 74 2 = nI (qD P)
theorem MJl_Fx {Q : Nat → Nat → Bool} {h h' : Hp} {r : Rs} {t : Nat → Nat} {n : Nat} {P : Ps} (M : MJl h r t n P) (F : Fx Q h h') (hQ : ∀ a j, (68 ≤ a ∧ a ≤ 73) ∨ (a = 58 ∧ (j = 19 ∨ j = 26 ∨ j = 32 ∨ j = 33 ∨ j = 34 ∨ j = 36 ∨ j = 37 ∨ j = 38)) → Q a j = false) : MJl h' r t n P := by
  obtain ⟨T, c1, c2, c3⟩ := M
  have z : ∀ a j, (68 ≤ a ∧ a ≤ 73) ∨ (a = 58 ∧ (j = 19 ∨ j = 26 ∨ j = 32 ∨ j = 33 ∨ j = 34 ∨ j = 36 ∨ j = 37 ∨ j = 38)) → zI h' a j = zI h a j := fun a j w => F.1 a j (hQ a j w)
  refine ⟨TM_Fx T F (fun j => hQ 68 j (by omega)) (hQ 58 19 (by omega)), ?_, ?_, ?_⟩
  · rw [z 58 26 (by omega), z 58 32 (by omega), z 58 33 (by omega), z 58 34 (by omega), z 58 36 (by omega), z 58 37 (by omega), z 58 38 (by omega)]; exact c1
  · intro k hk; rw [z 69 k (by omega), z 70 k (by omega)]; exact c2 k hk
  · intro m hm k hk; rw [z 73 _ (by omega), z 71 _ (by omega), z 72 _ (by omega)]; exact c3 m hm k hk
theorem MJl_tn {h h' : Hp} {r : Rs} {t : Nat → Nat} {n : Nat} {P : Ps} (M : MJl h r t n P) (F : Fx QTn h h') : MJl h' r t n P := MJl_Fx M F (fun a j w => by
  unfold QTn
  simp only [Bool.and_eq_false_iff, Bool.or_eq_false_iff, decide_eq_false_iff_not]
  omega)
theorem okN_c {m : Nat} (hm : m ≤ 9999) : OkN 0 (nI m) (fun v => decide (v ≤ m)) := by
  refine ⟨fun v hv => ?_, decide_eq_false (by omega)⟩
  have h1 : (0 : Int32) ≤ nI v := Int32.not_lt.mp (nI_ge0 (by omega))
  have h2 : nI v ≤ nI m ↔ v ≤ m := nI_leI (by omega) (by omega)
  simp only [h1, h2, true_and]
theorem okN_m {N : Nat} (hN : N ≤ 9) : OkN 0 (nI N - 1) (fun v => decide (v < N)) := by
  refine ⟨fun v hv => ?_, decide_eq_false (by omega)⟩
  have h1 : (0 : Int32) ≤ nI v := Int32.not_lt.mp (nI_ge0 (by omega))
  have h2 : nI v ≤ nI N - 1 ↔ v < N := by rw [fa_le, nI_sub1 (by omega), nI_toInt (by omega)]; omega
  simp only [h1, h2, true_and]
theorem okN_e {w : Nat} (hw : w ≤ 9) : OkN ((9 : Int32) - nI w) ((9 : Int32) + nI w) (fun v => decide (dst v 9 ≤ w)) := by
  refine ⟨fun v hv => ?_, decide_eq_false (by unfold dst; omega)⟩
  have e1 : (9 : Int32) - nI w = nI (9 - w) := pk_sub (a := 9) hw
  have e2 : (9 : Int32) + nI w = nI (9 + w) := nI_add 9 w
  rw [e1, e2]
  have h1 : nI (9 - w) ≤ nI v ↔ 9 - w ≤ v := nI_leI (by omega) (by omega)
  have h2 : nI v ≤ nI (9 + w) ↔ v ≤ 9 + w := nI_leI (by omega) (by omega)
  have h3 : dst v 9 ≤ w ↔ (9 - w ≤ v ∧ v ≤ 9 + w) := by unfold dst; omega
  simp only [h1, h2, h3]
section NM
variable {f n : Nat} {r : Rs} {t : Nat → Nat} {P : Ps}
theorem rdl_app {k : Nat} (c j : Nat) (a : Nat → Nat) (i : Nat) : rdl t n P k (c + 1) j a i = if (rdl t n P k 1 j a i).1 = 0 then rdl t n P k c (j + 1) (rdl t n P k 1 j a i).2.2.1 (rdl t n P k 1 j a i).2.2.2 else rdl t n P k 1 j a i := by
  have e1 : rdl t n P k 1 j a i = (if dE t n (sk t n i) = sk t n i then (1, sk t n i, a, i) else if chk P k j a (nV t (sk t n i) (dE t n (sk t n i))) = 0 then (0, 0, up1 a j (nV t (sk t n i) (dE t n (sk t n i))), dE t n (sk t n i)) else (chk P k j a (nV t (sk t n i) (dE t n (sk t n i))), sk t n i, a, i)) := rfl
  have e2 : rdl t n P k (c + 1) j a i = (if dE t n (sk t n i) = sk t n i then (1, sk t n i, a, i) else if chk P k j a (nV t (sk t n i) (dE t n (sk t n i))) = 0 then rdl t n P k c (j + 1) (up1 a j (nV t (sk t n i) (dE t n (sk t n i)))) (dE t n (sk t n i)) else (chk P k j a (nV t (sk t n i) (dE t n (sk t n i))), sk t n i, a, i)) := rfl
  rw [e1, e2]
  by_cases c1 : dE t n (sk t n i) = sk t n i
  · rw [if_pos c1, if_pos c1]; rfl
  · rw [if_neg c1, if_neg c1]
    by_cases c2 : chk P k j a (nV t (sk t n i) (dE t n (sk t n i))) = 0
    · rw [if_pos c2, if_pos c2]; rfl
    · rw [if_neg c2, if_neg c2, if_neg c2]
theorem rdl_two {k : Nat} (j : Nat) (a : Nat → Nat) (i : Nat) : rdl t n P k 4 j a i = if (rdl t n P k 2 j a i).1 = 0 then rdl t n P k 2 (j + 2) (rdl t n P k 2 j a i).2.2.1 (rdl t n P k 2 j a i).2.2.2 else rdl t n P k 2 j a i := by
  rw [rdl_app 3, rdl_app 2 (j + 1), rdl_app 1 j]
  by_cases c1 : (rdl t n P k 1 j a i).1 = 0
  · rw [if_pos c1, if_pos c1]
  · rw [if_neg c1, if_neg c1, if_neg c1]
theorem rdl_1 {k j : Nat} {a : Nat → Nat} {ok bad : Nat → Bool} (ck : ∀ v, chk P k j a v = if ok v = true then (if bad v = true then 4 else 0) else 2) (i : Nat) : rdl t n P k 1 j a i = if cdN ok t n (sk t n i) = 0 then (if bad (nV t (sk t n i) (dE t n (sk t n i))) = true then (4, sk t n i, a, i) else (0, 0, up1 a j (nV t (sk t n i) (dE t n (sk t n i))), dE t n (sk t n i))) else (cdN ok t n (sk t n i), sk t n i, a, i) := by
  unfold rdl cdN
  rw [ck]
  by_cases c1 : dE t n (sk t n i) = sk t n i
  · rw [if_pos c1, if_pos c1]; rfl
  · rw [if_neg c1, if_neg c1]
    cases ok (nV t (sk t n i) (dE t n (sk t n i))) with
    | true => cases bad (nV t (sk t n i) (dE t n (sk t n i))) <;> rfl
    | false => rfl
/-- a number that is only held within bounds -/
theorem num_s {h : Hp} {k j i : Nat} {a : Nat → Nat} {lo hi : Int32} {ok : Nat → Bool} (O : OkN lo hi ok) (ck : ∀ v, chk P k j a v = if ok v = true then 0 else 2) (T : TM h r t n) (hi' : i ≤ n) (hf : 500 ≤ f) (e5 : zI h 58 21 = nI i) : ∃ h', f_X6_takeNumber f 58 lo hi h = some (nI (rdl t n P k 1 j a i).1, h') ∧ Fx QTn h h' ∧ ((rdl t n P k 1 j a i).1 = 0 → zI h' 58 20 = zI h 58 20 ∧ zI h' 58 21 = nI (rdl t n P k 1 j a i).2.2.2 ∧ zI h' 58 24 = nI ((rdl t n P k 1 j a i).2.2.1 j) ∧ (∀ x, x ≠ j → (rdl t n P k 1 j a i).2.2.1 x = a x) ∧ (rdl t n P k 1 j a i).2.2.2 ≤ n ∧ chk P k j a ((rdl t n P k 1 j a i).2.2.1 j) = 0) ∧ ((rdl t n P k 1 j a i).1 ≠ 0 → zI h' 58 20 = nI (rdl t n P k 1 j a i).2.1) := by
  obtain ⟨h', e, F, w1, w2⟩ := e_takeNumber (f := f) O T hi' hf e5
  have hs : sk t n i ≤ n := en_le hi'
  have er := rdl_1 (t := t) (n := n) (bad := fun _ => false) (fun v => by rw [ck v]; rfl) i (P := P) (k := k) (j := j) (a := a)
  rw [er]
  by_cases c : cdN ok t n (sk t n i) = 0
  · rw [if_pos c, if_neg (by decide)]
    obtain ⟨v1, v2, v3, v4⟩ := w1 c
    refine ⟨h', by rw [e, c], F, fun _ => ⟨v1, v2, ?_, fun x hx => ?_, en_le hs, ?_⟩, fun w => absurd rfl w⟩
    · exact v3.trans (congrArg nI (show _ = up1 a j (nV t (sk t n i) (dE t n (sk t n i))) j by unfold up1; rw [if_pos rfl]))
    · show up1 a j (nV t (sk t n i) (dE t n (sk t n i))) x = a x
      unfold up1; rw [if_neg hx]
    · have : up1 a j (nV t (sk t n i) (dE t n (sk t n i))) j = nV t (sk t n i) (dE t n (sk t n i)) := by unfold up1; rw [if_pos rfl]
      show chk P k j a (up1 a j (nV t (sk t n i) (dE t n (sk t n i))) j) = 0
      rw [this, ck]
      unfold cdN at c
      by_cases c9 : dE t n (sk t n i) = sk t n i
      · rw [if_pos c9] at c; exact absurd c (by decide)
      · rw [if_neg c9] at c; exact c
  · rw [if_neg c]
    exact ⟨h', e, F, fun w => absurd w c, fun _ => w2 c⟩
/-- a number that may clash besides: the bounds first -/
theorem num_b {h : Hp} {k j i : Nat} {a : Nat → Nat} {lo hi : Int32} {ok bad : Nat → Bool} (O : OkN lo hi ok) (ck : ∀ v, chk P k j a v = if ok v = true then (if bad v = true then 4 else 0) else 2) (T : TM h r t n) (hi' : i ≤ n) (hf : 500 ≤ f) (e5 : zI h 58 21 = nI i) : ∃ h' cd, f_X6_takeNumber f 58 lo hi h = some (nI cd, h') ∧ cd ≤ 2 ∧ Fx QTn h h' ∧ ((cd ≠ 0 ∧ rdl t n P k 1 j a i = (cd, sk t n i, a, i) ∧ zI h' 58 20 = nI (sk t n i)) ∨ (cd = 0 ∧ ∃ V, V ≤ 9999 ∧ ok V = true ∧ zI h' 58 20 = zI h 58 20 ∧ zI h' 58 21 = nI (dE t n (sk t n i)) ∧ zI h' 58 24 = nI V ∧ zI h' 58 25 = nI (sk t n i) ∧ dE t n (sk t n i) ≤ n ∧ rdl t n P k 1 j a i = if bad V = true then (4, sk t n i, a, i) else (0, 0, up1 a j V, dE t n (sk t n i)))) := by
  obtain ⟨h', e, F, w1, w2⟩ := e_takeNumber (f := f) O T hi' hf e5
  have hs : sk t n i ≤ n := en_le hi'
  have hd : sk t n i ≤ dE t n (sk t n i) := en_ge hs
  have er := rdl_1 (t := t) (n := n) ck i
  have cd2 : cdN ok t n (sk t n i) ≤ 2 := by unfold cdN; repeat' split
                                             all_goals omega
  refine ⟨h', _, e, cd2, F, ?_⟩
  by_cases c : cdN ok t n (sk t n i) = 0
  · obtain ⟨v1, v2, v3, v4⟩ := w1 c
    rw [if_pos c] at er
    have okV : ok (nV t (sk t n i) (dE t n (sk t n i))) = true := by
      unfold cdN at c
      by_cases c9 : dE t n (sk t n i) = sk t n i
      · rw [if_pos c9] at c; exact absurd c (by decide)
      · rw [if_neg c9] at c
        cases b : ok (nV t (sk t n i) (dE t n (sk t n i))) with
        | true => rfl
        | false => rw [b] at c; exact absurd c (by decide)
    have V9 : nV t (sk t n i) (dE t n (sk t n i)) ≤ 9999 := by
      have h1 : nV t (sk t n i) (dE t n (sk t n i)) ≤ 10000 := nV_le (t := t) (en_all (p := pD t) hs) hd
      rcases Nat.lt_or_ge (nV t (sk t n i) (dE t n (sk t n i))) 10000 with q | q
      · omega
      · rw [show nV t (sk t n i) (dE t n (sk t n i)) = 10000 by omega, O.2] at okV; cases okV
    exact Or.inr ⟨c, _, V9, okV, v1, v2, v3, v4, en_le hs, er⟩
  · rw [if_neg c] at er
    exact Or.inl ⟨c, er, w2 c⟩
def QCr (a j : Nat) : Bool := decide (a = 58) && (decide (j = 20) || decide (j = 21) || decide (j = 24) || decide (j = 25) || decide (j = 40))
theorem Fx_tc {h h' : Hp} (F : Fx QTn h h') : Fx QCr h h' := Fx_mono F (fun a j w => by
  unfold QCr at w
  unfold QTn
  simp only [Bool.or_eq_false_iff, Bool.and_eq_false_iff, decide_eq_false_iff_not] at w ⊢
  omega)
theorem nI_le0 {c : Nat} (h : c ≤ 10) : (nI c ≤ (0 : Int32)) ↔ c = 0 := by
  have : (nI c ≤ (0 : Int32)) ↔ c ≤ 0 := nI_leI (b := 0) (by omega) (by omega)
  rw [this]; omega
theorem e_takeCorner {h : Hp} {k i : Nat} {a : Nat → Nat} {b : Int32} (hk : (k = 3 ∧ b = 1) ∨ (k = 4 ∧ b = 0)) (M : MJl h r t n P) (W : PW P) (hi : i ≤ n) (hf : 500 ≤ f) (e5 : zI h 58 21 = nI i) : ∃ h', f_X6_takeCorner f 58 b h = some (nI (rdl t n P k 2 0 a i).1, h') ∧ (rdl t n P k 2 0 a i).1 ≤ 4 ∧ Fx QCr h h' ∧ ((rdl t n P k 2 0 a i).1 = 0 → zI h' 58 20 = zI h 58 20 ∧ zI h' 58 21 = nI (rdl t n P k 2 0 a i).2.2.2 ∧ zI h' 58 40 = nI (9 * (rdl t n P k 2 0 a i).2.2.1 0 + (rdl t n P k 2 0 a i).2.2.1 1) ∧ (rdl t n P k 2 0 a i).2.2.1 0 < 6 ∧ (rdl t n P k 2 0 a i).2.2.1 1 < qN P ∧ (rdl t n P k 2 0 a i).2.2.2 ≤ n) ∧ ((rdl t n P k 2 0 a i).1 ≠ 0 → zI h' 58 20 = nI (rdl t n P k 2 0 a i).2.1) := by
  obtain ⟨T, ⟨m26, m32, m33, m34, m36, m37, m38⟩, -, mC⟩ := id M
  obtain ⟨⟨w1, w2, w3, w4, w5, w6, w7⟩, -, -, -, -, wm⟩ := W
  have H := T.1
  have k0 : ∀ v, chk P k 0 a v = if decide (v ≤ 5) = true then (if (decide (k = 3) && (qL P).testBit v) = true then 4 else 0) else 2 := fun v => by
    have e : chk P k 0 a v = (if v < 6 then (if k = 3 ∧ (qL P).testBit v = true then 4 else 0) else 2) := by rcases hk with ⟨rfl, -⟩ | ⟨rfl, -⟩ <;> simp [chk]
    rw [e]
    have e6 : v ≤ 5 ↔ v < 6 := by omega
    simp only [decide_eq_true_eq, Bool.and_eq_true, e6]
  have O5 : OkN 0 5 (fun v => decide (v ≤ 5)) := okN_c (m := 5) (by omega)
  obtain ⟨h1, cd, e1, cd2, F1, z1⟩ := num_b (f := f) O5 k0 T hi hf e5
  have M1 := MJl_tn M F1
  have H1 := M1.1.1
  rw [rdl_app 1]
  unfold f_X6_takeCorner
  rw [on_k (S_58 H), e1, bi_mk]
  rcases z1 with ⟨c0, er, z20⟩ | ⟨c0, V, V9, okV, z20, z21, z24, z25, hd, er⟩
  · rw [er, if_neg c0, if_neg (fun w => c0 ((nI_le0 (by omega)).mp w))]
    exact ⟨h1, rfl, by show cd ≤ 4; omega, Fx_tc F1, fun w => absurd w c0, fun _ => z20⟩
  · have V6 : V < 6 := by have := of_decide_eq_true okV; omega
    rw [er, if_pos ((nI_le0 (by omega)).mpr c0), gi_k (S_58 H1), Option.bind_some, z24]
    have good : (decide (k = 3) && (qL P).testBit V) = false → ∃ h', b_X6_takeCorner_43 f 58 (nI V) h1 = some (nI (rdl t n P k 1 1 (up1 a 0 V) (dE t n (sk t n i))).1, h') ∧ (rdl t n P k 1 1 (up1 a 0 V) (dE t n (sk t n i))).1 ≤ 4 ∧ Fx QCr h h' ∧ ((rdl t n P k 1 1 (up1 a 0 V) (dE t n (sk t n i))).1 = 0 → zI h' 58 20 = zI h 58 20 ∧ zI h' 58 21 = nI (rdl t n P k 1 1 (up1 a 0 V) (dE t n (sk t n i))).2.2.2 ∧ zI h' 58 40 = nI (9 * (rdl t n P k 1 1 (up1 a 0 V) (dE t n (sk t n i))).2.2.1 0 + (rdl t n P k 1 1 (up1 a 0 V) (dE t n (sk t n i))).2.2.1 1) ∧ (rdl t n P k 1 1 (up1 a 0 V) (dE t n (sk t n i))).2.2.1 0 < 6 ∧ (rdl t n P k 1 1 (up1 a 0 V) (dE t n (sk t n i))).2.2.1 1 < qN P ∧ (rdl t n P k 1 1 (up1 a 0 V) (dE t n (sk t n i))).2.2.2 ≤ n) ∧ ((rdl t n P k 1 1 (up1 a 0 V) (dE t n (sk t n i))).1 ≠ 0 → zI h' 58 20 = nI (rdl t n P k 1 1 (up1 a 0 V) (dE t n (sk t n i))).2.1) := fun _ => by
      have k1 : ∀ v, chk P k 1 (up1 a 0 V) v = if decide (v < qN P) = true then (if (qC P V).testBit v = true then 4 else 0) else 2 := fun v => by
        have e : chk P k 1 (up1 a 0 V) v = (if v < qN P then (if (qC P (up1 a 0 V 0)).testBit v = true then 4 else 0) else 2) := by rcases hk with ⟨rfl, -⟩ | ⟨rfl, -⟩ <;> simp [chk]
        rw [e]
        simp only [decide_eq_true_eq, up1, if_true]
      obtain ⟨h2, cd', e2, cd2', F2, y1⟩ := num_b (f := f) (okN_m w1) k1 M1.1 hd hf z21
      have M2 := MJl_tn M1 F2
      have H2 := M2.1.1
      unfold b_X6_takeCorner_43 b_X6_takeCorner_99 f_X6_fails
      rw [gi_k (S_58 H1), Option.bind_some, on_k (S_58 H1), M1.2.1.1, e2, bi_mk]
      rcases y1 with ⟨c0', er', y20⟩ | ⟨c0', V', V9', okV', y20, y21, y24, y25, hd', er'⟩
      · rw [er', if_neg (fun w => c0' ((nI_le0 (by omega)).mp w))]
        exact ⟨h2, rfl, by show cd' ≤ 4; omega, Fx_tr (Fx_tc F1) (Fx_tc F2), fun w => absurd w c0', fun _ => y20⟩
      · have VN : V' < qN P := of_decide_eq_true okV'
        have H3 : Sh (sI h2 58 40 (nI (9 * V + V'))) r := H2
        have F3 : Fx QCr h2 (sI h2 58 40 (nI (9 * V + V'))) := Fx_sI rfl
        rw [er', if_pos ((nI_le0 (by omega)).mpr c0'), gi_k (S_58 H2), Option.bind_some, y24, ix9', pi_k (S_58 H2), Option.bind_some, gr_k (S_58 H3) (R_58_31 H3), Option.bind_some, gi_k (S_58 H3), Option.bind_some, zI_sI, if_pos ⟨rfl, rfl⟩, ai_nI (S_73 H3) (by omega) (by decide), Option.bind_some, zI_row (by omega)]
        cases b : (qC P V).testBit V' with
        | true =>
          have z73 := ((M2.2.2.2 V V6 V' VN).1 b).1
          rw [z73, if_neg c10, gi_k (S_58 H3), Option.bind_some, on_k (S_58 H3), zI_sI, if_neg (by omega), y25, pi_k (S_58 H3), Option.bind_some, bi_mk, if_pos rfl]
          exact ⟨_, rfl, by show 4 ≤ 4; omega, Fx_then (Fx_tr (Fx_tr (Fx_tc F1) (Fx_tc F2)) F3) rfl, fun w => absurd (show 4 = 0 from w) (by decide), fun _ => by rw [zI_sI, if_pos ⟨rfl, rfl⟩]⟩
        | false =>
          have z73 := (M2.2.2.2 V V6 V' VN).2 b
          rw [z73, if_pos rfl, if_neg (by decide)]
          refine ⟨_, rfl, by show 0 ≤ 4; omega, Fx_tr (Fx_tr (Fx_tc F1) (Fx_tc F2)) F3, fun _ => ⟨?_, ?_, ?_, ?_, ?_, hd'⟩, fun w => absurd rfl w⟩
          · rw [zI_sI, if_neg (by omega), y20, z20]
          · rw [zI_sI, if_neg (by omega)]; exact y21
          · rw [zI_sI, if_pos ⟨rfl, rfl⟩]; rfl
          · exact V6
          · exact VN
    rcases hk with ⟨rfl, rfl⟩ | ⟨rfl, rfl⟩
    · rw [if_neg c10, gi_k (S_58 H1), Option.bind_some, M1.2.1.2.2.1, e_has, bi_mk, hb_all _ (by omega) _ (by omega)]
      cases b : (qL P).testBit V with
      | true =>
        unfold f_X6_fails
        rw [b2T, if_neg c10, gi_k (S_58 H1), Option.bind_some, on_k (S_58 H1), z25, pi_k (S_58 H1), Option.bind_some, bi_mk, if_pos (show (decide (3 = 3) && true) = true by decide), if_neg (show ¬ (4, sk t n i, a, i).1 = 0 from fun w => absurd (show 4 = 0 from w) (by decide))]
        exact ⟨_, rfl, by show 4 ≤ 4; omega, Fx_then (Fx_tc F1) rfl, fun w => absurd (show 4 = 0 from w) (by decide), fun _ => by rw [zI_sI, if_pos ⟨rfl, rfl⟩]⟩
      | false =>
        rw [b2F, if_pos rfl, if_neg (show ¬ (decide (3 = 3) && false) = true by decide), if_pos rfl]
        exact good (by rw [b]; rfl)
    · rw [if_pos rfl, if_neg (show ¬ (decide (4 = 3) && (qL P).testBit V) = true by simp), if_pos rfl]
      exact good (by simp)
end NM
