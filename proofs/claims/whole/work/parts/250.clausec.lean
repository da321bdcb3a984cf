/-! ===== the class reads a clause ===== -/
theorem chk_le {P : Ps} {k j v : Nat} {a : Nat → Nat} : chk P k j a v ≤ 4 := by
  unfold chk c99
  repeat' split
  all_goals omega
theorem rdl_ge {t : Nat → Nat} {n : Nat} {P : Ps} {k : Nat} : ∀ c j a i, i ≤ n → i ≤ (rdl t n P k c j a i).2.2.2 := by
  intro c
  induction c with
  | zero => intro j a i hi; exact Nat.le_refl _
  | succ c ih =>
    intro j a i hi
    have h1 : i ≤ sk t n i := en_ge hi
    have h2 : sk t n i ≤ n := en_le hi
    have h3 : sk t n i ≤ dE t n (sk t n i) := en_ge h2
    have h4 : dE t n (sk t n i) ≤ n := en_le h2
    unfold rdl
    split
    · exact Nat.le_refl _
    · split
      · exact Nat.le_trans (Nat.le_trans h1 h3) (ih _ _ _ h4)
      · exact Nat.le_refl _
theorem cls_ok {t : Nat → Nat} {n : Nat} {P : Ps} {i : Nat} (W : PW P) (hi : i ≤ n) (h : (cls t n P i).1 = 0) : PW (cls t n P i).2.2.1 ∧ i < (cls t n P i).2.2.2 ∧ (cls t n P i).2.2.2 ≤ n ∧ kd t i (wE t n i) < 7 ∧ fullP P (kd t i (wE t n i)) = false ∧ (cls t n P i).2.2.1 = tel P (kd t i (wE t n i)) (rdl t n P (kd t i (wE t n i)) (cnt (kd t i (wE t n i))) 0 (fun _ => 0) (wE t n i)).2.2.1 := by
  have k7 := kd_le t i (wE t n i)
  have w1 : i ≤ wE t n i := en_ge hi
  have w2 : wE t n i ≤ n := en_le hi
  unfold cls at h ⊢
  generalize kd t i (wE t n i) = k at *
  by_cases c1 : k = 7 ∨ lateP P k = true
  · rw [if_pos c1] at h; exact absurd (show 1 = 0 from h) (by decide)
  · rw [if_neg c1] at h ⊢
    by_cases c2 : fullP P k = true
    · rw [if_pos c2] at h; exact absurd (show 3 = 0 from h) (by decide)
    · rw [if_neg c2] at h ⊢
      have hk : k < 7 := by omega
      have hl : lateP P k = false := by
        cases b : lateP P k with
        | false => rfl
        | true => exact absurd (Or.inr b) c1
      have hf : fullP P k = false := by
        cases b : fullP P k with
        | false => rfl
        | true => exact absurd b c2
      have ok := rdl_ok (t := t) (n := n) (P := P) (k := k) (cnt k) 0 (fun _ => 0) (wE t n i) w2 (fun x hx => by omega)
      have ge := rdl_ge (t := t) (n := n) (P := P) (k := k) (cnt k) 0 (fun _ => 0) (wE t n i) w2
      generalize rdl t n P k (cnt k) 0 (fun _ => 0) (wE t n i) = R at *
      unfold fin at h ⊢
      by_cases c3 : R.1 = 0
      · rw [if_pos c3] at h ⊢
        obtain ⟨o1, o2⟩ := ok c3
        rw [Nat.zero_add] at o1
        have s1 : R.2.2.2 ≤ sk t n R.2.2.2 := en_ge o2
        by_cases c4 : sk t n R.2.2.2 < n ∧ t (sk t n R.2.2.2) = 59
        · rw [if_pos c4]
          exact ⟨PW_tel W hk hl hf o1, by show i < sk t n R.2.2.2 + 1; omega, by show sk t n R.2.2.2 + 1 ≤ n; omega, hk, hf, rfl⟩
        · rw [if_neg c4] at h; exact absurd (show 1 = 0 from h) (by decide)
      · rw [if_neg c3] at h; exact absurd h c3
def QRn (q a j : Nat) : Bool := (decide (a = 12) && (decide (j = 5) || decide (j = 6))) || decide (a = 14) || decide (a = 15) || (decide (q ≤ a) && decide (a ≤ q + 4))
def QRd (q a j : Nat) : Bool := decide (a = 13) || QRn q a j
theorem Fx_cn {q : Nat} {h h' : Hp} (F : Fx QCu h h') : Fx (QRn q) h h' := Fx_mono F (fun a j w => by
  unfold QRn at w
  unfold QCu
  simp only [Bool.or_eq_false_iff, Bool.and_eq_false_iff, decide_eq_false_iff_not] at w ⊢
  omega)
theorem Fx_tn {q : Nat} {h h' : Hp} (F : Fx (QTl q) h h') : Fx (QRn q) h h' := Fx_mono F (fun a j w => by
  unfold QRn at w
  unfold QTl
  simp only [Bool.or_eq_false_iff, Bool.and_eq_false_iff, decide_eq_false_iff_not] at w ⊢
  omega)
theorem Fx_nd {q : Nat} {h h' : Hp} (F : Fx (QRn q) h h') : Fx (QRd q) h h' := Fx_mono F (fun a j w => by
  unfold QRd at w
  exact (Bool.or_eq_false_iff.mp w).2)
section CLC
variable {f q n : Nat} {r : Rs} {t : Nat → Nat} {P : Ps}
theorem CIl_cu {h h' : Hp} (C : CIl h r q t n P) (F : Fx QCu h h') : CIl h' r q t n P := CIl_Fx C F (fun a j w => by
  unfold QCu
  simp only [Bool.and_eq_false_iff, Bool.or_eq_false_iff, decide_eq_false_iff_not]
  omega)
theorem e_no {k : Nat} (hk : k < 7) : q_no (nI k) = some (nI (cnt k)) := by
  unfold q_no
  rw [if_pos (qin hk (by decide)), nI_clamp (by omega)]
  rcases (show k = 0 ∨ k = 1 ∨ k = 2 ∨ k = 3 ∨ k = 4 ∨ k = 5 ∨ k = 6 by omega) with rfl | rfl | rfl | rfl | rfl | rfl | rfl <;> rfl
theorem cnt_4 (k : Nat) : cnt k ≤ 4 := by
  unfold cnt
  repeat' split
  all_goals omega
theorem cl48_go {k : Nat} (W : PW P) (hk : k < 7) (hf : fullP P k = false) (hfu : 500 ≤ f) : ∀ (c j : Nat) (a : Nat → Nat) (i : Nat) (h : Hp) (d : Nat), j + c = cnt k → c < d → CIl h r q t n P → CK P k j a → (∀ x, x < j → zI h 14 x = nI (a x)) → i ≤ n → zI h 12 5 = nI i → ∃ h', l_X2_readClause_48 f d 12 q (nI k) (nI j) h = some (nI (fin t n P (tel P k) (rdl t n P k c j a i)).1, h') ∧ Fx (QRn q) h h' ∧ ((fin t n P (tel P k) (rdl t n P k c j a i)).1 ≠ 0 → zI h' 12 6 = nI (fin t n P (tel P k) (rdl t n P k c j a i)).2.1) ∧ ((fin t n P (tel P k) (rdl t n P k c j a i)).1 = 0 → CIl h' r q t n (fin t n P (tel P k) (rdl t n P k c j a i)).2.2.1 ∧ zI h' 12 5 = nI (fin t n P (tel P k) (rdl t n P k c j a i)).2.2.2) := by
  have c4 := cnt_4 k
  intro c
  induction c with
  | zero =>
    intro j a i h d hj hd C K ea hi e5
    have T := C.1
    have H := T.1
    obtain ⟨d', rfl⟩ : ∃ d', d = d' + 1 := ⟨d - 1, by omega⟩
    show ∃ h', b_X2_readClause_48 f (l_X2_readClause_48 f d') 12 q (nI k) (nI j) h = _ ∧ _
    unfold b_X2_readClause_48 b_X2_readClause_137
    obtain ⟨h1, e1, F1, z5, z6⟩ := e_toNext (f := f) T hi hfu e5
    have C1 := CIl_cu C F1
    have T1 := C1.1
    have H1 := T1.1
    obtain ⟨-, -, n400, e4, tx⟩ := id T1
    have hs : sk t n i ≤ n := en_le hi
    rw [e_no hk, Option.bind_some, if_pos ((nI_leI (by omega) (by omega)).mpr (by omega)), on_k (S_12 H), e1, Option.bind_some, gi_k (S_12 H1), Option.bind_some, gi_k (S_12 H1), Option.bind_some, z5, e4]
    show ∃ h', _ = some (nI (fin t n P (tel P k) (0, 0, a, i)).1, h') ∧ _ ∧ (_ → zI h' 12 6 = nI (fin t n P (tel P k) (0, 0, a, i)).2.1) ∧ (_ → CIl h' r q t n (fin t n P (tel P k) (0, 0, a, i)).2.2.1 ∧ zI h' 12 5 = nI (fin t n P (tel P k) (0, 0, a, i)).2.2.2)
    have ef : fin t n P (tel P k) (0, 0, a, i) = if sk t n i < n ∧ t (sk t n i) = 59 then (0, 0, tel P k a, sk t n i + 1) else (1, sk t n i, P, 0) := rfl
    have er : rdl t n P k 0 j a i = (0, 0, a, i) := rfl
    rw [er, ef]
    have bad : ¬ (sk t n i < n ∧ t (sk t n i) = 59) → ∃ h', some ((1 : Int32), h1) = some (nI (if sk t n i < n ∧ t (sk t n i) = 59 then (0, 0, tel P k a, sk t n i + 1) else (1, sk t n i, P, 0)).1, h') ∧ Fx (QRn q) h h' ∧ ((if sk t n i < n ∧ t (sk t n i) = 59 then (0, 0, tel P k a, sk t n i + 1) else (1, sk t n i, P, 0)).1 ≠ 0 → zI h' 12 6 = nI (if sk t n i < n ∧ t (sk t n i) = 59 then (0, 0, tel P k a, sk t n i + 1) else (1, sk t n i, P, 0)).2.1) ∧ ((if sk t n i < n ∧ t (sk t n i) = 59 then (0, 0, tel P k a, sk t n i + 1) else (1, sk t n i, P, 0)).1 = 0 → CIl h' r q t n (if sk t n i < n ∧ t (sk t n i) = 59 then (0, 0, tel P k a, sk t n i + 1) else (1, sk t n i, P, 0)).2.2.1 ∧ zI h' 12 5 = nI (if sk t n i < n ∧ t (sk t n i) = 59 then (0, 0, tel P k a, sk t n i + 1) else (1, sk t n i, P, 0)).2.2.2) := fun b => by
      rw [if_neg b]
      exact ⟨h1, rfl, Fx_cn F1, fun _ => z6, fun w => absurd (show 1 = 0 from w) (by decide)⟩
    by_cases c1 : n ≤ sk t n i
    · rw [if_pos ((nI_leI (by omega) (by omega)).mpr c1)]
      exact bad (fun w => by omega)
    · have hin : sk t n i < n := by omega
      obtain ⟨x1, x2⟩ := tx_at T1 hin
      rw [if_neg (fun w => c1 ((nI_leI (by omega) (by omega)).mp w)), x1, Option.bind_some, Option.bind_some, x2, Option.bind_some]
      by_cases c2 : t (sk t n i) = 59
      · have F2 : Fx QCu h1 (sI h1 12 5 (nI (sk t n i + 1))) := Fx_sI rfl
        have C2 := CIl_cu C1 F2
        have ea2 : ∀ x, x < cnt k → zI (sI h1 12 5 (nI (sk t n i + 1))) 14 x = nI (a x) := fun x hx => by
          rw [zI_row (by omega), F1.1 14 x rfl]; exact ea x (by omega)
        obtain ⟨h', e', F', C'⟩ := e_tell (f := f) (a := a) C2 W hk hf (by rw [show cnt k = j by omega]; exact K) ea2 (by omega)
        rw [if_pos ((bv_59 _ (tx _ hin).1).mpr c2), Option.bind_some, nI_p1, pi_k (S_12 H1), Option.bind_some, on_k (S_12 C2.1.1), e', Option.bind_some, if_pos ⟨hin, c2⟩]
        refine ⟨h', rfl, Fx_tr (Fx_cn F1) (Fx_tr (Fx_cn F2) (Fx_tn F')), fun w => absurd rfl w, fun _ => ⟨C', ?_⟩⟩
        show zI h' 12 5 = nI (sk t n i + 1)
        have hq := C.2.1
        rw [F'.1 12 5 (QTl_f (by omega)), zI_sI, if_pos ⟨rfl, rfl⟩]
      · rw [if_neg (fun w => c2 ((bv_59 _ (tx _ hin).1).mp w))]
        exact bad (fun w => c2 w.2)
  | succ c ih =>
    intro j a i h d hj hd C K ea hi e5
    have T := C.1
    have H := T.1
    obtain ⟨d', rfl⟩ : ∃ d', d = d' + 1 := ⟨d - 1, by omega⟩
    show ∃ h', b_X2_readClause_48 f (l_X2_readClause_48 f d') 12 q (nI k) (nI j) h = _ ∧ _
    unfold b_X2_readClause_48
    obtain ⟨h1, e1, F1, z5, z6⟩ := e_toNext (f := f) T hi hfu e5
    have C1 := CIl_cu C F1
    have T1 := C1.1
    have H1 := T1.1
    have hs : sk t n i ≤ n := en_le hi
    obtain ⟨h2, e2, F2, y5, y6⟩ := e_readNumber (f := f) T1 hs hfu z5 z6
    have C2 := CIl_cu C1 F2
    have H2 := C2.1.1
    have hd2 : dE t n (sk t n i) ≤ n := en_le hs
    have hd1 : sk t n i ≤ dE t n (sk t n i) := en_ge hs
    have v10 : nV t (sk t n i) (dE t n (sk t n i)) ≤ 10000 := nV_le (en_all hs) hd1
    rw [e_no hk, Option.bind_some, if_neg (fun w => by have := (nI_leI (a := cnt k) (b := j) (by omega) (by omega)).mp w; omega), on_k (S_12 H), e1, Option.bind_some, on_k (S_12 H1), e2, bi_mk]
    have F12 : Fx (QRn q) h h2 := Fx_tr (Fx_cn F1) (Fx_cn F2)
    unfold rdl
    by_cases c1 : dE t n (sk t n i) = sk t n i
    · rw [if_pos c1, if_neg (fun w => w rfl), if_pos c1]
      exact ⟨h2, rfl, F12, fun _ => y6, fun w => absurd (show 1 = 0 from w) (by decide)⟩
    · rw [if_neg c1, if_neg c1]
      generalize hV : nV t (sk t n i) (dE t n (sk t n i)) = V at *
      have ea2 : ∀ x, x < j → zI h2 14 x = nI (a x) := fun x hx => by rw [F2.1 14 x rfl, F1.1 14 x rfl]; exact ea x hx
      have nm : ¬ nI V = (-1 : Int32) := fun w => nI_ge0 (n := V) (by omega) (by rw [w]; decide)
      rw [if_pos nm, on_k (S_12 H2), e_numberFault (f := f) C2 W hk (by omega) v10 K ea2, bi_mk]
      have k4 := chk_le (P := P) (k := k) (j := j) (v := V) (a := a)
      by_cases c2 : chk P k j a V = 0
      · rw [if_pos c2, if_pos (by rw [c2]; rfl), gr_k (S_12 H2) (R_12_1 H2), Option.bind_some, as_nI (S_14 H2) (by omega) (by decide), Option.bind_some]
        have F3 : Fx (QRn q) h2 (sI h2 14 j (nI V)) := Fx_sI (by unfold QRn; simp)
        have C3 : CIl (sI h2 14 j (nI V)) r q t n P := CIl_Fx (Q := fun b _ => decide (b = 14)) C2 (Fx_sI (by simp)) (fun b j w => decide_eq_false (by omega))
        have ea3 : ∀ x, x < j + 1 → zI (sI h2 14 j (nI V)) 14 x = nI (up1 a j V x) := fun x hx => by
          unfold up1
          by_cases ex : x = j
          · rw [if_pos ex, zI_sI, if_pos ⟨rfl, ex⟩]
          · rw [if_neg ex, zI_sI, if_neg (fun w => ex w.2)]; exact ea2 x (by omega)
        obtain ⟨h', e', F', w1, w2⟩ := ih (j + 1) (up1 a j V) (dE t n (sk t n i)) (sI h2 14 j (nI V)) d' (by omega) (by omega) C3 (CK_up K c2) ea3 hd2 (by rw [zI_row (by omega)]; exact y5)
        unfold lt
        rw [nI_p1]
        exact ⟨h', e', Fx_tr F12 (Fx_tr F3 F'), w1, w2⟩
      · rw [if_neg c2, if_neg (show ¬ nI (chk P k j a V) = (0 : Int32) from fun w => c2 ((nI_eq (b := 0) (by omega) (by omega)).mp w))]
        have ef : fin t n P (tel P k) (chk P k j a V, sk t n i, a, i) = (chk P k j a V, sk t n i, P, 0) := if_neg c2
        rw [ef]
        exact ⟨h2, rfl, F12, fun _ => y6, fun w => absurd w c2⟩
/-- how often each clause came -/
def TmC (h : Hp) (P : Ps) : Prop := ∀ k, k < 7 → zI h 13 k = nI (tmz P k)
theorem at13 {h : Hp} {x : Nat} (H : Sh h r) (M : TmC h P) (hx : x < 7) : q_ai h 13 9 (nI x) = some (nI (tmz P x)) := by rw [ai_nI (S_13 H) hx (by decide), M x hx]
theorem e_tooLate {h : Hp} {k : Nat} (H : Sh h r) (M : TmC h P) (W : PW P) (hk : k < 7) : f_X2_comesTooLate f 12 (nI k) h = some (b2 (lateP P k), h) := by
  obtain ⟨⟨w1, w2, w3, w4, w5, w6, w7⟩, -⟩ := W
  have g3 : q_ai h 13 9 3 = some (nI (qJ P)) := at13 (x := 3) H M (by decide)
  have g4 : q_ai h 13 9 4 = some (nI (qE P)) := at13 (x := 4) H M (by decide)
  have g1 : q_ai h 13 9 1 = some (nI (qg P).toNat) := at13 (x := 1) H M (by decide)
  unfold f_X2_comesTooLate b_X2_comesTooLate_21 b_X2_comesTooLate_39 b_X2_comesTooLate_44 b_X2_comesTooLate_58 b_X2_comesTooLate_59 lateP
  simp only [gr_k (S_12 H) (R_12_0 H), Option.bind_some, g3, g4, g1, nI_add]
  have e0 : ∀ z : Nat, z < 1000 → ((nI z ≤ (0 : Int32)) ↔ z ≤ 0) := fun z hz => nI_leI (b := 0) (by omega) (by omega)
  have k0 : (nI k = (0 : Int32)) ↔ k = 0 := nI_eq (b := 0) (by omega) (by omega)
  have k2 : (nI k = (2 : Int32)) ↔ k = 2 := nI_eq (b := 2) (by omega) (by omega)
  simp only [e0 (qJ P + qE P) (by omega), k0, k2]
  have q1 : ¬ nI 1 ≤ (0 : Int32) := by decide
  have q0 : nI 0 ≤ (0 : Int32) := by decide
  by_cases cJ : qJ P + qE P ≤ 0
  · have cJ' : ¬ 0 < qJ P + qE P := by omega
    rw [if_pos cJ, decide_eq_false cJ']
    rcases (show k = 0 ∨ k = 2 ∨ (k ≠ 0 ∧ k ≠ 2) by omega) with rfl | rfl | ⟨ck, c2⟩
    · cases b : qg P with
      | true => simp [b2, q_bo, q1]
      | false => simp [b2, q_bo, q0]
    · simp [b2, q_bo]
    · simp [b2, q_bo, ck, c2]
  · have cJ' : 0 < qJ P + qE P := by omega
    rw [if_neg cJ, decide_eq_true cJ']
    rcases (show k = 0 ∨ k = 2 ∨ (k ≠ 0 ∧ k ≠ 2) by omega) with rfl | rfl | ⟨ck, c2⟩
    · simp [b2, q_bo]
    · simp [b2, q_bo]
    · simp [b2, q_bo, ck, c2]
theorem e_tm {k : Nat} (W : PW P) (hk : k < 7) : ∃ m, q_tm (nI k) = some m ∧ (nI (tmz P k) < m ↔ fullP P k = false) := by
  obtain ⟨⟨w1, w2, w3, w4, w5, w6, w7⟩, -⟩ := W
  refine ⟨z_TM k, ?_, ?_⟩
  · unfold q_tm
    rw [if_pos (qin hk (by decide)), nI_clamp (by omega)]
  · rcases (show k = 0 ∨ k = 1 ∨ k = 2 ∨ k = 3 ∨ k = 4 ∨ k = 5 ∨ k = 6 by omega) with rfl | rfl | rfl | rfl | rfl | rfl | rfl
    · have : (nI (tmz P 0) < z_TM 0) ↔ qN P < 9 := nI_ltI (a := qN P) (b := 9) (by omega) (by omega)
      rw [this]; simp [fullP]; omega
    · show nI (qg P).toNat < (1 : Int32) ↔ qg P = false
      cases qg P <;> decide
    · show nI (qw P).toNat < (1 : Int32) ↔ qw P = false
      cases qw P <;> decide
    · have : (nI (tmz P 3) < z_TM 3) ↔ qJ P < 2 := nI_ltI (a := qJ P) (b := 2) (by omega) (by omega)
      rw [this]; simp [fullP]; omega
    · have : (nI (tmz P 4) < z_TM 4) ↔ qE P < 30 := nI_ltI (a := qE P) (b := 30) (by omega) (by omega)
      rw [this]; simp [fullP]; omega
    · show nI (qs P).toNat < (1 : Int32) ↔ qs P = false
      cases qs P <;> decide
    · show nI (qt P).toNat < (1 : Int32) ↔ qt P = false
      cases qt P <;> decide
theorem e_clauseC {h : Hp} {i : Nat} (C : CIl h r q t n P) (M : TmC h P) (W : PW P) (hi : i ≤ n) (hfu : 500 ≤ f) (e5 : zI h 12 5 = nI i) (e6 : zI h 12 6 = nI i) : ∃ h', f_X2_readClause f 12 q h = some (nI (cls t n P i).1, h') ∧ Fx (QRd q) h h' ∧ ((cls t n P i).1 ≠ 0 → zI h' 12 6 = nI (cls t n P i).2.1) ∧ ((cls t n P i).1 = 0 → CIl h' r q t n (cls t n P i).2.2.1 ∧ TmC h' (cls t n P i).2.2.1 ∧ zI h' 12 5 = nI (cls t n P i).2.2.2) := by
  have H := C.1.1
  have hq := C.2.1
  have ok := cls_ok (t := t) (n := n) W hi
  obtain ⟨h1, e1, F1, z5, z6⟩ := e_readWordC (f := f) C.1 hi hfu e5 e6
  have C1 := CIl_cu C F1
  have H1 := C1.1.1
  have M1 : TmC h1 P := fun k hk => by rw [F1.1 13 k rfl]; exact M k hk
  have k7 := kd_le t i (wE t n i)
  have hw : wE t n i ≤ n := en_le hi
  unfold f_X2_readClause b_X2_readClause_18
  rw [on_k (S_12 H), e1, bi_mk]
  unfold cls at ok ⊢
  generalize kd t i (wE t n i) = k at *
  by_cases c7 : k = 7
  · rw [if_pos (Or.inl c7), if_pos (by unfold kI; rw [if_pos c7])]
    exact ⟨h1, rfl, Fx_nd (Fx_cn F1), fun _ => z6, fun w => absurd (show 1 = 0 from w) (by decide)⟩
  · have hk : k < 7 := by omega
    have ek : kI k = nI k := by unfold kI; rw [if_neg c7]
    rw [ek, if_neg (nm1 (by omega)), on_k (S_12 H1), e_tooLate H1 M1 W hk, bi_mk]
    by_cases cl : lateP P k = true
    · rw [if_pos (Or.inr cl), cl, b2T, if_neg c10]
      exact ⟨h1, rfl, Fx_nd (Fx_cn F1), fun _ => z6, fun w => absurd (show 1 = 0 from w) (by decide)⟩
    · have cl' : lateP P k = false := by cases b : lateP P k with
        | false => rfl
        | true => exact absurd b cl
      rw [if_neg (show ¬ (k = 7 ∨ lateP P k = true) from fun w => w.elim c7 cl)] at ok ⊢
      rw [cl', b2F, if_pos rfl, gr_k (S_12 H1) (R_12_0 H1), Option.bind_some, at13 H1 M1 hk, Option.bind_some]
      obtain ⟨m, em, im⟩ := e_tm W hk
      rw [em, Option.bind_some]
      by_cases cf : fullP P k = true
      · rw [if_pos cf, if_neg (fun w => by rw [im, cf] at w; cases w)]
        exact ⟨h1, rfl, Fx_nd (Fx_cn F1), fun _ => z6, fun w => absurd (show 3 = 0 from w) (by decide)⟩
      · have cf' : fullP P k = false := by cases b : fullP P k with
          | false => rfl
          | true => exact absurd b cf
        rw [if_neg cf] at ok ⊢
        rw [if_pos (im.mpr cf'), Option.bind_some, at13 H1 M1 hk, Option.bind_some, as_nI (S_13 H1) hk (by decide), Option.bind_some, nI_p1]
        have F2 : Fx (QRd q) h1 (sI h1 13 k (nI (tmz P k + 1))) := Fx_sI (by unfold QRd; simp)
        have C2 : CIl (sI h1 13 k (nI (tmz P k + 1))) r q t n P := CIl_Fx (Q := fun b _ => decide (b = 13)) C1 (Fx_sI (by simp)) (fun b j w => decide_eq_false (by omega))
        obtain ⟨h', e', F', w1, w2⟩ := cl48_go (f := f) W hk cf' hfu (cnt k) 0 (fun _ => 0) (wE t n i) _ f (by omega) (by have := cnt_4 k; omega) C2 (fun x hx => by omega) (fun x hx => by omega) hw (by rw [zI_row (by omega)]; exact z5)
        refine ⟨h', e', Fx_tr (Fx_nd (Fx_cn F1)) (Fx_tr F2 (Fx_nd F')), w1, fun w => ?_⟩
        obtain ⟨v1, v2⟩ := w2 w
        refine ⟨v1, ?_, v2⟩
        obtain ⟨-, -, -, -, -, ep⟩ := ok w
        rw [ep]
        intro x hx
        rw [tmz_tel hk cf' x hx, F'.1 13 x (by unfold QRn; simp; omega), zI_sI]
        by_cases ex : x = k
        · rw [if_pos ⟨rfl, ex⟩, if_pos ex, ex]
        · rw [if_neg (fun w => ex w.2), if_neg ex]; exact M1 x hx
end CLC
