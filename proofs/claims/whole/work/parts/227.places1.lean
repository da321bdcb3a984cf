/-! ===== places: where sets lead ===== -/
abbrev Pt : Type := Int32 × Int32
def plc (M : Ma) (s : Nat) : Option Pt := if eS M s 0 = eS M s 1 ∧ eS M s 2 = eS M s 3 then some (eS M s 0, eS M s 2) else none
def ln (M : Ma) : Nat := (fl M 64).length
def pl (M : Ma) (i : Nat) : Option Pt := plc M ((fl M 64).getD i 0)
def ct (M : Ma) (n : Nat) (p : Pt) : Nat := fb_ct (fun j => decide (pl M j = some p)) n
def np (M : Ma) (n : Nat) : Nat := fb_ct (fun j => (pl M j).isSome) n
def nw (M : Ma) (i : Nat) : Bool := (pl M i).isSome && allF (fun j => !decide (pl M j = pl M i)) i
def ds (M : Ma) (n : Nat) : Nat := fb_ct (nw M) n
def lx (p q : Pt) : Prop := p.1 < q.1 ∨ (p.1 = q.1 ∧ p.2 < q.2)
def bt (M : Ma) (p q : Pt) : Prop := ct M (ln M) q < ct M (ln M) p ∨ (ct M (ln M) q = ct M (ln M) p ∧ lx p q)
def IsB (M : Ma) (n : Nat) (p : Pt) : Prop := ∀ j, j < n → ∀ q, pl M j = some q → q = p ∨ bt M p q
theorem lx_tr {p q s : Pt} (h1 : lx p q) (h2 : lx q s) : lx p s := by
  unfold lx at *
  rcases h1 with h1 | ⟨h1, h1'⟩
  · rcases h2 with h2 | ⟨h2, h2'⟩
    · exact Or.inl (Int32.lt_trans h1 h2)
    · exact Or.inl (h2 ▸ h1)
  · rcases h2 with h2 | ⟨h2, h2'⟩
    · exact Or.inl (h1 ▸ h2)
    · exact Or.inr ⟨h1.trans h2, Int32.lt_trans h1' h2'⟩
theorem lx_ir {p : Pt} (h : lx p p) : False := by
  rcases h with h | ⟨_, h⟩
  · exact Int32.lt_irrefl h
  · exact Int32.lt_irrefl h
theorem bt_tr {M : Ma} {p q s : Pt} (h1 : bt M p q) (h2 : bt M q s) : bt M p s := by
  unfold bt at *
  rcases h1 with h1 | ⟨h1, h1'⟩
  · rcases h2 with h2 | ⟨h2, h2'⟩
    · exact Or.inl (by omega)
    · exact Or.inl (by omega)
  · rcases h2 with h2 | ⟨h2, h2'⟩
    · exact Or.inl (by omega)
    · exact Or.inr ⟨by omega, lx_tr h1' h2'⟩
theorem bt_ir {M : Ma} {p : Pt} (h : bt M p p) : False := by
  rcases h with h | ⟨_, h⟩
  · omega
  · exact lx_ir h
theorem IsB_un {M : Ma} {n i j : Nat} {p q : Pt} (hp : IsB M n p) (hq : IsB M n q) (hi : i < n) (ei : pl M i = some p) (hj : j < n) (ej : pl M j = some q) : p = q := by
  rcases hp j hj q ej with e | e
  · exact e.symm
  · rcases hq i hi p ei with e' | e'
    · exact e'
    · exact (bt_ir (bt_tr e e')).elim
theorem ct_le (M : Ma) (n : Nat) (p : Pt) : ct M n p ≤ n := fb_ct_le _ _
theorem ct_pos {M : Ma} {n j : Nat} {p : Pt} (hj : j < n) (e : pl M j = some p) : 0 < ct M n p := by
  rcases Nat.eq_zero_or_pos (ct M n p) with h | h
  · have := (fb_ct_zero.mp h) j hj
    simp [e] at this
  · exact h
theorem plc_s {M : Ma} {s : Nat} {p : Pt} (e : plc M s = some p) : eS M s 0 = p.1 ∧ eS M s 1 = p.1 ∧ eS M s 2 = p.2 ∧ eS M s 3 = p.2 := by
  unfold plc at e
  by_cases c : eS M s 0 = eS M s 1 ∧ eS M s 2 = eS M s 3
  · rw [if_pos c] at e
    injection e with e
    subst e
    exact ⟨rfl, c.1.symm, rfl, c.2.symm⟩
  · rw [if_neg c] at e; cases e
section P1
variable {f : Nat} {r : Rs} {h : Hp} {M : Ma}
theorem CL_e (C : CL h M 64) {i j : Nat} (hi : i < ln M) (hj : j < 4) : zI h 47 (4 * i + j) = eS M ((fl M 64).getD i 0) j := by
  obtain ⟨s, e1, -⟩ := CL_at hi
  rw [(C.2 i s e1).2 j hj, List.getD_eq_getElem?_getD, e1]; rfl
theorem i4 (i : Nat) : nI i * 4 = nI (4 * i) := by rw [show (4 : Int32) = nI 4 from rfl, pk_mul, Nat.mul_comm]
theorem e_isPlace {i : Nat} (H : Sh h r) (C : CL h M 64) (h15 : ln M ≤ 15) (hi : i < ln M) : f_X1_isPlace f 38 (nI i) h = some (b2 (pl M i).isSome, h) := by
  unfold f_X1_isPlace b_X1_isPlace_48 b_X1_isPlace_49 pl plc
  have c0 := CL_e C hi (j := 0) (by omega)
  rw [Nat.add_zero] at c0
  simp only [gr_k (S_38 H) (R_38_8 H), Option.bind_some, i4, nI_p1, nI_p2, nI_p3, ai_nI (S_47 H) (show 4 * i < 60 by omega) (by decide), ai_nI (S_47 H) (show 4 * i + 1 < 60 by omega) (by decide), ai_nI (S_47 H) (show 4 * i + 2 < 60 by omega) (by decide), ai_nI (S_47 H) (show 4 * i + 3 < 60 by omega) (by decide), c0, CL_e C hi (j := 1) (by omega), CL_e C hi (j := 2) (by omega), CL_e C hi (j := 3) (by omega)]
  by_cases c1 : eS M ((fl M 64).getD i 0) 0 = eS M ((fl M 64).getD i 0) 1
  · by_cases c2 : eS M ((fl M 64).getD i 0) 2 = eS M ((fl M 64).getD i 0) 3
    · rw [if_neg (fun n9 => n9 c1), if_neg (fun n9 => n9 c2), if_pos ⟨c1, c2⟩]; rfl
    · rw [if_neg (fun n9 => n9 c1), if_pos c2, if_neg (fun q => c2 q.2)]; rfl
  · rw [if_pos c1, if_neg (fun q => c1 q.1)]; rfl
theorem e_placeX {i : Nat} (H : Sh h r) (C : CL h M 64) (h15 : ln M ≤ 15) (hi : i < ln M) : f_X1_placeX f 38 (nI i) h = some (eS M ((fl M 64).getD i 0) 0, h) := by
  unfold f_X1_placeX
  have c0 := CL_e C hi (j := 0) (by omega)
  rw [Nat.add_zero] at c0
  rw [gr_k (S_38 H) (R_38_8 H), Option.bind_some, i4, ai_nI (S_47 H) (show 4 * i < 60 by omega) (by decide), Option.bind_some, c0]
theorem e_placeY {i : Nat} (H : Sh h r) (C : CL h M 64) (h15 : ln M ≤ 15) (hi : i < ln M) : f_X1_placeY f 38 (nI i) h = some (eS M ((fl M 64).getD i 0) 2, h) := by
  unfold f_X1_placeY
  rw [gr_k (S_38 H) (R_38_8 H), Option.bind_some, i4, nI_p2, ai_nI (S_47 H) (show 4 * i + 2 < 60 by omega) (by decide), Option.bind_some, CL_e C hi (j := 2) (by omega)]
def smP (M : Ma) (i j : Nat) : Bool := (pl M i).isSome && decide (pl M i = pl M j)
theorem e_same {i j : Nat} (H : Sh h r) (C : CL h M 64) (h15 : ln M ≤ 15) (hi : i < ln M) (hj : j < ln M) : f_X1_areSamePlace f 38 (nI i) (nI j) h = some (b2 (smP M i j), h) := by
  unfold f_X1_areSamePlace b_X1_areSamePlace_46 b_X1_areSamePlace_47 smP
  rw [on_k (S_38 H), e_isPlace H C h15 hi, bi_mk]
  cases e1 : pl M i with
  | none => rfl
  | some p =>
    rw [Option.isSome_some, b2T, if_neg c10, on_k (S_38 H), e_isPlace H C h15 hj, bi_mk]
    cases e2 : pl M j with
    | none => rfl
    | some q =>
      obtain ⟨a1, a2, a3, a4⟩ := plc_s e1
      obtain ⟨b1, b2', b3, b4⟩ := plc_s e2
      rw [Option.isSome_some, b2T, if_neg c10]
      simp only [on_k (S_38 H), e_placeX H C h15 hi, e_placeX H C h15 hj, e_placeY H C h15 hi, e_placeY H C h15 hj, bi_mk, a1, a3, b1, b3]
      by_cases c1 : p.1 = q.1
      · by_cases c2 : p.2 = q.2
        · have : p = q := Prod.ext c1 c2
          subst this
          simp [q_bo, b2]
        · have : ¬ p = q := fun e => c2 (by rw [e])
          simp [c1, c2, this, q_bo, b2]
      · have : ¬ p = q := fun e => c1 (by rw [e])
        simp [c1, this, q_bo, b2]
theorem e_ahead {i j : Nat} {p q : Pt} (H : Sh h r) (C : CL h M 64) (h15 : ln M ≤ 15) (hi : i < ln M) (hj : j < ln M) (e1 : pl M i = some p) (e2 : pl M j = some q) : ∃ b, f_X1_comesAhead f 38 (nI i) (nI j) h = some (b2 b, h) ∧ (b = true ↔ lx p q) := by
  obtain ⟨a1, a2, a3, a4⟩ := plc_s e1
  obtain ⟨b1, b2', b3, b4⟩ := plc_s e2
  unfold f_X1_comesAhead b_X1_comesAhead_31 b_X1_comesAhead_50 lx
  simp only [on_k (S_38 H), e_placeX H C h15 hi, e_placeX H C h15 hj, e_placeY H C h15 hi, e_placeY H C h15 hj, bi_mk, a1, a3, b1, b3]
  by_cases c1 : p.1 = q.1
  · rw [if_pos c1]
    by_cases c2 : q.2 ≤ p.2
    · refine ⟨false, by rw [if_pos c2]; rfl, ?_⟩
      simp only [Bool.false_eq_true, false_iff]
      rintro (h1 | ⟨_, h1⟩)
      · rw [c1] at h1; exact Int32.lt_irrefl h1
      · exact Int32.not_le.mpr h1 c2
    · refine ⟨true, by rw [if_neg c2]; rfl, ?_⟩
      simp only [true_iff]
      exact Or.inr ⟨c1, Int32.not_le.mp c2⟩
  · rw [if_neg c1]
    by_cases c2 : q.1 ≤ p.1
    · refine ⟨false, by rw [if_pos c2]; rfl, ?_⟩
      simp only [Bool.false_eq_true, false_iff]
      rintro (h1 | ⟨h1, _⟩)
      · exact Int32.not_le.mpr h1 c2
      · exact c1 h1
    · refine ⟨true, by rw [if_neg c2]; rfl, ?_⟩
      simp only [true_iff]
      exact Or.inl (Int32.not_le.mp c2)
/-- how many sets lead to the place of i -/
def alk (M : Ma) (i : Nat) : Nat := fb_ct (smP M i) (ln M)
theorem alk_s {i : Nat} {p : Pt} (e : pl M i = some p) : alk M i = ct M (ln M) p := by
  unfold alk ct
  refine fb_ct_cong (fun j _ => ?_)
  unfold smP
  rw [e]
  simp [eq_comm]
theorem alk_n {i : Nat} (e : pl M i = none) : alk M i = 0 := by
  unfold alk
  rw [fb_ct_zero]
  intro k _
  unfold smP; rw [e]; rfl
def QP (a j : Nat) : Bool := decide (a = 38) && (decide (j = 14) || decide (j = 15))
theorem CL_QP {h h' : Hp} (F : Fr QP h h') (C : CL h M 64) : CL h' M 64 := by
  unfold CL at C ⊢
  rw [F.1 38 12 rfl]
  refine ⟨C.1, fun i s hs => ⟨?_, fun j hj => ?_⟩⟩
  · rw [F.1 46 i rfl]; exact (C.2 i s hs).1
  · rw [F.1 47 _ rfl]; exact (C.2 i s hs).2 j hj
def CP (h : Hp) (M : Ma) (i : Nat) : Prop := (zI h 38 14 = -1 ∧ zI h 38 15 = 0 ∧ ∀ j, j < i → pl M j = none) ∨ (∃ j p, j < i ∧ pl M j = some p ∧ zI h 38 14 = nI j ∧ zI h 38 15 = nI (ct M (ln M) p) ∧ IsB M i p)
theorem cp_in {i : Nat} {k12 : Nat → Int32 → Hp → Option Hp} (H : Sh h r) (C : CL h M 64) (h15 : ln M ≤ 15) (hi : i < ln M) (P : CP h M i) : ∀ (d j : Nat), j ≤ ln M → ln M < j + d → ∃ h', Fr QP h h' ∧ CP h' M (i + 1) ∧ l_X1_choosePlace_24 f k12 d 38 (nI i) (nI (fb_ct (smP M i) j)) (nI j) h = k12 38 (nI (i + 1)) h' := by
  intro d
  induction d with
  | zero => intro j h1 h2; omega
  | succ d ih =>
    intro j hj hjd
    show ∃ h', _ ∧ _ ∧ b_X1_choosePlace_24 f k12 (l_X1_choosePlace_24 f k12 d) 38 (nI i) _ (nI j) h = _
    unfold b_X1_choosePlace_24 b_X1_choosePlace_44 b_X1_choosePlace_82 b_X1_choosePlace_92 lt
    have C1 : zI h 38 12 = nI (ln M) := C.1
    rw [gi_k (S_38 H), Option.bind_some, C1]
    by_cases c : j = ln M
    · have ea : fb_ct (smP M i) j = alk M i := by rw [c]; rfl
      rw [if_pos ((nI_leI (by omega) (by omega)).mpr (by omega)), gi_k (S_38 H), Option.bind_some, ea]
      simp only [nI_p1]
      have al15 : alk M i ≤ 15 := Nat.le_trans (fb_ct_le _ _) h15
      have new : ∀ p, pl M i = some p → IsB M (i + 1) p → ∃ h', Fr QP h h' ∧ CP h' M (i + 1) ∧ ((q_pi h 38 1 14 (nI i)).bind fun h1_ => (q_pi h1_ 38 1 15 (nI (alk M i))).bind fun h2_ => k12 38 (nI (i + 1)) h2_) = k12 38 (nI (i + 1)) h' := fun p ep ib => by
        refine ⟨sI (sI h 38 14 (nI i)) 38 15 (nI (alk M i)), Fr_then (Fr_sI rfl) rfl, Or.inr ⟨i, p, by omega, ep, by simp [zI_sI], by rw [zI_sI, if_pos ⟨rfl, rfl⟩, alk_s ep], ib⟩, ?_⟩
        rw [pi_k (S_38 H), Option.bind_some, pi_k (S_38 (Sh_sI H _ _ _)), Option.bind_some]
      rcases P with ⟨p1, p2, p3⟩ | ⟨j0, p, p1, p2, p3, p4, p5⟩
      · rw [p2]
        cases ep : pl M i with
        | none =>
          have a0 := alk_n ep
          refine ⟨h, Fr_rf _ _, Or.inl ⟨p1, p2, fun j hj => ?_⟩, ?_⟩
          · by_cases e : j = i
            · rw [e]; exact ep
            · exact p3 j (by omega)
          · rw [a0, if_neg (by decide), if_pos (by decide)]
        | some p =>
          have a0 : 0 < alk M i := by rw [alk_s ep]; exact ct_pos hi ep
          rw [if_pos (by rw [fa_lt, nI_toInt (by omega), i0]; omega)]
          exact new p ep (fun j hj q eq => by
            by_cases e : j = i
            · rw [e, ep] at eq; injection eq with eq; exact Or.inl eq.symm
            · rw [p3 j (by omega)] at eq; cases eq)
      · have c15 := ct_le M (ln M) p
        rw [p4]
        have keep : (∀ q, pl M i = some q → q = p ∨ bt M p q) → CP h M (i + 1) := fun g => Or.inr ⟨j0, p, by omega, p2, p3, p4, fun j hj q eq => by
          by_cases e : j = i
          · rw [e] at eq; exact g q eq
          · exact p5 j (by omega) q eq⟩
        cases ep : pl M i with
        | none =>
          have a0 := alk_n ep
          refine ⟨h, Fr_rf _ _, keep (fun q eq => by rw [ep] at eq; cases eq), ?_⟩
          rw [a0, if_neg (fun e => by have := (nI_ltI (a := ct M (ln M) p) (b := 0) (by omega) (by omega)).mp e; omega), if_pos (by decide)]
        | some q =>
          have aq := alk_s ep
          have a0 : 0 < alk M i := by rw [aq]; exact ct_pos hi ep
          have better : bt M q p → IsB M (i + 1) q := fun b j hj q' eq => by
            by_cases e : j = i
            · rw [e, ep] at eq; injection eq with eq; exact Or.inl eq.symm
            · rcases p5 j (by omega) q' eq with e' | e'
              · rw [e']; exact Or.inr b
              · exact Or.inr (bt_tr b e')
          by_cases c1 : ct M (ln M) p < alk M i
          · rw [if_pos ((nI_ltI (by omega) (by omega)).mpr c1)]
            exact new q ep (better (Or.inl (by rw [← aq]; exact c1)))
          · rw [if_neg (fun e => c1 ((nI_ltI (by omega) (by omega)).mp e)), if_neg (by rw [fa_le, nI_toInt (by omega), i0]; omega), Option.bind_some]
            by_cases c2 : alk M i = ct M (ln M) p
            · rw [if_neg (fun n9 => n9 (by rw [c2])), gi_k (S_38 H), Option.bind_some, p3, on_k (S_38 H)]
              obtain ⟨bb, e1, e2⟩ := e_ahead (f := f) H C h15 hi (show j0 < ln M by omega) ep p2
              rw [e1, bi_mk]
              cases bb with
              | true =>
                rw [b2T, if_neg c10]
                exact new q ep (better (Or.inr ⟨by omega, e2.mp rfl⟩))
              | false =>
                refine ⟨h, Fr_rf _ _, keep (fun q' eq => ?_), by rw [b2F, if_pos rfl]⟩
                rw [ep] at eq; injection eq with eq; subst eq
                have nl : ¬ lx q p := fun hh => by have := e2.mpr hh; cases this
                by_cases eqp : q = p
                · exact Or.inl eqp
                · refine Or.inr (Or.inr ⟨by omega, ?_⟩)
                  unfold lx at nl ⊢
                  rcases fa_three q.1 p.1 with t | t | t
                  · exact absurd (Or.inl t) nl
                  · rcases fa_three q.2 p.2 with u | u | u
                    · exact absurd (Or.inr ⟨t, u⟩) nl
                    · exact absurd (Prod.ext t u) eqp
                    · exact Or.inr ⟨t.symm, u⟩
                  · exact Or.inl t
            · refine ⟨h, Fr_rf _ _, keep (fun q' eq => ?_), by rw [if_pos (fun e => c2 ((nI_eq (by omega) (by omega)).mp e))]⟩
              rw [ep] at eq; injection eq with eq; subst eq
              exact Or.inr (Or.inl (by omega))
    · have hj' : j < ln M := by omega
      rw [if_neg (fun e => by have := (nI_leI (a := ln M) (b := j) (by omega) (by omega)).mp e; omega), on_k (S_38 H), e_same H C h15 hi hj', bi_mk]
      simp only [nI_p1]
      have ih' := ih (j + 1) (by omega) (by omega)
      rw [fb_ct_succ] at ih'
      cases es : smP M i j with
      | false => rw [es] at ih'; rw [b2F, if_pos rfl]; exact ih'
      | true => rw [es] at ih'; rw [b2T, if_neg c10]; exact ih'
theorem cp_go {h0 : Hp} (H0 : Sh h0 r) (C0 : CL h0 M 64) (h15 : ln M ≤ 15) (hf : 30 ≤ f) : ∀ (d i : Nat) (h : Hp), i ≤ ln M → ln M < i + d → Fr QP h0 h → CP h M i → ∃ h', Fr QP h0 h' ∧ CP h' M (ln M) ∧ l_X1_choosePlace_12 f d 38 (nI i) h = some h' := by
  intro d
  induction d with
  | zero => intro i h h1 h2; omega
  | succ d ih =>
    intro i h hi hid F P
    have H := Fr_Sh F H0
    have C := CL_QP F C0
    show ∃ h', _ ∧ _ ∧ b_X1_choosePlace_12 f (l_X1_choosePlace_12 f d) 38 (nI i) h = _
    unfold b_X1_choosePlace_12
    have C1 : zI h 38 12 = nI (ln M) := C.1
    rw [gi_k (S_38 H), Option.bind_some, C1]
    by_cases c : i = ln M
    · exact ⟨h, F, by rw [← c]; exact P, by rw [if_pos ((nI_leI (by omega) (by omega)).mpr (by omega))]⟩
    · rw [if_neg (fun e => by have := (nI_leI (a := ln M) (b := i) (by omega) (by omega)).mp e; omega)]
      obtain ⟨h1, F1, P1, e1⟩ := cp_in (f := f) (k12 := l_X1_choosePlace_12 f d) H C h15 (show i < ln M by omega) P f 0 (by omega) (by omega)
      obtain ⟨h', F', P', e'⟩ := ih (i + 1) h1 (by omega) (by omega) (Fr_tr F F1) P1
      exact ⟨h', F', P', Eq.trans e1 e'⟩
theorem e_choose (H : Sh h r) (C : CL h M 64) (h15 : ln M ≤ 15) (hf : 30 ≤ f) : ∃ h', Fr QP h h' ∧ CP h' M (ln M) ∧ f_X1_choosePlace f 38 h = some h' := by
  unfold f_X1_choosePlace
  rw [pi_k (S_38 H), Option.bind_some, pi_k (S_38 (Sh_sI H _ _ _)), Option.bind_some]
  have F : Fr QP h (sI (sI h 38 14 (-1)) 38 15 0) := Fr_then (Fr_sI rfl) rfl
  obtain ⟨h', F', P', e'⟩ := cp_go (f := f) (Fr_Sh F H) (CL_QP F C) h15 hf f 0 _ (by omega) (by omega) (Fr_rf _ _) (Or.inl ⟨by simp [zI_sI], by simp [zI_sI], fun j hj => by omega⟩)
  exact ⟨h', Fr_tr F F', P', e'⟩
/-! spades: how many unlike places -/
theorem un_in {i n : Nat} {k4 : Nat → Int32 → Int32 → Hp → Option (Int32 × Hp)} (H : Sh h r) (C : CL h M 64) (h15 : ln M ≤ 15) (hi : i < ln M) (hs : (pl M i).isSome = true) : ∀ (d j : Nat), j ≤ i → i < j + d → l_X1_unlikePlaces_27 f k4 d 38 (nI n) (nI i) (b2 (allF (fun j => !decide (pl M j = pl M i)) j)) (nI j) h = k4 38 (nI (n + if nw M i then 1 else 0)) (nI (i + 1)) h := by
  intro d
  induction d with
  | zero => intro j h1 h2; omega
  | succ d ih =>
    intro j hj hjd
    show b_X1_unlikePlaces_27 f k4 (l_X1_unlikePlaces_27 f k4 d) 38 (nI n) (nI i) _ (nI j) h = _
    unfold b_X1_unlikePlaces_27 b_X1_unlikePlaces_69 b_X1_unlikePlaces_51 b_X1_unlikePlaces_52 lt
    have z : ∀ x : Nat, nI x + (0 : Int32) = nI (x + 0) := fun x => nI_add x 0
    simp only [nI_p1, z]
    by_cases c : j = i
    · have en : nw M i = allF (fun j => !decide (pl M j = pl M i)) i := by unfold nw; rw [hs]; rfl
      rw [c, if_pos ((nI_leI (by omega) (by omega)).mpr (by omega)), ← en]
      cases nw M i with
      | true => rw [b2T, if_neg c10]; rfl
      | false => rw [b2F, if_pos rfl]; rfl
    · rw [if_neg (fun e => by have := (nI_leI (a := i) (b := j) (by omega) (by omega)).mp e; omega)]
      have ih' := ih (j + 1) (by omega) (by omega)
      rw [allF_s] at ih'
      cases e0 : allF (fun j => !decide (pl M j = pl M i)) j with
      | false =>
        rw [e0, Bool.false_and, b2F] at ih'
        rw [b2F, if_pos rfl]
        exact ih'
      | true =>
        rw [e0, Bool.true_and] at ih'
        rw [b2T, if_neg c10, on_k (S_38 H), e_same H C h15 hi (by omega), bi_mk]
        have es : smP M i j = decide (pl M j = pl M i) := by unfold smP; rw [hs]; simp [eq_comm]
        rw [es]
        cases e1 : decide (pl M j = pl M i) with
        | true => rw [e1, Bool.not_true, b2F] at ih'; rw [b2T, if_pos c10]; exact ih'
        | false => rw [e1, Bool.not_false, b2T] at ih'; rw [b2F, if_neg (by simp)]; exact ih'
theorem un_go (H : Sh h r) (C : CL h M 64) (h15 : ln M ≤ 15) (hf : 30 ≤ f) : ∀ (d i : Nat), i ≤ ln M → ln M < i + d → (∀ j, j < i → (pl M j).isSome = true) → l_X1_unlikePlaces_4 f d 38 (nI (ds M i)) (nI i) h = some ((if ln M = 0 ∨ np M (ln M) < ln M then -1 else nI (ds M (ln M))), h) := by
  intro d
  induction d with
  | zero => intro i h1 h2; omega
  | succ d ih =>
    intro i hi hid hal
    show b_X1_unlikePlaces_4 f (l_X1_unlikePlaces_4 f d) 38 _ (nI i) h = _
    unfold b_X1_unlikePlaces_4 b_X1_unlikePlaces_89
    have C1 : zI h 38 12 = nI (ln M) := C.1
    rw [gi_k (S_38 H), Option.bind_some, C1]
    by_cases c : i = ln M
    · rw [if_pos ((nI_leI (by omega) (by omega)).mpr (by omega)), Option.bind_some]
      have nf : np M (ln M) = ln M := by
        unfold np
        have : fb_ct (fun j => (pl M j).isSome) (ln M) = fb_ct (fun _ => true) (ln M) := fb_ct_cong (fun j hj => hal j (by omega))
        rw [this]
        have := fb_ct_not (fun _ => true) (ln M)
        have z : fb_ct (fun _ => !true) (ln M) = 0 := fb_ct_zero.mpr (fun k _ => rfl)
        omega
      by_cases c0 : ln M = 0
      · rw [c0, if_neg (fun n9 => n9 rfl), if_pos (Or.inl rfl)]
      · rw [if_pos (n0_of (by omega) (by omega)), if_neg (by omega), c]
    · have hi' : i < ln M := by omega
      rw [if_neg (fun e => by have := (nI_leI (a := ln M) (b := i) (by omega) (by omega)).mp e; omega), on_k (S_38 H), e_isPlace H C h15 hi', bi_mk]
      cases ep : (pl M i).isSome with
      | false =>
        rw [b2F, if_neg (by simp)]
        have : np M (ln M) < ln M := by
          have h1 := fb_ct_not (fun j => (pl M j).isSome) (ln M)
          have h2 : 0 < fb_ct (fun j => !(pl M j).isSome) (ln M) := by
            rcases Nat.eq_zero_or_pos (fb_ct (fun j => !(pl M j).isSome) (ln M)) with q | q
            · have := (fb_ct_zero.mp q) i hi'
              rw [ep] at this; cases this
            · exact q
          unfold np; omega
        rw [if_pos (Or.inr this)]
      | true =>
        rw [b2T, if_pos c10]
        have u := un_in (f := f) (n := ds M i) (k4 := l_X1_unlikePlaces_4 f d) H C h15 hi' ep f 0 (by omega) (by omega)
        refine Eq.trans u ?_
        have ih' := ih (i + 1) (by omega) (by omega) (fun j hj => by
          by_cases e : j = i
          · rw [e]; exact ep
          · exact hal j (by omega))
        unfold ds at ih' ⊢
        rw [fb_ct_succ] at ih'
        exact ih'
end P1
