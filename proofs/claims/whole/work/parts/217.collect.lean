/-! ===== class: collect ===== -/
def JC (h : Hp) (r : Rs) (M : Ma) : Prop := Sh h r ∧ Jp r ∧ Jq r ∧ zI h r.2.2.2.1 7 = aW M ∧ zI h 39 = aK M ∧ zI h 40 = aX M ∧ zI h 41 = aY M ∧ zI h r.2.2.2.1 4 = nI (aN M) ∧ zI h r.2.2.2.1 6 = nI (aL M) ∧ zI h (r.2.2.2.2 + 2) = aSx M ∧ zI h (r.2.2.2.2 + 3) = aSy M ∧ zI h 38 11 = nI (aC M) ∧ zI h r.2.2.2.1 8 = nI (aA M) ∧ zI h r.2.2.2.1 9 = nI (aB M) ∧ zI h r.2.2.2.1 10 = nI (aD M)
def QJ (a j : Nat) : Bool := (decide (42 ≤ a) && decide (a ≤ 47)) || (decide (a = 38) && (decide (j = 12) || decide (j = 13)))
theorem QJ_f {a j : Nat} (h1 : ¬ (42 ≤ a ∧ a ≤ 47)) (h2 : a ≠ 38 ∨ (j ≠ 12 ∧ j ≠ 13)) : QJ a j = false := by
  unfold QJ
  simp only [Bool.or_eq_false_iff, Bool.and_eq_false_iff, decide_eq_false_iff_not]
  omega
theorem QC_QJ : ∀ a j, QJ a j = false → QC a j = false := fun a j e => by
  unfold QJ at e; unfold QC
  simp only [Bool.or_eq_false_iff, Bool.and_eq_false_iff, decide_eq_false_iff_not] at e ⊢
  omega
theorem JC_Fr {h h' : Hp} {r : Rs} {M : Ma} (F : Fr QJ h h') (J : JC h r M) : JC h' r M := by
  obtain ⟨H, jp, jq, e1, e2, e3, e4, e5, e6, e7, e8, e9, e10, e11, e12⟩ := J
  have ip : zI h' r.2.2.2.1 = zI h r.2.2.2.1 := Fr_row F (fun j => QJ_f (by rcases jp with q | q <;> omega) (Or.inl (by rcases jp with q | q <;> omega)))
  have iq2 : zI h' (r.2.2.2.2 + 2) = zI h (r.2.2.2.2 + 2) := Fr_row F (fun j => QJ_f (by rcases jq with q | q <;> omega) (Or.inl (by rcases jq with q | q <;> omega)))
  have iq3 : zI h' (r.2.2.2.2 + 3) = zI h (r.2.2.2.2 + 3) := Fr_row F (fun j => QJ_f (by rcases jq with q | q <;> omega) (Or.inl (by rcases jq with q | q <;> omega)))
  have i39 : zI h' 39 = zI h 39 := Fr_row F (fun j => rfl)
  have i40 : zI h' 40 = zI h 40 := Fr_row F (fun j => rfl)
  have i41 : zI h' 41 = zI h 41 := Fr_row F (fun j => rfl)
  refine ⟨Fr_Sh F H, jp, jq, ?_⟩
  rw [ip, iq2, iq3, i39, i40, i41, F.1 38 11 rfl]
  exact ⟨e1, e2, e3, e4, e5, e6, e7, e8, e9, e10, e11, e12⟩
def ls (h : Hp) (a k : Nat) : Int32 := if hb (zI h 38 13) (nI k) then zI h a k else 0
def ms (h : Hp) (a k : Nat) : Int32 := if hb (zI h 38 13) (nI k) then zI h a k else 99
section C7
variable {f : Nat} {r : Rs} {h : Hp}
theorem e_least {a k : Nat} (H : Sh h r) (ha : zS h a = (9, 9)) (hk : k < 9) : f_X1_least f 38 a (nI k) h = some (ls h a k, h) := by
  unfold f_X1_least b_X1_least_18 ls
  rw [gi_k (S_38 H), Option.bind_some, e_isIn, bi_mk]
  cases hb (zI h 38 13) (nI k) with
  | false => rfl
  | true => rw [b2T, if_neg c10, ai_nI ha hk (by decide), Option.bind_some, if_pos rfl]
theorem e_most {a k : Nat} (H : Sh h r) (ha : zS h a = (9, 9)) (hk : k < 9) : f_X1_most f 38 a (nI k) h = some (ms h a k, h) := by
  unfold f_X1_most b_X1_most_19 ms
  rw [gi_k (S_38 H), Option.bind_some, e_isIn, bi_mk]
  cases hb (zI h 38 13) (nI k) with
  | false => rfl
  | true => rw [b2T, if_neg c10, ai_nI ha hk (by decide), Option.bind_some, if_pos rfl]
theorem ls_47 (h : Hp) (j : Nat) (v : Int32) {a : Nat} (ha : a ≠ 47) (k : Nat) : ls (sI h 47 j v) a k = ls h a k := by
  unfold ls; rw [zI_row (by decide), zI_row ha]
theorem ms_47 (h : Hp) (j : Nat) (v : Int32) {a : Nat} (ha : a ≠ 47) (k : Nat) : ms (sI h 47 j v) a k = ms h a k := by
  unfold ms; rw [zI_row (by decide), zI_row ha]
def naH (h : Hp) (i a b d : Nat) : Hp := sI (sI (sI (sI h 47 i (ls h 42 a + ls h 42 b - ms h 43 d)) 47 (i + 1) (ms h 43 a + ms h 43 b - ls h 42 d)) 47 (i + 2) (ls h 44 a + ls h 44 b - ms h 45 d)) 47 (i + 3) (ms h 45 a + ms h 45 b - ls h 44 d)
theorem e_noteArea {i a b d : Nat} (H : Sh h r) (jp : Jp r) (hi : i + 3 < 60) (ea : zI h r.2.2.2.1 8 = nI a) (eb : zI h r.2.2.2.1 9 = nI b) (ed : zI h r.2.2.2.1 10 = nI d) (ha : a < 9) (hb9 : b < 9) (hd : d < 9) : f_X1_noteArea f 38 (nI i) h = some (naH h i a b d) := by
  unfold f_X1_noteArea naH
  have p1 : nI i + 1 = nI (i + 1) := nI_add i 1
  have p2 : nI i + 2 = nI (i + 2) := nI_add i 2
  have p3 : nI i + 3 = nI (i + 3) := nI_add i 3
  simp only [gr_k (S_38 H) (R_38_9 H), Option.bind_some, gi_k (Ip_S H jp), ea, eb, ed, gr_k (S_38 H) (R_38_8 H), gr_k (S_38 H) (R_38_3 H), gr_k (S_38 H) (R_38_4 H), on_k (S_38 H), e_least H (S_42 H) ha, e_least H (S_42 H) hb9, e_most H (S_43 H) hd, bi_mk, as_nI (S_47 H) (show i < 60 by omega) (by decide), p1, p2, p3]
  have H1 : ∀ v1, Sh (sI h 47 i v1) r := fun _ => H
  have H2 : ∀ v1 v2, Sh (sI (sI h 47 i v1) 47 (i + 1) v2) r := fun _ _ => H
  have H3 : ∀ v1 v2 v3, Sh (sI (sI (sI h 47 i v1) 47 (i + 1) v2) 47 (i + 2) v3) r := fun _ _ _ => H
  simp only [gr_k (S_38 (H1 _)) (R_38_8 (H1 _)), gr_k (S_38 (H1 _)) (R_38_3 (H1 _)), gr_k (S_38 (H1 _)) (R_38_4 (H1 _)), on_k (S_38 (H1 _)), e_most (H1 _) (S_43 (H1 _)) ha, e_most (H1 _) (S_43 (H1 _)) hb9, e_least (H1 _) (S_42 (H1 _)) hd, bi_mk, Option.bind_some, as_nI (S_47 (H1 _)) (show i + 1 < 60 by omega) (by decide)]
  simp only [gr_k (S_38 (H2 _ _)) (R_38_8 (H2 _ _)), gr_k (S_38 (H2 _ _)) (R_38_5 (H2 _ _)), gr_k (S_38 (H2 _ _)) (R_38_6 (H2 _ _)), on_k (S_38 (H2 _ _)), e_least (H2 _ _) (S_44 (H2 _ _)) ha, e_least (H2 _ _) (S_44 (H2 _ _)) hb9, e_most (H2 _ _) (S_45 (H2 _ _)) hd, bi_mk, Option.bind_some, as_nI (S_47 (H2 _ _)) (show i + 2 < 60 by omega) (by decide)]
  simp only [gr_k (S_38 (H3 _ _ _)) (R_38_8 (H3 _ _ _)), gr_k (S_38 (H3 _ _ _)) (R_38_5 (H3 _ _ _)), gr_k (S_38 (H3 _ _ _)) (R_38_6 (H3 _ _ _)), on_k (S_38 (H3 _ _ _)), e_most (H3 _ _ _) (S_45 (H3 _ _ _)) ha, e_most (H3 _ _ _) (S_45 (H3 _ _ _)) hb9, e_least (H3 _ _ _) (S_44 (H3 _ _ _)) hd, bi_mk, Option.bind_some, as_nI (S_47 (H3 _ _ _)) (show i + 3 < 60 by omega) (by decide)]
  simp only [ls_47 _ _ _ (show (42 : Nat) ≠ 47 by decide), ls_47 _ _ _ (show (44 : Nat) ≠ 47 by decide), ms_47 _ _ _ (show (43 : Nat) ≠ 47 by decide), ms_47 _ _ _ (show (45 : Nat) ≠ 47 by decide)]
end C7
theorem en_ap {h0 h : Hp} {w : Int32} {s n k : Nat} (O : ApOut h0 h w (nI s) n) (hK : ∀ m, m < 6 → ∀ k, n ≤ k → k < 9 → hb (zI h0 39 m) (nI k) = false) (hk : k < 9) : ls h 42 k = enO 0 (bxN w (zI h0 39) (zI h0 40) (zI h0 41) s k) ∧ ms h 43 k = enO 1 (bxN w (zI h0 39) (zI h0 40) (zI h0 41) s k) ∧ ls h 44 k = enO 2 (bxN w (zI h0 39) (zI h0 40) (zI h0 41) s k) ∧ ms h 45 k = enO 3 (bxN w (zI h0 39) (zI h0 40) (zI h0 41) s k) := by
  obtain ⟨-, -, o3, o4⟩ := O
  unfold ls ms
  by_cases c : k < n
  · obtain ⟨o5, o6⟩ := o3 k c
    rw [o6]
    change CB h k = cbx (bxN w (zI h0 39) (zI h0 40) (zI h0 41) s k) at o5
    change _ = _ ∧ _ = _ ∧ _ = _ ∧ _ = _
    have e : bxk w (nI s) (zI h0 39) (zI h0 40) (zI h0 41) k 6 = bxN w (zI h0 39) (zI h0 40) (zI h0 41) s k := rfl
    rw [e]
    cases q : bxN w (zI h0 39) (zI h0 40) (zI h0 41) s k with
    | none => exact ⟨rfl, rfl, rfl, rfl⟩
    | some B =>
      rw [q] at o5
      unfold CB cbx at o5
      subst o5
      exact ⟨rfl, rfl, rfl, rfl⟩
  · rw [o4 k (by omega) hk]
    unfold bxN
    rw [us_none (fun m hm => hK m hm k (by omega) hk) 6 (by omega)]
    exact ⟨rfl, rfl, rfl, rfl⟩
/-- what stands in the rows behind collect -/
def CL (h : Hp) (M : Ma) (t : Nat) : Prop := zI h 38 12 = nI (fl M t).length ∧ ∀ i s, (fl M t)[i]? = some s → zI h 46 i = nI s ∧ ∀ j, j < 4 → zI h 47 (4 * i + j) = eS M s j
theorem co_go {f : Nat} {r : Rs} {M : Ma} {h0 : Hp} (J0 : JC h0 r M) (O : OkM M) (hf : 30 ≤ f) : ∀ (d s : Nat) (h : Hp), s ≤ 64 → 64 < s + d → Fr QJ h0 h → CL h M s → ∃ h', Fr QJ h0 h' ∧ CL h' M 64 ∧ l_X1_collect_7 f d 38 (nI s) h = some h' := by
  intro d
  induction d with
  | zero => intro s h h1 h2; omega
  | succ d ih =>
    intro s h hs hsd F C
    have J := JC_Fr F J0
    obtain ⟨H, jp, jq, e1, e2, e3, e4, e5, e6, e7, e8, e9, e10, e11, e12⟩ := J
    show ∃ h', _ ∧ _ ∧ b_X1_collect_7 f (l_X1_collect_7 f d) 38 (nI s) h = some h'
    unfold b_X1_collect_7 b_X1_collect_74 lt
    by_cases c : s = 64
    · subst c
      exact ⟨h, F, C, by rw [if_pos (by decide)]⟩
    · have hs6 : s < 64 := by omega
      rw [if_neg (fun e => by have := (nI_ltI (a := 63) (b := s) (by omega) (by omega)).mp e; omega), e_bc, bi_mk, (pc_all s (by omega)).2, gr_k (S_38 H) (R_38_9 H), Option.bind_some, gi_k (Ip_S H jp), Option.bind_some, e6, nI_p1]
      have p9 : pcn s ≤ 9 := by unfold pcn; exact Nat.le_trans List.countP_le_length (by simp)
      by_cases cp : pcn s = aL M
      · rw [if_neg (fun n9 => n9 (by rw [cp])), gi_k (S_38 H), Option.bind_some, C.1]
        have l14 := fl_14 O.2.1 hs6 cp
        rw [if_neg (fun e => by have := (nI_leI (a := 15) (b := (fl M s).length) (by omega) (by omega)).mp e; omega), on_k (S_38 H)]
        obtain ⟨o1, o2, o3, o4, o5, o6, o7, o8, o9⟩ := id O
        obtain ⟨h1, F1, q1, q2⟩ := e_mayLieC (f := f) (s := s) H jp jq e1 e5 o1 hs6 (by omega) e9 o3 e10 e11 e12 o4 o5 o6 hf (by rw [e2, e3, e4]; exact o7) (by rw [e2, e3, e4]; exact o8) (by rw [e2]; exact o9)
        have F1' : Fr QJ h0 h1 := Fr_tr F (Fr_mono (Fr_C F1) QC_QJ)
        have em : mlS (aW M) (zI h 39) (zI h 40) (zI h 41) (aN M) s (zI h (r.2.2.2.2 + 2)) (zI h (r.2.2.2.2 + 3)) (aC M) (aA M) (aB M) (aD M) = mM M s := by rw [e2, e3, e4, e7, e8]; rfl
        rw [em] at q1 q2
        rw [q1, bi_mk]
        have fe12 : zI h1 38 12 = nI (fl M s).length := by rw [F1.1 38 12 (by omega) (by omega)]; exact C.1
        have f46 : ∀ i, zI h1 46 i = zI h 46 i := fun i => F1.1 46 i (by omega) (by omega)
        have f47 : ∀ i, zI h1 47 i = zI h 47 i := fun i => F1.1 47 i (by omega) (by omega)
        cases qm : mM M s with
        | false =>
          rw [b2F, if_pos rfl]
          refine ih (s + 1) h1 (by omega) (by omega) F1' ?_
          unfold CL
          rw [fl_n (by unfold pS; rw [qm]; simp)]
          exact ⟨fe12, fun i t ht => by rw [f46]; refine ⟨(C.2 i t ht).1, fun j hj => ?_⟩; rw [f47]; exact (C.2 i t ht).2 j hj⟩
        | true =>
          obtain ⟨H1, -, -, g1, g2, g3, g4, g5, g6, g7, g8, g9, g10, g11, g12⟩ := JC_Fr F1' J0
          have AO := q2 qm
          have H2 : ∀ v, Sh (sI h1 46 (fl M s).length v) r := fun _ => H1
          have ipz : zI (sI h1 46 (fl M s).length (nI s)) r.2.2.2.1 = zI h1 r.2.2.2.1 := zI_row (by rcases jp with q | q <;> omega)
          rw [b2T, if_neg c10, gr_k (S_38 H1) (R_38_7 H1), Option.bind_some, gi_k (S_38 H1), Option.bind_some, fe12, as_nI (S_46 H1) (by omega) (by decide), Option.bind_some, gi_k (S_38 (H2 _)), Option.bind_some, zI_row (by decide), fe12, on_k (S_38 (H2 _))]
          have m4 : nI (fl M s).length * 4 = nI (4 * (fl M s).length) := by rw [show (4 : Int32) = nI 4 from rfl, pk_mul, Nat.mul_comm]
          rw [m4, e_noteArea (H2 _) jp (by omega) (by rw [ipz]; exact g10) (by rw [ipz]; exact g11) (by rw [ipz]; exact g12) o4 o5 o6, Option.bind_some]
          have H3 : Sh (naH (sI h1 46 (fl M s).length (nI s)) (4 * (fl M s).length) (aA M) (aB M) (aD M)) r := H1
          have z12 : zI (naH (sI h1 46 (fl M s).length (nI s)) (4 * (fl M s).length) (aA M) (aB M) (aD M)) 38 12 = nI (fl M s).length := by
            unfold naH
            simp only [zI_row (show (38 : Nat) ≠ 47 by decide), zI_row (show (38 : Nat) ≠ 46 by decide)]
            exact fe12
          rw [gi_k (S_38 H3), Option.bind_some, z12, pi_k (S_38 H3), Option.bind_some, nI_p1]
          have fy := fl_y (M := M) (t := s) (by unfold pS; rw [qm, cp]; simp)
          refine ih (s + 1) _ (by omega) (by omega) ?_ ?_
          · unfold naH
            exact Fr_then (Fr_then (Fr_then (Fr_then (Fr_then (Fr_then F1' rfl) rfl) rfl) rfl) rfl) rfl
          · unfold CL
            rw [fy]
            refine ⟨by rw [zI_sI, if_pos ⟨rfl, rfl⟩, List.length_append]; rfl, fun i t ht => ?_⟩
            rw [List.getElem?_append] at ht
            by_cases ci : i < (fl M s).length
            · rw [if_pos ci] at ht
              obtain ⟨c1, c2⟩ := C.2 i t ht
              refine ⟨?_, fun j hj => ?_⟩
              · unfold naH
                simp only [zI_row (show (46 : Nat) ≠ 38 by decide), zI_row (show (46 : Nat) ≠ 47 by decide)]
                rw [zI_sI, if_neg (by omega), f46]
                exact c1
              · rw [← c2 j hj, ← f47]
                unfold naH
                rw [zI_row (by decide), zI_sI, if_neg (by omega), zI_sI, if_neg (by omega), zI_sI, if_neg (by omega), zI_sI, if_neg (by omega), zI_row (by decide)]
            · rw [if_neg ci] at ht
              have ei : i = (fl M s).length := by
                by_cases c9 : i - (fl M s).length = 0
                · omega
                · obtain ⟨x, hx⟩ : ∃ x, i - (fl M s).length = x + 1 := ⟨i - (fl M s).length - 1, by omega⟩
                  rw [hx] at ht; simp at ht
              rw [ei, Nat.sub_self] at ht
              have et : s = t := by simpa using ht
              subst et
              rw [ei]
              have e46 : ∀ a, a ≠ 46 → zI (sI h1 46 (fl M s).length (nI s)) a = zI h1 a := fun a ha => zI_row ha
              have L : ∀ a, a ≠ 46 → ∀ k, ls (sI h1 46 (fl M s).length (nI s)) a k = ls h1 a k := fun a ha k => by unfold ls; rw [e46 38 (by decide), e46 a ha]
              have Mm : ∀ a, a ≠ 46 → ∀ k, ms (sI h1 46 (fl M s).length (nI s)) a k = ms h1 a k := fun a ha k => by unfold ms; rw [e46 38 (by decide), e46 a ha]
              have hK9 : ∀ m, m < 6 → ∀ k, aN M ≤ k → k < 9 → hb (zI h 39 m) (nI k) = false := by rw [e2]; exact o9
              have eA := en_ap AO hK9 o4
              have eB := en_ap AO hK9 o5
              have eD := en_ap AO hK9 o6
              rw [e2, e3, e4] at eA eB eD
              refine ⟨?_, fun j hj => ?_⟩
              · unfold naH
                simp only [zI_row (show (46 : Nat) ≠ 38 by decide), zI_row (show (46 : Nat) ≠ 47 by decide)]
                rw [zI_sI, if_pos ⟨rfl, rfl⟩]
              · unfold naH eS bM
                rw [zI_row (by decide)]
                simp only [L 42 (by decide), L 44 (by decide), Mm 43 (by decide), Mm 45 (by decide), eA.1, eA.2.1, eA.2.2.1, eA.2.2.2, eB.1, eB.2.1, eB.2.2.1, eB.2.2.2, eD.1, eD.2.1, eD.2.2.1, eD.2.2.2]
                rcases (show j = 0 ∨ j = 1 ∨ j = 2 ∨ j = 3 by omega) with rfl | rfl | rfl | rfl
                · rw [zI_sI, if_neg (by omega), zI_sI, if_neg (by omega), zI_sI, if_neg (by omega), zI_sI, if_pos ⟨rfl, rfl⟩]; rfl
                · rw [zI_sI, if_neg (by omega), zI_sI, if_neg (by omega), zI_sI, if_pos ⟨rfl, rfl⟩]; rfl
                · rw [zI_sI, if_neg (by omega), zI_sI, if_pos ⟨rfl, rfl⟩]; rfl
                · rw [zI_sI, if_pos ⟨rfl, rfl⟩]; rfl
      · rw [if_pos (fun e => cp ((nI_eq (by omega) (by have := O.2.1; omega)).mp e))]
        refine ih (s + 1) h (by omega) (by omega) F ?_
        unfold CL
        rw [fl_n (by unfold pS; simp [cp])]
        exact C
theorem e_collect {f : Nat} {r : Rs} {M : Ma} {h : Hp} (J : JC h r M) (O : OkM M) (hf : 100 ≤ f) : ∃ h', Fr QJ h h' ∧ CL h' M 64 ∧ f_X1_collect f 38 h = some h' := by
  unfold f_X1_collect
  rw [pi_k (S_38 J.1), Option.bind_some]
  have F : Fr QJ h (sI h 38 12 0) := Fr_sI rfl
  obtain ⟨h', F', C, e⟩ := co_go (f := f) (JC_Fr F J) O (by omega) f 0 _ (by omega) (by omega) (Fr_rf _ _) (by unfold CL; rw [fl_0]; exact ⟨by rw [zI_sI, if_pos ⟨rfl, rfl⟩]; rfl, fun i s hh => by simp at hh⟩)
  exact ⟨h', Fr_tr F F', C, e⟩
