/-! ===== best, spades ===== -/
section P4
variable {f b : Nat} {r : Rs} {h : Hp} {M : Ma}
theorem pl_0 (O : OkM M) (h0 : aN M = 0) (i : Nat) : pl M i = none := by
  unfold pl plc
  generalize (fl M 64).getD i 0 = s
  have bn : ∀ k, k < 9 → bM M s k = none := fun k hk => us_none (fun m hm => O.2.2.2.2.2.2.2.2 m hm k (by omega) hk) 6 (by omega)
  have e0 : eS M s 0 = -99 := by unfold eS; rw [bn _ O.2.2.2.1, bn _ O.2.2.2.2.1, bn _ O.2.2.2.2.2.1]; rfl
  have e1 : eS M s 1 = 198 := by unfold eS; rw [bn _ O.2.2.2.1, bn _ O.2.2.2.2.1, bn _ O.2.2.2.2.2.1]; rfl
  rw [if_neg]
  rintro ⟨q, -⟩
  rw [e0, e1] at q
  revert q; decide
def FP (h : Hp) (M : Ma) : Prop := (PI h M (ln M)) ∨ (zI h 58 44 = nI 0 ∧ zI h 58 45 = nI 0 ∧ ∀ i, pl M i = none)
theorem PI_0 (e44 : zI h 58 44 = nI 0) (e45 : zI h 58 45 = nI 0) : PI h M 0 := by
  refine ⟨e45, [], fun _ => 0, ⟨e44, fun k p hp => by simp at hp⟩, rfl, fun k p hp => by simp at hp, ?_, by simp, rfl⟩
  intro p
  constructor
  · intro hp; cases hp
  · rintro ⟨j, hj, -⟩; omega
theorem e_findPlaces (J : JM h r b M) (hf : 100 ≤ f) : ∃ h', Fr QN h h' ∧ FP h' M ∧ f_X6_findPlaces f 58 (nI b) h = some h' := by
  unfold f_X6_findPlaces
  have H := J.1
  rw [pi_k (S_58 H), Option.bind_some, pi_k (S_58 (Sh_sI H _ _ _)), Option.bind_some]
  have F : Fr QN h (sI (sI h 58 44 0) 58 45 0) := Fr_then (Fr_sI rfl) rfl
  have e44 : zI (sI (sI h 58 44 0) 58 45 0) 58 44 = nI 0 := by simp [zI_sI]; rfl
  have e45 : zI (sI (sI h 58 44 0) 58 45 0) 58 45 = nI 0 := by simp [zI_sI]; rfl
  have J1 := JM_Fr F J
  generalize sI (sI h 58 44 0) 58 45 0 = g at *
  by_cases hn : 0 < aN M
  · obtain ⟨h', F', P', e'⟩ := fp_go (f := f) J1 hn (by omega) f 0 g (by omega) (by omega) (Fr_rf _ _) (PI_0 e44 e45)
    exact ⟨h', Fr_tr F F', Or.inl P', e'⟩
  · have O := J.2.2.2.2.2.2.2.2.2.2
    refine ⟨g, F, Or.inr ⟨e44, e45, fun i => pl_0 O (by omega) i⟩, ?_⟩
    obtain ⟨d, rfl⟩ : ∃ d, f = d + 1 := ⟨f - 1, by omega⟩
    show b_X6_findPlaces_12 (d + 1) (l_X6_findPlaces_12 (d + 1) d) 58 (nI b) 0 g = _
    unfold b_X6_findPlaces_12 b_X6_findPlaces_111
    rw [if_neg (by decide), gi_k (S_58 J1.1), Option.bind_some, J1.2.2.2.1, show aN M = 0 by omega, if_pos (by decide)]
theorem bp_go {ps : List Pt} {g : Nat → Nat} (H : Sh h r) (P : PR h ps g) (l15 : ps.length ≤ 15) (hg : ∀ k p, ps[k]? = some p → g k = ct M (ln M) p) (l9 : ln M ≤ 15) : ∀ (d k : Nat) (v : Int32), k ≤ ps.length → ps.length < k + d → ((v = -1 ∧ k = 0) ∨ ∃ (i : Nat) (p : Pt), v = nI i ∧ i < k ∧ ps[i]? = some p ∧ ∀ k', k' < k → ∀ q, ps[k']? = some q → q = p ∨ bt M p q) → ∃ v', l_X6_bestPlace_4 f d 58 v (nI k) h = some (v', h) ∧ ((v' = -1 ∧ ps = []) ∨ ∃ (i : Nat) (p : Pt), v' = nI i ∧ i < 15 ∧ ps[i]? = some p ∧ ∀ (k' : Nat), ∀ q, ps[k']? = some q → q = p ∨ bt M p q) := by
  intro d
  induction d with
  | zero => intro k v h1 h2; omega
  | succ d ih =>
    intro k v hk hkd I
    show ∃ v', b_X6_bestPlace_4 f (l_X6_bestPlace_4 f d) 58 v (nI k) h = _ ∧ _
    unfold b_X6_bestPlace_4 b_X6_bestPlace_31 b_X6_bestPlace_36 b_X6_bestPlace_60 b_X6_bestPlace_61 b_X6_bestPlace_113 b_X6_bestPlace_117 b_X6_bestPlace_118 b_X6_bestPlace_129 b_X6_bestPlace_134 lt
    simp only [nI_p1]
    rw [gi_k (S_58 H), Option.bind_some, P.1]
    by_cases c : k = ps.length
    · refine ⟨v, by rw [if_pos ((nI_leI (by omega) (by omega)).mpr (by omega))], ?_⟩
      rcases I with ⟨i1, i2⟩ | ⟨i, p, i1, i2, i3, i4⟩
      · exact Or.inl ⟨i1, List.length_eq_zero_iff.mp (by omega)⟩
      · refine Or.inr ⟨i, p, i1, by omega, i3, fun k' q hq => ?_⟩
        rcases Nat.lt_or_ge k' ps.length with h1 | h1
        · exact i4 k' (by omega) q hq
        · rw [List.getElem?_eq_none h1] at hq; cases hq
    · have hk' : k < ps.length := by omega
      have k15 : k < 15 := by omega
      have ek : ps[k]? = some ps[k] := List.getElem?_eq_getElem hk'
      obtain ⟨q1, q2, q3⟩ := P.2 k _ ek
      have gk := hg k _ ek
      rw [if_neg (fun e => by have := (nI_leI (a := ps.length) (b := k) (by omega) (by omega)).mp e; omega)]
      rcases I with ⟨i1, i2⟩ | ⟨i, p, i1, i2, i3, i4⟩
      · subst i1
        simp only [show (-1 : Int32) < 0 from by decide, if_true, c10, not_false_eq_true]
        refine ih (k + 1) (nI k) (by omega) (by omega) (Or.inr ⟨k, ps[k], rfl, by omega, ek, fun k' hk'' q hq => ?_⟩)
        have : k' = k := by omega
        rw [this, ek] at hq; injection hq with hq
        exact Or.inl hq.symm
      · subst i1
        have i15 : i < 15 := by omega
        obtain ⟨t1, t2, t3⟩ := P.2 i _ i3
        have gi := hg i _ i3
        have ctk := ct_le M (ln M) ps[k]
        have cti := ct_le M (ln M) p
        simp only [if_neg (nI_ge0 (n := i) (by omega)), gr_k (S_58 H) (R_58_46 H), gr_k (S_58 H) (R_58_47 H), gr_k (S_58 H) (R_58_48 H), Option.bind_some, ai_nI (S_78 H) k15 (by decide), ai_nI (S_78 H) i15 (by decide), ai_nI (S_79 H) k15 (by decide), ai_nI (S_79 H) i15 (by decide), ai_nI (S_80 H) k15 (by decide), ai_nI (S_80 H) i15 (by decide), q1, q2, q3, t1, t2, t3, gk, gi, c10, not_false_eq_true, if_true, not_true_eq_false, if_false]
        have new : bt M ps[k] p → ∃ v', l_X6_bestPlace_4 f d 58 (nI k) (nI (k + 1)) h = some (v', h) ∧ ((v' = -1 ∧ ps = []) ∨ ∃ (i : Nat) (p : Pt), v' = nI i ∧ i < 15 ∧ ps[i]? = some p ∧ ∀ (k' : Nat), ∀ q, ps[k']? = some q → q = p ∨ bt M p q) := fun bb => ih (k + 1) (nI k) (by omega) (by omega) (Or.inr ⟨k, ps[k], rfl, by omega, ek, fun k' hk'' q hq => by
          by_cases e : k' = k
          · rw [e, ek] at hq; injection hq with hq; exact Or.inl hq.symm
          · rcases i4 k' (by omega) q hq with h1 | h1
            · rw [h1]; exact Or.inr bb
            · exact Or.inr (bt_tr bb h1)⟩)
        have old : (ps[k] = p ∨ bt M p ps[k]) → ∃ v', l_X6_bestPlace_4 f d 58 (nI i) (nI (k + 1)) h = some (v', h) ∧ ((v' = -1 ∧ ps = []) ∨ ∃ (i : Nat) (p : Pt), v' = nI i ∧ i < 15 ∧ ps[i]? = some p ∧ ∀ (k' : Nat), ∀ q, ps[k']? = some q → q = p ∨ bt M p q) := fun bb => ih (k + 1) (nI i) (by omega) (by omega) (Or.inr ⟨i, p, rfl, by omega, i3, fun k' hk'' q hq => by
          by_cases e : k' = k
          · rw [e, ek] at hq; injection hq with hq; rw [← hq]; exact bb
          · exact i4 k' (by omega) q hq⟩)
        by_cases c1 : ct M (ln M) ps[k] ≤ ct M (ln M) p
        · rw [if_pos ((nI_leI (by omega) (by omega)).mpr c1)]
          by_cases c2 : ct M (ln M) ps[k] = ct M (ln M) p
          · rw [if_neg (fun n9 => n9 (by rw [c2]))]
            by_cases c3 : (ps[k]).1 < p.1
            · rw [if_pos c3]
              exact new (Or.inr ⟨c2.symm, Or.inl c3⟩)
            · rw [if_neg c3]
              by_cases c4 : (ps[k]).1 = p.1
              · rw [if_neg (fun n9 => n9 c4)]
                by_cases c5 : p.2 ≤ (ps[k]).2
                · rw [if_pos c5]
                  apply old
                  by_cases c6 : (ps[k]).2 = p.2
                  · exact Or.inl (Prod.ext c4 c6)
                  · exact Or.inr (Or.inr ⟨c2, Or.inr ⟨c4.symm, fa_le_ne c5 (fun e => c6 e.symm)⟩⟩)
                · rw [if_neg c5]
                  exact new (Or.inr ⟨c2.symm, Or.inr ⟨c4, Int32.not_le.mp c5⟩⟩)
              · rw [if_pos c4]
                apply old
                rcases fa_three (ps[k]).1 p.1 with t | t | t
                · exact absurd t c3
                · exact absurd t c4
                · exact Or.inr (Or.inr ⟨c2, Or.inl t⟩)
          · rw [if_pos (fun e => c2 ((nI_eq (by omega) (by omega)).mp e))]
            exact old (Or.inr (Or.inl (by omega)))
        · rw [if_neg (fun e => c1 ((nI_leI (by omega) (by omega)).mp e)), if_pos (fun e => c1 (Nat.le_of_eq ((nI_eq (by omega) (by omega)).mp e)))]
          exact new (Or.inl (by omega))
/-- what the reference finds best -/
def BstM (h : Hp) (M : Ma) (v : Int32) : Prop := (v = -1 ∧ ∀ i, i < ln M → pl M i = none) ∨ (∃ k p j, v = nI k ∧ k < 15 ∧ j < ln M ∧ pl M j = some p ∧ IsB M (ln M) p ∧ zI h 78 k = p.1 ∧ zI h 79 k = p.2 ∧ zI h 80 k = nI (ct M (ln M) p) ∧ zI h 58 45 = nI (ln M))
theorem e_bestM (J : JM h r b M) (hf : 100 ≤ f) : ∃ h' v, Fr QN h h' ∧ f_X6_findPlaces f 58 (nI b) h = some h' ∧ f_X6_bestPlace f 58 h' = some (v, h') ∧ BstM h' M v := by
  obtain ⟨h', F, P, e⟩ := e_findPlaces (f := f) J hf
  have O := J.2.2.2.2.2.2.2.2.2.2
  have l15 : ln M ≤ 15 := fl_15 O.2.1 (Nat.le_refl 64)
  have H' := Fr_Sh F J.1
  rcases P with ⟨p0, ps, g, p1, p2, p3, p4, p5, p6⟩ | ⟨p1, p2, p3⟩
  · have dl : ds M (ln M) ≤ ln M := fb_ct_le _ _
    obtain ⟨v, e1, e2⟩ := bp_go (f := f) (M := M) H' p1 (by omega) p3 l15 f 0 (-1) (by omega) (by omega) (Or.inl ⟨rfl, rfl⟩)
    refine ⟨h', v, F, e, e1, ?_⟩
    rcases e2 with ⟨e2, e3⟩ | ⟨i, p, e2, e3, e4, e5⟩
    · refine Or.inl ⟨e2, fun i hi => ?_⟩
      cases q : pl M i with
      | none => rfl
      | some p =>
        have := (p4 p).mpr ⟨i, hi, q⟩
        rw [e3] at this; cases this
    · obtain ⟨j, hj, ej⟩ := (p4 p).mp (List.mem_of_getElem? e4)
      obtain ⟨q1, q2, q3⟩ := p1.2 i p e4
      refine Or.inr ⟨i, p, j, e2, e3, hj, ej, ?_, q1, q2, by rw [q3, p3 i p e4], p0⟩
      intro j' hj' q eq
      obtain ⟨k', hk', ek'⟩ := List.mem_iff_getElem.mp ((p4 q).mpr ⟨j', hj', eq⟩)
      exact e5 k' q (by rw [List.getElem?_eq_getElem hk', ek'])
  · refine ⟨h', -1, F, e, ?_, Or.inl ⟨rfl, fun i _ => p3 i⟩⟩
    unfold f_X6_bestPlace
    obtain ⟨d, rfl⟩ : ∃ d, f = d + 1 := ⟨f - 1, by omega⟩
    show b_X6_bestPlace_4 (d + 1) (l_X6_bestPlace_4 (d + 1) d) 58 (-1) 0 h' = _
    unfold b_X6_bestPlace_4
    rw [gi_k (S_58 H'), Option.bind_some, p1, if_pos (by decide)]
theorem sp_go {ps : List Pt} {g : Nat → Nat} {n : Nat} (H : Sh h r) (P : PR h ps g) (l15 : ps.length ≤ 15) (e45 : zI h 58 45 = nI n) (hn : n ≤ 15) (hs : sumN g ps.length ≤ 15) : ∀ (d k : Nat), k ≤ ps.length → ps.length < k + d → l_X6_spades_20 f d 58 (nI (sumN g k)) (nI k) h = some ((if n = 0 ∨ sumN g ps.length < n then -1 else nI ps.length), h) := by
  intro d
  induction d with
  | zero => intro k h1 h2; omega
  | succ d ih =>
    intro k hk hkd
    show b_X6_spades_20 f (l_X6_spades_20 f d) 58 _ (nI k) h = _
    unfold b_X6_spades_20 b_X6_spades_58 b_X6_spades_66 lt
    rw [gi_k (S_58 H), Option.bind_some, P.1]
    by_cases c : k = ps.length
    · rw [if_pos ((nI_leI (by omega) (by omega)).mpr (by omega)), gi_k (S_58 H), Option.bind_some, e45]
      by_cases c0 : n = 0
      · rw [c0, if_pos (show nI 0 = 0 from rfl), if_pos (Or.inl rfl)]
      · rw [if_neg (n0_of (by omega) (by omega)), Option.bind_some, c]
        by_cases c1 : sumN g ps.length < n
        · rw [if_neg (fun e => by have := (nI_leI (a := n) (b := sumN g ps.length) (by omega) (by omega)).mp e; omega), if_pos (Or.inr c1)]
        · rw [if_pos ((nI_leI (by omega) (by omega)).mpr (by omega)), Option.bind_some, if_neg (by omega)]
    · have hk' : k < ps.length := by omega
      obtain ⟨q1, q2, q3⟩ := P.2 k _ (List.getElem?_eq_getElem hk')
      rw [if_neg (fun e => by have := (nI_leI (a := ps.length) (b := k) (by omega) (by omega)).mp e; omega), gr_k (S_58 H) (R_58_48 H), Option.bind_some, ai_nI (S_80 H) (by omega) (by decide), Option.bind_some, q3, nI_add, nI_p1]
      exact ih (k + 1) (by omega) (by omega)
end P4
theorem st_spades {f : Nat} (hf : 100 ≤ f) (a : Int32) : StpR (f_X5_spades f 0 a) (f_X6_spades f 58 a) := by
  intro h r R
  have H := R.1
  unfold f_X5_spades f_X6_spades
  simp only [e_bandC, e_bandM, bi_mk, b2_ne]
  cases ea : mkB 6 a with
  | false => exact ⟨_, h, h, r, rfl, by rw [S_58 H], rfl, R⟩
  | true =>
    obtain ⟨b, hb6, rfl⟩ := mkB_t (by decide) ea
    obtain ⟨h', e, W, R', J, C, h15⟩ := weighed (f := f) R hb6 hf
    have H' := R'.1
    obtain ⟨h2, F2, P2, e2⟩ := e_findPlaces (f := f) J hf
    have H2 := Fr_Sh F2 H'
    have l15' : ln (mo h' b) ≤ 15 := h15
    have u := un_go (f := f) H' C h15 (by omega) f 0 (by omega) (by omega) (fun j hj => by omega)
    have u' : f_X1_unlikePlaces f 38 h' = some ((if ln (mo h' b) = 0 ∨ np (mo h' b) (ln (mo h' b)) < ln (mo h' b) then -1 else nI (ds (mo h' b) (ln (mo h' b)))), h') := u
    refine ⟨(if ln (mo h' b) = 0 ∨ np (mo h' b) (ln (mo h' b)) < ln (mo h' b) then -1 else nI (ds (mo h' b) (ln (mo h' b)))), h', h2, rW r, ?_, by rw [S_58 H'], ?_, Rel_QN R' F2⟩
    · rw [if_pos rfl, gr_k (S_0 H) (R_0_10 H), Option.bind_some, gr_k (S_0 H) (R_0_3 H), Option.bind_some, gr_k (S_0 H) (R_0_6 H), Option.bind_some, on_k (S_38 H), e, Option.bind_some, gr_k (S_0 H') (R_0_10 H'), Option.bind_some, on_k (S_38 H'), u', bi_mk]
    · rw [if_pos rfl, on_k (S_58 H'), e2, Option.bind_some]
      rcases P2 with ⟨p0, ps, g, p1, p2, p3, p4, p5, p6⟩ | ⟨p1, p2, p3⟩
      · have dl : ds (mo h' b) (ln (mo h' b)) ≤ ln (mo h' b) := fb_ct_le _ _
        have nl : np (mo h' b) (ln (mo h' b)) ≤ ln (mo h' b) := fb_ct_le _ _
        have l15 : ln (mo h' b) ≤ 15 := h15
        have s := sp_go (f := f) H2 p1 (by omega) p0 l15 (by omega) f 0 (by omega) (by omega)
        rw [p6, p2] at s
        exact s
      · have n0 : np (mo h' b) (ln (mo h' b)) = 0 := by
          unfold np; rw [fb_ct_zero]; intro k _; rw [p3]; rfl
        rw [if_pos (by omega)]
        obtain ⟨d, rfl⟩ : ∃ d, f = d + 1 := ⟨f - 1, by omega⟩
        show b_X6_spades_20 (d + 1) (l_X6_spades_20 (d + 1) d) 58 0 0 h2 = _
        unfold b_X6_spades_20 b_X6_spades_58 b_X6_spades_66
        rw [gi_k (S_58 H2), Option.bind_some, p1, if_pos (by decide), gi_k (S_58 H2), Option.bind_some, p2, if_pos (by decide)]
/-- behind weigh and choosePlace: what the class finds best -/
theorem chosen {f b : Nat} {h : Hp} {r : Rs} (R : Rel h r) (hb6 : b < 6) (hf : 100 ≤ f) : ∃ h1 h', f_X1_weigh f 38 r.1 17 (nI b) h = some h1 ∧ Sh h1 (rW r) ∧ f_X1_choosePlace f 38 h1 = some h' ∧ WF h h' ∧ Rel h' (rW r) ∧ JM h' (rW r) b (mo h' b) ∧ CL h' (mo h' b) 64 ∧ ln (mo h' b) ≤ 15 ∧ CP h' (mo h' b) (ln (mo h' b)) := by
  obtain ⟨h1, e, W, R', J, C, h15⟩ := weighed (f := f) R hb6 hf
  obtain ⟨h', F, P, e'⟩ := e_choose (f := f) R'.1 C h15 (by omega)
  have W' : WF h1 h' := fun a j hh => F.1 a j (by
    unfold QP
    simp only [Bool.and_eq_false_iff, decide_eq_false_iff_not]
    omega)
  have R2 : Rel h' (rW r) := Rel_Sm R' (Fr_Sh F R'.1) rfl rfl (WF_Sm W')
  have em : mo h' b = mo h1 b := WF_mo W' b
  refine ⟨h1, h', e, R'.1, e', WF_tr W W', R2, ?_, ?_, ?_, ?_⟩
  · obtain ⟨-, -, -, -, n', w', l', ga', gb', gc', il', st', -, -, -⟩ := id R2
    exact JM_of R2.1 hb6 (Gd_of il' st' hb6)
  · rw [em]; exact CL_QP F C
  · rw [em]; exact h15
  · rw [em]; exact P
theorem e_worthC {f : Nat} {h : Hp} {r : Rs} {n : Nat} {M : Ma} (H : Sh h r) (jp : Jp r) (C : CL h M 64) (l0 : 0 < ln M) (l15 : ln M ≤ 15) (e15 : zI h 38 15 = nI n) : f_X1_worth f 38 h = some (zI h r.2.2.2.1 12 * nI n / nI (ln M) - zI h r.2.2.2.1 11, h) := by
  unfold f_X1_worth b_X1_worth_36
  have C1 : zI h 38 12 = nI (ln M) := C.1
  have n0 : ¬ nI (ln M) = 0 := n0_of l0 (by omega)
  rw [gi_k (S_38 H), Option.bind_some, C1, if_pos n0, gr_k (S_38 H) (R_38_9 H), Option.bind_some, gi_k (Ip_S H jp), Option.bind_some, gi_k (S_38 H), Option.bind_some, Option.bind_some, q_nz, if_neg n0, Option.bind_some, gi_k (Ip_S H jp), Option.bind_some, e15]
theorem e_worthM {f k : Nat} {h : Hp} {r : Rs} {n m : Nat} (H : Sh h r) (hk : k < 15) (e80 : zI h 80 k = nI n) (e45 : zI h 58 45 = nI m) (m0 : 0 < m) (m15 : m ≤ 15) : f_X6_worthOf f 58 (nI k) h = some (zI h 58 10 * nI n / nI m - zI h 58 9, h) := by
  unfold f_X6_worthOf
  have n0 : ¬ nI m = 0 := n0_of m0 (by omega)
  rw [gi_k (S_58 H), Option.bind_some, gr_k (S_58 H) (R_58_48 H), Option.bind_some, ai_nI (S_80 H) hk (by decide), Option.bind_some, gi_k (S_58 H), Option.bind_some, e45, q_nz, if_neg n0, gi_k (S_58 H), Option.bind_some, e80]
theorem nm1 {k : Nat} (h : k < 1000) : ¬ nI k = -1 := fun e => nI_ge0 (n := k) (by omega) (by rw [e]; decide)
theorem nge {k : Nat} (h : k < 1000) : (0 : Int32) ≤ nI k := Int32.not_lt.mp (nI_ge0 (by omega))
theorem st_best {f : Nat} (hf : 100 ≤ f) (a x : Int32) : StpR (f_X5_best f 0 a x) (f_X6_best f 58 a x) := by
  intro h r R
  have H := R.1
  unfold f_X5_best f_X6_best b_X5_best_19 b_X6_best_88
  simp only [e_bandC, e_bandM, bi_mk, b2_ne]
  cases ea : mkB 6 a with
  | false => exact ⟨_, h, h, r, rfl, by rw [S_58 H], rfl, R⟩
  | true =>
    obtain ⟨b, hb6, rfl⟩ := mkB_t (by decide) ea
    rw [if_pos rfl, rg_le (k := 3) (c := 3) rfl (by omega)]
    cases ex : mkB 4 x with
    | false =>
      rw [if_neg (by decide)]
      exact ⟨_, h, h, r, rfl, by rw [S_58 H], by rw [if_pos rfl, e_inK (k := 3) (by decide) (by omega), bi_mk, ex]; rfl, R⟩
    | true =>
      obtain ⟨j, hj, rfl⟩ := mkB_t (by decide) ex
      obtain ⟨h1, h', e, H1, e', W, R', J, C, l15, P⟩ := chosen (f := f) R hb6 hf
      have H' := R'.1
      have rp := R'.2.1
      obtain ⟨h2, v, F2, e2, e3, B2⟩ := e_bestM (f := f) J hf
      have H2 := Fr_Sh F2 H'
      rw [if_pos rfl, gr_k (S_0 H) (R_0_10 H), Option.bind_some, gr_k (S_0 H) (R_0_3 H), Option.bind_some, gr_k (S_0 H) (R_0_6 H), Option.bind_some, on_k (S_38 H), e, Option.bind_some, gr_k (S_0 H1) (R_0_10 H1), Option.bind_some, on_k (S_38 H1), e', Option.bind_some, gr_k (S_0 H') (R_0_10 H'), Option.bind_some, gi_k (S_38 H'), Option.bind_some]
      have mdl : ∀ K : Option (Int32 × Hp), K = K := fun _ => rfl
      rcases P with ⟨p1, p2, p3⟩ | ⟨i, p, p1, p2, p3, p4, p5⟩
      · have vm : v = -1 := by
          rcases B2 with ⟨b1, -⟩ | ⟨k, p, j, b1, b2', b3, b4, -⟩
          · exact b1
          · rw [p3 j b3] at b4; cases b4
        refine ⟨-1, h', h2, rW r, ?_, by rw [S_58 H'], ?_, Rel_QN R' F2⟩
        · rw [p1, if_neg (fun n9 => n9 rfl)]
        · rw [if_pos rfl, e_inK (k := 3) (by decide) (by omega), bi_mk, ex, b2T, if_pos c10, on_k (S_58 H'), e2, Option.bind_some, on_k (S_58 H2), e3, bi_mk, vm, if_neg (by decide)]
      · rcases B2 with ⟨b1, b2'⟩ | ⟨k, q, j', b1, b2', b3, b4, b5, b6, b7, b8, b9⟩
        · rw [b2' i p1] at p2; cases p2
        · have epq := IsB_un p5 b5 p1 p2 b3 b4
          subst epq
          have pe := plc_s (M := mo h' b) (s := (fl (mo h' b) 64).getD i 0) p2
          have jp : Jp (rW r) := (Rp_p rp : (rW r).1 = 2 ∨ (rW r).1 = 7)
          have i1000 : i < 1000 := by omega
          have l0 : 0 < ln (mo h' b) := by omega
          rw [p3, if_pos (nm1 i1000), sw_k (by omega)]
          obtain ⟨-, -, -, -, n', w', l', ga', gb', gc', il', -⟩ := id R'
          obtain ⟨q1, -, o11, o11'⟩ := il'.2.2.2.2.2.2.2.2.1
          obtain ⟨q2, -, o12, o12'⟩ := il'.2.2.2.2.2.2.2.2.2.1
          have n9 : zI h2 58 9 = nI q1 := (F2.1 58 9 rfl).trans o11'
          have n10 : zI h2 58 10 = nI q2 := (F2.1 58 10 rfl).trans o12'
          have tail : ∀ (K : Int32 → Hp → Option (Int32 × Hp)), (if true = true then bi (f_X6_in f (nI j).toInt64 0 3 h') fun v4_ h3_ => if ¬v4_ = 0 then q_on h3_ 58 6 ((f_X6_findPlaces f 58 (nI b) h3_).bind fun h6_ => q_on h6_ 58 6 (bi (f_X6_bestPlace f 58 h6_) K)) else some (-1000002, h3_) else some (-1000001, h')) = K v h2 := fun K => by
            rw [if_pos rfl, e_inK (k := 3) (by decide) (by omega), bi_mk, ex, b2T, if_pos c10, on_k (S_58 H'), e2, Option.bind_some, on_k (S_58 H2), e3, bi_mk]
          rcases (show j = 0 ∨ j = 1 ∨ j = 2 ∨ j = 3 by omega) with rfl | rfl | rfl | rfl
          · refine ⟨p.1, h', h2, rW r, ?_, by rw [S_58 H'], ?_, Rel_QN R' F2⟩
            · simp only [List.getElem?_cons_zero, Option.getD_some, gr_k (S_0 H') (R_0_10 H'), Option.bind_some, gi_k (S_38 H'), p3, on_k (S_38 H'), e_placeX H' C l15 p1, bi_mk, pe.1]
            · rw [tail, b1, if_pos (nge (by omega)), if_neg (fun n9 => n9 rfl), gr_k (S_58 H2) (R_58_46 H2), Option.bind_some, ai_nI (S_78 H2) b2' (by decide), Option.bind_some, b6]
          · refine ⟨p.2, h', h2, rW r, ?_, by rw [S_58 H'], ?_, Rel_QN R' F2⟩
            · simp only [List.getElem?_cons_succ, List.getElem?_cons_zero, Option.getD_some, gr_k (S_0 H') (R_0_10 H'), Option.bind_some, gi_k (S_38 H'), p3, on_k (S_38 H'), e_placeY H' C l15 p1, bi_mk, pe.2.2.1]
            · rw [tail, b1, if_pos (nge (by omega)), if_pos (by decide), if_neg (fun n9 => n9 rfl), gr_k (S_58 H2) (R_58_47 H2), Option.bind_some, ai_nI (S_79 H2) b2' (by decide), Option.bind_some, b7]
          · refine ⟨nI (ct (mo h' b) (ln (mo h' b)) p), h', h2, rW r, ?_, by rw [S_58 H'], ?_, Rel_QN R' F2⟩
            · simp only [List.getElem?_cons_succ, List.getElem?_cons_zero, Option.getD_some, gr_k (S_0 H') (R_0_10 H'), Option.bind_some, gi_k (S_38 H'), p4]
            · rw [tail, b1, if_pos (nge (by omega)), if_pos (by decide), if_pos (by decide), if_neg (fun n9 => n9 rfl), gr_k (S_58 H2) (R_58_48 H2), Option.bind_some, ai_nI (S_80 H2) b2' (by decide), Option.bind_some, b8]
          · refine ⟨nI q2 * nI (ct (mo h' b) (ln (mo h' b)) p) / nI (ln (mo h' b)) - nI q1, h', h2, rW r, ?_, by rw [S_58 H'], ?_, Rel_QN R' F2⟩
            · have ew := e_worthC (f := f) H' jp C l0 l15 p4
              have x12 : zI h' (rW r).2.2.2.1 12 = nI q2 := o12
              have x11 : zI h' (rW r).2.2.2.1 11 = nI q1 := o11
              rw [x12, x11] at ew
              show (some 38).bind (fun a27_ => q_on h' a27_ 1 (bi (f_X1_worth f a27_ h') fun v30_ h29_ => some (v30_, h29_))) = _
              rw [Option.bind_some, on_k (S_38 H'), ew, bi_mk]
            · have ew := e_worthM (f := f) H2 b2' b8 b9 l0 l15
              rw [n9, n10] at ew
              rw [tail, b1, if_pos (nge (by omega)), if_pos (by decide), if_pos (by decide), if_pos (by decide), on_k (S_58 H2), ew, bi_mk]
