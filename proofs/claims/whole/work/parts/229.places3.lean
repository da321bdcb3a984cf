/-! ===== reference: findPlaces, bestPlace; best, spades ===== -/
section P3
variable {f b : Nat} {r : Rs} {h : Hp} {M : Ma}
theorem e_mayLieM2 {s : Nat} (J : JM h r b M) (hs : s < 64) (h2 : pcn s ≤ 2) (hf : 30 ≤ f) : ∃ h', Fr QM h h' ∧ MBs h' M s (aN M) ∧ f_X6_mayLie f 58 (nI b) (nI s) h = some (b2 (mM M s), h') := by
  have hn9 : aN M ≤ 9 := J.2.2.2.2.2.2.2.2.2.2.1
  obtain ⟨h', F, B, e⟩ := e_findLeft (f := f) (s := s) J.1 J.2.1 J.2.2.2.1 hn9 (by omega)
  rw [J.2.2.1] at B
  refine ⟨h', F, B, ?_⟩
  unfold f_X6_mayLie
  rw [on_k (S_58 J.1), e, Option.bind_some]
  exact mlM_go1 (JM_Fr (Fr_mono F QM_QN) J) B hs h2 hf f 0 (by omega) (by omega)
theorem scan2 {s : Nat} (J : JM h r b M) (hs : s < 64) (hf : 30 ≤ f) : ∃ h', Fr QM h h' ∧ (pS M s = true → MBs h' M s (aN M)) ∧ ∀ {β : Type} (A Y : Hp → Option β), (bi (f_X6_bits f (nI s) h) fun v2 h1 => (q_gi h1 58 6 5).bind fun v3 => if ¬ v2 = v3 then A h1 else q_on h1 58 6 (bi (f_X6_mayLie f 58 (nI b) (nI s) h1) fun v6 h5 => if v6 = 0 then A h5 else Y h5)) = if pS M s = true then Y h' else A h' := by
  have O := J.2.2.2.2.2.2.2.2.2.2
  have p9 := pcn_le s
  have eb : f_X6_bits f (nI s) h = some (nI (pcn s), h) := by rw [e_bits (by omega), (pc_all s (by omega)).1]
  by_cases cp : pcn s = aL M
  · obtain ⟨h1, F1, B1, e1⟩ := e_mayLieM2 (f := f) J hs (by have := O.2.1; omega) hf
    refine ⟨h1, F1, fun _ => B1, fun A Y => ?_⟩
    have ep : pS M s = mM M s := by unfold pS; rw [cp]; simp
    rw [eb, bi_mk, gi_k (S_58 J.1), Option.bind_some, J.2.2.2.2.1, if_neg (fun n9 => n9 (by rw [cp])), on_k (S_58 J.1), e1, bi_mk, ep]
    cases mM M s <;> rfl
  · have ep : pS M s = false := by unfold pS; simp [cp]
    refine ⟨h, Fr_rf _ _, (fun q => by rw [ep] at q; cases q), fun A Y => ?_⟩
    rw [eb, bi_mk, gi_k (S_58 J.1), Option.bind_some, J.2.2.2.2.1, if_pos (fun e => cp ((nI_eq (by omega) (by have := O.2.1; omega)).mp e)), ep]
    rfl
theorem PI_QM {h h' : Hp} {n : Nat} (F : Fr QM h h') (P : PI h M n) : PI h' M n := by
  unfold PI PR at *
  rw [F.1 58 45 rfl, F.1 58 44 rfl, Fr_row F (a := 78) (fun j => rfl), Fr_row F (a := 79) (fun j => rfl), Fr_row F (a := 80) (fun j => rfl)]
  exact P
theorem fp_go {h0 : Hp} (J0 : JM h0 r b M) (hn : 0 < aN M) (hf : 30 ≤ f) : ∀ (d s : Nat) (h : Hp), s ≤ 64 → 64 < s + d → Fr QN h0 h → PI h M (fl M s).length → ∃ h', Fr QN h0 h' ∧ PI h' M (ln M) ∧ l_X6_findPlaces_12 f d 58 (nI b) (nI s) h = some h' := by
  intro d
  induction d with
  | zero => intro s h h1 h2; omega
  | succ d ih =>
    intro s h hs hsd F P
    have J := JM_Fr F J0
    have O := J.2.2.2.2.2.2.2.2.2.2
    have hn9 := O.1
    show ∃ h', _ ∧ _ ∧ b_X6_findPlaces_12 f (l_X6_findPlaces_12 f d) 58 (nI b) (nI s) h = _
    unfold b_X6_findPlaces_12 b_X6_findPlaces_105 b_X6_findPlaces_111 lt
    by_cases c : s = 64
    · subst c
      exact ⟨h, F, P, by rw [if_pos (by decide)]⟩
    · have hs6 : s < 64 := by omega
      rw [if_neg (fun e => by have := (nI_leI (a := 64) (b := s) (by omega) (by omega)).mp e; omega), gi_k (S_58 J.1), Option.bind_some, J.2.2.2.1, if_neg (by rw [fa_le, nI_toInt (by omega), i0]; omega)]
      simp only [nI_p1]
      obtain ⟨h1, F1, B1, e1⟩ := scan2 (f := f) J hs6 hf
      rw [e1]
      have F1' := Fr_tr F (Fr_mono F1 QM_QN)
      have P1 := PI_QM F1 P
      cases ep : pS M s with
      | false =>
        rw [if_neg (by decide)]
        refine ih (s + 1) h1 (by omega) (by omega) F1' ?_
        rw [fl_n ep]; exact P1
      | true =>
        rw [if_pos rfl]
        have J1 := JM_Fr F1' J0
        have H1 := J1.1
        have lt15 : (fl M s).length < 15 := Nat.lt_of_lt_of_le (fl_at hs6 ep).2 (fl_15 O.2.1 (Nat.le_refl 64))
        have p45 : zI h1 58 45 = nI (fl M s).length := P1.1
        rw [gi_k (S_58 H1), Option.bind_some, p45, nI_p1, pi_k (S_58 H1), Option.bind_some]
        generalize hg : sI h1 58 45 (nI ((fl M s).length + 1)) = g
        have Fg : Fr QN h0 g := by rw [← hg]; exact Fr_then F1' rfl
        have Jg := JM_Fr Fg J0
        have Bg : MBs g M s (aN M) := fun j hj => MB_same (by rw [← hg, zI_row (by decide)]) (fun i _ => by rw [← hg, zI_row (by decide)]) (B1 ep j hj)
        obtain ⟨h2, F2, a2, e2⟩ := e_findArea (f := f) Jg Bg hn (by omega)
        have F2' := Fr_tr Fg (Fr_mono F2 QA_QN)
        have H2 := Fr_Sh F2 Jg.1
        rw [on_k (S_58 Jg.1), e2, Option.bind_some]
        have r0 : q_ai h2 77 9 0 = some (eS M s 0) := by rw [show (0 : Int32) = nI 0 from rfl, ai_nI (S_77 H2) (by decide) (by decide), a2 0 (by omega)]
        have r1 : q_ai h2 77 9 1 = some (eS M s 1) := by rw [show (1 : Int32) = nI 1 from rfl, ai_nI (S_77 H2) (by decide) (by decide), a2 1 (by omega)]
        have r2 : q_ai h2 77 9 2 = some (eS M s 2) := by rw [show (2 : Int32) = nI 2 from rfl, ai_nI (S_77 H2) (by decide) (by decide), a2 2 (by omega)]
        have r3 : q_ai h2 77 9 3 = some (eS M s 3) := by rw [show (3 : Int32) = nI 3 from rfl, ai_nI (S_77 H2) (by decide) (by decide), a2 3 (by omega)]
        simp only [gr_k (S_58 H2) (R_58_43 H2), Option.bind_some, r0, r1, r2, r3]
        have z45 : zI h2 58 45 = nI ((fl M s).length + 1) := by rw [F2.1 58 45 rfl, ← hg, zI_sI, if_pos ⟨rfl, rfl⟩]
        have zr : ∀ a, a ≠ 77 → a ≠ 58 → zI h2 a = zI h1 a := fun a h77 h58 => by
          rw [Fr_row F2 (a := a) (fun j => by unfold QA; exact decide_eq_false h77), ← hg, zI_row h58]
        have z44 : zI h2 58 44 = zI h1 58 44 := by rw [F2.1 58 44 rfl, ← hg, zI_sI, if_neg (by omega)]
        have fy : (fl M (s + 1)).length = (fl M s).length + 1 := by rw [fl_y ep, List.length_append]; rfl
        have plv := pl_at hs6 ep
        have none_case : plc M s = none → ∃ h', Fr QN h0 h' ∧ PI h' M (ln M) ∧ l_X6_findPlaces_12 f d 58 (nI b) (nI (s + 1)) h2 = some h' := fun q => by
          refine ih (s + 1) h2 (by omega) (by omega) F2' ?_
          rw [fy]
          exact PI_n P1 z45 z44 (zr 78 (by decide) (by decide)) (zr 79 (by decide) (by decide)) (zr 80 (by decide) (by decide)) (plv.trans q)
        by_cases c1 : eS M s 0 = eS M s 1
        · rw [if_neg (fun n9 => n9 c1)]
          by_cases c2 : eS M s 2 = eS M s 3
          · rw [if_neg (fun n9 => n9 c2), on_k (S_58 H2)]
            have q : plc M s = some (eS M s 0, eS M s 2) := by unfold plc; rw [if_pos ⟨c1, c2⟩]
            obtain ⟨ps, g', p1, p2⟩ := P1.2
            have p1' : PR h2 ps g' := by
              unfold PR at p1 ⊢
              rw [z44, zr 78 (by decide) (by decide), zr 79 (by decide) (by decide), zr 80 (by decide) (by decide)]
              exact p1
            obtain ⟨h3, F3, e3, K3⟩ := PI_s' (f := f) (x := eS M s 0) (y := eS M s 2) H2 lt15 hf ⟨ps, g', p1', p2⟩ (plv.trans q)
            rw [e3, Option.bind_some]
            refine ih (s + 1) h3 (by omega) (by omega) (Fr_tr F2' (Fr_mono F3 QL_QN)) ?_
            rw [fy]
            exact K3 h3 (by rw [F3.1 58 45 rfl]; exact z45) rfl rfl rfl rfl
          · rw [if_pos c2]
            exact none_case (by unfold plc; rw [if_neg (fun q => c2 q.2)])
        · rw [if_pos c1]
          exact none_case (by unfold plc; rw [if_neg (fun q => c1 q.1)])
end P3
