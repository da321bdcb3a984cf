/-! ===== reference: mayLie, mayMany, areas ===== -/
theorem allF_and (p q : Nat → Bool) : ∀ n, (allF p n && allF q n) = allF (fun m => p m && q m) n
  | 0 => rfl
  | n + 1 => by
    rw [allF_s, allF_s, allF_s, ← allF_and p q n]
    cases allF p n <;> cases allF q n <;> cases p n <;> cases q n <;> rfl
section M5
variable {f b s : Nat} {r : Rs} {h : Hp} {M : Ma}
def tofM (M : Ma) (s m : Nat) : Nat := tofS (aW M) (aK M) (aX M) (aY M) (aN M) s m
def gP (M : Ma) (s m : Nat) : Bool := decide (tofM M s m ≤ 1) && (!(s.testBit m && decide (tofM M s m = 0)) || anyF (couM M s m) (aN M))
def frP (M : Ma) (s m : Nat) : Bool := s.testBit m && decide (tofM M s m = 0)
theorem mM_eq (M : Ma) (s : Nat) : mM M s = (okAll (aW M) (nI s) (aK M) (aX M) (aY M) (aN M) && (allF (gP M s) 6 && (decide (quM M s ≤ fb_ct (frP M s) 6) && !felM M s))) := by
  have e : allF (gP M s) 6 = (allF (fun m => decide (tofM M s m ≤ 1)) 6 && allF (fun m => !(s.testBit m && decide (tofM M s m = 0)) || anyF (couM M s m) (aN M)) 6) := (allF_and _ _ 6).symm
  rw [e]
  show (okAll (aW M) (nI s) (aK M) (aX M) (aY M) (aN M) && allF (fun m => decide (tofM M s m ≤ 1)) 6 && decide (quM M s ≤ fb_ct (frP M s) 6) && allF (fun m => !(s.testBit m && decide (tofM M s m = 0)) || anyF (couM M s m) (aN M)) 6 && !felM M s) = _
  generalize okAll (aW M) (nI s) (aK M) (aX M) (aY M) (aN M) = a
  generalize allF (fun m => decide (tofM M s m ≤ 1)) 6 = b
  generalize decide (quM M s ≤ fb_ct (frP M s) 6) = c
  generalize allF (fun m => !(s.testBit m && decide (tofM M s m = 0)) || anyF (couM M s m) (aN M)) 6 = d
  generalize felM M s = e
  cases a <;> cases b <;> cases c <;> cases d <;> cases e <;> rfl
theorem ml_dead {x4 : Int32} (d m : Nat) : l_X6_mayLie_51 f (d + 1) 58 (nI b) (nI s) 0 x4 (nI m) h = some (0, h) := by
  show b_X6_mayLie_51 f (l_X6_mayLie_51 f d) 58 (nI b) (nI s) 0 x4 (nI m) h = _
  unfold b_X6_mayLie_51 b_X6_mayLie_128 b_X6_mayLie_154 b_X6_mayLie_155
  by_cases c : (6 : Int32) ≤ nI m
  · rw [if_pos c]; rfl
  · rw [if_neg c]; rfl
theorem mlM_go (J : JM h r b M) (B : MBs h M s (aN M)) (hs : s < 64) (h2 : pcn s ≤ 2) (hf : 30 ≤ f) : ∀ (d m : Nat), m ≤ 6 → 7 < m + d → (∀ j, j < m → gP M s j = true) → l_X6_mayLie_51 f d 58 (nI b) (nI s) 1 (nI (fb_ct (frP M s) m)) (nI m) h = some (b2 (allF (gP M s) 6 && (decide (quM M s ≤ fb_ct (frP M s) 6) && !felM M s)), h) := by
  have H := J.1
  have hn9 : aN M ≤ 9 := J.2.2.2.2.2.2.2.2.2.2.1
  intro d
  induction d with
  | zero => intro m h1 h2; omega
  | succ d ih =>
    intro m hm hmd hal
    show b_X6_mayLie_51 f (l_X6_mayLie_51 f d) 58 (nI b) (nI s) 1 _ (nI m) h = _
    unfold b_X6_mayLie_51 b_X6_mayLie_128 b_X6_mayLie_154 b_X6_mayLie_155
    by_cases c : m = 6
    · subst c
      rw [if_pos (by decide), if_neg c10, on_k (S_58 H), e_quarrelsM J B hs h2 (by omega), bi_mk, allF_t hal, Bool.true_and]
      have q9 : quM M s ≤ 9 := by
        unfold quM quNS
        split
        · exact Nat.le_trans (fb_ct_le _ _) hn9
        · omega
      have f6 : fb_ct (frP M s) 6 ≤ 6 := fb_ct_le _ _
      by_cases cq : quM M s ≤ fb_ct (frP M s) 6
      · rw [if_neg (fun e => by have := (nI_ltI (a := fb_ct (frP M s) 6) (b := quM M s) (by omega) (by omega)).mp e; omega), on_k (S_58 H), e_isFelledM J B hf, bi_mk, decide_eq_true cq, Bool.true_and]
        cases felM M s <;> rfl
      · rw [if_pos ((nI_ltI (a := fb_ct (frP M s) 6) (b := quM M s) (by omega) (by omega)).mpr (by omega)), decide_eq_false cq, Bool.false_and]
        rfl
    · have hm6 : m < 6 := by omega
      rw [if_neg (fun e => by have := (nI_leI (a := 6) (b := m) (by omega) (by omega)).mp e; omega), if_neg c10, e_has, bi_mk, hb_all s (by omega) m (by omega)]
      have next : gP M s m = true → l_X6_mayLie_51 f d 58 (nI b) (nI s) 1 (nI (fb_ct (frP M s) m + if frP M s m then 1 else 0)) (nI (m + 1)) h = some (b2 (allF (gP M s) 6 && (decide (quM M s ≤ fb_ct (frP M s) 6) && !felM M s)), h) := fun g => by
        have := ih (m + 1) (by omega) (by omega) (fun j hj => by
          by_cases ej : j = m
          · rw [ej]; exact g
          · exact hal j (by omega))
        rw [fb_ct_succ] at this
        exact this
      have z : ∀ x : Nat, nI x + (0 : Int32) = nI (x + 0) := fun x => nI_add x 0
      cases e1 : s.testBit m with
      | false =>
        have t0 : tofM M s m = 0 := by unfold tofM tofS; rw [e1]; rfl
        rw [b2F, if_pos rfl]
        unfold b_X6_mayLie_122 lt
        rw [nI_p1]
        have := next (by unfold gP; rw [e1, t0]; rfl)
        have fr : frP M s m = false := by unfold frP; rw [e1]; rfl
        rw [fr] at this
        exact this
      | true =>
        have et : tofM M s m = fb_ct (offM M s m) (aN M) := by unfold tofM tofS; rw [e1]; rfl
        have t9 : tofM M s m ≤ 9 := by rw [et]; exact Nat.le_trans (fb_ct_le _ _) hn9
        rw [b2T, if_neg c10, on_k (S_58 H), e_offTimes J B hm6 (by omega), bi_mk, ← et]
        unfold b_X6_mayLie_92 b_X6_mayLie_116 b_X6_mayLie_120 b_X6_mayLie_121 b_X6_mayLie_122 lt
        simp only [nI_p1]
        by_cases t0 : tofM M s m = 0
        · have n0 : nI (tofM M s m) = 0 := by rw [t0]; rfl
          rw [if_neg (fun n9 => n9 n0), n0, if_neg (by decide), if_neg (by simp), on_k (S_58 H), e_couldBeM J B hm6 (by omega), bi_mk]
          cases ec : anyF (couM M s m) (aN M) with
          | false =>
            obtain ⟨g, rfl⟩ : ∃ g, d = g + 1 := ⟨d - 1, by omega⟩
            rw [b2F, if_pos rfl, ml_dead, allF_f hm6 (by unfold gP; rw [e1, t0, ec]; rfl), Bool.false_and]
            rfl
          | true =>
            have := next (by unfold gP; rw [e1, t0, ec]; rfl)
            have fr : frP M s m = true := by unfold frP; rw [e1, t0]; rfl
            rw [fr, if_pos rfl] at this
            rw [b2T, if_neg c10]
            exact this
        · have n0 : ¬ nI (tofM M s m) = 0 := fun e => t0 ((nI_eq (a := tofM M s m) (b := 0) (by omega) (by omega)).mp e)
          rw [if_pos n0]
          have fr : frP M s m = false := by unfold frP; rw [decide_eq_false t0, Bool.and_false]
          by_cases t1 : tofM M s m = 1
          · rw [if_pos ((nI_eq1 (by omega)).mpr t1), z]
            have := next (by unfold gP; rw [t1]; simp)
            rw [fr] at this
            exact this
          · rw [if_neg (fun e => t1 ((nI_eq1 (by omega)).mp e)), if_pos n0]
            obtain ⟨g, rfl⟩ : ∃ g, d = g + 1 := ⟨d - 1, by omega⟩
            rw [ml_dead, allF_f hm6 (by unfold gP; rw [decide_eq_false (show ¬ tofM M s m ≤ 1 by omega)]; rfl), Bool.false_and]
            rfl
theorem mlM_go1 (J : JM h r b M) (B : MBs h M s (aN M)) (hs : s < 64) (h2 : pcn s ≤ 2) (hf : 30 ≤ f) : ∀ (d k : Nat), k ≤ aN M → aN M < k + d → l_X6_mayLie_11 f d 58 (nI b) (nI s) (b2 (okAll (aW M) (nI s) (aK M) (aX M) (aY M) k)) (nI k) h = some (b2 (mM M s), h) := by
  have H := J.1
  have hn9 : aN M ≤ 9 := J.2.2.2.2.2.2.2.2.2.2.1
  intro d
  induction d with
  | zero => intro k h1 h2; omega
  | succ d ih =>
    intro k hk hkd
    show b_X6_mayLie_11 f (l_X6_mayLie_11 f d) 58 (nI b) (nI s) _ (nI k) h = _
    unfold b_X6_mayLie_11 b_X6_mayLie_37 b_X6_mayLie_38 lt
    rw [gi_k (S_58 H), Option.bind_some, J.2.2.2.1]
    by_cases c : k = aN M
    · rw [c, if_pos ((nI_leI (by omega) (by omega)).mpr (Nat.le_refl _)), mM_eq]
      cases eo : okAll (aW M) (nI s) (aK M) (aX M) (aY M) (aN M) with
      | true =>
        rw [Bool.true_and, b2T]
        exact mlM_go J B hs h2 hf f 0 (by omega) (by omega) (fun j hj => by omega)
      | false =>
        obtain ⟨g, rfl⟩ : ∃ g, f = g + 1 := ⟨f - 1, by omega⟩
        rw [Bool.false_and, b2F]
        exact ml_dead g 0
    · have hk9 : k < 9 := by omega
      rw [if_neg (fun e => by have := (nI_leI (a := aN M) (b := k) (by omega) (by omega)).mp e; omega), nI_p1]
      have ih' := ih (k + 1) (by omega) (by omega)
      have es : okAll (aW M) (nI s) (aK M) (aX M) (aY M) (k + 1) = (okAll (aW M) (nI s) (aK M) (aX M) (aY M) k && okO (bM M s k)) := rfl
      rw [es] at ih'
      cases eo : okAll (aW M) (nI s) (aK M) (aX M) (aY M) k with
      | false =>
        rw [eo, Bool.false_and, b2F] at ih'
        rw [b2F, if_pos rfl]
        exact ih'
      | true =>
        rw [eo, Bool.true_and] at ih'
        rw [b2T, if_neg c10, on_k (S_58 H), e_isLeft H hk9 (B k (by omega)), bi_mk]
        cases e2 : okO (bM M s k) with
        | false =>
          rw [e2, b2F] at ih'
          rw [b2F, if_pos rfl]
          exact ih'
        | true =>
          rw [e2, b2T] at ih'
          rw [b2T, if_neg c10]
          exact ih'
theorem e_mayLieM (J : JM h r b M) (hs : s < 64) (h2 : pcn s ≤ 2) (hf : 30 ≤ f) : ∃ h', Fr QN h h' ∧ MBs h' M s (aN M) ∧ f_X6_mayLie f 58 (nI b) (nI s) h = some (b2 (mM M s), h') := by
  have hn9 : aN M ≤ 9 := J.2.2.2.2.2.2.2.2.2.2.1
  obtain ⟨h', F, B, e⟩ := e_findLeft (f := f) (s := s) J.1 J.2.1 J.2.2.2.1 hn9 (by omega)
  rw [J.2.2.1] at B
  have F' := Fr_mono F QM_QN
  refine ⟨h', F', B, ?_⟩
  unfold f_X6_mayLie
  rw [on_k (S_58 J.1), e, Option.bind_some]
  exact mlM_go1 (JM_Fr F' J) B hs h2 hf f 0 (by omega) (by omega)
theorem pcn_le (s : Nat) : pcn s ≤ 9 := by unfold pcn; exact Nat.le_trans List.countP_le_length (by simp)
theorem mm_go {h0 : Hp} (J0 : JM h0 r b M) (hf : 30 ≤ f) : ∀ (d s : Nat) (h : Hp), s ≤ 64 → 64 < s + d → Fr QN h0 h → ∃ h', Fr QN h0 h' ∧ l_X6_mayMany_4 f d 58 (nI b) (nI (fl M s).length) (nI s) h = some (nI (fl M 64).length, h') := by
  intro d
  induction d with
  | zero => intro s h h1 h2; omega
  | succ d ih =>
    intro s h hs hsd F
    have J := JM_Fr F J0
    have O := J.2.2.2.2.2.2.2.2.2.2
    show ∃ h', _ ∧ b_X6_mayMany_4 f (l_X6_mayMany_4 f d) 58 (nI b) _ (nI s) h = _
    unfold b_X6_mayMany_4 b_X6_mayMany_35 b_X6_mayMany_36 lt
    have z : ∀ x : Nat, nI x + (0 : Int32) = nI (x + 0) := fun x => nI_add x 0
    by_cases c : s = 64
    · subst c
      exact ⟨h, F, by rw [if_pos (by decide)]⟩
    · have hs6 : s < 64 := by omega
      have p9 := pcn_le s
      rw [if_neg (fun e => by have := (nI_leI (a := 64) (b := s) (by omega) (by omega)).mp e; omega), e_bits (by omega), bi_mk, (pc_all s (by omega)).1, gi_k (S_58 J.1), Option.bind_some, J.2.2.2.2.1, nI_p1]
      by_cases cp : pcn s = aL M
      · obtain ⟨h1, F1, B1, e1⟩ := e_mayLieM (f := f) J hs6 (by have := O.2.1; omega) hf
        rw [if_neg (fun n9 => n9 (by rw [cp])), on_k (S_58 J.1), e1, bi_mk]
        cases em : mM M s with
        | false =>
          obtain ⟨h', F', e'⟩ := ih (s + 1) h1 (by omega) (by omega) (Fr_tr F F1)
          rw [fl_n (by unfold pS; rw [em]; simp)] at e'
          exact ⟨h', F', by rw [b2F, if_pos rfl, z]; exact e'⟩
        | true =>
          obtain ⟨h', F', e'⟩ := ih (s + 1) h1 (by omega) (by omega) (Fr_tr F F1)
          rw [fl_y (by unfold pS; rw [em, cp]; simp), List.length_append] at e'
          exact ⟨h', F', by rw [b2T, if_neg c10, nI_p1]; exact e'⟩
      · obtain ⟨h', F', e'⟩ := ih (s + 1) h (by omega) (by omega) F
        rw [fl_n (by unfold pS; simp [cp])] at e'
        exact ⟨h', F', by rw [if_pos (fun e => cp ((nI_eq (by omega) (by have := O.2.1; omega)).mp e)), z]; exact e'⟩
theorem e_mayMany (J : JM h r b M) (hf : 100 ≤ f) : ∃ h', Fr QN h h' ∧ f_X6_mayMany f 58 (nI b) h = some (nI (fl M 64).length, h') := mm_go J (by omega) f 0 h (by omega) (by omega) (Fr_rf _ _)
/-! areas -/
theorem en_i {k j : Nat} {o : Option Bx} (H : Sh h r) (hk : k < 9) (hj : j < 4) (B : MB h k o) : f_X6_endOf f 58 (nI k) (nI j) h = some (enO j o, h) := by
  unfold f_X6_endOf b_X6_endOf_34
  rw [gr_k (S_58 H) (R_58_41 H), Option.bind_some, ai_nI (S_75 H) hk (by decide), Option.bind_some]
  cases o with
  | none =>
    rw [show zI h 75 k = 1 from B, if_neg c10]
    rcases (show j = 0 ∨ j = 1 ∨ j = 2 ∨ j = 3 by omega) with rfl | rfl | rfl | rfl <;> rfl
  | some B' =>
    obtain ⟨b0, b1, b2', b3, b4⟩ := B
    rw [b0, if_pos rfl, gr_k (S_58 H) (R_58_42 H), Option.bind_some, ix4_0, nI_add, ai_nI (S_76 H) (show 4 * k + j < 36 by omega) (by decide), Option.bind_some]
    rcases (show j = 0 ∨ j = 1 ∨ j = 2 ∨ j = 3 by omega) with rfl | rfl | rfl | rfl
    · rw [Nat.add_zero, b1]; rfl
    · rw [b2']; rfl
    · rw [b3]; rfl
    · rw [b4]; rfl
def QA (a j : Nat) : Bool := decide (a = 77)
theorem QA_QN : ∀ a j, QN a j = false → QA a j = false := fun a j e => by
  unfold QN at e; unfold QA
  simp only [Bool.or_eq_false_iff, Bool.and_eq_false_iff, decide_eq_false_iff_not] at e ⊢
  omega
theorem MBs_A {h h' : Hp} {M : Ma} {s n : Nat} (F : Fr QA h h') (B : MBs h M s n) : MBs h' M s n := fun j hj => MB_same (F.1 75 j rfl) (fun i _ => F.1 76 _ rfl) (B j hj)
theorem fa_22 {j i : Nat} {k2 : Nat → Int32 → Hp → Option Hp} (J : JM h r b M) (B : MBs h M s (aN M)) (hn : 0 < aN M) (hj : j < 4) (hi : i < 4) : b_X6_findArea_22 f k2 58 (nI j) (nI i) h = k2 58 (nI (j + 1)) (sI h 77 j (enO j (bM M s (aA M)) + enO j (bM M s (aB M)) - enO i (bM M s (aD M)))) := by
  obtain ⟨H, hb6, -, e1, e2, e3, e4, e5, e6, e7, e8⟩ := id J
  have hn9 : aN M ≤ 9 := e8.1
  obtain ⟨g1, g2, g3⟩ := e7 hn
  have a0 : q_ai h 63 9 0 = some (nI (aA M)) := by rw [show (0 : Int32) = nI 0 from rfl, ai_nI (S_63 H) (by decide) (by decide), e4]
  have a1 : q_ai h 63 9 1 = some (nI (aB M)) := by rw [show (1 : Int32) = nI 1 from rfl, ai_nI (S_63 H) (by decide) (by decide), e5]
  have a2 : q_ai h 63 9 2 = some (nI (aD M)) := by rw [show (2 : Int32) = nI 2 from rfl, ai_nI (S_63 H) (by decide) (by decide), e6]
  unfold b_X6_findArea_22 lt
  rw [gr_k (S_58 H) (R_58_43 H), Option.bind_some, gr_k (S_58 H) (R_58_8 H), Option.bind_some, a0, Option.bind_some, on_k (S_58 H), en_i H (by omega) hj (B _ g1), bi_mk, gr_k (S_58 H) (R_58_8 H), Option.bind_some, a1, Option.bind_some, on_k (S_58 H), en_i H (by omega) hj (B _ g2), bi_mk, gr_k (S_58 H) (R_58_8 H), Option.bind_some, a2, Option.bind_some, on_k (S_58 H), en_i H (by omega) hi (B _ g3), bi_mk, as_nI (S_77 H) hj (by decide), Option.bind_some, nI_p1]
theorem fa_step {j d : Nat} (J : JM h r b M) (B : MBs h M s (aN M)) (hn : 0 < aN M) (hj : j < 4) : l_X6_findArea_2 f (d + 1) 58 (nI j) h = l_X6_findArea_2 f d 58 (nI (j + 1)) (sI h 77 j (eS M s j)) := by
  show b_X6_findArea_2 f (l_X6_findArea_2 f d) 58 (nI j) h = _
  unfold b_X6_findArea_2
  rw [if_neg (fun e => by have := (nI_leI (a := 4) (b := j) (by omega) (by omega)).mp e; omega)]
  rcases (show j = 0 ∨ j = 1 ∨ j = 2 ∨ j = 3 by omega) with rfl | rfl | rfl | rfl
  · exact fa_22 (i := 1) J B hn (by omega) (by omega)
  · exact fa_22 (i := 0) J B hn (by omega) (by omega)
  · exact fa_22 (i := 3) J B hn (by omega) (by omega)
  · exact fa_22 (i := 2) J B hn (by omega) (by omega)
theorem e_findArea (J : JM h r b M) (B : MBs h M s (aN M)) (hn : 0 < aN M) (hf : 10 ≤ f) : ∃ h', Fr QA h h' ∧ (∀ j, j < 4 → zI h' 77 j = eS M s j) ∧ f_X6_findArea f 58 h = some h' := by
  have F1 : Fr QA h (sI h 77 0 (eS M s 0)) := Fr_sI rfl
  have F2 : Fr QA h (sI (sI h 77 0 (eS M s 0)) 77 1 (eS M s 1)) := Fr_then F1 rfl
  have F3 : Fr QA h (sI (sI (sI h 77 0 (eS M s 0)) 77 1 (eS M s 1)) 77 2 (eS M s 2)) := Fr_then F2 rfl
  have F4 : Fr QA h (sI (sI (sI (sI h 77 0 (eS M s 0)) 77 1 (eS M s 1)) 77 2 (eS M s 2)) 77 3 (eS M s 3)) := Fr_then F3 rfl
  have jj : ∀ g, Fr QA h g → JM g r b M := fun g F => JM_Fr (Fr_mono F QA_QN) J
  refine ⟨_, F4, ?_, ?_⟩
  · intro j hj
    rcases (show j = 0 ∨ j = 1 ∨ j = 2 ∨ j = 3 by omega) with rfl | rfl | rfl | rfl <;> simp [zI_sI]
  · unfold f_X6_findArea
    have key : ∀ g, 5 ≤ g → l_X6_findArea_2 f g 58 (nI 0) h = some (sI (sI (sI (sI h 77 0 (eS M s 0)) 77 1 (eS M s 1)) 77 2 (eS M s 2)) 77 3 (eS M s 3)) := fun g hg => by
      obtain ⟨e, rfl⟩ : ∃ e, g = e + 5 := ⟨g - 5, by omega⟩
      rw [fa_step (d := e + 4) J B hn (by omega), fa_step (d := e + 3) (jj _ F1) (MBs_A F1 B) hn (by omega), fa_step (d := e + 2) (jj _ F2) (MBs_A F2 B) hn (by omega), fa_step (d := e + 1) (jj _ F3) (MBs_A F3 B) hn (by omega)]
      show b_X6_findArea_2 f (l_X6_findArea_2 f e) 58 (nI 4) _ = _
      unfold b_X6_findArea_2
      rw [if_pos (by decide)]
    exact key f (by omega)
end M5
