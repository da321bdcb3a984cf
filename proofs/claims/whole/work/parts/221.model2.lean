/-! ===== reference: what is read off the boxes ===== -/
def JM (h : Hp) (r : Rs) (b : Nat) (M : Ma) : Prop := Sh h r ∧ b < 6 ∧ mo h b = M ∧ zI h 58 0 = nI (aN M) ∧ zI h 58 5 = nI (aL M) ∧ zI h 58 13 = nI (aC M) ∧ zI h 63 0 = nI (aA M) ∧ zI h 63 1 = nI (aB M) ∧ zI h 63 2 = nI (aD M) ∧ (0 < aN M → aA M < aN M ∧ aB M < aN M ∧ aD M < aN M) ∧ OkM M
theorem JM_of {h : Hp} {r : Rs} {b : Nat} (H : Sh h r) (hb6 : b < 6) (G : Gd h b) : JM h r b (mo h b) := ⟨H, hb6, rfl, G⟩
def QN (a j : Nat) : Bool := (decide (75 ≤ a) && decide (a ≤ 80)) || (decide (a = 58) && (decide (j = 44) || decide (j = 45)))
theorem QM_QN : ∀ a j, QN a j = false → QM a j = false := fun a j e => by
  unfold QN at e; unfold QM
  simp only [Bool.or_eq_false_iff, Bool.and_eq_false_iff, decide_eq_false_iff_not] at e ⊢
  omega
theorem QN_mo {h h' : Hp} {b : Nat} (F : Fr QN h h') : mo h' b = mo h b := by
  unfold mo
  rw [F.1 58 7 rfl, F.1 58 0 rfl, F.1 58 5 rfl, F.1 58 13 rfl, Fr_row F (a := 64) (fun j => rfl), Fr_row F (a := 61) (fun j => rfl), Fr_row F (a := 62) (fun j => rfl), Fr_row F (a := 63) (fun j => rfl), Fr_row F (a := 66) (fun j => rfl), Fr_row F (a := 67) (fun j => rfl)]
theorem JM_Fr {h h' : Hp} {r : Rs} {b : Nat} {M : Ma} (F : Fr QN h h') (J : JM h r b M) : JM h' r b M := by
  obtain ⟨H, hb6, e, e1, e2, e3, e4, e5, e6, e7, e8⟩ := J
  refine ⟨Fr_Sh F H, hb6, (QN_mo F).trans e, ?_⟩
  rw [F.1 58 0 rfl, F.1 58 5 rfl, F.1 58 13 rfl, F.1 63 0 rfl, F.1 63 1 rfl, F.1 63 2 rfl]
  exact ⟨e1, e2, e3, e4, e5, e6, e7, e8⟩
theorem JM_f {h : Hp} {r : Rs} {b : Nat} {M : Ma} (J : JM h r b M) : zI h 58 7 = aW M ∧ (∀ m, zI h 64 (6 * b + m) = aK M m) ∧ zI h 61 = aX M ∧ zI h 62 = aY M ∧ zI h 66 = aSx M ∧ zI h 67 = aSy M := by
  obtain ⟨-, -, rfl, -⟩ := J
  exact ⟨rfl, fun _ => rfl, rfl, rfl, rfl, rfl⟩
section M3
variable {f b s : Nat} {r : Rs} {h : Hp} {M : Ma}
def okO (o : Option Bx) : Bool := okB (cbx o)
theorem e_isLeft {k : Nat} {o : Option Bx} (H : Sh h r) (hk : k < 9) (B : MB h k o) : f_X6_isLeft f 58 (nI k) h = some (b2 (okO o), h) := by
  unfold f_X6_isLeft b_X6_isLeft_57 b_X6_isLeft_53 b_X6_isLeft_58
  rw [gr_k (S_58 H) (R_58_41 H), Option.bind_some, ai_nI (S_75 H) hk (by decide), Option.bind_some]
  cases o with
  | none => rw [show zI h 75 k = 1 from B, if_pos c10]; rfl
  | some B' =>
    obtain ⟨b0, b1, b2', b3, b4⟩ := B
    rw [b0, if_neg (by simp)]
    simp only [gr_k (S_58 H) (R_58_42 H), Option.bind_some, ix4_0, nI_p1, nI_p2, nI_p3, ai_nI (S_76 H) (show 4 * k < 36 by omega) (by decide), ai_nI (S_76 H) (show 4 * k + 1 < 36 by omega) (by decide), ai_nI (S_76 H) (show 4 * k + 2 < 36 by omega) (by decide), ai_nI (S_76 H) (show 4 * k + 3 < 36 by omega) (by decide), b1, b2', b3, b4]
    unfold okO okB cbx
    by_cases c1 : B'.2.1 < B'.1
    · have : ¬ B'.1 ≤ B'.2.1 := Int32.not_le.mpr c1
      simp [c1, this, q_bo, b2]
    · have : B'.1 ≤ B'.2.1 := Int32.not_lt.mp c1
      by_cases c2 : B'.2.2.2 < B'.2.2.1
      · have : ¬ B'.2.2.1 ≤ B'.2.2.2 := Int32.not_le.mpr c2
        simp [c1, c2, this, q_bo, b2]
      · have h3 : B'.2.2.1 ≤ B'.2.2.2 := Int32.not_lt.mp c2
        simp [c1, c2, this, h3, q_bo, b2]
theorem e_isApart {m k : Nat} {o : Option Bx} (J : JM h r b M) (hm : m < 6) (hk : k < 9) (B : MB h k o) : f_X6_isApart f 58 (nI m) (nI k) h = some (b2 (apO (aW M) (aX M (9 * m + k)) (aY M (9 * m + k)) o), h) := by
  have H := J.1
  obtain ⟨fw, fk, fx, fy, -, -⟩ := JM_f J
  have i54 : 9 * m + k < 54 := by omega
  have Rd : ∀ i, i < 36 → q_ai h 76 9 (nI i) = some (zI h 76 i) := fun i hi => ai_nI (S_76 H) hi (by decide)
  unfold f_X6_isApart b_X6_isApart_61 b_X6_isApart_66 b_X6_isApart_108 b_X6_isApart_113 b_X6_isApart_134 b_X6_isApart_138 b_X6_isApart_139
  simp only [gr_k (S_58 H) (R_58_3 H), gr_k (S_58 H) (R_58_4 H), gr_k (S_58 H) (R_58_41 H), gr_k (S_58 H) (R_58_42 H), Option.bind_some, gi_k (S_58 H), fw, ix9', ai_nI (S_61 H) i54 (by decide), ai_nI (S_62 H) i54 (by decide), ai_nI (S_75 H) hk (by decide), ix4_0, nI_p1, nI_p2, nI_p3, Rd (4 * k) (by omega), Rd (4 * k + 1) (by omega), Rd (4 * k + 2) (by omega), Rd (4 * k + 3) (by omega), fx, fy]
  generalize aX M (9 * m + k) = x
  generalize aY M (9 * m + k) = y
  generalize aW M = w
  cases o with
  | none =>
    have e : zI h 75 k = 1 := B
    simp only [e, c10, not_false_eq_true, if_true]
    simp only [ite_self]
    rfl
  | some B' =>
    obtain ⟨b0, b1, b2', b3, b4⟩ := B
    simp only [b0, b1, b2', b3, b4]
    unfold apO apC
    by_cases c1 : x + w < B'.1
    · simp [c1, q_bo, b2]
    · by_cases c2 : B'.2.1 < x - w
      · have : ¬ x - w ≤ B'.2.1 := Int32.not_le.mpr c2
        simp [c1, c2, this, q_bo, b2]
      · have : x - w ≤ B'.2.1 := Int32.not_lt.mp c2
        by_cases c3 : y + w < B'.2.2.1
        · simp [c1, c2, this, c3, q_bo, b2]
        · by_cases c4 : y - w ≤ B'.2.2.2
          · simp [c1, c2, this, c3, c4, q_bo, b2]
          · simp [c1, c2, this, c3, c4, q_bo, b2]
theorem e_isWithin {m k : Nat} {o : Option Bx} (J : JM h r b M) (hm : m < 6) (hk : k < 9) (B : MB h k o) : f_X6_isWithin f 58 (nI m) (nI k) h = some (b2 (wiO (aW M) (aX M (9 * m + k)) (aY M (9 * m + k)) o), h) := by
  have H := J.1
  obtain ⟨fw, fk, fx, fy, -, -⟩ := JM_f J
  have i54 : 9 * m + k < 54 := by omega
  have Rd : ∀ i, i < 36 → q_ai h 76 9 (nI i) = some (zI h 76 i) := fun i hi => ai_nI (S_76 H) hi (by decide)
  unfold f_X6_isWithin b_X6_isWithin_65 b_X6_isWithin_66 b_X6_isWithin_126 b_X6_isWithin_127
  simp only [gr_k (S_58 H) (R_58_3 H), gr_k (S_58 H) (R_58_4 H), gr_k (S_58 H) (R_58_41 H), gr_k (S_58 H) (R_58_42 H), Option.bind_some, gi_k (S_58 H), fw, ix9', ai_nI (S_61 H) i54 (by decide), ai_nI (S_62 H) i54 (by decide), ai_nI (S_75 H) hk (by decide), ix4_0, nI_p1, nI_p2, nI_p3, Rd (4 * k) (by omega), Rd (4 * k + 1) (by omega), Rd (4 * k + 2) (by omega), Rd (4 * k + 3) (by omega), fx, fy]
  generalize aX M (9 * m + k) = x
  generalize aY M (9 * m + k) = y
  generalize aW M = w
  cases o with
  | none =>
    have e : zI h 75 k = 1 := B
    simp only [e, c10, not_false_eq_true, if_true]
    simp only [ite_self]
    rfl
  | some B' =>
    obtain ⟨b0, b1, b2', b3, b4⟩ := B
    simp only [b0, b1, b2', b3, b4]
    unfold wiO wiC
    by_cases c1 : B'.1 < x - w
    · simp [c1, q_bo, b2]
    · by_cases c2 : x + w < B'.2.1
      · simp [c1, c2, q_bo, b2]
      · by_cases c3 : B'.2.2.1 < y - w
        · simp [c1, c2, c3, q_bo, b2]
        · by_cases c4 : y + w < B'.2.2.2
          · simp [c1, c2, c3, c4, q_bo, b2]
          · simp [c1, c2, c3, c4, q_bo, b2]
def offM (M : Ma) (s m k : Nat) : Bool := offS (aW M) (aK M) (aX M) (aY M) s m k
theorem offM_go {m : Nat} (J : JM h r b M) (B : MBs h M s (aN M)) (hm : m < 6) : ∀ (d k : Nat), k ≤ aN M → aN M < k + d → l_X6_offTimes_5 f d 58 (nI b) (nI m) (nI (fb_ct (offM M s m) k)) (nI k) h = some (nI (fb_ct (offM M s m) (aN M)), h) := by
  have H := J.1
  have hb6 := J.2.1
  have hn9 : aN M ≤ 9 := J.2.2.2.2.2.2.2.2.2.2.1
  intro d
  induction d with
  | zero => intro k h1 h2; omega
  | succ d ih =>
    intro k hk hkd
    show b_X6_offTimes_5 f (l_X6_offTimes_5 f d) 58 (nI b) (nI m) _ (nI k) h = _
    unfold b_X6_offTimes_5 b_X6_offTimes_48 b_X6_offTimes_49 lt
    rw [gi_k (S_58 H), Option.bind_some, J.2.2.2.1]
    by_cases c : k = aN M
    · rw [c, if_pos ((nI_leI (by omega) (by omega)).mpr (Nat.le_refl _))]
    · have hk9 : k < 9 := by omega
      rw [if_neg (fun e => by have := (nI_leI (a := aN M) (b := k) (by omega) (by omega)).mp e; omega)]
      rw [gr_k (S_58 H) (R_58_11 H), Option.bind_some, ix6', ai_nI (S_64 H) (by omega) (by decide), Option.bind_some, e_has, bi_mk, nI_p1, (JM_f J).2.1 m]
      have sc := fb_ct_succ (offM M s m) k
      have ih' := ih (k + 1) (by omega) (by omega)
      rw [sc] at ih'
      unfold offM offS at ih' ⊢
      have z : ∀ x : Nat, nI x + (0 : Int32) = nI (x + 0) := fun x => nI_add x 0
      cases e1 : hb (aK M m) (nI k) with
      | false =>
        rw [e1] at ih'
        rw [b2F, if_pos rfl, z]
        exact ih'
      | true =>
        have := e_isApart (f := f) J hm hk9 (B k (by omega))
        rw [b2T, if_neg c10, on_k (S_58 H), this, bi_mk]
        rw [e1] at ih'
        unfold bM at *
        cases e2 : apO (aW M) (aX M (9 * m + k)) (aY M (9 * m + k)) (bxN (aW M) (aK M) (aX M) (aY M) s k) with
        | false =>
          rw [e2] at ih'
          rw [b2F, if_pos rfl, z]
          exact ih'
        | true =>
          rw [e2] at ih'
          rw [b2T, if_neg c10, nI_p1]
          exact ih'
theorem e_offTimes {m : Nat} (J : JM h r b M) (B : MBs h M s (aN M)) (hm : m < 6) (hf : 10 ≤ f) : f_X6_offTimes f 58 (nI b) (nI m) h = some (nI (fb_ct (offM M s m) (aN M)), h) := offM_go J B hm f 0 (by omega) (by have : aN M ≤ 9 := J.2.2.2.2.2.2.2.2.2.2.1; omega)
theorem anyF_s (p : Nat → Bool) (n : Nat) : anyF p (n + 1) = (anyF p n || p n) := by
  unfold anyF; rw [List.range_succ, List.any_append]; simp
theorem allF_s (p : Nat → Bool) (n : Nat) : allF p (n + 1) = (allF p n && p n) := by
  unfold allF; rw [List.range_succ, List.all_append]; simp
def couM (M : Ma) (s m k : Nat) : Bool := couS (aW M) (aK M) (aX M) (aY M) s m k
theorem couM_go {m : Nat} (J : JM h r b M) (B : MBs h M s (aN M)) (hm : m < 6) : ∀ (d k : Nat), k ≤ aN M → aN M < k + d → l_X6_couldBe_5 f d 58 (nI b) (nI m) (b2 (anyF (couM M s m) k)) (nI k) h = some (b2 (anyF (couM M s m) (aN M)), h) := by
  have H := J.1
  have hb6 := J.2.1
  have hn9 : aN M ≤ 9 := J.2.2.2.2.2.2.2.2.2.2.1
  intro d
  induction d with
  | zero => intro k h1 h2; omega
  | succ d ih =>
    intro k hk hkd
    show b_X6_couldBe_5 f (l_X6_couldBe_5 f d) 58 (nI b) (nI m) _ (nI k) h = _
    unfold b_X6_couldBe_5 b_X6_couldBe_47 b_X6_couldBe_52 lt
    rw [gi_k (S_58 H), Option.bind_some, J.2.2.2.1]
    by_cases c : k = aN M
    · rw [c, if_pos ((nI_leI (by omega) (by omega)).mpr (Nat.le_refl _)), b2_bo]
    · have hk9 : k < 9 := by omega
      rw [if_neg (fun e => by have := (nI_leI (a := aN M) (b := k) (by omega) (by omega)).mp e; omega), nI_p1]
      have ih' := ih (k + 1) (by omega) (by omega)
      rw [anyF_s] at ih'
      cases e0 : anyF (couM M s m) k with
      | true =>
        rw [e0, Bool.true_or] at ih'
        rw [b2T, if_pos c10]
        exact ih'
      | false =>
        rw [e0, Bool.false_or] at ih'
        rw [b2F, if_neg (by simp), gr_k (S_58 H) (R_58_11 H), Option.bind_some, ix6', ai_nI (S_64 H) (by omega) (by decide), Option.bind_some, e_has, bi_mk, (JM_f J).2.1 m]
        unfold couM couS at ih' ⊢
        cases e1 : hb (aK M m) (nI k) with
        | false =>
          rw [e1] at ih'
          rw [b2F, if_pos rfl]
          exact ih'
        | true =>
          rw [b2T, if_neg c10, on_k (S_58 H), e_isWithin J hm hk9 (B k (by omega)), bi_mk]
          rw [e1] at ih'
          unfold bM
          cases e2 : wiO (aW M) (aX M (9 * m + k)) (aY M (9 * m + k)) (bxN (aW M) (aK M) (aX M) (aY M) s k) with
          | false =>
            rw [e2] at ih'
            rw [b2F, if_neg (by simp)]
            exact ih'
          | true =>
            rw [e2] at ih'
            rw [b2T, if_pos c10]
            exact ih'
theorem e_couldBeM {m : Nat} (J : JM h r b M) (B : MBs h M s (aN M)) (hm : m < 6) (hf : 10 ≤ f) : f_X6_couldBe f 58 (nI b) (nI m) h = some (b2 (anyF (couM M s m) (aN M)), h) := couM_go J B hm f 0 (by omega) (by have : aN M ≤ 9 := J.2.2.2.2.2.2.2.2.2.2.1; omega)
end M3
