/-! ===== the reference's words ===== -/
theorem gl_k {h : Hp} {a ci k n : Nat} (e : zS h a = (ci + 1, n)) : q_gl h a ci k = some (zL h a k) := by unfold q_gl; rw [e, if_pos rfl]
theorem pl_k {h : Hp} {a ci k n : Nat} {v : Int64} (e : zS h a = (ci + 1, n)) : q_pl h a ci k v = some (sL h a k v) := by unfold q_pl; rw [e, if_pos rfl]
theorem lg_eq (x y : Int64) : lg_cmp x y = 0 ↔ x = y := by
  unfold lg_cmp
  by_cases h1 : x > y
  · rw [if_pos h1]
    exact ⟨fun h => absurd h (by decide), fun h => absurd (h ▸ h1) (Int64.lt_irrefl)⟩
  · rw [if_neg h1]
    by_cases h2 : x = y
    · rw [if_pos h2]; exact ⟨fun _ => h2, fun _ => rfl⟩
    · rw [if_neg h2]; exact ⟨fun h => absurd h (by decide), fun h => absurd h h2⟩
theorem lg_le {a b : Nat} (ha : a < 2 ^ 63) (hb : b < 2 ^ 63) : lg_cmp (lN a) (lN b) ≤ 0 ↔ a ≤ b := by
  have h1 := lg_gt (lN a) (lN b)
  rw [pk_lLT hb ha] at h1
  constructor
  · intro h
    refine Nat.not_lt.mp (fun q => ?_)
    exact absurd (h1.mpr q) (Int32.not_lt.mpr h)
  · intro h
    exact Int32.not_lt.mp (fun q => absurd (h1.mp q) (by omega))
def QWm (a j : Nat) : Bool := decide (a = 58) && (decide (j = 21) || decide (j = 23))
section WM
variable {f : Nat} {r : Rs} {t : Nat → Nat} {n s : Nat}
theorem wordM_go : ∀ (d i : Nat) (h : Hp), TM h r t n → s ≤ i → i ≤ n → n < i + d → zI h 58 23 = nI i → zL h 58 22 = lN (sv t s (i - s)) → (∀ j, s ≤ j → j < i → pW t j = true) → ∃ h', l_X6_readWord_18 f d 58 h = some h' ∧ Fx QWm h h' ∧ zI h' 58 21 = zI h 58 21 ∧ zI h' 58 23 = nI (wE t n i) ∧ zL h' 58 22 = lN (sv t s (wE t n i - s)) := by
  intro d
  induction d with
  | zero => intro i h _ _ h1 h2; omega
  | succ d ih =>
    intro i h T hs hi hd e23 e22 al
    obtain ⟨H, hn, e4, tx⟩ := id T
    show ∃ h', b_X6_readWord_18 f (l_X6_readWord_18 f d) 58 h = _ ∧ _
    unfold b_X6_readWord_18 b_X6_readWord_108
    simp only [gi_k (S_58 H), Option.bind_some, e23, e4]
    have stop : wE t n i = i → ∃ h', some h = some h' ∧ Fx QWm h h' ∧ zI h' 58 21 = zI h 58 21 ∧ zI h' 58 23 = nI (wE t n i) ∧ zL h' 58 22 = lN (sv t s (wE t n i - s)) := fun e => by
      rw [e]; exact ⟨h, rfl, Fx_rf _ _, rfl, e23, e22⟩
    by_cases c : n ≤ i
    · rw [if_pos ((nI_leI (by omega) (by omega)).mpr c)]
      exact stop (en_stop (fun q => by omega))
    · have hin : i < n := by omega
      obtain ⟨x1, x2⟩ := tm_at T hin
      have t256 := (tx i hin).1
      have inx : f_X6_in f (nI (t i)).toInt64 (97 : Int64) (122 : Int64) h = some (b2 (decide (97 ≤ t i ∧ t i ≤ 122)), h) := by
        rw [e_inM f (nI (t i)) 97 122 97 122 (by decide) (by decide) h, nI_W t256]
      simp only [if_neg (show ¬ nI n ≤ nI i from fun e => c ((nI_leI (by omega) (by omega)).mp e)), x1, Option.bind_some, x2, inx, bi_mk]
      by_cases c2 : 97 ≤ t i ∧ t i ≤ 122
      · have es : wE t n i = wE t n (i + 1) := en_step hin (by unfold pW; simp [c2])
        have al' : ∀ j, s ≤ j → j < i + 1 → pW t j = true := fun j h1 h2 => by
          by_cases ej : j = i
          · rw [ej]; unfold pW; simp [c2]
          · exact al j h1 (by omega)
        have big : sv t s (i - s) ≤ 27000000000026 := sv_big (i - s) (fun j hj => by
          have := al (s + j) (by omega) (by omega)
          unfold pW at this
          simpa using this)
        rw [decide_eq_true c2, b2T, if_neg c10, es]
        simp only [gl_k (S_58 H), gi_k (S_58 H), Option.bind_some, e23, e22, x1, x2]
        unfold b_X6_readWord_92
        have go : ∀ y : Int64, y = lN (sv t s (i + 1 - s)) → ∃ h', ((q_pl h 58 6 22 y).bind fun h1_ => (q_gi h1_ 58 6 23).bind fun v2_ => (q_pi h1_ 58 6 23 (v2_ + 1)).bind fun h3_ => l_X6_readWord_18 f d 58 h3_) = some h' ∧ Fx QWm h h' ∧ zI h' 58 21 = zI h 58 21 ∧ zI h' 58 23 = nI (wE t n (i + 1)) ∧ zL h' 58 22 = lN (sv t s (wE t n (i + 1) - s)) := fun y ey => by
          have H1 : Sh (sL h 58 22 y) r := H
          rw [pl_k (S_58 H), Option.bind_some, gi_k (S_58 H1), Option.bind_some, zI_sL, e23, pi_k (S_58 H1), Option.bind_some, nI_p1]
          have F : Fx QWm h (sI (sL h 58 22 y) 58 23 (nI (i + 1))) := Fx_tr (Fx_sL (v := y)) (Fx_sI rfl)
          obtain ⟨h', e, F', z0, z1, z2⟩ := ih (i + 1) (sI (sL h 58 22 y) 58 23 (nI (i + 1))) (TM_Fx T F (fun _ => rfl) rfl) (by omega) (by omega) (by omega) (by rw [zI_sI, if_pos ⟨rfl, rfl⟩]) (by rw [zL_sI, zL_sL, if_pos ⟨rfl, rfl⟩]; exact ey) al'
          rw [zI_sI, if_neg (by omega), zI_sL] at z0
          exact ⟨h', e, Fx_tr F F', z0, z1, z2⟩
        have e10 : (1000000000000 : Int64) = lN 1000000000000 := rfl
        have sve : sv t s (i + 1 - s) = if sv t s (i - s) ≤ 1000000000000 then 27 * sv t s (i - s) + t i - 96 else 2000000000000 := by
          rw [show i + 1 - s = (i - s) + 1 by omega]
          show (if sv t s (i - s) ≤ 1000000000000 then 27 * sv t s (i - s) + t (s + (i - s)) - 96 else 2000000000000) = _
          rw [show s + (i - s) = i by omega]
        by_cases cb : sv t s (i - s) ≤ 1000000000000
        · rw [e10, if_pos ((lg_le (by omega) (by decide)).mpr cb)]
          refine go _ ?_
          rw [sve, if_pos cb, nI_l (by omega)]
          show lN 27 * lN (sv t s (i - s)) + lN (t i) - lN 96 = _
          rw [lN_mul, lN_add, lN_sub (by omega)]
        · rw [e10, if_neg (fun q => cb ((lg_le (by omega) (by decide)).mp q))]
          refine go _ ?_
          rw [sve, if_neg cb]
          rfl
      · rw [decide_eq_false c2, b2F, if_pos rfl]
        exact stop (en_stop (fun q => by have := q.2; unfold pW at this; simp only [decide_eq_true_eq] at this; exact c2 this))
theorem e_readWordM {h : Hp} {i : Nat} (T : TM h r t n) (hi : i ≤ n) (hf : 500 ≤ f) (e5 : zI h 58 21 = nI i) : ∃ h', f_X6_readWord f 58 h = some h' ∧ Fx QWm h h' ∧ zI h' 58 21 = nI (sk t n i) ∧ zI h' 58 23 = nI (wE t n (sk t n i)) ∧ zL h' 58 22 = lN (sv t (sk t n i) (wE t n (sk t n i) - sk t n i)) := by
  have H := T.1
  obtain ⟨h1, e1, F1, z1⟩ := e_here (f := f) T hi hf e5
  have hs : sk t n i ≤ n := en_le hi
  generalize sk t n i = s at *
  have T1 : TM h1 r t n := TM_Fx T F1 (fun _ => rfl) rfl
  have H1 := T1.1
  have F1' : Fx QWm h h1 := Fx_mono F1 (fun a j q => by
    unfold QWm at q
    unfold QHe
    simp only [Bool.and_eq_false_iff, Bool.or_eq_false_iff, decide_eq_false_iff_not] at q ⊢
    omega)
  unfold f_X6_readWord
  have H2 : Sh (sL h1 58 22 0) r := H1
  rw [on_k (S_58 H), e1, bi_mk, pl_k (S_58 H1), Option.bind_some, gi_k (S_58 H2), Option.bind_some, zI_sL, z1, pi_k (S_58 H2), Option.bind_some]
  have F2 : Fx QWm h1 (sI (sL h1 58 22 0) 58 23 (nI s)) := Fx_tr (Fx_sL (v := 0)) (Fx_sI rfl)
  obtain ⟨h', e, F', w0, w1, w2⟩ := wordM_go (f := f) (s := s) f s _ (TM_Fx T1 F2 (fun _ => rfl) rfl) (Nat.le_refl s) hs (by have := T.2.1; omega) (by rw [zI_sI, if_pos ⟨rfl, rfl⟩]) (by rw [zL_sI, zL_sL, if_pos ⟨rfl, rfl⟩, Nat.sub_self]; rfl) (fun j h1 h2 => by omega)
  rw [zI_sI, if_neg (by omega), zI_sL, z1] at w0
  exact ⟨h', e, Fx_tr F1' (Fx_tr F2 F'), w0, w1, w2⟩
end WM
theorem c_mark (f : Nat) (h : Hp) : f_X6_code f 109 97 114 h = some (lN 9522, h) := by unfold f_X6_code; refine congrArg (fun w : Int64 => some (w, h)) ?_; decide +kernel
theorem c_mark2 (f : Nat) (h : Hp) : f_X6_longer f (lN 9522) 107 0 h = some (lN 257105, h) := by
  unfold f_X6_longer b_X6_longer_42; rw [if_neg (fun q => q rfl)]; refine congrArg (fun w : Int64 => some (w, h)) ?_; decide +kernel
theorem c_goal (f : Nat) (h : Hp) : f_X6_code f 103 111 97 h = some (lN 5509, h) := by unfold f_X6_code; refine congrArg (fun w : Int64 => some (w, h)) ?_; decide +kernel
theorem c_goal2 (f : Nat) (h : Hp) : f_X6_longer f (lN 5509) 108 0 h = some (lN 148755, h) := by
  unfold f_X6_longer b_X6_longer_42; rw [if_neg (fun q => q rfl)]; refine congrArg (fun w : Int64 => some (w, h)) ?_; decide +kernel
theorem c_with (f : Nat) (h : Hp) : f_X6_code f 119 105 116 h = some (lN 17030, h) := by unfold f_X6_code; refine congrArg (fun w : Int64 => some (w, h)) ?_; decide +kernel
theorem c_with2 (f : Nat) (h : Hp) : f_X6_longer f (lN 17030) 104 105 h = some (lN 12415095, h) := by
  unfold f_X6_longer b_X6_longer_42; rw [if_pos (by decide)]; refine congrArg (fun w : Int64 => some (w, h)) ?_; decide +kernel
theorem c_with3 (f : Nat) (h : Hp) : f_X6_longer f (lN 12415095) 110 0 h = some (lN 335207579, h) := by
  unfold f_X6_longer b_X6_longer_42; rw [if_neg (fun q => q rfl)]; refine congrArg (fun w : Int64 => some (w, h)) ?_; decide +kernel
theorem c_lie (f : Nat) (h : Hp) : f_X6_code f 108 105 101 h = some (lN 8996, h) := by unfold f_X6_code; refine congrArg (fun w : Int64 => some (w, h)) ?_; decide +kernel
theorem c_err (f : Nat) (h : Hp) : f_X6_code f 101 114 114 h = some (lN 4149, h) := by unfold f_X6_code; refine congrArg (fun w : Int64 => some (w, h)) ?_; decide +kernel
theorem c_spa (f : Nat) (h : Hp) : f_X6_code f 115 112 97 h = some (lN 14284, h) := by unfold f_X6_code; refine congrArg (fun w : Int64 => some (w, h)) ?_; decide +kernel
theorem c_spa2 (f : Nat) (h : Hp) : f_X6_longer f (lN 14284) 100 101 h = some (lN 10413149, h) := by
  unfold f_X6_longer b_X6_longer_42; rw [if_pos (by decide)]; refine congrArg (fun w : Int64 => some (w, h)) ?_; decide +kernel
theorem c_pri (f : Nat) (h : Hp) : f_X6_code f 112 114 105 h = some (lN 12159, h) := by unfold f_X6_code; refine congrArg (fun w : Int64 => some (w, h)) ?_; decide +kernel
theorem c_pri2 (f : Nat) (h : Hp) : f_X6_longer f (lN 12159) 122 101 h = some (lN 8864618, h) := by
  unfold f_X6_longer b_X6_longer_42; rw [if_pos (by decide)]; refine congrArg (fun w : Int64 => some (w, h)) ?_; decide +kernel
theorem e_clauseOf {f v : Nat} {h : Hp} {r : Rs} (H : Sh h r) (e22 : zL h 58 22 = lN v) (hv : v < 2 ^ 63) : f_X6_clauseOf f 58 h = some (cO v, h) := by
  unfold f_X6_clauseOf b_X6_clauseOf_89 b_X6_clauseOf_190 b_X6_clauseOf_200
  simp only [gl_k (S_58 H), Option.bind_some, e22, c_mark, c_mark2, c_goal, c_goal2, c_with, c_with2, c_with3, c_lie, c_err, c_spa, c_spa2, c_pri, c_pri2, bi_mk, lg_eq]
  unfold cO
  have q : ∀ k : Nat, k < 2 ^ 63 → ((lN v = lN k) ↔ v = k) := fun k hk => pk_lEQ hv hk
  simp only [q 257105 (by decide), q 148755 (by decide), q 335207579 (by decide), q 8996 (by decide), q 4149 (by decide), q 10413149 (by decide), q 8864618 (by decide)]
  have n1 : (-1 : Int32) < 0 := by decide
  have n2 : ¬ (0 : Int32) < 0 := by decide
  have n3 : ¬ (1 : Int32) < 0 := by decide
  have n4 : ¬ (2 : Int32) < 0 := by decide
  by_cases a0 : v = 257105
  · simp [a0]
  by_cases a1 : v = 148755
  · simp [a1]
  by_cases a2 : v = 335207579
  · simp [a2]
  by_cases a3 : v = 8996
  · simp [a3]
  by_cases a4 : v = 4149
  · simp [a4]
  by_cases a5 : v = 10413149
  · simp [a5]
  by_cases a6 : v = 8864618
  · simp [a6]
  simp [a0, a1, a2, a3, a4, a5, a6]
