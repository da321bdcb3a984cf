/-! ===== goBack ===== -/
def QS (a j : Nat) : Bool := (decide (17 ≤ a) && decide (a ≤ 21)) || (decide (64 ≤ a) && decide (a ≤ 67)) || (decide (a = 58) && (decide (j = 13) || decide (j = 16) || decide (j = 17)))
theorem QS_f {a j : Nat} (h1 : ¬ (17 ≤ a ∧ a ≤ 21)) (h2 : ¬ (64 ≤ a ∧ a ≤ 67)) (h3 : a ≠ 58 ∨ (j ≠ 13 ∧ j ≠ 16 ∧ j ≠ 17)) : QS a j = false := by
  unfold QS
  simp only [Bool.or_eq_false_iff, Bool.and_eq_false_iff, decide_eq_false_iff_not]
  omega
/-- only the standing has changed -/
theorem Rel_St {h h' : Hp} {r r' : Rs} (R : Rel h r) (S : Sh h' r') (e1 : r'.1 = r.1) (e2 : r'.2.1 = r.2.1) (x : ∀ a k, rc a k = true → QS a k = false → zI h' a k = zI h a k) (hst : ∀ n, n ≤ 9 → zI h 58 0 = nI n → StN h n → Im h n 0 → Im h n 1 → StN h' n) (e3 : r'.2.2.2.2 = r.2.2.2.2 ∨ r'.2.2.2.2 = 17 := by first | exact Or.inl rfl | exact Or.inr rfl) : Rel h' r' := by
  obtain ⟨-, rp, tx, ft, n, w, l, a, b, c, il, st, sy, i0, i1⟩ := R
  have row : ∀ q, (q < 12 ∨ 22 ≤ q ∧ q < 38 ∨ 59 ≤ q ∧ q < 64 ∨ q = 68 ∨ 82 ≤ q ∧ q < 87) → zI h' q = zI h q := fun q hq => by
    funext k
    refine x q k ?_ (QS_f (by omega) (by omega) (by omega))
    unfold rc
    simp only [Bool.or_eq_true, Bool.and_eq_true, decide_eq_true_eq]
    omega
  have hp : r.1 = 2 ∨ r.1 = 7 := by rcases rp.1 with e | e <;> simp [e.1]
  refine ⟨S, ⟨by rw [e1, e2]; exact rp.1, by rcases e3 with e | e; rw [e]; exact rp.2; exact Or.inl e⟩, ?_, ?_, n, w, l, a, b, c, ?_, hst n il.1.1 il.2.1.2 st i0 i1, ?_, ?_, ?_⟩
  · unfold Tx
    rw [row 0 (by omega), row 68 (by omega), row 1 (by omega), x 58 19 rfl rfl]
    exact tx
  · unfold Ft
    rw [row 0 (by omega), x 58 20 rfl rfl]
    exact ft
  · unfold Il
    rw [e1, row r.1 (by omega), row (r.1 + 1) (by omega), row (r.1 + 2) (by omega), row (r.1 + 3) (by omega), row (r.1 + 4) (by omega), row 59 (by omega), row 60 (by omega), row 61 (by omega), row 62 (by omega), row 63 (by omega), x 58 0 rfl rfl, x 58 5 rfl rfl, x 58 6 rfl rfl, x 58 7 rfl rfl, x 58 9 rfl rfl, x 58 10 rfl rfl]
    exact il
  · unfold Sy
    rw [row 34 (by omega), row 35 (by omega), row 36 (by omega), row 37 (by omega), row 82 (by omega), row 83 (by omega), row 84 (by omega), x 58 50 rfl rfl]
    exact sy
  · unfold Im
    rw [row 33 (by omega), row 86 (by omega), row 85 (by omega), row (24 + 5 * 0) (by omega), row (27 + 5 * 0) (by omega), row (25 + 5 * 0) (by omega), row (26 + 5 * 0) (by omega), row (23 + 5 * 0) (by omega)]
    exact i0
  · unfold Im
    rw [row 33 (by omega), row 86 (by omega), row 85 (by omega), row (24 + 5 * 1) (by omega), row (27 + 5 * 1) (by omega), row (25 + 5 * 1) (by omega), row (26 + 5 * 1) (by omega), row (23 + 5 * 1) (by omega)]
    exact i1
section GB
variable {f : Nat} {r : Rs} {h : Hp}
/-- behind the reference's goBack -/
def BK (h0 h' : Hp) (r : Rs) (i : Nat) : Prop := Sh h' r ∧ (∀ a j, ¬ (64 ≤ a ∧ a ≤ 67) → (a ≠ 58 ∨ (j ≠ 13 ∧ j ≠ 16 ∧ j ≠ 17)) → zI h' a j = zI h0 a j) ∧ (∀ j, j < 36 → zI h' 64 j = zI h0 85 (100 * i + j)) ∧ (∀ j, j < 6 → zI h' 65 j = zI h0 85 (100 * i + 36 + j)) ∧ (∀ j, j < 20 → zI h' 66 j = zI h0 85 (100 * i + 42 + j) ∧ zI h' 67 j = zI h0 85 (100 * i + 62 + j)) ∧ zI h' 58 13 = zI h0 85 (100 * i + 82) ∧ zI h' 58 16 = zI h0 85 (100 * i + 83) ∧ zI h' 58 17 = zI h0 85 (100 * i + 84)
theorem g93_go {i : Nat} {h0 : Hp} (H0 : Sh h0 r) (hi : i < 2) : ∀ (d k : Nat) (h : Hp), k ≤ 20 → 20 < k + d → zS h = zS h0 → zR h = zR h0 → (∀ a, ¬ (64 ≤ a ∧ a ≤ 67) → zI h a = zI h0 a) → (∀ j, j < 36 → zI h 64 j = zI h0 85 (100 * i + j)) → (∀ j, j < 6 → zI h 65 j = zI h0 85 (100 * i + 36 + j)) → (∀ j, j < k → zI h 66 j = zI h0 85 (100 * i + 42 + j) ∧ zI h 67 j = zI h0 85 (100 * i + 62 + j)) → ∃ h', l_X6_goBack_93 f d 58 (nI (100 * i)) (nI k) h = some (1, h') ∧ BK h0 h' r i := by
  intro d
  induction d with
  | zero => intro k h h1 h2; omega
  | succ d ih =>
    intro k h hk hkd s1 s2 a1 a2 a3 a4
    have H : Sh h r := by unfold Sh at H0 ⊢; rw [s1, s2]; exact H0
    show ∃ h', b_X6_goBack_93 f (l_X6_goBack_93 f d) 58 (nI (100 * i)) (nI k) h = _ ∧ _
    unfold b_X6_goBack_93 lt
    by_cases e : k = 20
    · subst e
      have H1 : ∀ v, Sh (sI h 58 13 v) r := fun _ => H
      have H2 : ∀ v w, Sh (sI (sI h 58 13 v) 58 16 w) r := fun _ _ => H
      refine ⟨sI (sI (sI h 58 13 (zI h0 85 (100 * i + 82))) 58 16 (zI h0 85 (100 * i + 83))) 58 17 (zI h0 85 (100 * i + 84)), ?_, H, ?_, ?_, ?_, ?_, ?_, ?_, ?_⟩
      · have i1 : nI (100 * i) + 82 = nI (100 * i + 82) := nI_add _ 82
        have i2 : nI (100 * i) + 83 = nI (100 * i + 83) := nI_add _ 83
        have i3 : nI (100 * i) + 84 = nI (100 * i + 84) := nI_add _ 84
        rw [if_pos (by decide), gr_k (S_58 H) (R_58_54 H), Option.bind_some, i1, i2, i3, ai_nI (S_85 H) (by omega) (by decide), Option.bind_some, pi_k (S_58 H), Option.bind_some, gr_k (S_58 (H1 _)) (R_58_54 (H1 _)), Option.bind_some, ai_nI (S_85 (H1 _)) (by omega) (by decide), Option.bind_some, pi_k (S_58 (H1 _)), Option.bind_some, gr_k (S_58 (H2 _ _)) (R_58_54 (H2 _ _)), Option.bind_some, ai_nI (S_85 (H2 _ _)) (by omega) (by decide), Option.bind_some, pi_k (S_58 (H2 _ _)), Option.bind_some, zI_row (by decide), zI_row (by decide), a1 85 (by omega), zI_row (by decide), a1 85 (by omega)]
      · intro a j h1 h2
        rw [zI_sI, if_neg (by omega), zI_sI, if_neg (by omega), zI_sI, if_neg (by omega), a1 a h1]
      · intro j hj; rw [zI_row (by decide), zI_row (by decide), zI_row (by decide)]; exact a2 j hj
      · intro j hj; rw [zI_row (by decide), zI_row (by decide), zI_row (by decide)]; exact a3 j hj
      · intro j hj
        rw [zI_row (show (66 : Nat) ≠ 58 by decide), zI_row (show (66 : Nat) ≠ 58 by decide), zI_row (show (66 : Nat) ≠ 58 by decide), zI_row (show (67 : Nat) ≠ 58 by decide), zI_row (show (67 : Nat) ≠ 58 by decide), zI_row (show (67 : Nat) ≠ 58 by decide)]
        exact a4 j hj
      · rw [zI_sI, if_neg (by omega), zI_sI, if_neg (by omega), zI_sI, if_pos ⟨rfl, rfl⟩]
      · rw [zI_sI, if_neg (by omega), zI_sI, if_pos ⟨rfl, rfl⟩]
      · rw [zI_sI, if_pos ⟨rfl, rfl⟩]
    · have i1 : nI (100 * i) + 42 + nI k = nI (100 * i + 42 + k) := by rw [show nI (100 * i) + 42 = nI (100 * i + 42) from nI_add _ 42, nI_add]
      have i2 : nI (100 * i) + 62 + nI k = nI (100 * i + 62 + k) := by rw [show nI (100 * i) + 62 = nI (100 * i + 62) from nI_add _ 62, nI_add]
      have H1 : ∀ v, Sh (sI h 66 k v) r := fun _ => H
      rw [if_neg (fun e9 => by have := (nI_leI (a := 20) (b := k) (by omega) (by omega)).mp e9; omega), gr_k (S_58 H) (R_58_14 H), Option.bind_some, gr_k (S_58 H) (R_58_54 H), Option.bind_some, i1, i2, ai_nI (S_85 H) (by omega) (by decide), Option.bind_some, as_nI (S_66 H) (by omega) (by decide), Option.bind_some, gr_k (S_58 (H1 _)) (R_58_15 (H1 _)), Option.bind_some, gr_k (S_58 (H1 _)) (R_58_54 (H1 _)), Option.bind_some, ai_nI (S_85 (H1 _)) (by omega) (by decide), Option.bind_some, as_nI (S_67 (H1 _)) (by omega) (by decide), Option.bind_some, nI_p1, zI_row (by decide), a1 85 (by omega)]
      refine ih (k + 1) _ (by omega) (by omega) s1 s2 ?_ ?_ ?_ ?_
      · intro a h1; rw [zI_row (by omega), zI_row (by omega)]; exact a1 a h1
      · intro j hj; rw [zI_row (by decide), zI_row (by decide)]; exact a2 j hj
      · intro j hj; rw [zI_row (by decide), zI_row (by decide)]; exact a3 j hj
      · intro j hj
        by_cases ej : j = k
        · subst ej
          rw [zI_row (show (66 : Nat) ≠ 67 by decide), zI_sI, if_pos ⟨rfl, rfl⟩, zI_sI, if_pos ⟨rfl, rfl⟩]; exact ⟨rfl, rfl⟩
        · rw [zI_row (show (66 : Nat) ≠ 67 by decide), zI_sI, if_neg (by omega), zI_sI, if_neg (by omega), zI_row (by decide)]; exact a4 j (by omega)
theorem g62_go {i : Nat} {h0 : Hp} (H0 : Sh h0 r) (hi : i < 2) (hf : 100 ≤ f) : ∀ (d k : Nat) (h : Hp), k ≤ 6 → 6 < k + d → zS h = zS h0 → zR h = zR h0 → (∀ a, ¬ (64 ≤ a ∧ a ≤ 67) → zI h a = zI h0 a) → (∀ j, j < 36 → zI h 64 j = zI h0 85 (100 * i + j)) → (∀ j, j < k → zI h 65 j = zI h0 85 (100 * i + 36 + j)) → ∃ h', l_X6_goBack_62 f d 58 (nI (100 * i)) (nI k) h = some (1, h') ∧ BK h0 h' r i := by
  intro d
  induction d with
  | zero => intro k h h1 h2; omega
  | succ d ih =>
    intro k h hk hkd s1 s2 a1 a2 a3
    have H : Sh h r := by unfold Sh at H0 ⊢; rw [s1, s2]; exact H0
    show ∃ h', b_X6_goBack_62 f (l_X6_goBack_62 f d) 58 (nI (100 * i)) (nI k) h = _ ∧ _
    unfold b_X6_goBack_62 lt
    by_cases e : k = 6
    · subst e
      rw [if_pos (by decide)]
      exact g93_go (f := f) H0 hi f 0 h (by omega) (by omega) s1 s2 a1 a2 a3 (fun j hj => by omega)
    · have i1 : nI (100 * i) + 36 + nI k = nI (100 * i + 36 + k) := by rw [show nI (100 * i) + 36 = nI (100 * i + 36) from nI_add _ 36, nI_add]
      rw [if_neg (fun e9 => by have := (nI_leI (a := 6) (b := k) (by omega) (by omega)).mp e9; omega), gr_k (S_58 H) (R_58_12 H), Option.bind_some, gr_k (S_58 H) (R_58_54 H), Option.bind_some, i1, ai_nI (S_85 H) (by omega) (by decide), Option.bind_some, as_nI (S_65 H) (by omega) (by decide), Option.bind_some, nI_p1, a1 85 (by omega)]
      refine ih (k + 1) _ (by omega) (by omega) s1 s2 ?_ ?_ ?_
      · intro a h1; rw [zI_row (by omega)]; exact a1 a h1
      · intro j hj; rw [zI_row (by decide)]; exact a2 j hj
      · intro j hj
        by_cases ej : j = k
        · subst ej; rw [zI_sI, if_pos ⟨rfl, rfl⟩]
        · rw [zI_sI, if_neg (by omega)]; exact a3 j (by omega)
theorem g34_go {i : Nat} {h0 : Hp} (H0 : Sh h0 r) (hi : i < 2) (hf : 100 ≤ f) : ∀ (d k : Nat) (h : Hp), k ≤ 36 → 36 < k + d → zS h = zS h0 → zR h = zR h0 → (∀ a, ¬ (64 ≤ a ∧ a ≤ 67) → zI h a = zI h0 a) → (∀ j, j < k → zI h 64 j = zI h0 85 (100 * i + j)) → ∃ h', l_X6_goBack_34 f d 58 (nI (100 * i)) (nI k) h = some (1, h') ∧ BK h0 h' r i := by
  intro d
  induction d with
  | zero => intro k h h1 h2; omega
  | succ d ih =>
    intro k h hk hkd s1 s2 a1 a2
    have H : Sh h r := by unfold Sh at H0 ⊢; rw [s1, s2]; exact H0
    show ∃ h', b_X6_goBack_34 f (l_X6_goBack_34 f d) 58 (nI (100 * i)) (nI k) h = _ ∧ _
    unfold b_X6_goBack_34 lt
    by_cases e : k = 36
    · subst e
      rw [if_pos (by decide)]
      exact g62_go (f := f) H0 hi hf f 0 h (by omega) (by omega) s1 s2 a1 a2 (fun j hj => by omega)
    · rw [if_neg (fun e9 => by have := (nI_leI (a := 36) (b := k) (by omega) (by omega)).mp e9; omega), gr_k (S_58 H) (R_58_11 H), Option.bind_some, gr_k (S_58 H) (R_58_54 H), Option.bind_some, nI_add, ai_nI (S_85 H) (by omega) (by decide), Option.bind_some, as_nI (S_64 H) (by omega) (by decide), Option.bind_some, nI_p1, a1 85 (by omega)]
      refine ih (k + 1) _ (by omega) (by omega) s1 s2 ?_ ?_
      · intro a h1; rw [zI_row (by omega)]; exact a1 a h1
      · intro j hj
        by_cases ej : j = k
        · subst ej; rw [zI_sI, if_pos ⟨rfl, rfl⟩]
        · rw [zI_sI, if_neg (by omega)]; exact a2 j (by omega)
end GB
theorem st_goBack {f : Nat} (hf : 100 ≤ f) (a : Int32) : StpR (f_X5_goBack f 0 a) (f_X6_goBack f 58 a) := by
  intro h r R
  obtain ⟨H, rp, tx, ft, n, w, l, ga, gb, gc, il, st, sy, im0, im1⟩ := id R
  have hp := Rp_p rp
  unfold f_X5_goBack f_X6_goBack b_X5_goBack_9
  rw [rg_lt (k := 2) (c := 2) rfl (by omega)]
  cases ea : mkB 2 a with
  | false =>
    rw [if_neg (by decide)]
    exact ⟨_, h, h, r, rfl, by rw [S_58 H], by rw [e_inK (k := 1) (by decide) (by omega), bi_mk, ea]; rfl, R⟩
  | true =>
    obtain ⟨i, hi, rfl⟩ := mkB_t (by decide) ea
    have qi : Qs (23 + 5 * i) := by
      rcases (show i = 0 ∨ i = 1 by omega) with rfl | rfl
      · exact Or.inr (Or.inl rfl)
      · exact Or.inr (Or.inr rfl)
    have q17 : Qs 17 := Or.inl rfl
    have hne : 17 ≠ 23 + 5 * i := by omega
    have im : ∀ n, Im h n 0 → Im h n 1 → Im h n i := fun n a0 a1 => by
      rcases (show i = 0 ∨ i = 1 by omega) with rfl | rfl
      · exact a0
      · exact a1
    rw [if_pos rfl, gr_k (S_0 H) (R_0_8 H), Option.bind_some, ai_nI (S_33 H) hi (by decide), Option.bind_some]
    by_cases c0 : zI h 33 i = 0
    · have c1 : zI h 86 i = 0 := by
        rcases im n im0 im1 with q | q
        · exact q.2
        · rw [q.1] at c0; exact absurd c0 c10
      rw [if_neg (fun n9 => n9 c0)]
      refine ⟨_, h, h, r, rfl, by rw [S_58 H], ?_, R⟩
      rw [e_inK (k := 1) (by decide) (by omega), bi_mk, ea, b2T, if_pos c10, gr_k (S_58 H) (R_58_55 H), Option.bind_some, ai_nI (S_86 H) hi (by decide), Option.bind_some, c1, if_neg (fun n9 => n9 rfl)]
    · obtain ⟨z0, z1, z2, z3, z4, z5, z6, z7⟩ := cp_z (h := h) q17 qi hne
      have H1 : Sh (cpH h 17 (23 + 5 * i)) r := H
      have kept : zI h 86 i = 1 := by
        rcases im n im0 im1 with q | q
        · exact absurd q.1 c0
        · exact q.2.1
      rw [if_pos c0, gr_k (S_0 H) (R_0_6 H), Option.bind_some, gr_k (S_0 H) (R_0_7 H), Option.bind_some, ar_k (S_22 H) hi (by decide) (img_R H hi), Option.bind_some, on_k (S_17 H), e_copy H q17 qi hne, Option.bind_some]
      obtain ⟨h2, e2, b1, b2', b3, b4, b5, b6, b7, b8⟩ := g34_go (f := f) H1 hi hf f 0 (cpH h 17 (23 + 5 * i)) (by omega) (by omega) rfl rfl (fun _ _ => rfl) (fun j hj => by omega)
      refine ⟨1, cpH h 17 (23 + 5 * i), h2, r, rfl, by rw [S_58 H1], ?_, ?_⟩
      · rw [e_inK (k := 1) (by decide) (by omega), bi_mk, ea, b2T, if_pos c10, gr_k (S_58 H1) (R_58_55 H1), Option.bind_some, ai_nI (S_86 H1) hi (by decide), Option.bind_some, z0 86 (by omega), kept, if_pos c10]
        simp only [lt]
        rw [show (100 : Int32) = nI 100 from rfl, pk_mul]
        exact e2
      · refine Rel_St R b1 rfl rfl (fun a k e q => ?_) (fun n' hn' e' st' i0 i1 => ?_)
        · unfold QS at q
          simp only [Bool.or_eq_false_iff, Bool.and_eq_false_iff, decide_eq_false_iff_not] at q
          rw [b2' a k (by omega) (by omega), z0 a (by omega)]
        · rcases im n' i0 i1 with q | ⟨-, -, ⟨m3, m4, m5, m6, m7, m8⟩, m9, m10, m11, m12, m13⟩
          · exact absurd q.1 c0
          · have g85 : ∀ j, zI (cpH h 17 (23 + 5 * i)) 85 j = zI h 85 j := fun j => by rw [z0 85 (by omega)]
            refine ⟨⟨fun j hj => ?_, fun j hj => ?_, fun j hj => ?_, ?_, ?_, ?_⟩, fun j hj => ?_, fun b hb => ?_, ?_, ?_, ?_⟩
            · rw [b2' 18 j (by omega) (by omega), z1 j hj, b3 j hj, g85, show 23 + 5 * i + 1 = 24 + 5 * i by omega]; exact m3 j hj
            · rw [b2' 21 j (by omega) (by omega), z4 j hj, b4 j hj, g85, show 23 + 5 * i + 4 = 27 + 5 * i by omega]; exact m4 j hj
            · rw [b2' 19 j (by omega) (by omega), z2 j hj, b2' 20 j (by omega) (by omega), z3 j hj, (b5 j hj).1, (b5 j hj).2, g85, g85, show 23 + 5 * i + 2 = 25 + 5 * i by omega, show 23 + 5 * i + 3 = 26 + 5 * i by omega]; exact m5 j hj
            · rw [b2' 17 4 (by omega) (by omega), z5, b6, g85]; exact m6
            · rw [b2' 17 5 (by omega) (by omega), z6, b7, g85]; exact m7
            · rw [b2' 17 6 (by omega) (by omega), z7, b8, g85]; exact m8
            · rw [b3 j hj, g85]; exact m9 j hj
            · rw [b3 _ (by omega), g85]; exact m10 b hb
            · rw [b6, g85]; exact m11
            · rw [b7, g85]; exact m12
            · rw [b8, g85]; exact m13
