/-! ===== keep, goBack ===== -/
def Qs (q : Nat) : Prop := q = 17 ∨ q = 23 ∨ q = 28
section IM
variable {f : Nat} {r : Rs} {h : Hp}
theorem Qs_S (H : Sh h r) {q : Nat} (hq : Qs q) : zS h q = (5, 0) ∧ zS h (q + 1) = (9, 36) ∧ zS h (q + 2) = (9, 20) ∧ zS h (q + 3) = (9, 20) ∧ zS h (q + 4) = (9, 6) := by
  rcases hq with rfl | rfl | rfl
  · exact ⟨S_17 H, S_18 H, S_19 H, S_20 H, S_21 H⟩
  · exact ⟨S_23 H, S_24 H, S_25 H, S_26 H, S_27 H⟩
  · exact ⟨S_28 H, S_29 H, S_30 H, S_31 H, S_32 H⟩
theorem Qs_R (H : Sh h r) {q : Nat} (hq : Qs q) : zR h q 0 = some (q + 1) ∧ zR h q 1 = some (q + 2) ∧ zR h q 2 = some (q + 3) ∧ zR h q 3 = some (q + 4) := by
  rcases hq with rfl | rfl | rfl
  · exact ⟨R_17_0 H, R_17_1 H, R_17_2 H, R_17_3 H⟩
  · exact ⟨R_23_0 H, R_23_1 H, R_23_2 H, R_23_3 H⟩
  · exact ⟨R_28_0 H, R_28_1 H, R_28_2 H, R_28_3 H⟩
def cpH (h : Hp) (x0 x1 : Nat) : Hp := sI (sI (sI (sC (sC (sC (sC h (x1 + 1) (x0 + 1) 0 0 36) (x1 + 2) (x0 + 2) 0 0 20) (x1 + 3) (x0 + 3) 0 0 20) (x1 + 4) (x0 + 4) 0 0 6) x0 4 (zI h x1 4)) x0 5 (zI h x1 5)) x0 6 (zI h x1 6)
theorem e_copy {x0 x1 : Nat} (H : Sh h r) (h0 : Qs x0) (h1 : Qs x1) (hne : x0 ≠ x1) : f_X4_copyFrom f x0 x1 h = some (cpH h x0 x1) := by
  unfold f_X4_copyFrom cpH
  have H1 := Sh_sC H (x1 + 1) (x0 + 1) 0 0 36
  have H2 := Sh_sC H1 (x1 + 2) (x0 + 2) 0 0 20
  have H3 := Sh_sC H2 (x1 + 3) (x0 + 3) 0 0 20
  have H4 := Sh_sC H3 (x1 + 4) (x0 + 4) 0 0 6
  have far : ∀ k, k ≤ 4 → ∀ k', k' ≤ 4 → x1 + k ≠ x0 + k' := fun k hk k' hk' => by
    rcases h0 with rfl | rfl | rfl <;> rcases h1 with rfl | rfl | rfl <;> omega
  rw [gr_k (Qs_S H h1).1 (Qs_R H h1).1, Option.bind_some, gr_k (Qs_S H h0).1 (Qs_R H h0).1, Option.bind_some, Option.bind_some, al_k (Qs_S H h0).2.1, Option.bind_some, show (0 : Int32) = nI 0 from rfl, cp_k (Qs_S H h1).2.1 (Qs_S H h0).2.1 (by omega) (by omega) (by decide) (by decide), Option.bind_some, gr_k (Qs_S H1 h1).1 (Qs_R H1 h1).2.1, Option.bind_some, gr_k (Qs_S H1 h0).1 (Qs_R H1 h0).2.1, Option.bind_some, show (20 : Int32) = nI 20 from rfl, cp_k (Qs_S H1 h1).2.2.1 (Qs_S H1 h0).2.2.1 (by omega) (by omega) (by decide) (by decide), Option.bind_some, gr_k (Qs_S H2 h1).1 (Qs_R H2 h1).2.2.1, Option.bind_some, gr_k (Qs_S H2 h0).1 (Qs_R H2 h0).2.2.1, Option.bind_some, cp_k (Qs_S H2 h1).2.2.2.1 (Qs_S H2 h0).2.2.2.1 (by omega) (by omega) (by decide) (by decide), Option.bind_some, gr_k (Qs_S H3 h1).1 (Qs_R H3 h1).2.2.2, Option.bind_some, gr_k (Qs_S H3 h0).1 (Qs_R H3 h0).2.2.2, Option.bind_some, show (6 : Int32) = nI 6 from rfl, cp_k (Qs_S H3 h1).2.2.2.2 (Qs_S H3 h0).2.2.2.2 (by omega) (by omega) (by decide) (by decide), Option.bind_some]
  have z : ∀ j, zI (sC (sC (sC (sC h (x1 + 1) (x0 + 1) 0 0 36) (x1 + 2) (x0 + 2) 0 0 20) (x1 + 3) (x0 + 3) 0 0 20) (x1 + 4) (x0 + 4) 0 0 6) x1 j = zI h x1 j := fun j => by
    have f1 := far 0 (by omega) 1 (by omega)
    have f2 := far 0 (by omega) 2 (by omega)
    have f3 := far 0 (by omega) 3 (by omega)
    have f4 := far 0 (by omega) 4 (by omega)
    rw [zI_sC, if_neg (by omega), zI_sC, if_neg (by omega), zI_sC, if_neg (by omega), zI_sC, if_neg (by omega)]
  generalize sC (sC (sC (sC h (x1 + 1) (x0 + 1) 0 0 36) (x1 + 2) (x0 + 2) 0 0 20) (x1 + 3) (x0 + 3) 0 0 20) (x1 + 4) (x0 + 4) 0 0 6 = g at *
  have G1 : ∀ v, Sh (sI g x0 4 v) r := fun _ => H4
  have G2 : ∀ v w, Sh (sI (sI g x0 4 v) x0 5 w) r := fun _ _ => H4
  rw [gi_k (Qs_S H4 h1).1, Option.bind_some, z, pi_k (Qs_S H4 h0).1, Option.bind_some, gi_k (Qs_S (G1 _) h1).1, Option.bind_some, zI_row (fun e => hne e.symm), z, pi_k (Qs_S (G1 _) h0).1, Option.bind_some, gi_k (Qs_S (G2 _ _) h1).1, Option.bind_some, zI_row (fun e => hne e.symm), zI_row (fun e => hne e.symm), z, pi_k (Qs_S (G2 _ _) h0).1, Option.bind_some]
theorem cp_z {x0 x1 : Nat} (h0 : Qs x0) (h1 : Qs x1) (hne : x0 ≠ x1) : (∀ a, ¬ (x0 ≤ a ∧ a ≤ x0 + 4) → zI (cpH h x0 x1) a = zI h a) ∧ (∀ j, j < 36 → zI (cpH h x0 x1) (x0 + 1) j = zI h (x1 + 1) j) ∧ (∀ j, j < 20 → zI (cpH h x0 x1) (x0 + 2) j = zI h (x1 + 2) j) ∧ (∀ j, j < 20 → zI (cpH h x0 x1) (x0 + 3) j = zI h (x1 + 3) j) ∧ (∀ j, j < 6 → zI (cpH h x0 x1) (x0 + 4) j = zI h (x1 + 4) j) ∧ zI (cpH h x0 x1) x0 4 = zI h x1 4 ∧ zI (cpH h x0 x1) x0 5 = zI h x1 5 ∧ zI (cpH h x0 x1) x0 6 = zI h x1 6 := by
  have far : ∀ k, k ≤ 4 → ∀ k', k' ≤ 4 → x1 + k ≠ x0 + k' := fun k hk k' hk' => by
    rcases h0 with rfl | rfl | rfl <;> rcases h1 with rfl | rfl | rfl <;> omega
  unfold cpH
  refine ⟨fun a ha => funext fun j => ?_, fun j hj => ?_, fun j hj => ?_, fun j hj => ?_, fun j hj => ?_, ?_, ?_, ?_⟩
  · rw [zI_sI, if_neg (by omega), zI_sI, if_neg (by omega), zI_sI, if_neg (by omega), zI_sC, if_neg (by omega), zI_sC, if_neg (by omega), zI_sC, if_neg (by omega), zI_sC, if_neg (by omega)]
  · rw [zI_sI, if_neg (by omega), zI_sI, if_neg (by omega), zI_sI, if_neg (by omega), zI_sC, if_neg (by omega), zI_sC, if_neg (by omega), zI_sC, if_neg (by omega), zI_sC, if_pos ⟨rfl, by omega, by omega⟩, Nat.sub_zero, Nat.zero_add]
  · have f1 := far 2 (by omega) 1 (by omega)
    rw [zI_sI, if_neg (by omega), zI_sI, if_neg (by omega), zI_sI, if_neg (by omega), zI_sC, if_neg (by omega), zI_sC, if_neg (by omega), zI_sC, if_pos ⟨rfl, by omega, by omega⟩, zI_sC, if_neg (by omega), Nat.sub_zero, Nat.zero_add]
  · have f1 := far 3 (by omega) 1 (by omega)
    have f2 := far 3 (by omega) 2 (by omega)
    rw [zI_sI, if_neg (by omega), zI_sI, if_neg (by omega), zI_sI, if_neg (by omega), zI_sC, if_neg (by omega), zI_sC, if_pos ⟨rfl, by omega, by omega⟩, zI_sC, if_neg (by omega), zI_sC, if_neg (by omega), Nat.sub_zero, Nat.zero_add]
  · have f1 := far 4 (by omega) 1 (by omega)
    have f2 := far 4 (by omega) 2 (by omega)
    have f3 := far 4 (by omega) 3 (by omega)
    rw [zI_sI, if_neg (by omega), zI_sI, if_neg (by omega), zI_sI, if_neg (by omega), zI_sC, if_pos ⟨rfl, by omega, by omega⟩, zI_sC, if_neg (by omega), zI_sC, if_neg (by omega), zI_sC, if_neg (by omega), Nat.sub_zero, Nat.zero_add]
  · rw [zI_sI, if_neg (by omega), zI_sI, if_neg (by omega), zI_sI, if_pos ⟨rfl, rfl⟩]
  · rw [zI_sI, if_neg (by omega), zI_sI, if_pos ⟨rfl, rfl⟩]
  · rw [zI_sI, if_pos ⟨rfl, rfl⟩]
/-! reference: keep -/
theorem k80_go {i : Nat} {h0 : Hp} (H0 : Sh h0 r) (hi : i < 2) : ∀ (d k : Nat) (h : Hp), k ≤ 20 → 20 < k + d → zS h = zS h0 → zR h = zR h0 → zL h = zL h0 → zN h = zN h0 → (∀ a, a ≠ 85 → a ≠ 86 → zI h a = zI h0 a) → (∀ j, j < 36 → zI h 85 (100 * i + j) = zI h0 64 j) → (∀ j, j < 6 → zI h 85 (100 * i + 36 + j) = zI h0 65 j) → (∀ j, j < k → zI h 85 (100 * i + 42 + j) = zI h0 66 j ∧ zI h 85 (100 * i + 62 + j) = zI h0 67 j) → (∀ j, ¬ (100 * i ≤ j ∧ j < 100 * i + 100) → zI h 85 j = zI h0 85 j) → zI h 86 = zI h0 86 → ∃ h', l_X6_keep_80 f d 58 (nI i) (nI (100 * i)) (nI k) h = some (1, h') ∧ Sh h' r ∧ (∀ a, a ≠ 85 → a ≠ 86 → zI h' a = zI h0 a) ∧ (∀ j, j < 36 → zI h' 85 (100 * i + j) = zI h0 64 j) ∧ (∀ j, j < 6 → zI h' 85 (100 * i + 36 + j) = zI h0 65 j) ∧ (∀ j, j < 20 → zI h' 85 (100 * i + 42 + j) = zI h0 66 j ∧ zI h' 85 (100 * i + 62 + j) = zI h0 67 j) ∧ (∀ j, ¬ (100 * i ≤ j ∧ j < 100 * i + 100) → zI h' 85 j = zI h0 85 j) ∧ zI h' 85 (100 * i + 82) = zI h0 58 13 ∧ zI h' 85 (100 * i + 83) = zI h0 58 16 ∧ zI h' 85 (100 * i + 84) = zI h0 58 17 ∧ zI h' 86 i = 1 ∧ (∀ j, j ≠ i → zI h' 86 j = zI h0 86 j) := by
  intro d
  induction d with
  | zero => intro k h h1 h2; omega
  | succ d ih =>
    intro k h hk hkd s1 s2 s3 s4 a1 a2 a3 a4 a5 a6
    have H : Sh h r := by unfold Sh at H0 ⊢; rw [s1, s2]; exact H0
    show ∃ h', b_X6_keep_80 f (l_X6_keep_80 f d) 58 (nI i) (nI (100 * i)) (nI k) h = _ ∧ _
    unfold b_X6_keep_80 lt
    by_cases e : k = 20
    · subst e
      have H1 : ∀ v, Sh (sI h 85 (100 * i + 82) v) r := fun _ => H
      have H2 : ∀ v w, Sh (sI (sI h 85 (100 * i + 82) v) 85 (100 * i + 83) w) r := fun _ _ => H
      have H3 : ∀ v w x, Sh (sI (sI (sI h 85 (100 * i + 82) v) 85 (100 * i + 83) w) 85 (100 * i + 84) x) r := fun _ _ _ => H
      refine ⟨sI (sI (sI (sI h 85 (100 * i + 82) (zI h0 58 13)) 85 (100 * i + 83) (zI h0 58 16)) 85 (100 * i + 84) (zI h0 58 17)) 86 i 1, ?_, H, ?_, ?_, ?_, ?_, ?_, ?_, ?_, ?_, ?_, ?_⟩
      · have i1 : nI (100 * i) + 82 = nI (100 * i + 82) := nI_add _ 82
        have i2 : nI (100 * i) + 83 = nI (100 * i + 83) := nI_add _ 83
        have i3 : nI (100 * i) + 84 = nI (100 * i + 84) := nI_add _ 84
        rw [if_pos (by decide), gr_k (S_58 H) (R_58_54 H), Option.bind_some, gi_k (S_58 H), Option.bind_some, i1, i2, i3, as_nI (S_85 H) (by omega) (by decide), Option.bind_some, gr_k (S_58 (H1 _)) (R_58_54 (H1 _)), Option.bind_some, gi_k (S_58 (H1 _)), Option.bind_some, as_nI (S_85 (H1 _)) (by omega) (by decide), Option.bind_some, gr_k (S_58 (H2 _ _)) (R_58_54 (H2 _ _)), Option.bind_some, gi_k (S_58 (H2 _ _)), Option.bind_some, as_nI (S_85 (H2 _ _)) (by omega) (by decide), Option.bind_some, gr_k (S_58 (H3 _ _ _)) (R_58_55 (H3 _ _ _)), Option.bind_some, as_nI (S_86 (H3 _ _ _)) hi (by decide), Option.bind_some, nar_b (Or.inr rfl), zI_row (by decide), zI_row (by decide), zI_row (by decide), a1 58 (by decide) (by decide)]
      · intro a h1 h2
        rw [zI_row h2, zI_row h1, zI_row h1, zI_row h1]; exact a1 a h1 h2
      · intro j hj
        rw [zI_row (by decide), zI_sI, if_neg (by omega), zI_sI, if_neg (by omega), zI_sI, if_neg (by omega)]; exact a2 j hj
      · intro j hj
        rw [zI_row (by decide), zI_sI, if_neg (by omega), zI_sI, if_neg (by omega), zI_sI, if_neg (by omega)]; exact a3 j hj
      · intro j hj
        rw [zI_row (by decide), zI_sI, if_neg (by omega), zI_sI, if_neg (by omega), zI_sI, if_neg (by omega), zI_sI, if_neg (by omega), zI_sI, if_neg (by omega), zI_sI, if_neg (by omega)]; exact a4 j hj
      · intro j hj
        rw [zI_row (by decide), zI_sI, if_neg (by omega), zI_sI, if_neg (by omega), zI_sI, if_neg (by omega)]; exact a5 j hj
      · rw [zI_row (by decide), zI_sI, if_neg (by omega), zI_sI, if_neg (by omega), zI_sI, if_pos ⟨rfl, rfl⟩]
      · rw [zI_row (by decide), zI_sI, if_neg (by omega), zI_sI, if_pos ⟨rfl, rfl⟩]
      · rw [zI_row (by decide), zI_sI, if_pos ⟨rfl, rfl⟩]
      · rw [zI_sI, if_pos ⟨rfl, rfl⟩]
      · intro j hj
        rw [zI_sI, if_neg (by omega), zI_row (by decide), zI_row (by decide), zI_row (by decide), a6]
    · have i1 : nI (100 * i) + 42 + nI k = nI (100 * i + 42 + k) := by rw [show nI (100 * i) + 42 = nI (100 * i + 42) from nI_add _ 42, nI_add]
      have i2 : nI (100 * i) + 62 + nI k = nI (100 * i + 62 + k) := by rw [show nI (100 * i) + 62 = nI (100 * i + 62) from nI_add _ 62, nI_add]
      have H1 : ∀ v, Sh (sI h 85 (100 * i + 42 + k) v) r := fun _ => H
      rw [if_neg (fun e9 => by have := (nI_leI (a := 20) (b := k) (by omega) (by omega)).mp e9; omega), gr_k (S_58 H) (R_58_54 H), Option.bind_some, gr_k (S_58 H) (R_58_14 H), Option.bind_some, ai_nI (S_66 H) (by omega) (by decide), Option.bind_some, i1, i2, as_nI (S_85 H) (by omega) (by decide), Option.bind_some, gr_k (S_58 (H1 _)) (R_58_54 (H1 _)), Option.bind_some, gr_k (S_58 (H1 _)) (R_58_15 (H1 _)), Option.bind_some, ai_nI (S_67 (H1 _)) (by omega) (by decide), Option.bind_some, as_nI (S_85 (H1 _)) (by omega) (by decide), Option.bind_some, nI_p1, zI_row (by decide), a1 66 (by decide) (by decide), a1 67 (by decide) (by decide)]
      refine ih (k + 1) _ (by omega) (by omega) s1 s2 s3 s4 ?_ ?_ ?_ ?_ ?_ ?_
      · intro a h1 h2; rw [zI_row h1, zI_row h1]; exact a1 a h1 h2
      · intro j hj; rw [zI_sI, if_neg (by omega), zI_sI, if_neg (by omega)]; exact a2 j hj
      · intro j hj; rw [zI_sI, if_neg (by omega), zI_sI, if_neg (by omega)]; exact a3 j hj
      · intro j hj
        by_cases ej : j = k
        · subst ej
          rw [zI_sI, if_neg (by omega), zI_sI, if_pos ⟨rfl, rfl⟩, zI_sI, if_pos ⟨rfl, rfl⟩]; exact ⟨rfl, rfl⟩
        · rw [zI_sI, if_neg (by omega), zI_sI, if_neg (by omega), zI_sI, if_neg (by omega), zI_sI, if_neg (by omega)]; exact a4 j (by omega)
      · intro j hj; rw [zI_sI, if_neg (by omega), zI_sI, if_neg (by omega)]; exact a5 j hj
      · rw [zI_row (by decide), zI_row (by decide)]; exact a6
/-- what a kept image is -/
def KI (h0 h' : Hp) (r : Rs) (i : Nat) : Prop := Sh h' r ∧ (∀ a, a ≠ 85 → a ≠ 86 → zI h' a = zI h0 a) ∧ (∀ j, j < 36 → zI h' 85 (100 * i + j) = zI h0 64 j) ∧ (∀ j, j < 6 → zI h' 85 (100 * i + 36 + j) = zI h0 65 j) ∧ (∀ j, j < 20 → zI h' 85 (100 * i + 42 + j) = zI h0 66 j ∧ zI h' 85 (100 * i + 62 + j) = zI h0 67 j) ∧ (∀ j, ¬ (100 * i ≤ j ∧ j < 100 * i + 100) → zI h' 85 j = zI h0 85 j) ∧ zI h' 85 (100 * i + 82) = zI h0 58 13 ∧ zI h' 85 (100 * i + 83) = zI h0 58 16 ∧ zI h' 85 (100 * i + 84) = zI h0 58 17 ∧ zI h' 86 i = 1 ∧ (∀ j, j ≠ i → zI h' 86 j = zI h0 86 j)
theorem k49_go {i : Nat} {h0 : Hp} (H0 : Sh h0 r) (hi : i < 2) (hf : 100 ≤ f) : ∀ (d k : Nat) (h : Hp), k ≤ 6 → 6 < k + d → zS h = zS h0 → zR h = zR h0 → zL h = zL h0 → zN h = zN h0 → (∀ a, a ≠ 85 → zI h a = zI h0 a) → (∀ j, j < 36 → zI h 85 (100 * i + j) = zI h0 64 j) → (∀ j, j < k → zI h 85 (100 * i + 36 + j) = zI h0 65 j) → (∀ j, ¬ (100 * i ≤ j ∧ j < 100 * i + 100) → zI h 85 j = zI h0 85 j) → ∃ h', l_X6_keep_49 f d 58 (nI i) (nI (100 * i)) (nI k) h = some (1, h') ∧ KI h0 h' r i := by
  intro d
  induction d with
  | zero => intro k h h1 h2; omega
  | succ d ih =>
    intro k h hk hkd s1 s2 s3 s4 a1 a2 a3 a5
    have H : Sh h r := by unfold Sh at H0 ⊢; rw [s1, s2]; exact H0
    show ∃ h', b_X6_keep_49 f (l_X6_keep_49 f d) 58 (nI i) (nI (100 * i)) (nI k) h = _ ∧ _
    unfold b_X6_keep_49 lt
    by_cases e : k = 6
    · subst e
      rw [if_pos (by decide)]
      exact k80_go (f := f) H0 hi f 0 h (by omega) (by omega) s1 s2 s3 s4 (fun a h1 _ => a1 a h1) a2 a3 (fun j hj => by omega) a5 (a1 86 (by decide))
    · have i1 : nI (100 * i) + 36 + nI k = nI (100 * i + 36 + k) := by rw [show nI (100 * i) + 36 = nI (100 * i + 36) from nI_add _ 36, nI_add]
      rw [if_neg (fun e9 => by have := (nI_leI (a := 6) (b := k) (by omega) (by omega)).mp e9; omega), gr_k (S_58 H) (R_58_54 H), Option.bind_some, gr_k (S_58 H) (R_58_12 H), Option.bind_some, ai_nI (S_65 H) (by omega) (by decide), Option.bind_some, i1, as_nI (S_85 H) (by omega) (by decide), Option.bind_some, nI_p1, a1 65 (by decide)]
      refine ih (k + 1) _ (by omega) (by omega) s1 s2 s3 s4 ?_ ?_ ?_ ?_
      · intro a h1; rw [zI_row h1]; exact a1 a h1
      · intro j hj; rw [zI_sI, if_neg (by omega)]; exact a2 j hj
      · intro j hj
        by_cases ej : j = k
        · subst ej; rw [zI_sI, if_pos ⟨rfl, rfl⟩]
        · rw [zI_sI, if_neg (by omega)]; exact a3 j (by omega)
      · intro j hj; rw [zI_sI, if_neg (by omega)]; exact a5 j hj
theorem k21_go {i : Nat} {h0 : Hp} (H0 : Sh h0 r) (hi : i < 2) (hf : 100 ≤ f) : ∀ (d k : Nat) (h : Hp), k ≤ 36 → 36 < k + d → zS h = zS h0 → zR h = zR h0 → zL h = zL h0 → zN h = zN h0 → (∀ a, a ≠ 85 → zI h a = zI h0 a) → (∀ j, j < k → zI h 85 (100 * i + j) = zI h0 64 j) → (∀ j, ¬ (100 * i ≤ j ∧ j < 100 * i + 100) → zI h 85 j = zI h0 85 j) → ∃ h', l_X6_keep_21 f d 58 (nI i) (nI (100 * i)) (nI k) h = some (1, h') ∧ KI h0 h' r i := by
  intro d
  induction d with
  | zero => intro k h h1 h2; omega
  | succ d ih =>
    intro k h hk hkd s1 s2 s3 s4 a1 a2 a5
    have H : Sh h r := by unfold Sh at H0 ⊢; rw [s1, s2]; exact H0
    show ∃ h', b_X6_keep_21 f (l_X6_keep_21 f d) 58 (nI i) (nI (100 * i)) (nI k) h = _ ∧ _
    unfold b_X6_keep_21 lt
    by_cases e : k = 36
    · subst e
      rw [if_pos (by decide)]
      exact k49_go (f := f) H0 hi hf f 0 h (by omega) (by omega) s1 s2 s3 s4 a1 a2 (fun j hj => by omega) a5
    · rw [if_neg (fun e9 => by have := (nI_leI (a := 36) (b := k) (by omega) (by omega)).mp e9; omega), gr_k (S_58 H) (R_58_54 H), Option.bind_some, gr_k (S_58 H) (R_58_11 H), Option.bind_some, ai_nI (S_64 H) (by omega) (by decide), Option.bind_some, nI_add, as_nI (S_85 H) (by omega) (by decide), Option.bind_some, nI_p1, a1 64 (by decide)]
      refine ih (k + 1) _ (by omega) (by omega) s1 s2 s3 s4 ?_ ?_ ?_
      · intro a h1; rw [zI_row h1]; exact a1 a h1
      · intro j hj
        by_cases ej : j = k
        · subst ej; rw [zI_sI, if_pos ⟨rfl, rfl⟩]
        · rw [zI_sI, if_neg (by omega)]; exact a2 j (by omega)
      · intro j hj; rw [zI_sI, if_neg (by omega)]; exact a5 j hj
end IM
theorem ar_k {h : Hp} {a n m b : Nat} (e : zS h a = (11, n)) (hm : m < n) (hn : n < 2 ^ 31) (e2 : zR h a m = some b) : q_ar h a (nI m) = some b := by
  unfold q_ar
  rw [if_pos ⟨by rw [e], by rw [e, q_in, nI_toInt (by omega)]; show _ ∧ (m : Int) < (n : Int); omega⟩, nI_clamp (by omega), e2]
theorem img_R {h : Hp} {r : Rs} (H : Sh h r) {i : Nat} (hi : i < 2) : zR h 22 i = some (23 + 5 * i) := by
  rcases (show i = 0 ∨ i = 1 by omega) with rfl | rfl
  · exact R_22_0 H
  · exact R_22_1 H
theorem st_keep {f : Nat} (hf : 100 ≤ f) (a : Int32) : StpR (f_X5_keep f 0 a) (f_X6_keep f 58 a) := by
  intro h r R
  obtain ⟨H, rp, tx, ft, n, w, l, ga, gb, gc, il, st, sy, im0, im1⟩ := id R
  have hp := Rp_p rp
  unfold f_X5_keep f_X6_keep b_X5_keep_9
  rw [rg_lt (k := 2) (c := 2) rfl (by omega)]
  cases ea : mkB 2 a with
  | false =>
    rw [if_neg (by decide)]
    exact ⟨_, h, h, r, rfl, by rw [S_58 H], by rw [e_inK (k := 1) (by decide) (by omega), bi_mk, ea]; rfl, R⟩
  | true =>
    obtain ⟨i, hi, rfl⟩ := mkB_t (by decide) ea
    have qi : Qs (23 + 5 * i) := by
      rcases (show i = 0 ∨ i = 1 by omega) with rfl | rfl
      · exact Or.inr (Or.inl rfl)
      · exact Or.inr (Or.inr rfl)
    have q17 : Qs 17 := Or.inl rfl
    have hne : 23 + 5 * i ≠ 17 := by omega
    obtain ⟨z0, z1, z2, z3, z4, z5, z6, z7⟩ := cp_z (h := h) qi q17 hne
    have H1 : Sh (cpH h (23 + 5 * i) 17) r := H
    have H2 : Sh (sI (cpH h (23 + 5 * i) 17) 33 i 1) r := H
    have cls : (q_gr h 0 5 7).bind (fun a1_ => (q_ar h a1_ (nI i)).bind fun a2_ => (q_gr h 0 5 6).bind fun a3_ => q_on h a2_ 4 ((f_X4_copyFrom f a2_ a3_ h).bind fun h5_ => (q_gr h5_ 0 5 8).bind fun a6_ => (q_as h5_ a6_ 10 (nI i) (vp_nar .boolean (1 : Int32))).bind fun h7_ => some ((1 : Int32), h7_))) = some (1, sI (cpH h (23 + 5 * i) 17) 33 i 1) := by
      rw [gr_k (S_0 H) (R_0_7 H), Option.bind_some, ar_k (S_22 H) hi (by decide) (img_R H hi), Option.bind_some, gr_k (S_0 H) (R_0_6 H), Option.bind_some, on_k (Qs_S H qi).1, e_copy H qi q17 hne, Option.bind_some, gr_k (S_0 H1) (R_0_8 H1), Option.bind_some, as_nI (S_33 H1) hi (by decide), Option.bind_some, nar_b (Or.inr rfl)]
    generalize hg : sI (cpH h (23 + 5 * i) 17) 33 i 1 = g at *
    have g0 : ∀ a, ¬ (23 + 5 * i ≤ a ∧ a ≤ 27 + 5 * i) → a ≠ 33 → zI g a = zI h a := fun a h1 h2 => by rw [← hg, zI_row h2, z0 a (by omega)]
    obtain ⟨h2, e2, k1, k2, k3, k4, k5, k6, k7, k8, k9, k10, k11⟩ := k21_go (f := f) H2 hi hf f 0 g (by omega) (by omega) rfl rfl rfl rfl (fun _ _ => rfl) (fun j hj => by omega) (fun _ _ => rfl)
    refine ⟨1, g, h2, r, by rw [if_pos rfl]; exact cls, by rw [S_58 H2], ?_, ?_⟩
    · rw [e_inK (k := 1) (by decide) (by omega), bi_mk, ea, b2T, if_pos c10]
      simp only [lt]
      rw [show (100 : Int32) = nI 100 from rfl, pk_mul]
      exact e2
    · have zz : ∀ a, ¬ (23 + 5 * i ≤ a ∧ a ≤ 27 + 5 * i) → a ≠ 33 → a ≠ 85 → a ≠ 86 → zI h2 a = zI h a := fun a h1 h2 h3 h4 => by rw [k2 a h3 h4, g0 a h1 h2]
      have zc : ∀ a, a ≠ 33 → a ≠ 85 → a ≠ 86 → zI h2 a = zI (cpH h (23 + 5 * i) 17) a := fun a h2' h3 h4 => by rw [k2 a h3 h4, ← hg, zI_row h2']
      have I1 : Im h2 n i := by
        refine Or.inr ⟨?_, k10, ⟨?_, ?_, ?_, ?_, ?_, ?_⟩, ?_⟩
        · rw [k2 33 (by decide) (by decide), ← hg, zI_sI, if_pos ⟨rfl, rfl⟩]
        · intro j hj
          dsimp only
          rw [k3 j hj, show 24 + 5 * i = 23 + 5 * i + 1 by omega, zc _ (by omega) (by omega) (by omega), z1 j hj, g0 64 (by omega) (by decide)]
          exact st.1.1 j hj
        · intro j hj
          dsimp only
          rw [k4 j hj, show 27 + 5 * i = 23 + 5 * i + 4 by omega, zc _ (by omega) (by omega) (by omega), z4 j hj, g0 65 (by omega) (by decide)]
          exact st.1.2.1 j hj
        · intro j hj
          dsimp only
          rw [(k5 j hj).1, (k5 j hj).2, show 25 + 5 * i = 23 + 5 * i + 2 by omega, show 26 + 5 * i = 23 + 5 * i + 3 by omega, zc _ (by omega) (by omega) (by omega), zc _ (by omega) (by omega) (by omega), z2 j hj, z3 j hj, g0 66 (by omega) (by decide), g0 67 (by omega) (by decide)]
          exact st.1.2.2.1 j hj
        · rw [k7, zc _ (by omega) (by omega) (by omega), z5, g0 58 (by omega) (by decide)]; exact st.1.2.2.2.1
        · rw [k8, zc _ (by omega) (by omega) (by omega), z6, g0 58 (by omega) (by decide)]; exact st.1.2.2.2.2.1
        · rw [k9, zc _ (by omega) (by omega) (by omega), z7, g0 58 (by omega) (by decide)]; exact st.1.2.2.2.2.2
        · obtain ⟨t1, t2, t3, t4, t5⟩ := st.2
          refine ⟨fun j hj => ?_, fun b hb => ?_, ?_, ?_, ?_⟩
          · show ∃ s, s < 2 ^ n ∧ zI h2 85 (100 * i + j) = nI s
            rw [k3 j hj, g0 64 (by omega) (by decide)]; exact t1 j hj
          · show zI h2 85 (100 * i + 7 * b) = _
            rw [k3 _ (by omega), g0 64 (by omega) (by decide)]; exact t2 b hb
          · rw [k7, g0 58 (by omega) (by decide)]; exact t3
          · rw [k8, g0 58 (by omega) (by decide)]; exact t4
          · rw [k9, g0 58 (by omega) (by decide)]; exact t5
      have I2 : ∀ i', i' < 2 → i' ≠ i → Im h n i' → Im h2 n i' := fun i' hi' ne im => by
        have e85 : ∀ j, j < 100 → zI h2 85 (100 * i' + j) = zI h 85 (100 * i' + j) := fun j hj => by rw [k6 _ (by omega), g0 85 (by omega) (by decide)]
        have e85b : ∀ c j, c + j < 100 → zI h2 85 (100 * i' + c + j) = zI h 85 (100 * i' + c + j) := fun c j hj => by rw [Nat.add_assoc]; exact e85 _ hj
        have e33 : zI h2 33 i' = zI h 33 i' := by rw [k2 33 (by decide) (by decide), ← hg, zI_sI, if_neg (by omega), z0 33 (by omega)]
        have e86 : zI h2 86 i' = zI h 86 i' := by rw [k11 i' ne, g0 86 (by omega) (by decide)]
        have ea : ∀ a, 23 + 5 * i' ≤ a → a ≤ 27 + 5 * i' → zI h2 a = zI h a := fun a h1 h2 => zz a (by omega) (by omega) (by omega) (by omega)
        unfold Im at im ⊢
        rw [e33, e86]
        rcases im with im | ⟨m1, m2, ⟨m3, m4, m5, m6, m7, m8⟩, m9, m10, m11, m12, m13⟩
        · exact Or.inl im
        · refine Or.inr ⟨m1, m2, ⟨?_, ?_, ?_, ?_, ?_, ?_⟩, ?_, ?_, ?_, ?_, ?_⟩
          · intro j hj; dsimp only; rw [ea (24 + 5 * i') (by omega) (by omega), e85 j (by omega)]; exact m3 j hj
          · intro j hj; dsimp only; rw [ea (27 + 5 * i') (by omega) (by omega), e85b 36 j (by omega)]; exact m4 j hj
          · intro j hj; dsimp only; rw [ea (25 + 5 * i') (by omega) (by omega), ea (26 + 5 * i') (by omega) (by omega), e85b 42 j (by omega), e85b 62 j (by omega)]; exact m5 j hj
          · rw [ea (23 + 5 * i') (by omega) (by omega), e85 82 (by omega)]; exact m6
          · rw [ea (23 + 5 * i') (by omega) (by omega), e85 83 (by omega)]; exact m7
          · rw [ea (23 + 5 * i') (by omega) (by omega), e85 84 (by omega)]; exact m8
          · intro j hj; show ∃ s, s < 2 ^ n ∧ zI h2 85 (100 * i' + j) = nI s; rw [e85 j (by omega)]; exact m9 j hj
          · intro b hb; show zI h2 85 (100 * i' + 7 * b) = _; rw [e85 (7 * b) (by omega)]; exact m10 b hb
          · rw [e85 82 (by omega)]; exact m11
          · rw [e85 83 (by omega)]; exact m12
          · rw [e85 84 (by omega)]; exact m13
      have ez : ∀ a, (a < 23 ∨ (34 ≤ a ∧ a < 85)) → zI h2 a = zI h a := fun a ha => zz a (by omega) (by omega) (by omega) (by omega)
      refine ⟨k1, rp, ?_, ?_, n, w, l, ga, gb, gc, ?_, ?_, ?_, ?_, ?_⟩
      · unfold Tx; rw [ez 0 (by omega), ez 58 (by omega), ez 68 (by omega), ez 1 (by omega)]; exact tx
      · unfold Ft; rw [ez 0 (by omega), ez 58 (by omega)]; exact ft
      · unfold Il; rw [ez r.1 (by omega), ez (r.1 + 1) (by omega), ez (r.1 + 2) (by omega), ez (r.1 + 3) (by omega), ez (r.1 + 4) (by omega), ez 58 (by omega), ez 59 (by omega), ez 60 (by omega), ez 61 (by omega), ez 62 (by omega), ez 63 (by omega)]; exact il
      · unfold StN; rw [ez 17 (by omega), ez 18 (by omega), ez 19 (by omega), ez 20 (by omega), ez 21 (by omega), ez 58 (by omega), ez 64 (by omega), ez 65 (by omega), ez 66 (by omega), ez 67 (by omega)]; exact st
      · unfold Sy; rw [ez 34 (by omega), ez 35 (by omega), ez 36 (by omega), ez 37 (by omega), ez 58 (by omega), ez 82 (by omega), ez 83 (by omega), ez 84 (by omega)]; exact sy
      · by_cases c : i = 0
        · rw [c] at I1; exact I1
        · exact I2 0 (by omega) (by omega) im0
      · by_cases c : i = 1
        · rw [c] at I1; exact I1
        · exact I2 1 (by omega) (by omega) im1
