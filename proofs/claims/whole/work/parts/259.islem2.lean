/-! ===== the reference takes the island ===== -/
def Qtk (a j : Nat) : Bool := (decide (a = 58) && (decide (j = 0) || decide (j = 5) || decide (j = 6) || decide (j = 7) || decide (j = 9) || decide (j = 10) || decide (j = 13) || decide (j = 16) || decide (j = 50))) || (decide (59 ≤ a) && decide (a ≤ 65)) || decide (a = 86)
theorem Qtk_ti {h h' : Hp} (F : Fx Qti h h') : Fx Qtk h h' := Fx_mono F (fun a j w => by
  unfold Qtk at w
  unfold Qti
  simp only [Bool.or_eq_false_iff, Bool.and_eq_false_iff, decide_eq_false_iff_not] at w ⊢
  omega)
theorem Qtk_ba {h h' : Hp} (F : Fx Qba h h') : Fx Qtk h h' := Fx_mono F (fun a j w => by
  unfold Qtk at w
  unfold Qba
  simp only [Bool.or_eq_false_iff, Bool.and_eq_false_iff, decide_eq_false_iff_not] at w ⊢
  omega)
section IL2
variable {f n : Nat} {r : Rs} {t : Nat → Nat}
theorem TIk_row {h h' : Hp} {P : Ps} {k m : Nat} (I : TIk h P k m) (e : ∀ a, 59 ≤ a → a ≤ 62 → zI h' a = zI h a) : TIk h' P k m := by
  unfold TIk
  rw [e 59 (by omega) (by omega), e 60 (by omega) (by omega), e 61 (by omega) (by omega), e 62 (by omega) (by omega)]
  exact I
/-- the plain fields -/
def TFl (h : Hp) (P : Ps) : Prop := zI h 58 5 = nI (qJ P) ∧ zI h 58 6 = nI (qL P) ∧ zI h 58 7 = nI (qI P) ∧ zI h 58 9 = nI (qp P) ∧ zI h 58 10 = nI (qz P)
theorem ti_go {P : Ps} (W : PW P) (hf : 500 ≤ f) : ∀ (d k : Nat) (h : Hp), MJl h r t n P → zI h 58 0 = nI (qN P) → TIk h P k 0 → k ≤ qN P → qN P < k + d → ∃ h', l_X6_takeIsland_10 f d 58 (nI k) h = l_X6_takeIsland_194 f f 58 0 h' ∧ Fx Qtk h h' ∧ (∀ a, 63 ≤ a → zI h' a = zI h a) ∧ zI h' 58 0 = nI (qN P) ∧ TIk h' P (qN P) 0 ∧ TFl h' P := by
  have N9 := W.1.1
  intro d
  induction d with
  | zero => intro k h _ _ _ h1 h2; omega
  | succ d ih =>
    intro k h M e0 I hk hd
    have H := M.1.1
    obtain ⟨m26, m32, m33, m34, m36, m37, m38⟩ := M.2.1
    show ∃ h', b_X6_takeIsland_10 f (l_X6_takeIsland_10 f d) 58 (nI k) h = _ ∧ _
    unfold b_X6_takeIsland_10
    rw [gi_k (S_58 H), Option.bind_some, e0]
    by_cases c : k = qN P
    · have s1 : ∀ v, Sh (sI h 58 5 v) r := fun _ => H
      have s2 : ∀ v w, Sh (sI (sI h 58 5 v) 58 6 w) r := fun _ _ => H
      have s3 : ∀ v w x, Sh (sI (sI (sI h 58 5 v) 58 6 w) 58 7 x) r := fun _ _ _ => H
      have s4 : ∀ v w x y, Sh (sI (sI (sI (sI h 58 5 v) 58 6 w) 58 7 x) 58 9 y) r := fun _ _ _ _ => H
      refine ⟨sI (sI (sI (sI (sI h 58 5 (nI (qJ P))) 58 6 (nI (qL P))) 58 7 (nI (qI P))) 58 9 (nI (qp P))) 58 10 (nI (qz P)), ?_, ?_, fun a ha => ?_, ?_, ?_, ⟨?_, ?_, ?_, ?_, ?_⟩⟩
      · rw [if_pos ((nI_leI (by omega) (by omega)).mpr (by omega)), gi_k (S_58 H), Option.bind_some, m32, pi_k (S_58 H), Option.bind_some, gi_k (S_58 (s1 _)), Option.bind_some, zI_sI, if_neg (by omega), m33, pi_k (S_58 (s1 _)), Option.bind_some, gi_k (S_58 (s2 _ _)), Option.bind_some, zI_sI, if_neg (by omega), zI_sI, if_neg (by omega), m36, pi_k (S_58 (s2 _ _)), Option.bind_some, gi_k (S_58 (s3 _ _ _)), Option.bind_some, zI_sI, if_neg (by omega), zI_sI, if_neg (by omega), zI_sI, if_neg (by omega), m37, pi_k (S_58 (s3 _ _ _)), Option.bind_some, gi_k (S_58 (s4 _ _ _ _)), Option.bind_some, zI_sI, if_neg (by omega), zI_sI, if_neg (by omega), zI_sI, if_neg (by omega), zI_sI, if_neg (by omega), m38, pi_k (S_58 (s4 _ _ _ _)), Option.bind_some]
      · exact Fx_then (Fx_then (Fx_then (Fx_then (Fx_sI rfl) rfl) rfl) rfl) rfl
      · rw [zI_row (by omega), zI_row (by omega), zI_row (by omega), zI_row (by omega), zI_row (by omega)]
      · simp only [zI_sI, true_and]; exact e0
      · rw [← c]
        exact TIk_row I (fun a h1 h2 => by rw [zI_row (by omega), zI_row (by omega), zI_row (by omega), zI_row (by omega), zI_row (by omega)])
      · simp [zI_sI]
      · simp [zI_sI]
      · simp [zI_sI]
      · simp [zI_sI]
      · simp [zI_sI]
    · have hk' : k < qN P := by omega
      obtain ⟨mx, my⟩ := M.2.2.1 k hk'
      have H1 : Sh (sI h 59 k (nI (qX P k))) r := H
      have Fs : Fx Qti h (sI (sI h 59 k (nI (qX P k))) 60 k (nI (qY P k))) := Fx_then (Fx_sI rfl) rfl
      have M2 : MJl (sI (sI h 59 k (nI (qX P k))) 60 k (nI (qY P k))) r t n P := MJl_Fx M Fs (fun b j w => by
        unfold Qti
        simp only [Bool.and_eq_false_iff, decide_eq_false_iff_not]
        omega)
      have I2 : TIk (sI (sI h 59 k (nI (qX P k))) 60 k (nI (qY P k))) P k (0 + 1) := by
        refine ⟨fun j hj => ?_, fun m' j hm' hj => ?_⟩
        · by_cases e : j = k
          · rw [e, zI_row (by omega), zI_sI, if_pos ⟨rfl, rfl⟩, zI_sI, if_pos ⟨rfl, rfl⟩]; exact ⟨rfl, rfl⟩
          · rw [zI_row (by omega), zI_sI, if_neg (fun w => e w.2), zI_sI, if_neg (fun w => e w.2), zI_row (by omega)]; exact I.1 j (by omega)
        · rw [zI_row (by omega), zI_row (by omega), zI_row (by omega), zI_row (by omega)]; exact I.2 m' j hm' (by omega)
      obtain ⟨h2, e2, F2, I3⟩ := ti_in (f := f) (k10 := l_X6_takeIsland_10 f d) W hk' f 0 _ M2 I2 (by omega) (by omega)
      have M3 : MJl h2 r t n P := MJl_Fx M2 F2 (fun b j w => by
        unfold Qti
        simp only [Bool.and_eq_false_iff, decide_eq_false_iff_not]
        omega)
      have z58 : ∀ j, zI h2 58 j = zI h 58 j := fun j => by rw [F2.1 58 j rfl, zI_row (by omega), zI_row (by omega)]
      obtain ⟨h', e', F', x1, x2, x3, x4⟩ := ih (k + 1) h2 M3 (by rw [z58]; exact e0) I3 (by omega) (by omega)
      rw [if_neg (fun w => by have := (nI_leI (a := qN P) (b := k) (by omega) (by omega)).mp w; omega), gr_k (S_58 H) (R_58_1 H), Option.bind_some, gr_k (S_58 H) (R_58_27 H), Option.bind_some, ai_nI (S_69 H) (by omega) (by decide), Option.bind_some, mx, as_nI (S_59 H) (by omega) (by decide), Option.bind_some, gr_k (S_58 H1) (R_58_2 H1), Option.bind_some, gr_k (S_58 H1) (R_58_28 H1), Option.bind_some, ai_nI (S_70 H1) (by omega) (by decide), Option.bind_some, zI_row (by omega), my, as_nI (S_60 H1) (by omega) (by decide), Option.bind_some]
      refine ⟨h', e2.trans e', Fx_tr (Qtk_ti Fs) (Fx_tr (Qtk_ti F2) F'), fun a ha => ?_, x2, x3, x4⟩
      have q2 : zI h2 a = zI (sI (sI h 59 k (nI (qX P k))) 60 k (nI (qY P k))) a := Fx_row F2 (fun j => by unfold Qti; simp; omega)
      rw [x1 a ha, q2, zI_row (by omega), zI_row (by omega)]
theorem tg_step {h : Hp} {i d : Nat} (H : Sh h r) (hi : i < 3) : l_X6_takeIsland_194 f (d + 1) 58 (nI i) h = l_X6_takeIsland_194 f d 58 (nI (i + 1)) (sI h 63 i (zI h 74 i)) := by
  show b_X6_takeIsland_194 f (l_X6_takeIsland_194 f d) 58 (nI i) h = _
  unfold b_X6_takeIsland_194 lt
  rw [if_neg (show ¬ (3 : Int32) ≤ nI i from fun w => by have := (nI_leI (a := 3) (b := i) (by omega) (by omega)).mp w; omega), gr_k (S_58 H) (R_58_8 H), Option.bind_some, gr_k (S_58 H) (R_58_35 H), Option.bind_some, ai_nI (S_74 H) hi (by decide), Option.bind_some, as_nI (S_63 H) hi (by decide), Option.bind_some, nI_p1]
/-- what takeIsland leaves -/
def TIe (h' : Hp) (P : Ps) : Prop := zI h' 58 0 = nI (qN P) ∧ TFl h' P ∧ zI h' 58 13 = 0 ∧ zI h' 58 16 = -1 ∧ zI h' 58 50 = 0 ∧ (zI h' 63 0 = nI (qA P) ∧ zI h' 63 1 = nI (qB P) ∧ zI h' 63 2 = nI (qD P)) ∧ TIk h' P (qN P) 0 ∧ (∀ i, i < 36 → zI h' 64 i = if i % 7 = 0 then nI (2 ^ qN P - 1) else 0) ∧ (∀ b, b < 6 → zI h' 65 b = 0) ∧ zI h' 86 0 = 0 ∧ zI h' 86 1 = 0
theorem e_takeIsland {h : Hp} {P : Ps} (M : MJl h r t n P) (G : MGl h P) (W : PW P) (hf : 500 ≤ f) : ∃ h', f_X6_takeIsland f 58 h = some h' ∧ Fx Qtk h h' ∧ TIe h' P := by
  have H := M.1.1
  have N9 := W.1.1
  have F0 : Fx Qtk h (sI h 58 0 (nI (qN P))) := Fx_sI rfl
  have M1 : MJl (sI h 58 0 (nI (qN P))) r t n P := MJl_Fx (Q := fun b j => decide (b = 58) && decide (j = 0)) M (Fx_sI rfl) (fun b j w => by
    simp only [Bool.and_eq_false_iff, decide_eq_false_iff_not]
    omega)
  obtain ⟨h1, e1, F1, z1, z0, I1, T1⟩ := ti_go (f := f) W hf f 0 _ M1 (by rw [zI_sI, if_pos ⟨rfl, rfl⟩]) ⟨fun j hj => by omega, fun m' j _ hj => by omega⟩ (by omega) (by omega)
  have H1 := Fx_Sh F1 M1.1.1
  have g74 : zI h1 74 = zI h 74 := by rw [z1 74 (by omega), zI_row (by omega)]
  obtain ⟨d, hd⟩ : ∃ d, f = d + 4 := ⟨f - 4, by omega⟩
  generalize hg : sI (sI (sI h1 63 0 (zI h1 74 0)) 63 1 (zI h1 74 1)) 63 2 (zI h1 74 2) = g
  have Hg : Sh g r := by rw [← hg]; exact H1
  have zg : ∀ a, a ≠ 63 → zI g a = zI h1 a := fun a ha => by rw [← hg, zI_row ha, zI_row ha, zI_row ha]
  have l3 : l_X6_takeIsland_194 f f 58 0 h1 = l_X6_takeIsland_194 f (d + 1) 58 (nI 3) g := by
    rw [show l_X6_takeIsland_194 f f 58 0 h1 = l_X6_takeIsland_194 f (d + 4) 58 (nI 0) h1 by rw [← hd]; rfl]
    rw [tg_step H1 (by omega)]
    have S1 : Sh (sI h1 63 0 (zI h1 74 0)) r := H1
    rw [tg_step S1 (by omega), zI_row (by omega)]
    have S2 : Sh (sI (sI h1 63 0 (zI h1 74 0)) 63 1 (zI h1 74 1)) r := H1
    rw [tg_step S2 (by omega), zI_row (by omega), zI_row (by omega), hg]
  have S1 : Sh (sI g 58 50 0) r := Hg
  have S2 : Sh (sI (sI g 58 50 0) 86 0 0) r := Hg
  have S3 : Sh (sI (sI (sI g 58 50 0) 86 0 0) 86 1 0) r := Hg
  obtain ⟨h', e', F', b13, b16, b64, b65⟩ := ba_go (f := f) N9 hf f 0 _ S3 (by rw [zI_row (by omega), zI_row (by omega), zI_sI, if_neg (by omega), zg 58 (by omega)]; exact z0) (by omega) (by omega)
  have a0 : ∀ v : Int32, q_as (sI g 58 50 0) 86 10 0 v = some (sI (sI g 58 50 0) 86 0 v) := fun v => as_nI (m := 0) (S_86 S1) (by decide) (by decide)
  have a1 : ∀ v : Int32, q_as (sI (sI g 58 50 0) 86 0 0) 86 10 1 v = some (sI (sI (sI g 58 50 0) 86 0 0) 86 1 v) := fun v => as_nI (m := 1) (S_86 S2) (by decide) (by decide)
  have Fg : Fx Qtk h1 (sI (sI (sI g 58 50 0) 86 0 0) 86 1 0) := by
    rw [← hg]
    exact Fx_then (Fx_then (Fx_then (Fx_then (Fx_then (Fx_sI rfl) rfl) rfl) rfl) rfl) rfl
  have zb : ∀ a j, Qba a j = false → zI h' a j = zI (sI (sI (sI g 58 50 0) 86 0 0) 86 1 0) a j := F'.1
  have z58 : ∀ j, j ≠ 13 → j ≠ 16 → j ≠ 50 → zI h' 58 j = zI h1 58 j := fun j w1 w2 w3 => by
    rw [zb 58 j (by unfold Qba; simp [w1, w2]), zI_row (by omega), zI_row (by omega), zI_sI, if_neg (fun w => w3 w.2), zg 58 (by omega)]
  have zr : ∀ a, a ≠ 58 → a ≠ 63 → a ≠ 64 → a ≠ 65 → a ≠ 86 → zI h' a = zI h1 a := fun a w1 w2 w3 w4 w5 => funext fun j => by
    rw [zb a j (by unfold Qba; simp [w1, w3, w4]), zI_row w5, zI_row w5, zI_row w1, zg a w2]
  have z63 : ∀ j, zI h' 63 j = zI g 63 j := fun j => by rw [zb 63 j rfl, zI_row (by omega), zI_row (by omega), zI_row (by omega)]
  refine ⟨h', ?_, Fx_tr F0 (Fx_tr F1 (Fx_tr Fg (Qtk_ba F'))), ?_, ?_, b13, b16, ?_, ⟨?_, ?_, ?_⟩, ?_, fun i hi => ?_, fun b hb => ?_, ?_, ?_⟩
  · unfold f_X6_takeIsland
    rw [gi_k (S_58 H), Option.bind_some, M.2.1.1, pi_k (S_58 H), Option.bind_some]
    refine e1.trans (l3.trans ?_)
    show b_X6_takeIsland_194 f (l_X6_takeIsland_194 f d) 58 (nI 3) g = _
    unfold b_X6_takeIsland_194 f_X6_bare
    rw [if_pos (show (3 : Int32) ≤ nI 3 by decide), pi_k (S_58 Hg), Option.bind_some, gr_k (S_58 S1) (R_58_55 S1), Option.bind_some, nar_b (Or.inl rfl), a0, Option.bind_some, gr_k (S_58 S2) (R_58_55 S2), Option.bind_some, a1, Option.bind_some, on_k (S_58 S3)]
    have e2 : l_X6_bare_2 f f 58 0 (sI (sI (sI g 58 50 0) 86 0 0) 86 1 0) = some h' := e'
    rw [e2, Option.bind_some]
  · rw [z58 0 (by omega) (by omega) (by omega)]; exact z0
  · unfold TFl
    rw [z58 5 (by omega) (by omega) (by omega), z58 6 (by omega) (by omega) (by omega), z58 7 (by omega) (by omega) (by omega), z58 9 (by omega) (by omega) (by omega), z58 10 (by omega) (by omega) (by omega)]; exact T1
  · rw [zb 58 50 rfl, zI_row (by omega), zI_row (by omega), zI_sI, if_pos ⟨rfl, rfl⟩]
  · rw [z63, ← hg]; simp only [zI_sI, true_and]; rw [g74]; exact G.1
  · rw [z63, ← hg]; simp only [zI_sI, true_and]; rw [g74]; exact G.2.1
  · rw [z63, ← hg]; simp only [zI_sI, true_and]; rw [g74]; exact G.2.2
  · exact TIk_row I1 (fun a h1 h2 => zr a (by omega) (by omega) (by omega) (by omega) (by omega))
  · rw [b64, if_pos (show 6 * 0 ≤ i ∧ i < 36 by omega)]
  · rw [b65, if_pos (show 0 ≤ b ∧ b < 6 by omega)]
  · rw [zb 86 0 rfl, zI_sI, if_neg (by omega), zI_sI, if_pos ⟨rfl, rfl⟩]
  · rw [zb 86 1 rfl, zI_sI, if_pos ⟨rfl, rfl⟩]
/-! the whole of it -/
theorem gz_go : ∀ (d i : Nat) (h : Hp), Sh h r → i ≤ 3 → 3 < i + d → ∃ h', l_X6_island_54 f d 58 (nI i) h = l_X6_island_74 f f 58 0 h' ∧ Fx (fun a _ => decide (a = 74)) h h' ∧ (∀ j, i ≤ j → j < 3 → zI h' 74 j = 0) ∧ (∀ j, j < i → zI h' 74 j = zI h 74 j) := by
  intro d
  induction d with
  | zero => intro i h _ h1 h2; omega
  | succ d ih =>
    intro i h H hi hd
    show ∃ h', b_X6_island_54 f (l_X6_island_54 f d) 58 (nI i) h = _ ∧ _
    unfold b_X6_island_54 lt
    by_cases c : i = 3
    · rw [if_pos (show (3 : Int32) ≤ nI i from (nI_leI (a := 3) (by omega) (by omega)).mpr (by omega))]
      exact ⟨h, rfl, Fx_rf _ _, fun j h1 h2 => by omega, fun _ _ => rfl⟩
    · have H1 : Sh (sI h 74 i 0) r := H
      obtain ⟨h', e, F, z1, z2⟩ := ih (i + 1) _ H1 (by omega) (by omega)
      rw [if_neg (show ¬ (3 : Int32) ≤ nI i from fun w => by have := (nI_leI (a := 3) (b := i) (by omega) (by omega)).mp w; omega), gr_k (S_58 H) (R_58_35 H), Option.bind_some, as_nI (S_74 H) (by omega) (by decide), Option.bind_some, nI_p1]
      refine ⟨h', e, Fx_tr (Fx_sI (by simp)) F, fun j h1 h2 => ?_, fun j hj => ?_⟩
      · by_cases c1 : j = i
        · rw [z2 j (by omega), c1, zI_sI, if_pos ⟨rfl, rfl⟩]
        · exact z1 j (by omega) h2
      · rw [z2 j (by omega), zI_sI, if_neg (by omega)]
theorem isle_M {h : Hp} {R : Nat × Nat × Ps} (T : TM h r t n) (hf : 500 ≤ f) (eR : par t n (n + 1) P0 0 = R) : ∃ h', f_X6_island f 58 h = some ((if R.1 = 0 then nI (qN R.2.2) else (-10 : Int32) - nI R.1), h') ∧ Fx (fun a _ => decide (58 ≤ a)) h h' ∧ zI h' 58 19 = 0 ∧ zI h' 58 20 = (if R.1 = 0 then -1 else nI R.2.1) ∧ (R.1 ≠ 0 → ∀ a j, QMc a j = false → (a ≠ 58 ∨ j ≠ 19) → zI h' a j = zI h a j) ∧ (R.1 = 0 → TIe h' R.2.2 ∧ zI h' 66 = zI h 66 ∧ zI h' 67 = zI h 67 ∧ zI h' 58 17 = zI h 58 17) := by
  have H := T.1
  have n400 := T.2.1
  have r4 : R.1 ≤ 4 := by rw [← eR]; exact par_4 _ _ _
  have W : PW R.2.2 := by rw [← eR]; exact par_PW _ _ _ PW_0 (by omega)
  generalize hg : sI (sI (sI (sI (sI (sI (sI (sI (sI (sI h 58 20 (-1)) 58 21 0) 58 26 0) 58 32 0) 58 33 0) 58 34 0) 58 36 0) 58 37 10) 58 38 100) 58 39 0 = g
  have Hg : Sh g r := by rw [← hg]; exact H
  have Fg : Fx QMc h g := by
    rw [← hg]
    exact Fx_then (Fx_then (Fx_then (Fx_then (Fx_then (Fx_then (Fx_then (Fx_then (Fx_then (Fx_sI rfl) rfl) rfl) rfl) rfl) rfl) rfl) rfl) rfl) rfl
  obtain ⟨h1, e1, F1, z74, -⟩ := gz_go (f := f) f 0 g Hg (by omega) (by omega)
  have H1 := Fx_Sh F1 Hg
  have F1' : Fx QMc g h1 := Fx_mono F1 (fun a j w => by
    unfold QMc at w
    simp only [Bool.or_eq_false_iff, Bool.and_eq_false_iff, decide_eq_false_iff_not] at w ⊢
    omega)
  have z1 : ∀ j, zI h1 58 j = zI g 58 j := fun j => F1.1 58 j (by simp)
  have T1 : TM h1 r t n := TM_Fx (TM_Fx T Fg (fun _ => rfl) rfl) F1' (fun _ => rfl) rfl
  have M1 : MJl h1 r t n P0 := by
    refine ⟨T1, ⟨?_, ?_, ?_, ?_, ?_, ?_, ?_⟩, fun k hk => absurd hk (by show ¬ k < 0; omega), fun m _ k hk => absurd hk (by show ¬ k < 0; omega)⟩
    all_goals rw [z1, ← hg]; simp only [zI_sI, true_and]; rfl
  have G1 : MGl h1 P0 := ⟨z74 0 (by omega) (by omega), z74 1 (by omega) (by omega), z74 2 (by omega) (by omega)⟩
  have g20 : zI h1 58 20 = -1 := by rw [z1, ← hg]; simp [zI_sI]
  obtain ⟨h2, e2, F2, x1, x2⟩ := mr_go (f := f) hf (n + 1) P0 0 h1 f M1 G1 (by rw [z1, ← hg]; simp only [zI_sI, true_and]; rfl) PW_0 (by omega) (by omega) (by omega) (by rw [z1, ← hg]; simp only [zI_sI, true_and]; rfl)
  rw [eR] at e2 x1 x2
  have H2 := Fx_Sh F2 H1
  have H3 : Sh (sI h2 58 19 0) r := H2
  have Fall : Fx QMc h h2 := Fx_tr Fg (Fx_tr F1' F2)
  have start : f_X6_island f 58 h = b_X6_island_93 f 58 (nI R.1) h2 := by
    unfold f_X6_island
    have s : ∀ x : Hp, Sh x r → zS x 58 = zS h 58 := fun x X => (S_58 X).trans (S_58 H).symm
    rw [pi_k (S_58 H), Option.bind_some, pi_k (S_58 (Sh_sI H _ _ _)), Option.bind_some, pi_k (S_58 (Sh_sI (Sh_sI H _ _ _) _ _ _)), Option.bind_some, pi_k (S_58 (Sh_sI (Sh_sI (Sh_sI H _ _ _) _ _ _) _ _ _)), Option.bind_some, pi_k (S_58 (Sh_sI (Sh_sI (Sh_sI (Sh_sI H _ _ _) _ _ _) _ _ _) _ _ _)), Option.bind_some, pi_k (S_58 (Sh_sI (Sh_sI (Sh_sI (Sh_sI (Sh_sI H _ _ _) _ _ _) _ _ _) _ _ _) _ _ _)), Option.bind_some, pi_k (S_58 (Sh_sI (Sh_sI (Sh_sI (Sh_sI (Sh_sI (Sh_sI H _ _ _) _ _ _) _ _ _) _ _ _) _ _ _) _ _ _)), Option.bind_some, pi_k (S_58 (Sh_sI (Sh_sI (Sh_sI (Sh_sI (Sh_sI (Sh_sI (Sh_sI H _ _ _) _ _ _) _ _ _) _ _ _) _ _ _) _ _ _) _ _ _)), Option.bind_some, pi_k (S_58 (Sh_sI (Sh_sI (Sh_sI (Sh_sI (Sh_sI (Sh_sI (Sh_sI (Sh_sI H _ _ _) _ _ _) _ _ _) _ _ _) _ _ _) _ _ _) _ _ _) _ _ _)), Option.bind_some, pi_k (S_58 (Sh_sI (Sh_sI (Sh_sI (Sh_sI (Sh_sI (Sh_sI (Sh_sI (Sh_sI (Sh_sI H _ _ _) _ _ _) _ _ _) _ _ _) _ _ _) _ _ _) _ _ _) _ _ _) _ _ _)), Option.bind_some, hg]
    exact e1.trans e2
  have F58 : ∀ {a b : Hp}, Fx QMc a b → Fx (fun a _ => decide (58 ≤ a)) a b := fun F => Fx_mono F (fun a j w => by
    unfold QMc
    simp only [Bool.or_eq_false_iff, Bool.and_eq_false_iff, decide_eq_false_iff_not] at w ⊢
    omega)
  rw [start]
  unfold b_X6_island_93
  rw [pi_k (S_58 H2), Option.bind_some]
  have nle : (nI R.1 ≤ (0 : Int32)) ↔ R.1 = 0 := nI_le0 (by omega)
  by_cases c0 : R.1 = 0
  · obtain ⟨M2, G2, y20⟩ := x2 c0
    have M3 : MJl (sI h2 58 19 0) r (fun _ => 0) 0 R.2.2 := by
      obtain ⟨_, c1, c2, c3⟩ := M2
      refine ⟨⟨H3, by omega, ?_, fun j hj => absurd hj (by omega)⟩, ?_, ?_, ?_⟩
      · rw [zI_sI, if_pos ⟨rfl, rfl⟩]; rfl
      · simp only [zI_sI, true_and]; exact c1
      · intro k hk; rw [zI_row (by omega), zI_row (by omega)]; exact c2 k hk
      · intro m hm k hk; rw [zI_row (by omega), zI_row (by omega), zI_row (by omega)]; exact c3 m hm k hk
    have G3 : MGl (sI h2 58 19 0) R.2.2 := MGl_row G2 (by rw [zI_row (by omega)]) rfl rfl rfl
    obtain ⟨h', e', F', E'⟩ := e_takeIsland (f := f) M3 G3 W hf
    have H' := Fx_Sh F' H3
    rw [if_pos (nle.mpr c0), on_k (S_58 H3), e', Option.bind_some, gi_k (S_58 H'), Option.bind_some, E'.1, if_pos c0, if_pos c0]
    have F'' : Fx (fun a _ => decide (58 ≤ a)) (sI h2 58 19 0) h' := Fx_mono F' (fun a j w => by
      unfold Qtk
      simp only [Bool.or_eq_false_iff, Bool.and_eq_false_iff, decide_eq_false_iff_not] at w ⊢
      omega)
    refine ⟨h', rfl, Fx_tr (F58 Fall) (Fx_tr (Fx_sI (by simp)) F''), ?_, ?_, fun w => absurd c0 w, fun _ => ⟨E', ?_, ?_, ?_⟩⟩
    · rw [F'.1 58 19 rfl, zI_sI, if_pos ⟨rfl, rfl⟩]
    · rw [F'.1 58 20 rfl, zI_sI, if_neg (by omega), y20]; exact g20
    · have : zI h' 66 = zI (sI h2 58 19 0) 66 := Fx_row F' (fun _ => rfl)
      rw [this, zI_row (by omega)]; exact Fx_row Fall (fun _ => rfl)
    · have : zI h' 67 = zI (sI h2 58 19 0) 67 := Fx_row F' (fun _ => rfl)
      rw [this, zI_row (by omega)]; exact Fx_row Fall (fun _ => rfl)
    · rw [F'.1 58 17 rfl, zI_sI, if_neg (by omega)]; exact Fall.1 58 17 rfl
  · rw [if_neg (fun w => c0 (nle.mp w)), if_neg c0, if_neg c0]
    refine ⟨sI h2 58 19 0, rfl, Fx_tr (F58 Fall) (Fx_sI (by simp)), by rw [zI_sI, if_pos ⟨rfl, rfl⟩], by rw [zI_sI, if_neg (by omega)]; exact x1 c0, fun _ a j w wa => ?_, fun w => absurd w c0⟩
    rw [zI_sI, if_neg (by omega)]; exact Fall.1 a j w
end IL2
