/-! ===== island on the class's side ===== -/
def QRI (q a j : Nat) : Bool := (decide (a = 12) && (decide (4 ≤ j) && decide (j ≤ 6))) || (decide (13 ≤ a) && decide (a ≤ 15)) || (decide (q ≤ a) && decide (a ≤ q + 4))
theorem QRI_f {q a j : Nat} (h1 : a ≠ 12 ∨ j < 4 ∨ 6 < j) (h2 : a < 13 ∨ 15 < a) (h3 : a < q ∨ q + 4 < a) : QRI q a j = false := by
  unfold QRI
  simp only [Bool.or_eq_false_iff, Bool.and_eq_false_iff, decide_eq_false_iff_not]; omega
def rR (r : Rs) : Rs := (r.1, r.2.1, 1, r.2.2.2.1, r.2.2.2.2)
theorem q_RI {q a j : Nat} (h : QRI q a j = false) : QRd q a j = false := by
  unfold QRI at h
  unfold QRd QRn
  simp only [Bool.or_eq_false_iff, Bool.and_eq_false_iff, decide_eq_false_iff_not] at h ⊢
  omega
theorem sb_0 : sbP P0 = 0 := rfl
section ILC
variable {f q n : Nat} {r : Rs} {t : Nat → Nat} {h : Hp}
theorem e_clear (H : Sh h r) (hq : q = 2 ∨ q = 7) : ∃ h', f_X0_clear f q h = some h' ∧ Fx (fun a _ => decide (a = q)) h h' ∧ zI h' q 4 = 0 ∧ zI h' q 5 = 0 ∧ zI h' q 6 = 0 ∧ zI h' q 7 = 0 ∧ zI h' q 8 = 0 ∧ zI h' q 9 = 0 ∧ zI h' q 10 = 0 ∧ zI h' q 11 = 10 ∧ zI h' q 12 = 100 := by
  have S : ∀ g : Hp, Sh g r → zS g q = (1, 0) := fun g G => Ip_S G hq
  unfold f_X0_clear
  refine ⟨sI (sI (sI (sI (sI (sI (sI (sI (sI h q 4 0) q 5 0) q 6 0) q 7 0) q 8 0) q 9 0) q 10 0) q 11 10) q 12 100, ?_, ?_, ?_⟩
  · rw [pi_k (S _ H), Option.bind_some, pi_k (S _ (Sh_sI H _ _ _)), Option.bind_some, pi_k (S _ (Sh_sI (Sh_sI H _ _ _) _ _ _)), Option.bind_some, pi_k (S _ (Sh_sI (Sh_sI (Sh_sI H _ _ _) _ _ _) _ _ _)), Option.bind_some, pi_k (S _ (Sh_sI (Sh_sI (Sh_sI (Sh_sI H _ _ _) _ _ _) _ _ _) _ _ _)), Option.bind_some, pi_k (S _ (Sh_sI (Sh_sI (Sh_sI (Sh_sI (Sh_sI H _ _ _) _ _ _) _ _ _) _ _ _) _ _ _)), Option.bind_some, pi_k (S _ (Sh_sI (Sh_sI (Sh_sI (Sh_sI (Sh_sI (Sh_sI H _ _ _) _ _ _) _ _ _) _ _ _) _ _ _) _ _ _)), Option.bind_some, pi_k (S _ (Sh_sI (Sh_sI (Sh_sI (Sh_sI (Sh_sI (Sh_sI (Sh_sI H _ _ _) _ _ _) _ _ _) _ _ _) _ _ _) _ _ _) _ _ _)), Option.bind_some, pi_k (S _ (Sh_sI (Sh_sI (Sh_sI (Sh_sI (Sh_sI (Sh_sI (Sh_sI (Sh_sI H _ _ _) _ _ _) _ _ _) _ _ _) _ _ _) _ _ _) _ _ _) _ _ _)), Option.bind_some]
  · exact Fx_then (Fx_then (Fx_then (Fx_then (Fx_then (Fx_then (Fx_then (Fx_then (Fx_sI (by simp)) (by simp)) (by simp)) (by simp)) (by simp)) (by simp)) (by simp)) (by simp)) (by simp)
  · refine ⟨?_, ?_, ?_, ?_, ?_, ?_, ?_, ?_, ?_⟩ <;> simp [zI_sI]
theorem e_read (H : Sh h r) (hq : q = 2 ∨ q = 7) (n400 : n ≤ 400) (tx : ∀ j, j < n → t j < 256 ∧ zI h 1 j = bv (t j)) (hf : 500 ≤ f) : ∃ h', f_X2_read f 12 1 (nI n) q h = some (nI (par t n (n + 1) P0 0).1, h') ∧ Sh h' (rR r) ∧ (∀ a j, QRI q a j = false → zI h' a j = zI h a j) ∧ ((par t n (n + 1) P0 0).1 ≠ 0 → zI h' 12 6 = nI (par t n (n + 1) P0 0).2.1) ∧ ((par t n (n + 1) P0 0).1 = 0 → CIl h' (rR r) q t n (par t n (n + 1) P0 0).2.2) := by
  have H1 : Sh (sR h 12 3 (some 1)) (rR r) := Sh_R12 H 1
  have al : q_al (sR h 12 3 (some 1)) 1 = some (nI 400) := by
    unfold q_al
    rw [S_1 H1, if_pos ⟨by show 8 ≤ 8; omega, by show 8 ≤ 11; omega⟩]; rfl
  have mn : (if nI 400 < nI n then nI 400 else nI n) = nI n := by rw [if_neg (fun w => by have := (nI_ltI (a := 400) (b := n) (by omega) (by omega)).mp w; omega)]
  generalize hg : sI (sI (sR h 12 3 (some 1)) 12 4 (nI n)) 12 5 0 = g
  have Hg : Sh g (rR r) := by rw [← hg]; exact H1
  have zg : ∀ a j, (a ≠ 12 ∨ j < 4 ∨ 6 < j) → zI g a j = zI h a j := fun a j w => by rw [← hg, zI_sI, if_neg (by omega), zI_sI, if_neg (by omega), zI_sR]
  have g4 : zI g 12 4 = nI n := by rw [← hg, zI_sI, if_neg (by omega), zI_sI, if_pos ⟨rfl, rfl⟩]
  have g5 : zI g 12 5 = nI 0 := by rw [← hg, zI_sI, if_pos ⟨rfl, rfl⟩]; rfl
  obtain ⟨h6, F6, a6, e6⟩ := e_fill (f := f) (a := 13) (v := 0) (S_13 Hg) (by omega) (by omega)
  have H6 := Fr_Sh F6 Hg
  obtain ⟨h8, F8, a8, e8⟩ := e_fill (f := f) (a := 15) (v := 0) (S_15 H6) (by omega) (by omega)
  have H8 := Fr_Sh F8 H6
  obtain ⟨h10, e10, F10, c4, c5, c6, c7, c8, c9, c10', c11, c12⟩ := e_clear (f := f) H8 hq
  have H10 := Fx_Sh F10 H8
  have z6 : ∀ a j, a ≠ 13 → zI h6 a j = zI g a j := fun a j w => F6.1 a j (decide_eq_false w)
  have z8 : ∀ a j, a ≠ 15 → zI h8 a j = zI h6 a j := fun a j w => F8.1 a j (decide_eq_false w)
  have z10 : ∀ a j, a ≠ q → zI h10 a j = zI h8 a j := fun a j w => F10.1 a j (decide_eq_false w)
  have T10 : TC h10 (rR r) t n := by
    refine ⟨H10, rfl, n400, ?_, fun j hj => ⟨(tx j hj).1, ?_⟩⟩
    · rw [z10 12 4 (by omega), z8 12 4 (by omega), z6 12 4 (by omega)]; exact g4
    · rw [z10 1 j (by omega), z8 1 j (by omega), z6 1 j (by omega), zg 1 j (by omega)]; exact (tx j hj).2
  have C10 : CIl h10 (rR r) q t n P0 := by
    refine ⟨T10, hq, ⟨c4, c5, c6, c7, c8, c9, c10', c11, c12⟩, fun k hk => absurd hk (by show ¬ k < 0; omega), fun m _ k hk => absurd hk (by show ¬ k < 0; omega), fun m hm => ?_⟩
    rw [z10 15 m (by omega), a8 m hm]; rfl
  have M10 : TmC h10 P0 := fun k hk => by
    rw [z10 13 k (by omega), z8 13 k (by omega), a6 k hk]
    have : tmz P0 k = 0 := by unfold tmz P0; repeat' split
                              all_goals rfl
    rw [this]; rfl
  obtain ⟨h12, e12, F12, y5, y6⟩ := e_toNext (f := f) T10 (i := 0) (by omega) hf (by rw [z10 12 5 (by omega), z8 12 5 (by omega), z6 12 5 (by omega)]; exact g5)
  obtain ⟨h', e', F', x1, x2⟩ := cr_go (f := f) hf (n + 1) P0 0 0 h12 f (CIl_cu C10 F12) (fun k hk => by rw [F12.1 13 k rfl]; exact M10 k hk) PW_0 (by omega) (by omega) (by omega) (by omega) y5 y6
  have H12 := Fx_Sh F12 H10
  refine ⟨h', ?_, Fx_Sh F' H12, fun a j w => ?_, x1, x2⟩
  · unfold f_X2_read
    rw [pr_k (S_12 H), Option.bind_some, al, Option.bind_some, mn, pi_k (S_12 H1), Option.bind_some, pi_k (S_12 (Sh_sI H1 _ _ _)), Option.bind_some, hg, gr_k (S_12 Hg) (R_12_0 Hg), Option.bind_some, e6, Option.bind_some, gr_k (S_12 H6) (R_12_2 H6), Option.bind_some, e8, Option.bind_some, on_k (Ip_S H8 hq), e10, Option.bind_some, on_k (S_12 H10), e12, Option.bind_some]
    exact e'
  · have w0 := w
    unfold QRI at w
    simp only [Bool.or_eq_false_iff, Bool.and_eq_false_iff, decide_eq_false_iff_not] at w
    rw [F'.1 a j (q_RI w0), F12.1 a j (by unfold QCu; simp only [Bool.and_eq_false_iff, Bool.or_eq_false_iff, decide_eq_false_iff_not]; omega), z10 a j (by omega), z8 a j (by omega), z6 a j (by omega), zg a j (by omega)]
theorem sh10 : ∀ k, k < 10 → (1 : Int32) <<< (nI k &&& 31) - 1 = nI (2 ^ k - 1) := by decide +kernel
theorem bg_go {N : Nat} (hN : N ≤ 9) : ∀ (d b : Nat) (h : Hp), Sh h r → b ≤ 6 → 6 < b + d → ∃ h', l_X4_begin_18 f d 17 (nI N) (nI b) h = some h' ∧ Fx (fun a j => decide (a = 18) || (decide (a = 17) && (decide (j = 4) || decide (j = 5)))) h h' ∧ zI h' 17 4 = 0 ∧ zI h' 17 5 = -1 ∧ (∀ i, zI h' 18 i = if 7 * b ≤ i ∧ i < 42 ∧ i % 7 = 0 then nI (2 ^ N - 1) else zI h 18 i) := by
  intro d
  induction d with
  | zero => intro b h _ h1 h2; omega
  | succ d ih =>
    intro b h H hb hd
    show ∃ h', b_X4_begin_18 f (l_X4_begin_18 f d) 17 (nI N) (nI b) h = _ ∧ _
    unfold b_X4_begin_18 lt
    by_cases c : b = 6
    · rw [if_pos (show (6 : Int32) ≤ nI b from (nI_leI (a := 6) (by omega) (by omega)).mpr (by omega)), pi_k (S_17 H), Option.bind_some, pi_k (S_17 (Sh_sI H _ _ _)), Option.bind_some]
      refine ⟨_, rfl, Fx_then (Fx_sI rfl) rfl, by rw [zI_sI, if_neg (by omega), zI_sI, if_pos ⟨rfl, rfl⟩], by rw [zI_sI, if_pos ⟨rfl, rfl⟩], fun i => ?_⟩
      rw [if_neg (show ¬ (7 * b ≤ i ∧ i < 42 ∧ i % 7 = 0) by omega), zI_row (by omega), zI_row (by omega)]
    · have H1 : Sh (sI h 18 (6 * b + b) (nI (2 ^ N - 1))) r := H
      obtain ⟨h', e, F, z4, z5, z18⟩ := ih (b + 1) _ H1 (by omega) (by omega)
      rw [if_neg (show ¬ (6 : Int32) ≤ nI b from fun w => by have := (nI_leI (a := 6) (b := b) (by omega) (by omega)).mp w; omega), gr_k (S_17 H) (R_17_0 H), Option.bind_some, ix6, sh10 N (by omega), as_nI (S_18 H) (by omega) (by decide), Option.bind_some, nI_p1]
      refine ⟨h', e, Fx_tr (Fx_sI (by simp)) F, z4, z5, fun i => ?_⟩
      rw [z18, zI_sI]
      by_cases c1 : 7 * (b + 1) ≤ i ∧ i < 42 ∧ i % 7 = 0
      · rw [if_pos c1, if_pos (show 7 * b ≤ i ∧ i < 42 ∧ i % 7 = 0 by omega)]
      · rw [if_neg c1]
        by_cases c2 : i = 6 * b + b
        · rw [if_pos ⟨rfl, c2⟩, if_pos (show 7 * b ≤ i ∧ i < 42 ∧ i % 7 = 0 by omega)]
        · rw [if_neg (fun w => c2 w.2), if_neg (show ¬ (7 * b ≤ i ∧ i < 42 ∧ i % 7 = 0) by omega)]
theorem e_begin {N : Nat} (H : Sh h r) (hN : N ≤ 9) (hf : 500 ≤ f) : ∃ h', f_X4_begin f 17 (nI N) h = some h' ∧ Fx (fun a j => decide (a = 18) || decide (a = 21) || (decide (a = 17) && (decide (j = 4) || decide (j = 5)))) h h' ∧ zI h' 17 4 = 0 ∧ zI h' 17 5 = -1 ∧ (∀ i, i < 36 → zI h' 18 i = if i % 7 = 0 then nI (2 ^ N - 1) else 0) ∧ (∀ b, b < 6 → zI h' 21 b = 0) := by
  obtain ⟨h2, F2, a2, e2⟩ := e_fill (f := f) (a := 18) (v := 0) (S_18 H) (by omega) (by omega)
  have H2 := Fr_Sh F2 H
  obtain ⟨h4, F4, a4, e4⟩ := e_fill (f := f) (a := 21) (v := 0) (S_21 H2) (by omega) (by omega)
  have H4 := Fr_Sh F4 H2
  obtain ⟨h', e', F', z4, z5, z18⟩ := bg_go (f := f) hN f 0 h4 H4 (by omega) (by omega)
  refine ⟨h', ?_, ?_, z4, z5, fun i hi => ?_, fun b hb => ?_⟩
  · unfold f_X4_begin
    rw [gr_k (S_17 H) (R_17_0 H), Option.bind_some, e2, Option.bind_some, gr_k (S_17 H2) (R_17_3 H2), Option.bind_some, e4, Option.bind_some]
    exact e'
  · refine Fx_tr (Fx_mono (Fx_Fr F2) (fun a j w => ?_)) (Fx_tr (Fx_mono (Fx_Fr F4) (fun a j w => ?_)) (Fx_mono F' (fun a j w => ?_)))
    all_goals simp only [Bool.or_eq_false_iff, Bool.and_eq_false_iff, decide_eq_false_iff_not] at w ⊢
    · omega
    · omega
    · omega
  · rw [z18, F4.1 18 i (by simp), a2 i hi]
    by_cases c : i % 7 = 0
    · rw [if_pos c, if_pos (show 7 * 0 ≤ i ∧ i < 42 ∧ i % 7 = 0 by omega)]
    · rw [if_neg c, if_neg (show ¬ (7 * 0 ≤ i ∧ i < 42 ∧ i % 7 = 0) by omega)]
  · rw [F'.1 21 b (by simp)]; exact a4 b hb
theorem Sh_sw {a b : Nat} (H : Sh h r) : Sh (sR (sR h 0 4 (some a)) 0 3 (some b)) (b, a, r.2.2.1, r.2.2.2.1, r.2.2.2.2) := by
  obtain ⟨h1, h2, h3, h4, h5, h6, h7⟩ := H
  refine ⟨h1, fun a ha k hk e => ?_, rfl, rfl, h5, h6, h7⟩
  rw [zR_sR, if_neg (by rintro ⟨rfl, rfl⟩; cases e), zR_sR, if_neg (by rintro ⟨rfl, rfl⟩; cases e)]
  exact h2 a ha k hk e
theorem kp_go : ∀ (d i : Nat) (h : Hp), Sh h r → r.1 = 2 ∨ r.1 = 7 → i ≤ 2 → 2 < i + d → ∃ h', l_X5_island_92 f d 0 (nI i) h = some (zI h r.1 4, h') ∧ Fx (fun a _ => decide (a = 33)) h h' ∧ (∀ j, i ≤ j → j < 2 → zI h' 33 j = 0) ∧ (∀ j, j < i → zI h' 33 j = zI h 33 j) := by
  intro d
  induction d with
  | zero => intro i h _ _ h1 h2; omega
  | succ d ih =>
    intro i h H hp hi hd
    show ∃ h', b_X5_island_92 f (l_X5_island_92 f d) 0 (nI i) h = _ ∧ _
    unfold b_X5_island_92 lt
    by_cases c : i = 2
    · rw [if_pos (show (2 : Int32) ≤ nI i from (nI_leI (a := 2) (by omega) (by omega)).mpr (by omega)), gr_k (S_0 H) (R_0_3 H), Option.bind_some, gi_k (Ip_S H hp), Option.bind_some]
      exact ⟨h, rfl, Fx_rf _ _, fun j h1 h2 => by omega, fun _ _ => rfl⟩
    · have H1 : Sh (sI h 33 i 0) r := H
      obtain ⟨h', e, F, z1, z2⟩ := ih (i + 1) _ H1 hp (by omega) (by omega)
      rw [if_neg (show ¬ (2 : Int32) ≤ nI i from fun w => by have := (nI_leI (a := 2) (b := i) (by omega) (by omega)).mp w; omega), gr_k (S_0 H) (R_0_8 H), Option.bind_some, nar_b (Or.inl rfl), as_nI (S_33 H) (by omega) (by decide), Option.bind_some, nI_p1]
      rw [zI_row (by omega)] at e
      refine ⟨h', e, Fx_tr (Fx_sI (by simp)) F, fun j h1 h2 => ?_, fun j hj => ?_⟩
      · by_cases c1 : j = i
        · rw [z2 j (by omega), c1, zI_sI, if_pos ⟨rfl, rfl⟩]
        · exact z1 j (by omega) h2
      · rw [z2 j (by omega), zI_sI, if_neg (by omega)]
/-- the class: a fault -/
theorem isle_fC {R : Nat × Nat × Ps} (H : Sh h r) (rp : Rp r) (e1 : zI h 0 1 = nI n) (n400 : n ≤ 400) (tx : ∀ j, j < n → t j < 256 ∧ zI h 1 j = bv (t j)) (hf : 500 ≤ f) (eR : par t n (n + 1) P0 0 = R) : ∃ h', Sh h' (if R.1 = 0 then (r.2.1, r.1, 1, r.2.2.2.1, r.2.2.2.2) else rR r) ∧ f_X5_island f 0 h = some ((if R.1 = 0 then nI (qN R.2.2) else (-10 : Int32) - nI R.1), h') ∧ zI h' 0 1 = 0 ∧ zI h' 0 2 = (if R.1 = 0 then -1 else nI R.2.1) ∧ (R.1 ≠ 0 → ∀ a j, QRI r.2.1 a j = false → a ≠ 0 → zI h' a j = zI h a j) ∧ (R.1 = 0 → CIl h' (r.2.1, r.1, 1, r.2.2.2.1, r.2.2.2.2) r.2.1 t n R.2.2 ∧ zI h' 17 4 = 0 ∧ zI h' 17 5 = -1 ∧ zI h' 17 6 = zI h 17 6 ∧ (∀ i, i < 36 → zI h' 18 i = if i % 7 = 0 then nI (2 ^ qN R.2.2 - 1) else 0) ∧ (∀ b, b < 6 → zI h' 21 b = 0) ∧ zI h' 19 = zI h 19 ∧ zI h' 20 = zI h 20 ∧ zI h' 34 3 = 0 ∧ zI h' 33 0 = 0 ∧ zI h' 33 1 = 0) ∧ (∀ a, 58 ≤ a → zI h' a = zI h a) := by
  have hq : r.2.1 = 2 ∨ r.2.1 = 7 := by rcases rp.1 with w | w <;> omega
  obtain ⟨h6, e6, H6, F6, x1, x2⟩ := e_read (f := f) H hq n400 tx hf
  rw [eR] at e6 x1 x2
  have r4 : R.1 ≤ 4 := by rw [← eR]; exact par_4 _ _ _
  have W : PW R.2.2 := by rw [← eR]; exact par_PW _ _ _ PW_0 (by omega)
  have H8 : Sh (sI h6 0 1 0) (rR r) := H6
  have z58 : ∀ a, 58 ≤ a → zI h6 a = zI h a := fun a ha => funext fun j => F6 a j (QRI_f (by omega) (by omega) (by omega))
  unfold f_X5_island
  rw [gr_k (S_0 H) (R_0_5 H), Option.bind_some, gr_k (S_0 H) (R_0_0 H), Option.bind_some, gi_k (S_0 H), Option.bind_some, gr_k (S_0 H) (R_0_4 H), Option.bind_some, on_k (S_12 H), e1, e6, bi_mk, pi_k (S_0 H6), Option.bind_some]
  by_cases c0 : R.1 = 0
  · have C6 := x2 c0
    have N9 := W.1.1
    simp only [if_pos c0]
    rw [if_pos (by rw [c0]; rfl), pi_k (S_0 H8), Option.bind_some]
    generalize hg : sI (sI h6 0 1 0) 0 2 (-1) = g
    have Hg : Sh g (rR r) := by rw [← hg]; exact H6
    have zg : ∀ a, a ≠ 0 → zI g a = zI h6 a := fun a ha => by rw [← hg, zI_row ha, zI_row ha]
    have Hs : Sh (sR (sR g 0 4 (some r.1)) 0 3 (some r.2.1)) (r.2.1, r.1, 1, r.2.2.2.1, r.2.2.2.2) := Sh_sw Hg
    have Ha := (show zS (sR g 0 4 (some r.1)) 0 = zS g 0 from rfl).trans (S_0 Hg)
    generalize hs : sR (sR g 0 4 (some r.1)) 0 3 (some r.2.1) = s at *
    have zs : zI s = zI g := by rw [← hs]; rfl
    obtain ⟨h18, e18, F18, b4, b5, b18, b21⟩ := e_begin (f := f) Hs N9 hf
    have H18 := Fx_Sh F18 Hs
    have H20 : Sh (sI h18 34 3 0) (r.2.1, r.1, 1, r.2.2.2.1, r.2.2.2.2) := H18
    obtain ⟨h', e', F', k1, -⟩ := kp_go (f := f) f 0 _ H20 hq (by omega) (by omega)
    have zq : ∀ a, a ≠ 0 → a ≠ 17 → a ≠ 18 → a ≠ 21 → a ≠ 33 → a ≠ 34 → zI h' a = zI h6 a := fun a w0 w1 w2 w3 w4 w5 => by
      have q1 : zI h' a = zI (sI h18 34 3 0) a := Fx_row F' (fun j => decide_eq_false w4)
      have q2 : zI h18 a = zI s a := Fx_row F18 (fun j => by simp [w1, w2, w3])
      rw [q1, zI_row w5, q2, zs, zg a w0]
    have z17 : ∀ j, zI h' 17 j = zI h18 17 j := fun j => by rw [F'.1 17 j (by simp), zI_row (by omega)]
    have z18 : ∀ j, zI h' 18 j = zI h18 18 j := fun j => by rw [F'.1 18 j (by simp), zI_row (by omega)]
    have z21 : ∀ j, zI h' 21 j = zI h18 21 j := fun j => by rw [F'.1 21 j (by simp), zI_row (by omega)]
    have z0 : ∀ j, zI h' 0 j = zI g 0 j := fun j => by rw [F'.1 0 j (by simp), zI_row (by omega), F18.1 0 j (by simp), zs]
    have m4 : zI (sI h18 34 3 0) r.2.1 4 = nI (qN R.2.2) := by
      rw [zI_row (by omega), F18.1 r.2.1 4 (by simp; omega), zs, zg _ (by omega)]; exact C6.2.2.1.1
    refine ⟨h', Fx_Sh F' H20, ?_, ?_, ?_, fun w => absurd c0 w, fun _ => ⟨?_, ?_, ?_, ?_, fun i hi => ?_, fun b hb => ?_, ?_, ?_, ?_, k1 0 (by omega) (by omega), k1 1 (by omega) (by omega)⟩, fun a ha => ?_⟩
    · rw [gr_k (S_0 Hg) (R_0_4 Hg), Option.bind_some, gr_k (S_0 Hg) (R_0_3 Hg), Option.bind_some]
      show (q_pr g 0 5 4 r.1).bind _ = _
      rw [pr_k (S_0 Hg), Option.bind_some]
      show (q_pr (sR g 0 4 (some r.1)) 0 5 3 r.2.1).bind _ = _
      rw [pr_k Ha, Option.bind_some, hs, gr_k (S_0 Hs) (R_0_6 Hs), Option.bind_some, gr_k (S_0 Hs) (R_0_3 Hs), Option.bind_some]
      show (q_gi s r.2.1 0 4).bind _ = _
      rw [gi_k (Ip_S Hs hq), Option.bind_some, on_k (S_17 Hs), zs, zg _ (by omega), C6.2.2.1.1, e18, Option.bind_some, gr_k (S_0 H18) (R_0_9 H18), Option.bind_some, pi_k (S_34 H18), Option.bind_some]
      rw [show zI (sI h18 34 3 0) (r.2.1, r.1, 1, r.2.2.2.1, r.2.2.2.2).1 4 = nI (qN R.2.2) from m4] at e'
      exact e'
    · rw [z0, ← hg, zI_sI, if_neg (by omega), zI_sI, if_pos ⟨rfl, rfl⟩]
    · rw [z0, ← hg, zI_sI, if_pos ⟨rfl, rfl⟩]
    · obtain ⟨T, q2, c1, c2, c3, c4⟩ := C6
      have zc : ∀ a, (1 ≤ a ∧ a < 17) → zI h' a = zI h6 a := fun a ha => zq a (by omega) (by omega) (by omega) (by omega) (by omega) (by omega)
      refine ⟨⟨Fx_Sh F' H20, rfl, T.2.2.1, ?_, fun j hj => ⟨(T.2.2.2.2 j hj).1, ?_⟩⟩, q2, ?_, ?_, ?_, ?_⟩
      · rw [zc 12 (by omega)]; exact T.2.2.2.1
      · rw [zc 1 (by omega)]; exact (T.2.2.2.2 j hj).2
      · rw [zc r.2.1 (by omega)]; exact c1
      · rw [zc (r.2.1 + 1) (by omega), zc (r.2.1 + 2) (by omega)]; exact c2
      · rw [zc (r.2.1 + 3) (by omega), zc (r.2.1 + 4) (by omega)]; exact c3
      · rw [zc 15 (by omega)]; exact c4
    · rw [z17]; exact b4
    · rw [z17]; exact b5
    · rw [z17, F18.1 17 6 (by simp), zs, zg 17 (by omega), F6 17 6 (QRI_f (by omega) (by omega) (by omega))]
    · rw [z18]; exact b18 i hi
    · rw [z21]; exact b21 b hb
    · rw [zq 19 (by omega) (by omega) (by omega) (by omega) (by omega) (by omega)]; exact funext fun j => F6 19 j (QRI_f (by omega) (by omega) (by omega))
    · rw [zq 20 (by omega) (by omega) (by omega) (by omega) (by omega) (by omega)]; exact funext fun j => F6 20 j (QRI_f (by omega) (by omega) (by omega))
    · rw [F'.1 34 3 (by simp), zI_sI, if_pos ⟨rfl, rfl⟩]
    · rw [zq a (by omega) (by omega) (by omega) (by omega) (by omega) (by omega), z58 a ha]
  · simp only [if_neg c0]
    have nz : ¬ nI R.1 = (0 : Int32) := fun w => c0 ((nI_eq (b := 0) (by omega) (by omega)).mp w)
    have e6' : zI (sI h6 0 1 0) 12 6 = nI R.2.1 := by rw [zI_row (by omega)]; exact x1 c0
    refine ⟨sI (sI h6 0 1 0) 0 2 (nI R.2.1), H6, ?_, ?_, ?_, fun _ a j w wa => ?_, fun w => absurd w c0, fun a ha => ?_⟩
    · rw [if_neg nz, gr_k (S_0 H8) (R_0_5 H8), Option.bind_some, gi_k (S_12 H8), Option.bind_some, e6', pi_k (S_0 H8), Option.bind_some]
    · rw [zI_sI, if_neg (by omega), zI_sI, if_pos ⟨rfl, rfl⟩]
    · rw [zI_sI, if_pos ⟨rfl, rfl⟩]
    · rw [zI_row wa, zI_row wa, F6 a j w]
    · rw [zI_row (by omega), zI_row (by omega), z58 a ha]
end ILC
