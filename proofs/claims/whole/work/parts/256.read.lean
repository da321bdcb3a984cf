/-! ===== a whole text ===== -/
def par (t : Nat → Nat) (n : Nat) : Nat → Ps → Nat → Nat × Nat × Ps
  | 0, P, _ => (0, 0, P)
  | d + 1, P, i => if sk t n i < n then (if (cls t n P (sk t n i)).1 = 0 then par t n d (cls t n P (sk t n i)).2.2.1 (cls t n P (sk t n i)).2.2.2 else ((cls t n P (sk t n i)).1, (cls t n P (sk t n i)).2.1, P)) else (0, 0, P)
theorem fin_4 {t : Nat → Nat} {n : Nat} {P : Ps} {T : (Nat → Nat) → Ps} {q : Nat × Nat × (Nat → Nat) × Nat} (h : q.1 ≤ 4) : (fin t n P T q).1 ≤ 4 := by
  unfold fin
  split
  · split
    · show 0 ≤ 4; omega
    · show 1 ≤ 4; omega
  · exact h
theorem cls_4 {t : Nat → Nat} {n : Nat} {P : Ps} {i : Nat} : (cls t n P i).1 ≤ 4 := by
  unfold cls
  split
  · show 1 ≤ 4; omega
  · split
    · show 3 ≤ 4; omega
    · exact fin_4 rdl_4
theorem par_4 {t : Nat → Nat} {n : Nat} : ∀ d P i, (par t n d P i).1 ≤ 4 := by
  intro d
  induction d with
  | zero => intro P i; show 0 ≤ 4; omega
  | succ d ih =>
    intro P i
    unfold par
    split
    · split
      · exact ih _ _
      · exact cls_4
    · show 0 ≤ 4; omega
theorem par_PW {t : Nat → Nat} {n : Nat} : ∀ d P i, PW P → i ≤ n → PW (par t n d P i).2.2 := by
  intro d
  induction d with
  | zero => intro P i W _; exact W
  | succ d ih =>
    intro P i W hi
    unfold par
    have hs : sk t n i ≤ n := en_le hi
    split
    · split
      · rename_i c
        obtain ⟨a1, a2, a3, -⟩ := cls_ok W hs c
        exact ih _ _ a1 a3
      · exact W
    · exact W
section RDC
variable {f q n : Nat} {r : Rs} {t : Nat → Nat}
theorem cr_go (hfu : 500 ≤ f) : ∀ (d : Nat) (P : Ps) (i c : Nat) (h : Hp) (dd : Nat), CIl h r q t n P → TmC h P → PW P → i ≤ n → c ≤ i → n < i + d → d ≤ dd → zI h 12 5 = nI (sk t n i) → zI h 12 6 = nI (sk t n i) → ∃ h', l_X2_read_47 f dd 12 q (nI c) h = some (nI (par t n d P i).1, h') ∧ Fx (QRd q) h h' ∧ ((par t n d P i).1 ≠ 0 → zI h' 12 6 = nI (par t n d P i).2.1) ∧ ((par t n d P i).1 = 0 → CIl h' r q t n (par t n d P i).2.2) := by
  intro d
  induction d with
  | zero => intro P i c h dd _ _ _ h1 _ h2; omega
  | succ d ih =>
    intro P i c h dd C M W hi hc hd hdd e5 e6
    obtain ⟨d', rfl⟩ : ∃ d', dd = d' + 1 := ⟨dd - 1, by omega⟩
    have H := C.1.1
    have n400 := C.1.2.2.1
    have e4 := C.1.2.2.2.1
    have hs : sk t n i ≤ n := en_le hi
    have hs1 : i ≤ sk t n i := en_ge hi
    show ∃ h', b_X2_read_47 f (l_X2_read_47 f d') 12 q (nI c) h = _ ∧ _
    unfold b_X2_read_47 b_X2_read_91 par
    have stop : ¬ sk t n i < n → ∃ h', some ((0 : Int32), h) = some (nI (if sk t n i < n then (if (cls t n P (sk t n i)).1 = 0 then par t n d (cls t n P (sk t n i)).2.2.1 (cls t n P (sk t n i)).2.2.2 else ((cls t n P (sk t n i)).1, (cls t n P (sk t n i)).2.1, P)) else (0, 0, P)).1, h') ∧ Fx (QRd q) h h' ∧ ((if sk t n i < n then (if (cls t n P (sk t n i)).1 = 0 then par t n d (cls t n P (sk t n i)).2.2.1 (cls t n P (sk t n i)).2.2.2 else ((cls t n P (sk t n i)).1, (cls t n P (sk t n i)).2.1, P)) else (0, 0, P)).1 ≠ 0 → zI h' 12 6 = nI (if sk t n i < n then (if (cls t n P (sk t n i)).1 = 0 then par t n d (cls t n P (sk t n i)).2.2.1 (cls t n P (sk t n i)).2.2.2 else ((cls t n P (sk t n i)).1, (cls t n P (sk t n i)).2.1, P)) else (0, 0, P)).2.1) ∧ ((if sk t n i < n then (if (cls t n P (sk t n i)).1 = 0 then par t n d (cls t n P (sk t n i)).2.2.1 (cls t n P (sk t n i)).2.2.2 else ((cls t n P (sk t n i)).1, (cls t n P (sk t n i)).2.1, P)) else (0, 0, P)).1 = 0 → CIl h' r q t n (if sk t n i < n then (if (cls t n P (sk t n i)).1 = 0 then par t n d (cls t n P (sk t n i)).2.2.1 (cls t n P (sk t n i)).2.2.2 else ((cls t n P (sk t n i)).1, (cls t n P (sk t n i)).2.1, P)) else (0, 0, P)).2.2) := fun b => by
      rw [if_neg b]
      exact ⟨h, rfl, Fx_rf _ _, fun w => absurd rfl w, fun _ => C⟩
    by_cases c4 : 400 ≤ c
    · rw [if_pos (show (400 : Int32) ≤ nI c from (nI_leI (a := 400) (by omega) (by omega)).mpr c4)]
      exact stop (by omega)
    · rw [if_neg (show ¬ (400 : Int32) ≤ nI c from fun w => c4 ((nI_leI (a := 400) (by omega) (by omega)).mp w)), gi_k (S_12 H), Option.bind_some, gi_k (S_12 H), Option.bind_some, e4, e5]
      by_cases c1 : sk t n i < n
      · rw [if_neg (fun w => by have := (nI_leI (a := n) (b := sk t n i) (by omega) (by omega)).mp w; omega), on_k (S_12 H), if_pos c1]
        obtain ⟨h1, e1, F1, w1, w2⟩ := e_clauseC (f := f) C M W hs hfu e5 e6
        have H1 := Fx_Sh F1 H
        have l4 := cls_4 (t := t) (n := n) (P := P) (i := sk t n i)
        rw [e1, bi_mk]
        by_cases c0 : (cls t n P (sk t n i)).1 = 0
        · obtain ⟨C1, M1, z5⟩ := w2 c0
          obtain ⟨W1, a2, a3, -⟩ := cls_ok W hs c0
          rw [if_pos c0, if_pos (by rw [c0]; rfl), on_k (S_12 H1)]
          generalize (cls t n P (sk t n i)).2.2.1 = P1 at *
          generalize (cls t n P (sk t n i)).2.2.2 = i1 at *
          obtain ⟨h2, e2, F2, y5, y6⟩ := e_toNext (f := f) C1.1 a3 hfu z5
          obtain ⟨h', e', F', x1, x2⟩ := ih P1 i1 (c + 1) h2 d' (CIl_cu C1 F2) (fun k hk => by rw [F2.1 13 k rfl]; exact M1 k hk) W1 a3 (by omega) (by omega) (by omega) y5 y6
          unfold lt
          rw [e2, Option.bind_some, nI_p1]
          exact ⟨h', e', Fx_tr F1 (Fx_tr (Fx_nd (Fx_cn F2)) F'), x1, x2⟩
        · rw [if_neg c0, if_neg (show ¬ nI (cls t n P (sk t n i)).1 = (0 : Int32) from fun w => c0 ((nI_eq (b := 0) (by omega) (by omega)).mp w))]
          exact ⟨h1, rfl, F1, w1, fun w => absurd w c0⟩
      · rw [if_pos ((nI_leI (by omega) (by omega)).mpr (by omega))]
        exact stop c1
end RDC
section RDM
variable {f n : Nat} {r : Rs} {t : Nat → Nat}
theorem mr_go (hfu : 500 ≤ f) : ∀ (d : Nat) (P : Ps) (i : Nat) (h : Hp) (dd : Nat), MJl h r t n P → MGl h P → zI h 58 39 = nI (sbP P) → PW P → i ≤ n → n < i + d → d < dd → zI h 58 21 = nI i → ∃ h', l_X6_island_74 f dd 58 0 h = b_X6_island_93 f 58 (nI (par t n d P i).1) h' ∧ Fx QMc h h' ∧ ((par t n d P i).1 ≠ 0 → zI h' 58 20 = nI (par t n d P i).2.1) ∧ ((par t n d P i).1 = 0 → MJl h' r t n (par t n d P i).2.2 ∧ MGl h' (par t n d P i).2.2 ∧ zI h' 58 20 = zI h 58 20) := by
  intro d
  induction d with
  | zero => intro P i h dd _ _ _ _ h1 h2; omega
  | succ d ih =>
    intro P i h dd M G e39 W hi hd hdd e21
    obtain ⟨d', rfl⟩ : ∃ d', dd = d' + 1 := ⟨dd - 1, by omega⟩
    have H := M.1.1
    have hs : sk t n i ≤ n := en_le hi
    have hs1 : i ≤ sk t n i := en_ge hi
    obtain ⟨h1, e1, F1, z21⟩ := e_here (f := f) M.1 hi hfu e21
    have M1 : MJl h1 r t n P := MJl_Fx M F1 (fun b j w => by
      unfold QHe
      simp only [Bool.and_eq_false_iff, decide_eq_false_iff_not]
      omega)
    have G1 : MGl h1 P := MGl_row G (Fx_row F1 (fun _ => rfl)) rfl rfl rfl
    have H1 := M1.1.1
    show ∃ h', b_X6_island_74 f (l_X6_island_74 f d') 58 0 h = _ ∧ _
    unfold b_X6_island_74 par
    rw [if_neg (fun w => w rfl), on_k (S_58 H), e1, bi_mk]
    unfold hv
    by_cases c1 : sk t n i < n
    · have t256 := (M.1.2.2.2 _ c1).1
      rw [if_pos c1, if_pos c1, if_neg (nI_ge0 (by omega)), on_k (S_58 H1)]
      obtain ⟨h2, e2, l4, F2, w1, w2⟩ := e_clauseM (f := f) M1 G1 ((F1.1 58 39 rfl).trans e39) W hs (en_en hi) hfu z21
      rw [e2, bi_mk]
      by_cases c0 : (cls t n P (sk t n i)).1 = 0
      · obtain ⟨M2, G2, y39, y21, y20⟩ := w2 c0
        obtain ⟨W1, a2, a3, -⟩ := cls_ok W hs c0
        rw [if_pos c0, c0]
        generalize (cls t n P (sk t n i)).2.2.1 = P1 at *
        generalize (cls t n P (sk t n i)).2.2.2 = i1 at *
        obtain ⟨h', e', F', x1, x2⟩ := ih P1 i1 h2 d' M2 G2 y39 W1 a3 (by omega) (by omega) y21
        refine ⟨h', e', Fx_tr (Fx_hc F1) (Fx_tr F2 F'), x1, fun w => ?_⟩
        obtain ⟨u1, u2, u3⟩ := x2 w
        exact ⟨u1, u2, by rw [u3, y20]; exact F1.1 58 20 rfl⟩
      · obtain ⟨d'', rfl⟩ : ∃ d'', d' = d'' + 1 := ⟨d' - 1, by omega⟩
        rw [if_neg c0]
        refine ⟨h2, ?_, Fx_tr (Fx_hc F1) F2, w1, fun w => absurd w c0⟩
        show b_X6_island_74 f (l_X6_island_74 f d'') 58 _ h2 = _
        unfold b_X6_island_74
        rw [if_pos (show ¬ nI (cls t n P (sk t n i)).1 = (0 : Int32) from fun w => c0 ((nI_eq (b := 0) (by omega) (by omega)).mp w))]
    · rw [if_neg c1, if_neg c1, if_pos (by decide)]
      exact ⟨h1, rfl, Fx_hc F1, fun w => absurd rfl w, fun _ => ⟨M1, G1, F1.1 58 20 rfl⟩⟩
end RDM
/-! the reading begins -/
theorem Sh_R12 {h : Hp} {r : Rs} (H : Sh h r) (p : Nat) : Sh (sR h 12 3 (some p)) (r.1, r.2.1, p, r.2.2.2.1, r.2.2.2.2) := by
  obtain ⟨h1, h2, h3, h4, h5, h6, h7⟩ := H
  refine ⟨h1, fun a ha k hk e => ?_, ?_, ?_, ?_, ?_, ?_⟩
  · rw [zR_sR, if_neg (fun w => by obtain ⟨rfl, rfl⟩ := w; revert e; decide)]
    exact h2 a ha k hk e
  · rw [zR_sR, if_neg (by omega)]; exact h3
  · rw [zR_sR, if_neg (by omega)]; exact h4
  · rw [zR_sR, if_pos ⟨rfl, rfl⟩]
  · rw [zR_sR, if_neg (by omega)]; exact h6
  · rw [zR_sR, if_neg (by omega)]; exact h7
