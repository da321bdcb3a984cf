/-! ===== found: reference, and the step ===== -/
theorem nz_9 {α : Type} (K : Option α) : q_nz (9 : Int32) K = K := by unfold q_nz; rw [if_neg (by decide)]
def QF (b : Nat) (a j : Nat) : Bool := QN a j || decide (a = 81) || (decide (a = 64) && (decide (6 * b ≤ j) && decide (j < 6 * b + 6))) || (decide (a = 58) && decide (j = 13))
theorem QF_f {b a j : Nat} (h1 : QN a j = false) (h2 : a ≠ 81) (h3 : a ≠ 64 ∨ ¬ (6 * b ≤ j ∧ j < 6 * b + 6)) (h4 : a ≠ 58 ∨ j ≠ 13) : QF b a j = false := by
  unfold QF
  rw [h1]
  simp only [Bool.false_or, Bool.or_eq_false_iff, Bool.and_eq_false_iff, decide_eq_false_iff_not]
  omega
theorem QN_QF {b : Nat} : ∀ a j, QF b a j = false → QN a j = false := fun a j e => by
  unfold QF at e
  cases q : QN a j with
  | false => rfl
  | true => rw [q] at e; simp at e
def FS (h0 h : Hp) (b : Nat) : Prop := Fr (QF b) h0 h ∧ zI h 58 13 = 0 ∧ ∀ m, m < 6 → zI h 81 m = zI h0 64 (6 * b + m)
def FM (M : Ma) (b : Nat) : Ma := (aW M, (fun m => if m = b then aK M b else 0), aX M, aY M, aN M, aL M, aSx M, aSy M, 0, aA M, aB M, aD M)
theorem OkF_FM {M : Ma} {b : Nat} (O : OkF M) (hb6 : b < 6) : OkF (FM M b) := by
  obtain ⟨⟨o1, o2, o3, o4, o5, o6, o7, o8, o9⟩, o10⟩ := O
  refine ⟨⟨o1, o2, Nat.zero_le _, o4, o5, o6, o7, fun m hm k hk _ => o10 m hm k hk, fun m hm => ?_⟩, o10⟩
  show ∃ s, s < 2 ^ aN M ∧ (if m = b then aK M b else 0) = nI s
  by_cases e : m = b
  · rw [if_pos e]; exact o9 b hb6
  · rw [if_neg e]; exact ⟨0, Nat.two_pow_pos _, rfl⟩
section F2
variable {f b : Nat} {r : Rs} {h0 h : Hp} {M0 : Ma}
theorem FS_mo (J0 : JM h0 r b M0) (S : Fr (QF b) h0 h) (e13 : zI h 58 13 = 0) : mo h b = (aW M0, (fun m => zI h 64 (6 * b + m)), aX M0, aY M0, aN M0, aL M0, aSx M0, aSy M0, 0, aA M0, aB M0, aD M0) := by
  have em := J0.2.2.1
  subst em
  unfold mo
  rw [e13, S.1 58 7 (QF_f rfl (by omega) (by omega) (by omega)), S.1 58 0 (QF_f rfl (by omega) (by omega) (by omega)), S.1 58 5 (QF_f rfl (by omega) (by omega) (by omega)), S.1 63 0 (QF_f rfl (by omega) (by omega) (by omega)), S.1 63 1 (QF_f rfl (by omega) (by omega) (by omega)), S.1 63 2 (QF_f rfl (by omega) (by omega) (by omega)), Fr_row S (a := 61) (fun j => QF_f rfl (by omega) (by omega) (by omega)), Fr_row S (a := 62) (fun j => QF_f rfl (by omega) (by omega) (by omega)), Fr_row S (a := 66) (fun j => QF_f rfl (by omega) (by omega) (by omega)), Fr_row S (a := 67) (fun j => QF_f rfl (by omega) (by omega) (by omega))]
  rfl
theorem FS_JM (J0 : JM h0 r b M0) (S : Fr (QF b) h0 h) (e13 : zI h 58 13 = 0) (O : OkM (mo h b)) : JM h r b (mo h b) := by
  have em := FS_mo J0 S e13
  obtain ⟨H, hb6, -, e1, e2, e3, e4, e5, e6, e7, e8⟩ := J0
  refine ⟨Fr_Sh S H, hb6, rfl, ?_, ?_, ?_, ?_, ?_, ?_, ?_, O⟩
  · rw [S.1 58 0 (QF_f rfl (by omega) (by omega) (by omega)), em]; exact e1
  · rw [S.1 58 5 (QF_f rfl (by omega) (by omega) (by omega)), em]; exact e2
  · rw [em, e13]; rfl
  · rw [S.1 63 0 (QF_f rfl (by omega) (by omega) (by omega)), em]; exact e4
  · rw [S.1 63 1 (QF_f rfl (by omega) (by omega) (by omega)), em]; exact e5
  · rw [S.1 63 2 (QF_f rfl (by omega) (by omega) (by omega)), em]; exact e6
  · rw [em]; exact e7
theorem mo_ad {m k : Nat} (hm : m < 6) : mo (sI h 64 (6 * b + m) (zI h 64 (6 * b + m) ||| (1 : Int32) <<< (nI k &&& 31))) b = adK (mo h b) m k := by
  unfold adK orK
  have eK : (fun m' => zI (sI h 64 (6 * b + m) (zI h 64 (6 * b + m) ||| (1 : Int32) <<< (nI k &&& 31))) 64 (6 * b + m')) = ud (aK (mo h b)) m (aK (mo h b) m ||| bitk k) := by
    funext m'
    by_cases e : m' = m
    · rw [e, ud_i, zI_sI, if_pos ⟨rfl, rfl⟩]; rfl
    · rw [ud_o e, zI_sI, if_neg (by omega)]; rfl
  show (zI (sI h 64 _ _) 58 7, _, _, _, _, _, _, _, _, _, _, _) = _
  rw [eK]
  rfl
theorem fm_go {x2 : Int32} (J0 : JM h0 r b M0) (hf : 100 ≤ f) : ∀ (d i cnt : Nat) (h : Hp), i ≤ 54 → 56 < i + d → cnt ≤ i → FS h0 h b → OkF (mo h b) → ∃ h', FS h0 h' b ∧ l_X6_found_99 f d 58 (nI b) x2 (nI cnt) (-1) (nI i) h = l_X6_found_187 f f 58 (nI b) x2 (fdV b (aN M0) (54 - i) i cnt (mo h b)) 0 h' := by
  have hb6 := J0.2.1
  intro d
  induction d with
  | zero => intro i cnt h h1 h2; omega
  | succ d ih =>
    intro i cnt h hi hid hct S O
    have em := FS_mo J0 S.1 S.2.1
    have J := FS_JM J0 S.1 S.2.1 (OkB_M O.1)
    have an : aN (mo h b) = aN M0 := by rw [em]
    have H := J.1
    have n9 : aN M0 ≤ 9 := by rw [← an]; exact O.1.1
    show ∃ h', _ ∧ b_X6_found_99 f (l_X6_found_99 f d) 58 (nI b) x2 (nI cnt) (-1) (nI i) h = _
    unfold b_X6_found_99 b_X6_found_184 b_X6_found_176 b_X6_found_178 lt
    by_cases e54 : i = 54
    · subst e54
      exact ⟨h, S, by rw [if_pos (by decide)]; rfl⟩
    · have dd := d9_all i (by omega)
      rw [if_neg (fun e9 => by have := (nI_leI (a := 54) (b := i) (by omega) (by omega)).mp e9; omega), if_neg (by decide)]
      have d2 : nI i - nI (i / 9) * 9 = nI (i % 9) := by rw [← dd.1]; exact dd.2
      simp only [nz_9, nI_p1, dd.1, d2]
      by_cases emb : i / 9 = b
      · obtain ⟨h', S', e'⟩ := ih (i + 1) cnt h (by omega) (by omega) (by omega) S O
        refine ⟨h', S', ?_⟩
        rw [if_pos (by rw [emb]), fd_sk (by omega) (Or.inl emb)]
        exact e'
      · rw [if_neg (fun e9 => emb ((nI_eq (by omega) (by omega)).mp e9)), gi_k (S_58 H), Option.bind_some, J.2.2.2.1, an]
        by_cases ek : aN M0 ≤ i % 9
        · obtain ⟨h', S', e'⟩ := ih (i + 1) cnt h (by omega) (by omega) (by omega) S O
          refine ⟨h', S', ?_⟩
          rw [if_pos ((nI_leI (by omega) (by omega)).mpr ek), fd_sk (by omega) (Or.inr ek)]
          exact e'
        · have hm : i / 9 < 6 := by omega
          have O1 := OkF_ad (m := i / 9) (k := i % 9) O hm (by omega)
          have ma := mo_ad (h := h) (b := b) (m := i / 9) (k := i % 9) hm
          rw [if_neg (fun e9 => ek ((nI_leI (by omega) (by omega)).mp e9)), gr_k (S_58 H) (R_58_11 H), Option.bind_some, ix6', ai_nI (S_64 H) (by omega) (by decide), Option.bind_some, as_nI (S_64 H) (by omega) (by decide), Option.bind_some, fd_go (by omega) (by omega), ← ma]
          rw [← ma] at O1
          generalize hg : sI h 64 (6 * b + i / 9) (zI h 64 (6 * b + i / 9) ||| (1 : Int32) <<< (nI (i % 9) &&& 31)) = g at *
          have Sg : FS h0 g b := by
            refine ⟨Fr_tr S.1 ?_, ?_, ?_⟩
            · rw [← hg]
              refine Fr_sI ?_
              unfold QF
              simp only [decide_true, Bool.true_and]
              rw [decide_eq_true (show 6 * b ≤ 6 * b + i / 9 by omega), decide_eq_true (show 6 * b + i / 9 < 6 * b + 6 by omega)]
              simp
            · rw [← hg, zI_row (by decide)]; exact S.2.1
            · intro m hm; rw [← hg, zI_row (by decide)]; exact S.2.2 m hm
          have Jg := FS_JM J0 Sg.1 Sg.2.1 (OkB_M O1.1)
          obtain ⟨h1, F1, e1⟩ := e_mayMany (f := f) Jg hf
          have S1 : FS h0 h1 b := ⟨Fr_tr Sg.1 (Fr_mono F1 QN_QF), by rw [F1.1 58 13 rfl]; exact Sg.2.1, fun m hm => by rw [F1.1 81 m rfl]; exact Sg.2.2 m hm⟩
          have m1 : mo h1 b = mo g b := QN_mo F1
          rw [on_k (S_58 Jg.1), e1, bi_mk]
          have l15 : ln (mo g b) ≤ 15 := ln_15 (OkB_M O1.1)
          by_cases cl : ln (mo g b) = 1
          · refine ⟨h1, S1, ?_⟩
            have : nI (fl (mo g b) 64).length = 1 := by have := cl; unfold ln at this; rw [this]; rfl
            rw [if_neg (fun n9 => n9 this), if_pos cl]
            obtain ⟨e, rfl⟩ : ∃ e, d = e + 1 := ⟨d - 1, by omega⟩
            show b_X6_found_99 f (l_X6_found_99 f e) 58 (nI b) x2 (nI (cnt + 1)) (nI (cnt + 1)) (nI (i + 1)) h1 = _
            unfold b_X6_found_99 b_X6_found_184
            by_cases c54 : (54 : Int32) ≤ nI (i + 1)
            · rw [if_pos c54]
            · rw [if_neg c54, if_pos (nge (by omega))]
          · have : ¬ nI (fl (mo g b) 64).length = 1 := fun e9 => cl ((nI_eq1 (t := (fl (mo g b) 64).length) (by unfold ln at l15; omega)).mp e9)
            obtain ⟨h', S', e'⟩ := ih (i + 1) (cnt + 1) h1 (by omega) (by omega) (by omega) S1 (by rw [m1]; exact O1)
            refine ⟨h', S', ?_⟩
            rw [if_pos this, if_neg cl, ← m1]
            exact e'
/-- all is as it was -/
def QG (a j : Nat) : Bool := QN a j || decide (a = 81)
theorem re_go {x2 v : Int32} (J0 : JM h0 r b M0) (e2 : x2 = zI h0 58 13) : ∀ (d m : Nat) (h : Hp), m ≤ 6 → 6 < m + d → FS h0 h b → (∀ j, j < m → zI h 64 (6 * b + j) = zI h0 64 (6 * b + j)) → ∃ h', Fr QG h0 h' ∧ l_X6_found_187 f d 58 (nI b) x2 v (nI m) h = some (v, h') := by
  have hb6 := J0.2.1
  intro d
  induction d with
  | zero => intro m h h1 h2; omega
  | succ d ih =>
    intro m h hm hmd S A
    have H := Fr_Sh S.1 J0.1
    show ∃ h', _ ∧ b_X6_found_187 f (l_X6_found_187 f d) 58 (nI b) x2 v (nI m) h = _
    unfold b_X6_found_187 lt
    by_cases e6 : m = 6
    · subst e6
      refine ⟨sI h 58 13 x2, ⟨fun a j q => ?_, S.1.2⟩, by rw [if_pos (by decide), pi_k (S_58 H), Option.bind_some]⟩
      have q1 : QN a j = false := by
        unfold QG at q
        cases e : QN a j with
        | false => rfl
        | true => rw [e] at q; simp at q
      have q2 : a ≠ 81 := fun e => by
        unfold QG at q; rw [e] at q; simp at q
      rw [zI_sI]
      by_cases c1 : a = 58 ∧ j = 13
      · rw [if_pos c1, c1.1, c1.2, e2]
      · rw [if_neg c1]
        by_cases c2 : a = 64 ∧ 6 * b ≤ j ∧ j < 6 * b + 6
        · have := A (j - 6 * b) (by omega)
          rw [show 6 * b + (j - 6 * b) = j by omega] at this
          rw [c2.1]; exact this
        · exact S.1.1 a j (QF_f q1 q2 (by omega) (by omega))
    · rw [if_neg (fun e9 => by have := (nI_leI (a := 6) (b := m) (by omega) (by omega)).mp e9; omega), gr_k (S_58 H) (R_58_11 H), Option.bind_some, gr_k (S_58 H) (R_58_49 H), Option.bind_some, ai_nI (S_81 H) (by omega) (by decide), Option.bind_some, ix6', as_nI (S_64 H) (by omega) (by decide), Option.bind_some, nI_p1, S.2.2 m (by omega)]
      refine ih (m + 1) _ (by omega) (by omega) ⟨Fr_tr S.1 ?_, ?_, ?_⟩ ?_
      · refine Fr_sI ?_
        unfold QF
        simp only [decide_true, Bool.true_and]
        rw [decide_eq_true (show 6 * b ≤ 6 * b + m by omega), decide_eq_true (show 6 * b + m < 6 * b + 6 by omega)]
        simp
      · rw [zI_row (by decide)]; exact S.2.1
      · intro i hi; rw [zI_row (by decide)]; exact S.2.2 i hi
      · intro j hj
        by_cases e : j = m
        · rw [e, zI_sI, if_pos ⟨rfl, rfl⟩]
        · rw [zI_sI, if_neg (by omega)]; exact A j (by omega)
/-- the first loop: what was known is set aside -/
theorem as_go {x2 : Int32} (J0 : JM h0 r b M0) (OF : OkF (FM M0 b)) (hf : 100 ≤ f) : ∀ (d m : Nat) (h : Hp), m ≤ 6 → 6 < m + d → Fr (QF b) h0 h → zI h 58 13 = 0 → (∀ j, j < m → zI h 81 j = zI h0 64 (6 * b + j) ∧ zI h 64 (6 * b + j) = if j = b then zI h0 64 (6 * b + b) else 0) → (∀ j, m ≤ j → j < 6 → zI h 64 (6 * b + j) = zI h0 64 (6 * b + j)) → x2 = zI h0 58 13 → ∃ h', Fr QG h0 h' ∧ l_X6_found_23 f d 58 (nI b) x2 (nI m) h = some ((if ln (FM M0 b) = 1 then 0 else fdV b (aN M0) 54 0 0 (FM M0 b)), h') := by
  have hb6 := J0.2.1
  intro d
  induction d with
  | zero => intro m h h1 h2; omega
  | succ d ih =>
    intro m h hm hmd F e13 A B e2
    have H := Fr_Sh F J0.1
    show ∃ h', _ ∧ b_X6_found_23 f (l_X6_found_23 f d) 58 (nI b) x2 (nI m) h = _
    unfold b_X6_found_23 b_X6_found_71 b_X6_found_94 lt
    by_cases e6 : m = 6
    · subst e6
      have em := FS_mo J0 F e13
      have fk := (JM_f J0).2.1
      have E : EqF (FM M0 b) (mo h b) := by
        rw [em]
        refine ⟨⟨rfl, rfl, rfl, rfl, rfl, rfl, rfl, ?_, fun _ _ _ _ _ => ⟨rfl, rfl⟩, fun _ _ => ⟨rfl, rfl⟩⟩, fun _ _ _ _ => ⟨rfl, rfl⟩⟩
        intro j hj
        show zI h 64 (6 * b + j) = if j = b then aK M0 b else 0
        rw [(A j hj).2, fk b]
      have OB : OkB (mo h b) := OkB_cong E.1 OF.1
      have OFh : OkF (mo h b) := by
        refine ⟨OB, ?_⟩
        rw [em]
        exact OF.2
      have J := FS_JM J0 F e13 (OkB_M OB)
      obtain ⟨h1, F1, e1⟩ := e_mayMany (f := f) J hf
      have S1 : FS h0 h1 b := ⟨Fr_tr F (Fr_mono F1 QN_QF), by rw [F1.1 58 13 rfl]; exact e13, fun m hm => by rw [F1.1 81 m rfl]; exact (A m hm).1⟩
      have lq : (fl (mo h b) 64).length = ln (FM M0 b) := ln_cong E.1 (OkB_M OF.1)
      have l15 : ln (FM M0 b) ≤ 15 := ln_15 (OkB_M OF.1)
      rw [if_pos (by decide), on_k (S_58 H), e1, bi_mk, lq]
      by_cases cl : ln (FM M0 b) = 1
      · have c1 : nI (ln (FM M0 b)) = 1 := (nI_eq1 (by omega)).mpr cl
        rw [if_neg (fun n9 => n9 c1), if_pos cl]
        obtain ⟨h', F', e'⟩ := re_go (f := f) (v := 0) J0 e2 f 0 h1 (by omega) (by omega) S1 (fun j hj => by omega)
        refine ⟨h', F', ?_⟩
        obtain ⟨g, hg⟩ : ∃ g, f = g + 1 := ⟨f - 1, by omega⟩
        have key : ∀ g, l_X6_found_99 f (g + 1) 58 (nI b) x2 0 0 0 h1 = l_X6_found_187 f f 58 (nI b) x2 0 0 h1 := fun g => by
          show b_X6_found_99 f (l_X6_found_99 f g) 58 (nI b) x2 0 0 0 h1 = _
          unfold b_X6_found_99 b_X6_found_184
          rw [if_neg (by decide), if_pos (by decide)]
        have := key g
        rw [← hg] at this
        rw [this]; exact e'
      · have c1 : ¬ nI (ln (FM M0 b)) = 1 := fun e9 => cl ((nI_eq1 (by omega)).mp e9)
        rw [if_pos c1, if_neg cl]
        have m1 : mo h1 b = mo h b := QN_mo F1
        obtain ⟨h2, S2, e3⟩ := fm_go (f := f) (x2 := x2) J0 hf f 0 0 h1 (by omega) (by omega) (by omega) S1 (by rw [m1]; exact OFh)
        rw [m1, fd_cong (n := aN M0) (54 - 0) 0 0 (FM M0 b) (mo h b) (by omega) rfl E OF] at e3
        obtain ⟨h', F', e'⟩ := re_go (f := f) (v := fdV b (aN M0) (54 - 0) 0 0 (FM M0 b)) J0 e2 f 0 h2 (by omega) (by omega) S2 (fun j hj => by omega)
        exact ⟨h', F', Eq.trans e3 e'⟩
    · have hm6 : m < 6 := by omega
      have H1 : ∀ v, Sh (sI h 81 m v) r := fun _ => H
      have q81 : QF b 81 m = true := by unfold QF; simp
      have q64 : QF b 64 (6 * b + m) = true := by
        unfold QF
        simp only [decide_true, Bool.true_and]
        rw [decide_eq_true (show 6 * b ≤ 6 * b + m by omega), decide_eq_true (show 6 * b + m < 6 * b + 6 by omega)]
        simp
      rw [if_neg (fun e9 => by have := (nI_leI (a := 6) (b := m) (by omega) (by omega)).mp e9; omega), gr_k (S_58 H) (R_58_49 H), Option.bind_some, gr_k (S_58 H) (R_58_11 H), Option.bind_some, ix6', ai_nI (S_64 H) (by omega) (by decide), Option.bind_some, as_nI (S_81 H) hm6 (by decide), Option.bind_some, gr_k (S_58 (H1 _)) (R_58_11 (H1 _)), Option.bind_some, B m (Nat.le_refl _) hm6]
      simp only [nI_p1]
      have next : ∀ v, v = (if m = b then zI h0 64 (6 * b + b) else 0) → ∃ h', Fr QG h0 h' ∧ l_X6_found_23 f d 58 (nI b) x2 (nI (m + 1)) (sI (sI h 81 m (zI h0 64 (6 * b + m))) 64 (6 * b + m) v) = some ((if ln (FM M0 b) = 1 then 0 else fdV b (aN M0) 54 0 0 (FM M0 b)), h') := fun v hv => by
        refine ih (m + 1) _ (by omega) (by omega) (Fr_then (Fr_then F q81) q64) ?_ ?_ ?_ e2
        · rw [zI_row (by decide), zI_row (by decide)]; exact e13
        · intro j hj
          rw [zI_row (by decide)]
          by_cases e : j = m
          · subst e
            rw [zI_sI, if_pos ⟨rfl, rfl⟩, zI_sI, if_pos ⟨rfl, rfl⟩]; exact ⟨rfl, hv⟩
          · rw [zI_sI, if_neg (by omega), zI_sI, if_neg (by omega), zI_row (by decide)]; exact A j (by omega)
        · intro j hj hj6
          rw [zI_sI, if_neg (by omega), zI_row (by decide)]; exact B j (by omega) hj6
      by_cases emb : m = b
      · rw [if_neg (fun n9 => n9 (by rw [emb])), gr_k (S_58 (H1 _)) (R_58_49 (H1 _)), Option.bind_some, ai_nI (S_81 (H1 _)) hm6 (by decide), Option.bind_some, as_nI (S_64 (H1 _)) (by omega) (by decide), Option.bind_some]
        refine next _ ?_
        rw [zI_sI, if_pos ⟨rfl, rfl⟩, if_pos emb, emb]
      · rw [if_pos (fun e9 => emb ((nI_eq (by omega) (by omega)).mp e9)), as_nI (S_64 (H1 _)) (by omega) (by decide), Option.bind_some]
        exact next 0 (by rw [if_neg emb])
end F2
theorem full_tab : ∀ n, n < 10 → ((1 : Int32) <<< (nI n &&& 31)) - 1 = nI (2 ^ n - 1) ∧ (0 : Int32) ||| nI (2 ^ n - 1) = nI (2 ^ n - 1) := by decide +kernel
theorem Rel_QG {h h' : Hp} {r : Rs} (R : Rel h r) (F : Fr QG h h') : Rel h' r := by
  refine Rel_Sm R (Fr_Sh F R.1) rfl rfl (fun a k e => F.1 a k ?_)
  unfold rc at e
  unfold QG QN
  simp only [Bool.or_eq_true, Bool.and_eq_true, decide_eq_true_eq, beq_iff_eq] at e
  simp only [Bool.or_eq_false_iff, Bool.and_eq_false_iff, decide_eq_false_iff_not]
  omega
theorem st_found {f : Nat} (hf : 100 ≤ f) (a : Int32) : StpR (f_X5_found f 0 a) (f_X6_found f 58 a) := by
  intro h r R
  obtain ⟨H, rp, tx, ft, n, w, l, ga, gb, gc, il, st, sy, im0, im1⟩ := id R
  have hp := Rp_p rp
  have h9 := il.1.1
  unfold f_X5_found f_X6_found
  simp only [e_bandC, e_bandM, bi_mk, b2_ne]
  cases ea : mkB 6 a with
  | false => exact ⟨_, h, h, r, rfl, by rw [S_58 H], rfl, R⟩
  | true =>
    obtain ⟨b, hb6, rfl⟩ := mkB_t (by decide) ea
    obtain ⟨c, hc, ec⟩ := st.2.2.2.1
    obtain ⟨q1, q2, q3, q4, q5, q6, q7⟩ := mo_of il (b := b) ec hc
    obtain ⟨⟨b1, b2', b3, b4, b5, b6, b7⟩, l1, l2, l3, l4, l5, l6, -, -, -, -, lm⟩ := id il
    have OB := OkB_mo il st (b := b) hb6
    have OF0 : OkF (mo h b) := ⟨OB, fun m hm k hk => Bd_all il hm (by rw [q1] at hk; exact hk)⟩
    have OF := OkF_FM OF0 hb6
    -- class: maps taken, nothing known, no spade heard
    obtain ⟨T1, T2⟩ := e_takeMaps (f := f) H hp
    obtain ⟨z1, z2, z3⟩ := tmH_z h hp
    generalize tmH h r.1 = g at *
    have T3 : Sh (sI g 38 11 0) (r.1, r.2.1, r.2.2.1, r.1, r.2.2.2.2) := T2
    obtain ⟨g2, Fg, Zg, eg⟩ := e_fill (f := f) (v := 0) (S_39 T3) (by omega) hf
    have Hg := Fr_Sh Fg T3
    have zr : ∀ a, a ≠ 39 → zI g2 a = zI (sI g 38 11 0) a := fun a ha => Fr_row Fg (fun j => decide_eq_false ha)
    have WFg : WF h g2 := fun a j e => by
      rw [zr a (by omega), zI_row (by omega), z1 a (by omega) (by omega)]
    have kp : ∀ j, zI g2 r.1 j = zI h r.1 j := fun j => WFg _ _ (by rcases hp with q | q <;> omega)
    have jq : Jq (r.1, r.2.1, r.2.2.1, r.1, r.2.2.2.2) := rp.2
    let M1 : Ma := (nI w, zI g2 39, zI g2 40, zI g2 41, n, l, zI g2 (r.2.2.2.2 + 2), zI g2 (r.2.2.2.2 + 3), 0, ga, gb, gc)
    have J1 : JC g2 (r.1, r.2.1, r.2.2.1, r.1, r.2.2.2.2) M1 := by
      refine ⟨Hg, hp, jq, ?_, rfl, rfl, rfl, ?_, ?_, rfl, rfl, ?_, ?_, ?_, ?_⟩
      · exact (kp 7).trans l2.1
      · exact (kp 4).trans l1.1
      · exact (kp 6).trans l3.1
      · show zI g2 38 11 = nI 0
        rw [zr 38 (by decide), zI_sI, if_pos ⟨rfl, rfl⟩]; rfl
      · exact (kp 8).trans l4.1
      · exact (kp 9).trans l5.1
      · exact (kp 10).trans l6.1
    have fl_n := full_tab n (by omega)
    have kb : aK (mo h b) b = nI (2 ^ n - 1) := by
      show zI h 64 (6 * b + b) = _
      rw [show 6 * b + b = 7 * b by omega]; exact st.2.2.1 b hb6
    have E : EqF (FM (mo h b) b) (orK M1 b (nI (2 ^ n - 1))) := by
      refine ⟨⟨q7.symm, q1.symm, q2.symm, rfl, q4.symm, q5.symm, q6.symm, ?_, ?_, fun i hi => by cases hi⟩, ?_⟩
      · intro m hm
        show ud (zI g2 39) b (zI g2 39 b ||| nI (2 ^ n - 1)) m = if m = b then aK (mo h b) b else 0
        by_cases e : m = b
        · rw [e, ud_i, if_pos rfl, Zg b hb6, fl_n.2, kb]
        · rw [ud_o e, if_neg e, Zg m hm]
      · intro m hm k hk _
        change k < aN (mo h b) at hk
        rw [q1] at hk
        refine ⟨?_, ?_⟩
        · show zI g2 40 (9 * m + k) = zI h 61 (9 * m + k)
          rw [zr 40 (by decide), zI_row (by decide), z2 _ (by omega)]
          exact (lm m hm k hk).1
        · show zI g2 41 (9 * m + k) = zI h 62 (9 * m + k)
          rw [zr 41 (by decide), zI_row (by decide), z3 _ (by omega)]
          exact (lm m hm k hk).2.1
      · intro m hm k hk
        change k < aN (mo h b) at hk
        rw [q1] at hk
        refine ⟨?_, ?_⟩
        · show zI g2 40 (9 * m + k) = zI h 61 (9 * m + k)
          rw [zr 40 (by decide), zI_row (by decide), z2 _ (by omega)]
          exact (lm m hm k hk).1
        · show zI g2 41 (9 * m + k) = zI h 62 (9 * m + k)
          rw [zr 41 (by decide), zI_row (by decide), z3 _ (by omega)]
          exact (lm m hm k hk).2.1
    have OM1 : OkB (orK M1 b (nI (2 ^ n - 1))) := OkB_cong E.1 OF.1
    have OF1 : OkF (orK M1 b (nI (2 ^ n - 1))) := by
      refine ⟨OM1, fun m hm k hk => ?_⟩
      have hk' : k < aN (FM (mo h b) b) := by show k < aN (mo h b); rw [q1]; exact hk
      rw [(E.2 m hm k hk').1, (E.2 m hm k hk').2]
      exact OF.2 m hm k hk'
    obtain ⟨h1, F1, J2, c2, e2⟩ := e_hear (f := f) (m := b) (v := nI (2 ^ n - 1)) J1 hb6 (OkB_M OM1) hf
    have eW : f_X1_weighOwnAlone f 38 r.1 (nI b) h = some h1 := by
      unfold f_X1_weighOwnAlone
      rw [on_k (S_38 H), T1, Option.bind_some, pi_k (S_38 T2), Option.bind_some, gr_k (S_38 T3) (R_38_0 T3), Option.bind_some, eg, Option.bind_some, gr_k (S_38 Hg) (R_38_9 Hg), Option.bind_some, gi_k (Ip_S Hg hp), Option.bind_some, kp 4, l1.1, on_k (S_38 Hg), fl_n.1, e2, Option.bind_some]
    have W1 : WF h h1 := WF_tr WFg (WF_QW F1)
    have H1 := J2.1
    have lc : ln (orK M1 b (nI (2 ^ n - 1))) = ln (FM (mo h b) b) := ln_cong E.1 (OkB_M OF.1)
    have l15 : ln (FM (mo h b) b) ≤ 15 := ln_15 (OkB_M OF.1)
    rw [if_pos rfl, gr_k (S_0 H) (R_0_10 H), Option.bind_some, gr_k (S_0 H) (R_0_3 H), Option.bind_some, on_k (S_38 H), eW, Option.bind_some, gr_k (S_0 H1) (R_0_10 H1), Option.bind_some, gi_k (S_38 H1), Option.bind_some, c2, lc]
    -- the class's answer
    have cls : ∃ h2, WF h h2 ∧ Sh h2 (r.1, r.2.1, r.2.2.1, r.1, r.2.2.2.2) ∧ (if ¬ nI (ln (FM (mo h b) b)) = 1 then l_X5_found_39 f f 0 (nI b) 0 0 h1 else some (0, h1)) = some ((if ln (FM (mo h b) b) = 1 then 0 else fdV b n 54 0 0 (FM (mo h b) b)), h2) := by
      by_cases cl : ln (FM (mo h b) b) = 1
      · have c1 : nI (ln (FM (mo h b) b)) = 1 := (nI_eq1 (by omega)).mpr cl
        exact ⟨h1, W1, H1, by rw [if_neg (fun n9 => n9 c1), if_pos cl]⟩
      · have c1 : ¬ nI (ln (FM (mo h b) b)) = 1 := fun e9 => cl ((nI_eq1 (by omega)).mp e9)
        have rp1 : Rp (r.1, r.2.1, r.2.2.1, r.1, r.2.2.2.2) := rp
        obtain ⟨h2, M2, B2, e3⟩ := fc_go (f := f) (b := b) (n := n) (h0 := h1) (r := (r.1, r.2.1, r.2.2.1, r.1, r.2.2.2.2)) rp1 hb6 (by rw [W1 r.1 4 (by rcases hp with q | q <;> omega)]; exact l1.1) h9 hf f 0 0 (orK M1 b (nI (2 ^ n - 1))) h1 (by omega) (by omega) (by omega) rfl OF1 ⟨Fr_rf _ _, J2⟩
        refine ⟨h2, WF_tr W1 (WF_QW B2.1), B2.2.1, ?_⟩
        rw [if_pos c1, if_neg cl]
        refine Eq.trans e3 ?_
        rw [fd_cong (54 - 9 * 0) (9 * 0) 0 (FM (mo h b) b) _ (by omega) (by show n = aN (mo h b); rw [q1]) E OF]
    obtain ⟨h2, W2, H2, e3⟩ := cls
    have R2 : Rel h2 (r.1, r.2.1, r.2.2.1, r.1, r.2.2.2.2) := Rel_Sm R H2 rfl rfl (WF_Sm W2)
    obtain ⟨-, -, -, -, n2, w2, l2', ga2, gb2, gc2, il2, st2, -⟩ := id R2
    have em2 : mo h2 b = mo h b := WF_mo W2 b
    have J3 := JM_of H2 hb6 (Gd_of il2 st2 hb6)
    obtain ⟨h3, F3, e4⟩ := as_go (f := f) (x2 := zI h2 58 13) J3 (by rw [em2]; exact OF) hf f 0 (sI h2 58 13 0) (by omega) (by omega) (Fr_sI (by unfold QF; simp)) (by rw [zI_sI, if_pos ⟨rfl, rfl⟩]) (fun j hj => by omega) (fun j _ hj => by rw [zI_row (by decide)]) rfl
    rw [em2, q1] at e4
    refine ⟨_, h2, h3, _, e3, by rw [S_58 H2], ?_, Rel_QG R2 F3⟩
    rw [if_pos rfl, gi_k (S_58 H2), Option.bind_some, pi_k (S_58 H2), Option.bind_some]
    exact e4
