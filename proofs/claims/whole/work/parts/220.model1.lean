/-! ===== reference: boxes ===== -/
theorem ix4_0 (k : Nat) : 4 * nI k = nI (4 * k) := by rw [show (4 : Int32) = nI 4 from rfl, pk_mul]
theorem ix4_1 (k : Nat) : 4 * nI k + 1 = nI (4 * k + 1) := by rw [ix4_0, show (1 : Int32) = nI 1 from rfl, nI_add]
theorem ix4_2 (k : Nat) : 4 * nI k + 2 = nI (4 * k + 2) := by rw [ix4_0, show (2 : Int32) = nI 2 from rfl, nI_add]
theorem ix4_3 (k : Nat) : 4 * nI k + 3 = nI (4 * k + 3) := by rw [ix4_0, show (3 : Int32) = nI 3 from rfl, nI_add]
theorem nI_p2 (c : Nat) : nI c + 2 = nI (c + 2) := nI_add c 2
theorem nI_p3 (c : Nat) : nI c + 3 = nI (c + 3) := nI_add c 3
/-- the reference's box of mark k is o -/
def MB (h : Hp) (k : Nat) (o : Option Bx) : Prop := match o with
  | none => zI h 75 k = 1
  | some B => zI h 75 k = 0 ∧ zI h 76 (4 * k) = B.1 ∧ zI h 76 (4 * k + 1) = B.2.1 ∧ zI h 76 (4 * k + 2) = B.2.2.1 ∧ zI h 76 (4 * k + 3) = B.2.2.2
def QM (a j : Nat) : Bool := decide (a = 75) || decide (a = 76)
theorem QM_f {a j : Nat} (h1 : a ≠ 75) (h2 : a ≠ 76) : QM a j = false := by unfold QM; simp [h1, h2]
theorem MB_same {h h' : Hp} {k : Nat} {o : Option Bx} (e1 : zI h' 75 k = zI h 75 k) (e2 : ∀ i, i < 4 → zI h' 76 (4 * k + i) = zI h 76 (4 * k + i)) (B : MB h k o) : MB h' k o := by
  cases o with
  | none => exact e1.trans B
  | some B' => exact ⟨e1.trans B.1, (e2 0 (by omega)).trans B.2.1, (e2 1 (by omega)).trans B.2.2.1, (e2 2 (by omega)).trans B.2.2.2.1, (e2 3 (by omega)).trans B.2.2.2.2⟩
section M1
variable {f k : Nat} {r : Rs} {h : Hp} {w : Int32}
theorem mx_i (a v : Int32) : (if v ≤ a then a else v) = mx a v := by
  unfold mx
  by_cases c : a < v
  · rw [if_pos c, if_neg (Int32.not_le.mpr c)]
  · rw [if_neg c, if_pos (Int32.not_lt.mp c)]
theorem mn_i (a v : Int32) : (if a ≤ v then a else v) = mn a v := by
  unfold mn
  by_cases c : v < a
  · rw [if_pos c, if_neg (Int32.not_le.mpr c)]
  · rw [if_neg c, if_pos (Int32.not_lt.mp c)]
theorem n264 {i : Nat} {v : Int32} (H : Sh h r) (hi : i < 36) : b_X6_narrow_264 f 76 (nI i) v h = some (sI h 76 i v) := by
  unfold b_X6_narrow_264; rw [as_nI (S_76 H) hi (by decide), Option.bind_some]
theorem n216 {i : Nat} {v y : Int32} (H : Sh h r) (hk : k < 9) (hi : i < 36) (hw : zI h 58 7 = w) : b_X6_narrow_216 f 58 (nI k) y 76 (nI i) v h = some (sI (sI h 76 i v) 76 (4 * k + 3) (mn (zI (sI h 76 i v) 76 (4 * k + 3)) (y + w))) := by
  have H1 : Sh (sI h 76 i v) r := H
  have hw1 : zI (sI h 76 i v) 58 7 = w := by rw [zI_row (by decide)]; exact hw
  unfold b_X6_narrow_216
  rw [as_nI (S_76 H) hi (by decide), Option.bind_some]
  generalize sI h 76 i v = g at *
  simp only [gr_k (S_58 H1) (R_58_42 H1), Option.bind_some, gi_k (S_58 H1), ix4_3, ai_nI (S_76 H1) (show 4 * k + 3 < 36 by omega) (by decide), hw1, n264 H1 (show 4 * k + 3 < 36 by omega)]
  rw [← mn_i]
  by_cases c : zI g 76 (4 * k + 3) ≤ y + w
  · rw [if_pos c, if_pos c]
  · rw [if_neg c, if_neg c]
theorem n168 {i : Nat} {v y : Int32} (H : Sh h r) (hk : k < 9) (hi : i < 36) (hw : zI h 58 7 = w) : b_X6_narrow_168 f 58 (nI k) y 76 (nI i) v h = b_X6_narrow_216 f 58 (nI k) y 76 (nI (4 * k + 2)) (mx (zI (sI h 76 i v) 76 (4 * k + 2)) (y - w)) (sI h 76 i v) := by
  have H1 : Sh (sI h 76 i v) r := H
  have hw1 : zI (sI h 76 i v) 58 7 = w := by rw [zI_row (by decide)]; exact hw
  unfold b_X6_narrow_168
  rw [as_nI (S_76 H) hi (by decide), Option.bind_some]
  generalize sI h 76 i v = g at *
  simp only [gr_k (S_58 H1) (R_58_42 H1), Option.bind_some, gi_k (S_58 H1), ix4_2, ai_nI (S_76 H1) (show 4 * k + 2 < 36 by omega) (by decide), hw1]
  rw [← mx_i]
  by_cases c : y - w ≤ zI g 76 (4 * k + 2)
  · rw [if_pos c, if_pos c]
  · rw [if_neg c, if_neg c]
theorem n120 {i : Nat} {v x y : Int32} (H : Sh h r) (hk : k < 9) (hi : i < 36) (hw : zI h 58 7 = w) : b_X6_narrow_120 f 58 (nI k) x y 76 (nI i) v h = b_X6_narrow_168 f 58 (nI k) y 76 (nI (4 * k + 1)) (mn (zI (sI h 76 i v) 76 (4 * k + 1)) (x + w)) (sI h 76 i v) := by
  have H1 : Sh (sI h 76 i v) r := H
  have hw1 : zI (sI h 76 i v) 58 7 = w := by rw [zI_row (by decide)]; exact hw
  unfold b_X6_narrow_120
  rw [as_nI (S_76 H) hi (by decide), Option.bind_some]
  generalize sI h 76 i v = g at *
  simp only [gr_k (S_58 H1) (R_58_42 H1), Option.bind_some, gi_k (S_58 H1), ix4_1, ai_nI (S_76 H1) (show 4 * k + 1 < 36 by omega) (by decide), hw1]
  rw [← mn_i]
  by_cases c : zI g 76 (4 * k + 1) ≤ x + w
  · rw [if_pos c, if_pos c]
  · rw [if_neg c, if_neg c]
theorem e_narrowM {x y : Int32} {o : Option Bx} (H : Sh h r) (hk : k < 9) (hw : zI h 58 7 = w) (B : MB h k o) : ∃ h', f_X6_narrow f 58 (nI k) x y h = some h' ∧ Fr QM h h' ∧ MB h' k (some (nb w x y o)) ∧ ∀ j, j ≠ k → zI h' 75 j = zI h 75 j ∧ ∀ i, i < 4 → zI h' 76 (4 * j + i) = zI h 76 (4 * j + i) := by
  unfold f_X6_narrow
  rw [gr_k (S_58 H) (R_58_41 H), Option.bind_some, ai_nI (S_75 H) hk (by decide), Option.bind_some]
  have i0 : 4 * k < 36 := by omega
  have i1 : 4 * k + 1 < 36 := by omega
  have i2 : 4 * k + 2 < 36 := by omega
  have i3 : 4 * k + 3 < 36 := by omega
  cases o with
  | none =>
    have e1 : zI h 75 k = 1 := B
    rw [e1, if_neg c10]
    have H1 : ∀ v1, Sh (sI h 76 (4 * k) v1) r := fun _ => H
    have H2 : ∀ v1 v2, Sh (sI (sI h 76 (4 * k) v1) 76 (4 * k + 1) v2) r := fun _ _ => H
    have H3 : ∀ v1 v2 v3, Sh (sI (sI (sI h 76 (4 * k) v1) 76 (4 * k + 1) v2) 76 (4 * k + 2) v3) r := fun _ _ _ => H
    have H4 : ∀ v1 v2 v3 v4, Sh (sI (sI (sI (sI h 76 (4 * k) v1) 76 (4 * k + 1) v2) 76 (4 * k + 2) v3) 76 (4 * k + 3) v4) r := fun _ _ _ _ => H
    refine ⟨sI (sI (sI (sI (sI h 76 (4 * k) (x - w)) 76 (4 * k + 1) (x + w)) 76 (4 * k + 2) (y - w)) 76 (4 * k + 3) (y + w)) 75 k 0, ?_, ?_, ?_, ?_⟩
    · simp only [gr_k (S_58 H) (R_58_42 H), Option.bind_some, gi_k (S_58 H), hw, ix4_0, nI_p1, nI_p2, nI_p3, as_nI (S_76 H) i0 (by decide)]
      simp only [ix4_0, nI_p1, nI_p2, nI_p3, gr_k (S_58 (H1 _)) (R_58_42 (H1 _)), Option.bind_some, gi_k (S_58 (H1 _)), zI_row (show (58 : Nat) ≠ 76 by decide), hw, as_nI (S_76 (H1 _)) i1 (by decide)]
      simp only [gr_k (S_58 (H2 _ _)) (R_58_42 (H2 _ _)), Option.bind_some, gi_k (S_58 (H2 _ _)), zI_row (show (58 : Nat) ≠ 76 by decide), hw, as_nI (S_76 (H2 _ _)) i2 (by decide)]
      simp only [gr_k (S_58 (H3 _ _ _)) (R_58_42 (H3 _ _ _)), Option.bind_some, gi_k (S_58 (H3 _ _ _)), zI_row (show (58 : Nat) ≠ 76 by decide), hw, as_nI (S_76 (H3 _ _ _)) i3 (by decide)]
      simp only [gr_k (S_58 (H4 _ _ _ _)) (R_58_41 (H4 _ _ _ _)), Option.bind_some, as_nI (S_75 (H4 _ _ _ _)) hk (by decide)]
      rfl
    · exact Fr_then (Fr_then (Fr_then (Fr_then (Fr_sI rfl) rfl) rfl) rfl) rfl
    · simp [MB, nb, zI_sI]
    · intro j hj
      refine ⟨by simp [zI_sI, hj], fun i hi => ?_⟩
      rw [zI_row (by decide), zI_sI, if_neg (by omega), zI_sI, if_neg (by omega), zI_sI, if_neg (by omega), zI_sI, if_neg (by omega)]
  | some B' =>
    obtain ⟨b0, b1, b2', b3, b4⟩ := B
    rw [b0, if_pos rfl]
    refine ⟨sI (sI (sI (sI h 76 (4 * k) (mx B'.1 (x - w))) 76 (4 * k + 1) (mn B'.2.1 (x + w))) 76 (4 * k + 2) (mx B'.2.2.1 (y - w))) 76 (4 * k + 3) (mn B'.2.2.2 (y + w)), ?_, ?_, ?_, ?_⟩
    · simp only [gr_k (S_58 H) (R_58_42 H), Option.bind_some, gi_k (S_58 H), hw, ix4_0, ai_nI (S_76 H) i0 (by decide), b1]
      have e9 : (if x - w ≤ B'.1 then b_X6_narrow_120 f 58 (nI k) x y 76 (nI (4 * k)) B'.1 h else b_X6_narrow_120 f 58 (nI k) x y 76 (nI (4 * k)) (x - w) h) = b_X6_narrow_120 f 58 (nI k) x y 76 (nI (4 * k)) (mx B'.1 (x - w)) h := by
        rw [← mx_i]
        by_cases c : x - w ≤ B'.1
        · rw [if_pos c, if_pos c]
        · rw [if_neg c, if_neg c]
      rw [e9]
      have H1 : ∀ v1, Sh (sI h 76 (4 * k) v1) r := fun _ => H
      have H2 : ∀ v1 v2, Sh (sI (sI h 76 (4 * k) v1) 76 (4 * k + 1) v2) r := fun _ _ => H
      have w1 : ∀ v1, zI (sI h 76 (4 * k) v1) 58 7 = w := fun _ => hw
      have w2 : ∀ v1 v2, zI (sI (sI h 76 (4 * k) v1) 76 (4 * k + 1) v2) 58 7 = w := fun _ _ => hw
      rw [n120 H hk i0 hw, n168 (H1 _) hk i1 (w1 _), n216 (H2 _ _) hk i2 (w2 _ _)]
      have g1 : ∀ v1, zI (sI h 76 (4 * k) v1) 76 (4 * k + 1) = B'.2.1 := fun v1 => by rw [zI_sI, if_neg (by omega)]; exact b2'
      have g2 : ∀ v1 v2, zI (sI (sI h 76 (4 * k) v1) 76 (4 * k + 1) v2) 76 (4 * k + 2) = B'.2.2.1 := fun v1 v2 => by rw [zI_sI, if_neg (by omega), zI_sI, if_neg (by omega)]; exact b3
      have g3 : ∀ v1 v2 v3, zI (sI (sI (sI h 76 (4 * k) v1) 76 (4 * k + 1) v2) 76 (4 * k + 2) v3) 76 (4 * k + 3) = B'.2.2.2 := fun v1 v2 v3 => by rw [zI_sI, if_neg (by omega), zI_sI, if_neg (by omega), zI_sI, if_neg (by omega)]; exact b4
      rw [g1, g2, g3]
    · exact Fr_then (Fr_then (Fr_then (Fr_sI rfl) rfl) rfl) rfl
    · simp [MB, nb, zI_sI, b0]
    · intro j hj
      refine ⟨by rw [zI_row (by decide), zI_row (by decide), zI_row (by decide), zI_row (by decide)], fun i hi => ?_⟩
      rw [zI_sI, if_neg (by omega), zI_sI, if_neg (by omega), zI_sI, if_neg (by omega), zI_sI, if_neg (by omega)]
end M1
theorem Gd_Fr {h h' : Hp} {b : Nat} (F : Fr QM h h') : mo h' b = mo h b := by
  unfold mo
  rw [Fr_row F (a := 58) (fun j => rfl), Fr_row F (a := 64) (fun j => rfl), Fr_row F (a := 61) (fun j => rfl), Fr_row F (a := 62) (fun j => rfl), Fr_row F (a := 63) (fun j => rfl), Fr_row F (a := 66) (fun j => rfl), Fr_row F (a := 67) (fun j => rfl)]
/-! findLeft -/
section M2
variable {f b : Nat} {r : Rs} {h0 : Hp} {s : Int32}
def FlI (h0 h : Hp) (M : Ma) (s : Int32) (k m : Nat) : Prop := Fr QM h0 h ∧ MB h k (bxk (aW M) s (aK M) (aX M) (aY M) k m) ∧ ∀ j, j ≠ k → zI h 75 j = zI h0 75 j ∧ ∀ i, i < 4 → zI h 76 (4 * j + i) = zI h0 76 (4 * j + i)
theorem fl_in {k : Nat} {k2 : Nat → Int32 → Int32 → Int32 → Hp → Option Hp} (H0 : Sh h0 r) (hb6 : b < 6) (hk : k < 9) : ∀ (d m : Nat) (h : Hp), m ≤ 6 → 6 < m + d → FlI h0 h (mo h0 b) s k m → ∃ h', FlI h0 h' (mo h0 b) s k 6 ∧ l_X6_findLeft_20 f k2 d 58 (nI b) s (nI k) (nI m) h = k2 58 (nI b) s (nI (k + 1)) h' := by
  intro d
  induction d with
  | zero => intro m h h1 h2; omega
  | succ d ih =>
    intro m h hm hmd I
    have H : Sh h r := Fr_Sh I.1 H0
    show ∃ h', _ ∧ b_X6_findLeft_20 f k2 (l_X6_findLeft_20 f k2 d) 58 (nI b) s (nI k) (nI m) h = _
    unfold b_X6_findLeft_20 b_X6_findLeft_84 lt
    by_cases c : m = 6
    · subst c
      exact ⟨h, I, by rw [if_pos (by decide), nI_p1]⟩
    · have hm6 : m < 6 := by omega
      rw [if_neg (fun e => by have := (nI_leI (a := 6) (b := m) (by omega) (by omega)).mp e; omega), e_has, bi_mk, nI_p1]
      have k64 : zI h 64 (6 * b + m) = aK (mo h0 b) m := I.1.1 64 _ rfl
      cases e1 : hb s (nI m) with
      | true =>
        have ub : us s (aK (mo h0 b)) k m = false := by simp [us, e1]
        have I' : FlI h0 h (mo h0 b) s k (m + 1) := by
          unfold FlI at I ⊢
          rw [bxk_s, ub]
          exact I
        obtain ⟨h', J, e⟩ := ih (m + 1) h (by omega) (by omega) I'
        exact ⟨h', J, by rw [b2T, if_pos c10]; exact e⟩
      | false =>
        rw [b2F, if_neg (by simp), gr_k (S_58 H) (R_58_11 H), Option.bind_some, ix6', ai_nI (S_64 H) (by omega) (by decide), Option.bind_some, e_has, bi_mk, k64]
        cases e2 : hb (aK (mo h0 b) m) (nI k) with
        | false =>
          have ub : us s (aK (mo h0 b)) k m = false := by simp [us, e2]
          have I' : FlI h0 h (mo h0 b) s k (m + 1) := by
            unfold FlI at I ⊢
            rw [bxk_s, ub]
            exact I
          obtain ⟨h', J, e⟩ := ih (m + 1) h (by omega) (by omega) I'
          exact ⟨h', J, by rw [b2F, if_pos rfl]; exact e⟩
        | true =>
          have ub : us s (aK (mo h0 b)) k m = true := by simp [us, e1, e2]
          have x61 : zI h 61 (9 * m + k) = aX (mo h0 b) (9 * m + k) := I.1.1 61 _ rfl
          have y62 : zI h 62 (9 * m + k) = aY (mo h0 b) (9 * m + k) := I.1.1 62 _ rfl
          have hw : zI h 58 7 = aW (mo h0 b) := I.1.1 58 7 rfl
          obtain ⟨h1, q1, q2, q3, q4⟩ := e_narrowM (f := f) (x := aX (mo h0 b) (9 * m + k)) (y := aY (mo h0 b) (9 * m + k)) H hk hw I.2.1
          have I' : FlI h0 h1 (mo h0 b) s k (m + 1) := by
            refine ⟨Fr_tr I.1 q2, ?_, fun j hj => ⟨(q4 j hj).1.trans (I.2.2 j hj).1, fun i hi => ((q4 j hj).2 i hi).trans ((I.2.2 j hj).2 i hi)⟩⟩
            rw [bxk_s, ub, if_pos rfl]
            exact q3
          obtain ⟨h', J, e⟩ := ih (m + 1) h1 (by omega) (by omega) I'
          refine ⟨h', J, ?_⟩
          rw [b2T, if_neg c10, gr_k (S_58 H) (R_58_3 H), Option.bind_some, ix9', ai_nI (S_61 H) (by omega) (by decide), Option.bind_some, gr_k (S_58 H) (R_58_4 H), Option.bind_some, ai_nI (S_62 H) (by omega) (by decide), Option.bind_some, on_k (S_58 H), x61, y62, q1, Option.bind_some]
          exact e
/-- the boxes of the first k marks -/
def MBs (h : Hp) (M : Ma) (s : Nat) (k : Nat) : Prop := ∀ j, j < k → MB h j (bM M s j)
theorem fl_out {s n : Nat} (H0 : Sh h0 r) (hb6 : b < 6) (hn : zI h0 58 0 = nI n) (h9 : n ≤ 9) (hf : 10 ≤ f) : ∀ (d k : Nat) (h : Hp), k ≤ n → n < k + d → Fr QM h0 h → MBs h (mo h0 b) s k → ∃ h', Fr QM h0 h' ∧ MBs h' (mo h0 b) s n ∧ l_X6_findLeft_2 f d 58 (nI b) (nI s) (nI k) h = some h' := by
  intro d
  induction d with
  | zero => intro k h h1 h2; omega
  | succ d ih =>
    intro k h hk hkd F B
    have H : Sh h r := Fr_Sh F H0
    have hn' : zI h 58 0 = nI n := (F.1 58 0 rfl).trans hn
    show ∃ h', _ ∧ _ ∧ b_X6_findLeft_2 f (l_X6_findLeft_2 f d) 58 (nI b) (nI s) (nI k) h = some h'
    unfold b_X6_findLeft_2
    rw [gi_k (S_58 H), Option.bind_some, hn']
    by_cases c : k = n
    · subst c
      exact ⟨h, F, B, by rw [if_pos ((nI_leI (by omega) (by omega)).mpr (Nat.le_refl _))]⟩
    · have hk9 : k < 9 := by omega
      rw [if_neg (fun e => by have := (nI_leI (a := n) (b := k) (by omega) (by omega)).mp e; omega), gr_k (S_58 H) (R_58_41 H), Option.bind_some, as_nI (S_75 H) hk9 (by decide), Option.bind_some, nar_b (Or.inr rfl)]
      have F1 : Fr QM h0 (sI h 75 k 1) := Fr_then F rfl
      have m1 : mo (sI h 75 k 1) b = mo h0 b := Gd_Fr F1
      obtain ⟨h', I, e⟩ := fl_in (f := f) (b := b) (k := k) (s := nI s) (k2 := l_X6_findLeft_2 f d) (h0 := sI h 75 k 1) (Sh_sI H _ _ _) hb6 hk9 f 0 (sI h 75 k 1) (by omega) (by omega) ⟨Fr_rf _ _, by show zI (sI h 75 k 1) 75 k = 1; rw [zI_sI, if_pos ⟨rfl, rfl⟩], fun j hj => ⟨rfl, fun _ _ => rfl⟩⟩
      rw [m1] at I
      have B' : MBs h' (mo h0 b) s (k + 1) := fun j hj => by
        by_cases ej : j = k
        · subst ej; exact I.2.1
        · refine MB_same ?_ ?_ (B j (by omega))
          · rw [(I.2.2 j ej).1, zI_sI, if_neg (by omega)]
          · intro i hi
            rw [(I.2.2 j ej).2 i hi, zI_row (by decide)]
      obtain ⟨h'', F'', B'', e''⟩ := ih (k + 1) h' (by omega) (by omega) (Fr_tr F1 I.1) B'
      exact ⟨h'', F'', B'', by rw [show (0 : Int32) = nI 0 from rfl, e, e'']⟩
theorem e_findLeft {s n : Nat} (H : Sh h0 r) (hb6 : b < 6) (hn : zI h0 58 0 = nI n) (h9 : n ≤ 9) (hf : 10 ≤ f) : ∃ h', Fr QM h0 h' ∧ MBs h' (mo h0 b) s n ∧ f_X6_findLeft f 58 (nI b) (nI s) h0 = some h' := fl_out H hb6 hn h9 hf f 0 h0 (by omega) (by omega) (Fr_rf _ _) (fun j hj => by omega)
end M2
