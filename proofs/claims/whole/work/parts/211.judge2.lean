/-! ===== class: arePlacesLeft ===== -/
def us (s : Int32) (K : Nat → Int32) (k m : Nat) : Bool := !hb s (nI m) && hb (K m) (nI k)
/-- the box of mark k behind m maps -/
def bxk (w s : Int32) (K X Y : Nat → Int32) (k m : Nat) : Option Bx := bxs w (us s K k) (fun m => X (9 * m + k)) (fun m => Y (9 * m + k)) m
theorem bxk_s (w s : Int32) (K X Y : Nat → Int32) (k m : Nat) : bxk w s K X Y k (m + 1) = if us s K k m then some (nb w (X (9 * m + k)) (Y (9 * m + k)) (bxk w s K X Y k m)) else bxk w s K X Y k m := rfl
/-- no box reaches the ends -/
def Far (w : Int32) (K X Y : Nat → Int32) (n : Nat) : Prop := ∀ m, m < 6 → ∀ k, k < n → hb (K m) (nI k) = true → nbC w (X (9 * m + k)) (Y (9 * m + k)) (cbx none) = nb w (X (9 * m + k)) (Y (9 * m + k)) none
def okB (B : Bx) : Bool := decide (B.1 ≤ B.2.1) && decide (B.2.2.1 ≤ B.2.2.2)
def ApInv (h0 h : Hp) (w s : Int32) (k m : Nat) : Prop := FrC h0 h ∧ CB h k = cbx (bxk w s (zI h0 39) (zI h0 40) (zI h0 41) k m) ∧ (∃ t, t < 512 ∧ zI h 38 13 = nI t ∧ hb (nI t) (nI k) = (bxk w s (zI h0 39) (zI h0 40) (zI h0 41) k m).isSome ∧ ∀ j, j < 9 → j ≠ k → hb (nI t) (nI j) = hb (zI h0 38 13) (nI j)) ∧ ∀ j, j ≠ k → CB h j = CB h0 j
theorem ap_in {f n0 : Nat} {r : Rs} {h0 : Hp} {w s : Int32} {k : Nat} {k7 : Nat → Int32 → Int32 → Hp → Option (Int32 × Hp)} (H0 : Sh h0 r) (jp : Jp r) (hw : zI h0 r.2.2.2.1 7 = w) (hk : k < n0) (hn : n0 ≤ 9) (far : Far w (zI h0 39) (zI h0 40) (zI h0 41) n0) : ∀ (n m : Nat) (h : Hp), m ≤ 6 → 6 < m + n → ApInv h0 h w s k m → ∃ h', ApInv h0 h' w s k 6 ∧ l_X1_arePlacesLeft_52 f k7 n 38 s (nI k) (nI m) h = (if okB (CB h' k) then k7 38 s (nI (k + 1)) h' else some (0, h')) := by
  intro n
  have hk9 : k < 9 := by omega
  induction n with
  | zero => intro m h h1 h2; omega
  | succ n ih =>
    intro m h hm hmn I
    have H : Sh h r := FrC_Sh I.1 H0
    show ∃ h', _ ∧ b_X1_arePlacesLeft_52 f k7 (l_X1_arePlacesLeft_52 f k7 n) 38 s (nI k) (nI m) h = _
    unfold b_X1_arePlacesLeft_52 b_X1_arePlacesLeft_85 b_X1_arePlacesLeft_121
    by_cases c6 : m = 6
    · subst c6
      refine ⟨h, I, ?_⟩
      rw [if_pos (by decide)]
      simp only [gr_k (S_38 H) (R_38_3 H), gr_k (S_38 H) (R_38_4 H), gr_k (S_38 H) (R_38_5 H), gr_k (S_38 H) (R_38_6 H), Option.bind_some, ai_nI (S_42 H) hk9 (by decide), ai_nI (S_43 H) hk9 (by decide), ai_nI (S_44 H) hk9 (by decide), ai_nI (S_45 H) hk9 (by decide), lt, nI_p1]
      unfold okB CB
      by_cases c1 : zI h 43 k < zI h 42 k
      · have : ¬ zI h 42 k ≤ zI h 43 k := Int32.not_le.mpr c1
        simp [c1, this, q_bo]
      · have : zI h 42 k ≤ zI h 43 k := Int32.not_lt.mp c1
        by_cases c2 : zI h 44 k ≤ zI h 45 k
        · simp [c1, this, c2]
        · simp [c1, this, c2, q_bo]
    · have hm6 : m < 6 := by omega
      have n6 : ¬ (6 : Int32) ≤ nI m := fun e => by
        have := (nI_leI (a := 6) (b := m) (by omega) (by omega)).mp e
        omega
      rw [if_neg n6]
      have K39 : zI h 39 m = zI h0 39 m := I.1.1 39 m (by omega) (by omega)
      rw [e_isIn, bi_mk]
      cases e1 : hb s (nI m) with
      | true =>
        have ub : us s (zI h0 39) k m = false := by simp [us, e1]
        have I' : ApInv h0 h w s k (m + 1) := by
          unfold ApInv at I ⊢
          rw [bxk_s, ub]
          exact I
        obtain ⟨h', J, e⟩ := ih (m + 1) h (by omega) (by omega) I'
        refine ⟨h', J, ?_⟩
        rw [b2T, if_pos c10]
        unfold lt
        rw [nI_p1]
        exact e
      | false =>
        rw [b2F, if_neg (by simp), gr_k (S_38 H) (R_38_0 H), Option.bind_some, ai_nI (S_39 H) hm6 (by decide), Option.bind_some, e_isIn, bi_mk, K39]
        cases e2 : hb (zI h0 39 m) (nI k) with
        | false =>
          have ub : us s (zI h0 39) k m = false := by simp [us, e2]
          have I' : ApInv h0 h w s k (m + 1) := by
            unfold ApInv at I ⊢
            rw [bxk_s, ub]
            exact I
          obtain ⟨h', J, e⟩ := ih (m + 1) h (by omega) (by omega) I'
          refine ⟨h', J, ?_⟩
          rw [b2F, if_pos rfl]
          unfold lt
          rw [nI_p1]
          exact e
        | true =>
          have ub : us s (zI h0 39) k m = true := by simp [us, e1, e2]
          have X40 : zI h 40 (9 * m + k) = zI h0 40 (9 * m + k) := I.1.1 40 _ (by omega) (by omega)
          have Y41 : zI h 41 (9 * m + k) = zI h0 41 (9 * m + k) := I.1.1 41 _ (by omega) (by omega)
          have wj : zI h r.2.2.2.1 7 = w := by rw [I.1.1 r.2.2.2.1 7 (by rcases jp with q | q <;> omega) (by rcases jp with q | q <;> omega), hw]
          have I' : ApInv h0 (nrC h w m k) w s k (m + 1) := by
            obtain ⟨f1, f2, ⟨t, ht, t1, t2, t3⟩, f4⟩ := I
            refine ⟨FrC_tr f1 (FrC_nr h w m k), ?_, ?_, fun j hj => by rw [CB_nr' h w m k j hj]; exact f4 j hj⟩
            · rw [CB_nr, f2, X40, Y41, bxk_s, ub, if_pos rfl]
              cases ob : bxk w s (zI h0 39) (zI h0 40) (zI h0 41) k m with
              | none => exact far m hm6 k hk e2
              | some B => rfl
            · obtain ⟨t', ht', q1, -⟩ := hb_or (s := t) (k := k) (j := k) ht hk9 hk9
              refine ⟨t', ht', by rw [NR_nr, t1, q1], ?_, fun j hj hjk => ?_⟩
              · rw [bxk_s, ub, if_pos rfl]
                obtain ⟨t'', ht'', q3, q4⟩ := hb_or (s := t) (k := k) (j := k) ht hk9 hk9
                rw [← q1, q3, q4]
                simp
              · obtain ⟨t'', ht'', q3, q4⟩ := hb_or (s := t) (k := k) (j := j) ht hk9 hj
                rw [← q1, q3, q4]
                simp [hjk]
                exact t3 j hj hjk
          obtain ⟨h', J, e⟩ := ih (m + 1) (nrC h w m k) (by omega) (by omega) I'
          refine ⟨h', J, ?_⟩
          rw [b2T, if_neg c10, on_k (S_38 H), e_narrowC H jp hm6 hk9, wj, Option.bind_some]
          unfold lt
          rw [nI_p1]
          exact e
/-- behind arePlacesLeft -/
def ApOut (h0 h : Hp) (w s : Int32) (k : Nat) : Prop := FrC h0 h ∧ (∃ t, t < 512 ∧ zI h 38 13 = nI t) ∧ (∀ j, j < k → CB h j = cbx (bxk w s (zI h0 39) (zI h0 40) (zI h0 41) j 6) ∧ hb (zI h 38 13) (nI j) = (bxk w s (zI h0 39) (zI h0 40) (zI h0 41) j 6).isSome) ∧ ∀ j, k ≤ j → j < 9 → hb (zI h 38 13) (nI j) = false
def okAll (w s : Int32) (K X Y : Nat → Int32) : Nat → Bool
  | 0 => true
  | k + 1 => okAll w s K X Y k && okB (cbx (bxk w s K X Y k 6))
theorem ap_out {f n0 : Nat} {r : Rs} {h0 : Hp} {w s : Int32} (H0 : Sh h0 r) (jp : Jp r) (hw : zI h0 r.2.2.2.1 7 = w) (hmk : zI h0 r.2.2.2.1 4 = nI n0) (hn : n0 ≤ 9) (hf : 10 ≤ f) (far : Far w (zI h0 39) (zI h0 40) (zI h0 41) n0) : ∀ (n k : Nat) (h : Hp), k ≤ n0 → n0 < k + n → ApOut h0 h w s k → okAll w s (zI h0 39) (zI h0 40) (zI h0 41) k = true → ∃ h', FrC h0 h' ∧ l_X1_arePlacesLeft_7 f n 38 s (nI k) h = some (b2 (okAll w s (zI h0 39) (zI h0 40) (zI h0 41) n0), h') ∧ (okAll w s (zI h0 39) (zI h0 40) (zI h0 41) n0 = true → ApOut h0 h' w s n0) := by
  intro n
  induction n with
  | zero => intro k h h1 h2; omega
  | succ n ih =>
    intro k h hk hkn O hok
    have H : Sh h r := FrC_Sh O.1 H0
    have mj : zI h r.2.2.2.1 4 = nI n0 := by rw [O.1.1 r.2.2.2.1 4 (by rcases jp with q | q <;> omega) (by rcases jp with q | q <;> omega), hmk]
    show ∃ h', _ ∧ b_X1_arePlacesLeft_7 f (l_X1_arePlacesLeft_7 f n) 38 s (nI k) h = _ ∧ _
    unfold b_X1_arePlacesLeft_7
    rw [gr_k (S_38 H) (R_38_9 H), Option.bind_some, gi_k (Ip_S H jp), Option.bind_some, mj]
    by_cases c : k = n0
    · subst c
      refine ⟨h, O.1, ?_, fun _ => O⟩
      rw [if_pos ((nI_leI (by omega) (by omega)).mpr (Nat.le_refl _)), hok]
      rfl
    · have hk0 : k < n0 := by omega
      have hk9 : k < 9 := by omega
      rw [if_neg (fun e => by have := (nI_leI (a := n0) (b := k) (by omega) (by omega)).mp e; omega)]
      have H1 : ∀ v1, Sh (sI h 42 k v1) r := fun _ => H
      have H2 : ∀ v1 v2, Sh (sI (sI h 42 k v1) 43 k v2) r := fun _ _ => H
      have H3 : ∀ v1 v2 v3, Sh (sI (sI (sI h 42 k v1) 43 k v2) 44 k v3) r := fun _ _ _ => H
      rw [gr_k (S_38 H) (R_38_3 H), Option.bind_some, as_nI (S_42 H) hk9 (by decide), Option.bind_some, gr_k (S_38 (H1 _)) (R_38_4 (H1 _)), Option.bind_some, as_nI (S_43 (H1 _)) hk9 (by decide), Option.bind_some, gr_k (S_38 (H2 _ _)) (R_38_5 (H2 _ _)), Option.bind_some, as_nI (S_44 (H2 _ _)) hk9 (by decide), Option.bind_some, gr_k (S_38 (H3 _ _ _)) (R_38_6 (H3 _ _ _)), Option.bind_some, as_nI (S_45 (H3 _ _ _)) hk9 (by decide), Option.bind_some]
      generalize hg : sI (sI (sI (sI h 42 k (-1000000)) 43 k 1000000) 44 k (-1000000)) 45 k 1000000 = g
      have Fg : FrC h g := by
        rw [← hg]
        exact FrC_tr (FrC_tr (FrC_tr (FrC_sI (Or.inl (by omega))) (FrC_sI (Or.inl (by omega)))) (FrC_sI (Or.inl (by omega)))) (FrC_sI (Or.inl (by omega)))
      have F0 : FrC h0 g := FrC_tr O.1 Fg
      have Hg : Sh g r := FrC_Sh Fg H
      have g38 : zI g 38 13 = zI h 38 13 := by rw [← hg]; simp [zI_sI]
      have r39 : zI g 39 = zI h0 39 := by funext j; exact F0.1 39 j (by omega) (by omega)
      have r40 : zI g 40 = zI h0 40 := by funext j; exact F0.1 40 j (by omega) (by omega)
      have r41 : zI g 41 = zI h0 41 := by funext j; exact F0.1 41 j (by omega) (by omega)
      have gw : zI g r.2.2.2.1 7 = w := by rw [F0.1 r.2.2.2.1 7 (by rcases jp with q | q <;> omega) (by rcases jp with q | q <;> omega), hw]
      have CBg : CB g k = cbx none := by rw [← hg]; simp [CB, zI_sI, cbx]
      have CBo : ∀ j, j ≠ k → CB g j = CB h j := fun j hj => by rw [← hg]; simp [CB, zI_sI, hj]
      obtain ⟨t, ht, et⟩ := O.2.1
      have I0 : ApInv g g w s k 0 := ⟨FrC_rf g, CBg, ⟨t, ht, g38.trans et, by
        have e9 := O.2.2.2 k (Nat.le_refl _) hk9
        rw [et] at e9
        rw [e9]; rfl, fun j hj hjk => by rw [g38, et]⟩, fun j hj => rfl⟩
      obtain ⟨h', J, e⟩ := ap_in (f := f) (k7 := l_X1_arePlacesLeft_7 f n) Hg jp gw hk0 hn (by rw [r39, r40, r41]; exact far) f 0 g (by omega) (by omega) I0
      rw [show nI 0 = (0 : Int32) from rfl] at e
      rw [e, J.2.1, r39, r40, r41]
      cases ob : okB (cbx (bxk w s (zI h0 39) (zI h0 40) (zI h0 41) k 6)) with
      | false =>
        have okn : okAll w s (zI h0 39) (zI h0 40) (zI h0 41) n0 = false := by
          have key : ∀ d, okAll w s (zI h0 39) (zI h0 40) (zI h0 41) (k + 1 + d) = false := by
            intro d
            induction d with
            | zero => simp [okAll, ob]
            | succ d ih2 => show (okAll w s _ _ _ (k + 1 + d) && _) = false; rw [ih2]; rfl
          have := key (n0 - (k + 1))
          rwa [show k + 1 + (n0 - (k + 1)) = n0 by omega] at this
        refine ⟨h', FrC_tr F0 J.1, ?_, fun q => by rw [okn] at q; cases q⟩
        rw [okn]; rfl
      | true =>
        rw [if_pos rfl]
        refine ih (k + 1) h' (by omega) (by omega) ?_ (by simp [okAll, hok, ob])
        obtain ⟨f1, f2, ⟨t', ht', t1, t2, t3⟩, f4⟩ := J
        refine ⟨FrC_tr F0 f1, ⟨t', ht', t1⟩, fun j hj => ?_, fun j hj hj9 => ?_⟩
        · by_cases e2 : j = k
          · subst e2
            refine ⟨?_, by rw [t1, t2, r39, r40, r41]⟩
            rw [f2, r39, r40, r41]
          · have hjk : j < k := by omega
            obtain ⟨p1, p2⟩ := O.2.2.1 j hjk
            refine ⟨by rw [f4 j e2, CBo j e2, p1], ?_⟩
            rw [t1, t3 j (by omega) e2, g38, p2]
        · rw [t1, t3 j hj9 (by omega), g38]
          exact O.2.2.2 j (by omega) hj9
theorem e_arePlaces {f n0 : Nat} {r : Rs} {h : Hp} {w s : Int32} (H : Sh h r) (jp : Jp r) (hw : zI h r.2.2.2.1 7 = w) (hmk : zI h r.2.2.2.1 4 = nI n0) (hn : n0 ≤ 9) (hf : 10 ≤ f) (far : Far w (zI h 39) (zI h 40) (zI h 41) n0) : ∃ h', FrC h h' ∧ f_X1_arePlacesLeft f 38 s h = some (b2 (okAll w s (zI h 39) (zI h 40) (zI h 41) n0), h') ∧ (okAll w s (zI h 39) (zI h 40) (zI h 41) n0 = true → ApOut h h' w s n0) := by
  unfold f_X1_arePlacesLeft
  rw [pi_k (S_38 H), Option.bind_some]
  have F : FrC h (sI h 38 13 0) := FrC_sI (Or.inr ⟨rfl, rfl⟩)
  have r39 : zI (sI h 38 13 0) 39 = zI h 39 := zI_row (by decide)
  have r40 : zI (sI h 38 13 0) 40 = zI h 40 := zI_row (by decide)
  have r41 : zI (sI h 38 13 0) 41 = zI h 41 := zI_row (by decide)
  have rj : zI (sI h 38 13 0) r.2.2.2.1 = zI h r.2.2.2.1 := zI_row (by rcases jp with q | q <;> omega)
  have h13 : zI (sI h 38 13 0) 38 13 = nI 0 := by rw [zI_sI, if_pos ⟨rfl, rfl⟩]; rfl
  have O0 : ApOut (sI h 38 13 0) (sI h 38 13 0) w s 0 := ⟨FrC_rf _, ⟨0, by decide, h13⟩, fun j hj => by omega, fun j _ hj => by rw [h13, hb_all 0 (by decide) j hj]; simp⟩
  obtain ⟨h', F', e, O⟩ := ap_out (f := f) (s := s) (show Sh (sI h 38 13 0) r from H) jp (by rw [rj]; exact hw) (by rw [rj]; exact hmk) hn hf (by rw [r39, r40, r41]; exact far) f 0 (sI h 38 13 0) (by omega) (by omega) O0 rfl
  rw [r39, r40, r41] at e O
  refine ⟨h', FrC_tr F F', e, fun q => ?_⟩
  obtain ⟨o1, o2, o3, o4⟩ := O q
  rw [r39, r40, r41] at o3
  exact ⟨FrC_tr F o1, o2, o3, o4⟩
