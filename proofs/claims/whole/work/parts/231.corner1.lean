/-! ===== what a corner tells: class ===== -/
def ud (f : Nat → Int32) (i : Nat) (v : Int32) : Nat → Int32 := fun j => if j = i then v else f j
theorem zI_ud (h : Hp) (a k : Nat) (v : Int32) : zI (sI h a k v) a = ud (zI h a) k v := by
  funext j
  unfold ud
  rw [zI_sI]
  by_cases c : j = k <;> simp [c]
theorem ud_ud (f : Nat → Int32) (i : Nat) (v w : Int32) : ud (ud f i v) i w = ud f i w := by
  funext j; unfold ud; by_cases c : j = i <;> simp [c]
theorem ud_same (f : Nat → Int32) (i : Nat) : ud f i (f i) = f := by
  funext j; unfold ud; by_cases c : j = i <;> simp [c]
theorem ud_i (f : Nat → Int32) (i : Nat) (v : Int32) : ud f i v i = v := by unfold ud; simp
theorem ud_o {f : Nat → Int32} {i j : Nat} {v : Int32} (h : j ≠ i) : ud f i v j = f j := by unfold ud; simp [h]
def bitk (k : Nat) : Int32 := (1 : Int32) <<< (nI k &&& 31)
/-- the matter with one corner more -/
def wth (M : Ma) (c k : Nat) (x y : Int32) : Ma := (M.1, ud (aK M) c (aK M c ||| bitk k), ud (aX M) (9 * c + k) x, ud (aY M) (9 * c + k) y, M.2.2.2.2)
theorem or_idem (a b : Int32) : (a ||| b) ||| b = a ||| b := by
  apply Int32.toBitVec_inj.mp
  simp only [Int32.toBitVec_or]
  ext i hi
  simp only [BitVec.getElem_or]
  cases a.toBitVec[i] <;> cases b.toBitVec[i] <;> rfl
theorem wth_wth (M : Ma) (c k : Nat) (x y x' y' : Int32) : wth (wth M c k x y) c k x' y' = wth M c k x' y' := by
  unfold wth
  show (M.1, ud (ud (aK M) c (aK M c ||| bitk k)) c (ud (aK M) c (aK M c ||| bitk k) c ||| bitk k), ud (ud (aX M) (9 * c + k) x) (9 * c + k) x', ud (ud (aY M) (9 * c + k) y) (9 * c + k) y', M.2.2.2.2) = _
  rw [ud_ud, ud_ud, ud_ud, ud_i, or_idem]
def OkB (M : Ma) : Prop := aN M ≤ 9 ∧ aL M ≤ 2 ∧ aC M ≤ 20 ∧ aA M < 9 ∧ aB M < 9 ∧ aD M < 9 ∧ (∃ w0, w0 ≤ 9 ∧ aW M = nI w0) ∧ (∀ m, m < 6 → ∀ k, k < aN M → hb (aK M m) (nI k) = true → Bd2 (aX M (9 * m + k)) ∧ Bd2 (aY M (9 * m + k))) ∧ (∀ m, m < 6 → ∃ s, s < 2 ^ aN M ∧ aK M m = nI s)
theorem OkB_M {M : Ma} (O : OkB M) : OkM M := by
  obtain ⟨o1, o2, o3, o4, o5, o6, ⟨w0, o7, o8⟩, o9, o10⟩ := O
  exact OkM_of o1 o2 o3 o4 o5 o6 o8 o7 o9 o10
theorem OkB_mo {h : Hp} {p n w l ga gb gc : Nat} (il : Il h p n w l ga gb gc) (st : StN h n) {b : Nat} (hb6 : b < 6) : OkB (mo h b) := by
  obtain ⟨c, hc, ec⟩ := st.2.2.2.1
  obtain ⟨q1, q2, q3, q4, q5, q6, q7⟩ := mo_of il (b := b) ec hc
  obtain ⟨⟨b1, b2', b3, b4, b5, b6, b7⟩, l1, l2, l3, l4, l5, l6, -, -, -, -, lm⟩ := il
  refine ⟨by rw [q1]; exact b1, by rw [q2]; exact b3, by rw [q3]; exact hc, by rw [q4]; exact b4, by rw [q5]; exact b5, by rw [q6]; exact b6, ⟨w, b2', q7⟩, ?_, ?_⟩
  · intro m hm k hk _
    rw [q1] at hk
    exact ⟨Bd_2 (lm m hm k hk).2.2.1, Bd_2 (lm m hm k hk).2.2.2⟩
  · intro m hm
    rw [q1]
    exact st.2.1 (6 * b + m) (by omega)
theorem OkB_cong {M M' : Ma} (E : Eqv M M') (O : OkB M) : OkB M' := by
  obtain ⟨e1, e2, e3, e4, e5, e6, e7, e8, e9, e10⟩ := E
  obtain ⟨o1, o2, o3, o4, o5, o6, ⟨w0, o7, o8⟩, o9, o10⟩ := O
  refine ⟨by rw [e2]; exact o1, by rw [e3]; exact o2, by rw [e4]; exact o3, by rw [e5]; exact o4, by rw [e6]; exact o5, by rw [e7]; exact o6, ⟨w0, o7, by rw [e1]; exact o8⟩, ?_, ?_⟩
  · intro m hm k hk hh
    rw [e8 m hm] at hh
    rw [e2] at hk
    rw [(e9 m hm k hk hh).1, (e9 m hm k hk hh).2]
    exact o9 m hm k hk hh
  · intro m hm
    rw [e8 m hm, e2]
    exact o10 m hm
theorem hb_bit {s k j n : Nat} (hs : s < 2 ^ n) (hn : n ≤ 9) (hk : k < 9) (hj : j < 9) : hb (nI s ||| bitk k) (nI j) = (hb (nI s) (nI j) || decide (j = k)) := by
  have s9 : s < 512 := Nat.lt_of_lt_of_le hs (Nat.pow_le_pow_right (by decide) hn)
  obtain ⟨t, ht, e1, e2⟩ := hb_or s9 hk hj
  show hb (nI s ||| (1 : Int32) <<< (nI k &&& 31)) (nI j) = _
  rw [e1, e2]
theorem OkB_wth {M : Ma} {c k : Nat} {x y : Int32} (O : OkB M) (hc : c < 6) (hk : k < aN M) (hx : Bd2 x) (hy : Bd2 y) : OkB (wth M c k x y) := by
  obtain ⟨o1, o2, o3, o4, o5, o6, o7, o9, o10⟩ := O
  refine ⟨o1, o2, o3, o4, o5, o6, o7, ?_, ?_⟩
  · intro m hm j hj hh
    change j < aN M at hj
    change hb (ud (aK M) c (aK M c ||| bitk k) m) (nI j) = true at hh
    show Bd2 (ud (aX M) (9 * c + k) x (9 * m + j)) ∧ Bd2 (ud (aY M) (9 * c + k) y (9 * m + j))
    by_cases e : 9 * m + j = 9 * c + k
    · rw [e, ud_i, ud_i]; exact ⟨hx, hy⟩
    · rw [ud_o e, ud_o e]
      by_cases em : m = c
      · subst em
        obtain ⟨s, hs, es⟩ := o10 m hm
        rw [ud_i, es, hb_bit hs o1 (by omega) (by omega), decide_eq_false (by omega), Bool.or_false, ← es] at hh
        exact o9 m hm j hj hh
      · rw [ud_o em] at hh
        exact o9 m hm j hj hh
  · intro m hm
    show ∃ s, s < 2 ^ aN M ∧ ud (aK M) c (aK M c ||| bitk k) m = nI s
    by_cases em : m = c
    · subst em
      obtain ⟨s, hs, es⟩ := o10 m hm
      obtain ⟨t, ht, et⟩ := or1 hs hk o1
      exact ⟨t, ht, by rw [ud_i, es]; exact et⟩
    · rw [ud_o em]; exact o10 m hm
theorem Eqv_wth {M M' : Ma} {c k : Nat} {x y : Int32} (E : Eqv M M') (O : OkB M) (hc : c < 6) (hk : k < aN M) : Eqv (wth M c k x y) (wth M' c k x y) := by
  obtain ⟨e1, e2, e3, e4, e5, e6, e7, e8, e9, e10⟩ := E
  refine ⟨e1, e2, e3, e4, e5, e6, e7, ?_, ?_, e10⟩
  · intro m hm
    show ud (aK M') c (aK M' c ||| bitk k) m = ud (aK M) c (aK M c ||| bitk k) m
    rw [e8 c hc]
    by_cases em : m = c
    · rw [em, ud_i, ud_i]
    · rw [ud_o em, ud_o em, e8 m hm]
  · intro m hm j hj hh
    change j < aN M at hj
    change hb (ud (aK M) c (aK M c ||| bitk k) m) (nI j) = true at hh
    show ud (aX M') (9 * c + k) x (9 * m + j) = ud (aX M) (9 * c + k) x (9 * m + j) ∧ ud (aY M') (9 * c + k) y (9 * m + j) = ud (aY M) (9 * c + k) y (9 * m + j)
    have n9 := O.1
    by_cases e : 9 * m + j = 9 * c + k
    · rw [e, ud_i, ud_i, ud_i, ud_i]; exact ⟨rfl, rfl⟩
    · rw [ud_o e, ud_o e, ud_o e, ud_o e]
      by_cases em : m = c
      · subst em
        obtain ⟨s, hs, es⟩ := O.2.2.2.2.2.2.2.2 m hm
        rw [ud_i, es, hb_bit hs n9 (by omega) (by omega), decide_eq_false (by omega), Bool.or_false, ← es] at hh
        exact e9 m hm j hj hh
      · rw [ud_o em] at hh
        exact e9 m hm j hj hh
theorem ln_cong {M M' : Ma} (E : Eqv M M') (O : OkM M) : ln M' = ln M := by unfold ln; rw [fl_cong E O (Nat.le_refl 64)]
def qW (M : Ma) (c k m : Nat) : Bool := !decide (m = c) && hb (aK M m) (nI k)
def nW (M : Ma) (c k m : Nat) : Nat := ln (wth M c k (aX M (9 * m + k)) (aY M (9 * m + k)))
def wv (M : Ma) (c k : Nat) : Nat → Nat
  | 0 => ln (wth M c k 2000 2000)
  | m + 1 => if qW M c k m then max (wv M c k m) (nW M c k m) else wv M c k m
theorem Bd2_far : Bd2 2000 := by unfold Bd2; decide
theorem wv_cong {M M' : Ma} {c k : Nat} (E : Eqv M M') (O : OkB M) (hc : c < 6) (hk : k < aN M) (m : Nat) : m ≤ 6 → wv M' c k m = wv M c k m := by
  induction m with
  | zero =>
    intro _
    have e : ln (wth M' c k 2000 2000) = ln (wth M c k 2000 2000) := ln_cong (Eqv_wth E O hc hk) (OkB_M (OkB_wth O hc hk Bd2_far Bd2_far))
    simp only [wv]
    exact e
  | succ m ih =>
    intro hm
    have eq : qW M' c k m = qW M c k m := by unfold qW; rw [E.2.2.2.2.2.2.2.1 m (by omega)]
    simp only [wv]
    rw [eq, ih (by omega)]
    by_cases q : qW M c k m = true
    · have hh : hb (aK M m) (nI k) = true := by unfold qW at q; simp only [Bool.and_eq_true] at q; exact q.2
      have ex := E.2.2.2.2.2.2.2.2.1 m (by omega) k hk hh
      have b := O.2.2.2.2.2.2.2.1 m (by omega) k hk hh
      have en : nW M' c k m = nW M c k m := by
        unfold nW
        rw [ex.1, ex.2]
        exact ln_cong (Eqv_wth E O hc hk) (OkB_M (OkB_wth O hc hk b.1 b.2))
      rw [en]
    · rw [if_neg q, if_neg q]
theorem ln_15 {M : Ma} (O : OkM M) : ln M ≤ 15 := fl_15 O.2.1 (Nat.le_refl 64)
theorem wv_15 {M : Ma} {c k : Nat} (O : OkB M) (hc : c < 6) (hk : k < aN M) : ∀ m, m ≤ 6 → wv M c k m ≤ 15
  | 0, _ => ln_15 (OkB_M (OkB_wth O hc hk Bd2_far Bd2_far))
  | m + 1, hm => by
    unfold wv
    have := wv_15 O hc hk m (by omega)
    cases q : qW M c k m with
    | false => exact this
    | true =>
      have hh : hb (aK M m) (nI k) = true := by unfold qW at q; simp only [Bool.and_eq_true] at q; exact q.2
      have b := O.2.2.2.2.2.2.2.1 m (by omega) k hk hh
      have : nW M c k m ≤ 15 := ln_15 (OkB_M (OkB_wth O hc hk b.1 b.2))
      simp only [if_true]
      omega
theorem wv_mono {M : Ma} {c k : Nat} : ∀ (d m : Nat), wv M c k m ≤ wv M c k (m + d)
  | 0, _ => Nat.le_refl _
  | d + 1, m => by
    refine Nat.le_trans (wv_mono d m) ?_
    rw [← Nat.add_assoc]
    show _ ≤ (if qW M c k (m + d) then max (wv M c k (m + d)) (nW M c k (m + d)) else wv M c k (m + d))
    split <;> omega
theorem wv_ge {M : Ma} {c k n m : Nat} (h : n < m) (q : qW M c k n = true) : nW M c k n ≤ wv M c k m := by
  have h1 : nW M c k n ≤ wv M c k (n + 1) := by
    show _ ≤ (if qW M c k n then max (wv M c k n) (nW M c k n) else wv M c k n)
    rw [if_pos q]; omega
  have h2 := wv_mono (M := M) (c := c) (k := k) (m - (n + 1)) (n + 1)
  rw [show n + 1 + (m - (n + 1)) = m by omega] at h2
  omega
/-! the class's rows with the corner -/
def QW (a j : Nat) : Bool := (decide (39 ≤ a) && decide (a ≤ 47)) || (decide (a = 38) && (decide (j = 12) || decide (j = 13)))
theorem QJ_QW : ∀ a j, QW a j = false → QJ a j = false := fun a j e => by
  unfold QW at e; unfold QJ
  simp only [Bool.or_eq_false_iff, Bool.and_eq_false_iff, decide_eq_false_iff_not] at e ⊢
  omega
theorem WF_QW {h h' : Hp} (x : Fr QW h h') : WF h h' := fun a j e => x.1 a j (by
  unfold QW
  simp only [Bool.or_eq_false_iff, Bool.and_eq_false_iff, decide_eq_false_iff_not]
  omega)
/-- the class's judge with other rows -/
theorem JC_rows {h h' : Hp} {r : Rs} {M : Ma} {K X Y : Nat → Int32} (F : Fr QW h h') (J : JC h r M) (eK : zI h' 39 = K) (eX : zI h' 40 = X) (eY : zI h' 41 = Y) : JC h' r (M.1, K, X, Y, M.2.2.2.2) := by
  obtain ⟨H, jp, jq, e1, e2, e3, e4, e5, e6, e7, e8, e9, e10, e11, e12⟩ := J
  have qf : ∀ a, ¬ (38 ≤ a ∧ a ≤ 47) → ∀ j, QW a j = false := fun a ha j => by
    unfold QW
    simp only [Bool.or_eq_false_iff, Bool.and_eq_false_iff, decide_eq_false_iff_not]
    omega
  have ip : zI h' r.2.2.2.1 = zI h r.2.2.2.1 := Fr_row F (qf _ (by rcases jp with q | q <;> omega))
  have iq2 : zI h' (r.2.2.2.2 + 2) = zI h (r.2.2.2.2 + 2) := Fr_row F (qf _ (by rcases jq with q | q <;> omega))
  have iq3 : zI h' (r.2.2.2.2 + 3) = zI h (r.2.2.2.2 + 3) := Fr_row F (qf _ (by rcases jq with q | q <;> omega))
  refine ⟨Fr_Sh F H, jp, jq, ?_⟩
  rw [ip, iq2, iq3, F.1 38 11 rfl]
  exact ⟨e1, eK, eX, eY, e5, e6, e7, e8, e9, e10, e11, e12⟩
section C1
variable {f c k : Nat} {r : Rs} {h : Hp} {M : Ma}
theorem e_leftWith {x y : Int32} (J : JC h r M) (O : OkB M) (hc : c < 6) (hk : k < aN M) (hx : Bd2 x) (hy : Bd2 y) (hf : 100 ≤ f) : ∃ h', Fr QW h h' ∧ JC h' r (wth M c k x y) ∧ f_X1_leftWith f 38 (nI c) (nI k) x y h = some (nI (ln (wth M c k x y)), h') := by
  have H := J.1
  have n9 := O.1
  have i54 : 9 * c + k < 54 := by omega
  unfold f_X1_leftWith
  have H1 : ∀ v1, Sh (sI h 40 (9 * c + k) v1) r := fun _ => H
  have H2 : ∀ v1 v2, Sh (sI (sI h 40 (9 * c + k) v1) 41 (9 * c + k) v2) r := fun _ _ => H
  rw [gr_k (S_38 H) (R_38_1 H), Option.bind_some, ix9, as_nI (S_40 H) i54 (by decide), Option.bind_some, gr_k (S_38 (H1 _)) (R_38_2 (H1 _)), Option.bind_some, as_nI (S_41 (H1 _)) i54 (by decide), Option.bind_some, gr_k (S_38 (H2 _ _)) (R_38_0 (H2 _ _)), Option.bind_some, ai_nI (S_39 (H2 _ _)) hc (by decide), Option.bind_some, as_nI (S_39 (H2 _ _)) hc (by decide), Option.bind_some, zI_row (by decide), zI_row (by decide)]
  have e39 : zI h 39 c = aK M c := by rw [J.2.2.2.2.1]
  rw [e39]
  generalize hg : sI (sI (sI h 40 (9 * c + k) x) 41 (9 * c + k) y) 39 c (aK M c ||| (1 : Int32) <<< (nI k &&& 31)) = g
  have Fg : Fr QW h g := by rw [← hg]; exact Fr_then (Fr_then (Fr_sI rfl) rfl) rfl
  have Jg : JC g r (wth M c k x y) := by
    refine JC_rows Fg J ?_ ?_ ?_
    · rw [← hg, zI_ud, zI_row (by decide), zI_row (by decide), J.2.2.2.2.1]; rfl
    · rw [← hg, zI_row (by decide), zI_row (by decide), zI_ud, J.2.2.2.2.2.1]
    · rw [← hg, zI_row (by decide), zI_ud, zI_row (by decide), J.2.2.2.2.2.2.1]
  obtain ⟨h', F', C', e'⟩ := e_collect (f := f) Jg (OkB_M (OkB_wth O hc hk hx hy)) hf
  have J' := JC_Fr F' Jg
  refine ⟨h', Fr_tr Fg (Fr_mono F' QJ_QW), J', ?_⟩
  have C1 : zI h' 38 12 = nI (ln (wth M c k x y)) := C'.1
  rw [on_k (S_38 Jg.1), e', Option.bind_some, gi_k (S_38 J'.1), Option.bind_some, C1]
theorem tr_go {m : Nat} (J : JC h r M) (hc : c < 6) (hk : k < 9) (hm : m < 6) : ∀ (d n : Nat), n ≤ m → m < n + d → ∃ bb : Bool, l_X1_isTriedAlready_11 f d 38 (nI m) (nI c) (nI k) (nI (9 * m + k)) (nI n) h = some (b2 bb, h) ∧ (bb = true → ∃ n', n' < m ∧ n' ≠ c ∧ hb (aK M n') (nI k) = true ∧ aX M (9 * m + k) = aX M (9 * n' + k) ∧ aY M (9 * m + k) = aY M (9 * n' + k)) := by
  have H := J.1
  intro d
  induction d with
  | zero => intro n h1 h2; omega
  | succ d ih =>
    intro n hn hnd
    show ∃ bb : Bool, b_X1_isTriedAlready_11 f (l_X1_isTriedAlready_11 f d) 38 (nI m) (nI c) (nI k) (nI (9 * m + k)) (nI n) h = _ ∧ _
    unfold b_X1_isTriedAlready_11 b_X1_isTriedAlready_82 lt
    by_cases e : n = m
    · exact ⟨false, by rw [if_pos ((nI_leI (by omega) (by omega)).mpr (by omega))]; rfl, fun q => by cases q⟩
    · rw [if_neg (fun e9 => by have := (nI_leI (a := m) (b := n) (by omega) (by omega)).mp e9; omega)]
      simp only [nI_p1, ix9]
      have next := ih (n + 1) (by omega) (by omega)
      by_cases enc : n = c
      · rw [if_pos (by rw [enc])]; exact next
      · rw [if_neg (fun e9 => enc ((nI_eq (by omega) (by omega)).mp e9)), gr_k (S_38 H) (R_38_0 H), Option.bind_some, ai_nI (S_39 H) (by omega) (by decide), Option.bind_some, e_isIn, bi_mk, J.2.2.2.2.1]
        cases eh : hb (aK M n) (nI k) with
        | false => rw [b2F, if_pos rfl]; exact next
        | true =>
          rw [b2T, if_neg c10, gr_k (S_38 H) (R_38_1 H), Option.bind_some, ai_nI (S_40 H) (by omega) (by decide), Option.bind_some, Option.bind_some, ai_nI (S_40 H) (by omega) (by decide), Option.bind_some, J.2.2.2.2.2.1]
          by_cases c1 : aX M (9 * m + k) = aX M (9 * n + k)
          · rw [if_neg (fun n9 => n9 c1), gr_k (S_38 H) (R_38_2 H), Option.bind_some, ai_nI (S_41 H) (by omega) (by decide), Option.bind_some, Option.bind_some, ai_nI (S_41 H) (by omega) (by decide), Option.bind_some, J.2.2.2.2.2.2.1]
            by_cases c2 : aY M (9 * m + k) = aY M (9 * n + k)
            · rw [if_neg (fun n9 => n9 c2)]
              exact ⟨true, rfl, fun _ => ⟨n, by omega, enc, eh, c1, c2⟩⟩
            · rw [if_pos c2]; exact next
          · rw [if_pos c1]; exact next
theorem lw_go {h0 : Hp} {x3 : Int32} (H0 : Sh h0 r) (O : OkB M) (hc : c < 6) (hk : k < aN M) (hf : 100 ≤ f) : ∀ (d m : Nat) (x y : Int32) (h : Hp), m ≤ 6 → 6 < m + d → Bd2 x → Bd2 y → Fr QW h0 h → JC h r (wth M c k x y) → ∃ h' x' y', Fr QW h0 h' ∧ JC h' r (wth M c k x' y') ∧ l_X1_leftAtWorst_24 f d 38 (nI c) (nI k) x3 (nI (wv M c k m)) (nI m) h = some (nI (wv M c k 6), sI h' 39 c x3) := by
  intro d
  induction d with
  | zero => intro m x y h h1 h2; omega
  | succ d ih =>
    intro m x y h hm hmd hx hy F J
    have H := J.1
    have n9 := O.1
    show ∃ h' x' y', _ ∧ _ ∧ b_X1_leftAtWorst_24 f (l_X1_leftAtWorst_24 f d) 38 (nI c) (nI k) x3 _ (nI m) h = _
    unfold b_X1_leftAtWorst_24 b_X1_leftAtWorst_98 lt
    by_cases e6 : m = 6
    · subst e6
      refine ⟨h, x, y, F, J, ?_⟩
      rw [if_pos (by decide), gr_k (S_38 H) (R_38_0 H), Option.bind_some, as_nI (S_39 H) hc (by decide), Option.bind_some]
    · have hm6 : m < 6 := by omega
      rw [if_neg (fun e9 => by have := (nI_leI (a := 6) (b := m) (by omega) (by omega)).mp e9; omega)]
      simp only [nI_p1, ix9]
      have skip : qW M c k m = false ∨ (qW M c k m = true ∧ nW M c k m ≤ wv M c k m) → wv M c k (m + 1) = wv M c k m := fun hh => by
        show (if qW M c k m then max (wv M c k m) (nW M c k m) else wv M c k m) = _
        rcases hh with q | ⟨q, q'⟩
        · rw [q]; rfl
        · rw [if_pos q]; omega
      have next := ih (m + 1) x y h (by omega) (by omega) hx hy F J
      by_cases emc : m = c
      · rw [skip (Or.inl (by unfold qW; simp [emc]))] at next
        rw [if_pos (by rw [emc])]
        exact next
      · have kM : aK (wth M c k x y) m = aK M m := ud_o emc
        have xM : aX (wth M c k x y) (9 * m + k) = aX M (9 * m + k) := ud_o (by omega)
        have yM : aY (wth M c k x y) (9 * m + k) = aY M (9 * m + k) := ud_o (by omega)
        rw [if_neg (fun e9 => emc ((nI_eq (by omega) (by omega)).mp e9)), gr_k (S_38 H) (R_38_0 H), Option.bind_some, ai_nI (S_39 H) hm6 (by decide), Option.bind_some, e_isIn, bi_mk, J.2.2.2.2.1, kM]
        cases eh : hb (aK M m) (nI k) with
        | false =>
          rw [skip (Or.inl (by unfold qW; rw [eh]; simp))] at next
          rw [b2F, if_pos rfl]
          exact next
        | true =>
          have q : qW M c k m = true := by unfold qW; rw [eh]; simp [emc]
          have b := O.2.2.2.2.2.2.2.1 m hm6 k hk eh
          rw [b2T, if_neg c10, on_k (S_38 H)]
          obtain ⟨bb, t1, t2⟩ := tr_go (f := f) (m := m) J hc (show k < 9 by omega) hm6 f 0 (by omega) (by omega)
          have t1' : f_X1_isTriedAlready f 38 (nI m) (nI c) (nI k) h = some (b2 bb, h) := by
            unfold f_X1_isTriedAlready lt; rw [ix9]; exact t1
          rw [t1', bi_mk]
          cases bb with
          | true =>
            obtain ⟨n', g1, g2, g3, g4, g5⟩ := t2 rfl
            have kn : aK (wth M c k x y) n' = aK M n' := ud_o g2
            have xn : aX (wth M c k x y) (9 * n' + k) = aX M (9 * n' + k) := ud_o (by omega)
            have yn : aY (wth M c k x y) (9 * n' + k) = aY M (9 * n' + k) := ud_o (by omega)
            rw [kn] at g3
            rw [xM, xn] at g4
            rw [yM, yn] at g5
            have w := wv_ge (M := M) (c := c) (k := k) g1 (show qW M c k n' = true by unfold qW; rw [g3]; simp [g2])
            have en : nW M c k n' = nW M c k m := by unfold nW; rw [g4, g5]
            rw [skip (Or.inr ⟨q, by omega⟩)] at next
            rw [b2T, if_pos c10]
            exact next
          | false =>
            rw [b2F, if_neg (by simp), gr_k (S_38 H) (R_38_1 H), Option.bind_some, ai_nI (S_40 H) (by omega) (by decide), Option.bind_some, gr_k (S_38 H) (R_38_2 H), Option.bind_some, ai_nI (S_41 H) (by omega) (by decide), Option.bind_some, on_k (S_38 H), J.2.2.2.2.2.1, J.2.2.2.2.2.2.1, xM, yM]
            obtain ⟨h1, F1, J1, e1⟩ := e_leftWith (f := f) (x := aX M (9 * m + k)) (y := aY M (9 * m + k)) J (OkB_wth O hc hk hx hy) hc hk b.1 b.2 hf
            rw [wth_wth] at J1 e1
            rw [e1, bi_mk]
            have nx := ih (m + 1) _ _ h1 (by omega) (by omega) b.1 b.2 (Fr_tr F F1) J1
            have l15 : ln (wth M c k (aX M (9 * m + k)) (aY M (9 * m + k))) ≤ 15 := ln_15 (OkB_M (OkB_wth O hc hk b.1 b.2))
            have w15 := wv_15 O hc hk m (by omega)
            have ev : (if nI (wv M c k m) < nI (ln (wth M c k (aX M (9 * m + k)) (aY M (9 * m + k)))) then nI (ln (wth M c k (aX M (9 * m + k)) (aY M (9 * m + k)))) else nI (wv M c k m)) = nI (wv M c k (m + 1)) := by
              show _ = nI (if qW M c k m then max (wv M c k m) (nW M c k m) else wv M c k m)
              rw [if_pos q]
              unfold nW
              by_cases c1 : wv M c k m < ln (wth M c k (aX M (9 * m + k)) (aY M (9 * m + k)))
              · rw [if_pos ((nI_ltI (by omega) (by omega)).mpr c1)]; congr 1; omega
              · rw [if_neg (fun e => c1 ((nI_ltI (by omega) (by omega)).mp e))]; congr 1; omega
            rw [ev]
            exact nx
theorem e_leftWorst (J : JC h r M) (O : OkB M) (hc : c < 6) (hk : k < aN M) (hh : hb (aK M c) (nI k) = false) (hf : 100 ≤ f) : ∃ h' M', Fr QW h h' ∧ JC h' r M' ∧ Eqv M M' ∧ f_X1_leftAtWorst f 38 (nI c) (nI k) h = some (nI (wv M c k 6), h') := by
  have H := J.1
  have n9 := O.1
  obtain ⟨h1, F1, J1, e1⟩ := e_leftWith (f := f) (x := 2000) (y := 2000) J O hc hk Bd2_far Bd2_far hf
  obtain ⟨h2, x', y', F2, J2, e2⟩ := lw_go (f := f) (x3 := aK M c) H O hc hk hf f 0 2000 2000 h1 (by omega) (by omega) Bd2_far Bd2_far F1 J1
  have F3 : Fr QW h (sI h2 39 c (aK M c)) := Fr_then F2 rfl
  refine ⟨sI h2 39 c (aK M c), (M.1, aK M, ud (aX M) (9 * c + k) x', ud (aY M) (9 * c + k) y', M.2.2.2.2), F3, ?_, ?_, ?_⟩
  · refine JC_rows F3 J ?_ ?_ ?_
    · rw [zI_ud, J2.2.2.2.2.1]
      show ud (ud (aK M) c _) c (aK M c) = aK M
      rw [ud_ud, ud_same]
    · rw [zI_row (by decide), J2.2.2.2.2.2.1]; rfl
    · rw [zI_row (by decide), J2.2.2.2.2.2.2.1]; rfl
  · refine ⟨rfl, rfl, rfl, rfl, rfl, rfl, rfl, fun _ _ => rfl, ?_, fun _ _ => ⟨rfl, rfl⟩⟩
    intro m hm j hj hb'
    have : ¬ 9 * m + j = 9 * c + k := fun e => by
      have e1 : m = c := by omega
      have e2 : j = k := by omega
      rw [e1, e2, hh] at hb'; cases hb'
    exact ⟨ud_o this, ud_o this⟩
  · unfold f_X1_leftAtWorst
    rw [gr_k (S_38 H) (R_38_0 H), Option.bind_some, ai_nI (S_39 H) hc (by decide), Option.bind_some, on_k (S_38 H), e1, bi_mk, J.2.2.2.2.1]
    exact e2
end C1
