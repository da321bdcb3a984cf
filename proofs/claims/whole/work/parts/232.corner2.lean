/-! ===== what a corner tells: reference ===== -/
def QX (b c k : Nat) (a j : Nat) : Bool := QN a j || (decide (a = 64) && decide (j = 6 * b + c)) || ((decide (a = 61) || decide (a = 62)) && decide (j = 9 * c + k))
theorem QX_f {b c k a j : Nat} (h1 : QN a j = false) (h2 : ¬ (a = 64 ∧ j = 6 * b + c)) (h3 : ¬ ((a = 61 ∨ a = 62) ∧ j = 9 * c + k)) : QX b c k a j = false := by
  unfold QX
  rw [h1]
  simp only [Bool.false_or, Bool.or_eq_false_iff, Bool.and_eq_false_iff, decide_eq_false_iff_not]
  omega
def WS (h0 h : Hp) (M : Ma) (b c k : Nat) (x y : Int32) : Prop := Fr (QX b c k) h0 h ∧ zI h 64 (6 * b + c) = aK M c ||| bitk k ∧ zI h 61 (9 * c + k) = x ∧ zI h 62 (9 * c + k) = y
section W1
variable {f b c k : Nat} {r : Rs} {h0 h : Hp} {M : Ma} {x y : Int32}
theorem WS_mo (J0 : JM h0 r b M) (W : WS h0 h M b c k x y) : mo h b = wth M c k x y := by
  obtain ⟨F, w1, w2, w3⟩ := W
  obtain ⟨fw, fk, fx, fy, fsx, fsy⟩ := JM_f J0
  have em := J0.2.2.1
  unfold wth
  have t : M.2.2.2.2 = (mo h0 b).2.2.2.2 := by rw [em]
  have eK : (fun m => zI h 64 (6 * b + m)) = ud (aK M) c (aK M c ||| bitk k) := by
    funext m
    by_cases e : m = c
    · rw [e, ud_i]; exact w1
    · rw [ud_o e, F.1 64 _ (QX_f rfl (by omega) (by omega))]; exact fk m
  have eX : zI h 61 = ud (aX M) (9 * c + k) x := by
    funext j
    by_cases e : j = 9 * c + k
    · rw [e, ud_i]; exact w2
    · rw [ud_o e, F.1 61 _ (QX_f rfl (by omega) (by omega)), fx]
  have eY : zI h 62 = ud (aY M) (9 * c + k) y := by
    funext j
    by_cases e : j = 9 * c + k
    · rw [e, ud_i]; exact w3
    · rw [ud_o e, F.1 62 _ (QX_f rfl (by omega) (by omega)), fy]
  have r66 : zI h 66 = zI h0 66 := Fr_row F (fun j => QX_f rfl (by omega) (by omega))
  have r67 : zI h 67 = zI h0 67 := Fr_row F (fun j => QX_f rfl (by omega) (by omega))
  have r63 : zI h 63 = zI h0 63 := Fr_row F (fun j => QX_f rfl (by omega) (by omega))
  rw [t]
  unfold mo
  rw [eK, eX, eY, r66, r67, r63, F.1 58 7 (QX_f rfl (by omega) (by omega)), F.1 58 0 (QX_f rfl (by omega) (by omega)), F.1 58 5 (QX_f rfl (by omega) (by omega)), F.1 58 13 (QX_f rfl (by omega) (by omega)), fw]
theorem WS_JM (J0 : JM h0 r b M) (O : OkB M) (hc : c < 6) (hk : k < aN M) (hx : Bd2 x) (hy : Bd2 y) (W : WS h0 h M b c k x y) : JM h r b (wth M c k x y) := by
  have em := WS_mo J0 W
  have F := W.1
  obtain ⟨H, hb6, -, e1, e2, e3, e4, e5, e6, e7, e8⟩ := J0
  refine ⟨Fr_Sh F H, hb6, em, ?_, ?_, ?_, ?_, ?_, ?_, e7, OkB_M (OkB_wth O hc hk hx hy)⟩
  · rw [F.1 58 0 (QX_f rfl (by omega) (by omega))]; exact e1
  · rw [F.1 58 5 (QX_f rfl (by omega) (by omega))]; exact e2
  · rw [F.1 58 13 (QX_f rfl (by omega) (by omega))]; exact e3
  · rw [F.1 63 0 (QX_f rfl (by omega) (by omega))]; exact e4
  · rw [F.1 63 1 (QX_f rfl (by omega) (by omega))]; exact e5
  · rw [F.1 63 2 (QX_f rfl (by omega) (by omega))]; exact e6
theorem QN_QX : ∀ a j, QX b c k a j = false → QN a j = false := fun a j e => by
  unfold QX at e
  cases q : QN a j with
  | false => rfl
  | true => rw [q] at e; simp at e
/-- a try: the corner is set, the sets are counted -/
theorem w_try {x' y' : Int32} (J0 : JM h0 r b M) (O : OkB M) (hc : c < 6) (hk : k < aN M) (hx : Bd2 x') (hy : Bd2 y') (hf : 100 ≤ f) (W : WS h0 h M b c k x y) : ∃ h', WS h0 h' M b c k x' y' ∧ f_X6_mayMany f 58 (nI b) (sI (sI h 61 (9 * c + k) x') 62 (9 * c + k) y') = some (nI (ln (wth M c k x' y')), h') := by
  obtain ⟨F, w1, w2, w3⟩ := W
  have q61 : QX b c k 61 (9 * c + k) = true := by unfold QX; simp
  have q62 : QX b c k 62 (9 * c + k) = true := by unfold QX; simp
  have W1 : WS h0 (sI (sI h 61 (9 * c + k) x') 62 (9 * c + k) y') M b c k x' y' := by
    refine ⟨Fr_then (Fr_then F q61) q62, ?_, ?_, ?_⟩
    · rw [zI_row (by decide), zI_row (by decide)]; exact w1
    · rw [zI_row (by decide), zI_sI, if_pos ⟨rfl, rfl⟩]
    · rw [zI_sI, if_pos ⟨rfl, rfl⟩]
  have J1 := WS_JM J0 O hc hk hx hy W1
  obtain ⟨h', F', e'⟩ := e_mayMany (f := f) J1 hf
  refine ⟨h', ⟨Fr_tr W1.1 (Fr_mono F' QN_QX), ?_, ?_, ?_⟩, e'⟩
  · rw [F'.1 64 _ rfl]; exact W1.2.1
  · rw [F'.1 61 _ rfl]; exact W1.2.2.1
  · rw [F'.1 62 _ rfl]; exact W1.2.2.2
def um (M : Ma) (c k : Nat) : Nat → Nat
  | 0 => 0
  | m + 1 => if qW M c k m then max (um M c k m) (nW M c k m) else um M c k m
theorem um_wv (M : Ma) (c k m : Nat) : max (um M c k m) (wv M c k 0) = wv M c k m := by
  induction m with
  | zero => simp [um]
  | succ m ih =>
    simp only [um, wv] at ih ⊢
    by_cases q : qW M c k m = true
    · rw [if_pos q, if_pos q, ← ih]; omega
    · rw [if_neg q, if_neg q]; exact ih
theorem clr_one : ∀ k, k < 9 → ∀ s, s < 512 → s.testBit k = false → (nI s ||| (1 : Int32) <<< (nI k &&& 31)) &&& (((1 : Int32) <<< (nI k &&& 31)) ^^^ (-1)) = nI s := by decide +kernel
theorem mx_if {a b : Nat} (ha : a ≤ 1000) (hb : b ≤ 1000) {α : Type} (G : Int32 → α) : (if nI b ≤ nI a then G (nI a) else G (nI b)) = G (nI (max a b)) := by
  by_cases e : b ≤ a
  · rw [if_pos ((nI_leI (by omega) (by omega)).mpr e)]; congr 2; omega
  · rw [if_neg (fun h => e ((nI_leI (by omega) (by omega)).mp h))]; congr 2; omega
theorem wo_go {x0 y0 : Int32} (J0 : JM h0 r b M) (O : OkB M) (hc : c < 6) (hk : k < aN M) (hh : hb (aK M c) (nI k) = false) (ex : x0 = aX M (9 * c + k)) (ey : y0 = aY M (9 * c + k)) (hf : 100 ≤ f) : ∀ (d m : Nat) (x y : Int32) (h : Hp), m ≤ 6 → 8 < m + d → Bd2 x → Bd2 y → WS h0 h M b c k x y → ∃ h', Fr QN h0 h' ∧ l_X6_worstOf_49 f d 58 (nI b) (nI c) (nI k) (nI (9 * c + k)) x0 y0 (nI (um M c k m)) (nI m) h = some (nI (wv M c k 6), h') := by
  have n9 := O.1
  have hb6 := J0.2.1
  obtain ⟨fw, fk, fx, fy, -, -⟩ := JM_f J0
  intro d
  induction d with
  | zero => intro m x y h h1 h2; omega
  | succ d ih =>
    intro m x y h hm hmd hx hy W
    have J := WS_JM J0 O hc hk hx hy W
    have H := J.1
    have i54 : 9 * c + k < 54 := by omega
    have u15 : ∀ m, m ≤ 6 → um M c k m ≤ 15 := fun m hm => by
      have h1 := um_wv M c k m
      have h2 := wv_15 O hc hk m hm
      omega
    show ∃ h', _ ∧ b_X6_worstOf_49 f (l_X6_worstOf_49 f d) 58 (nI b) (nI c) (nI k) (nI (9 * c + k)) x0 y0 _ (nI m) h = _
    unfold b_X6_worstOf_49 b_X6_worstOf_88 b_X6_worstOf_92 b_X6_worstOf_93 b_X6_worstOf_131 b_X6_worstOf_163 b_X6_worstOf_185 b_X6_worstOf_187 lt
    rw [if_neg (fun e9 => by have := (nI_ltI (a := 6) (b := m) (by omega) (by omega)).mp e9; omega)]
    simp only [nI_p1, ix9']
    have H1 : ∀ v, Sh (sI h 61 (9 * c + k) v) r := fun _ => H
    have H2 : ∀ v w, Sh (sI (sI h 61 (9 * c + k) v) 62 (9 * c + k) w) r := fun _ _ => H
    by_cases e6 : m = 6
    · subst e6
      obtain ⟨h1, W1, e1⟩ := w_try (f := f) (x' := 2000) (y' := 2000) J0 O hc hk Bd2_far Bd2_far hf W
      have l15 : ln (wth M c k 2000 2000) ≤ 15 := ln_15 (OkB_M (OkB_wth O hc hk Bd2_far Bd2_far))
      rw [if_pos (show nI 6 = (6 : Int32) from rfl), if_neg c10, gr_k (S_58 H) (R_58_3 H), Option.bind_some, if_neg (fun n9 => n9 (show nI 6 = (6 : Int32) from rfl)), as_nI (S_61 H) i54 (by decide), Option.bind_some, gr_k (S_58 (H1 _)) (R_58_4 (H1 _)), Option.bind_some, if_neg (fun n9 => n9 (show nI 6 = (6 : Int32) from rfl)), as_nI (S_62 (H1 _)) i54 (by decide), Option.bind_some, on_k (S_58 (H2 _ _)), e1, bi_mk]
      have u6 := u15 6 (by omega)
      rw [mx_if (a := um M c k 6) (b := ln (wth M c k 2000 2000)) (by omega) (by omega) (fun v => l_X6_worstOf_49 f d 58 (nI b) (nI c) (nI k) (nI (9 * c + k)) x0 y0 v (nI (6 + 1)) h1)]
      have ew : max (um M c k 6) (ln (wth M c k 2000 2000)) = wv M c k 6 := um_wv M c k 6
      rw [ew]
      have J1 := WS_JM J0 O hc hk Bd2_far Bd2_far W1
      have G := J1.1
      obtain ⟨g, rfl⟩ : ∃ g, d = g + 1 := ⟨d - 1, by omega⟩
      have G1 : ∀ v, Sh (sI h1 64 (6 * b + c) v) r := fun _ => G
      have G2 : ∀ v w, Sh (sI (sI h1 64 (6 * b + c) v) 61 (9 * c + k) w) r := fun _ _ => G
      obtain ⟨s, hs, es⟩ := O.2.2.2.2.2.2.2.2 c hc
      have s9 : s < 512 := Nat.lt_of_lt_of_le hs (Nat.pow_le_pow_right (by decide) n9)
      have tb : s.testBit k = false := by rw [← hb_all s s9 k (by omega), ← es]; exact hh
      refine ⟨sI (sI (sI h1 64 (6 * b + c) (aK M c)) 61 (9 * c + k) x0) 62 (9 * c + k) y0, ?_, ?_⟩
      · obtain ⟨F1, -, -, -⟩ := W1
        refine ⟨fun a j q => ?_, F1.2⟩
        rw [zI_sI]
        by_cases c1 : a = 62 ∧ j = 9 * c + k
        · rw [if_pos c1, c1.1, c1.2, ey, ← fy]
        · rw [if_neg c1, zI_sI]
          by_cases c2 : a = 61 ∧ j = 9 * c + k
          · rw [if_pos c2, c2.1, c2.2, ex, ← fx]
          · rw [if_neg c2, zI_sI]
            by_cases c3 : a = 64 ∧ j = 6 * b + c
            · rw [if_pos c3, c3.1, c3.2]; exact (fk c).symm
            · rw [if_neg c3]
              exact F1.1 a j (QX_f q c3 (by omega))
      · show b_X6_worstOf_49 f (l_X6_worstOf_49 f g) 58 (nI b) (nI c) (nI k) (nI (9 * c + k)) x0 y0 _ (nI 7) h1 = _
        unfold b_X6_worstOf_49
        rw [if_pos (by decide), gr_k (S_58 G) (R_58_11 G), Option.bind_some, ix6', ai_nI (S_64 G) (by omega) (by decide), Option.bind_some, as_nI (S_64 G) (by omega) (by decide), Option.bind_some, gr_k (S_58 (G1 _)) (R_58_3 (G1 _)), Option.bind_some, as_nI (S_61 (G1 _)) i54 (by decide), Option.bind_some, gr_k (S_58 (G2 _ _)) (R_58_4 (G2 _ _)), Option.bind_some, as_nI (S_62 (G2 _ _)) i54 (by decide), Option.bind_some, W1.2.1, es]
        have cl := clr_one k (by omega) s s9 tb
        show some (nI (wv M c k 6), sI (sI (sI h1 64 (6 * b + c) ((nI s ||| (1 : Int32) <<< (nI k &&& 31)) &&& _)) _ _ _) _ _ _) = _
        rw [cl]
    · have hm6 : m < 6 := by omega
      have n6' : ¬ nI m = (6 : Int32) := fun e9 => e6 ((nI_eq (a := m) (b := 6) (by omega) (by omega)).mp e9)
      rw [if_neg n6']
      have sk : qW M c k m = false → um M c k (m + 1) = um M c k m := fun q => by
        show (if qW M c k m then max (um M c k m) (nW M c k m) else um M c k m) = _
        rw [q]; rfl
      have next := ih (m + 1) x y h (by omega) (by omega) hx hy W
      by_cases emc : m = c
      · rw [sk (by unfold qW; simp [emc])] at next
        rw [if_pos (by rw [emc]), if_pos trivial]
        exact next
      · have km : zI h 64 (6 * b + m) = aK M m := (W.1.1 64 _ (QX_f rfl (by omega) (by omega))).trans (fk m)
        have xm : zI h 61 (9 * m + k) = aX M (9 * m + k) := by rw [W.1.1 61 _ (QX_f rfl (by omega) (by omega)), fx]
        have ym : zI h 62 (9 * m + k) = aY M (9 * m + k) := by rw [W.1.1 62 _ (QX_f rfl (by omega) (by omega)), fy]
        rw [if_neg (fun e9 => emc ((nI_eq (by omega) (by omega)).mp e9)), gr_k (S_58 H) (R_58_11 H), Option.bind_some, ix6', ai_nI (S_64 H) (by omega) (by decide), Option.bind_some, e_has, bi_mk, km]
        cases eh : hb (aK M m) (nI k) with
        | false =>
          rw [sk (by unfold qW; rw [eh]; simp)] at next
          rw [b2F, if_pos rfl, if_pos trivial]
          exact next
        | true =>
          have q : qW M c k m = true := by unfold qW; rw [eh]; simp [emc]
          have bd := O.2.2.2.2.2.2.2.1 m hm6 k hk eh
          have n6 : ¬ nI m = (6 : Int32) := fun e9 => e6 ((nI_eq (a := m) (b := 6) (by omega) (by omega)).mp e9)
          obtain ⟨h1, W1, e1⟩ := w_try (f := f) (x' := aX M (9 * m + k)) (y' := aY M (9 * m + k)) J0 O hc hk bd.1 bd.2 hf W
          have l15 : ln (wth M c k (aX M (9 * m + k)) (aY M (9 * m + k))) ≤ 15 := ln_15 (OkB_M (OkB_wth O hc hk bd.1 bd.2))
          have nx := ih (m + 1) _ _ h1 (by omega) (by omega) bd.1 bd.2 W1
          have es : um M c k (m + 1) = max (um M c k m) (ln (wth M c k (aX M (9 * m + k)) (aY M (9 * m + k)))) := by
            show (if qW M c k m then max (um M c k m) (nW M c k m) else um M c k m) = _
            rw [if_pos q]; rfl
          rw [es] at nx
          rw [b2T, if_neg c10, if_neg c10, gr_k (S_58 H) (R_58_3 H), Option.bind_some, if_pos n6, Option.bind_some, ai_nI (S_61 H) (by omega) (by decide), Option.bind_some, xm, as_nI (S_61 H) i54 (by decide), Option.bind_some, gr_k (S_58 (H1 _)) (R_58_4 (H1 _)), Option.bind_some, if_pos n6, Option.bind_some, ai_nI (S_62 (H1 _)) (by omega) (by decide), Option.bind_some, zI_row (by decide), ym, as_nI (S_62 (H1 _)) i54 (by decide), Option.bind_some, on_k (S_58 (H2 _ _)), e1, bi_mk]
          have u6 := u15 m (by omega)
          rw [mx_if (a := um M c k m) (b := ln (wth M c k (aX M (9 * m + k)) (aY M (9 * m + k)))) (by omega) (by omega) (fun v => l_X6_worstOf_49 f d 58 (nI b) (nI c) (nI k) (nI (9 * c + k)) x0 y0 v (nI (m + 1)) h1)]
          exact nx
end W1
theorem e_worstOf {f b c k : Nat} {r : Rs} {h : Hp} {M : Ma} (J : JM h r b M) (O : OkB M) (hc : c < 6) (hk : k < aN M) (hh : hb (aK M c) (nI k) = false) (hB : Bd2 (aX M (9 * c + k)) ∧ Bd2 (aY M (9 * c + k))) (hf : 100 ≤ f) : ∃ h', Fr QN h h' ∧ f_X6_worstOf f 58 (nI b) (nI c) (nI k) h = some (nI (wv M c k 6), h') := by
  have H := J.1
  have hb6 := J.2.1
  have n9 := O.1
  obtain ⟨fw, fk, fx, fy, -, -⟩ := JM_f J
  have i54 : 9 * c + k < 54 := by omega
  unfold f_X6_worstOf
  simp only [lt]
  rw [ix9', gr_k (S_58 H) (R_58_3 H), Option.bind_some, ai_nI (S_61 H) i54 (by decide), Option.bind_some, gr_k (S_58 H) (R_58_4 H), Option.bind_some, ai_nI (S_62 H) i54 (by decide), Option.bind_some, gr_k (S_58 H) (R_58_11 H), Option.bind_some, ix6', ai_nI (S_64 H) (by omega) (by decide), Option.bind_some, as_nI (S_64 H) (by omega) (by decide), Option.bind_some, fx, fy, fk c]
  have q64 : QX b c k 64 (6 * b + c) = true := by unfold QX; simp
  refine wo_go (f := f) J O hc hk hh rfl rfl hf f 0 _ _ _ (by omega) (by omega) hB.1 hB.2 ⟨Fr_sI q64, ?_, ?_, ?_⟩
  · rw [zI_sI, if_pos ⟨rfl, rfl⟩]; rfl
  · rw [zI_row (by decide), fx]
  · rw [zI_row (by decide), fy]
/-- all places of a map are near -/
theorem Bd_all {h : Hp} {p n w l ga gb gc : Nat} (il : Il h p n w l ga gb gc) {b c k : Nat} (hc : c < 6) (hk : k < n) : Bd2 (aX (mo h b) (9 * c + k)) ∧ Bd2 (aY (mo h b) (9 * c + k)) := by
  have lm := il.2.2.2.2.2.2.2.2.2.2.2 c hc k hk
  exact ⟨Bd_2 lm.2.2.1, Bd_2 lm.2.2.2⟩
theorem st_corner {f : Nat} (hf : 100 ≤ f) (a b k : Int32) : StpR (f_X5_corner f 0 a b k) (f_X6_corner f 58 a b k) := by
  intro h r R
  obtain ⟨H, rp, tx, ft, n, w, l, ga, gb, gc, il, st, sy, im0, im1⟩ := id R
  have hp := Rp_p rp
  have h9 := il.1.1
  have eC := e_isMarkC (f := f) H rp il.2.1.1 il.1.1 k
  have eM := e_isMarkM (f := f) H il.2.1.2 il.1.1 k
  unfold f_X5_corner f_X6_corner b_X5_corner_16 b_X5_corner_75 b_X6_corner_16 b_X6_corner_46
  simp only [e_twoC, e_twoM, bi_mk]
  cases et : twB a b with
  | false => exact ⟨_, h, h, r, by rw [b2F, if_pos rfl], by rw [S_58 H], by rw [b2F, if_pos rfl], R⟩
  | true =>
    obtain ⟨i, j, hi, hj, hij, rfl, rfl⟩ := twB_t et
    rw [b2T, if_neg c10, on_k (S_0 H), eC, bi_mk]
    cases ek : mkB n k with
    | false =>
      rw [ek] at eM
      exact ⟨_, h, h, r, by rw [b2F, if_neg (by simp)], by rw [S_58 H], by rw [if_neg c10, on_k (S_58 H), eM, bi_mk, b2F, if_neg (by simp)], R⟩
    | true =>
      rw [ek] at eM
      obtain ⟨m, hm, rfl⟩ := mkB_t (by omega) ek
      have x36 : 6 * i + j < 36 := by omega
      have es := st.1.1 _ x36
      rw [b2T, if_pos c10, gr_k (S_0 H) (R_0_6 H), Option.bind_some, on_k (S_17 H), e_hasC H hi hj, bi_mk, es]
      cases eh : hb (zI h 64 (6 * i + j)) (nI m) with
      | true =>
        refine ⟨_, h, h, r, by rw [b2T, if_neg c10], by rw [S_58 H], ?_, R⟩
        rw [if_neg c10, on_k (S_58 H), eM, bi_mk, b2T, if_pos c10, gr_k (S_58 H) (R_58_11 H), Option.bind_some, ix6', ai_nI (S_64 H) x36 (by decide), Option.bind_some, e_has, bi_mk, eh, b2T, if_pos c10]
      | false =>
        rw [b2F, if_pos rfl, gr_k (S_0 H) (R_0_10 H), Option.bind_some, gr_k (S_0 H) (R_0_3 H), Option.bind_some, gr_k (S_0 H) (R_0_6 H), Option.bind_some, on_k (S_38 H)]
        obtain ⟨h', M', e, W, R', J, E, C, G⟩ := e_weigh (f := f) R hi hf
        have H' := R'.1
        obtain ⟨-, -, -, -, n', w', l', ga', gb', gc', il', st', -⟩ := id R'
        have an : aN (mo h' i) = n := by
          show (zI h' 58 0).toNatClampNeg = n
          rw [W 58 0 (by omega), il.2.1.2, clI (by omega)]
        have en : n' = n := by
          have h1 := il'.2.1.2
          rw [W 58 0 (by omega), il.2.1.2] at h1
          exact ((nI_eq (by omega) (by have := il'.1.1; omega)).mp h1).symm
        subst en
        have OB := OkB_mo il' st' (b := i) hi
        have OM : OkB M' := OkB_cong E OB
        have hhM : hb (aK (mo h' i) j) (nI m) = false := by
          show hb (zI h' 64 (6 * i + j)) (nI m) = false
          rw [W 64 _ (by omega)]; exact eh
        have C1 : zI h' 38 12 = nI (ln M') := C.1
        have Cl : ln M' = ln (mo h' i) := ln_cong E (OkB_M OB)
        have l15 := ln_15 (OkB_M OB)
        have JM' := JM_of H' hi G
        obtain ⟨h2, F2, e2⟩ := e_mayMany (f := f) JM' hf
        have e64 : zI h' 64 (6 * i + j) = zI h 64 (6 * i + j) := W 64 _ (by omega)
        have eM' := e_isMarkM (f := f) H' (show zI h' 58 0 = nI n' by rw [W 58 0 (by omega)]; exact il.2.1.2) h9 (nI m)
        rw [ek] at eM'
        have tail : ∀ (K : Int32 → Hp → Option (Int32 × Hp)), (if (1 : Int32) = 0 then some ((-1000001 : Int32), h') else q_on h' 58 6 (bi (f_X6_isMark f 58 (nI m) h') fun v5_ h4_ => if ¬v5_ = 0 then (q_gr h4_ 58 6 11).bind fun a6_ => (q_ai h4_ a6_ 9 (6 * nI i + nI j)).bind fun v7_ => bi (f_X6_has f v7_ (nI m) h4_) fun v9_ h8_ => if ¬v9_ = 0 then some ((-1000003 : Int32), h8_) else q_on h8_ 58 6 (bi (f_X6_mayMany f 58 (nI i) h8_) K) else some ((-1000001 : Int32), h4_))) = K (nI (ln (mo h' i))) h2 := fun K => by
          rw [if_neg c10, on_k (S_58 H'), eM', bi_mk, b2T, if_pos c10, gr_k (S_58 H') (R_58_11 H'), Option.bind_some, ix6', ai_nI (S_64 H') x36 (by decide), Option.bind_some, e_has, bi_mk, e64, eh, b2F, if_neg (by simp), on_k (S_58 H'), e2, bi_mk]
          rfl
        rw [e, Option.bind_some, gr_k (S_0 H') (R_0_10 H'), Option.bind_some, gi_k (S_38 H'), Option.bind_some, C1, Cl]
        by_cases c0 : ln (mo h' i) = 0
        · have n0 : nI (ln (mo h' i)) = 0 := by rw [c0]; rfl
          refine ⟨-1000003, h', h2, rW r, by rw [if_neg (fun n9 => n9 n0)], by rw [S_58 H'], ?_, Rel_QN R' F2⟩
          rw [tail, if_neg (fun n9 => n9 n0)]
        · obtain ⟨h3, M3, F3, J3, E3, e3⟩ := e_leftWorst (f := f) (c := j) (k := m) J OM hj (by rw [E.2.1, an]; exact hm) (by rw [E.2.2.2.2.2.2.2.1 j hj]; exact hhM) hf
          have W3 := WF_QW F3
          have R3 : Rel h3 (rW r) := Rel_Sm R' (Fr_Sh F3 H') rfl rfl (WF_Sm W3)
          have H3 := R3.1
          have em3 : mo h3 i = mo h' i := WF_mo W3 i
          -- the reference runs on the heap that the class leaves
          obtain ⟨-, -, -, -, n3, w3, l3, ga3, gb3, gc3, il3, st3, -⟩ := id R3
          have JM3 := JM_of H3 hi (Gd_of il3 st3 hi)
          have OB3 := OkB_mo il3 st3 (b := i) hi
          have an3 : aN (mo h3 i) = n' := by rw [em3]; exact an
          have n3' : n3 = n' := by
            have h1 := (mo_of il3 (b := i) (st3.2.2.2.1.choose_spec.2) (st3.2.2.2.1.choose_spec.1)).1
            rw [← h1]; exact an3
          obtain ⟨h4, F4, e4⟩ := e_mayMany (f := f) JM3 hf
          have JM4 := JM_Fr F4 JM3
          obtain ⟨h5, F5, e5⟩ := e_worstOf (f := f) (c := j) (k := m) JM4 OB3 hj (by rw [an3]; exact hm) (by rw [em3]; exact hhM) (Bd_all il3 hj (by omega)) hf
          have e64' : zI h3 64 (6 * i + j) = zI h 64 (6 * i + j) := (W3 64 _ (by omega)).trans e64
          have eM3 := e_isMarkM (f := f) H3 (show zI h3 58 0 = nI n' by rw [W3 58 0 (by omega), W 58 0 (by omega)]; exact il.2.1.2) h9 (nI m)
          rw [ek] at eM3
          refine ⟨nI (wv (mo h3 i) j m 6), h3, h5, rW r, ?_, by rw [S_58 H3], ?_, Rel_QN R3 (Fr_tr F4 F5)⟩
          · rw [if_pos (n0_of (by omega) (by omega)), Option.bind_some, on_k (S_38 H'), e3, bi_mk, em3, wv_cong E OB hj (by rw [an]; exact hm) 6 (by omega)]
          · rw [if_neg c10, on_k (S_58 H3), eM3, bi_mk, b2T, if_pos c10, gr_k (S_58 H3) (R_58_11 H3), Option.bind_some, ix6', ai_nI (S_64 H3) x36 (by decide), Option.bind_some, e_has, bi_mk, e64', eh, b2F, if_neg (by simp), on_k (S_58 H3), e4, bi_mk]
            have l3 : ln (mo h3 i) = ln (mo h' i) := by rw [em3]
            have lq : nI (fl (mo h3 i) 64).length = nI (ln (mo h' i)) := by rw [← l3]; rfl
            rw [lq, if_pos (n0_of (by omega) (by omega)), on_k (S_58 JM4.1), e5, bi_mk]
