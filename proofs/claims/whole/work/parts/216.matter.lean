/-! ===== a judge's matter, as one thing; the sets that may lie, their areas ===== -/
/-- within, known, map x, map y, marks, lies, spades x, y, how many heard, goals -/
abbrev Ma : Type := Int32 × (Nat → Int32) × (Nat → Int32) × (Nat → Int32) × Nat × Nat × (Nat → Int32) × (Nat → Int32) × Nat × Nat × Nat × Nat
abbrev aW (M : Ma) : Int32 := M.1
abbrev aK (M : Ma) : Nat → Int32 := M.2.1
abbrev aX (M : Ma) : Nat → Int32 := M.2.2.1
abbrev aY (M : Ma) : Nat → Int32 := M.2.2.2.1
abbrev aN (M : Ma) : Nat := M.2.2.2.2.1
abbrev aL (M : Ma) : Nat := M.2.2.2.2.2.1
abbrev aSx (M : Ma) : Nat → Int32 := M.2.2.2.2.2.2.1
abbrev aSy (M : Ma) : Nat → Int32 := M.2.2.2.2.2.2.2.1
abbrev aC (M : Ma) : Nat := M.2.2.2.2.2.2.2.2.1
abbrev aA (M : Ma) : Nat := M.2.2.2.2.2.2.2.2.2.1
abbrev aB (M : Ma) : Nat := M.2.2.2.2.2.2.2.2.2.2.1
abbrev aD (M : Ma) : Nat := M.2.2.2.2.2.2.2.2.2.2.2
def bM (M : Ma) (s k : Nat) : Option Bx := bxN (aW M) (aK M) (aX M) (aY M) s k
def mM (M : Ma) (s : Nat) : Bool := mlS (aW M) (aK M) (aX M) (aY M) (aN M) s (aSx M) (aSy M) (aC M) (aA M) (aB M) (aD M)
def pS (M : Ma) (s : Nat) : Bool := decide (pcn s = aL M) && mM M s
def enO (j : Nat) (o : Option Bx) : Int32 := match o with
  | none => if j % 2 = 0 then 0 else 99
  | some B => match j with
    | 0 => B.1
    | 1 => B.2.1
    | 2 => B.2.2.1
    | _ => B.2.2.2
def otJ (j : Nat) : Nat := if j % 2 = 0 then j + 1 else j - 1
def eS (M : Ma) (s j : Nat) : Int32 := enO j (bM M s (aA M)) + enO j (bM M s (aB M)) - enO (otJ j) (bM M s (aD M))
def fl (M : Ma) (t : Nat) : List Nat := (List.range t).filter (pS M)
theorem fl_0 (M : Ma) : fl M 0 = [] := rfl
theorem fl_y {M : Ma} {t : Nat} (h : pS M t = true) : fl M (t + 1) = fl M t ++ [t] := by
  unfold fl; rw [List.range_succ, List.filter_append]; simp [h]
theorem fl_n {M : Ma} {t : Nat} (h : pS M t = false) : fl M (t + 1) = fl M t := by
  unfold fl; rw [List.range_succ, List.filter_append]; simp [h]
def OkM (M : Ma) : Prop := aN M ≤ 9 ∧ aL M ≤ 2 ∧ aC M ≤ 20 ∧ aA M < 9 ∧ aB M < 9 ∧ aD M < 9 ∧ Far (aW M) (aK M) (aX M) (aY M) (aN M) ∧ Far2 (aW M) (aK M) (aX M) (aY M) (aN M) ∧ ∀ m, m < 6 → ∀ k, aN M ≤ k → k < 9 → hb (aK M m) (nI k) = false
/-- how many sets there are of l maps below t -/
def cn (l t : Nat) : Nat := (List.range t).countP (fun s => decide (pcn s = l))
theorem cn_tab : ∀ l, l < 3 → ∀ t, t < 65 → cn l t ≤ 15 ∧ (t < 64 → pcn t = l → cn l t ≤ 14) := by decide +kernel
theorem fl_len (M : Ma) (t : Nat) : (fl M t).length ≤ cn (aL M) t := by
  unfold fl cn
  rw [← List.countP_eq_length_filter]
  apply List.countP_mono_left
  intro x _ hx
  unfold pS at hx
  simp only [Bool.and_eq_true] at hx
  exact hx.1
theorem fl_15 {M : Ma} (h : aL M ≤ 2) {t : Nat} (ht : t ≤ 64) : (fl M t).length ≤ 15 := Nat.le_trans (fl_len M t) (cn_tab _ (by omega) t (by omega)).1
theorem fl_14 {M : Ma} (h : aL M ≤ 2) {t : Nat} (ht : t < 64) (e : pcn t = aL M) : (fl M t).length ≤ 14 := Nat.le_trans (fl_len M t) ((cn_tab _ (by omega) t (by omega)).2 ht e)
theorem fl_mem {M : Ma} {t s : Nat} (h : s ∈ fl M t) : s < t ∧ pS M s = true := by
  unfold fl at h
  rw [List.mem_filter, List.mem_range] at h
  exact h
/-! the same where what is known is the same -/
def Eqv (M M' : Ma) : Prop := aW M' = aW M ∧ aN M' = aN M ∧ aL M' = aL M ∧ aC M' = aC M ∧ aA M' = aA M ∧ aB M' = aB M ∧ aD M' = aD M ∧ (∀ m, m < 6 → aK M' m = aK M m) ∧ (∀ m, m < 6 → ∀ k, k < aN M → hb (aK M m) (nI k) = true → aX M' (9 * m + k) = aX M (9 * m + k) ∧ aY M' (9 * m + k) = aY M (9 * m + k)) ∧ (∀ i, i < aC M → aSx M' i = aSx M i ∧ aSy M' i = aSy M i)
theorem Eqv_rf (M : Ma) : Eqv M M := ⟨rfl, rfl, rfl, rfl, rfl, rfl, rfl, fun _ _ => rfl, fun _ _ _ _ _ => ⟨rfl, rfl⟩, fun _ _ => ⟨rfl, rfl⟩⟩
theorem bxk_cong {w s : Int32} {K X Y K' X' Y' : Nat → Int32} {k : Nat} (eK : ∀ m, m < 6 → K' m = K m) (eX : ∀ m, m < 6 → hb (K m) (nI k) = true → X' (9 * m + k) = X (9 * m + k) ∧ Y' (9 * m + k) = Y (9 * m + k)) : ∀ m, m ≤ 6 → bxk w s K' X' Y' k m = bxk w s K X Y k m
  | 0, _ => rfl
  | m + 1, hm => by
    rw [bxk_s, bxk_s, bxk_cong eK eX m (by omega)]
    have eu : us s K' k m = us s K k m := by unfold us; rw [eK m (by omega)]
    rw [eu]
    cases q : us s K k m with
    | false => rfl
    | true =>
      unfold us at q
      simp only [Bool.and_eq_true] at q
      rw [(eX m (by omega) q.2).1, (eX m (by omega) q.2).2]
theorem bM_cong {M M' : Ma} (E : Eqv M M') (O : OkM M) {s k : Nat} (hk : k < 9) : bM M' s k = bM M s k := by
  obtain ⟨e1, e2, e3, e4, e5, e6, e7, e8, e9, e10⟩ := E
  unfold bM bxN
  rw [e1]
  refine bxk_cong e8 (fun m hm hh => ?_) 6 (by omega)
  by_cases c : k < aN M
  · exact e9 m hm k c hh
  · rw [O.2.2.2.2.2.2.2.2 m hm k (by omega) hk] at hh; cases hh
theorem eS_cong {M M' : Ma} (E : Eqv M M') (O : OkM M) (s j : Nat) : eS M' s j = eS M s j := by
  unfold eS
  rw [E.2.2.2.2.1, E.2.2.2.2.2.1, E.2.2.2.2.2.2.1, bM_cong E O O.2.2.2.1, bM_cong E O O.2.2.2.2.1, bM_cong E O O.2.2.2.2.2.1]
theorem okAll_cong {w s : Int32} {K X Y K' X' Y' : Nat → Int32} : ∀ {n : Nat}, (∀ k, k < n → bxk w s K' X' Y' k 6 = bxk w s K X Y k 6) → okAll w s K' X' Y' n = okAll w s K X Y n
  | 0, _ => rfl
  | n + 1, e => by
    unfold okAll
    rw [okAll_cong (fun k hk => e k (by omega)), e n (by omega)]
theorem qab_2 : ∀ s, s < 64 → pcn s = 2 → qa s < 6 ∧ qb s < 6 := by decide +kernel
section MC
variable {M M' : Ma} {s : Nat}
theorem hB_c (E : Eqv M M') (O : OkM M) : ∀ k, k < 9 → bxN (aW M') (aK M') (aX M') (aY M') s k = bxN (aW M) (aK M) (aX M) (aY M) s k := fun k hk => bM_cong E O hk
theorem off_c (E : Eqv M M') (O : OkM M) {m k : Nat} (hm : m < 6) (hk : k < aN M) : offS (aW M') (aK M') (aX M') (aY M') s m k = offS (aW M) (aK M) (aX M) (aY M) s m k := by
  unfold offS
  rw [hB_c E O k (by have := O.1; omega), E.2.2.2.2.2.2.2.1 m hm, E.1]
  cases q : hb (aK M m) (nI k) with
  | false => simp
  | true => rw [(E.2.2.2.2.2.2.2.2.1 m hm k hk q).1, (E.2.2.2.2.2.2.2.2.1 m hm k hk q).2]
theorem tof_c (E : Eqv M M') (O : OkM M) {m : Nat} (hm : m < 6) : tofS (aW M') (aK M') (aX M') (aY M') (aN M') s m = tofS (aW M) (aK M) (aX M) (aY M) (aN M) s m := by
  unfold tofS
  rw [E.2.1, fb_ct_cong (fun k hk => off_c E O hm hk)]
theorem cou_c (E : Eqv M M') (O : OkM M) {m : Nat} (hm : m < 6) : anyF (couS (aW M') (aK M') (aX M') (aY M') s m) (aN M') = anyF (couS (aW M) (aK M) (aX M) (aY M) s m) (aN M) := by
  rw [E.2.1]
  refine anyF_congr (fun k hk => ?_)
  unfold couS
  rw [hB_c E O k (by have := O.1; omega), E.2.2.2.2.2.2.2.1 m hm, E.1]
  cases q : hb (aK M m) (nI k) with
  | false => simp
  | true => rw [(E.2.2.2.2.2.2.2.2.1 m hm k hk q).1, (E.2.2.2.2.2.2.2.2.1 m hm k hk q).2]
theorem fre_c (E : Eqv M M') (O : OkM M) : freS (aW M') (aK M') (aX M') (aY M') (aN M') s = freS (aW M) (aK M) (aX M) (aY M) (aN M) s := by
  unfold freS
  exact fb_ct_cong (fun m hm => by rw [tof_c E O hm])
theorem qua_c (E : Eqv M M') (O : OkM M) (hs : s < 64) : quNS (aW M') (aK M') (aX M') (aY M') (aN M') s = quNS (aW M) (aK M) (aX M) (aY M) (aN M) s := by
  unfold quNS
  by_cases c : pcn s = 2
  · rw [if_pos c, if_pos c, E.2.1]
    obtain ⟨ha, hb6⟩ := qab_2 s hs c
    refine fb_ct_cong (fun k hk => ?_)
    unfold quaS
    rw [hB_c E O k (by have := O.1; omega), E.2.2.2.2.2.2.2.1 _ ha, E.2.2.2.2.2.2.2.1 _ hb6, E.1]
    cases q1 : hb (aK M (qa s)) (nI k) with
    | false => simp
    | true =>
      cases q2 : hb (aK M (qb s)) (nI k) with
      | false => simp
      | true => rw [(E.2.2.2.2.2.2.2.2.1 _ ha k hk q1).1, (E.2.2.2.2.2.2.2.2.1 _ ha k hk q1).2, (E.2.2.2.2.2.2.2.2.1 _ hb6 k hk q2).1, (E.2.2.2.2.2.2.2.2.1 _ hb6 k hk q2).2]
  · rw [if_neg c, if_neg c]
theorem ok_c (E : Eqv M M') (O : OkM M) : okS (aW M') (aK M') (aX M') (aY M') (aN M') s = okS (aW M) (aK M) (aX M) (aY M) (aN M) s := by
  unfold okS
  rw [E.2.1, E.1]
  exact okAll_cong (fun k hk => by have h1 := hB_c (s := s) E O k (by have := O.1; omega); rw [E.1] at h1; exact h1)
theorem fel_c (E : Eqv M M') (O : OkM M) : felS (aW M') (aK M') (aX M') (aY M') s (aSx M') (aSy M') (aC M') (aA M') (aB M') (aD M') = felS (aW M) (aK M) (aX M) (aY M) s (aSx M) (aSy M) (aC M) (aA M) (aB M) (aD M) := by
  unfold felS
  rw [E.2.2.2.2.1, E.2.2.2.2.2.1, E.2.2.2.2.2.2.1, hB_c E O _ O.2.2.2.1, hB_c E O _ O.2.2.2.2.1, hB_c E O _ O.2.2.2.2.2.1, E.2.2.2.1, anyF_congr (fun i hi => ?_)]
  unfold felP
  rw [(E.2.2.2.2.2.2.2.2.2 i hi).1, (E.2.2.2.2.2.2.2.2.2 i hi).2]
theorem al1_c (E : Eqv M M') (O : OkM M) : allF (fun m => decide (tofS (aW M') (aK M') (aX M') (aY M') (aN M') s m ≤ 1)) 6 = allF (fun m => decide (tofS (aW M) (aK M) (aX M) (aY M) (aN M) s m ≤ 1)) 6 := allF_congr (fun m hm => by rw [tof_c E O hm])
theorem al2_c (E : Eqv M M') (O : OkM M) : allF (fun m => !(s.testBit m && decide (tofS (aW M') (aK M') (aX M') (aY M') (aN M') s m = 0)) || anyF (couS (aW M') (aK M') (aX M') (aY M') s m) (aN M')) 6 = allF (fun m => !(s.testBit m && decide (tofS (aW M) (aK M) (aX M) (aY M) (aN M) s m = 0)) || anyF (couS (aW M) (aK M) (aX M) (aY M) s m) (aN M)) 6 := allF_congr (fun m hm => by rw [tof_c E O hm, cou_c E O hm])
theorem mM_cong (E : Eqv M M') (O : OkM M) (hs : s < 64) : mM M' s = mM M s := by
  unfold mM mlS
  rw [ok_c E O, qua_c E O hs, fre_c E O, fel_c E O, al1_c E O, al2_c E O]
end MC
theorem pS_cong {M M' : Ma} (E : Eqv M M') (O : OkM M) {s : Nat} (hs : s < 64) : pS M' s = pS M s := by
  unfold pS
  rw [E.2.2.1, mM_cong E O hs]
theorem fl_cong {M M' : Ma} (E : Eqv M M') (O : OkM M) {t : Nat} (ht : t ≤ 64) : fl M' t = fl M t := by
  unfold fl
  apply List.filter_congr
  intro x hx
  exact pS_cong E O (Nat.lt_of_lt_of_le (List.mem_range.mp hx) ht)
/-! a frame: what may have changed -/
def Fr (Q : Nat → Nat → Bool) (h h' : Hp) : Prop := (∀ a j, Q a j = false → zI h' a j = zI h a j) ∧ zS h' = zS h ∧ zR h' = zR h ∧ zL h' = zL h ∧ zN h' = zN h
theorem Fr_rf (Q : Nat → Nat → Bool) (h : Hp) : Fr Q h h := ⟨fun _ _ _ => rfl, rfl, rfl, rfl, rfl⟩
theorem Fr_tr {Q : Nat → Nat → Bool} {a b c : Hp} (x : Fr Q a b) (y : Fr Q b c) : Fr Q a c := ⟨fun p q h1 => (y.1 p q h1).trans (x.1 p q h1), y.2.1.trans x.2.1, y.2.2.1.trans x.2.2.1, y.2.2.2.1.trans x.2.2.2.1, y.2.2.2.2.trans x.2.2.2.2⟩
theorem Fr_mono {Q Q' : Nat → Nat → Bool} {h h' : Hp} (x : Fr Q h h') (e : ∀ a j, Q' a j = false → Q a j = false) : Fr Q' h h' := ⟨fun a j q => x.1 a j (e a j q), x.2⟩
theorem Fr_sI {Q : Nat → Nat → Bool} {h : Hp} {a k : Nat} {v : Int32} (e : Q a k = true) : Fr Q h (sI h a k v) := by
  refine ⟨fun p q h1 => ?_, rfl, rfl, rfl, rfl⟩
  rw [zI_sI, if_neg]
  rintro ⟨rfl, rfl⟩
  rw [e] at h1; cases h1
theorem Fr_then {Q : Nat → Nat → Bool} {h h' : Hp} {a k : Nat} {v : Int32} (x : Fr Q h h') (e : Q a k = true) : Fr Q h (sI h' a k v) := Fr_tr x (Fr_sI e)
theorem Fr_Sh {Q : Nat → Nat → Bool} {h h' : Hp} {r : Rs} (x : Fr Q h h') (H : Sh h r) : Sh h' r := by
  unfold Sh at H ⊢
  rw [x.2.1, x.2.2.1]
  exact H
theorem Fr_row {Q : Nat → Nat → Bool} {h h' : Hp} (x : Fr Q h h') {a : Nat} (e : ∀ j, Q a j = false) : zI h' a = zI h a := funext fun j => x.1 a j (e j)
def QC (a j : Nat) : Bool := (decide (42 ≤ a) && decide (a ≤ 45)) || (decide (a = 38) && decide (j = 13))
theorem Fr_C {h h' : Hp} (x : FrC h h') : Fr QC h h' := ⟨fun a j e => x.1 a j (by unfold QC at e; simp only [Bool.or_eq_false_iff, Bool.and_eq_false_iff, decide_eq_false_iff_not] at e; omega) (by unfold QC at e; simp only [Bool.or_eq_false_iff, Bool.and_eq_false_iff, decide_eq_false_iff_not] at e; omega), x.2⟩
