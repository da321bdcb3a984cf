/-! ===== bestCorner ===== -/
abbrev St3 : Type := Option (Nat × Nat × Nat)
def stp (M : Ma) (c k : Nat) (st : St3) : St3 := if hb (aK M c) (nI k) then st else match st with
  | none => some (c, k, wv M c k 6)
  | some t => if wv M c k 6 < t.2.2 then some (c, k, wv M c k 6) else some t
def ib (M : Ma) (c : Nat) (st : St3) : Nat → St3
  | 0 => st
  | k + 1 => stp M c k (ib M c st k)
def ob (M : Ma) : Nat → St3
  | 0 => none
  | c + 1 => ib M c (ob M c) (aN M)
def e1C (st : St3) : Int32 := match st with | none => -1 | some t => nI t.1
def e2C (st : St3) : Int32 := match st with | none => -1 | some t => nI t.2.1
def e3C (st : St3) : Int32 := match st with | none => -1 | some t => nI t.2.2
def e1M (st : St3) : Int32 := match st with | none => -1 | some t => nI (9 * t.1 + t.2.1)
def e2M (st : St3) : Int32 := match st with | none => 0 | some t => nI t.2.2
def Ok3 (st : St3) : Prop := ∀ t, st = some t → t.1 < 6 ∧ t.2.1 < 9 ∧ t.2.2 ≤ 15
theorem Ok3_stp {M : Ma} {c k : Nat} {st : St3} (O : OkB M) (hc : c < 6) (hk : k < aN M) (h : Ok3 st) : Ok3 (stp M c k st) := by
  have n9 := O.1
  have w := wv_15 O hc hk 6 (by omega)
  unfold stp
  by_cases e : hb (aK M c) (nI k) = true
  · rw [if_pos e]; exact h
  · rw [if_neg e]
    cases st with
    | none => intro t ht; injection ht with ht; subst ht; exact ⟨hc, by show k < 9; omega, w⟩
    | some u =>
      dsimp only
      by_cases e2 : wv M c k 6 < u.2.2
      · rw [if_pos e2]; intro t ht; injection ht with ht; subst ht; exact ⟨hc, by show k < 9; omega, w⟩
      · rw [if_neg e2]; exact h
theorem Ok3_ib {M : Ma} {c : Nat} {st : St3} (O : OkB M) (hc : c < 6) (h : Ok3 st) : ∀ k, k ≤ aN M → Ok3 (ib M c st k)
  | 0, _ => h
  | k + 1, hk => Ok3_stp O hc (by omega) (Ok3_ib O hc h k (by omega))
theorem Ok3_ob {M : Ma} (O : OkB M) : ∀ c, c ≤ 6 → Ok3 (ob M c)
  | 0, _ => by intro t ht; cases ht
  | c + 1, hc => Ok3_ib O (by omega) (Ok3_ob O c (by omega)) _ (Nat.le_refl _)
section BC
variable {f b n : Nat} {r : Rs} {h0 : Hp} {M : Ma} {x2 : Int32}
/-- where the class stands between two corners -/
def BI (h0 h : Hp) (r : Rs) (M : Ma) : Prop := Fr QW h0 h ∧ ∃ M', JC h r M' ∧ Eqv M M'
theorem bc_in {c : Nat} {st : St3} {k61 : Nat → Int32 → Int32 → Int32 → Int32 → Int32 → Int32 → Hp → Option (Int32 × Hp)} (rp : Rp r) (O : OkB M) (hb6 : b < 6) (hc : c < 6) (e18 : ∀ c, c < 6 → zI h0 18 (6 * b + c) = aK M c) (en : zI h0 r.1 4 = nI (aN M)) (o3 : Ok3 st) (hf : 100 ≤ f) : ∀ (d k : Nat) (h : Hp), k ≤ aN M → aN M < k + d → BI h0 h r M → ∃ h', BI h0 h' r M ∧ l_X5_bestCorner_71 f k61 d 0 (nI b) x2 (e1C (ib M c st k)) (e2C (ib M c st k)) (e3C (ib M c st k)) (nI c) (nI k) h = k61 0 (nI b) x2 (e1C (ib M c st (aN M))) (e2C (ib M c st (aN M))) (e3C (ib M c st (aN M))) (nI (c + 1)) h' := by
  have n9 := O.1
  have hp := Rp_p rp
  intro d
  induction d with
  | zero => intro k h h1 h2; omega
  | succ d ih =>
    intro k h hk hkd B
    obtain ⟨F, M', J, E⟩ := id B
    have H := J.1
    have W := WF_QW F
    show ∃ h', _ ∧ b_X5_bestCorner_71 f k61 (l_X5_bestCorner_71 f k61 d) 0 (nI b) x2 _ _ _ (nI c) (nI k) h = _
    unfold b_X5_bestCorner_71 b_X5_bestCorner_127 b_X5_bestCorner_138 lt
    rw [gr_k (S_0 H) (R_0_3 H), Option.bind_some, gi_k (Ip_S H hp), Option.bind_some, W r.1 4 (by rcases hp with q | q <;> omega), en]
    by_cases ek : k = aN M
    · exact ⟨h, B, by rw [ek, if_pos ((nI_leI (by omega) (by omega)).mpr (Nat.le_refl _)), nI_p1]⟩
    · have hk' : k < aN M := by omega
      rw [if_neg (fun e9 => by have := (nI_leI (a := aN M) (b := k) (by omega) (by omega)).mp e9; omega), gr_k (S_0 H) (R_0_6 H), Option.bind_some, on_k (S_17 H), e_hasC H hb6 hc, bi_mk, W 18 _ (by omega), e18 c hc]
      simp only [nI_p1]
      have o := Ok3_ib O hc o3 k (by omega)
      have es : ib M c st (k + 1) = stp M c k (ib M c st k) := rfl
      cases eh : hb (aK M c) (nI k) with
      | true =>
        have next := ih (k + 1) h (by omega) (by omega) B
        have e9 : ib M c st (k + 1) = ib M c st k := by rw [es]; unfold stp; rw [if_pos eh]
        rw [e9] at next
        rw [b2T, if_neg c10]
        exact next
      | false =>
        obtain ⟨h1, M1, F1, J1, E1, e1⟩ := e_leftWorst (f := f) (c := c) (k := k) J (OkB_cong E O) hc (by rw [E.2.1]; exact hk') (by rw [E.2.2.2.2.2.2.2.1 c hc]; exact eh) hf
        rw [wv_cong E O hc hk' 6 (by omega)] at e1
        have E2 : Eqv M M1 := by
          obtain ⟨a1, a2, a3, a4, a5, a6, a7, a8, a9, a10⟩ := E
          obtain ⟨b1, b2', b3, b4, b5, b6, b7, b8, b9, b10⟩ := E1
          refine ⟨b1.trans a1, b2'.trans a2, b3.trans a3, b4.trans a4, b5.trans a5, b6.trans a6, b7.trans a7, fun m hm => (b8 m hm).trans (a8 m hm), ?_, ?_⟩
          · intro m hm j hj hh
            have g1 := a9 m hm j hj hh
            have g2 := b9 m hm j (by rw [a2]; exact hj) (by rw [a8 m hm]; exact hh)
            exact ⟨g2.1.trans g1.1, g2.2.trans g1.2⟩
          · intro i hi
            have g1 := a10 i hi
            have g2 := b10 i (by rw [a4]; exact hi)
            exact ⟨g2.1.trans g1.1, g2.2.trans g1.2⟩
        have B1 : BI h0 h1 r M := ⟨Fr_tr F F1, M1, J1, E2⟩
        have next := ih (k + 1) h1 (by omega) (by omega) B1
        have w15 := wv_15 O hc hk' 6 (by omega)
        rw [b2F, if_pos rfl, gr_k (S_0 H) (R_0_10 H), Option.bind_some, on_k (S_38 H), e1, bi_mk]
        cases eo : ib M c st k with
        | none =>
          have e9 : ib M c st (k + 1) = some (c, k, wv M c k 6) := by rw [es, eo]; unfold stp; rw [eh]; rfl
          rw [e9] at next
          rw [if_pos (show e3C none = -1 from rfl)]
          exact next
        | some t =>
          obtain ⟨t1, t2, t3⟩ := o t eo
          rw [if_neg (show ¬ e3C (some t) = -1 from nm1 (by omega))]
          by_cases c1 : wv M c k 6 < t.2.2
          · have e9 : ib M c st (k + 1) = some (c, k, wv M c k 6) := by rw [es, eo]; unfold stp; rw [eh]; show (if wv M c k 6 < t.2.2 then _ else _) = _; rw [if_pos c1]
            rw [e9] at next
            rw [if_neg (show ¬ e3C (some t) ≤ nI (wv M c k 6) from fun e => by have := (nI_leI (a := t.2.2) (b := wv M c k 6) (by omega) (by omega)).mp e; omega)]
            exact next
          · have e9 : ib M c st (k + 1) = some t := by rw [es, eo]; unfold stp; rw [eh]; show (if wv M c k 6 < t.2.2 then _ else _) = _; rw [if_neg c1]
            rw [e9] at next
            rw [if_pos (show e3C (some t) ≤ nI (wv M c k 6) from (nI_leI (by omega) (by omega)).mpr (by omega))]
            exact next
def bsV (st : St3) (x : Int32) : Int32 := if x = 0 then e1C st else if x = 1 then e2C st else e3C st
theorem bc_go (rp : Rp r) (O : OkB M) (hb6 : b < 6) (e18 : ∀ c, c < 6 → zI h0 18 (6 * b + c) = aK M c) (en : zI h0 r.1 4 = nI (aN M)) (hf : 100 ≤ f) : ∀ (d c : Nat) (h : Hp), c ≤ 6 → 6 < c + d → BI h0 h r M → ∃ h', BI h0 h' r M ∧ l_X5_bestCorner_61 f d 0 (nI b) x2 (e1C (ob M c)) (e2C (ob M c)) (e3C (ob M c)) (nI c) h = some (bsV (ob M 6) x2, h') := by
  have n9 := O.1
  intro d
  induction d with
  | zero => intro c h h1 h2; omega
  | succ d ih =>
    intro c h hc hcd B
    show ∃ h', _ ∧ b_X5_bestCorner_61 f (l_X5_bestCorner_61 f d) 0 (nI b) x2 _ _ _ (nI c) h = _
    unfold b_X5_bestCorner_61 b_X5_bestCorner_170
    by_cases e6 : c = 6
    · subst e6
      refine ⟨h, B, ?_⟩
      rw [if_pos (by decide)]
      unfold bsV
      by_cases x0 : x2 = 0
      · rw [if_neg (fun n9 => n9 x0), if_pos x0]
      · rw [if_pos x0, if_neg x0]
        by_cases x1 : x2 = 1
        · rw [if_neg (fun n9 => n9 x1), if_pos x1]
        · rw [if_pos x1, if_neg x1]
    · rw [if_neg (fun e9 => by have := (nI_leI (a := 6) (b := c) (by omega) (by omega)).mp e9; omega)]
      obtain ⟨h1, B1, e1⟩ := bc_in (f := f) (c := c) (x2 := x2) (st := ob M c) (k61 := l_X5_bestCorner_61 f d) rp O hb6 (by omega) e18 en (Ok3_ob O c hc) hf f 0 h (by omega) (by omega) B
      obtain ⟨h', B', e'⟩ := ih (c + 1) h1 (by omega) (by omega) B1
      exact ⟨h', B', Eq.trans e1 e'⟩
/-! reference -/
theorem bm_in {c : Nat} {st : St3} {k44 : Nat → Int32 → Int32 → Int32 → Int32 → Int32 → Hp → Option (Int32 × Hp)} (J0 : JM h0 r b M) (O : OkB M) (hc : c < 6) (hcb : c ≠ b) (hB : ∀ k, k < aN M → Bd2 (aX M (9 * c + k)) ∧ Bd2 (aY M (9 * c + k))) (o3 : Ok3 st) (hf : 100 ≤ f) : ∀ (d k : Nat) (h : Hp), k ≤ aN M → aN M < k + d → Fr QN h0 h → ∃ h', Fr QN h0 h' ∧ l_X6_bestCorner_54 f k44 d 58 (nI b) x2 (e1M (ib M c st k)) (e2M (ib M c st k)) (nI c) (nI k) h = k44 58 (nI b) x2 (e1M (ib M c st (aN M))) (e2M (ib M c st (aN M))) (nI (c + 1)) h' := by
  have n9 := O.1
  have hb6 := J0.2.1
  intro d
  induction d with
  | zero => intro k h h1 h2; omega
  | succ d ih =>
    intro k h hk hkd F
    have J := JM_Fr F J0
    have H := J.1
    obtain ⟨fw, fk, -, -, -, -⟩ := JM_f J
    show ∃ h', _ ∧ b_X6_bestCorner_54 f k44 (l_X6_bestCorner_54 f k44 d) 58 (nI b) x2 _ _ (nI c) (nI k) h = _
    unfold b_X6_bestCorner_54 b_X6_bestCorner_156 b_X6_bestCorner_111 b_X6_bestCorner_116 b_X6_bestCorner_135 b_X6_bestCorner_148 b_X6_bestCorner_150 lt
    rw [gi_k (S_58 H), Option.bind_some, J.2.2.2.1]
    by_cases ek : k = aN M
    · exact ⟨h, F, by rw [ek, if_pos ((nI_leI (by omega) (by omega)).mpr (Nat.le_refl _)), nI_p1]⟩
    · have hk' : k < aN M := by omega
      rw [if_neg (fun e9 => by have := (nI_leI (a := aN M) (b := k) (by omega) (by omega)).mp e9; omega), if_neg (fun e9 => hcb ((nI_eq (by omega) (by omega)).mp e9)), gr_k (S_58 H) (R_58_11 H), Option.bind_some, ix6', ai_nI (S_64 H) (by omega) (by decide), Option.bind_some, e_has, bi_mk, fk c]
      simp only [nI_p1, ix9']
      have o := Ok3_ib O hc o3 k (by omega)
      have es : ib M c st (k + 1) = stp M c k (ib M c st k) := rfl
      cases eh : hb (aK M c) (nI k) with
      | true =>
        have next := ih (k + 1) h (by omega) (by omega) F
        have e9 : ib M c st (k + 1) = ib M c st k := by rw [es]; unfold stp; rw [if_pos eh]
        rw [e9] at next
        rw [b2T, if_pos c10]
        exact next
      | false =>
        obtain ⟨h1, F1, e1⟩ := e_worstOf (f := f) (c := c) (k := k) J O hc hk' eh (hB k hk') hf
        have next := ih (k + 1) h1 (by omega) (by omega) (Fr_tr F F1)
        have w15 := wv_15 O hc hk' 6 (by omega)
        rw [b2F, if_neg (by simp), on_k (S_58 H), e1, bi_mk]
        cases eo : ib M c st k with
        | none =>
          have e9 : ib M c st (k + 1) = some (c, k, wv M c k 6) := by rw [es, eo]; unfold stp; rw [eh]; rfl
          rw [e9] at next
          rw [if_pos (show e1M none < 0 by decide), if_neg c10, if_neg c10]
          exact next
        | some t =>
          obtain ⟨t1, t2, t3⟩ := o t eo
          rw [if_neg (show ¬ e1M (some t) < 0 from nI_ge0 (by omega))]
          by_cases c1 : wv M c k 6 < t.2.2
          · have e9 : ib M c st (k + 1) = some (c, k, wv M c k 6) := by rw [es, eo]; unfold stp; rw [eh]; show (if wv M c k 6 < t.2.2 then _ else _) = _; rw [if_pos c1]
            rw [e9] at next
            rw [if_neg (show ¬ e2M (some t) ≤ nI (wv M c k 6) from fun e => by have := (nI_leI (a := t.2.2) (b := wv M c k 6) (by omega) (by omega)).mp e; omega), if_neg c10, if_neg c10]
            exact next
          · have e9 : ib M c st (k + 1) = some t := by rw [es, eo]; unfold stp; rw [eh]; show (if wv M c k 6 < t.2.2 then _ else _) = _; rw [if_neg c1]
            rw [e9] at next
            rw [if_pos (show e2M (some t) ≤ nI (wv M c k 6) from (nI_leI (by omega) (by omega)).mpr (by omega)), if_pos trivial, if_pos trivial]
            exact next
theorem d9_all : ∀ i, i < 54 → nI i / 9 = nI (i / 9) ∧ nI i - nI i / 9 * 9 = nI (i % 9) := by decide +kernel
theorem ib_own {c : Nat} {st : St3} (h : ∀ k, k < aN M → hb (aK M c) (nI k) = true) : ∀ k, k ≤ aN M → ib M c st k = st
  | 0, _ => rfl
  | k + 1, hk => by
    show stp M c k (ib M c st k) = st
    rw [ib_own h k (by omega)]
    unfold stp
    rw [if_pos (h k (by omega))]
theorem bm_go (J0 : JM h0 r b M) (O : OkB M) (own : ∀ k, k < aN M → hb (aK M b) (nI k) = true) (hB : ∀ c, c < 6 → ∀ k, k < aN M → Bd2 (aX M (9 * c + k)) ∧ Bd2 (aY M (9 * c + k))) (hx : x2 = 0 ∨ x2 = 1 ∨ x2 = 2) (hf : 100 ≤ f) : ∀ (d c : Nat) (h : Hp), c ≤ 6 → 6 < c + d → Fr QN h0 h → ∃ h', Fr QN h0 h' ∧ l_X6_bestCorner_44 f d 58 (nI b) x2 (e1M (ob M c)) (e2M (ob M c)) (nI c) h = some (bsV (ob M 6) x2, h') := by
  have n9 := O.1
  have hb6 := J0.2.1
  intro d
  induction d with
  | zero => intro c h h1 h2; omega
  | succ d ih =>
    intro c h hc hcd F
    have J := JM_Fr F J0
    have H := J.1
    show ∃ h', _ ∧ b_X6_bestCorner_44 f (l_X6_bestCorner_44 f d) 58 (nI b) x2 _ _ (nI c) h = _
    unfold b_X6_bestCorner_44 b_X6_bestCorner_195
    by_cases e6 : c = 6
    · subst e6
      refine ⟨h, F, ?_⟩
      rw [if_pos (by decide)]
      have o := Ok3_ob O 6 (Nat.le_refl 6)
      unfold bsV
      cases eo : ob M 6 with
      | none =>
        rw [if_neg (show ¬ (0 : Int32) ≤ e1M none by decide)]
        rcases hx with rfl | rfl | rfl <;> rfl
      | some t =>
        obtain ⟨t1, t2, t3⟩ := o t eo
        have dd := d9_all (9 * t.1 + t.2.1) (by omega)
        rw [if_pos (show (0 : Int32) ≤ e1M (some t) from nge (by omega))]
        rcases hx with rfl | rfl | rfl
        · rw [if_neg (fun n9 => n9 rfl), if_pos rfl]
          show q_nz (9 : Int32) (some (nI (9 * t.1 + t.2.1) / 9, h)) = some (nI t.1, h)
          rw [dd.1, q_nz, if_neg (by decide), show (9 * t.1 + t.2.1) / 9 = t.1 by omega]
        · rw [if_pos (by decide), if_neg (fun n9 => n9 rfl), if_neg (by decide), if_pos rfl]
          show q_nz (9 : Int32) (some (nI (9 * t.1 + t.2.1) - nI (9 * t.1 + t.2.1) / 9 * 9, h)) = some (nI t.2.1, h)
          rw [dd.2, q_nz, if_neg (by decide), show (9 * t.1 + t.2.1) % 9 = t.2.1 by omega]
        · rw [if_pos (by decide), if_pos (by decide), if_neg (by decide), if_neg (by decide)]; rfl
    · rw [if_neg (fun e9 => by have := (nI_leI (a := 6) (b := c) (by omega) (by omega)).mp e9; omega)]
      by_cases ecb : c = b
      · obtain ⟨g, hg⟩ : ∃ g, f = g + 1 := ⟨f - 1, by omega⟩
        have e9 : ob M (c + 1) = ob M c := by
          show ib M c (ob M c) (aN M) = _
          exact ib_own (by rw [ecb]; exact own) _ (Nat.le_refl _)
        obtain ⟨h', F', e'⟩ := ih (c + 1) h (by omega) (by omega) F
        rw [e9] at e'
        refine ⟨h', F', ?_⟩
        have key : ∀ g, l_X6_bestCorner_54 f (l_X6_bestCorner_44 f d) (g + 1) 58 (nI b) x2 (e1M (ob M c)) (e2M (ob M c)) (nI c) 0 h = l_X6_bestCorner_44 f d 58 (nI b) x2 (e1M (ob M c)) (e2M (ob M c)) (nI (c + 1)) h := fun g => by
          show b_X6_bestCorner_54 f (l_X6_bestCorner_44 f d) (l_X6_bestCorner_54 f (l_X6_bestCorner_44 f d) g) 58 (nI b) x2 _ _ (nI c) 0 h = _
          unfold b_X6_bestCorner_54 b_X6_bestCorner_156 lt
          rw [gi_k (S_58 H), Option.bind_some, J.2.2.2.1, nI_p1]
          by_cases c0 : nI (aN M) ≤ 0
          · rw [if_pos c0]
          · rw [if_neg c0, if_pos (by rw [ecb])]
        have := key g
        rw [← hg] at this
        exact Eq.trans this e'
      · obtain ⟨h1, F1, e1⟩ := bm_in (f := f) (c := c) (x2 := x2) (st := ob M c) (k44 := l_X6_bestCorner_44 f d) J O (by omega) ecb (hB c (by omega)) (Ok3_ob O c hc) hf f 0 h (by omega) (by omega) (Fr_rf _ _)
        obtain ⟨h', F', e'⟩ := ih (c + 1) h1 (by omega) (by omega) (Fr_tr F F1)
        exact ⟨h', F', Eq.trans e1 e'⟩
end BC
theorem hb_full : ∀ n, n < 10 → ∀ k, k < n → hb (nI (2 ^ n - 1)) (nI k) = true := by decide +kernel
theorem st_bestCorner {f : Nat} (hf : 100 ≤ f) (a x : Int32) : StpR (f_X5_bestCorner f 0 a x) (f_X6_bestCorner f 58 a x) := by
  intro h r R
  have H := R.1
  unfold f_X5_bestCorner f_X6_bestCorner b_X5_bestCorner_19
  simp only [e_bandC, e_bandM, bi_mk, b2_ne]
  cases ea : mkB 6 a with
  | false => exact ⟨_, h, h, r, rfl, by rw [S_58 H], rfl, R⟩
  | true =>
    obtain ⟨b, hb6, rfl⟩ := mkB_t (by decide) ea
    rw [if_pos rfl, rg_le (k := 2) (c := 2) rfl (by omega)]
    cases ex : mkB 3 x with
    | false =>
      rw [if_neg (by decide)]
      exact ⟨_, h, h, r, rfl, by rw [S_58 H], by rw [if_pos rfl, e_inK (k := 2) (by decide) (by omega), bi_mk, ex]; rfl, R⟩
    | true =>
      have hx : x = 0 ∨ x = 1 ∨ x = 2 := by
        obtain ⟨j, hj, rfl⟩ := mkB_t (by decide) ex
        rcases (show j = 0 ∨ j = 1 ∨ j = 2 by omega) with rfl | rfl | rfl
        · exact Or.inl rfl
        · exact Or.inr (Or.inl rfl)
        · exact Or.inr (Or.inr rfl)
      rw [if_pos rfl, gr_k (S_0 H) (R_0_10 H), Option.bind_some, gr_k (S_0 H) (R_0_3 H), Option.bind_some, gr_k (S_0 H) (R_0_6 H), Option.bind_some, on_k (S_38 H)]
      obtain ⟨h', M', e, W, R', J, E, C, G⟩ := e_weigh (f := f) R hb6 hf
      have H' := R'.1
      obtain ⟨-, rp', -, -, n', w', l', ga', gb', gc', il', st', -⟩ := id R'
      have OB := OkB_mo il' st' (b := b) hb6
      have C1 : zI h' 38 12 = nI (ln M') := C.1
      have Cl : ln M' = ln (mo h' b) := ln_cong E (OkB_M OB)
      have l15 := ln_15 (OkB_M OB)
      rw [e, Option.bind_some, gr_k (S_0 H') (R_0_10 H'), Option.bind_some, gi_k (S_38 H'), Option.bind_some, C1, Cl]
      by_cases c0 : ln (mo h' b) = 0
      · have n0 : nI (ln (mo h' b)) = 0 := by rw [c0]; rfl
        obtain ⟨h2, F2, e2⟩ := e_mayMany (f := f) (JM_of H' hb6 G) hf
        refine ⟨-1, h', h2, rW r, by rw [if_neg (fun n9 => n9 n0)], by rw [S_58 H'], ?_, Rel_QN R' F2⟩
        have lq : nI (fl (mo h' b) 64).length = 0 := n0
        rw [if_pos rfl, e_inK (k := 2) (by decide) (by omega), bi_mk, ex, b2T, if_pos c10, on_k (S_58 H'), e2, bi_mk, lq, if_neg (fun n9 => n9 rfl)]
      · rw [if_pos (n0_of (by omega) (by omega))]
        have ec := st'.2.2.2.1.choose_spec.2
        have hc := st'.2.2.2.1.choose_spec.1
        have an := (mo_of il' (b := b) ec hc).1
        obtain ⟨h3, B3, e3⟩ := bc_go (f := f) (b := b) (x2 := x) (h0 := h') (r := rW r) (M := mo h' b) rp' OB hb6 (fun c hc => st'.1.1 _ (by omega)) (by rw [an]; exact il'.2.1.1) hf f 0 h' (by omega) (by omega) ⟨Fr_rf _ _, M', J, E⟩
        have W3 := WF_QW B3.1
        have R3 : Rel h3 (rW r) := Rel_Sm R' (Fr_Sh B3.1 H') rfl rfl (WF_Sm W3)
        have H3 := R3.1
        have em3 : mo h3 b = mo h' b := WF_mo W3 b
        obtain ⟨-, -, -, -, n3, w3, l3, ga3, gb3, gc3, il3, st3, -⟩ := id R3
        have JM3 := JM_of H3 hb6 (Gd_of il3 st3 hb6)
        have OB3 := OkB_mo il3 st3 (b := b) hb6
        have an3 := (mo_of il3 (b := b) (st3.2.2.2.1.choose_spec.2) (st3.2.2.2.1.choose_spec.1)).1
        have n39 := il3.1.1
        obtain ⟨h4, F4, e4⟩ := e_mayMany (f := f) JM3 hf
        have JM4 := JM_Fr F4 JM3
        obtain ⟨h5, F5, e5⟩ := bm_go (f := f) (x2 := x) JM4 OB3 (fun k hk => by
          show hb (zI h3 64 (6 * b + b)) (nI k) = true
          have := st3.2.2.1 b hb6
          rw [show 6 * b + b = 7 * b by omega, this]
          exact hb_full n3 (by omega) k (by rw [an3] at hk; exact hk)) (fun c hc k hk => Bd_all il3 hc (by rw [an3] at hk; exact hk)) hx hf f 0 h4 (by omega) (by omega) (Fr_rf _ _)
        refine ⟨bsV (ob (mo h3 b) 6) x, h3, h5, rW r, ?_, by rw [S_58 H3], ?_, Rel_QN R3 (Fr_tr F4 F5)⟩
        · rw [em3]; exact e3
        · have l3 : ln (mo h3 b) = ln (mo h' b) := by rw [em3]
          have lq : nI (fl (mo h3 b) 64).length = nI (ln (mo h' b)) := by rw [← l3]; rfl
          rw [if_pos rfl, e_inK (k := 2) (by decide) (by omega), bi_mk, ex, b2T, if_pos c10, on_k (S_58 H3), e4, bi_mk, lq, if_pos (n0_of (by omega) (by omega))]
          exact e5
