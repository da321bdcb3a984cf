/-! ===== class: isFelled, mayLie ===== -/
section J4
variable {f n : Nat} {r : Rs} {h : Hp} {w : Int32}
def allF (p : Nat → Bool) (n : Nat) : Bool := (List.range n).all p
theorem allF_t {p : Nat → Bool} {n : Nat} (e : ∀ k, k < n → p k = true) : allF p n = true := List.all_eq_true.mpr (fun k hk => e k (List.mem_range.mp hk))
theorem allF_f {p : Nat → Bool} {n k : Nat} (hk : k < n) (e : p k = false) : allF p n = false := by
  cases q : allF p n with
  | false => rfl
  | true =>
    have := List.all_eq_true.mp q k (List.mem_range.mpr hk)
    rw [e] at this
    cases this
theorem allF_of {p : Nat → Bool} {n k : Nat} (q : allF p n = true) (hk : k < n) : p k = true := List.all_eq_true.mp q k (List.mem_range.mpr hk)
theorem allF_congr {p q : Nat → Bool} {n : Nat} (e : ∀ k, k < n → p k = q k) : allF p n = allF q n := by
  cases hq : allF q n with
  | true => exact allF_t (fun k hk => by rw [e k hk]; exact allF_of hq hk)
  | false =>
    cases hp : allF p n with
    | false => rfl
    | true => rw [allF_t (fun k hk => by rw [← e k hk]; exact allF_of hp hk)] at hq; cases hq
def oneC (B : Bx) : Bool := decide (B.1 = B.2.1) && decide (B.2.2.1 = B.2.2.2)
theorem e_onePlace {k : Nat} (H : Sh h r) (hk : k < 9) : f_X1_isOnePlace f 38 (nI k) h = some (b2 (hb (zI h 38 13) (nI k) && oneC (CB h k)), h) := by
  unfold f_X1_isOnePlace b_X1_isOnePlace_45 b_X1_isOnePlace_46 oneC CB
  rw [gi_k (S_38 H), Option.bind_some, e_isIn, bi_mk]
  cases e0 : hb (zI h 38 13) (nI k) with
  | false => rfl
  | true =>
    simp only [b2T, c10, if_false, gr_k (S_38 H) (R_38_3 H), gr_k (S_38 H) (R_38_4 H), gr_k (S_38 H) (R_38_5 H), gr_k (S_38 H) (R_38_6 H), Option.bind_some, ai_nI (S_42 H) hk (by decide), ai_nI (S_43 H) hk (by decide), ai_nI (S_44 H) hk (by decide), ai_nI (S_45 H) hk (by decide)]
    by_cases c1 : zI h 42 k = zI h 43 k
    · by_cases c2 : zI h 44 k = zI h 45 k
      · simp [c1, c2, q_bo, b2]
      · simp [c1, c2, q_bo, b2]
    · simp [c1, q_bo, b2]
/-- the judge's standing, whose spades are heard -/
def Jq (r : Rs) : Prop := r.2.2.2.2 = 17 ∨ r.2.2.2.2 = 53
theorem Jq_S (H : Sh h r) (jq : Jq r) : zS h r.2.2.2.2 = (5, 0) := by rcases jq with e | e <;> rw [e]; exact S_17 H; exact S_53 H
theorem Jq_R1 (H : Sh h r) (jq : Jq r) : zR h r.2.2.2.2 1 = some (r.2.2.2.2 + 2) := by rcases jq with e | e <;> rw [e]; exact R_17_1 H; exact R_53_1 H
theorem Jq_R2 (H : Sh h r) (jq : Jq r) : zR h r.2.2.2.2 2 = some (r.2.2.2.2 + 3) := by rcases jq with e | e <;> rw [e]; exact R_17_2 H; exact R_53_2 H
theorem Jq_S1 (H : Sh h r) (jq : Jq r) : zS h (r.2.2.2.2 + 2) = (9, 20) := by rcases jq with e | e <;> rw [e]; exact S_19 H; exact S_55 H
theorem Jq_S2 (H : Sh h r) (jq : Jq r) : zS h (r.2.2.2.2 + 3) = (9, 20) := by rcases jq with e | e <;> rw [e]; exact S_20 H; exact S_56 H
def felP (sx sy : Nat → Int32) (x y : Int32) (i : Nat) : Bool := decide (sx i = x) && decide (sy i = y)
theorem fel_go {c : Nat} {x y : Int32} (H : Sh h r) (jq : Jq r) (hc : zI h 38 11 = nI c) (hc20 : c ≤ 20) : ∀ (d i : Nat), i ≤ c → c < i + d → (∀ j, j < i → felP (zI h (r.2.2.2.2 + 2)) (zI h (r.2.2.2.2 + 3)) x y j = false) → l_X1_isFelled_124 f d 38 x y (nI i) h = some (b2 (anyF (felP (zI h (r.2.2.2.2 + 2)) (zI h (r.2.2.2.2 + 3)) x y) c), h) := by
  intro d
  induction d with
  | zero => intro k h1 h2; omega
  | succ d ih =>
    intro i hi hid hal
    show b_X1_isFelled_124 f (l_X1_isFelled_124 f d) 38 x y (nI i) h = _
    unfold b_X1_isFelled_124 b_X1_isFelled_160 lt
    rw [gi_k (S_38 H), Option.bind_some, hc]
    by_cases e : i = c
    · subst e
      rw [if_pos ((nI_leI (by omega) (by omega)).mpr (Nat.le_refl _)), anyF_f hal]
      rfl
    · have hi20 : i < 20 := by omega
      rw [if_neg (fun e => by have := (nI_leI (a := c) (b := i) (by omega) (by omega)).mp e; omega)]
      simp only [gr_k (S_38 H) (R_38_10 H), Option.bind_some, gr_k (Jq_S H jq) (Jq_R1 H jq), gr_k (Jq_S H jq) (Jq_R2 H jq), ai_nI (Jq_S1 H jq) hi20 (by decide), ai_nI (Jq_S2 H jq) hi20 (by decide), nI_p1]
      have next : felP (zI h (r.2.2.2.2 + 2)) (zI h (r.2.2.2.2 + 3)) x y i = false → l_X1_isFelled_124 f d 38 x y (nI (i + 1)) h = some (b2 (anyF (felP (zI h (r.2.2.2.2 + 2)) (zI h (r.2.2.2.2 + 3)) x y) c), h) := fun e9 =>
        ih (i + 1) (by omega) (by omega) (fun j hj => by
          by_cases ej : j = i
          · rw [ej]; exact e9
          · exact hal j (by omega))
      by_cases c1 : zI h (r.2.2.2.2 + 2) i = x
      · rw [if_neg (fun n9 => n9 c1)]
        by_cases c2 : zI h (r.2.2.2.2 + 3) i = y
        · rw [if_neg (fun n9 => n9 c2), anyF_t (k := i) (by omega) (by simp [felP, c1, c2])]
          rfl
        · rw [if_pos c2]
          exact next (by simp [felP, c2])
      · rw [if_pos c1]
        exact next (by simp [felP, c1])
def oneK (h : Hp) (k : Nat) : Bool := hb (zI h 38 13) (nI k) && oneC (CB h k)
def felB (h : Hp) (sx sy : Nat → Int32) (c a b d : Nat) : Bool := oneK h a && oneK h b && oneK h d && anyF (felP sx sy (zI h 42 a + zI h 42 b - zI h 42 d) (zI h 44 a + zI h 44 b - zI h 44 d)) c
theorem e_felled {c ga gb gc : Nat} (H : Sh h r) (jp : Jp r) (jq : Jq r) (hc : zI h 38 11 = nI c) (hc20 : c ≤ 20) (ea : zI h r.2.2.2.1 8 = nI ga) (eb : zI h r.2.2.2.1 9 = nI gb) (ec : zI h r.2.2.2.1 10 = nI gc) (ha : ga < 9) (hb9 : gb < 9) (hc9 : gc < 9) (hf : 30 ≤ f) : f_X1_isFelled f 38 h = some (b2 (felB h (zI h (r.2.2.2.2 + 2)) (zI h (r.2.2.2.2 + 3)) c ga gb gc), h) := by
  unfold f_X1_isFelled b_X1_isFelled_42 felB oneK lt
  rw [gr_k (S_38 H) (R_38_9 H), Option.bind_some, gi_k (Ip_S H jp), Option.bind_some, ea, on_k (S_38 H), e_onePlace H ha, bi_mk]
  cases e1 : (hb (zI h 38 13) (nI ga) && oneC (CB h ga)) with
  | false => rfl
  | true =>
    rw [b2T, if_neg c10, gr_k (S_38 H) (R_38_9 H), Option.bind_some, gi_k (Ip_S H jp), Option.bind_some, eb, on_k (S_38 H), e_onePlace H hb9, bi_mk]
    cases e2 : (hb (zI h 38 13) (nI gb) && oneC (CB h gb)) with
    | false => rfl
    | true =>
      rw [b2T, if_neg c10, gr_k (S_38 H) (R_38_9 H), Option.bind_some, gi_k (Ip_S H jp), Option.bind_some, ec, on_k (S_38 H), e_onePlace H hc9, bi_mk]
      cases e3 : (hb (zI h 38 13) (nI gc) && oneC (CB h gc)) with
      | false => rfl
      | true =>
        rw [b2T, if_pos c10]
        simp only [gr_k (S_38 H) (R_38_3 H), gr_k (S_38 H) (R_38_5 H), gr_k (S_38 H) (R_38_9 H), Option.bind_some, gi_k (Ip_S H jp), ea, eb, ec, ai_nI (S_42 H) ha (by decide), ai_nI (S_42 H) hb9 (by decide), ai_nI (S_42 H) hc9 (by decide), ai_nI (S_44 H) ha (by decide), ai_nI (S_44 H) hb9 (by decide), ai_nI (S_44 H) hc9 (by decide)]
        rw [show (0 : Int32) = nI 0 from rfl, fel_go H jq hc hc20 f 0 (by omega) (by omega) (fun j hj => by omega)]
        rfl
/-! mayLie: first the loop over the times -/
theorem nI_le1 {t : Nat} (h : t ≤ 1000) : (nI t ≤ 1) ↔ t ≤ 1 := nI_leI (a := t) (b := 1) (by omega) (by omega)
theorem nI_eq1 {t : Nat} (h : t ≤ 1000) : (nI t = 1) ↔ t = 1 := nI_eq (a := t) (b := 1) (by omega) (by omega)
def tOf (h : Hp) (w : Int32) (s n m : Nat) : Nat := if s.testBit m then fb_ct (offP h w m) n else 0
def stdy (h : Hp) (w : Int32) (s n : Nat) : Nat → Nat
  | 0 => s
  | m + 1 => if tOf h w s n m = 1 then stdy h w s n m &&& (63 ^^^ 2 ^ m) else stdy h w s n m
theorem clr_all : ∀ s, s < 64 → ∀ m, m < 6 → nI s &&& (((1 : Int32) <<< (nI m &&& 31)) ^^^ (-1)) = nI (s &&& (63 ^^^ 2 ^ m)) ∧ s &&& (63 ^^^ 2 ^ m) < 64 := by decide +kernel
theorem stdy_lt (h : Hp) (w : Int32) {s n : Nat} (hs : s < 64) : ∀ m, m ≤ 6 → stdy h w s n m < 64
  | 0, _ => hs
  | m + 1, hm => by
    unfold stdy
    have := stdy_lt h w (n := n) hs m (by omega)
    split
    · exact (clr_all _ this m (by omega)).2
    · exact this
/-- the rest of mayLie, behind the times -/
def restC (f : Nat) (s st : Int32) (h : Hp) : Option (Int32 × Hp) := b_X1_mayLie_14 f (fun _ _ _ _ _ => none) 38 s st 6 h
theorem ml_go {s : Nat} (H : Sh h r) (jp : Jp r) (hw : zI h r.2.2.2.1 7 = w) (hmk : zI h r.2.2.2.1 4 = nI n) (hn : n ≤ 9) (hs : s < 64) (hf : 10 ≤ f) : ∀ (d m : Nat), m ≤ 6 → 6 < m + d → (∀ j, j < m → tOf h w s n j ≤ 1) → l_X1_mayLie_14 f d 38 (nI s) (nI (stdy h w s n m)) (nI m) h = (if allF (fun j => decide (tOf h w s n j ≤ 1)) 6 = true then restC f (nI s) (nI (stdy h w s n 6)) h else some (0, h)) := by
  intro d
  induction d with
  | zero => intro k h1 h2; omega
  | succ d ih =>
    intro m hm hmd hal
    show b_X1_mayLie_14 f (l_X1_mayLie_14 f d) 38 (nI s) _ (nI m) h = _
    by_cases c : m = 6
    · subst c
      rw [if_pos (allF_t (fun j hj => decide_eq_true (hal j hj)))]
      unfold restC b_X1_mayLie_14
      rw [if_pos (by decide), if_pos (by decide)]
    · have hm6 : m < 6 := by omega
      unfold b_X1_mayLie_14
      rw [if_neg (fun e => by have := (nI_leI (a := 6) (b := m) (by omega) (by omega)).mp e; omega), e_isIn, bi_mk, hb_all s (by omega) m (by omega)]
      have key : b_X1_mayLie_37 f (l_X1_mayLie_14 f d) 38 (nI s) (nI (stdy h w s n m)) (nI m) (nI (tOf h w s n m)) h = (if allF (fun j => decide (tOf h w s n j ≤ 1)) 6 = true then restC f (nI s) (nI (stdy h w s n 6)) h else some (0, h)) := by
        have t9 : tOf h w s n m ≤ 9 := by
          unfold tOf
          split
          · exact Nat.le_trans (fb_ct_le _ _) hn
          · omega
        unfold b_X1_mayLie_37 b_X1_mayLie_61 lt
        by_cases c1 : tOf h w s n m ≤ 1
        · rw [if_pos ((nI_le1 (by omega)).mpr c1)]
          have hal' : ∀ j, j < m + 1 → tOf h w s n j ≤ 1 := fun j hj => by
            by_cases ej : j = m
            · rw [ej]; exact c1
            · exact hal j (by omega)
          rw [nI_p1]
          by_cases c2 : tOf h w s n m = 1
          · rw [if_neg (fun n9 => n9 ((nI_eq1 (by omega)).mpr c2)), (clr_all _ (stdy_lt h w hs m (by omega)) m hm6).1]
            have e9 : stdy h w s n (m + 1) = stdy h w s n m &&& (63 ^^^ 2 ^ m) := by rw [stdy, if_pos c2]
            rw [← e9]
            exact ih (m + 1) (by omega) (by omega) hal'
          · rw [if_pos (fun e => c2 ((nI_eq1 (by omega)).mp e))]
            have e9 : stdy h w s n (m + 1) = stdy h w s n m := by rw [stdy, if_neg c2]
            rw [← e9]
            exact ih (m + 1) (by omega) (by omega) hal'
        · rw [if_neg (fun e => c1 ((nI_le1 (by omega)).mp e)), if_neg (by rw [allF_f hm6 (decide_eq_false c1)]; decide)]
          rfl
      cases e1 : s.testBit m with
      | false =>
        rw [b2F, if_pos rfl]
        have : tOf h w s n m = 0 := by unfold tOf; rw [if_neg (by rw [e1]; decide)]
        rw [this] at key
        exact key
      | true =>
        rw [b2T, if_neg c10, on_k (S_38 H), e_timesOff H jp hw hmk hn hm6 hf, bi_mk]
        have : tOf h w s n m = fb_ct (offP h w m) n := by unfold tOf; rw [if_pos e1]
        rw [this] at key
        exact key
/-- the loop over the steady ones -/
theorem st_go {t : Nat} (H : Sh h r) (jp : Jp r) (hw : zI h r.2.2.2.1 7 = w) (hmk : zI h r.2.2.2.1 4 = nI n) (hn : n ≤ 9) (ht : t < 64) (hf : 10 ≤ f) (fb : Bool) (hfel : f_X1_isFelled f 38 h = some (b2 fb, h)) : ∀ (d m : Nat), m ≤ 6 → 6 < m + d → (∀ j, j < m → t.testBit j = true → anyF (couP h w j) n = true) → l_X1_mayLie_83 f d 38 (nI t) (nI m) h = some (b2 (allF (fun j => !t.testBit j || anyF (couP h w j) n) 6 && !fb), h) := by
  intro d
  induction d with
  | zero => intro k h1 h2; omega
  | succ d ih =>
    intro m hm hmd hal
    show b_X1_mayLie_83 f (l_X1_mayLie_83 f d) 38 (nI t) (nI m) h = _
    unfold b_X1_mayLie_83 b_X1_mayLie_107 b_X1_mayLie_125 lt
    by_cases c : m = 6
    · subst c
      rw [if_pos (by decide), on_k (S_38 H), hfel, bi_mk, allF_t (p := fun j => !t.testBit j || anyF (couP h w j) n) (fun j hj => by
        cases q : t.testBit j with
        | false => rfl
        | true => simp [hal j hj q])]
      cases fb <;> rfl
    · have hm6 : m < 6 := by omega
      rw [if_neg (fun e => by have := (nI_leI (a := 6) (b := m) (by omega) (by omega)).mp e; omega), e_isIn, bi_mk, hb_all t (by omega) m (by omega), nI_p1]
      cases e1 : t.testBit m with
      | false =>
        rw [b2F, if_pos rfl]
        refine ih (m + 1) (by omega) (by omega) (fun j hj => ?_)
        by_cases ej : j = m
        · subst ej; intro q; rw [e1] at q; cases q
        · exact hal j (by omega)
      | true =>
        rw [b2T, if_neg c10, on_k (S_38 H), e_couldBe H jp hw hmk hn hm6 hf, bi_mk]
        cases e2 : anyF (couP h w m) n with
        | true =>
          rw [b2T, if_pos c10]
          refine ih (m + 1) (by omega) (by omega) (fun j hj => ?_)
          by_cases ej : j = m
          · subst ej; intro _; exact e2
          · exact hal j (by omega)
        | false =>
          rw [b2F, if_neg (by simp)]
          rw [allF_f (p := fun j => !t.testBit j || anyF (couP h w j) n) hm6 (by simp [e1, e2])]
          rfl
end J4
