/-! ===== class: what is read off the boxes ===== -/
def apC (w x y : Int32) (B : Bx) : Bool := decide (x + w < B.1) || decide (B.2.1 < x - w) || decide (y + w < B.2.2.1) || !decide (y - w ≤ B.2.2.2)
def wiC (w x y : Int32) (B : Bx) : Bool := !decide (B.1 < x - w) && !decide (x + w < B.2.1) && !decide (B.2.2.1 < y - w) && !decide (y + w < B.2.2.2)
section J3
variable {f n : Nat} {r : Rs} {h : Hp} {w : Int32}
theorem e_noPlace {m k : Nat} (H : Sh h r) (jp : Jp r) (hw : zI h r.2.2.2.1 7 = w) (hm : m < 6) (hk : k < 9) : f_X1_hasNoPlaceLeft f 38 (nI m) (nI k) h = some (b2 (apC w (zI h 40 (9 * m + k)) (zI h 41 (9 * m + k)) (CB h k)), h) := by
  have i54 : 9 * m + k < 54 := by omega
  unfold f_X1_hasNoPlaceLeft b_X1_hasNoPlaceLeft_99 b_X1_hasNoPlaceLeft_104 apC CB
  simp only [ix9, gr_k (S_38 H) (R_38_1 H), gr_k (S_38 H) (R_38_2 H), gr_k (S_38 H) (R_38_3 H), gr_k (S_38 H) (R_38_4 H), gr_k (S_38 H) (R_38_5 H), gr_k (S_38 H) (R_38_6 H), gr_k (S_38 H) (R_38_9 H), Option.bind_some, ai_nI (S_40 H) i54 (by decide), ai_nI (S_41 H) i54 (by decide), ai_nI (S_42 H) hk (by decide), ai_nI (S_43 H) hk (by decide), ai_nI (S_44 H) hk (by decide), ai_nI (S_45 H) hk (by decide), gi_k (Ip_S H jp), hw]
  by_cases c1 : zI h 40 (9 * m + k) + w < zI h 42 k
  · simp [c1, q_bo, b2]
  · by_cases c2 : zI h 43 k < zI h 40 (9 * m + k) - w
    · simp [c1, c2, q_bo, b2]
    · by_cases c3 : zI h 41 (9 * m + k) + w < zI h 44 k
      · simp [c1, c2, c3, q_bo, b2]
      · by_cases c4 : zI h 41 (9 * m + k) - w ≤ zI h 45 k
        · simp [c1, c2, c3, c4, q_bo, b2]
        · simp [c1, c2, c3, c4, q_bo, b2]
theorem e_allPlace {m k : Nat} (H : Sh h r) (jp : Jp r) (hw : zI h r.2.2.2.1 7 = w) (hm : m < 6) (hk : k < 9) : f_X1_hasAllPlacesLeft f 38 (nI m) (nI k) h = some (b2 (wiC w (zI h 40 (9 * m + k)) (zI h 41 (9 * m + k)) (CB h k)), h) := by
  have i54 : 9 * m + k < 54 := by omega
  unfold f_X1_hasAllPlacesLeft b_X1_hasAllPlacesLeft_103 b_X1_hasAllPlacesLeft_104 wiC CB
  simp only [ix9, gr_k (S_38 H) (R_38_1 H), gr_k (S_38 H) (R_38_2 H), gr_k (S_38 H) (R_38_3 H), gr_k (S_38 H) (R_38_4 H), gr_k (S_38 H) (R_38_5 H), gr_k (S_38 H) (R_38_6 H), gr_k (S_38 H) (R_38_9 H), Option.bind_some, ai_nI (S_40 H) i54 (by decide), ai_nI (S_41 H) i54 (by decide), ai_nI (S_42 H) hk (by decide), ai_nI (S_43 H) hk (by decide), ai_nI (S_44 H) hk (by decide), ai_nI (S_45 H) hk (by decide), gi_k (Ip_S H jp), hw]
  by_cases c1 : zI h 42 k < zI h 40 (9 * m + k) - w
  · simp [c1, q_bo, b2]
  · by_cases c2 : zI h 40 (9 * m + k) + w < zI h 43 k
    · simp [c1, c2, q_bo, b2]
    · by_cases c3 : zI h 44 k < zI h 41 (9 * m + k) - w
      · simp [c1, c2, c3, q_bo, b2]
      · by_cases c4 : zI h 41 (9 * m + k) + w < zI h 45 k
        · simp [c1, c2, c3, c4, q_bo, b2]
        · simp [c1, c2, c3, c4, q_bo, b2]
/-- how often map m is off -/
def offP (h : Hp) (w : Int32) (m k : Nat) : Bool := hb (zI h 39 m) (nI k) && apC w (zI h 40 (9 * m + k)) (zI h 41 (9 * m + k)) (CB h k)
theorem off_go {m : Nat} (H : Sh h r) (jp : Jp r) (hw : zI h r.2.2.2.1 7 = w) (hmk : zI h r.2.2.2.1 4 = nI n) (hn : n ≤ 9) (hm : m < 6) : ∀ (d k : Nat), k ≤ n → n < k + d → l_X1_timesOff_4 f d 38 (nI m) (nI (fb_ct (offP h w m) k)) (nI k) h = some (nI (fb_ct (offP h w m) n), h) := by
  intro d
  induction d with
  | zero => intro k h1 h2; omega
  | succ d ih =>
    intro k hk hkd
    show b_X1_timesOff_4 f (l_X1_timesOff_4 f d) 38 (nI m) _ (nI k) h = _
    unfold b_X1_timesOff_4 b_X1_timesOff_40 lt
    rw [gr_k (S_38 H) (R_38_9 H), Option.bind_some, gi_k (Ip_S H jp), Option.bind_some, hmk]
    by_cases c : k = n
    · subst c
      rw [if_pos ((nI_leI (by omega) (by omega)).mpr (Nat.le_refl _))]
    · have hk9 : k < 9 := by omega
      rw [if_neg (fun e => by have := (nI_leI (a := n) (b := k) (by omega) (by omega)).mp e; omega)]
      rw [gr_k (S_38 H) (R_38_0 H), Option.bind_some, ai_nI (S_39 H) hm (by decide), Option.bind_some, e_isIn, bi_mk, nI_p1]
      cases e1 : hb (zI h 39 m) (nI k) with
      | false =>
        have e9 : fb_ct (offP h w m) (k + 1) = fb_ct (offP h w m) k := by rw [fb_ct_succ]; simp [offP, e1]
        rw [b2F, if_pos rfl, ← e9]
        exact ih (k + 1) (by omega) (by omega)
      | true =>
        rw [b2T, if_neg c10, on_k (S_38 H), e_noPlace H jp hw hm hk9, bi_mk]
        cases e2 : apC w (zI h 40 (9 * m + k)) (zI h 41 (9 * m + k)) (CB h k) with
        | false =>
          have e9 : fb_ct (offP h w m) (k + 1) = fb_ct (offP h w m) k := by rw [fb_ct_succ]; simp [offP, e1, e2]
          rw [b2F, if_pos rfl, ← e9]
          exact ih (k + 1) (by omega) (by omega)
        | true =>
          have e9 : fb_ct (offP h w m) (k + 1) = fb_ct (offP h w m) k + 1 := by rw [fb_ct_succ]; simp [offP, e1, e2]
          rw [b2T, if_neg c10, nI_p1, ← e9]
          exact ih (k + 1) (by omega) (by omega)
theorem e_timesOff {m : Nat} (H : Sh h r) (jp : Jp r) (hw : zI h r.2.2.2.1 7 = w) (hmk : zI h r.2.2.2.1 4 = nI n) (hn : n ≤ 9) (hm : m < 6) (hf : 10 ≤ f) : f_X1_timesOff f 38 (nI m) h = some (nI (fb_ct (offP h w m) n), h) := off_go H jp hw hmk hn hm f 0 (by omega) (by omega)
/-- could map m be off: a mark that isn't known, or not all left -/
def anyF (p : Nat → Bool) (n : Nat) : Bool := (List.range n).any p
theorem anyF_t {p : Nat → Bool} {n k : Nat} (hk : k < n) (e : p k = true) : anyF p n = true := List.any_eq_true.mpr ⟨k, List.mem_range.mpr hk, e⟩
theorem anyF_f {p : Nat → Bool} {n : Nat} (e : ∀ k, k < n → p k = false) : anyF p n = false := by
  rw [anyF, List.any_eq_false]
  intro k hk
  rw [e k (List.mem_range.mp hk)]
  decide
theorem anyF_congr {p q : Nat → Bool} {n : Nat} (e : ∀ k, k < n → p k = q k) : anyF p n = anyF q n := by
  cases hq : anyF q n with
  | true =>
    obtain ⟨k, hk, ek⟩ := List.any_eq_true.mp hq
    exact anyF_t (List.mem_range.mp hk) (by rw [e k (List.mem_range.mp hk)]; exact ek)
  | false =>
    apply anyF_f
    intro k hk
    rw [e k hk]
    cases ek : q k with
    | false => rfl
    | true => rw [anyF_t hk ek] at hq; cases hq
def couP (h : Hp) (w : Int32) (m k : Nat) : Bool := !hb (zI h 39 m) (nI k) || !wiC w (zI h 40 (9 * m + k)) (zI h 41 (9 * m + k)) (CB h k)
theorem cou_go {m : Nat} (H : Sh h r) (jp : Jp r) (hw : zI h r.2.2.2.1 7 = w) (hmk : zI h r.2.2.2.1 4 = nI n) (hn : n ≤ 9) (hm : m < 6) : ∀ (d k : Nat), k ≤ n → n < k + d → (∀ j, j < k → couP h w m j = false) → l_X1_couldBeOff_2 f d 38 (nI m) (nI k) h = some (b2 (anyF (couP h w m) n), h) := by
  intro d
  induction d with
  | zero => intro k h1 h2; omega
  | succ d ih =>
    intro k hk hkd hal
    show b_X1_couldBeOff_2 f (l_X1_couldBeOff_2 f d) 38 (nI m) (nI k) h = _
    unfold b_X1_couldBeOff_2 b_X1_couldBeOff_35 lt
    rw [gr_k (S_38 H) (R_38_9 H), Option.bind_some, gi_k (Ip_S H jp), Option.bind_some, hmk]
    by_cases c : k = n
    · subst c
      rw [if_pos ((nI_leI (by omega) (by omega)).mpr (Nat.le_refl _)), anyF_f hal]
      rfl
    · have hk9 : k < 9 := by omega
      rw [if_neg (fun e => by have := (nI_leI (a := n) (b := k) (by omega) (by omega)).mp e; omega)]
      rw [gr_k (S_38 H) (R_38_0 H), Option.bind_some, ai_nI (S_39 H) hm (by decide), Option.bind_some, e_isIn, bi_mk, nI_p1]
      cases e1 : hb (zI h 39 m) (nI k) with
      | false =>
        rw [b2F, if_pos rfl, anyF_t (p := couP h w m) (k := k) (by omega) (by simp [couP, e1])]
        rfl
      | true =>
        rw [b2T, if_neg c10, on_k (S_38 H), e_allPlace H jp hw hm hk9, bi_mk]
        cases e2 : wiC w (zI h 40 (9 * m + k)) (zI h 41 (9 * m + k)) (CB h k) with
        | false =>
          rw [b2F, if_neg (by simp), anyF_t (p := couP h w m) (k := k) (by omega) (by simp [couP, e2])]
          rfl
        | true =>
          rw [b2T, if_pos c10]
          refine ih (k + 1) (by omega) (by omega) (fun j hj => ?_)
          by_cases ej : j = k
          · subst ej; simp [couP, e1, e2]
          · exact hal j (by omega)
theorem e_couldBe {m : Nat} (H : Sh h r) (jp : Jp r) (hw : zI h r.2.2.2.1 7 = w) (hmk : zI h r.2.2.2.1 4 = nI n) (hn : n ≤ 9) (hm : m < 6) (hf : 10 ≤ f) : f_X1_couldBeOff f 38 (nI m) h = some (b2 (anyF (couP h w m) n), h) := cou_go H jp hw hmk hn hm f 0 (by omega) (by omega) (fun j hj => by omega)
/-! quarrels -/
def ab (d : Int32) : Int32 := if 0 ≤ d then d else 0 - d
def aptB (w xa xb ya yb : Int32) : Bool := decide (2 * w < ab (xa - xb)) || !decide (ab (ya - yb) ≤ 2 * w)
theorem e_areApart {a b k : Nat} (H : Sh h r) (jp : Jp r) (hw : zI h r.2.2.2.1 7 = w) (ha : a < 6) (hb6 : b < 6) (hk : k < 9) : f_X1_areApart f 38 (nI a) (nI b) (nI k) h = some (b2 (aptB w (zI h 40 (9 * a + k)) (zI h 40 (9 * b + k)) (zI h 41 (9 * a + k)) (zI h 41 (9 * b + k))), h) := by
  have ia : 9 * a + k < 54 := by omega
  have ib : 9 * b + k < 54 := by omega
  unfold f_X1_areApart b_X1_areApart_73 b_X1_areApart_78 aptB lt
  simp only [ix9, gr_k (S_38 H) (R_38_1 H), gr_k (S_38 H) (R_38_2 H), gr_k (S_38 H) (R_38_9 H), Option.bind_some, ai_nI (S_40 H) ia (by decide), ai_nI (S_41 H) ia (by decide), ai_nI (S_40 H) ib (by decide), ai_nI (S_41 H) ib (by decide), gi_k (Ip_S H jp), hw]
  show (if 2 * w < ab (zI h 40 (9 * a + k) - zI h 40 (9 * b + k)) then _ else if ab (zI h 41 (9 * a + k) - zI h 41 (9 * b + k)) ≤ 2 * w then _ else _) = _
  by_cases c1 : 2 * w < ab (zI h 40 (9 * a + k) - zI h 40 (9 * b + k))
  · simp [c1, q_bo, b2]
  · by_cases c2 : ab (zI h 41 (9 * a + k) - zI h 41 (9 * b + k)) ≤ 2 * w
    · simp [c1, c2, q_bo, b2]
    · simp [c1, c2, q_bo, b2]
def quP (h : Hp) (w : Int32) (a b k : Nat) : Bool := !hb (zI h 38 13) (nI k) && hb (zI h 39 a) (nI k) && hb (zI h 39 b) (nI k) && aptB w (zI h 40 (9 * a + k)) (zI h 40 (9 * b + k)) (zI h 41 (9 * a + k)) (zI h 41 (9 * b + k))
theorem qu_go {a b : Nat} (H : Sh h r) (jp : Jp r) (hw : zI h r.2.2.2.1 7 = w) (hmk : zI h r.2.2.2.1 4 = nI n) (hn : n ≤ 9) (ha : a < 6) (hb6 : b < 6) : ∀ (d k : Nat), k ≤ n → n < k + d → l_X1_quarrels_32 f d 38 (nI a) (nI b) (nI (fb_ct (quP h w a b) k)) (nI k) h = some (nI (fb_ct (quP h w a b) n), h) := by
  intro d
  induction d with
  | zero => intro k h1 h2; omega
  | succ d ih =>
    intro k hk hkd
    show b_X1_quarrels_32 f (l_X1_quarrels_32 f d) 38 (nI a) (nI b) _ (nI k) h = _
    unfold b_X1_quarrels_32 b_X1_quarrels_98 lt
    rw [gr_k (S_38 H) (R_38_9 H), Option.bind_some, gi_k (Ip_S H jp), Option.bind_some, hmk]
    by_cases c : k = n
    · subst c
      rw [if_pos ((nI_leI (by omega) (by omega)).mpr (Nat.le_refl _))]
    · have hk9 : k < 9 := by omega
      rw [if_neg (fun e => by have := (nI_leI (a := n) (b := k) (by omega) (by omega)).mp e; omega)]
      have no : quP h w a b k = false → l_X1_quarrels_32 f d 38 (nI a) (nI b) (nI (fb_ct (quP h w a b) k)) (nI (k + 1)) h = some (nI (fb_ct (quP h w a b) n), h) := fun e => by
        have e9 : fb_ct (quP h w a b) (k + 1) = fb_ct (quP h w a b) k := by rw [fb_ct_succ]; simp [e]
        rw [← e9]
        exact ih (k + 1) (by omega) (by omega)
      rw [gi_k (S_38 H), Option.bind_some, e_isIn, bi_mk, nI_p1]
      cases e0 : hb (zI h 38 13) (nI k) with
      | true =>
        rw [b2T, if_pos c10]
        exact no (by simp [quP, e0])
      | false =>
        rw [b2F, if_neg (by simp), gr_k (S_38 H) (R_38_0 H), Option.bind_some, ai_nI (S_39 H) ha (by decide), Option.bind_some, e_isIn, bi_mk]
        cases e1 : hb (zI h 39 a) (nI k) with
        | false =>
          rw [b2F, if_pos rfl]
          exact no (by simp [quP, e1])
        | true =>
          rw [b2T, if_neg c10, gr_k (S_38 H) (R_38_0 H), Option.bind_some, ai_nI (S_39 H) hb6 (by decide), Option.bind_some, e_isIn, bi_mk]
          cases e2 : hb (zI h 39 b) (nI k) with
          | false =>
            rw [b2F, if_pos rfl]
            exact no (by simp [quP, e2])
          | true =>
            rw [b2T, if_neg c10, on_k (S_38 H), e_areApart H jp hw ha hb6 hk9, bi_mk]
            cases e3 : aptB w (zI h 40 (9 * a + k)) (zI h 40 (9 * b + k)) (zI h 41 (9 * a + k)) (zI h 41 (9 * b + k)) with
            | false =>
              rw [b2F, if_pos rfl]
              exact no (by simp [quP, e3])
            | true =>
              have e9 : fb_ct (quP h w a b) (k + 1) = fb_ct (quP h w a b) k + 1 := by rw [fb_ct_succ]; simp [quP, e0, e1, e2, e3]
              rw [b2T, if_neg c10, nI_p1, ← e9]
              exact ih (k + 1) (by omega) (by omega)
/-- the lowest and the highest map of a set -/
def qa (s : Nat) : Nat := ((List.range 6).filter (fun k => s.testBit k)).headD 0
def qb (s : Nat) : Nat := ((List.range 6).filter (fun k => s.testBit k)).getLastD 0
theorem qa_lt : ∀ s, s < 64 → qa s < 6 ∧ qb s < 6 := by decide +kernel
theorem low_all : ∀ s, s < 64 → pcn s = 2 → bcV ((nI s &&& -nI s) - 1) = nI (qa s) ∧ bcV (((nI s &&& (((1 : Int32) <<< (nI (qa s) &&& 31)) ^^^ (-1))) &&& -(nI s &&& (((1 : Int32) <<< (nI (qa s) &&& 31)) ^^^ (-1)))) - 1) = nI (qb s) := by decide +kernel
def quN (h : Hp) (w : Int32) (s n : Nat) : Nat := if pcn s = 2 then fb_ct (quP h w (qa s) (qb s)) n else 0
theorem e_quarrels {s : Nat} (H : Sh h r) (jp : Jp r) (hw : zI h r.2.2.2.1 7 = w) (hmk : zI h r.2.2.2.1 4 = nI n) (hn : n ≤ 9) (hs : s < 64) (h2 : pcn s ≤ 2) (hf : 10 ≤ f) : f_X1_quarrels f 38 (nI s) h = some (nI (quN h w s n), h) := by
  unfold f_X1_quarrels f_X1_lowestOf quN
  rw [e_bc, bi_mk, (pc_all s (by omega)).2]
  by_cases c : pcn s = 2
  · rw [if_pos c, c, if_pos (by decide)]
    have l := low_all s hs c
    rw [e_bc, bi_mk, l.1, bi_mk, e_bc, bi_mk, l.2, bi_mk]
    exact qu_go H jp hw hmk hn (qa_lt s hs).1 (qa_lt s hs).2 f 0 (by omega) (by omega)
  · rw [if_neg c, if_neg (fun e => by have := (nI_leI (a := 2) (b := pcn s) (by omega) (by omega)).mp e; omega)]
    rfl
end J3
