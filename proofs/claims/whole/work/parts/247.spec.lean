/-! ===== a text's clauses, as numbers ===== -/
abbrev Ps : Type := (Nat × (Nat → Nat) × (Nat → Nat) × (Nat → Nat → Int32) × (Nat → Nat → Int32)) × ((Nat → Nat) × Nat × Nat × Nat × Nat) × (Nat × Nat × Nat) × (Nat × Nat) × (Bool × Bool × Bool × Bool)
abbrev qN (P : Ps) : Nat := P.1.1
abbrev qX (P : Ps) : Nat → Nat := P.1.2.1
abbrev qY (P : Ps) : Nat → Nat := P.1.2.2.1
abbrev qU (P : Ps) : Nat → Nat → Int32 := P.1.2.2.2.1
abbrev qV (P : Ps) : Nat → Nat → Int32 := P.1.2.2.2.2
abbrev qC (P : Ps) : Nat → Nat := P.2.1.1
abbrev qL (P : Ps) : Nat := P.2.1.2.1
abbrev qJ (P : Ps) : Nat := P.2.1.2.2.1
abbrev qE (P : Ps) : Nat := P.2.1.2.2.2.1
abbrev qI (P : Ps) : Nat := P.2.1.2.2.2.2
abbrev qA (P : Ps) : Nat := P.2.2.1.1
abbrev qB (P : Ps) : Nat := P.2.2.1.2.1
abbrev qD (P : Ps) : Nat := P.2.2.1.2.2
abbrev qp (P : Ps) : Nat := P.2.2.2.1.1
abbrev qz (P : Ps) : Nat := P.2.2.2.1.2
abbrev qg (P : Ps) : Bool := P.2.2.2.2.1
abbrev qw (P : Ps) : Bool := P.2.2.2.2.2.1
abbrev qs (P : Ps) : Bool := P.2.2.2.2.2.2.1
abbrev qt (P : Ps) : Bool := P.2.2.2.2.2.2.2
def up1 (f : Nat → Nat) (j v : Nat) : Nat → Nat := fun x => if x = j then v else f x
def upC (f : Nat → Nat → Int32) (k : Nat) (v : Int32) : Nat → Nat → Int32 := fun x y => if y = k then v else f x y
def dst (a b : Nat) : Nat := (a - b) + (b - a)
def P0 : Ps := ((0, fun _ => 0, fun _ => 0, fun _ _ => 0, fun _ _ => 0), (fun _ => 0, 0, 0, 0, 0), (0, 0, 0), (10, 100), (false, false, false, false))
def lateP (P : Ps) (k : Nat) : Bool := (decide (k = 0) && (decide (0 < qJ P + qE P) || qg P)) || (decide (k = 2) && decide (0 < qJ P + qE P))
def fullP (P : Ps) (k : Nat) : Bool := if k = 0 then decide (qN P = 9) else if k = 1 then qg P else if k = 2 then qw P else if k = 3 then decide (qJ P = 2) else if k = 4 then decide (qE P = 30) else if k = 5 then qs P else qt P
def cnt (k : Nat) : Nat := if k = 0 then 2 else if k = 1 then 3 else if k = 3 ∨ k = 4 then 4 else 1
def c99 (m v : Nat) : Nat := if v ≤ m then 0 else 2
def chk (P : Ps) (k j : Nat) (a : Nat → Nat) (v : Nat) : Nat :=
  if k = 0 then c99 99 v
  else if k = 1 then (if v < qN P then 0 else 2)
  else if k = 2 then c99 9 v
  else if k = 5 then c99 999 v
  else if k = 6 then c99 9999 v
  else if j = 0 then (if v < 6 then (if k = 3 ∧ (qL P).testBit v = true then 4 else 0) else 2)
  else if j = 1 then (if v < qN P then (if (qC P (a 0)).testBit v = true then 4 else 0) else 2)
  else if k = 4 then (if dst v 9 ≤ qI P then 0 else 2)
  else if j = 2 then c99 99 v
  else (if v ≤ 99 then (if dst (a 2) (qX P (a 1)) ≤ 2 * qI P ∧ dst v (qY P (a 1)) ≤ 2 * qI P then 4 else 0) else 2)
theorem chk_cong {P : Ps} {k j v : Nat} {a a' : Nat → Nat} (h : ∀ x, x < j → a x = a' x) : chk P k j a v = chk P k j a' v := by
  rcases (show j = 0 ∨ j = 1 ∨ j = 2 ∨ 3 ≤ j by omega) with rfl | rfl | rfl | h3
  · simp [chk]
  · simp [chk, h 0 (by omega)]
  · simp [chk]
  · unfold chk
    rw [h 0 (by omega), h 1 (by omega), h 2 (by omega)]
theorem if2 {p : Prop} [Decidable p] {x : Nat} (h : (if p then x else 2) = 0) : p := by
  by_cases q : p
  · exact q
  · rw [if_neg q] at h; exact absurd h (by decide)
def rdl (t : Nat → Nat) (n : Nat) (P : Ps) (k : Nat) : Nat → Nat → (Nat → Nat) → Nat → Nat × Nat × (Nat → Nat) × Nat
  | 0, _, a, i => (0, 0, a, i)
  | c + 1, j, a, i => if dE t n (sk t n i) = sk t n i then (1, sk t n i, a, i) else if chk P k j a (nV t (sk t n i) (dE t n (sk t n i))) = 0 then rdl t n P k c (j + 1) (up1 a j (nV t (sk t n i) (dE t n (sk t n i)))) (dE t n (sk t n i)) else (chk P k j a (nV t (sk t n i) (dE t n (sk t n i))), sk t n i, a, i)
def fin (t : Nat → Nat) (n : Nat) (P : Ps) (tel : (Nat → Nat) → Ps) (q : Nat × Nat × (Nat → Nat) × Nat) : Nat × Nat × Ps × Nat :=
  if q.1 = 0 then (if sk t n q.2.2.2 < n ∧ t (sk t n q.2.2.2) = 59 then (0, 0, tel q.2.2.1, sk t n q.2.2.2 + 1) else (1, sk t n q.2.2.2, P, 0)) else (q.1, q.2.1, P, 0)
def tel (P : Ps) (k : Nat) (a : Nat → Nat) : Ps :=
  if k = 0 then ((qN P + 1, up1 (qX P) (qN P) (a 0), up1 (qY P) (qN P) (a 1), upC (qU P) (qN P) (nI (a 0)), upC (qV P) (qN P) (nI (a 1))), P.2)
  else if k = 1 then (P.1, P.2.1, (a 0, a 1, a 2), P.2.2.2.1, (true, qw P, qs P, qt P))
  else if k = 2 then (P.1, (qC P, qL P, qJ P, qE P, a 0), P.2.2.1, P.2.2.2.1, (qg P, true, qs P, qt P))
  else if k = 3 then ((qN P, qX P, qY P, up2 (qU P) (a 0) (a 1) (nI (a 2)), up2 (qV P) (a 0) (a 1) (nI (a 3))), (up1 (qC P) (a 0) (qC P (a 0) ||| 2 ^ a 1), qL P ||| 2 ^ a 0, qJ P + 1, qE P, qI P), P.2.2)
  else if k = 4 then ((qN P, qX P, qY P, up2 (qU P) (a 0) (a 1) (nI (qX P (a 1)) + nI (a 2) - 9), up2 (qV P) (a 0) (a 1) (nI (qY P (a 1)) + nI (a 3) - 9)), (up1 (qC P) (a 0) (qC P (a 0) ||| 2 ^ a 1), qL P, qJ P, qE P + 1, qI P), P.2.2)
  else if k = 5 then (P.1, P.2.1, P.2.2.1, (a 0, qz P), (qg P, qw P, true, qt P))
  else (P.1, P.2.1, P.2.2.1, (qp P, a 0), (qg P, qw P, qs P, true))
/-- a clause from i on: its fault's number (0: none), where, what is told then, where it ends -/
def cls (t : Nat → Nat) (n : Nat) (P : Ps) (i : Nat) : Nat × Nat × Ps × Nat :=
  if kd t i (wE t n i) = 7 ∨ lateP P (kd t i (wE t n i)) = true then (1, i, P, 0)
  else if fullP P (kd t i (wE t n i)) = true then (3, i, P, 0)
  else fin t n P (tel P (kd t i (wE t n i))) (rdl t n P (kd t i (wE t n i)) (cnt (kd t i (wE t n i))) 0 (fun _ => 0) (wE t n i))
/-- all numbers are as they should be -/
def CK (P : Ps) (k j : Nat) (a : Nat → Nat) : Prop := ∀ x, x < j → chk P k x a (a x) = 0
theorem CK_up {P : Ps} {k j v : Nat} {a : Nat → Nat} (h : CK P k j a) (h2 : chk P k j a v = 0) : CK P k (j + 1) (up1 a j v) := by
  intro x hx
  rw [← chk_cong (a := a) (fun y hy => by unfold up1; rw [if_neg (by omega)])]
  unfold up1
  by_cases e : x = j
  · rw [if_pos e, e]; exact h2
  · rw [if_neg e]; exact h x (by omega)
theorem rdl_ok {t : Nat → Nat} {n : Nat} {P : Ps} {k : Nat} : ∀ c j a i, i ≤ n → CK P k j a → (rdl t n P k c j a i).1 = 0 → CK P k (j + c) (rdl t n P k c j a i).2.2.1 ∧ (rdl t n P k c j a i).2.2.2 ≤ n := by
  intro c
  induction c with
  | zero => intro j a i hi h _; exact ⟨h, hi⟩
  | succ c ih =>
    intro j a i hi h
    have hs : sk t n i ≤ n := en_le hi
    unfold rdl
    split
    · intro q; exact absurd (show 1 = 0 from q) (by decide)
    · split
      · intro q
        have := ih (j + 1) _ _ (en_le (p := pD t) hs) (CK_up h (by assumption)) q
        rw [show j + (c + 1) = j + 1 + c by omega]
        exact this
      · intro q; exact absurd q (by assumption)
def tmz (P : Ps) (k : Nat) : Nat := if k = 0 then qN P else if k = 1 then (qg P).toNat else if k = 2 then (qw P).toNat else if k = 3 then qJ P else if k = 4 then qE P else if k = 5 then (qs P).toNat else (qt P).toNat
theorem tmz_tel {P : Ps} {k : Nat} {a : Nat → Nat} (hk : k < 7) (hf : fullP P k = false) : ∀ x, x < 7 → tmz (tel P k a) x = if x = k then tmz P x + 1 else tmz P x := by
  intro x hx
  rcases (show k = 0 ∨ k = 1 ∨ k = 2 ∨ k = 3 ∨ k = 4 ∨ k = 5 ∨ k = 6 by omega) with rfl | rfl | rfl | rfl | rfl | rfl | rfl <;>
  rcases (show x = 0 ∨ x = 1 ∨ x = 2 ∨ x = 3 ∨ x = 4 ∨ x = 5 ∨ x = 6 by omega) with rfl | rfl | rfl | rfl | rfl | rfl | rfl <;>
  first | rfl | (unfold fullP at hf; simp at hf; simp [tmz, tel, hf])
/-- what holds of all that is told -/
def PW (P : Ps) : Prop := (qN P ≤ 9 ∧ qI P ≤ 9 ∧ qJ P ≤ 2 ∧ qE P ≤ 30 ∧ qL P < 64 ∧ qp P ≤ 999 ∧ qz P ≤ 9999) ∧ (qA P = 0 ∨ qA P < qN P) ∧ (qB P = 0 ∨ qB P < qN P) ∧ (qD P = 0 ∨ qD P < qN P) ∧ (∀ k, k < qN P → qX P k ≤ 99 ∧ qY P k ≤ 99) ∧ (∀ m, m < 6 → qC P m < 2 ^ qN P ∧ ∀ k, k < qN P → Bd (qU P m k) ∧ Bd (qV P m k) ∧ ((qC P m).testBit k = false → qU P m k = nI (qX P k) ∧ qV P m k = nI (qY P k)))
theorem PW_0 : PW P0 := ⟨by decide, Or.inl rfl, Or.inl rfl, Or.inl rfl, fun k hk => absurd hk (by show ¬ k < 0; omega), fun m _ => ⟨by show 0 < 1; omega, fun k hk => absurd hk (by show ¬ k < 0; omega)⟩⟩
theorem Bd_nI {v : Nat} (h : v ≤ 99) : Bd (nI v) := by
  unfold Bd; rw [nI_toInt (by omega)]; omega
theorem err_toInt {x v : Nat} (h : x ≤ 99) (h2 : v ≤ 10000) : (nI x + nI v - (9 : Int32)).toInt = (x : Int) + v - 9 := by
  rw [nI_add]
  exact pk_sub_toInt (a := x + v) (b := 9) (by omega) (by omega)
theorem lt_or {a n k : Nat} (h : a < 2 ^ n) (hk : k < n) : a ||| 2 ^ k < 2 ^ n := Nat.or_lt_two_pow h (Nat.pow_lt_pow_right (by decide) hk)
theorem PW_tel {P : Ps} {k : Nat} {a : Nat → Nat} (W : PW P) (hk : k < 7) (hl : lateP P k = false) (hf : fullP P k = false) (h : CK P k (cnt k) a) : PW (tel P k a) := by
  obtain ⟨⟨w1, w2, w3, w4, w5, w6, w7⟩, wa, wb, wc, wx, wm⟩ := id W
  rcases (show k = 0 ∨ k = 1 ∨ k = 2 ∨ k = 3 ∨ k = 4 ∨ k = 5 ∨ k = 6 by omega) with rfl | rfl | rfl | rfl | rfl | rfl | rfl
  · have a0 : a 0 ≤ 99 := by have := h 0 (by decide); simp [chk, c99] at this; exact this
    have a1 : a 1 ≤ 99 := by have := h 1 (by decide); simp [chk, c99] at this; exact this
    have n9 : qN P ≠ 9 := by unfold fullP at hf; simpa using hf
    show PW ((qN P + 1, up1 (qX P) (qN P) (a 0), up1 (qY P) (qN P) (a 1), upC (qU P) (qN P) (nI (a 0)), upC (qV P) (qN P) (nI (a 1))), P.2)
    refine ⟨⟨by show qN P + 1 ≤ 9; omega, w2, w3, w4, w5, w6, w7⟩, ?_, ?_, ?_, ?_, ?_⟩
    · rcases wa with q | q
      · exact Or.inl q
      · exact Or.inr (Nat.lt_succ_of_lt q)
    · rcases wb with q | q
      · exact Or.inl q
      · exact Or.inr (Nat.lt_succ_of_lt q)
    · rcases wc with q | q
      · exact Or.inl q
      · exact Or.inr (Nat.lt_succ_of_lt q)
    · intro j hj
      show up1 (qX P) (qN P) (a 0) j ≤ 99 ∧ up1 (qY P) (qN P) (a 1) j ≤ 99
      unfold up1
      by_cases e : j = qN P
      · rw [if_pos e, if_pos e]; exact ⟨a0, a1⟩
      · rw [if_neg e, if_neg e]
        have hj' : j < qN P + 1 := hj
        exact wx j (by omega)
    · intro m hm
      obtain ⟨c1, c2⟩ := wm m hm
      refine ⟨?_, fun j hj => ?_⟩
      · show qC P m < 2 ^ (qN P + 1)
        rw [Nat.pow_succ]; omega
      · show Bd (upC (qU P) (qN P) (nI (a 0)) m j) ∧ Bd (upC (qV P) (qN P) (nI (a 1)) m j) ∧ ((qC P m).testBit j = false → upC (qU P) (qN P) (nI (a 0)) m j = nI (up1 (qX P) (qN P) (a 0) j) ∧ upC (qV P) (qN P) (nI (a 1)) m j = nI (up1 (qY P) (qN P) (a 1) j))
        unfold up1 upC
        by_cases e : j = qN P
        · rw [if_pos e, if_pos e, if_pos e, if_pos e]; exact ⟨Bd_nI a0, Bd_nI a1, fun _ => ⟨rfl, rfl⟩⟩
        · rw [if_neg e, if_neg e, if_neg e, if_neg e]
          have hj' : j < qN P + 1 := hj
          exact c2 j (by omega)
  · have a0 : a 0 < qN P := by have := h 0 (by decide); simp [chk] at this; exact this
    have a1 : a 1 < qN P := by have := h 1 (by decide); simp [chk] at this; exact this
    have a2 : a 2 < qN P := by have := h 2 (by decide); simp [chk] at this; exact this
    exact ⟨⟨w1, w2, w3, w4, w5, w6, w7⟩, Or.inr a0, Or.inr a1, Or.inr a2, wx, wm⟩
  · have a0 : a 0 ≤ 9 := by have := h 0 (by decide); simp [chk, c99] at this; exact this
    exact ⟨⟨w1, a0, w3, w4, w5, w6, w7⟩, wa, wb, wc, wx, wm⟩
  · have a0 : a 0 < 6 := if2 (show (if a 0 < 6 then _ else 2) = 0 from h 0 (by decide))
    have a1 : a 1 < qN P := if2 (show (if a 1 < qN P then _ else 2) = 0 from h 1 (by decide))
    have a2 : a 2 ≤ 99 := by have := h 2 (by decide); simp [chk, c99] at this; omega
    have a3 : a 3 ≤ 99 := by
      have := h 3 (by decide)
      simp [chk] at this
      by_cases q : a 3 ≤ 99
      · exact q
      · rw [if_neg q] at this; exact absurd this (by decide)
    have n2 : qJ P ≠ 2 := by unfold fullP at hf; simpa using hf
    refine ⟨⟨w1, w2, by show qJ P + 1 ≤ 2; omega, w4, ?_, w6, w7⟩, wa, wb, wc, wx, ?_⟩
    · show qL P ||| 2 ^ a 0 < 2 ^ 6
      exact lt_or w5 a0
    · intro m hm
      obtain ⟨c1, c2⟩ := wm m hm
      refine ⟨?_, fun j hj => ?_⟩
      · show up1 (qC P) (a 0) (qC P (a 0) ||| 2 ^ a 1) m < 2 ^ qN P
        unfold up1
        by_cases e : m = a 0
        · rw [if_pos e]; exact lt_or (wm (a 0) a0).1 a1
        · rw [if_neg e]; exact c1
      · show Bd (up2 (qU P) (a 0) (a 1) (nI (a 2)) m j) ∧ Bd (up2 (qV P) (a 0) (a 1) (nI (a 3)) m j) ∧ ((up1 (qC P) (a 0) (qC P (a 0) ||| 2 ^ a 1) m).testBit j = false → up2 (qU P) (a 0) (a 1) (nI (a 2)) m j = nI (qX P j) ∧ up2 (qV P) (a 0) (a 1) (nI (a 3)) m j = nI (qY P j))
        unfold up1 up2
        by_cases e : m = a 0 ∧ j = a 1
        · rw [if_pos e, if_pos e, if_pos e.1]
          refine ⟨Bd_nI a2, Bd_nI a3, fun q => ?_⟩
          rw [Nat.testBit_or, e.2, Nat.testBit_two_pow_self, Bool.or_true] at q; cases q
        · rw [if_neg e, if_neg e]
          obtain ⟨d1, d2, d3⟩ := c2 j hj
          refine ⟨d1, d2, fun q => d3 ?_⟩
          by_cases e1 : m = a 0
          · rw [if_pos e1, Nat.testBit_or, ← e1] at q
            exact (Bool.or_eq_false_iff.mp q).1
          · rw [if_neg e1] at q; exact q
  · have a0 : a 0 < 6 := by have := h 0 (by decide); simp [chk] at this; exact this
    have a1 : a 1 < qN P := if2 (show (if a 1 < qN P then _ else 2) = 0 from h 1 (by decide))
    have a2 : dst (a 2) 9 ≤ qI P := by have := h 2 (by decide); simp [chk] at this; exact this
    have a3 : dst (a 3) 9 ≤ qI P := by have := h 3 (by decide); simp [chk] at this; exact this
    unfold dst at a2 a3
    have n2 : qE P ≠ 30 := by unfold fullP at hf; simpa using hf
    obtain ⟨x9, y9⟩ := wx (a 1) a1
    have bu : Bd (nI (qX P (a 1)) + nI (a 2) - 9) := by unfold Bd; rw [err_toInt x9 (by omega)]; omega
    have bw : Bd (nI (qY P (a 1)) + nI (a 3) - 9) := by unfold Bd; rw [err_toInt y9 (by omega)]; omega
    refine ⟨⟨w1, w2, w3, by show qE P + 1 ≤ 30; omega, w5, w6, w7⟩, wa, wb, wc, wx, ?_⟩
    intro m hm
    obtain ⟨c1, c2⟩ := wm m hm
    refine ⟨?_, fun j hj => ?_⟩
    · show up1 (qC P) (a 0) (qC P (a 0) ||| 2 ^ a 1) m < 2 ^ qN P
      unfold up1
      by_cases e : m = a 0
      · rw [if_pos e]; exact lt_or (wm (a 0) a0).1 a1
      · rw [if_neg e]; exact c1
    · show Bd (up2 (qU P) (a 0) (a 1) (nI (qX P (a 1)) + nI (a 2) - 9) m j) ∧ Bd (up2 (qV P) (a 0) (a 1) (nI (qY P (a 1)) + nI (a 3) - 9) m j) ∧ ((up1 (qC P) (a 0) (qC P (a 0) ||| 2 ^ a 1) m).testBit j = false → up2 (qU P) (a 0) (a 1) (nI (qX P (a 1)) + nI (a 2) - 9) m j = nI (qX P j) ∧ up2 (qV P) (a 0) (a 1) (nI (qY P (a 1)) + nI (a 3) - 9) m j = nI (qY P j))
      unfold up1 up2
      by_cases e : m = a 0 ∧ j = a 1
      · rw [if_pos e, if_pos e, if_pos e.1]
        refine ⟨bu, bw, fun q => ?_⟩
        rw [Nat.testBit_or, e.2, Nat.testBit_two_pow_self, Bool.or_true] at q; cases q
      · rw [if_neg e, if_neg e]
        obtain ⟨d1, d2, d3⟩ := c2 j hj
        refine ⟨d1, d2, fun q => d3 ?_⟩
        by_cases e1 : m = a 0
        · rw [if_pos e1, Nat.testBit_or, ← e1] at q
          exact (Bool.or_eq_false_iff.mp q).1
        · rw [if_neg e1] at q; exact q
  · have a0 : a 0 ≤ 999 := by have := h 0 (by decide); simp [chk, c99] at this; exact this
    exact ⟨⟨w1, w2, w3, w4, w5, a0, w7⟩, wa, wb, wc, wx, wm⟩
  · have a0 : a 0 ≤ 9999 := by have := h 0 (by decide); simp [chk, c99] at this; exact this
    exact ⟨⟨w1, w2, w3, w4, w5, w6, a0⟩, wa, wb, wc, wx, wm⟩
