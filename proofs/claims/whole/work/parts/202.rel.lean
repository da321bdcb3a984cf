/-! ===== class and reference beside each other ===== -/
def Bd (v : Int32) : Prop := -9 ≤ v.toInt ∧ v.toInt ≤ 108
def Tx (h : Hp) : Prop := ∃ n, n ≤ 400 ∧ zI h 0 1 = nI n ∧ zI h 58 19 = nI n ∧ ∀ j, j < n → ∃ c, c < 256 ∧ zI h 68 j = nI c ∧ zI h 1 j = (nI c).toInt8.toInt32
def Ft (h : Hp) : Prop := zI h 0 2 = zI h 58 20
/-- the island: n marks, within w, lies l, goals a b c -/
def Il (h : Hp) (p n w l a b c : Nat) : Prop := (n ≤ 9 ∧ w ≤ 9 ∧ l ≤ 2 ∧ a < 9 ∧ b < 9 ∧ c < 9 ∧ (0 < n → a < n ∧ b < n ∧ c < n)) ∧
  (zI h p 4 = nI n ∧ zI h 58 0 = nI n) ∧ (zI h p 7 = nI w ∧ zI h 58 7 = nI w) ∧ (zI h p 6 = nI l ∧ zI h 58 5 = nI l) ∧
  (zI h p 8 = nI a ∧ zI h 63 0 = nI a) ∧ (zI h p 9 = nI b ∧ zI h 63 1 = nI b) ∧ (zI h p 10 = nI c ∧ zI h 63 2 = nI c) ∧
  zI h p 5 = zI h 58 6 ∧ (∃ q, q ≤ 999 ∧ zI h p 11 = nI q ∧ zI h 58 9 = nI q) ∧ (∃ q, q ≤ 9999 ∧ zI h p 12 = nI q ∧ zI h 58 10 = nI q) ∧
  (∀ k, k < n → zI h (p + 1) k = zI h 59 k ∧ zI h (p + 2) k = zI h 60 k) ∧
  (∀ m, m < 6 → ∀ k, k < n → zI h (p + 3) (9 * m + k) = zI h 61 (9 * m + k) ∧ zI h (p + 4) (9 * m + k) = zI h 62 (9 * m + k) ∧ Bd (zI h 61 (9 * m + k)) ∧ Bd (zI h 62 (9 * m + k)))
/-- a standing: known, purses, spades -/
def StEq (kn pu sx sy kn' pu' sx' sy' : Nat → Int32) (c fi se c' fi' se' : Int32) : Prop := (∀ i, i < 36 → kn i = kn' i) ∧ (∀ b, b < 6 → pu b = pu' b) ∧ (∀ j, j < 20 → sx j = sx' j ∧ sy j = sy' j) ∧ c = c' ∧ fi = fi' ∧ se = se'
def StOk (n : Nat) (kn : Nat → Int32) (c fi se : Int32) : Prop := (∀ i, i < 36 → ∃ s, s < 2 ^ n ∧ kn i = nI s) ∧ (∀ b, b < 6 → kn (7 * b) = nI (2 ^ n - 1)) ∧ (∃ k, k ≤ 20 ∧ c = nI k) ∧ (fi = -1 ∨ ∃ b, b < 6 ∧ fi = nI b) ∧ (0 : Int32) ≤ se
def StN (h : Hp) (n : Nat) : Prop := StEq (zI h 18) (zI h 21) (zI h 19) (zI h 20) (zI h 64) (zI h 65) (zI h 66) (zI h 67) (zI h 17 4) (zI h 17 5) (zI h 17 6) (zI h 58 13) (zI h 58 16) (zI h 58 17) ∧ StOk n (zI h 64) (zI h 58 13) (zI h 58 16) (zI h 58 17)
def Sy (h : Hp) : Prop := ∃ c, c ≤ 20 ∧ zI h 34 3 = nI c ∧ zI h 58 50 = nI c ∧ ∀ i, i < c → zI h 35 i = zI h 82 i ∧ zI h 36 i = zI h 83 i ∧ zI h 37 i = zI h 84 i ∧ (∃ b, b < 6 ∧ zI h 82 i = nI b) ∧ (∃ m, m < 6 ∧ zI h 83 i = nI m) ∧ (zI h 84 i = 0 ∨ zI h 84 i = 1)
def Im (h : Hp) (n i : Nat) : Prop := (zI h 33 i = 0 ∧ zI h 86 i = 0) ∨ (zI h 33 i = 1 ∧ zI h 86 i = 1 ∧
  StEq (zI h (24 + 5 * i)) (zI h (27 + 5 * i)) (zI h (25 + 5 * i)) (zI h (26 + 5 * i)) (fun j => zI h 85 (100 * i + j)) (fun j => zI h 85 (100 * i + 36 + j)) (fun j => zI h 85 (100 * i + 42 + j)) (fun j => zI h 85 (100 * i + 62 + j)) (zI h (23 + 5 * i) 4) (zI h (23 + 5 * i) 5) (zI h (23 + 5 * i) 6) (zI h 85 (100 * i + 82)) (zI h 85 (100 * i + 83)) (zI h 85 (100 * i + 84)) ∧
  StOk n (fun j => zI h 85 (100 * i + j)) (zI h 85 (100 * i + 82)) (zI h 85 (100 * i + 83)) (zI h 85 (100 * i + 84)))
def Rp (r : Rs) : Prop := ((r.1 = 2 ∧ r.2.1 = 7) ∨ (r.1 = 7 ∧ r.2.1 = 2)) ∧ (r.2.2.2.2 = 17 ∨ r.2.2.2.2 = 53)
def Rel (h : Hp) (r : Rs) : Prop := Sh h r ∧ Rp r ∧ Tx h ∧ Ft h ∧ ∃ n w l a b c, Il h r.1 n w l a b c ∧ StN h n ∧ Sy h ∧ Im h n 0 ∧ Im h n 1
/-- the cells that Rel speaks of -/
def rc (a k : Nat) : Bool := decide (a < 12) || (decide (17 ≤ a) && decide (a < 38)) || (decide (59 ≤ a) && decide (a < 69)) || (decide (82 ≤ a) && decide (a < 87)) || (decide (a = 58) && (k == 0 || k == 5 || k == 6 || k == 7 || k == 9 || k == 10 || k == 13 || k == 16 || k == 17 || k == 19 || k == 20 || k == 50))
def Sm (h h' : Hp) : Prop := ∀ a k, rc a k = true → zI h' a k = zI h a k
theorem Sm_rf (h : Hp) : Sm h h := fun _ _ _ => rfl
theorem Sm_tr {h h' h'' : Hp} (x : Sm h h') (y : Sm h' h'') : Sm h h'' := fun a k e => (y a k e).trans (x a k e)
theorem Sm_sI {h h' : Hp} {a k : Nat} {v : Int32} (x : Sm h h') (e : rc a k = false) : Sm h (sI h' a k v) := fun a' k' e' => by
  rw [zI_sI]
  by_cases c : a' = a ∧ k' = k
  · obtain ⟨rfl, rfl⟩ := c; rw [e] at e'; cases e'
  · rw [if_neg c]; exact x a' k' e'
theorem Rel_Sm {h h' : Hp} {r r' : Rs} (R : Rel h r) (S : Sh h' r') (e1 : r'.1 = r.1) (e2 : r'.2.1 = r.2.1) (x : Sm h h') (e3 : r'.2.2.2.2 = r.2.2.2.2 ∨ r'.2.2.2.2 = 17 := by first | exact Or.inl rfl | exact Or.inr rfl) : Rel h' r' := by
  obtain ⟨-, rp, tx, ft, n, w, l, a, b, c, il, st, sy, i0, i1⟩ := R
  have row : ∀ q, (q < 12 ∨ 17 ≤ q ∧ q < 38 ∨ 59 ≤ q ∧ q < 69 ∨ 82 ≤ q ∧ q < 87) → zI h' q = zI h q := fun q hq => by
    funext k
    apply x
    unfold rc
    simp only [Bool.or_eq_true, Bool.and_eq_true, decide_eq_true_eq]
    omega
  have hp : r.1 = 2 ∨ r.1 = 7 := by rcases rp.1 with e | e <;> simp [e.1]
  refine ⟨S, ⟨by rw [e1, e2]; exact rp.1, by rcases e3 with e | e; rw [e]; exact rp.2; exact Or.inl e⟩, ?_, ?_, n, w, l, a, b, c, ?_, ?_, ?_, ?_, ?_⟩
  · unfold Tx
    rw [row 0 (by omega), row 68 (by omega), row 1 (by omega), x 58 19 rfl]
    exact tx
  · unfold Ft
    rw [row 0 (by omega), x 58 20 rfl]
    exact ft
  · unfold Il
    rw [e1, row r.1 (by omega), row (r.1 + 1) (by omega), row (r.1 + 2) (by omega), row (r.1 + 3) (by omega), row (r.1 + 4) (by omega), row 59 (by omega), row 60 (by omega), row 61 (by omega), row 62 (by omega), row 63 (by omega), x 58 0 rfl, x 58 5 rfl, x 58 6 rfl, x 58 7 rfl, x 58 9 rfl, x 58 10 rfl]
    exact il
  · unfold StN
    rw [row 17 (by omega), row 18 (by omega), row 19 (by omega), row 20 (by omega), row 21 (by omega), row 64 (by omega), row 65 (by omega), row 66 (by omega), row 67 (by omega), x 58 13 rfl, x 58 16 rfl, x 58 17 rfl]
    exact st
  · unfold Sy
    rw [row 34 (by omega), row 35 (by omega), row 36 (by omega), row 37 (by omega), row 82 (by omega), row 83 (by omega), row 84 (by omega), x 58 50 rfl]
    exact sy
  · unfold Im
    rw [row 33 (by omega), row 86 (by omega), row 85 (by omega), row (24 + 5 * 0) (by omega), row (27 + 5 * 0) (by omega), row (25 + 5 * 0) (by omega), row (26 + 5 * 0) (by omega), row (23 + 5 * 0) (by omega)]
    exact i0
  · unfold Im
    rw [row 33 (by omega), row 86 (by omega), row 85 (by omega), row (24 + 5 * 1) (by omega), row (27 + 5 * 1) (by omega), row (25 + 5 * 1) (by omega), row (26 + 5 * 1) (by omega), row (23 + 5 * 1) (by omega)]
    exact i1
def StpR (fc fm : Hp → Option (Int32 × Hp)) : Prop := ∀ h r, Rel h r → ∃ v h1 h2 r2, fc h = some (v, h1) ∧ (zS h1 58).1 = 7 ∧ fm h1 = some (v, h2) ∧ Rel h2 r2
theorem bi_some {α β : Type} (q : α × Hp) (K : α → Hp → Option β) : bi (some q) K = K q.1 q.2 := rfl

def StepsR (f : Nat) : Prop :=
  (∀ (n : Int32) (b : Int64), StpR (f_X5_feed f 0 n b) (f_X6_feed f 58 n b)) ∧
  (StpR (f_X5_island f 0 ) (f_X6_island f 58 )) ∧
  (StpR (f_X5_fault f 0 ) (f_X6_fault f 58 )) ∧
  (∀ (a : Int32), StpR (f_X5_told f 0 a) (f_X6_told f 58 a)) ∧
  (∀ (a b : Int32), StpR (f_X5_mark f 0 a b) (f_X6_mark f 58 a b)) ∧
  (∀ (a b c : Int32), StpR (f_X5_map f 0 a b c) (f_X6_map f 58 a b c)) ∧
  (∀ (a b : Int32), StpR (f_X5_leads f 0 a b) (f_X6_leads f 58 a b)) ∧
  (∀ (a b : Int32), StpR (f_X5_knows f 0 a b) (f_X6_knows f 58 a b)) ∧
  (∀ (a b c : Int32), StpR (f_X5_show f 0 a b c) (f_X6_show f 58 a b c)) ∧
  (∀ (a b c d : Int32), StpR (f_X5_trade f 0 a b c d) (f_X6_trade f 58 a b c d)) ∧
  (∀ (a b c : Int32), StpR (f_X5_dig f 0 a b c) (f_X6_dig f 58 a b c)) ∧
  (∀ (a : Int32), StpR (f_X5_purse f 0 a) (f_X6_purse f 58 a)) ∧
  (∀ (a b : Int32), StpR (f_X5_may f 0 a b) (f_X6_may f 58 a b)) ∧
  (∀ (a b : Int32), StpR (f_X5_sure f 0 a b) (f_X6_sure f 58 a b)) ∧
  (∀ (a b c : Int32), StpR (f_X5_area f 0 a b c) (f_X6_area f 58 a b c)) ∧
  (∀ (a b : Int32), StpR (f_X5_best f 0 a b) (f_X6_best f 58 a b)) ∧
  (∀ (a b c : Int32), StpR (f_X5_corner f 0 a b c) (f_X6_corner f 58 a b c)) ∧
  (∀ (a b : Int32), StpR (f_X5_bestCorner f 0 a b) (f_X6_bestCorner f 58 a b)) ∧
  (∀ (a : Int32), StpR (f_X5_spades f 0 a) (f_X6_spades f 58 a)) ∧
  (∀ (a : Int32), StpR (f_X5_found f 0 a) (f_X6_found f 58 a)) ∧
  (∀ (a b c : Int32), (c = 0 ∨ c = 1) → StpR (f_X5_say f 0 a b c) (f_X6_say f 58 a b c)) ∧
  (StpR (f_X5_forget f 0 ) (f_X6_forget f 58 )) ∧
  (∀ (a b : Int32), StpR (f_X5_saying f 0 a b) (f_X6_saying f 58 a b)) ∧
  (StpR (f_X5_loudest f 0 ) (f_X6_loudest f 58 )) ∧
  (∀ (a : Int32), StpR (f_X5_hunt f 0 a) (f_X6_hunt f 58 a)) ∧
  (∀ (a : Int32), StpR (f_X5_seed f 0 a) (f_X6_seed f 58 a)) ∧
  (∀ (a : Int32), StpR (f_X5_keep f 0 a) (f_X6_keep f 58 a)) ∧
  (∀ (a : Int32), StpR (f_X5_goBack f 0 a) (f_X6_goBack f 58 a))
theorem law_exit {L i : Nat} (hL : L ≤ 320) (hi : i ≤ L + 4) : (Int32.ofNat L - 5 < nI i) ↔ L < i + 5 := by
  rw [fa_lt]
  have h1 : (Int32.ofNat L - 5).toInt = (L : Int) - 5 := by
    have e := pk_sub_toInt (a := L) (b := 5) (by omega) (by omega)
    exact e
  rw [h1, nI_toInt (by omega)]
  omega
set_option maxHeartbeats 4000000 in
set_option maxRecDepth 100000 in
theorem law_loop {f L : Nat} {sx : Nat → Int32} (hL : L ≤ 320) (S : StepsR f) : ∀ (n i : Nat) (h : Hp) (r : Rs), Rel h r → i ≤ L + 4 → L + 5 < i + n → l_L_law_18 f L sx n 0 58 (nI i) h = some () := by
  obtain ⟨s0, s1, s2, s3, s4, s5, s6, s7, s8, s9, s10, s11, s12, s13, s14, s15, s16, s17, s18, s19, s20, s21, s22, s23, s24, s25, s26, s27⟩ := S
  intro n
  induction n with
  | zero => intro i h r _ h1 h2; omega
  | succ n ih =>
    intro i h r R hi hn
    show b_L_law_18 f L sx (l_L_law_18 f L sx n) 0 58 (nI i) h = some ()
    unfold b_L_law_18
    by_cases hx : L < i + 5
    · rw [if_pos ((law_exit hL hi).mpr hx)]; rfl
    · rw [if_neg (fun hh => hx ((law_exit hL hi).mp hh))]
      have hq : ∀ c, c < 5 → q_sx L sx (nI i + nI c) = some (sx (i + c)) := fun c hc => by
        unfold q_sx
        rw [nI_add, if_pos (by rw [q_in, nI_toInt (by omega)]; omega), nI_clamp (by omega)]
      have q0 : q_sx L sx (nI i) = some (sx i) := by have e := hq 0 (by omega); rw [nI_add] at e; exact e
      have q1 : q_sx L sx (nI i + 1) = some (sx (i + 1)) := hq 1 (by omega)
      have q2 : q_sx L sx (nI i + 2) = some (sx (i + 2)) := hq 2 (by omega)
      have q3 : q_sx L sx (nI i + 3) = some (sx (i + 3)) := hq 3 (by omega)
      have q4 : q_sx L sx (nI i + 4) = some (sx (i + 4)) := hq 4 (by omega)
      have hS : Sh h r := R.1
      have k0 : (zS h 0).1 = 6 := by rw [S_0 hS]
      have next : ∀ (h2 : Hp) (r2 : Rs), Rel h2 r2 → b_L_law_1050 f L sx (l_L_law_18 f L sx n) 0 58 (nI i) h2 = some () := fun h2 r2 R2 => by
        have e5 : nI i + (5 : Int32) = nI (i + 5) := nI_add i 5
        unfold b_L_law_1050 lt
        rw [e5]
        exact ih (i + 5) h2 r2 R2 (by omega) (by omega)
      obtain ⟨j, hj, ej⟩ := pk_andE (sx i) (m := 31) 5 (by decide)
      rw [q0, Option.bind_some, ej]
      have ti : (nI j).toInt = (j : Int) := nI_toInt (by omega)
      unfold sw
      rw [if_neg (by rw [ti]; omega)]
      have tn : ((nI j).toInt - 0).toNat = j := by rw [ti]; omega
      rw [tn]
      rcases (show j = 0 ∨ j = 1 ∨ j = 2 ∨ j = 3 ∨ j = 4 ∨ j = 5 ∨ j = 6 ∨ j = 7 ∨ j = 8 ∨ j = 9 ∨ j = 10 ∨ j = 11 ∨ j = 12 ∨ j = 13 ∨ j = 14 ∨ j = 15 ∨ j = 16 ∨ j = 17 ∨ j = 18 ∨ j = 19 ∨ j = 20 ∨ j = 21 ∨ j = 22 ∨ j = 23 ∨ j = 24 ∨ j = 25 ∨ j = 26 ∨ j = 27 ∨ 28 ≤ j by omega) with rfl | rfl | rfl | rfl | rfl | rfl | rfl | rfl | rfl | rfl | rfl | rfl | rfl | rfl | rfl | rfl | rfl | rfl | rfl | rfl | rfl | rfl | rfl | rfl | rfl | rfl | rfl | rfl | hj28
      · show (q_sx L sx (nI i + 1)).bind _ = some ()
        obtain ⟨v, h1, h2, r2, e1, e2, e3, e4⟩ := s0 (sx (i + 1)) (((sx (i + 2)).toInt64 <<< ((32 : Int32).toInt64 &&& 63)) ||| ((sx (i + 3)).toInt64 &&& (4294967295 : Int64))) h r R
        simp only [q1, q2, q3, Option.bind_some, q_on, k0, if_true, e1, bi_some, e2, e3]
        exact next h2 r2 e4
      · show q_on h 0 5 _ = some ()
        obtain ⟨v, h1, h2, r2, e1, e2, e3, e4⟩ := s1  h r R
        simp only [q1, q2, q3, q4, Option.bind_some, q_on, k0, if_true, e1, bi_some, e2, e3]
        exact next h2 r2 e4
      · show q_on h 0 5 _ = some ()
        obtain ⟨v, h1, h2, r2, e1, e2, e3, e4⟩ := s2  h r R
        simp only [q1, q2, q3, q4, Option.bind_some, q_on, k0, if_true, e1, bi_some, e2, e3]
        exact next h2 r2 e4
      · show (q_sx L sx (nI i + 1)).bind _ = some ()
        obtain ⟨v, h1, h2, r2, e1, e2, e3, e4⟩ := s3 (sx (i + 1)) h r R
        simp only [q1, q2, q3, q4, Option.bind_some, q_on, k0, if_true, e1, bi_some, e2, e3]
        exact next h2 r2 e4
      · show (q_sx L sx (nI i + 1)).bind _ = some ()
        obtain ⟨v, h1, h2, r2, e1, e2, e3, e4⟩ := s4 (sx (i + 1)) (sx (i + 2)) h r R
        simp only [q1, q2, q3, q4, Option.bind_some, q_on, k0, if_true, e1, bi_some, e2, e3]
        exact next h2 r2 e4
      · show (q_sx L sx (nI i + 1)).bind _ = some ()
        obtain ⟨v, h1, h2, r2, e1, e2, e3, e4⟩ := s5 (sx (i + 1)) (sx (i + 2)) (sx (i + 3)) h r R
        simp only [q1, q2, q3, q4, Option.bind_some, q_on, k0, if_true, e1, bi_some, e2, e3]
        exact next h2 r2 e4
      · show (q_sx L sx (nI i + 1)).bind _ = some ()
        obtain ⟨v, h1, h2, r2, e1, e2, e3, e4⟩ := s6 (sx (i + 1)) (sx (i + 2)) h r R
        simp only [q1, q2, q3, q4, Option.bind_some, q_on, k0, if_true, e1, bi_some, e2, e3]
        exact next h2 r2 e4
      · show (q_sx L sx (nI i + 1)).bind _ = some ()
        obtain ⟨v, h1, h2, r2, e1, e2, e3, e4⟩ := s7 (sx (i + 1)) (sx (i + 2)) h r R
        simp only [q1, q2, q3, q4, Option.bind_some, q_on, k0, if_true, e1, bi_some, e2, e3]
        exact next h2 r2 e4
      · show (q_sx L sx (nI i + 1)).bind _ = some ()
        obtain ⟨v, h1, h2, r2, e1, e2, e3, e4⟩ := s8 (sx (i + 1)) (sx (i + 2)) (sx (i + 3)) h r R
        simp only [q1, q2, q3, q4, Option.bind_some, q_on, k0, if_true, e1, bi_some, e2, e3]
        exact next h2 r2 e4
      · show (q_sx L sx (nI i + 1)).bind _ = some ()
        obtain ⟨v, h1, h2, r2, e1, e2, e3, e4⟩ := s9 (sx (i + 1)) (sx (i + 2)) (sx (i + 3)) (sx (i + 4)) h r R
        simp only [q1, q2, q3, q4, Option.bind_some, q_on, k0, if_true, e1, bi_some, e2, e3]
        exact next h2 r2 e4
      · show (q_sx L sx (nI i + 1)).bind _ = some ()
        obtain ⟨v, h1, h2, r2, e1, e2, e3, e4⟩ := s10 (sx (i + 1)) (sx (i + 2)) (sx (i + 3)) h r R
        simp only [q1, q2, q3, q4, Option.bind_some, q_on, k0, if_true, e1, bi_some, e2, e3]
        exact next h2 r2 e4
      · show (q_sx L sx (nI i + 1)).bind _ = some ()
        obtain ⟨v, h1, h2, r2, e1, e2, e3, e4⟩ := s11 (sx (i + 1)) h r R
        simp only [q1, q2, q3, q4, Option.bind_some, q_on, k0, if_true, e1, bi_some, e2, e3]
        exact next h2 r2 e4
      · show (q_sx L sx (nI i + 1)).bind _ = some ()
        obtain ⟨v, h1, h2, r2, e1, e2, e3, e4⟩ := s12 (sx (i + 1)) (sx (i + 2)) h r R
        simp only [q1, q2, q3, q4, Option.bind_some, q_on, k0, if_true, e1, bi_some, e2, e3]
        exact next h2 r2 e4
      · show (q_sx L sx (nI i + 1)).bind _ = some ()
        obtain ⟨v, h1, h2, r2, e1, e2, e3, e4⟩ := s13 (sx (i + 1)) (sx (i + 2)) h r R
        simp only [q1, q2, q3, q4, Option.bind_some, q_on, k0, if_true, e1, bi_some, e2, e3]
        exact next h2 r2 e4
      · show (q_sx L sx (nI i + 1)).bind _ = some ()
        obtain ⟨v, h1, h2, r2, e1, e2, e3, e4⟩ := s14 (sx (i + 1)) (sx (i + 2)) (sx (i + 3)) h r R
        simp only [q1, q2, q3, q4, Option.bind_some, q_on, k0, if_true, e1, bi_some, e2, e3]
        exact next h2 r2 e4
      · show (q_sx L sx (nI i + 1)).bind _ = some ()
        obtain ⟨v, h1, h2, r2, e1, e2, e3, e4⟩ := s15 (sx (i + 1)) (sx (i + 2)) h r R
        simp only [q1, q2, q3, q4, Option.bind_some, q_on, k0, if_true, e1, bi_some, e2, e3]
        exact next h2 r2 e4
      · show (q_sx L sx (nI i + 1)).bind _ = some ()
        obtain ⟨v, h1, h2, r2, e1, e2, e3, e4⟩ := s16 (sx (i + 1)) (sx (i + 2)) (sx (i + 3)) h r R
        simp only [q1, q2, q3, q4, Option.bind_some, q_on, k0, if_true, e1, bi_some, e2, e3]
        exact next h2 r2 e4
      · show (q_sx L sx (nI i + 1)).bind _ = some ()
        obtain ⟨v, h1, h2, r2, e1, e2, e3, e4⟩ := s17 (sx (i + 1)) (sx (i + 2)) h r R
        simp only [q1, q2, q3, q4, Option.bind_some, q_on, k0, if_true, e1, bi_some, e2, e3]
        exact next h2 r2 e4
      · show (q_sx L sx (nI i + 1)).bind _ = some ()
        obtain ⟨v, h1, h2, r2, e1, e2, e3, e4⟩ := s18 (sx (i + 1)) h r R
        simp only [q1, q2, q3, q4, Option.bind_some, q_on, k0, if_true, e1, bi_some, e2, e3]
        exact next h2 r2 e4
      · show (q_sx L sx (nI i + 1)).bind _ = some ()
        obtain ⟨v, h1, h2, r2, e1, e2, e3, e4⟩ := s19 (sx (i + 1)) h r R
        simp only [q1, q2, q3, q4, Option.bind_some, q_on, k0, if_true, e1, bi_some, e2, e3]
        exact next h2 r2 e4
      · show (q_sx L sx (nI i + 1)).bind _ = some ()
        have hc : (if sx (i + 3) = 0 then (0 : Int32) else 1) = 0 ∨ (if sx (i + 3) = 0 then (0 : Int32) else 1) = 1 := by
          by_cases e : sx (i + 3) = 0 <;> simp [e]
        obtain ⟨v, h1, h2, r2, e1, e2, e3, e4⟩ := s20 (sx (i + 1)) (sx (i + 2)) _ hc h r R
        simp only [q1, q2, q3, Option.bind_some]
        by_cases e : sx (i + 3) = 0
        · rw [if_pos e] at e1 e3 ⊢
          unfold b_L_law_864
          simp only [q1, q2, q3, Option.bind_some, q_on, k0, if_true, e1, bi_some, e, b_L_law_891, e2, e3]
          exact next h2 r2 e4
        · rw [if_neg e] at e1 e3 ⊢
          unfold b_L_law_864
          simp only [q1, q2, q3, Option.bind_some, q_on, k0, if_true, e1, bi_some, e, if_false, b_L_law_891, e2, e3]
          exact next h2 r2 e4
      · show q_on h 0 5 _ = some ()
        obtain ⟨v, h1, h2, r2, e1, e2, e3, e4⟩ := s21  h r R
        simp only [q1, q2, q3, q4, Option.bind_some, q_on, k0, if_true, e1, bi_some, e2, e3]
        exact next h2 r2 e4
      · show (q_sx L sx (nI i + 1)).bind _ = some ()
        obtain ⟨v, h1, h2, r2, e1, e2, e3, e4⟩ := s22 (sx (i + 1)) (sx (i + 2)) h r R
        simp only [q1, q2, q3, q4, Option.bind_some, q_on, k0, if_true, e1, bi_some, e2, e3]
        exact next h2 r2 e4
      · show q_on h 0 5 _ = some ()
        obtain ⟨v, h1, h2, r2, e1, e2, e3, e4⟩ := s23  h r R
        simp only [q1, q2, q3, q4, Option.bind_some, q_on, k0, if_true, e1, bi_some, e2, e3]
        exact next h2 r2 e4
      · show (q_sx L sx (nI i + 1)).bind _ = some ()
        obtain ⟨v, h1, h2, r2, e1, e2, e3, e4⟩ := s24 (sx (i + 1)) h r R
        simp only [q1, q2, q3, q4, Option.bind_some, q_on, k0, if_true, e1, bi_some, e2, e3]
        exact next h2 r2 e4
      · show (q_sx L sx (nI i + 1)).bind _ = some ()
        obtain ⟨v, h1, h2, r2, e1, e2, e3, e4⟩ := s25 (sx (i + 1)) h r R
        simp only [q1, q2, q3, q4, Option.bind_some, q_on, k0, if_true, e1, bi_some, e2, e3]
        exact next h2 r2 e4
      · show (q_sx L sx (nI i + 1)).bind _ = some ()
        obtain ⟨v, h1, h2, r2, e1, e2, e3, e4⟩ := s26 (sx (i + 1)) h r R
        simp only [q1, q2, q3, q4, Option.bind_some, q_on, k0, if_true, e1, bi_some, e2, e3]
        exact next h2 r2 e4
      · show (q_sx L sx (nI i + 1)).bind _ = some ()
        obtain ⟨v, h1, h2, r2, e1, e2, e3, e4⟩ := s27 (sx (i + 1)) h r R
        simp only [q1, q2, q3, q4, Option.bind_some, q_on, k0, if_true, e1, bi_some, e2, e3]
        exact next h2 r2 e4
      · rw [List.getElem?_eq_none (by simpa using hj28)]
        exact next h r R
theorem law_all {L : Nat} {sx : Nat → Int32} (hL : L ≤ 320) (S : StepsR 1000) (R : Rel hE (2, 7, 16, 48, 53)) : b_L_law_0 1000 L sx h00 = some () := by
  rw [law_0]
  exact law_loop hL S 1000 0 hE _ R (by omega) (by omega)
