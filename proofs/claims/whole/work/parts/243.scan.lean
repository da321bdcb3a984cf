/-! ===== reading a text: where a stretch ends ===== -/
def rn (p : Nat → Bool) (n : Nat) : Nat → Nat → Nat
  | 0, i => i
  | d + 1, i => if i < n ∧ p i = true then rn p n d (i + 1) else i
def en (p : Nat → Bool) (n i : Nat) : Nat := rn p n (n - i) i
theorem en_stop {p : Nat → Bool} {n i : Nat} (h : ¬ (i < n ∧ p i = true)) : en p n i = i := by
  unfold en
  cases n - i with
  | zero => rfl
  | succ d => show (if _ then _ else _) = _; rw [if_neg h]
theorem en_step {p : Nat → Bool} {n i : Nat} (h : i < n) (hp : p i = true) : en p n i = en p n (i + 1) := by
  unfold en
  obtain ⟨d, hd⟩ : ∃ d, n - i = d + 1 := ⟨n - i - 1, by omega⟩
  rw [hd, show n - (i + 1) = d by omega]
  show (if _ then _ else _) = _
  rw [if_pos ⟨h, hp⟩]
theorem en_facts {p : Nat → Bool} {n : Nat} : ∀ (d i : Nat), n = i + d → i ≤ en p n i ∧ en p n i ≤ n ∧ ¬ (en p n i < n ∧ p (en p n i) = true) ∧ ∀ j, i ≤ j → j < en p n i → p j = true := by
  intro d
  induction d with
  | zero =>
    intro i h
    rw [en_stop (by omega)]
    exact ⟨Nat.le_refl _, by omega, by omega, fun j h1 h2 => by omega⟩
  | succ d ih =>
    intro i h
    by_cases c : p i = true
    · rw [en_step (by omega) c]
      obtain ⟨h1, h2, h3, h4⟩ := ih (i + 1) (by omega)
      refine ⟨by omega, h2, h3, fun j hj hj2 => ?_⟩
      by_cases e : j = i
      · rw [e]; exact c
      · exact h4 j (by omega) hj2
    · rw [en_stop (fun q => c q.2)]
      exact ⟨Nat.le_refl _, by omega, fun q => c q.2, fun j h1 h2 => by omega⟩
theorem en_ge {p : Nat → Bool} {n i : Nat} (h : i ≤ n) : i ≤ en p n i := (en_facts (p := p) (n - i) i (by omega)).1
theorem en_le {p : Nat → Bool} {n i : Nat} (h : i ≤ n) : en p n i ≤ n := (en_facts (p := p) (n - i) i (by omega)).2.1
theorem en_no {p : Nat → Bool} {n i : Nat} (h : i ≤ n) : ¬ (en p n i < n ∧ p (en p n i) = true) := (en_facts (p := p) (n - i) i (by omega)).2.2.1
theorem en_all {p : Nat → Bool} {n i : Nat} (h : i ≤ n) : ∀ j, i ≤ j → j < en p n i → p j = true := (en_facts (p := p) (n - i) i (by omega)).2.2.2
theorem en_en {p : Nat → Bool} {n i : Nat} (h : i ≤ n) : en p n (en p n i) = en p n i := en_stop (en_no h)
def pSp (t : Nat → Nat) (j : Nat) : Bool := decide (t j = 32)
def pD (t : Nat → Nat) (j : Nat) : Bool := decide (48 ≤ t j ∧ t j ≤ 57)
def pW (t : Nat → Nat) (j : Nat) : Bool := decide (97 ≤ t j ∧ t j ≤ 122)
abbrev sk (t : Nat → Nat) (n i : Nat) : Nat := en (pSp t) n i
abbrev dE (t : Nat → Nat) (n i : Nat) : Nat := en (pD t) n i
abbrev wE (t : Nat → Nat) (n i : Nat) : Nat := en (pW t) n i
/-- the number of k figures from s on -/
def nv (t : Nat → Nat) (s : Nat) : Nat → Nat
  | 0 => 0
  | k + 1 => nv t s k * 10 + (t (s + k) - 48)
theorem nv_lt {t : Nat → Nat} {s : Nat} : ∀ k, (∀ j, s ≤ j → j < s + k → pD t j = true) → nv t s k < 10 ^ k
  | 0, _ => by show 0 < 1; omega
  | k + 1, h => by
    have ih := nv_lt k (fun j h1 h2 => h j h1 (by omega))
    have hk := h (s + k) (by omega) (by omega)
    unfold pD at hk
    simp only [decide_eq_true_eq] at hk
    show nv t s k * 10 + (t (s + k) - 48) < 10 ^ (k + 1)
    rw [Nat.pow_succ]
    omega
theorem nv_4 {t : Nat → Nat} {s e : Nat} (h : ∀ j, s ≤ j → j < e → pD t j = true) (h4 : e - s ≤ 4) (hs : s ≤ e) : nv t s (e - s) ≤ 9999 := by
  have h1 := nv_lt (t := t) (s := s) (e - s) (fun j a b => h j a (by omega))
  have h2 : 10 ^ (e - s) ≤ 10 ^ 4 := Nat.pow_le_pow_right (by decide) h4
  have h3 : (10 : Nat) ^ 4 = 10000 := by decide
  omega
/-- the number from s to e, as it counts -/
def nV (t : Nat → Nat) (s e : Nat) : Nat := if e - s ≤ 4 then nv t s (e - s) else 10000
theorem nV_le {t : Nat → Nat} {s e : Nat} (h : ∀ j, s ≤ j → j < e → pD t j = true) (hs : s ≤ e) : nV t s e ≤ 10000 := by
  unfold nV
  split
  · have := nv_4 h (by assumption) hs; omega
  · exact Nat.le_refl _
/-! bytes -/
abbrev bv (c : Nat) : Int32 := (nI c).toInt8.toInt32
theorem bv_32 : ∀ c, c < 256 → (bv c = 32 ↔ c = 32) := by decide +kernel
theorem bv_59 : ∀ c, c < 256 → (bv c = 59 ↔ c = 59) := by decide +kernel
theorem bv_D : ∀ c, c < 256 → ((bv c < 48 ∨ 57 < bv c) ↔ ¬ (48 ≤ c ∧ c ≤ 57)) := by decide +kernel
theorem bv_W : ∀ c, c < 256 → ((bv c < 97 ∨ 122 < bv c) ↔ ¬ (97 ≤ c ∧ c ≤ 122)) := by decide +kernel
theorem bv_i : ∀ c, c < 128 → bv c = nI c := by decide +kernel
/-! only some cells have changed (longs aside) -/
def Fx (Q : Nat → Nat → Bool) (h h' : Hp) : Prop := (∀ a j, Q a j = false → zI h' a j = zI h a j) ∧ zS h' = zS h ∧ zR h' = zR h
theorem Fx_rf (Q : Nat → Nat → Bool) (h : Hp) : Fx Q h h := ⟨fun _ _ _ => rfl, rfl, rfl⟩
theorem Fx_tr {Q : Nat → Nat → Bool} {a b c : Hp} (x : Fx Q a b) (y : Fx Q b c) : Fx Q a c := ⟨fun p q h1 => (y.1 p q h1).trans (x.1 p q h1), y.2.1.trans x.2.1, y.2.2.trans x.2.2⟩
theorem Fx_mono {Q Q' : Nat → Nat → Bool} {h h' : Hp} (x : Fx Q h h') (e : ∀ a j, Q' a j = false → Q a j = false) : Fx Q' h h' := ⟨fun a j q => x.1 a j (e a j q), x.2⟩
theorem Fx_sI {Q : Nat → Nat → Bool} {h : Hp} {a k : Nat} {v : Int32} (e : Q a k = true) : Fx Q h (sI h a k v) := ⟨(Fr_sI (Q := Q) e).1, rfl, rfl⟩
theorem Fx_then {Q : Nat → Nat → Bool} {h h' : Hp} {a k : Nat} {v : Int32} (x : Fx Q h h') (e : Q a k = true) : Fx Q h (sI h' a k v) := Fx_tr x (Fx_sI e)
theorem Fx_sL {Q : Nat → Nat → Bool} {h : Hp} {a k : Nat} {v : Int64} : Fx Q h (sL h a k v) := ⟨fun _ _ _ => rfl, rfl, rfl⟩
theorem Fx_Sh {Q : Nat → Nat → Bool} {h h' : Hp} {r : Rs} (x : Fx Q h h') (H : Sh h r) : Sh h' r := by
  obtain ⟨-, e1, e2⟩ := x
  unfold Sh at H ⊢
  rw [e1, e2]; exact H
theorem Fx_row {Q : Nat → Nat → Bool} {h h' : Hp} (x : Fx Q h h') {a : Nat} (e : ∀ j, Q a j = false) : zI h' a = zI h a := funext fun j => x.1 a j (e j)
theorem Fx_Fr {Q : Nat → Nat → Bool} {h h' : Hp} (x : Fr Q h h') : Fx Q h h' := ⟨x.1, x.2.1, x.2.2.1⟩
/-! ===== the class's cursor ===== -/
/-- the text as the class's reader has it -/
def TC (h : Hp) (r : Rs) (t : Nat → Nat) (n : Nat) : Prop := Sh h r ∧ r.2.2.1 = 1 ∧ n ≤ 400 ∧ zI h 12 4 = nI n ∧ ∀ j, j < n → t j < 256 ∧ zI h 1 j = bv (t j)
def QCu (a j : Nat) : Bool := decide (a = 12) && (decide (j = 5) || decide (j = 6))
theorem TC_Fx {Q : Nat → Nat → Bool} {h h' : Hp} {r : Rs} {t : Nat → Nat} {n : Nat} (T : TC h r t n) (F : Fx Q h h') (q1 : ∀ j, Q 1 j = false) (q2 : Q 12 4 = false) : TC h' r t n := by
  obtain ⟨H, e, hn, e4, tx⟩ := T
  refine ⟨Fx_Sh F H, e, hn, (F.1 12 4 q2).trans e4, fun j hj => ⟨(tx j hj).1, (F.1 1 j (q1 j)).trans (tx j hj).2⟩⟩
theorem TC_QA {h h' : Hp} {r : Rs} {t : Nat → Nat} {n : Nat} (T : TC h r t n) (F : Fx QCu h h') : TC h' r t n := TC_Fx T F (fun _ => rfl) rfl
section CUR
variable {f : Nat} {r : Rs} {t : Nat → Nat} {n : Nat}
theorem tx_at {h : Hp} {i : Nat} (T : TC h r t n) (hi : i < n) : q_gr h 12 2 3 = some 1 ∧ q_ai h 1 8 (nI i) = some (bv (t i)) := by
  obtain ⟨H, e, hn, e4, tx⟩ := T
  refine ⟨?_, ?_⟩
  · have := R_12_3 H
    rw [e] at this
    exact gr_k (S_12 H) this
  · rw [ai_nI (S_1 H) (by omega) (by decide), (tx i hi).2]
theorem toNext_go : ∀ (d i : Nat) (h : Hp), TC h r t n → i ≤ n → n < i + d → zI h 12 5 = nI i → ∃ h', l_X2_toNext_0 f d 12 h = some h' ∧ Fx QCu h h' ∧ zI h' 12 5 = nI (sk t n i) ∧ zI h' 12 6 = nI (sk t n i) := by
  intro d
  induction d with
  | zero => intro i h _ h1 h2; omega
  | succ d ih =>
    intro i h T hi hd e5
    obtain ⟨H, -, hn, e4, tx⟩ := id T
    show ∃ h', b_X2_toNext_0 f (l_X2_toNext_0 f d) 12 h = _ ∧ _
    unfold b_X2_toNext_0 b_X2_toNext_38
    rw [gi_k (S_12 H), Option.bind_some, gi_k (S_12 H), Option.bind_some, e5, e4]
    have stop : sk t n i = i → (∃ h', (some (nI i)).bind (fun v1_ => (q_pi h 12 2 6 v1_).bind fun h2_ => some h2_) = some h' ∧ Fx QCu h h' ∧ zI h' 12 5 = nI (sk t n i) ∧ zI h' 12 6 = nI (sk t n i)) := fun e => by
      rw [e]
      refine ⟨sI h 12 6 (nI i), ?_, Fx_sI rfl, by rw [zI_sI, if_neg (by omega)]; exact e5, by rw [zI_sI, if_pos ⟨rfl, rfl⟩]⟩
      rw [Option.bind_some, pi_k (S_12 H), Option.bind_some]
    by_cases c : n ≤ i
    · rw [if_pos ((nI_leI (by omega) (by omega)).mpr c)]
      exact stop (en_stop (fun q => by omega))
    · have hin : i < n := by omega
      obtain ⟨x1, x2⟩ := tx_at T hin
      rw [if_neg (fun e => c ((nI_leI (by omega) (by omega)).mp e)), x1, Option.bind_some, Option.bind_some, x2, Option.bind_some]
      by_cases c2 : t i = 32
      · rw [if_neg (fun q => q ((bv_32 _ (tx i hin).1).mpr c2)), Option.bind_some, pi_k (S_12 H), Option.bind_some, nI_p1]
        have F : Fx QCu h (sI h 12 5 (nI (i + 1))) := Fx_sI rfl
        obtain ⟨h', e, F', z1, z2⟩ := ih (i + 1) (sI h 12 5 (nI (i + 1))) (TC_QA T F) (by omega) (by omega) (by rw [zI_sI, if_pos ⟨rfl, rfl⟩])
        have es : sk t n i = sk t n (i + 1) := en_step hin (by unfold pSp; simp [c2])
        rw [es]
        exact ⟨h', e, Fx_tr F F', z1, z2⟩
      · rw [if_pos (fun e => c2 ((bv_32 _ (tx i hin).1).mp e))]
        exact stop (en_stop (fun q => by have := q.2; unfold pSp at this; simp [c2] at this))
theorem e_toNext {h : Hp} {i : Nat} (T : TC h r t n) (hi : i ≤ n) (hf : 500 ≤ f) (e5 : zI h 12 5 = nI i) : ∃ h', f_X2_toNext f 12 h = some h' ∧ Fx QCu h h' ∧ zI h' 12 5 = nI (sk t n i) ∧ zI h' 12 6 = nI (sk t n i) := toNext_go f i h T hi (by have := T.2.2.1; omega) e5
/-- figures: 12.6 = s, the value of at most four -/
theorem number_go {s : Nat} : ∀ (d i : Nat) (h : Hp), TC h r t n → s ≤ i → i ≤ n → n < i + d → zI h 12 5 = nI i → zI h 12 6 = nI s → (∀ j, s ≤ j → j < i → pD t j = true) → ∃ h', l_X2_readNumber_2 f d 12 (nI (nv t s (if i - s ≤ 4 then i - s else 4))) h = some ((if dE t n i = s then -1 else nI (nV t s (dE t n i))), h') ∧ Fx QCu h h' ∧ zI h' 12 5 = nI (dE t n i) ∧ zI h' 12 6 = nI s := by
  intro d
  induction d with
  | zero => intro i h _ _ h1 h2; omega
  | succ d ih =>
    intro i h T hs hi hd e5 e6 al
    obtain ⟨H, -, hn, e4, tx⟩ := id T
    show ∃ h', b_X2_readNumber_2 f (l_X2_readNumber_2 f d) 12 _ h = _ ∧ _
    unfold b_X2_readNumber_2 b_X2_readNumber_85 b_X2_readNumber_72 b_X2_readNumber_118 lt
    simp only [gi_k (S_12 H), Option.bind_some, e5, e6, e4]
    have sub : nI i - nI s = nI (i - s) := pk_sub (by omega)
    have stop : dE t n i = i → ∃ h', (if ¬nI i = nI s then if nI i - nI s ≤ 4 then some (nI (nv t s (if i - s ≤ 4 then i - s else 4)), h) else some (10000, h) else some (-1, h)) = some ((if dE t n i = s then (-1 : Int32) else nI (nV t s (dE t n i))), h') ∧ Fx QCu h h' ∧ zI h' 12 5 = nI (dE t n i) ∧ zI h' 12 6 = nI s := fun e => by
      rw [e]
      refine ⟨h, ?_, Fx_rf _ _, e5, e6⟩
      rw [sub]
      unfold nV
      by_cases c : i = s
      · rw [if_neg (fun q => q (by rw [c])), if_pos c]
      · rw [if_pos (fun q => c ((nI_eq (by omega) (by omega)).mp q)), if_neg c]
        by_cases c4 : i - s ≤ 4
        · rw [if_pos (show nI (i - s) ≤ (4 : Int32) from (nI_leI (b := 4) (by omega) (by omega)).mpr c4), if_pos c4, if_pos c4]
        · rw [if_neg (show ¬ nI (i - s) ≤ (4 : Int32) from fun q => c4 ((nI_leI (b := 4) (by omega) (by omega)).mp q)), if_neg c4]
          rfl
    by_cases c : n ≤ i
    · rw [if_pos ((nI_leI (by omega) (by omega)).mpr c)]
      exact stop (en_stop (fun q => by omega))
    · have hin : i < n := by omega
      obtain ⟨x1, x2⟩ := tx_at T hin
      simp only [if_neg (show ¬ nI n ≤ nI i from fun e => c ((nI_leI (by omega) (by omega)).mp e)), x1, Option.bind_some, x2]
      have t256 := (tx i hin).1
      by_cases c2 : 48 ≤ t i ∧ t i ≤ 57
      · have q1 : ¬ bv (t i) < 48 := fun e => (bv_D _ t256).mp (Or.inl e) c2
        have q2 : ¬ 57 < bv (t i) := fun e => (bv_D _ t256).mp (Or.inr e) c2
        have eb : bv (t i) = nI (t i) := bv_i _ (by omega)
        have F : Fx QCu h (sI h 12 5 (nI (i + 1))) := Fx_sI rfl
        have es : dE t n i = dE t n (i + 1) := en_step hin (by unfold pD; simp [c2])
        have al' : ∀ j, s ≤ j → j < i + 1 → pD t j = true := fun j h1 h2 => by
          by_cases ej : j = i
          · rw [ej]; unfold pD; simp [c2]
          · exact al j h1 (by omega)
        obtain ⟨h', e, F', z1, z2⟩ := ih (i + 1) (sI h 12 5 (nI (i + 1))) (TC_QA T F) (by omega) (by omega) (by omega) (by rw [zI_sI, if_pos ⟨rfl, rfl⟩]) (by rw [zI_sI, if_neg (by omega)]; exact e6) al'
        rw [if_neg q1, if_neg q2, sub, es, pi_k (S_12 H), Option.bind_some, nI_p1]
        refine ⟨h', ?_, Fx_tr F F', z1, z2⟩
        by_cases c4 : 4 ≤ i - s
        · rw [if_pos (show (4 : Int32) ≤ nI (i - s) from (nI_leI (a := 4) (by omega) (by omega)).mpr c4)]
          rw [← e]
          congr 3
          rw [if_neg (show ¬ (i + 1 - s ≤ 4) by omega)]
          by_cases c5 : i - s ≤ 4
          · rw [if_pos c5, show i - s = 4 by omega]
          · rw [if_neg c5]
        · rw [if_neg (show ¬ (4 : Int32) ≤ nI (i - s) from fun q => c4 ((nI_leI (a := 4) (by omega) (by omega)).mp q))]
          have ev : nI (nv t s (i - s)) * (10 : Int32) + (nI (t i) - (48 : Int32)) = nI (nv t s (i - s + 1)) := by
            show nI (nv t s (i - s)) * nI 10 + (nI (t i) - nI 48) = nI (nv t s (i - s) * 10 + (t (s + (i - s)) - 48))
            rw [pk_mul, pk_sub c2.1, nI_add, show s + (i - s) = i by omega]
          rw [← e, if_pos (show i - s ≤ 4 by omega), if_pos (show i + 1 - s ≤ 4 by omega), show i + 1 - s = (i - s) + 1 by omega, eb, ev]
          rfl
      · have st := stop (en_stop (fun q => by have := q.2; unfold pD at this; simp only [decide_eq_true_eq] at this; exact c2 this))
        rcases (bv_D _ t256).mpr c2 with q | q
        · rw [if_pos q]; exact st
        · by_cases q1 : bv (t i) < 48
          · rw [if_pos q1]; exact st
          · rw [if_neg q1, if_pos q]; exact st
theorem e_readNumber {h : Hp} {s : Nat} (T : TC h r t n) (hs : s ≤ n) (hf : 500 ≤ f) (e5 : zI h 12 5 = nI s) (e6 : zI h 12 6 = nI s) : ∃ h', f_X2_readNumber f 12 h = some ((if dE t n s = s then -1 else nI (nV t s (dE t n s))), h') ∧ Fx QCu h h' ∧ zI h' 12 5 = nI (dE t n s) ∧ zI h' 12 6 = nI s := by
  have g := number_go (f := f) (s := s) f s h T (Nat.le_refl s) hs (by have := T.2.2.1; omega) e5 e6 (fun j h1 h2 => by omega)
  rw [if_pos (by omega), Nat.sub_self] at g
  exact g
end CUR
