/-! ===== boxes: what is left of the places of a mark ===== -/
abbrev Bx : Type := Int32 × Int32 × Int32 × Int32
def mx (a v : Int32) : Int32 := if a < v then v else a
def mn (b v : Int32) : Int32 := if v < b then v else b
def nb (w x y : Int32) (o : Option Bx) : Bx := match o with
  | none => (x - w, x + w, y - w, y + w)
  | some B => (mx B.1 (x - w), mn B.2.1 (x + w), mx B.2.2.1 (y - w), mn B.2.2.2 (y + w))
/-- the box behind the first m maps: u says which of them count -/
def bxs (w : Int32) (u : Nat → Bool) (X Y : Nat → Int32) : Nat → Option Bx
  | 0 => none
  | m + 1 => if u m then some (nb w (X m) (Y m) (bxs w u X Y m)) else bxs w u X Y m
def cbx (o : Option Bx) : Bx := match o with
  | none => (-1000000, 1000000, -1000000, 1000000)
  | some B => B
theorem cl {m : Nat} (h : m < 2 ^ 31) : (nI m).toNatClampNeg = m := nI_clamp h
/-- the island that the judge looks at -/
def Jp (r : Rs) : Prop := r.2.2.2.1 = 2 ∨ r.2.2.2.1 = 7
def nrC (h : Hp) (w : Int32) (m k : Nat) : Hp := sI (sI (sI (sI (sI h 42 k (mx (zI h 42 k) (zI h 40 (9 * m + k) - w))) 43 k (mn (zI h 43 k) (zI h 40 (9 * m + k) + w))) 44 k (mx (zI h 44 k) (zI h 41 (9 * m + k) - w))) 45 k (mn (zI h 45 k) (zI h 41 (9 * m + k) + w))) 38 13 (zI h 38 13 ||| (1 : Int32) <<< (nI k &&& 31))
theorem e_narrowC {f m k : Nat} {h : Hp} {r : Rs} (H : Sh h r) (jp : Jp r) (hm : m < 6) (hk : k < 9) : f_X1_narrow f 38 (nI m) (nI k) h = some (nrC h (zI h r.2.2.2.1 7) m k) := by
  have i54 : 9 * m + k < 54 := by omega
  have q54 := qin i54 (by decide)
  have q9 := qin hk (by decide)
  have c54 := cl (m := 9 * m + k) (by omega)
  have c9 := cl (m := k) (by omega)
  have Sj := Ip_S H jp
  have nj : ∀ a, 38 ≤ a → ¬ r.2.2.2.1 = a := fun a ha e => by rcases jp with q | q <;> omega
  unfold f_X1_narrow nrC
  simp only [ix9, gr_k (S_38 H) (R_38_1 H), gr_k (S_38 H) (R_38_2 H), gr_k (S_38 H) (R_38_3 H), gr_k (S_38 H) (R_38_9 H), Option.bind_some, ai_nI (S_40 H) i54 (by decide), ai_nI (S_41 H) i54 (by decide), ai_nI (S_42 H) hk (by decide), gi_k Sj, as_nI (S_42 H) hk (by decide)]
  have H1 : ∀ v1, Sh (sI h 42 k v1) r := fun _ => H
  have H2 : ∀ v1 v2, Sh (sI (sI h 42 k v1) 43 k v2) r := fun _ _ => H
  have H3 : ∀ v1 v2 v3, Sh (sI (sI (sI h 42 k v1) 43 k v2) 44 k v3) r := fun _ _ _ => H
  have H4 : ∀ v1 v2 v3 v4, Sh (sI (sI (sI (sI h 42 k v1) 43 k v2) 44 k v3) 45 k v4) r := fun _ _ _ _ => H
  simp only [gr_k (S_38 (H1 _)) (R_38_4 (H1 _)), gr_k (S_38 (H1 _)) (R_38_9 (H1 _)), Option.bind_some, ai_nI (S_43 (H1 _)) hk (by decide), gi_k (Ip_S (H1 _) jp), as_nI (S_43 (H1 _)) hk (by decide)]
  simp only [gr_k (S_38 (H2 _ _)) (R_38_5 (H2 _ _)), gr_k (S_38 (H2 _ _)) (R_38_9 (H2 _ _)), Option.bind_some, ai_nI (S_44 (H2 _ _)) hk (by decide), gi_k (Ip_S (H2 _ _) jp), as_nI (S_44 (H2 _ _)) hk (by decide)]
  simp only [gr_k (S_38 (H3 _ _ _)) (R_38_6 (H3 _ _ _)), gr_k (S_38 (H3 _ _ _)) (R_38_9 (H3 _ _ _)), Option.bind_some, ai_nI (S_45 (H3 _ _ _)) hk (by decide), gi_k (Ip_S (H3 _ _ _) jp), as_nI (S_45 (H3 _ _ _)) hk (by decide)]
  simp only [gi_k (S_38 (H4 _ _ _ _)), pi_k (S_38 (H4 _ _ _ _)), Option.bind_some]
  have z1 : ∀ v1, zI (sI h 42 k v1) r.2.2.2.1 = zI h r.2.2.2.1 := fun _ => zI_row (nj _ (by omega))
  have z2 : ∀ v1 v2, zI (sI (sI h 42 k v1) 43 k v2) r.2.2.2.1 = zI h r.2.2.2.1 := fun _ _ => by rw [zI_row (nj _ (by omega)), z1]
  have z3 : ∀ v1 v2 v3, zI (sI (sI (sI h 42 k v1) 43 k v2) 44 k v3) r.2.2.2.1 = zI h r.2.2.2.1 := fun _ _ _ => by rw [zI_row (nj _ (by omega)), z2]
  simp only [z1, z2, z3, zI_row (show (43 : Nat) ≠ 42 by decide), zI_row (show (44 : Nat) ≠ 43 by decide), zI_row (show (44 : Nat) ≠ 42 by decide), zI_row (show (45 : Nat) ≠ 44 by decide), zI_row (show (45 : Nat) ≠ 43 by decide), zI_row (show (45 : Nat) ≠ 42 by decide), zI_row (show (38 : Nat) ≠ 45 by decide), zI_row (show (38 : Nat) ≠ 44 by decide), zI_row (show (38 : Nat) ≠ 43 by decide), zI_row (show (38 : Nat) ≠ 42 by decide), mx, mn]
/-- class: what a try changes -/
def FrC (h h' : Hp) : Prop := (∀ a j, ¬ (42 ≤ a ∧ a ≤ 45) → ¬ (a = 38 ∧ j = 13) → zI h' a j = zI h a j) ∧ zS h' = zS h ∧ zR h' = zR h ∧ zL h' = zL h ∧ zN h' = zN h
theorem FrC_rf (h : Hp) : FrC h h := ⟨fun _ _ _ _ => rfl, rfl, rfl, rfl, rfl⟩
theorem FrC_tr {a b c : Hp} (x : FrC a b) (y : FrC b c) : FrC a c := ⟨fun p q h1 h2 => (y.1 p q h1 h2).trans (x.1 p q h1 h2), y.2.1.trans x.2.1, y.2.2.1.trans x.2.2.1, y.2.2.2.1.trans x.2.2.2.1, y.2.2.2.2.trans x.2.2.2.2⟩
theorem FrC_sI {h : Hp} {a k : Nat} {v : Int32} (e : (42 ≤ a ∧ a ≤ 45) ∨ (a = 38 ∧ k = 13)) : FrC h (sI h a k v) := by
  refine ⟨fun p q h1 h2 => ?_, rfl, rfl, rfl, rfl⟩
  rw [zI_sI, if_neg]
  rintro ⟨rfl, rfl⟩
  rcases e with e | e
  · exact h1 e
  · exact h2 e
theorem FrC_Sh {h h' : Hp} {r : Rs} (x : FrC h h') (H : Sh h r) : Sh h' r := by
  unfold Sh at H ⊢
  rw [x.2.1, x.2.2.1]
  exact H
theorem FrC_nr (h : Hp) (w : Int32) (m k : Nat) : FrC h (nrC h w m k) :=
  FrC_tr (FrC_tr (FrC_tr (FrC_tr (FrC_sI (Or.inl (by omega))) (FrC_sI (Or.inl (by omega)))) (FrC_sI (Or.inl (by omega)))) (FrC_sI (Or.inl (by omega)))) (FrC_sI (Or.inr ⟨rfl, rfl⟩))
/-- the box of mark k in the class's rows -/
def CB (h : Hp) (k : Nat) : Bx := (zI h 42 k, zI h 43 k, zI h 44 k, zI h 45 k)
def nbC (w x y : Int32) (B : Bx) : Bx := (mx B.1 (x - w), mn B.2.1 (x + w), mx B.2.2.1 (y - w), mn B.2.2.2 (y + w))
theorem CB_nr (h : Hp) (w : Int32) (m k : Nat) : CB (nrC h w m k) k = nbC w (zI h 40 (9 * m + k)) (zI h 41 (9 * m + k)) (CB h k) := by
  simp [CB, nrC, nbC, zI_sI]
theorem CB_nr' (h : Hp) (w : Int32) (m k j : Nat) (hj : j ≠ k) : CB (nrC h w m k) j = CB h j := by
  simp [CB, nrC, zI_sI, hj]
theorem NR_nr (h : Hp) (w : Int32) (m k : Nat) : zI (nrC h w m k) 38 13 = zI h 38 13 ||| (1 : Int32) <<< (nI k &&& 31) := by
  simp [nrC, zI_sI]
theorem hb_all : ∀ s, s < 512 → ∀ k, k < 9 → hb (nI s) (nI k) = s.testBit k := by decide +kernel
theorem hb_or {s k j : Nat} (hs : s < 512) (hk : k < 9) (hj : j < 9) : ∃ t, t < 512 ∧ nI s ||| (1 : Int32) <<< (nI k &&& 31) = nI t ∧ hb (nI t) (nI j) = (hb (nI s) (nI j) || decide (j = k)) := by
  obtain ⟨t, ht, e⟩ := or1 (n := 9) hs hk (by omega)
  refine ⟨s ||| 2 ^ k, ?_, ?_, ?_⟩
  · exact Nat.or_lt_two_pow (n := 9) hs (Nat.pow_lt_pow_right (by decide) hk)
  · rw [sh1 k hk, fa_or]
  · rw [hb_all _ (Nat.or_lt_two_pow (n := 9) hs (Nat.pow_lt_pow_right (by decide) hk)) j hj, hb_all s hs j hj, fb_bit_set]
