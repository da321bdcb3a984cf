/-! ===== numbers: bits, ranges ===== -/
theorem and1 (x : Int32) : x &&& 1 = 0 ∨ x &&& 1 = 1 := by
  have h := pk_and x (m := 1) 1 (by decide)
  rw [h]
  have h2 : x.toBitVec.toNat % 2 ^ 1 = 0 ∨ x.toBitVec.toNat % 2 ^ 1 = 1 := by omega
  rcases h2 with e | e <;> rw [e]
  · exact Or.inl rfl
  · exact Or.inr rfl
/-- bit k of a set -/
def hb (s k : Int32) : Bool := decide ((s >>> (k &&& 31)) &&& 1 = 1)
theorem hb_t {s k : Int32} : (s >>> (k &&& 31)) &&& 1 = 0 ↔ hb s k = false := by
  unfold hb
  rcases and1 (s >>> (k &&& 31)) with e | e <;> rw [e] <;> decide
theorem hb_1 {s k : Int32} : (s >>> (k &&& 31)) &&& 1 = 1 ↔ hb s k = true := by
  unfold hb; simp
def b2 (b : Bool) : Int32 := if b then 1 else 0
theorem b2_0 (b : Bool) : b2 b = 0 ↔ b = false := by cases b <;> decide
theorem b2_1 (b : Bool) : b2 b = 1 ↔ b = true := by cases b <;> decide
theorem b2_bo {α : Type} (b : Bool) (K : Option α) : q_bo (b2 b) K = K := by cases b <;> rfl
theorem e_isIn (f : Nat) (s k : Int32) (h : Hp) : f_X5_isIn f s k h = some (b2 (hb s k), h) := by
  unfold f_X5_isIn b_X5_isIn_13
  by_cases c : (s >>> (k &&& 31)) &&& 1 = 0
  · rw [if_pos c, hb_t.mp c]; rfl
  · rw [if_neg c]
    have : hb s k = true := by cases e : hb s k with
      | true => rfl
      | false => exact absurd (hb_t.mpr e) c
    rw [this]; rfl
theorem e_has (f : Nat) (s k : Int32) (h : Hp) : f_X6_has f s k h = some (b2 (hb s k), h) := by
  unfold f_X6_has b_X6_has_14
  by_cases c : (s >>> (k &&& 31)) &&& 1 = 1
  · rw [if_neg (fun n => n c), hb_1.mp c]; rfl
  · rw [if_pos c]
    have : hb s k = false := by cases e : hb s k with
      | false => rfl
      | true => exact absurd (hb_1.mpr e) c
    rw [this]; rfl
theorem lg_lt (x y : Int64) : lg_cmp x y < 0 ↔ x < y := by
  unfold lg_cmp
  by_cases h1 : x > y
  · rw [if_pos h1]
    exact ⟨fun h => absurd h (by decide), fun h => absurd (Int64.lt_trans h h1) (Int64.lt_irrefl)⟩
  · rw [if_neg h1]
    by_cases h2 : x = y
    · rw [if_pos h2]
      exact ⟨fun h => absurd h (by decide), fun h => absurd (h2 ▸ h) (Int64.lt_irrefl)⟩
    · rw [if_neg h2]
      refine ⟨fun _ => ?_, fun _ => by decide⟩
      rcases Int64.lt_or_eq_of_le (Int64.not_lt.mp h1) with h | h
      · exact h
      · exact absurd h h2
theorem lg_gt (x y : Int64) : 0 < lg_cmp x y ↔ y < x := by
  unfold lg_cmp
  by_cases h1 : x > y
  · rw [if_pos h1]; exact ⟨fun _ => h1, fun _ => by decide⟩
  · rw [if_neg h1]
    by_cases h2 : x = y
    · rw [if_pos h2]; exact ⟨fun h => absurd h (by decide), fun h => absurd h h1⟩
    · rw [if_neg h2]; exact ⟨fun h => absurd h (by decide), fun h => absurd h h1⟩
theorem e_in (f : Nat) (v a b : Int64) (h : Hp) : f_X6_in f v a b h = some (b2 (decide (a ≤ v ∧ v ≤ b)), h) := by
  unfold f_X6_in b_X6_in_17 b_X6_in_18
  by_cases c1 : lg_cmp v a < 0
  · rw [if_pos c1]
    have h1 := (lg_lt v a).mp c1
    have : decide (a ≤ v ∧ v ≤ b) = false := by
      simp only [decide_eq_false_iff_not]
      exact fun hh => absurd h1 (Int64.not_lt.mpr hh.1)
    rw [this]; rfl
  · rw [if_neg c1]
    have h1 : a ≤ v := Int64.not_lt.mp (fun h => c1 ((lg_lt v a).mpr h))
    by_cases c2 : 0 < lg_cmp v b
    · rw [if_pos c2]
      have h2 := (lg_gt v b).mp c2
      have : decide (a ≤ v ∧ v ≤ b) = false := by
        simp only [decide_eq_false_iff_not]
        exact fun hh => absurd h2 (Int64.not_lt.mpr hh.2)
      rw [this]; rfl
    · rw [if_neg c2]
      have h2 : v ≤ b := Int64.not_lt.mp (fun h => c2 ((lg_gt v b).mpr h))
      have : decide (a ≤ v ∧ v ≤ b) = true := by
        simp only [decide_eq_true_eq]
        exact ⟨h1, h2⟩
      rw [this]; rfl
/-- the same for ints -/
theorem e_inI (f : Nat) (v a b : Int32) (h : Hp) : f_X6_in f v.toInt64 a.toInt64 b.toInt64 h = some (b2 (decide (a ≤ v ∧ v ≤ b)), h) := by
  rw [e_in]
  congr 3
  simp only [fa_wide_le]
theorem e_isBandM (f : Nat) (b : Int32) (h : Hp) : f_X6_isBand f b h = some (b2 (decide (0 ≤ b ∧ b ≤ 5)), h) := by
  unfold f_X6_isBand
  have h0 : (0 : Int64) = (0 : Int32).toInt64 := by decide
  have h5 : (5 : Int64) = (5 : Int32).toInt64 := by decide
  rw [h0, h5, e_inI]
  show q_bo _ _ = _
  rw [b2_bo]
theorem lt6 (b : Int32) : ¬ (6 : Int32) ≤ b ↔ b ≤ 5 := by
  rw [fa_le, fa_le]
  have h6 : (6 : Int32).toInt = 6 := by decide
  have h5 : (5 : Int32).toInt = 5 := by decide
  omega
theorem e_isBandC (f : Nat) (b : Int32) (h : Hp) : f_X5_isBand f b h = some (b2 (decide (0 ≤ b ∧ b ≤ 5)), h) := by
  unfold f_X5_isBand b_X5_isBand_14 b_X5_isBand_15
  by_cases c1 : b < 0
  · rw [if_pos c1]
    have : decide (0 ≤ b ∧ b ≤ 5) = false := by
      simp only [decide_eq_false_iff_not]
      exact fun hh => absurd c1 (Int32.not_lt.mpr hh.1)
    rw [this]; rfl
  · rw [if_neg c1]
    by_cases c2 : (6 : Int32) ≤ b
    · rw [if_pos c2]
      have : decide (0 ≤ b ∧ b ≤ 5) = false := by
        simp only [decide_eq_false_iff_not]
        exact fun hh => absurd c2 ((lt6 b).mpr hh.2)
      rw [this]; rfl
    · rw [if_neg c2]
      have : decide (0 ≤ b ∧ b ≤ 5) = true := by
        simp only [decide_eq_true_eq]
        exact ⟨Int32.not_lt.mp c1, (lt6 b).mp c2⟩
      rw [this]; rfl
