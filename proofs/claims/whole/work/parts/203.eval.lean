/-! ===== reading cells whose shape is known ===== -/
theorem ai_nI {h : Hp} {a kd n m : Nat} (e : zS h a = (kd, n)) (hm : m < n) (hn : n < 2 ^ 31) : q_ai h a kd (nI m) = some (zI h a m) := by
  unfold q_ai
  rw [if_pos ⟨by rw [e], by rw [e, q_in, nI_toInt (by omega)]; show _ ∧ (m : Int) < (n : Int); omega⟩, nI_clamp (by omega)]
theorem as_nI {h : Hp} {a kd n m : Nat} {v : Int32} (e : zS h a = (kd, n)) (hm : m < n) (hn : n < 2 ^ 31) : q_as h a kd (nI m) v = some (sI h a m v) := by
  unfold q_as
  rw [if_pos ⟨by rw [e], by rw [e, q_in, nI_toInt (by omega)]; show _ ∧ (m : Int) < (n : Int); omega⟩, nI_clamp (by omega)]
theorem gi_k {h : Hp} {a ci k n : Nat} (e : zS h a = (ci + 1, n)) : q_gi h a ci k = some (zI h a k) := by unfold q_gi; rw [e, if_pos rfl]
theorem gr_k {h : Hp} {a ci k n b : Nat} (e : zS h a = (ci + 1, n)) (e2 : zR h a k = some b) : q_gr h a ci k = some b := by unfold q_gr; rw [e, if_pos rfl, e2]
theorem pi_k {h : Hp} {a ci k n : Nat} {v : Int32} (e : zS h a = (ci + 1, n)) : q_pi h a ci k v = some (sI h a k v) := by unfold q_pi; rw [e, if_pos rfl]
theorem on_k {α : Type} {h : Hp} {a ci n : Nat} {K : Option α} (e : zS h a = (ci + 1, n)) : q_on h a ci K = K := by unfold q_on; rw [e, if_pos rfl]
section ISL
variable {h : Hp} {r : Rs} {p : Nat}
theorem Ip_S (H : Sh h r) (hp : p = 2 ∨ p = 7) : zS h p = (1, 0) := by rcases hp with rfl | rfl; exact S_2 H; exact S_7 H
theorem Ip_S1 (H : Sh h r) (hp : p = 2 ∨ p = 7) : zS h (p + 1) = (9, 9) := by rcases hp with rfl | rfl; exact S_3 H; exact S_8 H
theorem Ip_S2 (H : Sh h r) (hp : p = 2 ∨ p = 7) : zS h (p + 2) = (9, 9) := by rcases hp with rfl | rfl; exact S_4 H; exact S_9 H
theorem Ip_S3 (H : Sh h r) (hp : p = 2 ∨ p = 7) : zS h (p + 3) = (9, 54) := by rcases hp with rfl | rfl; exact S_5 H; exact S_10 H
theorem Ip_S4 (H : Sh h r) (hp : p = 2 ∨ p = 7) : zS h (p + 4) = (9, 54) := by rcases hp with rfl | rfl; exact S_6 H; exact S_11 H
theorem Ip_R0 (H : Sh h r) (hp : p = 2 ∨ p = 7) : zR h p 0 = some (p + 1) := by rcases hp with rfl | rfl; exact R_2_0 H; exact R_7_0 H
theorem Ip_R1 (H : Sh h r) (hp : p = 2 ∨ p = 7) : zR h p 1 = some (p + 2) := by rcases hp with rfl | rfl; exact R_2_1 H; exact R_7_1 H
theorem Ip_R2 (H : Sh h r) (hp : p = 2 ∨ p = 7) : zR h p 2 = some (p + 3) := by rcases hp with rfl | rfl; exact R_2_2 H; exact R_7_2 H
theorem Ip_R3 (H : Sh h r) (hp : p = 2 ∨ p = 7) : zR h p 3 = some (p + 4) := by rcases hp with rfl | rfl; exact R_2_3 H; exact R_7_3 H
end ISL
theorem Rp_p {r : Rs} (h : Rp r) : r.1 = 2 ∨ r.1 = 7 := by rcases h.1 with e | e <;> simp [e.1]
/-- is k a mark of n -/
def mkB (n : Nat) (k : Int32) : Bool := decide (0 ≤ k.toInt ∧ k.toInt < n)
theorem mkB_t {n : Nat} {k : Int32} (hn : n < 2 ^ 31) (e : mkB n k = true) : ∃ j, j < n ∧ k = nI j := by
  unfold mkB at e
  simp only [decide_eq_true_eq] at e
  exact vp_in_of (vp_in_iff.mpr e) hn
theorem i0 : (0 : Int32).toInt = 0 := by decide
theorem i1 : (1 : Int32).toInt = 1 := by decide
theorem e_isMarkC {f n : Nat} {h : Hp} {r : Rs} (H : Sh h r) (rp : Rp r) (hm : zI h r.1 4 = nI n) (hn : n ≤ 9) (k : Int32) : f_X5_isMark f 0 k h = some (b2 (mkB n k), h) := by
  unfold f_X5_isMark b_X5_isMark_19 b_X5_isMark_20 mkB
  rw [gr_k (S_0 H) (R_0_3 H), Option.bind_some, gi_k (Ip_S H (Rp_p rp)), Option.bind_some, hm]
  by_cases c1 : k < 0
  · rw [if_pos c1]
    have : decide (0 ≤ k.toInt ∧ k.toInt < n) = false := by
      rw [fa_lt, i0] at c1
      simp only [decide_eq_false_iff_not]; omega
    rw [this]; rfl
  · rw [if_neg c1]
    rw [fa_lt, i0] at c1
    by_cases c2 : nI n ≤ k
    · rw [if_pos c2]
      rw [fa_le, nI_toInt (by omega)] at c2
      have : decide (0 ≤ k.toInt ∧ k.toInt < n) = false := by
        simp only [decide_eq_false_iff_not]; omega
      rw [this]; rfl
    · rw [if_neg c2]
      rw [fa_le, nI_toInt (by omega)] at c2
      have : decide (0 ≤ k.toInt ∧ k.toInt < n) = true := by
        simp only [decide_eq_true_eq]; omega
      rw [this]; rfl
theorem nI_sub1 {n : Nat} (hn : n ≤ 100000) : (nI n - 1).toInt = (n : Int) - 1 := pk_sub_toInt (a := n) (b := 1) (by omega) (by omega)
theorem e_isMarkM {f n : Nat} {h : Hp} {r : Rs} (H : Sh h r) (hm : zI h 58 0 = nI n) (hn : n ≤ 9) (k : Int32) : f_X6_isMark f 58 k h = some (b2 (mkB n k), h) := by
  unfold f_X6_isMark mkB
  have h0 : (0 : Int64) = (0 : Int32).toInt64 := by decide
  rw [gi_k (S_58 H), Option.bind_some, hm, h0, e_inI, bi_some, b2_bo]
  congr 3
  have e : ((0 : Int32) ≤ k ∧ k ≤ nI n - 1) ↔ (0 ≤ k.toInt ∧ k.toInt < n) := by
    rw [fa_le, fa_le, i0, nI_sub1 (by omega)]; omega
  simp only [e]
theorem bandB (b : Int32) : decide (0 ≤ b ∧ b ≤ 5) = mkB 6 b := by
  unfold mkB
  have h5 : (5 : Int32).toInt = 5 := by decide
  have e : ((0 : Int32) ≤ b ∧ b ≤ 5) ↔ (0 ≤ b.toInt ∧ b.toInt < (6 : Nat)) := by
    rw [fa_le, fa_le, i0, h5]; omega
  simp only [e]
theorem e_bandC (f : Nat) (b : Int32) (h : Hp) : f_X5_isBand f b h = some (b2 (mkB 6 b), h) := by rw [e_isBandC, bandB]
theorem e_bandM (f : Nat) (b : Int32) (h : Hp) : f_X6_isBand f b h = some (b2 (mkB 6 b), h) := by rw [e_isBandM, bandB]
theorem e_inM (f : Nat) (v : Int32) (a b : Int64) (a' b' : Int32) (ha : a = a'.toInt64) (hb : b = b'.toInt64) (h : Hp) : f_X6_in f v.toInt64 a b h = some (b2 (decide (a' ≤ v ∧ v ≤ b')), h) := by
  rw [ha, hb, e_inI]
theorem b2_ne (b : Bool) : (¬ b2 b = 0) ↔ b = true := by cases b <;> decide
