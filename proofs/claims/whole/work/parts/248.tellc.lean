/-! ===== the class takes a clause's numbers and tells it ===== -/
def CIl (h : Hp) (r : Rs) (q : Nat) (t : Nat → Nat) (n : Nat) (P : Ps) : Prop := TC h r t n ∧ (q = 2 ∨ q = 7) ∧
  (zI h q 4 = nI (qN P) ∧ zI h q 5 = nI (qL P) ∧ zI h q 6 = nI (qJ P) ∧ zI h q 7 = nI (qI P) ∧ zI h q 8 = nI (qA P) ∧ zI h q 9 = nI (qB P) ∧ zI h q 10 = nI (qD P) ∧ zI h q 11 = nI (qp P) ∧ zI h q 12 = nI (qz P)) ∧
  (∀ k, k < qN P → zI h (q + 1) k = nI (qX P k) ∧ zI h (q + 2) k = nI (qY P k)) ∧
  (∀ m, m < 6 → ∀ k, k < qN P → zI h (q + 3) (9 * m + k) = qU P m k ∧ zI h (q + 4) (9 * m + k) = qV P m k) ∧
  (∀ m, m < 6 → zI h 15 m = nI (qC P m))
theorem CIl_Fx {Q : Nat → Nat → Bool} {h h' : Hp} {r : Rs} {q : Nat} {t : Nat → Nat} {n : Nat} {P : Ps} (C : CIl h r q t n P) (F : Fx Q h h') (hQ : ∀ a j, (a < 12 ∨ a = 15 ∨ (a = 12 ∧ j = 4)) → Q a j = false) : CIl h' r q t n P := by
  obtain ⟨T, hq, c1, c2, c3, c4⟩ := C
  have z : ∀ a j, (a < 12 ∨ a = 15 ∨ (a = 12 ∧ j = 4)) → zI h' a j = zI h a j := fun a j ha => F.1 a j (hQ a j ha)
  have zq : ∀ j, zI h' q j = zI h q j := fun j => z q j (by omega)
  refine ⟨TC_Fx T F (fun j => hQ 1 j (by omega)) (hQ 12 4 (by omega)), hq, ?_, fun k hk => ?_, fun m hm k hk => ?_, fun m hm => ?_⟩
  · simp only [zq]; exact c1
  · rw [z _ _ (by omega), z _ _ (by omega)]; exact c2 k hk
  · rw [z _ _ (by omega), z _ _ (by omega)]; exact c3 m hm k hk
  · rw [z _ _ (by omega)]; exact c4 m hm
theorem e_abs {a b : Nat} (ha : a < 2 ^ 20) (hb : b < 2 ^ 20) : (if 0 ≤ nI a - nI b then nI a - nI b else 0 - (nI a - nI b)) = nI (dst a b) := by
  unfold dst
  by_cases c : b ≤ a
  · rw [pk_sub c, if_pos (Int32.not_lt.mp (nI_ge0 (by omega))), show a - b + (b - a) = a - b by omega]
  · have t := pk_sub_toInt (a := a) (b := b) (by omega) (by omega)
    rw [if_neg (fun q => by rw [fa_le, i0, t] at q; omega), Int32.zero_sub, Int32.neg_sub, pk_sub (by omega), show a - b + (b - a) = b - a by omega]
theorem e_aboveN {f m v : Nat} {h : Hp} (hm : m < 2 ^ 20) (hv : v < 2 ^ 20) : f_X2_above f (nI v) (nI m) h = some (nI (c99 m v), h) := by
  unfold f_X2_above b_X2_above_10 c99
  by_cases c : v ≤ m
  · rw [if_pos ((nI_leI (by omega) (by omega)).mpr c), if_pos c]; rfl
  · rw [if_neg (fun q => c ((nI_leI (by omega) (by omega)).mp q)), if_neg c]; rfl
section NF
variable {f q n k j v : Nat} {r : Rs} {t : Nat → Nat} {h : Hp} {P : Ps} {a : Nat → Nat}
theorem e_mapFault (C : CIl h r q t n P) (W : PW P) (hv : v ≤ 10000) (hk : k = 3 ∨ k = 4) : f_X2_mapFault f (nI k) (nI v) q h = some (nI (chk P k 0 a v), h) := by
  obtain ⟨T, hq, ⟨c4, c5, -⟩, -⟩ := C
  have H := T.1
  unfold f_X2_mapFault b_X2_mapFault_28 b_X2_mapFault_29
  have e : chk P k 0 a v = (if v < 6 then (if k = 3 ∧ (qL P).testBit v = true then 4 else 0) else 2) := by rcases hk with rfl | rfl <;> simp [chk]
  rw [e]
  by_cases c : v < 6
  · rw [if_pos (show nI v < (6 : Int32) from (nI_ltI (b := 6) (by omega) (by omega)).mpr c), if_pos c]
    rcases hk with rfl | rfl
    · have L := W.1.2.2.2.2.1
      rw [if_neg (fun q => q rfl), gi_k (Ip_S H hq), Option.bind_some, c5, e_isIn, bi_mk, hb_all _ (by omega) _ (by omega)]
      cases b : (qL P).testBit v with
      | true => rw [b2T, if_neg c10]; rfl
      | false => rw [b2F, if_pos rfl]; rfl
    · rw [if_pos (by decide), if_neg (by simp)]; rfl
  · rw [if_neg (show ¬ nI v < (6 : Int32) from fun q => c ((nI_ltI (b := 6) (by omega) (by omega)).mp q)), if_neg c]; rfl
theorem e_markFault (C : CIl h r q t n P) (W : PW P) (hv : v ≤ 10000) (hk : k = 3 ∨ k = 4) (e0 : zI h 14 0 = nI (a 0)) (a6 : a 0 < 6) : f_X2_markFault f 12 (nI v) q h = some (nI (chk P k 1 a v), h) := by
  obtain ⟨T, hq, ⟨c4, c5, -⟩, -, -, cC⟩ := C
  have H := T.1
  have n9 := W.1.1
  have e : chk P k 1 a v = (if v < qN P then (if (qC P (a 0)).testBit v = true then 4 else 0) else 2) := by rcases hk with rfl | rfl <;> simp [chk]
  unfold f_X2_markFault b_X2_markFault_33
  rw [e, gi_k (Ip_S H hq), Option.bind_some, c4]
  by_cases c : v < qN P
  · have c512 : qC P (a 0) < 512 := Nat.lt_of_lt_of_le (W.2.2.2.2.2 (a 0) a6).1 (Nat.pow_le_pow_right (by decide) n9)
    have ea : q_ai h 14 9 0 = some (nI (a 0)) := by rw [show (0 : Int32) = nI 0 from rfl, ai_nI (S_14 H) (by decide) (by decide), e0]
    rw [if_pos ((nI_ltI (by omega) (by omega)).mpr c), if_pos c, gr_k (S_12 H) (R_12_2 H), Option.bind_some, gr_k (S_12 H) (R_12_1 H), Option.bind_some, ea, Option.bind_some, ai_nI (S_15 H) a6 (by decide), Option.bind_some, cC _ a6, e_isIn, bi_mk, hb_all _ c512 _ (by omega)]
    cases b : (qC P (a 0)).testBit v with
    | true => rw [b2T, if_neg c10]; rfl
    | false => rw [b2F, if_pos rfl]; rfl
  · rw [if_neg (fun q => c ((nI_ltI (by omega) (by omega)).mp q)), if_neg c]; rfl
theorem e_lieFault (C : CIl h r q t n P) (W : PW P) (hv : v ≤ 10000) (e1 : zI h 14 1 = nI (a 1)) (e2 : zI h 14 2 = nI (a 2)) (a1 : a 1 < qN P) (a2 : a 2 ≤ 99) : f_X2_lieFault f 12 (nI v) q h = some (nI (chk P 3 3 a v), h) := by
  obtain ⟨T, hq, ⟨c4, c5, c6, c7, -⟩, cX, -⟩ := C
  have H := T.1
  have n9 := W.1.1
  have w9 := W.1.2.1
  obtain ⟨x9, y9⟩ := W.2.2.2.2.1 (a 1) a1
  have e : chk P 3 3 a v = (if v ≤ 99 then (if dst (a 2) (qX P (a 1)) ≤ 2 * qI P ∧ dst v (qY P (a 1)) ≤ 2 * qI P then 4 else 0) else 2) := by simp [chk]
  unfold f_X2_lieFault b_X2_lieFault_63 lt
  rw [e]
  by_cases c : v ≤ 99
  · have ea1 : q_ai h 14 9 1 = some (nI (a 1)) := by rw [show (1 : Int32) = nI 1 from rfl, ai_nI (S_14 H) (by decide) (by decide), e1]
    have ea2 : q_ai h 14 9 2 = some (nI (a 2)) := by rw [show (2 : Int32) = nI 2 from rfl, ai_nI (S_14 H) (by decide) (by decide), e2]
    rw [if_pos (show nI v ≤ (99 : Int32) from (nI_leI (b := 99) (by omega) (by omega)).mpr c), if_pos c]
    simp only [gr_k (S_12 H) (R_12_1 H), Option.bind_some, ea1, ea2, gr_k (Ip_S H hq) (Ip_R0 H hq), gr_k (Ip_S H hq) (Ip_R1 H hq), ai_nI (Ip_S1 H hq) (show a 1 < 9 by omega) (by decide), ai_nI (Ip_S2 H hq) (show a 1 < 9 by omega) (by decide), (cX _ a1).1, (cX _ a1).2, gi_k (Ip_S H hq), c7, e_abs (show a 2 < 2 ^ 20 by omega) (show qX P (a 1) < 2 ^ 20 by omega), e_abs (show v < 2 ^ 20 by omega) (show qY P (a 1) < 2 ^ 20 by omega)]
    have e2w : (2 : Int32) * nI (qI P) = nI (2 * qI P) := pk_mul 2 (qI P)
    rw [e2w]
    have d1 : dst (a 2) (qX P (a 1)) ≤ 99 := by unfold dst; omega
    have d2 : dst v (qY P (a 1)) ≤ 99 := by unfold dst; omega
    generalize dst (a 2) (qX P (a 1)) = u at *
    generalize dst v (qY P (a 1)) = w at *
    have em : (if nI u < nI w then nI w else nI u) = nI (if u < w then w else u) := by
      by_cases cc : u < w
      · rw [if_pos ((nI_ltI (by omega) (by omega)).mpr cc), if_pos cc]
      · rw [if_neg (fun q => cc ((nI_ltI (by omega) (by omega)).mp q)), if_neg cc]
    rw [em]
    by_cases cc : u ≤ 2 * qI P ∧ w ≤ 2 * qI P
    · have : (if u < w then w else u) ≤ 2 * qI P := by split <;> omega
      rw [if_pos ((nI_leI (by omega) (by omega)).mpr this), if_pos cc]; rfl
    · have : ¬ (if u < w then w else u) ≤ 2 * qI P := by split <;> omega
      have b : (if u < w then w else u) ≤ 99 := by split <;> omega
      rw [if_neg (fun q => this ((nI_leI (by omega) (by omega)).mp q)), if_neg cc]; rfl
  · rw [if_neg (show ¬ nI v ≤ (99 : Int32) from fun q => c ((nI_leI (b := 99) (by omega) (by omega)).mp q)), if_neg c]; rfl
theorem e_numberFault (C : CIl h r q t n P) (W : PW P) (hk : k < 7) (hj : j < cnt k) (hv : v ≤ 10000) (K : CK P k j a) (ea : ∀ x, x < j → zI h 14 x = nI (a x)) : f_X2_numberFault f 12 (nI k) (nI j) (nI v) q h = some (nI (chk P k j a v), h) := by
  obtain ⟨T, hq, ⟨c4, c5, c6, c7, -⟩, cX, -⟩ := id C
  have H := T.1
  have n9 := W.1.1
  have w9 := W.1.2.1
  have b86 : k = 3 ∨ k = 4 → b_X2_numberFault_86 f 12 (nI k) (nI j) (nI v) q h = some (nI (chk P k j a v), h) := fun hk' => by
    have j4 : j < 4 := by rcases hk' with rfl | rfl <;> exact hj
    unfold b_X2_numberFault_86 b_X2_numberFault_170
    rcases (show j = 0 ∨ j = 1 ∨ j = 2 ∨ j = 3 by omega) with rfl | rfl | rfl | rfl
    · rw [if_pos (show nI 0 = (0 : Int32) from rfl), e_mapFault C W hv hk' (a := a), bi_mk]
    · have a6 : a 0 < 6 := by
        have := K 0 (by omega)
        rcases hk' with rfl | rfl
        · exact if2 (show (if a 0 < 6 then _ else 2) = 0 from this)
        · exact if2 (show (if a 0 < 6 then _ else 2) = 0 from this)
      rw [if_neg (show ¬ nI 1 = (0 : Int32) by decide), if_pos (show nI 1 = (1 : Int32) from rfl), on_k (S_12 H), e_markFault C W hv hk' (ea 0 (by omega)) a6, bi_mk]
    · rw [if_neg (show ¬ nI 2 = (0 : Int32) by decide), if_neg (show ¬ nI 2 = (1 : Int32) by decide)]
      rcases hk' with rfl | rfl
      · have e9 : f_X2_above f (nI v) 99 h = some (nI (c99 99 v), h) := e_aboveN (m := 99) (by omega) (by omega)
        rw [if_pos (show ¬ nI 3 = (4 : Int32) by decide), if_neg (fun q => q rfl), e9, bi_mk]
        simp [chk]
      · have e9 : (if 0 ≤ nI v - (9 : Int32) then nI v - 9 else 0 - (nI v - 9)) = nI (dst v 9) := e_abs (b := 9) (by omega) (by omega)
        have d9 : dst v 9 ≤ 10000 := by unfold dst; omega
        rw [if_neg (fun q => q rfl), gi_k (Ip_S H hq), Option.bind_some, c7, e9, e_aboveN (by omega) (by omega), bi_mk]
        simp [chk, c99]
    · rw [if_neg (show ¬ nI 3 = (0 : Int32) by decide), if_neg (show ¬ nI 3 = (1 : Int32) by decide)]
      rcases hk' with rfl | rfl
      · have a1 : a 1 < qN P := if2 (show (if a 1 < qN P then _ else 2) = 0 from K 1 (by omega))
        have a2 : a 2 ≤ 99 := if2 (show (if a 2 ≤ 99 then _ else 2) = 0 from K 2 (by omega))
        rw [if_pos (show ¬ nI 3 = (4 : Int32) by decide), if_pos (show ¬ nI 3 = (2 : Int32) by decide), on_k (S_12 H), e_lieFault C W hv (ea 1 (by omega)) (ea 2 (by omega)) a1 a2, bi_mk]
      · have e9 : (if 0 ≤ nI v - (9 : Int32) then nI v - 9 else 0 - (nI v - 9)) = nI (dst v 9) := e_abs (b := 9) (by omega) (by omega)
        have d9 : dst v 9 ≤ 10000 := by unfold dst; omega
        rw [if_neg (fun q => q rfl), gi_k (Ip_S H hq), Option.bind_some, c7, e9, e_aboveN (by omega) (by omega), bi_mk]
        simp [chk, c99]
  unfold f_X2_numberFault
  rw [sw_k (by omega)]
  rcases (show k = 0 ∨ k = 1 ∨ k = 2 ∨ k = 3 ∨ k = 4 ∨ k = 5 ∨ k = 6 by omega) with rfl | rfl | rfl | rfl | rfl | rfl | rfl
  · have e9 : f_X2_above f (nI v) 99 h = some (nI (c99 99 v), h) := e_aboveN (m := 99) (by omega) (by omega)
    simp only [List.getElem?_cons_zero, Option.getD_some, e9, bi_mk]
    simp [chk]
  · simp only [List.getElem?_cons_succ, List.getElem?_cons_zero, Option.getD_some, gi_k (Ip_S H hq), Option.bind_some, c4]
    unfold f_X2_above b_X2_above_10
    have e : chk P 1 j a v = (if v < qN P then 0 else 2) := by simp [chk]
    rw [e]
    have ti := nI_sub1 (n := qN P) (by omega)
    by_cases c : v < qN P
    · rw [if_pos (by rw [fa_le, ti, nI_toInt (by omega)]; omega), if_pos c]; rfl
    · rw [if_neg (by rw [fa_le, ti, nI_toInt (by omega)]; omega), if_neg c]; rfl
  · have e9 : f_X2_above f (nI v) 9 h = some (nI (c99 9 v), h) := e_aboveN (m := 9) (by omega) (by omega)
    simp only [List.getElem?_cons_succ, List.getElem?_cons_zero, Option.getD_some, e9, bi_mk]
    simp [chk]
  · simp only [List.getElem?_cons_succ, List.getElem?_cons_zero, Option.getD_some]
    exact b86 (Or.inl rfl)
  · simp only [List.getElem?_cons_succ, List.getElem?_cons_zero, Option.getD_some]
    exact b86 (Or.inr rfl)
  · have e9 : f_X2_above f (nI v) 999 h = some (nI (c99 999 v), h) := e_aboveN (m := 999) (by omega) (by omega)
    simp only [List.getElem?_cons_succ, List.getElem?_cons_zero, Option.getD_some, e9, bi_mk]
    simp [chk]
  · have e9 : f_X2_above f (nI v) 9999 h = some (nI (c99 9999 v), h) := e_aboveN (m := 9999) (by omega) (by omega)
    simp only [List.getElem?_cons_succ, List.getElem?_cons_zero, Option.getD_some, e9, bi_mk]
    simp [chk]
end NF
