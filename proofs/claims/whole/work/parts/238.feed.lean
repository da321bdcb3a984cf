/-! ===== feed ===== -/
theorem by_m (x : Int64) (s : Nat) (hs : s ≤ 56) (b : Int64) (hb : (b.toBitVec.smod 64).toNat = s) : ((x >>> b) &&& (255 : Int64)).toInt32 = nI ((x.toBitVec.toNat >>> s) % 256) := by
  apply Int32.toBitVec_inj.mp
  rw [Int64.toBitVec_toInt32, Int64.toBitVec_and, Int64.toBitVec_shiftRight]
  apply BitVec.eq_of_getLsbD_eq
  intro i hi
  have e1 : (nI ((x.toBitVec.toNat >>> s) % 256)).toBitVec = BitVec.ofNat 32 ((x.toBitVec.toNat >>> s) % 256) := rfl
  have e2 : (255 : Int64).toBitVec = BitVec.ofNat 64 255 := rfl
  rw [e1, e2, BitVec.getLsbD_signExtend, BitVec.getLsbD_and, BitVec.getLsbD_ofNat, BitVec.getLsbD_ofNat]
  show (decide (i < 32) && if i < 64 then ((x.toBitVec.sshiftRight (b.toBitVec.smod 64).toNat).getLsbD i && (decide (i < 64) && Nat.testBit 255 i)) else _) = _
  rw [hb, BitVec.getLsbD_sshiftRight, if_pos (by omega), show (256 : Nat) = 2 ^ 8 from rfl, Nat.testBit_mod_two_pow, show (255 : Nat) = 2 ^ 8 - 1 from rfl, Nat.testBit_two_pow_sub_one, Nat.testBit_shiftRight]
  by_cases c : i < 8
  · rw [if_pos (by omega)]
    simp [c, hi, show i < 64 by omega, show ¬ 64 ≤ i by omega]
    rfl
  · simp [c]
theorem by_c (x : Int64) (s : Nat) (hs : s ≤ 56) (u : UInt64) (hu : (u.toBitVec % 64).toNat = s) : ((x.toUInt64 >>> u).toInt64).toInt32.toInt8 = (nI ((x.toBitVec.toNat >>> s) % 256)).toInt8 := by
  apply Int8.toBitVec_inj.mp
  rw [Int32.toBitVec_toInt8, Int32.toBitVec_toInt8, Int64.toBitVec_toInt32]
  apply BitVec.eq_of_getLsbD_eq
  intro i hi
  have e1 : (nI ((x.toBitVec.toNat >>> s) % 256)).toBitVec = BitVec.ofNat 32 ((x.toBitVec.toNat >>> s) % 256) := rfl
  have e3 : ((x.toUInt64 >>> u).toInt64).toBitVec = x.toBitVec >>> (u.toBitVec % 64).toNat := by
    show (x.toUInt64 >>> u).toBitVec = _
    rw [UInt64.toBitVec_shiftRight]
    rfl
  rw [e1, e3, hu, BitVec.getLsbD_signExtend, BitVec.getLsbD_signExtend, BitVec.getLsbD_signExtend, BitVec.getLsbD_ofNat, BitVec.getLsbD_ushiftRight, show (256 : Nat) = 2 ^ 8 from rfl, Nat.testBit_mod_two_pow, Nat.testBit_shiftRight]
  simp [hi, show i < 64 by omega, show i < 32 by omega]
  rfl
theorem by_tab : ∀ i, i < 8 → ((((8 : Int32) * nI i).toInt64 &&& 63).toBitVec.smod 64).toNat = 8 * i ∧ ((((8 : Int32) * nI i).toInt64.toUInt64 &&& Int64.toUInt64 63).toBitVec % 64).toNat = 8 * i := by decide +kernel
theorem nar_i8 (v : Int8) : vp_nar .byte v.toInt32 = v.toInt32 := by
  show (v.toInt32).toInt8.toInt32 = v.toInt32
  rw [Int8.toInt8_toInt32]
/-- the byte that is fed -/
def byV (x : Int64) (i : Nat) : Nat := (x.toBitVec.toNat >>> (8 * i)) % 256
theorem byV_lt (x : Int64) (i : Nat) : byV x i < 256 := Nat.mod_lt _ (by decide)
section FE
variable {f : Nat} {r : Rs}
/-- rows of the text, up to n -/
def TxR (h0 h : Hp) (a : Nat) (g : Nat → Int32) (m n : Nat) : Prop := (∀ j, j < m → zI h a j = zI h0 a j) ∧ ∀ j, m ≤ j → j < n → zI h a j = g (j - m)
theorem fdC_go {x : Int64} {h0 : Hp} {m k : Nat} (H0 : Sh h0 r) (hk : k ≤ 8) (hm : m + k ≤ 400) : ∀ (d i : Nat) (h : Hp), i ≤ k → i < d → Fr (fun a j => decide (a = 1) || (decide (a = 0) && decide (j = 1))) h0 h → zI h 0 1 = nI (m + (k - i)) → TxR h0 h 1 (fun j => (nI (byV x (k - 1 - j))).toInt8.toInt32) m (m + (k - i)) → ∃ h', Fr (fun a j => decide (a = 1) || (decide (a = 0) && decide (j = 1))) h0 h' ∧ zI h' 0 1 = nI (m + k) ∧ TxR h0 h' 1 (fun j => (nI (byV x (k - 1 - j))).toInt8.toInt32) m (m + k) ∧ l_X5_feed_34 f d 0 x (nI i - 1) h = some (nI (m + k), h') := by
  intro d
  induction d with
  | zero => intro i h h1 h2; omega
  | succ d ih =>
    intro i h hi hid F e01 T
    have H := Fr_Sh F H0
    show ∃ h', _ ∧ _ ∧ _ ∧ b_X5_feed_34 f (l_X5_feed_34 f d) 0 x (nI i - 1) h = _
    unfold b_X5_feed_34 lt
    by_cases e : i = 0
    · subst e
      refine ⟨h, F, by rw [e01]; rfl, T, ?_⟩
      rw [if_pos (by decide), gi_k (S_0 H), Option.bind_some, e01]; rfl
    · obtain ⟨j, rfl⟩ : ∃ j, i = j + 1 := ⟨i - 1, by omega⟩
      have H1 : ∀ v, Sh (sI h 1 (m + (k - (j + 1))) v) r := fun _ => H
      have bt := by_tab j (by omega)
      have bc := by_c x (8 * j) (by omega) _ bt.2
      have neg : nI j + (-1 : Int32) = nI j - 1 := by rw [Int32.sub_eq_add_neg]
      rw [nI_m1, if_neg (nI_ge0 (by omega)), gr_k (S_0 H) (R_0_0 H), Option.bind_some, gi_k (S_0 H), Option.bind_some, e01, as_nI (S_1 H) (by omega) (by decide), Option.bind_some, gi_k (S_0 (H1 _)), Option.bind_some, zI_row (by decide), e01, nI_p1, pi_k (S_0 (H1 _)), Option.bind_some, neg, bc, nar_i8]
      refine ih j _ (by omega) (by omega) (Fr_then (Fr_then F (by simp)) (by simp)) ?_ ⟨?_, ?_⟩
      · rw [zI_sI, if_pos ⟨rfl, rfl⟩]; congr 1; omega
      · intro t ht
        rw [zI_row (by decide), zI_sI, if_neg (by omega)]; exact T.1 t ht
      · intro t ht1 ht2
        rw [zI_row (by decide), zI_sI]
        by_cases c : t = m + (k - (j + 1))
        · rw [if_pos ⟨rfl, c⟩]
          show _ = (nI (byV x (k - 1 - (t - m)))).toInt8.toInt32
          rw [show k - 1 - (t - m) = j by omega]; rfl
        · rw [if_neg (fun q => c q.2)]; exact T.2 t ht1 (by omega)
theorem fdM_go {x : Int64} {h0 : Hp} {m k : Nat} (H0 : Sh h0 r) (hk : k ≤ 8) (hm : m + k ≤ 400) : ∀ (d i : Nat) (h : Hp), i ≤ k → i < d → Fr (fun a j => decide (a = 68) || (decide (a = 58) && decide (j = 19))) h0 h → zI h 58 19 = nI (m + (k - i)) → TxR h0 h 68 (fun j => nI (byV x (k - 1 - j))) m (m + (k - i)) → ∃ h', Fr (fun a j => decide (a = 68) || (decide (a = 58) && decide (j = 19))) h0 h' ∧ zI h' 58 19 = nI (m + k) ∧ TxR h0 h' 68 (fun j => nI (byV x (k - 1 - j))) m (m + k) ∧ l_X6_feed_35 f d 58 x (nI i - 1) h = some (nI (m + k), h') := by
  intro d
  induction d with
  | zero => intro i h h1 h2; omega
  | succ d ih =>
    intro i h hi hid F e01 T
    have H := Fr_Sh F H0
    show ∃ h', _ ∧ _ ∧ _ ∧ b_X6_feed_35 f (l_X6_feed_35 f d) 58 x (nI i - 1) h = _
    unfold b_X6_feed_35 lt
    by_cases e : i = 0
    · subst e
      refine ⟨h, F, by rw [e01]; rfl, T, ?_⟩
      rw [if_pos (by decide), gi_k (S_58 H), Option.bind_some, e01]; rfl
    · obtain ⟨j, rfl⟩ : ∃ j, i = j + 1 := ⟨i - 1, by omega⟩
      have H1 : ∀ v, Sh (sI h 68 (m + (k - (j + 1))) v) r := fun _ => H
      have bt := by_tab j (by omega)
      have bm := by_m x (8 * j) (by omega) _ bt.1
      have neg : nI j + (-1 : Int32) = nI j - 1 := by rw [Int32.sub_eq_add_neg]
      rw [nI_m1, if_neg (nI_ge0 (by omega)), gr_k (S_58 H) (R_58_18 H), Option.bind_some, gi_k (S_58 H), Option.bind_some, e01, as_nI (S_68 H) (by omega) (by decide), Option.bind_some, gi_k (S_58 (H1 _)), Option.bind_some, zI_row (by decide), e01, nI_p1, pi_k (S_58 (H1 _)), Option.bind_some, neg, bm]
      refine ih j _ (by omega) (by omega) (Fr_then (Fr_then F (by simp)) (by simp)) ?_ ⟨?_, ?_⟩
      · rw [zI_sI, if_pos ⟨rfl, rfl⟩]; congr 1; omega
      · intro t ht
        rw [zI_row (by decide), zI_sI, if_neg (by omega)]; exact T.1 t ht
      · intro t ht1 ht2
        rw [zI_row (by decide), zI_sI]
        by_cases c : t = m + (k - (j + 1))
        · rw [if_pos ⟨rfl, c⟩]
          show _ = nI (byV x (k - 1 - (t - m)))
          rw [show k - 1 - (t - m) = j by omega]; rfl
        · rw [if_neg (fun q => c q.2)]; exact T.2 t ht1 (by omega)
end FE
theorem st_feed {f : Nat} (hf : 100 ≤ f) (a : Int32) (x : Int64) : StpR (f_X5_feed f 0 a x) (f_X6_feed f 58 a x) := by
  intro h r R
  obtain ⟨H, rp, tx, ft, n, w, l, ga, gb, gc, il, st, sy, im0, im1⟩ := id R
  obtain ⟨m, hm, t1, t2, t3⟩ := tx
  have inM : ∀ g : Hp, f_X6_in f a.toInt64 (1 : Int64) (8 : Int64) g = some (b2 (decide ((1 : Int32) ≤ a ∧ a ≤ 8)), g) := fun g => e_inM f a 1 8 1 8 (by decide) (by decide) g
  unfold f_X5_feed f_X6_feed b_X5_feed_11
  by_cases c1 : a < 1
  · refine ⟨-1000002, h, h, r, by rw [if_pos c1], by rw [S_58 H], ?_, R⟩
    rw [inM, bi_mk, decide_eq_false (fun q => Int32.not_le.mpr c1 q.1)]; rfl
  · by_cases c2 : a ≤ 8
    · have h1 : (1 : Int32) ≤ a := Int32.not_lt.mp c1
      obtain ⟨k, hk, rfl⟩ := nI_of (x := a) (fun q => c1 (fa_trans q (by decide)))
      have hk8 : k ≤ 8 := (nI_leI (b := 8) hk (by omega)).mp c2
      have hk1 : 1 ≤ k := (nI_leI (a := 1) (by omega) hk).mp h1
      have d1 : decide ((1 : Int32) ≤ nI k ∧ nI k ≤ 8) = true := decide_eq_true ⟨h1, c2⟩
      have i400 : (nI (m + k) ≤ (400 : Int32)) ↔ m + k ≤ 400 := nI_leI (b := 400) (by omega) (by omega)
      rw [if_neg c1, if_pos c2, gi_k (S_0 H), Option.bind_some, t1, nI_add]
      by_cases c4 : m + k ≤ 400
      · obtain ⟨h1', F1, z1, T1, e1⟩ := fdC_go (f := f) (x := x) (m := m) (k := k) H hk8 c4 f k h (by omega) (by omega) (Fr_rf _ _) (by rw [t1]; congr 1; omega) ⟨fun _ _ => rfl, fun j hj1 hj2 => by omega⟩
        have H1 := Fr_Sh F1 H
        have t2' : zI h1' 58 19 = nI m := (F1.1 58 19 rfl).trans t2
        obtain ⟨h2, F2, z2, T2, e2⟩ := fdM_go (f := f) (x := x) (m := m) (k := k) H1 hk8 c4 f k h1' (by omega) (by omega) (Fr_rf _ _) (by rw [t2']; congr 1; omega) ⟨fun _ _ => rfl, fun j hj1 hj2 => by omega⟩
        have H2 := Fr_Sh F2 H1
        refine ⟨nI (m + k), h1', h2, r, ?_, by rw [S_58 H1], ?_, ?_⟩
        · rw [if_pos (i400.mpr c4)]; exact e1
        · rw [inM, bi_mk, d1, b2T, if_pos c10, gi_k (S_58 H1), Option.bind_some, t2', nI_add, if_pos (i400.mpr c4)]; exact e2
        · have q1 : ∀ a j, a ≠ 1 → (a ≠ 0 ∨ j ≠ 1) → zI h1' a j = zI h a j := fun a j q q' => F1.1 a j (by
            simp only [Bool.or_eq_false_iff, Bool.and_eq_false_iff, decide_eq_false_iff_not]; omega)
          have q2 : ∀ a j, a ≠ 68 → (a ≠ 58 ∨ j ≠ 19) → zI h2 a j = zI h1' a j := fun a j q q' => F2.1 a j (by
            simp only [Bool.or_eq_false_iff, Bool.and_eq_false_iff, decide_eq_false_iff_not]; omega)
          have ez : ∀ a j, a ≠ 1 → a ≠ 68 → (a ≠ 0 ∨ j ≠ 1) → (a ≠ 58 ∨ j ≠ 19) → zI h2 a j = zI h a j := fun a j a1 a2 a3 a4 => (q2 a j a2 a4).trans (q1 a j a1 a3)
          have er : ∀ a, a ≠ 0 → a ≠ 1 → a ≠ 58 → a ≠ 68 → zI h2 a = zI h a := fun a a1 a2 a3 a4 => funext fun j => ez a j a2 a4 (Or.inl a1) (Or.inl a3)
          have hp := Rp_p rp
          refine ⟨H2, rp, ?_, ?_, n, w, l, ga, gb, gc, ?_, ?_, ?_, ?_, ?_⟩
          · refine ⟨m + k, c4, ?_, z2, fun j hj => ?_⟩
            · rw [q2 0 1 (by omega) (by omega)]; exact z1
            · by_cases cj : j < m
              · obtain ⟨c, hc, u1, u2⟩ := t3 j cj
                refine ⟨c, hc, ?_, ?_⟩
                · rw [T2.1 j cj, q1 68 j (by omega) (by omega)]; exact u1
                · rw [q2 1 j (by omega) (by omega), T1.1 j cj]; exact u2
              · refine ⟨byV x (k - 1 - (j - m)), byV_lt _ _, T2.2 j (by omega) hj, ?_⟩
                rw [q2 1 j (by omega) (by omega)]; exact T1.2 j (by omega) hj
          · unfold Ft
            rw [ez 0 2 (by omega) (by omega) (by omega) (by omega), ez 58 20 (by omega) (by omega) (by omega) (by omega)]; exact ft
          · unfold Il
            rw [er r.1 (by omega) (by omega) (by omega) (by omega), er (r.1 + 1) (by omega) (by omega) (by omega) (by omega), er (r.1 + 2) (by omega) (by omega) (by omega) (by omega), er (r.1 + 3) (by omega) (by omega) (by omega) (by omega), er (r.1 + 4) (by omega) (by omega) (by omega) (by omega), er 59 (by omega) (by omega) (by omega) (by omega), er 60 (by omega) (by omega) (by omega) (by omega), er 61 (by omega) (by omega) (by omega) (by omega), er 62 (by omega) (by omega) (by omega) (by omega), er 63 (by omega) (by omega) (by omega) (by omega), ez 58 0 (by omega) (by omega) (by omega) (by omega), ez 58 5 (by omega) (by omega) (by omega) (by omega), ez 58 6 (by omega) (by omega) (by omega) (by omega), ez 58 7 (by omega) (by omega) (by omega) (by omega), ez 58 9 (by omega) (by omega) (by omega) (by omega), ez 58 10 (by omega) (by omega) (by omega) (by omega)]
            exact il
          · unfold StN
            rw [er 17 (by omega) (by omega) (by omega) (by omega), er 18 (by omega) (by omega) (by omega) (by omega), er 19 (by omega) (by omega) (by omega) (by omega), er 20 (by omega) (by omega) (by omega) (by omega), er 21 (by omega) (by omega) (by omega) (by omega), er 64 (by omega) (by omega) (by omega) (by omega), er 65 (by omega) (by omega) (by omega) (by omega), er 66 (by omega) (by omega) (by omega) (by omega), er 67 (by omega) (by omega) (by omega) (by omega), ez 58 13 (by omega) (by omega) (by omega) (by omega), ez 58 16 (by omega) (by omega) (by omega) (by omega), ez 58 17 (by omega) (by omega) (by omega) (by omega)]
            exact st
          · unfold Sy
            rw [er 34 (by omega) (by omega) (by omega) (by omega), er 35 (by omega) (by omega) (by omega) (by omega), er 36 (by omega) (by omega) (by omega) (by omega), er 37 (by omega) (by omega) (by omega) (by omega), er 82 (by omega) (by omega) (by omega) (by omega), er 83 (by omega) (by omega) (by omega) (by omega), er 84 (by omega) (by omega) (by omega) (by omega), ez 58 50 (by omega) (by omega) (by omega) (by omega)]
            exact sy
          · unfold Im
            rw [er 33 (by omega) (by omega) (by omega) (by omega), er 86 (by omega) (by omega) (by omega) (by omega), er 85 (by omega) (by omega) (by omega) (by omega), er (24 + 5 * 0) (by omega) (by omega) (by omega) (by omega), er (27 + 5 * 0) (by omega) (by omega) (by omega) (by omega), er (25 + 5 * 0) (by omega) (by omega) (by omega) (by omega), er (26 + 5 * 0) (by omega) (by omega) (by omega) (by omega), er (23 + 5 * 0) (by omega) (by omega) (by omega) (by omega)]
            exact im0
          · unfold Im
            rw [er 33 (by omega) (by omega) (by omega) (by omega), er 86 (by omega) (by omega) (by omega) (by omega), er 85 (by omega) (by omega) (by omega) (by omega), er (24 + 5 * 1) (by omega) (by omega) (by omega) (by omega), er (27 + 5 * 1) (by omega) (by omega) (by omega) (by omega), er (25 + 5 * 1) (by omega) (by omega) (by omega) (by omega), er (26 + 5 * 1) (by omega) (by omega) (by omega) (by omega), er (23 + 5 * 1) (by omega) (by omega) (by omega) (by omega)]
            exact im1
      · refine ⟨-1000004, h, h, r, by rw [if_neg (fun q => c4 (i400.mp q))], by rw [S_58 H], ?_, R⟩
        rw [inM, bi_mk, d1, b2T, if_pos c10, gi_k (S_58 H), Option.bind_some, t2, nI_add, if_neg (fun q => c4 (i400.mp q))]
    · refine ⟨-1000002, h, h, r, by rw [if_neg c1, if_neg c2], by rw [S_58 H], ?_, R⟩
      rw [inM, bi_mk, decide_eq_false (fun q => c2 q.2)]; rfl
