/-! ===== two runs: first the class, then the reference ===== -/
/-- what both sides do, each on its own heap -/
def Two (fc fm : Hp → Option (Int32 × Hp)) : Prop := ∀ hc hm r, RR hc hm r → ∃ v hc' hm' r', fc hc = some (v, hc') ∧ fm hm = some (v, hm') ∧ RR hc' hm' r' ∧ (∀ a, 58 ≤ a → zI hc' a = zI hc a) ∧ Fr (fun a _ => decide (58 ≤ a)) hm hm'
theorem Rel_same {h h' : Hp} {r : Rs} (R : Rel h r) (S : Sh h' r) (e : ∀ a, zI h' a = zI h a) : Rel h' r := Rel_Sm R S rfl rfl (fun a k _ => by rw [e a])
theorem two_runs {fc fm : Hp → Option (Int32 × Hp)} (T : Two fc fm) : StpR fc fm := by
  intro h r R
  have RR0 : RR h h r := ⟨Rel_same R R.1 (fun a => by
    by_cases c : a < 58
    · exact mz_c c
    · exact mz_m (by omega)), r, R.1⟩
  obtain ⟨v, h1, hm', r1, e1, -, R1, z1, -⟩ := T h h r RR0
  have RR1 : RR h h1 r := ⟨Rel_same R R.1 (fun a => by
    by_cases c : a < 58
    · exact mz_c c
    · rw [mz_m (by omega)]; exact z1 a (by omega)), r1, RR_Sh R1⟩
  obtain ⟨v', h1', h2, r2, e2, e3, R2, -, F2⟩ := T h h1 r RR1
  have ee : (v, h1) = (v', h1') := Option.some.inj (e1.symm.trans e2)
  have ev : v' = v := (congrArg Prod.fst ee).symm
  have eh : h1' = h1 := (congrArg Prod.snd ee).symm
  subst ev eh
  have H1 : Sh h1' r2 := RR_Sh R2
  refine ⟨v', h1', h2, r2, e1, by rw [S_58 H1], e3, Rel_same R2.1 (Fr_Sh F2 H1) (fun a => ?_)⟩
  by_cases c : a < 58
  · rw [mz_c c]; exact Fr_row F2 (fun j => decide_eq_false (by omega))
  · rw [mz_m (by omega)]
/-- the class's side of RR -/
theorem RR_facts {hc hm : Hp} {r : Rs} (R : RR hc hm r) : Sh hc r ∧ (r.1 = 2 ∨ r.1 = 7) ∧ ∃ n c, n ≤ 9 ∧ c ≤ 20 ∧ zI hc r.1 4 = nI n ∧ zI hm 58 0 = nI n ∧ zI hc 17 4 = nI c ∧ zI hm 58 13 = nI c ∧ zI hc 17 5 = zI hm 58 16 ∧ (zI hm 58 16 = -1 ∨ ∃ b, b < 6 ∧ zI hm 58 16 = nI b) := by
  obtain ⟨R0, rm, Hm⟩ := R
  obtain ⟨H, rp, tx, ft, n, w, l, ga, gb, gc, il, st, sy, im0, im1⟩ := R0
  have hp := Rp_p rp
  obtain ⟨⟨s1, s2, s3, s4, s5, s6⟩, t1, t2, ⟨c, hc20, t3⟩, t4, t5⟩ := st
  have m58 : zI (mrg hc hm) 58 = zI hm 58 := mz_m (by omega)
  have c17 : zI (mrg hc hm) 17 = zI hc 17 := mz_c (by omega)
  have cp : zI (mrg hc hm) r.1 = zI hc r.1 := mz_c (by omega)
  have l1 := il.2.1
  rw [cp, m58] at l1
  rw [c17, m58] at s4 s5
  rw [m58] at t3 t4
  exact ⟨H, hp, n, c, il.1.1, hc20, l1.1, l1.2, s4.trans t3, t3, s5, t4⟩
theorem RR_m {hc hm : Hp} {r : Rs} (R : RR hc hm r) : ∃ rm, Sh hm rm := R.2
theorem st_dig {f : Nat} (a x y : Int32) : StpR (f_X5_dig f 0 a x y) (f_X6_dig f 58 a x y) := by
  apply two_runs
  intro hc hm r R
  obtain ⟨H, hp, n, c, h9, hc20, n1, n2, c1, c2, fi, fo⟩ := RR_facts R
  obtain ⟨rm, Hm⟩ := RR_m R
  have stay : ∀ v, f_X5_dig f 0 a x y hc = some (v, hc) → f_X6_dig f 58 a x y hm = some (v, hm) → ∃ v hc' hm' r', f_X5_dig f 0 a x y hc = some (v, hc') ∧ f_X6_dig f 58 a x y hm = some (v, hm') ∧ RR hc' hm' r' ∧ (∀ a, 58 ≤ a → zI hc' a = zI hc a) ∧ Fr (fun a _ => decide (58 ≤ a)) hm hm' := fun v e1 e2 => ⟨v, hc, hm, r, e1, e2, R, fun _ _ => rfl, Fr_rf _ _⟩
  unfold f_X5_dig f_X6_dig b_X5_dig_30 b_X5_dig_54 b_X5_dig_95 b_X6_dig_35 b_X6_dig_52 b_X6_dig_77 at *
  simp only [e_bandC, e_bandM, bi_mk, b2_ne] at *
  rw [rg_hi (k := 99) (c := 99) rfl (by omega), rg_le (k := 99) (c := 99) rfl (by omega)] at *
  cases ea : mkB 6 a with
  | false => exact ⟨-1000001, hc, hm, r, rfl, rfl, R, fun _ _ => rfl, Fr_rf _ _⟩
  | true =>
    obtain ⟨b, hb6, rfl⟩ := mkB_t (by decide) ea
    have inx : f_X6_in f x.toInt64 (0 : Int64) (99 : Int64) hm = some (b2 (mkB 100 x), hm) := e_inK (k := 99) (by decide) (by omega)
    have iny : f_X6_in f y.toInt64 (0 : Int64) (99 : Int64) hm = some (b2 (mkB 100 y), hm) := e_inK (k := 99) (by decide) (by omega)
    rw [if_pos rfl, if_pos rfl, inx, bi_mk]
    cases ex : mkB 100 x with
    | false => exact ⟨-1000002, hc, hm, r, by rw [if_neg (by decide)], by rw [b2F, if_pos rfl], R, fun _ _ => rfl, Fr_rf _ _⟩
    | true =>
      rw [if_pos rfl, b2T, if_neg c10, iny, bi_mk]
      cases ey : mkB 100 y with
      | false => exact ⟨-1000002, hc, hm, r, by rw [if_neg (by decide)], by rw [b2F, if_neg (by simp)], R, fun _ _ => rfl, Fr_rf _ _⟩
      | true =>
        rw [if_pos rfl, b2T, if_pos c10, gr_k (S_0 H) (R_0_3 H), Option.bind_some, gi_k (Ip_S H hp), Option.bind_some, n1, gi_k (S_58 Hm), Option.bind_some]
        by_cases n0 : n = 0
        · have z : nI n = 0 := by rw [n0]; rfl
          refine ⟨-1000003, hc, hm, r, by rw [if_pos z], ?_, R, fun _ _ => rfl, Fr_rf _ _⟩
          by_cases q : 0 ≤ zI hm 58 16
          · rw [if_pos q]
          · rw [if_neg q, gi_k (S_58 Hm), Option.bind_some, n2, if_neg (fun n9 => n9 z)]
        · have z : ¬ nI n = 0 := n0_of (by omega) (by omega)
          rw [if_neg z, gr_k (S_0 H) (R_0_6 H), Option.bind_some, gi_k (S_17 H), Option.bind_some, fi]
          rcases fo with fo | ⟨b', hb', fo⟩
          · rw [fo, if_pos rfl, if_neg (by decide), Option.bind_some, gi_k (S_17 H), Option.bind_some, c1, gi_k (S_58 Hm), Option.bind_some, n2, if_pos z, gi_k (S_58 Hm), Option.bind_some, c2]
            by_cases c20 : c = 20
            · have q1 : ¬ nI c < (20 : Int32) := fun e9 => by have := (nI_lt20 hc20).mp e9; omega
              have q2 : nI c = (20 : Int32) := (nI_eq20 hc20).mpr c20
              exact ⟨-1000004, hc, hm, r, by rw [if_neg q1], by rw [if_neg (fun n9 => n9 q2)], R, fun _ _ => rfl, Fr_rf _ _⟩
            · have q1 : nI c < (20 : Int32) := (nI_lt20 hc20).mpr (by omega)
              have q2 : ¬ nI c = (20 : Int32) := fun e9 => c20 ((nI_eq20 hc20).mp e9)
              obtain ⟨hc', hm', win, eC, eM, R', z', F', s1, s2, w1, w2, -⟩ := dig_RR (b := b) (x := x) (y := y) R hb6 (by rw [n2]; exact z)
              have H' := RR_Sh R'
              refine ⟨b2 win, hc', hm', r, ?_, ?_, R', z', F'⟩
              · rw [if_pos q1, on_k (S_0 H), eC, Option.bind_some, gr_k (S_0 H') (R_0_6 H'), Option.bind_some, gi_k (S_17 H'), Option.bind_some]
                cases win with
                | true => rw [(w1 rfl).1, if_pos (nm1 (by omega))]; rfl
                | false => rw [(w2 rfl).1, fi, fo, if_neg (fun n9 => n9 rfl)]; rfl
              · rw [if_pos q2, on_k (S_58 Hm), eM, bi_mk]
          · refine ⟨-1000003, hc, hm, r, by rw [fo, if_neg (nm1 (by omega))], by rw [fo, if_pos (nge (by omega))], R, fun _ _ => rfl, Fr_rf _ _⟩
/-! draws -/
def sn (s : Nat) : Nat := (s * 1103515245 + 12345) % 2147483648
theorem sn_lt (s : Nat) : sn s < 2 ^ 31 := Nat.mod_lt _ (by decide)
theorem lN_low (a : Nat) : lN a &&& (2147483647 : Int64) = lN (a % 2147483648) := by
  apply Int64.toBitVec_inj.mp
  rw [Int64.toBitVec_and]
  show BitVec.ofNat 64 a &&& BitVec.ofNat 64 2147483647 = BitVec.ofNat 64 (a % 2147483648)
  apply BitVec.eq_of_getLsbD_eq
  intro i hi
  rw [BitVec.getLsbD_and, BitVec.getLsbD_ofNat, BitVec.getLsbD_ofNat, BitVec.getLsbD_ofNat, show (2147483648 : Nat) = 2 ^ 31 from rfl, show (2147483647 : Nat) = 2 ^ 31 - 1 from rfl, Nat.testBit_mod_two_pow, Nat.testBit_two_pow_sub_one]
  cases decide (i < 64) <;> cases a.testBit i <;> cases decide (i < 31) <;> rfl
theorem e_drawC {f s n : Nat} {h : Hp} {r : Rs} (H : Sh h r) (es : zI h 17 6 = nI s) (hs : s < 2 ^ 31) (hn : 0 < n) (hn9 : n < 1000) : f_X4_draw f 17 (nI n) h = some (nI (sn s / 65536 % n), sI h 17 6 (nI (sn s))) := by
  unfold f_X4_draw b_X4_draw_40
  have v : (((nI s).toInt64 * (1103515245 : Int64)) + (12345 : Int64) &&& (2147483647 : Int64)).toInt32 = nI (sn s) := by
    rw [nI_l hs, show (1103515245 : Int64) = lN 1103515245 from rfl, show (12345 : Int64) = lN 12345 from rfl, lN_mul, lN_add, lN_low, lN_i]
    rfl
  have H1 : Sh (sI h 17 6 (nI (sn s))) r := H
  have nz : ¬ (65536 : Int32) = 0 := by decide
  have s31 := sn_lt s
  rw [gi_k (S_17 H), Option.bind_some, es, v, pi_k (S_17 H), Option.bind_some, if_pos (show (1 : Int32) ≤ nI n from (nI_leI (a := 1) (by omega) (by omega)).mpr hn), gi_k (S_17 H1), Option.bind_some, zI_sI, if_pos ⟨rfl, rfl⟩]
  unfold q_nz
  rw [if_neg nz, if_neg (n0_of hn hn9), show (65536 : Int32) = nI 65536 from rfl, pk_div s31 (by decide) (by decide), pk_rem (by omega) hn (by omega)]
theorem e_drawM {f s n : Nat} {h : Hp} {r : Rs} (H : Sh h r) (es : zI h 58 17 = nI s) (hs : s < 2 ^ 31) (hn : 0 < n) (hn9 : n < 1000) : f_X6_draw f 58 (nI n) h = some (nI (sn s / 65536 % n), sI h 58 17 (nI (sn s))) := by
  unfold f_X6_draw
  have v : ((((nI s).toInt64 * (1103515245 : Int64)) + (12345 : Int64)) - (((nI s).toInt64 * (1103515245 : Int64)) + (12345 : Int64)) / (2147483648 : Int64) * (2147483648 : Int64)).toInt32 = nI (sn s) := by
    rw [nI_l hs, show (1103515245 : Int64) = lN 1103515245 from rfl, show (12345 : Int64) = lN 12345 from rfl, lN_mul, lN_add, show (2147483648 : Int64) = lN 2147483648 from rfl, pk_lRem (by omega) (by decide) (by decide), lN_i]
    rfl
  have H1 : Sh (sI h 58 17 (nI (sn s))) r := H
  have nz : ¬ (65536 : Int32) = 0 := by decide
  have nzl : ¬ (2147483648 : Int64) = 0 := by decide
  have s31 := sn_lt s
  unfold q_nzl
  rw [gi_k (S_58 H), Option.bind_some, es, if_neg nzl, v, pi_k (S_58 H), Option.bind_some, gi_k (S_58 H1), Option.bind_some, zI_sI, if_pos ⟨rfl, rfl⟩]
  unfold q_nz
  rw [if_neg nz, if_neg (n0_of hn hn9), show (65536 : Int32) = nI 65536 from rfl, pk_div s31 (by decide) (by decide), pk_rem (by omega) hn (by omega)]
/-- a trade by draws, on one side: known, where the seed lies -/
def trO (s b : Nat) : Nat := if sn s / 65536 % 5 < b then sn s / 65536 % 5 else sn s / 65536 % 5 + 1
def trX (s n : Nat) : Nat := sn (sn s) / 65536 % n
def trY (s n : Nat) : Nat := sn (sn (sn s)) / 65536 % n
def trH (kn cn cj : Nat) (h : Hp) (s b n : Nat) : Hp := sI (sI (sI (sI (sI h cn cj (nI (sn s))) cn cj (nI (sn (sn s)))) cn cj (nI (sn (sn (sn s))))) kn (6 * trO s b + b) (zI h kn (6 * trO s b + b) ||| (1 : Int32) <<< (nI (trX s n) &&& 31))) kn (6 * b + trO s b) (zI h kn (6 * b + trO s b) ||| (1 : Int32) <<< (nI (trY s n) &&& 31))
theorem trO_lt {s b : Nat} (hb : b < 6) : trO s b < 6 ∧ trO s b ≠ b := by
  unfold trO
  have := Nat.mod_lt (sn s / 65536) (show 0 < 5 by decide)
  split <;> omega
theorem e_tradeC {f s b n : Nat} {h : Hp} {r : Rs} (H : Sh h r) (hp : r.1 = 2 ∨ r.1 = 7) (hb6 : b < 6) (en : zI h r.1 4 = nI n) (hn : 0 < n) (hn9 : n ≤ 9) (es : zI h 17 6 = nI s) (hs : s < 2 ^ 31) : f_X5_tradeByDraws f 0 (nI b) h = some (trH 18 17 6 h s b n) := by
  unfold f_X5_tradeByDraws
  have o5 := Nat.mod_lt (sn s / 65536) (show 0 < 5 by decide)
  have H1 : Sh (sI h 17 6 (nI (sn s))) r := H
  have ob := trO_lt (s := s) hb6
  have key : b_X5_tradeByDraws_17 f 0 (nI b) (nI (trO s b)) (sI h 17 6 (nI (sn s))) = some (trH 18 17 6 h s b n) := by
    unfold b_X5_tradeByDraws_17 trH
    have H2 : Sh (sI (sI h 17 6 (nI (sn s))) 17 6 (nI (sn (sn s)))) r := H
    have H3 : Sh (sI (sI (sI h 17 6 (nI (sn s))) 17 6 (nI (sn (sn s)))) 17 6 (nI (sn (sn (sn s))))) r := H
    have d1 := e_drawC (f := f) (n := n) (s := sn s) H1 (by rw [zI_sI, if_pos ⟨rfl, rfl⟩]) (sn_lt s) hn (by omega)
    have d2 := e_drawC (f := f) (n := n) (s := sn (sn s)) H2 (by rw [zI_sI, if_pos ⟨rfl, rfl⟩]) (sn_lt _) hn (by omega)
    have e1 : zI (sI h 17 6 (nI (sn s))) r.1 = zI h r.1 := zI_row (by rcases hp with q | q <;> omega)
    have e2 : zI (sI (sI h 17 6 (nI (sn s))) 17 6 (nI (sn (sn s)))) r.1 = zI h r.1 := by rw [zI_row (by rcases hp with q | q <;> omega), e1]
    have l1 := e_learnC (f := f) (a := trO s b) (b := b) H3 ob.1 hb6 (nI (trX s n))
    have H4 : ∀ v, Sh (sI (sI (sI (sI h 17 6 (nI (sn s))) 17 6 (nI (sn (sn s)))) 17 6 (nI (sn (sn (sn s))))) 18 (6 * trO s b + b) v) r := fun _ => H
    have l2 := fun v => e_learnC (f := f) (a := b) (b := trO s b) (H4 v) hb6 ob.1 (nI (trY s n))
    rw [gr_k (S_0 H1) (R_0_6 H1), Option.bind_some, gr_k (S_0 H1) (R_0_3 H1), Option.bind_some, gi_k (Ip_S H1 hp), Option.bind_some, on_k (S_17 H1), e1, en, d1, bi_mk, gr_k (S_0 H2) (R_0_6 H2), Option.bind_some, gr_k (S_0 H2) (R_0_3 H2), Option.bind_some, gi_k (Ip_S H2 hp), Option.bind_some, on_k (S_17 H2), e2, en, d2, bi_mk, gr_k (S_0 H3) (R_0_6 H3), Option.bind_some, on_k (S_17 H3)]
    show (f_X4_learn f 17 (nI (trO s b)) (nI b) (nI (trX s n)) _).bind _ = _
    rw [l1, Option.bind_some, gr_k (S_0 (H4 _)) (R_0_6 (H4 _)), Option.bind_some, on_k (S_17 (H4 _))]
    show (f_X4_learn f 17 (nI b) (nI (trO s b)) (nI (trY s n)) _).bind _ = _
    rw [l2, Option.bind_some, zI_row (show (18 : Nat) ≠ 17 by decide), zI_row (show (18 : Nat) ≠ 17 by decide), zI_row (show (18 : Nat) ≠ 17 by decide)]
    have nx : ¬ (18 = 18 ∧ 6 * b + trO s b = 6 * trO s b + b) := by omega
    rw [zI_sI, if_neg nx, zI_row (show (18 : Nat) ≠ 17 by decide), zI_row (show (18 : Nat) ≠ 17 by decide), zI_row (show (18 : Nat) ≠ 17 by decide)]
  rw [gr_k (S_0 H) (R_0_6 H), Option.bind_some, on_k (S_17 H), show (5 : Int32) = nI 5 from rfl, e_drawC H es hs (by decide) (by decide), bi_mk]
  unfold lt
  by_cases c : sn s / 65536 % 5 < b
  · have eo : trO s b = sn s / 65536 % 5 := by unfold trO; rw [if_pos c]
    rw [if_pos ((nI_ltI (by omega) (by omega)).mpr c), ← eo]; exact key
  · have eo : trO s b = sn s / 65536 % 5 + 1 := by unfold trO; rw [if_neg c]
    rw [if_neg (fun e => c ((nI_ltI (by omega) (by omega)).mp e)), nI_p1, ← eo]; exact key
theorem nI_z0 (a : Nat) : nI a + (0 : Int32) = nI a := nI_add a 0
theorem nI_z1 (a : Nat) : nI a + (1 : Int32) = nI (a + 1) := nI_add a 1
theorem e_tradeM {f s b n : Nat} {h : Hp} {r : Rs} (H : Sh h r) (hb6 : b < 6) (en : zI h 58 0 = nI n) (hn : 0 < n) (hn9 : n ≤ 9) (es : zI h 58 17 = nI s) (hs : s < 2 ^ 31) : b_X6_bandDay_41 f 58 (nI b) h = some (trH 64 58 17 h s b n) := by
  unfold b_X6_bandDay_41
  have o5 := Nat.mod_lt (sn s / 65536) (show 0 < 5 by decide)
  have H1 : Sh (sI h 58 17 (nI (sn s))) r := H
  have ob := trO_lt (s := s) hb6
  have key : ∀ y0 y1 : Int32, y0 + y1 = nI (trO s b) → b_X6_bandDay_58 f 58 (nI b) y0 y1 (sI h 58 17 (nI (sn s))) = some (trH 64 58 17 h s b n) := fun y0 y1 ey => by
    unfold b_X6_bandDay_58 trH trX trY
    simp only [lt]
    rw [ey]
    have H2 : Sh (sI (sI h 58 17 (nI (sn s))) 58 17 (nI (sn (sn s)))) r := H
    have H3 : Sh (sI (sI (sI h 58 17 (nI (sn s))) 58 17 (nI (sn (sn s)))) 58 17 (nI (sn (sn (sn s))))) r := H
    have d1 := e_drawM (f := f) (n := n) (s := sn s) H1 (by rw [zI_sI, if_pos ⟨rfl, rfl⟩]) (sn_lt s) hn (by omega)
    have d2 := e_drawM (f := f) (n := n) (s := sn (sn s)) H2 (by rw [zI_sI, if_pos ⟨rfl, rfl⟩]) (sn_lt _) hn (by omega)
    have n1 : zI (sI h 58 17 (nI (sn s))) 58 0 = nI n := by rw [zI_sI, if_neg (by omega)]; exact en
    have n2 : zI (sI (sI h 58 17 (nI (sn s))) 58 17 (nI (sn (sn s)))) 58 0 = nI n := by rw [zI_sI, if_neg (by omega)]; exact n1
    have H4 : ∀ v, Sh (sI (sI (sI (sI h 58 17 (nI (sn s))) 58 17 (nI (sn (sn s)))) 58 17 (nI (sn (sn (sn s))))) 64 (6 * trO s b + b) v) r := fun _ => H
    rw [gi_k (S_58 H1), Option.bind_some, on_k (S_58 H1), n1, d1, bi_mk, gi_k (S_58 H2), Option.bind_some, on_k (S_58 H2), n2, d2, bi_mk, gr_k (S_58 H3) (R_58_11 H3), Option.bind_some, ix6', ai_nI (S_64 H3) (by omega) (by decide), Option.bind_some, as_nI (S_64 H3) (by omega) (by decide), Option.bind_some, gr_k (S_58 (H4 _)) (R_58_11 (H4 _)), Option.bind_some, ix6', ai_nI (S_64 (H4 _)) (by omega) (by decide), Option.bind_some, as_nI (S_64 (H4 _)) (by omega) (by decide), Option.bind_some]
    have nx : ¬ (64 = 64 ∧ 6 * b + trO s b = 6 * trO s b + b) := by omega
    rw [zI_sI (a := 64), if_neg nx, zI_row (show (64 : Nat) ≠ 58 by decide), zI_row (show (64 : Nat) ≠ 58 by decide), zI_row (show (64 : Nat) ≠ 58 by decide)]
  rw [on_k (S_58 H), show (5 : Int32) = nI 5 from rfl, e_drawM H es hs (by decide) (by decide), bi_mk]
  by_cases c : sn s / 65536 % 5 < b
  · have eo : trO s b = sn s / 65536 % 5 := by unfold trO; rw [if_pos c]
    rw [if_pos ((nI_ltI (by omega) (by omega)).mpr c)]
    exact key _ _ (by rw [eo]; exact nI_z0 _)
  · have eo : trO s b = sn s / 65536 % 5 + 1 := by unfold trO; rw [if_neg c]
    rw [if_neg (fun e => c ((nI_ltI (by omega) (by omega)).mp e))]
    exact key _ _ (by rw [eo]; exact nI_z1 _)
