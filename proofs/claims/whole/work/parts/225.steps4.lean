/-! ===== sure, area, saying ===== -/
theorem rgB {k : Nat} {x c : Int32} (hc : c = nI k) (hk : k < 1000) : decide ((0 : Int32) ≤ x ∧ x ≤ c) = mkB (k + 1) x := by
  unfold mkB
  have e : ((0 : Int32) ≤ x ∧ x ≤ c) ↔ (0 ≤ x.toInt ∧ x.toInt < ((k + 1 : Nat) : Int)) := by
    rw [fa_le, fa_le, i0, hc, nI_toInt (by omega)]; omega
  simp only [e]
theorem rg_hi {α : Type} {k : Nat} {x c : Int32} (hc : c = nI k) (hk : k < 1000) (O G : α) : (if x < 0 then O else if c < x then O else G) = if mkB (k + 1) x = true then G else O := by
  have e : mkB (k + 1) x = true ↔ (0 ≤ x.toInt ∧ x.toInt < ((k + 1 : Nat) : Int)) := by unfold mkB; simp
  by_cases c1 : x < 0
  · rw [if_pos c1, if_neg (by rw [e]; rw [fa_lt, i0] at c1; omega)]
  · rw [if_neg c1]
    by_cases c2 : c < x
    · rw [if_pos c2, if_neg (by rw [e]; rw [fa_lt, hc, nI_toInt (by omega)] at c2; omega)]
    · rw [if_neg c2, if_pos (by rw [e]; rw [fa_lt, i0] at c1; rw [fa_lt, hc, nI_toInt (by omega)] at c2; omega)]
theorem rg_lt {α : Type} {k : Nat} {x c : Int32} (hc : c = nI k) (hk : k < 1000) (O G : α) : (if x < 0 then O else if x < c then G else O) = if mkB k x = true then G else O := by
  have e : mkB k x = true ↔ (0 ≤ x.toInt ∧ x.toInt < (k : Int)) := by unfold mkB; simp
  by_cases c1 : x < 0
  · rw [if_pos c1, if_neg (by rw [e]; rw [fa_lt, i0] at c1; omega)]
  · rw [if_neg c1]
    by_cases c2 : x < c
    · rw [if_pos c2, if_pos (by rw [e]; rw [fa_lt, i0] at c1; rw [fa_lt, hc, nI_toInt (by omega)] at c2; omega)]
    · rw [if_neg c2, if_neg (by rw [e]; rw [fa_lt, hc, nI_toInt (by omega)] at c2; omega)]
theorem rg_le {α : Type} {k : Nat} {x c : Int32} (hc : c = nI k) (hk : k < 1000) (O G : α) : (if x < 0 then O else if x ≤ c then G else O) = if mkB (k + 1) x = true then G else O := by
  have e : mkB (k + 1) x = true ↔ (0 ≤ x.toInt ∧ x.toInt < ((k + 1 : Nat) : Int)) := by unfold mkB; simp
  by_cases c1 : x < 0
  · rw [if_pos c1, if_neg (by rw [e]; rw [fa_lt, i0] at c1; omega)]
  · rw [if_neg c1]
    by_cases c2 : x ≤ c
    · rw [if_pos c2, if_pos (by rw [e]; rw [fa_lt, i0] at c1; rw [fa_le, hc, nI_toInt (by omega)] at c2; omega)]
    · rw [if_neg c2, if_neg (by rw [e]; rw [fa_le, hc, nI_toInt (by omega)] at c2; omega)]
theorem e_inK {f k : Nat} {x : Int32} {h : Hp} {c : Int64} (hc : c = (nI k).toInt64) (hk : k < 1000) : f_X6_in f x.toInt64 (0 : Int64) c h = some (b2 (mkB (k + 1) x), h) := by
  rw [e_inM f x 0 c 0 (nI k) (by decide) hc, rgB rfl hk]
def fOr (x : Int32) (L : List Nat) : Int32 := L.foldl (fun a s => a ||| nI s) x
theorem i32_bits (a x s : Int32) : (a &&& (x ^^^ (-1))) &&& (s ^^^ (-1)) = a &&& ((x ||| s) ^^^ (-1)) := by
  apply Int32.toBitVec_inj.mp
  have e : (-1 : Int32).toBitVec = BitVec.allOnes 32 := by decide
  simp only [Int32.toBitVec_and, Int32.toBitVec_xor, Int32.toBitVec_or, e]
  ext i hi
  simp only [BitVec.getElem_and, BitVec.getElem_xor, BitVec.getElem_or, BitVec.getElem_allOnes]
  cases a.toBitVec[i] <;> cases x.toBitVec[i] <;> cases s.toBitVec[i] <;> rfl
theorem fNon_or (a : Int32) : ∀ (L : List Nat) (x : Int32), fNon (a &&& (x ^^^ (-1))) L = a &&& (fOr x L ^^^ (-1))
  | [], _ => rfl
  | s :: L, x => by
    show fNon ((a &&& (x ^^^ (-1))) &&& (nI s ^^^ (-1))) L = a &&& (fOr (x ||| nI s) L ^^^ (-1))
    rw [i32_bits, fNon_or a L]
def suV (w x3 x4 : Int32) (n : Nat) (L : List Nat) : Int32 := if n + L.length = 0 then -1 else if w = 0 then fAll x3 L else 63 &&& (fOr x4 L ^^^ (-1))
section SS
variable {f b : Nat} {r : Rs} {M : Ma}
theorem sure_go {h0 : Hp} {w : Int32} (J0 : JM h0 r b M) (hf : 30 ≤ f) : ∀ (d s n : Nat) (x3 x4 : Int32) (h : Hp), s ≤ 64 → n ≤ s → 64 < s + d → Fr QN h0 h → ∃ h', Fr QN h0 h' ∧ l_X6_sure_36 f d 58 (nI b) w x3 x4 (nI n) (nI s) h = some (suV w x3 x4 n (fr M s), h') := by
  intro d
  induction d with
  | zero => intro s n x3 x4 h h1 h2 h3; omega
  | succ d ih =>
    intro s n x3 x4 h hs hn hsd F
    have J := JM_Fr F J0
    show ∃ h', _ ∧ b_X6_sure_36 f (l_X6_sure_36 f d) 58 (nI b) w x3 x4 (nI n) (nI s) h = _
    unfold b_X6_sure_36 b_X6_sure_80 b_X6_sure_110 lt
    by_cases c : s = 64
    · subst c
      refine ⟨h, F, ?_⟩
      rw [if_pos (by decide), fr_64]
      unfold suV
      by_cases c0 : n = 0
      · subst c0; rfl
      · have n0 : ¬ nI n = 0 := fun e => c0 ((nI_eq (a := n) (b := 0) (by omega) (by omega)).mp e)
        rw [if_pos n0, if_neg (show ¬ n + ([] : List Nat).length = 0 by simpa using c0)]
        by_cases cw : w = 0
        · rw [if_neg (fun n9 => n9 cw), if_pos cw]; rfl
        · rw [if_pos cw, if_neg cw]; rfl
    · have hs6 : s < 64 := by omega
      rw [if_neg (fun e => by have := (nI_leI (a := 64) (b := s) (by omega) (by omega)).mp e; omega)]
      simp only [nI_p1]
      obtain ⟨h1, F1, -, e1⟩ := scan (f := f) J hs6 hf
      rw [e1, fr_s hs6]
      cases ep : pS M s with
      | false =>
        obtain ⟨h', F', e'⟩ := ih (s + 1) n x3 x4 h1 (by omega) (by omega) (by omega) (Fr_tr F F1)
        exact ⟨h', F', by rw [if_neg (by decide), if_neg (by decide)]; exact e'⟩
      | true =>
        obtain ⟨h', F', e'⟩ := ih (s + 1) (n + 1) (x3 &&& nI s) (x4 ||| nI s) h1 (by omega) (by omega) (by omega) (Fr_tr F F1)
        refine ⟨h', F', ?_⟩
        rw [if_pos rfl, if_pos rfl]
        have q : suV w x3 x4 n (s :: fr M (s + 1)) = suV w (x3 &&& nI s) (x4 ||| nI s) (n + 1) (fr M (s + 1)) := by
          unfold suV
          rw [if_neg (show ¬ n + (s :: fr M (s + 1)).length = 0 by simp), if_neg (show ¬ n + 1 + (fr M (s + 1)).length = 0 by omega)]
          rfl
        rw [q]; exact e'
theorem say_go {h0 : Hp} {i m : Nat} {x : Int32} (J0 : JM h0 r b M) (hf : 30 ≤ f) (hi : i < 20) (e82 : zI h0 82 i = nI b) (e83 : zI h0 83 i = nI m) (e84 : zI h0 84 i = x) : ∀ (d s n a : Nat) (h : Hp), s ≤ 64 → a ≤ s → 64 < s + d → Fr QN h0 h → ∃ h', Fr QN h0 h' ∧ l_X6_saying_59 f d 58 (nI i) (nI n) (nI a) (nI s) h = some ((if a + (fr M s).length = 0 then -1 else (100 * nI (n + hcV (nI m) x (fr M s))) / nI (a + (fr M s).length)), h') := by
  intro d
  induction d with
  | zero => intro s n a h h1 h2 h3; omega
  | succ d ih =>
    intro s n a h hs ha hsd F
    have J := JM_Fr F J0
    have H := J.1
    have O := J.2.2.2.2.2.2.2.2.2.2
    have p9 := pcn_le s
    show ∃ h', _ ∧ b_X6_saying_59 f (l_X6_saying_59 f d) 58 (nI i) (nI n) (nI a) (nI s) h = _
    unfold b_X6_saying_59 b_X6_saying_146 b_X6_saying_122 b_X6_saying_124 lt
    have z : ∀ x : Nat, nI x + (0 : Int32) = nI (x + 0) := fun x => nI_add x 0
    by_cases c : s = 64
    · subst c
      refine ⟨h, F, ?_⟩
      rw [if_pos (by decide), fr_64]
      by_cases c0 : a = 0
      · subst c0; rfl
      · have n0 : ¬ nI a = 0 := fun e => c0 ((nI_eq (a := a) (b := 0) (by omega) (by omega)).mp e)
        rw [if_pos n0, q_nz, if_neg n0, if_neg (by simpa using c0)]; rfl
    · have hs6 : s < 64 := by omega
      rw [if_neg (fun e => by have := (nI_leI (a := 64) (b := s) (by omega) (by omega)).mp e; omega)]
      simp only [nI_p1]
      rw [e_bits (by omega), bi_mk, (pc_all s (by omega)).1, gi_k (S_58 H), Option.bind_some, J.2.2.2.2.1, fr_s hs6]
      by_cases cp : pcn s = aL M
      · obtain ⟨h1, F1, -, e1⟩ := e_mayLieM (f := f) J hs6 (by have := O.2.1; omega) hf
        have F2 := Fr_tr F F1
        have H1 := Fr_Sh F2 J0.1
        have ep : pS M s = mM M s := by unfold pS; rw [cp]; simp
        rw [if_neg (fun n9 => n9 (by rw [cp])), gr_k (S_58 H) (R_58_51 H), Option.bind_some, ai_nI (S_82 H) hi (by decide), Option.bind_some, F.1 82 i rfl, e82, on_k (S_58 H), e1, bi_mk, ep]
        cases em : mM M s with
        | false =>
          obtain ⟨h', F', e'⟩ := ih (s + 1) n a h1 (by omega) (by omega) (by omega) F2
          exact ⟨h', F', by rw [b2F, if_pos rfl]; exact e'⟩
        | true =>
          rw [b2T, if_neg c10, if_pos rfl, gr_k (S_58 H1) (R_58_52 H1), Option.bind_some, ai_nI (S_83 H1) hi (by decide), Option.bind_some, F2.1 83 i rfl, e83, e_has, bi_mk, gr_k (S_58 H1) (R_58_53 H1), Option.bind_some, ai_nI (S_84 H1) hi (by decide), Option.bind_some, F2.1 84 i rfl, e84, hcV_c]
          by_cases c2 : b2 (hb (nI s) (nI m)) = x
          · obtain ⟨h', F', e'⟩ := ih (s + 1) (n + 1) (a + 1) h1 (by omega) (by omega) (by omega) F2
            refine ⟨h', F', ?_⟩
            rw [if_neg (fun n9 => n9 c2), if_pos c2]
            refine Eq.trans e' ?_
            rw [List.length_cons, show a + 1 + (fr M (s + 1)).length = a + ((fr M (s + 1)).length + 1) by omega, show n + 1 + hcV (nI m) x (fr M (s + 1)) = n + (hcV (nI m) x (fr M (s + 1)) + 1) by omega]
          · obtain ⟨h', F', e'⟩ := ih (s + 1) n (a + 1) h1 (by omega) (by omega) (by omega) F2
            refine ⟨h', F', ?_⟩
            rw [if_pos c2, if_neg c2, z]
            refine Eq.trans e' ?_
            rw [List.length_cons, show a + 1 + (fr M (s + 1)).length = a + ((fr M (s + 1)).length + 1) by omega]; rfl
      · obtain ⟨h', F', e'⟩ := ih (s + 1) n a h (by omega) (by omega) (by omega) F
        have ep : pS M s = false := by unfold pS; simp [cp]
        exact ⟨h', F', by rw [if_pos (fun e => cp ((nI_eq (by omega) (by have := O.2.1; omega)).mp e)), ep]; exact e'⟩
end SS
theorem n0_of {n : Nat} (h : 0 < n) (h2 : n < 1000) : ¬ nI n = 0 := fun e => by have := (nI_eq (a := n) (b := 0) (by omega) (by omega)).mp e; omega
theorem st_sure {f : Nat} (hf : 100 ≤ f) (a x : Int32) : StpR (f_X5_sure f 0 a x) (f_X6_sure f 58 a x) := by
  intro h r R
  have H := R.1
  unfold f_X5_sure f_X6_sure b_X5_sure_19 b_X5_sure_71
  simp only [e_bandC, e_bandM, bi_mk, b2_ne]
  cases ea : mkB 6 a with
  | false => exact ⟨_, h, h, r, rfl, by rw [S_58 H], rfl, R⟩
  | true =>
    obtain ⟨b, hb6, rfl⟩ := mkB_t (by decide) ea
    rw [if_pos rfl, rg_le (k := 1) (c := 1) rfl (by omega)]
    cases ex : mkB 2 x with
    | false =>
      rw [if_neg (by decide)]
      exact ⟨_, h, h, r, rfl, by rw [S_58 H], by rw [if_pos rfl, e_inK (k := 1) (by decide) (by omega), bi_mk, ex]; rfl, R⟩
    | true =>
      obtain ⟨h', e, W, R', J, C, h15⟩ := weighed (f := f) R hb6 hf
      have H' := R'.1
      obtain ⟨h2, F2, e2⟩ := sure_go (f := f) (w := x) J (by omega) f 0 0 63 0 h' (by omega) (by omega) (by omega) (Fr_rf _ _)
      rw [fr_0] at e2
      refine ⟨_, h', h2, rW r, ?_, by rw [S_58 H'], by rw [if_pos rfl, e_inK (k := 1) (by decide) (by omega), bi_mk, ex, b2T, if_pos c10]; exact e2, Rel_QN R' F2⟩
      rw [if_pos rfl, gr_k (S_0 H) (R_0_10 H), Option.bind_some, gr_k (S_0 H) (R_0_3 H), Option.bind_some, gr_k (S_0 H) (R_0_6 H), Option.bind_some, on_k (S_38 H), e, Option.bind_some, gr_k (S_0 H') (R_0_10 H'), Option.bind_some, gi_k (S_38 H'), Option.bind_some, C.1]
      unfold suV
      rw [Nat.zero_add]
      by_cases c0 : (fl (mo h' b) 64).length = 0
      · rw [c0, if_pos rfl]; rfl
      · rw [if_pos (n0_of (by omega) (by omega)), if_neg c0]
        by_cases cx : x = 0
        · rw [if_neg (fun n9 => n9 cx), if_pos cx, Option.bind_some, on_k (S_38 H')]
          have q := all_go (f := f) H' C h15 f 0 63 (by omega) (by omega)
          rw [List.drop_zero] at q
          show bi (l_X1_inAll_5 f f 38 63 (nI 0) h') _ = _
          rw [q]; rfl
        · rw [if_pos cx, if_neg cx, Option.bind_some, on_k (S_38 H')]
          have q := non_go (f := f) H' C h15 f 0 63 (by omega) (by omega)
          rw [List.drop_zero] at q
          show bi (l_X1_inNone_5 f f 38 63 (nI 0) h') _ = _
          have e63 : (63 : Int32) = 63 &&& (0 ^^^ (-1)) := by decide
          rw [q, bi_mk]
          conv => lhs; rw [e63]
          rw [fNon_or]
theorem st_area {f : Nat} (hf : 100 ≤ f) (a x y : Int32) : StpR (f_X5_area f 0 a x y) (f_X6_area f 58 a x y) := by
  intro h r R
  obtain ⟨H, rp, tx, ft, n, w, l, ga, gb, gc, il, st, sy, im0, im1⟩ := id R
  have hp := Rp_p rp
  unfold f_X5_area f_X6_area b_X5_area_29 b_X5_area_96 b_X6_area_35 b_X6_area_65
  simp only [e_bandC, e_bandM, bi_mk, b2_ne]
  cases ea : mkB 6 a with
  | false => exact ⟨_, h, h, r, rfl, by rw [S_58 H], rfl, R⟩
  | true =>
    obtain ⟨b, hb6, rfl⟩ := mkB_t (by decide) ea
    rw [if_pos rfl, rg_hi (k := 63) (c := 63) rfl (by omega), rg_lt (k := 4) (c := 4) rfl (by omega)]
    cases ex : mkB 64 x with
    | false =>
      rw [if_neg (by decide)]
      exact ⟨_, h, h, r, rfl, by rw [S_58 H], by rw [if_pos rfl, e_inK (k := 63) (by decide) (by omega), bi_mk, ex]; rfl, R⟩
    | true =>
      rw [if_pos rfl]
      cases ey : mkB 4 y with
      | false =>
        rw [if_neg (by decide)]
        exact ⟨_, h, h, r, rfl, by rw [S_58 H], by rw [if_pos rfl, e_inK (k := 63) (by decide) (by omega), bi_mk, ex, b2T, if_neg c10, e_inK (k := 3) (by decide) (by omega), bi_mk, ey]; rfl, R⟩
      | true =>
        obtain ⟨s, hs, rfl⟩ := mkB_t (by decide) ex
        obtain ⟨j, hj, rfl⟩ := mkB_t (by decide) ey
        rw [if_pos rfl, gr_k (S_0 H) (R_0_3 H), Option.bind_some, gi_k (Ip_S H hp), Option.bind_some, il.2.1.1]
        by_cases c0 : n = 0
        · have n0 : nI n = 0 := by rw [c0]; rfl
          rw [if_neg (fun n9 => n9 n0)]
          refine ⟨_, h, h, r, rfl, by rw [S_58 H], ?_, R⟩
          rw [if_pos rfl, e_inK (k := 63) (by decide) (by omega), bi_mk, ex, b2T, if_neg c10, e_inK (k := 3) (by decide) (by omega), bi_mk, ey, b2T, if_pos c10, gi_k (S_58 H), Option.bind_some, il.2.1.2, if_pos n0]
        · have h9 := il.1.1
          rw [if_pos (n0_of (by omega) (by omega)), gr_k (S_0 H) (R_0_10 H), Option.bind_some, Option.bind_some, gr_k (S_0 H) (R_0_6 H), Option.bind_some, on_k (S_38 H)]
          obtain ⟨h', e, W, R', J, C, h15⟩ := weighed (f := f) R hb6 hf
          have H' := R'.1
          have n58 : zI h' 58 0 = nI n := (W 58 0 (by omega)).trans il.2.1.2
          have an : aN (mo h' b) = n := by
            show (zI h' 58 0).toNatClampNeg = n
            rw [n58, clI (by omega)]
          obtain ⟨h1, F1, B1, e1⟩ := scan (f := f) J hs (by omega)
          have ix := idx_go (f := f) H' C h15 hs f 0 (by omega) (by omega)
          rw [List.drop_zero] at ix
          rw [e, Option.bind_some, gr_k (S_0 H') (R_0_10 H'), Option.bind_some, on_k (S_38 H')]
          have ix' : f_X1_indexOf f 38 (nI s) h' = some (ixV 0 s (fl (mo h' b) 64), h') := ix
          rw [ix', bi_mk]
          cases ep : pS (mo h' b) s with
          | false =>
            refine ⟨-1000003, h', h1, rW r, ?_, by rw [S_58 H'], ?_, Rel_QN R' F1⟩
            · rw [ixV_n _ 0 (fun q => by have := (fl_mem q).2; rw [ep] at this; cases this), if_neg (fun n9 => n9 rfl)]
            · rw [if_pos rfl, e_inK (k := 63) (by decide) (by omega), bi_mk, ex, b2T, if_neg c10, e_inK (k := 3) (by decide) (by omega), bi_mk, ey, b2T, if_pos c10, gi_k (S_58 H'), Option.bind_some, n58, if_neg (n0_of (by omega) (by omega))]
              have q := e1 (fun h => some ((-1000003 : Int32), h)) (fun h12_ => q_on h12_ 58 6 ((f_X6_findArea f 58 h12_).bind fun h15_ => (q_gr h15_ 58 6 43).bind fun a16_ => (q_ai h15_ a16_ 9 (nI j)).bind fun v17_ => some (v17_, h15_)))
              rw [ep, if_neg (by decide)] at q
              refine Eq.trans ?_ q
              congr; funext v2 h3; congr; funext v3; congr; funext v6 h5
              by_cases c6 : v6 = 0 <;> simp [c6]
          | true =>
            have mem : s ∈ fl (mo h' b) 64 := by
              unfold fl; rw [List.mem_filter, List.mem_range]; exact ⟨hs, ep⟩
            obtain ⟨i, hi, hi2, hi3⟩ := ixV_y _ 0 mem
            rw [Nat.zero_add] at hi3
            have J1 := JM_Fr F1 J
            obtain ⟨h2, F2, a2, e2⟩ := e_findArea (f := f) J1 (B1 ep) (by omega) (by omega)
            have H2 : Sh h2 (rW r) := Fr_Sh F2 J1.1
            refine ⟨eS (mo h' b) s j, h', h2, rW r, ?_, by rw [S_58 H'], ?_, Rel_QN R' (Fr_tr F1 (Fr_mono F2 QA_QN))⟩
            · have ne : ¬ nI i = -1 := fun e9 => nI_ge0 (n := i) (by omega) (by rw [e9]; decide)
              rw [hi3, if_pos ne, gr_k (S_0 H') (R_0_10 H'), Option.bind_some, gr_k (S_38 H') (R_38_8 H'), Option.bind_some]
              have m4 : nI i * 4 + nI j = nI (4 * i + j) := by rw [show (4 : Int32) = nI 4 from rfl, pk_mul, nI_add, Nat.mul_comm]
              rw [m4, ai_nI (S_47 H') (by omega) (by decide), Option.bind_some, (C.2 i s hi2).2 j hj]
            · rw [if_pos rfl, e_inK (k := 63) (by decide) (by omega), bi_mk, ex, b2T, if_neg c10, e_inK (k := 3) (by decide) (by omega), bi_mk, ey, b2T, if_pos c10, gi_k (S_58 H'), Option.bind_some, n58, if_neg (n0_of (by omega) (by omega))]
              have q := e1 (fun h => some ((-1000003 : Int32), h)) (fun h12_ => q_on h12_ 58 6 ((f_X6_findArea f 58 h12_).bind fun h15_ => (q_gr h15_ 58 6 43).bind fun a16_ => (q_ai h15_ a16_ 9 (nI j)).bind fun v17_ => some (v17_, h15_)))
              rw [ep, if_pos rfl, on_k (S_58 J1.1), e2, Option.bind_some, gr_k (S_58 H2) (R_58_43 H2), Option.bind_some, ai_nI (S_77 H2) hj (by decide), Option.bind_some, a2 j hj] at q
              refine Eq.trans ?_ q
              congr; funext v2 h3; congr; funext v3; congr; funext v6 h5
              by_cases c6 : v6 = 0 <;> simp [c6]
