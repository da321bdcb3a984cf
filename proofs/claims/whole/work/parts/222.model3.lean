/-! ===== reference: quarrels, isFelled, mayLie ===== -/
def qq (s : Nat) : Nat → Int32 × Int32
  | 0 => (-1, -1)
  | m + 1 => if s.testBit m then ((if 0 ≤ (qq s m).1 then (qq s m).1 else nI m), nI m) else qq s m
theorem qq_2 : ∀ s, s < 64 → pcn s = 2 → qq s 6 = (nI (qa s), nI (qb s)) ∧ qa s ≠ qb s ∧ qa s < 6 ∧ qb s < 6 := by decide +kernel
theorem qq_1 : ∀ s, s < 64 → pcn s < 2 → (qq s 6).1 < 0 ∨ (qq s 6).2 = (qq s 6).1 := by decide +kernel
section M4
variable {f b s : Nat} {r : Rs} {h : Hp} {M : Ma}
theorem e_size (d : Int32) : f_X6_size f d h = some (ab d, h) := by
  unfold f_X6_size b_X6_size_10 ab
  by_cases c : 0 ≤ d
  · rw [if_pos c, if_pos c]
  · rw [if_neg c, if_neg c]
    have : -d = 0 - d := by simp
    rw [this]
theorem qq_go (hs : s < 64) : ∀ (d m : Nat), m ≤ 6 → 6 < m + d → l_X6_quarrels_8 f d 58 (nI b) (nI s) (qq s m).1 (qq s m).2 (nI m) h = l_X6_quarrels_65 f f 58 (nI b) (qq s 6).1 (qq s 6).2 0 0 h := by
  intro d
  induction d with
  | zero => intro m h1 h2; omega
  | succ d ih =>
    intro m hm hmd
    show b_X6_quarrels_8 f (l_X6_quarrels_8 f d) 58 (nI b) (nI s) _ _ (nI m) h = _
    unfold b_X6_quarrels_8 b_X6_quarrels_31 b_X6_quarrels_51 b_X6_quarrels_52 lt
    by_cases c : m = 6
    · subst c; rw [if_pos (by decide)]
    · rw [if_neg (fun e => by have := (nI_leI (a := 6) (b := m) (by omega) (by omega)).mp e; omega), e_has, bi_mk, hb_all s (by omega) m (by omega), nI_p1]
      have ih' := ih (m + 1) (by omega) (by omega)
      unfold qq at ih'
      cases e1 : s.testBit m with
      | false =>
        rw [b2F, if_pos rfl, e_has, bi_mk, hb_all s (by omega) m (by omega), e1, b2F, if_pos rfl]
        rw [e1] at ih'
        exact ih'
      | true =>
        rw [b2T, if_neg c10, e_has, bi_mk, hb_all s (by omega) m (by omega), e1, b2T, if_neg c10]
        rw [e1, if_pos rfl] at ih'
        by_cases c2 : 0 ≤ (qq s m).1
        · rw [if_pos c2]
          rw [if_pos c2] at ih'
          exact ih'
        · rw [if_neg c2]
          rw [if_neg c2] at ih'
          exact ih'
theorem q138 {a c k n : Nat} {k65 : Nat → Int32 → Int32 → Int32 → Int32 → Int32 → Hp → Option (Int32 × Hp)} (J : JM h r b M) (ha : a < 6) (hc : c < 6) (hk : k < 9) (bo : Bool) : b_X6_quarrels_138 f k65 58 (nI b) (nI a) (nI c) (nI n) (nI k) (b2 bo) h = k65 58 (nI b) (nI a) (nI c) (nI (n + if (bo && aptB (aW M) (aX M (9 * a + k)) (aX M (9 * c + k)) (aY M (9 * a + k)) (aY M (9 * c + k))) then 1 else 0)) (nI (k + 1)) h := by
  have H := J.1
  obtain ⟨fw, fk, fx, fy, -, -⟩ := JM_f J
  have ia : 9 * a + k < 54 := by omega
  have ic : 9 * c + k < 54 := by omega
  unfold b_X6_quarrels_138 b_X6_quarrels_216 b_X6_quarrels_221 b_X6_quarrels_239 b_X6_quarrels_240 lt aptB
  simp only [gr_k (S_58 H) (R_58_3 H), gr_k (S_58 H) (R_58_4 H), Option.bind_some, gi_k (S_58 H), fw, ix9', ai_nI (S_61 H) ia (by decide), ai_nI (S_62 H) ia (by decide), ai_nI (S_61 H) ic (by decide), ai_nI (S_62 H) ic (by decide), fx, fy, e_size, bi_mk, nI_p1]
  have z : ∀ x : Nat, nI x + (0 : Int32) = nI (x + 0) := fun x => nI_add x 0
  cases bo with
  | false => simp only [b2F, if_true, Bool.false_and, Bool.false_eq_true, if_false, z]; simp only [ite_self]
  | true =>
    by_cases c1 : 2 * aW M < ab (aX M (9 * a + k) - aX M (9 * c + k))
    · simp [c1, b2T]
    · by_cases c2 : ab (aY M (9 * a + k) - aY M (9 * c + k)) ≤ 2 * aW M
      · simp [c1, c2, b2T]
      · simp [c1, c2, b2T]
def quaM (M : Ma) (s a c k : Nat) : Bool := quaS (aW M) (aK M) (aX M) (aY M) s a c k
theorem nI_ge0 {n : Nat} (h : n < 2 ^ 31) : ¬ nI n < 0 := by
  rw [fa_lt, nI_toInt h, i0]; omega
theorem qua_go {a c : Nat} (J : JM h r b M) (B : MBs h M s (aN M)) (ha : a < 6) (hc : c < 6) (hac : a ≠ c) : ∀ (d k : Nat), k ≤ aN M → aN M < k + d → l_X6_quarrels_65 f d 58 (nI b) (nI a) (nI c) (nI (fb_ct (quaM M s a c) k)) (nI k) h = some (nI (fb_ct (quaM M s a c) (aN M)), h) := by
  have H := J.1
  have hb6 := J.2.1
  have hn9 : aN M ≤ 9 := J.2.2.2.2.2.2.2.2.2.2.1
  intro d
  induction d with
  | zero => intro k h1 h2; omega
  | succ d ih =>
    intro k hk hkd
    show b_X6_quarrels_65 f (l_X6_quarrels_65 f d) 58 (nI b) (nI a) (nI c) _ (nI k) h = _
    unfold b_X6_quarrels_65 b_X6_quarrels_137 b_X6_quarrels_249
    rw [gi_k (S_58 H), Option.bind_some, J.2.2.2.1]
    by_cases e : k = aN M
    · rw [e, if_pos ((nI_leI (by omega) (by omega)).mpr (Nat.le_refl _))]
    · have hk9 : k < 9 := by omega
      rw [if_neg (fun e => by have := (nI_leI (a := aN M) (b := k) (by omega) (by omega)).mp e; omega), if_neg (nI_ge0 (by omega)), if_neg (fun e => hac ((nI_eq (by omega) (by omega)).mp e).symm)]
      rw [gr_k (S_58 H) (R_58_41 H), Option.bind_some, ai_nI (S_75 H) hk9 (by decide), Option.bind_some]
      have ih' := ih (k + 1) (by omega) (by omega)
      rw [fb_ct_succ] at ih'
      have Bk := B k (by omega)
      have q0 := fun bo : Bool => q138 (f := f) (k65 := l_X6_quarrels_65 f d) (n := fb_ct (quaM M s a c) k) J ha hc hk9 bo
      have key : quaM M s a c k = ((!(bM M s k).isSome && hb (aK M a) (nI k) && hb (aK M c) (nI k)) && aptB (aW M) (aX M (9 * a + k)) (aX M (9 * c + k)) (aY M (9 * a + k)) (aY M (9 * c + k))) := rfl
      rw [key, ← q0] at ih'
      cases eo : bM M s k with
      | some B' =>
        rw [eo] at Bk ih'
        rw [Bk.1, if_pos rfl]
        simp only [Option.isSome_some, Bool.not_true, Bool.false_and, b2F] at ih'
        exact ih'
      | none =>
        rw [eo] at Bk ih'
        rw [show zI h 75 k = 1 from Bk, if_neg c10, gr_k (S_58 H) (R_58_11 H), Option.bind_some, ix6', ai_nI (S_64 H) (by omega) (by decide), Option.bind_some, e_has, bi_mk, (JM_f J).2.1 a]
        simp only [Option.isSome_none, Bool.not_false, Bool.true_and] at ih'
        cases e1 : hb (aK M a) (nI k) with
        | false =>
          rw [e1, Bool.false_and, b2F] at ih'
          rw [b2F, if_pos rfl]
          exact ih'
        | true =>
          rw [e1, Bool.true_and] at ih'
          rw [b2T, if_neg c10, gr_k (S_58 H) (R_58_11 H), Option.bind_some, ix6', ai_nI (S_64 H) (by omega) (by decide), Option.bind_some, e_has, bi_mk, (JM_f J).2.1 c]
          cases e2 : hb (aK M c) (nI k) with
          | false =>
            rw [e2, b2F] at ih'
            rw [b2F, if_pos rfl]
            exact ih'
          | true =>
            rw [e2, b2T] at ih'
            rw [b2T, if_neg c10]
            exact ih'
def quM (M : Ma) (s : Nat) : Nat := quNS (aW M) (aK M) (aX M) (aY M) (aN M) s
theorem e_quarrelsM (J : JM h r b M) (B : MBs h M s (aN M)) (hs : s < 64) (h2 : pcn s ≤ 2) (hf : 12 ≤ f) : f_X6_quarrels f 58 (nI b) (nI s) h = some (nI (quM M s), h) := by
  have hn9 : aN M ≤ 9 := J.2.2.2.2.2.2.2.2.2.2.1
  have H := J.1
  have q := qq_go (f := f) (b := b) (h := h) hs f 0 (by omega) (by omega)
  unfold f_X6_quarrels
  rw [show (-1 : Int32) = (qq s 0).1 from rfl, show (0 : Int32) = nI 0 from rfl]
  refine Eq.trans q ?_
  unfold quM quNS
  by_cases c : pcn s = 2
  · obtain ⟨q1, q2, q3, q4⟩ := qq_2 s hs c
    rw [q1, if_pos c]
    exact qua_go J B q3 q4 q2 f 0 (by omega) (by omega)
  · rw [if_neg c]
    obtain ⟨g, rfl⟩ : ∃ g, f = g + 1 := ⟨f - 1, by omega⟩
    show b_X6_quarrels_65 (g + 1) (l_X6_quarrels_65 (g + 1) g) 58 (nI b) _ _ 0 0 h = _
    unfold b_X6_quarrels_65 b_X6_quarrels_249
    rw [gi_k (S_58 H), Option.bind_some, J.2.2.2.1]
    by_cases c0 : nI (aN M) ≤ 0
    · rw [if_pos c0]; rfl
    · rw [if_neg c0]
      rcases qq_1 s hs (by omega) with q | q
      · rw [if_pos q]; rfl
      · by_cases c1 : (qq s 6).1 < 0
        · rw [if_pos c1]; rfl
        · rw [if_neg c1, if_pos q]; rfl
theorem e_isOne {k : Nat} {o : Option Bx} (H : Sh h r) (hk : k < 9) (B : MB h k o) : f_X6_isOne f 58 (nI k) h = some (b2 (oneO o), h) := by
  unfold f_X6_isOne b_X6_isOne_57 b_X6_isOne_58
  rw [gr_k (S_58 H) (R_58_41 H), Option.bind_some, ai_nI (S_75 H) hk (by decide), Option.bind_some]
  cases o with
  | none => rw [show zI h 75 k = 1 from B, if_pos c10]; rfl
  | some B' =>
    obtain ⟨b0, b1, b2', b3, b4⟩ := B
    rw [b0, if_neg (by simp)]
    simp only [gr_k (S_58 H) (R_58_42 H), Option.bind_some, ix4_0, nI_p1, nI_p2, nI_p3, ai_nI (S_76 H) (show 4 * k < 36 by omega) (by decide), ai_nI (S_76 H) (show 4 * k + 1 < 36 by omega) (by decide), ai_nI (S_76 H) (show 4 * k + 2 < 36 by omega) (by decide), ai_nI (S_76 H) (show 4 * k + 3 < 36 by omega) (by decide), b1, b2', b3, b4]
    unfold oneO oneC
    by_cases c1 : B'.1 = B'.2.1
    · by_cases c2 : B'.2.2.1 = B'.2.2.2
      · simp [c1, c2, q_bo, b2]
      · simp [c1, c2, q_bo, b2]
    · simp [c1, q_bo, b2]
theorem e_lead {j : Nat} (J : JM h r b M) (hn : 0 < aN M) (hj : j < 4) : f_X6_lead f 58 (nI j) h = some (zI h 76 (4 * aA M + j) + zI h 76 (4 * aB M + j) - zI h 76 (4 * aD M + j), h) := by
  obtain ⟨H, hb6, -, e1, e2, e3, e4, e5, e6, e7, e8⟩ := J
  have hn9 : aN M ≤ 9 := e8.1
  obtain ⟨g1, g2, g3⟩ := e7 hn
  unfold f_X6_lead
  have a0 : q_ai h 63 9 0 = some (nI (aA M)) := by rw [show (0 : Int32) = nI 0 from rfl, ai_nI (S_63 H) (by decide) (by decide), e4]
  have a1 : q_ai h 63 9 1 = some (nI (aB M)) := by rw [show (1 : Int32) = nI 1 from rfl, ai_nI (S_63 H) (by decide) (by decide), e5]
  have a2 : q_ai h 63 9 2 = some (nI (aD M)) := by rw [show (2 : Int32) = nI 2 from rfl, ai_nI (S_63 H) (by decide) (by decide), e6]
  simp only [gr_k (S_58 H) (R_58_42 H), gr_k (S_58 H) (R_58_8 H), Option.bind_some, a0, a1, a2, ix4_0, nI_add, ai_nI (S_76 H) (show 4 * aA M + j < 36 by omega) (by decide), ai_nI (S_76 H) (show 4 * aB M + j < 36 by omega) (by decide), ai_nI (S_76 H) (show 4 * aD M + j < 36 by omega) (by decide)]
def felM (M : Ma) (s : Nat) : Bool := felS (aW M) (aK M) (aX M) (aY M) s (aSx M) (aSy M) (aC M) (aA M) (aB M) (aD M)
def feP (M : Ma) (s i : Nat) : Bool := felP (aSx M) (aSy M) ((cbx (bM M s (aA M))).1 + (cbx (bM M s (aB M))).1 - (cbx (bM M s (aD M))).1) ((cbx (bM M s (aA M))).2.2.1 + (cbx (bM M s (aB M))).2.2.1 - (cbx (bM M s (aD M))).2.2.1) i
def on3 (M : Ma) (s : Nat) : Bool := oneO (bM M s (aA M)) && oneO (bM M s (aB M)) && oneO (bM M s (aD M))
theorem fel_go2 (J : JM h r b M) (B : MBs h M s (aN M)) (hn : 0 < aN M) : ∀ (d i : Nat), i ≤ aC M → aC M < i + d → l_X6_isFelled_4 f d 58 (b2 (on3 M s && anyF (feP M s) i)) (nI i) h = some (b2 (on3 M s && anyF (feP M s) (aC M)), h) := by
  obtain ⟨H, hb6, -, e1, e2, e3, e4, e5, e6, e7, e8⟩ := id J
  have hn9 : aN M ≤ 9 := e8.1
  have hc20 : aC M ≤ 20 := e8.2.2.1
  obtain ⟨g1, g2, g3⟩ := e7 hn
  obtain ⟨fw, fk, fx, fy, fsx, fsy⟩ := JM_f J
  have a0 : q_ai h 63 9 0 = some (nI (aA M)) := by rw [show (0 : Int32) = nI 0 from rfl, ai_nI (S_63 H) (by decide) (by decide), e4]
  have a1 : q_ai h 63 9 1 = some (nI (aB M)) := by rw [show (1 : Int32) = nI 1 from rfl, ai_nI (S_63 H) (by decide) (by decide), e5]
  have a2 : q_ai h 63 9 2 = some (nI (aD M)) := by rw [show (2 : Int32) = nI 2 from rfl, ai_nI (S_63 H) (by decide) (by decide), e6]
  have BA := B _ g1
  have BB := B _ g2
  have BD := B _ g3
  have hn0 : ¬ nI (aN M) ≤ 0 := by rw [fa_le, nI_toInt (by omega), i0]; omega
  intro d
  induction d with
  | zero => intro i h1 h2; omega
  | succ d ih =>
    intro i hi hid
    show b_X6_isFelled_4 f (l_X6_isFelled_4 f d) 58 _ (nI i) h = _
    unfold b_X6_isFelled_4 b_X6_isFelled_62 b_X6_isFelled_112
    rw [gi_k (S_58 H), Option.bind_some, e3]
    by_cases c : i = aC M
    · rw [c, if_pos ((nI_leI (by omega) (by omega)).mpr (Nat.le_refl _)), b2_bo]
    · have hi20 : i < 20 := by omega
      rw [if_neg (fun e => by have := (nI_leI (a := aC M) (b := i) (by omega) (by omega)).mp e; omega), gi_k (S_58 H), Option.bind_some, e1, if_neg hn0, gr_k (S_58 H) (R_58_8 H), Option.bind_some, a0, Option.bind_some, on_k (S_58 H), e_isOne H (by omega) BA, bi_mk]
      have ih' := ih (i + 1) (by omega) (by omega)
      rw [anyF_s] at ih'
      -- without one place nothing is felled
      have no : on3 M s = false → b_X6_isFelled_63 f (l_X6_isFelled_4 f d) 58 (b2 (on3 M s && anyF (feP M s) i)) (nI i) 0 h = some (b2 (on3 M s && anyF (feP M s) (aC M)), h) := fun q => by
        simp only [q, Bool.false_and] at ih' ⊢
        unfold b_X6_isFelled_63 b_X6_isFelled_104 b_X6_isFelled_105 lt
        rw [b2F, if_neg (by simp), if_pos rfl, nI_p1]
        exact ih'
      cases o1 : oneO (bM M s (aA M)) with
      | false => rw [b2F, if_pos rfl]; exact no (by simp [on3, o1])
      | true =>
        rw [b2T, if_neg c10, gr_k (S_58 H) (R_58_8 H), Option.bind_some, a1, Option.bind_some, on_k (S_58 H), e_isOne H (by omega) BB, bi_mk]
        cases o2 : oneO (bM M s (aB M)) with
        | false => rw [b2F, if_pos rfl]; exact no (by simp [on3, o2])
        | true =>
          rw [b2T, if_neg c10, gr_k (S_58 H) (R_58_8 H), Option.bind_some, a2, Option.bind_some, on_k (S_58 H), e_isOne H (by omega) BD, bi_mk]
          cases o3 : oneO (bM M s (aD M)) with
          | false => rw [b2F, if_pos rfl]; exact no (by simp [on3, o3])
          | true =>
            have on : on3 M s = true := by simp [on3, o1, o2, o3]
            simp only [on, Bool.true_and] at ih' ⊢
            rw [b2T, if_neg c10]
            unfold b_X6_isFelled_63 b_X6_isFelled_104 b_X6_isFelled_100 b_X6_isFelled_105 lt
            cases ef : anyF (feP M s) i with
            | true =>
              rw [ef, Bool.true_or] at ih'
              rw [b2T, if_pos c10, nI_p1]
              exact ih'
            | false =>
              rw [ef, Bool.false_or] at ih'
              rw [b2F, if_neg (by simp), if_neg c10, on_k (S_58 H), show (0 : Int32) = nI 0 from rfl, e_lead J hn (by omega), bi_mk, gr_k (S_58 H) (R_58_14 H), Option.bind_some, ai_nI (S_66 H) hi20 (by decide), Option.bind_some, nI_p1]
              obtain ⟨A', qA⟩ := oneO_some o1
              obtain ⟨B', qB⟩ := oneO_some o2
              obtain ⟨D', qD⟩ := oneO_some o3
              rw [qA] at BA; rw [qB] at BB; rw [qD] at BD
              have hp : feP M s i = (decide (aSx M i = A'.1 + B'.1 - D'.1) && decide (aSy M i = A'.2.2.1 + B'.2.2.1 - D'.2.2.1)) := by
                unfold feP felP
                rw [qA, qB, qD]; rfl
              rw [hp] at ih'
              have z1 : zI h 76 (4 * aA M + 0) + zI h 76 (4 * aB M + 0) - zI h 76 (4 * aD M + 0) = A'.1 + B'.1 - D'.1 := by
                rw [Nat.add_zero, Nat.add_zero, Nat.add_zero, BA.2.1, BB.2.1, BD.2.1]
              have z2 : zI h 76 (4 * aA M + 2) + zI h 76 (4 * aB M + 2) - zI h 76 (4 * aD M + 2) = A'.2.2.1 + B'.2.2.1 - D'.2.2.1 := by
                rw [BA.2.2.2.1, BB.2.2.2.1, BD.2.2.2.1]
              rw [z1, fsx]
              by_cases c1 : aSx M i = A'.1 + B'.1 - D'.1
              · rw [decide_eq_true c1, Bool.true_and] at ih'
                rw [if_neg (fun n9 => n9 c1.symm), on_k (S_58 H), show (2 : Int32) = nI 2 from rfl, e_lead J hn (by omega), bi_mk, gr_k (S_58 H) (R_58_15 H), Option.bind_some, ai_nI (S_67 H) hi20 (by decide), Option.bind_some, z2, fsy]
                by_cases c2 : aSy M i = A'.2.2.1 + B'.2.2.1 - D'.2.2.1
                · rw [decide_eq_true c2, b2T] at ih'
                  rw [if_neg (fun n9 => n9 c2.symm)]
                  exact ih'
                · rw [decide_eq_false c2, b2F] at ih'
                  rw [if_pos (fun e => c2 e.symm)]
                  exact ih'
              · rw [decide_eq_false c1, Bool.false_and, b2F] at ih'
                rw [if_pos (fun e => c1 e.symm)]
                exact ih'
theorem e_isFelledM (J : JM h r b M) (B : MBs h M s (aN M)) (hf : 30 ≤ f) : f_X6_isFelled f 58 h = some (b2 (felM M s), h) := by
  have e8 := J.2.2.2.2.2.2.2.2.2.2
  have hc20 : aC M ≤ 20 := e8.2.2.1
  have ef : felM M s = (on3 M s && anyF (feP M s) (aC M)) := rfl
  unfold f_X6_isFelled
  by_cases hn : 0 < aN M
  · have := fel_go2 (f := f) J B hn f 0 (by omega) (by omega)
    rw [ef, ← this]
    have : b2 (on3 M s && anyF (feP M s) 0) = 0 := by
      rw [anyF_f (fun k hk => by omega), Bool.and_false]; rfl
    rw [this]; rfl
  · have o0 : on3 M s = false := by
      have : bM M s (aA M) = none := us_none (fun m hm => e8.2.2.2.2.2.2.2.2 m hm _ (by omega) e8.2.2.2.1) 6 (by omega)
      simp [on3, this, oneO]
    rw [ef, o0]
    obtain ⟨g, rfl⟩ : ∃ g, f = g + 1 := ⟨f - 1, by omega⟩
    show b_X6_isFelled_4 (g + 1) (l_X6_isFelled_4 (g + 1) g) 58 0 0 h = _
    unfold b_X6_isFelled_4 b_X6_isFelled_112
    rw [gi_k (S_58 J.1), Option.bind_some]
    by_cases c : zI h 58 13 ≤ 0
    · rw [if_pos c]; rfl
    · rw [if_neg c, gi_k (S_58 J.1), Option.bind_some, J.2.2.2.1, if_pos (by rw [fa_le, nI_toInt (by omega), i0]; omega)]; rfl
end M4
