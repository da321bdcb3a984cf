/-! ===== the reference's cursor ===== -/
/-- the text as the reference has it -/
def TM (h : Hp) (r : Rs) (t : Nat → Nat) (n : Nat) : Prop := Sh h r ∧ n ≤ 400 ∧ zI h 58 19 = nI n ∧ ∀ j, j < n → t j < 256 ∧ zI h 68 j = nI (t j)
def QHe (a j : Nat) : Bool := decide (a = 58) && decide (j = 21)
def QTn (a j : Nat) : Bool := decide (a = 58) && (decide (j = 20) || decide (j = 21) || decide (j = 24) || decide (j = 25))
theorem QHT {a j : Nat} (h : QTn a j = false) : QHe a j = false := by
  unfold QTn at h
  unfold QHe
  simp only [Bool.and_eq_false_iff, Bool.or_eq_false_iff, decide_eq_false_iff_not] at h ⊢
  omega
theorem TM_Fx {Q : Nat → Nat → Bool} {h h' : Hp} {r : Rs} {t : Nat → Nat} {n : Nat} (T : TM h r t n) (F : Fx Q h h') (q1 : ∀ j, Q 68 j = false) (q2 : Q 58 19 = false) : TM h' r t n := by
  obtain ⟨H, hn, e4, tx⟩ := T
  exact ⟨Fx_Sh F H, hn, (F.1 58 19 q2).trans e4, fun j hj => ⟨(tx j hj).1, (F.1 68 j (q1 j)).trans (tx j hj).2⟩⟩
theorem nI_D {c : Nat} (h : c < 256) : decide ((48 : Int32) ≤ nI c ∧ nI c ≤ 57) = decide (48 ≤ c ∧ c ≤ 57) := by
  have h1 : (48 : Int32) ≤ nI c ↔ 48 ≤ c := nI_leI (a := 48) (by omega) (by omega)
  have h2 : nI c ≤ (57 : Int32) ↔ c ≤ 57 := nI_leI (b := 57) (by omega) (by omega)
  simp only [h1, h2]
theorem nI_W {c : Nat} (h : c < 256) : decide ((97 : Int32) ≤ nI c ∧ nI c ≤ 122) = decide (97 ≤ c ∧ c ≤ 122) := by
  have h1 : (97 : Int32) ≤ nI c ↔ 97 ≤ c := nI_leI (a := 97) (by omega) (by omega)
  have h2 : nI c ≤ (122 : Int32) ↔ c ≤ 122 := nI_leI (b := 122) (by omega) (by omega)
  simp only [h1, h2]
section MCU
variable {f : Nat} {r : Rs} {t : Nat → Nat} {n : Nat}
theorem tm_at {h : Hp} {i : Nat} (T : TM h r t n) (hi : i < n) : q_gr h 58 6 18 = some 68 ∧ q_ai h 68 9 (nI i) = some (nI (t i)) := by
  obtain ⟨H, hn, e4, tx⟩ := T
  exact ⟨gr_k (S_58 H) (R_58_18 H), by rw [ai_nI (S_68 H) (by omega) (by decide), (tx i hi).2]⟩
def hv (t : Nat → Nat) (n s : Nat) : Int32 := if s < n then nI (t s) else -1
theorem here_go : ∀ (d i : Nat) (h : Hp), TM h r t n → i ≤ n → n < i + d → zI h 58 21 = nI i → ∃ h', l_X6_here_0 f d 58 h = some (hv t n (sk t n i), h') ∧ Fx QHe h h' ∧ zI h' 58 21 = nI (sk t n i) := by
  intro d
  induction d with
  | zero => intro i h _ h1 h2; omega
  | succ d ih =>
    intro i h T hi hd e5
    obtain ⟨H, hn, e4, tx⟩ := id T
    show ∃ h', b_X6_here_0 f (l_X6_here_0 f d) 58 h = _ ∧ _
    unfold b_X6_here_0 b_X6_here_38 b_X6_here_62 hv
    simp only [gi_k (S_58 H), Option.bind_some, e5, e4]
    by_cases c : n ≤ i
    · have q : nI n ≤ nI i := (nI_leI (by omega) (by omega)).mpr c
      have es : sk t n i = i := en_stop (fun q => by omega)
      rw [es, if_pos q, if_pos q, if_neg (by omega)]
      exact ⟨h, rfl, Fx_rf _ _, e5⟩
    · have hin : i < n := by omega
      have q : ¬ nI n ≤ nI i := fun e => c ((nI_leI (by omega) (by omega)).mp e)
      obtain ⟨x1, x2⟩ := tm_at T hin
      simp only [if_neg q, x1, Option.bind_some, x2]
      have t256 := (tx i hin).1
      by_cases c2 : t i = 32
      · have e32 : nI (t i) = (32 : Int32) := by rw [c2]; rfl
        rw [if_neg (fun q9 => q9 e32), pi_k (S_58 H), Option.bind_some, nI_p1]
        have F : Fx QHe h (sI h 58 21 (nI (i + 1))) := Fx_sI rfl
        obtain ⟨h', e, F', z1⟩ := ih (i + 1) (sI h 58 21 (nI (i + 1))) (TM_Fx T F (fun _ => rfl) rfl) (by omega) (by omega) (by rw [zI_sI, if_pos ⟨rfl, rfl⟩])
        have es : sk t n i = sk t n (i + 1) := en_step hin (by unfold pSp; simp [c2])
        rw [es]
        exact ⟨h', e, Fx_tr F F', z1⟩
      · have e32 : ¬ nI (t i) = (32 : Int32) := fun e => c2 ((nI_eq (b := 32) (by omega) (by omega)).mp e)
        have es : sk t n i = i := en_stop (fun q => by have := q.2; unfold pSp at this; simp [c2] at this)
        rw [if_pos e32, es, if_pos hin]
        exact ⟨h, rfl, Fx_rf _ _, e5⟩
theorem e_here {h : Hp} {i : Nat} (T : TM h r t n) (hi : i ≤ n) (hf : 500 ≤ f) (e5 : zI h 58 21 = nI i) : ∃ h', f_X6_here f 58 h = some (hv t n (sk t n i), h') ∧ Fx QHe h h' ∧ zI h' 58 21 = nI (sk t n i) := here_go f i h T hi (by have := T.2.1; omega) e5
/-- what takeNumber bears -/
def OkN (lo hi : Int32) (ok : Nat → Bool) : Prop := (∀ v, v ≤ 9999 → decide (lo ≤ nI v ∧ nI v ≤ hi) = ok v) ∧ ok 10000 = false
theorem tn_go {s : Nat} {lo hi : Int32} {ok : Nat → Bool} (O : OkN lo hi ok) : ∀ (d i : Nat) (h : Hp), TM h r t n → s ≤ i → i ≤ n → n < i + d → zI h 58 21 = nI i → zI h 58 25 = nI s → (i - s ≤ 4 → zI h 58 24 = nI (nv t s (i - s))) → (∀ j, s ≤ j → j < i → pD t j = true) → ∃ h', l_X6_takeNumber_42 f d 58 lo hi h = some ((if ok (nV t s (dE t n i)) = true then 0 else 2), h') ∧ Fx QTn h h' ∧ (ok (nV t s (dE t n i)) = true → zI h' 58 20 = zI h 58 20 ∧ zI h' 58 21 = nI (dE t n i) ∧ zI h' 58 24 = nI (nV t s (dE t n i)) ∧ zI h' 58 25 = nI s) ∧ (ok (nV t s (dE t n i)) = false → zI h' 58 20 = nI s) := by
  intro d
  induction d with
  | zero => intro i h _ _ h1 h2; omega
  | succ d ih =>
    intro i h T hs hle hd e21 e25 e24 al
    obtain ⟨H, hn, e4, tx⟩ := id T
    show ∃ h', b_X6_takeNumber_42 f (l_X6_takeNumber_42 f d) 58 lo hi h = _ ∧ _
    unfold b_X6_takeNumber_42
    have sub : nI i - nI s = nI (i - s) := pk_sub (by omega)
    have stop : dE t n i = i → ∃ h', b_X6_takeNumber_128 f 58 lo hi h = some ((if ok (nV t s (dE t n i)) = true then 0 else 2), h') ∧ Fx QTn h h' ∧ (ok (nV t s (dE t n i)) = true → zI h' 58 20 = zI h 58 20 ∧ zI h' 58 21 = nI (dE t n i) ∧ zI h' 58 24 = nI (nV t s (dE t n i)) ∧ zI h' 58 25 = nI s) ∧ (ok (nV t s (dE t n i)) = false → zI h' 58 20 = nI s) := fun e => by
      rw [e]
      unfold b_X6_takeNumber_128 b_X6_takeNumber_156 b_X6_takeNumber_169 f_X6_fails
      simp only [gi_k (S_58 H), Option.bind_some, e21, e25, sub, on_k (S_58 H), pi_k (S_58 H), bi_mk, e_inI]
      have bad : ok (nV t s i) = false → ∃ h', some ((2 : Int32), sI h 58 20 (nI s)) = some ((if ok (nV t s i) = true then (0 : Int32) else 2), h') ∧ Fx QTn h h' ∧ (ok (nV t s i) = true → zI h' 58 20 = zI h 58 20 ∧ zI h' 58 21 = nI i ∧ zI h' 58 24 = nI (nV t s i) ∧ zI h' 58 25 = nI s) ∧ (ok (nV t s i) = false → zI h' 58 20 = nI s) := fun b => by
        rw [b, if_neg (by decide)]
        exact ⟨_, rfl, Fx_sI rfl, (fun q => by cases q), fun _ => by rw [zI_sI, if_pos ⟨rfl, rfl⟩]⟩
      by_cases c4 : i - s ≤ 4
      · have v4 : nv t s (i - s) ≤ 9999 := nv_4 al c4 hs
        have eV : nV t s i = nv t s (i - s) := by unfold nV; rw [if_pos c4]
        rw [if_neg (show ¬ (4 : Int32) < nI (i - s) from fun q => by have := (nI_ltI (a := 4) (by omega) (by omega)).mp q; omega), e24 c4, O.1 _ v4, ← eV]
        cases b : ok (nV t s i) with
        | false => rw [b] at bad; rw [b2F, if_neg (fun q => q rfl)]; exact bad rfl
        | true =>
          rw [b2T, if_pos c10]
          exact ⟨h, rfl, Fx_rf _ _, fun _ => ⟨rfl, e21, by rw [e24 c4, eV], e25⟩, fun q => by cases q⟩
      · have eV : nV t s i = 10000 := by unfold nV; rw [if_neg c4]
        rw [if_pos (show (4 : Int32) < nI (i - s) from (nI_ltI (a := 4) (by omega) (by omega)).mpr (by omega))]
        exact bad (by rw [eV]; exact O.2)
    simp only [gi_k (S_58 H), Option.bind_some, e21, e4]
    by_cases c : n ≤ i
    · rw [if_pos ((nI_leI (by omega) (by omega)).mpr c)]
      exact stop (en_stop (fun q => by omega))
    · have hin : i < n := by omega
      obtain ⟨x1, x2⟩ := tm_at T hin
      have t256 := (tx i hin).1
      have inx : f_X6_in f (nI (t i)).toInt64 (48 : Int64) (57 : Int64) h = some (b2 (decide (48 ≤ t i ∧ t i ≤ 57)), h) := by
        rw [e_inM f (nI (t i)) 48 57 48 57 (by decide) (by decide) h, nI_D t256]
      simp only [if_neg (show ¬ nI n ≤ nI i from fun e => c ((nI_leI (by omega) (by omega)).mp e)), x1, Option.bind_some, x2, inx, bi_mk]
      by_cases c2 : 48 ≤ t i ∧ t i ≤ 57
      · have es : dE t n i = dE t n (i + 1) := en_step hin (by unfold pD; simp [c2])
        have al' : ∀ j, s ≤ j → j < i + 1 → pD t j = true := fun j h1 h2 => by
          by_cases ej : j = i
          · rw [ej]; unfold pD; simp [c2]
          · exact al j h1 (by omega)
        rw [decide_eq_true c2, b2T, if_neg c10, es]
        unfold b_X6_takeNumber_112
        have go : ∀ y : Int32, (i - s ≤ 3 → y = nI (nv t s (i + 1 - s))) → ∃ h', ((q_pi h 58 6 24 y).bind fun h1_ => (q_gi h1_ 58 6 21).bind fun v2_ => (q_pi h1_ 58 6 21 (v2_ + 1)).bind fun h3_ => l_X6_takeNumber_42 f d 58 lo hi h3_) = some ((if ok (nV t s (dE t n (i + 1))) = true then 0 else 2), h') ∧ Fx QTn h h' ∧ (ok (nV t s (dE t n (i + 1))) = true → zI h' 58 20 = zI h 58 20 ∧ zI h' 58 21 = nI (dE t n (i + 1)) ∧ zI h' 58 24 = nI (nV t s (dE t n (i + 1))) ∧ zI h' 58 25 = nI s) ∧ (ok (nV t s (dE t n (i + 1))) = false → zI h' 58 20 = nI s) := fun y ey => by
          have H1 : Sh (sI h 58 24 y) r := H
          rw [pi_k (S_58 H), Option.bind_some, gi_k (S_58 H1), Option.bind_some, zI_sI, if_neg (by omega), e21, pi_k (S_58 H1), Option.bind_some, nI_p1]
          have F : Fx QTn h (sI (sI h 58 24 y) 58 21 (nI (i + 1))) := Fx_then (Fx_sI rfl) rfl
          obtain ⟨h', e, F', z1, z2⟩ := ih (i + 1) (sI (sI h 58 24 y) 58 21 (nI (i + 1))) (TM_Fx T F (fun _ => rfl) rfl) (by omega) (by omega) (by omega) (by rw [zI_sI, if_pos ⟨rfl, rfl⟩]) (by rw [zI_sI, if_neg (by omega), zI_sI, if_neg (by omega)]; exact e25) (fun q => by rw [zI_sI, if_neg (by omega), zI_sI, if_pos ⟨rfl, rfl⟩]; exact ey (by omega)) al'
          refine ⟨h', e, Fx_tr F F', fun q => ?_, z2⟩
          obtain ⟨w1, w2⟩ := z1 q
          rw [zI_sI, if_neg (by omega), zI_sI, if_neg (by omega)] at w1
          exact ⟨w1, w2⟩
        simp only [gi_k (S_58 H), Option.bind_some, e21, x1, x2]
        by_cases cb : zI h 58 24 ≤ (100000 : Int32)
        · rw [if_pos cb]
          refine go _ (fun q => ?_)
          rw [e24 (by omega), show i + 1 - s = (i - s) + 1 by omega]
          show nI 10 * nI (nv t s (i - s)) + nI (t i) - nI 48 = nI (nv t s (i - s) * 10 + (t (s + (i - s)) - 48))
          rw [pk_mul, nI_add, pk_sub (by omega), show s + (i - s) = i by omega]
          congr 1
          omega
        · rw [if_neg cb]
          refine go _ (fun q => ?_)
          exfalso
          apply cb
          rw [e24 (by omega)]
          have v4 : nv t s (i - s) ≤ 9999 := nv_4 al (by omega) hs
          exact (nI_leI (b := 100000) (by omega) (by omega)).mpr (by omega)
      · rw [decide_eq_false c2, b2F, if_pos rfl]
        exact stop (en_stop (fun q => by have := q.2; unfold pD at this; simp only [decide_eq_true_eq] at this; exact c2 this))
/-- the code with which a number is read -/
def cdN (ok : Nat → Bool) (t : Nat → Nat) (n s : Nat) : Nat := if dE t n s = s then 1 else if ok (nV t s (dE t n s)) = true then 0 else 2
theorem e_takeNumber {h : Hp} {i : Nat} {lo hi : Int32} {ok : Nat → Bool} (O : OkN lo hi ok) (T : TM h r t n) (hi' : i ≤ n) (hf : 500 ≤ f) (e5 : zI h 58 21 = nI i) : ∃ h', f_X6_takeNumber f 58 lo hi h = some (nI (cdN ok t n (sk t n i)), h') ∧ Fx QTn h h' ∧ (cdN ok t n (sk t n i) = 0 → zI h' 58 20 = zI h 58 20 ∧ zI h' 58 21 = nI (dE t n (sk t n i)) ∧ zI h' 58 24 = nI (nV t (sk t n i) (dE t n (sk t n i))) ∧ zI h' 58 25 = nI (sk t n i)) ∧ (cdN ok t n (sk t n i) ≠ 0 → zI h' 58 20 = nI (sk t n i)) := by
  have H := T.1
  obtain ⟨h1, e1, F1, z1⟩ := e_here (f := f) T hi' hf e5
  have hs : sk t n i ≤ n := en_le hi'
  generalize sk t n i = s at *
  have T1 : TM h1 r t n := TM_Fx T F1 (fun _ => rfl) rfl
  have H1 := T1.1
  obtain ⟨-, hn, e4, tx⟩ := id T1
  have F1' : Fx QTn h h1 := Fx_mono F1 (fun a j => QHT)
  unfold f_X6_takeNumber f_X6_fails
  rw [on_k (S_58 H), e1, bi_mk]
  have inx : f_X6_in f (hv t n s).toInt64 (48 : Int64) (57 : Int64) h1 = some (b2 (decide (s < n ∧ pD t s = true)), h1) := by
    rw [e_inM f (hv t n s) 48 57 48 57 (by decide) (by decide) h1]
    unfold hv pD
    by_cases c : s < n
    · rw [if_pos c, nI_D (tx s c).1]; simp [c]
    · rw [if_neg c]; simp [c]
  rw [inx, bi_mk]
  by_cases c : s < n ∧ pD t s = true
  · have ne : dE t n s ≠ s := by
      have : s + 1 ≤ en (pD t) n (s + 1) := en_ge (by omega)
      show en (pD t) n s ≠ s
      rw [en_step c.1 c.2]
      omega
    rw [decide_eq_true c, b2T, if_pos c10, gi_k (S_58 H1), Option.bind_some, z1, pi_k (S_58 H1), Option.bind_some, pi_k (S_58 (Sh_sI H1 _ _ _)), Option.bind_some]
    have F2 : Fx QTn h1 (sI (sI h1 58 25 (nI s)) 58 24 0) := Fx_then (Fx_sI rfl) rfl
    obtain ⟨h', e, F', w1, w2⟩ := tn_go (f := f) (s := s) O f s _ (TM_Fx T1 F2 (fun _ => rfl) rfl) (Nat.le_refl s) hs (by omega) (by rw [zI_sI, if_neg (by omega), zI_sI, if_neg (by omega)]; exact z1) (by rw [zI_sI, if_neg (by omega), zI_sI, if_pos ⟨rfl, rfl⟩]) (fun _ => by rw [zI_sI, if_pos ⟨rfl, rfl⟩, Nat.sub_self]; rfl) (fun j h1 h2 => by omega)
    refine ⟨h', ?_, Fx_tr F1' (Fx_tr F2 F'), fun q => ?_, fun q => ?_⟩
    · rw [e]
      unfold cdN
      rw [if_neg ne]
      split <;> rfl
    · unfold cdN at q
      rw [if_neg ne] at q
      have ok1 : ok (nV t s (dE t n s)) = true := by
        cases b : ok (nV t s (dE t n s)) with
        | true => rfl
        | false => rw [b] at q; exact absurd q (by decide)
      obtain ⟨v1, v2⟩ := w1 ok1
      rw [zI_sI, if_neg (by omega), zI_sI, if_neg (by omega), F1.1 58 20 rfl] at v1
      exact ⟨v1, v2⟩
    · unfold cdN at q
      rw [if_neg ne] at q
      exact w2 (by
        cases b : ok (nV t s (dE t n s)) with
        | true => rw [b] at q; exact absurd rfl q
        | false => rfl)
  · have eq : dE t n s = s := en_stop c
    have cd : cdN ok t n s = 1 := by unfold cdN; rw [if_pos eq]
    rw [decide_eq_false c, b2F, if_neg (fun q => q rfl), gi_k (S_58 H1), Option.bind_some, z1, on_k (S_58 H1), pi_k (S_58 H1), Option.bind_some, bi_mk, cd]
    exact ⟨_, rfl, Fx_then F1' rfl, fun q => by omega, fun _ => by rw [zI_sI, if_pos ⟨rfl, rfl⟩]⟩
end MCU
