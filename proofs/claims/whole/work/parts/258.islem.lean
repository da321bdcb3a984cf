/-! ===== island on the reference's side ===== -/
def Qba (a j : Nat) : Bool := decide (a = 64) || decide (a = 65) || (decide (a = 58) && (decide (j = 13) || decide (j = 16)))
def Qti (a _j : Nat) : Bool := decide (59 ≤ a) && decide (a ≤ 62)
section ILM
variable {f n : Nat} {r : Rs} {t : Nat → Nat}
theorem ba_in {N b : Nat} {k2 : Nat → Int32 → Hp → Option Hp} (hN : N ≤ 9) (hb6 : b < 6) : ∀ (d m : Nat) (h : Hp), Sh h r → zI h 58 0 = nI N → m ≤ 6 → 6 < m + d → ∃ h', l_X6_bare_17 f k2 d 58 (nI b) (nI m) h = k2 58 (nI (b + 1)) h' ∧ Fx (fun a _ => decide (a = 64)) h h' ∧ (∀ i, zI h' 64 i = if 6 * b + m ≤ i ∧ i < 6 * b + 6 then (if i = 7 * b then nI (2 ^ N - 1) else 0) else zI h 64 i) := by
  intro d
  induction d with
  | zero => intro m h _ _ h1 h2; omega
  | succ d ih =>
    intro m h H e0 hm hd
    show ∃ h', b_X6_bare_17 f k2 (l_X6_bare_17 f k2 d) 58 (nI b) (nI m) h = _ ∧ _
    unfold b_X6_bare_17 b_X6_bare_50 lt
    simp only [nI_p1]
    by_cases c : m = 6
    · rw [if_pos (show (6 : Int32) ≤ nI m from (nI_leI (a := 6) (by omega) (by omega)).mpr (by omega))]
      exact ⟨h, rfl, Fx_rf _ _, fun i => by rw [if_neg (show ¬ (6 * b + m ≤ i ∧ i < 6 * b + 6) by omega)]⟩
    · rw [if_neg (show ¬ (6 : Int32) ≤ nI m from fun w => by have := (nI_leI (a := 6) (b := m) (by omega) (by omega)).mp w; omega), gr_k (S_58 H) (R_58_11 H), Option.bind_some]
      have go : ∀ v : Int32, v = (if 6 * b + m = 7 * b then nI (2 ^ N - 1) else 0) → ∃ h', ((q_as h 64 9 (6 * nI b + nI m) v).bind fun h1_ => l_X6_bare_17 f k2 d 58 (nI b) (nI (m + 1)) h1_) = k2 58 (nI (b + 1)) h' ∧ Fx (fun a _ => decide (a = 64)) h h' ∧ (∀ i, zI h' 64 i = if 6 * b + m ≤ i ∧ i < 6 * b + 6 then (if i = 7 * b then nI (2 ^ N - 1) else 0) else zI h 64 i) := fun v ev => by
        have H1 : Sh (sI h 64 (6 * b + m) v) r := H
        obtain ⟨h', e, F, z⟩ := ih (m + 1) _ H1 (by rw [zI_row (by omega)]; exact e0) (by omega) (by omega)
        rw [ix6', as_nI (S_64 H) (by omega) (by decide), Option.bind_some]
        refine ⟨h', e, Fx_tr (Fx_sI (by simp)) F, fun i => ?_⟩
        rw [z, zI_sI]
        by_cases c1 : 6 * b + (m + 1) ≤ i ∧ i < 6 * b + 6
        · rw [if_pos c1, if_pos (show 6 * b + m ≤ i ∧ i < 6 * b + 6 by omega)]
        · rw [if_neg c1]
          by_cases c2 : i = 6 * b + m
          · rw [if_pos ⟨rfl, c2⟩, if_pos (show 6 * b + m ≤ i ∧ i < 6 * b + 6 by omega), ev, c2]
          · rw [if_neg (fun w => c2 w.2), if_neg (show ¬ (6 * b + m ≤ i ∧ i < 6 * b + 6) by omega)]
      by_cases cm : m = b
      · rw [if_neg (fun w => w (by rw [cm])), gi_k (S_58 H), Option.bind_some, e0, sh10 N (by omega)]
        exact go _ (by rw [if_pos (by omega)])
      · rw [if_pos (fun w => cm ((nI_eq (by omega) (by omega)).mp w))]
        exact go _ (by rw [if_neg (by omega)])
theorem ba_go {N : Nat} (hN : N ≤ 9) (hf : 500 ≤ f) : ∀ (d b : Nat) (h : Hp), Sh h r → zI h 58 0 = nI N → b ≤ 6 → 6 < b + d → ∃ h', l_X6_bare_2 f d 58 (nI b) h = some h' ∧ Fx Qba h h' ∧ zI h' 58 13 = 0 ∧ zI h' 58 16 = -1 ∧ (∀ i, zI h' 64 i = if 6 * b ≤ i ∧ i < 36 then (if i % 7 = 0 then nI (2 ^ N - 1) else 0) else zI h 64 i) ∧ (∀ i, zI h' 65 i = if b ≤ i ∧ i < 6 then 0 else zI h 65 i) := by
  intro d
  induction d with
  | zero => intro b h _ _ h1 h2; omega
  | succ d ih =>
    intro b h H e0 hb hd
    show ∃ h', b_X6_bare_2 f (l_X6_bare_2 f d) 58 (nI b) h = _ ∧ _
    unfold b_X6_bare_2
    by_cases c : b = 6
    · rw [if_pos (show (6 : Int32) ≤ nI b from (nI_leI (a := 6) (by omega) (by omega)).mpr (by omega)), pi_k (S_58 H), Option.bind_some, pi_k (S_58 (Sh_sI H _ _ _)), Option.bind_some]
      refine ⟨_, rfl, Fx_then (Fx_sI rfl) rfl, by rw [zI_sI, if_neg (by omega), zI_sI, if_pos ⟨rfl, rfl⟩], by rw [zI_sI, if_pos ⟨rfl, rfl⟩], fun i => ?_, fun i => ?_⟩
      · rw [if_neg (show ¬ (6 * b ≤ i ∧ i < 36) by omega), zI_row (by omega), zI_row (by omega)]
      · rw [if_neg (show ¬ (b ≤ i ∧ i < 6) by omega), zI_row (by omega), zI_row (by omega)]
    · have H1 : Sh (sI h 65 b 0) r := H
      obtain ⟨h1, e1, F1, z1⟩ := ba_in (f := f) (k2 := l_X6_bare_2 f d) hN (show b < 6 by omega) f 0 _ H1 (by rw [zI_row (by omega)]; exact e0) (by omega) (by omega)
      have H2 := Fx_Sh F1 H1
      obtain ⟨h', e', F', a1, a2, a3, a4⟩ := ih (b + 1) h1 H2 (by rw [F1.1 58 0 (by simp), zI_row (by omega)]; exact e0) (by omega) (by omega)
      rw [if_neg (show ¬ (6 : Int32) ≤ nI b from fun w => by have := (nI_leI (a := 6) (b := b) (by omega) (by omega)).mp w; omega), gr_k (S_58 H) (R_58_12 H), Option.bind_some, as_nI (S_65 H) (by omega) (by decide), Option.bind_some]
      refine ⟨h', e1.trans e', Fx_tr (Fx_sI (by unfold Qba; simp)) (Fx_tr (Fx_mono F1 (fun a j w => by
        unfold Qba at w
        simp only [Bool.or_eq_false_iff, Bool.and_eq_false_iff, decide_eq_false_iff_not] at w ⊢
        omega)) F'), a1, a2, fun i => ?_, fun i => ?_⟩
      · rw [a3, z1]
        by_cases c1 : 6 * (b + 1) ≤ i ∧ i < 36
        · rw [if_pos c1, if_pos (show 6 * b ≤ i ∧ i < 36 by omega)]
        · rw [if_neg c1]
          by_cases c2 : 6 * b + 0 ≤ i ∧ i < 6 * b + 6
          · rw [if_pos c2, if_pos (show 6 * b ≤ i ∧ i < 36 by omega)]
            by_cases c3 : i = 7 * b
            · rw [if_pos c3, if_pos (by omega)]
            · rw [if_neg c3, if_neg (by omega)]
          · rw [if_neg c2, if_neg (show ¬ (6 * b ≤ i ∧ i < 36) by omega), zI_row (by omega)]
      · rw [a4, F1.1 65 i (by simp), zI_sI]
        by_cases c1 : b + 1 ≤ i ∧ i < 6
        · rw [if_pos c1, if_pos (show b ≤ i ∧ i < 6 by omega)]
        · rw [if_neg c1]
          by_cases c2 : i = b
          · rw [if_pos ⟨rfl, c2⟩, if_pos (show b ≤ i ∧ i < 6 by omega)]
          · rw [if_neg (fun w => c2 w.2), if_neg (show ¬ (b ≤ i ∧ i < 6) by omega)]
/-- the maps as they are told -/
def TIk (h : Hp) (P : Ps) (k m : Nat) : Prop := (∀ j, (j < k ∨ (j = k ∧ 0 < m)) → zI h 59 j = nI (qX P j) ∧ zI h 60 j = nI (qY P j)) ∧ (∀ m' j, m' < 6 → (j < k ∨ (j = k ∧ m' + 1 < m)) → zI h 61 (9 * m' + j) = qU P m' j ∧ zI h 62 (9 * m' + j) = qV P m' j)
theorem ti_in {P : Ps} {k : Nat} {k10 : Nat → Int32 → Hp → Option Hp} (W : PW P) (hk : k < qN P) : ∀ (d m : Nat) (h : Hp), MJl h r t n P → TIk h P k (m + 1) → m ≤ 6 → 6 < m + d → ∃ h', l_X6_takeIsland_44 f k10 d 58 (nI k) (nI m) h = k10 58 (nI (k + 1)) h' ∧ Fx Qti h h' ∧ TIk h' P (k + 1) 0 := by
  have N9 := W.1.1
  intro d
  induction d with
  | zero => intro m h _ _ h1 h2; omega
  | succ d ih =>
    intro m h M I hm hd
    have H := M.1.1
    show ∃ h', b_X6_takeIsland_44 f k10 (l_X6_takeIsland_44 f k10 d) 58 (nI k) (nI m) h = _ ∧ _
    unfold b_X6_takeIsland_44 lt
    by_cases c : m = 6
    · rw [if_pos (show (6 : Int32) ≤ nI m from (nI_leI (a := 6) (by omega) (by omega)).mpr (by omega)), nI_p1]
      refine ⟨h, rfl, Fx_rf _ _, fun j hj => I.1 j (by omega), fun m' j hm' hj => I.2 m' j hm' (by omega)⟩
    · rw [if_neg (show ¬ (6 : Int32) ≤ nI m from fun w => by have := (nI_leI (a := 6) (b := m) (by omega) (by omega)).mp w; omega)]
      have i54 : 9 * m + k < 54 := by omega
      obtain ⟨pb1, pb2, pb3⟩ := (W.2.2.2.2.2 m (by omega)).2 k hk
      obtain ⟨mt, mf⟩ := M.2.2.2 m (by omega) k hk
      obtain ⟨mx, my⟩ := M.2.2.1 k hk
      have H1 : Sh (sI h 61 (9 * m + k) (qU P m k)) r := H
      have Fs : Fx Qti h (sI (sI h 61 (9 * m + k) (qU P m k)) 62 (9 * m + k) (qV P m k)) := Fx_then (Fx_sI rfl) rfl
      have M2 : MJl (sI (sI h 61 (9 * m + k) (qU P m k)) 62 (9 * m + k) (qV P m k)) r t n P := MJl_Fx M Fs (fun b j w => by
        unfold Qti
        simp only [Bool.and_eq_false_iff, decide_eq_false_iff_not]
        omega)
      have I2 : TIk (sI (sI h 61 (9 * m + k) (qU P m k)) 62 (9 * m + k) (qV P m k)) P k (m + 1 + 1) := by
        refine ⟨fun j hj => ?_, fun m' j hm' hj => ?_⟩
        · rw [zI_row (by omega), zI_row (by omega), zI_row (by omega), zI_row (by omega)]; exact I.1 j (by omega)
        · by_cases e : m' = m ∧ j = k
          · rw [e.1, e.2, zI_row (by omega), zI_sI, if_pos ⟨rfl, rfl⟩, zI_sI, if_pos ⟨rfl, rfl⟩]; exact ⟨rfl, rfl⟩
          · have nx : 9 * m' + j ≠ 9 * m + k := by omega
            rw [zI_row (by omega), zI_sI, if_neg (fun w => nx w.2), zI_sI, if_neg (fun w => nx w.2), zI_row (by omega)]
            exact I.2 m' j hm' (by omega)
      obtain ⟨h', e', F', I'⟩ := ih (m + 1) _ M2 I2 (by omega) (by omega)
      refine ⟨h', ?_, Fx_tr Fs F', I'⟩
      unfold b_X6_takeIsland_94 b_X6_takeIsland_139 lt
      simp only [gr_k (S_58 H) (R_58_3 H), gr_k (S_58 H) (R_58_31 H), gr_k (S_58 H) (R_58_27 H), gr_k (S_58 H) (R_58_29 H), Option.bind_some, ix9', ai_nI (S_73 H) i54 (by decide), nI_p1]
      cases b : (qC P m).testBit k with
      | true =>
        obtain ⟨b73, b71, b72⟩ := mt b
        rw [b73, if_neg c10, ai_nI (S_71 H) i54 (by decide), Option.bind_some, b71, as_nI (S_61 H) i54 (by decide), Option.bind_some, gr_k (S_58 H1) (R_58_4 H1), Option.bind_some, gr_k (S_58 H1) (R_58_31 H1), Option.bind_some, ai_nI (S_73 H1) i54 (by decide), Option.bind_some, zI_row (by omega), b73, if_neg c10, gr_k (S_58 H1) (R_58_30 H1), Option.bind_some, ai_nI (S_72 H1) i54 (by decide), Option.bind_some, zI_row (by omega), b72, as_nI (S_62 H1) i54 (by decide), Option.bind_some]
        exact e'
      | false =>
        have b73 := mf b
        obtain ⟨p1, p2⟩ := pb3 b
        rw [b73, if_pos rfl, ai_nI (S_69 H) (by omega) (by decide), Option.bind_some, mx, ← p1, as_nI (S_61 H) i54 (by decide), Option.bind_some, gr_k (S_58 H1) (R_58_4 H1), Option.bind_some, gr_k (S_58 H1) (R_58_31 H1), Option.bind_some, ai_nI (S_73 H1) i54 (by decide), Option.bind_some, zI_row (by omega), b73, if_pos rfl, gr_k (S_58 H1) (R_58_28 H1), Option.bind_some, ai_nI (S_70 H1) (by omega) (by decide), Option.bind_some, zI_row (by omega), my, ← p2, as_nI (S_62 H1) i54 (by decide), Option.bind_some]
        exact e'
end ILM
