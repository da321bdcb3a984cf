/-! ===== words ===== -/
def wlT : List (List Nat) := [[109, 97, 114, 107], [103, 111, 97, 108], [119, 105, 116, 104, 105, 110], [108, 105, 101], [101, 114, 114], [115, 112, 97, 100, 101], [112, 114, 105, 122, 101]]
def wl (k : Nat) : List Nat := wlT.getD k []
def eqf (t : Nat → Nat) : Nat → List Nat → Bool
  | _, [] => true
  | s, c :: l => decide (t s = c) && eqf t (s + 1) l
/-- the stretch from s to e spells word k -/
def kdm (t : Nat → Nat) (s e k : Nat) : Bool := decide (e - s = (wl k).length) && eqf t s (wl k)
def kdf (t : Nat → Nat) (s e : Nat) : Nat → Nat → Nat
  | 0, _ => 7
  | c + 1, k => if kdm t s e k = true then k else kdf t s e c (k + 1)
def kd (t : Nat → Nat) (s e : Nat) : Nat := kdf t s e 7 0
def kI (k : Nat) : Int32 := if k = 7 then -1 else nI k
theorem kdf_le (t : Nat → Nat) (s e : Nat) : ∀ c k, k + c = 7 → kdf t s e c k ≤ 7 ∧ (kdf t s e c k < 7 → k ≤ kdf t s e c k)
  | 0, k, h => ⟨Nat.le_refl _, fun h2 => by have : kdf t s e 0 k = 7 := rfl; omega⟩
  | c + 1, k, h => by
    unfold kdf
    split
    · exact ⟨by omega, fun _ => Nat.le_refl _⟩
    · have := kdf_le t s e c (k + 1) (by omega)
      exact ⟨this.1, fun h2 => by have := this.2 h2; omega⟩
theorem kd_le (t : Nat → Nat) (s e : Nat) : kd t s e ≤ 7 := (kdf_le t s e 7 0 rfl).1
theorem ln_all : ∀ k, k < 7 → Int32.ofNat (z_ln.getD k 0) >>> ((0 : Int32) &&& 31) = nI (wl k).length := by decide +kernel
theorem e_len : ∀ k, k < 7 → ∀ h : Hp, f_J0_len k h = some (nI (wl k).length, h) := fun k hk h => congrArg (fun v : Int32 => some (v, h)) (ln_all k hk)
theorem e_ch : ∀ k j, k < 7 → j < (wl k).length → ∀ h : Hp, f_J0_ch k (nI j) h = some (nI ((wl k).getD j 0), h) := by
  intro k j hk hj h
  rcases (show k = 0 ∨ k = 1 ∨ k = 2 ∨ k = 3 ∨ k = 4 ∨ k = 5 ∨ k = 6 by omega) with rfl | rfl | rfl | rfl | rfl | rfl | rfl
  · have hj2 : j < 4 := hj
    rcases (show j = 0 ∨ j = 1 ∨ j = 2 ∨ j = 3 by omega) with rfl | rfl | rfl | rfl <;> rfl
  · have hj2 : j < 4 := hj
    rcases (show j = 0 ∨ j = 1 ∨ j = 2 ∨ j = 3 by omega) with rfl | rfl | rfl | rfl <;> rfl
  · have hj2 : j < 6 := hj
    rcases (show j = 0 ∨ j = 1 ∨ j = 2 ∨ j = 3 ∨ j = 4 ∨ j = 5 by omega) with rfl | rfl | rfl | rfl | rfl | rfl <;> rfl
  · have hj2 : j < 3 := hj
    rcases (show j = 0 ∨ j = 1 ∨ j = 2 by omega) with rfl | rfl | rfl <;> rfl
  · have hj2 : j < 3 := hj
    rcases (show j = 0 ∨ j = 1 ∨ j = 2 by omega) with rfl | rfl | rfl <;> rfl
  · have hj2 : j < 5 := hj
    rcases (show j = 0 ∨ j = 1 ∨ j = 2 ∨ j = 3 ∨ j = 4 by omega) with rfl | rfl | rfl | rfl | rfl <;> rfl
  · have hj2 : j < 5 := hj
    rcases (show j = 0 ∨ j = 1 ∨ j = 2 ∨ j = 3 ∨ j = 4 by omega) with rfl | rfl | rfl | rfl | rfl <;> rfl
theorem e_name {f : Nat} : ∀ k, k < 7 → ∀ h : Hp, f_X2_nameOf f (nI k) h = some (k, h) := by
  intro k hk h
  unfold f_X2_nameOf
  rw [sw_k (by omega)]
  rcases (show k = 0 ∨ k = 1 ∨ k = 2 ∨ k = 3 ∨ k = 4 ∨ k = 5 ∨ k = 6 by omega) with rfl | rfl | rfl | rfl | rfl | rfl | rfl <;> rfl
theorem wl_len : ∀ k, k < 7 → (wl k).length ≤ 6 ∧ 3 ≤ (wl k).length := by decide
theorem wl_128 : ∀ k, k < 7 → ∀ j, j < 6 → (wl k).getD j 0 < 128 := by decide
theorem bv_eq : ∀ c, c < 256 → ∀ d, d < 128 → (bv c = nI d ↔ c = d) := by decide +kernel
section WRD
variable {f : Nat} {r : Rs} {t : Nat → Nat} {n s : Nat}
theorem spelt_go {h : Hp} {k : Nat} (T : TC h r t n) (hk : k < 7) (e6 : zI h 12 6 = nI s) (hs : s + (wl k).length ≤ n) : ∀ (d j : Nat), j ≤ (wl k).length → (wl k).length < j + d → l_X2_isSpelt_20 f d 12 k (nI j) h = some (b2 (eqf t (s + j) ((wl k).drop j)), h) := by
  intro d
  induction d with
  | zero => intro j h1 h2; omega
  | succ d ih =>
    intro j hj hd
    obtain ⟨H, -, hn, e4, tx⟩ := id T
    have l6 := (wl_len k hk).1
    show b_X2_isSpelt_20 f (l_X2_isSpelt_20 f d) 12 k (nI j) h = _
    unfold b_X2_isSpelt_20 q_sj
    rw [if_pos hk, e_len k hk, bi_mk]
    by_cases c : j = (wl k).length
    · rw [if_pos ((nI_leI (by omega) (by omega)).mpr (by omega)), c, List.drop_length]; rfl
    · have hj' : j < (wl k).length := by omega
      obtain ⟨x1, x2⟩ := tx_at T (i := s + j) (by omega)
      rw [if_neg (fun e => by have := (nI_leI (a := (wl k).length) (b := j) (by omega) (by omega)).mp e; omega), x1, Option.bind_some, gi_k (S_12 H), Option.bind_some, e6, nI_add, x2, Option.bind_some, if_pos hk, e_ch k j hk hj', bi_mk]
      have ed : (wl k).drop j = (wl k).getD j 0 :: (wl k).drop (j + 1) := by
        rw [List.drop_eq_getElem_cons hj', List.getD_eq_getElem?_getD, List.getElem?_eq_getElem hj']; rfl
      rw [ed]
      unfold eqf lt
      by_cases c2 : t (s + j) = (wl k).getD j 0
      · rw [if_pos ((bv_eq _ (tx _ (by omega)).1 _ (wl_128 k hk j (by omega))).mpr c2), nI_p1]
        refine (ih (j + 1) (by omega) (by omega)).trans ?_
        rw [decide_eq_true c2, Bool.true_and, Nat.add_assoc]
      · rw [if_neg (fun e => c2 ((bv_eq _ (tx _ (by omega)).1 _ (wl_128 k hk j (by omega))).mp e)), decide_eq_false c2, Bool.false_and]; rfl
theorem e_isSpelt {h : Hp} {k e : Nat} (T : TC h r t n) (hk : k < 7) (e5 : zI h 12 5 = nI e) (e6 : zI h 12 6 = nI s) (hs : s ≤ e) (he : e ≤ n) (hf : 500 ≤ f) : f_X2_isSpelt f 12 k h = some (b2 (kdm t s e k), h) := by
  have H := T.1
  have hn := T.2.2.1
  have l6 := (wl_len k hk).1
  unfold f_X2_isSpelt q_sj kdm
  rw [gi_k (S_12 H), Option.bind_some, gi_k (S_12 H), Option.bind_some, e5, e6, if_pos hk, e_len k hk, bi_mk, pk_sub hs]
  by_cases c : e - s = (wl k).length
  · rw [if_pos (by rw [c]), decide_eq_true c, Bool.true_and]
    exact spelt_go (f := f) T hk e6 (by omega) f 0 (by omega) (by omega)
  · rw [if_neg (fun q => c ((nI_eq (by omega) (by omega)).mp q)), decide_eq_false c, Bool.false_and]; rfl
theorem word54_go {h : Hp} {e : Nat} (T : TC h r t n) (e5 : zI h 12 5 = nI e) (e6 : zI h 12 6 = nI s) (hs : s ≤ e) (he : e ≤ n) (hf : 500 ≤ f) : ∀ (c k d : Nat), k + c = 7 → c < d → l_X2_readWord_54 f d 12 (nI k) h = some (kI (kdf t s e c k), h) := by
  intro c
  induction c with
  | zero =>
    intro k d hk hd
    obtain ⟨d', rfl⟩ : ∃ d', d = d' + 1 := ⟨d - 1, by omega⟩
    show b_X2_readWord_54 f (l_X2_readWord_54 f d') 12 (nI k) h = _
    unfold b_X2_readWord_54
    rw [if_pos (show (7 : Int32) ≤ nI k from (nI_leI (a := 7) (by omega) (by omega)).mpr (by omega))]
    rfl
  | succ c ih =>
    intro k d hk hd
    obtain ⟨d', rfl⟩ : ∃ d', d = d' + 1 := ⟨d - 1, by omega⟩
    show b_X2_readWord_54 f (l_X2_readWord_54 f d') 12 (nI k) h = _
    unfold b_X2_readWord_54 kdf lt
    rw [if_neg (show ¬ (7 : Int32) ≤ nI k from fun q => by have := (nI_leI (a := 7) (b := k) (by omega) (by omega)).mp q; omega), e_name k (by omega), bi_mk, on_k (S_12 T.1), e_isSpelt T (by omega) e5 e6 hs he hf, bi_mk]
    cases b : kdm t s e k with
    | true =>
      rw [b2T, if_neg c10, if_pos rfl]
      unfold kI
      rw [if_neg (by omega)]
    | false => rw [b2F, if_pos rfl, if_neg (by decide), nI_p1]; exact ih (k + 1) d' (by omega) (by omega)
theorem wordC_go (hf : 500 ≤ f) : ∀ (d i : Nat) (h : Hp), TC h r t n → s ≤ i → i ≤ n → n < i + d → zI h 12 5 = nI i → zI h 12 6 = nI s → ∃ h', l_X2_readWord_0 f d 12 h = some (kI (kd t s (wE t n i)), h') ∧ Fx QCu h h' ∧ zI h' 12 5 = nI (wE t n i) ∧ zI h' 12 6 = nI s := by
  intro d
  induction d with
  | zero => intro i h _ _ h1 h2; omega
  | succ d ih =>
    intro i h T hs hi hd e5 e6
    obtain ⟨H, -, hn, e4, tx⟩ := id T
    show ∃ h', b_X2_readWord_0 f (l_X2_readWord_0 f d) 12 h = _ ∧ _
    unfold b_X2_readWord_0
    simp only [gi_k (S_12 H), Option.bind_some, e5, e4]
    have stop : wE t n i = i → ∃ h', b_X2_readWord_52 f 12 h = some (kI (kd t s (wE t n i)), h') ∧ Fx QCu h h' ∧ zI h' 12 5 = nI (wE t n i) ∧ zI h' 12 6 = nI s := fun e => by
      rw [e]
      exact ⟨h, word54_go T e5 e6 hs hi hf 7 0 f rfl (by omega), Fx_rf _ _, e5, e6⟩
    by_cases c : n ≤ i
    · rw [if_pos ((nI_leI (by omega) (by omega)).mpr c)]
      exact stop (en_stop (fun q => by omega))
    · have hin : i < n := by omega
      obtain ⟨x1, x2⟩ := tx_at T hin
      simp only [if_neg (show ¬ nI n ≤ nI i from fun e => c ((nI_leI (by omega) (by omega)).mp e)), x1, Option.bind_some, x2]
      have t256 := (tx i hin).1
      by_cases c2 : 97 ≤ t i ∧ t i ≤ 122
      · have q1 : ¬ bv (t i) < 97 := fun e => (bv_W _ t256).mp (Or.inl e) c2
        have q2 : ¬ 122 < bv (t i) := fun e => (bv_W _ t256).mp (Or.inr e) c2
        have F : Fx QCu h (sI h 12 5 (nI (i + 1))) := Fx_sI rfl
        have es : wE t n i = wE t n (i + 1) := en_step hin (by unfold pW; simp [c2])
        obtain ⟨h', e, F', z1, z2⟩ := ih (i + 1) (sI h 12 5 (nI (i + 1))) (TC_QA T F) (by omega) (by omega) (by omega) (by rw [zI_sI, if_pos ⟨rfl, rfl⟩]) (by rw [zI_sI, if_neg (by omega)]; exact e6)
        rw [if_neg q1, if_neg q2, es, pi_k (S_12 H), Option.bind_some, nI_p1]
        exact ⟨h', e, Fx_tr F F', z1, z2⟩
      · have st := stop (en_stop (fun q => by have := q.2; unfold pW at this; simp only [decide_eq_true_eq] at this; exact c2 this))
        rcases (bv_W _ t256).mpr c2 with q | q
        · rw [if_pos q]; exact st
        · by_cases q1 : bv (t i) < 97
          · rw [if_pos q1]; exact st
          · rw [if_neg q1, if_pos q]; exact st
theorem e_readWordC {h : Hp} (T : TC h r t n) (hs : s ≤ n) (hf : 500 ≤ f) (e5 : zI h 12 5 = nI s) (e6 : zI h 12 6 = nI s) : ∃ h', f_X2_readWord f 12 h = some (kI (kd t s (wE t n s)), h') ∧ Fx QCu h h' ∧ zI h' 12 5 = nI (wE t n s) ∧ zI h' 12 6 = nI s := wordC_go hf f s h T (Nat.le_refl s) hs (by have := T.2.2.1; omega) e5 e6
end WRD
/-! the reference counts a word by 27 -/
def sv (t : Nat → Nat) (s : Nat) : Nat → Nat
  | 0 => 0
  | k + 1 => if sv t s k ≤ 1000000000000 then 27 * sv t s k + t (s + k) - 96 else 2000000000000
theorem sv_big {t : Nat → Nat} {s : Nat} : ∀ k, (∀ j, j < k → 97 ≤ t (s + j) ∧ t (s + j) ≤ 122) → sv t s k ≤ 27000000000026
  | 0, _ => by show 0 ≤ 27000000000026; omega
  | k + 1, h => by
    have := h k (by omega)
    unfold sv
    split <;> omega
theorem sv_s {t : Nat → Nat} {s k v : Nat} (e : sv t s k = v) (h : v ≤ 1000000000000) : sv t s (k + 1) = 27 * v + t (s + k) - 96 := by
  show (if sv t s k ≤ 1000000000000 then _ else _) = _
  rw [e, if_pos h]
theorem sv_6 {t : Nat → Nat} {s : Nat} (h : ∀ j, j < 7 → 97 ≤ t (s + j) ∧ t (s + j) ≤ 122) : 387420489 ≤ sv t s 7 := by
  have e0 : sv t s 0 = 0 := rfl
  have h0 : 97 ≤ t s ∧ t s ≤ 122 := h 0 (by omega)
  have h1 : 97 ≤ t (s + 1) ∧ t (s + 1) ≤ 122 := h 1 (by omega)
  have h2 : 97 ≤ t (s + 2) ∧ t (s + 2) ≤ 122 := h 2 (by omega)
  have h3 : 97 ≤ t (s + 3) ∧ t (s + 3) ≤ 122 := h 3 (by omega)
  have h4 : 97 ≤ t (s + 4) ∧ t (s + 4) ≤ 122 := h 4 (by omega)
  have h5 : 97 ≤ t (s + 5) ∧ t (s + 5) ≤ 122 := h 5 (by omega)
  have h6 : 97 ≤ t (s + 6) ∧ t (s + 6) ≤ 122 := h 6 (by omega)
  have e1 : sv t s 1 = 27 * (0) + t s - 96 := sv_s e0 (by omega)
  have e2 : sv t s 2 = 27 * (27 * (0) + t s - 96) + t (s + 1) - 96 := sv_s e1 (by omega)
  have e3 : sv t s 3 = 27 * (27 * (27 * (0) + t s - 96) + t (s + 1) - 96) + t (s + 2) - 96 := sv_s e2 (by omega)
  have e4 : sv t s 4 = 27 * (27 * (27 * (27 * (0) + t s - 96) + t (s + 1) - 96) + t (s + 2) - 96) + t (s + 3) - 96 := sv_s e3 (by omega)
  have e5 : sv t s 5 = 27 * (27 * (27 * (27 * (27 * (0) + t s - 96) + t (s + 1) - 96) + t (s + 2) - 96) + t (s + 3) - 96) + t (s + 4) - 96 := sv_s e4 (by omega)
  have e6 : sv t s 6 = 27 * (27 * (27 * (27 * (27 * (27 * (0) + t s - 96) + t (s + 1) - 96) + t (s + 2) - 96) + t (s + 3) - 96) + t (s + 4) - 96) + t (s + 5) - 96 := sv_s e5 (by omega)
  have e7 : sv t s 7 = 27 * (27 * (27 * (27 * (27 * (27 * (27 * (0) + t s - 96) + t (s + 1) - 96) + t (s + 2) - 96) + t (s + 3) - 96) + t (s + 4) - 96) + t (s + 5) - 96) + t (s + 6) - 96 := sv_s e6 (by omega)
  rw [e7]
  omega
theorem sv_ge {t : Nat → Nat} {s : Nat} : ∀ d, (∀ j, j < d + 7 → 97 ≤ t (s + j) ∧ t (s + j) ≤ 122) → 387420489 ≤ sv t s (d + 7)
  | 0, h => sv_6 h
  | d + 1, h => by
    have ih := sv_ge d (fun j hj => h j (by omega))
    have := h (d + 7) (by omega)
    show 387420489 ≤ (if sv t s (d + 7) ≤ 1000000000000 then _ else _)
    split <;> omega
theorem w_iff_0 {t : Nat → Nat} {s e : Nat} (h : ∀ j, j < e - s → 97 ≤ t (s + j) ∧ t (s + j) ≤ 122) : sv t s (e - s) = 257105 ↔ kdm t s e 0 = true := by
  have ek : kdm t s e 0 = true ↔ (e - s = 4 ∧ t s = 109 ∧ t (s + 1) = 97 ∧ t (s + 2) = 114 ∧ t (s + 3) = 107) := by
    unfold kdm
    rw [show wl 0 = [109, 97, 114, 107] from rfl]
    simp only [eqf, List.length_cons, List.length_nil, Bool.and_eq_true, decide_eq_true_eq, Bool.and_true, Nat.add_assoc]
  rw [ek]
  generalize e - s = L at h ⊢
  have e0 : sv t s 0 = 0 := rfl
  by_cases c7 : 7 ≤ L
  · obtain ⟨d, rfl⟩ : ∃ d, L = d + 7 := ⟨L - 7, by omega⟩
    have := sv_ge d h
    omega
  · rcases (show L = 0 ∨ L = 1 ∨ L = 2 ∨ L = 3 ∨ L = 4 ∨ L = 5 ∨ L = 6 by omega) with rfl | rfl | rfl | rfl | rfl | rfl | rfl
    · rw [e0]; omega
    · have h0 : 97 ≤ t s ∧ t s ≤ 122 := h 0 (by omega)
      have e1 : sv t s 1 = 27 * (0) + t s - 96 := sv_s e0 (by omega)
      rw [e1]
      omega
    · have h0 : 97 ≤ t s ∧ t s ≤ 122 := h 0 (by omega)
      have h1 : 97 ≤ t (s + 1) ∧ t (s + 1) ≤ 122 := h 1 (by omega)
      have e1 : sv t s 1 = 27 * (0) + t s - 96 := sv_s e0 (by omega)
      have e2 : sv t s 2 = 27 * (27 * (0) + t s - 96) + t (s + 1) - 96 := sv_s e1 (by omega)
      rw [e2]
      omega
    · have h0 : 97 ≤ t s ∧ t s ≤ 122 := h 0 (by omega)
      have h1 : 97 ≤ t (s + 1) ∧ t (s + 1) ≤ 122 := h 1 (by omega)
      have h2 : 97 ≤ t (s + 2) ∧ t (s + 2) ≤ 122 := h 2 (by omega)
      have e1 : sv t s 1 = 27 * (0) + t s - 96 := sv_s e0 (by omega)
      have e2 : sv t s 2 = 27 * (27 * (0) + t s - 96) + t (s + 1) - 96 := sv_s e1 (by omega)
      have e3 : sv t s 3 = 27 * (27 * (27 * (0) + t s - 96) + t (s + 1) - 96) + t (s + 2) - 96 := sv_s e2 (by omega)
      rw [e3]
      omega
    · have h0 : 97 ≤ t s ∧ t s ≤ 122 := h 0 (by omega)
      have h1 : 97 ≤ t (s + 1) ∧ t (s + 1) ≤ 122 := h 1 (by omega)
      have h2 : 97 ≤ t (s + 2) ∧ t (s + 2) ≤ 122 := h 2 (by omega)
      have h3 : 97 ≤ t (s + 3) ∧ t (s + 3) ≤ 122 := h 3 (by omega)
      have e1 : sv t s 1 = 27 * (0) + t s - 96 := sv_s e0 (by omega)
      have e2 : sv t s 2 = 27 * (27 * (0) + t s - 96) + t (s + 1) - 96 := sv_s e1 (by omega)
      have e3 : sv t s 3 = 27 * (27 * (27 * (0) + t s - 96) + t (s + 1) - 96) + t (s + 2) - 96 := sv_s e2 (by omega)
      have e4 : sv t s 4 = 27 * (27 * (27 * (27 * (0) + t s - 96) + t (s + 1) - 96) + t (s + 2) - 96) + t (s + 3) - 96 := sv_s e3 (by omega)
      rw [e4]
      omega
    · have h0 : 97 ≤ t s ∧ t s ≤ 122 := h 0 (by omega)
      have h1 : 97 ≤ t (s + 1) ∧ t (s + 1) ≤ 122 := h 1 (by omega)
      have h2 : 97 ≤ t (s + 2) ∧ t (s + 2) ≤ 122 := h 2 (by omega)
      have h3 : 97 ≤ t (s + 3) ∧ t (s + 3) ≤ 122 := h 3 (by omega)
      have h4 : 97 ≤ t (s + 4) ∧ t (s + 4) ≤ 122 := h 4 (by omega)
      have e1 : sv t s 1 = 27 * (0) + t s - 96 := sv_s e0 (by omega)
      have e2 : sv t s 2 = 27 * (27 * (0) + t s - 96) + t (s + 1) - 96 := sv_s e1 (by omega)
      have e3 : sv t s 3 = 27 * (27 * (27 * (0) + t s - 96) + t (s + 1) - 96) + t (s + 2) - 96 := sv_s e2 (by omega)
      have e4 : sv t s 4 = 27 * (27 * (27 * (27 * (0) + t s - 96) + t (s + 1) - 96) + t (s + 2) - 96) + t (s + 3) - 96 := sv_s e3 (by omega)
      have e5 : sv t s 5 = 27 * (27 * (27 * (27 * (27 * (0) + t s - 96) + t (s + 1) - 96) + t (s + 2) - 96) + t (s + 3) - 96) + t (s + 4) - 96 := sv_s e4 (by omega)
      rw [e5]
      omega
    · have h0 : 97 ≤ t s ∧ t s ≤ 122 := h 0 (by omega)
      have h1 : 97 ≤ t (s + 1) ∧ t (s + 1) ≤ 122 := h 1 (by omega)
      have h2 : 97 ≤ t (s + 2) ∧ t (s + 2) ≤ 122 := h 2 (by omega)
      have h3 : 97 ≤ t (s + 3) ∧ t (s + 3) ≤ 122 := h 3 (by omega)
      have h4 : 97 ≤ t (s + 4) ∧ t (s + 4) ≤ 122 := h 4 (by omega)
      have h5 : 97 ≤ t (s + 5) ∧ t (s + 5) ≤ 122 := h 5 (by omega)
      have e1 : sv t s 1 = 27 * (0) + t s - 96 := sv_s e0 (by omega)
      have e2 : sv t s 2 = 27 * (27 * (0) + t s - 96) + t (s + 1) - 96 := sv_s e1 (by omega)
      have e3 : sv t s 3 = 27 * (27 * (27 * (0) + t s - 96) + t (s + 1) - 96) + t (s + 2) - 96 := sv_s e2 (by omega)
      have e4 : sv t s 4 = 27 * (27 * (27 * (27 * (0) + t s - 96) + t (s + 1) - 96) + t (s + 2) - 96) + t (s + 3) - 96 := sv_s e3 (by omega)
      have e5 : sv t s 5 = 27 * (27 * (27 * (27 * (27 * (0) + t s - 96) + t (s + 1) - 96) + t (s + 2) - 96) + t (s + 3) - 96) + t (s + 4) - 96 := sv_s e4 (by omega)
      have e6 : sv t s 6 = 27 * (27 * (27 * (27 * (27 * (27 * (0) + t s - 96) + t (s + 1) - 96) + t (s + 2) - 96) + t (s + 3) - 96) + t (s + 4) - 96) + t (s + 5) - 96 := sv_s e5 (by omega)
      rw [e6]
      omega
theorem w_iff_1 {t : Nat → Nat} {s e : Nat} (h : ∀ j, j < e - s → 97 ≤ t (s + j) ∧ t (s + j) ≤ 122) : sv t s (e - s) = 148755 ↔ kdm t s e 1 = true := by
  have ek : kdm t s e 1 = true ↔ (e - s = 4 ∧ t s = 103 ∧ t (s + 1) = 111 ∧ t (s + 2) = 97 ∧ t (s + 3) = 108) := by
    unfold kdm
    rw [show wl 1 = [103, 111, 97, 108] from rfl]
    simp only [eqf, List.length_cons, List.length_nil, Bool.and_eq_true, decide_eq_true_eq, Bool.and_true, Nat.add_assoc]
  rw [ek]
  generalize e - s = L at h ⊢
  have e0 : sv t s 0 = 0 := rfl
  by_cases c7 : 7 ≤ L
  · obtain ⟨d, rfl⟩ : ∃ d, L = d + 7 := ⟨L - 7, by omega⟩
    have := sv_ge d h
    omega
  · rcases (show L = 0 ∨ L = 1 ∨ L = 2 ∨ L = 3 ∨ L = 4 ∨ L = 5 ∨ L = 6 by omega) with rfl | rfl | rfl | rfl | rfl | rfl | rfl
    · rw [e0]; omega
    · have h0 : 97 ≤ t s ∧ t s ≤ 122 := h 0 (by omega)
      have e1 : sv t s 1 = 27 * (0) + t s - 96 := sv_s e0 (by omega)
      rw [e1]
      omega
    · have h0 : 97 ≤ t s ∧ t s ≤ 122 := h 0 (by omega)
      have h1 : 97 ≤ t (s + 1) ∧ t (s + 1) ≤ 122 := h 1 (by omega)
      have e1 : sv t s 1 = 27 * (0) + t s - 96 := sv_s e0 (by omega)
      have e2 : sv t s 2 = 27 * (27 * (0) + t s - 96) + t (s + 1) - 96 := sv_s e1 (by omega)
      rw [e2]
      omega
    · have h0 : 97 ≤ t s ∧ t s ≤ 122 := h 0 (by omega)
      have h1 : 97 ≤ t (s + 1) ∧ t (s + 1) ≤ 122 := h 1 (by omega)
      have h2 : 97 ≤ t (s + 2) ∧ t (s + 2) ≤ 122 := h 2 (by omega)
      have e1 : sv t s 1 = 27 * (0) + t s - 96 := sv_s e0 (by omega)
      have e2 : sv t s 2 = 27 * (27 * (0) + t s - 96) + t (s + 1) - 96 := sv_s e1 (by omega)
      have e3 : sv t s 3 = 27 * (27 * (27 * (0) + t s - 96) + t (s + 1) - 96) + t (s + 2) - 96 := sv_s e2 (by omega)
      rw [e3]
      omega
    · have h0 : 97 ≤ t s ∧ t s ≤ 122 := h 0 (by omega)
      have h1 : 97 ≤ t (s + 1) ∧ t (s + 1) ≤ 122 := h 1 (by omega)
      have h2 : 97 ≤ t (s + 2) ∧ t (s + 2) ≤ 122 := h 2 (by omega)
      have h3 : 97 ≤ t (s + 3) ∧ t (s + 3) ≤ 122 := h 3 (by omega)
      have e1 : sv t s 1 = 27 * (0) + t s - 96 := sv_s e0 (by omega)
      have e2 : sv t s 2 = 27 * (27 * (0) + t s - 96) + t (s + 1) - 96 := sv_s e1 (by omega)
      have e3 : sv t s 3 = 27 * (27 * (27 * (0) + t s - 96) + t (s + 1) - 96) + t (s + 2) - 96 := sv_s e2 (by omega)
      have e4 : sv t s 4 = 27 * (27 * (27 * (27 * (0) + t s - 96) + t (s + 1) - 96) + t (s + 2) - 96) + t (s + 3) - 96 := sv_s e3 (by omega)
      rw [e4]
      omega
    · have h0 : 97 ≤ t s ∧ t s ≤ 122 := h 0 (by omega)
      have h1 : 97 ≤ t (s + 1) ∧ t (s + 1) ≤ 122 := h 1 (by omega)
      have h2 : 97 ≤ t (s + 2) ∧ t (s + 2) ≤ 122 := h 2 (by omega)
      have h3 : 97 ≤ t (s + 3) ∧ t (s + 3) ≤ 122 := h 3 (by omega)
      have h4 : 97 ≤ t (s + 4) ∧ t (s + 4) ≤ 122 := h 4 (by omega)
      have e1 : sv t s 1 = 27 * (0) + t s - 96 := sv_s e0 (by omega)
      have e2 : sv t s 2 = 27 * (27 * (0) + t s - 96) + t (s + 1) - 96 := sv_s e1 (by omega)
      have e3 : sv t s 3 = 27 * (27 * (27 * (0) + t s - 96) + t (s + 1) - 96) + t (s + 2) - 96 := sv_s e2 (by omega)
      have e4 : sv t s 4 = 27 * (27 * (27 * (27 * (0) + t s - 96) + t (s + 1) - 96) + t (s + 2) - 96) + t (s + 3) - 96 := sv_s e3 (by omega)
      have e5 : sv t s 5 = 27 * (27 * (27 * (27 * (27 * (0) + t s - 96) + t (s + 1) - 96) + t (s + 2) - 96) + t (s + 3) - 96) + t (s + 4) - 96 := sv_s e4 (by omega)
      rw [e5]
      omega
    · have h0 : 97 ≤ t s ∧ t s ≤ 122 := h 0 (by omega)
      have h1 : 97 ≤ t (s + 1) ∧ t (s + 1) ≤ 122 := h 1 (by omega)
      have h2 : 97 ≤ t (s + 2) ∧ t (s + 2) ≤ 122 := h 2 (by omega)
      have h3 : 97 ≤ t (s + 3) ∧ t (s + 3) ≤ 122 := h 3 (by omega)
      have h4 : 97 ≤ t (s + 4) ∧ t (s + 4) ≤ 122 := h 4 (by omega)
      have h5 : 97 ≤ t (s + 5) ∧ t (s + 5) ≤ 122 := h 5 (by omega)
      have e1 : sv t s 1 = 27 * (0) + t s - 96 := sv_s e0 (by omega)
      have e2 : sv t s 2 = 27 * (27 * (0) + t s - 96) + t (s + 1) - 96 := sv_s e1 (by omega)
      have e3 : sv t s 3 = 27 * (27 * (27 * (0) + t s - 96) + t (s + 1) - 96) + t (s + 2) - 96 := sv_s e2 (by omega)
      have e4 : sv t s 4 = 27 * (27 * (27 * (27 * (0) + t s - 96) + t (s + 1) - 96) + t (s + 2) - 96) + t (s + 3) - 96 := sv_s e3 (by omega)
      have e5 : sv t s 5 = 27 * (27 * (27 * (27 * (27 * (0) + t s - 96) + t (s + 1) - 96) + t (s + 2) - 96) + t (s + 3) - 96) + t (s + 4) - 96 := sv_s e4 (by omega)
      have e6 : sv t s 6 = 27 * (27 * (27 * (27 * (27 * (27 * (0) + t s - 96) + t (s + 1) - 96) + t (s + 2) - 96) + t (s + 3) - 96) + t (s + 4) - 96) + t (s + 5) - 96 := sv_s e5 (by omega)
      rw [e6]
      omega
theorem w_iff_2 {t : Nat → Nat} {s e : Nat} (h : ∀ j, j < e - s → 97 ≤ t (s + j) ∧ t (s + j) ≤ 122) : sv t s (e - s) = 335207579 ↔ kdm t s e 2 = true := by
  have ek : kdm t s e 2 = true ↔ (e - s = 6 ∧ t s = 119 ∧ t (s + 1) = 105 ∧ t (s + 2) = 116 ∧ t (s + 3) = 104 ∧ t (s + 4) = 105 ∧ t (s + 5) = 110) := by
    unfold kdm
    rw [show wl 2 = [119, 105, 116, 104, 105, 110] from rfl]
    simp only [eqf, List.length_cons, List.length_nil, Bool.and_eq_true, decide_eq_true_eq, Bool.and_true, Nat.add_assoc]
  rw [ek]
  generalize e - s = L at h ⊢
  have e0 : sv t s 0 = 0 := rfl
  by_cases c7 : 7 ≤ L
  · obtain ⟨d, rfl⟩ : ∃ d, L = d + 7 := ⟨L - 7, by omega⟩
    have := sv_ge d h
    omega
  · rcases (show L = 0 ∨ L = 1 ∨ L = 2 ∨ L = 3 ∨ L = 4 ∨ L = 5 ∨ L = 6 by omega) with rfl | rfl | rfl | rfl | rfl | rfl | rfl
    · rw [e0]; omega
    · have h0 : 97 ≤ t s ∧ t s ≤ 122 := h 0 (by omega)
      have e1 : sv t s 1 = 27 * (0) + t s - 96 := sv_s e0 (by omega)
      rw [e1]
      omega
    · have h0 : 97 ≤ t s ∧ t s ≤ 122 := h 0 (by omega)
      have h1 : 97 ≤ t (s + 1) ∧ t (s + 1) ≤ 122 := h 1 (by omega)
      have e1 : sv t s 1 = 27 * (0) + t s - 96 := sv_s e0 (by omega)
      have e2 : sv t s 2 = 27 * (27 * (0) + t s - 96) + t (s + 1) - 96 := sv_s e1 (by omega)
      rw [e2]
      omega
    · have h0 : 97 ≤ t s ∧ t s ≤ 122 := h 0 (by omega)
      have h1 : 97 ≤ t (s + 1) ∧ t (s + 1) ≤ 122 := h 1 (by omega)
      have h2 : 97 ≤ t (s + 2) ∧ t (s + 2) ≤ 122 := h 2 (by omega)
      have e1 : sv t s 1 = 27 * (0) + t s - 96 := sv_s e0 (by omega)
      have e2 : sv t s 2 = 27 * (27 * (0) + t s - 96) + t (s + 1) - 96 := sv_s e1 (by omega)
      have e3 : sv t s 3 = 27 * (27 * (27 * (0) + t s - 96) + t (s + 1) - 96) + t (s + 2) - 96 := sv_s e2 (by omega)
      rw [e3]
      omega
    · have h0 : 97 ≤ t s ∧ t s ≤ 122 := h 0 (by omega)
      have h1 : 97 ≤ t (s + 1) ∧ t (s + 1) ≤ 122 := h 1 (by omega)
      have h2 : 97 ≤ t (s + 2) ∧ t (s + 2) ≤ 122 := h 2 (by omega)
      have h3 : 97 ≤ t (s + 3) ∧ t (s + 3) ≤ 122 := h 3 (by omega)
      have e1 : sv t s 1 = 27 * (0) + t s - 96 := sv_s e0 (by omega)
      have e2 : sv t s 2 = 27 * (27 * (0) + t s - 96) + t (s + 1) - 96 := sv_s e1 (by omega)
      have e3 : sv t s 3 = 27 * (27 * (27 * (0) + t s - 96) + t (s + 1) - 96) + t (s + 2) - 96 := sv_s e2 (by omega)
      have e4 : sv t s 4 = 27 * (27 * (27 * (27 * (0) + t s - 96) + t (s + 1) - 96) + t (s + 2) - 96) + t (s + 3) - 96 := sv_s e3 (by omega)
      rw [e4]
      omega
    · have h0 : 97 ≤ t s ∧ t s ≤ 122 := h 0 (by omega)
      have h1 : 97 ≤ t (s + 1) ∧ t (s + 1) ≤ 122 := h 1 (by omega)
      have h2 : 97 ≤ t (s + 2) ∧ t (s + 2) ≤ 122 := h 2 (by omega)
      have h3 : 97 ≤ t (s + 3) ∧ t (s + 3) ≤ 122 := h 3 (by omega)
      have h4 : 97 ≤ t (s + 4) ∧ t (s + 4) ≤ 122 := h 4 (by omega)
      have e1 : sv t s 1 = 27 * (0) + t s - 96 := sv_s e0 (by omega)
      have e2 : sv t s 2 = 27 * (27 * (0) + t s - 96) + t (s + 1) - 96 := sv_s e1 (by omega)
      have e3 : sv t s 3 = 27 * (27 * (27 * (0) + t s - 96) + t (s + 1) - 96) + t (s + 2) - 96 := sv_s e2 (by omega)
      have e4 : sv t s 4 = 27 * (27 * (27 * (27 * (0) + t s - 96) + t (s + 1) - 96) + t (s + 2) - 96) + t (s + 3) - 96 := sv_s e3 (by omega)
      have e5 : sv t s 5 = 27 * (27 * (27 * (27 * (27 * (0) + t s - 96) + t (s + 1) - 96) + t (s + 2) - 96) + t (s + 3) - 96) + t (s + 4) - 96 := sv_s e4 (by omega)
      rw [e5]
      omega
    · have h0 : 97 ≤ t s ∧ t s ≤ 122 := h 0 (by omega)
      have h1 : 97 ≤ t (s + 1) ∧ t (s + 1) ≤ 122 := h 1 (by omega)
      have h2 : 97 ≤ t (s + 2) ∧ t (s + 2) ≤ 122 := h 2 (by omega)
      have h3 : 97 ≤ t (s + 3) ∧ t (s + 3) ≤ 122 := h 3 (by omega)
      have h4 : 97 ≤ t (s + 4) ∧ t (s + 4) ≤ 122 := h 4 (by omega)
      have h5 : 97 ≤ t (s + 5) ∧ t (s + 5) ≤ 122 := h 5 (by omega)
      have e1 : sv t s 1 = 27 * (0) + t s - 96 := sv_s e0 (by omega)
      have e2 : sv t s 2 = 27 * (27 * (0) + t s - 96) + t (s + 1) - 96 := sv_s e1 (by omega)
      have e3 : sv t s 3 = 27 * (27 * (27 * (0) + t s - 96) + t (s + 1) - 96) + t (s + 2) - 96 := sv_s e2 (by omega)
      have e4 : sv t s 4 = 27 * (27 * (27 * (27 * (0) + t s - 96) + t (s + 1) - 96) + t (s + 2) - 96) + t (s + 3) - 96 := sv_s e3 (by omega)
      have e5 : sv t s 5 = 27 * (27 * (27 * (27 * (27 * (0) + t s - 96) + t (s + 1) - 96) + t (s + 2) - 96) + t (s + 3) - 96) + t (s + 4) - 96 := sv_s e4 (by omega)
      have e6 : sv t s 6 = 27 * (27 * (27 * (27 * (27 * (27 * (0) + t s - 96) + t (s + 1) - 96) + t (s + 2) - 96) + t (s + 3) - 96) + t (s + 4) - 96) + t (s + 5) - 96 := sv_s e5 (by omega)
      rw [e6]
      omega
theorem w_iff_3 {t : Nat → Nat} {s e : Nat} (h : ∀ j, j < e - s → 97 ≤ t (s + j) ∧ t (s + j) ≤ 122) : sv t s (e - s) = 8996 ↔ kdm t s e 3 = true := by
  have ek : kdm t s e 3 = true ↔ (e - s = 3 ∧ t s = 108 ∧ t (s + 1) = 105 ∧ t (s + 2) = 101) := by
    unfold kdm
    rw [show wl 3 = [108, 105, 101] from rfl]
    simp only [eqf, List.length_cons, List.length_nil, Bool.and_eq_true, decide_eq_true_eq, Bool.and_true, Nat.add_assoc]
  rw [ek]
  generalize e - s = L at h ⊢
  have e0 : sv t s 0 = 0 := rfl
  by_cases c7 : 7 ≤ L
  · obtain ⟨d, rfl⟩ : ∃ d, L = d + 7 := ⟨L - 7, by omega⟩
    have := sv_ge d h
    omega
  · rcases (show L = 0 ∨ L = 1 ∨ L = 2 ∨ L = 3 ∨ L = 4 ∨ L = 5 ∨ L = 6 by omega) with rfl | rfl | rfl | rfl | rfl | rfl | rfl
    · rw [e0]; omega
    · have h0 : 97 ≤ t s ∧ t s ≤ 122 := h 0 (by omega)
      have e1 : sv t s 1 = 27 * (0) + t s - 96 := sv_s e0 (by omega)
      rw [e1]
      omega
    · have h0 : 97 ≤ t s ∧ t s ≤ 122 := h 0 (by omega)
      have h1 : 97 ≤ t (s + 1) ∧ t (s + 1) ≤ 122 := h 1 (by omega)
      have e1 : sv t s 1 = 27 * (0) + t s - 96 := sv_s e0 (by omega)
      have e2 : sv t s 2 = 27 * (27 * (0) + t s - 96) + t (s + 1) - 96 := sv_s e1 (by omega)
      rw [e2]
      omega
    · have h0 : 97 ≤ t s ∧ t s ≤ 122 := h 0 (by omega)
      have h1 : 97 ≤ t (s + 1) ∧ t (s + 1) ≤ 122 := h 1 (by omega)
      have h2 : 97 ≤ t (s + 2) ∧ t (s + 2) ≤ 122 := h 2 (by omega)
      have e1 : sv t s 1 = 27 * (0) + t s - 96 := sv_s e0 (by omega)
      have e2 : sv t s 2 = 27 * (27 * (0) + t s - 96) + t (s + 1) - 96 := sv_s e1 (by omega)
      have e3 : sv t s 3 = 27 * (27 * (27 * (0) + t s - 96) + t (s + 1) - 96) + t (s + 2) - 96 := sv_s e2 (by omega)
      rw [e3]
      omega
    · have h0 : 97 ≤ t s ∧ t s ≤ 122 := h 0 (by omega)
      have h1 : 97 ≤ t (s + 1) ∧ t (s + 1) ≤ 122 := h 1 (by omega)
      have h2 : 97 ≤ t (s + 2) ∧ t (s + 2) ≤ 122 := h 2 (by omega)
      have h3 : 97 ≤ t (s + 3) ∧ t (s + 3) ≤ 122 := h 3 (by omega)
      have e1 : sv t s 1 = 27 * (0) + t s - 96 := sv_s e0 (by omega)
      have e2 : sv t s 2 = 27 * (27 * (0) + t s - 96) + t (s + 1) - 96 := sv_s e1 (by omega)
      have e3 : sv t s 3 = 27 * (27 * (27 * (0) + t s - 96) + t (s + 1) - 96) + t (s + 2) - 96 := sv_s e2 (by omega)
      have e4 : sv t s 4 = 27 * (27 * (27 * (27 * (0) + t s - 96) + t (s + 1) - 96) + t (s + 2) - 96) + t (s + 3) - 96 := sv_s e3 (by omega)
      rw [e4]
      omega
    · have h0 : 97 ≤ t s ∧ t s ≤ 122 := h 0 (by omega)
      have h1 : 97 ≤ t (s + 1) ∧ t (s + 1) ≤ 122 := h 1 (by omega)
      have h2 : 97 ≤ t (s + 2) ∧ t (s + 2) ≤ 122 := h 2 (by omega)
      have h3 : 97 ≤ t (s + 3) ∧ t (s + 3) ≤ 122 := h 3 (by omega)
      have h4 : 97 ≤ t (s + 4) ∧ t (s + 4) ≤ 122 := h 4 (by omega)
      have e1 : sv t s 1 = 27 * (0) + t s - 96 := sv_s e0 (by omega)
      have e2 : sv t s 2 = 27 * (27 * (0) + t s - 96) + t (s + 1) - 96 := sv_s e1 (by omega)
      have e3 : sv t s 3 = 27 * (27 * (27 * (0) + t s - 96) + t (s + 1) - 96) + t (s + 2) - 96 := sv_s e2 (by omega)
      have e4 : sv t s 4 = 27 * (27 * (27 * (27 * (0) + t s - 96) + t (s + 1) - 96) + t (s + 2) - 96) + t (s + 3) - 96 := sv_s e3 (by omega)
      have e5 : sv t s 5 = 27 * (27 * (27 * (27 * (27 * (0) + t s - 96) + t (s + 1) - 96) + t (s + 2) - 96) + t (s + 3) - 96) + t (s + 4) - 96 := sv_s e4 (by omega)
      rw [e5]
      omega
    · have h0 : 97 ≤ t s ∧ t s ≤ 122 := h 0 (by omega)
      have h1 : 97 ≤ t (s + 1) ∧ t (s + 1) ≤ 122 := h 1 (by omega)
      have h2 : 97 ≤ t (s + 2) ∧ t (s + 2) ≤ 122 := h 2 (by omega)
      have h3 : 97 ≤ t (s + 3) ∧ t (s + 3) ≤ 122 := h 3 (by omega)
      have h4 : 97 ≤ t (s + 4) ∧ t (s + 4) ≤ 122 := h 4 (by omega)
      have h5 : 97 ≤ t (s + 5) ∧ t (s + 5) ≤ 122 := h 5 (by omega)
      have e1 : sv t s 1 = 27 * (0) + t s - 96 := sv_s e0 (by omega)
      have e2 : sv t s 2 = 27 * (27 * (0) + t s - 96) + t (s + 1) - 96 := sv_s e1 (by omega)
      have e3 : sv t s 3 = 27 * (27 * (27 * (0) + t s - 96) + t (s + 1) - 96) + t (s + 2) - 96 := sv_s e2 (by omega)
      have e4 : sv t s 4 = 27 * (27 * (27 * (27 * (0) + t s - 96) + t (s + 1) - 96) + t (s + 2) - 96) + t (s + 3) - 96 := sv_s e3 (by omega)
      have e5 : sv t s 5 = 27 * (27 * (27 * (27 * (27 * (0) + t s - 96) + t (s + 1) - 96) + t (s + 2) - 96) + t (s + 3) - 96) + t (s + 4) - 96 := sv_s e4 (by omega)
      have e6 : sv t s 6 = 27 * (27 * (27 * (27 * (27 * (27 * (0) + t s - 96) + t (s + 1) - 96) + t (s + 2) - 96) + t (s + 3) - 96) + t (s + 4) - 96) + t (s + 5) - 96 := sv_s e5 (by omega)
      rw [e6]
      omega
theorem w_iff_4 {t : Nat → Nat} {s e : Nat} (h : ∀ j, j < e - s → 97 ≤ t (s + j) ∧ t (s + j) ≤ 122) : sv t s (e - s) = 4149 ↔ kdm t s e 4 = true := by
  have ek : kdm t s e 4 = true ↔ (e - s = 3 ∧ t s = 101 ∧ t (s + 1) = 114 ∧ t (s + 2) = 114) := by
    unfold kdm
    rw [show wl 4 = [101, 114, 114] from rfl]
    simp only [eqf, List.length_cons, List.length_nil, Bool.and_eq_true, decide_eq_true_eq, Bool.and_true, Nat.add_assoc]
  rw [ek]
  generalize e - s = L at h ⊢
  have e0 : sv t s 0 = 0 := rfl
  by_cases c7 : 7 ≤ L
  · obtain ⟨d, rfl⟩ : ∃ d, L = d + 7 := ⟨L - 7, by omega⟩
    have := sv_ge d h
    omega
  · rcases (show L = 0 ∨ L = 1 ∨ L = 2 ∨ L = 3 ∨ L = 4 ∨ L = 5 ∨ L = 6 by omega) with rfl | rfl | rfl | rfl | rfl | rfl | rfl
    · rw [e0]; omega
    · have h0 : 97 ≤ t s ∧ t s ≤ 122 := h 0 (by omega)
      have e1 : sv t s 1 = 27 * (0) + t s - 96 := sv_s e0 (by omega)
      rw [e1]
      omega
    · have h0 : 97 ≤ t s ∧ t s ≤ 122 := h 0 (by omega)
      have h1 : 97 ≤ t (s + 1) ∧ t (s + 1) ≤ 122 := h 1 (by omega)
      have e1 : sv t s 1 = 27 * (0) + t s - 96 := sv_s e0 (by omega)
      have e2 : sv t s 2 = 27 * (27 * (0) + t s - 96) + t (s + 1) - 96 := sv_s e1 (by omega)
      rw [e2]
      omega
    · have h0 : 97 ≤ t s ∧ t s ≤ 122 := h 0 (by omega)
      have h1 : 97 ≤ t (s + 1) ∧ t (s + 1) ≤ 122 := h 1 (by omega)
      have h2 : 97 ≤ t (s + 2) ∧ t (s + 2) ≤ 122 := h 2 (by omega)
      have e1 : sv t s 1 = 27 * (0) + t s - 96 := sv_s e0 (by omega)
      have e2 : sv t s 2 = 27 * (27 * (0) + t s - 96) + t (s + 1) - 96 := sv_s e1 (by omega)
      have e3 : sv t s 3 = 27 * (27 * (27 * (0) + t s - 96) + t (s + 1) - 96) + t (s + 2) - 96 := sv_s e2 (by omega)
      rw [e3]
      omega
    · have h0 : 97 ≤ t s ∧ t s ≤ 122 := h 0 (by omega)
      have h1 : 97 ≤ t (s + 1) ∧ t (s + 1) ≤ 122 := h 1 (by omega)
      have h2 : 97 ≤ t (s + 2) ∧ t (s + 2) ≤ 122 := h 2 (by omega)
      have h3 : 97 ≤ t (s + 3) ∧ t (s + 3) ≤ 122 := h 3 (by omega)
      have e1 : sv t s 1 = 27 * (0) + t s - 96 := sv_s e0 (by omega)
      have e2 : sv t s 2 = 27 * (27 * (0) + t s - 96) + t (s + 1) - 96 := sv_s e1 (by omega)
      have e3 : sv t s 3 = 27 * (27 * (27 * (0) + t s - 96) + t (s + 1) - 96) + t (s + 2) - 96 := sv_s e2 (by omega)
      have e4 : sv t s 4 = 27 * (27 * (27 * (27 * (0) + t s - 96) + t (s + 1) - 96) + t (s + 2) - 96) + t (s + 3) - 96 := sv_s e3 (by omega)
      rw [e4]
      omega
    · have h0 : 97 ≤ t s ∧ t s ≤ 122 := h 0 (by omega)
      have h1 : 97 ≤ t (s + 1) ∧ t (s + 1) ≤ 122 := h 1 (by omega)
      have h2 : 97 ≤ t (s + 2) ∧ t (s + 2) ≤ 122 := h 2 (by omega)
      have h3 : 97 ≤ t (s + 3) ∧ t (s + 3) ≤ 122 := h 3 (by omega)
      have h4 : 97 ≤ t (s + 4) ∧ t (s + 4) ≤ 122 := h 4 (by omega)
      have e1 : sv t s 1 = 27 * (0) + t s - 96 := sv_s e0 (by omega)
      have e2 : sv t s 2 = 27 * (27 * (0) + t s - 96) + t (s + 1) - 96 := sv_s e1 (by omega)
      have e3 : sv t s 3 = 27 * (27 * (27 * (0) + t s - 96) + t (s + 1) - 96) + t (s + 2) - 96 := sv_s e2 (by omega)
      have e4 : sv t s 4 = 27 * (27 * (27 * (27 * (0) + t s - 96) + t (s + 1) - 96) + t (s + 2) - 96) + t (s + 3) - 96 := sv_s e3 (by omega)
      have e5 : sv t s 5 = 27 * (27 * (27 * (27 * (27 * (0) + t s - 96) + t (s + 1) - 96) + t (s + 2) - 96) + t (s + 3) - 96) + t (s + 4) - 96 := sv_s e4 (by omega)
      rw [e5]
      omega
    · have h0 : 97 ≤ t s ∧ t s ≤ 122 := h 0 (by omega)
      have h1 : 97 ≤ t (s + 1) ∧ t (s + 1) ≤ 122 := h 1 (by omega)
      have h2 : 97 ≤ t (s + 2) ∧ t (s + 2) ≤ 122 := h 2 (by omega)
      have h3 : 97 ≤ t (s + 3) ∧ t (s + 3) ≤ 122 := h 3 (by omega)
      have h4 : 97 ≤ t (s + 4) ∧ t (s + 4) ≤ 122 := h 4 (by omega)
      have h5 : 97 ≤ t (s + 5) ∧ t (s + 5) ≤ 122 := h 5 (by omega)
      have e1 : sv t s 1 = 27 * (0) + t s - 96 := sv_s e0 (by omega)
      have e2 : sv t s 2 = 27 * (27 * (0) + t s - 96) + t (s + 1) - 96 := sv_s e1 (by omega)
      have e3 : sv t s 3 = 27 * (27 * (27 * (0) + t s - 96) + t (s + 1) - 96) + t (s + 2) - 96 := sv_s e2 (by omega)
      have e4 : sv t s 4 = 27 * (27 * (27 * (27 * (0) + t s - 96) + t (s + 1) - 96) + t (s + 2) - 96) + t (s + 3) - 96 := sv_s e3 (by omega)
      have e5 : sv t s 5 = 27 * (27 * (27 * (27 * (27 * (0) + t s - 96) + t (s + 1) - 96) + t (s + 2) - 96) + t (s + 3) - 96) + t (s + 4) - 96 := sv_s e4 (by omega)
      have e6 : sv t s 6 = 27 * (27 * (27 * (27 * (27 * (27 * (0) + t s - 96) + t (s + 1) - 96) + t (s + 2) - 96) + t (s + 3) - 96) + t (s + 4) - 96) + t (s + 5) - 96 := sv_s e5 (by omega)
      rw [e6]
      omega
theorem w_iff_5 {t : Nat → Nat} {s e : Nat} (h : ∀ j, j < e - s → 97 ≤ t (s + j) ∧ t (s + j) ≤ 122) : sv t s (e - s) = 10413149 ↔ kdm t s e 5 = true := by
  have ek : kdm t s e 5 = true ↔ (e - s = 5 ∧ t s = 115 ∧ t (s + 1) = 112 ∧ t (s + 2) = 97 ∧ t (s + 3) = 100 ∧ t (s + 4) = 101) := by
    unfold kdm
    rw [show wl 5 = [115, 112, 97, 100, 101] from rfl]
    simp only [eqf, List.length_cons, List.length_nil, Bool.and_eq_true, decide_eq_true_eq, Bool.and_true, Nat.add_assoc]
  rw [ek]
  generalize e - s = L at h ⊢
  have e0 : sv t s 0 = 0 := rfl
  by_cases c7 : 7 ≤ L
  · obtain ⟨d, rfl⟩ : ∃ d, L = d + 7 := ⟨L - 7, by omega⟩
    have := sv_ge d h
    omega
  · rcases (show L = 0 ∨ L = 1 ∨ L = 2 ∨ L = 3 ∨ L = 4 ∨ L = 5 ∨ L = 6 by omega) with rfl | rfl | rfl | rfl | rfl | rfl | rfl
    · rw [e0]; omega
    · have h0 : 97 ≤ t s ∧ t s ≤ 122 := h 0 (by omega)
      have e1 : sv t s 1 = 27 * (0) + t s - 96 := sv_s e0 (by omega)
      rw [e1]
      omega
    · have h0 : 97 ≤ t s ∧ t s ≤ 122 := h 0 (by omega)
      have h1 : 97 ≤ t (s + 1) ∧ t (s + 1) ≤ 122 := h 1 (by omega)
      have e1 : sv t s 1 = 27 * (0) + t s - 96 := sv_s e0 (by omega)
      have e2 : sv t s 2 = 27 * (27 * (0) + t s - 96) + t (s + 1) - 96 := sv_s e1 (by omega)
      rw [e2]
      omega
    · have h0 : 97 ≤ t s ∧ t s ≤ 122 := h 0 (by omega)
      have h1 : 97 ≤ t (s + 1) ∧ t (s + 1) ≤ 122 := h 1 (by omega)
      have h2 : 97 ≤ t (s + 2) ∧ t (s + 2) ≤ 122 := h 2 (by omega)
      have e1 : sv t s 1 = 27 * (0) + t s - 96 := sv_s e0 (by omega)
      have e2 : sv t s 2 = 27 * (27 * (0) + t s - 96) + t (s + 1) - 96 := sv_s e1 (by omega)
      have e3 : sv t s 3 = 27 * (27 * (27 * (0) + t s - 96) + t (s + 1) - 96) + t (s + 2) - 96 := sv_s e2 (by omega)
      rw [e3]
      omega
    · have h0 : 97 ≤ t s ∧ t s ≤ 122 := h 0 (by omega)
      have h1 : 97 ≤ t (s + 1) ∧ t (s + 1) ≤ 122 := h 1 (by omega)
      have h2 : 97 ≤ t (s + 2) ∧ t (s + 2) ≤ 122 := h 2 (by omega)
      have h3 : 97 ≤ t (s + 3) ∧ t (s + 3) ≤ 122 := h 3 (by omega)
      have e1 : sv t s 1 = 27 * (0) + t s - 96 := sv_s e0 (by omega)
      have e2 : sv t s 2 = 27 * (27 * (0) + t s - 96) + t (s + 1) - 96 := sv_s e1 (by omega)
      have e3 : sv t s 3 = 27 * (27 * (27 * (0) + t s - 96) + t (s + 1) - 96) + t (s + 2) - 96 := sv_s e2 (by omega)
      have e4 : sv t s 4 = 27 * (27 * (27 * (27 * (0) + t s - 96) + t (s + 1) - 96) + t (s + 2) - 96) + t (s + 3) - 96 := sv_s e3 (by omega)
      rw [e4]
      omega
    · have h0 : 97 ≤ t s ∧ t s ≤ 122 := h 0 (by omega)
      have h1 : 97 ≤ t (s + 1) ∧ t (s + 1) ≤ 122 := h 1 (by omega)
      have h2 : 97 ≤ t (s + 2) ∧ t (s + 2) ≤ 122 := h 2 (by omega)
      have h3 : 97 ≤ t (s + 3) ∧ t (s + 3) ≤ 122 := h 3 (by omega)
      have h4 : 97 ≤ t (s + 4) ∧ t (s + 4) ≤ 122 := h 4 (by omega)
      have e1 : sv t s 1 = 27 * (0) + t s - 96 := sv_s e0 (by omega)
      have e2 : sv t s 2 = 27 * (27 * (0) + t s - 96) + t (s + 1) - 96 := sv_s e1 (by omega)
      have e3 : sv t s 3 = 27 * (27 * (27 * (0) + t s - 96) + t (s + 1) - 96) + t (s + 2) - 96 := sv_s e2 (by omega)
      have e4 : sv t s 4 = 27 * (27 * (27 * (27 * (0) + t s - 96) + t (s + 1) - 96) + t (s + 2) - 96) + t (s + 3) - 96 := sv_s e3 (by omega)
      have e5 : sv t s 5 = 27 * (27 * (27 * (27 * (27 * (0) + t s - 96) + t (s + 1) - 96) + t (s + 2) - 96) + t (s + 3) - 96) + t (s + 4) - 96 := sv_s e4 (by omega)
      rw [e5]
      omega
    · have h0 : 97 ≤ t s ∧ t s ≤ 122 := h 0 (by omega)
      have h1 : 97 ≤ t (s + 1) ∧ t (s + 1) ≤ 122 := h 1 (by omega)
      have h2 : 97 ≤ t (s + 2) ∧ t (s + 2) ≤ 122 := h 2 (by omega)
      have h3 : 97 ≤ t (s + 3) ∧ t (s + 3) ≤ 122 := h 3 (by omega)
      have h4 : 97 ≤ t (s + 4) ∧ t (s + 4) ≤ 122 := h 4 (by omega)
      have h5 : 97 ≤ t (s + 5) ∧ t (s + 5) ≤ 122 := h 5 (by omega)
      have e1 : sv t s 1 = 27 * (0) + t s - 96 := sv_s e0 (by omega)
      have e2 : sv t s 2 = 27 * (27 * (0) + t s - 96) + t (s + 1) - 96 := sv_s e1 (by omega)
      have e3 : sv t s 3 = 27 * (27 * (27 * (0) + t s - 96) + t (s + 1) - 96) + t (s + 2) - 96 := sv_s e2 (by omega)
      have e4 : sv t s 4 = 27 * (27 * (27 * (27 * (0) + t s - 96) + t (s + 1) - 96) + t (s + 2) - 96) + t (s + 3) - 96 := sv_s e3 (by omega)
      have e5 : sv t s 5 = 27 * (27 * (27 * (27 * (27 * (0) + t s - 96) + t (s + 1) - 96) + t (s + 2) - 96) + t (s + 3) - 96) + t (s + 4) - 96 := sv_s e4 (by omega)
      have e6 : sv t s 6 = 27 * (27 * (27 * (27 * (27 * (27 * (0) + t s - 96) + t (s + 1) - 96) + t (s + 2) - 96) + t (s + 3) - 96) + t (s + 4) - 96) + t (s + 5) - 96 := sv_s e5 (by omega)
      rw [e6]
      omega
theorem w_iff_6 {t : Nat → Nat} {s e : Nat} (h : ∀ j, j < e - s → 97 ≤ t (s + j) ∧ t (s + j) ≤ 122) : sv t s (e - s) = 8864618 ↔ kdm t s e 6 = true := by
  have ek : kdm t s e 6 = true ↔ (e - s = 5 ∧ t s = 112 ∧ t (s + 1) = 114 ∧ t (s + 2) = 105 ∧ t (s + 3) = 122 ∧ t (s + 4) = 101) := by
    unfold kdm
    rw [show wl 6 = [112, 114, 105, 122, 101] from rfl]
    simp only [eqf, List.length_cons, List.length_nil, Bool.and_eq_true, decide_eq_true_eq, Bool.and_true, Nat.add_assoc]
  rw [ek]
  generalize e - s = L at h ⊢
  have e0 : sv t s 0 = 0 := rfl
  by_cases c7 : 7 ≤ L
  · obtain ⟨d, rfl⟩ : ∃ d, L = d + 7 := ⟨L - 7, by omega⟩
    have := sv_ge d h
    omega
  · rcases (show L = 0 ∨ L = 1 ∨ L = 2 ∨ L = 3 ∨ L = 4 ∨ L = 5 ∨ L = 6 by omega) with rfl | rfl | rfl | rfl | rfl | rfl | rfl
    · rw [e0]; omega
    · have h0 : 97 ≤ t s ∧ t s ≤ 122 := h 0 (by omega)
      have e1 : sv t s 1 = 27 * (0) + t s - 96 := sv_s e0 (by omega)
      rw [e1]
      omega
    · have h0 : 97 ≤ t s ∧ t s ≤ 122 := h 0 (by omega)
      have h1 : 97 ≤ t (s + 1) ∧ t (s + 1) ≤ 122 := h 1 (by omega)
      have e1 : sv t s 1 = 27 * (0) + t s - 96 := sv_s e0 (by omega)
      have e2 : sv t s 2 = 27 * (27 * (0) + t s - 96) + t (s + 1) - 96 := sv_s e1 (by omega)
      rw [e2]
      omega
    · have h0 : 97 ≤ t s ∧ t s ≤ 122 := h 0 (by omega)
      have h1 : 97 ≤ t (s + 1) ∧ t (s + 1) ≤ 122 := h 1 (by omega)
      have h2 : 97 ≤ t (s + 2) ∧ t (s + 2) ≤ 122 := h 2 (by omega)
      have e1 : sv t s 1 = 27 * (0) + t s - 96 := sv_s e0 (by omega)
      have e2 : sv t s 2 = 27 * (27 * (0) + t s - 96) + t (s + 1) - 96 := sv_s e1 (by omega)
      have e3 : sv t s 3 = 27 * (27 * (27 * (0) + t s - 96) + t (s + 1) - 96) + t (s + 2) - 96 := sv_s e2 (by omega)
      rw [e3]
      omega
    · have h0 : 97 ≤ t s ∧ t s ≤ 122 := h 0 (by omega)
      have h1 : 97 ≤ t (s + 1) ∧ t (s + 1) ≤ 122 := h 1 (by omega)
      have h2 : 97 ≤ t (s + 2) ∧ t (s + 2) ≤ 122 := h 2 (by omega)
      have h3 : 97 ≤ t (s + 3) ∧ t (s + 3) ≤ 122 := h 3 (by omega)
      have e1 : sv t s 1 = 27 * (0) + t s - 96 := sv_s e0 (by omega)
      have e2 : sv t s 2 = 27 * (27 * (0) + t s - 96) + t (s + 1) - 96 := sv_s e1 (by omega)
      have e3 : sv t s 3 = 27 * (27 * (27 * (0) + t s - 96) + t (s + 1) - 96) + t (s + 2) - 96 := sv_s e2 (by omega)
      have e4 : sv t s 4 = 27 * (27 * (27 * (27 * (0) + t s - 96) + t (s + 1) - 96) + t (s + 2) - 96) + t (s + 3) - 96 := sv_s e3 (by omega)
      rw [e4]
      omega
    · have h0 : 97 ≤ t s ∧ t s ≤ 122 := h 0 (by omega)
      have h1 : 97 ≤ t (s + 1) ∧ t (s + 1) ≤ 122 := h 1 (by omega)
      have h2 : 97 ≤ t (s + 2) ∧ t (s + 2) ≤ 122 := h 2 (by omega)
      have h3 : 97 ≤ t (s + 3) ∧ t (s + 3) ≤ 122 := h 3 (by omega)
      have h4 : 97 ≤ t (s + 4) ∧ t (s + 4) ≤ 122 := h 4 (by omega)
      have e1 : sv t s 1 = 27 * (0) + t s - 96 := sv_s e0 (by omega)
      have e2 : sv t s 2 = 27 * (27 * (0) + t s - 96) + t (s + 1) - 96 := sv_s e1 (by omega)
      have e3 : sv t s 3 = 27 * (27 * (27 * (0) + t s - 96) + t (s + 1) - 96) + t (s + 2) - 96 := sv_s e2 (by omega)
      have e4 : sv t s 4 = 27 * (27 * (27 * (27 * (0) + t s - 96) + t (s + 1) - 96) + t (s + 2) - 96) + t (s + 3) - 96 := sv_s e3 (by omega)
      have e5 : sv t s 5 = 27 * (27 * (27 * (27 * (27 * (0) + t s - 96) + t (s + 1) - 96) + t (s + 2) - 96) + t (s + 3) - 96) + t (s + 4) - 96 := sv_s e4 (by omega)
      rw [e5]
      omega
    · have h0 : 97 ≤ t s ∧ t s ≤ 122 := h 0 (by omega)
      have h1 : 97 ≤ t (s + 1) ∧ t (s + 1) ≤ 122 := h 1 (by omega)
      have h2 : 97 ≤ t (s + 2) ∧ t (s + 2) ≤ 122 := h 2 (by omega)
      have h3 : 97 ≤ t (s + 3) ∧ t (s + 3) ≤ 122 := h 3 (by omega)
      have h4 : 97 ≤ t (s + 4) ∧ t (s + 4) ≤ 122 := h 4 (by omega)
      have h5 : 97 ≤ t (s + 5) ∧ t (s + 5) ≤ 122 := h 5 (by omega)
      have e1 : sv t s 1 = 27 * (0) + t s - 96 := sv_s e0 (by omega)
      have e2 : sv t s 2 = 27 * (27 * (0) + t s - 96) + t (s + 1) - 96 := sv_s e1 (by omega)
      have e3 : sv t s 3 = 27 * (27 * (27 * (0) + t s - 96) + t (s + 1) - 96) + t (s + 2) - 96 := sv_s e2 (by omega)
      have e4 : sv t s 4 = 27 * (27 * (27 * (27 * (0) + t s - 96) + t (s + 1) - 96) + t (s + 2) - 96) + t (s + 3) - 96 := sv_s e3 (by omega)
      have e5 : sv t s 5 = 27 * (27 * (27 * (27 * (27 * (0) + t s - 96) + t (s + 1) - 96) + t (s + 2) - 96) + t (s + 3) - 96) + t (s + 4) - 96 := sv_s e4 (by omega)
      have e6 : sv t s 6 = 27 * (27 * (27 * (27 * (27 * (27 * (0) + t s - 96) + t (s + 1) - 96) + t (s + 2) - 96) + t (s + 3) - 96) + t (s + 4) - 96) + t (s + 5) - 96 := sv_s e5 (by omega)
      rw [e6]
      omega
def cO (v : Nat) : Int32 := if v = 257105 then 0 else if v = 148755 then 1 else if v = 335207579 then 2 else if v = 8996 then 3 else if v = 4149 then 4 else if v = 10413149 then 5 else if v = 8864618 then 6 else -1
theorem cO_kd {t : Nat → Nat} {s e : Nat} (h : ∀ j, j < e - s → 97 ≤ t (s + j) ∧ t (s + j) ≤ 122) : cO (sv t s (e - s)) = kI (kd t s e) := by
  unfold cO kd
  simp only [w_iff_0 h, w_iff_1 h, w_iff_2 h, w_iff_3 h, w_iff_4 h, w_iff_5 h, w_iff_6 h, kdf]
  repeat' split
  all_goals rfl
