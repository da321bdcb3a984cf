/-! ===== lists of sets: class by the rows, reference by a scan ===== -/
def fr (M : Ma) (s : Nat) : List Nat := (List.range' s (64 - s)).filter (pS M)
theorem fr_0 (M : Ma) : fr M 0 = fl M 64 := by unfold fr fl; rw [List.range_eq_range']
theorem fr_64 (M : Ma) : fr M 64 = [] := rfl
theorem fr_s {M : Ma} {s : Nat} (hs : s < 64) : fr M s = if pS M s then s :: fr M (s + 1) else fr M (s + 1) := by
  unfold fr
  obtain ⟨k, hk⟩ : ∃ k, 64 - s = k + 1 := ⟨63 - s, by omega⟩
  have : 64 - (s + 1) = k := by omega
  rw [this, hk, List.range'_succ]
  cases e : pS M s with
  | true => rw [List.filter_cons_of_pos e]; rfl
  | false => rw [List.filter_cons_of_neg (by rw [e]; decide)]; rfl
theorem Rel_QN {h h' : Hp} {r : Rs} (R : Rel h r) (F : Fr QN h h') : Rel h' r := by
  refine Rel_Sm R (Fr_Sh F R.1) rfl rfl (fun a k e => F.1 a k ?_)
  unfold rc at e
  unfold QN
  simp only [Bool.or_eq_true, Bool.and_eq_true, decide_eq_true_eq, beq_iff_eq] at e
  simp only [Bool.or_eq_false_iff, Bool.and_eq_false_iff, decide_eq_false_iff_not]
  omega
section SC
variable {f b s : Nat} {r : Rs} {h : Hp} {M : Ma}
theorem scan (J : JM h r b M) (hs : s < 64) (hf : 30 ≤ f) : ∃ h', Fr QN h h' ∧ (pS M s = true → MBs h' M s (aN M)) ∧ ∀ {β : Type} (A Y : Hp → Option β), (bi (f_X6_bits f (nI s) h) fun v2 h1 => (q_gi h1 58 6 5).bind fun v3 => if ¬ v2 = v3 then A h1 else q_on h1 58 6 (bi (f_X6_mayLie f 58 (nI b) (nI s) h1) fun v6 h5 => if v6 = 0 then A h5 else Y h5)) = if pS M s = true then Y h' else A h' := by
  have O := J.2.2.2.2.2.2.2.2.2.2
  have p9 := pcn_le s
  have eb : f_X6_bits f (nI s) h = some (nI (pcn s), h) := by rw [e_bits (by omega), (pc_all s (by omega)).1]
  by_cases cp : pcn s = aL M
  · obtain ⟨h1, F1, B1, e1⟩ := e_mayLieM (f := f) J hs (by have := O.2.1; omega) hf
    refine ⟨h1, F1, fun _ => B1, fun A Y => ?_⟩
    have ep : pS M s = mM M s := by unfold pS; rw [cp]; simp
    rw [eb, bi_mk, gi_k (S_58 J.1), Option.bind_some, J.2.2.2.2.1, if_neg (fun n9 => n9 (by rw [cp])), on_k (S_58 J.1), e1, bi_mk, ep]
    cases mM M s <;> rfl
  · have ep : pS M s = false := by unfold pS; simp [cp]
    refine ⟨h, Fr_rf _ _, (fun q => by rw [ep] at q; cases q), fun A Y => ?_⟩
    rw [eb, bi_mk, gi_k (S_58 J.1), Option.bind_some, J.2.2.2.2.1, if_pos (fun e => cp ((nI_eq (by omega) (by have := O.2.1; omega)).mp e)), ep]
    rfl
/-! the class's rows -/
theorem CL_at {L : List Nat} {i : Nat} (hi : i < L.length) : ∃ s, L[i]? = some s ∧ L.drop i = s :: L.drop (i + 1) := ⟨L[i], List.getElem?_eq_getElem hi, List.drop_eq_getElem_cons hi⟩
theorem fl64 {M : Ma} {i s : Nat} (e : (fl M 64)[i]? = some s) : s < 64 ∧ pS M s = true := fl_mem (List.mem_of_getElem? e)
def fAll (x : Int32) (L : List Nat) : Int32 := L.foldl (fun a s => a &&& nI s) x
def fNon (x : Int32) (L : List Nat) : Int32 := L.foldl (fun a s => a &&& (nI s ^^^ (-1))) x
theorem all_go (H : Sh h r) (C : CL h M 64) (h15 : (fl M 64).length ≤ 15) : ∀ (d i : Nat) (x : Int32), i ≤ (fl M 64).length → (fl M 64).length < i + d → l_X1_inAll_5 f d 38 x (nI i) h = some (fAll x ((fl M 64).drop i), h) := by
  intro d
  induction d with
  | zero => intro i x h1 h2; omega
  | succ d ih =>
    intro i x hi hid
    show b_X1_inAll_5 f (l_X1_inAll_5 f d) 38 x (nI i) h = _
    unfold b_X1_inAll_5 lt
    rw [gi_k (S_38 H), Option.bind_some, C.1]
    by_cases c : i = (fl M 64).length
    · rw [c, if_pos ((nI_leI (by omega) (by omega)).mpr (Nat.le_refl _)), List.drop_length]; rfl
    · obtain ⟨s, e1, e2⟩ := CL_at (show i < (fl M 64).length by omega)
      rw [if_neg (fun e => by have := (nI_leI (a := (fl M 64).length) (b := i) (by omega) (by omega)).mp e; omega), gr_k (S_38 H) (R_38_7 H), Option.bind_some, ai_nI (S_46 H) (by omega) (by decide), Option.bind_some, (C.2 i s e1).1, nI_p1, e2]
      exact ih (i + 1) _ (by omega) (by omega)
theorem non_go (H : Sh h r) (C : CL h M 64) (h15 : (fl M 64).length ≤ 15) : ∀ (d i : Nat) (x : Int32), i ≤ (fl M 64).length → (fl M 64).length < i + d → l_X1_inNone_5 f d 38 x (nI i) h = some (fNon x ((fl M 64).drop i), h) := by
  intro d
  induction d with
  | zero => intro i x h1 h2; omega
  | succ d ih =>
    intro i x hi hid
    show b_X1_inNone_5 f (l_X1_inNone_5 f d) 38 x (nI i) h = _
    unfold b_X1_inNone_5 lt
    rw [gi_k (S_38 H), Option.bind_some, C.1]
    by_cases c : i = (fl M 64).length
    · rw [c, if_pos ((nI_leI (by omega) (by omega)).mpr (Nat.le_refl _)), List.drop_length]; rfl
    · obtain ⟨s, e1, e2⟩ := CL_at (show i < (fl M 64).length by omega)
      rw [if_neg (fun e => by have := (nI_leI (a := (fl M 64).length) (b := i) (by omega) (by omega)).mp e; omega), gr_k (S_38 H) (R_38_7 H), Option.bind_some, ai_nI (S_46 H) (by omega) (by decide), Option.bind_some, (C.2 i s e1).1, nI_p1, e2]
      exact ih (i + 1) _ (by omega) (by omega)
/-- where a set stands, or -1 -/
def ixV (n : Nat) (s : Nat) : List Nat → Int32
  | [] => -1
  | t :: L => if t = s then nI n else ixV (n + 1) s L
theorem idx_go {t : Nat} (H : Sh h r) (C : CL h M 64) (h15 : (fl M 64).length ≤ 15) (ht : t < 64) : ∀ (d i : Nat), i ≤ (fl M 64).length → (fl M 64).length < i + d → l_X1_indexOf_2 f d 38 (nI t) (nI i) h = some (ixV i t ((fl M 64).drop i), h) := by
  intro d
  induction d with
  | zero => intro i h1 h2; omega
  | succ d ih =>
    intro i hi hid
    show b_X1_indexOf_2 f (l_X1_indexOf_2 f d) 38 (nI t) (nI i) h = _
    unfold b_X1_indexOf_2 lt
    rw [gi_k (S_38 H), Option.bind_some, C.1]
    by_cases c : i = (fl M 64).length
    · rw [c, if_pos ((nI_leI (by omega) (by omega)).mpr (Nat.le_refl _)), List.drop_length]; rfl
    · obtain ⟨s, e1, e2⟩ := CL_at (show i < (fl M 64).length by omega)
      have s64 := (fl64 e1).1
      rw [if_neg (fun e => by have := (nI_leI (a := (fl M 64).length) (b := i) (by omega) (by omega)).mp e; omega), gr_k (S_38 H) (R_38_7 H), Option.bind_some, ai_nI (S_46 H) (by omega) (by decide), Option.bind_some, (C.2 i s e1).1, nI_p1, e2]
      unfold ixV
      by_cases c2 : s = t
      · rw [if_neg (fun n9 => n9 (by rw [c2])), if_pos c2]
      · rw [if_pos (fun e => c2 ((nI_eq (by omega) (by omega)).mp e)), if_neg c2]
        exact ih (i + 1) (by omega) (by omega)
theorem ixV_n {s : Nat} : ∀ (L : List Nat) (n : Nat), s ∉ L → ixV n s L = -1
  | [], _, _ => rfl
  | t :: L, n, h => by
    unfold ixV
    rw [if_neg (fun e => h (by rw [e]; exact List.mem_cons_self)), ixV_n L (n + 1) (fun q => h (List.mem_cons_of_mem _ q))]
theorem ixV_y {s : Nat} : ∀ (L : List Nat) (n : Nat), s ∈ L → ∃ i, i < L.length ∧ L[i]? = some s ∧ ixV n s L = nI (n + i)
  | [], _, h => by cases h
  | t :: L, n, h => by
    unfold ixV
    by_cases c : t = s
    · exact ⟨0, by simp, by rw [c]; rfl, by rw [if_pos c]; rfl⟩
    · obtain ⟨i, h1, h2, h3⟩ := ixV_y L (n + 1) (by rcases List.mem_cons.mp h with q | q; exact absurd q.symm c; exact q)
      exact ⟨i + 1, by simpa using h1, by simpa using h2, by rw [if_neg c, h3]; congr 1; omega⟩
/-- of how many sets a saying is so -/
def hcV (m x : Int32) (L : List Nat) : Nat := L.countP (fun s => decide (b2 (hb (nI s) m) = x))
theorem hcV_c (m x : Int32) (s : Nat) (L : List Nat) : hcV m x (s :: L) = hcV m x L + (if b2 (hb (nI s) m) = x then 1 else 0) := by
  unfold hcV; rw [List.countP_cons]; simp
theorem hun_go {m x : Int32} (H : Sh h r) (C : CL h M 64) (h15 : (fl M 64).length ≤ 15) (h0 : 0 < (fl M 64).length) : ∀ (d i n : Nat), i ≤ (fl M 64).length → (fl M 64).length < i + d → l_X1_ofHundred_14 f d 38 m x (nI n) (nI i) h = some ((100 * nI (n + hcV m x ((fl M 64).drop i))) / nI (fl M 64).length, h) := by
  intro d
  induction d with
  | zero => intro i n h1 h2; omega
  | succ d ih =>
    intro i n hi hid
    show b_X1_ofHundred_14 f (l_X1_ofHundred_14 f d) 38 m x (nI n) (nI i) h = _
    unfold b_X1_ofHundred_14 b_X1_ofHundred_41 lt
    rw [gi_k (S_38 H), Option.bind_some, C.1]
    by_cases c : i = (fl M 64).length
    · have n0 : ¬ nI (fl M 64).length = 0 := fun e => by have := (nI_eq (a := (fl M 64).length) (b := 0) (by omega) (by omega)).mp e; omega
      rw [c, if_pos ((nI_leI (by omega) (by omega)).mpr (Nat.le_refl _)), Option.bind_some, q_nz, if_neg n0, List.drop_length]; rfl
    · obtain ⟨s, e1, e2⟩ := CL_at (show i < (fl M 64).length by omega)
      rw [if_neg (fun e => by have := (nI_leI (a := (fl M 64).length) (b := i) (by omega) (by omega)).mp e; omega), gr_k (S_38 H) (R_38_7 H), Option.bind_some, ai_nI (S_46 H) (by omega) (by decide), Option.bind_some, (C.2 i s e1).1, e_isIn, bi_mk, nI_p1, nI_p1, e2, hcV_c]
      by_cases c2 : b2 (hb (nI s) m) = x
      · rw [if_neg (fun n9 => n9 c2), if_pos c2]
        refine Eq.trans (ih (i + 1) (n + 1) (by omega) (by omega)) ?_
        rw [show n + 1 + hcV m x ((fl M 64).drop (i + 1)) = n + (hcV m x ((fl M 64).drop (i + 1)) + 1) by omega]
      · rw [if_pos c2, if_neg c2]
        exact ih (i + 1) n (by omega) (by omega)
end SC
/-! what the reference's may answers -/
def mV (x : Int32) (n : Nat) : List Nat → Int32
  | [] => -1
  | s :: L => if nI n = x then nI s else mV x (n + 1) L
theorem mV_neg {x : Int32} (hx : x < 0) : ∀ (L : List Nat) (n : Nat), n + L.length < 2 ^ 31 → mV x n L = -1
  | [], _, _ => rfl
  | s :: L, n, hn => by
    unfold mV
    have : n + (L.length + 1) < 2 ^ 31 := by simpa using hn
    have ne : ¬ nI n = x := fun e => nI_ge0 (n := n) (by omega) (by rw [e]; exact hx)
    rw [if_neg ne, mV_neg hx L (n + 1) (by omega)]
theorem mV_get : ∀ (L : List Nat) (n i : Nat), n + L.length < 2 ^ 31 → n + i < 2 ^ 31 → mV (nI (n + i)) n L = (match L[i]? with | some s => nI s | none => -1)
  | [], _, _, _, _ => by simp [mV]
  | s :: L, n, 0, hn, hi => by unfold mV; rw [Nat.add_zero, if_pos rfl]; rfl
  | s :: L, n, i + 1, hn, hi => by
    have hl : n + (L.length + 1) < 2 ^ 31 := by simpa using hn
    unfold mV
    rw [if_neg (fun e => by have := (nI_eq (a := n) (b := n + (i + 1)) (by omega) (by omega)).mp e; omega), show n + (i + 1) = n + 1 + i by omega, mV_get L (n + 1) i (by omega) (by omega)]
    simp
section ST
variable {f b : Nat} {r : Rs} {M : Ma}
theorem may_go {h0 : Hp} {x : Int32} (J0 : JM h0 r b M) (hf : 30 ≤ f) : ∀ (d s n : Nat) (h : Hp), s ≤ 64 → 64 < s + d → Fr QN h0 h → ∃ h', Fr QN h0 h' ∧ l_X6_may_27 f d 58 (nI b) x (nI n) (nI s) h = some (mV x n (fr M s), h') := by
  intro d
  induction d with
  | zero => intro s n h h1 h2; omega
  | succ d ih =>
    intro s n h hs hsd F
    have J := JM_Fr F J0
    show ∃ h', _ ∧ b_X6_may_27 f (l_X6_may_27 f d) 58 (nI b) x (nI n) (nI s) h = _
    unfold b_X6_may_27 b_X6_may_67 lt
    by_cases c : s = 64
    · subst c
      exact ⟨h, F, by rw [if_pos (by decide), fr_64]; rfl⟩
    · have hs6 : s < 64 := by omega
      rw [if_neg (fun e => by have := (nI_leI (a := 64) (b := s) (by omega) (by omega)).mp e; omega), nI_p1, nI_p1]
      obtain ⟨h1, F1, -, e1⟩ := scan (f := f) J hs6 hf
      rw [e1, fr_s hs6]
      cases ep : pS M s with
      | false =>
        obtain ⟨h', F', e'⟩ := ih (s + 1) n h1 (by omega) (by omega) (Fr_tr F F1)
        exact ⟨h', F', by rw [if_neg (by decide), if_neg (by decide)]; exact e'⟩
      | true =>
        rw [if_pos rfl, if_pos rfl]
        unfold mV
        by_cases c2 : nI n = x
        · exact ⟨h1, Fr_tr F F1, by rw [if_neg (fun n9 => n9 c2), if_pos c2]⟩
        · obtain ⟨h', F', e'⟩ := ih (s + 1) (n + 1) h1 (by omega) (by omega) (Fr_tr F F1)
          exact ⟨h', F', by rw [if_pos c2, if_neg c2]; exact e'⟩
end ST
/-- behind weigh, for the steps -/
theorem weighed {f b : Nat} {h : Hp} {r : Rs} (R : Rel h r) (hb6 : b < 6) (hf : 100 ≤ f) : ∃ h', f_X1_weigh f 38 r.1 17 (nI b) h = some h' ∧ WF h h' ∧ Rel h' (rW r) ∧ JM h' (rW r) b (mo h' b) ∧ CL h' (mo h' b) 64 ∧ (fl (mo h' b) 64).length ≤ 15 := by
  obtain ⟨h', M, e, W, R', J, E, C, G⟩ := e_weigh R hb6 hf
  exact ⟨h', e, W, R', JM_of R'.1 hb6 G, CL_cong E G.2.2.2.2.2.2.2 C, fl_15 G.2.2.2.2.2.2.2.2.1 (Nat.le_refl 64)⟩
theorem st_may {f : Nat} (hf : 100 ≤ f) (a x : Int32) : StpR (f_X5_may f 0 a x) (f_X6_may f 58 a x) := by
  intro h r R
  have H := R.1
  unfold f_X5_may f_X6_may
  simp only [e_bandC, e_bandM, bi_mk, b2_ne]
  cases ea : mkB 6 a with
  | false => exact ⟨_, h, h, r, rfl, by rw [S_58 H], rfl, R⟩
  | true =>
    obtain ⟨b, hb6, rfl⟩ := mkB_t (by decide) ea
    obtain ⟨h', e, W, R', J, C, h15⟩ := weighed (f := f) R hb6 hf
    have H' := R'.1
    rw [if_pos rfl, gr_k (S_0 H) (R_0_10 H), Option.bind_some, gr_k (S_0 H) (R_0_3 H), Option.bind_some, gr_k (S_0 H) (R_0_6 H), Option.bind_some, on_k (S_38 H), e, Option.bind_some]
    by_cases c1 : x = -1
    · obtain ⟨h2, F2, e2⟩ := e_mayMany (f := f) J hf
      refine ⟨nI (fl (mo h' b) 64).length, h', h2, rW r, ?_, by rw [S_58 H'], ?_, Rel_QN R' F2⟩
      · rw [if_neg (fun n9 => n9 c1), gr_k (S_0 H') (R_0_10 H'), Option.bind_some, gi_k (S_38 H'), Option.bind_some, C.1]
      · rw [if_pos rfl, if_neg (fun n9 => n9 c1), on_k (S_58 H'), e2, bi_mk]
    · obtain ⟨h2, F2, e2⟩ := may_go (f := f) (x := x) J (by omega) f 0 0 h' (by omega) (by omega) (Fr_rf _ _)
      rw [fr_0] at e2
      refine ⟨mV x 0 (fl (mo h' b) 64), h', h2, rW r, ?_, by rw [S_58 H'], ?_, Rel_QN R' F2⟩
      · rw [if_pos c1]
        unfold b_X5_may_54 b_X5_may_67
        by_cases c2 : x < 0
        · rw [if_pos c2, mV_neg c2 _ 0 (by omega)]
        · obtain ⟨i, hi, rfl⟩ := nI_of c2
          rw [if_neg c2, gr_k (S_0 H') (R_0_10 H'), Option.bind_some, gi_k (S_38 H'), Option.bind_some, C.1]
          have q := mV_get (fl (mo h' b) 64) 0 i (by omega) (by omega)
          rw [Nat.zero_add] at q
          rw [q]
          by_cases c3 : i < (fl (mo h' b) 64).length
          · obtain ⟨s, e1, -⟩ := CL_at c3
            rw [if_pos ((nI_ltI (by omega) (by omega)).mpr c3), Option.bind_some, gr_k (S_38 H') (R_38_7 H'), Option.bind_some, ai_nI (S_46 H') (by omega) (by decide), Option.bind_some, (C.2 i s e1).1, e1]
          · rw [if_neg (fun e => c3 ((nI_ltI (by omega) (by omega)).mp e)), List.getElem?_eq_none (by omega)]
      · rw [if_pos rfl, if_pos c1]; exact e2
