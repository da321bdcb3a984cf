/-! ===== reference: places ===== -/
def sumN (g : Nat → Nat) : Nat → Nat
  | 0 => 0
  | n + 1 => sumN g n + g n
theorem sumN_cong {g g' : Nat → Nat} : ∀ {n : Nat}, (∀ k, k < n → g k = g' k) → sumN g n = sumN g' n
  | 0, _ => rfl
  | n + 1, e => by unfold sumN; rw [sumN_cong (fun k hk => e k (by omega)), e n (by omega)]
theorem sumN_upd {g : Nat → Nat} {i : Nat} : ∀ {n : Nat}, i < n → sumN (fun k => if k = i then g k + 1 else g k) n = sumN g n + 1
  | 0, h => by omega
  | n + 1, h => by
    unfold sumN
    by_cases e : i = n
    · subst e
      rw [sumN_cong (g' := g) (fun k hk => by rw [if_neg (by omega)]), if_pos rfl]; omega
    · rw [sumN_upd (g := g) (i := i) (n := n) (by omega), if_neg (by omega)]; omega
/-- the rows of the places -/
def PR (h : Hp) (ps : List Pt) (g : Nat → Nat) : Prop := zI h 58 44 = nI ps.length ∧ ∀ k p, ps[k]? = some p → zI h 78 k = p.1 ∧ zI h 79 k = p.2 ∧ zI h 80 k = nI (g k)
def QL (a j : Nat) : Bool := (decide (78 ≤ a) && decide (a ≤ 80)) || (decide (a = 58) && decide (j = 44))
theorem QL_QN : ∀ a j, QN a j = false → QL a j = false := fun a j e => by
  unfold QN at e; unfold QL
  simp only [Bool.or_eq_false_iff, Bool.and_eq_false_iff, decide_eq_false_iff_not] at e ⊢
  omega
section P2
variable {f : Nat} {r : Rs} {h : Hp} {M : Ma}
theorem ap_go {ps : List Pt} {g : Nat → Nat} {x y : Int32} (H : Sh h r) (P : PR h ps g) (l15 : ps.length ≤ 15) (l14 : (x, y) ∉ ps → ps.length ≤ 14) : ∀ (d k : Nat), k ≤ ps.length → ps.length < k + d → (∀ j, j < k → ps[j]? ≠ some (x, y)) → ∃ h', Fr QL h h' ∧ l_X6_addPlace_2 f d 58 x y (nI k) h = some h' ∧ ((∃ k, ps[k]? = some (x, y) ∧ PR h' ps (fun i => if i = k then g i + 1 else g i)) ∨ ((x, y) ∉ ps ∧ PR h' (ps ++ [(x, y)]) (fun i => if i = ps.length then 1 else g i))) := by
  intro d
  induction d with
  | zero => intro k h1 h2; omega
  | succ d ih =>
    intro k hk hkd hal
    show ∃ h', _ ∧ b_X6_addPlace_2 f (l_X6_addPlace_2 f d) 58 x y (nI k) h = _ ∧ _
    unfold b_X6_addPlace_2 b_X6_addPlace_30 b_X6_addPlace_36 b_X6_addPlace_75 lt
    rw [gi_k (S_58 H), Option.bind_some, P.1]
    by_cases c : k = ps.length
    · have nin : (x, y) ∉ ps := fun hm => by
        obtain ⟨i, hi, e⟩ := List.mem_iff_getElem.mp hm
        exact hal i (by omega) (by rw [List.getElem?_eq_getElem hi, e])
      have k15 : k < 15 := by have := l14 nin; omega
      have H1 : ∀ v1, Sh (sI h 78 k v1) r := fun _ => H
      have H2 : ∀ v1 v2, Sh (sI (sI h 78 k v1) 79 k v2) r := fun _ _ => H
      have H3 : ∀ v1 v2 v3, Sh (sI (sI (sI h 78 k v1) 79 k v2) 80 k v3) r := fun _ _ _ => H
      have H4 : ∀ v1 v2 v3 v4, Sh (sI (sI (sI (sI h 78 k v1) 79 k v2) 80 k v3) 58 44 v4) r := fun _ _ _ _ => H
      refine ⟨sI (sI (sI (sI (sI h 78 k x) 79 k y) 80 k 0) 58 44 (nI (k + 1))) 80 k 1, Fr_then (Fr_then (Fr_then (Fr_then (Fr_sI rfl) rfl) rfl) rfl) rfl, ?_, Or.inr ⟨nin, ?_⟩⟩
      · rw [if_pos ((nI_leI (by omega) (by omega)).mpr (by omega)), Option.bind_some, if_neg (fun n9 => n9 (by rw [c])), gr_k (S_58 H) (R_58_46 H), Option.bind_some, as_nI (S_78 H) k15 (by decide), Option.bind_some, gr_k (S_58 (H1 _)) (R_58_47 (H1 _)), Option.bind_some, as_nI (S_79 (H1 _)) k15 (by decide), Option.bind_some, gr_k (S_58 (H2 _ _)) (R_58_48 (H2 _ _)), Option.bind_some, as_nI (S_80 (H2 _ _)) k15 (by decide), Option.bind_some, gi_k (S_58 (H3 _ _ _)), Option.bind_some, zI_row (by decide), zI_row (by decide), zI_row (by decide), P.1, ← c, nI_p1, pi_k (S_58 (H3 _ _ _)), Option.bind_some, gr_k (S_58 (H4 _ _ _ _)) (R_58_48 (H4 _ _ _ _)), Option.bind_some, ai_nI (S_80 (H4 _ _ _ _)) k15 (by decide), Option.bind_some, as_nI (S_80 (H4 _ _ _ _)) k15 (by decide), Option.bind_some]
        have : zI (sI (sI (sI (sI h 78 k x) 79 k y) 80 k 0) 58 44 (nI (k + 1))) 80 k + 1 = 1 := by
          rw [zI_row (by decide), zI_sI, if_pos ⟨rfl, rfl⟩]; rfl
        rw [this]
      · refine ⟨?_, fun i p hp => ?_⟩
        · rw [zI_row (by decide), zI_sI, if_pos ⟨rfl, rfl⟩, c, List.length_append]; rfl
        · rw [List.getElem?_append] at hp
          dsimp only
          by_cases ci : i < ps.length
          · rw [if_pos ci] at hp
            obtain ⟨q1, q2, q3⟩ := P.2 i p hp
            rw [if_neg (by omega)]
            refine ⟨?_, ?_, ?_⟩
            · rw [zI_row (by decide), zI_row (by decide), zI_row (by decide), zI_row (by decide), zI_sI, if_neg (by omega)]; exact q1
            · rw [zI_row (by decide), zI_row (by decide), zI_row (by decide), zI_sI, if_neg (by omega), zI_row (by decide)]; exact q2
            · rw [zI_sI, if_neg (by omega), zI_row (by decide), zI_sI, if_neg (by omega), zI_row (by decide), zI_row (by decide)]; exact q3
          · rw [if_neg ci] at hp
            have ei : i - ps.length = 0 := by
              rcases Nat.eq_zero_or_pos (i - ps.length) with q | q
              · exact q
              · obtain ⟨t, ht⟩ : ∃ t, i - ps.length = t + 1 := ⟨i - ps.length - 1, by omega⟩
                rw [ht] at hp; simp at hp
            rw [ei] at hp
            have ep : (x, y) = p := by simpa using hp
            have ik : i = k := by omega
            subst ep
            rw [ik, if_pos c]
            refine ⟨?_, ?_, ?_⟩
            · rw [zI_row (by decide), zI_row (by decide), zI_row (by decide), zI_row (by decide), zI_sI, if_pos ⟨rfl, rfl⟩]
            · rw [zI_row (by decide), zI_row (by decide), zI_row (by decide), zI_sI, if_pos ⟨rfl, rfl⟩]
            · rw [zI_sI, if_pos ⟨rfl, rfl⟩]; rfl
    · have hk' : k < ps.length := by omega
      have k15 : k < 15 := by omega
      rw [if_neg (fun e => by have := (nI_leI (a := ps.length) (b := k) (by omega) (by omega)).mp e; omega), gr_k (S_58 H) (R_58_46 H), Option.bind_some, ai_nI (S_78 H) k15 (by decide), Option.bind_some]
      obtain ⟨q1, q2, q3⟩ := P.2 k _ (List.getElem?_eq_getElem hk')
      rw [q1]
      have next : ps[k] ≠ (x, y) → ∃ h', Fr QL h h' ∧ l_X6_addPlace_2 f d 58 x y (nI (k + 1)) h = some h' ∧ ((∃ k, ps[k]? = some (x, y) ∧ PR h' ps (fun i => if i = k then g i + 1 else g i)) ∨ ((x, y) ∉ ps ∧ PR h' (ps ++ [(x, y)]) (fun i => if i = ps.length then 1 else g i))) := fun ne => ih (k + 1) (by omega) (by omega) (fun j hj => by
        by_cases e : j = k
        · rw [e, List.getElem?_eq_getElem hk']; intro q; injection q with q; exact ne q
        · exact hal j (by omega))
      simp only [nI_p1]
      by_cases c1 : (ps[k]).1 = x
      · rw [if_neg (fun n9 => n9 c1), gr_k (S_58 H) (R_58_47 H), Option.bind_some, ai_nI (S_79 H) k15 (by decide), Option.bind_some, q2]
        by_cases c2 : (ps[k]).2 = y
        · have ep : ps[k] = (x, y) := Prod.ext c1 c2
          refine ⟨sI h 80 k (nI (g k + 1)), Fr_sI rfl, ?_, Or.inl ⟨k, by rw [List.getElem?_eq_getElem hk', ep], ?_⟩⟩
          · rw [if_pos c2, Option.bind_some, if_pos (fun e => c ((nI_eq (by omega) (by omega)).mp e)), gr_k (S_58 H) (R_58_48 H), Option.bind_some, ai_nI (S_80 H) k15 (by decide), Option.bind_some, q3, nI_p1, as_nI (S_80 H) k15 (by decide), Option.bind_some]
          · refine ⟨by rw [zI_row (by decide)]; exact P.1, fun i p hp => ?_⟩
            obtain ⟨r1, r2, r3⟩ := P.2 i p hp
            refine ⟨by rw [zI_row (by decide)]; exact r1, by rw [zI_row (by decide)]; exact r2, ?_⟩
            dsimp only
            by_cases e : i = k
            · rw [zI_sI, if_pos ⟨rfl, e⟩, if_pos e, e]
            · rw [zI_sI, if_neg (fun q => e q.2), if_neg e]; exact r3
        · rw [if_neg c2]
          exact next (fun e => c2 (by rw [e]))
      · rw [if_pos c1]
        exact next (fun e => c1 (by rw [e]))
def PI (h : Hp) (M : Ma) (n : Nat) : Prop := zI h 58 45 = nI n ∧ ∃ ps g, PR h ps g ∧ ps.length = ds M n ∧ (∀ k p, ps[k]? = some p → g k = ct M n p) ∧ (∀ p, p ∈ ps ↔ ∃ j, j < n ∧ pl M j = some p) ∧ ps.Nodup ∧ sumN g ps.length = np M n
theorem ct_s (M : Ma) (n : Nat) (p : Pt) : ct M (n + 1) p = ct M n p + (if pl M n = some p then 1 else 0) := by
  unfold ct; rw [fb_ct_succ]; simp
theorem np_s (M : Ma) (n : Nat) : np M (n + 1) = np M n + (if (pl M n).isSome then 1 else 0) := by unfold np; rw [fb_ct_succ]
theorem ds_s (M : Ma) (n : Nat) : ds M (n + 1) = ds M n + (if nw M n then 1 else 0) := by unfold ds; rw [fb_ct_succ]
theorem fl_fr (M : Ma) : ∀ (d s : Nat), s + d = 64 → fl M s ++ fr M s = fl M 64
  | 0, s, h => by
    have : s = 64 := by omega
    subst this; rw [fr_64, List.append_nil]
  | d + 1, s, h => by
    rw [← fl_fr M d (s + 1) (by omega), fr_s (by omega)]
    cases q : pS M s with
    | true => rw [fl_y q, List.append_assoc]; rfl
    | false => rw [fl_n q]; rfl
theorem fl_at {M : Ma} {s : Nat} (hs : s < 64) (q : pS M s = true) : (fl M 64).getD (fl M s).length 0 = s ∧ (fl M s).length < ln M := by
  have e := fl_fr M (64 - s) s (by omega)
  rw [fr_s hs, if_pos q] at e
  unfold ln
  rw [← e]
  refine ⟨?_, by simp⟩
  rw [List.getD_eq_getElem?_getD, List.getElem?_append, if_neg (by omega), Nat.sub_self]
  rfl
theorem pl_at {s : Nat} (hs : s < 64) (q : pS M s = true) : pl M (fl M s).length = plc M s := by
  unfold pl; rw [(fl_at hs q).1]
theorem PI_n {h h' : Hp} {n : Nat} (P : PI h M n) (e45 : zI h' 58 45 = nI (n + 1)) (e44 : zI h' 58 44 = zI h 58 44) (e78 : zI h' 78 = zI h 78) (e79 : zI h' 79 = zI h 79) (e80 : zI h' 80 = zI h 80) (q : pl M n = none) : PI h' M (n + 1) := by
  obtain ⟨-, ps, g, p1, p2, p3, p4, p5, p6⟩ := P
  have nn : nw M n = false := by unfold nw; rw [q]; rfl
  refine ⟨e45, ps, g, ?_, ?_, ?_, ?_, p5, ?_⟩
  · unfold PR; rw [e44, e78, e79, e80]; exact p1
  · rw [ds_s, nn]; exact p2
  · intro k p hp
    rw [ct_s, q, if_neg (by simp), Nat.add_zero]; exact p3 k p hp
  · intro p
    rw [p4]
    constructor
    · rintro ⟨j, hj, ej⟩; exact ⟨j, by omega, ej⟩
    · rintro ⟨j, hj, ej⟩
      refine ⟨j, ?_, ej⟩
      by_cases e : j = n
      · rw [e, q] at ej; cases ej
      · omega
  · rw [np_s, q]; exact p6
theorem PI_s' {h : Hp} {n : Nat} {x y : Int32} (H : Sh h r) (hn : n < 15) (hf : 30 ≤ f) (P : ∃ ps g, PR h ps g ∧ ps.length = ds M n ∧ (∀ k p, ps[k]? = some p → g k = ct M n p) ∧ (∀ p, p ∈ ps ↔ ∃ j, j < n ∧ pl M j = some p) ∧ ps.Nodup ∧ sumN g ps.length = np M n) (q : pl M n = some (x, y)) : ∃ h', Fr QL h h' ∧ f_X6_addPlace f 58 x y h = some h' ∧ ∀ h'', zI h'' 58 45 = nI (n + 1) → zI h'' 58 44 = zI h' 58 44 → zI h'' 78 = zI h' 78 → zI h'' 79 = zI h' 79 → zI h'' 80 = zI h' 80 → PI h'' M (n + 1) := by
  obtain ⟨ps, g, p1, p2, p3, p4, p5, p6⟩ := P
  have dl : ds M n ≤ n := fb_ct_le _ _
  obtain ⟨h', F, e, R⟩ := ap_go (f := f) (x := x) (y := y) H p1 (by omega) (fun _ => by omega) f 0 (by omega) (by omega) (fun j hj => by omega)
  refine ⟨h', F, e, fun h'' e45 e44 e78 e79 e80 => ?_⟩
  have pr : ∀ ps g, PR h' ps g → PR h'' ps g := fun ps g p => by unfold PR; rw [e44, e78, e79, e80]; exact p
  have mem : ∀ p, (∃ j, j < n + 1 ∧ pl M j = some p) ↔ (p ∈ ps ∨ p = (x, y)) := fun p => by
    rw [p4]
    constructor
    · rintro ⟨j, hj, ej⟩
      by_cases e : j = n
      · rw [e, q] at ej; injection ej with ej; exact Or.inr ej.symm
      · exact Or.inl ⟨j, by omega, ej⟩
    · rintro (⟨j, hj, ej⟩ | e)
      · exact ⟨j, by omega, ej⟩
      · exact ⟨n, by omega, by rw [q, e]⟩
  have nwv : nw M n = true ↔ (x, y) ∉ ps := by
    unfold nw
    rw [q]
    rw [p4]
    constructor
    · intro a
      rintro ⟨j, hj, ej⟩
      have := allF_of a hj
      simp [ej] at this
    · intro a
      show allF _ n = true
      apply allF_t
      intro j hj
      rw [decide_eq_false (fun e => a ⟨j, hj, e⟩)]; rfl
  rcases R with ⟨k, hk, R⟩ | ⟨nin, R⟩
  · have inn : (x, y) ∈ ps := List.mem_of_getElem? hk
    have kl : k < ps.length := by
      rcases Nat.lt_or_ge k ps.length with h1 | h1
      · exact h1
      · rw [List.getElem?_eq_none h1] at hk; cases hk
    have nn : nw M n = false := by
      cases e : nw M n with
      | false => rfl
      | true => exact absurd inn (nwv.mp e)
    refine ⟨e45, ps, _, pr _ _ R, by rw [ds_s, nn]; exact p2, ?_, ?_, p5, ?_⟩
    · intro i p hp
      rw [ct_s, q]
      by_cases ei : i = k
      · subst ei
        rw [hk] at hp; injection hp with hp; subst hp
        rw [if_pos rfl, if_pos rfl, p3 i _ hk]
      · have ne : ¬ (some (x, y) = some p) := fun e => by
          injection e with e
          subst e
          exact ei ((List.getElem?_inj (by
            rcases Nat.lt_or_ge i ps.length with h1 | h1
            · exact h1
            · rw [List.getElem?_eq_none h1] at hp; cases hp) p5).mp (hp.trans hk.symm))
        rw [if_neg ei, if_neg ne]
        exact p3 i p hp
    · intro p
      rw [mem]
      constructor
      · exact Or.inl
      · rintro (h1 | h1)
        · exact h1
        · rw [h1]; exact inn
    · rw [np_s, q, sumN_upd kl, p6]; rfl
  · have nn : nw M n = true := nwv.mpr nin
    refine ⟨e45, ps ++ [(x, y)], _, pr _ _ R, by rw [ds_s, nn, List.length_append, p2]; rfl, ?_, ?_, ?_, ?_⟩
    · intro i p hp
      rw [ct_s, q]
      rw [List.getElem?_append] at hp
      by_cases ci : i < ps.length
      · rw [if_pos ci] at hp
        have ne : ¬ (some (x, y) = some p) := fun e => by
          injection e with e
          subst e
          exact nin (List.mem_of_getElem? hp)
        rw [if_neg (by omega), if_neg ne]
        exact p3 i p hp
      · rw [if_neg ci] at hp
        have ei : i - ps.length = 0 := by
          rcases Nat.eq_zero_or_pos (i - ps.length) with q | q
          · exact q
          · obtain ⟨t, ht⟩ : ∃ t, i - ps.length = t + 1 := ⟨i - ps.length - 1, by omega⟩
            rw [ht] at hp; simp at hp
        rw [ei] at hp
        have ep : (x, y) = p := by simpa using hp
        subst ep
        have z : ct M n (x, y) = 0 := by
          unfold ct
          rw [fb_ct_zero]
          intro j hj
          exact decide_eq_false (fun e => nin ((p4 _).mpr ⟨j, hj, e⟩))
        rw [if_pos (by omega), if_pos rfl, z]
    · intro p
      rw [mem, List.mem_append]
      simp
    · rw [List.nodup_append]
      refine ⟨p5, by simp, ?_⟩
      intro a ha b hb
      have : b = (x, y) := by simpa using hb
      rw [this]
      intro e
      rw [e] at ha
      exact nin ha
    · rw [np_s, q, List.length_append]
      show sumN _ ps.length + (if ps.length = ps.length then 1 else g ps.length) = _
      rw [if_pos rfl, sumN_cong (g' := g) (fun k hk => by rw [if_neg (by omega)]), p6]; rfl
end P2
