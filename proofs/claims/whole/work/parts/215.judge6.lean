/-! ===== class: mayLie is MAY LIE ===== -/
theorem us_none {w s : Int32} {K X Y : Nat → Int32} {k : Nat} (e : ∀ m, m < 6 → hb (K m) (nI k) = false) : ∀ m, m ≤ 6 → bxk w s K X Y k m = none
  | 0, _ => rfl
  | m + 1, hm => by
    rw [bxk_s, us, e m (by omega)]
    simp
    exact us_none e m (by omega)
theorem oneO_some {o : Option Bx} (e : oneO o = true) : ∃ B, o = some B := by
  cases o with
  | none => cases e
  | some B => exact ⟨B, rfl⟩
theorem e_mayLieC {f n s c ga gb gc : Nat} {r : Rs} {h : Hp} {w : Int32} (H : Sh h r) (jp : Jp r) (jq : Jq r) (hw : zI h r.2.2.2.1 7 = w) (hmk : zI h r.2.2.2.1 4 = nI n) (hn : n ≤ 9) (hs : s < 64) (h2 : pcn s ≤ 2) (hc : zI h 38 11 = nI c) (hc20 : c ≤ 20) (ea : zI h r.2.2.2.1 8 = nI ga) (eb : zI h r.2.2.2.1 9 = nI gb) (ec : zI h r.2.2.2.1 10 = nI gc) (ha : ga < 9) (hb9 : gb < 9) (hc9 : gc < 9) (hf : 30 ≤ f) (far : Far w (zI h 39) (zI h 40) (zI h 41) n) (far2 : Far2 w (zI h 39) (zI h 40) (zI h 41) n) (hK : ∀ m, m < 6 → ∀ k, n ≤ k → k < 9 → hb (zI h 39 m) (nI k) = false) : ∃ h', FrC h h' ∧ f_X1_mayLie f 38 (nI s) h = some (b2 (mlS w (zI h 39) (zI h 40) (zI h 41) n s (zI h (r.2.2.2.2 + 2)) (zI h (r.2.2.2.2 + 3)) c ga gb gc), h') ∧ (mlS w (zI h 39) (zI h 40) (zI h 41) n s (zI h (r.2.2.2.2 + 2)) (zI h (r.2.2.2.2 + 3)) c ga gb gc = true → ApOut h h' w (nI s) n) := by
  obtain ⟨h', F, e, O⟩ := e_arePlaces (f := f) (s := nI s) H jp hw hmk hn (by omega) far
  refine ⟨h', F, ?_, ?_⟩
  · unfold f_X1_mayLie
    rw [on_k (S_38 H), e, bi_mk]
    cases eo : okAll w (nI s) (zI h 39) (zI h 40) (zI h 41) n with
    | false =>
      have : mlS w (zI h 39) (zI h 40) (zI h 41) n s (zI h (r.2.2.2.2 + 2)) (zI h (r.2.2.2.2 + 3)) c ga gb gc = false := by simp [mlS, okS, eo]
      rw [this]; rfl
    | true =>
      obtain ⟨-, -, o3, o4⟩ := O eo
      have H' : Sh h' r := FrC_Sh F H
      have jn : ∀ j, zI h' r.2.2.2.1 j = zI h r.2.2.2.1 j := fun j => F.1 _ j (by rcases jp with q | q <;> omega) (by rcases jp with q | q <;> omega)
      have k39 : ∀ j, zI h' 39 j = zI h 39 j := fun j => F.1 39 j (by omega) (by omega)
      have k40 : ∀ j, zI h' 40 j = zI h 40 j := fun j => F.1 40 j (by omega) (by omega)
      have k41 : ∀ j, zI h' 41 j = zI h 41 j := fun j => F.1 41 j (by omega) (by omega)
      have q2 : zI h' (r.2.2.2.2 + 2) = zI h (r.2.2.2.2 + 2) := by funext j; exact F.1 _ j (by rcases jq with q | q <;> omega) (by rcases jq with q | q <;> omega)
      have q3 : zI h' (r.2.2.2.2 + 3) = zI h (r.2.2.2.2 + 3) := by funext j; exact F.1 _ j (by rcases jq with q | q <;> omega) (by rcases jq with q | q <;> omega)
      have c' : zI h' 38 11 = nI c := by rw [F.1 38 11 (by omega) (by omega)]; exact hc
      have bx : ∀ k, k < n → CB h' k = cbx (bxN w (zI h 39) (zI h 40) (zI h 41) s k) := fun k hk => (o3 k hk).1
      have bs : ∀ k, k < 9 → hb (zI h' 38 13) (nI k) = (bxN w (zI h 39) (zI h 40) (zI h 41) s k).isSome := fun k hk => by
        by_cases c1 : k < n
        · exact (o3 k c1).2
        · rw [o4 k (by omega) hk]
          unfold bxN
          rw [us_none (fun m hm => hK m hm k (by omega) hk) 6 (by omega)]
          rfl
      -- the counts
      have eoff : ∀ m, m < 6 → ∀ k, k < n → offP h' w m k = offS w (zI h 39) (zI h 40) (zI h 41) s m k := fun m hm k hk => by
        unfold offP offS
        rw [k39, k40, k41, bx k hk]
        cases eh : hb (zI h 39 m) (nI k) with
        | false => rfl
        | true =>
          cases ob : bxN w (zI h 39) (zI h 40) (zI h 41) s k with
          | none => simp [apO, (far2 m hm k hk eh).1]
          | some B => rfl
      have etof : ∀ m, m < 6 → tOf h' w s n m = tofS w (zI h 39) (zI h 40) (zI h 41) n s m := fun m hm => by
        unfold tOf tofS
        rw [fb_ct_cong (eoff m hm)]
      have ecou : ∀ m, m < 6 → anyF (couP h' w m) n = anyF (couS w (zI h 39) (zI h 40) (zI h 41) s m) n := fun m hm => anyF_congr (fun k hk => by
        unfold couP couS
        rw [k39, k40, k41, bx k hk]
        cases eh : hb (zI h 39 m) (nI k) with
        | false => rfl
        | true =>
          cases ob : bxN w (zI h 39) (zI h 40) (zI h 41) s k with
          | none => simp [wiO, (far2 m hm k hk eh).2]
          | some B => rfl)
      have equ : quN h' w s n = quNS w (zI h 39) (zI h 40) (zI h 41) n s := by
        unfold quN quNS
        rw [fb_ct_cong (q := quaS w (zI h 39) (zI h 40) (zI h 41) s (qa s) (qb s)) (fun k hk => by
          unfold quP quaS
          rw [bs k (by omega), k39, k39, k40, k40, k41, k41])]
      have efel : felB h' (zI h (r.2.2.2.2 + 2)) (zI h (r.2.2.2.2 + 3)) c ga gb gc = felS w (zI h 39) (zI h 40) (zI h 41) s (zI h (r.2.2.2.2 + 2)) (zI h (r.2.2.2.2 + 3)) c ga gb gc := by
        have one : ∀ k, k < 9 → oneK h' k = oneO (bxN w (zI h 39) (zI h 40) (zI h 41) s k) ∧ (oneO (bxN w (zI h 39) (zI h 40) (zI h 41) s k) = true → CB h' k = cbx (bxN w (zI h 39) (zI h 40) (zI h 41) s k)) := fun k hk => by
          unfold oneK
          rw [bs k hk]
          by_cases c1 : k < n
          · refine ⟨?_, fun _ => bx k c1⟩
            rw [bx k c1]
            cases bxN w (zI h 39) (zI h 40) (zI h 41) s k <;> rfl
          · have e0 : bxN w (zI h 39) (zI h 40) (zI h 41) s k = none := us_none (fun m hm => hK m hm k (by omega) hk) 6 (by omega)
            rw [e0]
            exact ⟨rfl, fun q => by cases q⟩
        unfold felB felS
        rw [(one ga ha).1, (one gb hb9).1, (one gc hc9).1]
        cases e1 : oneO (bxN w (zI h 39) (zI h 40) (zI h 41) s ga) with
        | false => rfl
        | true =>
          cases e2 : oneO (bxN w (zI h 39) (zI h 40) (zI h 41) s gb) with
          | false => rfl
          | true =>
            cases e3 : oneO (bxN w (zI h 39) (zI h 40) (zI h 41) s gc) with
            | false => rfl
            | true =>
              have a1 := (one ga ha).2 e1
              have a2 := (one gb hb9).2 e2
              have a3 := (one gc hc9).2 e3
              rw [← a1, ← a2, ← a3]
              rfl
      have hfel := e_felled (f := f) H' jp jq c' hc20 (by rw [jn]; exact ea) (by rw [jn]; exact eb) (by rw [jn]; exact ec) ha hb9 hc9 hf
      rw [q2, q3, efel] at hfel
      rw [b2T, if_pos c10]
      have go := ml_go (f := f) (s := s) (w := w) H' jp (by rw [jn]; exact hw) (by rw [jn]; exact hmk) hn hs (by omega) f 0 (by omega) (by omega) (fun j hj => by omega)
      rw [show stdy h' w s n 0 = s from rfl, show nI 0 = (0 : Int32) from rfl] at go
      rw [go]
      have eall : allF (fun j => decide (tOf h' w s n j ≤ 1)) 6 = allF (fun m => decide (tofS w (zI h 39) (zI h 40) (zI h 41) n s m ≤ 1)) 6 := allF_congr (fun m hm => by rw [etof m hm])
      rw [eall]
      unfold mlS okS
      rw [eo]
      cases et : allF (fun m => decide (tofS w (zI h 39) (zI h 40) (zI h 41) n s m ≤ 1)) 6 with
      | false => rfl
      | true =>
        rw [if_pos rfl]
        have le1 : ∀ m, m < 6 → tofS w (zI h 39) (zI h 40) (zI h 41) n s m ≤ 1 := fun m hm => of_decide_eq_true (allF_of et hm)
        have sb : ∀ m, m < 6 → (s.testBit m && !decide (tOf h' w s n m = 1)) = (s.testBit m && decide (tofS w (zI h 39) (zI h 40) (zI h 41) n s m = 0)) := fun m hm => by
          rw [etof m hm]
          have := le1 m hm
          by_cases c1 : tofS w (zI h 39) (zI h 40) (zI h 41) n s m = 1
          · simp [c1]
          · have c0 : tofS w (zI h 39) (zI h 40) (zI h 41) n s m = 0 := by omega
            simp [c0]
        have st64 : stdy h' w s n 6 < 64 := stdy_lt h' w hs 6 (by omega)
        have pcf : pcn (stdy h' w s n 6) = freS w (zI h 39) (zI h 40) (zI h 41) n s := by
          rw [stdy_clr, clr_pc hs]
          exact fb_ct_cong sb
        have tb : ∀ m, m < 6 → (stdy h' w s n 6).testBit m = (s.testBit m && decide (tofS w (zI h 39) (zI h 40) (zI h 41) n s m = 0)) := fun m hm => by
          rw [stdy_clr, clr_bit hs _ hm]
          exact sb m hm
        have qle : quNS w (zI h 39) (zI h 40) (zI h 41) n s ≤ 9 := by
          unfold quNS
          split
          · exact Nat.le_trans (fb_ct_le _ _) hn
          · omega
        have fle : freS w (zI h 39) (zI h 40) (zI h 41) n s ≤ 6 := fb_ct_le _ _
        unfold restC b_X1_mayLie_14
        rw [if_pos (by decide), on_k (S_38 H'), e_quarrels (w := w) H' jp (by rw [jn]; exact hw) (by rw [jn]; exact hmk) hn hs h2 (by omega), bi_mk, e_bc, bi_mk, (pc_all _ (by omega)).2, equ, pcf]
        by_cases cq : quNS w (zI h 39) (zI h 40) (zI h 41) n s ≤ freS w (zI h 39) (zI h 40) (zI h 41) n s
        · rw [if_pos ((nI_leI (by omega) (by omega)).mpr cq), decide_eq_true cq, show (0 : Int32) = nI 0 from rfl, st_go (w := w) H' jp (by rw [jn]; exact hw) (by rw [jn]; exact hmk) hn st64 (by omega) _ hfel f 0 (by omega) (by omega) (fun j hj => by omega)]
          rw [allF_congr (q := fun m => !(s.testBit m && decide (tofS w (zI h 39) (zI h 40) (zI h 41) n s m = 0)) || anyF (couS w (zI h 39) (zI h 40) (zI h 41) s m) n) (fun m hm => by rw [tb m hm, ecou m hm])]
          rfl
        · rw [if_neg (fun e9 => cq ((nI_leI (by omega) (by omega)).mp e9)), decide_eq_false cq]
          rfl
  · intro q
    apply O
    unfold mlS okS at q
    simp only [Bool.and_eq_true] at q
    exact q.1.1.1.1
