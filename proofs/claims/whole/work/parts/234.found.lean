/-! ===== found ===== -/
def orK (M : Ma) (m : Nat) (v : Int32) : Ma := (M.1, ud (aK M) m (aK M m ||| v), M.2.2)
def adK (M : Ma) (m k : Nat) : Ma := orK M m (bitk k)
theorem adK_wth (M : Ma) (m k : Nat) : adK M m k = wth M m k (aX M (9 * m + k)) (aY M (9 * m + k)) := by
  unfold adK orK wth
  rw [ud_same, ud_same]
def OkF (M : Ma) : Prop := OkB M ∧ ∀ m, m < 6 → ∀ k, k < aN M → Bd2 (aX M (9 * m + k)) ∧ Bd2 (aY M (9 * m + k))
def EqF (M M' : Ma) : Prop := Eqv M M' ∧ ∀ m, m < 6 → ∀ k, k < aN M → aX M' (9 * m + k) = aX M (9 * m + k) ∧ aY M' (9 * m + k) = aY M (9 * m + k)
theorem OkF_ad {M : Ma} {m k : Nat} (O : OkF M) (hm : m < 6) (hk : k < aN M) : OkF (adK M m k) := by
  refine ⟨?_, O.2⟩
  rw [adK_wth]
  exact OkB_wth O.1 hm hk (O.2 m hm k hk).1 (O.2 m hm k hk).2
theorem EqF_ad {M M' : Ma} {m k : Nat} (E : EqF M M') (O : OkF M) (hm : m < 6) (hk : k < aN M) : EqF (adK M m k) (adK M' m k) := by
  refine ⟨?_, E.2⟩
  rw [adK_wth, adK_wth, (E.2 m hm k hk).1, (E.2 m hm k hk).2]
  exact Eqv_wth E.1 O.1 hm hk
def fdV (b n : Nat) : Nat → Nat → Nat → Ma → Int32
  | 0, _, _, _ => -1
  | d + 1, i, cnt, M => if i / 9 = b ∨ n ≤ i % 9 then fdV b n d (i + 1) cnt M else if ln (adK M (i / 9) (i % 9)) = 1 then nI (cnt + 1) else fdV b n d (i + 1) (cnt + 1) (adK M (i / 9) (i % 9))
theorem fd_sk {b n i cnt : Nat} {M : Ma} (hi : i < 54) (h : i / 9 = b ∨ n ≤ i % 9) : fdV b n (54 - i) i cnt M = fdV b n (54 - (i + 1)) (i + 1) cnt M := by
  obtain ⟨d, hd⟩ : ∃ d, 54 - i = d + 1 := ⟨53 - i, by omega⟩
  rw [hd, show 54 - (i + 1) = d by omega]
  simp only [fdV]
  rw [if_pos h]
theorem fd_go {b n i cnt : Nat} {M : Ma} (hi : i < 54) (h : ¬ (i / 9 = b ∨ n ≤ i % 9)) : fdV b n (54 - i) i cnt M = if ln (adK M (i / 9) (i % 9)) = 1 then nI (cnt + 1) else fdV b n (54 - (i + 1)) (i + 1) (cnt + 1) (adK M (i / 9) (i % 9)) := by
  obtain ⟨d, hd⟩ : ∃ d, 54 - i = d + 1 := ⟨53 - i, by omega⟩
  rw [hd, show 54 - (i + 1) = d by omega]
  simp only [fdV]
  rw [if_neg h]
theorem fd_cong {b n : Nat} : ∀ (d i cnt : Nat) (M M' : Ma), i + d ≤ 54 → n = aN M → EqF M M' → OkF M → fdV b n d i cnt M' = fdV b n d i cnt M := by
  intro d
  induction d with
  | zero => intros; rfl
  | succ d ih =>
    intro i cnt M M' hi hn E O
    simp only [fdV]
    by_cases c : i / 9 = b ∨ n ≤ i % 9
    · rw [if_pos c, if_pos c]
      exact ih (i + 1) cnt M M' (by omega) hn E O
    · rw [if_neg c, if_neg c]
      have hm : i / 9 < 6 := by omega
      have hk : i % 9 < aN M := by omega
      have E1 := EqF_ad (m := i / 9) (k := i % 9) E O hm hk
      have O1 := OkF_ad O hm hk
      rw [ln_cong E1.1 (OkB_M O1.1), ih (i + 1) (cnt + 1) (adK M (i / 9) (i % 9)) (adK M' (i / 9) (i % 9)) (by omega) hn E1 O1]
theorem fd_end {b n m cnt : Nat} {M : Ma} (hm : m < 6) : ∀ (d k : Nat), k + d = 9 → n ≤ k → fdV b n (54 - (9 * m + k)) (9 * m + k) cnt M = fdV b n (54 - 9 * (m + 1)) (9 * (m + 1)) cnt M := by
  intro d
  induction d with
  | zero => intro k hk _; rw [show 9 * m + k = 9 * (m + 1) by omega]
  | succ d ih =>
    intro k hk hn
    rw [fd_sk (by omega) (Or.inr (by omega)), show 9 * m + k + 1 = 9 * m + (k + 1) by omega]
    exact ih (k + 1) (by omega) (by omega)
section F1
variable {f b n : Nat} {r : Rs} {h : Hp}
theorem e_hear {m : Nat} {v : Int32} {M : Ma} (J : JC h r M) (hm : m < 6) (O : OkM (orK M m v)) (hf : 100 ≤ f) : ∃ h', Fr QW h h' ∧ JC h' r (orK M m v) ∧ zI h' 38 12 = nI (ln (orK M m v)) ∧ f_X1_hear f 38 (nI m) v h = some h' := by
  have H := J.1
  unfold f_X1_hear
  rw [gr_k (S_38 H) (R_38_0 H), Option.bind_some, ai_nI (S_39 H) hm (by decide), Option.bind_some, as_nI (S_39 H) hm (by decide), Option.bind_some, J.2.2.2.2.1]
  generalize hg : sI h 39 m (aK M m ||| v) = g
  have Fg : Fr QW h g := by rw [← hg]; exact Fr_sI rfl
  have Jg : JC g r (orK M m v) := by
    refine JC_rows Fg J ?_ ?_ ?_
    · rw [← hg, zI_ud, J.2.2.2.2.1]
    · rw [← hg, zI_row (by decide), J.2.2.2.2.2.1]
    · rw [← hg, zI_row (by decide), J.2.2.2.2.2.2.1]
  obtain ⟨h', F', C', e'⟩ := e_collect (f := f) Jg O hf
  exact ⟨h', Fr_tr Fg (Fr_mono F' QJ_QW), JC_Fr F' Jg, C'.1, by rw [on_k (S_38 Jg.1), e', Option.bind_some]⟩
theorem fi_go {a len : Nat} {v : Int32} {h0 : Hp} (hS : zS h0 a = (9, len)) (hl : len ≤ 100) : ∀ (d j : Nat) (h : Hp), j ≤ len → len < j + d → Fr (fun x _ => decide (x = a)) h0 h → (∀ i, i < j → zI h a i = v) → ∃ h', Fr (fun x _ => decide (x = a)) h0 h' ∧ (∀ i, i < len → zI h' a i = v) ∧ l_J7_fill_53178_5 f d a v (nI j) (nI len) h = some h' := by
  intro d
  induction d with
  | zero => intro j h h1 h2; omega
  | succ d ih =>
    intro j h hj hjd F A
    show ∃ h', _ ∧ _ ∧ b_J7_fill_53178_5 f (l_J7_fill_53178_5 f d) a v (nI j) (nI len) h = _
    unfold b_J7_fill_53178_5 lt
    by_cases e : j = len
    · exact ⟨h, F, by rw [← e]; exact A, by rw [if_pos ((nI_leI (by omega) (by omega)).mpr (by omega))]⟩
    · have hS' : zS h a = (9, len) := by rw [F.2.1]; exact hS
      rw [if_neg (fun e9 => by have := (nI_leI (a := len) (b := j) (by omega) (by omega)).mp e9; omega), as_nI hS' (by omega) (by omega), Option.bind_some, nI_p1]
      refine ih (j + 1) _ (by omega) (by omega) (Fr_then F (by simp)) (fun i hi => ?_)
      rw [zI_sI]
      by_cases c : i = j
      · rw [if_pos ⟨rfl, c⟩]
      · rw [if_neg (fun q => c q.2)]; exact A i (by omega)
theorem e_fill {a len : Nat} {v : Int32} (hS : zS h a = (9, len)) (hl : len ≤ 50) (hf : 100 ≤ f) : ∃ h', Fr (fun x _ => decide (x = a)) h h' ∧ (∀ i, i < len → zI h' a i = v) ∧ f_J7_fill_53178 f a v h = some h' := by
  unfold f_J7_fill_53178
  rw [al_k hS, Option.bind_some]
  exact fi_go (f := f) hS (by omega) f 0 h (by omega) (by omega) (Fr_rf _ _) (fun i hi => by omega)
/-- the class between two corners that are heard -/
def FB (h0 h : Hp) (r : Rs) (M : Ma) : Prop := Fr QW h0 h ∧ JC h r M
theorem fc_go {h0 : Hp} (rp : Rp r) (hb6 : b < 6) (en : zI h0 r.1 4 = nI n) (hn : n ≤ 9) (hf : 100 ≤ f) : ∀ (d m cnt : Nat) (M : Ma) (h : Hp), m ≤ 6 → 6 < m + d → cnt ≤ 9 * m → aN M = n → OkF M → FB h0 h r M → ∃ h' M', FB h0 h' r M' ∧ l_X5_found_39 f d 0 (nI b) (nI cnt) (nI m) h = some (fdV b n (54 - 9 * m) (9 * m) cnt M, h') := by
  intro d
  induction d with
  | zero => intro m cnt M h h1 h2; omega
  | succ d ih =>
    intro m cnt M h hm hmd hct an O B
    show ∃ h' M', _ ∧ b_X5_found_39 f (l_X5_found_39 f d) 0 (nI b) (nI cnt) (nI m) h = _
    unfold b_X5_found_39
    by_cases e6 : m = 6
    · subst e6
      exact ⟨h, M, B, by rw [if_pos (by decide)]; rfl⟩
    · rw [if_neg (fun e9 => by have := (nI_leI (a := 6) (b := m) (by omega) (by omega)).mp e9; omega)]
      -- cnt + 9 <= 9 * (m + 1)
      have inn : ∀ (dd k c : Nat) (M : Ma) (h : Hp), k ≤ n → n < k + dd → c ≤ 9 * m + k → aN M = n → OkF M → FB h0 h r M → ∃ h' M', FB h0 h' r M' ∧ l_X5_found_48 f (l_X5_found_39 f d) dd 0 (nI b) (nI c) (nI m) (nI k) h = some (fdV b n (54 - (9 * m + k)) (9 * m + k) c M, h') := by
        have hp := Rp_p rp
        intro dd
        induction dd with
        | zero => intro k c M h h1 h2; omega
        | succ dd ihh =>
          intro k c M h hk hkd hc an O B
          obtain ⟨F, J⟩ := id B
          have H := J.1
          have W := WF_QW F
          show ∃ h' M', _ ∧ b_X5_found_48 f (l_X5_found_39 f d) (l_X5_found_48 f (l_X5_found_39 f d) dd) 0 (nI b) (nI c) (nI m) (nI k) h = _
          unfold b_X5_found_48 b_X5_found_96 lt
          rw [gr_k (S_0 H) (R_0_3 H), Option.bind_some, gi_k (Ip_S H hp), Option.bind_some, W r.1 4 (by rcases hp with q | q <;> omega), en]
          simp only [nI_p1]
          by_cases ek : k = n
          · obtain ⟨h', M', B', e'⟩ := ih (m + 1) c M h (by omega) (by omega) (by omega) an O B
            refine ⟨h', M', B', ?_⟩
            rw [if_pos ((nI_leI (by omega) (by omega)).mpr (by omega)), fd_end (by omega) (9 - k) k (by omega) (by omega)]
            exact e'
          · rw [if_neg (fun e9 => by have := (nI_leI (a := n) (b := k) (by omega) (by omega)).mp e9; omega)]
            have q1 : (9 * m + k) / 9 = m := by omega
            have q2 : (9 * m + k) % 9 = k := by omega
            by_cases emb : m = b
            · obtain ⟨h', M', B', e'⟩ := ihh (k + 1) c M h (by omega) (by omega) (by omega) an O B
              refine ⟨h', M', B', ?_⟩
              rw [if_neg (fun n9 => n9 (by rw [emb])), fd_sk (by omega) (Or.inl (by omega)), show 9 * m + k + 1 = 9 * m + (k + 1) by omega]
              exact e'
            · have hk' : k < aN M := by omega
              have O1 := OkF_ad (m := m) O (by omega) hk'
              obtain ⟨h1, F1, J1, c1, e1⟩ := e_hear (f := f) (m := m) (v := (1 : Int32) <<< (nI k &&& 31)) J (by omega) (OkB_M O1.1) hf
              have H1 := J1.1
              rw [if_pos (fun e9 => emb ((nI_eq (by omega) (by omega)).mp e9)), gr_k (S_0 H) (R_0_10 H), Option.bind_some, on_k (S_38 H), e1, Option.bind_some, gr_k (S_0 H1) (R_0_10 H1), Option.bind_some, gi_k (S_38 H1), Option.bind_some, c1, fd_go (by omega) (by omega), q1, q2]
              have l15 : ln (orK M m ((1 : Int32) <<< (nI k &&& 31))) ≤ 15 := ln_15 (OkB_M O1.1)
              have l15' : ln (adK M m k) ≤ 15 := l15
              by_cases cl : ln (adK M m k) = 1
              · refine ⟨h1, adK M m k, ⟨Fr_tr F F1, J1⟩, ?_⟩
                have : nI (ln (orK M m ((1 : Int32) <<< (nI k &&& 31)))) = 1 := (nI_eq1 (by omega)).mpr cl
                rw [if_neg (fun n9 => n9 this), if_pos cl]
              · obtain ⟨h', M', B', e'⟩ := ihh (k + 1) (c + 1) (adK M m k) h1 (by omega) (by omega) (by omega) an O1 ⟨Fr_tr F F1, J1⟩
                refine ⟨h', M', B', ?_⟩
                have : ¬ nI (ln (orK M m ((1 : Int32) <<< (nI k &&& 31)))) = 1 := fun e9 => cl ((nI_eq1 (by omega)).mp e9)
                rw [if_pos this, if_neg cl, show 9 * m + k + 1 = 9 * m + (k + 1) by omega]
                exact e'
      obtain ⟨h', M', B', e'⟩ := inn f 0 cnt M h (by omega) (by omega) (by omega) an O B
      exact ⟨h', M', B', e'⟩
end F1
