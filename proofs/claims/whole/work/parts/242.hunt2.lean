/-! ===== a band's turn, the hunt ===== -/
theorem turn_RR {f b : Nat} {hc hm : Hp} {r : Rs} (R : RR hc hm r) (hb6 : b < 6) (hf : 100 ≤ f) (hn : ¬ zI hm 58 0 = 0) : ∃ hc' hm' r', f_X5_takeTurn f 0 (nI b) hc = some hc' ∧ f_X6_bandDay f 58 (nI b) hm = some hm' ∧ RR hc' hm' r' ∧ (∀ a, 58 ≤ a → zI hc' a = zI hc a) ∧ Fr (fun a _ => decide (58 ≤ a)) hm hm' ∧ zI hm' 58 0 = zI hm 58 0 := by
  have H := RR_Sh R
  obtain ⟨rm, Hm⟩ := RR_m R
  obtain ⟨h1, h', e, H1, e', W, H', C, l15, P, G⟩ := chosen2 (f := f) R hb6 hf
  have J := JM_of Hm hb6 G
  obtain ⟨h2, v, F2, e2, e3, B2⟩ := e_bestM (f := f) J hf
  have H2 := Fr_Sh F2 Hm
  have R1 : RR h' hm (rW r) := RR_c R H' rfl rfl W (Or.inr rfl)
  have R2 : RR h' h2 (rW r) := RR_m2 R1 F2
  have n2 : zI h2 58 0 = zI hm 58 0 := F2.1 58 0 rfl
  have hn2 : ¬ zI h2 58 0 = 0 := by rw [n2]; exact hn
  have F2' : Fr (fun a _ => decide (58 ≤ a)) hm h2 := Fr_mono F2 (fun a j q => by
    have := of_decide_eq_false q
    unfold QN
    simp only [Bool.or_eq_false_iff, Bool.and_eq_false_iff, decide_eq_false_iff_not]
    omega)
  have W2 : ∀ a, 58 ≤ a → zI h' a = zI hc a := fun a ha => WF_row W (by omega)
  obtain ⟨tc, tm, t1, t2, t3, t4, t5, t6⟩ := trade_RR (b := b) R2 hb6 hn2
  have trd : f_X5_takeTurn f 0 (nI b) hc = some tc → f_X6_bandDay f 58 (nI b) hm = some tm → ∃ hc' hm' r', f_X5_takeTurn f 0 (nI b) hc = some hc' ∧ f_X6_bandDay f 58 (nI b) hm = some hm' ∧ RR hc' hm' r' ∧ (∀ a, 58 ≤ a → zI hc' a = zI hc a) ∧ Fr (fun a _ => decide (58 ≤ a)) hm hm' ∧ zI hm' 58 0 = zI hm 58 0 := fun x y => ⟨tc, tm, rW r, x, y, t3, fun a ha => (t4 a ha).trans (W2 a ha), Fr_tr F2' t5, t6.trans n2⟩
  have cls : ∀ K : Int32 → Option Hp, (∀ v, zI h' 38 14 = v → (if v = (-1 : Int32) then b_X5_takeTurn_80 f 0 (nI b) h' else (q_gr h' 0 5 10).bind fun a11_ => q_on h' a11_ 1 (bi (f_X1_worth f a11_ h') fun v14_ h13_ => if v14_ ≤ 0 then b_X5_takeTurn_80 f 0 (nI b) h13_ else (q_gr h13_ 0 5 10).bind fun a15_ => (q_gr h13_ 0 5 10).bind fun a16_ => (q_gi h13_ a16_ 1 14).bind fun v17_ => q_on h13_ a15_ 1 (bi (f_X1_placeX f a15_ v17_ h13_) fun v20_ h19_ => (q_gr h19_ 0 5 10).bind fun a21_ => (q_gr h19_ 0 5 10).bind fun a22_ => (q_gi h19_ a22_ 1 14).bind fun v23_ => q_on h19_ a21_ 1 (bi (f_X1_placeY f a21_ v23_ h19_) fun v26_ h25_ => q_on h25_ 0 5 ((f_X5_digAt f 0 (nI b) v20_ v26_ h25_).bind fun h28_ => b_X5_takeTurn_85 f h28_))))) = K v) → f_X5_takeTurn f 0 (nI b) hc = K (zI h' 38 14) := fun K hK => by
    unfold f_X5_takeTurn
    rw [gr_k (S_0 H) (R_0_10 H), Option.bind_some, gr_k (S_0 H) (R_0_3 H), Option.bind_some, gr_k (S_0 H) (R_0_6 H), Option.bind_some, on_k (S_38 H), e, Option.bind_some, gr_k (S_0 H1) (R_0_10 H1), Option.bind_some, on_k (S_38 H1), e', Option.bind_some, gr_k (S_0 H') (R_0_10 H'), Option.bind_some, gi_k (S_38 H'), Option.bind_some]
    have := hK _ rfl
    rw [gr_k (S_0 H') (R_0_10 H')] at this
    exact this
  have t80 : b_X5_takeTurn_80 f 0 (nI b) h' = some tc := by
    unfold b_X5_takeTurn_80 b_X5_takeTurn_85
    rw [on_k (S_0 H'), t1, Option.bind_some]
  have mdl : ∀ x, (if v < 0 then b_X6_bandDay_41 f 58 (nI b) h2 else q_on h2 58 6 (bi (f_X6_worthOf f 58 v h2) fun v8_ h7_ => if v8_ ≤ 0 then b_X6_bandDay_41 f 58 (nI b) h7_ else (q_gr h7_ 58 6 46).bind fun a9_ => (q_ai h7_ a9_ 9 v).bind fun v10_ => (q_gr h7_ 58 6 47).bind fun a11_ => (q_ai h7_ a11_ 9 v).bind fun v12_ => q_on h7_ 58 6 (bi (f_X6_digNow f 58 (nI b) v10_ v12_ h7_) fun v15_ h14_ => some h14_))) = x → f_X6_bandDay f 58 (nI b) hm = x := fun x hx => by
    unfold f_X6_bandDay
    rw [on_k (S_58 Hm), e2, Option.bind_some, on_k (S_58 H2), e3, bi_mk]
    exact hx
  rcases P with ⟨p1, p2, p3⟩ | ⟨i, p, p1, p2, p3, p4, p5⟩
  · have vm : v = -1 := by
      rcases B2 with ⟨b1, -⟩ | ⟨k, p, j, b1, b2', b3, b4, -⟩
      · exact b1
      · rw [p3 j b3] at b4; cases b4
    refine trd ?_ ?_
    · refine (cls (fun _ => some tc) (fun v ev => ?_))
      rw [p1] at ev
      rw [← ev, if_pos rfl, t80]
    · refine mdl _ ?_
      rw [vm, if_pos (by decide), t2]
  · rcases B2 with ⟨b1, b2'⟩ | ⟨k, q, j', b1, b2', b3, b4, b5, b6, b7, b8, b9⟩
    · rw [b2' i p1] at p2; cases p2
    · have epq := IsB_un p5 b5 p1 p2 b3 b4
      subst epq
      have pe := plc_s (M := mo hm b) (s := (fl (mo hm b) 64).getD i 0) p2
      have i1000 : i < 1000 := by omega
      have l0 : 0 < ln (mo hm b) := by omega
      obtain ⟨R20, -⟩ := id R2
      obtain ⟨-, rp, -, -, n', w', l', ga', gb', gc', il', -⟩ := R20
      have hp' : (rW r).1 = 2 ∨ (rW r).1 = 7 := Rp_p rp
      have jp : Jp (rW r) := hp'
      obtain ⟨q1, -, o11, o11'⟩ := il'.2.2.2.2.2.2.2.2.1
      obtain ⟨q2, -, o12, o12'⟩ := il'.2.2.2.2.2.2.2.2.2.1
      rw [mz_c (a := (rW r).1) (by rcases hp' with q | q <;> omega)] at o11 o12
      rw [mz_m (a := 58) (by omega)] at o11' o12'
      have ewC := e_worthC (f := f) H' jp C l0 l15 p4
      have x12 : zI h' (rW r).2.2.2.1 12 = nI q2 := o12
      have x11 : zI h' (rW r).2.2.2.1 11 = nI q1 := o11
      rw [x12, x11] at ewC
      have ewM := e_worthM (f := f) H2 b2' b8 b9 l0 l15
      rw [o11', o12'] at ewM
      by_cases c0 : nI q2 * nI (ct (mo hm b) (ln (mo hm b)) p) / nI (ln (mo hm b)) - nI q1 ≤ 0
      · refine trd ?_ ?_
        · refine (cls (fun _ => some tc) (fun v ev => ?_))
          rw [p3] at ev
          rw [← ev, if_neg (nm1 i1000), gr_k (S_0 H') (R_0_10 H'), Option.bind_some, on_k (S_38 H'), ewC, bi_mk, if_pos c0, t80]
        · refine mdl _ ?_
          rw [b1, if_neg (nI_ge0 (by omega)), on_k (S_58 H2), ewM, bi_mk, if_pos c0, t2]
      · obtain ⟨dc, dm, win, d1, d2, d3, d4, d5, -, -, -, -, d6⟩ := dig_RR (b := b) (x := p.1) (y := p.2) R2 hb6 hn2
        refine ⟨dc, dm, rW r, ?_, ?_, d3, fun a ha => (d4 a ha).trans (W2 a ha), Fr_tr F2' d5, d6.trans n2⟩
        · refine (cls (fun _ => some dc) (fun v ev => ?_))
          have eX := e_placeX (f := f) H' C l15 p1
          have eY := e_placeY (f := f) H' C l15 p1
          rw [pe.1] at eX
          rw [pe.2.2.1] at eY
          rw [p3] at ev
          rw [← ev, if_neg (nm1 i1000), gr_k (S_0 H') (R_0_10 H'), Option.bind_some, on_k (S_38 H'), ewC, bi_mk, if_neg c0]
          simp only [gr_k (S_0 H') (R_0_10 H'), Option.bind_some, gi_k (S_38 H'), p3, on_k (S_38 H'), eX, bi_mk, eY, on_k (S_0 H'), d1]
          rfl
        · refine mdl _ ?_
          rw [b1, if_neg (nI_ge0 (by omega)), on_k (S_58 H2), ewM, bi_mk, if_neg c0, gr_k (S_58 H2) (R_58_46 H2), Option.bind_some, ai_nI (S_78 H2) b2' (by decide), Option.bind_some, gr_k (S_58 H2) (R_58_47 H2), Option.bind_some, ai_nI (S_79 H2) b2' (by decide), Option.bind_some, b6, b7, on_k (S_58 H2), d2, bi_mk]
/-- a day -/
theorem day_RR {f n t : Nat} {k40 : Nat → Int32 → Int32 → Hp → Option (Int32 × Hp)} {k35 : Nat → Int32 → Int32 → Hp → Option (Int32 × Hp)} (hf : 100 ≤ f) : ∀ (d k : Nat) (hc hm : Hp) (r : Rs), k ≤ 6 → 6 < k + d → RR hc hm r → ¬ zI hm 58 0 = 0 → ∃ hc' hm' r', l_X5_hunt_58 f k40 d 0 (nI n) (nI t) (nI k) hc = k40 0 (nI n) (nI (t + 1)) hc' ∧ l_X6_hunt_42 f k35 d 58 (nI n) (nI t) (nI k) hm = k35 58 (nI n) (nI (t + 1)) hm' ∧ RR hc' hm' r' ∧ (∀ a, 58 ≤ a → zI hc' a = zI hc a) ∧ Fr (fun a _ => decide (58 ≤ a)) hm hm' ∧ ¬ zI hm' 58 0 = 0 := by
  intro d
  induction d with
  | zero => intro k hc hm r h1 h2; omega
  | succ d ih =>
    intro k hc hm r hk hkd R hn
    have H := RR_Sh R
    obtain ⟨rm, Hm⟩ := RR_m R
    obtain ⟨-, hp, n1, c1, -, -, -, -, -, -, fi, fo⟩ := RR_facts R
    show ∃ hc' hm' r', b_X5_hunt_58 f k40 (l_X5_hunt_58 f k40 d) 0 (nI n) (nI t) (nI k) hc = _ ∧ b_X6_hunt_42 f k35 (l_X6_hunt_42 f k35 d) 58 (nI n) (nI t) (nI k) hm = _ ∧ _
    unfold b_X5_hunt_58 b_X6_hunt_42 b_X5_hunt_86 b_X6_hunt_66 lt
    simp only [nI_p1]
    by_cases c : k = 6
    · have q : (6 : Int32) ≤ nI k := (nI_leI (a := 6) (b := k) (by omega) (by omega)).mpr (by omega)
      exact ⟨hc, hm, r, by rw [if_pos q], by rw [if_pos q], R, fun _ _ => rfl, Fr_rf _ _, hn⟩
    · have q : ¬ (6 : Int32) ≤ nI k := fun e => by have := (nI_leI (a := 6) (b := k) (by omega) (by omega)).mp e; omega
      rw [if_neg q, if_neg q, gr_k (S_0 H) (R_0_6 H), Option.bind_some, gi_k (S_17 H), Option.bind_some, gi_k (S_58 Hm), Option.bind_some, fi]
      rcases fo with fo | ⟨b', hb', fo⟩
      · obtain ⟨hc1, hm1, r1, e1, e2, R1, z1, F1, n1⟩ := turn_RR (f := f) (b := k) R (by omega) hf hn
        obtain ⟨hc', hm', r', e3, e4, R', z', F', n'⟩ := ih (k + 1) hc1 hm1 r1 (by omega) (by omega) R1 (by rw [n1]; exact hn)
        refine ⟨hc', hm', r', ?_, ?_, R', fun a ha => (z' a ha).trans (z1 a ha), Fr_tr F1 F', n'⟩
        · rw [fo, if_neg (fun n9 => n9 rfl), on_k (S_0 H), e1, Option.bind_some]; exact e3
        · rw [fo, if_neg (by decide), on_k (S_58 Hm), e2, Option.bind_some]; exact e4
      · refine ⟨hc, hm, r, ?_, ?_, R, fun _ _ => rfl, Fr_rf _ _, hn⟩
        · rw [fo, if_pos (nm1 (by omega))]
        · rw [fo, if_pos (nge (by omega))]
theorem days_done {f n b' : Nat} {hm : Hp} {rm : Rs} (Hm : Sh hm rm) (fo : zI hm 58 16 = nI b') (hb' : b' < 6) (hf : 100 ≤ f) (hn : n ≤ 20) : ∀ (d t : Nat), t ≤ n → n < t + d → l_X6_hunt_35 f d 58 (nI n) (nI t) hm = some (nI b', hm) := by
  intro d
  induction d with
  | zero => intro t h1 h2; omega
  | succ d ih =>
    intro t ht htd
    show b_X6_hunt_35 f (l_X6_hunt_35 f d) 58 (nI n) (nI t) hm = _
    unfold b_X6_hunt_35
    by_cases c : t = n
    · rw [if_pos ((nI_leI (by omega) (by omega)).mpr (by omega)), gi_k (S_58 Hm), Option.bind_some, fo]
    · rw [if_neg (fun e => by have := (nI_leI (a := n) (b := t) (by omega) (by omega)).mp e; omega)]
      obtain ⟨g, hg⟩ : ∃ g, f = g + 1 := ⟨f - 1, by omega⟩
      rw [show l_X6_hunt_42 f (l_X6_hunt_35 f d) f = l_X6_hunt_42 f (l_X6_hunt_35 f d) (g + 1) by rw [← hg]]
      show b_X6_hunt_42 f (l_X6_hunt_35 f d) (l_X6_hunt_42 f (l_X6_hunt_35 f d) g) 58 (nI n) (nI t) 0 hm = _
      unfold b_X6_hunt_42 b_X6_hunt_66 lt
      rw [if_neg (by decide), gi_k (S_58 Hm), Option.bind_some, fo, if_pos (nge (by omega)), nI_p1]
      exact ih (t + 1) (by omega) (by omega)
theorem days_RR {f n : Nat} (hf : 100 ≤ f) (hn : n ≤ 20) : ∀ (d t : Nat) (hc hm : Hp) (r : Rs), t ≤ n → n < t + d → RR hc hm r → ¬ zI hm 58 0 = 0 → ∃ v hc' hm' r', l_X5_hunt_40 f d 0 (nI n) (nI t) hc = some (v, hc') ∧ l_X6_hunt_35 f d 58 (nI n) (nI t) hm = some (v, hm') ∧ RR hc' hm' r' ∧ (∀ a, 58 ≤ a → zI hc' a = zI hc a) ∧ Fr (fun a _ => decide (58 ≤ a)) hm hm' := by
  intro d
  induction d with
  | zero => intro t hc hm r h1 h2; omega
  | succ d ih =>
    intro t hc hm r ht htd R hn0
    have H := RR_Sh R
    obtain ⟨rm, Hm⟩ := RR_m R
    obtain ⟨-, hp, n1, c1, -, -, -, -, -, -, fi, fo⟩ := RR_facts R
    have stop : ∀ v, zI hm 58 16 = v → b_X5_hunt_92 f 0 hc = some (v, hc) := fun v ev => by
      unfold b_X5_hunt_92
      rw [gr_k (S_0 H) (R_0_6 H), Option.bind_some, gi_k (S_17 H), Option.bind_some, fi, ev]
    by_cases c : t = n
    · refine ⟨zI hm 58 16, hc, hm, r, ?_, ?_, R, fun _ _ => rfl, Fr_rf _ _⟩
      · show b_X5_hunt_40 f (l_X5_hunt_40 f d) 0 (nI n) (nI t) hc = _
        unfold b_X5_hunt_40
        rw [if_pos ((nI_leI (by omega) (by omega)).mpr (by omega)), stop _ rfl]
      · show b_X6_hunt_35 f (l_X6_hunt_35 f d) 58 (nI n) (nI t) hm = _
        unfold b_X6_hunt_35
        rw [if_pos ((nI_leI (by omega) (by omega)).mpr (by omega)), gi_k (S_58 Hm), Option.bind_some]
    · have q : ¬ nI n ≤ nI t := fun e => by have := (nI_leI (a := n) (b := t) (by omega) (by omega)).mp e; omega
      rcases fo with fo | ⟨b', hb', fo⟩
      · obtain ⟨hc1, hm1, r1, e1, e2, R1, z1, F1, n1⟩ := day_RR (f := f) (n := n) (t := t) (k40 := l_X5_hunt_40 f d) (k35 := l_X6_hunt_35 f d) hf f 0 hc hm r (by omega) (by omega) R hn0
        obtain ⟨v, hc', hm', r', e3, e4, R', z', F'⟩ := ih (t + 1) hc1 hm1 r1 (by omega) (by omega) R1 n1
        refine ⟨v, hc', hm', r', ?_, ?_, R', fun a ha => (z' a ha).trans (z1 a ha), Fr_tr F1 F'⟩
        · show b_X5_hunt_40 f (l_X5_hunt_40 f d) 0 (nI n) (nI t) hc = _
          unfold b_X5_hunt_40
          rw [if_neg q, gr_k (S_0 H) (R_0_6 H), Option.bind_some, gi_k (S_17 H), Option.bind_some, fi, fo, if_neg (fun n9 => n9 rfl)]
          exact e1.trans e3
        · show b_X6_hunt_35 f (l_X6_hunt_35 f d) 58 (nI n) (nI t) hm = _
          unfold b_X6_hunt_35
          rw [if_neg q]
          exact e2.trans e4
      · refine ⟨nI b', hc, hm, r, ?_, days_done Hm fo hb' hf hn (d + 1) t ht htd, R, fun _ _ => rfl, Fr_rf _ _⟩
        show b_X5_hunt_40 f (l_X5_hunt_40 f d) 0 (nI n) (nI t) hc = _
        unfold b_X5_hunt_40
        rw [if_neg q, gr_k (S_0 H) (R_0_6 H), Option.bind_some, gi_k (S_17 H), Option.bind_some, fi, fo, if_pos (nm1 (by omega)), stop _ fo]
theorem st_hunt {f : Nat} (hf : 100 ≤ f) (x : Int32) : StpR (f_X5_hunt f 0 x) (f_X6_hunt f 58 x) := by
  apply two_runs
  intro hc hm r R
  obtain ⟨H, hp, n, c, h9, hc20, n1, n2, c1, c2, fi, fo⟩ := RR_facts R
  obtain ⟨rm, Hm⟩ := RR_m R
  have i1 : (1 : Int32).toInt = 1 := by decide
  have i20 : (20 : Int32).toInt = 20 := by decide
  have inx : f_X6_in f x.toInt64 (1 : Int64) (20 : Int64) hm = some (b2 (decide ((1 : Int32) ≤ x ∧ x ≤ 20)), hm) := e_inM f x 1 20 1 20 (by decide) (by decide) hm
  unfold f_X5_hunt f_X6_hunt b_X5_hunt_11 b_X5_hunt_35 b_X6_hunt_29
  rw [inx, bi_mk]
  by_cases cx : (1 : Int32) ≤ x ∧ x ≤ 20
  · rw [decide_eq_true cx, b2T, if_pos c10, if_neg (Int32.not_lt.mpr cx.1), if_pos cx.2, gr_k (S_0 H) (R_0_3 H), Option.bind_some, gi_k (Ip_S H hp), Option.bind_some, n1, gi_k (S_58 Hm), Option.bind_some]
    by_cases n0 : n = 0
    · have z : nI n = 0 := by rw [n0]; rfl
      refine ⟨-1000003, hc, hm, r, by rw [if_pos z], ?_, R, fun _ _ => rfl, Fr_rf _ _⟩
      by_cases q : 0 ≤ zI hm 58 16
      · rw [if_pos q]
      · rw [if_neg q, gi_k (S_58 Hm), Option.bind_some, n2, if_neg (fun n9 => n9 z)]
    · have z : ¬ nI n = 0 := n0_of (by omega) (by omega)
      rw [if_neg z, gr_k (S_0 H) (R_0_6 H), Option.bind_some, gi_k (S_17 H), Option.bind_some, fi]
      rcases fo with fo | ⟨b', hb', fo⟩
      · obtain ⟨k, hk, rfl⟩ := nI_of (x := x) (fun e => by
          have := cx.1
          rw [fa_le, i1] at this
          rw [fa_lt, i0] at e
          omega)
        have k20 : k ≤ 20 := by
          have := cx.2
          rw [fa_le, i20, nI_toInt hk] at this
          omega
        obtain ⟨v, hc', hm', r', e1, e2, R', z', F'⟩ := days_RR (f := f) (n := k) hf k20 f 0 hc hm r (by omega) (by omega) R (by rw [n2]; exact z)
        refine ⟨v, hc', hm', r', ?_, ?_, R', z', F'⟩
        · rw [fo, if_pos rfl]; exact e1
        · rw [fo, if_neg (by decide), gi_k (S_58 Hm), Option.bind_some, n2, if_pos z]; exact e2
      · exact ⟨-1000003, hc, hm, r, by rw [fo, if_neg (nm1 (by omega))], by rw [fo, if_pos (nge (by omega))], R, fun _ _ => rfl, Fr_rf _ _⟩
  · rw [decide_eq_false cx, b2F]
    refine ⟨-1000002, hc, hm, r, ?_, by rw [if_neg (fun n9 => n9 rfl)], R, fun _ _ => rfl, Fr_rf _ _⟩
    by_cases q : x < 1
    · rw [if_pos q]
    · rw [if_neg q, if_neg (fun e => cx ⟨Int32.not_lt.mp q, e⟩)]
