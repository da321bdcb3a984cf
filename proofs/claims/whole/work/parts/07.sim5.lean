/-! ===== new objects, new rows, rows of references ===== -/
def NW (own : String) (idx ci : Nat) : Prop := ∃ r : vw_C, vwCl[ci]? = some r ∧ ci < 7 ∧ (∀ w ∈ [Cond.classLink own idx r.1, Cond.instantiable r.1 r.2.2, Cond.initialized r.1], w ∈ GW) ∧ (∀ w ∈ u_ws r.1 r.2.1 r.2.2, w ∈ GW) ∧ ∃ ty0 : Nat → FieldType, (∀ k, k < r.2.2 → parseFieldDescriptor (r.2.1 k).2.2.1 = some (ty0 k)) ∧ (∀ k, k < r.2.2 → defaultValue (ty0 k) = (if z_ft ci k = 0 then .int 0 else if z_ft ci k = 1 then .long 0 else .null))
section SIME
variable {X : Cx} {own : String} {cc : ByteArray} {nL fr lo mc ms : Nat} {rt : Option FieldType} {ρ : Type} {Qf : ρ → State → Prop} {cs sl pc q : Nat} {lv lv' : List (Nat × Value)} {st rest As : List Value} {h : Hp}
variable {ci idx N cs' sl' : Nat}
theorem z_new_old {G : Gx} {kd n i : Nat} (hi : i ≠ h.1) : z_cell G (q_nwa h kd n).2 i = z_cell G h i := z_cell_same (by simp [q_nwa, zS, hi]) (by simp [q_nwa, zI, hi]) (by simp [q_nwa, zL, hi]) (by simp [q_nwa, zR, hi])
theorem q_new_nwa (kd : Nat) : q_new h kd = q_nwa h kd 0 := rfl
theorem z_new_sh {G : Gx} {H : Heap} {kd n : Nat} (hP : z_P G h H) : ∀ a, (zS (q_nwa h kd n).2 a).1 ≠ 0 → a < zN (q_nwa h kd n).2 := by
  intro a ha
  show a < h.1 + 1
  by_cases e : a = h.1
  · omega
  · have h1 : zS (q_nwa h kd n).2 a = zS h a := by simp [q_nwa, zS, e]
    rw [h1] at ha
    have := hP.2 a ha
    show a < h.1 + 1
    have h2 : a < h.1 := this
    omega
theorem z_hA (o : Ok X own cc nL fr lo mc ms rt) : ∀ q : Nat, (xs X).heap.size ≤ q → z_A (xG X) q := fun q h9 => by
  have e := o.2.2.2.2.2.2.2.2.2
  show (xG X).1 ≤ q
  omega
theorem s_new {K : Nat → Hp → Option ρ} (o : Ok X own cc nL fr lo mc ms rt) (nw : NW own idx ci) (hN : z_nf ci = N) (hc : cs + 1 ≤ mc) (hs : sl + N ≤ ms) (d : decode cc pc = .ok (.new idx, 3)) (hq : pc + 3 = q) (hc' : cs + 1 = cs') (hs' : sl + N = sl') (k : ∀ a h', Sim X Qf cs' sl' q lv (rf (xG X) a :: st) h' (K a h')) : Sim X Qf cs sl pc lv st h (bn (q_new h (ci + 1)) K) := by
  subst hq; subst hc'; subst hs'
  intro r hr H locs ls hn hP hS hl
  obtain ⟨rr, n1, n2, n3, n4, ty0, n5, n6⟩ := nw
  have hnf : z_nf ci = rr.2.2 := by unfold z_nf; rw [n1]
  have hNr : N = rr.2.2 := by rw [← hN]; exact hnf
  subst hNr
  have hw' := fun w h9 => o.2.2.2.2.1 w (n3 w h9)
  have hR := o.2.2.2.2.2.2.2.2.1
  have hk0 : (zS (q_new h (ci + 1)).2 (zN h)).1 = ci + 1 := by simp [q_new, zS, zN]
  refine va_new (C := rr.1) (T := rr.2.1) (N := rr.2.2) (fs := (List.range (z_nf ci)).map (z_fv (xG X) (q_new h (ci + 1)).2 ci (zN h))) o.1 o.2.1 o.2.2.2.2.1 n4 ty0 n5 o.2.2.2.1 (hw' _ (by simp)) (hw' _ (by simp)) (hw' _ (by simp)) o.2.2.2.2.2.1.1 hP.1 (z_W_D _ _) hS (z_hA o) n1 ?_ (by rw [hR]; exact hc) (by rw [hR]; exact hs) d (fun qa H1 hP1 hD1 hS1 => ?_)
  · intro j hj
    rw [n6 j hj]
    unfold vp_V
    rw [List.getD_eq_getElem?_getD, z_fs_at _ _ (by rw [hnf]; exact hj)]
    simp [z_fv, q_new, zI, zL, zR, zN, va_rf]
  · refine W_size fun hz => ?_
    have e := z_fresh o hn hP1 hD1 hz
    subst e
    rw [z_W_push (h' := (q_new h (ci + 1)).2) rfl (z_cell_o (xG X) hk0 n2) (fun i hi => by rw [q_new_nwa]; exact z_new_old (Nat.ne_of_lt hi))] at hP1
    exact k _ _ r hr H1 locs ls (by show h.1 + 1 = _; have h9 : h.1 = xn X + cs := hn; omega) ⟨hP1, by rw [q_new_nwa]; exact z_new_sh hP⟩ hS1 hl
theorem s_nwa_i {K : Nat → Hp → Option ρ} (o : Ok X own cc nL fr lo mc ms rt) {n : Int32} (hw : Cond.arrayClass .int ∈ GW) (h1 : ¬ n < 0) (h2 : n.toNatClampNeg = N) (h3 : N * componentBytes .int ≤ 536870912) (hc : cs + 1 ≤ mc) (hs : sl + N ≤ ms) (d : decode cc pc = .ok (.newarray .int, 2)) (hq : pc + 2 = q) (hc' : cs + 1 = cs') (hs' : sl + N = sl') (k : ∀ a h', Sim X Qf cs' sl' q lv (rf (xG X) a :: st) h' (K a h')) : Sim X Qf cs sl pc lv (.int n :: st) h (bn (q_nwa h 9 N) K) := by
  subst hq; subst hc'; subst hs'
  intro r hr H locs ls hn hP hS hl
  have hR := o.2.2.2.2.2.2.2.2.1
  have hk0 : (zS (q_nwa h 9 N).2 (zN h)).1 = 9 := by simp [q_nwa, zS, zN]
  refine va_newa (atype := .int) (ty := .int) (a0 := (N, .inl (fun _ => 0))) o.1 o.2.1 (o.2.2.2.2.1 _ hw) rfl o.2.2.2.2.2.1.1 hP.1 (z_W_D _ _) hS (z_hA o) (fun cA => rfl) h1 h2 h3 (by rw [hR]; exact hc) (by rw [hR]; exact hs) d (fun qa cA H1 hK1 hP1 hD1 hS1 => ?_)
  refine W_size fun hz => ?_
  have e := z_fresh o hn hP1 hD1 hz
  subst e
  have ea : (xs X).vm.findClass ("[" ++ FieldType.int.toString) = some cA := (hK1.2 4 _ rfl).2
  have eb : (xs X).vm.findClass ("[" ++ FieldType.int.toString) = some (gI (xG X)) := (o.2.2.2.2.2.1.1.2 1 _ rfl).2
  have ec : cA = gI (xG X) := Option.some.inj (ea.symm.trans eb)
  subst ec
  rw [z_W_push (h' := (q_nwa h 9 N).2) rfl (by rw [z_cell_i (xG X) hk0]; simp [q_nwa, zS, zI, zN]) (fun i hi => z_new_old (Nat.ne_of_lt hi))] at hP1
  exact k _ _ r hr H1 locs ls (by show h.1 + 1 = _; have h9 : h.1 = xn X + cs := hn; omega) ⟨hP1, z_new_sh hP⟩ hS1 hl
theorem s_nwa_b {K : Nat → Hp → Option ρ} (o : Ok X own cc nL fr lo mc ms rt) {n : Int32} (hw : Cond.arrayClass .byte ∈ GW) (h1 : ¬ n < 0) (h2 : n.toNatClampNeg = N) (h3 : N * componentBytes .byte ≤ 536870912) (hc : cs + 1 ≤ mc) (hs : sl + N ≤ ms) (d : decode cc pc = .ok (.newarray .byte, 2)) (hq : pc + 2 = q) (hc' : cs + 1 = cs') (hs' : sl + N = sl') (k : ∀ a h', Sim X Qf cs' sl' q lv (rf (xG X) a :: st) h' (K a h')) : Sim X Qf cs sl pc lv (.int n :: st) h (bn (q_nwa h 8 N) K) := by
  subst hq; subst hc'; subst hs'
  intro r hr H locs ls hn hP hS hl
  have hR := o.2.2.2.2.2.2.2.2.1
  have hk0 : (zS (q_nwa h 8 N).2 (zN h)).1 = 8 := by simp [q_nwa, zS, zN]
  refine va_newa (atype := .byte) (ty := .byte) (a0 := (N, .inl (fun _ => 0))) o.1 o.2.1 (o.2.2.2.2.1 _ hw) rfl o.2.2.2.2.2.1.1 hP.1 (z_W_D _ _) hS (z_hA o) (fun cA => rfl) h1 h2 h3 (by rw [hR]; exact hc) (by rw [hR]; exact hs) d (fun qa cA H1 hK1 hP1 hD1 hS1 => ?_)
  refine W_size fun hz => ?_
  have e := z_fresh o hn hP1 hD1 hz
  subst e
  have ea : (xs X).vm.findClass ("[" ++ FieldType.byte.toString) = some cA := (hK1.2 4 _ rfl).2
  have eb : (xs X).vm.findClass ("[" ++ FieldType.byte.toString) = some (gB (xG X)) := (o.2.2.2.2.2.1.1.2 0 _ rfl).2
  have ec : cA = gB (xG X) := Option.some.inj (ea.symm.trans eb)
  subst ec
  rw [z_W_push (h' := (q_nwa h 8 N).2) rfl (by rw [z_cell_b (xG X) hk0]; simp [q_nwa, zS, zI, zN]) (fun i hi => z_new_old (Nat.ne_of_lt hi))] at hP1
  exact k _ _ r hr H1 locs ls (by show h.1 + 1 = _; have h9 : h.1 = xn X + cs := hn; omega) ⟨hP1, z_new_sh hP⟩ hS1 hl
theorem s_nwa_z {K : Nat → Hp → Option ρ} (o : Ok X own cc nL fr lo mc ms rt) {n : Int32} (hw : Cond.arrayClass .boolean ∈ GW) (h1 : ¬ n < 0) (h2 : n.toNatClampNeg = N) (h3 : N * componentBytes .boolean ≤ 536870912) (hc : cs + 1 ≤ mc) (hs : sl + N ≤ ms) (d : decode cc pc = .ok (.newarray .boolean, 2)) (hq : pc + 2 = q) (hc' : cs + 1 = cs') (hs' : sl + N = sl') (k : ∀ a h', Sim X Qf cs' sl' q lv (rf (xG X) a :: st) h' (K a h')) : Sim X Qf cs sl pc lv (.int n :: st) h (bn (q_nwa h 10 N) K) := by
  subst hq; subst hc'; subst hs'
  intro r hr H locs ls hn hP hS hl
  have hR := o.2.2.2.2.2.2.2.2.1
  have hk0 : (zS (q_nwa h 10 N).2 (zN h)).1 = 10 := by simp [q_nwa, zS, zN]
  refine va_newa (atype := .boolean) (ty := .boolean) (a0 := (N, .inl (fun _ => 0))) o.1 o.2.1 (o.2.2.2.2.1 _ hw) rfl o.2.2.2.2.2.1.1 hP.1 (z_W_D _ _) hS (z_hA o) (fun cA => rfl) h1 h2 h3 (by rw [hR]; exact hc) (by rw [hR]; exact hs) d (fun qa cA H1 hK1 hP1 hD1 hS1 => ?_)
  refine W_size fun hz => ?_
  have e := z_fresh o hn hP1 hD1 hz
  subst e
  have ea : (xs X).vm.findClass ("[" ++ FieldType.boolean.toString) = some cA := (hK1.2 4 _ rfl).2
  have eb : (xs X).vm.findClass ("[" ++ FieldType.boolean.toString) = some (gZ (xG X)) := (o.2.2.2.2.2.1.1.2 2 _ rfl).2
  have ec : cA = gZ (xG X) := Option.some.inj (ea.symm.trans eb)
  subst ec
  rw [z_W_push (h' := (q_nwa h 10 N).2) rfl (by rw [z_cell_z (xG X) hk0]; simp [q_nwa, zS, zI, zN]) (fun i hi => z_new_old (Nat.ne_of_lt hi))] at hP1
  exact k _ _ r hr H1 locs ls (by show h.1 + 1 = _; have h9 : h.1 = xn X + cs := hn; omega) ⟨hP1, z_new_sh hP⟩ hS1 hl
theorem s_nwr {K : Nat → Hp → Option ρ} (o : Ok X own cc nL fr lo mc ms rt) {n : Int32} (hw : Cond.classLink own idx RX4 ∈ GW) (h1 : ¬ n < 0) (h2 : n.toNatClampNeg = N) (h3 : N * 4 ≤ 536870912) (hc : cs + 1 ≤ mc) (hs : sl + N ≤ ms) (d : decode cc pc = .ok (.anewarray idx, 3)) (hq : pc + 3 = q) (hc' : cs + 1 = cs') (hs' : sl + N = sl') (k : ∀ a h', Sim X Qf cs' sl' q lv (rf (xG X) a :: st) h' (K a h')) : Sim X Qf cs sl pc lv (.int n :: st) h (bn (q_nwa h 11 N) K) := by
  subst hq; subst hc'; subst hs'
  intro r hr H locs ls hn hP hS hl
  have hR := o.2.2.2.2.2.2.2.2.1
  have hk0 : (zS (q_nwa h 11 N).2 (zN h)).1 = 11 := by simp [q_nwa, zS, zN]
  refine va_newq (C := RX4) o.1 o.2.1 o.2.2.2.1 (o.2.2.2.2.1 _ hw) o.2.2.2.2.2.1.2.2.2.2.2.2.2.2 o.2.2.2.2.2.1.1 hP.1 (z_W_D _ _) hS (z_hA o) h1 h2 h3 (by rw [hR]; exact hc) (by rw [hR]; exact hs) d (fun qa cA H1 hK1 hP1 hD1 hS1 => ?_)
  refine W_size fun hz => ?_
  have e := z_fresh o hn hP1 hD1 hz
  subst e
  obtain ⟨kA, comp, -, -, -, ea⟩ := (hK1.2 4 _ rfl).2
  obtain ⟨kA', comp', -, -, -, eb⟩ := (o.2.2.2.2.2.1.1.2 3 _ rfl).2
  have ec : cA = gS (xG X) := Option.some.inj (ea.symm.trans eb)
  subst ec
  rw [z_W_push (h' := (q_nwa h 11 N).2) rfl (by rw [z_cell_r (xG X) hk0]; simp [q_nwa, zS, zR, zN]) (fun i hi => z_new_old (Nat.ne_of_lt hi))] at hP1
  exact k _ _ r hr H1 locs ls (by show h.1 + 1 = _; have h9 : h.1 = xn X + cs := hn; omega) ⟨hP1, z_new_sh hP⟩ hS1 hl
theorem s_aast {K : Hp → Option ρ} (o : Ok X own cc nL fr lo mc ms rt) {a v : Nat} {i : Int32} (d : decode cc pc = .ok (.aastore, 1)) (hq : pc + 1 = q) (kk : ∀ h', Sim X Qf cs sl q lv st h' (K h')) : Sim X Qf cs sl pc lv (rf (xG X) v :: .int i :: rf (xG X) a :: st) h ((q_rs h a i v).bind K) := by
  subst hq
  intro r hr H locs ls hn hP hS hl
  obtain ⟨h', hv, hr⟩ := Option.bind_eq_some_iff.mp hr
  unfold q_rs at hv
  split at hv
  · rename_i hk
    cases hv
    obtain ⟨k1, k2, k3⟩ := hk
    have ha : a < zN h := hP.2 a (by omega)
    have hb : v < zN h := hP.2 v (by omega)
    have hw := z_W_at (xG X) h ha
    rw [z_cell_r (xG X) k1] at hw
    have hwv := z_W_at (xG X) h hb
    rw [z_cell_o (xG X) (ci := 4) k3 (by omega)] at hwv
    refine va_astq (r := (RX4, TX4, 7)) o.1 o.2.1 o.2.2.2.2.2.1.1 hP.1 (z_W_D _ _) hS a 3 v 4 hw rfl hwv rfl (vp_in_iff.mpr k2) d (fun H1 locs1 hP1 hD1 hS1 => ?_)
    have hf : (fun j => (zR (sR h a i.toNatClampNeg (some v)) a j).map (fun b => (xG X).1 + b)) = va_up (fun j => (zR h a j).map (fun b => (xG X).1 + b)) i.toNatClampNeg (some ((xG X).1 + v)) := by
      funext y
      by_cases hy : y = i.toNatClampNeg <;> simp [sR, up2, va_up, zR, hy]
    rw [z_sR (k := i.toNatClampNeg) (v := some v) ha (by rw [z_cell_r (xG X) (h := sR h a i.toNatClampNeg (some v)) k1, hf]; rfl)] at hP1
    exact kk _ r hr H1 locs1 ls hn ⟨hP1, hP.2⟩ hS1 hl
  · cases hv
end SIME
