/-! ===== branches, fields, rows, calls, returns ===== -/
section SIMB
variable {X : Cx} {own : String} {cc : ByteArray} {nL fr lo mc ms : Nat} {rt : Option FieldType} {ρ : Type} {Qf : ρ → State → Prop} {cs sl pc q : Nat} {lv lv' : List (Nat × Value)} {st : List Value} {h : Hp} {K K1 K2 : Option ρ}
theorem s_if_eq (o : Ok X own cc nL fr lo mc ms rt) {x : Int32} {off : Int} {tgt : Nat} {dc : Decidable (x = 0)} (d : decode cc pc = .ok (.ifCond .eq off, 3)) (ht : (pc : Int) + off = (tgt : Int)) (hq : pc + 3 = q) (kt : Sim X Qf cs sl tgt lv st h K1) (kf : Sim X Qf cs sl q lv st h K2) : Sim X Qf cs sl pc lv (.int x :: st) h (@ite _ (x = 0) dc K1 K2) := by
  subst hq
  intro r hr H locs ls hn hP hS hl
  refine lv_if_eq o.1 o.2.1 d ht (fun c => ?_) (fun c => ?_)
  · rw [if_pos c] at hr; exact kt r hr H locs ls hn hP hS hl
  · rw [if_neg c] at hr; exact kf r hr H locs ls hn hP hS hl
theorem s_ic_eq (o : Ok X own cc nL fr lo mc ms rt) {x y : Int32} {off : Int} {tgt : Nat} {dc : Decidable (x = y)} (d : decode cc pc = .ok (.if_icmp .eq off, 3)) (ht : (pc : Int) + off = (tgt : Int)) (hq : pc + 3 = q) (kt : Sim X Qf cs sl tgt lv st h K1) (kf : Sim X Qf cs sl q lv st h K2) : Sim X Qf cs sl pc lv (.int y :: .int x :: st) h (@ite _ (x = y) dc K1 K2) := by
  subst hq
  intro r hr H locs ls hn hP hS hl
  refine lv_icmp_eq o.1 o.2.1 d ht (fun c => ?_) (fun c => ?_)
  · rw [if_pos c] at hr; exact kt r hr H locs ls hn hP hS hl
  · rw [if_neg c] at hr; exact kf r hr H locs ls hn hP hS hl
theorem s_if_ne (o : Ok X own cc nL fr lo mc ms rt) {x : Int32} {off : Int} {tgt : Nat} {dc : Decidable (¬ x = 0)} (d : decode cc pc = .ok (.ifCond .ne off, 3)) (ht : (pc : Int) + off = (tgt : Int)) (hq : pc + 3 = q) (kt : Sim X Qf cs sl tgt lv st h K1) (kf : Sim X Qf cs sl q lv st h K2) : Sim X Qf cs sl pc lv (.int x :: st) h (@ite _ (¬ x = 0) dc K1 K2) := by
  subst hq
  intro r hr H locs ls hn hP hS hl
  refine lv_if_ne o.1 o.2.1 d ht (fun c => ?_) (fun c => ?_)
  · rw [if_pos c] at hr; exact kt r hr H locs ls hn hP hS hl
  · rw [if_neg (fun n9 => n9 c)] at hr; exact kf r hr H locs ls hn hP hS hl
theorem s_ic_ne (o : Ok X own cc nL fr lo mc ms rt) {x y : Int32} {off : Int} {tgt : Nat} {dc : Decidable (¬ x = y)} (d : decode cc pc = .ok (.if_icmp .ne off, 3)) (ht : (pc : Int) + off = (tgt : Int)) (hq : pc + 3 = q) (kt : Sim X Qf cs sl tgt lv st h K1) (kf : Sim X Qf cs sl q lv st h K2) : Sim X Qf cs sl pc lv (.int y :: .int x :: st) h (@ite _ (¬ x = y) dc K1 K2) := by
  subst hq
  intro r hr H locs ls hn hP hS hl
  refine lv_icmp_ne o.1 o.2.1 d ht (fun c => ?_) (fun c => ?_)
  · rw [if_pos c] at hr; exact kt r hr H locs ls hn hP hS hl
  · rw [if_neg (fun n9 => n9 c)] at hr; exact kf r hr H locs ls hn hP hS hl
theorem s_if_lt (o : Ok X own cc nL fr lo mc ms rt) {x : Int32} {off : Int} {tgt : Nat} {dc : Decidable (x < 0)} (d : decode cc pc = .ok (.ifCond .lt off, 3)) (ht : (pc : Int) + off = (tgt : Int)) (hq : pc + 3 = q) (kt : Sim X Qf cs sl tgt lv st h K1) (kf : Sim X Qf cs sl q lv st h K2) : Sim X Qf cs sl pc lv (.int x :: st) h (@ite _ (x < 0) dc K1 K2) := by
  subst hq
  intro r hr H locs ls hn hP hS hl
  refine lv_if_lt o.1 o.2.1 d ht (fun c => ?_) (fun c => ?_)
  · rw [if_pos c] at hr; exact kt r hr H locs ls hn hP hS hl
  · rw [if_neg c] at hr; exact kf r hr H locs ls hn hP hS hl
theorem s_ic_lt (o : Ok X own cc nL fr lo mc ms rt) {x y : Int32} {off : Int} {tgt : Nat} {dc : Decidable (x < y)} (d : decode cc pc = .ok (.if_icmp .lt off, 3)) (ht : (pc : Int) + off = (tgt : Int)) (hq : pc + 3 = q) (kt : Sim X Qf cs sl tgt lv st h K1) (kf : Sim X Qf cs sl q lv st h K2) : Sim X Qf cs sl pc lv (.int y :: .int x :: st) h (@ite _ (x < y) dc K1 K2) := by
  subst hq
  intro r hr H locs ls hn hP hS hl
  refine lv_icmp_lt o.1 o.2.1 d ht (fun c => ?_) (fun c => ?_)
  · rw [if_pos c] at hr; exact kt r hr H locs ls hn hP hS hl
  · rw [if_neg c] at hr; exact kf r hr H locs ls hn hP hS hl
theorem s_if_ge (o : Ok X own cc nL fr lo mc ms rt) {x : Int32} {off : Int} {tgt : Nat} {dc : Decidable (0 ≤ x)} (d : decode cc pc = .ok (.ifCond .ge off, 3)) (ht : (pc : Int) + off = (tgt : Int)) (hq : pc + 3 = q) (kt : Sim X Qf cs sl tgt lv st h K1) (kf : Sim X Qf cs sl q lv st h K2) : Sim X Qf cs sl pc lv (.int x :: st) h (@ite _ (0 ≤ x) dc K1 K2) := by
  subst hq
  intro r hr H locs ls hn hP hS hl
  refine lv_if_ge o.1 o.2.1 d ht (fun c => ?_) (fun c => ?_)
  · rw [if_pos c] at hr; exact kt r hr H locs ls hn hP hS hl
  · rw [if_neg c] at hr; exact kf r hr H locs ls hn hP hS hl
theorem s_ic_ge (o : Ok X own cc nL fr lo mc ms rt) {x y : Int32} {off : Int} {tgt : Nat} {dc : Decidable (y ≤ x)} (d : decode cc pc = .ok (.if_icmp .ge off, 3)) (ht : (pc : Int) + off = (tgt : Int)) (hq : pc + 3 = q) (kt : Sim X Qf cs sl tgt lv st h K1) (kf : Sim X Qf cs sl q lv st h K2) : Sim X Qf cs sl pc lv (.int y :: .int x :: st) h (@ite _ (y ≤ x) dc K1 K2) := by
  subst hq
  intro r hr H locs ls hn hP hS hl
  refine lv_icmp_ge o.1 o.2.1 d ht (fun c => ?_) (fun c => ?_)
  · rw [if_pos c] at hr; exact kt r hr H locs ls hn hP hS hl
  · rw [if_neg c] at hr; exact kf r hr H locs ls hn hP hS hl
theorem s_if_gt (o : Ok X own cc nL fr lo mc ms rt) {x : Int32} {off : Int} {tgt : Nat} {dc : Decidable (0 < x)} (d : decode cc pc = .ok (.ifCond .gt off, 3)) (ht : (pc : Int) + off = (tgt : Int)) (hq : pc + 3 = q) (kt : Sim X Qf cs sl tgt lv st h K1) (kf : Sim X Qf cs sl q lv st h K2) : Sim X Qf cs sl pc lv (.int x :: st) h (@ite _ (0 < x) dc K1 K2) := by
  subst hq
  intro r hr H locs ls hn hP hS hl
  refine lv_if_gt o.1 o.2.1 d ht (fun c => ?_) (fun c => ?_)
  · rw [if_pos c] at hr; exact kt r hr H locs ls hn hP hS hl
  · rw [if_neg c] at hr; exact kf r hr H locs ls hn hP hS hl
theorem s_ic_gt (o : Ok X own cc nL fr lo mc ms rt) {x y : Int32} {off : Int} {tgt : Nat} {dc : Decidable (y < x)} (d : decode cc pc = .ok (.if_icmp .gt off, 3)) (ht : (pc : Int) + off = (tgt : Int)) (hq : pc + 3 = q) (kt : Sim X Qf cs sl tgt lv st h K1) (kf : Sim X Qf cs sl q lv st h K2) : Sim X Qf cs sl pc lv (.int y :: .int x :: st) h (@ite _ (y < x) dc K1 K2) := by
  subst hq
  intro r hr H locs ls hn hP hS hl
  refine lv_icmp_gt o.1 o.2.1 d ht (fun c => ?_) (fun c => ?_)
  · rw [if_pos c] at hr; exact kt r hr H locs ls hn hP hS hl
  · rw [if_neg c] at hr; exact kf r hr H locs ls hn hP hS hl
theorem s_if_le (o : Ok X own cc nL fr lo mc ms rt) {x : Int32} {off : Int} {tgt : Nat} {dc : Decidable (x ≤ 0)} (d : decode cc pc = .ok (.ifCond .le off, 3)) (ht : (pc : Int) + off = (tgt : Int)) (hq : pc + 3 = q) (kt : Sim X Qf cs sl tgt lv st h K1) (kf : Sim X Qf cs sl q lv st h K2) : Sim X Qf cs sl pc lv (.int x :: st) h (@ite _ (x ≤ 0) dc K1 K2) := by
  subst hq
  intro r hr H locs ls hn hP hS hl
  refine lv_if_le o.1 o.2.1 d ht (fun c => ?_) (fun c => ?_)
  · rw [if_pos c] at hr; exact kt r hr H locs ls hn hP hS hl
  · rw [if_neg c] at hr; exact kf r hr H locs ls hn hP hS hl
theorem s_ic_le (o : Ok X own cc nL fr lo mc ms rt) {x y : Int32} {off : Int} {tgt : Nat} {dc : Decidable (x ≤ y)} (d : decode cc pc = .ok (.if_icmp .le off, 3)) (ht : (pc : Int) + off = (tgt : Int)) (hq : pc + 3 = q) (kt : Sim X Qf cs sl tgt lv st h K1) (kf : Sim X Qf cs sl q lv st h K2) : Sim X Qf cs sl pc lv (.int y :: .int x :: st) h (@ite _ (x ≤ y) dc K1 K2) := by
  subst hq
  intro r hr H locs ls hn hP hS hl
  refine lv_icmp_le o.1 o.2.1 d ht (fun c => ?_) (fun c => ?_)
  · rw [if_pos c] at hr; exact kt r hr H locs ls hn hP hS hl
  · rw [if_neg c] at hr; exact kf r hr H locs ls hn hP hS hl
/-- a switch over a dense row: the K of each place by a list, the other one's K -/
theorem s_table (o : Ok X own cc nL fr lo mc ms rt) {x : Int32} {dflt lw hg : Int} {offs : Array Int} {len : Nat} {dc : Decidable (x.toInt < lw ∨ hg < x.toInt)} {Kf : Int → Option ρ} {tgt : Int → Nat} {tgD : Nat} (d : decode cc pc = .ok (.tableswitch dflt lw hg offs, len)) (hD : (pc : Int) + dflt = (tgD : Int)) (hT : ∀ i : Int, lw ≤ i → i ≤ hg → ∃ off, offs[(i - lw).toNat]? = some off ∧ (pc : Int) + off = (tgt i : Int)) (kd : Sim X Qf cs sl tgD lv st h K1) (kt : ∀ i : Int, lw ≤ i → i ≤ hg → Sim X Qf cs sl (tgt i) lv st h (Kf i)) : Sim X Qf cs sl pc lv (.int x :: st) h (@ite _ (x.toInt < lw ∨ hg < x.toInt) dc K1 (Kf x.toInt)) := by
  intro r hr H locs ls hn hP hS hl
  by_cases c : x.toInt < lw ∨ hg < x.toInt
  · rw [if_pos c] at hr
    exact lv_tableOut o.1 o.2.1 d c hD (kd r hr H locs ls hn hP hS hl)
  · rw [if_neg c] at hr
    obtain ⟨off, h1, h2⟩ := hT x.toInt (by omega) (by omega)
    exact lv_tableIn o.1 o.2.1 d (by omega) (by omega) h1 h2 (kt x.toInt (by omega) (by omega) r hr H locs ls hn hP hS hl)
theorem s_gi (o : Ok X own cc nL fr lo mc ms rt) {a ci k idx : Nat} {fin : Bool} {K : Int32 → Option ρ} (f : FF own idx ci k .int 0 fin) (d : decode cc pc = .ok (.getfield idx, 3)) (hq : pc + 3 = q) (kk : ∀ v, Sim X Qf cs sl q lv (.int v :: st) h (K v)) : Sim X Qf cs sl pc lv (rf (xG X) a :: st) h ((q_gi h a ci k).bind K) := by
  subst hq
  intro r hr H locs ls hn hP hS hl
  obtain ⟨v, hv, hr⟩ := Option.bind_eq_some_iff.mp hr
  obtain ⟨rr, f1, f2, f3, f4, f5, f6, f7, f8, f9, f10⟩ := f
  unfold q_gi at hv
  split at hv
  · rename_i hk
    cases hv
    have ha : a < zN h := hP.2 a (by omega)
    have hnf : z_nf ci = rr.2.2 := by unfold z_nf; rw [f1]
    have hw := z_W_at (xG X) h ha
    rw [z_cell_o (xG X) hk f2] at hw
    refine va_get (C := rr.1) (T := rr.2.1) (N := rr.2.2) o.1 o.2.1 (o.2.2.2.2.1) f8 o.2.2.2.1 o.2.2.2.2.2.1.1 hP.1 a hw f1 k f3 (o.2.2.2.2.1 _ f4) (fun _ h9 => h9) (v := .int (zI h a k)) ?_ d (kk _ r hr H locs ls hn hP hS hl)
    rw [z_fs_at _ _ (by rw [hnf]; exact f3)]
    simp [z_fv, f6]
  · cases hv
theorem s_gl (o : Ok X own cc nL fr lo mc ms rt) {a ci k idx : Nat} {fin : Bool} {K : Int64 → Option ρ} (f : FF own idx ci k .long 1 fin) (d : decode cc pc = .ok (.getfield idx, 3)) (hq : pc + 3 = q) (kk : ∀ v, Sim X Qf cs sl q lv (.long v :: st) h (K v)) : Sim X Qf cs sl pc lv (rf (xG X) a :: st) h ((q_gl h a ci k).bind K) := by
  subst hq
  intro r hr H locs ls hn hP hS hl
  obtain ⟨v, hv, hr⟩ := Option.bind_eq_some_iff.mp hr
  obtain ⟨rr, f1, f2, f3, f4, f5, f6, f7, f8, f9, f10⟩ := f
  unfold q_gl at hv
  split at hv
  · rename_i hk
    cases hv
    have ha : a < zN h := hP.2 a (by omega)
    have hnf : z_nf ci = rr.2.2 := by unfold z_nf; rw [f1]
    have hw := z_W_at (xG X) h ha
    rw [z_cell_o (xG X) hk f2] at hw
    refine va_get (C := rr.1) (T := rr.2.1) (N := rr.2.2) o.1 o.2.1 (o.2.2.2.2.1) f8 o.2.2.2.1 o.2.2.2.2.2.1.1 hP.1 a hw f1 k f3 (o.2.2.2.2.1 _ f4) (fun _ h9 => h9) (v := .long (zL h a k)) ?_ d (kk _ r hr H locs ls hn hP hS hl)
    rw [z_fs_at _ _ (by rw [hnf]; exact f3)]
    simp [z_fv, f6]
  · cases hv
theorem s_gr (o : Ok X own cc nL fr lo mc ms rt) {a ci k idx : Nat} {fin : Bool} {ty : FieldType} {K : Nat → Option ρ} (f : FF own idx ci k ty 2 fin) (d : decode cc pc = .ok (.getfield idx, 3)) (hq : pc + 3 = q) (kk : ∀ v, Sim X Qf cs sl q lv (rf (xG X) v :: st) h (K v)) : Sim X Qf cs sl pc lv (rf (xG X) a :: st) h ((q_gr h a ci k).bind K) := by
  subst hq
  intro r hr H locs ls hn hP hS hl
  obtain ⟨v, hv, hr⟩ := Option.bind_eq_some_iff.mp hr
  obtain ⟨rr, f1, f2, f3, f4, f5, f6, f7, f8, f9, f10⟩ := f
  unfold q_gr at hv
  split at hv
  · rename_i hk
    have ha : a < zN h := hP.2 a (by omega)
    have hnf : z_nf ci = rr.2.2 := by unfold z_nf; rw [f1]
    have hw := z_W_at (xG X) h ha
    rw [z_cell_o (xG X) hk f2] at hw
    refine va_get (C := rr.1) (T := rr.2.1) (N := rr.2.2) o.1 o.2.1 (o.2.2.2.2.1) f8 o.2.2.2.1 o.2.2.2.2.2.1.1 hP.1 a hw f1 k f3 (o.2.2.2.2.1 _ f4) (fun _ h9 => h9) (v := rf (xG X) v) ?_ d (kk _ r hr H locs ls hn hP hS hl)
    rw [z_fs_at _ _ (by rw [hnf]; exact f3)]
    simp [z_fv, f6, hv, va_rf]
  · cases hv
theorem s_pi (o : Ok X own cc nL fr lo mc ms rt) {a ci k idx : Nat} {v : Int32} {K : Hp → Option ρ} (f : FF own idx ci k .int 0 false) (d : decode cc pc = .ok (.putfield idx, 3)) (hq : pc + 3 = q) (kk : ∀ h', Sim X Qf cs sl q lv st h' (K h')) : Sim X Qf cs sl pc lv (.int v :: rf (xG X) a :: st) h ((q_pi h a ci k v).bind K) := by
  subst hq
  intro r hr H locs ls hn hP hS hl
  obtain ⟨h', hv, hr⟩ := Option.bind_eq_some_iff.mp hr
  obtain ⟨rr, f1, f2, f3, f4, f5, f6, f7, f8, ⟨ty0, f9⟩, f10⟩ := f
  unfold q_pi at hv
  split at hv
  · rename_i hk
    cases hv
    have ha : a < zN h := hP.2 a (by omega)
    have hnf : z_nf ci = rr.2.2 := by unfold z_nf; rw [f1]
    have hw := z_W_at (xG X) h ha
    rw [z_cell_o (xG X) hk f2] at hw
    have he : z_cell (xG X) (sI h a k v) a = .inr (ci, ((List.range (z_nf ci)).map (z_fv (xG X) h ci a)).set k (.int v)) := by
      rw [z_cell_o (xG X) (h := sI h a k v) hk f2]
      rw [z_fs_set (z_nf ci) (z_fv (xG X) h ci a) (z_fv (xG X) (sI h a k v) ci a)]
      · simp [z_fv, f6, sI, up2, zI, zL, zR]
      · intro j hj
        simp [z_fv, sI, up2, hj, zI, zL, zR]
    refine va_put (C := rr.1) (T := rr.2.1) (N := rr.2.2) (ty := .int) o.1 o.2.1 (o.2.2.2.2.1) f8 ty0 f9 f10 o.2.2.2.1 o.2.2.2.2.2.1.1 hP.1 (z_W_D _ _) hS a hw f1 k f3 (o.2.2.2.2.1 _ f4) (fun _ h9 => h9) f7 f5 rfl rfl (by simpa [hnf] using f3) d (fun H1 locs1 hP1 hD1 hS1 => ?_)
    rw [z_sI ha he] at hP1
    exact kk _ r hr H1 locs1 ls hn ⟨hP1, hP.2⟩ hS1 hl
  · cases hv
theorem s_pl (o : Ok X own cc nL fr lo mc ms rt) {a ci k idx : Nat} {v : Int64} {K : Hp → Option ρ} (f : FF own idx ci k .long 1 false) (d : decode cc pc = .ok (.putfield idx, 3)) (hq : pc + 3 = q) (kk : ∀ h', Sim X Qf cs sl q lv st h' (K h')) : Sim X Qf cs sl pc lv (.long v :: rf (xG X) a :: st) h ((q_pl h a ci k v).bind K) := by
  subst hq
  intro r hr H locs ls hn hP hS hl
  obtain ⟨h', hv, hr⟩ := Option.bind_eq_some_iff.mp hr
  obtain ⟨rr, f1, f2, f3, f4, f5, f6, f7, f8, ⟨ty0, f9⟩, f10⟩ := f
  unfold q_pl at hv
  split at hv
  · rename_i hk
    cases hv
    have ha : a < zN h := hP.2 a (by omega)
    have hnf : z_nf ci = rr.2.2 := by unfold z_nf; rw [f1]
    have hw := z_W_at (xG X) h ha
    rw [z_cell_o (xG X) hk f2] at hw
    have he : z_cell (xG X) (sL h a k v) a = .inr (ci, ((List.range (z_nf ci)).map (z_fv (xG X) h ci a)).set k (.long v)) := by
      rw [z_cell_o (xG X) (h := sL h a k v) hk f2]
      rw [z_fs_set (z_nf ci) (z_fv (xG X) h ci a) (z_fv (xG X) (sL h a k v) ci a)]
      · simp [z_fv, f6, sL, up2, zI, zL, zR]
      · intro j hj
        simp [z_fv, sL, up2, hj, zI, zL, zR]
    refine va_put (C := rr.1) (T := rr.2.1) (N := rr.2.2) (ty := .long) o.1 o.2.1 (o.2.2.2.2.1) f8 ty0 f9 f10 o.2.2.2.1 o.2.2.2.2.2.1.1 hP.1 (z_W_D _ _) hS a hw f1 k f3 (o.2.2.2.2.1 _ f4) (fun _ h9 => h9) f7 f5 rfl rfl (by simpa [hnf] using f3) d (fun H1 locs1 hP1 hD1 hS1 => ?_)
    rw [z_sL ha he] at hP1
    exact kk _ r hr H1 locs1 ls hn ⟨hP1, hP.2⟩ hS1 hl
  · cases hv
theorem s_pr (o : Ok X own cc nL fr lo mc ms rt) {a ci k idx v : Nat} {ty : FieldType} {K : Hp → Option ρ} (f : FF own idx ci k ty 2 false) (hna : ∀ x : Nat, narrow ty (.ref x) = .ref x) (hfi : ∀ x : Nat, fits ty (.ref x) = true) (d : decode cc pc = .ok (.putfield idx, 3)) (hq : pc + 3 = q) (kk : ∀ h', Sim X Qf cs sl q lv st h' (K h')) : Sim X Qf cs sl pc lv (rf (xG X) v :: rf (xG X) a :: st) h ((q_pr h a ci k v).bind K) := by
  subst hq
  intro r hr H locs ls hn hP hS hl
  obtain ⟨h', hv, hr⟩ := Option.bind_eq_some_iff.mp hr
  obtain ⟨rr, f1, f2, f3, f4, f5, f6, f7, f8, ⟨ty0, f9⟩, f10⟩ := f
  unfold q_pr at hv
  split at hv
  · rename_i hk
    cases hv
    have ha : a < zN h := hP.2 a (by omega)
    have hnf : z_nf ci = rr.2.2 := by unfold z_nf; rw [f1]
    have hw := z_W_at (xG X) h ha
    rw [z_cell_o (xG X) hk f2] at hw
    have he : z_cell (xG X) (sR h a k (some v)) a = .inr (ci, ((List.range (z_nf ci)).map (z_fv (xG X) h ci a)).set k (rf (xG X) v)) := by
      rw [z_cell_o (xG X) (h := sR h a k (some v)) hk f2]
      rw [z_fs_set (z_nf ci) (z_fv (xG X) h ci a) (z_fv (xG X) (sR h a k (some v)) ci a)]
      · simp [z_fv, f6, sR, up2, va_rf, zI, zL, zR]
      · intro j hj
        simp [z_fv, sR, up2, hj, zI, zL, zR]
    refine va_put (C := rr.1) (T := rr.2.1) (N := rr.2.2) (ty := ty) o.1 o.2.1 (o.2.2.2.2.1) f8 ty0 f9 f10 o.2.2.2.1 o.2.2.2.2.2.1.1 hP.1 (z_W_D _ _) hS a hw f1 k f3 (o.2.2.2.2.1 _ f4) (fun _ h9 => h9) f7 f5 (hna _) (hfi _) (by simpa [hnf] using f3) d (fun H1 locs1 hP1 hD1 hS1 => ?_)
    rw [z_sR ha he] at hP1
    exact kk _ r hr H1 locs1 ls hn ⟨hP1, hP.2⟩ hS1 hl
  · cases hv
theorem s_prF (o : Ok X own cc nL fr lo mc ms rt) {a ci k idx v : Nat} {ty : FieldType} {K : Hp → Option ρ} (f : FF own idx ci k ty 2 true) (hna : ∀ x : Nat, narrow ty (.ref x) = .ref x) (hfi : ∀ x : Nat, fits ty (.ref x) = true) (hin : (xM X).name = "<init>") (hde : ∀ rr : vw_C, vwCl[ci]? = some rr → (rr.2.1 k).1 = own) (d : decode cc pc = .ok (.putfield idx, 3)) (hq : pc + 3 = q) (kk : ∀ h', Sim X Qf cs sl q lv st h' (K h')) : Sim X Qf cs sl pc lv (rf (xG X) v :: rf (xG X) a :: st) h ((q_pr h a ci k v).bind K) := by
  subst hq
  intro r hr H locs ls hn hP hS hl
  obtain ⟨h', hv, hr⟩ := Option.bind_eq_some_iff.mp hr
  obtain ⟨rr, f1, f2, f3, f4, f5, f6, f7, f8, ⟨ty0, f9⟩, f10⟩ := f
  unfold q_pr at hv
  split at hv
  · rename_i hk
    cases hv
    have ha : a < zN h := hP.2 a (by omega)
    have hnf : z_nf ci = rr.2.2 := by unfold z_nf; rw [f1]
    have hw := z_W_at (xG X) h ha
    rw [z_cell_o (xG X) hk f2] at hw
    have he : z_cell (xG X) (sR h a k (some v)) a = .inr (ci, ((List.range (z_nf ci)).map (z_fv (xG X) h ci a)).set k (rf (xG X) v)) := by
      rw [z_cell_o (xG X) (h := sR h a k (some v)) hk f2]
      rw [z_fs_set (z_nf ci) (z_fv (xG X) h ci a) (z_fv (xG X) (sR h a k (some v)) ci a)]
      · simp [z_fv, f6, sR, up2, va_rf, zI, zL, zR]
      · intro j hj
        simp [z_fv, sR, up2, hj, zI, zL, zR]
    refine va_putF (C := rr.1) (T := rr.2.1) (N := rr.2.2) (ty := ty) o.1 o.2.1 (o.2.2.2.2.1) f8 ty0 f9 f10 o.2.2.2.1 o.2.2.2.2.2.1.1 hP.1 (z_W_D _ _) hS a hw f1 k f3 (o.2.2.2.2.1 _ f4) (fun _ h9 => h9) f7 hin (hde _ f1) f5 (hna _) (hfi _) (by simpa [hnf] using f3) d (fun H1 locs1 hP1 hD1 hS1 => ?_)
    rw [z_sR ha he] at hP1
    exact kk _ r hr H1 locs1 ls hn ⟨hP1, hP.2⟩ hS1 hl
  · cases hv
theorem s_iald (o : Ok X own cc nL fr lo mc ms rt) {a : Nat} {i : Int32} {K : Int32 → Option ρ} (d : decode cc pc = .ok (.iaload, 1)) (hq : pc + 1 = q) (kk : ∀ v, Sim X Qf cs sl q lv (.int v :: st) h (K v)) : Sim X Qf cs sl pc lv (.int i :: rf (xG X) a :: st) h ((q_ai h a 9 i).bind K) := by
  subst hq
  intro r hr H locs ls hn hP hS hl
  obtain ⟨v, hv, hr⟩ := Option.bind_eq_some_iff.mp hr
  unfold q_ai at hv
  split at hv
  · rename_i hk
    cases hv
    have ha : a < zN h := hP.2 a (by omega)
    have hw := z_W_at (xG X) h ha
    rw [z_cell_i (xG X) hk.1] at hw
    exact va_iald o.1 o.2.1 o.2.2.2.2.2.1.1 hP.1 a 1 hw rfl (vp_in_iff.mpr hk.2) d (kk _ r hr H locs ls hn hP hS hl)
  · cases hv
theorem s_iast (o : Ok X own cc nL fr lo mc ms rt) {a : Nat} {i x : Int32} {K : Hp → Option ρ} (d : decode cc pc = .ok (.iastore, 1)) (hq : pc + 1 = q) (kk : ∀ h', Sim X Qf cs sl q lv st h' (K h')) : Sim X Qf cs sl pc lv (.int x :: .int i :: rf (xG X) a :: st) h ((q_as h a 9 i x).bind K) := by
  subst hq
  intro r hr H locs ls hn hP hS hl
  obtain ⟨h', hv, hr⟩ := Option.bind_eq_some_iff.mp hr
  unfold q_as at hv
  split at hv
  · rename_i hk
    cases hv
    have ha : a < zN h := hP.2 a (by omega)
    have hw := z_W_at (xG X) h ha
    rw [z_cell_i (xG X) hk.1] at hw
    refine va_iast o.1 o.2.1 o.2.2.2.2.2.1.1 hP.1 (z_W_D _ _) hS a 1 hw rfl (vp_in_iff.mpr hk.2) d (fun H1 locs1 hP1 hD1 hS1 => ?_)
    rw [z_sI (k := i.toNatClampNeg) (v := x) ha (by rw [z_cell_i (xG X) (h := sI h a i.toNatClampNeg x) hk.1]; congr 3; congr 1; funext y; simp [sI, up2, upd, zI])] at hP1
    exact kk _ r hr H1 locs1 ls hn ⟨hP1, hP.2⟩ hS1 hl
  · cases hv
theorem s_bald (o : Ok X own cc nL fr lo mc ms rt) {a : Nat} {i : Int32} {K : Int32 → Option ρ} (d : decode cc pc = .ok (.baload, 1)) (hq : pc + 1 = q) (kk : ∀ v, Sim X Qf cs sl q lv (.int v :: st) h (K v)) : Sim X Qf cs sl pc lv (.int i :: rf (xG X) a :: st) h ((q_ai h a 8 i).bind K) := by
  subst hq
  intro r hr H locs ls hn hP hS hl
  obtain ⟨v, hv, hr⟩ := Option.bind_eq_some_iff.mp hr
  unfold q_ai at hv
  split at hv
  · rename_i hk
    cases hv
    have ha : a < zN h := hP.2 a (by omega)
    have hw := z_W_at (xG X) h ha
    rw [z_cell_b (xG X) hk.1] at hw
    exact va_bald o.1 o.2.1 o.2.2.2.2.2.1.1 hP.1 a 0 hw rfl (vp_in_iff.mpr hk.2) d (kk _ r hr H locs ls hn hP hS hl)
  · cases hv
theorem s_bast (o : Ok X own cc nL fr lo mc ms rt) {a : Nat} {i x : Int32} {K : Hp → Option ρ} (d : decode cc pc = .ok (.bastore, 1)) (hq : pc + 1 = q) (kk : ∀ h', Sim X Qf cs sl q lv st h' (K h')) : Sim X Qf cs sl pc lv (.int x :: .int i :: rf (xG X) a :: st) h ((q_as h a 8 i (vp_nar .byte x)).bind K) := by
  subst hq
  intro r hr H locs ls hn hP hS hl
  obtain ⟨h', hv, hr⟩ := Option.bind_eq_some_iff.mp hr
  unfold q_as at hv
  split at hv
  · rename_i hk
    cases hv
    have ha : a < zN h := hP.2 a (by omega)
    have hw := z_W_at (xG X) h ha
    rw [z_cell_b (xG X) hk.1] at hw
    refine va_bast o.1 o.2.1 o.2.2.2.2.2.1.1 hP.1 (z_W_D _ _) hS a 0 hw rfl (vp_in_iff.mpr hk.2) d (fun H1 locs1 hP1 hD1 hS1 => ?_)
    rw [z_sI (k := i.toNatClampNeg) (v := (vp_nar .byte x)) ha (by rw [z_cell_b (xG X) (h := sI h a i.toNatClampNeg (vp_nar .byte x)) hk.1]; congr 3; congr 1; funext y; simp [sI, up2, upd, zI])] at hP1
    exact kk _ r hr H1 locs1 ls hn ⟨hP1, hP.2⟩ hS1 hl
  · cases hv
theorem s_zald (o : Ok X own cc nL fr lo mc ms rt) {a : Nat} {i : Int32} {K : Int32 → Option ρ} (d : decode cc pc = .ok (.baload, 1)) (hq : pc + 1 = q) (kk : ∀ v, Sim X Qf cs sl q lv (.int v :: st) h (K v)) : Sim X Qf cs sl pc lv (.int i :: rf (xG X) a :: st) h ((q_ai h a 10 i).bind K) := by
  subst hq
  intro r hr H locs ls hn hP hS hl
  obtain ⟨v, hv, hr⟩ := Option.bind_eq_some_iff.mp hr
  unfold q_ai at hv
  split at hv
  · rename_i hk
    cases hv
    have ha : a < zN h := hP.2 a (by omega)
    have hw := z_W_at (xG X) h ha
    rw [z_cell_z (xG X) hk.1] at hw
    exact va_zald o.1 o.2.1 o.2.2.2.2.2.1.1 hP.1 a 2 hw rfl (vp_in_iff.mpr hk.2) d (kk _ r hr H locs ls hn hP hS hl)
  · cases hv
theorem s_zast (o : Ok X own cc nL fr lo mc ms rt) {a : Nat} {i x : Int32} {K : Hp → Option ρ} (d : decode cc pc = .ok (.bastore, 1)) (hq : pc + 1 = q) (kk : ∀ h', Sim X Qf cs sl q lv st h' (K h')) : Sim X Qf cs sl pc lv (.int x :: .int i :: rf (xG X) a :: st) h ((q_as h a 10 i (vp_nar .boolean x)).bind K) := by
  subst hq
  intro r hr H locs ls hn hP hS hl
  obtain ⟨h', hv, hr⟩ := Option.bind_eq_some_iff.mp hr
  unfold q_as at hv
  split at hv
  · rename_i hk
    cases hv
    have ha : a < zN h := hP.2 a (by omega)
    have hw := z_W_at (xG X) h ha
    rw [z_cell_z (xG X) hk.1] at hw
    refine va_zast o.1 o.2.1 o.2.2.2.2.2.1.1 hP.1 (z_W_D _ _) hS a 2 hw rfl (vp_in_iff.mpr hk.2) d (fun H1 locs1 hP1 hD1 hS1 => ?_)
    rw [z_sI (k := i.toNatClampNeg) (v := (vp_nar .boolean x)) ha (by rw [z_cell_z (xG X) (h := sI h a i.toNatClampNeg (vp_nar .boolean x)) hk.1]; congr 3; congr 1; funext y; simp [sI, up2, upd, zI])] at hP1
    exact kk _ r hr H1 locs1 ls hn ⟨hP1, hP.2⟩ hS1 hl
  · cases hv
theorem s_aald (o : Ok X own cc nL fr lo mc ms rt) {a : Nat} {i : Int32} {K : Nat → Option ρ} (d : decode cc pc = .ok (.aaload, 1)) (hq : pc + 1 = q) (kk : ∀ v, Sim X Qf cs sl q lv (rf (xG X) v :: st) h (K v)) : Sim X Qf cs sl pc lv (.int i :: rf (xG X) a :: st) h ((q_ar h a i).bind K) := by
  subst hq
  intro r hr H locs ls hn hP hS hl
  obtain ⟨v, hv, hr⟩ := Option.bind_eq_some_iff.mp hr
  unfold q_ar at hv
  split at hv
  · rename_i hk
    have ha : a < zN h := hP.2 a (by omega)
    have hw := z_W_at (xG X) h ha
    rw [z_cell_r (xG X) hk.1] at hw
    refine va_aldq o.1 o.2.1 o.2.2.2.2.2.1.1 hP.1 a 3 hw rfl (vp_in_iff.mpr hk.2) d ?_
    rw [hv]
    exact kk _ r hr H locs ls hn hP hS hl
  · cases hv
theorem s_alen (o : Ok X own cc nL fr lo mc ms rt) {a : Nat} {K : Int32 → Option ρ} (d : decode cc pc = .ok (.arraylength, 1)) (hq : pc + 1 = q) (kk : ∀ v, Sim X Qf cs sl q lv (.int v :: st) h (K v)) : Sim X Qf cs sl pc lv (rf (xG X) a :: st) h ((q_al h a).bind K) := by
  subst hq
  intro r hr H locs ls hn hP hS hl
  obtain ⟨v, hv, hr⟩ := Option.bind_eq_some_iff.mp hr
  unfold q_al at hv
  split at hv
  · rename_i hk
    cases hv
    have ha : a < zN h := hP.2 a (by omega)
    have hw := z_W_at (xG X) h ha
    rcases (show (zS h a).1 = 8 ∨ (zS h a).1 = 9 ∨ (zS h a).1 = 10 ∨ (zS h a).1 = 11 by omega) with e | e | e | e
    · rw [z_cell_b (xG X) e] at hw
      exact va_alen o.1 o.2.1 o.2.2.2.2.2.1.1 hP.1 a 0 hw (ty := .byte) rfl rfl d (kk _ r hr H locs ls hn hP hS hl)
    · rw [z_cell_i (xG X) e] at hw
      exact va_alen o.1 o.2.1 o.2.2.2.2.2.1.1 hP.1 a 1 hw (ty := .int) rfl rfl d (kk _ r hr H locs ls hn hP hS hl)
    · rw [z_cell_z (xG X) e] at hw
      exact va_alen o.1 o.2.1 o.2.2.2.2.2.1.1 hP.1 a 2 hw (ty := .boolean) rfl rfl d (kk _ r hr H locs ls hn hP hS hl)
    · rw [z_cell_r (xG X) e] at hw
      exact va_alen o.1 o.2.1 o.2.2.2.2.2.1.1 hP.1 a 3 hw (ty := .object "SixMaps$Standing") rfl rfl d (kk _ r hr H locs ls hn hP hS hl)
  · cases hv
theorem q_ge0 {x : Int32} (h : 0 ≤ x.toInt) : ¬ x < 0 := fun hx => by
  have := Int32.lt_iff_toInt_lt.mp hx
  simp at this
  omega
/-- System.arraycopy of ints -/
theorem s_copy (o : Ok X own cc nL fr lo mc ms rt) {a b idx : Nat} {sp dp n : Int32} {K : Hp → Option ρ} (hw : ∀ w ∈ [Cond.methodLink own idx arraycopyName, Cond.native arraycopyName, Cond.static arraycopyName, Cond.initialized "java/lang/System"], w ∈ GW) (hfr : 1 ≤ fr) (hlo : (st.map fun v => v.category).sum + (nativeFrameWords "java/lang/System" "arraycopy" 5 + 11) ≤ lo) (d : decode cc pc = .ok (.invokestatic idx, 3)) (hq : pc + 3 = q) (kk : ∀ h', Sim X Qf cs sl q lv st h' (K h')) : Sim X Qf cs sl pc lv (.int n :: .int dp :: rf (xG X) b :: .int sp :: rf (xG X) a :: st) h ((q_cp h a sp b dp n).bind K) := by
  subst hq
  intro r hr H locs ls hn hP hS hl
  obtain ⟨h', hv, hr⟩ := Option.bind_eq_some_iff.mp hr
  unfold q_cp at hv
  split at hv
  · rename_i hk
    cases hv
    obtain ⟨k1, k2, k3, k4, k5, k6, k7⟩ := hk
    have ha : a < zN h := hP.2 a (by omega)
    have hb : b < zN h := hP.2 b (by omega)
    have hwa := z_W_at (xG X) h ha
    rw [z_cell_i (xG X) k1] at hwa
    have hwb := z_W_at (xG X) h hb
    rw [z_cell_i (xG X) k2] at hwb
    have hw' : ∀ w ∈ [Cond.methodLink own idx arraycopyName, Cond.native arraycopyName, Cond.static arraycopyName, Cond.initialized "java/lang/System"], w.before (xa X) (xs X) = true := fun w h9 => o.2.2.2.2.1 w (hw w h9)
    have hR := o.2.2.2.2.2.2.2.2.1
    refine va_copyi o.1 o.2.1 hl.1.symm o.2.2.2.1 (hw' _ (by simp)) (hw' _ (by simp)) (hw' _ (by simp)) (hw' _ (by simp)) o.2.2.2.2.2.1.1 hP.1 (z_W_D _ _) hS a b 1 1 (ty := .int) hwa hwb rfl rfl rfl (q_ge0 k3) (q_ge0 k4) (q_ge0 k5) k6 k7 (fun _ _ => rfl) (by rw [hR]; exact hfr) (by rw [hR]; exact hlo) d (fun H1 locs1 hP1 hD1 hS1 => ?_)
    rw [z_W_set (G := xG X) (h := h) (h' := sC h a b sp.toNatClampNeg dp.toNatClampNeg n.toNatClampNeg) (e := .inl (gI (xG X), (zS h b).2, .inl (va_cpy (zI h a) (zI h b) sp.toNatClampNeg dp.toNatClampNeg n.toNatClampNeg))) rfl hb (by rw [z_cell_i (xG X) (h := sC h a b sp.toNatClampNeg dp.toNatClampNeg n.toNatClampNeg) k2]; (try simp [sC, zI])) (fun i hi => z_cell_same rfl (by simp [sC, hi, zI]) rfl rfl)] at hP1
    exact kk _ r hr H1 locs1 ls hn ⟨hP1, hP.2⟩ hS1 hl
  · cases hv
theorem s_max (o : Ok X own cc nL fr lo mc ms rt) {idx : Nat} {x y : Int32} (hw : ∀ w ∈ [Cond.methodLink own idx Lib.Math.max.name, Cond.static Lib.Math.max.name, Cond.initialized "java/lang/Math", Cond.code Lib.Math.max.name Lib.Math.max.code 2 (some .int)], w ∈ GW) (hfr : 1 ≤ fr) (hlo : (st.map fun v => v.category).sum + 13 ≤ lo) (hc : cs ≤ mc) (hs : sl ≤ ms) (d : decode cc pc = .ok (.invokestatic idx, 3)) (hq : pc + 3 = q) (k : Sim X Qf cs sl q lv (.int (if x < y then y else x) :: st) h K) : Sim X Qf cs sl pc lv (.int y :: .int x :: st) h K := by
  subst hq
  intro r hr H locs ls hn hP hS hl
  have hw' := fun w h9 => o.2.2.2.2.1 w (hw w h9)
  have hR := o.2.2.2.2.2.2.2.2.1
  exact va_mmax o.1 o.2.1 hl.1.symm o.2.2.2.1 (hw' _ (by simp)) (hw' _ (by simp)) (hw' _ (by simp)) (hw' _ (by simp)) (by rw [hR]; exact hfr) (by rw [hR]; exact hlo) (by rw [hR]; exact hc) (by rw [hR]; exact hs) d (k r hr H locs ls hn hP hS hl)
theorem s_min (o : Ok X own cc nL fr lo mc ms rt) {idx : Nat} {x y : Int32} (hw : ∀ w ∈ [Cond.methodLink own idx Lib.Math.min.name, Cond.static Lib.Math.min.name, Cond.initialized "java/lang/Math", Cond.code Lib.Math.min.name Lib.Math.min.code 2 (some .int)], w ∈ GW) (hfr : 1 ≤ fr) (hlo : (st.map fun v => v.category).sum + 13 ≤ lo) (hc : cs ≤ mc) (hs : sl ≤ ms) (d : decode cc pc = .ok (.invokestatic idx, 3)) (hq : pc + 3 = q) (k : Sim X Qf cs sl q lv (.int (if y < x then y else x) :: st) h K) : Sim X Qf cs sl pc lv (.int y :: .int x :: st) h K := by
  subst hq
  intro r hr H locs ls hn hP hS hl
  have hw' := fun w h9 => o.2.2.2.2.1 w (hw w h9)
  have hR := o.2.2.2.2.2.2.2.2.1
  exact va_mmin o.1 o.2.1 hl.1.symm o.2.2.2.1 (hw' _ (by simp)) (hw' _ (by simp)) (hw' _ (by simp)) (hw' _ (by simp)) (by rw [hR]; exact hfr) (by rw [hR]; exact hlo) (by rw [hR]; exact hc) (by rw [hR]; exact hs) d (k r hr H locs ls hn hP hS hl)
theorem s_abs (o : Ok X own cc nL fr lo mc ms rt) {idx : Nat} {x : Int32} (hw : ∀ w ∈ [Cond.methodLink own idx Lib.Math.abs.name, Cond.static Lib.Math.abs.name, Cond.initialized "java/lang/Math", Cond.code Lib.Math.abs.name Lib.Math.abs.code 1 (some .int)], w ∈ GW) (hfr : 1 ≤ fr) (hlo : (st.map fun v => v.category).sum + 13 ≤ lo) (hc : cs ≤ mc) (hs : sl ≤ ms) (d : decode cc pc = .ok (.invokestatic idx, 3)) (hq : pc + 3 = q) (k : Sim X Qf cs sl q lv (.int (if 0 ≤ x then x else 0 - x) :: st) h K) : Sim X Qf cs sl pc lv (.int x :: st) h K := by
  subst hq
  intro r hr H locs ls hn hP hS hl
  have hw' := fun w h9 => o.2.2.2.2.1 w (hw w h9)
  have hR := o.2.2.2.2.2.2.2.2.1
  exact va_mabs o.1 o.2.1 hl.1.symm o.2.2.2.1 (hw' _ (by simp)) (hw' _ (by simp)) (hw' _ (by simp)) (hw' _ (by simp)) (by rw [hR]; exact hfr) (by rw [hR]; exact hlo) (by rw [hR]; exact hc) (by rw [hR]; exact hs) d (k r hr H locs ls hn hP hS hl)
end SIMB
