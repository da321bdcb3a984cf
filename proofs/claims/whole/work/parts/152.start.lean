/-! ===== the start: what the Statement gives, as z_K ===== -/
def h00 : Hp := (0, fun _ => (0, 0), fun _ _ => 0, fun _ _ => 0, fun _ _ => none)
theorem gw_tbl {w : Cond} (h : w ∈ GW) : w ∈ lw_tbl := (List.mem_filter.mp h).1
theorem z_arr {args : Array Value} {s : State} {ty : FieldType} (h : (Cond.arrayClass ty).before args s = true) : ∃ c, ArrOfT s c ty ∧ s.vm.findClass ("[" ++ ty.toString) = some c := by
  obtain ⟨c, k, comp, h1, h2, h3⟩ := Cond.arrayClass_spec h
  exact ⟨c, fun n z => ⟨fun k h => (by cases h), k, h2, comp, h3⟩, h1⟩
def z_tm (i : Nat) : Term := .string RX2 (92 + 2 * i)

set_option maxHeartbeats 4000000 in
set_option maxRecDepth 100000 in
theorem z_start {s : State} {b : Nat} (hts : ∀ w ∈ lw_tbl, w.before #[Value.ref b] s = true) (hgv : (Jvm.Cond.and given_1 narrow_1).before #[Value.ref b] s = true) : ∃ G : Gx, G.1 = s.heap.size ∧ z_K G s := by
  have hg := flat_of_before _ hgv
  have hA : ∀ a : Nat, a < s.heap.size → ¬ (fun q : Nat => s.heap.size ≤ q) a := fun a h1 h2 => by have h3 : s.heap.size ≤ a := h2; omega
  obtain ⟨c0, i0, k0⟩ := u_known (C := RX0) (T := TX0) (N := 13) (n := 13) hts (fun w h => gw_tbl (lay_0 w h)) (hts (.instantiable RX0 13) (List.mem_of_getElem? (i := 68) (by decide +kernel)))
  obtain ⟨c1, i1, k1⟩ := u_known (C := RX1) (T := TX1) (N := 16) (n := 16) hts (fun w h => gw_tbl (lay_1 w h)) (hts (.instantiable RX1 16) (List.mem_of_getElem? (i := 242) (by decide +kernel)))
  obtain ⟨c2, i2, k2⟩ := u_known (C := RX2) (T := TX2) (N := 7) (n := 7) hts (fun w h => gw_tbl (lay_2 w h)) (hts (.instantiable RX2 7) (List.mem_of_getElem? (i := 149) (by decide +kernel)))
  obtain ⟨c3, i3, k3⟩ := u_known (C := RX3) (T := TX3) (N := 4) (n := 4) hts (fun w h => gw_tbl (lay_3 w h)) (hts (.instantiable RX3 4) (List.mem_of_getElem? (i := 218) (by decide +kernel)))
  obtain ⟨c4, i4, k4⟩ := u_known (C := RX4) (T := TX4) (N := 7) (n := 7) hts (fun w h => gw_tbl (lay_4 w h)) (hts (.instantiable RX4 7) (List.mem_of_getElem? (i := 178) (by decide +kernel)))
  obtain ⟨c5, i5, k5⟩ := u_known (C := RX5) (T := TX5) (N := 11) (n := 11) hts (fun w h => gw_tbl (lay_5 w h)) (hts (.instantiable RX5 11) (List.mem_of_getElem? (i := 60) (by decide +kernel)))
  obtain ⟨c6, i6, k6⟩ := u_known (C := RX6) (T := TX6) (N := 56) (n := 56) hts (fun w h => gw_tbl (lay_6 w h)) (hts (.instantiable RX6 56) (List.mem_of_getElem? (i := 838) (by decide +kernel)))
  obtain ⟨cb, ab, nb⟩ := z_arr (hts (.arrayClass .byte) (List.mem_of_getElem? (i := 146) (by decide +kernel)))
  obtain ⟨ci, ai, ni⟩ := z_arr (hts (.arrayClass .int) (List.mem_of_getElem? (i := 147) (by decide +kernel)))
  obtain ⟨cz, az, nz⟩ := z_arr (hts (.arrayClass .boolean) (List.mem_of_getElem? (i := 240) (by decide +kernel)))
  have hao : (Cond.arrayOver (.object RX4)).before #[Value.ref b] s = true := hts _ (List.mem_of_getElem? (i := 216) (by decide +kernel))
  obtain ⟨comp, cs, ks, s1, s2, s3, s4, s5⟩ := Cond.arrayOver_spec hao
  have het : ∀ j : Nat, j < 7 → (Cond.eq (.elem (.static RX2 "TIMES_MOST" "[I") (.int (Int32.ofNat j))) (.int (z_TM j))).before #[Value.ref b] s = true := by
    intro j hj
    rcases (show j = 0 ∨ j = 1 ∨ j = 2 ∨ j = 3 ∨ j = 4 ∨ j = 5 ∨ j = 6 by omega) with rfl | rfl | rfl | rfl | rfl | rfl | rfl
    · exact hg (.eq (.elem (.static RX2 "TIMES_MOST" "[I") (.int (Int32.ofNat 0))) (.int (z_TM 0))) (by decide +kernel)
    · exact hg (.eq (.elem (.static RX2 "TIMES_MOST" "[I") (.int (Int32.ofNat 1))) (.int (z_TM 1))) (by decide +kernel)
    · exact hg (.eq (.elem (.static RX2 "TIMES_MOST" "[I") (.int (Int32.ofNat 2))) (.int (z_TM 2))) (by decide +kernel)
    · exact hg (.eq (.elem (.static RX2 "TIMES_MOST" "[I") (.int (Int32.ofNat 3))) (.int (z_TM 3))) (by decide +kernel)
    · exact hg (.eq (.elem (.static RX2 "TIMES_MOST" "[I") (.int (Int32.ofNat 4))) (.int (z_TM 4))) (by decide +kernel)
    · exact hg (.eq (.elem (.static RX2 "TIMES_MOST" "[I") (.int (Int32.ofNat 5))) (.int (z_TM 5))) (by decide +kernel)
    · exact hg (.eq (.elem (.static RX2 "TIMES_MOST" "[I") (.int (Int32.ofNat 6))) (.int (z_TM 6))) (by decide +kernel)
  obtain ⟨tt, evt, hTt⟩ := va_Tof (f := fun j => .int (z_TM j)) (N := 7) (A := fun q : Nat => s.heap.size ≤ q) (by decide) (hg (.arrayOf (.static RX2 "TIMES_MOST" "[I") .int) (by decide +kernel)) (va_eqt (hg (.eq (.length (.static RX2 "TIMES_MOST" "[I")) (.int (Int32.ofNat 7))) (by decide +kernel))) (fun j hj => va_eqt (het j hj)) hA
  have hZt := va_Zref (C := RX2) (hts (.laysStatic RX2 "TIMES_MOST" "[I") (List.mem_of_getElem? (i := 442) (by decide +kernel))) (hts (.initialized RX2) (List.mem_of_getElem? (i := 46) (by decide +kernel))) evt hA
  have heu : ∀ j : Nat, j < 7 → (Cond.eq (.elem (.static RX2 "NUMBERS_OF" "[I") (.int (Int32.ofNat j))) (.int (z_NO j))).before #[Value.ref b] s = true := by
    intro j hj
    rcases (show j = 0 ∨ j = 1 ∨ j = 2 ∨ j = 3 ∨ j = 4 ∨ j = 5 ∨ j = 6 by omega) with rfl | rfl | rfl | rfl | rfl | rfl | rfl
    · exact hg (.eq (.elem (.static RX2 "NUMBERS_OF" "[I") (.int (Int32.ofNat 0))) (.int (z_NO 0))) (by decide +kernel)
    · exact hg (.eq (.elem (.static RX2 "NUMBERS_OF" "[I") (.int (Int32.ofNat 1))) (.int (z_NO 1))) (by decide +kernel)
    · exact hg (.eq (.elem (.static RX2 "NUMBERS_OF" "[I") (.int (Int32.ofNat 2))) (.int (z_NO 2))) (by decide +kernel)
    · exact hg (.eq (.elem (.static RX2 "NUMBERS_OF" "[I") (.int (Int32.ofNat 3))) (.int (z_NO 3))) (by decide +kernel)
    · exact hg (.eq (.elem (.static RX2 "NUMBERS_OF" "[I") (.int (Int32.ofNat 4))) (.int (z_NO 4))) (by decide +kernel)
    · exact hg (.eq (.elem (.static RX2 "NUMBERS_OF" "[I") (.int (Int32.ofNat 5))) (.int (z_NO 5))) (by decide +kernel)
    · exact hg (.eq (.elem (.static RX2 "NUMBERS_OF" "[I") (.int (Int32.ofNat 6))) (.int (z_NO 6))) (by decide +kernel)
  obtain ⟨tu, evu, hTu⟩ := va_Tof (f := fun j => .int (z_NO j)) (N := 7) (A := fun q : Nat => s.heap.size ≤ q) (by decide) (hg (.arrayOf (.static RX2 "NUMBERS_OF" "[I") .int) (by decide +kernel)) (va_eqt (hg (.eq (.length (.static RX2 "NUMBERS_OF" "[I")) (.int (Int32.ofNat 7))) (by decide +kernel))) (fun j hj => va_eqt (heu j hj)) hA
  have hZu := va_Zref (C := RX2) (hts (.laysStatic RX2 "NUMBERS_OF" "[I") (List.mem_of_getElem? (i := 444) (by decide +kernel))) (hts (.initialized RX2) (List.mem_of_getElem? (i := 46) (by decide +kernel))) evu hA
  have hZc := va_Zof (A := fun q : Nat => s.heap.size ≤ q) (hts (.laysStatic "java/lang/String" "COMPACT_STRINGS" "Z") (List.mem_of_getElem? (i := 398) (by decide +kernel))) (hts (.initialized "java/lang/String") (List.mem_of_getElem? (i := 53) (by decide +kernel))) (va_eqi (hg (.eq (.static "java/lang/String" "COMPACT_STRINGS" "Z") (.int 1)) (by decide +kernel))) hA
  have hZf := va_Zqof (A := fun q : Nat => s.heap.size ≤ q) (hts (.laysStatic "jdk/internal/util/Preconditions" "SIOOBE_FORMATTER" "Ljava/util/function/BiFunction;") (List.mem_of_getElem? (i := 414) (by decide +kernel))) (hts (.initialized "jdk/internal/util/Preconditions") (List.mem_of_getElem? (i := 55) (by decide +kernel))) (hg (.isRef (.static "jdk/internal/util/Preconditions" "SIOOBE_FORMATTER" "Ljava/util/function/BiFunction;")) (by decide +kernel)) hA
  have hel9 : ∀ i : Nat, i < 7 → ∀ j : Nat, j < z_ln.getD i 0 → (Cond.eq (.elem (.field (z_tm i) "java/lang/String" "value" "[B") (.int (Int32.ofNat j))) (.int ((z_by.getD i []).getD j 0))).before #[Value.ref b] s = true := by
    have key : ∀ i : Fin 7, ∀ j : Fin 6, j.val < z_ln.getD i.val 0 → Cond.eq (.elem (.field (z_tm i.val) "java/lang/String" "value" "[B") (.int (Int32.ofNat j.val))) (.int ((z_by.getD i.val []).getD j.val 0)) ∈ flatC (Jvm.Cond.and given_1 narrow_1) := by decide +kernel
    intro i hi j hj
    have hj6 : j < 6 := Nat.lt_of_lt_of_le hj ((show ∀ i : Fin 7, z_ln.getD i.val 0 ≤ 6 by decide) ⟨i, hi⟩)
    exact hg _ (key ⟨i, hi⟩ ⟨j, hj6⟩ hj)
  have hne9 : ∀ i j : Nat, i < 7 → j < 7 → i ≠ j → (Cond.not (Cond.eq (z_tm i) (z_tm j))).before #[Value.ref b] s = true ∨ (Cond.not (Cond.eq (z_tm j) (z_tm i))).before #[Value.ref b] s = true := by
    have key : ∀ i : Fin 7, ∀ j : Fin 7, i ≠ j → Cond.not (Cond.eq (z_tm i.val) (z_tm j.val)) ∈ flatC (Jvm.Cond.and given_1 narrow_1) ∨ Cond.not (Cond.eq (z_tm j.val) (z_tm i.val)) ∈ flatC (Jvm.Cond.and given_1 narrow_1) := by decide +kernel
    intro i j hi hj hij
    rcases key ⟨i, hi⟩ ⟨j, hj⟩ (fun e => hij (Fin.mk.inj e)) with h | h
    · exact Or.inl (hg _ h)
    · exact Or.inr (hg _ h)
  obtain ⟨adK, adV, hS9, hS8⟩ := vk_Sof (N := 7) (tm := z_tm) (len := z_ln) (byt := z_by) (A := fun q : Nat => s.heap.size ≤ q) (fun i hi => by rcases (show i = 0 ∨ i = 1 ∨ i = 2 ∨ i = 3 ∨ i = 4 ∨ i = 5 ∨ i = 6 by omega) with rfl | rfl | rfl | rfl | rfl | rfl | rfl <;> decide) (fun i hi => by rcases (show i = 0 ∨ i = 1 ∨ i = 2 ∨ i = 3 ∨ i = 4 ∨ i = 5 ∨ i = 6 by omega) with rfl | rfl | rfl | rfl | rfl | rfl | rfl <;> exact hg _ (by decide +kernel)) (fun i hi => by rcases (show i = 0 ∨ i = 1 ∨ i = 2 ∨ i = 3 ∨ i = 4 ∨ i = 5 ∨ i = 6 by omega) with rfl | rfl | rfl | rfl | rfl | rfl | rfl <;> exact hg _ (by decide +kernel)) (fun i hi => by rcases (show i = 0 ∨ i = 1 ∨ i = 2 ∨ i = 3 ∨ i = 4 ∨ i = 5 ∨ i = 6 by omega) with rfl | rfl | rfl | rfl | rfl | rfl | rfl <;> exact hg _ (by decide +kernel)) (fun i hi => by rcases (show i = 0 ∨ i = 1 ∨ i = 2 ∨ i = 3 ∨ i = 4 ∨ i = 5 ∨ i = 6 by omega) with rfl | rfl | rfl | rfl | rfl | rfl | rfl <;> exact hg _ (by decide +kernel)) hel9 hne9 hA
  refine ⟨(s.heap.size, (fun k => match k with | 0 => c0 | 1 => c1 | 2 => c2 | 3 => c3 | 4 => c4 | 5 => c5 | _ => c6, fun k => match k with | 0 => i0 | 1 => i1 | 2 => i2 | 3 => i3 | 4 => i4 | 5 => i5 | _ => i6), (cb, ci, cz, cs), (tt, tu), adK, adV), rfl, ⟨⟨?_, ?_⟩, ?_, ⟨hZt, hTt⟩, ⟨hZu, hTu⟩, hZc, hZf, ?_, hS9, va_AO.of hao⟩⟩
  · intro k q hq
    match k, hq with
    | 0, hq => cases hq; exact k0
    | 1, hq => cases hq; exact k1
    | 2, hq => cases hq; exact k2
    | 3, hq => cases hq; exact k3
    | 4, hq => cases hq; exact k4
    | 5, hq => cases hq; exact k5
    | 6, hq => cases hq; exact k6
    | k + 7, hq => simp [vwCl] at hq
  · intro k q hq
    match k, hq with
    | 0, hq => cases hq; exact ⟨ab, nb⟩
    | 1, hq => cases hq; exact ⟨ai, ni⟩
    | 2, hq => cases hq; exact ⟨az, nz⟩
    | 3, hq => cases hq; exact ⟨fun N z => ⟨(fun k h => by cases h), ks, s3, comp, s4⟩, ks, comp, s3, s4, s1, s5⟩
    | k + 4, hq => simp at hq
  · have key : ∀ w ∈ z_nest, Cond.methodLinkNest w.1 w.2.1 w.2.2.1 w.2.2.2 ∈ lw_tbl := by decide +kernel
    exact fun w hw => va_Nw.of rfl (hts _ (key w hw))
  · intro i hi
    have hr : (Cond.stringRef RX2 (92 + 2 * i) (z_tx.getD i "")).before #[Value.ref b] s = true := by
      have key : ∀ i : Fin 7, Cond.stringRef RX2 (92 + 2 * i.val) (z_tx.getD i.val "") ∈ lw_tbl := by decide +kernel
      exact hts _ (key ⟨i, hi⟩)
    exact vk_R.of hr (hS8 i hi)
set_option maxHeartbeats 4000000 in
set_option maxRecDepth 100000 in
/-- the law from its entry, once the numbers are known to come to 1 -/
theorem whole_open (hp : ∀ (L : Nat) (sx : Nat → Int32), L ≤ 320 → ∃ f, b_L_law_0 f L sx h00 = some ()) {p : Program} {e : Env} {s : State} {m : MethodId} {below : List Frame} {meth : Method} {c : Code} (l : Launch) {b L : Nat} {xs : Nat → Int32} (hL : L ≤ 320) (C0 : lw_At p s m meth c b L xs) : W p l e room_1 s m #[Value.ref b] below meth c s.heap [] 0 0 (lw_Z below #[Value.ref b] s) (entryFrame m ([Value.ref b] : List Value).toArray 4) := by
  obtain ⟨hx, hb, hr, hml, hown, hts, hX, hbl, hlocks, hgv⟩ := C0
  obtain ⟨G, hG, hK⟩ := z_start hts hgv
  obtain ⟨f, hf⟩ := hp L xs hL
  have o : Ok (G, 0, p, l, e, room_1, s, m, #[Value.ref b], below, meth, c) RL cL_law 4 12 446 87 2729 (some .boolean) :=
    ⟨hx, hb, hml, hown, fun w hw => hts w (gw_tbl hw), hK, hlocks, hr, rfl, by show s.heap.size = G.1 + 0; omega⟩
  have lo : LO (G, 0, p, l, e, room_1, s, m, #[Value.ref b], below, meth, c) b L xs := ⟨rfl, hG, hX, hbl⟩
  rw [lg_entry_eq]
  have hl := lv_entry ([.ref b]) (n := 4) (Nat.le_of_ble_eq_true rfl)
  generalize (lg_sl ([.ref b]) ++ List.replicate (4 - (lg_sl ([.ref b])).length) Slot.unset).toArray = ls at hl ⊢
  have hl : lv_has ls 4 [(0, .ref b)] := hl
  rw [← hml] at hl
  exact t_L_law_0 o lo f h00 () hf s.heap [] ls rfl ⟨fun k q h => by simp [z_W, h00, zN] at h, fun a h => absurd rfl h⟩ va_S.rf hl
