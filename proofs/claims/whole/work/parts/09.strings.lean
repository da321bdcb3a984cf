/-! ===== the text constants: rows, JDK methods on them, nameOf ===== -/
def q_sj {α : Type} (j : Nat) (K : Option α) : Option α := if j < 7 then K else none
def q_vb (j : Nat) (i : Int32) : Option Int32 := if q_in i (z_ln.getD j 0) then some ((z_by.getD j []).getD i.toNatClampNeg 0) else none
def q_ch {α : Type} (v : Int32) (K : Option α) : Option α := if (v.toUInt32 % 65536).toInt32 = v then K else none
def CT (own : String) (idx : Nat) (y : MethodName) (cc : ByteArray) (maxL : Nat) (ret : Option FieldType) (n : Nat) : Prop := (∀ w ∈ wsV own idx RJ0 y [Cond.code y cc maxL ret], w ∈ GW) ∧ (y.cls = RJ0 ∧ y.cls ≠ "java/lang/invoke/MethodHandle" ∧ y.cls ≠ "java/lang/invoke/VarHandle" ∧ (parseMethodDescriptor y.desc).map (fun d => d.parameters.length) = some n)
def z_qs (G : Gx) (n0 : Nat) (r : Nat × Hp) : Array Value → State → Outcome → State → Prop := va_Qr (fun (u : Hp) => u = r.2 ∧ zN r.2 = n0) (fun u a t => a = gK G r.1 ∧ z_P G u t.heap) (z_A G)
def z_Zs (X : Cx) (mc ms : Nat) (r : Nat × Hp) : State → Prop := MQ (xb X) (z_qs (xG X) (xn X + mc) r) (xa X) (xs X) mc ms (z_A (xG X))
section STR
variable {X : Cx} {own : String} {cc : ByteArray} {nL fr lo mc ms : Nat} {rt : Option FieldType} {ρ : Type} {Qf : ρ → State → Prop} {cs sl pc q : Nat} {lv lv' : List (Nat × Value)} {st rest As : List Value} {h : Hp} {K : Option ρ}
variable {j idx n maxL fr' lo' mc' ms' cs' sl' : Nat} {y : MethodName} {cc' : ByteArray} {ret : Option FieldType} {Qc : Array Value → State → Outcome → State → Prop}
theorem s_cmp (o : Ok X own cc nL fr lo mc ms rt) (hw : Cond.fieldLink own idx RJ0 "COMPACT_STRINGS" "Z" ∈ GW) (d : decode cc pc = .ok (.getstatic idx, 3)) (hq : pc + 3 = q) (k : Sim X Qf cs sl q lv (.int 1 :: st) h K) : Sim X Qf cs sl pc lv st h K := by
  subst hq
  exact fun r hr H locs ls hn hP hS hl => va_gets o.1 o.2.1 o.2.2.2.2.2.1.2.2.2.2.1 hS o.2.2.2.1 (o.2.2.2.2.1 _ hw) (fun _ h9 => h9) d (k r hr H locs ls hn hP hS hl)
theorem s_fmt (o : Ok X own cc nL fr lo mc ms rt) (hw : Cond.fieldLink own idx RJ3 "SIOOBE_FORMATTER" "Ljava/util/function/BiFunction;" ∈ GW) (d : decode cc pc = .ok (.getstatic idx, 3)) (hq : pc + 3 = q) (k : ∀ v : Value, (v = .null ∨ ∃ t, v = .ref t) → Sim X Qf cs sl q lv (v :: st) h K) : Sim X Qf cs sl pc lv st h K := by
  subst hq
  intro r hr H locs ls hn hP hS hl
  rcases o.2.2.2.2.2.1.2.2.2.2.2.1 with hz | ⟨t, hz⟩
  · exact va_gets o.1 o.2.1 hz hS o.2.2.2.1 (o.2.2.2.2.1 _ hw) (fun _ h9 => h9) d (k _ (Or.inl rfl) r hr H locs ls hn hP hS hl)
  · exact va_gets o.1 o.2.1 hz hS o.2.2.2.1 (o.2.2.2.2.1 _ hw) (fun _ h9 => h9) d (k _ (Or.inr ⟨t, rfl⟩) r hr H locs ls hn hP hS hl)
theorem s_scod (o : Ok X own cc nL fr lo mc ms rt) (hj : j < 7) (hw : Cond.fieldLink own idx RJ0 "coder" "B" ∈ GW) (d : decode cc pc = .ok (.getfield idx, 3)) (hq : pc + 3 = q) (k : Sim X Qf cs sl q lv (.int 0 :: st) h K) : Sim X Qf cs sl pc lv (.ref (gK (xG X) j) :: st) h K := by
  subst hq
  exact fun r hr H locs ls hn hP hS hl => vk_getf o.1 o.2.1 (o.2.2.2.2.2.1.2.2.2.2.2.2.2.1.1 j hj).2.1 hS o.2.2.2.1 (o.2.2.2.2.1 _ hw) (fun _ h9 => h9) d (k r hr H locs ls hn hP hS hl)
theorem s_sval (o : Ok X own cc nL fr lo mc ms rt) (hj : j < 7) (hw : Cond.fieldLink own idx RJ0 "value" "[B" ∈ GW) (d : decode cc pc = .ok (.getfield idx, 3)) (hq : pc + 3 = q) (k : Sim X Qf cs sl q lv (.ref (gV (xG X) j) :: st) h K) : Sim X Qf cs sl pc lv (.ref (gK (xG X) j) :: st) h K := by
  subst hq
  exact fun r hr H locs ls hn hP hS hl => vk_getf o.1 o.2.1 (o.2.2.2.2.2.1.2.2.2.2.2.2.2.1.1 j hj).2.2.1 hS o.2.2.2.1 (o.2.2.2.2.1 _ hw) (fun _ h9 => h9) d (k r hr H locs ls hn hP hS hl)
theorem s_vlen (o : Ok X own cc nL fr lo mc ms rt) (hj : j < 7) (d : decode cc pc = .ok (.arraylength, 1)) (hq : pc + 1 = q) (k : Sim X Qf cs sl q lv (.int (Int32.ofNat (z_ln.getD j 0)) :: st) h K) : Sim X Qf cs sl pc lv (.ref (gV (xG X) j) :: st) h K := by
  subst hq
  exact fun r hr H locs ls hn hP hS hl => va_tlen o.1 o.2.1 (o.2.2.2.2.2.1.2.2.2.2.2.2.2.1.1 j hj).2.2.2 hS rfl d (k r hr H locs ls hn hP hS hl)
theorem s_vald {K : Int32 → Option ρ} (o : Ok X own cc nL fr lo mc ms rt) (hj : j < 7) {i : Int32} (d : decode cc pc = .ok (.baload, 1)) (hq : pc + 1 = q) (k : ∀ v, Sim X Qf cs sl q lv (.int v :: st) h (K v)) : Sim X Qf cs sl pc lv (.int i :: .ref (gV (xG X) j) :: st) h ((q_vb j i).bind K) := by
  subst hq
  intro r hr H locs ls hn hP hS hl
  obtain ⟨v, hv, hr⟩ := Option.bind_eq_some_iff.mp hr
  unfold q_vb at hv
  split at hv
  · rename_i hi
    cases hv
    exact va_tb o.1 o.2.1 (o.2.2.2.2.2.1.2.2.2.2.2.2.2.1.1 j hj).2.2.2 hS (vp_in_iff.mpr hi) rfl d (k _ r hr H locs ls hn hP hS hl)
  · cases hv
theorem s_i2c (o : Ok X own cc nL fr lo mc ms rt) {x : Int32} (d : decode cc pc = .ok (.i2c, 1)) (hq : pc + 1 = q) (k : Sim X Qf cs sl q lv (.int (x.toUInt32 % 65536).toInt32 :: st) h K) : Sim X Qf cs sl pc lv (.int x :: st) h K := by
  subst hq; exact fun r hr H locs ls hn hP hS hl => lv_i2c o.1 o.2.1 d rfl (k r hr H locs ls hn hP hS hl)
theorem s_cret (o : Ok X own cc nL fr lo mc ms (some .char)) {v : Int32} (d : decode cc pc = .ok (.ireturn, 1)) : Sim X (z_Zi X cs sl) cs sl pc lv [.int v] h (q_ch v (some (v, h))) := by
  intro r hr H locs ls hn hP hS hl
  unfold q_ch at hr
  split at hr
  · rename_i hv
    cases hr
    exact W.zret o.1 o.2.1 o.2.2.2.2.2.2.2.1 (by rw [← hv]; exact pk_nc v) (fun t ht hW => ⟨⟨v, h, rfl, ⟨rfl, rfl, hn⟩, by show z_P _ _ t.heap; rw [ht]; exact hP⟩, hS.F ht⟩) hS.2.2 d o.2.2.2.2.2.2.1
  · cases hr
theorem s_bret0 (o : Ok X own cc nL fr lo mc ms (some .byte)) (d : decode cc pc = .ok (.ireturn, 1)) : Sim X (z_Zi X cs sl) cs sl pc lv [.int 0] h (some (0, h)) := by
  intro r hr H locs ls hn hP hS hl
  cases hr
  exact W.zret o.1 o.2.1 o.2.2.2.2.2.2.2.1 rfl (fun t ht hW => ⟨⟨0, h, rfl, ⟨rfl, rfl, hn⟩, by show z_P _ _ t.heap; rw [ht]; exact hP⟩, hS.F ht⟩) hS.2.2 d o.2.2.2.2.2.2.1
theorem s_ldcS (o : Ok X RX2 cc nL fr lo mc ms rt) (hj : j < 7) (hi : 92 + 2 * j = idx) (d : decode cc pc = .ok (.ldc idx, 2)) (hq : pc + 2 = q) (k : Sim X Qf cs sl q lv (.ref (gK (xG X) j) :: st) h K) : Sim X Qf cs sl pc lv st h K := by
  subst hq; subst hi
  exact fun r hr H locs ls hn hP hS hl => va_ldcS o.1 o.2.1 o.2.2.2.1 (o.2.2.2.2.2.1.2.2.2.2.2.2.1 j hj) d (k r hr H locs ls hn hP hS hl)
theorem s_sret (o : Ok X own cc nL fr lo mc ms (some (.object "java/lang/String"))) (d : decode cc pc = .ok (.areturn, 1)) : Sim X (z_Zs X cs sl) cs sl pc lv [.ref (gK (xG X) j)] h (some (j, h)) := by
  intro r hr H locs ls hn hP hS hl
  cases hr
  exact W.aret o.1 o.2.1 o.2.2.2.2.2.2.2.1 (Or.inl ⟨_, rfl⟩) (Or.inr ⟨_, rfl⟩) (fun t ht hW => ⟨⟨h, _, rfl, ⟨rfl, hn⟩, rfl, by show z_P _ _ t.heap; rw [ht]; exact hP⟩, hS.F ht⟩) hS.2.2 d o.2.2.2.2.2.2.1
theorem s_sj (k : j < 7 → Sim X Qf cs sl pc lv st h K) : Sim X Qf cs sl pc lv st h (q_sj j K) := by
  intro r hr
  unfold q_sj at hr
  split at hr
  · rename_i hk; exact k hk r hr
  · cases hr
theorem runT (o : Ok X own cc nL fr lo mc ms rt) (hj : j < 7) (cf : CT own idx y cc' maxL ret n) (hM : Met (xl X) y (Cond.code y cc' maxL ret :: GW) { frames := fr', cells := mc', slots := ms', locals := lo' } (z_pre (xG X) (.ref (gK (xG X) j) :: As) h) Qc mc' ms' (z_A (xG X))) (hR : fr' + 1 ≤ fr ∧ 8 + (maxL + 11) + lo' ≤ lo) (hn : As.length = n) (hst : st = As.reverse ++ .ref (gK (xG X) j) :: rest) (hcat : (rest.map fun v => v.category).sum ≤ 8) (d : decode cc pc = .ok (.invokevirtual idx, 3)) (hf : cs + mc' ≤ mc ∧ sl + ms' ≤ ms) : Run X cs sl pc mc' ms' lv st rest h Qc (.ref (gK (xG X) j) :: As) := by
  intro H locs ls hnn hP hS hl
  refine va_Run_size fun hz => ?_
  obtain ⟨c3, c4⟩ := cf
  have hRR := o.2.2.2.2.2.2.2.2.1
  refine va_runV (C := RJ0) (Ts := GW) (As := As) (rest := rest) (b := gK (xG X) j) (n := n) ⟨o.1, o.2.1, rfl, o.2.2.2.1, o.2.2.2.2.1⟩ hM (cwV n o.2.2.2.2.1 (gw_good ?_) rfl rfl rfl c4 (by rw [hRR]; exact hR)) ⟨z_blind _ _ _, vk_recv o.2.2.2.2.2.1.2.2.2.2.2.2.2.1 hj hS, z_at_call o hnn hP hS hz⟩ rfl hn hl.1 hst (lv_room hcat) d (by rw [hRR]; exact hf)
  intro w hw9
  rcases List.mem_append.mp hw9 with h9 | h9
  · exact c3 w (List.mem_append_left _ h9)
  · rcases List.mem_cons.mp h9 with h9 | h9
    · exact c3 w (List.mem_append_right _ (by rw [h9]; exact List.mem_cons_self))
    · exact h9
theorem s_bs {K0 : Option (Nat × Hp)} {K : Nat → Hp → Option ρ} {vs : List Value} (hrun : ∀ r0, K0 = some r0 → Run X cs sl pc mc' ms' lv st rest h (z_qs (xG X) (zN h + mc') r0) vs) (hq : pc + 3 = q) (hc : cs + mc' = cs') (hs : sl + ms' = sl') (k : ∀ v h', Sim X Qf cs' sl' q lv (.ref (gK (xG X) v) :: rest) h' (K v h')) : Sim X Qf cs sl pc lv st h (bi K0 K) := by
  subst hq; subst hc; subst hs
  intro r hr H locs ls hn hP hS hl
  obtain ⟨r0, hr0, hr⟩ := Option.bind_eq_some_iff.mp hr
  refine va_callr (hrun r0 hr0 H locs ls hn hP hS hl) hS (fun q _ h => h) (fun q h => h) (fun u ra t H1 locs1 ht hvm hw hB hz hk hS1 => ?_)
  obtain ⟨rfl, hn1⟩ := hw
  obtain ⟨rfl, hB⟩ := hB
  exact k _ _ r hr H1 locs1 ls (by omega) (by rw [← ht]; exact hB) hS1 hl
end STR
theorem kv_9 : Cond.fieldLink RJ0 9 RJ0 "value" "[B" ∈ GW := gw_in 1330 (by decide +kernel) rfl
theorem kv_15 : Cond.fieldLink RJ0 15 RJ0 "coder" "B" ∈ GW := gw_in 1331 (by decide +kernel) rfl
theorem kv_38 : Cond.fieldLink RJ0 38 RJ0 "COMPACT_STRINGS" "Z" ∈ GW := gw_in 397 (by decide +kernel) rfl
theorem kv_1053 : Cond.fieldLink RJ0 1053 RJ3 "SIOOBE_FORMATTER" "Ljava/util/function/BiFunction;" ∈ GW := gw_in 413 (by decide +kernel) rfl
theorem ct_335 : CT RJ0 335 yJ0_coder_7d493 cJ0_coder_7d493 1 (some .byte) 0 := ⟨gw_all _ [393, 394, 395, 53, 396] (by decide) (by decide +kernel), by decide +kernel⟩
theorem ct_492 : CT RJ0 492 yJ0_isLatin1_aae02 cJ0_isLatin1_aae02 1 (some .boolean) 0 := ⟨gw_all _ [403, 404, 405, 53, 406] (by decide) (by decide +kernel), by decide +kernel⟩
theorem ct_106 : CT RX2 106 yJ0_length_8abf5 cJ0_length_8abf5 1 (some .int) 0 := ⟨gw_all _ [389, 390, 391, 53, 392] (by decide) (by decide +kernel), by decide +kernel⟩
theorem ct_110 : CT RX2 110 yJ0_charAt_5068e cJ0_charAt_5068e 2 (some .char) 1 := ⟨gw_all _ [399, 400, 401, 53, 402] (by decide) (by decide +kernel), by decide +kernel⟩
theorem cs_J0_1059 : CS RJ0 1059 yJ3_checkIndex_8e157 cJ3_checkIndex_8e157 3 (some .int) 3 := ⟨gw_all _ [415, 416, 55, 417] (by decide) (by decide +kernel), by decide +kernel⟩
theorem cs_J1_9 : CS RJ1 9 yJ0_checkIndex_df160 cJ0_checkIndex_df160 2 none 2 := ⟨gw_all _ [410, 411, 53, 412] (by decide) (by decide +kernel), by decide +kernel⟩
theorem cs_J0_495 : CS RJ0 495 yJ1_charAt_3b067 cJ1_charAt_3b067 2 (some .char) 2 := ⟨gw_all _ [407, 408, 54, 409] (by decide) (by decide +kernel), by decide +kernel⟩
def f_J3_ci (i n : Int32) (h : Hp) : Option (Int32 × Hp) := if i < 0 then none else if i < n then some (i, h) else none
theorem t_J3_ci {X : Cx} (o : Ok X RJ3 cJ3_checkIndex_8e157 3 0 0 0 0 (some .int)) (i n : Int32) (h : Hp) : Sim X (z_Zi X 0 0) 0 0 0 [(0, .int i), (1, .int n)] [] h (f_J3_ci i n h) := by
  unfold f_J3_ci
  refine s_iload_n o 0 rfl dJ3_checkIndex_8e157_0 (q := 1) rfl ?_
  refine s_if_lt o (tgt := 9) dJ3_checkIndex_8e157_1 (by decide) (q := 4) rfl s_none ?_
  refine s_iload_n o 0 rfl dJ3_checkIndex_8e157_4 (q := 5) rfl ?_
  refine s_iload_n o 1 rfl dJ3_checkIndex_8e157_5 (q := 6) rfl ?_
  refine s_ic_lt o (tgt := 16) dJ3_checkIndex_8e157_6 (by decide) (q := 9) rfl ?_ s_none
  refine s_iload_n o 0 rfl dJ3_checkIndex_8e157_16 (q := 17) rfl ?_
  exact s_iret o dJ3_checkIndex_8e157_17
theorem c_J3_ci (G : Gx) (i n : Int32) (v : Value) (hv : v = .null ∨ ∃ t, v = .ref t) (h : Hp) : z_M z_qi G yJ3_checkIndex_8e157 cJ3_checkIndex_8e157 3 (some .int) 0 0 0 0 [.int i, .int n, v] h (f_J3_ci i n h) := by
  rcases hv with rfl | ⟨t, rfl⟩
  · exact z_met (by decide +kernel) (Nat.le_of_ble_eq_true rfl) (fun X hG hn o hnm => by
      subst hG
      show Sim X (z_Zi X 0 0) 0 0 0 [(0, .int i), (1, .int n), (2, .null)] [] h _
      exact s_sub [0, 1] rfl (t_J3_ci o i n h))
  · exact z_met (by decide +kernel) (Nat.le_of_ble_eq_true rfl) (fun X hG hn o hnm => by
      subst hG
      show Sim X (z_Zi X 0 0) 0 0 0 [(0, .int i), (1, .int n), (2, .ref t)] [] h _
      exact s_sub [0, 1] rfl (t_J3_ci o i n h))
def f_J0_ci (i n : Int32) (h : Hp) : Option Hp := bi (f_J3_ci i n h) fun _ h2 => some h2
theorem c_J0_ci (G : Gx) (i n : Int32) (h : Hp) : z_M z_qv G yJ0_checkIndex_df160 cJ0_checkIndex_df160 2 none 1 22 0 0 [.int i, .int n] h (f_J0_ci i n h) :=
  z_met (by decide +kernel) (Nat.le_of_ble_eq_true rfl) (fun X hG hn o hnm => by
    subst hG
    show Sim X (z_Zv X 0 0) 0 0 0 [(0, .int i), (1, .int n)] [] h _
    unfold f_J0_ci
    refine s_iload_n o 0 rfl dJ0_checkIndex_df160_0 (q := 1) rfl ?_
    refine s_iload_n o 1 rfl dJ0_checkIndex_df160_1 (q := 2) rfl ?_
    refine s_fmt o kv_1053 dJ0_checkIndex_df160_2 (q := 5) rfl (fun v hv => ?_)
    refine s_bi (fun r0 hr0 => runS o cs_J0_1059 (c_J3_ci (xG X) i n v hv h (xl X) r0 hr0) ⟨Nat.le_of_ble_eq_true rfl, Nat.le_of_ble_eq_true rfl⟩ rfl rfl (Nat.le_of_ble_eq_true rfl) dJ0_checkIndex_df160_5 ⟨Nat.le_of_ble_eq_true rfl, Nat.le_of_ble_eq_true rfl⟩) (q := 8) rfl (cs' := 0) rfl (sl' := 0) rfl (fun v2 h2 => ?_)
    refine s_pop o rfl dJ0_checkIndex_df160_8 (q := 9) rfl ?_
    exact s_vret o dJ0_checkIndex_df160_9)
def f_J1_ch (j : Nat) (i : Int32) (h : Hp) : Option (Int32 × Hp) := (f_J0_ci i (Int32.ofNat (z_ln.getD j 0)) h).bind fun h2 => (q_vb j i).bind fun b => q_ch ((b &&& 255).toUInt32 % 65536).toInt32 (some (((b &&& 255).toUInt32 % 65536).toInt32, h2))
theorem c_J1_ch (G : Gx) (j : Nat) (hj : j < 7) (i : Int32) (h : Hp) : z_M z_qi G yJ1_charAt_3b067 cJ1_charAt_3b067 2 (some .char) 2 43 0 0 [.ref (gV G j), .int i] h (f_J1_ch j i h) :=
  z_met (by decide +kernel) (Nat.le_of_ble_eq_true rfl) (fun X hG hn o hnm => by
    subst hG
    show Sim X (z_Zi X 0 0) 0 0 0 [(0, .ref (gV (xG X) j)), (1, .int i)] [] h _
    unfold f_J1_ch
    refine s_iload_n o 1 rfl dJ1_charAt_3b067_0 (q := 1) rfl ?_
    refine s_aload_n o 0 rfl dJ1_charAt_3b067_1 (q := 2) rfl ?_
    refine s_vlen o hj dJ1_charAt_3b067_2 (q := 3) rfl ?_
    refine s_callv (fun r0 hr0 => runS o cs_J1_9 (c_J0_ci (xG X) i (Int32.ofNat (z_ln.getD j 0)) h (xl X) r0 hr0) ⟨Nat.le_of_ble_eq_true rfl, Nat.le_of_ble_eq_true rfl⟩ rfl rfl (Nat.le_of_ble_eq_true rfl) dJ1_charAt_3b067_3 ⟨Nat.le_of_ble_eq_true rfl, Nat.le_of_ble_eq_true rfl⟩) (q := 6) rfl (cs' := 0) rfl (sl' := 0) rfl (fun h2 => ?_)
    refine s_aload_n o 0 rfl dJ1_charAt_3b067_6 (q := 7) rfl ?_
    refine s_iload_n o 1 rfl dJ1_charAt_3b067_7 (q := 8) rfl ?_
    refine s_vald o hj dJ1_charAt_3b067_8 (q := 9) rfl (fun b => ?_)
    refine s_sipush o dJ1_charAt_3b067_9 (v := (255 : Int32)) (by decide) (q := 12) rfl ?_
    refine s_iand o dJ1_charAt_3b067_12 (q := 13) rfl ?_
    refine s_i2c o dJ1_charAt_3b067_13 (q := 14) rfl ?_
    exact s_cret o dJ1_charAt_3b067_14)
def f_J0_lat (h : Hp) : Option (Int32 × Hp) := some (1, h)
theorem c_J0_lat (G : Gx) (j : Nat) (hj : j < 7) (h : Hp) : z_M z_qi G yJ0_isLatin1_aae02 cJ0_isLatin1_aae02 1 (some .boolean) 0 0 0 0 [.ref (gK G j)] h (f_J0_lat h) :=
  z_met (by decide +kernel) (Nat.le_of_ble_eq_true rfl) (fun X hG hn o hnm => by
    subst hG
    show Sim X (z_Zi X 0 0) 0 0 0 [(0, .ref (gK (xG X) j))] [] h (if (1 : Int32) = 0 then none else if ¬ (0 : Int32) = 0 then none else q_bo 1 (some (1, h)))
    refine s_cmp o kv_38 dJ0_isLatin1_aae02_0 (q := 3) rfl ?_
    refine s_if_eq o (tgt := 17) dJ0_isLatin1_aae02_3 (by decide) (q := 6) rfl s_none ?_
    refine s_aload_n o 0 rfl dJ0_isLatin1_aae02_6 (q := 7) rfl ?_
    refine s_scod o hj kv_15 dJ0_isLatin1_aae02_7 (q := 10) rfl ?_
    refine s_if_ne o (tgt := 17) dJ0_isLatin1_aae02_10 (by decide) (q := 13) rfl s_none ?_
    refine s_iconst o dJ0_isLatin1_aae02_13 (v := (1 : Int32)) (by decide) (q := 14) rfl ?_
    refine s_goto o (tgt := 18) dJ0_isLatin1_aae02_14 (by decide) ?_
    exact s_zret o dJ0_isLatin1_aae02_18)
def f_J0_cod (h : Hp) : Option (Int32 × Hp) := some (0, h)
theorem c_J0_cod (G : Gx) (j : Nat) (hj : j < 7) (h : Hp) : z_M z_qi G yJ0_coder_7d493 cJ0_coder_7d493 1 (some .byte) 0 0 0 0 [.ref (gK G j)] h (f_J0_cod h) :=
  z_met (by decide +kernel) (Nat.le_of_ble_eq_true rfl) (fun X hG hn o hnm => by
    subst hG
    show Sim X (z_Zi X 0 0) 0 0 0 [(0, .ref (gK (xG X) j))] [] h (if (1 : Int32) = 0 then none else some (0, h))
    refine s_cmp o kv_38 dJ0_coder_7d493_0 (q := 3) rfl ?_
    refine s_if_eq o (tgt := 13) dJ0_coder_7d493_3 (by decide) (q := 6) rfl s_none ?_
    refine s_aload_n o 0 rfl dJ0_coder_7d493_6 (q := 7) rfl ?_
    refine s_scod o hj kv_15 dJ0_coder_7d493_7 (q := 10) rfl ?_
    refine s_goto o (tgt := 14) dJ0_coder_7d493_10 (by decide) ?_
    exact s_bret0 o dJ0_coder_7d493_14)
def f_J0_len (j : Nat) (h : Hp) : Option (Int32 × Hp) := bi (f_J0_cod h) fun v h2 => some (Int32.ofNat (z_ln.getD j 0) >>> (v &&& 31), h2)
theorem c_J0_len (G : Gx) (j : Nat) (hj : j < 7) (h : Hp) : z_M z_qi G yJ0_length_8abf5 cJ0_length_8abf5 1 (some .int) 1 20 0 0 [.ref (gK G j)] h (f_J0_len j h) :=
  z_met (by decide +kernel) (Nat.le_of_ble_eq_true rfl) (fun X hG hn o hnm => by
    subst hG
    show Sim X (z_Zi X 0 0) 0 0 0 [(0, .ref (gK (xG X) j))] [] h _
    unfold f_J0_len
    refine s_aload_n o 0 rfl dJ0_length_8abf5_0 (q := 1) rfl ?_
    refine s_sval o hj kv_9 dJ0_length_8abf5_1 (q := 4) rfl ?_
    refine s_vlen o hj dJ0_length_8abf5_4 (q := 5) rfl ?_
    refine s_aload_n o 0 rfl dJ0_length_8abf5_5 (q := 6) rfl ?_
    refine s_bi (fun r0 hr0 => runT o hj ct_335 (c_J0_cod (xG X) j hj h (xl X) r0 hr0) ⟨Nat.le_of_ble_eq_true rfl, Nat.le_of_ble_eq_true rfl⟩ rfl rfl (Nat.le_of_ble_eq_true rfl) dJ0_length_8abf5_6 ⟨Nat.le_of_ble_eq_true rfl, Nat.le_of_ble_eq_true rfl⟩) (q := 9) rfl (cs' := 0) rfl (sl' := 0) rfl (fun v2 h2 => ?_)
    refine s_ishr o dJ0_length_8abf5_9 (q := 10) rfl ?_
    exact s_iret o dJ0_length_8abf5_10)
def f_J0_ch (j : Nat) (i : Int32) (h : Hp) : Option (Int32 × Hp) := bi (f_J0_lat h) fun v h2 => if v = 0 then none else bi (f_J1_ch j i h2) fun w h3 => q_ch w (some (w, h3))
theorem c_J0_ch (G : Gx) (j : Nat) (hj : j < 7) (i : Int32) (h : Hp) : z_M z_qi G yJ0_charAt_5068e cJ0_charAt_5068e 2 (some .char) 3 64 0 0 [.ref (gK G j), .int i] h (f_J0_ch j i h) :=
  z_met (by decide +kernel) (Nat.le_of_ble_eq_true rfl) (fun X hG hn o hnm => by
    subst hG
    show Sim X (z_Zi X 0 0) 0 0 0 [(0, .ref (gK (xG X) j)), (1, .int i)] [] h _
    unfold f_J0_ch
    refine s_aload_n o 0 rfl dJ0_charAt_5068e_0 (q := 1) rfl ?_
    refine s_bi (fun r0 hr0 => runT o hj ct_492 (c_J0_lat (xG X) j hj h (xl X) r0 hr0) ⟨Nat.le_of_ble_eq_true rfl, Nat.le_of_ble_eq_true rfl⟩ rfl rfl (Nat.le_of_ble_eq_true rfl) dJ0_charAt_5068e_1 ⟨Nat.le_of_ble_eq_true rfl, Nat.le_of_ble_eq_true rfl⟩) (q := 4) rfl (cs' := 0) rfl (sl' := 0) rfl (fun v2 h2 => ?_)
    refine s_if_eq o (tgt := 16) dJ0_charAt_5068e_4 (by decide) (q := 7) rfl s_none ?_
    refine s_aload_n o 0 rfl dJ0_charAt_5068e_7 (q := 8) rfl ?_
    refine s_sval o hj kv_9 dJ0_charAt_5068e_8 (q := 11) rfl ?_
    refine s_iload_n o 1 rfl dJ0_charAt_5068e_11 (q := 12) rfl ?_
    refine s_bi (fun r0 hr0 => runS o cs_J0_495 (c_J1_ch (xG X) j hj i h2 (xl X) r0 hr0) ⟨Nat.le_of_ble_eq_true rfl, Nat.le_of_ble_eq_true rfl⟩ rfl rfl (Nat.le_of_ble_eq_true rfl) dJ0_charAt_5068e_12 ⟨Nat.le_of_ble_eq_true rfl, Nat.le_of_ble_eq_true rfl⟩) (q := 15) rfl (cs' := 0) rfl (sl' := 0) rfl (fun v3 h3 => ?_)
    exact s_cret o dJ0_charAt_5068e_15)
def f_X2_nameOf (f : Nat) (x : Int32) (h : Hp) : Option (Nat × Hp) := sw x 0 [some (0, h), some (1, h), some (2, h), some (3, h), some (4, h), some (5, h)] (some (6, h))
theorem c_X2_nameOf (G : Gx) (f : Nat) (x : Int32) (h : Hp) : z_M z_qs G yX2_nameOf cX2_nameOf 1 (some (.object "java/lang/String")) 0 0 0 0 [.int x] h (f_X2_nameOf f x h) :=
  z_met (by decide +kernel) (Nat.le_of_ble_eq_true rfl) (fun X hG hn o hnm => by
    subst hG
    show Sim X (z_Zs X 0 0) 0 0 0 [(0, .int x)] [] h _
    unfold f_X2_nameOf
    refine s_iload_n o 0 rfl dX2_nameOf_0 (q := 1) rfl ?_
    refine s_sw o dX2_nameOf_1 rfl (tgD := 58) (by decide) ?_ (⟨⟨40, by decide, ?_⟩, ⟨43, by decide, ?_⟩, ⟨46, by decide, ?_⟩, ⟨49, by decide, ?_⟩, ⟨52, by decide, ?_⟩, ⟨55, by decide, ?_⟩, trivial⟩)
    · refine s_ldcS o (j := 6) (by decide) rfl dX2_nameOf_58 (q := 60) rfl ?_
      exact s_sret o dX2_nameOf_60
    · refine s_ldcS o (j := 0) (by decide) rfl dX2_nameOf_40 (q := 42) rfl ?_
      exact s_sret o dX2_nameOf_42
    · refine s_ldcS o (j := 1) (by decide) rfl dX2_nameOf_43 (q := 45) rfl ?_
      exact s_sret o dX2_nameOf_45
    · refine s_ldcS o (j := 2) (by decide) rfl dX2_nameOf_46 (q := 48) rfl ?_
      exact s_sret o dX2_nameOf_48
    · refine s_ldcS o (j := 3) (by decide) rfl dX2_nameOf_49 (q := 51) rfl ?_
      exact s_sret o dX2_nameOf_51
    · refine s_ldcS o (j := 4) (by decide) rfl dX2_nameOf_52 (q := 54) rfl ?_
      exact s_sret o dX2_nameOf_54
    · refine s_ldcS o (j := 5) (by decide) rfl dX2_nameOf_55 (q := 57) rfl ?_
      exact s_sret o dX2_nameOf_57)
