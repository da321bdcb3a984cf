/-! ===== contracts over the numbers; calls; returns; new cells ===== -/
def z_pre (G : Gx) (vs : List Value) (h : Hp) : Array Value → State → Prop := va_Pc vs (fun U => U.heap.size = G.1 + zN h ∧ z_P G h U.heap ∧ z_K G U)
def z_qi (G : Gx) (n0 : Nat) (r : Int32 × Hp) : Array Value → State → Outcome → State → Prop := va_Qi (fun a (u : Hp) => a = r.1 ∧ u = r.2 ∧ zN r.2 = n0) (fun u t => z_P G u t.heap) (z_A G)
def z_ql (G : Gx) (n0 : Nat) (r : Int64 × Hp) : Array Value → State → Outcome → State → Prop := va_Ql (fun a (u : Hp) => a = r.1 ∧ u = r.2 ∧ zN r.2 = n0) (fun u t => z_P G u t.heap) (z_A G)
def z_qv (G : Gx) (n0 : Nat) (r : Hp) : Array Value → State → Outcome → State → Prop := va_Qv (fun (u : Hp) => u = r ∧ zN r = n0) (fun u t => z_P G u t.heap) (z_A G)
def z_Zi (X : Cx) (mc ms : Nat) (r : Int32 × Hp) : State → Prop := MQ (xb X) (z_qi (xG X) (xn X + mc) r) (xa X) (xs X) mc ms (z_A (xG X))
def z_Zl (X : Cx) (mc ms : Nat) (r : Int64 × Hp) : State → Prop := MQ (xb X) (z_ql (xG X) (xn X + mc) r) (xa X) (xs X) mc ms (z_A (xG X))
def z_Zv (X : Cx) (mc ms : Nat) (r : Hp) : State → Prop := MQ (xb X) (z_qv (xG X) (xn X + mc) r) (xa X) (xs X) mc ms (z_A (xG X))
/-- a method's contract: what its numbers say (K), the machine does -/
def z_M {ρ : Type} (Q : Gx → Nat → ρ → Array Value → State → Outcome → State → Prop) (G : Gx) (y : MethodName) (cc : ByteArray) (maxL : Nat) (ret : Option FieldType) (fr lo mc ms : Nat) (vs : List Value) (h : Hp) (K : Option ρ) : Prop := ∀ (l : Launch) (r : ρ), K = some r → Met l y (Cond.code y cc maxL ret :: GW) { frames := fr, cells := mc, slots := ms, locals := lo } (z_pre G vs h) (Q G (zN h + mc) r) mc ms (z_A G)
theorem z_met {ρ : Type} {Q : Gx → Nat → ρ → Array Value → State → Outcome → State → Prop} {G : Gx} {y : MethodName} {cc : ByteArray} {maxL : Nat} {ret : Option FieldType} {fr lo mc ms : Nat} {vs : List Value} {h : Hp} {K : Option ρ} (hy : plainName y.cls = true) (hlen : (lg_sl vs).length ≤ maxL)
    (body : ∀ X : Cx, xG X = G → xn X = zN h → Ok X y.cls cc maxL fr lo mc ms ret → (xM X).name = y.name → Sim X (fun r => MQ (xb X) (Q (xG X) (xn X + mc) r) (xa X) (xs X) mc ms (z_A (xG X))) 0 0 0 (lv_args 0 vs) [] h K) : z_M Q G y cc maxL ret fr lo mc ms vs h K := by
  intro l r hr
  refine Met.ofW (cc := cc) (maxL := maxL) (ret := ret) hy rfl ?_
  intro p e s m args below meth c s₁ B hml hv
  obtain ⟨rfl, hsz, hP, hK⟩ := hv
  have hts := atoms_spec (ws := Cond.code y cc maxL ret :: GW) B.pre
  have o : Ok (G, zN h, p, l, e, { frames := fr, cells := mc, slots := ms, locals := lo }, s, m, vs.toArray, below, meth, c) y.cls cc maxL fr lo mc ms ret :=
    ⟨B.exec, B.bytes, hml, findClass_of_methodNamed B.named, fun w hw => hts w (List.mem_cons_of_mem _ hw), hK, B.notSynchronized, B.returns, rfl, hsz⟩
  rw [lg_entry_eq]
  have hl := lv_entry vs (n := maxL) hlen
  rw [← hml] at hl
  rw [← hml]
  exact body _ rfl rfl o (name_of_methodNamed B.named B.method).1 r hr s.heap [] _ rfl hP va_S.rf hl
theorem va_Run_size {p : Program} {l : Launch} {e : Env} {R : Room} {s : State} {m : MethodId} {args : Array Value} {below : List Frame} {meth : Method} {c : Code} {H : Heap} {locs : List Loc} {cells slots mc ms : Nat} {g : JFrame} {rest : List Value} {Qa : State → Outcome → State → Prop} {free : Addr → Prop} (k : H.size ≤ s.heap.size + cells → va_Run p l e R s m args below meth c H locs cells slots mc ms g rest Qa free) : va_Run p l e R s m args below meth c H locs cells slots mc ms g rest Qa free := by
  intro T hT X
  have h1 : T.heap.size ≤ s.heap.size + cells := X.same.2.2.1
  rw [hT] at h1
  exact k h1 T hT X
def Run (X : Cx) (cs sl pc mc ms : Nat) (lv : List (Nat × Value)) (st rest : List Value) (h : Hp) (Qc : Array Value → State → Outcome → State → Prop) (vs : List Value) : Prop := ∀ (H : Heap) (locs : List Loc) (ls : Array Slot), zN h = xn X + cs → z_P (xG X) h H → va_S (z_A (xG X)) (xs X).heap H locs → lv_has ls (xc X).maxLocals lv → va_Run (xp X) (xl X) (xe X) (xR X) (xs X) (xm X) (xa X) (xb X) (xM X) (xc X) H locs cs sl mc ms (F0 (xm X) pc ls st) rest (Qc vs.toArray) (z_A (xG X))
/-- a virtual call: its words -/
def CV (own : String) (idx ci : Nat) (y : MethodName) (cc : ByteArray) (maxL : Nat) (ret : Option FieldType) (n : Nat) : Prop := ∃ r : vw_C, vwCl[ci]? = some r ∧ ci < 7 ∧ (∀ w ∈ wsV own idx r.1 y [Cond.code y cc maxL ret], w ∈ GW) ∧ (y.cls = r.1 ∧ y.cls ≠ "java/lang/invoke/MethodHandle" ∧ y.cls ≠ "java/lang/invoke/VarHandle" ∧ (parseMethodDescriptor y.desc).map (fun d => d.parameters.length) = some n)
def CS (own : String) (idx : Nat) (y : MethodName) (cc : ByteArray) (maxL : Nat) (ret : Option FieldType) (n : Nat) : Prop := (∀ w ∈ va_wsS own idx y [Cond.code y cc maxL ret], w ∈ GW) ∧ (y.cls ≠ "java/lang/invoke/MethodHandle" ∧ y.cls ≠ "java/lang/invoke/VarHandle" ∧ (parseMethodDescriptor y.desc).map (fun d => d.parameters.length) = some n)
/-- a static call of a nest mate's -/
def CN (own : String) (idx : Nat) (y : MethodName) (cc : ByteArray) (maxL : Nat) (ret : Option FieldType) (n : Nat) : Prop := (own, idx, y, RX5) ∈ z_nest ∧ (∀ w ∈ [Cond.code y cc maxL ret, Cond.static y, Cond.initialized y.cls], w ∈ GW) ∧ (y.cls ≠ "java/lang/invoke/MethodHandle" ∧ y.cls ≠ "java/lang/invoke/VarHandle" ∧ (parseMethodDescriptor y.desc).map (fun d => d.parameters.length) = some n)
/-- a constructor's call: of a nest mate's, and of an open one -/
def CI (own : String) (idx : Nat) (y : MethodName) (cc : ByteArray) (maxL : Nat) (n : Nat) : Prop := (own, idx, y, RX5) ∈ z_nest ∧ (∀ w ∈ [Cond.code y cc maxL none, Cond.instanceMethod y, Cond.initialized y.cls], w ∈ GW) ∧ y.name = "<init>" ∧ (y.cls ≠ "java/lang/invoke/MethodHandle" ∧ y.cls ≠ "java/lang/invoke/VarHandle" ∧ (parseMethodDescriptor y.desc).map (fun d => d.parameters.length) = some n)
def CO (own : String) (idx : Nat) (y : MethodName) (cc : ByteArray) (maxL : Nat) (n : Nat) : Prop := (∀ w ∈ [Cond.code y cc maxL none, Cond.instanceMethod y, Cond.initialized y.cls, Cond.methodLink own idx y], w ∈ GW) ∧ y.name = "<init>" ∧ (y.cls ≠ "java/lang/invoke/MethodHandle" ∧ y.cls ≠ "java/lang/invoke/VarHandle" ∧ (parseMethodDescriptor y.desc).map (fun d => d.parameters.length) = some n)
theorem z_blind (G : Gx) (vs : List Value) (h : Hp) : FrameBlind (z_pre G vs h) := fun a U g mk q => by
  obtain ⟨q0, q1, qP, qK⟩ := q
  exact ⟨q0, q1, qP, z_K_same rfl rfl qK⟩
section SIMC
variable {X : Cx} {own : String} {cc : ByteArray} {nL fr lo mc ms : Nat} {rt : Option FieldType} {ρ : Type} {Qf : ρ → State → Prop} {cs sl pc q : Nat} {lv lv' : List (Nat × Value)} {st rest As : List Value} {h : Hp}
variable {a ci idx n maxL fr' lo' mc' ms' cs' sl' : Nat} {y : MethodName} {cc' : ByteArray} {ret : Option FieldType} {Qc : Array Value → State → Outcome → State → Prop}
theorem z_at_call (o : Ok X own cc nL fr lo mc ms rt) {H : Heap} {locs : List Loc} {vs : List Value} (hn : zN h = xn X + cs) (hP : z_P (xG X) h H) (hS : va_S (z_A (xG X)) (xs X).heap H locs) (hz : H.size ≤ (xs X).heap.size + cs) : ∀ U : State, U.heap = H → (xs X).WarmedH U.vm → z_pre (xG X) vs h vs.toArray U := by
  intro U hU hW
  have e := o.2.2.2.2.2.2.2.2.2
  have h1 := hS.1
  have h2 := z_low hP (by omega)
  exact ⟨rfl, by rw [hU]; omega, by rw [hU]; exact hP, z_K_warm hW (fun q h1 h2 => by rw [hU]; exact hS.2.1 q h1 h2) o.2.2.2.2.2.1⟩
theorem runV (o : Ok X own cc nL fr lo mc ms rt) (hk : (zS h a).1 = ci + 1) (cf : CV own idx ci y cc' maxL ret n) (hM : Met (xl X) y (Cond.code y cc' maxL ret :: GW) { frames := fr', cells := mc', slots := ms', locals := lo' } (z_pre (xG X) (rf (xG X) a :: As) h) Qc mc' ms' (z_A (xG X))) (hR : fr' + 1 ≤ fr ∧ 8 + (maxL + 11) + lo' ≤ lo) (hn : As.length = n) (hst : st = As.reverse ++ rf (xG X) a :: rest) (hcat : (rest.map fun v => v.category).sum ≤ 8) (d : decode cc pc = .ok (.invokevirtual idx, 3)) (hf : cs + mc' ≤ mc ∧ sl + ms' ≤ ms) : Run X cs sl pc mc' ms' lv st rest h Qc (rf (xG X) a :: As) := by
  intro H locs ls hnn hP hS hl
  refine va_Run_size fun hz => ?_
  obtain ⟨r, c1, c2, c3, c4⟩ := cf
  have hRR := o.2.2.2.2.2.2.2.2.1
  have ha : a < zN h := hP.2 a (by omega)
  have hw := z_W_at (xG X) h ha
  rw [z_cell_o (xG X) hk c2] at hw
  refine va_runV (C := r.1) (Ts := GW) (As := As) (rest := rest) (b := (xG X).1 + a) (n := n) ⟨o.1, o.2.1, rfl, o.2.2.2.1, o.2.2.2.2.1⟩ hM (cwV n o.2.2.2.2.1 (gw_good ?_) rfl rfl rfl c4 (by rw [hRR]; exact hR)) ⟨z_blind _ _ _, va_recv o.2.2.2.2.2.1.1 hP.1 c1 hw, z_at_call o hnn hP hS hz⟩ rfl hn hl.1 hst (lv_room hcat) d (by rw [hRR]; exact hf)
  intro w hw9
  rcases List.mem_append.mp hw9 with h9 | h9
  · exact c3 w (List.mem_append_left _ h9)
  · rcases List.mem_cons.mp h9 with h9 | h9
    · exact c3 w (List.mem_append_right _ (by rw [h9]; exact List.mem_cons_self))
    · exact h9
theorem runS (o : Ok X own cc nL fr lo mc ms rt) (cf : CS own idx y cc' maxL ret n) (hM : Met (xl X) y (Cond.code y cc' maxL ret :: GW) { frames := fr', cells := mc', slots := ms', locals := lo' } (z_pre (xG X) As h) Qc mc' ms' (z_A (xG X))) (hR : fr' + 1 ≤ fr ∧ 8 + (maxL + 11) + lo' ≤ lo) (hn : As.length = n) (hst : st = As.reverse ++ rest) (hcat : (rest.map fun v => v.category).sum ≤ 8) (d : decode cc pc = .ok (.invokestatic idx, 3)) (hf : cs + mc' ≤ mc ∧ sl + ms' ≤ ms) : Run X cs sl pc mc' ms' lv st rest h Qc As := by
  intro H locs ls hnn hP hS hl
  refine va_Run_size fun hz => ?_
  obtain ⟨c3, c4⟩ := cf
  have hRR := o.2.2.2.2.2.2.2.2.1
  refine va_runS (Ts := GW) (As := As) (rest := rest) (n := n) ⟨o.1, o.2.1, rfl, o.2.2.2.1, o.2.2.2.2.1⟩ hM (va_cwS n o.2.2.2.2.1 (gw_good ?_) rfl rfl rfl c4 (by rw [hRR]; exact hR)) ⟨z_blind _ _ _, z_at_call o hnn hP hS hz⟩ rfl hn hl.1 hst (lv_room hcat) d (by rw [hRR]; exact hf)
  intro w hw9
  rcases List.mem_append.mp hw9 with h9 | h9
  · exact c3 w (List.mem_append_left _ h9)
  · rcases List.mem_cons.mp h9 with h9 | h9
    · exact c3 w (List.mem_append_right _ (by rw [h9]; exact List.mem_cons_self))
    · exact h9
theorem gw_cons {w0 : Cond} (h0 : w0 ∈ GW) : ∀ w ∈ w0 :: GW, w ∈ GW := fun w h9 => by
  rcases List.mem_cons.mp h9 with e | e
  · rw [e]; exact h0
  · exact e
theorem runN (o : Ok X own cc nL fr lo mc ms rt) (cf : CN own idx y cc' maxL ret n) (hM : Met (xl X) y (Cond.code y cc' maxL ret :: GW) { frames := fr', cells := mc', slots := ms', locals := lo' } (z_pre (xG X) As h) Qc mc' ms' (z_A (xG X))) (hR : fr' + 1 ≤ fr ∧ 8 + (maxL + 11) + lo' ≤ lo) (hn : As.length = n) (hst : st = As.reverse ++ rest) (hcat : (rest.map fun v => v.category).sum ≤ 8) (d : decode cc pc = .ok (.invokestatic idx, 3)) (hf : cs + mc' ≤ mc ∧ sl + ms' ≤ ms) : Run X cs sl pc mc' ms' lv st rest h Qc As := by
  intro H locs ls hnn hP hS hl
  refine va_Run_size fun hz => ?_
  obtain ⟨c1, c3, c4⟩ := cf
  have hRR := o.2.2.2.2.2.2.2.2.1
  have hw' := fun w h9 => o.2.2.2.2.1 w (c3 w h9)
  exact va_runSN (Ts := GW) (As := As) (rest := rest) (n := n) ⟨o.1, o.2.1, rfl, o.2.2.2.1, o.2.2.2.2.1⟩ hM ⟨va_cnB n o.2.2.2.2.1 (gw_good (gw_cons (c3 _ (by simp)))) rfl rfl rfl (o.2.2.2.2.2.1.2.1 _ c1) (hw' _ (by simp)) c4 (by rw [hRR]; exact hR), hw' _ (by simp), trivial⟩ ⟨z_blind _ _ _, z_at_call o hnn hP hS hz⟩ rfl hn hl.1 hst (lv_room hcat) d (by rw [hRR]; exact hf)
theorem runI (o : Ok X own cc nL fr lo mc ms rt) (cf : CI own idx y cc' maxL n) (hM : Met (xl X) y (Cond.code y cc' maxL none :: GW) { frames := fr', cells := mc', slots := ms', locals := lo' } (z_pre (xG X) (rf (xG X) a :: As) h) Qc mc' ms' (z_A (xG X))) (hR : fr' + 1 ≤ fr ∧ 8 + (maxL + 11) + lo' ≤ lo) (hn : As.length = n) (hst : st = As.reverse ++ rf (xG X) a :: rest) (hcat : (rest.map fun v => v.category).sum ≤ 8) (d : decode cc pc = .ok (.invokespecial idx, 3)) (hf : cs + mc' ≤ mc ∧ sl + ms' ≤ ms) : Run X cs sl pc mc' ms' lv st rest h Qc (rf (xG X) a :: As) := by
  intro H locs ls hnn hP hS hl
  refine va_Run_size fun hz => ?_
  obtain ⟨c1, c3, c5, c4⟩ := cf
  have hRR := o.2.2.2.2.2.2.2.2.1
  have hw' := fun w h9 => o.2.2.2.2.1 w (c3 w h9)
  exact va_runIN (Ts := GW) (As := As) (rest := rest) (b := (xG X).1 + a) (n := n) ⟨o.1, o.2.1, rfl, o.2.2.2.1, o.2.2.2.2.1⟩ hM ⟨va_cnB n o.2.2.2.2.1 (gw_good (gw_cons (c3 _ (by simp)))) rfl rfl rfl (o.2.2.2.2.2.1.2.1 _ c1) (hw' _ (by simp)) c4 (by rw [hRR]; exact hR), c5, hw' _ (by simp)⟩ ⟨z_blind _ _ _, z_at_call o hnn hP hS hz⟩ rfl hn hl.1 hst (lv_room hcat) d (by rw [hRR]; exact hf)
theorem runO (o : Ok X own cc nL fr lo mc ms rt) (cf : CO own idx y cc' maxL n) (hM : Met (xl X) y (Cond.code y cc' maxL none :: GW) { frames := fr', cells := mc', slots := ms', locals := lo' } (z_pre (xG X) (rf (xG X) a :: As) h) Qc mc' ms' (z_A (xG X))) (hR : fr' + 1 ≤ fr ∧ 8 + (maxL + 11) + lo' ≤ lo) (hn : As.length = n) (hst : st = As.reverse ++ rf (xG X) a :: rest) (hcat : (rest.map fun v => v.category).sum ≤ 8) (d : decode cc pc = .ok (.invokespecial idx, 3)) (hf : cs + mc' ≤ mc ∧ sl + ms' ≤ ms) : Run X cs sl pc mc' ms' lv st rest h Qc (rf (xG X) a :: As) := by
  intro H locs ls hnn hP hS hl
  refine va_Run_size fun hz => ?_
  obtain ⟨c3, c5, c4⟩ := cf
  have hRR := o.2.2.2.2.2.2.2.2.1
  have hw' := fun w h9 => o.2.2.2.2.1 w (c3 w h9)
  exact va_runI (Ts := GW) (As := As) (rest := rest) (b := (xG X).1 + a) (n := n) ⟨o.1, o.2.1, rfl, o.2.2.2.1, o.2.2.2.2.1⟩ hM (cwI n o.2.2.2.2.1 (gw_good (gw_cons (c3 _ (by simp)))) rfl rfl rfl (hw' _ (by simp)) (hw' _ (by simp)) (hw' _ (by simp)) c5 c4 (by rw [hRR]; exact hR)) ⟨z_blind _ _ _, z_at_call o hnn hP hS hz⟩ rfl hn hl.1 hst (lv_room hcat) d (by rw [hRR]; exact hf)
/-- behind a call -/
theorem s_calli {K0 : Option (Int32 × Hp)} {K : Int32 × Hp → Option ρ} {vs : List Value} (hrun : ∀ r0, K0 = some r0 → Run X cs sl pc mc' ms' lv st rest h (z_qi (xG X) (zN h + mc') r0) vs) (hq : pc + 3 = q) (hc : cs + mc' = cs') (hs : sl + ms' = sl') (k : ∀ v h', Sim X Qf cs' sl' q lv (.int v :: rest) h' (K (v, h'))) : Sim X Qf cs sl pc lv st h (K0.bind K) := by
  subst hq; subst hc; subst hs
  intro r hr H locs ls hn hP hS hl
  obtain ⟨r0, hr0, hr⟩ := Option.bind_eq_some_iff.mp hr
  refine va_calli (hrun r0 hr0 H locs ls hn hP hS hl) hS (fun q _ h => h) (fun q h => h) (fun v u t H1 locs1 ht hvm hw hB hz hk hS1 => ?_)
  obtain ⟨rfl, rfl, hn1⟩ := hw
  exact k _ _ r hr H1 locs1 ls (by omega) (by rw [← ht]; exact hB) hS1 hl
theorem s_calll {K0 : Option (Int64 × Hp)} {K : Int64 × Hp → Option ρ} {vs : List Value} (hrun : ∀ r0, K0 = some r0 → Run X cs sl pc mc' ms' lv st rest h (z_ql (xG X) (zN h + mc') r0) vs) (hq : pc + 3 = q) (hc : cs + mc' = cs') (hs : sl + ms' = sl') (k : ∀ v h', Sim X Qf cs' sl' q lv (.long v :: rest) h' (K (v, h'))) : Sim X Qf cs sl pc lv st h (K0.bind K) := by
  subst hq; subst hc; subst hs
  intro r hr H locs ls hn hP hS hl
  obtain ⟨r0, hr0, hr⟩ := Option.bind_eq_some_iff.mp hr
  refine va_calll (hrun r0 hr0 H locs ls hn hP hS hl) hS (fun q _ h => h) (fun q h => h) (fun v u t H1 locs1 ht hvm hw hB hz hk hS1 => ?_)
  obtain ⟨rfl, rfl, hn1⟩ := hw
  exact k _ _ r hr H1 locs1 ls (by omega) (by rw [← ht]; exact hB) hS1 hl
theorem s_callv {K0 : Option Hp} {K : Hp → Option ρ} {vs : List Value} (hrun : ∀ r0, K0 = some r0 → Run X cs sl pc mc' ms' lv st rest h (z_qv (xG X) (zN h + mc') r0) vs) (hq : pc + 3 = q) (hc : cs + mc' = cs') (hs : sl + ms' = sl') (k : ∀ h', Sim X Qf cs' sl' q lv rest h' (K h')) : Sim X Qf cs sl pc lv st h (K0.bind K) := by
  subst hq; subst hc; subst hs
  intro r hr H locs ls hn hP hS hl
  obtain ⟨r0, hr0, hr⟩ := Option.bind_eq_some_iff.mp hr
  refine va_callv (hrun r0 hr0 H locs ls hn hP hS hl) hS (fun q _ h => h) (fun q h => h) (fun u t H1 locs1 ht hvm hw hB hz hk hS1 => ?_)
  obtain ⟨rfl, hn1⟩ := hw
  exact k _ r hr H1 locs1 ls (by omega) (by rw [← ht]; exact hB) hS1 hl
theorem s_on {K : Option ρ} (k : (zS h a).1 = ci + 1 → Sim X Qf cs sl pc lv st h K) : Sim X Qf cs sl pc lv st h (q_on h a ci K) := by
  intro r hr
  unfold q_on at hr
  split at hr
  · rename_i hk; exact k hk r hr
  · cases hr
/-! returns -/
theorem s_iret (o : Ok X own cc nL fr lo mc ms (some .int)) {v : Int32} (d : decode cc pc = .ok (.ireturn, 1)) : Sim X (z_Zi X cs sl) cs sl pc lv [.int v] h (some (v, h)) := by
  intro r hr H locs ls hn hP hS hl
  cases hr
  exact W.iret o.1 o.2.1 o.2.2.2.2.2.2.2.1 (fun t ht hW => ⟨⟨v, h, rfl, ⟨rfl, rfl, hn⟩, by show z_P _ _ t.heap; rw [ht]; exact hP⟩, hS.F ht⟩) hS.2.2 d o.2.2.2.2.2.2.1
theorem s_zret (o : Ok X own cc nL fr lo mc ms (some .boolean)) {v : Int32} (d : decode cc pc = .ok (.ireturn, 1)) : Sim X (z_Zi X cs sl) cs sl pc lv [.int v] h (q_bo v (some (v, h))) := by
  intro r hr H locs ls hn hP hS hl
  unfold q_bo at hr
  split at hr
  · rename_i hv
    cases hr
    exact W.zret o.1 o.2.1 o.2.2.2.2.2.2.2.1 (by rcases hv with rfl | rfl <;> rfl) (fun t ht hW => ⟨⟨v, h, rfl, ⟨rfl, rfl, hn⟩, by show z_P _ _ t.heap; rw [ht]; exact hP⟩, hS.F ht⟩) hS.2.2 d o.2.2.2.2.2.2.1
  · cases hr
theorem s_lret (o : Ok X own cc nL fr lo mc ms (some .long)) {v : Int64} (d : decode cc pc = .ok (.lreturn, 1)) : Sim X (z_Zl X cs sl) cs sl pc lv [.long v] h (some (v, h)) := by
  intro r hr H locs ls hn hP hS hl
  cases hr
  exact W.lret o.1 o.2.1 o.2.2.2.2.2.2.2.1 (fun t ht hW => ⟨⟨v, h, rfl, ⟨rfl, rfl, hn⟩, by show z_P _ _ t.heap; rw [ht]; exact hP⟩, hS.F ht⟩) hS.2.2 d o.2.2.2.2.2.2.1
theorem s_vret (o : Ok X own cc nL fr lo mc ms none) (d : decode cc pc = .ok (.return_, 1)) : Sim X (z_Zv X cs sl) cs sl pc lv [] h (some h) := by
  intro r hr H locs ls hn hP hS hl
  cases hr
  exact W.vret o.1 o.2.1 o.2.2.2.2.2.2.2.1 (fun t ht hW => ⟨⟨h, rfl, ⟨rfl, hn⟩, by show z_P _ _ t.heap; rw [ht]; exact hP⟩, hS.F ht⟩) hS.2.2 d o.2.2.2.2.2.2.1
/-! the two static rows -/
theorem s_gtm {K : Option ρ} (o : Ok X own cc nL fr lo mc ms rt) (hw : Cond.fieldLink own idx RX2 "TIMES_MOST" "[I" ∈ GW) (d : decode cc pc = .ok (.getstatic idx, 3)) (hq : pc + 3 = q) (k : Sim X Qf cs sl q lv (.ref (gT (xG X)) :: st) h K) : Sim X Qf cs sl pc lv st h K := by
  subst hq
  exact fun r hr H locs ls hn hP hS hl => va_gets o.1 o.2.1 o.2.2.2.2.2.1.2.2.1.1 hS o.2.2.2.1 (o.2.2.2.2.1 _ hw) (fun _ h9 => h9) d (k r hr H locs ls hn hP hS hl)
theorem s_gno {K : Option ρ} (o : Ok X own cc nL fr lo mc ms rt) (hw : Cond.fieldLink own idx RX2 "NUMBERS_OF" "[I" ∈ GW) (d : decode cc pc = .ok (.getstatic idx, 3)) (hq : pc + 3 = q) (k : Sim X Qf cs sl q lv (.ref (gO (xG X)) :: st) h K) : Sim X Qf cs sl pc lv st h K := by
  subst hq
  exact fun r hr H locs ls hn hP hS hl => va_gets o.1 o.2.1 o.2.2.2.2.2.1.2.2.2.1.1 hS o.2.2.2.1 (o.2.2.2.2.1 _ hw) (fun _ h9 => h9) d (k r hr H locs ls hn hP hS hl)
theorem s_atm {K : Int32 → Option ρ} (o : Ok X own cc nL fr lo mc ms rt) {i : Int32} (d : decode cc pc = .ok (.iaload, 1)) (hq : pc + 1 = q) (k : ∀ v, Sim X Qf cs sl q lv (.int v :: st) h (K v)) : Sim X Qf cs sl pc lv (.int i :: .ref (gT (xG X)) :: st) h ((q_tm i).bind K) := by
  subst hq
  intro r hr H locs ls hn hP hS hl
  obtain ⟨v, hv, hr⟩ := Option.bind_eq_some_iff.mp hr
  unfold q_tm at hv
  split at hv
  · rename_i hi
    cases hv
    exact va_ti o.1 o.2.1 o.2.2.2.2.2.1.2.2.1.2 hS (vp_in_iff.mpr hi) rfl d (k _ r hr H locs ls hn hP hS hl)
  · cases hv
theorem s_ano {K : Int32 → Option ρ} (o : Ok X own cc nL fr lo mc ms rt) {i : Int32} (d : decode cc pc = .ok (.iaload, 1)) (hq : pc + 1 = q) (k : ∀ v, Sim X Qf cs sl q lv (.int v :: st) h (K v)) : Sim X Qf cs sl pc lv (.int i :: .ref (gO (xG X)) :: st) h ((q_no i).bind K) := by
  subst hq
  intro r hr H locs ls hn hP hS hl
  obtain ⟨v, hv, hr⟩ := Option.bind_eq_some_iff.mp hr
  unfold q_no at hv
  split at hv
  · rename_i hi
    cases hv
    exact va_ti o.1 o.2.1 o.2.2.2.2.2.1.2.2.2.1.2 hS (vp_in_iff.mpr hi) rfl d (k _ r hr H locs ls hn hP hS hl)
  · cases hv
end SIMC
