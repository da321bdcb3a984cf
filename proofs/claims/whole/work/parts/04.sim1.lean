/-! ===== what is known everywhere: classes, array classes, nest words, static rows, text constants ===== -/
def z_nest : List (String × Nat × MethodName × String) := [(RX5, 22, yX0_init, RX5), (RX5, 32, yX2_init, RX5), (RX5, 39, yX4_init, RX5), (RX5, 54, yX3_init, RX5), (RX5, 61, yX1_init, RX5), (RX1, 41, yX0_init, RX5), (RX1, 48, yX4_init, RX5), (RX2, 140, yX5_isIn, RX5), (RX4, 46, yX5_isIn, RX5), (RX1, 105, yX5_isIn, RX5), (RX3, 26, yX5_isIn, RX5)]
def z_tx : List String := ["mark", "goal", "within", "lie", "err", "spade", "prize"]
def z_ln : List Nat := [4, 4, 6, 3, 3, 5, 5]
def z_by : List (List Int32) := [[109, 97, 114, 107], [103, 111, 97, 108], [119, 105, 116, 104, 105, 110], [108, 105, 101], [101, 114, 114], [115, 112, 97, 100, 101], [112, 114, 105, 122, 101]]
def z_E (G : Gx) (U : State) : Prop :=
  (va_Z RX2 "TIMES_MOST" "[I" (.ref (gT G)) (z_A G) U U.heap ∧ va_T .int (gT G) 7 (fun j => .int (z_TM j)) (z_A G) U U.heap) ∧
  (va_Z RX2 "NUMBERS_OF" "[I" (.ref (gO G)) (z_A G) U U.heap ∧ va_T .int (gO G) 7 (fun j => .int (z_NO j)) (z_A G) U U.heap) ∧
  va_Z "java/lang/String" "COMPACT_STRINGS" "Z" (.int 1) (z_A G) U U.heap ∧
  va_Zq "jdk/internal/util/Preconditions" "SIOOBE_FORMATTER" "Ljava/util/function/BiFunction;" (z_A G) U U.heap ∧
  (∀ i, i < 7 → vk_R RX2 (92 + 2 * i) (z_tx.getD i "") (gK G i) U) ∧ vk_S 7 z_ln z_by (gK G) (gV G) (z_A G) U U.heap ∧ va_AO RX4 U
def z_K (G : Gx) (U : State) : Prop := va_K (gD G) vwCl (z_tys G) U ∧ (∀ w ∈ z_nest, va_Nw (.methodLinkNest w.1 w.2.1 w.2.2.1 w.2.2.2) U) ∧ z_E G U
theorem z_E_to {G : Gx} {s U : State} (hv : s.vm.Alike U.vm) (hr : ∀ (own : String) (k : Nat) (tx : String) (a : Nat), vk_R own k tx a s → vk_R own k tx a U) (hk : ∀ q, q < s.heap.size → ¬ z_A G q → U.heap[q]? = s.heap[q]?) (h : z_E G s) : z_E G U := by
  obtain ⟨⟨a1, a2⟩, ⟨b1, b2⟩, c1, d1, e1, f1, g1⟩ := h
  exact ⟨⟨(a1.moved hv).kept hk, (a2.moved hv).kept hk⟩, ⟨(b1.moved hv).kept hk, (b2.moved hv).kept hk⟩, (c1.moved hv).kept hk, (d1.moved hv).kept hk, fun i hi => hr _ _ _ _ (e1 i hi), (f1.moved hv).kept hk, g1.moved hv⟩
theorem z_K_warm {G : Gx} {s U : State} (hW : s.WarmedH U.vm) (hk : ∀ q, q < s.heap.size → ¬ z_A G q → U.heap[q]? = s.heap[q]?) (h : z_K G s) : z_K G U :=
  ⟨va_K.moved hW.alike h.1, fun w hw => va_Nw.warmM hW (h.2.1 w hw), z_E_to hW.alike (fun _ _ _ _ hR => hR.warm hW) hk h.2.2⟩
theorem z_K_same {G : Gx} {s U : State} (hv : U.vm = s.vm) (hh : U.heap = s.heap) (h : z_K G s) : z_K G U := by
  have ha : s.vm.Alike U.vm := by rw [hv]; exact Vm.Alike.refl s.vm
  exact ⟨va_K.moved ha h.1, fun w hw => va_Nw.same rfl hv.symm (h.2.1 w hw), z_E_to ha (fun _ _ _ _ hR => hR.same hv) (fun q _ _ => by rw [hh]) h.2.2⟩
/-! ===== the context of a walk ===== -/
abbrev Cx : Type := Gx × Nat × Program × Launch × Env × Room × State × MethodId × Array Value × List Frame × Method × Code
abbrev xG (X : Cx) : Gx := X.1
abbrev xn (X : Cx) : Nat := X.2.1
abbrev xp (X : Cx) : Program := X.2.2.1
abbrev xl (X : Cx) : Launch := X.2.2.2.1
abbrev xe (X : Cx) : Env := X.2.2.2.2.1
abbrev xR (X : Cx) : Room := X.2.2.2.2.2.1
abbrev xs (X : Cx) : State := X.2.2.2.2.2.2.1
abbrev xm (X : Cx) : MethodId := X.2.2.2.2.2.2.2.1
abbrev xa (X : Cx) : Array Value := X.2.2.2.2.2.2.2.2.1
abbrev xb (X : Cx) : List Frame := X.2.2.2.2.2.2.2.2.2.1
abbrev xM (X : Cx) : Method := X.2.2.2.2.2.2.2.2.2.2.1
abbrev xc (X : Cx) : Code := X.2.2.2.2.2.2.2.2.2.2.2
def Ok (X : Cx) (own : String) (cc : ByteArray) (nL fr lo mc ms : Nat) (rt : Option FieldType) : Prop :=
  (xp X).tables.exec = Jvm.exec ∧ (xc X).code = cc ∧ (xc X).maxLocals = nL ∧ (xs X).vm.findClass own = some (xm X).cls ∧ (∀ w ∈ GW, w.before (xa X) (xs X) = true) ∧ z_K (xG X) (xs X) ∧ (xM X).locks = false ∧ (xM X).sig.returnType = rt ∧ (xR X) = { frames := fr, cells := mc, slots := ms, locals := lo } ∧ (xs X).heap.size = (xG X).1 + xn X
abbrev WX (X : Cx) (H : Heap) (locs : List Loc) (cs sl : Nat) (Q : State → Prop) (g : JFrame) : Prop := W (xp X) (xl X) (xe X) (xR X) (xs X) (xm X) (xa X) (xb X) (xM X) (xc X) H locs cs sl Q g
/-- the machine at pc, with these locals, this stack, this heap, comes to where K says -/
def Sim (X : Cx) {ρ : Type} (Qf : ρ → State → Prop) (cs sl pc : Nat) (lv : List (Nat × Value)) (st : List Value) (h : Hp) (K : Option ρ) : Prop :=
  ∀ r, K = some r → ∀ (H : Heap) (locs : List Loc) (ls : Array Slot), zN h = xn X + cs → z_P (xG X) h H → va_S (z_A (xG X)) (xs X).heap H locs → lv_has ls (xc X).maxLocals lv → WX X H locs cs sl (Qf r) (F0 (xm X) pc ls st)
theorem W_size {p : Program} {l : Launch} {e : Env} {R : Room} {s : State} {m : MethodId} {args : Array Value} {below : List Frame} {meth : Method} {c : Code} {H : Heap} {locs : List Loc} {cells slots : Nat} {Q : State → Prop} {g : JFrame} (k : H.size ≤ s.heap.size + cells → W p l e R s m args below meth c H locs cells slots Q g) : W p l e R s m args below meth c H locs cells slots Q g := by
  intro T hT X
  have h1 : T.heap.size ≤ s.heap.size + cells := X.same.2.2.1
  rw [hT] at h1
  exact k h1 T hT X
/-! a field that an instruction names -/
def FF (own : String) (idx ci k : Nat) (ty : FieldType) (t : Nat) (fin : Bool) : Prop := ∃ r : vw_C, vwCl[ci]? = some r ∧ ci < 7 ∧ k < r.2.2 ∧ Cond.fieldLink own idx (r.2.1 k).1 (r.2.1 k).2.1 (r.2.1 k).2.2.1 ∈ GW ∧ parseFieldDescriptor (r.2.1 k).2.2.1 = some ty ∧ z_ft ci k = t ∧ (r.2.1 k).2.2.2 = fin ∧ (∀ w ∈ u_ws r.1 r.2.1 r.2.2, w ∈ GW) ∧ (∃ ty0 : Nat → FieldType, ∀ k, k < r.2.2 → parseFieldDescriptor (r.2.1 k).2.2.1 = some (ty0 k)) ∧ (∀ a, a < r.2.2 → ∀ b, b < r.2.2 → a ≠ b → (r.2.1 a).2.1 ≠ (r.2.1 b).2.1)
section SIM
variable {X : Cx} {own : String} {cc : ByteArray} {nL fr lo mc ms : Nat} {rt : Option FieldType} {ρ : Type} {Qf : ρ → State → Prop} {cs sl pc q : Nat} {lv lv' : List (Nat × Value)} {st : List Value} {h : Hp} {K : Option ρ}
theorem s_none : Sim X Qf cs sl pc lv st h none := fun r hr => by cases hr
theorem s_sub (ks : List Nat) (hl : lv_pick lv ks = lv') (k : Sim X Qf cs sl pc lv' st h K) : Sim X Qf cs sl pc lv st h K := fun r hr H locs ls hn hP hS hv => k r hr H locs ls hn hP hS (lv_sub hv ks hl)
theorem s_let {e : Int32} {K : Int32 → Option ρ} (k : ∀ x, Sim X Qf cs sl pc lv (.int x :: st) h (K x)) : Sim X Qf cs sl pc lv (.int e :: st) h (lt e K) := k e
theorem s_letl {e : Int64} {K : Int64 → Option ρ} (k : ∀ x, Sim X Qf cs sl pc lv (.long x :: st) h (K x)) : Sim X Qf cs sl pc lv (.long e :: st) h (lt e K) := k e
theorem s_iconst (o : Ok X own cc nL fr lo mc ms rt) {n : Int} {v : Int32} (d : decode cc pc = .ok (.iconst n, 1)) (hv : Int32.ofInt n = v) (hq : pc + 1 = q) (k : Sim X Qf cs sl q lv (.int v :: st) h K) : Sim X Qf cs sl pc lv st h K := by
  subst hq; exact fun r hr H locs ls hn hP hS hl => lv_iconst o.1 o.2.1 d hv (k r hr H locs ls hn hP hS hl)
theorem s_bipush (o : Ok X own cc nL fr lo mc ms rt) {n : Int} {v : Int32} (d : decode cc pc = .ok (.bipush n, 2)) (hv : (Int8.ofInt n).toInt32 = v) (hq : pc + 2 = q) (k : Sim X Qf cs sl q lv (.int v :: st) h K) : Sim X Qf cs sl pc lv st h K := by
  subst hq; exact fun r hr H locs ls hn hP hS hl => lv_bipush o.1 o.2.1 d hv (k r hr H locs ls hn hP hS hl)
theorem s_sipush (o : Ok X own cc nL fr lo mc ms rt) {n : Int} {v : Int32} (d : decode cc pc = .ok (.sipush n, 3)) (hv : (Int16.ofInt n).toInt32 = v) (hq : pc + 3 = q) (k : Sim X Qf cs sl q lv (.int v :: st) h K) : Sim X Qf cs sl pc lv st h K := by
  subst hq; exact fun r hr H locs ls hn hP hS hl => lv_sipush o.1 o.2.1 d hv (k r hr H locs ls hn hP hS hl)
theorem s_lconst (o : Ok X own cc nL fr lo mc ms rt) {n : Fin 2} {v : Int64} (d : decode cc pc = .ok (.lconst n, 1)) (hv : Int64.ofNat (n : Nat) = v) (hq : pc + 1 = q) (k : Sim X Qf cs sl q lv (.long v :: st) h K) : Sim X Qf cs sl pc lv st h K := by
  subst hq; exact fun r hr H locs ls hn hP hS hl => lv_lconst o.1 o.2.1 d hv (k r hr H locs ls hn hP hS hl)
theorem s_ldc (o : Ok X own cc nL fr lo mc ms rt) {i : Nat} {v : Int32} (hw : Cond.constant own i v ∈ GW) (d : decode cc pc = .ok (.ldc i, 2)) (hq : pc + 2 = q) (k : Sim X Qf cs sl q lv (.int v :: st) h K) : Sim X Qf cs sl pc lv st h K := by
  subst hq; exact fun r hr H locs ls hn hP hS hl => lv_ldc o.1 o.2.1 o.2.2.2.1 (o.2.2.2.2.1 _ hw) d (k r hr H locs ls hn hP hS hl)
theorem s_ldcw (o : Ok X own cc nL fr lo mc ms rt) {i : Nat} {v : Int32} (hw : Cond.constant own i v ∈ GW) (d : decode cc pc = .ok (.ldc_w i, 3)) (hq : pc + 3 = q) (k : Sim X Qf cs sl q lv (.int v :: st) h K) : Sim X Qf cs sl pc lv st h K := by
  subst hq; exact fun r hr H locs ls hn hP hS hl => lv_ldcw o.1 o.2.1 o.2.2.2.1 (o.2.2.2.2.1 _ hw) d (k r hr H locs ls hn hP hS hl)
theorem s_ldc2 (o : Ok X own cc nL fr lo mc ms rt) {i : Nat} {v : Int64} (hw : Cond.constantLong own i v ∈ GW) (d : decode cc pc = .ok (.ldc2_w i, 3)) (hq : pc + 3 = q) (k : Sim X Qf cs sl q lv (.long v :: st) h K) : Sim X Qf cs sl pc lv st h K := by
  subst hq; exact fun r hr H locs ls hn hP hS hl => lv_ldc2 o.1 o.2.1 o.2.2.2.1 (o.2.2.2.2.1 _ hw) d (k r hr H locs ls hn hP hS hl)
theorem s_iload_n (o : Ok X own cc nL fr lo mc ms rt) {f : Fin 4} {x : Int32} (j : Nat) (hj : lv[j]? = some ((f : Nat), .int x)) (d : decode cc pc = .ok (.iload_n f, 1)) (hq : pc + 1 = q) (k : Sim X Qf cs sl q lv (.int x :: st) h K) : Sim X Qf cs sl pc lv st h K := by
  subst hq; exact fun r hr H locs ls hn hP hS hl => lv_iload_n o.1 o.2.1 d rfl (lv_at hl j hj) (k r hr H locs ls hn hP hS hl)
theorem s_iload (o : Ok X own cc nL fr lo mc ms rt) {i : Nat} {x : Int32} (j : Nat) (hj : lv[j]? = some (i, .int x)) (d : decode cc pc = .ok (.iload i, 2)) (hq : pc + 2 = q) (k : Sim X Qf cs sl q lv (.int x :: st) h K) : Sim X Qf cs sl pc lv st h K := by
  subst hq; exact fun r hr H locs ls hn hP hS hl => lv_iload o.1 o.2.1 d (lv_at hl j hj) (k r hr H locs ls hn hP hS hl)
theorem s_lload_n (o : Ok X own cc nL fr lo mc ms rt) {f : Fin 4} {x : Int64} (j : Nat) (hj : lv[j]? = some ((f : Nat), .long x)) (d : decode cc pc = .ok (.lload_n f, 1)) (hq : pc + 1 = q) (k : Sim X Qf cs sl q lv (.long x :: st) h K) : Sim X Qf cs sl pc lv st h K := by
  subst hq; exact fun r hr H locs ls hn hP hS hl => lv_lload_n o.1 o.2.1 d rfl (lv_at hl j hj) (k r hr H locs ls hn hP hS hl)
theorem s_lload (o : Ok X own cc nL fr lo mc ms rt) {i : Nat} {x : Int64} (j : Nat) (hj : lv[j]? = some (i, .long x)) (d : decode cc pc = .ok (.lload i, 2)) (hq : pc + 2 = q) (k : Sim X Qf cs sl q lv (.long x :: st) h K) : Sim X Qf cs sl pc lv st h K := by
  subst hq; exact fun r hr H locs ls hn hP hS hl => lv_lload o.1 o.2.1 d (lv_at hl j hj) (k r hr H locs ls hn hP hS hl)
theorem s_aload_n (o : Ok X own cc nL fr lo mc ms rt) {f : Fin 4} {x : Nat} (j : Nat) (hj : lv[j]? = some ((f : Nat), .ref x)) (d : decode cc pc = .ok (.aload_n f, 1)) (hq : pc + 1 = q) (k : Sim X Qf cs sl q lv (.ref x :: st) h K) : Sim X Qf cs sl pc lv st h K := by
  subst hq; exact fun r hr H locs ls hn hP hS hl => lv_aload_n o.1 o.2.1 d rfl (lv_at hl j hj) (k r hr H locs ls hn hP hS hl)
theorem s_aload (o : Ok X own cc nL fr lo mc ms rt) {i : Nat} {x : Nat} (j : Nat) (hj : lv[j]? = some (i, .ref x)) (d : decode cc pc = .ok (.aload i, 2)) (hq : pc + 2 = q) (k : Sim X Qf cs sl q lv (.ref x :: st) h K) : Sim X Qf cs sl pc lv st h K := by
  subst hq; exact fun r hr H locs ls hn hP hS hl => lv_aload o.1 o.2.1 d (lv_at hl j hj) (k r hr H locs ls hn hP hS hl)
theorem s_istore_n (o : Ok X own cc nL fr lo mc ms rt) {f : Fin 4} {x : Int32} (ks : List Nat) (hl' : lv_pick (((f : Nat), Value.int x) :: lv.filter (fun q => !(q.1 == (f : Nat)) && !(q.1 + 1 == (f : Nat) && q.2.category == 2))) ks = lv') (d : decode cc pc = .ok (.istore_n f, 1)) (hi : (f : Nat) < nL) (hq : pc + 1 = q) (k : Sim X Qf cs sl q lv' st h K) : Sim X Qf cs sl pc lv (.int x :: st) h K := by
  subst hq; exact fun r hr H locs ls hn hP hS hl => lv_istore_n o.1 o.2.1 d rfl hl (by rw [o.2.2.1]; exact hi) rfl (fun ls' h' => k r hr H locs ls' hn hP hS (lv_sub h' ks hl'))
theorem s_istore (o : Ok X own cc nL fr lo mc ms rt) {i : Nat} {x : Int32} (ks : List Nat) (hl' : lv_pick ((i, Value.int x) :: lv.filter (fun q => !(q.1 == i) && !(q.1 + 1 == i && q.2.category == 2))) ks = lv') (d : decode cc pc = .ok (.istore i, 2)) (hi : i < nL) (hq : pc + 2 = q) (k : Sim X Qf cs sl q lv' st h K) : Sim X Qf cs sl pc lv (.int x :: st) h K := by
  subst hq; exact fun r hr H locs ls hn hP hS hl => lv_istore o.1 o.2.1 d hl (by rw [o.2.2.1]; exact hi) rfl (fun ls' h' => k r hr H locs ls' hn hP hS (lv_sub h' ks hl'))
theorem s_astore_n (o : Ok X own cc nL fr lo mc ms rt) {f : Fin 4} {x : Nat} (ks : List Nat) (hl' : lv_pick (((f : Nat), Value.ref x) :: lv.filter (fun q => !(q.1 == (f : Nat)) && !(q.1 + 1 == (f : Nat) && q.2.category == 2))) ks = lv') (d : decode cc pc = .ok (.astore_n f, 1)) (hi : (f : Nat) < nL) (hq : pc + 1 = q) (k : Sim X Qf cs sl q lv' st h K) : Sim X Qf cs sl pc lv (.ref x :: st) h K := by
  subst hq; exact fun r hr H locs ls hn hP hS hl => lv_astore_n o.1 o.2.1 d rfl hl (by rw [o.2.2.1]; exact hi) rfl (fun ls' h' => k r hr H locs ls' hn hP hS (lv_sub h' ks hl'))
theorem s_iinc (o : Ok X own cc nL fr lo mc ms rt) {i : Nat} {n : Int} {x v : Int32} {K : Int32 → Option ρ} (j : Nat) (hj : lv[j]? = some (i, .int x)) (hv : Int32.ofInt n = v) (ks : List Nat) {lv' : Int32 → List (Nat × Value)} (hl' : ∀ y : Int32, lv_pick ((i, Value.int y) :: lv.filter (fun q => !(q.1 == i) && !(q.1 + 1 == i && q.2.category == 2))) ks = lv' y) (d : decode cc pc = .ok (.iinc i n, 3)) (hi : i < nL) (hq : pc + 3 = q) (k : ∀ y, Sim X Qf cs sl q (lv' y) st h (K y)) : Sim X Qf cs sl pc lv st h (lt (x + v) K) := by
  subst hq; subst hv
  exact fun r hr H locs ls hn hP hS hl => lv_iinc o.1 o.2.1 d hl hj rfl (by rw [o.2.2.1]; exact hi) rfl (fun ls' h' => k _ r hr H locs ls' hn hP hS (lv_sub h' ks (hl' _)))
theorem s_iadd (o : Ok X own cc nL fr lo mc ms rt) {x y : Int32} (d : decode cc pc = .ok (.iadd, 1)) (hq : pc + 1 = q) (k : Sim X Qf cs sl q lv (.int (x + y) :: st) h K) : Sim X Qf cs sl pc lv (.int y :: .int x :: st) h K := by
  subst hq; exact fun r hr H locs ls hn hP hS hl => lv_iadd o.1 o.2.1 d (k r hr H locs ls hn hP hS hl)
theorem s_isub (o : Ok X own cc nL fr lo mc ms rt) {x y : Int32} (d : decode cc pc = .ok (.isub, 1)) (hq : pc + 1 = q) (k : Sim X Qf cs sl q lv (.int (x - y) :: st) h K) : Sim X Qf cs sl pc lv (.int y :: .int x :: st) h K := by
  subst hq; exact fun r hr H locs ls hn hP hS hl => lv_isub o.1 o.2.1 d (k r hr H locs ls hn hP hS hl)
theorem s_imul (o : Ok X own cc nL fr lo mc ms rt) {x y : Int32} (d : decode cc pc = .ok (.imul, 1)) (hq : pc + 1 = q) (k : Sim X Qf cs sl q lv (.int (x * y) :: st) h K) : Sim X Qf cs sl pc lv (.int y :: .int x :: st) h K := by
  subst hq; exact fun r hr H locs ls hn hP hS hl => lv_imul o.1 o.2.1 d (k r hr H locs ls hn hP hS hl)
theorem s_iand (o : Ok X own cc nL fr lo mc ms rt) {x y : Int32} (d : decode cc pc = .ok (.iand, 1)) (hq : pc + 1 = q) (k : Sim X Qf cs sl q lv (.int (x &&& y) :: st) h K) : Sim X Qf cs sl pc lv (.int y :: .int x :: st) h K := by
  subst hq; exact fun r hr H locs ls hn hP hS hl => lv_iand o.1 o.2.1 d (k r hr H locs ls hn hP hS hl)
theorem s_ior (o : Ok X own cc nL fr lo mc ms rt) {x y : Int32} (d : decode cc pc = .ok (.ior, 1)) (hq : pc + 1 = q) (k : Sim X Qf cs sl q lv (.int (x ||| y) :: st) h K) : Sim X Qf cs sl pc lv (.int y :: .int x :: st) h K := by
  subst hq; exact fun r hr H locs ls hn hP hS hl => lv_ior o.1 o.2.1 d (k r hr H locs ls hn hP hS hl)
theorem s_ixor (o : Ok X own cc nL fr lo mc ms rt) {x y : Int32} (d : decode cc pc = .ok (.ixor, 1)) (hq : pc + 1 = q) (k : Sim X Qf cs sl q lv (.int (x ^^^ y) :: st) h K) : Sim X Qf cs sl pc lv (.int y :: .int x :: st) h K := by
  subst hq; exact fun r hr H locs ls hn hP hS hl => lv_ixor o.1 o.2.1 d (k r hr H locs ls hn hP hS hl)
theorem s_ishl (o : Ok X own cc nL fr lo mc ms rt) {x y : Int32} (d : decode cc pc = .ok (.ishl, 1)) (hq : pc + 1 = q) (k : Sim X Qf cs sl q lv (.int (x <<< (y &&& 31)) :: st) h K) : Sim X Qf cs sl pc lv (.int y :: .int x :: st) h K := by
  subst hq; exact fun r hr H locs ls hn hP hS hl => lv_ishl o.1 o.2.1 d (k r hr H locs ls hn hP hS hl)
theorem s_ishr (o : Ok X own cc nL fr lo mc ms rt) {x y : Int32} (d : decode cc pc = .ok (.ishr, 1)) (hq : pc + 1 = q) (k : Sim X Qf cs sl q lv (.int (x >>> (y &&& 31)) :: st) h K) : Sim X Qf cs sl pc lv (.int y :: .int x :: st) h K := by
  subst hq; exact fun r hr H locs ls hn hP hS hl => lv_ishr o.1 o.2.1 d (k r hr H locs ls hn hP hS hl)
theorem s_iushr (o : Ok X own cc nL fr lo mc ms rt) {x y : Int32} (d : decode cc pc = .ok (.iushr, 1)) (hq : pc + 1 = q) (k : Sim X Qf cs sl q lv (.int ((x.toUInt32 >>> (y.toUInt32 &&& Int32.toUInt32 31)).toInt32) :: st) h K) : Sim X Qf cs sl pc lv (.int y :: .int x :: st) h K := by
  subst hq; exact fun r hr H locs ls hn hP hS hl => lv_iushr o.1 o.2.1 d rfl (k r hr H locs ls hn hP hS hl)
theorem s_ineg (o : Ok X own cc nL fr lo mc ms rt) {x : Int32} (d : decode cc pc = .ok (.ineg, 1)) (hq : pc + 1 = q) (k : Sim X Qf cs sl q lv (.int (-x) :: st) h K) : Sim X Qf cs sl pc lv (.int x :: st) h K := by
  subst hq; exact fun r hr H locs ls hn hP hS hl => lv_ineg o.1 o.2.1 d (k r hr H locs ls hn hP hS hl)
theorem s_idiv (o : Ok X own cc nL fr lo mc ms rt) {x y : Int32} (d : decode cc pc = .ok (.idiv, 1)) (hq : pc + 1 = q) (k : Sim X Qf cs sl q lv (.int (x / y) :: st) h K) : Sim X Qf cs sl pc lv (.int y :: .int x :: st) h (q_nz y K) := by
  subst hq
  intro r hr H locs ls hn hP hS hl
  unfold q_nz at hr
  by_cases hy : y = 0
  · rw [if_pos hy] at hr; cases hr
  · rw [if_neg hy] at hr
    exact lv_idiv o.1 o.2.1 d hy (k r hr H locs ls hn hP hS hl)
theorem s_irem (o : Ok X own cc nL fr lo mc ms rt) {x y : Int32} (d : decode cc pc = .ok (.irem, 1)) (hq : pc + 1 = q) (k : Sim X Qf cs sl q lv (.int (x - x / y * y) :: st) h K) : Sim X Qf cs sl pc lv (.int y :: .int x :: st) h (q_nz y K) := by
  subst hq
  intro r hr H locs ls hn hP hS hl
  unfold q_nz at hr
  by_cases hy : y = 0
  · rw [if_pos hy] at hr; cases hr
  · rw [if_neg hy] at hr
    exact lv_irem o.1 o.2.1 d hy (k r hr H locs ls hn hP hS hl)
theorem s_lrem (o : Ok X own cc nL fr lo mc ms rt) {x y : Int64} (d : decode cc pc = .ok (.lrem, 1)) (hq : pc + 1 = q) (k : Sim X Qf cs sl q lv (.long (x - x / y * y) :: st) h K) : Sim X Qf cs sl pc lv (.long y :: .long x :: st) h (q_nzl y K) := by
  subst hq
  intro r hr H locs ls hn hP hS hl
  unfold q_nzl at hr
  by_cases hy : y = 0
  · rw [if_pos hy] at hr; cases hr
  · rw [if_neg hy] at hr
    exact lv_lrem o.1 o.2.1 d hy (k r hr H locs ls hn hP hS hl)
theorem s_ladd (o : Ok X own cc nL fr lo mc ms rt) {x y : Int64} (d : decode cc pc = .ok (.ladd, 1)) (hq : pc + 1 = q) (k : Sim X Qf cs sl q lv (.long (x + y) :: st) h K) : Sim X Qf cs sl pc lv (.long y :: .long x :: st) h K := by
  subst hq; exact fun r hr H locs ls hn hP hS hl => lv_ladd o.1 o.2.1 d (k r hr H locs ls hn hP hS hl)
theorem s_lsub (o : Ok X own cc nL fr lo mc ms rt) {x y : Int64} (d : decode cc pc = .ok (.lsub, 1)) (hq : pc + 1 = q) (k : Sim X Qf cs sl q lv (.long (x - y) :: st) h K) : Sim X Qf cs sl pc lv (.long y :: .long x :: st) h K := by
  subst hq; exact fun r hr H locs ls hn hP hS hl => lv_lsub o.1 o.2.1 d (k r hr H locs ls hn hP hS hl)
theorem s_lmul (o : Ok X own cc nL fr lo mc ms rt) {x y : Int64} (d : decode cc pc = .ok (.lmul, 1)) (hq : pc + 1 = q) (k : Sim X Qf cs sl q lv (.long (x * y) :: st) h K) : Sim X Qf cs sl pc lv (.long y :: .long x :: st) h K := by
  subst hq; exact fun r hr H locs ls hn hP hS hl => lv_lmul o.1 o.2.1 d (k r hr H locs ls hn hP hS hl)
theorem s_land (o : Ok X own cc nL fr lo mc ms rt) {x y : Int64} (d : decode cc pc = .ok (.land, 1)) (hq : pc + 1 = q) (k : Sim X Qf cs sl q lv (.long (x &&& y) :: st) h K) : Sim X Qf cs sl pc lv (.long y :: .long x :: st) h K := by
  subst hq; exact fun r hr H locs ls hn hP hS hl => lv_land o.1 o.2.1 d (k r hr H locs ls hn hP hS hl)
theorem s_lor (o : Ok X own cc nL fr lo mc ms rt) {x y : Int64} (d : decode cc pc = .ok (.lor, 1)) (hq : pc + 1 = q) (k : Sim X Qf cs sl q lv (.long (x ||| y) :: st) h K) : Sim X Qf cs sl pc lv (.long y :: .long x :: st) h K := by
  subst hq; exact fun r hr H locs ls hn hP hS hl => lv_lor o.1 o.2.1 d (k r hr H locs ls hn hP hS hl)
theorem s_lshl (o : Ok X own cc nL fr lo mc ms rt) {x : Int64} {y : Int32} (d : decode cc pc = .ok (.lshl, 1)) (hq : pc + 1 = q) (k : Sim X Qf cs sl q lv (.long (x <<< (y.toInt64 &&& 63)) :: st) h K) : Sim X Qf cs sl pc lv (.int y :: .long x :: st) h K := by
  subst hq; exact fun r hr H locs ls hn hP hS hl => lv_lshl o.1 o.2.1 d rfl (k r hr H locs ls hn hP hS hl)
theorem s_lshr (o : Ok X own cc nL fr lo mc ms rt) {x : Int64} {y : Int32} (d : decode cc pc = .ok (.lshr, 1)) (hq : pc + 1 = q) (k : Sim X Qf cs sl q lv (.long (x >>> (y.toInt64 &&& 63)) :: st) h K) : Sim X Qf cs sl pc lv (.int y :: .long x :: st) h K := by
  subst hq; exact fun r hr H locs ls hn hP hS hl => lv_lshr o.1 o.2.1 d rfl (k r hr H locs ls hn hP hS hl)
theorem s_lushr (o : Ok X own cc nL fr lo mc ms rt) {x : Int64} {y : Int32} (d : decode cc pc = .ok (.lushr, 1)) (hq : pc + 1 = q) (k : Sim X Qf cs sl q lv (.long ((x.toUInt64 >>> (y.toInt64.toUInt64 &&& Int64.toUInt64 63)).toInt64) :: st) h K) : Sim X Qf cs sl pc lv (.int y :: .long x :: st) h K := by
  subst hq; exact fun r hr H locs ls hn hP hS hl => lv_lushr o.1 o.2.1 d rfl (k r hr H locs ls hn hP hS hl)
theorem s_lcmp (o : Ok X own cc nL fr lo mc ms rt) {x y : Int64} (d : decode cc pc = .ok (.lcmp, 1)) (hq : pc + 1 = q) (k : Sim X Qf cs sl q lv (.int (lg_cmp x y) :: st) h K) : Sim X Qf cs sl pc lv (.long y :: .long x :: st) h K := by
  subst hq; exact fun r hr H locs ls hn hP hS hl => W.lcmp o.1 o.2.1 d (k r hr H locs ls hn hP hS hl)
theorem s_i2l (o : Ok X own cc nL fr lo mc ms rt) {x : Int32} (d : decode cc pc = .ok (.i2l, 1)) (hq : pc + 1 = q) (k : Sim X Qf cs sl q lv (.long x.toInt64 :: st) h K) : Sim X Qf cs sl pc lv (.int x :: st) h K := by
  subst hq; exact fun r hr H locs ls hn hP hS hl => lv_i2l o.1 o.2.1 d rfl (k r hr H locs ls hn hP hS hl)
theorem s_l2i (o : Ok X own cc nL fr lo mc ms rt) {x : Int64} (d : decode cc pc = .ok (.l2i, 1)) (hq : pc + 1 = q) (k : Sim X Qf cs sl q lv (.int x.toInt32 :: st) h K) : Sim X Qf cs sl pc lv (.long x :: st) h K := by
  subst hq; exact fun r hr H locs ls hn hP hS hl => lv_l2i o.1 o.2.1 d rfl (k r hr H locs ls hn hP hS hl)
theorem s_i2b (o : Ok X own cc nL fr lo mc ms rt) {x : Int32} (d : decode cc pc = .ok (.i2b, 1)) (hq : pc + 1 = q) (k : Sim X Qf cs sl q lv (.int x.toInt8.toInt32 :: st) h K) : Sim X Qf cs sl pc lv (.int x :: st) h K := by
  subst hq; exact fun r hr H locs ls hn hP hS hl => lv_i2b o.1 o.2.1 d rfl (k r hr H locs ls hn hP hS hl)
theorem s_dup (o : Ok X own cc nL fr lo mc ms rt) {v : Value} (hc : v.category = 1) (d : decode cc pc = .ok (.dup, 1)) (hq : pc + 1 = q) (k : Sim X Qf cs sl q lv (v :: v :: st) h K) : Sim X Qf cs sl pc lv (v :: st) h K := by
  subst hq; exact fun r hr H locs ls hn hP hS hl => lv_dup o.1 o.2.1 d hc (k r hr H locs ls hn hP hS hl)
theorem s_dup2 (o : Ok X own cc nL fr lo mc ms rt) {v w : Value} (hc : v.category = 1) (hc2 : w.category = 1) (d : decode cc pc = .ok (.dup2, 1)) (hq : pc + 1 = q) (k : Sim X Qf cs sl q lv (v :: w :: v :: w :: st) h K) : Sim X Qf cs sl pc lv (v :: w :: st) h K := by
  subst hq; exact fun r hr H locs ls hn hP hS hl => lv_dup2_11 o.1 o.2.1 d hc hc2 (k r hr H locs ls hn hP hS hl)
theorem s_pop (o : Ok X own cc nL fr lo mc ms rt) {v : Value} (hc : v.category = 1) (d : decode cc pc = .ok (.pop, 1)) (hq : pc + 1 = q) (k : Sim X Qf cs sl q lv st h K) : Sim X Qf cs sl pc lv (v :: st) h K := by
  subst hq; exact fun r hr H locs ls hn hP hS hl => lv_pop o.1 o.2.1 d hc (k r hr H locs ls hn hP hS hl)
theorem s_goto (o : Ok X own cc nL fr lo mc ms rt) {off : Int} {tgt : Nat} (d : decode cc pc = .ok (.goto off, 3)) (ht : (pc : Int) + off = (tgt : Int)) (k : Sim X Qf cs sl tgt lv st h K) : Sim X Qf cs sl pc lv st h K := fun r hr H locs ls hn hP hS hl => lv_goto o.1 o.2.1 d ht (k r hr H locs ls hn hP hS hl)
end SIM
