/-! THE CLAIM OUT OF ONE WALK OF THE LAW'S BODY. Your part is whole_start (and what it stands on); all else here is the same for every law, but numbers. -/
def R_law : String := "SixMapsLaw"
def lw_P (b : Addr) (xs : List Int32) (args : Array Value) (s : State) : Prop := args = #[.ref b] ∧ s.IntsAt b xs ∧ xs.length ≤ 320 ∧ (Jvm.Cond.and given_1 narrow_1).before args s = true
def lw_Q (_ : Array Value) (s : State) (o : Outcome) (t : State) : Prop := o = .returned (some (.int 1)) ∧ Framed s o t [] 87 2729
def lw_Z (below : List Frame) (a : Array Value) (s : State) : State → Prop := fun t => ∃ o, t.status = .running ∧ Ended t below o ∧ lw_Q a s o t
/-- the law's own end, with 1 on the stack, nothing written that was there before, its room as the claim has it -/
theorem lw_ret {p : Program} {l : Launch} {e : Env} {s : State} {m : MethodId} {below : List Frame} {meth : Method} {c : Code} {b : Nat} (hx : p.tables.exec = Jvm.exec) (hb : c.code = code) (hr : meth.sig.returnType = ret) (hlocks : meth.locks = false) {pc : Nat} {H : Heap} {ls : Array Slot} (hdg : decode code pc = .ok (.ireturn, 1)) : W p l e room_1 s m #[Value.ref b] below meth c H [] 87 2729 (lw_Z below #[Value.ref b] s) (F0 m pc ls [.int 1]) := by
  intro T hT X
  obtain ⟨fs, hret, hrun, hended, hW, hframe⟩ := X.leave (v := some (.int 1)) (hlocks := hlocks) (fun h => by rw [hr] at h; cases h)
  have hmeth' : T.vm.method? m = some meth := X.method'
  refine ⟨T.setFrames fs, ?_, .returned (some (.int 1)), hrun, hended, rfl, ⟨_, rfl⟩, hW, hframe⟩
  jvm_step X.here [X.here.top, hx, hb, hdg, hmeth', hr, ret, narrow_b1]
  (try refine ⟨rfl, ?_⟩); (try refine ⟨rfl, ?_⟩)
  first | (intro acts; rw [hret _ acts rfl rfl rfl]) | rw [hret _ _ rfl rfl rfl]
  exact Steps.refl _
/-- what holds at the law's entry: the machine, the code, the tables' words (any of lw_tbl by 'hts w (by decide +kernel)'), the script of L ints xs at the cell b, what the Statement gives of the start (any of its parts by flat_of_before) -/
def lw_At (p : Program) (s : State) (m : MethodId) (meth : Method) (c : Code) (b L : Nat) (xs : Nat → Int32) : Prop :=
  p.tables.exec = Jvm.exec ∧ c.code = code ∧ meth.sig.returnType = ret ∧ c.maxLocals = 4 ∧ s.vm.findClass R_law = some m.cls ∧ (∀ w ∈ lw_tbl, w.before #[Value.ref b] s = true) ∧ va_X b L xs s s.heap ∧ b < s.heap.size ∧ meth.locks = false ∧ (Jvm.Cond.and given_1 narrow_1).before #[Value.ref b] s = true
/-! ===== the law's own rows ===== -/
def q_sx (L : Nat) (sx : Nat → Int32) (i : Int32) : Option Int32 := if q_in i L then some (sx i.toNatClampNeg) else none
def q_one (v : Int32) : Option Unit := if v = 1 then some () else none
def z_ZL (X : Cx) (bS : Nat) (_ : Unit) : State → Prop := lw_Z (xb X) #[Value.ref bS] (xs X)
def LO (X : Cx) (bS L : Nat) (sx : Nat → Int32) : Prop := xa X = #[Value.ref bS] ∧ (xG X).1 = (xs X).heap.size ∧ va_X bS L sx (xs X) (xs X).heap ∧ bS < (xs X).heap.size
section LAWR
variable {X : Cx} {own : String} {cc : ByteArray} {nL fr lo mc ms : Nat} {rt : Option FieldType} {ρ : Type} {Qf : ρ → State → Prop} {cs sl pc q bS L : Nat} {sx : Nat → Int32} {lv : List (Nat × Value)} {st : List Value} {h : Hp}
theorem LO.nA (l : LO X bS L sx) : ¬ z_A (xG X) bS := fun h9 => by
  have h1 : (xG X).1 ≤ bS := h9
  have h2 := l.2.2.2
  rw [l.2.1] at h1
  omega
theorem s_sld {K : Int32 → Option ρ} (o : Ok X own cc nL fr lo mc ms rt) (l : LO X bS L sx) {i : Int32} (d : decode cc pc = .ok (.iaload, 1)) (hq : pc + 1 = q) (k : ∀ v, Sim X Qf cs sl q lv (.int v :: st) h (K v)) : Sim X Qf cs sl pc lv (.int i :: .ref bS :: st) h ((q_sx L sx i).bind K) := by
  subst hq
  intro r hr H locs ls hn hP hS hl
  obtain ⟨v, hv, hr⟩ := Option.bind_eq_some_iff.mp hr
  unfold q_sx at hv
  split at hv
  · rename_i hi
    cases hv
    exact va_sld o.1 o.2.1 l.2.2.1 l.2.2.2 l.nA hS (vp_in_iff.mpr hi) d (k _ r hr H locs ls hn hP hS hl)
  · cases hv
theorem s_slen {K : Option ρ} (o : Ok X own cc nL fr lo mc ms rt) (l : LO X bS L sx) (d : decode cc pc = .ok (.arraylength, 1)) (hq : pc + 1 = q) (k : Sim X Qf cs sl q lv (.int (Int32.ofNat L) :: st) h K) : Sim X Qf cs sl pc lv (.ref bS :: st) h K := by
  subst hq
  exact fun r hr H locs ls hn hP hS hl => va_slen o.1 o.2.1 l.2.2.1 l.2.2.2 l.nA hS d (k r hr H locs ls hn hP hS hl)
theorem s_lawret (o : Ok X RL cL_law 4 12 446 87 2729 (some .boolean)) (l : LO X bS L sx) {v : Int32} (d : decode cL_law pc = .ok (.ireturn, 1)) (h1 : cs ≤ 87 := by decide) (h2 : sl ≤ 2729 := by decide) : Sim X (z_ZL X bS) cs sl pc lv [.int v] h (q_one v) := by
  intro r hr H locs ls hn hP hS hl
  unfold q_one at hr
  split at hr
  · rename_i hv
    subst hv
    have hR : xR X = room_1 := o.2.2.2.2.2.2.2.2.1
    have ha := l.1
    show W (xp X) (xl X) (xe X) (xR X) (xs X) (xm X) (xa X) (xb X) (xM X) (xc X) H locs cs sl (lw_Z (xb X) #[Value.ref bS] (xs X)) (F0 (xm X) pc ls [.int 1])
    rw [hR, ha]
    refine va_forget (fun q hq => ?_) ?_
    · have h3 : (xG X).1 ≤ q.base := hS.2.2 q hq
      rw [l.2.1] at h3
      exact h3
    · refine W.widen (k := 87) (n := 2729) h1 h2 ?_
      exact lw_ret o.1 o.2.1 o.2.2.2.2.2.2.2.1 o.2.2.2.2.2.2.1 d
  · cases hr
end LAWR
