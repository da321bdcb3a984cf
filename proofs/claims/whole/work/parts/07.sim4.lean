/-! ===== binds over answers, switches, new cells ===== -/
def bi {α β : Type} (K0 : Option (α × Hp)) (K : α → Hp → Option β) : Option β := K0.bind (fun q => K q.1 q.2)
def bn {β : Type} (K0 : Nat × Hp) (K : Nat → Hp → Option β) : Option β := K K0.1 K0.2
def sw {β : Type} (x : Int32) (lw : Int) (Ks : List (Option β)) (D : Option β) : Option β := if x.toInt < lw then D else match Ks[(x.toInt - lw).toNat]? with
  | some K => K
  | none => D
/-- a new object, a new row -/
def q_new (h : Hp) (kd : Nat) : Nat × Hp := (h.1, (h.1 + 1, (fun x => if x = h.1 then (kd, 0) else h.2.1 x), (fun x => if x = h.1 then (fun _ => 0) else h.2.2.1 x), (fun x => if x = h.1 then (fun _ => 0) else h.2.2.2.1 x), (fun x => if x = h.1 then (fun _ => none) else h.2.2.2.2 x)))
def q_nwa (h : Hp) (kd n : Nat) : Nat × Hp := (h.1, (h.1 + 1, (fun x => if x = h.1 then (kd, n) else h.2.1 x), (fun x => if x = h.1 then (fun _ => 0) else h.2.2.1 x), (fun x => if x = h.1 then (fun _ => 0) else h.2.2.2.1 x), (fun x => if x = h.1 then (fun _ => none) else h.2.2.2.2 x)))
def q_rs (h : Hp) (a : Nat) (i : Int32) (v : Nat) : Option Hp := if (zS h a).1 = 11 ∧ q_in i (zS h a).2 ∧ (zS h v).1 = 5 then some (sR h a i.toNatClampNeg (some v)) else none
section SIMD
variable {X : Cx} {own : String} {cc : ByteArray} {nL fr lo mc ms : Nat} {rt : Option FieldType} {ρ : Type} {Qf : ρ → State → Prop} {cs sl pc q : Nat} {lv lv' : List (Nat × Value)} {st rest As : List Value} {h : Hp}
variable {a ci idx n maxL fr' lo' mc' ms' cs' sl' : Nat} {y : MethodName} {cc' : ByteArray} {ret : Option FieldType}
theorem s_bi {K0 : Option (Int32 × Hp)} {K : Int32 → Hp → Option ρ} {vs : List Value} (hrun : ∀ r0, K0 = some r0 → Run X cs sl pc mc' ms' lv st rest h (z_qi (xG X) (zN h + mc') r0) vs) (hq : pc + 3 = q) (hc : cs + mc' = cs') (hs : sl + ms' = sl') (k : ∀ v h', Sim X Qf cs' sl' q lv (.int v :: rest) h' (K v h')) : Sim X Qf cs sl pc lv st h (bi K0 K) := s_calli hrun hq hc hs k
theorem s_bl {K0 : Option (Int64 × Hp)} {K : Int64 → Hp → Option ρ} {vs : List Value} (hrun : ∀ r0, K0 = some r0 → Run X cs sl pc mc' ms' lv st rest h (z_ql (xG X) (zN h + mc') r0) vs) (hq : pc + 3 = q) (hc : cs + mc' = cs') (hs : sl + ms' = sl') (k : ∀ v h', Sim X Qf cs' sl' q lv (.long v :: rest) h' (K v h')) : Sim X Qf cs sl pc lv st h (bi K0 K) := s_calll hrun hq hc hs k
def SwOk (X : Cx) {ρ : Type} (Qf : ρ → State → Prop) (cs sl pc : Nat) (lv : List (Nat × Value)) (st : List Value) (h : Hp) : List Int → List (Option ρ) → Prop
  | off :: os, K :: Ks => (∃ tgt : Nat, (pc : Int) + off = (tgt : Int) ∧ Sim X Qf cs sl tgt lv st h K) ∧ SwOk X Qf cs sl pc lv st h os Ks
  | [], [] => True
  | _, _ => False
theorem SwOk_at : ∀ (os : List Int) (Ks : List (Option ρ)), SwOk X Qf cs sl pc lv st h os Ks → ∀ (j : Nat) (off : Int), os[j]? = some off → ∃ K, Ks[j]? = some K ∧ ∃ tgt : Nat, (pc : Int) + off = (tgt : Int) ∧ Sim X Qf cs sl tgt lv st h K
  | [], _, _, j, off, hj => by simp at hj
  | o :: os, [], hs, j, off, hj => hs.elim
  | o :: os, K :: Ks, hs, 0, off, hj => by
    simp at hj
    subst hj
    exact ⟨K, rfl, hs.1⟩
  | o :: os, K :: Ks, hs, j + 1, off, hj => by
    simp at hj
    obtain ⟨K', h1, h2⟩ := SwOk_at os Ks hs.2 j off hj
    exact ⟨K', by simpa using h1, h2⟩
theorem SwOk_len : ∀ (os : List Int) (Ks : List (Option ρ)), SwOk X Qf cs sl pc lv st h os Ks → Ks.length = os.length
  | [], [], _ => rfl
  | [], _ :: _, hs => hs.elim
  | _ :: _, [], hs => hs.elim
  | _ :: os, _ :: Ks, hs => by simp [SwOk_len os Ks hs.2]
theorem s_sw (o : Ok X own cc nL fr lo mc ms rt) {x : Int32} {dflt lw hg : Int} {offs : Array Int} {len tgD : Nat} {D : Option ρ} {Ks : List (Option ρ)} (d : decode cc pc = .ok (.tableswitch dflt lw hg offs, len)) (hl9 : (offs.toList.length : Int) = hg - lw + 1) (hD : (pc : Int) + dflt = (tgD : Int)) (kd : Sim X Qf cs sl tgD lv st h D) (kt : SwOk X Qf cs sl pc lv st h offs.toList Ks) : Sim X Qf cs sl pc lv (.int x :: st) h (sw x lw Ks D) := by
  intro r hr H locs ls hn hP hS hl
  unfold sw at hr
  by_cases c : x.toInt < lw
  · rw [if_pos c] at hr
    exact lv_tableOut o.1 o.2.1 d (Or.inl c) hD (kd r hr H locs ls hn hP hS hl)
  · rw [if_neg c] at hr
    have hlen := SwOk_len _ _ kt
    by_cases c2 : hg < x.toInt
    · have h1 : Ks[(x.toInt - lw).toNat]? = none := by
        rw [List.getElem?_eq_none]
        omega
      rw [h1] at hr
      exact lv_tableOut o.1 o.2.1 d (Or.inr c2) hD (kd r hr H locs ls hn hP hS hl)
    · have hj : (x.toInt - lw).toNat < offs.toList.length := by omega
      have h1 : offs.toList[(x.toInt - lw).toNat]? = some offs.toList[(x.toInt - lw).toNat] := List.getElem?_eq_getElem hj
      obtain ⟨K, h2, tgt, h3, h4⟩ := SwOk_at _ _ kt _ _ h1
      rw [h2] at hr
      exact lv_tableIn o.1 o.2.1 d c c2 (by rw [← Array.getElem?_toList]; exact h1) h3 (h4 r hr H locs ls hn hP hS hl)
theorem s_look2 (o : Ok X own cc nL fr lo mc ms rt) {x k0 k1 : Int32} {dflt i0 o0 i1 o1 : Int} {len t0 t1 tD : Nat} {A B D : Option ρ} {d1 : Decidable (x = k0)} {d2 : Decidable (x = k1)} (d : decode cc pc = .ok (.lookupswitch dflt #[(i0, o0), (i1, o1)], len)) (hlt : i0 < i1) (h0 : k0.toInt = i0) (h1 : k1.toInt = i1) (e0 : (pc : Int) + o0 = (t0 : Int)) (e1 : (pc : Int) + o1 = (t1 : Int)) (eD : (pc : Int) + dflt = (tD : Int)) (kA : Sim X Qf cs sl t0 lv st h A) (kB : Sim X Qf cs sl t1 lv st h B) (kD : Sim X Qf cs sl tD lv st h D) : Sim X Qf cs sl pc lv (.int x :: st) h (@ite _ (x = k0) d1 A (@ite _ (x = k1) d2 B D)) := by
  intro r hr H locs ls hn hP hS hl
  have hp : (((#[(i0, o0), (i1, o1)] : Array (Int × Int)).toList.zip ((#[(i0, o0), (i1, o1)] : Array (Int × Int)).toList.drop 1)).all (fun (a, next) => a.1 < next.1)) = true := by simp [hlt]
  by_cases c0 : x = k0
  · rw [if_pos c0] at hr
    exact lv_lookup o.1 o.2.1 d hp (by rw [show (#[(i0, o0), (i1, o1)] : Array (Int × Int)).toList = [(i0, o0), (i1, o1)] from rfl, Op.lookupswitch.offset_cons, if_pos (by rw [c0, h0])]) e0 (kA r hr H locs ls hn hP hS hl)
  · rw [if_neg c0] at hr
    by_cases c1 : x = k1
    · rw [if_pos c1] at hr
      exact lv_lookup o.1 o.2.1 d hp (by rw [show (#[(i0, o0), (i1, o1)] : Array (Int × Int)).toList = [(i0, o0), (i1, o1)] from rfl, lv_osw c0 h0, Op.lookupswitch.offset_cons, if_pos (by rw [c1, h1])]) e1 (kB r hr H locs ls hn hP hS hl)
    · rw [if_neg c1] at hr
      exact lv_lookup o.1 o.2.1 d hp (by rw [show (#[(i0, o0), (i1, o1)] : Array (Int × Int)).toList = [(i0, o0), (i1, o1)] from rfl, lv_osw c0 h0, lv_osw c1 h1]; rfl) eD (kD r hr H locs ls hn hP hS hl)
theorem s_obj {K : Option ρ} (o : Ok X own cc nL fr lo mc ms rt) {b : Nat} (hw : ∀ w ∈ [Cond.methodLink own idx objectInit, Cond.instanceMethod objectInit, Cond.code objectInit ⟨#[0xb1]⟩ 1 none], w ∈ GW) (hfr : 1 ≤ fr) (hlo : (st.map fun v => v.category).sum + 12 ≤ lo) (d : decode cc pc = .ok (.invokespecial idx, 3)) (hq : pc + 3 = q) (k : Sim X Qf cs sl q lv st h K) : Sim X Qf cs sl pc lv (.ref b :: st) h K := by
  subst hq
  intro r hr H locs ls hn hP hS hl
  have hw' := fun w h9 => o.2.2.2.2.1 w (hw w h9)
  have hR := o.2.2.2.2.2.2.2.2.1
  exact W.objInit o.1 o.2.1 o.2.2.2.1 (hw' _ (by simp)) (hw' _ (by simp)) (hw' _ (by simp)) rfl hl.1 rfl d (by rw [hR]; exact hfr) (by rw [hR]; show 2 * 0 + _ + 12 ≤ lo; omega) (k r hr H locs ls hn hP hS hl)
/-- a cell that came is at the heap's end -/
theorem z_fresh (o : Ok X own cc nL fr lo mc ms rt) {H1 : Heap} {e : va_E} {qa : Nat} (hn : zN h = xn X + cs) (hP1 : va_P (gD (xG X)) vwCl (z_W (xG X) h ++ [(qa, e)]) H1) (hD1 : va_D (z_A (xG X)) (z_W (xG X) h ++ [(qa, e)])) (hz : H1.size ≤ (xs X).heap.size + (cs + 1)) : qa = (xG X).1 + zN h := by
  have hlen : (z_W (xG X) h).length = zN h := by simp [z_W]
  have hlast : (z_W (xG X) h ++ [(qa, e)])[zN h]? = some (qa, e) := by rw [← hlen]; simp
  have h1 : qa < H1.size := (hP1 _ _ hlast).lt
  have h2 : (xG X).1 ≤ qa := hD1.2 _ _ hlast
  have e0 := o.2.2.2.2.2.2.2.2.2
  rcases Nat.lt_or_ge (qa - (xG X).1) (zN h) with c | c
  · have h3 : (z_W (xG X) h ++ [(qa, e)])[qa - (xG X).1]? = some ((xG X).1 + (qa - (xG X).1), z_cell (xG X) h (qa - (xG X).1)) := by
      rw [List.getElem?_append_left (by rw [hlen]; exact c)]
      exact z_W_at (xG X) h c
    have h4 := hD1.1 _ _ _ _ h3 hlast (by show (xG X).1 + (qa - (xG X).1) = qa; omega)
    omega
  · omega
theorem z_W_push {G : Gx} {h h' : Hp} {e : va_E} (hn : zN h' = zN h + 1) (he : z_cell G h' (zN h) = e) (ho : ∀ i, i < zN h → z_cell G h' i = z_cell G h i) : z_W G h ++ [(G.1 + zN h, e)] = z_W G h' := by
  have hlen : (z_W G h).length = zN h := by simp [z_W]
  apply List.ext_getElem?
  intro i
  rcases Nat.lt_trichotomy i (zN h) with c | c | c
  · rw [List.getElem?_append_left (by rw [hlen]; exact c), z_W_at G h c, z_W_at G h' (by omega), ho i c]
  · subst c
    rw [List.getElem?_append_right (by omega), z_W_at G h' (by omega), he, hlen]
    simp
  · have h1 : (z_W G h ++ [(G.1 + zN h, e)])[i]? = none := by
      rw [List.getElem?_eq_none]; simp [hlen]; omega
    have h2 : (z_W G h')[i]? = none := by
      rw [List.getElem?_eq_none]; simp [z_W]; omega
    rw [h1, h2]
end SIMD
