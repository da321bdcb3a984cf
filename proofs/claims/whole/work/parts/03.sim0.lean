/-! ===== heaps as numbers: which cells there are, what each holds ===== -/
/-- how many cells; of each its kind and length (kind 0: none; ci + 1: an object of vwCl's class ci; 8 byte[], 9 int[], 10 boolean[], 11 Standing[]); ints, longs, references by cell and place -/
abbrev Hp : Type := Nat × (Nat → Nat × Nat) × (Nat → Nat → Int32) × (Nat → Nat → Int64) × (Nat → Nat → Option Nat)
def up2 {α : Type} (f : Nat → Nat → α) (a k : Nat) (v : α) : Nat → Nat → α := fun x y => if x = a ∧ y = k then v else f x y
abbrev zN (h : Hp) : Nat := h.1
abbrev zS (h : Hp) : Nat → Nat × Nat := h.2.1
abbrev zI (h : Hp) : Nat → Nat → Int32 := h.2.2.1
abbrev zL (h : Hp) : Nat → Nat → Int64 := h.2.2.2.1
abbrev zR (h : Hp) : Nat → Nat → Option Nat := h.2.2.2.2
def sI (h : Hp) (a k : Nat) (v : Int32) : Hp := (h.1, h.2.1, up2 h.2.2.1 a k v, h.2.2.2.1, h.2.2.2.2)
def sL (h : Hp) (a k : Nat) (v : Int64) : Hp := (h.1, h.2.1, h.2.2.1, up2 h.2.2.2.1 a k v, h.2.2.2.2)
def sR (h : Hp) (a k : Nat) (v : Option Nat) : Hp := (h.1, h.2.1, h.2.2.1, h.2.2.2.1, up2 h.2.2.2.2 a k v)
/-- a stretch of an int row copied into another -/
def sC (h : Hp) (a b sp dp n : Nat) : Hp := (h.1, h.2.1, (fun x => if x = b then va_cpy (h.2.2.1 a) (h.2.2.1 b) sp dp n else h.2.2.1 x), h.2.2.2.1, h.2.2.2.2)
abbrev q_in (i : Int32) (n : Nat) : Prop := 0 ≤ i.toInt ∧ i.toInt < (n : Int)
/-! the steps on it; none: not such a cell, or not within -/
def q_gi (h : Hp) (a ci k : Nat) : Option Int32 := if (zS h a).1 = ci + 1 then some (zI h a k) else none
def q_gl (h : Hp) (a ci k : Nat) : Option Int64 := if (zS h a).1 = ci + 1 then some (zL h a k) else none
def q_gr (h : Hp) (a ci k : Nat) : Option Nat := if (zS h a).1 = ci + 1 then zR h a k else none
def q_pi (h : Hp) (a ci k : Nat) (v : Int32) : Option Hp := if (zS h a).1 = ci + 1 then some (sI h a k v) else none
def q_pl (h : Hp) (a ci k : Nat) (v : Int64) : Option Hp := if (zS h a).1 = ci + 1 then some (sL h a k v) else none
def q_pr (h : Hp) (a ci k v : Nat) : Option Hp := if (zS h a).1 = ci + 1 then some (sR h a k (some v)) else none
def q_ai (h : Hp) (a kd : Nat) (i : Int32) : Option Int32 := if (zS h a).1 = kd ∧ q_in i (zS h a).2 then some (zI h a i.toNatClampNeg) else none
def q_ar (h : Hp) (a : Nat) (i : Int32) : Option Nat := if (zS h a).1 = 11 ∧ q_in i (zS h a).2 then zR h a i.toNatClampNeg else none
def q_as (h : Hp) (a kd : Nat) (i x : Int32) : Option Hp := if (zS h a).1 = kd ∧ q_in i (zS h a).2 then some (sI h a i.toNatClampNeg x) else none
def q_al (h : Hp) (a : Nat) : Option Int32 := if 8 ≤ (zS h a).1 ∧ (zS h a).1 ≤ 11 then some (Int32.ofNat (zS h a).2) else none
def q_cp (h : Hp) (a : Nat) (sp : Int32) (b : Nat) (dp n : Int32) : Option Hp := if (zS h a).1 = 9 ∧ (zS h b).1 = 9 ∧ 0 ≤ sp.toInt ∧ 0 ≤ dp.toInt ∧ 0 ≤ n.toInt ∧ sp.toNatClampNeg + n.toNatClampNeg ≤ (zS h a).2 ∧ dp.toNatClampNeg + n.toNatClampNeg ≤ (zS h b).2 then some (sC h a b sp.toNatClampNeg dp.toNatClampNeg n.toNatClampNeg) else none
def q_on {α : Type} (h : Hp) (a ci : Nat) (K : Option α) : Option α := if (zS h a).1 = ci + 1 then K else none
def q_nz {α : Type} (y : Int32) (K : Option α) : Option α := if y = 0 then none else K
def q_nzl {α : Type} (y : Int64) (K : Option α) : Option α := if y = 0 then none else K
def q_bo {α : Type} (v : Int32) (K : Option α) : Option α := if v = 0 ∨ v = 1 then K else none
def lt {α β : Type} (e : α) (K : α → β) : β := K e
def z_TM (j : Nat) : Int32 := ([9, 1, 1, 2, 30, 1, 1] : List Int32).getD j 0
def z_NO (j : Nat) : Int32 := ([2, 3, 1, 4, 4, 1, 1] : List Int32).getD j 0
def q_tm (i : Int32) : Option Int32 := if q_in i 7 then some (z_TM i.toNatClampNeg) else none
def q_no (i : Int32) : Option Int32 := if q_in i 7 then some (z_NO i.toNatClampNeg) else none
/-! ===== the machine's side ===== -/
/-- the base, the classes, the array classes (byte, int, boolean, Standing), the two static rows, the text constants and their bytes -/
abbrev Gx : Type := Nat × va_G × (ClassId × ClassId × ClassId × ClassId) × (Nat × Nat) × (Nat → Nat) × (Nat → Nat)
abbrev gD (G : Gx) : va_G := G.2.1
abbrev gB (G : Gx) : ClassId := G.2.2.1.1
abbrev gI (G : Gx) : ClassId := G.2.2.1.2.1
abbrev gZ (G : Gx) : ClassId := G.2.2.1.2.2.1
abbrev gS (G : Gx) : ClassId := G.2.2.1.2.2.2
abbrev gT (G : Gx) : Nat := G.2.2.2.1.1
abbrev gO (G : Gx) : Nat := G.2.2.2.1.2
abbrev gK (G : Gx) : Nat → Nat := G.2.2.2.2.1
abbrev gV (G : Gx) : Nat → Nat := G.2.2.2.2.2
abbrev z_tys (G : Gx) : List (ClassId × FieldType) := [(gB G, .byte), (gI G, .int), (gZ G, .boolean), (gS G, .object "SixMaps$Standing")]
def z_A (G : Gx) : Nat → Prop := fun q => G.1 ≤ q
abbrev rf (G : Gx) (a : Nat) : Value := .ref (G.1 + a)
def z_ft (ci k : Nat) : Nat := match vwCl[ci]? with
  | some r => if (r.2.1 k).2.2.1 = "I" then 0 else if (r.2.1 k).2.2.1 = "J" then 1 else 2
  | none => 2
def z_nf (ci : Nat) : Nat := match vwCl[ci]? with
  | some r => r.2.2
  | none => 0
def z_fv (G : Gx) (h : Hp) (ci a k : Nat) : Value := if z_ft ci k = 0 then .int (zI h a k) else if z_ft ci k = 1 then .long (zL h a k) else va_rf ((zR h a k).map (fun b => G.1 + b))
def z_cell (G : Gx) (h : Hp) (a : Nat) : va_E :=
  if (zS h a).1 = 8 then .inl (gB G, (zS h a).2, .inl (zI h a))
  else if (zS h a).1 = 9 then .inl (gI G, (zS h a).2, .inl (zI h a))
  else if (zS h a).1 = 10 then .inl (gZ G, (zS h a).2, .inl (zI h a))
  else if (zS h a).1 = 11 then .inl (gS G, (zS h a).2, .inr (.inr (.inr (.inr (fun j => (zR h a j).map (fun b => G.1 + b))))))
  else .inr ((zS h a).1 - 1, (List.range (z_nf ((zS h a).1 - 1))).map (z_fv G h ((zS h a).1 - 1) a))
def z_W (G : Gx) (h : Hp) : va_W := (List.range (zN h)).map (fun a => (G.1 + a, z_cell G h a))
def z_P (G : Gx) (h : Hp) (H : Heap) : Prop := va_P (gD G) vwCl (z_W G h) H ∧ ∀ a, (zS h a).1 ≠ 0 → a < zN h
theorem z_W_at (G : Gx) (h : Hp) {a : Nat} (ha : a < zN h) : (z_W G h)[a]? = some (G.1 + a, z_cell G h a) := by
  unfold z_W
  rw [List.getElem?_map, List.getElem?_range ha]
  rfl
theorem z_W_of (G : Gx) (h : Hp) {a : Nat} {q : Nat × va_E} (ha : (z_W G h)[a]? = some q) : a < zN h ∧ q = (G.1 + a, z_cell G h a) := by
  have hl : a < (z_W G h).length := (List.getElem?_eq_some_iff.mp ha).1
  have hl2 : a < zN h := by simpa [z_W] using hl
  rw [z_W_at G h hl2] at ha
  exact ⟨hl2, (Option.some.inj ha).symm⟩
theorem z_W_D (G : Gx) (h : Hp) : va_D (z_A G) (z_W G h) := by
  refine ⟨fun i j p q hi hj e => ?_, fun k q hk => ?_⟩
  · obtain ⟨-, rfl⟩ := z_W_of G h hi
    obtain ⟨-, rfl⟩ := z_W_of G h hj
    have e' : G.1 + i = G.1 + j := e
    omega
  · obtain ⟨-, rfl⟩ := z_W_of G h hk
    exact Nat.le_add_right _ _
theorem z_low {G : Gx} {h : Hp} {H : Heap} (hP : z_P G h H) (h0 : G.1 ≤ H.size) : G.1 + zN h ≤ H.size := by
  rcases Nat.eq_zero_or_pos (zN h) with e | e
  · rw [e]; exact h0
  · have h1 : zN h - 1 < zN h := by omega
    have h2 := (hP.1 _ _ (z_W_at G h h1)).lt
    have h3 : G.1 + (zN h - 1) < H.size := h2
    omega
theorem z_cell_o (G : Gx) {h : Hp} {a ci : Nat} (hk : (zS h a).1 = ci + 1) (hc : ci < 7) : z_cell G h a = .inr (ci, (List.range (z_nf ci)).map (z_fv G h ci a)) := by
  unfold z_cell
  rw [hk, if_neg (by omega), if_neg (by omega), if_neg (by omega), if_neg (by omega), Nat.add_sub_cancel]
theorem z_cell_b (G : Gx) {h : Hp} {a : Nat} (hk : (zS h a).1 = 8) : z_cell G h a = .inl (gB G, (zS h a).2, .inl (zI h a)) := by
  unfold z_cell; rw [if_pos hk]
theorem z_cell_i (G : Gx) {h : Hp} {a : Nat} (hk : (zS h a).1 = 9) : z_cell G h a = .inl (gI G, (zS h a).2, .inl (zI h a)) := by
  unfold z_cell; rw [if_neg (by omega), if_pos hk]
theorem z_cell_z (G : Gx) {h : Hp} {a : Nat} (hk : (zS h a).1 = 10) : z_cell G h a = .inl (gZ G, (zS h a).2, .inl (zI h a)) := by
  unfold z_cell; rw [if_neg (by omega), if_neg (by omega), if_pos hk]
theorem z_cell_r (G : Gx) {h : Hp} {a : Nat} (hk : (zS h a).1 = 11) : z_cell G h a = .inl (gS G, (zS h a).2, .inr (.inr (.inr (.inr (fun j => (zR h a j).map (fun b => G.1 + b)))))) := by
  unfold z_cell; rw [if_neg (by omega), if_neg (by omega), if_neg (by omega), if_pos hk]
/-- a world with one cell set anew is the world of the heap set anew -/
theorem z_W_set {G : Gx} {h h' : Hp} {a : Nat} {e : va_E} (hn : zN h' = zN h) (ha : a < zN h) (he : z_cell G h' a = e) (ho : ∀ i, i ≠ a → z_cell G h' i = z_cell G h i) : (z_W G h).set a (G.1 + a, e) = z_W G h' := by
  apply List.ext_getElem?
  intro i
  by_cases hia : i = a
  · subst hia
    have hl : i < (z_W G h).length := by simpa [z_W] using ha
    rw [List.getElem?_set_self hl, z_W_at G h' (by rw [hn]; exact ha), he]
  · rw [List.getElem?_set_ne (Ne.symm hia)]
    by_cases hi : i < zN h
    · rw [z_W_at G h hi, z_W_at G h' (by rw [hn]; exact hi), ho i hia]
    · have h1 : (z_W G h)[i]? = none := by simp [z_W]; omega
      have h2 : (z_W G h')[i]? = none := by simp [z_W]; omega
      rw [h1, h2]
theorem up2_ne {α : Type} {f : Nat → Nat → α} {a k x : Nat} {v : α} (h : x ≠ a) : up2 f a k v x = f x := by
  funext y
  simp [up2, h]
theorem up2_self {α : Type} {f : Nat → Nat → α} {a k : Nat} {v : α} : up2 f a k v a k = v := by simp [up2]
theorem up2_nk {α : Type} {f : Nat → Nat → α} {a k x y : Nat} {v : α} (h : y ≠ k) : up2 f a k v x y = f x y := by simp [up2, h]
theorem z_cell_same {G : Gx} {h h' : Hp} {i : Nat} (hS : zS h' i = zS h i) (hI : zI h' i = zI h i) (hL : zL h' i = zL h i) (hR : zR h' i = zR h i) : z_cell G h' i = z_cell G h i := by
  have hf : ∀ ci, z_fv G h' ci i = z_fv G h ci i := fun ci => by
    funext k
    unfold z_fv
    rw [hI, hL, hR]
  unfold z_cell
  rw [hS, hI, hR, hf]
theorem z_sI {G : Gx} {h : Hp} {a k : Nat} {v : Int32} {e : va_E} (ha : a < zN h) (he : z_cell G (sI h a k v) a = e) : (z_W G h).set a (G.1 + a, e) = z_W G (sI h a k v) :=
  z_W_set rfl ha he (fun i hi => z_cell_same rfl (up2_ne hi) rfl rfl)
theorem z_sL {G : Gx} {h : Hp} {a k : Nat} {v : Int64} {e : va_E} (ha : a < zN h) (he : z_cell G (sL h a k v) a = e) : (z_W G h).set a (G.1 + a, e) = z_W G (sL h a k v) :=
  z_W_set rfl ha he (fun i hi => z_cell_same rfl rfl (up2_ne hi) rfl)
theorem z_sR {G : Gx} {h : Hp} {a k : Nat} {v : Option Nat} {e : va_E} (ha : a < zN h) (he : z_cell G (sR h a k v) a = e) : (z_W G h).set a (G.1 + a, e) = z_W G (sR h a k v) :=
  z_W_set rfl ha he (fun i hi => z_cell_same rfl rfl rfl (up2_ne hi))
/-- the fields' list, one field set -/
theorem z_fs_set (n : Nat) (f g : Nat → Value) {k : Nat} {v : Value} (hv : g k = v) (ho : ∀ j, j ≠ k → g j = f j) : ((List.range n).map f).set k v = (List.range n).map g := by
  apply List.ext_getElem?
  intro i
  by_cases hi : i < n
  · by_cases hik : i = k
    · subst hik
      rw [List.getElem?_set_self (by simpa using hi), List.getElem?_map, List.getElem?_range hi]
      simp [hv]
    · rw [List.getElem?_set_ne (Ne.symm hik), List.getElem?_map, List.getElem?_map, List.getElem?_range hi]
      simp [ho i hik]
  · have h1 : (((List.range n).map f).set k v)[i]? = none := by simp; omega
    have h2 : ((List.range n).map g)[i]? = none := by simp; omega
    rw [h1, h2]
theorem z_fs_at (n : Nat) (f : Nat → Value) {k : Nat} (hk : k < n) : ((List.range n).map f)[k]? = some (f k) := by
  rw [List.getElem?_map, List.getElem?_range hk]; rfl
/-! ===== the words ===== -/
def GW : List Cond := lw_tbl.filter goodWord
theorem gw_in {w : Cond} (i : Nat) (h : lw_tbl[i]? = some w) (hg : goodWord w = true) : w ∈ GW := List.mem_filter.mpr ⟨List.mem_of_getElem? h, hg⟩
theorem gw_all (ws : List Cond) (is : List Nat) (hl : ws.length ≤ is.length) (h : (ws.zip is).all (fun q => decide (lw_tbl[q.2]? = some q.1) && goodWord q.1) = true) : ∀ w ∈ ws, w ∈ GW := by
  intro w hw
  obtain ⟨i, hi⟩ := List.getElem?_of_mem hw
  have hil : i < ws.length := (List.getElem?_eq_some_iff.mp hi).1
  have h2 : ∃ j, is[i]? = some j := ⟨_, List.getElem?_eq_getElem (Nat.lt_of_lt_of_le hil hl)⟩
  obtain ⟨j, hj⟩ := h2
  have hm : (w, j) ∈ ws.zip is := by
    apply List.mem_of_getElem? (i := i)
    rw [List.getElem?_zip_eq_some]
    exact ⟨hi, hj⟩
  have h3 := List.all_eq_true.mp h _ hm
  simp only [Bool.and_eq_true, decide_eq_true_eq] at h3
  exact gw_in j h3.1 h3.2
theorem gw_good {ws : List Cond} (h : ∀ w ∈ ws, w ∈ GW) : GoodIn GW ws := fun w hw => ⟨h w hw, good_of_word (List.mem_filter.mp (h w hw)).2⟩
