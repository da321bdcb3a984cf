/-! ===== MAY LIE, said once for both ===== -/
/-- a judge's matter: within, known, maps, spades -/
def apO (w x y : Int32) (o : Option Bx) : Bool := match o with
  | none => false
  | some B => apC w x y B
def wiO (w x y : Int32) (o : Option Bx) : Bool := match o with
  | none => false
  | some B => wiC w x y B
def oneO (o : Option Bx) : Bool := match o with
  | none => false
  | some B => oneC B
section SPEC
variable (w : Int32) (K X Y : Nat → Int32) (n s : Nat)
def bxN (k : Nat) : Option Bx := bxk w (nI s) K X Y k 6
def offS (m k : Nat) : Bool := hb (K m) (nI k) && apO w (X (9 * m + k)) (Y (9 * m + k)) (bxN w K X Y s k)
def tofS (m : Nat) : Nat := if s.testBit m then fb_ct (offS w K X Y s m) n else 0
def couS (m k : Nat) : Bool := !hb (K m) (nI k) || !wiO w (X (9 * m + k)) (Y (9 * m + k)) (bxN w K X Y s k)
def quaS (a b k : Nat) : Bool := !(bxN w K X Y s k).isSome && hb (K a) (nI k) && hb (K b) (nI k) && aptB w (X (9 * a + k)) (X (9 * b + k)) (Y (9 * a + k)) (Y (9 * b + k))
def quNS : Nat := if pcn s = 2 then fb_ct (quaS w K X Y s (qa s) (qb s)) n else 0
def freS : Nat := fb_ct (fun m => s.testBit m && decide (tofS w K X Y n s m = 0)) 6
def felS (sx sy : Nat → Int32) (c a b d : Nat) : Bool := oneO (bxN w K X Y s a) && oneO (bxN w K X Y s b) && oneO (bxN w K X Y s d) && anyF (felP sx sy ((cbx (bxN w K X Y s a)).1 + (cbx (bxN w K X Y s b)).1 - (cbx (bxN w K X Y s d)).1) ((cbx (bxN w K X Y s a)).2.2.1 + (cbx (bxN w K X Y s b)).2.2.1 - (cbx (bxN w K X Y s d)).2.2.1)) c
def okS : Bool := okAll w (nI s) K X Y n
/-- the set s MAY LIE -/
def mlS (sx sy : Nat → Int32) (c a b d : Nat) : Bool := okS w K X Y n s && allF (fun m => decide (tofS w K X Y n s m ≤ 1)) 6 && decide (quNS w K X Y n s ≤ freS w K X Y n s) && allF (fun m => !(s.testBit m && decide (tofS w K X Y n s m = 0)) || anyF (couS w K X Y s m) n) 6 && !felS w K X Y s sx sy c a b d
end SPEC
/-- no box that is tried reaches the ends -/
def Far2 (w : Int32) (K X Y : Nat → Int32) (n : Nat) : Prop := ∀ m, m < 6 → ∀ k, k < n → hb (K m) (nI k) = true → apC w (X (9 * m + k)) (Y (9 * m + k)) (cbx none) = false ∧ wiC w (X (9 * m + k)) (Y (9 * m + k)) (cbx none) = false
/-- taking maps out of a set -/
def clrB (s : Nat) (b : Nat → Bool) : Nat → Nat
  | 0 => s
  | m + 1 => if b m then clrB s b m &&& (63 ^^^ 2 ^ m) else clrB s b m
def clr6 (s : Nat) (b0 b1 b2 b3 b4 b5 : Bool) : Nat := clrB s (fun m => match m with | 0 => b0 | 1 => b1 | 2 => b2 | 3 => b3 | 4 => b4 | _ => b5) 6
theorem clr_tab : ∀ s : Fin 64, ∀ b0 b1 b2 b3 b4 b5 : Bool, pcn (clr6 s.val b0 b1 b2 b3 b4 b5) = (if s.val.testBit 0 && !b0 then 1 else 0) + (if s.val.testBit 1 && !b1 then 1 else 0) + (if s.val.testBit 2 && !b2 then 1 else 0) + (if s.val.testBit 3 && !b3 then 1 else 0) + (if s.val.testBit 4 && !b4 then 1 else 0) + (if s.val.testBit 5 && !b5 then 1 else 0) ∧ (clr6 s.val b0 b1 b2 b3 b4 b5).testBit 0 = (s.val.testBit 0 && !b0) ∧ (clr6 s.val b0 b1 b2 b3 b4 b5).testBit 1 = (s.val.testBit 1 && !b1) ∧ (clr6 s.val b0 b1 b2 b3 b4 b5).testBit 2 = (s.val.testBit 2 && !b2) ∧ (clr6 s.val b0 b1 b2 b3 b4 b5).testBit 3 = (s.val.testBit 3 && !b3) ∧ (clr6 s.val b0 b1 b2 b3 b4 b5).testBit 4 = (s.val.testBit 4 && !b4) ∧ (clr6 s.val b0 b1 b2 b3 b4 b5).testBit 5 = (s.val.testBit 5 && !b5) := by decide +kernel
theorem clr_6 (s : Nat) (b : Nat → Bool) : clrB s b 6 = clr6 s (b 0) (b 1) (b 2) (b 3) (b 4) (b 5) := rfl
theorem clr_pc {s : Nat} (hs : s < 64) (b : Nat → Bool) : pcn (clrB s b 6) = fb_ct (fun m => s.testBit m && !b m) 6 := by
  rw [clr_6, (clr_tab ⟨s, hs⟩ (b 0) (b 1) (b 2) (b 3) (b 4) (b 5)).1]
  simp only [fb_ct, Nat.zero_add]
theorem clr_bit {s : Nat} (hs : s < 64) (b : Nat → Bool) {m : Nat} (hm : m < 6) : (clrB s b 6).testBit m = (s.testBit m && !b m) := by
  have t := (clr_tab ⟨s, hs⟩ (b 0) (b 1) (b 2) (b 3) (b 4) (b 5)).2
  rw [clr_6]
  rcases (show m = 0 ∨ m = 1 ∨ m = 2 ∨ m = 3 ∨ m = 4 ∨ m = 5 by omega) with rfl | rfl | rfl | rfl | rfl | rfl
  · exact t.1
  · exact t.2.1
  · exact t.2.2.1
  · exact t.2.2.2.1
  · exact t.2.2.2.2.1
  · exact t.2.2.2.2.2
theorem stdy_clr (h : Hp) (w : Int32) (s n : Nat) : ∀ m, stdy h w s n m = clrB s (fun m => decide (tOf h w s n m = 1)) m
  | 0 => rfl
  | m + 1 => by
    unfold stdy clrB
    rw [stdy_clr h w s n m]
    by_cases c : tOf h w s n m = 1 <;> simp [c]
