/-! ===== the pure part: the cells, by their numbers ===== -/
def SH : Nat → Nat × Nat
  | 0 => (6, 0)
  | 1 => (8, 400)
  | 2 => (1, 0)
  | 3 => (9, 9)
  | 4 => (9, 9)
  | 5 => (9, 54)
  | 6 => (9, 54)
  | 7 => (1, 0)
  | 8 => (9, 9)
  | 9 => (9, 9)
  | 10 => (9, 54)
  | 11 => (9, 54)
  | 12 => (3, 0)
  | 13 => (9, 7)
  | 14 => (9, 4)
  | 15 => (9, 6)
  | 16 => (8, 0)
  | 17 => (5, 0)
  | 18 => (9, 36)
  | 19 => (9, 20)
  | 20 => (9, 20)
  | 21 => (9, 6)
  | 22 => (11, 2)
  | 23 => (5, 0)
  | 24 => (9, 36)
  | 25 => (9, 20)
  | 26 => (9, 20)
  | 27 => (9, 6)
  | 28 => (5, 0)
  | 29 => (9, 36)
  | 30 => (9, 20)
  | 31 => (9, 20)
  | 32 => (9, 6)
  | 33 => (10, 2)
  | 34 => (4, 0)
  | 35 => (9, 20)
  | 36 => (9, 20)
  | 37 => (10, 20)
  | 38 => (2, 0)
  | 39 => (9, 6)
  | 40 => (9, 54)
  | 41 => (9, 54)
  | 42 => (9, 9)
  | 43 => (9, 9)
  | 44 => (9, 9)
  | 45 => (9, 9)
  | 46 => (9, 15)
  | 47 => (9, 60)
  | 48 => (1, 0)
  | 49 => (9, 9)
  | 50 => (9, 9)
  | 51 => (9, 54)
  | 52 => (9, 54)
  | 53 => (5, 0)
  | 54 => (9, 36)
  | 55 => (9, 20)
  | 56 => (9, 20)
  | 57 => (9, 6)
  | 58 => (7, 0)
  | 59 => (9, 9)
  | 60 => (9, 9)
  | 61 => (9, 54)
  | 62 => (9, 54)
  | 63 => (9, 3)
  | 64 => (9, 36)
  | 65 => (9, 6)
  | 66 => (9, 20)
  | 67 => (9, 20)
  | 68 => (9, 400)
  | 69 => (9, 9)
  | 70 => (9, 9)
  | 71 => (9, 54)
  | 72 => (9, 54)
  | 73 => (10, 54)
  | 74 => (9, 3)
  | 75 => (10, 9)
  | 76 => (9, 36)
  | 77 => (9, 4)
  | 78 => (9, 15)
  | 79 => (9, 15)
  | 80 => (9, 15)
  | 81 => (9, 6)
  | 82 => (9, 20)
  | 83 => (9, 20)
  | 84 => (10, 20)
  | 85 => (9, 200)
  | 86 => (10, 2)
  | _ => (0, 0)
/-- the references that never change -/
def RF : Nat → Nat → Option Nat
  | 0, 0 => some 1
  | 0, 5 => some 12
  | 0, 6 => some 17
  | 0, 7 => some 22
  | 0, 8 => some 33
  | 0, 9 => some 34
  | 0, 10 => some 38
  | 2, 0 => some 3
  | 2, 1 => some 4
  | 2, 2 => some 5
  | 2, 3 => some 6
  | 7, 0 => some 8
  | 7, 1 => some 9
  | 7, 2 => some 10
  | 7, 3 => some 11
  | 12, 0 => some 13
  | 12, 1 => some 14
  | 12, 2 => some 15
  | 17, 0 => some 18
  | 17, 1 => some 19
  | 17, 2 => some 20
  | 17, 3 => some 21
  | 22, 0 => some 23
  | 22, 1 => some 28
  | 23, 0 => some 24
  | 23, 1 => some 25
  | 23, 2 => some 26
  | 23, 3 => some 27
  | 28, 0 => some 29
  | 28, 1 => some 30
  | 28, 2 => some 31
  | 28, 3 => some 32
  | 34, 0 => some 35
  | 34, 1 => some 36
  | 34, 2 => some 37
  | 38, 0 => some 39
  | 38, 1 => some 40
  | 38, 2 => some 41
  | 38, 3 => some 42
  | 38, 4 => some 43
  | 38, 5 => some 44
  | 38, 6 => some 45
  | 38, 7 => some 46
  | 38, 8 => some 47
  | 48, 0 => some 49
  | 48, 1 => some 50
  | 48, 2 => some 51
  | 48, 3 => some 52
  | 53, 0 => some 54
  | 53, 1 => some 55
  | 53, 2 => some 56
  | 53, 3 => some 57
  | 58, 1 => some 59
  | 58, 2 => some 60
  | 58, 3 => some 61
  | 58, 4 => some 62
  | 58, 8 => some 63
  | 58, 11 => some 64
  | 58, 12 => some 65
  | 58, 14 => some 66
  | 58, 15 => some 67
  | 58, 18 => some 68
  | 58, 27 => some 69
  | 58, 28 => some 70
  | 58, 29 => some 71
  | 58, 30 => some 72
  | 58, 31 => some 73
  | 58, 35 => some 74
  | 58, 41 => some 75
  | 58, 42 => some 76
  | 58, 43 => some 77
  | 58, 46 => some 78
  | 58, 47 => some 79
  | 58, 48 => some 80
  | 58, 49 => some 81
  | 58, 51 => some 82
  | 58, 52 => some 83
  | 58, 53 => some 84
  | 58, 54 => some 85
  | 58, 55 => some 86
  | _, _ => none
def hCa : Option Hp := f_X5_init 1000 0 (q_new h00 6).2
theorem hCa_some : hCa.isSome = true := by decide +kernel
def hCb : Hp := hCa.get hCa_some
theorem hCa_eq : f_X5_init 1000 0 (q_new h00 6).2 = some hCb := (Option.some_get hCa_some).symm
def hCc : Option Hp := f_X6_init 1000 58 (q_new hCb 7).2
theorem hCc_some : hCc.isSome = true := by decide +kernel
/-- the heap behind both constructors -/
def hE : Hp := hCc.get hCc_some
theorem hCc_eq : f_X6_init 1000 58 (q_new hCb 7).2 = some hE := (Option.some_get hCc_some).symm
theorem hCb_n : hCb.1 = 58 := by decide +kernel
theorem law_0g {f L : Nat} {sx : Nat → Int32} {h3 h6 : Hp} (e1 : f_X5_init f 0 (q_new h00 6).2 = some h3) (n3 : h3.1 = 58) (e2 : f_X6_init f 58 (q_new h3 7).2 = some h6) : b_L_law_0 f L sx h00 = l_L_law_18 f L sx f 0 58 0 h6 := by
  unfold b_L_law_0 bn
  have q1 : (q_new h00 6).1 = 0 := rfl
  have q2 : (q_new h3 7).1 = 58 := n3
  simp only [q1, e1, Option.bind_some, q2, e2]
theorem law_0 (L : Nat) (sx : Nat → Int32) : b_L_law_0 1000 L sx h00 = l_L_law_18 1000 L sx 1000 0 58 0 hE := law_0g hCa_eq hCb_n hCc_eq
def isMut (a k : Nat) : Bool := (a == 0 && (k == 3 || k == 4)) || (a == 12 && k == 3) || (a == 38 && (k == 9 || k == 10))
/-- the shape: kinds, lengths, references; (isle, spare, the reader's text, the judge's isle, the judge's standing) -/
abbrev Rs : Type := Nat × Nat × Nat × Nat × Nat
def Sh (h : Hp) (r : Rs) : Prop := (∀ a, a < 87 → zS h a = SH a) ∧ (∀ a, a < 87 → ∀ k, k < 56 → isMut a k = false → zR h a k = RF a k) ∧ zR h 0 3 = some r.1 ∧ zR h 0 4 = some r.2.1 ∧ zR h 12 3 = some r.2.2.1 ∧ zR h 38 9 = some r.2.2.2.1 ∧ zR h 38 10 = some r.2.2.2.2
theorem hE_S : ∀ a, a < 87 → zS hE a = SH a := by decide +kernel
theorem hE_R : ∀ a, a < 87 → ∀ k, k < 56 → isMut a k = false → zR hE a k = RF a k := by decide +kernel
theorem Sh_E : Sh hE (2, 7, 16, 48, 53) := ⟨hE_S, hE_R, by decide +kernel, by decide +kernel, by decide +kernel, by decide +kernel, by decide +kernel⟩
theorem zS_sI (h : Hp) (a k : Nat) (v : Int32) : zS (sI h a k v) = zS h := rfl
theorem zR_sI (h : Hp) (a k : Nat) (v : Int32) : zR (sI h a k v) = zR h := rfl
theorem zL_sI (h : Hp) (a k : Nat) (v : Int32) : zL (sI h a k v) = zL h := rfl
theorem zI_sI (h : Hp) (a k : Nat) (v : Int32) (x y : Nat) : zI (sI h a k v) x y = if x = a ∧ y = k then v else zI h x y := rfl
theorem zS_sL (h : Hp) (a k : Nat) (v : Int64) : zS (sL h a k v) = zS h := rfl
theorem zR_sL (h : Hp) (a k : Nat) (v : Int64) : zR (sL h a k v) = zR h := rfl
theorem zI_sL (h : Hp) (a k : Nat) (v : Int64) : zI (sL h a k v) = zI h := rfl
theorem zL_sL (h : Hp) (a k : Nat) (v : Int64) (x y : Nat) : zL (sL h a k v) x y = if x = a ∧ y = k then v else zL h x y := rfl
theorem zS_sR (h : Hp) (a k : Nat) (v : Option Nat) : zS (sR h a k v) = zS h := rfl
theorem zI_sR (h : Hp) (a k : Nat) (v : Option Nat) : zI (sR h a k v) = zI h := rfl
theorem zL_sR (h : Hp) (a k : Nat) (v : Option Nat) : zL (sR h a k v) = zL h := rfl
theorem zR_sR (h : Hp) (a k : Nat) (v : Option Nat) (x y : Nat) : zR (sR h a k v) x y = if x = a ∧ y = k then v else zR h x y := rfl
theorem zS_sC (h : Hp) (a b s d n : Nat) : zS (sC h a b s d n) = zS h := rfl
theorem zR_sC (h : Hp) (a b s d n : Nat) : zR (sC h a b s d n) = zR h := rfl
theorem zL_sC (h : Hp) (a b s d n : Nat) : zL (sC h a b s d n) = zL h := rfl
theorem zI_sC (h : Hp) (a b s d n x y : Nat) : zI (sC h a b s d n) x y = if x = b ∧ d ≤ y ∧ y < d + n then zI h a (s + (y - d)) else zI h x y := by
  show (if x = b then va_cpy (h.2.2.1 a) (h.2.2.1 b) s d n else h.2.2.1 x) y = _
  by_cases hx : x = b
  · subst hx
    by_cases hy : d ≤ y ∧ y < d + n <;> simp [va_cpy, hy, zI]
  · simp [hx, zI]
theorem Sh_sI {h : Hp} {r : Rs} (H : Sh h r) (a k : Nat) (v : Int32) : Sh (sI h a k v) r := H
theorem Sh_sL {h : Hp} {r : Rs} (H : Sh h r) (a k : Nat) (v : Int64) : Sh (sL h a k v) r := H
theorem Sh_sC {h : Hp} {r : Rs} (H : Sh h r) (a b s d n : Nat) : Sh (sC h a b s d n) r := H

theorem S_0 {h : Hp} {r : Rs} (H : Sh h r) : zS h 0 = (6, 0) := H.1 0 (by decide)
theorem S_1 {h : Hp} {r : Rs} (H : Sh h r) : zS h 1 = (8, 400) := H.1 1 (by decide)
theorem S_2 {h : Hp} {r : Rs} (H : Sh h r) : zS h 2 = (1, 0) := H.1 2 (by decide)
theorem S_3 {h : Hp} {r : Rs} (H : Sh h r) : zS h 3 = (9, 9) := H.1 3 (by decide)
theorem S_4 {h : Hp} {r : Rs} (H : Sh h r) : zS h 4 = (9, 9) := H.1 4 (by decide)
theorem S_5 {h : Hp} {r : Rs} (H : Sh h r) : zS h 5 = (9, 54) := H.1 5 (by decide)
theorem S_6 {h : Hp} {r : Rs} (H : Sh h r) : zS h 6 = (9, 54) := H.1 6 (by decide)
theorem S_7 {h : Hp} {r : Rs} (H : Sh h r) : zS h 7 = (1, 0) := H.1 7 (by decide)
theorem S_8 {h : Hp} {r : Rs} (H : Sh h r) : zS h 8 = (9, 9) := H.1 8 (by decide)
theorem S_9 {h : Hp} {r : Rs} (H : Sh h r) : zS h 9 = (9, 9) := H.1 9 (by decide)
theorem S_10 {h : Hp} {r : Rs} (H : Sh h r) : zS h 10 = (9, 54) := H.1 10 (by decide)
theorem S_11 {h : Hp} {r : Rs} (H : Sh h r) : zS h 11 = (9, 54) := H.1 11 (by decide)
theorem S_12 {h : Hp} {r : Rs} (H : Sh h r) : zS h 12 = (3, 0) := H.1 12 (by decide)
theorem S_13 {h : Hp} {r : Rs} (H : Sh h r) : zS h 13 = (9, 7) := H.1 13 (by decide)
theorem S_14 {h : Hp} {r : Rs} (H : Sh h r) : zS h 14 = (9, 4) := H.1 14 (by decide)
theorem S_15 {h : Hp} {r : Rs} (H : Sh h r) : zS h 15 = (9, 6) := H.1 15 (by decide)
theorem S_16 {h : Hp} {r : Rs} (H : Sh h r) : zS h 16 = (8, 0) := H.1 16 (by decide)
theorem S_17 {h : Hp} {r : Rs} (H : Sh h r) : zS h 17 = (5, 0) := H.1 17 (by decide)
theorem S_18 {h : Hp} {r : Rs} (H : Sh h r) : zS h 18 = (9, 36) := H.1 18 (by decide)
theorem S_19 {h : Hp} {r : Rs} (H : Sh h r) : zS h 19 = (9, 20) := H.1 19 (by decide)
theorem S_20 {h : Hp} {r : Rs} (H : Sh h r) : zS h 20 = (9, 20) := H.1 20 (by decide)
theorem S_21 {h : Hp} {r : Rs} (H : Sh h r) : zS h 21 = (9, 6) := H.1 21 (by decide)
theorem S_22 {h : Hp} {r : Rs} (H : Sh h r) : zS h 22 = (11, 2) := H.1 22 (by decide)
theorem S_23 {h : Hp} {r : Rs} (H : Sh h r) : zS h 23 = (5, 0) := H.1 23 (by decide)
theorem S_24 {h : Hp} {r : Rs} (H : Sh h r) : zS h 24 = (9, 36) := H.1 24 (by decide)
theorem S_25 {h : Hp} {r : Rs} (H : Sh h r) : zS h 25 = (9, 20) := H.1 25 (by decide)
theorem S_26 {h : Hp} {r : Rs} (H : Sh h r) : zS h 26 = (9, 20) := H.1 26 (by decide)
theorem S_27 {h : Hp} {r : Rs} (H : Sh h r) : zS h 27 = (9, 6) := H.1 27 (by decide)
theorem S_28 {h : Hp} {r : Rs} (H : Sh h r) : zS h 28 = (5, 0) := H.1 28 (by decide)
theorem S_29 {h : Hp} {r : Rs} (H : Sh h r) : zS h 29 = (9, 36) := H.1 29 (by decide)
theorem S_30 {h : Hp} {r : Rs} (H : Sh h r) : zS h 30 = (9, 20) := H.1 30 (by decide)
theorem S_31 {h : Hp} {r : Rs} (H : Sh h r) : zS h 31 = (9, 20) := H.1 31 (by decide)
theorem S_32 {h : Hp} {r : Rs} (H : Sh h r) : zS h 32 = (9, 6) := H.1 32 (by decide)
theorem S_33 {h : Hp} {r : Rs} (H : Sh h r) : zS h 33 = (10, 2) := H.1 33 (by decide)
theorem S_34 {h : Hp} {r : Rs} (H : Sh h r) : zS h 34 = (4, 0) := H.1 34 (by decide)
theorem S_35 {h : Hp} {r : Rs} (H : Sh h r) : zS h 35 = (9, 20) := H.1 35 (by decide)
theorem S_36 {h : Hp} {r : Rs} (H : Sh h r) : zS h 36 = (9, 20) := H.1 36 (by decide)
theorem S_37 {h : Hp} {r : Rs} (H : Sh h r) : zS h 37 = (10, 20) := H.1 37 (by decide)
theorem S_38 {h : Hp} {r : Rs} (H : Sh h r) : zS h 38 = (2, 0) := H.1 38 (by decide)
theorem S_39 {h : Hp} {r : Rs} (H : Sh h r) : zS h 39 = (9, 6) := H.1 39 (by decide)
theorem S_40 {h : Hp} {r : Rs} (H : Sh h r) : zS h 40 = (9, 54) := H.1 40 (by decide)
theorem S_41 {h : Hp} {r : Rs} (H : Sh h r) : zS h 41 = (9, 54) := H.1 41 (by decide)
theorem S_42 {h : Hp} {r : Rs} (H : Sh h r) : zS h 42 = (9, 9) := H.1 42 (by decide)
theorem S_43 {h : Hp} {r : Rs} (H : Sh h r) : zS h 43 = (9, 9) := H.1 43 (by decide)
theorem S_44 {h : Hp} {r : Rs} (H : Sh h r) : zS h 44 = (9, 9) := H.1 44 (by decide)
theorem S_45 {h : Hp} {r : Rs} (H : Sh h r) : zS h 45 = (9, 9) := H.1 45 (by decide)
theorem S_46 {h : Hp} {r : Rs} (H : Sh h r) : zS h 46 = (9, 15) := H.1 46 (by decide)
theorem S_47 {h : Hp} {r : Rs} (H : Sh h r) : zS h 47 = (9, 60) := H.1 47 (by decide)
theorem S_48 {h : Hp} {r : Rs} (H : Sh h r) : zS h 48 = (1, 0) := H.1 48 (by decide)
theorem S_49 {h : Hp} {r : Rs} (H : Sh h r) : zS h 49 = (9, 9) := H.1 49 (by decide)
theorem S_50 {h : Hp} {r : Rs} (H : Sh h r) : zS h 50 = (9, 9) := H.1 50 (by decide)
theorem S_51 {h : Hp} {r : Rs} (H : Sh h r) : zS h 51 = (9, 54) := H.1 51 (by decide)
theorem S_52 {h : Hp} {r : Rs} (H : Sh h r) : zS h 52 = (9, 54) := H.1 52 (by decide)
theorem S_53 {h : Hp} {r : Rs} (H : Sh h r) : zS h 53 = (5, 0) := H.1 53 (by decide)
theorem S_54 {h : Hp} {r : Rs} (H : Sh h r) : zS h 54 = (9, 36) := H.1 54 (by decide)
theorem S_55 {h : Hp} {r : Rs} (H : Sh h r) : zS h 55 = (9, 20) := H.1 55 (by decide)
theorem S_56 {h : Hp} {r : Rs} (H : Sh h r) : zS h 56 = (9, 20) := H.1 56 (by decide)
theorem S_57 {h : Hp} {r : Rs} (H : Sh h r) : zS h 57 = (9, 6) := H.1 57 (by decide)
theorem S_58 {h : Hp} {r : Rs} (H : Sh h r) : zS h 58 = (7, 0) := H.1 58 (by decide)
theorem S_59 {h : Hp} {r : Rs} (H : Sh h r) : zS h 59 = (9, 9) := H.1 59 (by decide)
theorem S_60 {h : Hp} {r : Rs} (H : Sh h r) : zS h 60 = (9, 9) := H.1 60 (by decide)
theorem S_61 {h : Hp} {r : Rs} (H : Sh h r) : zS h 61 = (9, 54) := H.1 61 (by decide)
theorem S_62 {h : Hp} {r : Rs} (H : Sh h r) : zS h 62 = (9, 54) := H.1 62 (by decide)
theorem S_63 {h : Hp} {r : Rs} (H : Sh h r) : zS h 63 = (9, 3) := H.1 63 (by decide)
theorem S_64 {h : Hp} {r : Rs} (H : Sh h r) : zS h 64 = (9, 36) := H.1 64 (by decide)
theorem S_65 {h : Hp} {r : Rs} (H : Sh h r) : zS h 65 = (9, 6) := H.1 65 (by decide)
theorem S_66 {h : Hp} {r : Rs} (H : Sh h r) : zS h 66 = (9, 20) := H.1 66 (by decide)
theorem S_67 {h : Hp} {r : Rs} (H : Sh h r) : zS h 67 = (9, 20) := H.1 67 (by decide)
theorem S_68 {h : Hp} {r : Rs} (H : Sh h r) : zS h 68 = (9, 400) := H.1 68 (by decide)
theorem S_69 {h : Hp} {r : Rs} (H : Sh h r) : zS h 69 = (9, 9) := H.1 69 (by decide)
theorem S_70 {h : Hp} {r : Rs} (H : Sh h r) : zS h 70 = (9, 9) := H.1 70 (by decide)
theorem S_71 {h : Hp} {r : Rs} (H : Sh h r) : zS h 71 = (9, 54) := H.1 71 (by decide)
theorem S_72 {h : Hp} {r : Rs} (H : Sh h r) : zS h 72 = (9, 54) := H.1 72 (by decide)
theorem S_73 {h : Hp} {r : Rs} (H : Sh h r) : zS h 73 = (10, 54) := H.1 73 (by decide)
theorem S_74 {h : Hp} {r : Rs} (H : Sh h r) : zS h 74 = (9, 3) := H.1 74 (by decide)
theorem S_75 {h : Hp} {r : Rs} (H : Sh h r) : zS h 75 = (10, 9) := H.1 75 (by decide)
theorem S_76 {h : Hp} {r : Rs} (H : Sh h r) : zS h 76 = (9, 36) := H.1 76 (by decide)
theorem S_77 {h : Hp} {r : Rs} (H : Sh h r) : zS h 77 = (9, 4) := H.1 77 (by decide)
theorem S_78 {h : Hp} {r : Rs} (H : Sh h r) : zS h 78 = (9, 15) := H.1 78 (by decide)
theorem S_79 {h : Hp} {r : Rs} (H : Sh h r) : zS h 79 = (9, 15) := H.1 79 (by decide)
theorem S_80 {h : Hp} {r : Rs} (H : Sh h r) : zS h 80 = (9, 15) := H.1 80 (by decide)
theorem S_81 {h : Hp} {r : Rs} (H : Sh h r) : zS h 81 = (9, 6) := H.1 81 (by decide)
theorem S_82 {h : Hp} {r : Rs} (H : Sh h r) : zS h 82 = (9, 20) := H.1 82 (by decide)
theorem S_83 {h : Hp} {r : Rs} (H : Sh h r) : zS h 83 = (9, 20) := H.1 83 (by decide)
theorem S_84 {h : Hp} {r : Rs} (H : Sh h r) : zS h 84 = (10, 20) := H.1 84 (by decide)
theorem S_85 {h : Hp} {r : Rs} (H : Sh h r) : zS h 85 = (9, 200) := H.1 85 (by decide)
theorem S_86 {h : Hp} {r : Rs} (H : Sh h r) : zS h 86 = (10, 2) := H.1 86 (by decide)
theorem R_0_0 {h : Hp} {r : Rs} (H : Sh h r) : zR h 0 0 = some 1 := H.2.1 0 (by decide) 0 (by decide) rfl
theorem R_0_5 {h : Hp} {r : Rs} (H : Sh h r) : zR h 0 5 = some 12 := H.2.1 0 (by decide) 5 (by decide) rfl
theorem R_0_6 {h : Hp} {r : Rs} (H : Sh h r) : zR h 0 6 = some 17 := H.2.1 0 (by decide) 6 (by decide) rfl
theorem R_0_7 {h : Hp} {r : Rs} (H : Sh h r) : zR h 0 7 = some 22 := H.2.1 0 (by decide) 7 (by decide) rfl
theorem R_0_8 {h : Hp} {r : Rs} (H : Sh h r) : zR h 0 8 = some 33 := H.2.1 0 (by decide) 8 (by decide) rfl
theorem R_0_9 {h : Hp} {r : Rs} (H : Sh h r) : zR h 0 9 = some 34 := H.2.1 0 (by decide) 9 (by decide) rfl
theorem R_0_10 {h : Hp} {r : Rs} (H : Sh h r) : zR h 0 10 = some 38 := H.2.1 0 (by decide) 10 (by decide) rfl
theorem R_2_0 {h : Hp} {r : Rs} (H : Sh h r) : zR h 2 0 = some 3 := H.2.1 2 (by decide) 0 (by decide) rfl
theorem R_2_1 {h : Hp} {r : Rs} (H : Sh h r) : zR h 2 1 = some 4 := H.2.1 2 (by decide) 1 (by decide) rfl
theorem R_2_2 {h : Hp} {r : Rs} (H : Sh h r) : zR h 2 2 = some 5 := H.2.1 2 (by decide) 2 (by decide) rfl
theorem R_2_3 {h : Hp} {r : Rs} (H : Sh h r) : zR h 2 3 = some 6 := H.2.1 2 (by decide) 3 (by decide) rfl
theorem R_7_0 {h : Hp} {r : Rs} (H : Sh h r) : zR h 7 0 = some 8 := H.2.1 7 (by decide) 0 (by decide) rfl
theorem R_7_1 {h : Hp} {r : Rs} (H : Sh h r) : zR h 7 1 = some 9 := H.2.1 7 (by decide) 1 (by decide) rfl
theorem R_7_2 {h : Hp} {r : Rs} (H : Sh h r) : zR h 7 2 = some 10 := H.2.1 7 (by decide) 2 (by decide) rfl
theorem R_7_3 {h : Hp} {r : Rs} (H : Sh h r) : zR h 7 3 = some 11 := H.2.1 7 (by decide) 3 (by decide) rfl
theorem R_12_0 {h : Hp} {r : Rs} (H : Sh h r) : zR h 12 0 = some 13 := H.2.1 12 (by decide) 0 (by decide) rfl
theorem R_12_1 {h : Hp} {r : Rs} (H : Sh h r) : zR h 12 1 = some 14 := H.2.1 12 (by decide) 1 (by decide) rfl
theorem R_12_2 {h : Hp} {r : Rs} (H : Sh h r) : zR h 12 2 = some 15 := H.2.1 12 (by decide) 2 (by decide) rfl
theorem R_17_0 {h : Hp} {r : Rs} (H : Sh h r) : zR h 17 0 = some 18 := H.2.1 17 (by decide) 0 (by decide) rfl
theorem R_17_1 {h : Hp} {r : Rs} (H : Sh h r) : zR h 17 1 = some 19 := H.2.1 17 (by decide) 1 (by decide) rfl
theorem R_17_2 {h : Hp} {r : Rs} (H : Sh h r) : zR h 17 2 = some 20 := H.2.1 17 (by decide) 2 (by decide) rfl
theorem R_17_3 {h : Hp} {r : Rs} (H : Sh h r) : zR h 17 3 = some 21 := H.2.1 17 (by decide) 3 (by decide) rfl
theorem R_22_0 {h : Hp} {r : Rs} (H : Sh h r) : zR h 22 0 = some 23 := H.2.1 22 (by decide) 0 (by decide) rfl
theorem R_22_1 {h : Hp} {r : Rs} (H : Sh h r) : zR h 22 1 = some 28 := H.2.1 22 (by decide) 1 (by decide) rfl
theorem R_23_0 {h : Hp} {r : Rs} (H : Sh h r) : zR h 23 0 = some 24 := H.2.1 23 (by decide) 0 (by decide) rfl
theorem R_23_1 {h : Hp} {r : Rs} (H : Sh h r) : zR h 23 1 = some 25 := H.2.1 23 (by decide) 1 (by decide) rfl
theorem R_23_2 {h : Hp} {r : Rs} (H : Sh h r) : zR h 23 2 = some 26 := H.2.1 23 (by decide) 2 (by decide) rfl
theorem R_23_3 {h : Hp} {r : Rs} (H : Sh h r) : zR h 23 3 = some 27 := H.2.1 23 (by decide) 3 (by decide) rfl
theorem R_28_0 {h : Hp} {r : Rs} (H : Sh h r) : zR h 28 0 = some 29 := H.2.1 28 (by decide) 0 (by decide) rfl
theorem R_28_1 {h : Hp} {r : Rs} (H : Sh h r) : zR h 28 1 = some 30 := H.2.1 28 (by decide) 1 (by decide) rfl
theorem R_28_2 {h : Hp} {r : Rs} (H : Sh h r) : zR h 28 2 = some 31 := H.2.1 28 (by decide) 2 (by decide) rfl
theorem R_28_3 {h : Hp} {r : Rs} (H : Sh h r) : zR h 28 3 = some 32 := H.2.1 28 (by decide) 3 (by decide) rfl
theorem R_34_0 {h : Hp} {r : Rs} (H : Sh h r) : zR h 34 0 = some 35 := H.2.1 34 (by decide) 0 (by decide) rfl
theorem R_34_1 {h : Hp} {r : Rs} (H : Sh h r) : zR h 34 1 = some 36 := H.2.1 34 (by decide) 1 (by decide) rfl
theorem R_34_2 {h : Hp} {r : Rs} (H : Sh h r) : zR h 34 2 = some 37 := H.2.1 34 (by decide) 2 (by decide) rfl
theorem R_38_0 {h : Hp} {r : Rs} (H : Sh h r) : zR h 38 0 = some 39 := H.2.1 38 (by decide) 0 (by decide) rfl
theorem R_38_1 {h : Hp} {r : Rs} (H : Sh h r) : zR h 38 1 = some 40 := H.2.1 38 (by decide) 1 (by decide) rfl
theorem R_38_2 {h : Hp} {r : Rs} (H : Sh h r) : zR h 38 2 = some 41 := H.2.1 38 (by decide) 2 (by decide) rfl
theorem R_38_3 {h : Hp} {r : Rs} (H : Sh h r) : zR h 38 3 = some 42 := H.2.1 38 (by decide) 3 (by decide) rfl
theorem R_38_4 {h : Hp} {r : Rs} (H : Sh h r) : zR h 38 4 = some 43 := H.2.1 38 (by decide) 4 (by decide) rfl
theorem R_38_5 {h : Hp} {r : Rs} (H : Sh h r) : zR h 38 5 = some 44 := H.2.1 38 (by decide) 5 (by decide) rfl
theorem R_38_6 {h : Hp} {r : Rs} (H : Sh h r) : zR h 38 6 = some 45 := H.2.1 38 (by decide) 6 (by decide) rfl
theorem R_38_7 {h : Hp} {r : Rs} (H : Sh h r) : zR h 38 7 = some 46 := H.2.1 38 (by decide) 7 (by decide) rfl
theorem R_38_8 {h : Hp} {r : Rs} (H : Sh h r) : zR h 38 8 = some 47 := H.2.1 38 (by decide) 8 (by decide) rfl
theorem R_48_0 {h : Hp} {r : Rs} (H : Sh h r) : zR h 48 0 = some 49 := H.2.1 48 (by decide) 0 (by decide) rfl
theorem R_48_1 {h : Hp} {r : Rs} (H : Sh h r) : zR h 48 1 = some 50 := H.2.1 48 (by decide) 1 (by decide) rfl
theorem R_48_2 {h : Hp} {r : Rs} (H : Sh h r) : zR h 48 2 = some 51 := H.2.1 48 (by decide) 2 (by decide) rfl
theorem R_48_3 {h : Hp} {r : Rs} (H : Sh h r) : zR h 48 3 = some 52 := H.2.1 48 (by decide) 3 (by decide) rfl
theorem R_53_0 {h : Hp} {r : Rs} (H : Sh h r) : zR h 53 0 = some 54 := H.2.1 53 (by decide) 0 (by decide) rfl
theorem R_53_1 {h : Hp} {r : Rs} (H : Sh h r) : zR h 53 1 = some 55 := H.2.1 53 (by decide) 1 (by decide) rfl
theorem R_53_2 {h : Hp} {r : Rs} (H : Sh h r) : zR h 53 2 = some 56 := H.2.1 53 (by decide) 2 (by decide) rfl
theorem R_53_3 {h : Hp} {r : Rs} (H : Sh h r) : zR h 53 3 = some 57 := H.2.1 53 (by decide) 3 (by decide) rfl
theorem R_58_1 {h : Hp} {r : Rs} (H : Sh h r) : zR h 58 1 = some 59 := H.2.1 58 (by decide) 1 (by decide) rfl
theorem R_58_2 {h : Hp} {r : Rs} (H : Sh h r) : zR h 58 2 = some 60 := H.2.1 58 (by decide) 2 (by decide) rfl
theorem R_58_3 {h : Hp} {r : Rs} (H : Sh h r) : zR h 58 3 = some 61 := H.2.1 58 (by decide) 3 (by decide) rfl
theorem R_58_4 {h : Hp} {r : Rs} (H : Sh h r) : zR h 58 4 = some 62 := H.2.1 58 (by decide) 4 (by decide) rfl
theorem R_58_8 {h : Hp} {r : Rs} (H : Sh h r) : zR h 58 8 = some 63 := H.2.1 58 (by decide) 8 (by decide) rfl
theorem R_58_11 {h : Hp} {r : Rs} (H : Sh h r) : zR h 58 11 = some 64 := H.2.1 58 (by decide) 11 (by decide) rfl
theorem R_58_12 {h : Hp} {r : Rs} (H : Sh h r) : zR h 58 12 = some 65 := H.2.1 58 (by decide) 12 (by decide) rfl
theorem R_58_14 {h : Hp} {r : Rs} (H : Sh h r) : zR h 58 14 = some 66 := H.2.1 58 (by decide) 14 (by decide) rfl
theorem R_58_15 {h : Hp} {r : Rs} (H : Sh h r) : zR h 58 15 = some 67 := H.2.1 58 (by decide) 15 (by decide) rfl
theorem R_58_18 {h : Hp} {r : Rs} (H : Sh h r) : zR h 58 18 = some 68 := H.2.1 58 (by decide) 18 (by decide) rfl
theorem R_58_27 {h : Hp} {r : Rs} (H : Sh h r) : zR h 58 27 = some 69 := H.2.1 58 (by decide) 27 (by decide) rfl
theorem R_58_28 {h : Hp} {r : Rs} (H : Sh h r) : zR h 58 28 = some 70 := H.2.1 58 (by decide) 28 (by decide) rfl
theorem R_58_29 {h : Hp} {r : Rs} (H : Sh h r) : zR h 58 29 = some 71 := H.2.1 58 (by decide) 29 (by decide) rfl
theorem R_58_30 {h : Hp} {r : Rs} (H : Sh h r) : zR h 58 30 = some 72 := H.2.1 58 (by decide) 30 (by decide) rfl
theorem R_58_31 {h : Hp} {r : Rs} (H : Sh h r) : zR h 58 31 = some 73 := H.2.1 58 (by decide) 31 (by decide) rfl
theorem R_58_35 {h : Hp} {r : Rs} (H : Sh h r) : zR h 58 35 = some 74 := H.2.1 58 (by decide) 35 (by decide) rfl
theorem R_58_41 {h : Hp} {r : Rs} (H : Sh h r) : zR h 58 41 = some 75 := H.2.1 58 (by decide) 41 (by decide) rfl
theorem R_58_42 {h : Hp} {r : Rs} (H : Sh h r) : zR h 58 42 = some 76 := H.2.1 58 (by decide) 42 (by decide) rfl
theorem R_58_43 {h : Hp} {r : Rs} (H : Sh h r) : zR h 58 43 = some 77 := H.2.1 58 (by decide) 43 (by decide) rfl
theorem R_58_46 {h : Hp} {r : Rs} (H : Sh h r) : zR h 58 46 = some 78 := H.2.1 58 (by decide) 46 (by decide) rfl
theorem R_58_47 {h : Hp} {r : Rs} (H : Sh h r) : zR h 58 47 = some 79 := H.2.1 58 (by decide) 47 (by decide) rfl
theorem R_58_48 {h : Hp} {r : Rs} (H : Sh h r) : zR h 58 48 = some 80 := H.2.1 58 (by decide) 48 (by decide) rfl
theorem R_58_49 {h : Hp} {r : Rs} (H : Sh h r) : zR h 58 49 = some 81 := H.2.1 58 (by decide) 49 (by decide) rfl
theorem R_58_51 {h : Hp} {r : Rs} (H : Sh h r) : zR h 58 51 = some 82 := H.2.1 58 (by decide) 51 (by decide) rfl
theorem R_58_52 {h : Hp} {r : Rs} (H : Sh h r) : zR h 58 52 = some 83 := H.2.1 58 (by decide) 52 (by decide) rfl
theorem R_58_53 {h : Hp} {r : Rs} (H : Sh h r) : zR h 58 53 = some 84 := H.2.1 58 (by decide) 53 (by decide) rfl
theorem R_58_54 {h : Hp} {r : Rs} (H : Sh h r) : zR h 58 54 = some 85 := H.2.1 58 (by decide) 54 (by decide) rfl
theorem R_58_55 {h : Hp} {r : Rs} (H : Sh h r) : zR h 58 55 = some 86 := H.2.1 58 (by decide) 55 (by decide) rfl
theorem R_0_3 {h : Hp} {r : Rs} (H : Sh h r) : zR h 0 3 = some r.1 := H.2.2.1
theorem R_0_4 {h : Hp} {r : Rs} (H : Sh h r) : zR h 0 4 = some r.2.1 := H.2.2.2.1
theorem R_12_3 {h : Hp} {r : Rs} (H : Sh h r) : zR h 12 3 = some r.2.2.1 := H.2.2.2.2.1
theorem R_38_9 {h : Hp} {r : Rs} (H : Sh h r) : zR h 38 9 = some r.2.2.2.1 := H.2.2.2.2.2.1
theorem R_38_10 {h : Hp} {r : Rs} (H : Sh h r) : zR h 38 10 = some r.2.2.2.2 := H.2.2.2.2.2.2
