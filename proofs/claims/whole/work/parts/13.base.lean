/-! NUMBERS: 32-bit and 64-bit numbers as integers -/
theorem i32_toInt {a : Int} (h1 : -2147483648 ≤ a) (h2 : a < 2147483648) : (i32 a).toInt = a := by
  show (Int32.ofInt a).toInt = a
  rw [Int32.toInt_ofInt, show Int32.size = 4294967296 from rfl]
  exact Int.bmod_eq_of_le (by omega) (by omega)
theorem i32_eta (x : Int32) : i32 x.toInt = x := by
  show Int32.ofInt x.toInt = x
  rw [Int32.ofInt_toInt]
theorem i32_rng (x : Int32) : -2147483648 ≤ x.toInt ∧ x.toInt < 2147483648 := ⟨Int32.le_toInt x, Int32.toInt_lt x⟩
theorem i32_ex (x : Int32) : ∃ a : Int, -2147483648 ≤ a ∧ a < 2147483648 ∧ x = i32 a := ⟨x.toInt, (i32_rng x).1, (i32_rng x).2, (i32_eta x).symm⟩
theorem i32_add (a b : Int) : i32 a + i32 b = i32 (a + b) := (Int32.ofInt_add a b).symm
theorem i32_sub (a b : Int) : i32 a - i32 b = i32 (a - b) := (Int32.ofInt_sub a b).symm
theorem i32_mul (a b : Int) : i32 a * i32 b = i32 (a * b) := (Int32.ofInt_mul a b).symm
theorem i32_z : (0 : Int32) = i32 0 := of_decide_eq_true (by decide)
theorem i32_nat (n : Nat) : Int32.ofNat n = i32 n := Int32.ofInt_eq_ofNat.symm
theorem i32_lt {a b : Int} (h1 : -2147483648 ≤ a) (h2 : a < 2147483648) (h3 : -2147483648 ≤ b) (h4 : b < 2147483648) : (i32 a < i32 b) = (a < b) := by
  rw [Int32.lt_iff_toInt_lt, i32_toInt h1 h2, i32_toInt h3 h4]
theorem i32_le {a b : Int} (h1 : -2147483648 ≤ a) (h2 : a < 2147483648) (h3 : -2147483648 ≤ b) (h4 : b < 2147483648) : (i32 a ≤ i32 b) = (a ≤ b) := by
  rw [Int32.le_iff_toInt_le, i32_toInt h1 h2, i32_toInt h3 h4]
theorem i32_eq {a b : Int} (h1 : -2147483648 ≤ a) (h2 : a < 2147483648) (h3 : -2147483648 ≤ b) (h4 : b < 2147483648) : (i32 a = i32 b) = (a = b) := by
  rw [← Int32.toInt_inj, i32_toInt h1 h2, i32_toInt h3 h4]
theorem i32_cn {a : Int} (h1 : 0 ≤ a) (h2 : a < 2147483648) : (i32 a).toNatClampNeg = a.toNat := by
  show (i32 a).toInt.toNat = a.toNat
  rw [i32_toInt (by omega) h2]
theorem i32_inb {a : Int} {n : Nat} (h1 : 0 ≤ a) (h2 : a < n) (h3 : a < 2147483648) : inb (i32 a) n = true := by
  unfold inb
  rw [decide_eq_true_eq, i32_cn h1 h3, i32_z, i32_lt (by omega) h3 (by decide) (by decide)]
  omega
theorem i32_iln {a : Int} (h1 : 0 ≤ a) (h2 : a ≤ 60000000) : iln (i32 a) = true := by
  unfold iln
  rw [decide_eq_true_eq, i32_cn h1 (by omega), i32_z, i32_lt (by omega) (by omega) (by decide) (by decide)]
  omega
theorem bI_tt : bI true = i32 1 := rfl
theorem bI_ff : bI false = i32 0 := rfl
theorem isB_bI (b : Bool) : isB (bI b) = true := by cases b <;> rfl
theorem z2b_bI (b : Bool) : z2b (bI b) = b := by cases b <;> rfl
theorem bI_eq0 (b : Bool) : (bI b = i32 0) = (b = false) := by cases b <;> simp <;> decide
theorem i64_toInt {a : Int} (h1 : -9223372036854775808 ≤ a) (h2 : a < 9223372036854775808) : (i64 a).toInt = a := by
  show (Int64.ofInt a).toInt = a
  rw [Int64.toInt_ofInt, show Int64.size = 18446744073709551616 from rfl]
  exact Int.bmod_eq_of_le (by omega) (by omega)
theorem i64_eta (x : Int64) : i64 x.toInt = x := by
  show Int64.ofInt x.toInt = x
  rw [Int64.ofInt_toInt]
theorem i64_rng (x : Int64) : -9223372036854775808 ≤ x.toInt ∧ x.toInt < 9223372036854775808 := ⟨Int64.le_toInt x, Int64.toInt_lt x⟩
theorem i64_add (a b : Int) : i64 a + i64 b = i64 (a + b) := (Int64.ofInt_add a b).symm
theorem i64_sub (a b : Int) : i64 a - i64 b = i64 (a - b) := (Int64.ofInt_sub a b).symm
theorem i64_mul (a b : Int) : i64 a * i64 b = i64 (a * b) := (Int64.ofInt_mul a b).symm
theorem i64_lt {a b : Int} (h1 : -9223372036854775808 ≤ a) (h2 : a < 9223372036854775808) (h3 : -9223372036854775808 ≤ b) (h4 : b < 9223372036854775808) : (i64 a < i64 b) = (a < b) := by
  rw [Int64.lt_iff_toInt_lt, i64_toInt h1 h2, i64_toInt h3 h4]
theorem i64_le {a b : Int} (h1 : -9223372036854775808 ≤ a) (h2 : a < 9223372036854775808) (h3 : -9223372036854775808 ≤ b) (h4 : b < 9223372036854775808) : (i64 a ≤ i64 b) = (a ≤ b) := by
  rw [Int64.le_iff_toInt_le, i64_toInt h1 h2, i64_toInt h3 h4]
theorem i64_eq {a b : Int} (h1 : -9223372036854775808 ≤ a) (h2 : a < 9223372036854775808) (h3 : -9223372036854775808 ≤ b) (h4 : b < 9223372036854775808) : (i64 a = i64 b) = (a = b) := by
  rw [← Int64.toInt_inj, i64_toInt h1 h2, i64_toInt h3 h4]
theorem i64_32 (a : Int) : (i64 a).toInt32 = i32 a := by
  show (Int64.ofInt a).toInt32 = Int32.ofInt a
  simp [Int64.toInt32_ofInt]
theorem i32_64 {a : Int} (h1 : -2147483648 ≤ a) (h2 : a < 2147483648) : (i32 a).toInt64 = i64 a := by
  rw [← Int64.toInt_inj, i64_toInt (by omega) (by omega), Int32.toInt_toInt64, i32_toInt h1 h2]
/-! READING BEHIND WRITING -/
section
variable {h : HP} {f a : Nat}
theorem rII (x : Int32) (g b : Nat) : hI (sI h f a x) g b = if g = f ∧ b = a then x else hI h g b := rfl
theorem rIJ (x : Int64) : hI (sJ h f a x) = hI h := rfl
theorem rIR (x : Option Nat) : hI (sR h f a x) = hI h := rfl
theorem rIA (x : Int32) : hI (sA h f a x) = hI h := rfl
theorem rIL (x : Int64) : hI (sL h f a x) = hI h := rfl
theorem rIQ (x : Option Nat) : hI (sQ h f a x) = hI h := rfl
theorem rIN (t l n b g : Nat) : hI (nw h t l n) g b = if b = hsz h then 0 else hI h g b := rfl
theorem rJJ (x : Int64) (g b : Nat) : hJ (sJ h f a x) g b = if g = f ∧ b = a then x else hJ h g b := rfl
theorem rJI (x : Int32) : hJ (sI h f a x) = hJ h := rfl
theorem rJR (x : Option Nat) : hJ (sR h f a x) = hJ h := rfl
theorem rJA (x : Int32) : hJ (sA h f a x) = hJ h := rfl
theorem rJL (x : Int64) : hJ (sL h f a x) = hJ h := rfl
theorem rJQ (x : Option Nat) : hJ (sQ h f a x) = hJ h := rfl
theorem rJN (t l n b g : Nat) : hJ (nw h t l n) g b = if b = hsz h then 0 else hJ h g b := rfl
theorem rRR (x : Option Nat) (g b : Nat) : hR (sR h f a x) g b = if g = f ∧ b = a then x else hR h g b := rfl
theorem rRI (x : Int32) : hR (sI h f a x) = hR h := rfl
theorem rRJ (x : Int64) : hR (sJ h f a x) = hR h := rfl
theorem rRA (x : Int32) : hR (sA h f a x) = hR h := rfl
theorem rRL (x : Int64) : hR (sL h f a x) = hR h := rfl
theorem rRQ (x : Option Nat) : hR (sQ h f a x) = hR h := rfl
theorem rRN (t l n b g : Nat) : hR (nw h t l n) g b = if b = hsz h then none else hR h g b := rfl
theorem rAA (x : Int32) (b i : Nat) : hA (sA h a f x) b i = if b = a ∧ i = f then x else hA h b i := rfl
theorem rAI (x : Int32) : hA (sI h f a x) = hA h := rfl
theorem rAJ (x : Int64) : hA (sJ h f a x) = hA h := rfl
theorem rAR (x : Option Nat) : hA (sR h f a x) = hA h := rfl
theorem rAL (x : Int64) : hA (sL h f a x) = hA h := rfl
theorem rAQ (x : Option Nat) : hA (sQ h f a x) = hA h := rfl
theorem rAN (t l n b i : Nat) : hA (nw h t l n) b i = if b = hsz h then 0 else hA h b i := rfl
theorem rLL (x : Int64) (b i : Nat) : hL (sL h a f x) b i = if b = a ∧ i = f then x else hL h b i := rfl
theorem rLI (x : Int32) : hL (sI h f a x) = hL h := rfl
theorem rLJ (x : Int64) : hL (sJ h f a x) = hL h := rfl
theorem rLR (x : Option Nat) : hL (sR h f a x) = hL h := rfl
theorem rLA (x : Int32) : hL (sA h f a x) = hL h := rfl
theorem rLQ (x : Option Nat) : hL (sQ h f a x) = hL h := rfl
theorem rLN (t l n b i : Nat) : hL (nw h t l n) b i = if b = hsz h then 0 else hL h b i := rfl
theorem rQQ (x : Option Nat) (b i : Nat) : hQ (sQ h a f x) b i = if b = a ∧ i = f then x else hQ h b i := rfl
theorem rQI (x : Int32) : hQ (sI h f a x) = hQ h := rfl
theorem rQJ (x : Int64) : hQ (sJ h f a x) = hQ h := rfl
theorem rQR (x : Option Nat) : hQ (sR h f a x) = hQ h := rfl
theorem rQA (x : Int32) : hQ (sA h f a x) = hQ h := rfl
theorem rQL (x : Int64) : hQ (sL h f a x) = hQ h := rfl
theorem rQN (t l n b i : Nat) : hQ (nw h t l n) b i = if b = hsz h then none else hQ h b i := rfl
theorem rnI (x : Int32) : hln (sI h f a x) = hln h := rfl
theorem rnJ (x : Int64) : hln (sJ h f a x) = hln h := rfl
theorem rnR (x : Option Nat) : hln (sR h f a x) = hln h := rfl
theorem rnA (x : Int32) : hln (sA h f a x) = hln h := rfl
theorem rnL (x : Int64) : hln (sL h f a x) = hln h := rfl
theorem rnQ (x : Option Nat) : hln (sQ h f a x) = hln h := rfl
theorem rnN (t l n b : Nat) : hln (nw h t l n) b = if b = hsz h then l else hln h b := rfl
theorem roI (x : Int32) (b t : Nat) : isO (sI h f a x) b t = isO h b t := rfl
theorem roJ (x : Int64) (b t : Nat) : isO (sJ h f a x) b t = isO h b t := rfl
theorem roR (x : Option Nat) (b t : Nat) : isO (sR h f a x) b t = isO h b t := rfl
theorem roA (x : Int32) (b t : Nat) : isO (sA h f a x) b t = isO h b t := rfl
theorem roL (x : Int64) (b t : Nat) : isO (sL h f a x) b t = isO h b t := rfl
theorem roQ (x : Option Nat) (b t : Nat) : isO (sQ h f a x) b t = isO h b t := rfl
theorem rsI (x : Int32) : hsz (sI h f a x) = hsz h := rfl
theorem rsJ (x : Int64) : hsz (sJ h f a x) = hsz h := rfl
theorem rsR (x : Option Nat) : hsz (sR h f a x) = hsz h := rfl
theorem rsA (x : Int32) : hsz (sA h f a x) = hsz h := rfl
theorem rsL (x : Int64) : hsz (sL h f a x) = hsz h := rfl
theorem rsQ (x : Option Nat) : hsz (sQ h f a x) = hsz h := rfl
theorem rsN (t l n : Nat) : hsz (nw h t l n) = hsz h + 1 := rfl
end
theorem gd_tt {α : Type} (k : Option α) : gd true k = k := of_eq_true (eq_self k)
theorem lt_e {α β : Type} (x : α) (k : α → Option β) : lt x k = k x := of_eq_true (eq_self (k x))
theorem on_sm {α : Type} {A : Option α} {k : Nat → Option α} {a : Nat} : on (some a) A k = k a := of_eq_true (eq_self (k a))
theorem on_nn {α : Type} {A : Option α} {k : Nat → Option α} : on none A k = A := of_eq_true (eq_self A)
theorem on_if {α : Type} {c : Prop} [Decidable c] {x : Nat} {A : Option α} {k : Nat → Option α} : on (if c then some x else none) A k = if c then k x else A := by
  by_cases e : c
  · rw [if_pos e, if_pos e]; rfl
  · rw [if_neg e, if_neg e]; rfl
/-! THE SHAPE OF THE HEAP: what never changes -/
def FormAt (h : HP) (a : Nat) : Prop := isO h a 0 = true ∧ (hR h 6 a = some (a + 1) ∧ isO h (a + 1) 20 = true ∧ hln h (a + 1) = 32) ∧ (hR h 7 a = some (a + 2) ∧ isO h (a + 2) 20 = true ∧ hln h (a + 2) = 32) ∧ (hR h 8 a = some (a + 3) ∧ isO h (a + 3) 32 = true ∧ hln h (a + 3) = 32) ∧ ∀ i : Nat, i < 32 → hQ h (a + 3) i = some (a + 4 + i) ∧ isO h (a + 4 + i) 2 = true
theorem FormAt.o {h : HP} {a : Nat} (S : FormAt h a) : isO h a 0 = true := S.1
theorem FormAt.rO {h : HP} {a : Nat} (S : FormAt h a) : hR h 6 a = some (a + 1) := S.2.1.1
theorem FormAt.oO {h : HP} {a : Nat} (S : FormAt h a) : isO h (a + 1) 20 = true := S.2.1.2.1
theorem FormAt.nO {h : HP} {a : Nat} (S : FormAt h a) : hln h (a + 1) = 32 := S.2.1.2.2
theorem FormAt.rH {h : HP} {a : Nat} (S : FormAt h a) : hR h 7 a = some (a + 2) := S.2.2.1.1
theorem FormAt.oH {h : HP} {a : Nat} (S : FormAt h a) : isO h (a + 2) 20 = true := S.2.2.1.2.1
theorem FormAt.nH {h : HP} {a : Nat} (S : FormAt h a) : hln h (a + 2) = 32 := S.2.2.1.2.2
theorem FormAt.rN {h : HP} {a : Nat} (S : FormAt h a) : hR h 8 a = some (a + 3) := S.2.2.2.1.1
theorem FormAt.oN {h : HP} {a : Nat} (S : FormAt h a) : isO h (a + 3) 32 = true := S.2.2.2.1.2.1
theorem FormAt.nN {h : HP} {a : Nat} (S : FormAt h a) : hln h (a + 3) = 32 := S.2.2.2.1.2.2
theorem FormAt.q {h : HP} {a : Nat} (S : FormAt h a) {i : Nat} (hi : i < 32) : hQ h (a + 3) i = some (a + 4 + i) := (S.2.2.2.2 i hi).1
theorem FormAt.on {h : HP} {a : Nat} (S : FormAt h a) {i : Nat} (hi : i < 32) : isO h (a + 4 + i) 2 = true := (S.2.2.2.2 i hi).2
theorem isO_sk {h g : HP} {a t : Nat} (k : Sk h g) (e : isO h a t = true) : isO g a t = true := by
  have q1 := isO_lt e
  have q2 := isO_tg e
  simp only [isO, Bool.and_eq_true, decide_eq_true_eq, beq_iff_eq]
  exact ⟨Nat.lt_of_lt_of_le q1 k.1, (k.2 a q1).1.trans q2⟩
theorem hln_sk {h g : HP} {a t n : Nat} (k : Sk h g) (e : isO h a t = true) (hn : hln h a = n) : hln g a = n := (k.2 a (isO_lt e)).2.1.trans hn
theorem hR_sk {h g : HP} {a t f : Nat} {r : Option Nat} (k : Sk h g) (e : isO h a t = true) (w : f ≠ 135 ∧ f ≠ 385 ∧ f ≠ 386) (hn : hR h f a = r) : hR g f a = r := ((k.2 a (isO_lt e)).2.2.2 f w.1 w.2.1 w.2.2).trans hn
theorem hQ_sk {h g : HP} {a t i : Nat} {r : Option Nat} (k : Sk h g) (e : isO h a t = true) (w : t ≠ 36) (hn : hQ h a i = r) : hQ g a i = r := ((k.2 a (isO_lt e)).2.2.1 (by rw [isO_tg e]; exact w) i).trans hn
theorem FormAt.sk {h g : HP} {a : Nat} (S : FormAt h a) (k : Sk h g) : FormAt g a :=
  ⟨isO_sk k S.o, ⟨hR_sk k S.o (by decide) S.rO, isO_sk k S.oO, hln_sk k S.oO S.nO⟩, ⟨hR_sk k S.o (by decide) S.rH, isO_sk k S.oH, hln_sk k S.oH S.nH⟩, ⟨hR_sk k S.o (by decide) S.rN, isO_sk k S.oN, hln_sk k S.oN S.nN⟩, fun _ hi => ⟨hQ_sk k S.oN (by decide) (S.q hi), isO_sk k (S.on hi)⟩⟩
/-- the node of a form, if it is there -/
def nd (h : HP) (a i : Nat) : Bool := i < 32 && !(hI h 128 (a + 4 + i) == i32 0)
def fnd (h : HP) (a : Nat) (i : Int) : Option Nat := if 0 ≤ i ∧ i < 32 ∧ nd h a i.toNat = true then some (a + 4 + i.toNat) else none
theorem find_s {h : HP} {a : Nat} (S : FormAt h a) {i : Int} (h1 : -2147483648 ≤ i) (h2 : i < 2147483648) : fX0_find a (i32 i) h = some (fnd h a i) := by
  unfold fX0_find
  simp (disch := omega) only [i32_z, i32_lt]
  by_cases c0 : i < 0
  · rw [if_pos c0]; unfold fnd; rw [if_neg (by omega)]
  rw [if_neg c0]
  by_cases c1 : i < 32
  · rw [if_pos c1]
    have hi : i.toNat < 32 := by omega
    simp (disch := omega) only [S.o, S.rN, S.oN, S.nN, gd_tt, oc_s, lt_e, i32_cn, S.q hi, on_sm, S.on hi, i32_inb]
    unfold fnd nd
    by_cases c2 : hI h 128 (a + 4 + i.toNat) = i32 0
    · simp [c2]
    · simp [c2, hi, show 0 ≤ i by omega, c1]
  · rw [if_neg c1]; unfold fnd; rw [if_neg (by omega)]
/-! THE SHAPE OF THE MODEL -/
def MS (h : HP) : Prop := isO h 983 11 = true ∧ (hR h 704 983 = some 984 ∧ isO h 984 21 = true ∧ hln h 984 = 1200) ∧ (hR h 707 983 = some 985 ∧ isO h 985 20 = true ∧ hln h 985 = 3) ∧ (hR h 708 983 = some 986 ∧ isO h 986 20 = true ∧ hln h 986 = 3) ∧ (hR h 709 983 = some 987 ∧ isO h 987 23 = true ∧ hln h 987 = 2880) ∧ (hR h 710 983 = some 988 ∧ isO h 988 23 = true ∧ hln h 988 = 292) ∧ (hR h 711 983 = some 989 ∧ isO h 989 23 = true ∧ hln h 989 = 28800) ∧ (hR h 713 983 = some 990 ∧ isO h 990 20 = true ∧ hln h 990 = 12000) ∧ (hR h 715 983 = some 991 ∧ isO h 991 20 = true ∧ hln h 991 = 24) ∧ (hR h 722 983 = some 992 ∧ isO h 992 23 = true ∧ hln h 992 = 400) ∧ (hR h 723 983 = some 993 ∧ isO h 993 20 = true ∧ hln h 993 = 400) ∧ (hR h 724 983 = some 994 ∧ isO h 994 20 = true ∧ hln h 994 = 400) ∧ (hR h 725 983 = some 995 ∧ isO h 995 20 = true ∧ hln h 995 = 400) ∧ (hR h 727 983 = some 996 ∧ isO h 996 20 = true ∧ hln h 996 = 600) ∧ (hR h 732 983 = some 997 ∧ isO h 997 20 = true ∧ hln h 997 = 32) ∧ (hR h 733 983 = some 998 ∧ isO h 998 22 = true ∧ hln h 998 = 32) ∧ (hR h 734 983 = some 999 ∧ isO h 999 22 = true ∧ hln h 999 = 32) ∧ (hR h 735 983 = some 1000 ∧ isO h 1000 22 = true ∧ hln h 1000 = 24) ∧ (hR h 736 983 = some 1001 ∧ isO h 1001 22 = true ∧ hln h 1001 = 300) ∧ (hR h 737 983 = some 1002 ∧ isO h 1002 22 = true ∧ hln h 1002 = 32) ∧ (hR h 738 983 = some 1003 ∧ isO h 1003 20 = true ∧ hln h 1003 = 32) ∧ (hR h 739 983 = some 1004 ∧ isO h 1004 20 = true ∧ hln h 1004 = 32) ∧ (hR h 749 983 = some 1005 ∧ isO h 1005 20 = true ∧ hln h 1005 = 600) ∧ (hR h 750 983 = some 1006 ∧ isO h 1006 20 = true ∧ hln h 1006 = 600) ∧ (hR h 751 983 = some 1007 ∧ isO h 1007 20 = true ∧ hln h 1007 = 600)
theorem MS.o {h : HP} (M : MS h) : isO h 983 11 = true := M.1
theorem MS.r_tape {h : HP} (M : MS h) : hR h 704 983 = some 984 := M.2.1.1
theorem MS.o_tape {h : HP} (M : MS h) : isO h 984 21 = true := M.2.1.2.1
theorem MS.n_tape {h : HP} (M : MS h) : hln h 984 = 1200 := M.2.1.2.2
theorem MS.r_sizes {h : HP} (M : MS h) : hR h 707 983 = some 985 := M.2.2.1.1
theorem MS.o_sizes {h : HP} (M : MS h) : isO h 985 20 = true := M.2.2.1.2.1
theorem MS.n_sizes {h : HP} (M : MS h) : hln h 985 = 3 := M.2.2.1.2.2
theorem MS.r_readSizes {h : HP} (M : MS h) : hR h 708 983 = some 986 := M.2.2.2.1.1
theorem MS.o_readSizes {h : HP} (M : MS h) : isO h 986 20 = true := M.2.2.2.1.2.1
theorem MS.n_readSizes {h : HP} (M : MS h) : hln h 986 = 3 := M.2.2.2.1.2.2
theorem MS.r_world {h : HP} (M : MS h) : hR h 709 983 = some 987 := M.2.2.2.2.1.1
theorem MS.o_world {h : HP} (M : MS h) : isO h 987 23 = true := M.2.2.2.2.1.2.1
theorem MS.n_world {h : HP} (M : MS h) : hln h 987 = 2880 := M.2.2.2.2.1.2.2
theorem MS.r_made {h : HP} (M : MS h) : hR h 710 983 = some 988 := M.2.2.2.2.2.1.1
theorem MS.o_made {h : HP} (M : MS h) : isO h 988 23 = true := M.2.2.2.2.2.1.2.1
theorem MS.n_made {h : HP} (M : MS h) : hln h 988 = 292 := M.2.2.2.2.2.1.2.2
theorem MS.r_undone {h : HP} (M : MS h) : hR h 711 983 = some 989 := M.2.2.2.2.2.2.1.1
theorem MS.o_undone {h : HP} (M : MS h) : isO h 989 23 = true := M.2.2.2.2.2.2.1.2.1
theorem MS.n_undone {h : HP} (M : MS h) : hln h 989 = 28800 := M.2.2.2.2.2.2.1.2.2
theorem MS.r_pool {h : HP} (M : MS h) : hR h 713 983 = some 990 := M.2.2.2.2.2.2.2.1.1
theorem MS.o_pool {h : HP} (M : MS h) : isO h 990 20 = true := M.2.2.2.2.2.2.2.1.2.1
theorem MS.n_pool {h : HP} (M : MS h) : hln h 990 = 12000 := M.2.2.2.2.2.2.2.1.2.2
theorem MS.r_needs {h : HP} (M : MS h) : hR h 715 983 = some 991 := M.2.2.2.2.2.2.2.2.1.1
theorem MS.o_needs {h : HP} (M : MS h) : isO h 991 20 = true := M.2.2.2.2.2.2.2.2.1.2.1
theorem MS.n_needs {h : HP} (M : MS h) : hln h 991 = 24 := M.2.2.2.2.2.2.2.2.1.2.2
theorem MS.r_saidName {h : HP} (M : MS h) : hR h 722 983 = some 992 := M.2.2.2.2.2.2.2.2.2.1.1
theorem MS.o_saidName {h : HP} (M : MS h) : isO h 992 23 = true := M.2.2.2.2.2.2.2.2.2.1.2.1
theorem MS.n_saidName {h : HP} (M : MS h) : hln h 992 = 400 := M.2.2.2.2.2.2.2.2.2.1.2.2
theorem MS.r_saidAt {h : HP} (M : MS h) : hR h 723 983 = some 993 := M.2.2.2.2.2.2.2.2.2.2.1.1
theorem MS.o_saidAt {h : HP} (M : MS h) : isO h 993 20 = true := M.2.2.2.2.2.2.2.2.2.2.1.2.1
theorem MS.n_saidAt {h : HP} (M : MS h) : hln h 993 = 400 := M.2.2.2.2.2.2.2.2.2.2.1.2.2
theorem MS.r_saidNode {h : HP} (M : MS h) : hR h 724 983 = some 994 := M.2.2.2.2.2.2.2.2.2.2.2.1.1
theorem MS.o_saidNode {h : HP} (M : MS h) : isO h 994 20 = true := M.2.2.2.2.2.2.2.2.2.2.2.1.2.1
theorem MS.n_saidNode {h : HP} (M : MS h) : hln h 994 = 400 := M.2.2.2.2.2.2.2.2.2.2.2.1.2.2
theorem MS.r_saidIn {h : HP} (M : MS h) : hR h 725 983 = some 995 := M.2.2.2.2.2.2.2.2.2.2.2.2.1.1
theorem MS.o_saidIn {h : HP} (M : MS h) : isO h 995 20 = true := M.2.2.2.2.2.2.2.2.2.2.2.2.1.2.1
theorem MS.n_saidIn {h : HP} (M : MS h) : hln h 995 = 400 := M.2.2.2.2.2.2.2.2.2.2.2.2.1.2.2
theorem MS.r_waiting {h : HP} (M : MS h) : hR h 727 983 = some 996 := M.2.2.2.2.2.2.2.2.2.2.2.2.2.1.1
theorem MS.o_waiting {h : HP} (M : MS h) : isO h 996 20 = true := M.2.2.2.2.2.2.2.2.2.2.2.2.2.1.2.1
theorem MS.n_waiting {h : HP} (M : MS h) : hln h 996 = 600 := M.2.2.2.2.2.2.2.2.2.2.2.2.2.1.2.2
theorem MS.r_moved {h : HP} (M : MS h) : hR h 732 983 = some 997 := M.2.2.2.2.2.2.2.2.2.2.2.2.2.2.1.1
theorem MS.o_moved {h : HP} (M : MS h) : isO h 997 20 = true := M.2.2.2.2.2.2.2.2.2.2.2.2.2.2.1.2.1
theorem MS.n_moved {h : HP} (M : MS h) : hln h 997 = 32 := M.2.2.2.2.2.2.2.2.2.2.2.2.2.2.1.2.2
theorem MS.r_known {h : HP} (M : MS h) : hR h 733 983 = some 998 := M.2.2.2.2.2.2.2.2.2.2.2.2.2.2.2.1.1
theorem MS.o_known {h : HP} (M : MS h) : isO h 998 22 = true := M.2.2.2.2.2.2.2.2.2.2.2.2.2.2.2.1.2.1
theorem MS.n_known {h : HP} (M : MS h) : hln h 998 = 32 := M.2.2.2.2.2.2.2.2.2.2.2.2.2.2.2.1.2.2
theorem MS.r_shown {h : HP} (M : MS h) : hR h 734 983 = some 999 := M.2.2.2.2.2.2.2.2.2.2.2.2.2.2.2.2.1.1
theorem MS.o_shown {h : HP} (M : MS h) : isO h 999 22 = true := M.2.2.2.2.2.2.2.2.2.2.2.2.2.2.2.2.1.2.1
theorem MS.n_shown {h : HP} (M : MS h) : hln h 999 = 32 := M.2.2.2.2.2.2.2.2.2.2.2.2.2.2.2.2.1.2.2
theorem MS.r_forced {h : HP} (M : MS h) : hR h 735 983 = some 1000 := M.2.2.2.2.2.2.2.2.2.2.2.2.2.2.2.2.2.1.1
theorem MS.o_forced {h : HP} (M : MS h) : isO h 1000 22 = true := M.2.2.2.2.2.2.2.2.2.2.2.2.2.2.2.2.2.1.2.1
theorem MS.n_forced {h : HP} (M : MS h) : hln h 1000 = 24 := M.2.2.2.2.2.2.2.2.2.2.2.2.2.2.2.2.2.1.2.2
theorem MS.r_values {h : HP} (M : MS h) : hR h 736 983 = some 1001 := M.2.2.2.2.2.2.2.2.2.2.2.2.2.2.2.2.2.2.1.1
theorem MS.o_values {h : HP} (M : MS h) : isO h 1001 22 = true := M.2.2.2.2.2.2.2.2.2.2.2.2.2.2.2.2.2.2.1.2.1
theorem MS.n_values {h : HP} (M : MS h) : hln h 1001 = 300 := M.2.2.2.2.2.2.2.2.2.2.2.2.2.2.2.2.2.2.1.2.2
theorem MS.r_before {h : HP} (M : MS h) : hR h 737 983 = some 1002 := M.2.2.2.2.2.2.2.2.2.2.2.2.2.2.2.2.2.2.2.1.1
theorem MS.o_before {h : HP} (M : MS h) : isO h 1002 22 = true := M.2.2.2.2.2.2.2.2.2.2.2.2.2.2.2.2.2.2.2.1.2.1
theorem MS.n_before {h : HP} (M : MS h) : hln h 1002 = 32 := M.2.2.2.2.2.2.2.2.2.2.2.2.2.2.2.2.2.2.2.1.2.2
theorem MS.r_rowOf {h : HP} (M : MS h) : hR h 738 983 = some 1003 := M.2.2.2.2.2.2.2.2.2.2.2.2.2.2.2.2.2.2.2.2.1.1
theorem MS.o_rowOf {h : HP} (M : MS h) : isO h 1003 20 = true := M.2.2.2.2.2.2.2.2.2.2.2.2.2.2.2.2.2.2.2.2.1.2.1
theorem MS.n_rowOf {h : HP} (M : MS h) : hln h 1003 = 32 := M.2.2.2.2.2.2.2.2.2.2.2.2.2.2.2.2.2.2.2.2.1.2.2
theorem MS.r_columnOf {h : HP} (M : MS h) : hR h 739 983 = some 1004 := M.2.2.2.2.2.2.2.2.2.2.2.2.2.2.2.2.2.2.2.2.2.1.1
theorem MS.o_columnOf {h : HP} (M : MS h) : isO h 1004 20 = true := M.2.2.2.2.2.2.2.2.2.2.2.2.2.2.2.2.2.2.2.2.2.1.2.1
theorem MS.n_columnOf {h : HP} (M : MS h) : hln h 1004 = 32 := M.2.2.2.2.2.2.2.2.2.2.2.2.2.2.2.2.2.2.2.2.2.1.2.2
theorem MS.r_partFrom {h : HP} (M : MS h) : hR h 749 983 = some 1005 := M.2.2.2.2.2.2.2.2.2.2.2.2.2.2.2.2.2.2.2.2.2.2.1.1
theorem MS.o_partFrom {h : HP} (M : MS h) : isO h 1005 20 = true := M.2.2.2.2.2.2.2.2.2.2.2.2.2.2.2.2.2.2.2.2.2.2.1.2.1
theorem MS.n_partFrom {h : HP} (M : MS h) : hln h 1005 = 600 := M.2.2.2.2.2.2.2.2.2.2.2.2.2.2.2.2.2.2.2.2.2.2.1.2.2
theorem MS.r_todo {h : HP} (M : MS h) : hR h 750 983 = some 1006 := M.2.2.2.2.2.2.2.2.2.2.2.2.2.2.2.2.2.2.2.2.2.2.2.1.1
theorem MS.o_todo {h : HP} (M : MS h) : isO h 1006 20 = true := M.2.2.2.2.2.2.2.2.2.2.2.2.2.2.2.2.2.2.2.2.2.2.2.1.2.1
theorem MS.n_todo {h : HP} (M : MS h) : hln h 1006 = 600 := M.2.2.2.2.2.2.2.2.2.2.2.2.2.2.2.2.2.2.2.2.2.2.2.1.2.2
theorem MS.r_within {h : HP} (M : MS h) : hR h 751 983 = some 1007 := M.2.2.2.2.2.2.2.2.2.2.2.2.2.2.2.2.2.2.2.2.2.2.2.2.1
theorem MS.o_within {h : HP} (M : MS h) : isO h 1007 20 = true := M.2.2.2.2.2.2.2.2.2.2.2.2.2.2.2.2.2.2.2.2.2.2.2.2.2.1
theorem MS.n_within {h : HP} (M : MS h) : hln h 1007 = 600 := M.2.2.2.2.2.2.2.2.2.2.2.2.2.2.2.2.2.2.2.2.2.2.2.2.2.2
theorem MS.sk {h g : HP} (M : MS h) (k : Sk h g) : MS g := ⟨isO_sk k M.o, ⟨hR_sk k M.o (by decide) M.r_tape, isO_sk k M.o_tape, hln_sk k M.o_tape M.n_tape⟩, ⟨hR_sk k M.o (by decide) M.r_sizes, isO_sk k M.o_sizes, hln_sk k M.o_sizes M.n_sizes⟩, ⟨hR_sk k M.o (by decide) M.r_readSizes, isO_sk k M.o_readSizes, hln_sk k M.o_readSizes M.n_readSizes⟩, ⟨hR_sk k M.o (by decide) M.r_world, isO_sk k M.o_world, hln_sk k M.o_world M.n_world⟩, ⟨hR_sk k M.o (by decide) M.r_made, isO_sk k M.o_made, hln_sk k M.o_made M.n_made⟩, ⟨hR_sk k M.o (by decide) M.r_undone, isO_sk k M.o_undone, hln_sk k M.o_undone M.n_undone⟩, ⟨hR_sk k M.o (by decide) M.r_pool, isO_sk k M.o_pool, hln_sk k M.o_pool M.n_pool⟩, ⟨hR_sk k M.o (by decide) M.r_needs, isO_sk k M.o_needs, hln_sk k M.o_needs M.n_needs⟩, ⟨hR_sk k M.o (by decide) M.r_saidName, isO_sk k M.o_saidName, hln_sk k M.o_saidName M.n_saidName⟩, ⟨hR_sk k M.o (by decide) M.r_saidAt, isO_sk k M.o_saidAt, hln_sk k M.o_saidAt M.n_saidAt⟩, ⟨hR_sk k M.o (by decide) M.r_saidNode, isO_sk k M.o_saidNode, hln_sk k M.o_saidNode M.n_saidNode⟩, ⟨hR_sk k M.o (by decide) M.r_saidIn, isO_sk k M.o_saidIn, hln_sk k M.o_saidIn M.n_saidIn⟩, ⟨hR_sk k M.o (by decide) M.r_waiting, isO_sk k M.o_waiting, hln_sk k M.o_waiting M.n_waiting⟩, ⟨hR_sk k M.o (by decide) M.r_moved, isO_sk k M.o_moved, hln_sk k M.o_moved M.n_moved⟩, ⟨hR_sk k M.o (by decide) M.r_known, isO_sk k M.o_known, hln_sk k M.o_known M.n_known⟩, ⟨hR_sk k M.o (by decide) M.r_shown, isO_sk k M.o_shown, hln_sk k M.o_shown M.n_shown⟩, ⟨hR_sk k M.o (by decide) M.r_forced, isO_sk k M.o_forced, hln_sk k M.o_forced M.n_forced⟩, ⟨hR_sk k M.o (by decide) M.r_values, isO_sk k M.o_values, hln_sk k M.o_values M.n_values⟩, ⟨hR_sk k M.o (by decide) M.r_before, isO_sk k M.o_before, hln_sk k M.o_before M.n_before⟩, ⟨hR_sk k M.o (by decide) M.r_rowOf, isO_sk k M.o_rowOf, hln_sk k M.o_rowOf M.n_rowOf⟩, ⟨hR_sk k M.o (by decide) M.r_columnOf, isO_sk k M.o_columnOf, hln_sk k M.o_columnOf M.n_columnOf⟩, ⟨hR_sk k M.o (by decide) M.r_partFrom, isO_sk k M.o_partFrom, hln_sk k M.o_partFrom M.n_partFrom⟩, ⟨hR_sk k M.o (by decide) M.r_todo, isO_sk k M.o_todo, hln_sk k M.o_todo M.n_todo⟩, ⟨hR_sk k M.o (by decide) M.r_within, isO_sk k M.o_within, hln_sk k M.o_within M.n_within⟩⟩
/-! THE MODEL'S WORLD AS INTEGERS; THE TREE OF A FORM -/
def Wm (h : HP) (k : Int) : Int := (hL h 987 k.toNat).toInt
def Fm (h : HP) (fo : Int) (k : Int) : Int := Wm h (fo + k)
theorem Wm_e (h : HP) (k : Int) : hL h 987 k.toNat = i64 (Wm h k) := (i64_eta _).symm
theorem FU_s : FU = 999999 + 1 := rfl
/-- groups from a node (or none) outwards -/
def dpt (F : Int → Int) : Nat → Int → Int
  | 0, _ => 0
  | k + 1, g => if 0 ≤ g then 1 + dpt F k (F g) else 0
def ends (F : Int → Int) : Nat → Int → Prop
  | 0, g => g < 0
  | k + 1, g => g < 0 ∨ ends F k (F g)
def isin (F : Int → Int) : Nat → Int → Int → Bool
  | 0, k, o => k == o
  | n + 1, k, o => if 0 ≤ k ∧ k ≠ o then isin F n (F k) o else k == o
/-- values of the row of groups -/
def AV (F : Int → Int) : Prop := ∀ n, 0 ≤ n → n < 32 → -2 ≤ F n ∧ F n < 32
theorem ends_mono {F : Int → Int} : ∀ {k m : Nat} {g : Int}, ends F k g → k ≤ m → ends F m g := by
  intro k
  induction k with
  | zero => intro m g e _; cases m with
    | zero => exact e
    | succ m => exact Or.inl e
  | succ k ih => intro m g e hm; cases m with
    | zero => omega
    | succ m => exact e.imp id (fun q => ih q (by omega))
theorem dpt_ends {F : Int → Int} : ∀ {k m : Nat} {g : Int}, ends F k g → k ≤ m → dpt F m g = dpt F k g := by
  intro k
  induction k with
  | zero => intro m g e _; cases m with
    | zero => rfl
    | succ m => have e' : g < 0 := e; simp only [dpt]; rw [if_neg (by omega)]
  | succ k ih => intro m g e hm; cases m with
    | zero => omega
    | succ m =>
      simp only [dpt]
      by_cases c : 0 ≤ g
      · rw [if_pos c, if_pos c]
        rcases e with e | e
        · omega
        · rw [ih e (by omega)]
      · rw [if_neg c, if_neg c]
theorem isin_ends {F : Int → Int} {o : Int} : ∀ {k m : Nat} {g : Int}, ends F k g → k ≤ m → isin F m g o = isin F k g o := by
  intro k
  induction k with
  | zero => intro m g e _; cases m with
    | zero => rfl
    | succ m => have e' : g < 0 := e; simp only [isin]; rw [if_neg (by omega)]
  | succ k ih => intro m g e hm; cases m with
    | zero => omega
    | succ m =>
      simp only [isin]
      by_cases c : 0 ≤ g ∧ g ≠ o
      · rw [if_pos c, if_pos c]
        rcases e with e | e
        · omega
        · rw [ih e (by omega)]
      · rw [if_neg c, if_neg c]
/-! small methods of the model -/
theorem in_s {h : HP} {a b c : Int} (h1 : -2147483648 ≤ a) (h2 : a < 2147483648) (h3 : -2147483648 ≤ b) (h4 : b < 2147483648) (h5 : -2147483648 ≤ c) (h6 : c < 2147483648) : fX11_in (i32 a) (i32 b) (i32 c) h = some (decide (b ≤ a ∧ a ≤ c)) := by
  unfold fX11_in
  simp (disch := omega) only [i32_lt]
  by_cases c1 : a < b
  · rw [if_pos c1]; simp; omega
  · rw [if_neg c1]
    by_cases c2 : c < a
    · rw [if_pos c2]; simp; omega
    · rw [if_neg c2]; simp; omega
theorem of_s {h : HP} (M : MS h) {fo w n : Int} (h1 : 0 ≤ fo + w + n) (h2 : fo + w + n < 2880) : fX11_of 983 (i32 fo) (i32 w) (i32 n) h = some (i32 (Fm h fo (w + n))) := by
  unfold fX11_of
  simp (disch := omega) only [M.o, M.r_world, M.o_world, M.n_world, gd_tt, oc_s, i32_add, i32_inb, i32_cn, Wm_e, i64_32, Fm]
  rw [show fo + w + n = fo + (w + n) by omega]
theorem formOf_s {h : HP} {r : Int} : fX11_formOf (i32 r) h = some (i32 (292 * (1 + r))) := by
  unfold fX11_formOf
  rw [i32_add, i32_mul]
theorem has_s {h : HP} (M : MS h) {fo n : Int} (h0 : 0 ≤ fo) (h1 : fo ≤ 2588) (h2 : -2147483648 ≤ n) (h3 : n < 2147483648) : fX11_has 983 (i32 fo) (i32 n) h = some (decide (0 ≤ n ∧ n < 32 ∧ Fm h fo n ≠ -1)) := by
  unfold fX11_has
  rw [in_s h2 h3 (by decide) (by decide) (by decide) (by decide)]
  simp only [bn_s]
  by_cases c : 0 ≤ n ∧ n < 32
  · rw [if_pos (by simp; omega)]
    have c3 : (hL h 987 (fo + n).toNat = i64 (-1)) ↔ Fm h fo n = -1 := by
      unfold Fm Wm
      constructor
      · intro z; rw [z]; exact i64_toInt (by decide) (by decide)
      · intro z; rw [← z, i64_eta]
    simp (disch := omega) only [M.o, M.r_world, M.o_world, M.n_world, gd_tt, oc_s, i32_add, i32_inb, i32_cn]
    rw [show fo + 0 + n = fo + n by omega]
    by_cases c2 : hL h 987 (fo + n).toNat = i64 (-1)
    · rw [if_pos c2]; simp [c3.mp c2]
    · rw [if_neg c2]
      have c4 : Fm h fo n ≠ -1 := fun z => c2 (c3.mpr z)
      simp [c4]; omega
  · rw [if_neg (by simp; omega)]
    congr 1
    rw [eq_comm, decide_eq_false_iff_not]
    omega
theorem isNode_s {h : HP} (M : MS h) {n : Int} (h2 : -2147483648 ≤ n) (h3 : n < 2147483648) : fX11_isNode 983 (i32 n) h = some (decide (0 ≤ n ∧ n < 32 ∧ Fm h 0 n ≠ -1)) := by
  unfold fX11_isNode
  simp only [M.o, gd_tt, has_s M (show (0 : Int) ≤ 0 by decide) (by decide) h2 h3, bn_s]
theorem isField_s {h : HP} {n : Int} (h2 : -2147483648 ≤ n) (h3 : n < 2147483648) : fX11_isField (i32 n) h = some (decide (n < 24)) := by
  unfold fX11_isField
  simp (disch := omega) only [i32_le, i32_lt]
  by_cases c : n < 24
  · first | (rw [if_neg (by omega)]; simp [c]) | (rw [if_pos c]; simp [c])
  · first | (rw [if_pos (by omega)]; simp [c]) | (rw [if_neg c]; simp [c])
theorem many_s {h : HP} (M : MS h) {fo : Int} (h0 : 0 ≤ fo) (h1 : fo ≤ 2588) : fX11_many 983 (i32 fo) h = some (i32 (Fm h fo 288)) := by
  unfold fX11_many
  simp (disch := omega) only [M.o, M.r_world, M.o_world, M.n_world, gd_tt, oc_s, i32_add, i32_inb, i32_cn, Wm_e, i64_32, Fm]
theorem ordered_s {h : HP} (M : MS h) {fo i : Int} (h0 : 0 ≤ fo) (h1 : fo ≤ 2588) (h2 : 0 ≤ i) (h3 : i < 36) : fX11_ordered 983 (i32 fo) (i32 i) h = some (i32 (Fm h fo (256 + i))) := by
  unfold fX11_ordered
  simp only [M.o, gd_tt, of_s M (show 0 ≤ fo + 256 + i by omega) (by omega), bn_s]
theorem depthL_s {h : HP} (M : MS h) {fo : Int} (h0 : 0 ≤ fo) (h1 : fo ≤ 2588) (V : AV (Fm h fo)) : ∀ (k n : Nat) (c g : Int), ends (Fm h fo) k g → k < n → -2 ≤ g → g < 32 → lX11_depth_11 h n 983 (i32 fo) (i32 c) (i32 g) = some (i32 (c + dpt (Fm h fo) k g)) := by
  intro k
  induction k with
  | zero =>
    intro n c g e hn g1 g2
    obtain ⟨m, rfl⟩ : ∃ m, n = m + 1 := ⟨n - 1, by omega⟩
    have e' : g < 0 := e
    rw [elX11_depth_11]; unfold bX11_depth_11
    simp (disch := omega) only [i32_z, i32_lt]
    rw [if_pos e']; simp [dpt]
  | succ k ih =>
    intro n c g e hn g1 g2
    obtain ⟨m, rfl⟩ : ∃ m, n = m + 1 := ⟨n - 1, by omega⟩
    rw [elX11_depth_11]; unfold bX11_depth_11
    simp (disch := omega) only [i32_z, i32_lt]
    by_cases c0 : g < 0
    · rw [if_pos c0]; simp only [dpt]; rw [if_neg (by omega)]; simp
    · rw [if_neg c0]
      rcases e with e | e
      · omega
      have v := V g (by omega) (by omega)
      simp only [lt_e, M.o, gd_tt, of_s M (show 0 ≤ fo + 0 + g by omega) (by omega), bn_s, i32_add]
      rw [show (0 : Int) + g = g by omega, ih m _ _ e (by omega) v.1 v.2]
      simp only [dpt]; rw [if_pos (by omega), show c + 1 + dpt (Fm h fo) k (Fm h fo g) = c + (1 + dpt (Fm h fo) k (Fm h fo g)) by omega]
theorem depth_s {h : HP} (M : MS h) {fo n : Int} (h0 : 0 ≤ fo) (h1 : fo ≤ 2588) (V : AV (Fm h fo)) (n1 : 0 ≤ n) (n2 : n < 32) (e : ends (Fm h fo) 9 (Fm h fo n)) : fX11_depth 983 (i32 fo) (i32 n) h = some (i32 (dpt (Fm h fo) 9 (Fm h fo n))) := by
  unfold fX11_depth
  have v := V n n1 n2
  simp only [lt_e, M.o, gd_tt, of_s M (show 0 ≤ fo + 0 + n by omega) (by omega), bn_s]
  rw [show (0 : Int) + n = n by omega, depthL_s M h0 h1 V 9 FU 0 _ e (by decide) v.1 v.2]
  simp
theorem isInL_s {h : HP} (M : MS h) {fo o : Int} (h0 : 0 ≤ fo) (h1 : fo ≤ 2588) (o1 : -2147483648 ≤ o) (o2 : o < 2147483648) (V : AV (Fm h fo)) {K : Int32 → Int32 → Option Bool} (hK : ∀ z, -2 ≤ z → z < 32 → K (i32 o) (i32 z) = some (z == o)) : ∀ (k n : Nat) (g : Int), ends (Fm h fo) k g → k < n → -2 ≤ g → g < 32 → lX11_isIn_3 h K n 983 (i32 fo) (i32 o) (i32 g) = some (isin (Fm h fo) k g o) := by
  intro k
  induction k with
  | zero =>
    intro n g e hn g1 g2
    obtain ⟨m, rfl⟩ : ∃ m, n = m + 1 := ⟨n - 1, by omega⟩
    have e' : g < 0 := e
    rw [elX11_isIn_3]; unfold bX11_isIn_3
    simp (disch := omega) only [i32_z, i32_lt]
    rw [if_pos e', hK g g1 g2]; rfl
  | succ k ih =>
    intro n g e hn g1 g2
    obtain ⟨m, rfl⟩ : ∃ m, n = m + 1 := ⟨n - 1, by omega⟩
    rw [elX11_isIn_3]; unfold bX11_isIn_3
    simp (disch := omega) only [i32_z, i32_lt, i32_eq]
    by_cases c0 : g < 0
    · rw [if_pos c0, hK g g1 g2]; simp only [isin]; rw [if_neg (by omega)]
    · rw [if_neg c0]
      by_cases c1 : g = o
      · rw [if_pos c1, hK g g1 g2]; simp only [isin]; rw [if_neg (by omega)]
      rw [if_neg c1]
      rcases e with e | e
      · omega
      have v := V g (by omega) (by omega)
      simp only [M.o, gd_tt, of_s M (show 0 ≤ fo + 0 + g by omega) (by omega), bn_s]
      rw [show (0 : Int) + g = g by omega, ih m _ e (by omega) v.1 v.2]
      simp only [isin]; rw [if_pos (by omega)]
theorem isIn_s {h : HP} (M : MS h) {fo n o : Int} (h0 : 0 ≤ fo) (h1 : fo ≤ 2588) (o1 : -2147483648 ≤ o) (o2 : o < 2147483648) (V : AV (Fm h fo)) (n1 : -2 ≤ n) (n2 : n < 32) (e : ends (Fm h fo) 9 n) : fX11_isIn 983 (i32 fo) (i32 n) (i32 o) h = some (isin (Fm h fo) 9 n o) := by
  unfold fX11_isIn
  apply isInL_s M h0 h1 o1 o2 V _ 9 FU n e (by decide) n1 n2
  intro z z1 z2
  simp (disch := omega) only [i32_eq]
  by_cases c : z = o
  · first | (rw [if_neg (by omega)]; simp [c]) | (rw [if_pos c]; simp [c])
  · first | (rw [if_pos c]; simp [c]) | (rw [if_neg c]; simp [c])
/-- the first place from i on (below 32) where a node stands -/
def plc (F : Int → Int) : Nat → Int → Int → Int
  | 0, i, _ => i
  | k + 1, i, x => if F (256 + i) = x then i else plc F k (i + 1) x
theorem plc_at {F : Int → Int} {x : Int} : ∀ (k : Nat) (i j : Int), i ≤ j → j < i + k → F (256 + j) = x → (∀ q, i ≤ q → q < j → F (256 + q) ≠ x) → plc F k i x = j := by
  intro k
  induction k with
  | zero => intro i j a b; omega
  | succ k ih =>
    intro i j a b e u
    simp only [plc]
    by_cases c : F (256 + i) = x
    · rw [if_pos c]
      rcases Int.lt_or_eq_of_le a with l | l
      · exact absurd c (u i (Int.le_refl _) l)
      · exact l
    · rw [if_neg c]
      have : i ≠ j := fun z => c (z ▸ e)
      exact ih (i + 1) j (by omega) (by omega) e (fun q q1 q2 => u q (by omega) q2)
/-- the order of a form: its values -/
def OV (F : Int → Int) : Prop := 0 ≤ F 288 ∧ F 288 ≤ 32 ∧ ∀ i, 0 ≤ i → i < F 288 → 0 ≤ F (256 + i) ∧ F (256 + i) < 32
theorem placeOfL_s {h : HP} (M : MS h) {fo x : Int} (h0 : 0 ≤ fo) (h1 : fo ≤ 2588) (x1 : 0 ≤ x) (x2 : x < 32) (O : OV (Fm h fo)) : ∀ (k n : Nat) (i j : Int), 0 ≤ i → i ≤ j → j < i + k → k < n → j < Fm h fo 288 → Fm h fo (256 + j) = x → (∀ q, i ≤ q → q < j → Fm h fo (256 + q) ≠ x) → lX11_placeOf_2 h n 983 (i32 fo) (i32 x) (i32 i) = some (i32 j) := by
  intro k
  induction k with
  | zero => intro n i j a0 a b; omega
  | succ k ih =>
    intro n i j a0 a b hn jm e u
    obtain ⟨m, rfl⟩ : ∃ m, n = m + 1 := ⟨n - 1, by omega⟩
    have o := O.2.1
    have v := O.2.2 i a0 (by omega)
    rw [elX11_placeOf_2]; unfold bX11_placeOf_2
    simp (disch := omega) only [M.o, gd_tt, ordered_s M h0 h1 a0 (show i < 36 by omega), bn_s, i32_eq]
    by_cases c : Fm h fo (256 + i) = x
    · rw [if_pos c]
      rcases Int.lt_or_eq_of_le a with l | l
      · exact absurd c (u i (Int.le_refl _) l)
      · rw [l]
    · rw [if_neg c]
      have : i ≠ j := fun z => c (z ▸ e)
      simp only [lt_e, i32_add]
      exact ih m (i + 1) j (by omega) (by omega) (by omega) (by omega) jm e (fun q q1 q2 => u q (by omega) q2)
theorem placeOf_s {h : HP} (M : MS h) {fo x j : Int} (h0 : 0 ≤ fo) (h1 : fo ≤ 2588) (x1 : 0 ≤ x) (x2 : x < 32) (O : OV (Fm h fo)) (j1 : 0 ≤ j) (j2 : j < Fm h fo 288) (e : Fm h fo (256 + j) = x) (u : ∀ q, 0 ≤ q → q < j → Fm h fo (256 + q) ≠ x) : fX11_placeOf 983 (i32 fo) (i32 x) h = some (i32 j) := by
  unfold fX11_placeOf
  exact placeOfL_s M h0 h1 x1 x2 O 33 FU 0 j (by omega) j1 (by have := O.2.1; omega) (by decide) j2 e u
/-- the first place from i on that is not in a group, or the number of nodes -/
def bhd (F : Int → Int) (g : Int) : Nat → Int → Int
  | 0, i => i
  | k + 1, i => if F 288 ≤ i then i else if isin F 9 (F (256 + i)) g = true then bhd F g k (i + 1) else i
/-- all chains of groups end -/
def CE (F : Int → Int) : Prop := ∀ n, 0 ≤ n → n < 32 → ends F 8 n
theorem CE.ends {F : Int → Int} (C : CE F) {n : Int} (h : n < 32) : ends F 9 n := by
  by_cases c : 0 ≤ n
  · exact ends_mono (C n c h) (by omega)
  · exact Or.inl (by omega)
theorem behindL_s {h : HP} (M : MS h) {fo g : Int} (h0 : 0 ≤ fo) (h1 : fo ≤ 2588) (g1 : 0 ≤ g) (g2 : g < 32) (V : AV (Fm h fo)) (O : OV (Fm h fo)) (C : CE (Fm h fo)) : ∀ (k n : Nat) (i : Int), 0 ≤ i → Fm h fo 288 < i + k → k < n → i ≤ 33 → lX11_behind_19 h n 983 (i32 fo) (i32 g) (i32 i) = some (i32 (bhd (Fm h fo) g k i)) := by
  intro k
  induction k with
  | zero =>
    intro n i a0 a hn b
    obtain ⟨m, rfl⟩ : ∃ m, n = m + 1 := ⟨n - 1, by omega⟩
    have o := O.2.1
    have o' := O.1
    rw [elX11_behind_19]; unfold bX11_behind_19
    simp (disch := omega) only [M.o, gd_tt, many_s M h0 h1, bn_s, i32_le]
    rw [if_pos (by omega)]; rfl
  | succ k ih =>
    intro n i a0 a hn b
    obtain ⟨m, rfl⟩ : ∃ m, n = m + 1 := ⟨n - 1, by omega⟩
    have o := O.2.1
    have o' := O.1
    rw [elX11_behind_19]; unfold bX11_behind_19
    simp (disch := omega) only [M.o, gd_tt, many_s M h0 h1, bn_s, i32_le]
    simp only [bhd]
    by_cases c : Fm h fo 288 ≤ i
    · rw [if_pos c, if_pos c]
    · rw [if_neg c, if_neg c]
      have v := O.2.2 i a0 (by omega)
      simp only [ordered_s M h0 h1 a0 (show i < 36 by omega), bn_s, isIn_s M h0 h1 (show -2147483648 ≤ g by omega) (by omega) V (show -2 ≤ Fm h fo (256 + i) by omega) v.2 (C.ends v.2)]
      by_cases c2 : isin (Fm h fo) 9 (Fm h fo (256 + i)) g = true
      · rw [if_pos c2, if_pos c2]; simp only [lt_e, i32_add]
        exact ih m (i + 1) (by omega) (by omega) (by omega) (by omega)
      · rw [if_neg c2, if_neg c2]
/-! A FORM OF THE CLASS AS INTEGERS -/
def cnI (h : HP) (a j : Nat) (n : Int) : Int := (hI h (128 + j) (a + 4 + n.toNat)).toInt
def Fc (h : HP) (a : Nat) (k : Int) : Int :=
  if k < 32 then (if hI h 128 (a + 4 + k.toNat) = i32 0 then -1 else if cnI h a 6 k < 0 then -2 else cnI h a 6 k + 24)
  else if k < 64 then (hJ h 129 (a + 4 + (k - 32).toNat)).toInt
  else if k < 96 then cnI h a 2 (k - 64)
  else if k < 128 then cnI h a 3 (k - 96)
  else if k < 160 then cnI h a 4 (k - 128)
  else if k < 192 then cnI h a 5 (k - 160)
  else if k < 256 then 0
  else if k < 288 then (hA h (a + 1) (k - 256).toNat).toInt
  else if k = 288 then (hI h 5 a).toInt
  else if k = 289 then (hI h 3 a).toInt
  else (hI h 4 a).toInt
def cgr (v : Int) : Int := if v < 0 then -2 else v - 24
/-- the groups of the nodes are told as numbers or none -/
def GC (h : HP) (a : Nat) : Prop := ∀ n, 0 ≤ n → n < 32 → Fc h a n ≠ -1 → hI h 134 (a + 4 + n.toNat) = i32 (cgr (Fc h a n))
/-- values of the row of groups, the groups being there -/
def TV (F : Int → Int) : Prop := ∀ n, 0 ≤ n → n < 32 → F n = -1 ∨ F n = -2 ∨ (24 ≤ F n ∧ F n < 32 ∧ F (F n) ≠ -1)
theorem TV.av {F : Int → Int} (T : TV F) : AV F := by
  intro n a b
  rcases T n a b with e | e | e <;> omega
theorem Fc_lo {h : HP} {a : Nat} {k : Int} (h1 : k < 32) : Fc h a k = if hI h 128 (a + 4 + k.toNat) = i32 0 then -1 else if cnI h a 6 k < 0 then -2 else cnI h a 6 k + 24 := by
  unfold Fc; rw [if_pos h1]
theorem Fc_p {h : HP} {a : Nat} {k : Int} (h1 : k < 32) : (Fc h a k = -1) ↔ hI h 128 (a + 4 + k.toNat) = i32 0 := by
  rw [Fc_lo h1]
  by_cases c : hI h 128 (a + 4 + k.toNat) = i32 0
  · simp [c]
  · rw [if_neg c]
    constructor
    · intro z
      by_cases c2 : cnI h a 6 k < 0
      · rw [if_pos c2] at z; omega
      · rw [if_neg c2] at z; omega
    · intro z; exact absurd z c
theorem Fc_od {h : HP} {a : Nat} {i : Int} (h0 : 0 ≤ i) (h1 : i < 32) : Fc h a (256 + i) = (hA h (a + 1) i.toNat).toInt := by
  unfold Fc
  rw [if_neg (by omega), if_neg (by omega), if_neg (by omega), if_neg (by omega), if_neg (by omega), if_neg (by omega), if_neg (by omega), if_pos (by omega), show (256 + i - 256) = i by omega]
theorem Fc_mn (h : HP) (a : Nat) : Fc h a 288 = (hI h 5 a).toInt := rfl
theorem Fc_gv (h : HP) (a : Nat) : Fc h a 289 = (hI h 3 a).toInt := rfl
theorem Fc_gg (h : HP) (a : Nat) : Fc h a 290 = (hI h 4 a).toInt := rfl
theorem Fc_mne (h : HP) (a : Nat) : hI h 5 a = i32 (Fc h a 288) := (i32_eta _).symm
theorem Fc_ode {h : HP} {a : Nat} {i : Int} (h0 : 0 ≤ i) (h1 : i < 32) : hA h (a + 1) i.toNat = i32 (Fc h a (256 + i)) := by
  rw [Fc_od h0 h1, i32_eta]
/-- the object of a node that is there -/
def fno (h : HP) (a : Nat) (i : Int) : Option Nat := if 0 ≤ i ∧ i < 32 ∧ Fc h a i ≠ -1 then some (a + 4 + i.toNat) else none
theorem fno_y {h : HP} {a : Nat} {i : Int} (h0 : 0 ≤ i) (h1 : i < 32) (h2 : Fc h a i ≠ -1) : fno h a i = some (a + 4 + i.toNat) := if_pos ⟨h0, h1, h2⟩
theorem fno_n {h : HP} {a : Nat} {i : Int} (h2 : ¬ (0 ≤ i ∧ i < 32 ∧ Fc h a i ≠ -1)) : fno h a i = none := if_neg h2
theorem cfind {h : HP} {a : Nat} (S : FormAt h a) {i : Int} (h1 : -2147483648 ≤ i) (h2 : i < 2147483648) : fX0_find a (i32 i) h = some (fno h a i) := by
  rw [find_s S h1 h2]
  congr 1
  unfold fnd fno nd
  by_cases c : 0 ≤ i ∧ i < 32
  · have e := Fc_p (h := h) (a := a) c.2
    by_cases c2 : hI h 128 (a + 4 + i.toNat) = i32 0
    · have e2 := e.mpr c2; simp [c2, e2]
    · have e2 : Fc h a i ≠ -1 := fun z => c2 (e.mp z)
      simp [c2, e2, c, show i.toNat < 32 by omega]
  · rw [if_neg (by omega), if_neg (by omega)]
theorem cfindField {h : HP} {a : Nat} (S : FormAt h a) {i : Int} (h1 : -2147483648 ≤ i) (h2 : i < 2147483648) : fX0_findField a (i32 i) h = some (if i < 24 then fno h a i else none) := by
  unfold fX0_findField
  simp (disch := omega) only [i32_le, S.o, gd_tt, cfind S h1 h2, bn_s]
  by_cases c : i < 24
  · rw [if_neg (by omega), if_pos c]
  · rw [if_pos (by omega), if_neg c]
/-- the number of a group as that of a node -/
def gno (g : Int) : Int := if 0 ≤ g ∧ g < 8 then 24 + g else -2
theorem gno_cgr {v : Int} (h : v = -2 ∨ (24 ≤ v ∧ v < 32)) : gno (cgr v) = v := by
  rcases h with h | h
  · rw [h]; rfl
  · rw [show cgr v = v - 24 from if_neg (by omega)]; unfold gno; rw [if_pos (by omega)]; omega
theorem cfindGroup {h : HP} {a : Nat} (S : FormAt h a) {g : Int} (h1 : -2147483648 ≤ g) (h2 : g < 2147483648) : fX0_findGroup a (i32 g) h = some (fno h a (gno g)) := by
  unfold fX0_findGroup gno
  simp (disch := omega) only [i32_z, i32_lt]
  by_cases c0 : g < 0
  · rw [if_pos c0, if_neg (by omega), fno_n (by omega)]
  rw [if_neg c0]
  by_cases c1 : g < 8
  · rw [if_pos c1, if_pos (by omega)]
    have hi : (24 + g).toNat < 32 := by omega
    simp (disch := omega) only [S.o, S.rN, S.oN, S.nN, gd_tt, oc_s, lt_e, i32_add, i32_cn, S.q hi, on_sm, S.on hi, i32_inb]
    have e := Fc_p (h := h) (a := a) (show 24 + g < 32 by omega)
    by_cases c2 : hI h 128 (a + 4 + (24 + g).toNat) = i32 0
    · rw [if_pos c2, fno_n (fun z => z.2.2 (e.mpr c2))]
    · rw [if_neg c2, fno_y (by omega) (by omega) (fun z => c2 (e.mp z))]
  · rw [if_neg c1, if_neg (by omega), fno_n (by omega)]
theorem cat {h : HP} {a : Nat} (S : FormAt h a) (O : OV (Fc h a)) {i : Int} (h1 : -2147483648 ≤ i) (h2 : i < 2147483648) : fX0_at a (i32 i) h = some (i32 (if 0 ≤ i ∧ i < Fc h a 288 then Fc h a (256 + i) else -2)) := by
  unfold fX0_at
  have o1 := O.1
  have o2 := O.2.1
  simp (disch := omega) only [i32_z, i32_lt, i32_le, S.o, gd_tt, Fc_mne]
  by_cases c0 : i < 0
  · rw [if_pos c0, if_neg (by omega)]
  rw [if_neg c0]
  by_cases c1 : Fc h a 288 ≤ i
  · rw [if_pos c1, if_neg (by omega)]
  rw [if_neg c1, if_neg (by omega), if_pos (by omega)]
  simp (disch := omega) only [S.rO, S.oO, S.nO, gd_tt, oc_s, i32_inb, i32_cn, Fc_ode]
theorem cat_in {h : HP} {a : Nat} (S : FormAt h a) (O : OV (Fc h a)) {i : Int} (h1 : 0 ≤ i) (h2 : i < Fc h a 288) : fX0_at a (i32 i) h = some (i32 (Fc h a (256 + i))) := by
  have o2 := O.2.1
  rw [cat S O (by omega) (by omega), if_pos ⟨h1, h2⟩]
theorem cplaceOfL {h : HP} {a : Nat} (S : FormAt h a) {x : Int} (x1 : -2147483648 ≤ x) (x2 : x < 2147483648) (O : OV (Fc h a)) : ∀ (k n : Nat) (i j : Int), 0 ≤ i → i ≤ j → j < i + k → k < n → j < Fc h a 288 → Fc h a (256 + j) = x → (∀ q, i ≤ q → q < j → Fc h a (256 + q) ≠ x) → lX0_placeOf_2 h n a (i32 x) (i32 i) = some (i32 j) := by
  intro k
  induction k with
  | zero => intro n i j i0 ij b; omega
  | succ k ih =>
    intro n i j i0 ij b hn jm e u
    obtain ⟨m, rfl⟩ : ∃ m, n = m + 1 := ⟨n - 1, by omega⟩
    have o := O.2.1
    have v := O.2.2 i i0 (by omega)
    rw [elX0_placeOf_2]; unfold bX0_placeOf_2
    simp (disch := omega) only [S.o, gd_tt, Fc_mne, i32_le, cat_in S O i0 (show i < Fc h a 288 by omega), bn_s, i32_eq]
    rw [if_neg (by omega)]
    by_cases c : Fc h a (256 + i) = x
    · rw [if_pos c]
      rcases Int.lt_or_eq_of_le ij with l | l
      · exact absurd c (u i (Int.le_refl _) l)
      · rw [l]
    · rw [if_neg c]
      have : i ≠ j := fun z => c (z ▸ e)
      simp only [lt_e, i32_add]
      exact ih m (i + 1) j (by omega) (by omega) (by omega) (by omega) jm e (fun q q1 q2 => u q (by omega) q2)
theorem cplaceOf {h : HP} {a : Nat} (S : FormAt h a) {x j : Int} (x1 : -2147483648 ≤ x) (x2 : x < 2147483648) (O : OV (Fc h a)) (j1 : 0 ≤ j) (j2 : j < Fc h a 288) (e : Fc h a (256 + j) = x) (u : ∀ q, 0 ≤ q → q < j → Fc h a (256 + q) ≠ x) : fX0_placeOf a (i32 x) h = some (i32 j) := by
  unfold fX0_placeOf
  exact cplaceOfL S x1 x2 O 33 FU 0 j (by omega) j1 (by have := O.2.1; omega) (by decide) j2 e u
theorem clevelL {h : HP} {a : Nat} (S : FormAt h a) (T : TV (Fc h a)) (G : GC h a) : ∀ (k n : Nat) (c g i : Int), i + k = 8 → ends (Fc h a) k g → k < n → 0 ≤ i → (g = -2 ∨ (24 ≤ g ∧ g < 32 ∧ Fc h a g ≠ -1)) → lX0_levelOf_11 h n a (i32 c) (fno h a g) (i32 i) = some (i32 (c + dpt (Fc h a) k g)) := by
  intro k
  induction k with
  | zero =>
    intro n c g i hk e hn i0 hg
    obtain ⟨m, rfl⟩ : ∃ m, n = m + 1 := ⟨n - 1, by omega⟩
    rw [elX0_levelOf_11]; unfold bX0_levelOf_11
    simp (disch := omega) only [i32_le]
    rw [if_pos (by omega)]; simp [dpt]
  | succ k ih =>
    intro n c g i hk e hn i0 hg
    obtain ⟨m, rfl⟩ : ∃ m, n = m + 1 := ⟨n - 1, by omega⟩
    rw [elX0_levelOf_11]; unfold bX0_levelOf_11
    simp (disch := omega) only [i32_le]
    rw [if_neg (by omega)]
    rcases hg with hg | ⟨g1, g2, g3⟩
    · rw [hg, fno_n (by omega)]; simp [on_nn, dpt]
    · rcases e with e | e
      · omega
      have t := T g (by omega) g2
      have t' : Fc h a g = -2 ∨ (24 ≤ Fc h a g ∧ Fc h a g < 32 ∧ Fc h a (Fc h a g) ≠ -1) := by
        rcases t with t | t
        · exact absurd t g3
        · exact t
      rw [fno_y (by omega) g2 g3]
      have cg : cgr (Fc h a g) = -2 ∨ (0 ≤ cgr (Fc h a g) ∧ cgr (Fc h a g) < 8) := by
        unfold cgr
        rcases t' with t | t
        · rw [t]; simp
        · rw [if_neg (by omega)]; omega
      simp only [on_sm, lt_e, i32_add, S.on (show g.toNat < 32 by omega), gd_tt, S.o, G g (by omega) g2 g3, cfindGroup S (show -2147483648 ≤ cgr (Fc h a g) by omega) (by omega), bn_s]
      rw [gno_cgr (by rcases t' with t | t; exact Or.inl t; exact Or.inr ⟨t.1, t.2.1⟩)]
      rw [ih m _ _ (i + 1) (by omega) e (by omega) (by omega) t']
      simp only [dpt]; rw [if_pos (by omega), Int.add_assoc]
/-- levels that the class counts from a group's number -/
theorem clevelOf {h : HP} {a : Nat} (S : FormAt h a) (T : TV (Fc h a)) (G : GC h a) {g : Int} (g1 : -2147483648 ≤ g) (g2 : g < 2147483648) (hg : gno g = -2 ∨ Fc h a (gno g) ≠ -1) (e : ends (Fc h a) 8 (gno g)) : fX0_levelOf a (i32 g) h = some (i32 (dpt (Fc h a) 8 (gno g))) := by
  unfold fX0_levelOf
  simp only [S.o, gd_tt, cfindGroup S g1 g2, bn_s]
  rw [clevelL S T G 8 FU 0 (gno g) 0 (by omega) e (by decide) (by omega)]
  · simp
  · rcases hg with hg | hg
    · exact Or.inl hg
    · unfold gno at *
      by_cases c : 0 ≤ g ∧ g < 8
      · rw [if_pos c] at *; right; omega
      · rw [if_neg c]; left; rfl
/-! COUNTING ALONG THE ORDER -/
def cnt (p : Int → Bool) : Nat → Int → Int
  | 0, _ => 0
  | k + 1, i => (if p i = true then 1 else 0) + cnt p k (i + 1)
/-- the place of the index-th one with p, from i on, seen so far; e: none -/
def nth (p : Int → Bool) (x e : Int) : Nat → Int → Int → Int
  | 0, _, _ => e
  | k + 1, s, i => if p i = true then (if s = x then i else nth p x e k (s + 1) (i + 1)) else nth p x e k s (i + 1)
theorem cnt_rng (p : Int → Bool) : ∀ (k : Nat) (i : Int), 0 ≤ cnt p k i ∧ cnt p k i ≤ k := by
  intro k
  induction k with
  | zero => intro i; simp [cnt]
  | succ k ih => intro i; have := ih (i + 1); simp only [cnt]; split <;> omega
theorem cnt_congr {p q : Int → Bool} : ∀ (k : Nat) (i : Int), (∀ j, i ≤ j → j < i + k → p j = q j) → cnt p k i = cnt q k i := by
  intro k
  induction k with
  | zero => intro i _; rfl
  | succ k ih =>
    intro i e
    simp only [cnt]
    rw [e i (Int.le_refl _) (by omega), ih (i + 1) (fun j a b => e j (by omega) (by omega))]
theorem nth_congr {p q : Int → Bool} {x e : Int} : ∀ (k : Nat) (s i : Int), (∀ j, i ≤ j → j < i + k → p j = q j) → nth p x e k s i = nth q x e k s i := by
  intro k
  induction k with
  | zero => intro s i _; rfl
  | succ k ih =>
    intro s i c
    simp only [nth]
    rw [c i (Int.le_refl _) (by omega), ih (s + 1) (i + 1) (fun j a b => c j (by omega) (by omega)), ih s (i + 1) (fun j a b => c j (by omega) (by omega))]
theorem nth_rng (p : Int → Bool) (x e lo hi : Int) : ∀ (k : Nat) (s i : Int), lo ≤ i → i + k ≤ hi → lo ≤ e → e ≤ hi → lo ≤ nth p x e k s i ∧ nth p x e k s i ≤ hi := by
  intro k
  induction k with
  | zero => intro s i a b c d; simp only [nth]; omega
  | succ k ih =>
    intro s i a b c d
    simp only [nth]
    have h1 := ih (s + 1) (i + 1) (by omega) (by omega) c d
    have h2 := ih s (i + 1) (by omega) (by omega) c d
    split
    · split
      · omega
      · exact h1
    · exact h2
/-- whether the node at a place of the order is directly in a group -/
def son (F : Int → Int) (g i : Int) : Bool := F (F (256 + i)) == g
theorem son_t {F : Int → Int} {g i : Int} (e : F (F (256 + i)) = g) : son F g i = true := by unfold son; rw [e]; exact beq_self_eq_true g
theorem son_f {F : Int → Int} {g i : Int} (e : ¬ F (F (256 + i)) = g) : ¬ son F g i = true := fun z => e (eq_of_beq z)
theorem sonsL_s {h : HP} (M : MS h) {g : Int} (g1 : -2147483648 ≤ g) (g2 : g < 2147483648) (V : AV (Fm h 0)) (O : OV (Fm h 0)) : ∀ (k n : Nat) (c i : Int), 0 ≤ i → i + k = Fm h 0 288 → k < n → lX11_sons_4 h n 983 (i32 g) (i32 c) (i32 i) = some (i32 (c + cnt (son (Fm h 0) g) k i)) := by
  intro k
  have o1 := O.1
  have o2 := O.2.1
  induction k with
  | zero =>
    intro n c i i0 e hn
    obtain ⟨m, rfl⟩ : ∃ m, n = m + 1 := ⟨n - 1, by omega⟩
    rw [elX11_sons_4]; unfold bX11_sons_4
    simp (disch := omega) only [M.o, gd_tt, many_s M (show (0 : Int) ≤ 0 by decide) (by decide), bn_s, i32_le]
    rw [if_pos (by omega)]; simp [cnt]
  | succ k ih =>
    intro n c i i0 e hn
    obtain ⟨m, rfl⟩ : ∃ m, n = m + 1 := ⟨n - 1, by omega⟩
    have o := O.2.2 i i0 (by omega)
    have v := V _ o.1 o.2
    rw [elX11_sons_4]; unfold bX11_sons_4 jX11_sons_35
    simp (disch := omega) only [M.o, gd_tt, many_s M (show (0 : Int) ≤ 0 by decide) (by decide), bn_s, i32_le, ordered_s M (show (0 : Int) ≤ 0 by decide) (by decide) i0 (show i < 36 by omega), of_s M (show 0 ≤ 0 + 0 + Fm h 0 (256 + i) by omega) (by omega), Int.zero_add, i32_eq, bI_tt, bI_ff, lt_e, i32_add]
    rw [if_neg (by omega)]
    simp only [cnt]
    by_cases c2 : Fm h 0 (Fm h 0 (256 + i)) = g
    · rw [if_pos c2, ih m _ _ (by omega) (by omega) (by omega), if_pos (son_t c2), Int.add_assoc]
    · rw [if_neg c2, ih m _ _ (by omega) (by omega) (by omega), if_neg (son_f c2), Int.add_assoc]
theorem sons_s {h : HP} (M : MS h) {g : Int} (g1 : -2147483648 ≤ g) (g2 : g < 2147483648) (V : AV (Fm h 0)) (O : OV (Fm h 0)) : fX11_sons 983 (i32 g) h = some (i32 (cnt (son (Fm h 0) g) (Fm h 0 288).toNat 0)) := by
  have o1 := O.1
  have o2 := O.2.1
  unfold fX11_sons
  rw [sonsL_s M g1 g2 V O (Fm h 0 288).toNat FU 0 0 (by decide) (by omega) (by have : FU = 1000000 := rfl; omega)]
  simp
theorem indexOfL_s {h : HP} (M : MS h) {x : Int} (x1 : 0 ≤ x) (x2 : x < 32) (V : AV (Fm h 0)) (O : OV (Fm h 0)) : ∀ (k n : Nat) (c i : Int), 0 ≤ i → i + k < Fm h 0 288 → k < n → Fm h 0 (256 + (i + k)) = x → (∀ q, i ≤ q → q < i + k → Fm h 0 (256 + q) ≠ x) → lX11_indexOf_4 h n 983 (i32 x) (i32 c) (i32 i) = some (i32 (c + cnt (son (Fm h 0) (Fm h 0 x)) k i)) := by
  intro k
  have o1 := O.1
  have o2 := O.2.1
  have vx := V x x1 x2
  induction k with
  | zero =>
    intro n c i i0 e hn w u
    obtain ⟨m, rfl⟩ : ∃ m, n = m + 1 := ⟨n - 1, by omega⟩
    rw [elX11_indexOf_4]; unfold bX11_indexOf_4
    rw [show i + (0 : Nat) = i by omega] at w
    simp (disch := omega) only [M.o, gd_tt, bn_s, ordered_s M (show (0 : Int) ≤ 0 by decide) (by decide) i0 (show i < 36 by omega), w, if_true]
    simp [cnt]
  | succ k ih =>
    intro n c i i0 e hn w u
    obtain ⟨m, rfl⟩ : ∃ m, n = m + 1 := ⟨n - 1, by omega⟩
    have o := O.2.2 i i0 (by omega)
    have v := V _ o.1 o.2
    have ux := u i (Int.le_refl _) (by omega)
    rw [elX11_indexOf_4]; unfold bX11_indexOf_4 jX11_indexOf_42
    simp (disch := omega) only [M.o, gd_tt, bn_s, i32_le, ordered_s M (show (0 : Int) ≤ 0 by decide) (by decide) i0 (show i < 36 by omega), of_s M (show 0 ≤ 0 + 0 + Fm h 0 (256 + i) by omega) (by omega), of_s M (show 0 ≤ 0 + 0 + x by omega) (by omega), Int.zero_add, i32_eq, bI_tt, bI_ff, lt_e, i32_add]
    rw [if_neg ux]
    simp only [cnt]
    have w' : Fm h 0 (256 + (i + 1 + (k : Int))) = x := by rw [← w]; congr 1; omega
    by_cases c2 : Fm h 0 (Fm h 0 (256 + i)) = Fm h 0 x
    · rw [if_pos c2, ih m _ _ (by omega) (by omega) (by omega) w' (fun q a b => u q (by omega) (by omega)), if_pos (son_t c2), Int.add_assoc]
    · rw [if_neg c2, ih m _ _ (by omega) (by omega) (by omega) w' (fun q a b => u q (by omega) (by omega)), if_neg (son_f c2), Int.add_assoc]
theorem indexOf_s {h : HP} (M : MS h) {x j : Int} (x1 : 0 ≤ x) (x2 : x < 32) (V : AV (Fm h 0)) (O : OV (Fm h 0)) (j1 : 0 ≤ j) (j2 : j < Fm h 0 288) (e : Fm h 0 (256 + j) = x) (u : ∀ q, 0 ≤ q → q < j → Fm h 0 (256 + q) ≠ x) : fX11_indexOf 983 (i32 x) h = some (i32 (cnt (son (Fm h 0) (Fm h 0 x)) j.toNat 0)) := by
  have o2 := O.2.1
  unfold fX11_indexOf
  rw [indexOfL_s M x1 x2 V O j.toNat FU 0 0 (by decide) (by omega) (by have : FU = 1000000 := rfl; omega) (by rw [← e]; congr 1; omega) (fun q a b => u q a (by omega))]
  simp
theorem behind_s {h : HP} (M : MS h) {fo g j : Int} (h0 : 0 ≤ fo) (h1 : fo ≤ 2588) (g1 : 0 ≤ g) (g2 : g < 32) (V : AV (Fm h fo)) (O : OV (Fm h fo)) (C : CE (Fm h fo)) (j1 : 0 ≤ j) (j2 : j < Fm h fo 288) (e : Fm h fo (256 + j) = g) (u : ∀ q, 0 ≤ q → q < j → Fm h fo (256 + q) ≠ g) : fX11_behind 983 (i32 fo) (i32 g) h = some (i32 (bhd (Fm h fo) g 33 (j + 1))) := by
  have o2 := O.2.1
  unfold fX11_behind
  simp (disch := omega) only [i32_z, i32_le]
  rw [if_pos g1]
  simp only [M.o, gd_tt, placeOf_s M h0 h1 g1 g2 O j1 j2 e u, bn_s, lt_e, i32_add]
  exact behindL_s M h0 h1 g1 g2 V O C 33 FU (j + 1) (by omega) (by omega) (by decide) (by omega)
theorem behindN_s {h : HP} (M : MS h) {fo g : Int} (h0 : 0 ≤ fo) (h1 : fo ≤ 2588) (g1 : -2147483648 ≤ g) (g2 : g < 0) : fX11_behind 983 (i32 fo) (i32 g) h = some (i32 (Fm h fo 288)) := by
  unfold fX11_behind
  simp (disch := omega) only [i32_z, i32_le]
  rw [if_neg (by omega)]
  simp only [M.o, gd_tt, many_s M h0 h1, bn_s]
theorem placeForL_s {h : HP} (M : MS h) {g x e : Int} (g1 : -2 ≤ g) (g2 : g < 32) (x1 : -2147483648 ≤ x) (x2 : x < 2147483648) (V : AV (Fm h 0)) (O : OV (Fm h 0)) {K : Nat → Int32 → Option Int32} (hK : K 983 (i32 g) = some (i32 e)) : ∀ (k n : Nat) (s i : Int), 0 ≤ i → 0 ≤ s → s ≤ i → i + k = Fm h 0 288 → k < n → lX11_placeFor_5 h K n 983 (i32 g) (i32 x) (i32 s) (i32 i) = some (i32 (nth (son (Fm h 0) g) x e k s i)) := by
  intro k
  have o1 := O.1
  have o2 := O.2.1
  induction k with
  | zero =>
    intro n s i i0 s0 si e hn
    obtain ⟨m, rfl⟩ : ∃ m, n = m + 1 := ⟨n - 1, by omega⟩
    rw [elX11_placeFor_5]; unfold bX11_placeFor_5
    simp (disch := omega) only [M.o, gd_tt, many_s M (show (0 : Int) ≤ 0 by decide) (by decide), bn_s, i32_le]
    rw [if_pos (by omega), hK]; rfl
  | succ k ih =>
    intro n s i i0 s0 si e hn
    obtain ⟨m, rfl⟩ : ∃ m, n = m + 1 := ⟨n - 1, by omega⟩
    have o := O.2.2 i i0 (by omega)
    have v := V _ o.1 o.2
    rw [elX11_placeFor_5]; unfold bX11_placeFor_5 jX11_placeFor_43
    simp (disch := omega) only [M.o, gd_tt, many_s M (show (0 : Int) ≤ 0 by decide) (by decide), bn_s, i32_le, ordered_s M (show (0 : Int) ≤ 0 by decide) (by decide) i0 (show i < 36 by omega), of_s M (show 0 ≤ 0 + 0 + Fm h 0 (256 + i) by omega) (by omega), Int.zero_add, i32_eq, lt_e, i32_add]
    rw [if_neg (by omega)]
    simp only [nth]
    by_cases c2 : Fm h 0 (Fm h 0 (256 + i)) = g
    · rw [if_pos c2, if_pos (son_t c2)]
      by_cases c3 : s = x
      · rw [if_pos c3, if_pos c3]
      · rw [if_neg c3, if_neg c3, ih m _ _ (by omega) (by omega) (by omega) (by omega) (by omega)]
    · rw [if_neg c2, if_neg (son_f c2), ih m _ _ (by omega) (by omega) (by omega) (by omega) (by omega)]
theorem nodeOf_s {h : HP} {g : Int} (g1 : -2147483648 ≤ g) (g2 : g < 2147483600) : fX11_nodeOf (i32 g) h = some (i32 (if 0 ≤ g then 24 + g else -2)) := by
  unfold fX11_nodeOf
  simp (disch := omega) only [i32_z, i32_le, i32_add]
  by_cases c : 0 ≤ g
  · rw [if_pos c, if_pos c]
  · rw [if_neg c, if_neg c]
theorem isGroup_s {h : HP} (M : MS h) {g : Int} (g1 : -2147483648 ≤ g) (g2 : g < 2147483648) : fX11_isGroup 983 (i32 g) h = some (decide (g = -2 ∨ (0 ≤ g ∧ g < 8 ∧ Fm h 0 (24 + g) ≠ -1))) := by
  unfold fX11_isGroup
  simp (disch := omega) only [i32_eq, in_s, bn_s]
  by_cases c : g = -2
  · rw [if_pos c]; simp [c]
  rw [if_neg c]
  by_cases c2 : 0 ≤ g ∧ g < 8
  · rw [if_pos (by simp; omega)]
    simp only [M.o, gd_tt, i32_add, isNode_s M (show -2147483648 ≤ 24 + g by omega) (by omega), bn_s]
    by_cases c3 : Fm h 0 (24 + g) = -1
    · rw [if_neg (by simp [c3])]; simp [c, c3]
    · rw [if_pos (by simp [c3]; omega)]; simp [c, c3]; omega
  · rw [if_neg (by simp; omega)]
    congr 1
    rw [eq_comm, decide_eq_false_iff_not]; omega
/-! THE CLASS'S TREE: around, end, list, index, place -/
theorem TV.grp {F : Int → Int} (T : TV F) {n : Int} (n0 : 0 ≤ n) (n1 : n < 32) (p : F n ≠ -1) : F n = -2 ∨ (24 ≤ F n ∧ F n < 32 ∧ F (F n) ≠ -1) := by
  rcases T n n0 n1 with e | e
  · exact absurd e p
  · exact e
theorem cgr_rng {v : Int} (h : v = -2 ∨ (24 ≤ v ∧ v < 32)) : -2 ≤ cgr v ∧ cgr v < 8 := by
  rcases h with h | h
  · rw [h]; decide
  · rw [show cgr v = v - 24 from if_neg (by omega)]; omega
theorem cgr_inj {v w : Int} (h : v = -2 ∨ (24 ≤ v ∧ v < 32)) (k : w = -2 ∨ (24 ≤ w ∧ w < 32)) : (cgr v = cgr w) ↔ v = w := by
  constructor
  · intro e; have := congrArg gno e; rwa [gno_cgr h, gno_cgr k] at this
  · intro e; rw [e]
theorem cgr_eq {v g : Int} (h : v = -2 ∨ (24 ≤ v ∧ v < 32)) (k : g = -2 ∨ (0 ≤ g ∧ g < 8)) : (cgr v = g) ↔ v = gno g := by
  rcases k with k | k
  · rw [k]
    rcases h with h | h
    · rw [h]; decide
    · rw [show cgr v = v - 24 from if_neg (by omega), show gno (-2) = -2 from rfl]; omega
  · rw [show gno g = 24 + g from if_pos k]
    rcases h with h | h
    · rw [h, show cgr (-2) = -2 from rfl]; omega
    · rw [show cgr v = v - 24 from if_neg (by omega)]; omega
/-- what the class holds of a node that is there -/
theorem TV.cg {h : HP} {a : Nat} (T : TV (Fc h a)) {n : Int} (n0 : 0 ≤ n) (n1 : n < 32) (p : Fc h a n ≠ -1) : -2 ≤ cgr (Fc h a n) ∧ cgr (Fc h a n) < 8 := cgr_rng ((T.grp n0 n1 p).imp id fun z => ⟨z.1, z.2.1⟩)
theorem caroundL {h : HP} {a : Nat} (S : FormAt h a) (T : TV (Fc h a)) (G : GC h a) {x : Int} (x1 : 0 ≤ x) (x2 : x < 2147483648) : ∀ (k n : Nat) (g i : Int), i + k = 8 → ends (Fc h a) k (gno g) → k < n → 0 ≤ i → -2 ≤ g → g < 8 → (gno g = -2 ∨ Fc h a (gno g) ≠ -1) → lX0_isAround_5 h n a (i32 x) (i32 g) (i32 i) = some (isin (Fc h a) k (gno g) x) := by
  intro k
  induction k with
  | zero =>
    intro n g i hk e hn i0 hg0 hg1 hg
    obtain ⟨m, rfl⟩ : ∃ m, n = m + 1 := ⟨n - 1, by omega⟩
    rw [elX0_isAround_5]; unfold bX0_isAround_5
    simp (disch := omega) only [i32_le]
    have e' : gno g < 0 := e
    rw [if_pos (by omega)]
    simp only [isin]
    rw [show (gno g == x) = false from beq_eq_false_iff_ne.mpr (by omega)]
  | succ k ih =>
    intro n g i hk e hn i0 hg0 hg1 hg
    obtain ⟨m, rfl⟩ : ∃ m, n = m + 1 := ⟨n - 1, by omega⟩
    rw [elX0_isAround_5]; unfold bX0_isAround_5
    simp (disch := omega) only [i32_le, S.o, gd_tt, cfindGroup S (show -2147483648 ≤ g by omega) (by omega), bn_s, i32_add, i32_eq]
    rw [if_neg (by omega)]
    by_cases c : 0 ≤ g ∧ g < 8
    · have eg : gno g = 24 + g := if_pos c
      rw [eg] at e hg ⊢
      have hp : Fc h a (24 + g) ≠ -1 := by rcases hg with z | z; omega; exact z
      rw [fno_y (by omega) (by omega) hp]
      simp only [on_sm, S.on (show (24 + g).toNat < 32 by omega), gd_tt, lt_e]
      by_cases c2 : 24 + g = x
      · rw [if_pos c2]; simp only [isin]; rw [if_neg (by omega), c2]; simp
      · rw [if_neg c2]
        rcases e with e | e
        · omega
        have t := T.grp (show 0 ≤ 24 + g by omega) (by omega) hp
        have cg := T.cg (show 0 ≤ 24 + g by omega) (by omega) hp
        have gg := gno_cgr (v := Fc h a (24 + g)) (t.imp id fun z => ⟨z.1, z.2.1⟩)
        rw [G (24 + g) (by omega) (by omega) hp]
        rw [ih m (cgr (Fc h a (24 + g))) (i + 1) (by omega) (by rw [gg]; exact e) (by omega) (by omega) cg.1 cg.2 (by rw [gg]; exact t.imp id fun z => z.2.2), gg]
        simp only [isin]; rw [if_pos (by omega)]
    · have eg : gno g = -2 := if_neg c
      rw [eg, fno_n (by omega)]
      simp only [on_nn, isin]
      rw [if_neg (by omega), show ((-2 : Int) == x) = false from beq_eq_false_iff_ne.mpr (by omega)]
theorem caround {h : HP} {a : Nat} (S : FormAt h a) (T : TV (Fc h a)) (G : GC h a) {x g : Int} (x1 : 0 ≤ x) (x2 : x < 2147483648) (e : ends (Fc h a) 8 (gno g)) (g1 : -2 ≤ g) (g2 : g < 8) (hg : gno g = -2 ∨ Fc h a (gno g) ≠ -1) : fX0_isAround a (i32 x) (i32 g) h = some (isin (Fc h a) 8 (gno g) x) := by
  unfold fX0_isAround
  exact caroundL S T G x1 x2 8 FU g 0 (by omega) e (by decide) (by omega) g1 g2 hg
/-- what an order holds is there -/
def OP (F : Int → Int) : Prop := ∀ i, 0 ≤ i → i < F 288 → F (F (256 + i)) ≠ -1
theorem clistL {h : HP} {a : Nat} (S : FormAt h a) (T : TV (Fc h a)) (G : GC h a) (O : OV (Fc h a)) (P : OP (Fc h a)) {g : Int} (hg : g = -2 ∨ (0 ≤ g ∧ g < 8)) : ∀ (k n : Nat) (c i : Int), 0 ≤ i → i + k = Fc h a 288 → k < n → lX0_listSize_4 h n a (i32 g) (i32 c) (i32 i) = some (i32 (c + cnt (son (Fc h a) (gno g)) k i)) := by
  intro k
  have o1 := O.1
  have o2 := O.2.1
  induction k with
  | zero =>
    intro n c i i0 e hn
    obtain ⟨m, rfl⟩ : ∃ m, n = m + 1 := ⟨n - 1, by omega⟩
    rw [elX0_listSize_4]; unfold bX0_listSize_4
    simp (disch := omega) only [S.o, gd_tt, Fc_mne, i32_le]
    rw [if_pos (by omega)]; simp [cnt]
  | succ k ih =>
    intro n c i i0 e hn
    obtain ⟨m, rfl⟩ : ∃ m, n = m + 1 := ⟨n - 1, by omega⟩
    have o := O.2.2 i i0 (by omega)
    have p := P i i0 (by omega)
    have t := T.grp o.1 o.2 p
    have cg := T.cg o.1 o.2 p
    rw [elX0_listSize_4]; unfold bX0_listSize_4 jX0_listSize_40
    simp (disch := omega) only [S.o, gd_tt, Fc_mne, i32_le, cat_in S O i0 (show i < Fc h a 288 by omega), bn_s, cfind S (show -2147483648 ≤ Fc h a (256 + i) by omega) (by omega), fno_y o.1 o.2 p, on_sm, S.on (show (Fc h a (256 + i)).toNat < 32 by omega), G _ o.1 o.2 p, i32_eq, lt_e, i32_add]
    rw [if_neg (by omega)]
    simp only [cnt]
    have w := cgr_eq (t.imp id fun z => ⟨z.1, z.2.1⟩) hg
    by_cases c2 : cgr (Fc h a (Fc h a (256 + i))) = g
    · rw [if_pos c2, ih m _ _ (by omega) (by omega) (by omega), if_pos (son_t (w.mp c2)), Int.add_assoc]
    · rw [if_neg c2, ih m _ _ (by omega) (by omega) (by omega), if_neg (son_f fun z => c2 (w.mpr z)), Int.zero_add]
theorem clist {h : HP} {a : Nat} (S : FormAt h a) (T : TV (Fc h a)) (G : GC h a) (O : OV (Fc h a)) (P : OP (Fc h a)) {g : Int} (hg : g = -2 ∨ (0 ≤ g ∧ g < 8)) : fX0_listSize a (i32 g) h = some (i32 (cnt (son (Fc h a) (gno g)) (Fc h a 288).toNat 0)) := by
  have o1 := O.1
  have o2 := O.2.1
  unfold fX0_listSize
  rw [clistL S T G O P hg (Fc h a 288).toNat FU 0 0 (by decide) (by omega) (by have : FU = 1000000 := rfl; omega)]
  simp
theorem cindexL {h : HP} {a : Nat} (S : FormAt h a) (T : TV (Fc h a)) (G : GC h a) (O : OV (Fc h a)) (P : OP (Fc h a)) {x : Int} (x1 : 0 ≤ x) (x2 : x < 32) (xp : Fc h a x ≠ -1) : ∀ (k n : Nat) (c i : Int), 0 ≤ i → i + k < Fc h a 288 → k < n → Fc h a (256 + (i + k)) = x → (∀ q, i ≤ q → q < i + k → Fc h a (256 + q) ≠ x) → lX0_indexOf_11 h n a (i32 x) (some (a + 4 + x.toNat)) (i32 c) (i32 i) = some (i32 (c + cnt (son (Fc h a) (Fc h a x)) k i)) := by
  intro k
  have o1 := O.1
  have o2 := O.2.1
  have tx := T.grp x1 x2 xp
  have cx := T.cg x1 x2 xp
  induction k with
  | zero =>
    intro n c i i0 e hn w u
    obtain ⟨m, rfl⟩ : ∃ m, n = m + 1 := ⟨n - 1, by omega⟩
    rw [show i + (0 : Nat) = i by omega] at w
    rw [elX0_indexOf_11]; unfold bX0_indexOf_11
    simp (disch := omega) only [on_sm, S.o, gd_tt, Fc_mne, i32_le, cat_in S O i0 (show i < Fc h a 288 by omega), bn_s, w, if_true]
    rw [if_neg (by omega)]; simp [cnt]
  | succ k ih =>
    intro n c i i0 e hn w u
    obtain ⟨m, rfl⟩ : ∃ m, n = m + 1 := ⟨n - 1, by omega⟩
    have o := O.2.2 i i0 (by omega)
    have p := P i i0 (by omega)
    have t := T.grp o.1 o.2 p
    have cg := T.cg o.1 o.2 p
    have ux := u i (Int.le_refl _) (by omega)
    rw [elX0_indexOf_11]; unfold bX0_indexOf_11 jX0_indexOf_66
    simp (disch := omega) only [on_sm, S.o, gd_tt, Fc_mne, i32_le, cat_in S O i0 (show i < Fc h a 288 by omega), bn_s, cfind S (show -2147483648 ≤ Fc h a (256 + i) by omega) (by omega), fno_y o.1 o.2 p, S.on (show (Fc h a (256 + i)).toNat < 32 by omega), S.on (show x.toNat < 32 by omega), G _ o.1 o.2 p, G x x1 x2 xp, i32_eq, lt_e, i32_add]
    rw [if_neg (by omega), if_neg ux]
    have w' : Fc h a (256 + (i + 1 + (k : Int))) = x := by rw [← w]; congr 1; omega
    simp only [cnt]
    have ww := cgr_inj (t.imp id fun z => ⟨z.1, z.2.1⟩) (tx.imp id fun z => ⟨z.1, z.2.1⟩)
    by_cases c2 : cgr (Fc h a (Fc h a (256 + i))) = cgr (Fc h a x)
    · rw [if_pos c2, ih m _ _ (by omega) (by omega) (by omega) w' (fun q a b => u q (by omega) (by omega)), if_pos (son_t (ww.mp c2)), Int.add_assoc]
    · rw [if_neg c2, ih m _ _ (by omega) (by omega) (by omega) w' (fun q a b => u q (by omega) (by omega)), if_neg (son_f fun z => c2 (ww.mpr z)), Int.zero_add]
theorem cindex {h : HP} {a : Nat} (S : FormAt h a) (T : TV (Fc h a)) (G : GC h a) (O : OV (Fc h a)) (P : OP (Fc h a)) {x j : Int} (x1 : 0 ≤ x) (x2 : x < 32) (j1 : 0 ≤ j) (j2 : j < Fc h a 288) (e : Fc h a (256 + j) = x) (u : ∀ q, 0 ≤ q → q < j → Fc h a (256 + q) ≠ x) : fX0_indexOf a (i32 x) h = some (i32 (cnt (son (Fc h a) (Fc h a x)) j.toNat 0)) := by
  have o2 := O.2.1
  have xp : Fc h a x ≠ -1 := e ▸ P j j1 j2
  unfold fX0_indexOf
  simp only [S.o, gd_tt, cfind S (show -2147483648 ≤ x by omega) (by omega), bn_s, fno_y x1 x2 xp]
  rw [cindexL S T G O P x1 x2 xp j.toNat FU 0 0 (by decide) (by omega) (by have : FU = 1000000 := rfl; omega) (by rw [← e]; congr 1; omega) (fun q a b => u q a (by omega))]
  simp
/-- the first place from i on whose node is no deeper -/
def eof (F : Int → Int) (l : Int) : Nat → Int → Int
  | 0, i => i
  | k + 1, i => if l < dpt F 8 (F (F (256 + i))) then eof F l k (i + 1) else i
theorem cendL {h : HP} {a : Nat} (S : FormAt h a) (T : TV (Fc h a)) (G : GC h a) (O : OV (Fc h a)) (P : OP (Fc h a)) (C : CE (Fc h a)) {l : Int} (l0 : 0 ≤ l) (l1 : l < 9) {K : Nat → Option Int32} (hK : K a = some (i32 (Fc h a 288))) (D : ∀ n, 0 ≤ dpt (Fc h a) 8 n ∧ dpt (Fc h a) 8 n ≤ 8) : ∀ (k n : Nat) (i : Int), 0 ≤ i → i + k = Fc h a 288 → k < n → lX0_endOf_32 h K n a (i32 l) (i32 i) = some (i32 (eof (Fc h a) l k i)) := by
  intro k
  have o1 := O.1
  have o2 := O.2.1
  induction k with
  | zero =>
    intro n i i0 e hn
    obtain ⟨m, rfl⟩ : ∃ m, n = m + 1 := ⟨n - 1, by omega⟩
    rw [elX0_endOf_32]; unfold bX0_endOf_32
    simp (disch := omega) only [S.o, gd_tt, Fc_mne, i32_le]
    rw [if_pos (by omega), hK]; simp only [eof]; rw [show i = Fc h a 288 by omega]
  | succ k ih =>
    intro n i i0 e hn
    obtain ⟨m, rfl⟩ : ∃ m, n = m + 1 := ⟨n - 1, by omega⟩
    have o := O.2.2 i i0 (by omega)
    have p := P i i0 (by omega)
    have t := T.grp o.1 o.2 p
    have cg := T.cg o.1 o.2 p
    have gg := gno_cgr (v := Fc h a (Fc h a (256 + i))) (t.imp id fun z => ⟨z.1, z.2.1⟩)
    have cl := clevelOf S T G (g := cgr (Fc h a (Fc h a (256 + i)))) (by omega) (by omega) (by rw [gg]; exact t.imp id fun z => z.2.2) (by
      rw [gg]
      rcases t with z | z
      · rw [z]; exact Or.inl (by decide)
      · exact C _ (by omega) (by omega))
    rw [gg] at cl
    have d := D (Fc h a (Fc h a (256 + i)))
    rw [elX0_endOf_32]; unfold bX0_endOf_32
    simp (disch := omega) only [S.o, gd_tt, Fc_mne, i32_le, cat_in S O i0 (show i < Fc h a 288 by omega), bn_s, cfind S (show -2147483648 ≤ Fc h a (256 + i) by omega) (by omega), fno_y o.1 o.2 p, on_sm, S.on (show (Fc h a (256 + i)).toNat < 32 by omega), G _ o.1 o.2 p, cl, i32_lt, lt_e, i32_add]
    rw [if_neg (by omega)]
    simp only [eof]
    by_cases c2 : l < dpt (Fc h a) 8 (Fc h a (Fc h a (256 + i)))
    · rw [if_pos c2, if_pos c2, ih m _ (by omega) (by omega) (by omega)]
    · rw [if_neg c2, if_neg c2]
theorem dpt_rng (F : Int → Int) : ∀ (k : Nat) (g : Int), 0 ≤ dpt F k g ∧ dpt F k g ≤ k := by
  intro k
  induction k with
  | zero => intro g; simp [dpt]
  | succ k ih => intro g; have := ih (F g); simp only [dpt]; split <;> omega
theorem cend {h : HP} {a : Nat} (S : FormAt h a) (T : TV (Fc h a)) (G : GC h a) (O : OV (Fc h a)) (P : OP (Fc h a)) (C : CE (Fc h a)) {x j : Int} (x1 : 0 ≤ x) (x2 : x < 32) (j1 : 0 ≤ j) (j2 : j < Fc h a 288) (e : Fc h a (256 + j) = x) (u : ∀ q, 0 ≤ q → q < j → Fc h a (256 + q) ≠ x) : fX0_endOf a (i32 x) h = some (i32 (eof (Fc h a) (dpt (Fc h a) 8 (Fc h a x)) (Fc h a 288 - (j + 1)).toNat (j + 1))) := by
  have o2 := O.2.1
  have xp : Fc h a x ≠ -1 := e ▸ P j j1 j2
  have t := T.grp x1 x2 xp
  have cg := T.cg x1 x2 xp
  have gg := gno_cgr (v := Fc h a x) (t.imp id fun z => ⟨z.1, z.2.1⟩)
  have cl := clevelOf S T G (g := cgr (Fc h a x)) (by omega) (by omega) (by rw [gg]; exact t.imp id fun z => z.2.2) (by
    rw [gg]
    rcases t with z | z
    · rw [z]; exact Or.inl (by decide)
    · exact C _ (by omega) (by omega))
  rw [gg] at cl
  have d := dpt_rng (Fc h a) 8 (Fc h a x)
  unfold fX0_endOf jX0_endOf_22
  simp only [S.o, gd_tt, cfind S (show -2147483648 ≤ x by omega) (by omega), bn_s, fno_y x1 x2 xp, on_sm, S.on (show x.toNat < 32 by omega), G x x1 x2 xp, cl, cplaceOf S (show -2147483648 ≤ x by omega) (by omega) O j1 j2 e u, lt_e, i32_add]
  exact cendL S T G O P C d.1 (by omega) (by simp only [S.o, gd_tt, Fc_mne]) (fun n => dpt_rng _ 8 n) _ FU (j + 1) (by omega) (by omega) (by have : FU = 1000000 := rfl; omega)
theorem cplaceForL {h : HP} {a : Nat} (S : FormAt h a) (T : TV (Fc h a)) (G : GC h a) (O : OV (Fc h a)) (P : OP (Fc h a)) {g x e : Int} (hg : g = -2 ∨ (0 ≤ g ∧ g < 8)) (x1 : -2147483648 ≤ x) (x2 : x < 2147483648) (e1 : 0 ≤ e) (e2 : e ≤ Fc h a 288) : ∀ (k n : Nat) (s i : Int), 0 ≤ i → 0 ≤ s → s ≤ i → i + k = e → k < n → lX0_placeFor_28 h n a (i32 g) (i32 x) (i32 e) (i32 s) (i32 i) = some (i32 (nth (son (Fc h a) (gno g)) x e k s i)) := by
  intro k
  have o1 := O.1
  have o2 := O.2.1
  induction k with
  | zero =>
    intro n s i i0 s0 si e hn
    obtain ⟨m, rfl⟩ : ∃ m, n = m + 1 := ⟨n - 1, by omega⟩
    rw [elX0_placeFor_28]; unfold bX0_placeFor_28
    simp (disch := omega) only [i32_le]
    rw [if_pos (by omega)]; rfl
  | succ k ih =>
    intro n s i i0 s0 si ee hn
    obtain ⟨m, rfl⟩ : ∃ m, n = m + 1 := ⟨n - 1, by omega⟩
    have o := O.2.2 i i0 (by omega)
    have p := P i i0 (by omega)
    have t := T.grp o.1 o.2 p
    have cg := T.cg o.1 o.2 p
    rw [elX0_placeFor_28]; unfold bX0_placeFor_28 jX0_placeFor_72
    simp (disch := omega) only [S.o, gd_tt, i32_le, cat_in S O i0 (show i < Fc h a 288 by omega), bn_s, cfind S (show -2147483648 ≤ Fc h a (256 + i) by omega) (by omega), fno_y o.1 o.2 p, on_sm, S.on (show (Fc h a (256 + i)).toNat < 32 by omega), G _ o.1 o.2 p, i32_eq, lt_e, i32_add]
    rw [if_neg (by omega)]
    simp only [nth]
    have w := cgr_eq (t.imp id fun z => ⟨z.1, z.2.1⟩) hg
    by_cases c2 : cgr (Fc h a (Fc h a (256 + i))) = g
    · rw [if_pos c2, if_pos (son_t (w.mp c2))]
      by_cases c3 : s = x
      · rw [if_pos c3, if_pos c3]
      · rw [if_neg c3, if_neg c3, ih m _ _ (by omega) (by omega) (by omega) (by omega) (by omega)]
    · rw [if_neg c2, if_neg (son_f fun z => c2 (w.mpr z)), ih m _ _ (by omega) (by omega) (by omega) (by omega) (by omega)]
theorem ctakes {h : HP} {a : Nat} (S : FormAt h a) {g : Int} (g1 : -2147483648 ≤ g) (g2 : g < 2147483648) : fX0_takesGroup a (i32 g) h = some (decide (g = -2 ∨ (0 ≤ g ∧ g < 8 ∧ Fc h a (24 + g) ≠ -1))) := by
  unfold fX0_takesGroup
  simp (disch := omega) only [i32_eq, S.o, gd_tt, cfindGroup S g1 g2, bn_s]
  by_cases c : g = -2
  · rw [if_pos c]; simp [c]
  rw [if_neg c]
  by_cases c2 : 0 ≤ g ∧ g < 8
  · rw [show gno g = 24 + g from if_pos c2]
    by_cases c3 : Fc h a (24 + g) = -1
    · rw [fno_n (by omega)]; simp [on_nn, c, c3]
    · rw [fno_y (by omega) (by omega) c3]; simp [on_sm, c3, c2]
  · rw [show gno g = -2 from if_neg c2, fno_n (by omega), on_nn]
    congr 1
    rw [eq_comm, decide_eq_false_iff_not]; omega
/-! MASKS AS SETS -/
def bt (m : Int32) (i : Int) : Bool := m.toBitVec.getLsbD i.toNat
theorem bt_or (m n : Int32) (i : Int) : bt (m ||| n) i = (bt m i || bt n i) := by
  unfold bt; rw [Int32.toBitVec_or, BitVec.getLsbD_or]
theorem bt_and (m n : Int32) (i : Int) : bt (m &&& n) i = (bt m i && bt n i) := by
  unfold bt; rw [Int32.toBitVec_and, BitVec.getLsbD_and]
theorem bt_xor (m n : Int32) (i : Int) : bt (m ^^^ n) i = (bt m i ^^ bt n i) := by
  unfold bt; rw [Int32.toBitVec_xor, BitVec.getLsbD_xor]
theorem bt_0 (i : Int) : bt (i32 0) i = false := by
  show (BitVec.ofInt 32 0).getLsbD i.toNat = false
  simp
theorem i32_31 {f : Int} (h0 : 0 ≤ f) (h1 : f < 32) : i32 f &&& 31 = i32 f := by
  have w : ∀ n : Fin 32, i32 (n.val : Int) &&& 31 = i32 (n.val : Int) := by decide +kernel
  have := w ⟨f.toNat, by omega⟩
  rwa [show ((f.toNat : Nat) : Int) = f by omega] at this
theorem bt_sh {f i : Int} (h0 : 0 ≤ f) (h1 : f < 32) (h2 : 0 ≤ i) (h3 : i < 32) : bt (i32 1 <<< (i32 f &&& 31)) i = (i == f) := by
  have w : ∀ n m : Fin 32, bt (i32 1 <<< (i32 (n.val : Int) &&& 31)) (m.val : Int) = ((m.val : Int) == (n.val : Int)) := by decide +kernel
  have := w ⟨f.toNat, by omega⟩ ⟨i.toNat, by omega⟩
  rwa [show ((f.toNat : Nat) : Int) = f by omega, show ((i.toNat : Nat) : Int) = i by omega] at this
theorem bt_ext {m n : Int32} (h : ∀ i, 0 ≤ i → i < 32 → bt m i = bt n i) : m = n := by
  apply Int32.toBitVec_inj.mp
  apply BitVec.eq_of_getLsbD_eq
  intro i hi
  have := h i (by omega) (by omega)
  unfold bt at this
  rwa [show ((i : Int)).toNat = i by omega] at this
theorem bt_eq0 {m : Int32} : (m = i32 0) ↔ ∀ i, 0 ≤ i → i < 32 → bt m i = false := by
  constructor
  · intro e i _ _; rw [e, bt_0]
  · intro h; exact bt_ext fun i a b => by rw [h i a b, bt_0]
theorem bt_in {m : Int32} {f : Int} (h0 : 0 ≤ f) (h1 : f < 32) : ((m >>> (i32 f &&& 31)) &&& i32 1 = i32 1) = (bt m f = true) := by
  have w : ∀ n : Fin 32, (i32 (n.val : Int)).toBitVec.smod 32 = BitVec.ofNat 32 n.val := by decide +kernel
  have w1 := w ⟨f.toNat, by omega⟩
  simp only [show ((f.toNat : Nat) : Int) = f by omega] at w1
  rw [i32_31 h0 h1]
  apply propext
  rw [← Int32.toBitVec_inj, Int32.toBitVec_and, Int32.toBitVec_shiftRight, w1, show (i32 1).toBitVec = 1#32 from rfl]
  unfold bt
  have key : (m.toBitVec.sshiftRight' (BitVec.ofNat 32 f.toNat)).getLsbD 0 = m.toBitVec.getLsbD f.toNat := by
    rw [BitVec.sshiftRight', BitVec.toNat_ofNat, Nat.mod_eq_of_lt (by omega), BitVec.getLsbD_sshiftRight]
    simp
    intro q; omega
  rw [← key]
  generalize m.toBitVec.sshiftRight' (BitVec.ofNat 32 f.toNat) = y
  have one : ∀ i : Fin 32, i.val ≠ 0 → (1#32).getLsbD i.val = false := by decide
  constructor
  · intro e
    have e2 := congrArg (fun z => BitVec.getLsbD z 0) e
    simpa using e2
  · intro e
    apply BitVec.eq_of_getLsbD_eq
    intro i hi
    rw [BitVec.getLsbD_and]
    by_cases c : i = 0
    · subst c; rw [e]; rfl
    · rw [one ⟨i, hi⟩ c, Bool.and_false]
/-! WHAT DEPENDS ON WHAT -/
theorem bt_ushr {m : Int32} {f : Int} (h0 : 0 ≤ f) (h1 : f < 32) : (((m.toUInt32 >>> ((i32 f).toUInt32 &&& Int32.toUInt32 31)).toInt32 &&& i32 1) = i32 1) = (bt m f = true) := by
  have w : ∀ n : Fin 32, ((i32 (n.val : Int)).toUInt32 &&& Int32.toUInt32 31).toBitVec = BitVec.ofNat 32 n.val := by decide +kernel
  have w1 := w ⟨f.toNat, by omega⟩
  simp only [show ((f.toNat : Nat) : Int) = f by omega] at w1
  apply propext
  rw [← Int32.toBitVec_inj, Int32.toBitVec_and, show (i32 1).toBitVec = 1#32 from rfl, show ((m.toUInt32 >>> ((i32 f).toUInt32 &&& Int32.toUInt32 31)).toInt32).toBitVec = (m.toUInt32 >>> ((i32 f).toUInt32 &&& Int32.toUInt32 31)).toBitVec from rfl, UInt32.toBitVec_shiftRight, w1]
  unfold bt
  have key : (m.toUInt32.toBitVec >>> (BitVec.ofNat 32 f.toNat % 32)).getLsbD 0 = m.toBitVec.getLsbD f.toNat := by
    rw [BitVec.ushiftRight_eq', BitVec.toNat_umod, BitVec.toNat_ofNat, Nat.mod_eq_of_lt (show f.toNat < 2 ^ 32 by omega), show (32 : BitVec 32).toNat = 32 from rfl, Nat.mod_eq_of_lt (show f.toNat < 32 by omega), BitVec.getLsbD_ushiftRight, Nat.add_zero]
    rfl
  rw [← key]
  generalize m.toUInt32.toBitVec >>> (BitVec.ofNat 32 f.toNat % 32) = y
  have one : ∀ i : Fin 32, i.val ≠ 0 → (1#32).getLsbD i.val = false := by decide
  constructor
  · intro e
    have e2 := congrArg (fun z => BitVec.getLsbD z 0) e
    simpa using e2
  · intro e
    apply BitVec.eq_of_getLsbD_eq
    intro i hi
    rw [BitVec.getLsbD_and]
    by_cases c : i = 0
    · subst c; rw [e]; rfl
    · rw [one ⟨i, hi⟩ c, Bool.and_false]
theorem chasBit {h : HP} {m : Int32} {f : Int} (f1 : -2147483648 ≤ f) (f2 : f < 2147483648) : fX10_hasBit m (i32 f) h = some (decide (0 ≤ f ∧ f < 32 ∧ bt m f = true)) := by
  unfold fX10_hasBit
  simp (disch := omega) only [i32_z, i32_lt, i32_le]
  by_cases c0 : f < 0
  · rw [if_pos c0]; congr 1; rw [eq_comm, decide_eq_false_iff_not]; omega
  rw [if_neg c0]
  by_cases c1 : 32 ≤ f
  · rw [if_pos c1]; congr 1; rw [eq_comm, decide_eq_false_iff_not]; omega
  rw [if_neg c1]
  simp only [bt_ushr (m := m) (show 0 ≤ f by omega) (show f < 32 by omega)]
  by_cases c2 : bt m f = true
  · rw [if_pos c2]; simp [c2]; omega
  · rw [if_neg c2]; simp [c2]
/-- what a node and those around it ask for -/
def nds (F : Int → Int) (R : Int → Int32) : Nat → Int → Int32
  | 0, _ => i32 0
  | k + 1, n => if 0 ≤ n then R n ||| nds F R k (F n) else i32 0
def NE (F : Int → Int) (R : Int → Int32) (f : Int) : Int32 := if 0 ≤ f ∧ f < 24 ∧ F f ≠ -1 then nds F R 9 f else i32 0
def Rfc (h : HP) (a : Nat) (n : Int) : Int32 := hI h 137 (a + 4 + n.toNat)
theorem or_z (m : Int32) : m ||| i32 0 = m := bt_ext fun i _ _ => by rw [bt_or, bt_0, Bool.or_false]
theorem or_as (m n k : Int32) : m ||| n ||| k = m ||| (n ||| k) := bt_ext fun i _ _ => by rw [bt_or, bt_or, bt_or, bt_or, Bool.or_assoc]
theorem cneedsL {h : HP} {a : Nat} (S : FormAt h a) (T : TV (Fc h a)) (G : GC h a) : ∀ (k n : Nat) (c : Int32) (g i : Int), i + k = 9 → k < n → 0 ≤ i → (g = -2 ∨ (0 ≤ g ∧ g < 32 ∧ Fc h a g ≠ -1)) → lX0_needs_11 h n a (fno h a g) c (i32 i) = some (c ||| nds (Fc h a) (Rfc h a) k g) := by
  intro k
  induction k with
  | zero =>
    intro n c g i hk hn i0 hg
    obtain ⟨m, rfl⟩ : ∃ m, n = m + 1 := ⟨n - 1, by omega⟩
    rw [elX0_needs_11]; unfold bX0_needs_11
    simp (disch := omega) only [i32_lt]
    rw [if_pos (by omega)]; simp only [nds, or_z]
  | succ k ih =>
    intro n c g i hk hn i0 hg
    obtain ⟨m, rfl⟩ : ∃ m, n = m + 1 := ⟨n - 1, by omega⟩
    rw [elX0_needs_11]; unfold bX0_needs_11
    simp (disch := omega) only [i32_lt]
    rw [if_neg (by omega)]
    rcases hg with hg | ⟨g1, g2, g3⟩
    · rw [hg, fno_n (by omega)]; simp only [on_nn, nds]; rw [if_neg (by decide), or_z]
    · have t := T.grp g1 g2 g3
      have cg := T.cg g1 g2 g3
      have gg := gno_cgr (v := Fc h a g) (t.imp id fun z => ⟨z.1, z.2.1⟩)
      rw [fno_y g1 g2 g3]
      simp only [on_sm, lt_e, i32_add, S.on (show g.toNat < 32 by omega), gd_tt, S.o, G g g1 g2 g3, cfindGroup S (show -2147483648 ≤ cgr (Fc h a g) by omega) (by omega), bn_s, gg]
      rw [ih m _ _ (i + 1) (by omega) (by omega) (by omega) (t.imp id fun z => ⟨by omega, z.2.1, z.2.2⟩)]
      simp only [nds]; rw [if_pos g1, or_as]; rfl
theorem cneeds {h : HP} {a : Nat} (S : FormAt h a) (T : TV (Fc h a)) (G : GC h a) {f : Int} (f1 : -2147483648 ≤ f) (f2 : f < 2147483648) : fX0_needs a (i32 f) h = some (NE (Fc h a) (Rfc h a) f) := by
  unfold fX0_needs NE
  simp only [S.o, gd_tt, cfindField S f1 f2, bn_s]
  by_cases c : 0 ≤ f ∧ f < 24 ∧ Fc h a f ≠ -1
  · rw [if_pos c, if_pos c.2.1, cneedsL S T G 9 FU (i32 0) f 0 (by omega) (by decide) (by omega) (Or.inr ⟨c.1, by omega, c.2.2⟩)]
    congr 1
    exact bt_ext fun i _ _ => by rw [bt_or, bt_0, Bool.false_or]
  · rw [if_neg c]
    have e : (if f < 24 then fno h a f else none) = none := by
      by_cases c2 : f < 24
      · rw [if_pos c2, fno_n (by omega)]
      · rw [if_neg c2]
    rw [e, show FU = 999999 + 1 from rfl, elX0_needs_11]; unfold bX0_needs_11
    simp (disch := omega) only [i32_lt]
    rw [if_neg (by decide), on_nn]
/-- with what a set depends on -/
def orl (N : Int → Int32) (s : Int32) : Nat → Int → Int32 → Int32
  | 0, _, c => c
  | k + 1, i, c => orl N s k (i + 1) (if bt s i = true then c ||| N i else c)
def ste (N : Int → Int32) (s : Int32) : Int32 := orl N s 24 0 s
def cl (N : Int → Int32) : Nat → Int32 → Int32
  | 0, s => s
  | k + 1, s => if ste N s = s then s else cl N k (ste N s)
theorem callL2 {h : HP} {a : Nat} (S : FormAt h a) (T : TV (Fc h a)) (G : GC h a) {s : Int32} {r : Int} {K : Nat → Int32 → Int32 → Int32 → Option Int32} : ∀ (k n : Nat) (i : Int) (c : Int32), 0 ≤ i → i + k = 24 → k < n → lX0_allNeeds_20 h K n a s (i32 r) c (i32 i) = K a s (i32 r) (orl (NE (Fc h a) (Rfc h a)) s k i c) := by
  intro k
  induction k with
  | zero =>
    intro n i c i0 e hn
    obtain ⟨m, rfl⟩ : ∃ m, n = m + 1 := ⟨n - 1, by omega⟩
    rw [elX0_allNeeds_20]; unfold bX0_allNeeds_20
    simp (disch := omega) only [i32_le]
    rw [if_pos (by omega)]; rfl
  | succ k ih =>
    intro n i c i0 e hn
    obtain ⟨m, rfl⟩ : ∃ m, n = m + 1 := ⟨n - 1, by omega⟩
    rw [elX0_allNeeds_20]; unfold bX0_allNeeds_20 jX0_allNeeds_47
    simp (disch := omega) only [i32_le, chasBit, bn_s, S.o, gd_tt, cneeds S T G (show -2147483648 ≤ i by omega) (by omega), lt_e, i32_add]
    rw [if_neg (by omega)]
    simp only [orl]
    by_cases c2 : bt s i = true
    · rw [if_pos (by simp [c2]; omega), if_pos c2, ih m (i + 1) _ (by omega) (by omega) (by omega)]
    · rw [if_neg (by simp [c2]), if_neg c2, ih m (i + 1) _ (by omega) (by omega) (by omega)]
theorem callL {h : HP} {a : Nat} (S : FormAt h a) (T : TV (Fc h a)) (G : GC h a) : ∀ (k n : Nat) (r : Int) (s : Int32), 0 ≤ r → r + k = 24 → k < n → lX0_allNeeds_8 h n a s (i32 r) = some (cl (NE (Fc h a) (Rfc h a)) k s) := by
  intro k
  induction k with
  | zero =>
    intro n r s r0 e hn
    obtain ⟨m, rfl⟩ : ∃ m, n = m + 1 := ⟨n - 1, by omega⟩
    rw [elX0_allNeeds_8]; unfold bX0_allNeeds_8
    simp (disch := omega) only [i32_le]
    rw [if_pos (by omega)]; rfl
  | succ k ih =>
    intro n r s r0 e hn
    obtain ⟨m, rfl⟩ : ∃ m, n = m + 1 := ⟨n - 1, by omega⟩
    rw [elX0_allNeeds_8]; unfold bX0_allNeeds_8
    simp (disch := omega) only [i32_le]
    rw [if_neg (by omega), callL2 S T G 24 FU 0 s (by decide) (by decide) (by decide)]
    simp only [cl]
    show (if ste (NE (Fc h a) (Rfc h a)) s = s then _ else _) = _
    by_cases c2 : ste (NE (Fc h a) (Rfc h a)) s = s
    · rw [if_pos c2, if_pos c2]
    · rw [if_neg c2, if_neg c2]
      simp only [lt_e, i32_add]
      exact ih m (r + 1) _ (by omega) (by omega) (by omega)
theorem call {h : HP} {a : Nat} (S : FormAt h a) (T : TV (Fc h a)) (G : GC h a) {f : Int} (f1 : -2147483648 ≤ f) (f2 : f < 2147483648) : fX0_allNeeds a (i32 f) h = some (cl (NE (Fc h a) (Rfc h a)) 24 (NE (Fc h a) (Rfc h a) f)) := by
  unfold fX0_allNeeds
  simp only [S.o, gd_tt, cneeds S T G f1 f2, bn_s]
  exact callL S T G 24 FU 0 _ (by omega) (by omega) (by decide)
/-! closures -/
def sub (s t : Int32) : Prop := ∀ i, 0 ≤ i → i < 32 → bt s i = true → bt t i = true
def closed (N : Int → Int32) (s : Int32) : Prop := ∀ o, 0 ≤ o → o < 24 → bt s o = true → sub (N o) s
def isCl (N : Int → Int32) (s r : Int32) : Prop := sub s r ∧ closed N r ∧ ∀ x, sub s x → closed N x → sub r x
/-- only fields are in it -/
def lo24 (s : Int32) : Prop := ∀ i, 24 ≤ i → i < 32 → bt s i = false
theorem sub_eq {s t : Int32} (h : sub s t) (k : sub t s) : s = t := bt_ext fun i a b => by
  cases e : bt s i <;> cases e2 : bt t i
  · rfl
  · exact absurd (k i a b e2) (by rw [e]; decide)
  · exact absurd (h i a b e) (by rw [e2]; decide)
  · rfl
theorem isCl_u {N : Int → Int32} {s r t : Int32} (h : isCl N s r) (k : isCl N s t) : r = t := sub_eq (h.2.2 t k.1 k.2.1) (k.2.2 r h.1 h.2.1)
theorem orl_bt {N : Int → Int32} {s : Int32} {g : Int} : ∀ (k : Nat) (i : Int) (c : Int32), bt (orl N s k i c) g = true ↔ (bt c g = true ∨ ∃ o, i ≤ o ∧ o < i + k ∧ bt s o = true ∧ bt (N o) g = true) := by
  intro k
  induction k with
  | zero =>
    intro i c
    simp only [orl]
    constructor
    · intro e; exact Or.inl e
    · rintro (e | ⟨o, a, b, _⟩)
      · exact e
      · omega
  | succ k ih =>
    intro i c
    simp only [orl]
    rw [ih]
    by_cases c2 : bt s i = true
    · rw [if_pos c2, bt_or, Bool.or_eq_true]
      constructor
      · rintro ((e | e) | ⟨o, a, b, e⟩)
        · exact Or.inl e
        · exact Or.inr ⟨i, by omega, by omega, c2, e⟩
        · exact Or.inr ⟨o, by omega, by omega, e⟩
      · rintro (e | ⟨o, a, b, e1, e2⟩)
        · exact Or.inl (Or.inl e)
        · by_cases q : o = i
          · subst q; exact Or.inl (Or.inr e2)
          · exact Or.inr ⟨o, by omega, by omega, e1, e2⟩
    · rw [if_neg c2]
      constructor
      · rintro (e | ⟨o, a, b, e⟩)
        · exact Or.inl e
        · exact Or.inr ⟨o, by omega, by omega, e⟩
      · rintro (e | ⟨o, a, b, e1, e2⟩)
        · exact Or.inl e
        · by_cases q : o = i
          · subst q; exact absurd e1 c2
          · exact Or.inr ⟨o, by omega, by omega, e1, e2⟩
theorem ste_bt {N : Int → Int32} {s : Int32} {g : Int} : bt (ste N s) g = true ↔ (bt s g = true ∨ ∃ o, 0 ≤ o ∧ o < 24 ∧ bt s o = true ∧ bt (N o) g = true) := by
  unfold ste; rw [orl_bt]; simp
theorem ste_fix {N : Int → Int32} {s : Int32} (e : ste N s = s) : closed N s := fun o a b c i i0 i1 d => by
  rw [← e, ste_bt]; exact Or.inr ⟨o, a, b, c, d⟩
theorem ste_sub {N : Int → Int32} {s : Int32} : sub s (ste N s) := fun i _ _ e => ste_bt.mpr (Or.inl e)
theorem ste_le {N : Int → Int32} {s x : Int32} (h : sub s x) (k : closed N x) : sub (ste N s) x := fun i a b e => by
  rcases ste_bt.mp e with e | ⟨o, o0, o1, e1, e2⟩
  · exact h i a b e
  · exact k o o0 o1 (h o o0 (by omega) e1) i a b e2
theorem ste_lo {N : Int → Int32} {s : Int32} (h : lo24 s) (k : ∀ f, lo24 (N f)) : lo24 (ste N s) := fun i a b => by
  cases e : bt (ste N s) i with
  | false => rfl
  | true =>
    rcases ste_bt.mp e with e | ⟨o, o0, o1, e1, e2⟩
    · rw [h i a b] at e; cases e
    · rw [k o i a b] at e2; cases e2
def cb (s : Int32) : Int := cnt (bt s) 24 0
theorem cnt_lt {p q : Int → Bool} : ∀ (k : Nat) (i : Int), (∀ j, i ≤ j → j < i + k → p j = true → q j = true) → (cnt p k i ≤ cnt q k i ∧ ((∃ j, i ≤ j ∧ j < i + k ∧ p j = false ∧ q j = true) → cnt p k i < cnt q k i)) := by
  intro k
  induction k with
  | zero => intro i _; exact ⟨Int.le_refl _, fun ⟨j, a, b, _⟩ => by omega⟩
  | succ k ih =>
    intro i e
    obtain ⟨h1, h2⟩ := ih (i + 1) (fun j a b => e j (by omega) (by omega))
    have h0 := e i (Int.le_refl _) (by omega)
    simp only [cnt]
    refine ⟨?_, ?_⟩
    · cases x : p i <;> cases y : q i <;> simp [x, y] at h0 ⊢ <;> omega
    · rintro ⟨j, a, b, c, d⟩
      by_cases q1 : j = i
      · subst q1; rw [c, d]; simp; omega
      · have := h2 ⟨j, by omega, by omega, c, d⟩
        cases x : p i <;> cases y : q i <;> simp [x, y] at h0 ⊢ <;> omega
theorem cb_grow {s t : Int32} (h : sub s t) (l : lo24 t) (n : t ≠ s) : cb s + 1 ≤ cb t := by
  have h2 := (cnt_lt (p := bt s) (q := bt t) 24 0 (fun j a b => h j a (by omega))).2
  have ex : ∃ j, (0 : Int) ≤ j ∧ j < 0 + (24 : Nat) ∧ bt s j = false ∧ bt t j = true := by
    apply Classical.byContradiction
    intro q
    apply n
    apply sub_eq _ h
    intro i i0 i1 e
    by_cases c : i < 24
    · cases e2 : bt s i with
      | true => rfl
      | false => exact absurd ⟨i, i0, by omega, e2, e⟩ q
    · rw [l i (by omega) i1] at e; cases e
  have := h2 ex
  unfold cb; omega
theorem cb_rng (s : Int32) : 0 ≤ cb s ∧ cb s ≤ 24 := by
  have := cnt_rng (bt s) 24 0
  unfold cb; omega
theorem cl_isCl {N : Int → Int32} (k2 : ∀ f, lo24 (N f)) : ∀ (k : Nat) (s : Int32), lo24 s → (25 ≤ cb s + k ∨ s = i32 0) → isCl N s (cl N k s) := by
  intro k
  induction k with
  | zero =>
    intro s l e
    have := cb_rng s
    have e : s = i32 0 := by rcases e with e | e; omega; exact e
    simp only [cl]
    subst e
    exact ⟨fun i _ _ z => z, (fun o _ _ z => by rw [bt_0] at z; cases z), (fun x _ _ i _ _ z => by rw [bt_0] at z; cases z)⟩
  | succ k ih =>
    intro s l e
    simp only [cl]
    by_cases c : ste N s = s
    · rw [if_pos c]
      exact ⟨fun i _ _ z => z, ste_fix c, fun x q _ => q⟩
    · rw [if_neg c]
      have g := cb_grow ste_sub (ste_lo l k2) c
      have e1 : 25 ≤ cb s + (k + 1 : Nat) := by
        rcases e with e | e
        · exact e
        · exfalso; apply c
          subst e
          apply bt_ext; intro i _ _
          rw [bt_0]
          cases z : bt (ste N (i32 0)) i with
          | false => rfl
          | true =>
            rcases ste_bt.mp z with w | ⟨o, _, _, w, _⟩
            · rw [bt_0] at w; cases w
            · rw [bt_0] at w; cases w
      obtain ⟨a1, a2, a3⟩ := ih (ste N s) (ste_lo l k2) (Or.inl (by omega))
      exact ⟨fun i i0 i1 z => a1 i i0 i1 (ste_sub i i0 i1 z), a2, fun x q1 q2 => a3 x (ste_le q1 q2) q2⟩
theorem cl24 {N : Int → Int32} (k2 : ∀ f, lo24 (N f)) {s : Int32} (l : lo24 s) : isCl N s (cl N 24 s) := by
  apply cl_isCl k2 24 s l
  by_cases c : s = i32 0
  · exact Or.inr c
  · left
    have : cb (i32 0) + 1 ≤ cb s := cb_grow (fun i _ _ z => by rw [bt_0] at z; cases z) l c
    have := cb_rng (i32 0)
    omega
/-! FIRST, ANY, MASK -/
def fst (p : Int → Bool) (e : Int) : Nat → Int → Int
  | 0, _ => e
  | k + 1, i => if p i = true then i else fst p e k (i + 1)
def anyf (p : Int → Bool) : Nat → Int → Bool
  | 0, _ => false
  | k + 1, i => if p i = true then true else anyf p k (i + 1)
def fmk (q : Int → Bool) : Nat → Int → Int32 → Int32
  | 0, _, c => c
  | k + 1, i, c => fmk q k (i + 1) (if q i = true then c ||| (i32 1 <<< (i32 i &&& 31)) else c)
theorem fst_congr {p q : Int → Bool} {e : Int} : ∀ (k : Nat) (i : Int), (∀ j, i ≤ j → j < i + k → p j = q j) → fst p e k i = fst q e k i := by
  intro k
  induction k with
  | zero => intro i _; rfl
  | succ k ih => intro i c; simp only [fst]; rw [c i (Int.le_refl _) (by omega), ih (i + 1) (fun j a b => c j (by omega) (by omega))]
theorem anyf_congr {p q : Int → Bool} : ∀ (k : Nat) (i : Int), (∀ j, i ≤ j → j < i + k → p j = q j) → anyf p k i = anyf q k i := by
  intro k
  induction k with
  | zero => intro i _; rfl
  | succ k ih => intro i c; simp only [anyf]; rw [c i (Int.le_refl _) (by omega), ih (i + 1) (fun j a b => c j (by omega) (by omega))]
theorem fmk_congr {p q : Int → Bool} : ∀ (k : Nat) (i : Int) (c : Int32), (∀ j, i ≤ j → j < i + k → p j = q j) → fmk p k i c = fmk q k i c := by
  intro k
  induction k with
  | zero => intro i c _; rfl
  | succ k ih => intro i c h; simp only [fmk]; rw [h i (Int.le_refl _) (by omega), ih (i + 1) _ (fun j a b => h j (by omega) (by omega))]
theorem anyf_iff {p : Int → Bool} : ∀ (k : Nat) (i : Int), anyf p k i = true ↔ ∃ j, i ≤ j ∧ j < i + k ∧ p j = true := by
  intro k
  induction k with
  | zero => intro i; simp only [anyf]; constructor
            · intro e; cases e
            · rintro ⟨j, a, b, _⟩; omega
  | succ k ih =>
    intro i
    simp only [anyf]
    by_cases c : p i = true
    · rw [if_pos c]; exact ⟨fun _ => ⟨i, by omega, by omega, c⟩, fun _ => rfl⟩
    · rw [if_neg c, ih]
      constructor
      · rintro ⟨j, a, b, e⟩; exact ⟨j, by omega, by omega, e⟩
      · rintro ⟨j, a, b, e⟩
        by_cases q : j = i
        · subst q; exact absurd e c
        · exact ⟨j, by omega, by omega, e⟩
/-- what the first is: none, or the least -/
theorem fst_spec {p : Int → Bool} {e : Int} : ∀ (k : Nat) (i : Int), (fst p e k i = e ∧ ∀ j, i ≤ j → j < i + k → p j = false) ∨ (i ≤ fst p e k i ∧ fst p e k i < i + k ∧ p (fst p e k i) = true ∧ ∀ j, i ≤ j → j < fst p e k i → p j = false) := by
  intro k
  induction k with
  | zero => intro i; left; exact ⟨rfl, fun j a b => by omega⟩
  | succ k ih =>
    intro i
    simp only [fst]
    by_cases c : p i = true
    · rw [if_pos c]; right; exact ⟨by omega, by omega, c, fun j a b => by omega⟩
    · rw [if_neg c]
      have c' : p i = false := by cases h : p i; rfl; exact absurd h c
      rcases ih (i + 1) with ⟨h1, h2⟩ | ⟨h1, h2, h3, h4⟩
      · left; exact ⟨h1, fun j a b => by
          by_cases q : j = i
          · rw [q]; exact c'
          · exact h2 j (by omega) (by omega)⟩
      · right; exact ⟨by omega, by omega, h3, fun j a b => by
          by_cases q : j = i
          · rw [q]; exact c'
          · exact h4 j (by omega) (by omega)⟩
theorem fmk_bt {q : Int → Bool} {g : Int} (g0 : 0 ≤ g) (g1 : g < 32) : ∀ (k : Nat) (i : Int) (c : Int32), 0 ≤ i → i + k ≤ 32 → (bt (fmk q k i c) g = true ↔ (bt c g = true ∨ (i ≤ g ∧ g < i + k ∧ q g = true))) := by
  intro k
  induction k with
  | zero => intro i c _ _; simp only [fmk]; constructor
            · exact Or.inl
            · rintro (e | ⟨a, b, _⟩)
              · exact e
              · omega
  | succ k ih =>
    intro i c i0 i1
    simp only [fmk]
    rw [ih (i + 1) _ (by omega) (by omega)]
    by_cases c2 : q i = true
    · rw [if_pos c2, bt_or, bt_sh i0 (by omega) g0 g1, Bool.or_eq_true, beq_iff_eq]
      constructor
      · rintro ((e | e) | ⟨a, b, e⟩)
        · exact Or.inl e
        · subst e; exact Or.inr ⟨by omega, by omega, c2⟩
        · exact Or.inr ⟨by omega, by omega, e⟩
      · rintro (e | ⟨a, b, e⟩)
        · exact Or.inl (Or.inl e)
        · by_cases z : g = i
          · exact Or.inl (Or.inr z)
          · exact Or.inr ⟨by omega, by omega, e⟩
    · rw [if_neg c2]
      constructor
      · rintro (e | ⟨a, b, e⟩)
        · exact Or.inl e
        · exact Or.inr ⟨by omega, by omega, e⟩
      · rintro (e | ⟨a, b, e⟩)
        · exact Or.inl e
        · by_cases z : g = i
          · subst z; exact absurd e c2
          · exact Or.inr ⟨by omega, by omega, e⟩
/-! the class: fields of a node, refusals -/
def fin (F : Int → Int) (x f : Int) : Bool := decide (F f ≠ -1 ∧ (x = -2 ∨ f = x ∨ isin F 8 (F f) x = true))
theorem cgEnds {F : Int → Int} (T : TV F) (C : CE F) {n : Int} (n0 : 0 ≤ n) (n1 : n < 32) (p : F n ≠ -1) : ends F 8 (F n) := by
  rcases T.grp n0 n1 p with z | z
  · rw [z]; exact Or.inl (by decide)
  · exact C _ (by omega) (by omega)
theorem caroundN {h : HP} {a : Nat} (S : FormAt h a) (T : TV (Fc h a)) (G : GC h a) (C : CE (Fc h a)) {x n : Int} (x1 : 0 ≤ x) (x2 : x < 2147483648) (n0 : 0 ≤ n) (n1 : n < 32) (p : Fc h a n ≠ -1) : fX0_isAround a (i32 x) (hI h 134 (a + 4 + n.toNat)) h = some (isin (Fc h a) 8 (Fc h a n) x) := by
  have t := T.grp n0 n1 p
  have cg := T.cg n0 n1 p
  have gg := gno_cgr (v := Fc h a n) (t.imp id fun z => ⟨z.1, z.2.1⟩)
  rw [G n n0 n1 p, caround S T G x1 x2 (by rw [gg]; exact cgEnds T C n0 n1 p) cg.1 cg.2 (by rw [gg]; exact t.imp id fun z => z.2.2), gg]
theorem cfieldsL {h : HP} {a : Nat} (S : FormAt h a) (T : TV (Fc h a)) (G : GC h a) (C : CE (Fc h a)) {x : Int} (hx : x = -2 ∨ (0 ≤ x ∧ x < 2147483648)) : ∀ (k n : Nat) (i : Int) (c : Int32), 0 ≤ i → i + k = 24 → k < n → lX0_fieldsOf_4 h n a (i32 x) c (i32 i) = some (fmk (fin (Fc h a) x) k i c) := by
  intro k
  induction k with
  | zero =>
    intro n i c i0 e hn
    obtain ⟨m, rfl⟩ : ∃ m, n = m + 1 := ⟨n - 1, by omega⟩
    rw [elX0_fieldsOf_4]; unfold bX0_fieldsOf_4
    simp (disch := omega) only [i32_le]
    rw [if_pos (by omega)]; rfl
  | succ k ih =>
    intro n i c i0 e hn
    obtain ⟨m, rfl⟩ : ∃ m, n = m + 1 := ⟨n - 1, by omega⟩
    rw [elX0_fieldsOf_4]; unfold bX0_fieldsOf_4 jX0_fieldsOf_46 jX0_fieldsOf_52
    simp (disch := omega) only [i32_le, S.o, gd_tt, cfind, bn_s, cfind S (show -2147483648 ≤ i by omega) (by omega), lt_e, i32_add, i32_eq]
    rw [if_neg (by omega)]
    simp only [fmk]
    by_cases p : Fc h a i = -1
    · have w : ¬ fin (Fc h a) x i = true := by unfold fin; simp [p]
      rw [fno_n (by omega), on_nn, if_neg w, ih m (i + 1) c (by omega) (by omega) (by omega)]
    · rw [fno_y i0 (by omega) p, on_sm]
      by_cases c1 : x = -2
      · have w : fin (Fc h a) x i = true := by unfold fin; simp [p, c1]
        rw [if_pos c1, if_pos w, ih m (i + 1) _ (by omega) (by omega) (by omega)]
      · rw [if_neg c1]
        by_cases c2 : i = x
        · have w : fin (Fc h a) x i = true := by unfold fin; simp [p, c2]; subst c2; exact p
          rw [if_pos c2, if_pos w, ih m (i + 1) _ (by omega) (by omega) (by omega)]
        · rw [if_neg c2]
          simp only [S.on (show i.toNat < 32 by omega), gd_tt, caroundN S T G C (show 0 ≤ x by omega) (show x < 2147483648 by omega) i0 (show i < 32 by omega) p, bn_s]
          by_cases c3 : isin (Fc h a) 8 (Fc h a i) x = true
          · have w : fin (Fc h a) x i = true := by unfold fin; simp [p, c3]
            rw [if_pos c3, if_pos w, ih m (i + 1) _ (by omega) (by omega) (by omega)]
          · have w : ¬ fin (Fc h a) x i = true := by unfold fin; simp [c1, c2, c3]
            rw [if_neg c3, if_neg w, ih m (i + 1) _ (by omega) (by omega) (by omega)]
theorem cfields {h : HP} {a : Nat} (S : FormAt h a) (T : TV (Fc h a)) (G : GC h a) (C : CE (Fc h a)) {x : Int} (hx : x = -2 ∨ (0 ≤ x ∧ x < 2147483648)) : fX0_fieldsOf a (i32 x) h = some (fmk (fin (Fc h a) x) 24 0 (i32 0)) := by
  unfold fX0_fieldsOf
  exact cfieldsL S T G C hx 24 FU 0 (i32 0) (by decide) (by decide) (by decide)
theorem fb_bt {f : Int} (h0 : 0 ≤ f) (h1 : f < 32) : bt (i32 16777215) f = decide (f < 24) := by
  have w : ∀ n : Fin 32, bt (i32 16777215) (n.val : Int) = decide ((n.val : Int) < 24) := by decide +kernel
  have := w ⟨f.toNat, by omega⟩
  rwa [show ((f.toNat : Nat) : Int) = f by omega] at this
/-- a field, and what it depends on -/
def rch (N : Int → Int32) (f : Int) : Int32 := (if 0 ≤ f ∧ f < 24 then i32 1 <<< (i32 f &&& 31) else i32 0) ||| cl N 24 (N f)
theorem or_cm (m n : Int32) : m ||| n = n ||| m := bt_ext fun i _ _ => by rw [bt_or, bt_or, Bool.or_comm]
theorem ite_ne {x z : Int32} {d : Decidable (x = z)} : @ite (Option Bool) (x = z) d (some false) (some true) = some (decide (x ≠ z)) := by
  by_cases c : x = z
  · rw [if_pos c]; simp [c]
  · rw [if_neg c]; simp [c]
theorem crefuses {h : HP} {a : Nat} (S : FormAt h a) (T : TV (Fc h a)) (G : GC h a) (C : CE (Fc h a)) {x f : Int} (hx : x = -2 ∨ (0 ≤ x ∧ x < 2147483648)) (f1 : -2147483648 ≤ f) (f2 : f < 2147483648) : fX0_refuses a (i32 x) (i32 f) h = some (decide (fmk (fin (Fc h a) x) 24 0 (i32 0) &&& rch (NE (Fc h a) (Rfc h a)) f ≠ i32 0)) := by
  unfold fX0_refuses jX0_refuses_21
  simp only [S.o, gd_tt, call S T G f1 f2, bn_s, chasBit f1 f2, lt_e, cfields S T G C hx, i32_z]
  have e : (0 ≤ f ∧ f < 32 ∧ bt (i32 16777215) f = true) ↔ (0 ≤ f ∧ f < 24) := by
    constructor
    · rintro ⟨p, q, r⟩; rw [fb_bt p q] at r; exact ⟨p, by simpa using r⟩
    · rintro ⟨p, q⟩; exact ⟨p, by omega, by rw [fb_bt p (by omega)]; simpa using q⟩
  unfold rch
  by_cases c : 0 ≤ f ∧ f < 24
  · rw [if_pos (decide_eq_true (e.mpr c)), if_pos c, or_cm, ite_ne]
  · rw [if_neg (by rw [decide_eq_true_eq, e]; exact c), if_neg c, or_cm, ite_ne]
theorem ccircL {h : HP} {a : Nat} (S : FormAt h a) (T : TV (Fc h a)) (G : GC h a) : ∀ (k n : Nat) (i : Int), 0 ≤ i → i + k = 24 → k < n → lX0_isCircular_2 h n a (i32 i) = some (anyf (fun f => bt (cl (NE (Fc h a) (Rfc h a)) 24 (NE (Fc h a) (Rfc h a) f)) f) k i) := by
  intro k
  induction k with
  | zero =>
    intro n i i0 e hn
    obtain ⟨m, rfl⟩ : ∃ m, n = m + 1 := ⟨n - 1, by omega⟩
    rw [elX0_isCircular_2]; unfold bX0_isCircular_2
    simp (disch := omega) only [i32_le]
    rw [if_pos (by omega)]; rfl
  | succ k ih =>
    intro n i i0 e hn
    obtain ⟨m, rfl⟩ : ∃ m, n = m + 1 := ⟨n - 1, by omega⟩
    rw [elX0_isCircular_2]; unfold bX0_isCircular_2
    simp (disch := omega) only [i32_le, S.o, gd_tt, call S T G (show -2147483648 ≤ i by omega) (by omega), bn_s, chasBit, lt_e, i32_add]
    rw [if_neg (by omega)]
    simp only [anyf]
    by_cases c : bt (cl (NE (Fc h a) (Rfc h a)) 24 (NE (Fc h a) (Rfc h a) i)) i = true
    · rw [if_pos (by simp [c]; omega), if_pos c]
    · rw [if_neg (by simp [c]), if_neg c, ih m (i + 1) (by omega) (by omega) (by omega)]
theorem ccirc {h : HP} {a : Nat} (S : FormAt h a) (T : TV (Fc h a)) (G : GC h a) : fX0_isCircular a h = some (anyf (fun f => bt (cl (NE (Fc h a) (Rfc h a)) 24 (NE (Fc h a) (Rfc h a) f)) f) 24 0) := by
  unfold fX0_isCircular
  exact ccircL S T G 24 FU 0 (by decide) (by decide) (by decide)
def ndo (F : Int → Int) (R : Int → Int32) (x : Int) (s : Int32) (n : Int) : Bool := decide (F n ≠ -1 ∧ n ≠ x ∧ isin F 8 (F n) x = false ∧ R n &&& s ≠ i32 0)
theorem cneededL {h : HP} {a : Nat} (S : FormAt h a) (T : TV (Fc h a)) (G : GC h a) (C : CE (Fc h a)) {x : Int} {s : Int32} (x1 : 0 ≤ x) (x2 : x < 32) : ∀ (k n : Nat) (i : Int), 0 ≤ i → i + k = 32 → k < n → lX0_isNeededOutside_2 h n a (i32 x) s (i32 i) = some (anyf (ndo (Fc h a) (Rfc h a) x s) k i) := by
  intro k
  induction k with
  | zero =>
    intro n i i0 e hn
    obtain ⟨m, rfl⟩ : ∃ m, n = m + 1 := ⟨n - 1, by omega⟩
    rw [elX0_isNeededOutside_2]; unfold bX0_isNeededOutside_2
    simp (disch := omega) only [i32_le]
    rw [if_pos (by omega)]; rfl
  | succ k ih =>
    intro n i i0 e hn
    obtain ⟨m, rfl⟩ : ∃ m, n = m + 1 := ⟨n - 1, by omega⟩
    rw [elX0_isNeededOutside_2]; unfold bX0_isNeededOutside_2 jX0_isNeededOutside_50
    simp (disch := omega) only [i32_z, i32_le, S.o, gd_tt, cfind S (show -2147483648 ≤ i by omega) (by omega), bn_s, lt_e, i32_add, i32_eq]
    rw [if_neg (by omega)]
    simp only [anyf]
    by_cases p : Fc h a i = -1
    · have w : ¬ ndo (Fc h a) (Rfc h a) x s i = true := by unfold ndo; simp [p]
      rw [fno_n (by omega), on_nn, if_neg w, ih m (i + 1) (by omega) (by omega) (by omega)]
    · rw [fno_y i0 (by omega) p, on_sm]
      by_cases c2 : i = x
      · have w : ¬ ndo (Fc h a) (Rfc h a) x s i = true := by unfold ndo; simp [c2]
        rw [if_pos c2, if_neg w, ih m (i + 1) (by omega) (by omega) (by omega)]
      · rw [if_neg c2]
        simp only [S.on (show i.toNat < 32 by omega), gd_tt, caroundN S T G C x1 (show x < 2147483648 by omega) i0 (show i < 32 by omega) p, bn_s]
        by_cases c3 : isin (Fc h a) 8 (Fc h a i) x = true
        · have w : ¬ ndo (Fc h a) (Rfc h a) x s i = true := by unfold ndo; simp [c3]
          rw [if_pos c3, if_neg w, ih m (i + 1) (by omega) (by omega) (by omega)]
        · rw [if_neg c3]
          have c3' : isin (Fc h a) 8 (Fc h a i) x = false := by simpa using c3
          by_cases c4 : hI h 137 (a + 4 + i.toNat) &&& s = i32 0
          · have w : ¬ ndo (Fc h a) (Rfc h a) x s i = true := by unfold ndo Rfc; simp [c4]
            rw [if_pos c4, if_neg w, ih m (i + 1) (by omega) (by omega) (by omega)]
          · have w : ndo (Fc h a) (Rfc h a) x s i = true := by unfold ndo Rfc; simp [c4, p, c2, c3']
            rw [if_neg c4, if_pos w]
theorem cneeded {h : HP} {a : Nat} (S : FormAt h a) (T : TV (Fc h a)) (G : GC h a) (C : CE (Fc h a)) {x : Int} {s : Int32} (x1 : 0 ≤ x) (x2 : x < 32) : fX0_isNeededOutside a (i32 x) s h = some (anyf (ndo (Fc h a) (Rfc h a) x s) 32 0) := by
  unfold fX0_isNeededOutside
  exact cneededL S T G C x1 x2 32 FU 0 (by decide) (by decide) (by decide)
/-- a field that can come next -/
def nxt (F : Int → Int) (N : Int → Int32) (s : Int32) (f : Int) : Bool := decide (F f ≠ -1 ∧ bt s f = false ∧ N f &&& (s ^^^ i32 (-1)) = i32 0)
theorem cnextL {h : HP} {a : Nat} (S : FormAt h a) (T : TV (Fc h a)) (G : GC h a) {s : Int32} : ∀ (k n : Nat) (i : Int), 0 ≤ i → i + k = 24 → k < n → lX0_nextField_2 h n a s (i32 i) = some (i32 (fst (nxt (Fc h a) (NE (Fc h a) (Rfc h a)) s) (-2) k i)) := by
  intro k
  induction k with
  | zero =>
    intro n i i0 e hn
    obtain ⟨m, rfl⟩ : ∃ m, n = m + 1 := ⟨n - 1, by omega⟩
    rw [elX0_nextField_2]; unfold bX0_nextField_2
    simp (disch := omega) only [i32_le]
    rw [if_pos (by omega)]; rfl
  | succ k ih =>
    intro n i i0 e hn
    obtain ⟨m, rfl⟩ : ∃ m, n = m + 1 := ⟨n - 1, by omega⟩
    rw [elX0_nextField_2]; unfold bX0_nextField_2 jX0_nextField_38
    simp (disch := omega) only [i32_z, i32_le, S.o, gd_tt, cfind S (show -2147483648 ≤ i by omega) (by omega), bn_s, lt_e, i32_add, chasBit, cneeds S T G (show -2147483648 ≤ i by omega) (by omega)]
    rw [if_neg (by omega)]
    simp only [fst]
    by_cases p : Fc h a i = -1
    · have w : ¬ nxt (Fc h a) (NE (Fc h a) (Rfc h a)) s i = true := by unfold nxt; simp [p]
      rw [fno_n (by omega), on_nn, if_neg w, ih m (i + 1) (by omega) (by omega) (by omega)]
    · rw [fno_y i0 (by omega) p, on_sm]
      by_cases c2 : bt s i = true
      · have w : ¬ nxt (Fc h a) (NE (Fc h a) (Rfc h a)) s i = true := by unfold nxt; simp [c2]
        rw [if_pos (by simp [c2]; omega), if_neg w, ih m (i + 1) (by omega) (by omega) (by omega)]
      · rw [if_neg (by simp [c2])]
        have c2' : bt s i = false := by simpa using c2
        by_cases c4 : NE (Fc h a) (Rfc h a) i &&& (s ^^^ i32 (-1)) = i32 0
        · have w : nxt (Fc h a) (NE (Fc h a) (Rfc h a)) s i = true := by unfold nxt; simp [c4, p, c2']
          rw [if_pos c4, if_pos w]
        · have w : ¬ nxt (Fc h a) (NE (Fc h a) (Rfc h a)) s i = true := by unfold nxt; simp [c4]
          rw [if_neg c4, if_neg w, ih m (i + 1) (by omega) (by omega) (by omega)]
theorem cnext {h : HP} {a : Nat} (S : FormAt h a) (T : TV (Fc h a)) (G : GC h a) {s : Int32} : fX0_nextField a s h = some (i32 (fst (nxt (Fc h a) (NE (Fc h a) (Rfc h a)) s) (-2) 24 0)) := by
  unfold fX0_nextField
  exact cnextL S T G 24 FU 0 (by decide) (by decide) (by decide)
theorem cnameL {h : HP} {a : Nat} (S : FormAt h a) {w : Int64} : ∀ (k n : Nat) (i : Int), 0 ≤ i → i + k = 32 → k < n → lX0_findName_2 h n a w (i32 i) = some (i32 (fst (fun n => decide (Fc h a n ≠ -1 ∧ hJ h 129 (a + 4 + n.toNat) = w)) (-2) k i)) := by
  intro k
  induction k with
  | zero =>
    intro n i i0 e hn
    obtain ⟨m, rfl⟩ : ∃ m, n = m + 1 := ⟨n - 1, by omega⟩
    rw [elX0_findName_2]; unfold bX0_findName_2
    simp (disch := omega) only [i32_le]
    rw [if_pos (by omega)]; rfl
  | succ k ih =>
    intro n i i0 e hn
    obtain ⟨m, rfl⟩ : ∃ m, n = m + 1 := ⟨n - 1, by omega⟩
    rw [elX0_findName_2]; unfold bX0_findName_2 jX0_findName_32
    simp (disch := omega) only [i32_le, S.o, gd_tt, cfind S (show -2147483648 ≤ i by omega) (by omega), bn_s, lt_e, i32_add]
    rw [if_neg (by omega)]
    simp only [fst]
    by_cases p : Fc h a i = -1
    · rw [fno_n (by omega), on_nn, if_neg (by simp [p]), ih m (i + 1) (by omega) (by omega) (by omega)]
    · rw [fno_y i0 (by omega) p, on_sm]
      simp only [S.on (show i.toNat < 32 by omega), gd_tt]
      by_cases c4 : hJ h 129 (a + 4 + i.toNat) = w
      · rw [if_pos c4, if_pos (by simp [p, c4])]
      · rw [if_neg c4, if_neg (by simp [c4]), ih m (i + 1) (by omega) (by omega) (by omega)]
theorem cname {h : HP} {a : Nat} (S : FormAt h a) {w : Int64} : fX0_findName a w h = some (i32 (fst (fun n => decide (Fc h a n ≠ -1 ∧ hJ h 129 (a + 4 + n.toNat) = w)) (-2) 32 0)) := by
  unfold fX0_findName
  exact cnameL S 32 FU 0 (by decide) (by decide) (by decide)
theorem ccondsL {h : HP} {a : Nat} (S : FormAt h a) : ∀ (k n : Nat) (c i : Int), 0 ≤ i → i + k = 32 → k < n → lX0_conditions_4 h n a (i32 c) (i32 i) = some (i32 (c + cnt (fun n => decide (Fc h a n ≠ -1 ∧ hR h 135 (a + 4 + n.toNat) ≠ none)) k i)) := by
  intro k
  induction k with
  | zero =>
    intro n c i i0 e hn
    obtain ⟨m, rfl⟩ : ∃ m, n = m + 1 := ⟨n - 1, by omega⟩
    rw [elX0_conditions_4]; unfold bX0_conditions_4
    simp (disch := omega) only [i32_le]
    rw [if_pos (by omega)]; simp [cnt]
  | succ k ih =>
    intro n c i i0 e hn
    obtain ⟨m, rfl⟩ : ∃ m, n = m + 1 := ⟨n - 1, by omega⟩
    rw [elX0_conditions_4]; unfold bX0_conditions_4 jX0_conditions_30
    simp (disch := omega) only [i32_le, S.o, gd_tt, cfind S (show -2147483648 ≤ i by omega) (by omega), bn_s, lt_e, i32_add]
    rw [if_neg (by omega)]
    simp only [cnt]
    by_cases p : Fc h a i = -1
    · rw [fno_n (by omega), on_nn, if_neg (by simp [p]), ih m _ (i + 1) (by omega) (by omega) (by omega), Int.zero_add]
    · rw [fno_y i0 (by omega) p, on_sm]
      simp only [S.on (show i.toNat < 32 by omega), gd_tt]
      by_cases c4 : hR h 135 (a + 4 + i.toNat) = none
      · rw [if_neg (by simp [c4]), c4, on_nn, ih m _ (i + 1) (by omega) (by omega) (by omega), Int.zero_add]
      · rw [if_pos (by simp [c4, p])]
        obtain ⟨t, ht⟩ := Option.ne_none_iff_exists'.mp c4
        rw [ht, on_sm, ih m _ (i + 1) (by omega) (by omega) (by omega), Int.add_assoc]
theorem cconds {h : HP} {a : Nat} (S : FormAt h a) : fX0_conditions a h = some (i32 (cnt (fun n => decide (Fc h a n ≠ -1 ∧ hR h 135 (a + 4 + n.toNat) ≠ none)) 32 0)) := by
  unfold fX0_conditions
  rw [ccondsL S 32 FU 0 0 (by decide) (by decide) (by decide), Int.zero_add]
