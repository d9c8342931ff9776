/-! HOW MANY BITS -/
theorem and_split {a b c d k : Nat} (ha : a < 2 ^ k) (hc : c < 2 ^ k) : (2 ^ k * b + a) &&& (2 ^ k * d + c) = 2 ^ k * (b &&& d) + (a &&& c) := by
  apply Nat.eq_of_testBit_eq
  intro j
  have hac : a &&& c < 2 ^ k := Nat.lt_of_le_of_lt Nat.and_le_left ha
  rw [Nat.testBit_and, Nat.testBit_two_pow_mul_add _ ha, Nat.testBit_two_pow_mul_add _ hc, Nat.testBit_two_pow_mul_add _ hac]
  split
  · rw [Nat.testBit_and]
  · rw [Nat.testBit_and]
def un (x : Int32) : Nat := x.toUInt32.toNat
theorem un_lt (x : Int32) : un x < 4294967296 := x.toUInt32.toNat_lt
theorem un_add (a b : Int32) : un (a + b) = (un a + un b) % 4294967296 := by
  unfold un; rw [Int32.toUInt32_add, UInt32.toNat_add]
theorem un_sub (a b : Int32) : un (a - b) = (4294967296 - un b + un a) % 4294967296 := by
  unfold un; rw [Int32.toUInt32_sub, UInt32.toNat_sub]
theorem un_and (a b : Int32) : un (a &&& b) = un a &&& un b := by
  unfold un; rw [Int32.toUInt32_and, UInt32.toNat_and]
theorem un_shr (a : Int32) {f : Int} (h0 : 0 ≤ f) (h1 : f < 32) : un ((a.toUInt32 >>> ((i32 f).toUInt32 &&& Int32.toUInt32 31)).toInt32) = un a / 2 ^ f.toNat := by
  have w : ∀ n : Fin 32, ((i32 (n.val : Int)).toUInt32 &&& Int32.toUInt32 31).toNat = n.val := by decide +kernel
  have w1 := w ⟨f.toNat, by omega⟩
  simp only [show ((f.toNat : Nat) : Int) = f by omega] at w1
  unfold un
  rw [show ((a.toUInt32 >>> ((i32 f).toUInt32 &&& Int32.toUInt32 31)).toInt32).toUInt32 = a.toUInt32 >>> ((i32 f).toUInt32 &&& Int32.toUInt32 31) from rfl, UInt32.toNat_shiftRight, w1, Nat.mod_eq_of_lt (show f.toNat < 32 by omega), Nat.shiftRight_eq_div_pow]
/-- four bytes -/
def by4 (a b c d : Nat) : Nat := 2 ^ 8 * (2 ^ 8 * (2 ^ 8 * d + c) + b) + a
theorem by4_and {a b c d p q r s : Nat} (ha : a < 256) (hb : b < 256) (hc : c < 256) (hp : p < 256) (hq : q < 256) (hr : r < 256) : by4 a b c d &&& by4 p q r s = by4 (a &&& p) (b &&& q) (c &&& r) (d &&& s) := by
  unfold by4
  rw [and_split (k := 8) ha hp, and_split (k := 8) hb hq, and_split (k := 8) hc hr]
def pop (b : Nat) : Nat := b % 2 + b / 2 % 2 + b / 4 % 2 + b / 8 % 2 + b / 16 % 2 + b / 32 % 2 + b / 64 % 2 + b / 128 % 2
theorem pop1 : ∀ (b : Fin 256) (x : Fin 2), (b.val / 2 + 128 * x.val) &&& 85 = (b.val / 2) &&& 85 := by decide +kernel
theorem pop2 : ∀ (b : Fin 256) (x : Fin 4), (b.val / 4 + 64 * x.val) &&& 51 = (b.val / 4) &&& 51 := by decide +kernel
theorem pop3 : ∀ b : Fin 256, (b.val / 2) &&& 85 ≤ b.val := by decide +kernel
def pp1 (b : Nat) : Nat := b - ((b / 2) &&& 85)
def pp2 (b : Nat) : Nat := (pp1 b &&& 51) + ((pp1 b / 4) &&& 51)
theorem pop4 : ∀ b : Fin 256, pp2 b.val < 72 ∧ pp2 b.val % 16 ≤ 4 ∧ pp2 b.val / 16 ≤ 4 ∧ pp2 b.val % 16 + pp2 b.val / 16 = pop b.val := by decide +kernel
theorem and_15 : ∀ b : Fin 256, b.val &&& 15 = b.val % 16 := by decide +kernel
theorem and_63 : ∀ b : Fin 256, b.val &&& 63 = b.val % 64 := by decide +kernel
theorem by4_add (a b c d p q r s : Nat) : by4 a b c d + by4 p q r s = by4 (a + p) (b + q) (c + r) (d + s) := by unfold by4; omega
theorem by4_sub {a b c d p q r s : Nat} (h1 : p ≤ a) (h2 : q ≤ b) (h3 : r ≤ c) (h4 : s ≤ d) : by4 a b c d - by4 p q r s = by4 (a - p) (b - q) (c - r) (d - s) := by unfold by4; omega
theorem by4_lt {a b c d : Nat} (h1 : a < 256) (h2 : b < 256) (h3 : c < 256) (h4 : d < 256) : by4 a b c d < 4294967296 := by unfold by4; omega
theorem dv2 (X a : Nat) : (2 ^ 8 * X + a) / 2 = 2 ^ 8 * (X / 2) + (a / 2 + 128 * (X % 2)) := by omega
theorem dm2 (X a : Nat) : (2 ^ 8 * X + a) % 2 = a % 2 := by omega
theorem dv4 (X a : Nat) : (2 ^ 8 * X + a) / 4 = 2 ^ 8 * (X / 4) + (a / 4 + 64 * (X % 4)) := by omega
theorem dm4 (X a : Nat) : (2 ^ 8 * X + a) % 4 = a % 4 := by omega
theorem dv16 (X a : Nat) : (2 ^ 8 * X + a) / 16 = 2 ^ 8 * (X / 16) + (a / 16 + 16 * (X % 16)) := by omega
theorem dm16 (X a : Nat) : (2 ^ 8 * X + a) % 16 = a % 16 := by omega
theorem dv256 {X a : Nat} (h : a < 256) : (2 ^ 8 * X + a) / 256 = X := by omega
theorem by4_2 (a b c d : Nat) : by4 a b c d / 2 = by4 (a / 2 + 128 * (b % 2)) (b / 2 + 128 * (c % 2)) (c / 2 + 128 * (d % 2)) (d / 2) := by unfold by4; rw [dv2, dv2, dv2, dm2, dm2]
theorem by4_4 (a b c d : Nat) : by4 a b c d / 4 = by4 (a / 4 + 64 * (b % 4)) (b / 4 + 64 * (c % 4)) (c / 4 + 64 * (d % 4)) (d / 4) := by unfold by4; rw [dv4, dv4, dv4, dm4, dm4]
theorem by4_16 (a b c d : Nat) : by4 a b c d / 16 = by4 (a / 16 + 16 * (b % 16)) (b / 16 + 16 * (c % 16)) (c / 16 + 16 * (d % 16)) (d / 16) := by unfold by4; rw [dv16, dv16, dv16, dm16, dm16]
theorem by4_8 {a b c d : Nat} (h : a < 256) : by4 a b c d / 256 = by4 b c d 0 := by unfold by4; rw [dv256 h, Nat.mul_zero, Nat.zero_add]
theorem by4_w {a b c d : Nat} (h1 : a < 256) (h2 : b < 256) : by4 a b c d / 65536 = by4 c d 0 0 := by
  rw [show 65536 = 256 * 256 from rfl, ← Nat.div_div_eq_div_mul, by4_8 h1, by4_8 h2]
theorem bitCount_un (m : Int32) {a b c d : Nat} (ha : a < 256) (hb : b < 256) (hc : c < 256) (hd : d < 256) (e : un m = by4 a b c d) (h : HP) : ∃ r, fJ6_bitCount_0f7a4 m h = some r ∧ un r = pop a + pop b + pop c + pop d := by
  have p3 : ∀ x, x < 256 → (x / 2) &&& 85 ≤ x := fun x hx => pop3 ⟨x, hx⟩
  have l1 : ∀ x, x < 256 → pp1 x < 256 := fun x hx => by unfold pp1; omega
  have q4 : ∀ x, x < 256 → pp2 x < 72 ∧ pp2 x % 16 ≤ 4 ∧ pp2 x / 16 ≤ 4 ∧ pp2 x % 16 + pp2 x / 16 = pop x := fun x hx => pop4 ⟨x, hx⟩
  have w1 : ∀ x y, x < 256 → (x / 2 + 128 * (y % 2)) &&& 85 = (x / 2) &&& 85 := fun x y hx => pop1 ⟨x, hx⟩ ⟨y % 2, Nat.mod_lt _ (by decide)⟩
  have w2 : ∀ x y, x < 256 → (x / 4 + 64 * (y % 4)) &&& 51 = (x / 4) &&& 51 := fun x y hx => pop2 ⟨x, hx⟩ ⟨y % 4, Nat.mod_lt _ (by decide)⟩
  have f15 : ∀ x, x < 256 → x &&& 15 = x % 16 := fun x hx => and_15 ⟨x, hx⟩
  have f63 : ∀ x, x < 256 → x &&& 63 = x % 64 := fun x hx => and_63 ⟨x, hx⟩
  have la := l1 a ha
  have lb := l1 b hb
  have lc := l1 c hc
  have ld := l1 d hd
  obtain ⟨ra1, ra2, ra3, ra4⟩ := q4 a ha
  obtain ⟨rb1, rb2, rb3, rb4⟩ := q4 b hb
  obtain ⟨rc1, rc2, rc3, rc4⟩ := q4 c hc
  obtain ⟨rd1, rd2, rd3, rd4⟩ := q4 d hd
  obtain ⟨v1, e1⟩ : ∃ v, v = m - ((m.toUInt32 >>> ((i32 1).toUInt32 &&& Int32.toUInt32 31)).toInt32 &&& i32 1431655765) := ⟨_, rfl⟩
  have u1 : un v1 = by4 (pp1 a) (pp1 b) (pp1 c) (pp1 d) := by
    have s : un m / 2 ^ (1 : Int).toNat = by4 (a / 2 + 128 * (b % 2)) (b / 2 + 128 * (c % 2)) (c / 2 + 128 * (d % 2)) (d / 2) := by
      rw [e, show 2 ^ (1 : Int).toNat = 2 from rfl, by4_2]
    have lt := by4_lt ha hb hc hd
    rw [e1, un_sub, un_and, un_shr m (by decide) (by decide), s, show un (i32 1431655765) = by4 85 85 85 85 from by decide +kernel, by4_and (by omega) (by omega) (by omega) (by decide) (by decide) (by decide), w1 a b ha, w1 b c hb, w1 c d hc, e]
    have le := p3 a ha
    have le' := p3 b hb
    have le'' := p3 c hc
    have le3 := p3 d hd
    have sb := by4_sub le le' le'' le3
    have mo := Nat.mod_eq_of_lt (by4_lt la lb lc ld)
    have ge : by4 (a / 2 &&& 85) (b / 2 &&& 85) (c / 2 &&& 85) (d / 2 &&& 85) ≤ by4 a b c d := by unfold by4; omega
    rw [show 4294967296 - by4 (a / 2 &&& 85) (b / 2 &&& 85) (c / 2 &&& 85) (d / 2 &&& 85) + by4 a b c d = 4294967296 + (by4 a b c d - by4 (a / 2 &&& 85) (b / 2 &&& 85) (c / 2 &&& 85) (d / 2 &&& 85)) by omega, sb, Nat.add_mod_left]
    exact mo
  obtain ⟨v2, e2⟩ : ∃ v, v = (v1 &&& i32 858993459) + ((v1.toUInt32 >>> ((i32 2).toUInt32 &&& Int32.toUInt32 31)).toInt32 &&& i32 858993459) := ⟨_, rfl⟩
  have u2 : un v2 = by4 (pp2 a) (pp2 b) (pp2 c) (pp2 d) := by
    have s : un v1 / 2 ^ (2 : Int).toNat = by4 (pp1 a / 4 + 64 * (pp1 b % 4)) (pp1 b / 4 + 64 * (pp1 c % 4)) (pp1 c / 4 + 64 * (pp1 d % 4)) (pp1 d / 4) := by
      rw [u1, show 2 ^ (2 : Int).toNat = 4 from rfl, by4_4]
    rw [e2, un_add, un_and, un_and, un_shr v1 (by decide) (by decide), s, u1, show un (i32 858993459) = by4 51 51 51 51 from by decide +kernel, by4_and la lb lc (by decide) (by decide) (by decide), by4_and (by omega) (by omega) (by omega) (by decide) (by decide) (by decide), w2 _ (pp1 b) la, w2 _ (pp1 c) lb, w2 _ (pp1 d) lc, by4_add]
    exact Nat.mod_eq_of_lt (by4_lt (Nat.lt_trans ra1 (by decide)) (Nat.lt_trans rb1 (by decide)) (Nat.lt_trans rc1 (by decide)) (Nat.lt_trans rd1 (by decide)))
  obtain ⟨v3, e3⟩ : ∃ v, v = (v2 + (v2.toUInt32 >>> ((i32 4).toUInt32 &&& Int32.toUInt32 31)).toInt32) &&& i32 252645135 := ⟨_, rfl⟩
  generalize pp2 a = A at *
  generalize pp2 b = B at *
  generalize pp2 c = C at *
  generalize pp2 d = D at *
  generalize pop a = PA at *
  generalize pop b = PB at *
  generalize pop c = PC at *
  generalize pop d = PD at *
  clear w1 w2 q4 l1 p3 la lb lc ld u1 e
  have z1 : A / 16 + 16 * (B % 16) ≤ 68 := by omega
  have z2 : B / 16 + 16 * (C % 16) ≤ 68 := by omega
  have z3 : C / 16 + 16 * (D % 16) ≤ 68 := by omega
  have m1 : (A + (A / 16 + 16 * (B % 16))) % 16 = PA := by
    rw [← Nat.add_assoc, Nat.add_mul_mod_self_left]; omega
  have m2 : (B + (B / 16 + 16 * (C % 16))) % 16 = PB := by
    rw [← Nat.add_assoc, Nat.add_mul_mod_self_left]; omega
  have m3 : (C + (C / 16 + 16 * (D % 16))) % 16 = PC := by
    rw [← Nat.add_assoc, Nat.add_mul_mod_self_left]; omega
  have m4 : (D + D / 16) % 16 = PD := by omega
  have k1 : PA ≤ 8 := by omega
  have k2 : PB ≤ 8 := by omega
  have k3 : PC ≤ 8 := by omega
  have k4 : PD ≤ 8 := by omega
  have u3 : un v3 = by4 PA PB PC PD := by
    have s : (un v2 + un v2 / 2 ^ (4 : Int).toNat) % 4294967296 = by4 (A + (A / 16 + 16 * (B % 16))) (B + (B / 16 + 16 * (C % 16))) (C + (C / 16 + 16 * (D % 16))) (D + D / 16) := by
      rw [u2, show 2 ^ (4 : Int).toNat = 16 from rfl, by4_16, by4_add]
      exact Nat.mod_eq_of_lt (by4_lt (by omega) (by omega) (by omega) (by omega))
    rw [e3, un_and, un_add, un_shr v2 (by decide) (by decide), s, show un (i32 252645135) = by4 15 15 15 15 from by decide +kernel, by4_and (by omega) (by omega) (by omega) (by decide) (by decide) (by decide), f15 _ (by omega), f15 _ (by omega), f15 _ (by omega), f15 _ (by omega), m1, m2, m3, m4]
  obtain ⟨v4, e4⟩ : ∃ v, v = v3 + (v3.toUInt32 >>> ((i32 8).toUInt32 &&& Int32.toUInt32 31)).toInt32 := ⟨_, rfl⟩
  clear z1 z2 z3 m1 m2 m3 m4 ra1 ra2 ra3 ra4 rb1 rb2 rb3 rb4 rc1 rc2 rc3 rc4 rd1 rd2 rd3 rd4
  have u4 : un v4 = by4 (PA + PB) (PB + PC) (PC + PD) (PD + 0) := by
    rw [e4, un_add, un_shr v3 (by decide) (by decide), u3, show 2 ^ (8 : Int).toNat = 256 from rfl, by4_8 (by omega), by4_add]
    exact Nat.mod_eq_of_lt (by4_lt (by omega) (by omega) (by omega) (by omega))
  obtain ⟨v5, e5⟩ : ∃ v, v = v4 + (v4.toUInt32 >>> ((i32 16).toUInt32 &&& Int32.toUInt32 31)).toInt32 := ⟨_, rfl⟩
  have u5 : un v5 = by4 (PA + PB + (PC + PD)) (PB + PC + (PD + 0)) (PC + PD + 0) (PD + 0 + 0) := by
    rw [e5, un_add, un_shr v4 (by decide) (by decide), u4, show 2 ^ (16 : Int).toNat = 65536 from rfl, by4_w (by omega) (by omega), by4_add]
    exact Nat.mod_eq_of_lt (by4_lt (by omega) (by omega) (by omega) (by omega))
  refine ⟨v5 &&& i32 63, ?_, ?_⟩
  · unfold fJ6_bitCount_0f7a4
    subst e5 e4 e3 e2 e1
    rfl
  · rw [un_and, u5, show un (i32 63) = by4 63 0 0 0 from by decide +kernel, by4_and (by omega) (by omega) (by omega) (by decide) (by decide) (by decide), Nat.and_zero, Nat.and_zero, Nat.and_zero, f63 _ (by omega), Nat.mod_eq_of_lt (by omega)]
    unfold by4
    omega
theorem cnt_add (p : Int → Bool) (l : Nat) : ∀ (k : Nat) (i : Int), cnt p (k + l) i = cnt p k i + cnt p l (i + k) := by
  intro k
  induction k with
  | zero => intro i; rw [Nat.zero_add]; simp [cnt]
  | succ k ih =>
    intro i
    rw [Nat.succ_add]
    simp only [cnt]
    rw [ih, show i + 1 + (k : Int) = i + ((k + 1 : Nat) : Int) by omega, Int.add_assoc]
theorem cnt_shift (q : Int → Bool) (s : Int) : ∀ (k : Nat) (i : Int), cnt (fun z => q (z - s)) k (i + s) = cnt q k i := by
  intro k
  induction k with
  | zero => intro i; rfl
  | succ k ih =>
    intro i
    simp only [cnt]
    rw [show i + s + 1 = i + 1 + s by omega, ih]
    simp only [show i + s - s = i from by omega]
theorem cnt_pop : ∀ x : Fin 256, cnt (fun z => x.val.testBit z.toNat) 8 0 = pop x.val := by decide +kernel
theorem cnt8 {p : Int → Bool} {x : Nat} (hx : x < 256) (i : Int) (h : ∀ j : Nat, j < 8 → p (i + j) = x.testBit j) : cnt p 8 i = pop x := by
  rw [← cnt_pop ⟨x, hx⟩, ← cnt_shift _ i 8 0, Int.zero_add]
  refine cnt_congr 8 i fun j j0 j1 => ?_
  have := h (j - i).toNat (by omega)
  rwa [show i + ((j - i).toNat : Int) = j by omega] at this
theorem bt_un (m : Int32) (i : Int) : bt m i = (un m).testBit i.toNat := rfl
theorem pop_le (x : Nat) : pop x ≤ 8 := by unfold pop; omega
theorem un_inj {a b : Int32} (h : un a = un b) : a = b := by
  exact Int32.toBitVec_inj.mp (BitVec.eq_of_toNat_eq h)
theorem un_i32 {a : Int} (h0 : 0 ≤ a) (h1 : a < 2147483648) : un (i32 a) = a.toNat := by
  have e : (i32 a).toInt = a := i32_toInt (by omega) h1
  have := Int32.toInt_toBitVec (i32 a)
  unfold un
  show (i32 a).toBitVec.toNat = _
  rw [e, BitVec.toInt_eq_toNat_cond] at this
  have l := (i32 a).toBitVec.isLt
  split at this <;> omega
theorem bitCount_s (m : Int32) (h : HP) : fJ6_bitCount_0f7a4 m h = some (i32 (cnt (bt m) 32 0)) := by
  have l := un_lt m
  have e : un m = by4 (un m % 256) (un m / 256 % 256) (un m / 256 / 256 % 256) (un m / 256 / 256 / 256) := by unfold by4; omega
  have hd : un m / 256 / 256 / 256 < 256 := by omega
  obtain ⟨r, e1, e2⟩ := bitCount_un m (Nat.mod_lt _ (by decide)) (Nat.mod_lt _ (by decide)) (Nat.mod_lt _ (by decide)) hd e h
  have tb : ∀ (n k j : Nat), j < 8 → (n / 256 ^ k % 256).testBit j = n.testBit (8 * k + j) := fun n k j hj => by
    rw [show 256 = 2 ^ 8 from rfl, Nat.testBit_mod_two_pow, ← Nat.pow_mul, Nat.testBit_div_two_pow, decide_eq_true hj, Bool.true_and, Nat.add_comm]
  have c0 : cnt (bt m) 8 0 = pop (un m % 256) := cnt8 (Nat.mod_lt _ (by decide)) 0 fun j hj => by
    have := tb (un m) 0 j hj
    rw [Nat.pow_zero, Nat.div_one] at this
    rw [bt_un, this]; congr 1 <;> omega
  have c1 : cnt (bt m) 8 8 = pop (un m / 256 % 256) := cnt8 (Nat.mod_lt _ (by decide)) 8 fun j hj => by
    have := tb (un m) 1 j hj
    rw [Nat.pow_one] at this
    rw [bt_un, this]; congr 1 <;> omega
  have c2 : cnt (bt m) 8 16 = pop (un m / 256 / 256 % 256) := cnt8 (Nat.mod_lt _ (by decide)) 16 fun j hj => by
    have := tb (un m) 2 j hj
    rw [Nat.pow_succ, Nat.pow_one, ← Nat.div_div_eq_div_mul] at this
    rw [bt_un, this]; congr 1 <;> omega
  have c3 : cnt (bt m) 8 24 = pop (un m / 256 / 256 / 256) := cnt8 hd 24 fun j hj => by
    have := tb (un m) 3 j hj
    rw [Nat.pow_succ, Nat.pow_succ, Nat.pow_one, ← Nat.div_div_eq_div_mul, ← Nat.div_div_eq_div_mul, Nat.mod_eq_of_lt hd] at this
    rw [bt_un, this]; congr 1 <;> omega
  have ct : cnt (bt m) 32 0 = (pop (un m % 256) + pop (un m / 256 % 256) + pop (un m / 256 / 256 % 256) + pop (un m / 256 / 256 / 256) : Nat) := by
    rw [show (32 : Nat) = 8 + (8 + (8 + 8)) from rfl, cnt_add, cnt_add, cnt_add, c0, show (0 : Int) + (8 : Nat) = 8 from rfl, c1, show (8 : Int) + (8 : Nat) = 16 from rfl, c2, show (16 : Int) + (8 : Nat) = 24 from rfl, c3]
    omega
  rw [e1]
  congr 1
  apply un_inj
  have p0 := pop_le (un m % 256)
  have p1 := pop_le (un m / 256 % 256)
  have p2 := pop_le (un m / 256 / 256 % 256)
  have p3 := pop_le (un m / 256 / 256 / 256)
  rw [e2, ct, un_i32 (by omega) (by omega)]
  omega
/-- a mask of the fields, counted -/
theorem bitCount_fmk (q : Int → Bool) (h : HP) : fJ6_bitCount_0f7a4 (fmk q 24 0 (i32 0)) h = some (i32 (cnt q 24 0)) := by
  rw [bitCount_s, show (32 : Nat) = 24 + 8 from rfl, cnt_add]
  have b : ∀ g, 0 ≤ g → g < 32 → bt (fmk q 24 0 (i32 0)) g = decide (g < 24 ∧ q g = true) := fun g g0 g1 => by
    have := fmk_bt (q := q) g0 g1 24 0 (i32 0) (by omega) (by omega)
    rw [bt_0] at this
    by_cases z : g < 24 ∧ q g = true
    · rw [decide_eq_true z, this.mpr (Or.inr ⟨g0, by omega, z.2⟩)]
    · rw [decide_eq_false z]
      cases w : bt (fmk q 24 0 (i32 0)) g with
      | false => rfl
      | true =>
        rcases this.mp w with y | y
        · cases y
        · exact absurd ⟨by omega, y.2.2⟩ z
  have e1 : cnt (bt (fmk q 24 0 (i32 0))) 24 0 = cnt q 24 0 := cnt_congr 24 0 fun j j0 j1 => by
    rw [b j j0 (by omega)]
    cases w : q j with
    | false => exact decide_eq_false (fun z => by cases z.2)
    | true => exact decide_eq_true ⟨by omega, rfl⟩
  have e2 : cnt (bt (fmk q 24 0 (i32 0))) 8 (0 + (24 : Nat)) = cnt (fun _ => false) 8 (0 + (24 : Nat)) := cnt_congr 8 _ fun j j0 j1 => by
    rw [b j (by omega) (by omega)]; exact decide_eq_false (fun z => by omega)
  rw [e1, e2]
  congr 2
  have : cnt (fun _ => false) 8 (0 + (24 : Nat)) = 0 := by decide
  omega
