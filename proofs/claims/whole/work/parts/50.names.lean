/-! NAMES OUT OF LETTERS -/
theorem wb_sar {n k : Nat} (hn : n < 2 ^ 63) (hk : k < 64) : lN n >>> ((nI k).toInt64 &&& 63) = lN (n / 2 ^ k) := by
  rw [wb_c k hk]
  apply wb_inj
  rw [Int64.toBitVec_shiftRight, wb_tb, wb_tb, wb_tb, wb_sm k hk, BitVec.sshiftRight_eq', BitVec.toNat_ofNat, Nat.mod_eq_of_lt (show k < 2 ^ 64 by omega), BitVec.sshiftRight_eq_of_msb_false (by rw [BitVec.msb_eq_false_iff_two_mul_lt, BitVec.toNat_ofNat, Nat.mod_eq_of_lt (by omega)]; omega)]
  apply BitVec.eq_of_toNat_eq
  rw [BitVec.toNat_ushiftRight, BitVec.toNat_ofNat, BitVec.toNat_ofNat, Nat.mod_eq_of_lt (show n < 2 ^ 64 by omega), Nat.shiftRight_eq_div_pow, Nat.mod_eq_of_lt (Nat.lt_of_le_of_lt (Nat.div_le_self _ _) (by omega))]
theorem i32_sar {a : Int} (h1 : -2147483648 ≤ a) (h2 : a < 2147483648) {s : Nat} (hs : s < 32) : i32 a >>> (i32 (s : Int) &&& 31) = i32 (a / 2 ^ s) := by
  have w : ∀ n : Fin 32, (i32 (n.val : Int)).toBitVec.smod 32 = BitVec.ofNat 32 n.val := by decide +kernel
  have w1 := w ⟨s, hs⟩
  simp only at w1
  have p : (0 : Int) < 2 ^ s := Int.pow_pos (by decide)
  rw [i32_31 (by omega) (by omega), ← i32_eta (i32 a >>> i32 (s : Int)), ← Int32.toInt_toBitVec, Int32.toBitVec_shiftRight, w1, BitVec.sshiftRight_eq', BitVec.toNat_ofNat, Nat.mod_eq_of_lt (show s < 2 ^ 32 by omega), BitVec.toInt_sshiftRight, Int32.toInt_toBitVec, i32_toInt h1 h2, Int.shiftRight_eq_div_pow]
  rfl
theorem p2_5 (k : Nat) : (2 : Nat) ^ (5 * k) = 32 ^ k := by rw [Nat.pow_mul]
/-- the i-th group of five bits from below -/
def grp5 (a : Nat) (k : Nat) : Nat := a / 32 ^ k % 32
theorem shr5 {a k : Nat} (ha : a < 2147483648) (hk : k < 6) : (i32 (a : Int) >>> (i32 (5 * (k : Int)) &&& 31)) &&& i32 31 = i32 (grp5 a k : Nat) := by
  have e := i32_sar (a := (a : Int)) (by omega) (by omega) (s := 5 * k) (by omega)
  rw [show ((5 * k : Nat) : Int) = 5 * (k : Int) by omega] at e
  have d : (a : Int) / 2 ^ (5 * k) = ((a / 32 ^ k : Nat) : Int) := by rw [← p2_5]; rfl
  unfold grp5
  have xl : a / 32 ^ k ≤ a := Nat.div_le_self _ _
  rw [e, d]
  generalize a / 32 ^ k = x at xl
  rw [i32_nI (by omega), show ((x : Nat) : Int).toNat = x from rfl, pk_andN (by omega) 5 (by decide), i32_nI (by omega)]
  rfl
def ngood (a : Nat) : Nat → Bool → Bool
  | 0, _ => true
  | k + 1, e => decide (grp5 a k ≤ 26) && ((!e || decide (grp5 a k = 0)) && ngood a k (decide (grp5 a k = 0)))
theorem ngood_s (a k : Nat) (e : Bool) : ngood a (k + 1) e = (decide (grp5 a k ≤ 26) && ((!e || decide (grp5 a k = 0)) && ngood a k (decide (grp5 a k = 0)))) := rfl
def nwv (a : Nat) : Nat → Int → Int
  | 0, w => w
  | k + 1, w => nwv a k (if grp5 a k = 0 then w else 32 * w + (grp5 a k : Nat))
theorem cname_l {h : HP} {a : Nat} (ha : a < 1073741824) : ∀ (k n : Nat) (e : Bool), k ≤ 6 → k < n → lX10_nameOf_18 h n (i32 a) e (i32 (5 * (k : Int) - 5)) = some (i64 (if ngood a k e = true then (a : Int) * 1024 else 0)) := by
  intro k
  induction k with
  | zero =>
    intro n e _ hn
    obtain ⟨m, rfl⟩ : ∃ m, n = m + 1 := ⟨n - 1, by omega⟩
    have g : ngood a 0 e = true := rfl
    rw [elX10_nameOf_18]; unfold bX10_nameOf_18
    rw [if_pos (by rw [i32_z, i32_lt (by omega) (by omega) (by omega) (by omega)]; omega), if_pos g, i32_64 (by omega) (by omega), i64_nn (by omega), show (i32 10) = nI 10 from rfl, wb_shl _ (by omega), i64_nn (by omega)]
    congr 2
  | succ k ih =>
    intro n e hk hn
    obtain ⟨m, rfl⟩ : ∃ m, n = m + 1 := ⟨n - 1, by omega⟩
    have gl : grp5 a k < 32 := Nat.mod_lt _ (by decide)
    rw [elX10_nameOf_18]; unfold bX10_nameOf_18
    rw [if_neg (by rw [i32_z, i32_lt (by omega) (by omega) (by omega) (by omega)]; omega), show 5 * ((k + 1 : Nat) : Int) - 5 = 5 * (k : Int) by omega, shr5 (by omega) (by omega), lt_e]
    have j45 : jX10_nameOf_45 h (fun v0 v1 v2 => lX10_nameOf_18 h m v0 v1 v2) (i32 a) (i32 (5 * (k : Int))) (i32 (grp5 a k : Nat)) = some (i64 (if ngood a k (decide (grp5 a k = 0)) = true then (a : Int) * 1024 else 0)) := by
      unfold jX10_nameOf_45 jX10_nameOf_54
      rw [i32_z]
      by_cases z : grp5 a k = 0
      · rw [if_pos (by rw [z]; rfl), lt_e, i32_add, decide_eq_true z]
        exact ih m true (by omega) (by omega)
      · rw [if_neg (by rw [i32_eq (by omega) (by omega) (by omega) (by omega)]; omega), lt_e, i32_add, decide_eq_false z]
        exact ih m false (by omega) (by omega)
    by_cases c : 26 < grp5 a k
    · have g : ngood a (k + 1) e = false := by rw [ngood_s, decide_eq_false (show ¬ grp5 a k ≤ 26 by omega), Bool.false_and]
      rw [g, if_pos (by rw [i32_lt (by omega) (by omega) (by omega) (by omega)]; omega), if_neg (by decide)]
    rw [if_neg (by rw [i32_lt (by omega) (by omega) (by omega) (by omega)]; omega), i32_z]
    cases e with
    | false =>
      have g : ngood a (k + 1) false = ngood a k (decide (grp5 a k = 0)) := by rw [ngood_s, decide_eq_true (show grp5 a k ≤ 26 by omega), Bool.true_and, Bool.not_false, Bool.true_or, Bool.true_and]
      rw [if_neg (by decide), j45, g]
    | true =>
      rw [if_pos rfl]
      by_cases z : grp5 a k = 0
      · have g : ngood a (k + 1) true = ngood a k (decide (grp5 a k = 0)) := by rw [ngood_s, decide_eq_true (show grp5 a k ≤ 26 by omega), Bool.true_and, Bool.not_true, Bool.false_or, decide_eq_true z, Bool.true_and]
        rw [if_pos (by rw [z]; rfl), j45, g]
      · have g : ngood a (k + 1) true = false := by rw [ngood_s, decide_eq_true (show grp5 a k ≤ 26 by omega), Bool.true_and, Bool.not_true, Bool.false_or, decide_eq_false z, Bool.false_and]
        rw [if_neg (by rw [i32_eq (by omega) (by omega) (by omega) (by omega)]; omega), g, if_neg (by decide)]
theorem mname_l {h : HP} {a : Nat} (ha : a < 2147483648) : ∀ (k n : Nat) (e f : Bool) (w : Int), k ≤ 6 → k < n → 0 ≤ w → w < 32 ^ (6 - k) → lX11_nameOf_29 h (fun w101 w102 => if w102 = true then some w101 else some (i64 0)) n (i32 a) (i64 w) (bI e) f (i32 (5 * (k : Int) - 5)) = some (i64 (if f = true ∧ ngood a k e = true then nwv a k w else 0)) := by
  intro k
  induction k with
  | zero =>
    intro n e f w _ hn w0 w1
    obtain ⟨m, rfl⟩ : ∃ m, n = m + 1 := ⟨n - 1, by omega⟩
    rw [elX11_nameOf_29]; unfold bX11_nameOf_29
    rw [if_pos (by rw [i32_z, i32_lt (by omega) (by omega) (by omega) (by omega)]; omega)]
    have g : ngood a 0 e = true := rfl
    cases f with
    | true =>
      show (if true = true then some (i64 w) else some (i64 0)) = _
      rw [if_pos rfl, if_pos ⟨rfl, g⟩]; rfl
    | false =>
      show (if false = true then some (i64 w) else some (i64 0)) = _
      rw [if_neg (by decide), if_neg (fun z => (by cases z.1))]
  | succ k ih =>
    intro n e f w hk hn w0 w1
    obtain ⟨m, rfl⟩ : ∃ m, n = m + 1 := ⟨n - 1, by omega⟩
    have gl : grp5 a k < 32 := Nat.mod_lt _ (by decide)
    have pw : (32 : Int) ^ (6 - k) = 32 * 32 ^ (6 - (k + 1)) := by
      rw [show 6 - k = (6 - (k + 1)) + 1 by omega, Int.pow_succ, Int.mul_comm]
    have pw5 : (32 : Int) ^ (6 - (k + 1)) ≤ 32 ^ 5 := by
      rcases (show k = 0 ∨ k = 1 ∨ k = 2 ∨ k = 3 ∨ k = 4 ∨ k = 5 by omega) with rfl | rfl | rfl | rfl | rfl | rfl <;> decide
    rw [elX11_nameOf_29]; unfold bX11_nameOf_29
    rw [if_neg (by rw [i32_z, i32_lt (by omega) (by omega) (by omega) (by omega)]; omega), show 5 * ((k + 1 : Nat) : Int) - 5 = 5 * (k : Int) by omega, shr5 (by omega) (by omega), lt_e]
    have j69 : ∀ f' : Bool, jX11_nameOf_69 h (fun v0 v1 v3 v4 v5 => lX11_nameOf_29 h (fun w101 w102 => if w102 = true then some w101 else some (i64 0)) m v0 v1 v3 v4 v5) (i32 a) (i64 w) (bI e) (i32 (5 * (k : Int))) (i32 (grp5 a k : Nat)) f' = some (i64 (if f' = true ∧ ngood a k (e || decide (grp5 a k = 0)) = true then nwv a (k + 1) w else 0)) := by
      intro f'
      have j85 : ∀ e' : Bool, jX11_nameOf_85 h (fun v0 v1 v3 v4 v5 => lX11_nameOf_29 h (fun w101 w102 => if w102 = true then some w101 else some (i64 0)) m v0 v1 v3 v4 v5) (i32 a) (i64 w) f' (i32 (5 * (k : Int))) (i32 (grp5 a k : Nat)) e' = some (i64 (if f' = true ∧ ngood a k e' = true then nwv a (k + 1) w else 0)) := by
        intro e'
        unfold jX11_nameOf_85 jX11_nameOf_104
        rw [i32_z]
        simp only [nwv]
        by_cases z : grp5 a k = 0
        · rw [if_pos (by rw [i32_le (by omega) (by omega) (by omega) (by omega)]; omega), lt_e, i32_add, if_pos z]
          exact ih m e' f' w (by omega) (by omega) w0 (by omega)
        · rw [if_neg (by rw [i32_le (by omega) (by omega) (by omega) (by omega)]; omega), lt_e, i32_add, if_neg z, i32_64 (by omega) (by omega), i64_mul, i64_add]
          exact ih m e' f' _ (by omega) (by omega) (by omega) (by omega)
      unfold jX11_nameOf_69 jX11_nameOf_80
      cases e with
      | true => rw [bI_tt, if_neg (by decide), Bool.true_or]; exact j85 true
      | false =>
        rw [bI_ff, i32_z, if_pos rfl, Bool.false_or]
        by_cases z : grp5 a k = 0
        · rw [if_pos (by rw [z]; rfl), decide_eq_true z]; exact j85 true
        · rw [if_neg (by rw [i32_eq (by omega) (by omega) (by omega) (by omega)]; omega), decide_eq_false z]; exact j85 false
    unfold jX11_nameOf_68 jX11_nameOf_64
    rw [j69 false, j69 true]
    cases f with
    | false => rw [if_neg (by decide), if_neg (fun z => (by cases z.1)), if_neg (fun z => (by cases z.1))]
    | true =>
      rw [if_pos rfl]
      by_cases c : 27 ≤ grp5 a k
      · rw [if_pos (by rw [i32_le (by omega) (by omega) (by omega) (by omega)]; omega), if_neg (fun z => (by cases z.1)), if_neg (fun z => by
          have := z.2; rw [ngood_s, decide_eq_false (show ¬ grp5 a k ≤ 26 by omega), Bool.false_and] at this; cases this)]
      rw [if_neg (by rw [i32_le (by omega) (by omega) (by omega) (by omega)]; omega)]
      cases e with
      | false =>
        have g : ngood a (k + 1) false = ngood a k (decide (grp5 a k = 0)) := by rw [ngood_s, decide_eq_true (show grp5 a k ≤ 26 by omega), Bool.true_and, Bool.not_false, Bool.true_or, Bool.true_and]
        rw [bI_ff, i32_z, if_pos rfl, Bool.false_or, g]
      | true =>
        rw [bI_tt, if_neg (by decide), Bool.true_or, i32_z]
        by_cases z : grp5 a k = 0
        · have g : ngood a (k + 1) true = ngood a k true := by rw [ngood_s, decide_eq_true (show grp5 a k ≤ 26 by omega), Bool.true_and, decide_eq_true z, Bool.or_true, Bool.true_and]
          rw [if_neg (by rw [i32_lt (by omega) (by omega) (by omega) (by omega)]; omega), g]
        · rw [if_pos (by rw [i32_lt (by omega) (by omega) (by omega) (by omega)]; omega), if_neg (fun z => (by cases z.1)), if_neg (fun y => by
            have := y.2; rw [ngood_s, decide_eq_true (show grp5 a k ≤ 26 by omega), Bool.true_and, decide_eq_false z, Bool.not_true, Bool.false_or, Bool.false_and] at this; cases this)]
/-- the number of a name from its first letters on -/
theorem nwv_s {a : Nat} (ha : a < 1073741824) : ∀ (k : Nat) (e : Bool) (w : Int) (n z : Nat), k ≤ 6 → 1 ≤ n → n + z + k = 6 → (a / 32 ^ k : Nat) = w * 32 ^ z → (e = true ↔ 1 ≤ z) → 32 ^ (n - 1) ≤ w → w < 32 ^ n → (∀ i : Nat, i < n → w / 32 ^ i % 32 ≠ 0) → ngood a k e = true → NV (nwv a k w) ∧ lft (nwv a k w) = (a : Int) * 1024 := by
  intro k
  induction k with
  | zero =>
    intro e w n z _ n1 hs ea ez l1 l2 dg _
    show NV w ∧ lft w = _
    have en : nl w = n := by
      have := nl_of (w := w) (k := n - 1) (by omega) l1 (by rw [show n - 1 + 1 = n by omega]; exact l2)
      omega
    have lb : (32 : Int) ^ n ≤ 32 ^ 6 := by
      rcases (show n = 1 ∨ n = 2 ∨ n = 3 ∨ n = 4 ∨ n = 5 ∨ n = 6 by omega) with rfl | rfl | rfl | rfl | rfl | rfl <;> decide
    have p0 : (0 : Int) < 32 ^ (n - 1) := Int.pow_pos (by decide)
    refine ⟨⟨by omega, by omega, by rw [en]; exact dg⟩, ?_⟩
    unfold lft
    rw [en, show 8 - n = z + 2 by omega, Int.pow_add, ← Int.mul_assoc, ← ea, Nat.pow_zero, Nat.div_one]
    rfl
  | succ k ih =>
    intro e w n z hk n1 hs ea ez l1 l2 dg g
    simp only [ngood, Bool.and_eq_true, decide_eq_true_eq] at g
    obtain ⟨g1, g2, g3⟩ := g
    have gl : grp5 a k < 32 := Nat.mod_lt _ (by decide)
    have dv : (a / 32 ^ k : Nat) = 32 * (a / 32 ^ (k + 1) : Nat) + grp5 a k := by
      unfold grp5
      rw [Nat.pow_succ, ← Nat.div_div_eq_div_mul]
      omega
    simp only [nwv]
    by_cases c : grp5 a k = 0
    · rw [if_pos c]
      rw [decide_eq_true c] at g3
      refine ih true w n (z + 1) (by omega) n1 (by omega) ?_ ⟨fun _ => by omega, fun _ => rfl⟩ l1 l2 dg g3
      rw [dv, c, Int.pow_succ, ← Int.mul_assoc, ← ea]
      omega
    · rw [if_neg c]
      rw [decide_eq_false c] at g3
      have e0 : e = false := by
        cases e with
        | false => rfl
        | true => rw [Bool.not_true, Bool.false_or, decide_eq_true_eq] at g2; exact absurd g2 c
      have z0 : z = 0 := by
        rw [e0] at ez
        apply Classical.byContradiction
        intro y
        have := ez.mpr (by omega)
        cases this
      subst z0
      rw [Int.pow_zero, Int.mul_one] at ea
      have pw : (32 : Int) ^ (n + 1) = 32 * 32 ^ n := by rw [Int.pow_succ, Int.mul_comm]
      have pw' : (32 : Int) ^ n = 32 * 32 ^ (n - 1) := by rw [show n = n - 1 + 1 by omega, Int.pow_succ, Int.mul_comm]; rfl
      refine ih false _ (n + 1) 0 (by omega) (by omega) (by omega) ?_ ⟨fun y => (by cases y), fun y => (by omega)⟩ ?_ ?_ ?_ g3
      · rw [dv, Int.pow_zero, Int.mul_one, ← ea]; omega
      · rw [show n + 1 - 1 = n by omega]; omega
      · omega
      · intro i hi
        cases i with
        | zero => rw [Int.pow_zero, Int.ediv_one]; omega
        | succ i =>
          have d := dg i (by omega)
          rw [Int.pow_succ, Int.mul_comm (32 ^ i) 32, ← Int.ediv_ediv_of_nonneg (show (0 : Int) ≤ 32 by decide), show (32 * w + (grp5 a k : Nat)) / 32 = w by omega]
          exact d
theorem mname_f {h : HP} {p : Int32} : ∀ (k n : Nat) (v1 : Int64) (v3 : Int32), k ≤ 6 → k < n → lX11_nameOf_29 h (fun w101 w102 => if w102 = true then some w101 else some (i64 0)) n p v1 v3 false (i32 (5 * (k : Int) - 5)) = some (i64 0) := by
  intro k
  induction k with
  | zero =>
    intro n v1 v3 _ hn
    obtain ⟨m, rfl⟩ : ∃ m, n = m + 1 := ⟨n - 1, by omega⟩
    rw [elX11_nameOf_29]; unfold bX11_nameOf_29
    rw [if_pos (by rw [i32_z, i32_lt (by omega) (by omega) (by omega) (by omega)]; omega)]
    rfl
  | succ k ih =>
    intro n v1 v3 hk hn
    obtain ⟨m, rfl⟩ : ∃ m, n = m + 1 := ⟨n - 1, by omega⟩
    rw [elX11_nameOf_29]; unfold bX11_nameOf_29
    rw [if_neg (by rw [i32_z, i32_lt (by omega) (by omega) (by omega) (by omega)]; omega), lt_e, if_neg (by decide)]
    have j85 : ∀ (v6 : Int32) (e' : Bool), jX11_nameOf_85 h (fun v0 v1 v3 v4 v5 => lX11_nameOf_29 h (fun w101 w102 => if w102 = true then some w101 else some (i64 0)) m v0 v1 v3 v4 v5) p v1 false (i32 (5 * ((k + 1 : Nat) : Int) - 5)) v6 e' = some (i64 0) := by
      intro v6 e'
      unfold jX11_nameOf_85 jX11_nameOf_104
      rw [lt_e, i32_add, show 5 * ((k + 1 : Nat) : Int) - 5 + -5 = 5 * (k : Int) - 5 by omega]
      rw [lt_e]
      split
      · exact ih m _ _ (by omega) (by omega)
      · exact ih m _ _ (by omega) (by omega)
    unfold jX11_nameOf_68 jX11_nameOf_69 jX11_nameOf_80
    split
    · split
      · exact j85 _ true
      · exact j85 _ false
    · exact j85 _ true
theorem ngood_z {a : Nat} : ∀ k, ngood a k true = true → a % 32 ^ k = 0 := by
  intro k
  induction k with
  | zero => intro _; rw [Nat.pow_zero, Nat.mod_one]
  | succ k ih =>
    intro g
    simp only [ngood, Bool.and_eq_true, decide_eq_true_eq, Bool.not_true, Bool.false_or] at g
    obtain ⟨_, g2, g3⟩ := g
    rw [decide_eq_true g2] at g3
    have q := ih g3
    rw [Nat.pow_succ, Nat.mod_mul, q]
    unfold grp5 at g2
    rw [g2]
    omega
/-- the name that a number says, or 0 -/
def nmW (p : Int32) : Int := if 33554432 ≤ p.toInt ∧ p.toInt < 1073741824 ∧ ngood p.toInt.toNat 6 false = true then nwv p.toInt.toNat 6 0 else 0
theorem nameOf_both {p : Int32} (h : HP) : ∃ w : Int, fX11_nameOf p h = some (i64 w) ∧ fX10_nameOf p h = some (i64 (lft w)) ∧ (w = 0 ∨ NV w) ∧ w = nmW p := by
  obtain ⟨a, h1, h2, rfl⟩ := i32_ex p
  have ea := i32_toInt h1 h2
  have l0 : lft 0 = 0 := by unfold lft; rw [Int.zero_mul]
  have s25 := i32_sar h1 h2 (s := 25) (by decide)
  have s30 := i32_sar h1 h2 (s := 30) (by decide)
  rw [show i32 ((25 : Nat) : Int) = i32 25 from rfl, show (2 : Int) ^ 25 = 33554432 from rfl] at s25
  rw [show i32 ((30 : Nat) : Int) = i32 30 from rfl, show (2 : Int) ^ 30 = 1073741824 from rfl] at s30
  have j22 : jX11_nameOf_22 h (i32 a) (i64 0) (i32 0) = some (i64 0) := by
    unfold jX11_nameOf_22 jX11_nameOf_23
    exact mname_f 6 FU (i64 0) (i32 0) (by decide) (by decide)
  have hm : fX11_nameOf (i32 a) h = if i32 (a / 33554432) ≤ i32 0 then jX11_nameOf_22 h (i32 a) (i64 0) (i32 0) else if i32 (a / 1073741824) = i32 0 then jX11_nameOf_23 h (i32 a) (i64 0) (i32 0) true else jX11_nameOf_22 h (i32 a) (i64 0) (i32 0) := by
    unfold fX11_nameOf; rw [s25, s30]; rfl
  have hc : fX10_nameOf (i32 a) h = if i32 a < i32 0 then some (i64 0) else if i32 a < i32 1073741824 then lX10_nameOf_18 h FU (i32 a) false (i32 25) else some (i64 0) := by
    unfold fX10_nameOf; rfl
  by_cases c0 : a < 0
  · refine ⟨0, ?_, ?_, Or.inl rfl, by unfold nmW; rw [ea, if_neg (fun z => by omega)]⟩
    · rw [hm, if_pos (by rw [i32_le (by omega) (by omega) (by omega) (by omega)]; omega), j22]
    · rw [hc, if_pos (by rw [i32_lt (by omega) (by omega) (by omega) (by omega)]; exact c0), l0]
  by_cases c1 : 1073741824 ≤ a
  · refine ⟨0, ?_, ?_, Or.inl rfl, by unfold nmW; rw [ea, if_neg (fun z => by omega)]⟩
    · rw [hm, if_neg (by rw [i32_le (by omega) (by omega) (by omega) (by omega)]; omega), if_neg (by rw [i32_eq (by omega) (by omega) (by omega) (by omega)]; omega), j22]
    · rw [hc, if_neg (by rw [i32_lt (by omega) (by omega) (by omega) (by omega)]; exact c0), if_neg (by rw [i32_lt (by omega) (by omega) (by omega) (by omega)]; omega), l0]
  obtain ⟨n, rfl⟩ : ∃ n : Nat, a = (n : Int) := ⟨a.toNat, by omega⟩
  have hn : n < 1073741824 := by omega
  have cl := cname_l (h := h) hn 6 FU false (by decide) (by decide)
  rw [if_neg (by rw [i32_lt (by omega) (by omega) (by omega) (by omega)]; exact c0), if_pos (by rw [i32_lt (by omega) (by omega) (by omega) (by omega)]; omega), show i32 25 = i32 (5 * ((6 : Nat) : Int) - 5) from rfl, cl] at hc
  have g5 : grp5 n 5 = n / 33554432 := by
    unfold grp5
    rw [show 32 ^ 5 = 33554432 from rfl]
    exact Nat.mod_eq_of_lt (by omega)
  by_cases c2 : n < 33554432
  · refine ⟨0, ?_, ?_, Or.inl rfl, by unfold nmW; rw [ea, if_neg (fun z => by omega)]⟩
    · rw [hm, if_pos (by rw [i32_le (by omega) (by omega) (by omega) (by omega)]; omega), j22]
    · rw [hc, l0]
      by_cases g : ngood n 6 false = true
      · have g' := g
        simp only [ngood, Bool.and_eq_true] at g'
        have z : grp5 n 5 = 0 := by rw [g5]; omega
        have t : ngood n 5 true = true := by
          have := g'.2.2
          rw [decide_eq_true z] at this
          simp only [ngood, Bool.and_eq_true]
          exact this
        have m := ngood_z 5 t
        rw [show 32 ^ 5 = 33554432 from rfl] at m
        rw [if_pos g, show (n : Int) * 1024 = 0 by omega]
      · rw [if_neg g]
  · have z : grp5 n 5 ≠ 0 := by rw [g5]; omega
    have gl : grp5 n 5 < 32 := Nat.mod_lt _ (by decide)
    have ml := mname_l (h := h) (a := n) (by omega) 6 FU false true 0 (by decide) (by decide) (by decide) (by decide)
    rw [if_neg (by rw [i32_le (by omega) (by omega) (by omega) (by omega)]; omega), if_pos (by rw [i32_eq (by omega) (by omega) (by omega) (by omega)]; omega)] at hm
    unfold jX11_nameOf_23 at hm
    rw [bI_ff] at ml
    have hm2 := hm.trans ml
    rw [hm2, hc]
    by_cases g : ngood n 6 false = true
    · rw [if_pos g, if_pos ⟨rfl, g⟩]
      have g' := g
      simp only [ngood, Bool.and_eq_true] at g'
      have t : ngood n 5 false = true := by
        have := g'.2.2
        rw [decide_eq_false z] at this
        simp only [ngood, Bool.and_eq_true]
        exact this
      have e6 : nwv n 6 0 = nwv n 5 (grp5 n 5 : Nat) := by
        show nwv n 5 (if grp5 n 5 = 0 then 0 else 32 * 0 + (grp5 n 5 : Nat)) = _
        rw [if_neg z, Int.mul_zero, Int.zero_add]
      have r := nwv_s hn 5 false (grp5 n 5 : Nat) 1 0 (by decide) (by decide) rfl (by
        rw [Int.pow_zero, Int.mul_one, g5]) ⟨fun y => (by cases y), fun y => (by omega)⟩ (by rw [show 1 - 1 = 0 from rfl, Int.pow_zero]; omega) (by rw [Int.pow_one]; omega) (fun i hi => by
        obtain rfl : i = 0 := by omega
        rw [Int.pow_zero, Int.ediv_one]; omega) t
      refine ⟨nwv n 6 0, rfl, ?_, Or.inr (by rw [e6]; exact r.1), by unfold nmW; rw [ea, show ((n : Int)).toNat = n from rfl, if_pos ⟨by omega, by omega, g⟩]⟩
      rw [e6, r.2]
    · rw [if_neg g, if_neg (fun y => g y.2)]
      exact ⟨0, rfl, by rw [l0], Or.inl rfl, by unfold nmW; rw [ea, show ((n : Int)).toNat = n from rfl, if_neg (fun z => g z.2.2)]⟩
