/-! A QUOTIENT OF WHOLE NUMBERS IS A NUMBER -/
theorem nn_of {n : Nat} (h : n % 2147483648 ≤ 2139095040) : nn32 (UInt32.ofNat n) = true := by
  unfold nn32
  rw [decide_eq_true_eq, UInt32.le_iff_toNat_le, UInt32.toNat_and, UInt32.toNat_ofNat']
  show (n % 2 ^ 32) &&& (2 ^ 31 - 1) ≤ 2139095040
  rw [Nat.and_two_pow_sub_one_eq_mod]
  omega
theorem enc_fin (s : Bool) (c : Nat) (q : Int) (h1 : c < 16777216) (h2 : -149 ≤ q) (h3 : q ≤ 104) : FP.Core.encode FP.Core.b32 (.fin s c q) % 2147483648 ≤ 2139095040 := by
  have e : FP.Core.encode FP.Core.b32 (.fin s c q) = if c < 8388608 then (s.toNat * 256 + 0) * 8388608 + c else (s.toNat * 256 + ((q - (-149)).toNat + 1)) * 8388608 + (c - 8388608) := rfl
  rw [e]
  have b : s.toNat ≤ 1 := by cases s <;> decide
  split <;> omega
theorem enc_inf (s : Bool) : FP.Core.encode FP.Core.b32 (.inf s) % 2147483648 ≤ 2139095040 := by cases s <;> decide
theorem enc_settle (s : Bool) (c : Nat) (q : Int) (h2 : -149 ≤ q) : FP.Core.encode FP.Core.b32 (FP.Core.settle FP.Core.b32 s c q) % 2147483648 ≤ 2139095040 := by
  have bd : ∀ (c : Nat) (q : Int), c < 16777216 → -149 ≤ q → FP.Core.encode FP.Core.b32 (FP.Core.bound FP.Core.b32 s c q) % 2147483648 ≤ 2139095040 := fun c q h1 h2 => by
    have e : FP.Core.bound FP.Core.b32 s c q = if q ≤ 104 then .fin s c q else .inf s := rfl
    rw [e]
    by_cases h3 : q ≤ 104
    · rw [if_pos h3]; exact enc_fin s c q h1 h2 h3
    · rw [if_neg h3]; exact enc_inf s
  have e : FP.Core.settle FP.Core.b32 s c q = if c < 16777216 then FP.Core.bound FP.Core.b32 s c q else FP.Core.bound FP.Core.b32 s 8388608 (q + 1) := rfl
  rw [e]
  by_cases h1 : c < 16777216
  · rw [if_pos h1]; exact bd c q h1 h2
  · rw [if_neg h1]; exact bd _ _ (by decide) (by omega)
theorem enc_ratio (s : Bool) (a b : Nat) (e : Int) : FP.Core.encode FP.Core.b32 (FP.Core.roundRatio FP.Core.b32 s a b e) % 2147483648 ≤ 2139095040 := by
  unfold FP.Core.roundRatio
  by_cases c : a = 0
  · rw [if_pos c]; exact enc_fin s 0 _ (by decide) (by decide) (by decide)
  · rw [if_neg c]
    unfold FP.Core.roundAt
    refine enc_settle _ _ _ ?_
    unfold FP.Core.quantum
    exact Int.le_max_left _ _
theorem dec_fin {n : Nat} (h : n / 8388608 % 256 ≠ 255) : ∃ s c q, FP.Core.decode FP.Core.b32 n = .fin s c q := by
  unfold FP.Core.decode
  rw [if_neg (show ¬ FP.Core.fieldE FP.Core.b32 n = FP.Core.b32.exps - 1 from h)]
  split
  · exact ⟨_, _, _, rfl⟩
  · exact ⟨_, _, _, rfl⟩
theorem i2f_fin {a : Int} (a0 : 0 ≤ a) (a1 : a < 1000000) : ∃ s c q, FP.Core.decode FP.Core.b32 (FP.i2f (i32 a)).toNat = .fin s c q := by
  apply dec_fin
  show (UInt32.ofNat (FP.Core.fromInt FP.Core.b32 (i32 a).toInt)).toNat / 8388608 % 256 ≠ 255
  rw [i32_toInt (by omega) (by omega), UInt32.toNat_ofNat']
  have fe : ∀ (s : Bool) (c : Nat) (q : Int), c < 16777216 → q ≤ 2 → (FP.Core.encode FP.Core.b32 (.fin s c q) % 2 ^ 32) / 8388608 % 256 ≠ 255 := fun s c q h1 h3 => by
    have e : FP.Core.encode FP.Core.b32 (.fin s c q) = if c < 8388608 then (s.toNat * 256 + 0) * 8388608 + c else (s.toNat * 256 + ((q - (-149)).toNat + 1)) * 8388608 + (c - 8388608) := rfl
    rw [e]
    have b : s.toNat ≤ 1 := by cases s <;> decide
    split <;> omega
  have e1 : FP.Core.fromInt FP.Core.b32 a = FP.Core.encode FP.Core.b32 (FP.Core.roundRatio FP.Core.b32 (decide (a < 0)) a.natAbs 1 0) := rfl
  rw [e1]
  unfold FP.Core.roundRatio
  by_cases c : a.natAbs = 0
  · rw [if_pos c]; exact fe _ _ _ (by decide) (by decide)
  · rw [if_neg c]
    unfold FP.Core.roundAt
    obtain ⟨q, eq⟩ : ∃ q, q = FP.Core.quantum FP.Core.b32 a.natAbs 1 0 := ⟨_, rfl⟩
    have hq : q ≤ 0 := by
      rw [eq]
      unfold FP.Core.quantum
      have l2 : a.natAbs.log2 < 20 := (Nat.log2_lt c).mpr (by omega)
      have ld : FP.Core.leading a.natAbs 1 ≤ (a.natAbs.log2 : Int) := by
        have e2 : FP.Core.leading a.natAbs 1 = if 1 * 2 ^ ((a.natAbs.log2 : Int) - ((1 : Nat).log2 : Int)).toNat ≤ a.natAbs * 2 ^ (-((a.natAbs.log2 : Int) - ((1 : Nat).log2 : Int))).toNat then (a.natAbs.log2 : Int) - ((1 : Nat).log2 : Int) else (a.natAbs.log2 : Int) - ((1 : Nat).log2 : Int) - 1 := rfl
        rw [e2, show ((1 : Nat).log2 : Int) = 0 by decide]
        split <;> omega
      have e3 : (FP.Core.b32.p : Int) = 24 := rfl
      have e4 : FP.Core.b32.qmin = -149 := by decide
      rw [e3, e4]
      omega
    rw [← eq]
    have bd : ∀ (c : Nat) (q : Int), c < 16777216 → q ≤ 1 → (FP.Core.encode FP.Core.b32 (FP.Core.bound FP.Core.b32 (decide (a < 0)) c q) % 2 ^ 32) / 8388608 % 256 ≠ 255 := fun c q h1 h2 => by
      have e : FP.Core.bound FP.Core.b32 (decide (a < 0)) c q = if q ≤ 104 then .fin (decide (a < 0)) c q else .inf (decide (a < 0)) := rfl
      rw [e, if_pos (by omega)]
      exact fe _ _ _ h1 (by omega)
    have st : ∀ c : Nat, FP.Core.settle FP.Core.b32 (decide (a < 0)) c q = if c < 16777216 then FP.Core.bound FP.Core.b32 (decide (a < 0)) c q else FP.Core.bound FP.Core.b32 (decide (a < 0)) 8388608 (q + 1) := fun c => rfl
    rw [st]
    split
    · next h1 => exact bd _ _ h1 (by omega)
    · exact bd _ _ (by decide) (by omega)
theorem den_fin : ∀ b : Fin 11, 0 < b.val → (match FP.Core.decode FP.Core.b32 (FP.i2f (i32 (b.val : Int))).toNat with | .fin _ d _ => decide (d ≠ 0) | _ => false) = true := by decide +kernel
theorem nn_div {a b : Int} (a0 : 0 ≤ a) (a1 : a < 1000000) (b0 : 0 < b) (b1 : b ≤ 10) : nn32 (FP.fdiv (FP.i2f (i32 a)) (FP.i2f (i32 b))) = true := by
  show nn32 (UInt32.ofNat (FP.Core.encode FP.Core.b32 (FP.Core.quotient FP.Core.b32 (FP.Core.decode FP.Core.b32 (FP.i2f (i32 a)).toNat) (FP.Core.decode FP.Core.b32 (FP.i2f (i32 b)).toNat)))) = true
  apply nn_of
  obtain ⟨s, c, q, e⟩ := i2f_fin a0 a1
  have d := den_fin ⟨b.toNat, by omega⟩ (show 0 < b.toNat by omega)
  have eb : ((b.toNat : Nat) : Int) = b := by omega
  simp only [eb] at d
  rw [e]
  cases h : FP.Core.decode FP.Core.b32 (FP.i2f (i32 b)).toNat with
  | nan => rw [h] at d; cases d
  | inf t => rw [h] at d; cases d
  | fin t d' r =>
    rw [h] at d
    have d0 : d' ≠ 0 := of_decide_eq_true d
    have eq : FP.Core.quotient FP.Core.b32 (.fin s c q) (.fin t d' r) = if d' = 0 then (if c = 0 then .nan else .inf (s != t)) else FP.Core.roundRatio FP.Core.b32 (s != t) c d' (q - r) := rfl
    rw [eq, if_neg d0]
    exact enc_ratio _ _ _ _

