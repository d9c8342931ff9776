/-! LETTERS OF A NAME -/
theorem nl_bd {w : Int} (h0 : 0 < w) (h1 : w < 1099511627776) : 32 ^ (nl w - 1) ≤ w ∧ w < 32 ^ nl w := by
  by_cases c1 : w < 32
  · rw [nl_of (k := 0) (by decide) (by simp; omega) (by simpa using c1)]; simp; omega
  by_cases c2 : w < 1024
  · rw [nl_of (k := 1) (by decide) (by simp; omega) (by simpa using c2)]; simp; omega
  by_cases c3 : w < 32768
  · rw [nl_of (k := 2) (by decide) (by simp; omega) (by simpa using c3)]; simp; omega
  by_cases c4 : w < 1048576
  · rw [nl_of (k := 3) (by decide) (by simp; omega) (by simpa using c4)]; simp; omega
  by_cases c5 : w < 33554432
  · rw [nl_of (k := 4) (by decide) (by simp; omega) (by simpa using c5)]; simp; omega
  by_cases c6 : w < 1073741824
  · rw [nl_of (k := 5) (by decide) (by simp; omega) (by simpa using c6)]; simp; omega
  by_cases c7 : w < 34359738368
  · rw [nl_of (k := 6) (by decide) (by simp; omega) (by simpa using c7)]; simp; omega
  · rw [nl_of (k := 7) (by decide) (by simp; omega) (by simpa using h1)]; simp; omega
/-- the j-th letter of a name -/
def ltw (w : Int) (j : Int) : Int := w / 32 ^ (nl w - 1 - j.toNat) % 32
theorem sar64 {w : Int} {k : Int} (h0 : 0 ≤ w) (h1 : w < 9223372036854775808) (k0 : 0 ≤ k) (k1 : k ≤ 12) : i64 w >>> ((i32 (5 * k)).toInt64 &&& 63) = i64 (w / 32 ^ k.toNat) := by
  obtain ⟨n, rfl⟩ : ∃ n : Nat, w = (n : Int) := ⟨w.toNat, by omega⟩
  rw [i64_lN, i32_nI (by omega : 0 ≤ 5 * k), show (5 * k).toNat = 5 * k.toNat by omega, wb_sar (by omega) (by omega), p2_5, ← i64_lN]
  rfl
theorem lengthOf_s {h : HP} {w : Int} (h0 : 0 < w) (h1 : w < 1099511627776) : fX11_lengthOf (i64 w) h = some (i32 (nl w : Int)) := by
  obtain ⟨b1, b2⟩ := nl_bd h0 h1
  have l8 := nl_le w
  have l1 := nl_pos h0
  have key : ∀ (k n : Nat) (c : Nat), c + k = nl w → k < n → lX11_lengthOf_2 h n (i64 w) (i32 (c : Int)) = some (i32 (nl w : Int)) := by
    intro k
    induction k with
    | zero =>
      intro n c hc hn
      obtain ⟨m, rfl⟩ : ∃ m, n = m + 1 := ⟨n - 1, by omega⟩
      rw [elX11_lengthOf_2]; unfold bX11_lengthOf_2
      by_cases c8 : c = 8
      · rw [if_pos (by rw [i32_le (by omega) (by omega) (by omega) (by omega)]; omega)]; congr 2; omega
      rw [if_neg (by rw [i32_le (by omega) (by omega) (by omega) (by omega)]; omega), i32_mul, sar64 (by omega) (by omega) (by omega) (by omega), show ((c : Int)).toNat = nl w by omega, Int.ediv_eq_zero_of_lt (by omega) b2, if_pos (by decide)]
      congr 2; omega
    | succ k ih =>
      intro n c hc hn
      obtain ⟨m, rfl⟩ : ∃ m, n = m + 1 := ⟨n - 1, by omega⟩
      rw [elX11_lengthOf_2]; unfold bX11_lengthOf_2
      have p0 : (0 : Int) < 32 ^ c := Int.pow_pos (by decide)
      have le : (32 : Int) ^ c ≤ 32 ^ (nl w - 1) := by
        rw [show nl w - 1 = c + (nl w - 1 - c) by omega, Int.pow_add]
        have : (1 : Int) ≤ 32 ^ (nl w - 1 - c) := Int.pow_pos (by decide)
        exact Int.le_trans (by omega) (Int.mul_le_mul_of_nonneg_left this (Int.le_of_lt p0))
      have q : 1 ≤ w / 32 ^ c := (Int.le_ediv_iff_mul_le p0).mpr (by omega)
      have q2 : w / 32 ^ c ≤ w := Int.ediv_le_self _ (by omega)
      rw [if_neg (by rw [i32_le (by omega) (by omega) (by omega) (by omega)]; omega), i32_mul, sar64 (by omega) (by omega) (by omega) (by omega), show ((c : Int)).toNat = c by omega, if_neg (by rw [i64_le (by omega) (by omega) (by omega) (by omega)]; omega), lt_e, i32_add]
      exact ih m (c + 1) (by omega) (by omega)
  exact key (nl w) FU 0 (by omega) (by have : FU = 1000000 := rfl; omega)
theorem low5 {v : Int} (h0 : 0 ≤ v) (h1 : v < 9223372036854775808) : (i64 v &&& i64 31).toInt32 = i32 (v % 32) := by
  obtain ⟨n, rfl⟩ : ∃ n : Nat, v = (n : Int) := ⟨v.toNat, by omega⟩
  rw [i64_lN, show i64 31 = lN (2 ^ 5 - 1) from rfl, wb_mask (by omega) (by decide), ← i64_lN, i64_32]
  rfl
theorem mletterOf_s {h : HP} {w j : Int} (h0 : 0 < w) (h1 : w < 1099511627776) (j0 : 0 ≤ j) (j1 : j < nl w) : fX11_letterOf (i64 w) (i32 j) h = some (i32 (96 + ltw w j)) := by
  have l8 := nl_le w
  unfold fX11_letterOf
  rw [lengthOf_s h0 h1, bn_s, i32_sub, i32_sub, i32_mul, sar64 (by omega) (by omega) (by omega) (by omega)]
  have p0 : (0 : Int) < 32 ^ ((nl w : Int) - 1 - j).toNat := Int.pow_pos (by decide)
  rw [low5 (Int.ediv_nonneg (by omega) (Int.le_of_lt p0)) (Int.lt_of_le_of_lt (Int.ediv_le_self _ (by omega)) (by omega)), i32_add]
  unfold ltw
  rw [show ((nl w : Int) - 1 - j).toNat = nl w - 1 - j.toNat by omega]
theorem cletterOf_s {h : HP} {w j : Int} (hw : NV w) (h1 : -2147483648 ≤ j) (h2 : j < 2147483648) : fX10_letterOf (i64 (lft w)) (i32 j) h = some (i32 (if 0 ≤ j ∧ j < nl w then 96 + ltw w j else -2)) := by
  have l8 := nl_le w
  have lr := lft_rng hw
  unfold fX10_letterOf
  rw [i32_z]
  by_cases c0 : j < 0
  · rw [if_pos (by rw [i32_lt (by omega) (by omega) (by omega) (by omega)]; exact c0), if_neg (by omega)]
  rw [if_neg (by rw [i32_lt (by omega) (by omega) (by omega) (by omega)]; exact c0)]
  by_cases c8 : 8 ≤ j
  · rw [if_neg (by rw [i32_lt (by omega) (by omega) (by omega) (by omega)]; omega), if_neg (by omega)]
  rw [if_pos (by rw [i32_lt (by omega) (by omega) (by omega) (by omega)]; omega), i32_mul, i32_sub, show 35 - 5 * j = 5 * (7 - j) by omega, sar64 (by omega) (by omega) (by omega) (by omega)]
  have p0 : (0 : Int) < 32 ^ (7 - j).toNat := Int.pow_pos (by decide)
  have v0 : 0 ≤ lft w / 32 ^ (7 - j).toNat := Int.ediv_nonneg (by omega) (Int.le_of_lt p0)
  have v1 : lft w / 32 ^ (7 - j).toNat < 1099511627776 := Int.lt_of_le_of_lt (Int.ediv_le_self _ (by omega)) lr.2
  have m5 : (i64 (lft w / 32 ^ (7 - j).toNat)).toInt32 &&& i32 31 = i32 (lft w / 32 ^ (7 - j).toNat % 32) := by
    rw [← low5 v0 (by omega), Int64.toInt32_and]
    rfl
  rw [m5, lt_e]
  by_cases c : j < nl w
  · have e : lft w / 32 ^ (7 - j).toNat = w / 32 ^ (nl w - 1 - j.toNat) := by
      unfold lft
      rw [show (7 - j).toNat = (nl w - 1 - j.toNat) + (8 - nl w) by omega, Int.pow_add]
      exact Int.mul_ediv_mul_of_pos_left _ _ (Int.pow_pos (by decide))
    have ne : w / 32 ^ (nl w - 1 - j.toNat) % 32 ≠ 0 := hw.2.2 _ (by omega)
    rw [e, if_neg (by rw [i32_eq (by omega) (by omega) (by omega) (by omega)]; exact ne), i32_add, if_pos (by omega)]
    rfl
  · have e : lft w / 32 ^ (7 - j).toNat % 32 = 0 := by
      unfold lft
      rw [show 8 - nl w = (8 - nl w - 1 - (7 - j).toNat) + 1 + (7 - j).toNat by omega, Int.pow_add, ← Int.mul_assoc, Int.mul_ediv_cancel _ (by omega), Int.pow_succ, ← Int.mul_assoc]
      exact Int.mul_emod_left _ _
    rw [e, if_pos rfl, if_neg (by omega)]
theorem nameLength_s {h : HP} {w : Int} (hw : NV w) : fX9_nameLength (i64 (lft w)) h = some (i32 (nl w : Int)) := by
  have l8 := nl_le w
  have := cntL (L := fun n c i => lX9_nameLength_4 h n (i64 (lft w)) c i) (p := fun f => decide (f < nl w)) (e := 8) (fun m c i i0 i1 => by
    show lX9_nameLength_4 h (m + 1) (i64 (lft w)) (i32 c) (i32 i) = if i < 8 then lX9_nameLength_4 h m (i64 (lft w)) _ _ else _
    rw [elX9_nameLength_4]; unfold bX9_nameLength_4
    by_cases d : 8 ≤ i
    · rw [if_pos (by rw [i32_le (by omega) (by omega) (by omega) (by omega)]; exact d), if_neg (by omega)]
    rw [if_neg (by rw [i32_le (by omega) (by omega) (by omega) (by omega)]; exact d), if_pos (show i < 8 by omega), cletterOf_s hw (by omega) (by omega), bn_s, i32_z]
    unfold jX9_nameLength_24
    by_cases z : i < nl w
    · have lw : 0 ≤ ltw w i ∧ ltw w i < 32 := by unfold ltw; omega
      rw [if_pos (show 0 ≤ i ∧ i < nl w by omega), if_neg (by rw [i32_lt (by omega) (by omega) (by omega) (by omega)]; omega), lt_e, lt_e, bI_tt, i32_add, i32_add, if_pos (by rw [decide_eq_true_eq]; exact z)]
    · rw [if_neg (show ¬ (0 ≤ i ∧ i < nl w) by omega), if_pos (by decide), lt_e, lt_e, bI_ff, i32_add, i32_add, if_neg (by rw [decide_eq_true_eq]; exact z)]) 8 FU 0 0 (by omega) (by omega) (by decide)
  have ce : ∀ k : Nat, k ≤ 8 → cnt (fun f => decide (f < (k : Int))) 8 0 = k := by
    intro k hk
    rcases (show k = 0 ∨ k = 1 ∨ k = 2 ∨ k = 3 ∨ k = 4 ∨ k = 5 ∨ k = 6 ∨ k = 7 ∨ k = 8 by omega) with rfl | rfl | rfl | rfl | rfl | rfl | rfl | rfl | rfl <;> decide
  rw [ce _ l8, Int.zero_add] at this
  exact this
section
variable {h : HP} {k : Nat}
theorem rd_letter (R : RR h k) (p q : Int32) : ∃ r, fX10_letter 0 p q h = some r ∧ fX11_letter 983 p q h = some r := by
  obtain ⟨n, h1, h2, rfl⟩ := i32_ex p
  obtain ⟨j, h3, h4, rfl⟩ := i32_ex q
  obtain ⟨np, sr, _⟩ := R.sr
  have C := R.C
  have M := R.M
  have x := sr.x
  have A := C.st.d
  unfold fX10_letter fX11_letter
  rw [C.o, gd_tt, C.r_state, oc_s, C.o_state, gd_tt, C.st.rD, oc_s, A.o, gd_tt, x_find A x h1 h2, bn_s, M.o, gd_tt, mIsNode M h1 h2, bn_s]
  by_cases c : 0 ≤ n ∧ n < 32 ∧ Wm h n ≠ -1
  · rw [fnx_y c, on_sm, decide_eq_true c, if_pos rfl]
    have le : (i32 0 ≤ i32 j) = (0 ≤ j) := i32_le (by omega) (by omega) h3 h4
    rw [i32_z]
    by_cases d : 0 ≤ j
    · rw [if_pos (by rw [le]; exact d), if_pos (by rw [le]; exact d)]
      have nv := x.nm.1 n c.1 c.2.1 c.2.2
      have l8 := nl_le (Wm h (32 + n))
      refine ⟨i32 (if 0 ≤ j ∧ j < nl (Wm h (32 + n)) then 96 + ltw (Wm h (32 + n)) j else -2), ?_, ?_⟩
      · rw [A.on (show n.toNat < 32 by omega), gd_tt, (x.nd c.1 c.2.1 c.2.2).2.2.1, cletterOf_s nv h3 h4, bn_s]
      · simp (disch := omega) only [M.r_world, M.o_world, M.n_world, gd_tt, oc_s, i32_add, i32_inb, i32_cn, Wm_e, lt_e, lengthOf_s nv.1 nv.2.1, bn_s]
        by_cases e : (nl (Wm h (32 + n)) : Int) ≤ j
        · rw [if_pos (by rw [i32_le (by omega) (by omega) (by omega) (by omega)]; exact e), if_neg (by omega)]
        · rw [if_neg (by rw [i32_le (by omega) (by omega) (by omega) (by omega)]; exact e), mletterOf_s nv.1 nv.2.1 d (by omega), bn_s, if_pos (by omega)]
    · rw [if_neg (by rw [le]; exact d), if_neg (by rw [le]; exact d)]
      exact ⟨_, rfl, rfl⟩
  · rw [fnx_n c, on_nn, decide_eq_false c, if_neg (by decide)]
    exact ⟨_, rfl, rfl⟩
theorem rd_named (R : RR h k) (p : Int32) : ∃ r, fX10_named 0 p h = some r ∧ fX11_named 983 p h = some r := by
  obtain ⟨w, m, c, o, _⟩ := nameOf_both (p := p) h
  obtain ⟨np, sr, _⟩ := R.sr
  have C := R.C
  have M := R.M
  have x := sr.x
  have A := C.st.d
  unfold fX10_named fX11_named
  rw [m, c, bn_s, bn_s]
  rcases o with rfl | nv
  · rw [if_pos rfl, if_pos (by unfold lft; rw [Int.zero_mul])]
    exact ⟨_, rfl, rfl⟩
  · have lr := lft_rng nv
    rw [if_neg (lft_nz nv), if_neg (by rw [i64_eq (by have := nv.1; omega) (by have := nv.2.1; omega) (by omega) (by omega)]; have := nv.1; omega), C.o, gd_tt, C.r_state, oc_s, C.o_state, gd_tt, C.st.rD, oc_s, A.o, gd_tt, x_name A x nv, bn_s, M.o, gd_tt, nodeNamed_s M (by omega) (by omega) (by have := nv.1; omega) (by have := nv.2.1; omega) (by rw [Fm0]; exact x.tr.ov), bn_s, Fm0]
    exact ⟨_, rfl, rfl⟩
end
