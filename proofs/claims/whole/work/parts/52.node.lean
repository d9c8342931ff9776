/-! THE OTHER READS OF THE DRAFT -/
section
variable {h : HP} {k : Nat}
theorem fieldMany_s (M : MS h) : fX11_fieldMany 983 h = some (i32 (cnt (fun n => decide (Wm h n ≠ -1)) 24 0)) := by
  have := cntL (L := fun n c i => lX11_fieldMany_4 h n 983 c i) (p := fun n => decide (Wm h n ≠ -1)) (e := 24) (fun m c i i0 i1 => by
    show lX11_fieldMany_4 h (m + 1) 983 (i32 c) (i32 i) = if i < 24 then lX11_fieldMany_4 h m 983 _ _ else _
    rw [elX11_fieldMany_4]; unfold bX11_fieldMany_4
    by_cases d : 24 ≤ i
    · rw [if_pos (by rw [i32_le (by omega) (by omega) (by omega) (by omega)]; exact d), if_neg (by omega)]
    rw [if_neg (by rw [i32_le (by omega) (by omega) (by omega) (by omega)]; exact d), if_pos (show i < 24 by omega), M.o, gd_tt, has_s M (by omega) (by omega) (by omega) (by omega), bn_s, Fm0]
    unfold jX11_fieldMany_25
    by_cases z : Wm h i ≠ -1
    · rw [if_pos (by rw [decide_eq_true_eq]; exact ⟨i0, by omega, z⟩), lt_e, lt_e, bI_tt, i32_add, i32_add, if_pos (by rw [decide_eq_true_eq]; exact z)]
    · rw [if_neg (by rw [decide_eq_true_eq]; exact fun y => z y.2.2), lt_e, lt_e, bI_ff, i32_add, i32_add, if_neg (by rw [decide_eq_true_eq]; exact z)]) 24 FU 0 0 (by omega) (by omega) (by decide)
  unfold fX11_fieldMany
  rw [this, Int.zero_add]
/-- counting by the order and counting by the numbers -/
theorem cnt_ins (q : Int → Bool) (x : Int) : ∀ (k : Nat) (i : Int), q x = false → cnt (fun n => q n || decide (n = x)) k i = cnt q k i + if i ≤ x ∧ x < i + k then 1 else 0 := by
  intro k
  induction k with
  | zero => intro i _; simp only [cnt]; rw [if_neg (by omega)]; rfl
  | succ k ih =>
    intro i e
    simp only [cnt]
    rw [ih (i + 1) e]
    by_cases c : i = x
    · rw [c, if_pos (show (q x || decide (x = x)) = true by rw [decide_eq_true rfl, Bool.or_true]), if_neg (show ¬ q x = true by rw [e]; decide), if_neg (by omega), if_pos (by omega)]; omega
    · have a2 : (q i || decide (i = x)) = q i := by rw [decide_eq_false c, Bool.or_false]
      have a3 : (if (q i || decide (i = x)) = true then (1 : Int) else 0) = if q i = true then 1 else 0 := by simp only [a2]
      rw [a3]
      by_cases d : i ≤ x ∧ x < i + (k + 1 : Nat)
      · rw [if_pos d, if_pos (show i + 1 ≤ x ∧ x < i + 1 + (k : Int) by omega)]; omega
      · rw [if_neg d, if_neg (show ¬ (i + 1 ≤ x ∧ x < i + 1 + (k : Int)) by omega)]; omega
theorem cnt_snoc (p : Int → Bool) (k : Nat) : cnt p (k + 1) 0 = cnt p k 0 + if p k = true then 1 else 0 := by
  rw [cnt_add]
  simp only [cnt]
  rw [Int.zero_add, Int.add_zero]
def hsO (F : Int → Int) (m : Nat) (n : Int) : Bool := anyf (fun i => decide (F (256 + i) = n)) m 0
theorem hsO_i (F : Int → Int) (m : Nat) (n : Int) : hsO F m n = true ↔ ∃ i, 0 ≤ i ∧ i < (m : Int) ∧ F (256 + i) = n := by
  unfold hsO
  rw [anyf_iff]
  constructor
  · rintro ⟨j, a, b, c⟩; exact ⟨j, a, by omega, of_decide_eq_true c⟩
  · rintro ⟨j, a, b, c⟩; exact ⟨j, a, by omega, decide_eq_true c⟩
theorem hsO_f {F : Int → Int} {m : Nat} {n : Int} (h : ¬ ∃ i, 0 ≤ i ∧ i < (m : Int) ∧ F (256 + i) = n) : hsO F m n = false := by
  cases w : hsO F m n with
  | false => rfl
  | true => exact absurd ((hsO_i F m n).mp w) h
theorem cnt_perm {F : Int → Int} (O : OV F) (D : DO F) (P : Int → Bool) : ∀ m : Nat, (m : Int) ≤ F 288 → cnt (fun n => hsO F m n && P n) 32 0 = cnt (fun i => P (F (256 + i))) m 0 := by
  intro m
  induction m with
  | zero =>
    intro _
    show cnt (fun _ => false) 32 0 = 0
    decide
  | succ m ih =>
    intro hm
    have o := O.2.2 (m : Int) (by omega) (by omega)
    rw [cnt_snoc (fun i => P (F (256 + i))) m, ← ih (by omega)]
    have nx : hsO F m (F (256 + (m : Int))) = false := hsO_f (fun ⟨i, a, b, c⟩ => by
      have := D i m a (by omega) (by omega) (by omega) c
      omega)
    have hs : ∀ n, n ≠ F (256 + (m : Int)) → hsO F (m + 1) n = hsO F m n := fun n hn => by
      cases w : hsO F m n with
      | true =>
        obtain ⟨i, a, b, c⟩ := (hsO_i F m n).mp w
        exact (hsO_i F (m + 1) n).mpr ⟨i, a, by omega, c⟩
      | false =>
        refine hsO_f fun ⟨i, a, b, c⟩ => ?_
        by_cases y : i = m
        · rw [y] at c; exact hn c.symm
        · rw [(hsO_i F m n).mpr ⟨i, a, by omega, c⟩] at w; cases w
    have ht : hsO F (m + 1) (F (256 + (m : Int))) = true := (hsO_i F (m + 1) _).mpr ⟨m, by omega, by omega, rfl⟩
    by_cases p : P (F (256 + (m : Int))) = true
    · rw [if_pos p]
      have e := cnt_ins (fun n => hsO F m n && P n) (F (256 + (m : Int))) 32 0 (by rw [nx, Bool.false_and])
      rw [if_pos (by omega)] at e
      rw [← e]
      refine cnt_congr 32 0 fun n n0 n1 => ?_
      by_cases c : n = F (256 + (m : Int))
      · rw [decide_eq_true c, Bool.or_true, c, ht, p]; rfl
      · rw [decide_eq_false c, Bool.or_false, hs n c]
    · rw [if_neg p, Int.add_zero]
      refine cnt_congr 32 0 fun n n0 n1 => ?_
      by_cases c : n = F (256 + (m : Int))
      · rw [c, nx, Bool.false_and]
        cases w : P (F (256 + (m : Int))) with
        | true => exact absurd w p
        | false => rw [Bool.and_false]
      · rw [hs n c]
theorem cnt_order {F : Int → Int} (T : TR F) (P : Int → Bool) : cnt (fun n => decide (F n ≠ -1) && P n) 32 0 = cnt (fun i => P (F (256 + i))) (F 288).toNat 0 := by
  have o := T.ov.1
  rw [← cnt_perm T.ov T.dd P (F 288).toNat (by omega)]
  refine cnt_congr 32 0 fun n n0 n1 => ?_
  congr 1
  by_cases c : F n ≠ -1
  · obtain ⟨i, a, b, d⟩ := T.po n n0 (by omega) c
    rw [decide_eq_true c, (hsO_i F _ n).mpr ⟨i, a, by omega, d⟩]
  · rw [decide_eq_false c]
    refine (hsO_f ?_).symm
    rintro ⟨i, a, b, d⟩
    exact c (by rw [← d]; exact T.op i a (by omega))
theorem mconds_s (M : MS h) (O : OV (Wm h)) (sg : ∀ i, 0 ≤ i → i < Wm h 288 → 0 ≤ Wm h (224 + Wm h (256 + i)) ∧ Wm h (224 + Wm h (256 + i)) ≤ 12000) : lX11_value_111 h FU 983 (i32 0) (i32 0) = some (i32 (cnt (fun i => decide (0 < Wm h (224 + Wm h (256 + i)))) (Wm h 288).toNat 0)) := by
  have o1 := O.1
  have o2 := O.2.1
  have := cntL (L := fun n c i => lX11_value_111 h n 983 c i) (p := fun i => decide (0 < Wm h (224 + Wm h (256 + i)))) (e := Wm h 288) (fun m c i i0 i1 => by
    show lX11_value_111 h (m + 1) 983 (i32 c) (i32 i) = if i < Wm h 288 then lX11_value_111 h m 983 _ _ else _
    rw [elX11_value_111]; unfold bX11_value_111
    rw [M.o, gd_tt, many_s M (by omega) (by omega), bn_s, Fm0]
    by_cases d : Wm h 288 ≤ i
    · rw [if_pos (by rw [i32_le (by omega) (by omega) (by omega) (by omega)]; exact d), if_neg (by omega)]
    have q := O.2.2 i i0 (by omega)
    have s := sg i i0 (by omega)
    rw [if_neg (by rw [i32_le (by omega) (by omega) (by omega) (by omega)]; exact d), if_pos (show i < Wm h 288 by omega), ordered_s M (by omega) (by omega) i0 (by omega), bn_s, Fm0, of_s M (by omega) (by omega), bn_s, Fm0, i32_z]
    unfold jX11_value_143
    by_cases z : 0 < Wm h (224 + Wm h (256 + i))
    · rw [if_neg (by rw [i32_le (by omega) (by omega) (by omega) (by omega)]; omega), lt_e, lt_e, bI_tt, i32_add, i32_add, if_pos (by rw [decide_eq_true_eq]; exact z)]
    · rw [if_pos (by rw [i32_le (by omega) (by omega) (by omega) (by omega)]; omega), lt_e, lt_e, bI_ff, i32_add, i32_add, if_neg (by rw [decide_eq_true_eq]; exact z)]) (Wm h 288).toNat FU 0 0 (by omega) (by omega) (by have : FU = 1000000 := rfl; omega)
  rw [Int.zero_add] at this
  exact this
theorem fin_2 (F : Int → Int) (n : Int) : fin F (-2) n = decide (F n ≠ -1) := by
  unfold fin
  rw [decide_eq_decide]
  exact ⟨fun z => z.1, fun z => ⟨z, Or.inl rfl⟩⟩
theorem rd_value (R : RR h k) (hk : k ≤ 512) (p : Int32) : ∃ r, fX10_value 0 p h = some r ∧ fX11_value 983 p h = some r := by
  obtain ⟨np, sr, hnp⟩ := R.sr
  have C := R.C
  have M := R.M
  have x := sr.x
  have A := C.st.d
  have o1 := x.tr.ov.1
  have o2 := x.tr.ov.2.1
  have xs := x.2.2
  have gv := x.gv
  have fo : fX0_fieldsOf (2 + 1) (i32 (-2)) h = some (fmk (fin (Wm h) (-2)) 24 0 (i32 0)) := x_fields A x (Or.inl rfl)
  have ef : cnt (fin (Wm h) (-2)) 24 0 = cnt (fun n => decide (Wm h n ≠ -1)) 24 0 := cnt_congr 24 0 fun n _ _ => fin_2 _ n
  have wl : ∀ q : Int, 0 ≤ q → q < 2880 → hL h 987 (i32 q).toNatClampNeg = i64 (Wm h q) := fun q q0 q1 => by rw [i32_cn q0 (by omega), Wm_e]
  unfold fX10_value fX11_value
  rw [C.o, gd_tt, C.r_state, oc_s, C.o_state, gd_tt, lt_e, C.st.rD]
  by_cases c0 : p = i32 0
  · refine ⟨hA h 985 0, ?_, ?_⟩
    · rw [if_pos c0, oc_s, A.o, gd_tt, xs.1]
    · rw [if_pos c0, c0]
      simp (disch := omega) only [M.o, M.r_sizes, M.o_sizes, M.n_sizes, gd_tt, oc_s, i32_inb, i32_cn]
      rfl
  rw [if_neg c0, if_neg c0]
  by_cases c1 : p = i32 1
  · refine ⟨hA h 985 1, ?_, ?_⟩
    · rw [if_pos c1, oc_s, A.o, gd_tt, xs.2.1]
    · rw [if_pos c1, c1]
      simp (disch := omega) only [M.o, M.r_sizes, M.o_sizes, M.n_sizes, gd_tt, oc_s, i32_inb, i32_cn]
      rfl
  rw [if_neg c1, if_neg c1]
  by_cases c2 : p = i32 2
  · refine ⟨hA h 985 2, ?_, ?_⟩
    · rw [if_pos c2, oc_s, A.o, gd_tt, xs.2.2]
    · rw [if_pos c2, c2]
      simp (disch := omega) only [M.o, M.r_sizes, M.o_sizes, M.n_sizes, gd_tt, oc_s, i32_inb, i32_cn]
      rfl
  rw [if_neg c2, if_neg c2]
  by_cases c3 : p = i32 3
  · refine ⟨i32 (cnt (fun n => decide (Wm h n ≠ -1)) 24 0), ?_, ?_⟩
    · rw [if_pos c3, oc_s, A.o, gd_tt, fo, bn_s, bitCount_fmk, bn_s, ef]
    · rw [if_pos c3, M.o, gd_tt, fieldMany_s M, bn_s]
  rw [if_neg c3, if_neg c3]
  by_cases c4 : p = i32 4
  · refine ⟨i32 (Wm h 288) - i32 (cnt (fun n => decide (Wm h n ≠ -1)) 24 0), ?_, ?_⟩
    · rw [if_pos c4, oc_s, A.o, gd_tt, fo, bn_s, bitCount_fmk, bn_s, ef, x.1.1.2.2.1]
    · rw [if_pos c4, M.o, gd_tt, many_s M (by omega) (by omega), bn_s, fieldMany_s M, bn_s, Fm0]
  rw [if_neg c4, if_neg c4]
  by_cases c5 : p = i32 5
  · refine ⟨i32 (Wm h 2628), ?_, ?_⟩
    · rw [if_pos c5, sr.2.1.1]
    · rw [if_pos c5, M.o, gd_tt, revisions_s M, bn_s]
  rw [if_neg c5, if_neg c5]
  by_cases c6 : p = i32 6
  · refine ⟨i32 (Wm h 2629), ?_, ?_⟩
    · rw [if_pos c6, sr.2.2.1.1]
    · rw [if_pos c6, M.o, gd_tt, sheets_s M, bn_s]
  rw [if_neg c6, if_neg c6]
  by_cases c7 : p = i32 7
  · refine ⟨i32 (Wm h 289), ?_, ?_⟩
    · rw [if_pos c7, oc_s, A.o, gd_tt, x.1.1.1]
    · rw [if_pos c7, M.o, gd_tt, M.r_world, oc_s, M.o_world, gd_tt, M.n_world, i32_inb (by omega) (by omega) (by omega), gd_tt, wl 289 (by omega) (by omega), i64_32]
  rw [if_neg c7, if_neg c7]
  by_cases c8 : p = i32 8
  · refine ⟨i32 (Wm h 290), ?_, ?_⟩
    · rw [if_pos c8, oc_s, A.o, gd_tt, x.1.1.2.1]
    · rw [if_pos c8, M.o, gd_tt, M.r_world, oc_s, M.o_world, gd_tt, M.n_world, i32_inb (by omega) (by omega) (by omega), gd_tt, wl 290 (by omega) (by omega), i64_32]
  rw [if_neg c8, if_neg c8]
  by_cases c9 : p = i32 9
  · refine ⟨i32 (cnt (fun i => decide (0 < Wm h (224 + Wm h (256 + i)))) (Wm h 288).toNat 0), ?_, ?_⟩
    · rw [if_pos c9, oc_s, A.o, gd_tt, x_conds A x, bn_s]
      congr 2
      rw [← cnt_order x.tr (fun n => decide (0 < Wm h (224 + n)))]
      refine cnt_congr 32 0 fun n _ _ => ?_
      rw [Bool.decide_and]
    · rw [if_pos c9]
      refine mconds_s M x.tr.ov fun i i0 i1 => ?_
      have o := x.tr.ov.2.2 i i0 i1
      have g := x.sg _ o.1 o.2 (x.tr.op i i0 i1)
      omega
  rw [if_neg c9, if_neg c9]
  exact ⟨_, rfl, rfl⟩
theorem rd_node (R : RR h k) (hk : k ≤ 512) (p q : Int32) : ∃ r, fX10_node 0 p q h = some r ∧ fX11_node 983 p q h = some r := by
  obtain ⟨n, h1, h2, rfl⟩ := i32_ex p
  obtain ⟨j, h3, h4, rfl⟩ := i32_ex q
  obtain ⟨np, sr, hnp⟩ := R.sr
  have C := R.C
  have M := R.M
  have x := sr.x
  have A := C.st.d
  have T := x.tr
  have AV0 : AV (Fm h 0) := by rw [Fm0]; exact T.av
  have OV0 : OV (Fm h 0) := by rw [Fm0]; exact T.ov
  unfold fX10_node fX11_node
  rw [C.o, gd_tt, C.r_state, oc_s, C.o_state, gd_tt, lt_e, C.st.rD, oc_s, A.o, gd_tt, x_find A x h1 h2, bn_s, M.o, gd_tt, mIsNode M h1 h2, bn_s]
  by_cases c : 0 ≤ n ∧ n < 32 ∧ Wm h n ≠ -1
  rotate_left
  · rw [fnx_n c, on_nn, decide_eq_false c, if_neg (by decide)]
    exact ⟨_, rfl, rfl⟩
  rw [fnx_y c, on_sm, decide_eq_true c, if_pos rfl, in_s h3 h4 (by omega) (by omega) (by omega) (by omega), bn_s]
  obtain ⟨n0, n1, np0⟩ := c
  have ob := A.on (show n.toNat < 32 by omega)
  have nd := (x.nd n0 n1 np0).2
  have cd := x.cd n0 n1 np0
  have kd := x.kd n n0 n1 np0
  have t := T.tv.grp n0 n1 np0
  have ts : fX11_tests 983 (i32 0) (i32 n) h = some (i32 (tcL (sgm (Pt h) (Wm h) n))) := by
    have g := x.sg n n0 n1 np0
    rw [tests_s M (by omega) (by omega) n0 n1 (by rw [Fm0]; exact ⟨g.1, g.2.1, by omega⟩), Fm0, sgm_nT]
  by_cases s : 0 ≤ j ∧ j ≤ 8
  rotate_left
  · rw [decide_eq_false s]
    have ne : ∀ i : Int, 0 ≤ i → i ≤ 8 → ¬ i32 j = i32 i := fun i i0 i1 z => by
      rw [i32_eq (by omega) (by omega) (by omega) (by omega)] at z; omega
    rw [if_neg (ne 0 (by omega) (by omega)), if_neg (ne 1 (by omega) (by omega)), if_neg (ne 2 (by omega) (by omega)), if_neg (ne 3 (by omega) (by omega)), if_neg (ne 4 (by omega) (by omega)), if_neg (ne 5 (by omega) (by omega)), if_neg (ne 6 (by omega) (by omega)), if_neg (ne 7 (by omega) (by omega)), if_neg (ne 8 (by omega) (by omega)), if_neg (show ¬ (false = true) by decide)]
    exact ⟨_, rfl, rfl⟩
  rw [decide_eq_true s, if_pos rfl]
  rcases (show j = 0 ∨ j = 1 ∨ j = 2 ∨ j = 3 ∨ j = 4 ∨ j = 5 ∨ j = 6 ∨ j = 7 ∨ j = 8 by omega) with rfl | rfl | rfl | rfl | rfl | rfl | rfl | rfl | rfl
  · rw [if_pos rfl, if_pos rfl, ob, gd_tt, nd.2.2.1, of_s M (by omega) (by omega), bn_s, Fm0]
    exact ⟨_, rfl, rfl⟩
  · rw [if_neg (by decide), if_pos rfl, if_neg (by decide), if_pos rfl, ob, gd_tt, nd.2.2.2.1, of_s M (by omega) (by omega), bn_s, Fm0]
    exact ⟨_, rfl, rfl⟩
  · rw [if_neg (by decide), if_neg (by decide), if_pos rfl, if_neg (by decide), if_neg (by decide), if_pos rfl, ob, gd_tt, nd.2.2.2.2.1, of_s M (by omega) (by omega), bn_s, Fm0]
    exact ⟨_, rfl, rfl⟩
  · rw [if_neg (by decide), if_neg (by decide), if_neg (by decide), if_pos rfl, if_neg (by decide), if_neg (by decide), if_neg (by decide), if_pos rfl, ob, gd_tt, nd.2.2.2.2.2, of_s M (by omega) (by omega), bn_s, Fm0]
    exact ⟨_, rfl, rfl⟩
  · rw [if_neg (by decide), if_neg (by decide), if_neg (by decide), if_neg (by decide), if_pos rfl, if_neg (by decide), if_neg (by decide), if_neg (by decide), if_neg (by decide), if_pos rfl, ob, gd_tt, nd.1, of_s M (by omega) (by omega), bn_s, bn_s, Fm0, Int.zero_add, i32_z]
    refine ⟨_, rfl, ?_⟩
    unfold cgr
    by_cases z : Wm h n < 0
    · rw [if_neg (by rw [i32_le (by omega) (by omega) (by omega) (by omega)]; omega), if_pos z]
    · rw [if_pos (by rw [i32_le (by omega) (by omega) (by omega) (by omega)]; omega), if_neg z, i32_sub]
  · obtain ⟨i, i0, i1, ei⟩ := T.po n n0 n1 np0
    have u : ∀ q, 0 ≤ q → q < i → Wm h (256 + q) ≠ n := fun q q0 q1 z => by
      have := T.dd q i q0 (by omega) i0 i1 (z.trans ei.symm)
      omega
    rw [if_neg (by decide), if_neg (by decide), if_neg (by decide), if_neg (by decide), if_neg (by decide), if_pos rfl, if_neg (by decide), if_neg (by decide), if_neg (by decide), if_neg (by decide), if_neg (by decide), if_pos rfl, x_index A x n0 n1 i0 i1 ei, bn_s, indexOf_s M n0 n1 AV0 OV0 i0 (by rw [Fm0]; exact i1) (by rw [Fm0]; exact ei) (by rw [Fm0]; exact u), bn_s, Fm0]
    exact ⟨_, rfl, rfl⟩
  · have e8 : ends (Wm h) 8 (Wm h n) := by
      rcases t with z | z
      · exact Or.inl (by omega)
      · exact T.ce _ (by omega) z.2.1
    have e9 : ends (Fm h 0) 9 (Fm h 0 n) := by rw [Fm0]; exact ends_mono e8 (by omega)
    rw [if_neg (by decide), if_neg (by decide), if_neg (by decide), if_neg (by decide), if_neg (by decide), if_neg (by decide), if_pos rfl, if_neg (by decide), if_neg (by decide), if_neg (by decide), if_neg (by decide), if_neg (by decide), if_neg (by decide), if_pos rfl, ob, gd_tt, nd.1, x_level A x n0 n1 np0, bn_s, depth_s M (by omega) (by omega) AV0 n0 n1 e9, bn_s, Fm0, dpt_8 e8 9 (by omega)]
    exact ⟨_, rfl, rfl⟩
  · rw [if_neg (by decide), if_neg (by decide), if_neg (by decide), if_neg (by decide), if_neg (by decide), if_neg (by decide), if_neg (by decide), if_pos rfl, if_neg (by decide), if_neg (by decide), if_neg (by decide), if_neg (by decide), if_neg (by decide), if_neg (by decide), if_neg (by decide), if_pos rfl, ob, gd_tt, cd.2.1, ts, bn_s]
    exact ⟨_, rfl, rfl⟩
  · rw [if_neg (by decide), if_neg (by decide), if_neg (by decide), if_neg (by decide), if_neg (by decide), if_neg (by decide), if_neg (by decide), if_neg (by decide), if_pos rfl, ob, gd_tt, nd.2.2.1]
    unfold kdOk at kd
    by_cases z : n < 24
    · have kk := (kd.1 z).1
      rw [if_neg (by rw [i32_eq (by omega) (by omega) (by omega) (by omega)]; omega), if_neg (by decide), if_neg (by decide), if_neg (by decide), if_neg (by decide), if_neg (by decide), if_neg (by decide), if_neg (by decide), if_neg (by decide), isField_s h1 h2, bn_s, if_pos (decide_eq_true z)]
      exact ⟨_, rfl, rfl⟩
    · have kk := (kd.2 (by omega)).1
      rw [if_pos (by rw [kk]), if_neg (by decide), if_neg (by decide), if_neg (by decide), if_neg (by decide), if_neg (by decide), if_neg (by decide), if_neg (by decide), if_neg (by decide), isField_s h1 h2, bn_s, if_neg (by rw [decide_eq_true_eq]; exact z), i32_sub, x_list A x (Or.inr ⟨by omega, by omega⟩), bn_s, sons_s M h1 h2 AV0 OV0, bn_s, Fm0]
      unfold gno
      rw [if_pos (by omega), show 24 + (n - 24) = n by omega]
      exact ⟨_, rfl, rfl⟩
end
