/-! SMALL READS -/
/-- a loop that counts -/
theorem cntL {L : Nat → Int32 → Int32 → Option Int32} {p : Int → Bool} {e : Int} (hL : ∀ m c i, 0 ≤ i → i ≤ e → L (m + 1) (i32 c) (i32 i) = if i < e then L m (i32 (c + if p i = true then 1 else 0)) (i32 (i + 1)) else some (i32 c)) : ∀ (k n : Nat) (c i : Int), 0 ≤ i → i + k = e → k < n → L n (i32 c) (i32 i) = some (i32 (c + cnt p k i)) := by
  intro k
  induction k with
  | zero =>
    intro n c i i0 ie hn
    obtain ⟨m, rfl⟩ : ∃ m, n = m + 1 := ⟨n - 1, by omega⟩
    rw [hL m c i i0 (by omega), if_neg (by omega)]
    simp [cnt]
  | succ k ih =>
    intro n c i i0 ie hn
    obtain ⟨m, rfl⟩ : ∃ m, n = m + 1 := ⟨n - 1, by omega⟩
    rw [hL m c i i0 (by omega), if_pos (by omega), ih m _ _ (by omega) (by omega) (by omega)]
    simp only [cnt]
    rw [Int.add_assoc]
theorem bI_if (b : Bool) : bI b = i32 (if b = true then 1 else 0) := by cases b <;> rfl
section
variable {h : HP}
theorem sheets_s (M : MS h) : fX11_sheets 983 h = some (i32 (Wm h 2629)) := by
  unfold fX11_sheets
  simp (disch := omega) only [M.o, M.r_world, M.o_world, M.n_world, gd_tt, oc_s, i32_inb, i32_cn, Wm_e, i64_32]
theorem revisions_s (M : MS h) : fX11_revisions 983 h = some (i32 (Wm h 2628)) := by
  unfold fX11_revisions
  simp (disch := omega) only [M.o, M.r_world, M.o_world, M.n_world, gd_tt, oc_s, i32_inb, i32_cn, Wm_e, i64_32]
theorem isSheet_s (M : MS h) (w : 0 ≤ Wm h 2629 ∧ Wm h 2629 ≤ 10) {s : Int} (h1 : -2147483648 ≤ s) (h2 : s < 2147483648) : fX11_isSheet 983 (i32 s) h = some (decide (0 ≤ s ∧ s < Wm h 2629)) := by
  unfold fX11_isSheet
  rw [M.o, gd_tt, sheets_s M, bn_s, i32_sub, in_s h1 h2 (by decide) (by decide) (by omega) (by omega), bn_s]
  congr 1
  rw [decide_eq_decide]; omega
theorem isRevision_s (M : MS h) (w : 0 ≤ Wm h 2628 ∧ Wm h 2628 ≤ 8) {s : Int} (h1 : -2147483648 ≤ s) (h2 : s < 2147483648) : fX11_isRevision 983 (i32 s) h = some (decide (0 ≤ s ∧ s < Wm h 2628)) := by
  unfold fX11_isRevision
  rw [M.o, gd_tt, revisions_s M, bn_s, i32_sub, in_s h1 h2 (by decide) (by decide) (by omega) (by omega), bn_s]
  congr 1
  rw [decide_eq_decide]; omega
theorem revisionBy_s (M : MS h) {s : Int} (h1 : 0 ≤ s) (h2 : s < 10) : fX11_revisionBy 983 (i32 s) h = some (i32 (Wm h (2630 + 25 * s))) := by
  unfold fX11_revisionBy
  simp (disch := omega) only [M.o, M.r_world, M.o_world, M.n_world, gd_tt, oc_s, i32_mul, i32_add, i32_inb, i32_cn, Wm_e, i64_32]
theorem formBy_s (M : MS h) {s : Int} (h1 : 0 ≤ s) (h2 : s < 10) : fX11_formBy 983 (i32 s) h = some (i32 (292 * (1 + Wm h (2630 + 25 * s)))) := by
  unfold fX11_formBy
  rw [M.o, gd_tt, revisionBy_s M h1 h2, bn_s, formOf_s, bn_s]
theorem answerAt_s (M : MS h) {s f : Int} (h1 : 0 ≤ s) (h2 : s < 10) (h3 : 0 ≤ f) (h4 : f < 24) : fX11_answerAt 983 (i32 s) (i32 f) h = some (i32 (Wm h (2630 + 25 * s + 1 + f))) := by
  unfold fX11_answerAt
  simp (disch := omega) only [M.o, M.r_world, M.o_world, M.n_world, gd_tt, oc_s, i32_mul, i32_add, i32_inb, i32_cn, Wm_e, i64_32]
theorem findSheet_s {a : Nat} {c : Int} (S : StateAt h a) (e : hI h 322 a = i32 c) (w : 0 ≤ c ∧ c ≤ 10) {s : Int} (h1 : -2147483648 ≤ s) (h2 : s < 2147483648) : fX5_findSheet a (i32 s) h = some (if 0 ≤ s ∧ s < c then some (a + 38 + 2 * s.toNat) else none) := by
  unfold fX5_findSheet
  rw [i32_z]
  by_cases c0 : s < 0
  · rw [if_pos (by rw [i32_lt (by omega) (by omega) (by omega) (by omega)]; exact c0), if_neg (by omega)]
  rw [if_neg (by rw [i32_lt (by omega) (by omega) (by omega) (by omega)]; exact c0), S.o, gd_tt, e]
  by_cases c1 : c ≤ s
  · rw [if_pos (by rw [i32_le (by omega) (by omega) (by omega) (by omega)]; exact c1), if_neg (by omega)]
  rw [if_neg (by rw [i32_le (by omega) (by omega) (by omega) (by omega)]; exact c1), if_neg (by rw [i32_le (by omega) (by omega) (by omega) (by omega)]; omega), if_pos (by omega)]
  simp (disch := omega) only [S.rS, S.oS, S.nS, gd_tt, oc_s, i32_inb, i32_cn, S.q (show s.toNat < 10 by omega)]
theorem given_s {b : Nat} (S : SheetAt h b) {f : Int} (h1 : -2147483648 ≤ f) (h2 : f < 2147483648) : fX4_given b (i32 f) h = some (if 0 ≤ f ∧ f < 24 then hA h (b + 1) f.toNat else i32 (-2)) := by
  unfold fX4_given
  rw [i32_z]
  by_cases c0 : f < 0
  · rw [if_pos (by rw [i32_lt (by omega) (by omega) (by omega) (by omega)]; exact c0), if_neg (by omega)]
  rw [if_neg (by rw [i32_lt (by omega) (by omega) (by omega) (by omega)]; exact c0)]
  by_cases c1 : 24 ≤ f
  · rw [if_pos (by rw [i32_le (by omega) (by omega) (by omega) (by omega)]; exact c1), if_neg (by omega)]
  rw [if_neg (by rw [i32_le (by omega) (by omega) (by omega) (by omega)]; exact c1), if_pos (by omega)]
  simp (disch := omega) only [S.o, S.rV, S.oV, S.nV, gd_tt, oc_s, i32_inb, i32_cn]
/-- how many fields a sheet answers -/
def anw (W : Int → Int) (o : Int) : Int := cnt (fun f => decide (W (o + 1 + f) ≠ -2)) 24 0
theorem canswers_s {b : Nat} {W : Int → Int} {o : Int} (S : SheetAt h b) (r : ShR h b W o) : lX10_answers_20 h FU (some b) (i32 0) (i32 0) = some (i32 (anw W o)) := by
  have := cntL (L := fun n c i => lX10_answers_20 h n (some b) c i) (p := fun f => decide (W (o + 1 + f) ≠ -2)) (e := 24) (fun m c i i0 i1 => by
    show lX10_answers_20 h (m + 1) (some b) (i32 c) (i32 i) = if i < 24 then lX10_answers_20 h m (some b) _ _ else _
    rw [elX10_answers_20]; unfold bX10_answers_20
    by_cases d : 24 ≤ i
    · rw [if_pos (by rw [i32_le (by omega) (by omega) (by omega) (by omega)]; exact d), if_neg (by omega)]
    rw [if_neg (by rw [i32_le (by omega) (by omega) (by omega) (by omega)]; exact d), if_pos (show i < 24 by omega), oc_s, S.o, gd_tt, given_s S (by omega) (by omega), bn_s, if_pos (show 0 ≤ i ∧ i < 24 by omega)]
    have q := r.2.2.2 i i0 (by omega)
    rw [q.1]
    unfold jX10_answers_41
    by_cases z : W (o + 1 + i) = -2
    · rw [if_pos (by rw [z]), lt_e, i32_add, if_neg (by rw [decide_eq_true_eq]; exact fun y => y z), show c + 0 = c by omega]
    · rw [if_neg (by rw [i32_eq (by omega) (by omega) (by omega) (by omega)]; exact z), lt_e, lt_e, i32_add, i32_add, if_pos (by rw [decide_eq_true_eq]; exact z)]) 24 FU 0 0 (by omega) (by omega) (by decide)
  rw [show (0 : Int) + cnt (fun f => decide (W (o + 1 + f) ≠ -2)) 24 0 = anw W o by unfold anw; omega] at this
  exact this
theorem manswers_s (M : MS h) {s : Int} (h1 : 0 ≤ s) (h2 : s < 10) (r : ∀ f, 0 ≤ f → f < 24 → (Wm h (2630 + 25 * s + 1 + f) = -2 ∨ (0 ≤ Wm h (2630 + 25 * s + 1 + f) ∧ Wm h (2630 + 25 * s + 1 + f) ≤ 9999))) : lX11_answers_14 h FU 983 (i32 s) (i32 0) (i32 0) = some (i32 (anw (Wm h) (2630 + 25 * s))) := by
  have := cntL (L := fun n c i => lX11_answers_14 h n 983 (i32 s) c i) (p := fun f => decide (Wm h (2630 + 25 * s + 1 + f) ≠ -2)) (e := 24) (fun m c i i0 i1 => by
    show lX11_answers_14 h (m + 1) 983 (i32 s) (i32 c) (i32 i) = if i < 24 then lX11_answers_14 h m 983 (i32 s) _ _ else _
    rw [elX11_answers_14]; unfold bX11_answers_14
    by_cases d : 24 ≤ i
    · rw [if_pos (by rw [i32_le (by omega) (by omega) (by omega) (by omega)]; exact d), if_neg (by omega)]
    rw [if_neg (by rw [i32_le (by omega) (by omega) (by omega) (by omega)]; exact d), if_pos (show i < 24 by omega), M.o, gd_tt, answerAt_s M h1 h2 i0 (by omega), bn_s]
    have q := r i i0 (by omega)
    unfold jX11_answers_37
    by_cases z : Wm h (2630 + 25 * s + 1 + i) = -2
    · rw [if_pos (by rw [z]), lt_e, lt_e, bI_ff, i32_add, i32_add, if_neg (by rw [decide_eq_true_eq]; exact fun y => y z)]
    · rw [if_neg (by rw [i32_eq (by omega) (by omega) (by omega) (by omega)]; exact z), lt_e, lt_e, bI_tt, i32_add, i32_add, if_pos (by rw [decide_eq_true_eq]; exact z)]) 24 FU 0 0 (by omega) (by omega) (by decide)
  rw [show (0 : Int) + cnt (fun f => decide (Wm h (2630 + 25 * s + 1 + f) ≠ -2)) 24 0 = anw (Wm h) (2630 + 25 * s) by unfold anw; omega] at this
  exact this
theorem findRev_s {c : Int} (C : CS h) (e : hI h 321 2 = i32 c) (w : 0 ≤ c ∧ c ≤ 8) {s : Int} (h1 : -2147483648 ≤ s) (h2 : s < 2147483648) : fX10_findRevision 0 (i32 s) h = some (if 0 ≤ s ∧ s < c then some (115 + 36 * s.toNat) else none) := by
  have j25 : jX10_findRevision_25 h 0 (i32 s) = some none := by
    unfold jX10_findRevision_25 jX10_findRevision_26; rw [if_neg (by decide)]
  unfold fX10_findRevision
  rw [i32_z]
  by_cases c0 : s < 0
  · rw [if_pos (by rw [i32_lt (by omega) (by omega) (by omega) (by omega)]; exact c0), j25, if_neg (by omega)]
  rw [if_neg (by rw [i32_lt (by omega) (by omega) (by omega) (by omega)]; exact c0), C.o, gd_tt, C.r_state, oc_s, C.o_state, gd_tt, e]
  by_cases c1 : c ≤ s
  · rw [if_pos (by rw [i32_le (by omega) (by omega) (by omega) (by omega)]; exact c1), j25, if_neg (by omega)]
  rw [if_neg (by rw [i32_le (by omega) (by omega) (by omega) (by omega)]; exact c1), if_neg (by rw [i32_le (by omega) (by omega) (by omega) (by omega)]; omega)]
  unfold jX10_findRevision_26
  rw [if_pos rfl, if_pos (by omega)]
  simp (disch := omega) only [C.o, C.r_revs, C.o_revs, C.n_revs, gd_tt, oc_s, i32_inb, i32_cn, C.q_rev (show s.toNat < 8 by omega)]
end
/-! the reads of the draft and the sheets that write nothing -/
section
variable {h : HP} {k : Nat}
theorem rd_errorPosition (R : RR h k) : ∃ r, fX10_errorPosition 0 h = some r ∧ fX11_errorPosition 983 h = some r := by
  obtain ⟨C, M, K, n24, sz, er, _⟩ := R
  refine ⟨hI h 642 0, ?_, ?_⟩
  · unfold fX10_errorPosition; rw [C.o, gd_tt]
  · unfold fX11_errorPosition; rw [M.o, gd_tt, er]
theorem rd_tapeLength (R : RR h k) : ∃ r, fX10_tapeLength 0 h = some r ∧ fX11_tapeLength 983 h = some r := by
  obtain ⟨C, M, K, n24, sz, er, np, T, _, ⟨b, t1, t2, _⟩, _⟩ := R
  refine ⟨i32 T, ?_, ?_⟩
  · unfold fX10_tapeLength; rw [C.o, gd_tt, t1]
  · unfold fX11_tapeLength; rw [M.o, gd_tt, t2]
theorem rd_nodeAt (R : RR h k) (p : Int32) : ∃ r, fX10_nodeAt 0 p h = some r ∧ fX11_nodeAt 983 p h = some r := by
  obtain ⟨i, h1, h2, rfl⟩ := i32_ex p
  obtain ⟨np, sr, _⟩ := R.sr
  have C := R.C
  have M := R.M
  have x := sr.x
  have o := x.tr.ov
  unfold fX10_nodeAt fX11_nodeAt
  rw [i32_z]
  have le : (i32 0 ≤ i32 i) = (0 ≤ i) := i32_le (by omega) (by omega) h1 h2
  by_cases c : 0 ≤ i
  · rw [if_pos (by rw [le]; exact c), if_pos (by rw [le]; exact c)]
    refine ⟨i32 (if 0 ≤ i ∧ i < Wm h 288 then Wm h (256 + i) else -2), ?_, ?_⟩
    rotate_left
    · rw [M.o, gd_tt, many_s M (by omega) (by omega), bn_s, Fm0]
      have le' : (i32 (Wm h 288) ≤ i32 i) = (Wm h 288 ≤ i) := i32_le (by have := o.1; omega) (by have := o.2.1; omega) h1 h2
      show (if i32 (Wm h 288) ≤ i32 i then some (i32 (-2)) else _) = some (i32 (if 0 ≤ i ∧ i < Wm h 288 then Wm h (256 + i) else -2))
      by_cases d : Wm h 288 ≤ i
      · rw [if_pos (by rw [le']; exact d), if_neg (by omega)]
      · rw [if_neg (by rw [le']; exact d), if_pos (by omega), ordered_s M (by omega) (by omega) c (by have := o.2.1; omega), bn_s, Fm0]
    · rw [C.o, gd_tt, C.r_state, oc_s, C.o_state, gd_tt, C.st.rD, oc_s, C.st.d.o, gd_tt, x_at C.st.d x h1 h2, bn_s]
  · rw [if_neg (by rw [le]; exact c), if_neg (by rw [le]; exact c)]
    exact ⟨_, rfl, rfl⟩
theorem rd_exists (R : RR h k) (p q : Int32) : ∃ r, fX10_exists 0 p q h = some r ∧ fX11_exists 983 p q h = some r := by
  obtain ⟨i, h1, h2, rfl⟩ := i32_ex p
  obtain ⟨n, h3, h4, rfl⟩ := i32_ex q
  obtain ⟨np, ⟨_, ⟨e1, w1⟩, _, rv, _⟩, _⟩ := R.sr
  have C := R.C
  have M := R.M
  unfold fX10_exists fX11_exists
  rw [C.o, gd_tt, findRev_s C e1 w1 h1 h2, bn_s, M.o, gd_tt, isRevision_s M w1 h1 h2, bn_s]
  by_cases c : 0 ≤ i ∧ i < Wm h 2628
  · rw [if_pos c, on_sm, decide_eq_true c, if_pos rfl]
    have f := rv i.toNat (by omega)
    have A := C.rev (show i.toNat < 8 by omega)
    rw [show ((i.toNat : Nat) : Int) = i by omega] at f
    rw [A.o, gd_tt, x_find A f h3 h4, bn_s, formOf_s, bn_s, has_s M (by omega) (by omega) h3 h4, bn_s]
    have eq : Fm h (292 * (1 + i)) n = Wf (Wm h) (292 * (1 + i)) n := rfl
    by_cases d : 0 ≤ n ∧ n < 32 ∧ Fm h (292 * (1 + i)) n ≠ -1
    · rw [fnx_y (by rw [← eq]; exact d), on_sm, decide_eq_true d, if_pos rfl]
      exact ⟨_, rfl, rfl⟩
    · rw [fnx_n (by rw [← eq]; exact d), on_nn, decide_eq_false d, if_neg (by decide)]
      exact ⟨_, rfl, rfl⟩
  · rw [if_neg c, on_nn, decide_eq_false c, if_neg (by decide)]
    exact ⟨_, rfl, rfl⟩
theorem rd_revisionOf (R : RR h k) (p : Int32) : ∃ r, fX10_revisionOf 0 p h = some r ∧ fX11_revisionOf 983 p h = some r := by
  obtain ⟨i, h1, h2, rfl⟩ := i32_ex p
  obtain ⟨np, ⟨_, _, ⟨e2, w2⟩, _, sh⟩, _⟩ := R.sr
  have C := R.C
  have M := R.M
  unfold fX10_revisionOf fX11_revisionOf
  rw [C.o, gd_tt, C.r_state, oc_s, C.o_state, gd_tt, findSheet_s C.st e2 w2 h1 h2, bn_s, M.o, gd_tt, isSheet_s M w2 h1 h2, bn_s]
  by_cases c : 0 ≤ i ∧ i < Wm h 2629
  · have f := sh i.toNat (by omega)
    rw [show ((i.toNat : Nat) : Int) = i by omega] at f
    rw [if_pos c, on_sm, decide_eq_true c, if_pos rfl, (C.st.sh (show i.toNat < 10 by omega)).o, gd_tt, revisionBy_s M (by omega) (by omega), bn_s, f.1]
    exact ⟨_, rfl, rfl⟩
  · rw [if_neg c, on_nn, decide_eq_false c, if_neg (by decide)]
    exact ⟨_, rfl, rfl⟩
theorem rd_answers (R : RR h k) (p : Int32) : ∃ r, fX10_answers 0 p h = some r ∧ fX11_answers 983 p h = some r := by
  obtain ⟨i, h1, h2, rfl⟩ := i32_ex p
  obtain ⟨np, ⟨_, _, ⟨e2, w2⟩, _, sh⟩, _⟩ := R.sr
  have C := R.C
  have M := R.M
  unfold fX10_answers fX11_answers
  rw [C.o, gd_tt, C.r_state, oc_s, C.o_state, gd_tt, findSheet_s C.st e2 w2 h1 h2, bn_s, M.o, gd_tt, isSheet_s M w2 h1 h2, bn_s]
  by_cases c : 0 ≤ i ∧ i < Wm h 2629
  · have f := sh i.toNat (by omega)
    rw [show ((i.toNat : Nat) : Int) = i by omega] at f
    rw [if_pos c, on_sm, decide_eq_true c, if_pos rfl, canswers_s (C.st.sh (show i.toNat < 10 by omega)) f, manswers_s M c.1 (by omega) (fun g g0 g1 => (f.2.2.2 g g0 g1).2)]
    exact ⟨_, rfl, rfl⟩
  · rw [if_neg c, on_nn, decide_eq_false c, if_neg (by decide)]
    exact ⟨_, rfl, rfl⟩
end
