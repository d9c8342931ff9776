/-! THE MODEL: A CONDITION -/
/-- the forces that the model holds -/
def MFo (g : HP) (A φ : Int → Int) : Prop := ∀ f, 0 ≤ f → f < 24 → (hA g 1000 f.toNat = i32 0 ∧ φ f = -2) ∨ (hA g 1000 f.toNat = i32 1 ∧ φ f = A f ∧ 0 ≤ A f ∧ A f ≤ 9999)
/-- a condition as a list, well made -/
def GLt : Nat → List Int32 → Prop
  | 0, _ => False
  | d + 1, L => (∃ f s v : Int, 0 ≤ f ∧ f < 24 ∧ 0 ≤ s ∧ s ≤ 3 ∧ 0 ≤ v ∧ v ≤ 9999 ∧ L = [i32 (tcd f s v)]) ∨ (∃ L', GLt d L' ∧ L = L' ++ [opM 3]) ∨ (∃ o, (o = 1 ∨ o = 2) ∧ ∃ (L0 : List Int32) (Q : List (List Int32)), GLt d L0 ∧ (∀ q ∈ Q, GLt d q) ∧ L = L0 ++ (Q.map fun q => q ++ [opM o]).flatten)
section
variable {h g : HP} {A φ : Int → Int}
theorem GLt_of : ∀ (d lo hi t : Nat) (L : List Int32), IsT g (lfM g) opM d lo hi t L → GLt d L := by
  intro d
  induction d with
  | zero => intro lo hi t L z; exact z.elim
  | succ d ih =>
    intro lo hi t L z
    obtain ⟨z1, z2, z3, z4⟩ := z
    rcases z4 with ⟨k, e, rfl, w⟩ | ⟨k, f, L', r1, r2, w, rfl⟩ | ⟨o, ho, f, L0, Q, r1, w, nq, c, rfl⟩
    · obtain ⟨f, s, v, f0, f1, s0, s1, v0, v1, rfl, _⟩ := w
      exact Or.inl ⟨f, s, v, f0, f1, s0, s1, v0, v1, rfl⟩
    · exact Or.inr (Or.inl ⟨L', ih _ _ _ _ w, rfl⟩)
    · refine Or.inr (Or.inr ⟨o, by rcases ho with x | x; exact Or.inl x.1; exact Or.inr x.1, L0, Q.map fun p => p.2, ih _ _ _ _ w, ?_, ?_⟩)
      · have all : ∀ (Q : List (Nat × List Int32)) (lo : Nat) (r : Option Nat), Chn g (IsT g (lfM g) opM d) hi lo r Q → ∀ p ∈ Q, GLt d p.2 := by
          intro Q
          induction Q with
          | nil => intro _ _ _ p hp; cases hp
          | cons q Q ihq =>
            intro lo r c p hp
            obtain ⟨l, m, c1, c2, c3, c4, c5, c6, c7⟩ := c
            rcases List.mem_cons.mp hp with y | y
            · rw [y]; exact ih _ _ _ _ c6
            · exact ihq m _ c7 p y
        intro q hq
        obtain ⟨p, hp, rfl⟩ := List.mem_map.mp hq
        exact all Q _ _ c p hp
      · unfold fl
        rw [List.map_map]
        rfl
theorem GLt_rpn : ∀ (d : Nat) (L : List Int32), GLt d L → ∀ st, rpn φ L st = rv φ L :: st := by
  intro d
  induction d with
  | zero => intro L z; exact z.elim
  | succ d ih =>
    intro L z
    have key : ∃ b, ∀ st, rpn φ L st = b :: st := by
      rcases z with ⟨f, s, v, f0, f1, s0, s1, v0, v1, rfl⟩ | ⟨L', w, rfl⟩ | ⟨o, ho, L0, Q, w, wq, rfl⟩
      · refine ⟨tkB φ (i32 (tcd f s v)), fun st => ?_⟩
        rw [rpn_one]; unfold stp; rw [if_pos (tT_c f0 (by omega) s0 s1 v0 v1)]
      · exact ⟨!(rv φ L'), fun st => by rw [rpn_app, ih _ w, rpn_one, stp_not]⟩
      · have ch : ∀ (Q : List (List Int32)), (∀ q ∈ Q, GLt d q) → ∀ b st, rpn φ (Q.map fun q => q ++ [opM o]).flatten (b :: st) = (Q.foldl (fun b q => opb o b (rv φ q)) b) :: st := by
          intro Q
          induction Q with
          | nil => intro _ b st; rfl
          | cons q Q ihq =>
            intro h b st
            rw [List.map_cons, List.flatten_cons, rpn_app, rpn_app, ih q (h q List.mem_cons_self), rpn_one, stp_op ho, ihq (fun p hp => h p (List.mem_cons_of_mem _ hp))]
            rfl
        exact ⟨Q.foldl (fun b q => opb o b (rv φ q)) (rv φ L0), fun st => by rw [rpn_app, ih _ w, ch Q wq]⟩
    obtain ⟨b, e⟩ := key
    rw [rv_of e]; exact e
theorem mhold {sh : Int} (M : MS g) (s0 : 0 ≤ sh) (s1 : sh < 10) (eA : ∀ f, 0 ≤ f → f < 24 → Wm g (2630 + 25 * sh + 1 + f) = A f ∧ (A f = -2 ∨ (0 ≤ A f ∧ A f ≤ 9999))) (v : MFo g A φ) {f s n : Int} (f0 : 0 ≤ f) (f1 : f < 24) (t0 : 0 ≤ s) (t1 : s ≤ 3) (n0 : 0 ≤ n) (n1 : n ≤ 9999) : fX11_holds 983 (i32 (tcd f s n)) (i32 sh) g = some (tsb φ f s n) := by
  have eF : fX11_fieldOf (i32 (tcd f s n)) g = some (i32 f) := by
    have := tF_c f0 (show f < 32 by omega) t0 t1 n0 n1
    unfold tF at this
    unfold fX11_fieldOf
    rw [this]
  obtain ⟨a1, a2⟩ := eA f f0 f1
  have an := answerAt_s M s0 s1 f0 f1
  rw [a1] at an
  unfold fX11_holds
  rw [eF, bn_s, tS_c f0 (by omega) t0 t1 n0 n1, lt_e, tV_c f0 (by omega) t0 t1 n0 n1, lt_e, M.o, gd_tt, an, bn_s, M.r_forced, oc_s, M.o_forced, gd_tt, M.n_forced, i32_inb f0 (by omega) (by omega), gd_tt, i32_cn f0 (by omega)]
  rcases v f f0 f1 with ⟨z, e⟩ | ⟨z, e, r0, r1⟩
  · rw [if_pos (by rw [z]; rfl)]
    unfold tsb
    rw [e, decide_eq_false (by decide), Bool.false_and]
  · rw [if_neg (by rw [z]; decide)]
    have p : decide (0 ≤ φ f) = true := decide_eq_true (by omega)
    rcases (show s = 0 ∨ s = 1 ∨ s = 2 ∨ s = 3 by omega) with q | q | q | q
    · rw [q, show tsb φ f 0 n = (decide (0 ≤ φ f) && decide (φ f ≠ 0)) from rfl, p, Bool.true_and, e, if_pos (show i32 0 = 0 from rfl)]
      by_cases w : A f = 0
      · rw [if_pos (by rw [w]; rfl), decide_eq_false (fun z => z w)]
      · rw [if_neg (by rw [i32_z, i32_eq (by omega) (by omega) (by omega) (by omega)]; exact w), decide_eq_true w]
    · rw [q, show tsb φ f 1 n = (decide (0 ≤ φ f) && decide (φ f = n)) from rfl, p, Bool.true_and, e, if_neg (by decide), if_pos rfl]
      by_cases w : A f = n
      · rw [if_pos (by rw [w]), decide_eq_true w]
      · rw [if_neg (by rw [i32_eq (by omega) (by omega) (by omega) (by omega)]; exact w), decide_eq_false w]
    · rw [q, show tsb φ f 2 n = (decide (0 ≤ φ f) && decide (φ f < n)) from rfl, p, Bool.true_and, e, if_neg (by decide), if_neg (by decide), if_pos rfl]
      by_cases w : A f < n
      · rw [if_neg (by rw [i32_le (by omega) (by omega) (by omega) (by omega)]; omega), decide_eq_true w]
      · rw [if_pos (by rw [i32_le (by omega) (by omega) (by omega) (by omega)]; omega), decide_eq_false w]
    · rw [q, show tsb φ f 3 n = (decide (0 ≤ φ f) && decide (n < φ f)) from rfl, p, Bool.true_and, e, if_neg (by decide), if_neg (by decide), if_neg (by decide)]
      by_cases w : n < A f
      · rw [if_neg (by rw [i32_le (by omega) (by omega) (by omega) (by omega)]; omega), decide_eq_true w]
      · rw [if_pos (by rw [i32_le (by omega) (by omega) (by omega) (by omega)]; omega), decide_eq_false w]
end
section
variable {A φ : Int → Int} {K : Nat → Int32 → HP → Option (Bool × HP)} {fo nd sh fr : Int} {T : List Int32}
/-- where the model reads a condition -/
def IMt (g : HP) (A φ : Int → Int) (fo nd sh fr : Int) (T : List Int32) : Prop := MS g ∧ (0 ≤ fo ∧ fo ≤ 2588) ∧ (0 ≤ nd ∧ nd < 32) ∧ (0 ≤ sh ∧ sh < 10) ∧ Fm g fo (224 + nd) = (T.length : Int) ∧ Fm g fo (192 + nd) = fr ∧ 0 ≤ fr ∧ fr + (T.length : Int) ≤ 12000 ∧ (∀ (j : Nat) t, T[j]? = some t → hA g 990 (fr + (j : Int)).toNat = t) ∧ (∀ f, 0 ≤ f → f < 24 → Wm g (2630 + 25 * sh + 1 + f) = A f ∧ (A f = -2 ∨ (0 ≤ A f ∧ A f ≤ 9999))) ∧ MFo g A φ
theorem IMt.mo {g g' : HP} (I : IMt g A φ fo nd sh fr T) (m : Mo [1001] g g') : IMt g' A φ fo nd sh fr T := by
  obtain ⟨M, i2, i3, i4, i5, i6, i7, i8, i9, i10, i11⟩ := I
  have eW : Wm g' = Wm g := by funext q; unfold Wm; rw [m.L (by decide)]
  have eF : Fm g' fo = Fm g fo := by funext q; unfold Fm; rw [eW]
  exact ⟨m.ms M, i2, i3, i4, by rw [eF]; exact i5, by rw [eF]; exact i6, i7, i8, fun j t ht => by rw [m.A (by decide)]; exact i9 j t ht, fun f f0 f1 => by rw [eW]; exact i10 f f0 f1, fun f f0 f1 => by rw [m.A (by decide)]; exact i11 f f0 f1⟩
theorem bI_and (b : Bool) : (bI b) &&& 1 = bI b := by cases b <;> rfl
theorem isTok {g : HP} (I : IMt g A φ fo nd sh fr T) {i : Nat} {t : Int32} {R : List Int32} (hd : T.drop i = t :: R) : i < T.length ∧ hA g 990 (fr + (i : Int)).toNat = t ∧ T.drop (i + 1) = R := by
  obtain ⟨M, i2, i3, i4, i5, i6, i7, i8, i9, i10, i11⟩ := I
  have ht : T[i]? = some t := by
    have := List.getElem?_drop (xs := T) (i := i) (j := 0)
    rw [hd, Nat.add_zero] at this
    exact this.symm
  refine ⟨(List.getElem?_eq_some_iff.mp ht).1, i9 i t ht, ?_⟩
  have := List.drop_drop (i := 1) (j := i) (l := T)
  rw [hd] at this
  rw [Nat.add_comm] at this
  first | exact this.symm | (rw [Nat.add_comm] at this; exact this.symm)
theorem isTest {g : HP} (I : IMt g A φ fo nd sh fr T) {i n : Nat} {f s v top : Int} {R : List Int32} (hd : T.drop i = i32 (tcd f s v) :: R) (f0 : 0 ≤ f) (f1 : f < 24) (s0 : 0 ≤ s) (s1 : s ≤ 3) (v0 : 0 ≤ v) (v1 : v ≤ 9999) (t0 : 0 ≤ top) (t1 : top < 300) : lX11_isMet_6 K (n + 1) 983 (i32 fo) (i32 nd) (i32 sh) (i32 top) (i32 (i : Int)) g = lX11_isMet_6 K n 983 (i32 fo) (i32 nd) (i32 sh) (i32 (top + 1)) (i32 ((i + 1 : Nat) : Int)) (sA g 1001 top.toNat (bI (tkB φ (i32 (tcd f s v))))) := by
  obtain ⟨il, pool, _⟩ := isTok I hd
  obtain ⟨M, i2, i3, i4, i5, i6, i7, i8, i9, i10, i11⟩ := I
  obtain ⟨d1, d2, d3⟩ := dec_tcd f0 f1 s0 s1 v0 v1
  rw [elX11_isMet_6]; unfold bX11_isMet_6
  rw [M.o, gd_tt, of_s M (show 0 ≤ fo + 224 + nd by omega) (by omega), bn_s, i5, if_neg (by rw [i32_le (by omega) (by omega) (by omega) (by omega)]; omega), of_s M (show 0 ≤ fo + 192 + nd by omega) (by omega), bn_s, i6, M.r_pool, oc_s, M.o_pool, gd_tt, M.n_pool, i32_add, i32_inb (by omega) (by omega) (by omega), gd_tt, i32_cn (by omega) (by omega), pool, lt_e]
  have so : fX11_sortOf (i32 (tcd f s v)) g = some (i32 0) := by unfold fX11_sortOf; rw [sort_c f0 (by omega) s0 s1 v0 v1]
  rw [so, bn_s, if_pos (show i32 0 = 0 from rfl), mhold M i4.1 i4.2 i10 i11 f0 f1 s0 s1 v0 v1, bn_s, M.r_values, oc_s, M.o_values, gd_tt, M.n_values, i32_inb t0 (by omega) (by omega), gd_tt, i32_cn t0 (by omega), bI_and, lt_e, i32_add, lt_e]
  unfold jX11_isMet_177 tkB
  rw [lt_e, i32_add, d1, d2, d3]
  rfl
theorem isNot {g : HP} (I : IMt g A φ fo nd sh fr T) {i n : Nat} {top : Int} {R : List Int32} (hd : T.drop i = opM 3 :: R) (t0 : 1 ≤ top) (t1 : top ≤ 300) {b : Bool} (hb : hA g 1001 (top - 1).toNat = bI b) : lX11_isMet_6 K (n + 1) 983 (i32 fo) (i32 nd) (i32 sh) (i32 top) (i32 (i : Int)) g = lX11_isMet_6 K n 983 (i32 fo) (i32 nd) (i32 sh) (i32 top) (i32 ((i + 1 : Nat) : Int)) (sA g 1001 (top - 1).toNat (bI (!b))) := by
  obtain ⟨il, pool, _⟩ := isTok I hd
  obtain ⟨M, i2, i3, i4, i5, i6, i7, i8, i9, i10, i11⟩ := I
  rw [elX11_isMet_6]; unfold bX11_isMet_6
  rw [M.o, gd_tt, of_s M (show 0 ≤ fo + 224 + nd by omega) (by omega), bn_s, i5, if_neg (by rw [i32_le (by omega) (by omega) (by omega) (by omega)]; omega), of_s M (show 0 ≤ fo + 192 + nd by omega) (by omega), bn_s, i6, M.r_pool, oc_s, M.o_pool, gd_tt, M.n_pool, i32_add, i32_inb (by omega) (by omega) (by omega), gd_tt, i32_cn (by omega) (by omega), pool, lt_e]
  have so : fX11_sortOf (opM 3) g = some (i32 3) := by unfold fX11_sortOf; rfl
  rw [so, bn_s, if_neg (show ¬ i32 3 = 0 by decide), if_pos rfl, M.r_values, oc_s, M.o_values, gd_tt, M.n_values, i32_sub, i32_inb (by omega) (by omega) (by omega), gd_tt, i32_cn (by omega) (by omega), hb]
  have j : ∀ s0 : Bool, jX11_isMet_102 (fun v0 v1 v2 v3 v4 v5 h => lX11_isMet_6 K n v0 v1 v2 v3 v4 v5 h) 983 (i32 fo) (i32 nd) (i32 sh) (i32 top) (i32 (i : Int)) s0 (i32 (top - 1)) (some 1001) g = lX11_isMet_6 K n 983 (i32 fo) (i32 nd) (i32 sh) (i32 top) (i32 ((i + 1 : Nat) : Int)) (sA g 1001 (top - 1).toNat (bI s0)) := fun s0 => by
    unfold jX11_isMet_102 jX11_isMet_177
    rw [oc_s, M.o_values, gd_tt, M.n_values, i32_inb (by omega) (by omega) (by omega), gd_tt, i32_cn (by omega) (by omega), bI_and, lt_e, lt_e, i32_add]
    rfl
  cases b with
  | false => rw [if_pos (show bI false = 0 from rfl), j]; rfl
  | true => rw [if_neg (show ¬ bI true = 0 by decide), j]; rfl
theorem isBin {g : HP} (I : IMt g A φ fo nd sh fr T) {i n o : Nat} (ho : o = 1 ∨ o = 2) {top : Int} {R : List Int32} (hd : T.drop i = opM o :: R) (t0 : 2 ≤ top) (t1 : top ≤ 300) {b c : Bool} (hb : hA g 1001 (top - 2).toNat = bI b) (hc : hA g 1001 (top - 1).toNat = bI c) : lX11_isMet_6 K (n + 1) 983 (i32 fo) (i32 nd) (i32 sh) (i32 top) (i32 (i : Int)) g = lX11_isMet_6 K n 983 (i32 fo) (i32 nd) (i32 sh) (i32 (top - 1)) (i32 ((i + 1 : Nat) : Int)) (sA g 1001 (top - 2).toNat (bI (opb o b c))) := by
  obtain ⟨il, pool, _⟩ := isTok I hd
  obtain ⟨M, i2, i3, i4, i5, i6, i7, i8, i9, i10, i11⟩ := I
  rw [elX11_isMet_6]; unfold bX11_isMet_6
  rw [M.o, gd_tt, of_s M (show 0 ≤ fo + 224 + nd by omega) (by omega), bn_s, i5, if_neg (by rw [i32_le (by omega) (by omega) (by omega) (by omega)]; omega), of_s M (show 0 ≤ fo + 192 + nd by omega) (by omega), bn_s, i6, M.r_pool, oc_s, M.o_pool, gd_tt, M.n_pool, i32_add, i32_inb (by omega) (by omega) (by omega), gd_tt, i32_cn (by omega) (by omega), pool, lt_e]
  have j : ∀ s0 : Bool, jX11_isMet_176 (fun v0 v1 v2 v3 v4 v5 h => lX11_isMet_6 K n v0 v1 v2 v3 v4 v5 h) 983 (i32 fo) (i32 nd) (i32 sh) (i32 (top - 1)) (i32 (i : Int)) s0 (i32 (top - 2)) (some 1001) g = lX11_isMet_6 K n 983 (i32 fo) (i32 nd) (i32 sh) (i32 (top - 1)) (i32 ((i + 1 : Nat) : Int)) (sA g 1001 (top - 2).toNat (bI s0)) := fun s0 => by
    unfold jX11_isMet_176 jX11_isMet_177
    rw [oc_s, M.o_values, gd_tt, M.n_values, i32_inb (by omega) (by omega) (by omega), gd_tt, i32_cn (by omega) (by omega), bI_and, lt_e, lt_e, i32_add]
    rfl
  have z0 : bI false = 0 := rfl
  have z1 : ¬ bI true = 0 := by decide
  rcases ho with q | q
  · subst q
    have so : fX11_sortOf (opM 1) g = some (i32 1) := by unfold fX11_sortOf; rfl
    rw [so, bn_s, if_neg (show ¬ i32 1 = 0 by decide), if_neg (show ¬ i32 1 = i32 3 by decide), i32_add, lt_e, M.r_values, oc_s, M.o_values, gd_tt, M.n_values, i32_sub, show top + -1 - 1 = top - 2 by omega, show top + -1 = top - 1 by omega, i32_inb (by omega) (by omega) (by omega), gd_tt, i32_cn (by omega) (by omega), lt_e, i32_inb (by omega) (by omega) (by omega), gd_tt, i32_cn (by omega) (by omega), lt_e, hb, hc, if_pos rfl]
    unfold jX11_isMet_157
    cases b with
    | false => rw [if_pos z0, j]; cases c <;> rfl
    | true =>
      rw [if_neg z1]
      cases c with
      | false => rw [if_pos z0, j]; rfl
      | true => rw [if_neg z1, j]; rfl
  · subst q
    have so : fX11_sortOf (opM 2) g = some (i32 2) := by unfold fX11_sortOf; rfl
    rw [so, bn_s, if_neg (show ¬ i32 2 = 0 by decide), if_neg (show ¬ i32 2 = i32 3 by decide), i32_add, lt_e, M.r_values, oc_s, M.o_values, gd_tt, M.n_values, i32_sub, show top + -1 - 1 = top - 2 by omega, show top + -1 = top - 1 by omega, i32_inb (by omega) (by omega) (by omega), gd_tt, i32_cn (by omega) (by omega), lt_e, i32_inb (by omega) (by omega) (by omega), gd_tt, i32_cn (by omega) (by omega), lt_e, hb, hc, if_neg (show ¬ i32 2 = i32 1 by decide)]
    unfold jX11_isMet_171
    cases b with
    | false =>
      rw [if_pos z0]
      cases c with
      | false => rw [if_pos z0, j]; rfl
      | true => rw [if_neg z1, j]; rfl
    | true => rw [if_neg z1, j]; cases c <;> rfl
/-- a condition is worked out on the stack -/
theorem isSeg : ∀ (d : Nat) (L : List Int32), GLt d L → ∀ (R : List Int32) (n i : Nat) (top : Int) (g : HP), IMt g A φ fo nd sh fr T → T.drop i = L ++ R → 0 ≤ top → top + d ≤ 300 → ∃ g', lX11_isMet_6 K (n + L.length) 983 (i32 fo) (i32 nd) (i32 sh) (i32 top) (i32 (i : Int)) g = lX11_isMet_6 K n 983 (i32 fo) (i32 nd) (i32 sh) (i32 (top + 1)) (i32 ((i + L.length : Nat) : Int)) g' ∧ Mo [1001] g g' ∧ hA g' 1001 top.toNat = bI (rv φ L) ∧ ∀ j : Nat, (j : Int) < top → hA g' 1001 j = hA g 1001 j := by
  intro d
  induction d with
  | zero => intro L z; exact z.elim
  | succ d ih =>
    intro L z R n i top g I hd t0 t1
    have t1' : top + d < 300 := by omega
    rcases z with ⟨f, s, v, f0, f1, s0, s1, v0, v1, rfl⟩ | ⟨L', w, rfl⟩ | ⟨o, ho, L0, Q, w, wq, rfl⟩
    · have e1 : rv φ [i32 (tcd f s v)] = tkB φ (i32 (tcd f s v)) := rv_of (fun st => by rw [rpn_one]; unfold stp; rw [if_pos (tT_c f0 (by omega) s0 s1 v0 v1)])
      refine ⟨sA g 1001 top.toNat (bI (tkB φ (i32 (tcd f s v)))), isTest I (n := n) hd f0 f1 s0 s1 v0 v1 t0 (by omega), Mo_A (by decide) _ _, ?_, fun j hj => ?_⟩
      · rw [rAA, if_pos ⟨rfl, rfl⟩, e1]
      · rw [rAA, if_neg (fun y => by omega)]
    · have e1 : rv φ (L' ++ [opM 3]) = !(rv φ L') := rv_of (fun st => by rw [rpn_app, GLt_rpn d _ w, rpn_one, stp_not])
      rw [List.append_assoc] at hd
      obtain ⟨g1, a1, a2, a3, a4⟩ := ih L' w ([opM 3] ++ R) (n + 1) i top g I hd t0 (by omega)
      have I1 := I.mo a2
      have hd1 : T.drop (i + L'.length) = opM 3 :: R := by
        have := List.drop_drop (i := L'.length) (j := i) (l := T)
        rw [hd, List.drop_left] at this
        first | exact this.symm | (rw [Nat.add_comm] at this; exact this.symm)
      have st := isNot (K := K) (n := n) I1 hd1 (top := top + 1) (by omega) (by omega) (b := rv φ L') (by rw [show top + 1 - 1 = top by omega]; exact a3)
      rw [show top + 1 - 1 = top by omega] at st
      refine ⟨sA g1 1001 top.toNat (bI (!(rv φ L'))), ?_, a2.t (Mo_A (by decide) _ _), ?_, fun j hj => ?_⟩
      · rw [List.length_append, show n + (L'.length + [opM 3].length) = n + 1 + L'.length by simp; omega, a1, st]
        rfl
      · rw [rAA, if_pos ⟨rfl, rfl⟩, e1]
      · rw [rAA, if_neg (fun y => by omega)]; exact a4 j hj
    · rw [List.append_assoc] at hd
      have loop : ∀ (Q : List (List Int32)), (∀ q ∈ Q, GLt d q) → ∀ (n i : Nat) (g : HP) (b : Bool), IMt g A φ fo nd sh fr T → T.drop i = (Q.map fun q => q ++ [opM o]).flatten ++ R → hA g 1001 top.toNat = bI b → ∃ g', lX11_isMet_6 K (n + ((Q.map fun q => q ++ [opM o]).flatten).length) 983 (i32 fo) (i32 nd) (i32 sh) (i32 (top + 1)) (i32 (i : Int)) g = lX11_isMet_6 K n 983 (i32 fo) (i32 nd) (i32 sh) (i32 (top + 1)) (i32 ((i + ((Q.map fun q => q ++ [opM o]).flatten).length : Nat) : Int)) g' ∧ Mo [1001] g g' ∧ hA g' 1001 top.toNat = bI (Q.foldl (fun b q => opb o b (rv φ q)) b) ∧ ∀ j : Nat, (j : Int) < top → hA g' 1001 j = hA g 1001 j := by
        intro Q
        induction Q with
        | nil =>
          intro _ n i g b I hd hb
          exact ⟨g, rfl, Mo.r, hb, fun _ _ => rfl⟩
        | cons q Q ihq =>
          intro hq n i g b I hd hb
          rw [List.map_cons, List.flatten_cons] at hd ⊢
          rw [List.append_assoc, List.append_assoc] at hd
          have wq := hq q List.mem_cons_self
          have d1 : 1 ≤ d := by
            cases d with
            | zero => exact wq.elim
            | succ d => omega
          obtain ⟨N, eN⟩ : ∃ N, N = ((Q.map fun q => q ++ [opM o]).flatten).length := ⟨_, rfl⟩
          obtain ⟨g1, a1, a2, a3, a4⟩ := ih q wq ([opM o] ++ ((Q.map fun q => q ++ [opM o]).flatten ++ R)) (n + N + 1) i (top + 1) g I hd (by omega) (by omega)
          have I1 := I.mo a2
          have hd1 : T.drop (i + q.length) = opM o :: ((Q.map fun q => q ++ [opM o]).flatten ++ R) := by
            have := List.drop_drop (i := q.length) (j := i) (l := T)
            rw [hd, List.drop_left] at this
            first | exact this.symm | (rw [Nat.add_comm] at this; exact this.symm)
          have st := isBin (K := K) (n := n + N) I1 ho hd1 (top := top + 1 + 1) (by omega) (by omega) (b := b) (c := rv φ q) (by rw [show top + 1 + 1 - 2 = top by omega, a4 top.toNat (by omega)]; exact hb) (by rw [show top + 1 + 1 - 1 = top + 1 by omega]; exact a3)
          rw [show top + 1 + 1 - 2 = top by omega, show top + 1 + 1 - 1 = top + 1 by omega] at st
          obtain ⟨g2, e2⟩ : ∃ g2, g2 = sA g1 1001 top.toNat (bI (opb o b (rv φ q))) := ⟨_, rfl⟩
          rw [← e2] at st
          have m2 : Mo [1001] g1 g2 := by rw [e2]; exact Mo_A (by decide) _ _
          obtain ⟨_, _, hd2⟩ := isTok I1 hd1
          obtain ⟨g', c1, c2, c3, c4⟩ := ihq (fun p hp => hq p (List.mem_cons_of_mem _ hp)) n (i + q.length + 1) g2 (opb o b (rv φ q)) (I1.mo m2) hd2 (by rw [e2, rAA, if_pos ⟨rfl, rfl⟩])
          rw [← eN] at c1
          refine ⟨g', ?_, (a2.t m2).t c2, c3, fun j hj => ?_⟩
          · have len : (q ++ [opM o] ++ (Q.map fun q => q ++ [opM o]).flatten).length = q.length + 1 + N := by
              rw [List.length_append, List.length_append, ← eN]; rfl
            rw [len, show n + (q.length + 1 + N) = n + N + 1 + q.length by omega, a1, st, c1, show i + q.length + 1 + N = i + (q.length + 1 + N) by omega]
          · rw [c4 j hj, e2, rAA, if_neg (fun y => by omega)]; exact a4 j (by omega)
      have e1 : rv φ (L0 ++ (Q.map fun q => q ++ [opM o]).flatten) = Q.foldl (fun b q => opb o b (rv φ q)) (rv φ L0) := rv_of (fun st => by
        have ch : ∀ (Q : List (List Int32)), (∀ q ∈ Q, GLt d q) → ∀ b st, rpn φ (Q.map fun q => q ++ [opM o]).flatten (b :: st) = (Q.foldl (fun b q => opb o b (rv φ q)) b) :: st := by
          intro Q
          induction Q with
          | nil => intro _ b st; rfl
          | cons q Q ihq =>
            intro h b st
            rw [List.map_cons, List.flatten_cons, rpn_app, rpn_app, GLt_rpn d q (h q List.mem_cons_self), rpn_one, stp_op ho, ihq (fun p hp => h p (List.mem_cons_of_mem _ hp))]
            rfl
        rw [rpn_app, GLt_rpn d _ w, ch Q wq])
      obtain ⟨N, eN⟩ : ∃ N, N = ((Q.map fun q => q ++ [opM o]).flatten).length := ⟨_, rfl⟩
      obtain ⟨g1, a1, a2, a3, a4⟩ := ih L0 w _ (n + N) i top g I hd t0 (by omega)
      have hd1 : T.drop (i + L0.length) = (Q.map fun q => q ++ [opM o]).flatten ++ R := by
        have := List.drop_drop (i := L0.length) (j := i) (l := T)
        rw [hd, List.drop_left] at this
        first | exact this.symm | (rw [Nat.add_comm] at this; exact this.symm)
      obtain ⟨g', c1, c2, c3, c4⟩ := loop Q wq n (i + L0.length) g1 (rv φ L0) (I.mo a2) hd1 a3
      rw [← eN] at c1
      refine ⟨g', ?_, a2.t c2, by rw [e1]; exact c3, fun j hj => by rw [c4 j hj]; exact a4 j hj⟩
      rw [List.length_append, ← eN, show n + (L0.length + N) = n + N + L0.length by omega, a1, c1, show i + L0.length + N = i + (L0.length + N) by omega]
/-- the model says whether a condition is met -/
theorem misMet {g : HP} (I : IMt g A φ fo nd sh fr T) (hT : T = [] ∨ GLt 15 T) : ∃ g', fX11_isMet 983 (i32 fo) (i32 nd) (i32 sh) g = some (rv φ T, g') ∧ Mo [1001] g g' := by
  have I0 := I
  obtain ⟨M, i2, i3, i4, i5, i6, i7, i8, i9, i10, i11⟩ := I
  have stop : ∀ (n : Nat) (top : Int) (g : HP), IMt g A φ fo nd sh fr T → ∀ K : Nat → Int32 → HP → Option (Bool × HP), lX11_isMet_6 K (n + 1) 983 (i32 fo) (i32 nd) (i32 sh) (i32 top) (i32 (T.length : Int)) g = K 983 (i32 top) g := fun n top g I K => by
    obtain ⟨M, i2, i3, i4, i5, i6, i7, i8, i9, i10, i11⟩ := I
    rw [elX11_isMet_6]; unfold bX11_isMet_6
    rw [M.o, gd_tt, of_s M (show 0 ≤ fo + 224 + nd by omega) (by omega), bn_s, i5, if_pos (by rw [i32_le (by omega) (by omega) (by omega) (by omega)]; omega)]
  unfold fX11_isMet
  rcases hT with q | q
  · have s := stop 999999 0 g I0
    rw [q] at s
    refine ⟨g, ?_, Mo.r⟩
    rw [show FU = 999999 + 1 from rfl]
    refine (s _).trans ?_
    rw [if_pos (show i32 0 = 0 from rfl), q]
    rfl
  · obtain ⟨g', a1, a2, a3, _⟩ := isSeg (K := fun w1 w2 h3 => if w2 = 0 then some (true, h3) else gd (isO h3 w1 11) <| oc (hR h3 736 w1) fun o5 => gd (isO h3 o5 22) <| gd (inb (i32 0) (hln h3 o5)) <| if (hA h3 o5 (i32 0).toNatClampNeg) = 0 then some (false, h3) else some (true, h3)) 15 T q [] (1000000 - T.length) 0 0 g I0 (by rw [List.drop_zero, List.append_nil]) (by omega) (by omega)
    refine ⟨g', ?_, a2⟩
    rw [show FU = 1000000 - T.length + T.length by have : FU = 1000000 := rfl; omega]
    refine Eq.trans a1 ?_
    rw [show 1000000 - T.length = (999999 - T.length) + 1 by omega, show 0 + T.length = T.length by omega, stop _ _ _ (I0.mo a2)]
    have M' := a2.ms M
    rw [if_neg (show ¬ i32 (0 + 1) = 0 by decide), M'.o, gd_tt, M'.r_values, oc_s, M'.o_values, gd_tt, M'.n_values, i32_inb (by omega) (by omega) (by omega), gd_tt, i32_cn (by omega) (by omega), a3]
    cases rv φ T with
    | false => rw [if_pos (show bI false = 0 from rfl)]
    | true => rw [if_neg (show ¬ bI true = 0 by decide)]
end

