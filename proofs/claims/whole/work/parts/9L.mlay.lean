/-! THE MODEL'S LAYOUT -/
def L7 : List Nat := [740, 741, 742, 743, 1003, 1004]
section
variable {h g : HP} {s : LYt} {F : Int → Int}
/-- the layout that the model holds -/
def LYm (h : HP) (s : LYt) : Prop := hI h 743 983 = i32 (lyM s) ∧ hI h 740 983 = i32 (lyR s) ∧ hI h 741 983 = i32 (lyC s) ∧ hI h 742 983 = bI (lyT s) ∧ ∀ n, 0 ≤ n → n < 32 → hA h 1003 n.toNat = i32 (lyX s n) ∧ (lyX s n ≠ -2 → hA h 1004 n.toNat = i32 (lyY s n))
theorem lBR_lBR (c d : Int) (s : LYt) : lBR c (lBR d s) = lBR c s := by
  unfold lBR
  have e : lyT (if lyT s = true then lyR s + 1 else lyR s, d, false, lyM s, lyX s, lyY s) = false := rfl
  rw [if_neg (show ¬ lyT (if lyT s = true then lyR s + 1 else lyR s, d, false, lyM s, lyX s, lyY s) = true by rw [e]; decide)]
  rfl
theorem mBR (M : MS g) (r : LYm g s) (c : Int) : ∃ g', fX11_rowAt 983 (i32 c) g = some g' ∧ Mo L7 g g' ∧ LYm g' (lBR c s) := by
  obtain ⟨r1, r2, r3, r4, r5⟩ := r
  have go : ∀ b : Bool, b = lyT s → ∃ g', jX11_rowAt_17 983 (i32 c) b (i32 (lyR s)) 983 g = some g' ∧ Mo L7 g g' ∧ LYm g' (lBR c s) := fun b eb => by
    obtain ⟨g1, e1⟩ : ∃ g1, g1 = sI g 740 983 (i32 (lyR s) + bI b) := ⟨_, rfl⟩
    obtain ⟨g2, e2⟩ : ∃ g2, g2 = sI g1 742 983 (i32 0) := ⟨_, rfl⟩
    obtain ⟨g3, e3⟩ : ∃ g3, g3 = sI g2 741 983 (i32 c) := ⟨_, rfl⟩
    have p1 : Mo L7 g g1 := by rw [e1]; exact Mo_I (by decide) _
    have p2 : Mo L7 g1 g2 := by rw [e2]; exact Mo_I (by decide) _
    have p3 : Mo L7 g2 g3 := by rw [e3]; exact Mo_I (by decide) _
    unfold jX11_rowAt_17
    rw [M.o, gd_tt, ← e1, lt_e, (p1.ms M).o, gd_tt, ← e2, lt_e, ← e3, lt_e]
    refine ⟨g3, rfl, p1.t (p2.t p3), ?_, ?_, ?_, ?_, fun n n0 n1 => ?_⟩
    · rw [e3, rII, if_neg (by omega), e2, rII, if_neg (by omega), e1, rII, if_neg (by omega)]; exact r1
    · rw [e3, rII, if_neg (by omega), e2, rII, if_neg (by omega), e1, rII, if_pos ⟨rfl, rfl⟩]
      show _ = i32 (if lyT s = true then lyR s + 1 else lyR s)
      rw [← eb]
      cases b with
      | false => rw [bI_ff, i32_add, if_neg (by decide), Int.add_zero]
      | true => rw [bI_tt, i32_add, if_pos rfl]
    · rw [e3, rII, if_pos ⟨rfl, rfl⟩]; rfl
    · rw [e3, rII, if_neg (by omega), e2, rII, if_pos ⟨rfl, rfl⟩]; rfl
    · rw [e3, rAI, e2, rAI, e1, rAI]; exact r5 n n0 n1
  unfold fX11_rowAt
  rw [M.o, gd_tt, r4, r2]
  cases t : lyT s with
  | false => rw [if_pos (show bI false = 0 from rfl)]; exact go false t.symm
  | true => rw [if_neg (show ¬ bI true = 0 by decide)]; exact go true t.symm
theorem mST (M : MS g) (r : LYm g s) {n : Int} (n0 : 0 ≤ n) (n1 : n < 32) : ∃ g', fX11_stands 983 (i32 n) g = some g' ∧ Mo L7 g g' ∧ LYm g' (lST n s) := by
  obtain ⟨r1, r2, r3, r4, r5⟩ := r
  obtain ⟨g1, e1⟩ : ∃ g1, g1 = sA g 1003 n.toNat (i32 (lyR s)) := ⟨_, rfl⟩
  obtain ⟨g2, e2⟩ : ∃ g2, g2 = sA g1 1004 n.toNat (i32 (lyC s)) := ⟨_, rfl⟩
  obtain ⟨g3, e3⟩ : ∃ g3, g3 = sI g2 742 983 (i32 1) := ⟨_, rfl⟩
  obtain ⟨g4, e4⟩ : ∃ g4, g4 = sI g3 743 983 (i32 (lyR s + 1)) := ⟨_, rfl⟩
  have p1 : Mo L7 g g1 := by rw [e1]; exact Mo_A (by decide) _ _
  have p2 : Mo L7 g1 g2 := by rw [e2]; exact Mo_A (by decide) _ _
  have p3 : Mo L7 g2 g3 := by rw [e3]; exact Mo_I (by decide) _
  have p4 : Mo L7 g3 g4 := by rw [e4]; exact Mo_I (by decide) _
  have M1 := p1.ms M
  have i741 : hI g1 741 983 = i32 (lyC s) := by rw [e1, rIA]; exact r3
  have i740 : hI g3 740 983 = i32 (lyR s) := by rw [e3, rII, if_neg (by omega), e2, rIA, e1, rIA]; exact r2
  unfold fX11_stands
  rw [M.o, gd_tt, M.r_rowOf, oc_s, M.o_rowOf, gd_tt, M.n_rowOf, i32_inb n0 (by omega) (by omega), gd_tt, i32_cn n0 (by omega), r2, ← e1, lt_e, M1.r_columnOf, oc_s, M1.o_columnOf, gd_tt, M1.n_columnOf, i32_inb n0 (by omega) (by omega), gd_tt, i741, ← e2, lt_e, ← e3, lt_e, i740, i32_add, ← e4, lt_e]
  refine ⟨g4, rfl, p1.t (p2.t (p3.t p4)), ?_, ?_, ?_, ?_, fun m m0 m1 => ?_⟩
  · rw [e4, rII, if_pos ⟨rfl, rfl⟩]; rfl
  · rw [e4, rII, if_neg (by omega), i740]; rfl
  · rw [e4, rII, if_neg (by omega), e3, rII, if_neg (by omega), e2, rIA, i741]; rfl
  · rw [e4, rII, if_neg (by omega), e3, rII, if_pos ⟨rfl, rfl⟩]; rfl
  · rw [e4, rAI, e3, rAI, e2, rAA, rAA, e1, rAA, rAA]
    show _ = i32 (updI (lyX s) n (lyR s) m) ∧ (updI (lyX s) n (lyR s) m ≠ -2 → _ = i32 (updI (lyY s) n (lyC s) m))
    by_cases w : m = n
    · rw [updI_at w, updI_at w, if_neg (by omega), if_pos ⟨rfl, by rw [w]⟩, if_pos ⟨rfl, by rw [w]⟩]
      exact ⟨rfl, fun _ => rfl⟩
    · rw [updI_ne w, updI_ne w, if_neg (by omega), if_neg (by omega), if_neg (by omega), if_neg (by omega)]
      exact r5 m m0 m1
/-- the groups that end -/
theorem mWH {K : Nat → Bool → Int32 → Int32 → Int32 → Int32 → Int32 → HP → Option HP} {pr : Bool} {fo w4 w5 : Int32} {d : Int} (d0 : 0 ≤ d) : ∀ (k n : Nat) (l : Int) (g : HP) (s : LYt), l = d + k → l ≤ 100 → k < n → MS g → LYm g s → ∃ g', lX11_laysOut_92 K n 983 pr fo (i32 l) w4 w5 (i32 d) g = K 983 pr fo (i32 d) w4 w5 (i32 d) g' ∧ Mo L7 g g' ∧ LYm g' (if d < l then lBR d s else s) := by
  intro k
  induction k with
  | zero =>
    intro n l g s e _ hn M r
    obtain ⟨n, rfl⟩ : ∃ x, n = x + 1 := ⟨n - 1, by omega⟩
    have el : l = d := by omega
    refine ⟨g, ?_, Mo.r, by rw [if_neg (by omega)]; exact r⟩
    rw [elX11_laysOut_92]; unfold bX11_laysOut_92
    rw [el, if_pos (by rw [i32_le (by omega) (by omega) (by omega) (by omega)]; omega)]
  | succ k ih =>
    intro n l g s e l1 hn M r
    obtain ⟨n, rfl⟩ : ∃ x, n = x + 1 := ⟨n - 1, by omega⟩
    obtain ⟨g1, x1, x2, x3⟩ := mBR M r (l + -1)
    obtain ⟨g2, y1, y2, y3⟩ := ih n (l + -1) g1 _ (by omega) (by omega) (by omega) (x2.ms M) x3
    refine ⟨g2, ?_, x2.t y2, ?_⟩
    · rw [elX11_laysOut_92]; unfold bX11_laysOut_92
      rw [if_neg (by rw [i32_le (by omega) (by omega) (by omega) (by omega)]; omega), i32_add, lt_e, M.o, gd_tt, x1, bn_s]
      exact y1
    · rw [if_pos (show d < l by omega)]
      by_cases c : d < l + -1
      · rw [if_pos c, lBR_lBR] at y3; exact y3
      · rw [if_neg c, show l + -1 = d by omega] at y3; exact y3
/-- a field is placed -/
theorem mFD (M : MS g) (r : LYm g s) {fo m d w cols i : Int} (pr ap : Bool) (h0 : 0 ≤ fo) (h1 : fo ≤ 2588) (m0 : 0 ≤ m) (m1 : m < 24) (ew : Fm g fo (160 + m) = w) (w0 : 1 ≤ w) (w1 : w ≤ 10) (c0 : 0 ≤ cols) (c1 : cols ≤ 60) (d0 : 0 ≤ d) (d1 : d ≤ 9) (hc : hA g 985 (if pr = true then 1 else 0) = i32 cols) (hap : ap = (pr && decide (0 < Fm g fo (224 + m)))) (q0 : 0 ≤ Fm g fo (224 + m)) (q1 : Fm g fo (224 + m) ≤ 12000) (b : 0 ≤ lyC s ∧ lyC s ≤ 1000) : ∃ g', fX11_placesField 983 pr (i32 fo) (i32 m) (i32 d) g = some g' ∧ Mo L7 g g' ∧ LYm g' (lFD m d w cols ap s) := by
  have eFm : ∀ g2, Mo L7 g g2 → Fm g2 fo = Fm g fo := fun g2 p => by funext q; unfold Fm Wm; rw [p.L (by decide)]
  have e59 : ∀ (g2 : HP) (s2 : LYt), Mo L7 g g2 → LYm g2 s2 → ∃ g', jX11_placesField_59 983 (i32 fo) (i32 m) g2 = some g' ∧ Mo L7 g g' ∧ LYm g' (lCO (w + 1) (lST m s2)) := fun g2 s2 p r2 => by
    have M2 := p.ms M
    obtain ⟨g3, y1, y2, y3⟩ := mST M2 r2 m0 (show m < 32 by omega)
    have q3 := p.t y2
    have M3 := q3.ms M
    obtain ⟨g4, e4⟩ : ∃ g4, g4 = sI g3 741 983 (i32 (lyC (lST m s2) + (w + 1))) := ⟨_, rfl⟩
    have p4 : Mo L7 g3 g4 := by rw [e4]; exact Mo_I (by decide) _
    refine ⟨g4, ?_, q3.t p4, ?_, ?_, ?_, ?_, fun j j0 j1 => ?_⟩
    · unfold jX11_placesField_59
      rw [M2.o, gd_tt, y1, bn_s, M3.o, gd_tt, of_s M3 (show 0 ≤ fo + 160 + m by omega) (by omega), bn_s, eFm g3 q3, ew, y3.2.2.1, i32_add, i32_add, ← e4, lt_e]
    · rw [e4, rII, if_neg (by omega)]; exact y3.1
    · rw [e4, rII, if_neg (by omega)]; exact y3.2.1
    · rw [e4, rII, if_pos ⟨rfl, rfl⟩]; rfl
    · rw [e4, rII, if_neg (by omega)]; exact y3.2.2.2.1
    · rw [e4, rAI]; exact y3.2.2.2.2 j j0 j1
  have e22 : ∀ (g2 : HP) (s2 : LYt), Mo L7 g g2 → LYm g2 s2 → 0 ≤ lyC s2 → lyC s2 ≤ 1000 → ∃ g', jX11_placesField_22 983 pr (i32 fo) (i32 m) (i32 d) g2 = some g' ∧ Mo L7 g g' ∧ LYm g' (lCO (w + 1) (lST m (if cols < lyC s2 + w then lBR d s2 else s2))) := fun g2 s2 p r2 b0 b1 => by
    have M2 := p.ms M
    have sz : hA g2 985 (if pr = true then 1 else 0) = i32 cols := by rw [p.A (by decide)]; exact hc
    have e49 : ∀ b : Bool, b = pr → ∃ g', jX11_placesField_49 983 (i32 fo) (i32 m) (i32 d) b (some 985) (i32 (lyC s2 + w)) g2 = some g' ∧ Mo L7 g g' ∧ LYm g' (lCO (w + 1) (lST m (if cols < lyC s2 + w then lBR d s2 else s2))) := fun b eb => by
      have ib : inb (bI b) 3 = true := by cases b <;> decide
      have cb : (bI b).toNatClampNeg = if pr = true then 1 else 0 := by
        rw [← eb]; cases b <;> rfl
      unfold jX11_placesField_49
      rw [oc_s, M2.o_sizes, gd_tt, M2.n_sizes, ib, gd_tt, cb, sz]
      by_cases c : cols < lyC s2 + w
      · obtain ⟨g3, y1, y2, y3⟩ := mBR M2 r2 d
        obtain ⟨g4, z1, z2⟩ := e59 g3 _ (p.t y2) y3
        rw [if_neg (by rw [i32_le (by omega) (by omega) (by omega) (by omega)]; omega), M2.o, gd_tt, y1, bn_s, if_pos c]
        exact ⟨g4, z1, z2⟩
      · rw [if_pos (by rw [i32_le (by omega) (by omega) (by omega) (by omega)]; omega), if_neg c]
        exact e59 g2 s2 p r2
    unfold jX11_placesField_22
    rw [M2.o, gd_tt, of_s M2 (show 0 ≤ fo + 160 + m by omega) (by omega), bn_s, eFm g2 p, ew, M2.r_sizes, r2.2.2.1, i32_add]
    cases pr with
    | true => rw [if_pos rfl]; exact e49 true rfl
    | false => rw [if_neg (by decide)]; exact e49 false rfl
  unfold fX11_placesField lFD
  cases pr with
  | true =>
    rw [if_pos rfl, M.o, gd_tt, of_s M (show 0 ≤ fo + 224 + m by omega) (by omega), bn_s]
    by_cases c : 0 < Fm g fo (224 + m)
    · have ha : ap = true := by rw [hap, decide_eq_true c]; rfl
      obtain ⟨g1, y1, y2, y3⟩ := mBR M r d
      obtain ⟨g2, z1, z2, z3⟩ := e22 g1 _ y2 y3 (show 0 ≤ d from d0) (show d ≤ 1000 by omega)
      rw [if_neg (by rw [i32_z, i32_le (by omega) (by omega) (by omega) (by omega)]; omega), y1, bn_s, if_pos (Or.inl ha)]
      refine ⟨g2, z1, z2, ?_⟩
      rw [lBR_lBR] at z3
      by_cases e : cols < lyC (lBR d s) + w
      · rw [if_pos e] at z3; exact z3
      · rw [if_neg e] at z3; exact z3
    · have ha : ap = false := by rw [hap, decide_eq_false c]; rfl
      rw [if_pos (by rw [i32_z, i32_le (by omega) (by omega) (by omega) (by omega)]; omega), ha]
      obtain ⟨g2, z1, z2, z3⟩ := e22 g s Mo.r r b.1 b.2
      refine ⟨g2, z1, z2, ?_⟩
      by_cases e : cols < lyC s + w
      · rw [if_pos e] at z3; rw [if_pos (Or.inr e)]; exact z3
      · rw [if_neg e] at z3; rw [if_neg (fun z => z.elim (by decide) e)]; exact z3
  | false =>
    have ha : ap = false := by rw [hap, Bool.false_and]
    rw [if_neg (by decide), ha]
    obtain ⟨g2, z1, z2, z3⟩ := e22 g s Mo.r r b.1 b.2
    refine ⟨g2, z1, z2, ?_⟩
    by_cases e : cols < lyC s + w
    · rw [if_pos e] at z3; rw [if_pos (Or.inr e)]; exact z3
    · rw [if_neg e] at z3; rw [if_neg (fun z => z.elim (by decide) e)]; exact z3
end

