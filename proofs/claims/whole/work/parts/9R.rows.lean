/-! ROWS, PLACES, PAGES -/
section
variable {h g : HP} {k : Nat}
/-- the layout's numbers -/
def LYn (L : LYt) : Prop := (∀ n, (lyX L n = -2 ∧ lyY L n = -2) ∨ (0 ≤ lyX L n ∧ lyX L n ≤ 128 ∧ 0 ≤ lyY L n ∧ lyY L n ≤ 372)) ∧ 0 ≤ lyM L ∧ lyM L ≤ 129
theorem laydn {F : Int → Int} (t : TR F) (kd : KD F) {L : LYt} (d : LAYD F L) : LYn L := by
  obtain ⟨⟨q1, q2, q3, q4⟩, c⟩ := laydq t kd d
  have o2 := t.ov.2.1
  have a : ∀ n, (lyX L n = -2 ∧ lyY L n = -2) ∨ (0 ≤ lyX L n ∧ lyX L n ≤ 128 ∧ 0 ≤ lyY L n ∧ lyY L n ≤ 372) := fun n => by
    rcases q3 n with z | z
    · exact Or.inl z
    · right; omega
  exact ⟨a, by
    have := chn_M (F := F) 128 _ _ _ _ c (by omega) (by omega) (fun j => by have := a j; omega)
    omega⟩
theorem rd_rows (R : RR h k) (hk : k ≤ 512) (pr : Bool) (p : Int32) : ∃ o g g', fX10_rows 0 pr p h = some (o, g) ∧ fX11_rows 983 pr p g = some (o, g') ∧ RR g' (k + 1) := by
  obtain ⟨q, h1, h2, rfl⟩ := i32_ex p
  rcases laid R hk pr h1 h2 with ⟨a, b⟩ | ⟨r, L, φ, hr, ld, e1, e2, ⟨g, a1, a2, a3, a4, a5, a6, a7⟩, mm⟩
  · refine ⟨i32 (-1), h, h, ?_, ?_, RR_up R (by omega)⟩
    · unfold fX10_rows
      rw [R.C.o, gd_tt, a, bn2_s, on_nn]
    · unfold fX11_rows
      rw [R.M.o, gd_tt, b, bn2_s, if_neg (by decide)]
  · obtain ⟨m, b1, b2, b3, b4, b5, b6, b7⟩ := mm g a2 a3 a4 a5
    have Cg := a2.C
    refine ⟨i32 (lyM L), g, m, ?_, ?_, RR_up b2 (by omega)⟩
    · unfold fX10_rows
      rw [R.C.o, gd_tt, a1, bn2_s, on_sm, Cg.o, gd_tt, Cg.r_layout, oc_s, Cg.o_layout, gd_tt, a6.1]
    · unfold fX11_rows
      rw [a2.M.o, gd_tt, b1, bn2_s, if_pos rfl, b2.M.o, gd_tt, b6.1]
theorem rowOf_s (C : CS g) {L : LYt} (y : LYr g L) {n : Int} (n0 : 0 ≤ n) (n1 : n < 32) : fX1_rowOf 111 (i32 n) g = some (i32 (lyX L n)) ∧ fX1_columnOf 111 (i32 n) g = some (i32 (lyY L n)) := by
  have z := y.2.2.2.2 n n0 n1
  constructor
  · unfold fX1_rowOf
    rw [if_neg (by rw [i32_z, i32_lt (by omega) (by omega) (by omega) (by omega)]; omega), if_neg (by rw [i32_le (by omega) (by omega) (by omega) (by omega)]; omega), C.o_layout, gd_tt, C.r_nrows, oc_s, C.o_nrows, gd_tt, C.n_nrows, i32_inb n0 (by omega) (by omega), gd_tt, i32_cn n0 (by omega), z.1]
  · unfold fX1_columnOf
    rw [if_neg (by rw [i32_z, i32_lt (by omega) (by omega) (by omega) (by omega)]; omega), if_neg (by rw [i32_le (by omega) (by omega) (by omega) (by omega)]; omega), C.o_layout, gd_tt, C.r_ncols, oc_s, C.o_ncols, gd_tt, C.n_ncols, i32_inb n0 (by omega) (by omega), gd_tt, i32_cn n0 (by omega), z.2]
theorem rd_place (R : RR h k) (hk : k ≤ 512) (pr : Bool) (p u : Int32) (co : Bool) : ∃ o g g', fX10_place 0 pr p u co h = some (o, g) ∧ fX11_place 983 pr p u co g = some (o, g') ∧ RR g' (k + 1) := by
  obtain ⟨q, h1, h2, rfl⟩ := i32_ex p
  obtain ⟨n, h3, h4, rfl⟩ := i32_ex u
  rcases laid R hk pr h1 h2 with ⟨a, b⟩ | ⟨r, L, φ, hr, ld, e1, e2, ⟨g, a1, a2, a3, a4, a5, a6, a7⟩, mm⟩
  · refine ⟨i32 (-1), h, h, ?_, ?_, RR_up R (by omega)⟩
    · unfold fX10_place
      rw [R.C.o, gd_tt, a, bn2_s, on_nn]
    · unfold fX11_place
      rw [R.M.o, gd_tt, b, bn2_s, if_neg (by decide)]
  · obtain ⟨m, b1, b2, b3, b4, b5, b6, b7⟩ := mm g a2 a3 a4 a5
    have Cg := a2.C
    have Mm := b2.M
    obtain ⟨npg, srg, hng⟩ := a2.sr
    have r8 : r < 8 := by have := R.sr; obtain ⟨_, s, _⟩ := this; have := s.2.1.2.2; omega
    have fx := srg.2.2.2.1 r (by rw [a3]; exact hr)
    rw [a3] at fx
    have A : FormAt g (115 + 36 * r) := Cg.rev r8
    obtain ⟨ln, -, -⟩ := laydn fx.tr fx.kd ld
    have fl : fX11_formLaid 983 pr (i32 q) m = some (i32 (292 * (1 + (r : Int)))) := formLaid_s Mm e1 (fun z => by rw [b3, a3]; exact (e2 z).1)
    have hs : fX11_has 983 (i32 (292 * (1 + (r : Int)))) (i32 n) m = some (decide (0 ≤ n ∧ n < 32 ∧ Wf (Wm h) (292 * (1 + (r : Int))) n ≠ -1)) := by
      rw [has_s Mm (by omega) (by omega) h3 h4]
      unfold Fm Wf
      rw [b3, a3]
    by_cases c : 0 ≤ n ∧ n < 32 ∧ Wf (Wm h) (292 * (1 + (r : Int))) n ≠ -1
    · obtain ⟨s1, s2⟩ := rowOf_s Cg a6 c.1 c.2.1
      have y := b6.2.2.2.2 n c.1 c.2.1
      have lv := ln n
      refine ⟨i32 (if co = true then lyY L n else lyX L n), g, m, ?_, ?_, RR_up b2 (by omega)⟩
      · unfold fX10_place
        rw [R.C.o, gd_tt, a1, bn2_s, on_sm, A.o, gd_tt, x_find A fx h3 h4, bn_s, fnx_y c, on_sm]
        cases co with
        | true => rw [if_pos rfl, if_pos rfl, Cg.o, gd_tt, Cg.r_layout, oc_s, Cg.o_layout, gd_tt, s2, bn_s]
        | false => rw [if_neg (by decide), if_neg (by decide), Cg.o, gd_tt, Cg.r_layout, oc_s, Cg.o_layout, gd_tt, s1, bn_s]
      · unfold fX11_place
        rw [a2.M.o, gd_tt, b1, bn2_s, if_pos rfl, Mm.o, gd_tt, fl, bn_s, hs, bn_s, decide_eq_true c, if_pos rfl, Mm.r_rowOf, oc_s, Mm.o_rowOf, gd_tt, Mm.n_rowOf, i32_inb c.1 (by omega) (by omega), gd_tt, i32_cn c.1 (by omega), y.1, i32_z]
        rcases lv with ⟨z1, z2⟩ | ⟨z1, z2, z3, z4⟩
        · rw [if_neg (by rw [i32_le (by omega) (by omega) (by omega) (by omega)]; omega), z1, z2, ite_self]
        · rw [if_pos (by rw [i32_le (by omega) (by omega) (by omega) (by omega)]; omega)]
          cases co with
          | true => rw [if_pos rfl, if_pos rfl, Mm.r_columnOf, oc_s, Mm.o_columnOf, gd_tt, Mm.n_columnOf, i32_inb c.1 (by omega) (by omega), gd_tt, y.2 (by omega)]
          | false => rw [if_neg (by decide), if_neg (by decide), gd_tt]
    · refine ⟨i32 (-1), g, m, ?_, ?_, RR_up b2 (by omega)⟩
      · unfold fX10_place
        rw [R.C.o, gd_tt, a1, bn2_s, on_sm, A.o, gd_tt, x_find A fx h3 h4, bn_s, fnx_n c, on_nn]
      · unfold fX11_place
        rw [a2.M.o, gd_tt, b1, bn2_s, if_pos rfl, Mm.o, gd_tt, fl, bn_s, hs, bn_s, decide_eq_false c, if_neg (by decide)]
theorem rd_pages (R : RR h k) (hk : k ≤ 512) (p : Int32) : ∃ o g g', fX10_pages 0 p h = some (o, g) ∧ fX11_pages 983 p g = some (o, g') ∧ RR g' (k + 1) := by
  obtain ⟨q, h1, h2, rfl⟩ := i32_ex p
  rcases laid R hk true h1 h2 with ⟨a, b⟩ | ⟨r, L, φ, hr, ld, e1, e2, ⟨g, a1, a2, a3, a4, a5, a6, a7⟩, mm⟩
  · refine ⟨i32 (-1), h, h, ?_, ?_, RR_up R (by omega)⟩
    · unfold fX10_pages
      rw [R.C.o, gd_tt, a, bn2_s, on_nn]
    · unfold fX11_pages
      rw [R.M.o, gd_tt, b, bn2_s, if_neg (by decide)]
  · obtain ⟨m, b1, b2, b3, b4, b5, b6, b7⟩ := mm g a2 a3 a4 a5
    have Cg := a2.C
    have Mm := b2.M
    obtain ⟨npg, srg, hng⟩ := a2.sr
    have r8 : r < 8 := by have := R.sr; obtain ⟨_, s, _⟩ := this; have := s.2.1.2.2; omega
    have fx := srg.2.2.2.1 r (by rw [a3]; exact hr)
    have A : FormAt g (115 + 36 * r) := Cg.rev r8
    obtain ⟨zs, zp, zq, d0, d1, d2, _, _, zq0, zq1⟩ := a2.2.2.2.2.1
    have i2 : hI g 2 (115 + 36 * r) = i32 zq := fx.2.2.2.2.trans d2
    have m2 : hA m 985 2 = i32 zq := by rw [b5]; exact d2
    have nzq : nz (i32 zq) = true := by
      unfold nz
      rw [decide_eq_true_eq, i32_z, i32_eq (by omega) (by omega) (by omega) (by omega)]
      omega
    refine ⟨(i32 (lyM L) + i32 zq - i32 1) / i32 zq, g, m, ?_, ?_, RR_up b2 (by omega)⟩
    · unfold fX10_pages
      rw [R.C.o, gd_tt, a1, bn2_s, on_sm, A.o, gd_tt, i2, if_pos (by rw [i32_le (by omega) (by omega) (by omega) (by omega)]; omega), Cg.o, gd_tt, Cg.r_layout, oc_s, Cg.o_layout, gd_tt, nzq, gd_tt, a6.1]
    · unfold fX11_pages
      rw [a2.M.o, gd_tt, b1, bn2_s, if_pos rfl, Mm.o, gd_tt, Mm.r_sizes, oc_s, Mm.o_sizes, gd_tt, Mm.n_sizes, i32_inb (by omega) (by omega) (by omega), gd_tt, gd_tt, i32_cn (by omega) (by omega), show ((2 : Int)).toNat = 2 from rfl, m2, nzq, gd_tt, b6.1]
end

