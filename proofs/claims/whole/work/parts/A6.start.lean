/-! THE START: the class's object -/
section
variable {h g k : HP} {n m e t f u a x ty : Nat}
theorem revsL {K : Nat → HP → Option HP} : ∀ (d m i : Nat) (f : HP), i + d = 8 → d < m → isO f 0 10 = true → hsz f = 115 + 36 * i → hR f 644 0 = some 60 → isO f 60 30 = true → hln f 60 = 8 → (∀ q, q < i → hQ f 60 q = some (115 + 36 * q) ∧ FormAt f (115 + 36 * q)) → ∃ g, lX10_init_105 K m 0 (i32 (i : Int)) f = K 0 g ∧ Kf 115 60 115 0 f g ∧ isO g 60 30 = true ∧ hln g 60 = 8 ∧ hsz g = 403 ∧ hsl g = hsl f + 425 * d ∧ ∀ q, q < 8 → hQ g 60 q = some (115 + 36 * q) ∧ FormAt g (115 + 36 * q) := by
  intro d
  induction d with
  | zero =>
    intro m i f hi hm o z r oN nN H
    obtain ⟨m, rfl⟩ : ∃ y, m = y + 1 := ⟨m - 1, by omega⟩
    refine ⟨f, ?_, Kf.r, oN, nN, by omega, rfl, fun q hq => H q (by omega)⟩
    rw [elX10_init_105]; unfold bX10_init_105
    rw [if_pos (by rw [i32_le (by omega) (by omega) (by omega) (by omega)]; omega)]
  | succ d ih =>
    intro m i f hi hm o z r oN nN H
    obtain ⟨m, rfl⟩ : ∃ y, m = y + 1 := ⟨m - 1, by omega⟩
    obtain ⟨f0, x1, x2, x3, x4, x5, -⟩ := form_new z
    obtain ⟨f1, e1⟩ : ∃ f1, f1 = sQ f0 60 i (some (115 + 36 * i)) := ⟨_, rfl⟩
    have k1 : Kf (115 + 36 * i) 60 (115 + 36 * i) 0 f f1 := by
      rw [e1]
      exact (x2.w (m := 115 + 36 * i) (e' := 60) (t' := 115 + 36 * i) (f' := 0) (Nat.le_refl _) (Or.inr (Nat.le_refl _)) (Or.inl (Nat.le_refl _))).tr (kf_sQ (n := 115 + 36 * i) (e := 60) (t := 115 + 36 * i) (f := 0) (Or.inr rfl)) (Nat.le_refl _) (Or.inl rfl) (Or.inl (Nat.le_refl _))
    have k2 : Kf (115 + 36 * i + 36) 60 (115 + 36 * i + 36) 0 f0 f1 := by rw [e1]; exact kf_sQ (Or.inr rfl)
    have oN0 : isO f0 60 30 = true := x2.O oN (by omega) (by omega)
    have n0 : hln f0 60 = 8 := x2.N nN (by omega) (by omega)
    obtain ⟨g, a1, a2, a3, a4, a5, a6, a7⟩ := ih m (i + 1) f1 (by omega) (by omega) (k1.O o (by omega) (by omega)) (by rw [e1]; show hsz f0 = _; omega) (k1.R r (by omega) (by omega) (by omega)) (by rw [e1]; exact isO_sQ rfl oN0) (by rw [e1]; exact n0) (fun q hq => by
      by_cases y : q = i
      · subst y
        exact ⟨by rw [e1, rQQ, if_pos ⟨rfl, rfl⟩], x5.kf k2 (by omega) (by omega) (by omega)⟩
      · obtain ⟨b1, b2⟩ := H q (by omega)
        refine ⟨?_, b2.kf k1 (by omega) (by omega) (by omega)⟩
        rw [e1, rQQ, if_neg (by omega)]; exact x2.Q b1 (by omega) (by omega))
    refine ⟨g, ?_, (k1.w (m := 115) (e' := 60) (t' := 115) (f' := 0) (by omega) (Or.inl rfl) (Or.inl (by omega))).tr a2 (Nat.le_refl _) (Or.inl rfl) (Or.inr ⟨rfl, Nat.le_refl _⟩), a3, a4, a5, ?_, a7⟩
    · rw [elX10_init_105]; unfold bX10_init_105
      rw [if_neg (by rw [i32_le (by omega) (by omega) (by omega) (by omega)]; omega), o, gd_tt, lt_e, z, lt_e, x1, bn_s, r, oc_s, oN0, gd_tt, n0, i32_inb (by omega) (by omega) (by omega), gd_tt, x5.o, gd_tt, i32_cn (by omega) (by omega), show ((i : Int)).toNat = i from rfl, ← e1, lt_e, lt_e, i32_add]
      exact a1
    · rw [a6, e1]
      show hsl f0 + 425 * d = _
      omega
theorem pastL : ∀ (d m i : Nat) (f : HP), i + d = 10 → d < m → isO f 0 10 = true → hsz f = 403 + 58 * i → hR f 645 0 = some 61 → isO f 61 35 = true → hln f 61 = 10 → (∀ q, q < i → hQ f 61 q = some (403 + 58 * q) ∧ StateAt f (403 + 58 * q)) → ∃ g, lX10_init_132 m 0 (i32 (i : Int)) f = some g ∧ Kf 403 61 403 0 f g ∧ isO g 61 35 = true ∧ hln g 61 = 10 ∧ hsz g = 983 ∧ hsl g = hsl f + 699 * d ∧ ∀ q, q < 10 → hQ g 61 q = some (403 + 58 * q) ∧ StateAt g (403 + 58 * q) := by
  intro d
  induction d with
  | zero =>
    intro m i f hi hm o z r oN nN H
    obtain ⟨m, rfl⟩ : ∃ y, m = y + 1 := ⟨m - 1, by omega⟩
    refine ⟨f, ?_, Kf.r, oN, nN, by omega, rfl, fun q hq => H q (by omega)⟩
    rw [elX10_init_132]; unfold bX10_init_132
    rw [if_pos (by rw [i32_le (by omega) (by omega) (by omega) (by omega)]; omega)]
  | succ d ih =>
    intro m i f hi hm o z r oN nN H
    obtain ⟨m, rfl⟩ : ∃ y, m = y + 1 := ⟨m - 1, by omega⟩
    obtain ⟨f0, x1, x2, x3, x4, x5, -⟩ := state_new z
    obtain ⟨f1, e1⟩ : ∃ f1, f1 = sQ f0 61 i (some (403 + 58 * i)) := ⟨_, rfl⟩
    have k1 : Kf (403 + 58 * i) 61 (403 + 58 * i) 0 f f1 := by
      rw [e1]
      exact (x2.w (m := 403 + 58 * i) (e' := 61) (t' := 403 + 58 * i) (f' := 0) (Nat.le_refl _) (Or.inr (Nat.le_refl _)) (Or.inl (Nat.le_refl _))).tr (kf_sQ (n := 403 + 58 * i) (e := 61) (t := 403 + 58 * i) (f := 0) (Or.inr rfl)) (Nat.le_refl _) (Or.inl rfl) (Or.inl (Nat.le_refl _))
    have k2 : Kf (403 + 58 * i + 58) 61 (403 + 58 * i + 58) 0 f0 f1 := by rw [e1]; exact kf_sQ (Or.inr rfl)
    have oN0 : isO f0 61 35 = true := x2.O oN (by omega) (by omega)
    have n0 : hln f0 61 = 10 := x2.N nN (by omega) (by omega)
    obtain ⟨g, a1, a2, a3, a4, a5, a6, a7⟩ := ih m (i + 1) f1 (by omega) (by omega) (k1.O o (by omega) (by omega)) (by rw [e1]; show hsz f0 = _; omega) (k1.R r (by omega) (by omega) (by omega)) (by rw [e1]; exact isO_sQ rfl oN0) (by rw [e1]; exact n0) (fun q hq => by
      by_cases y : q = i
      · subst y
        exact ⟨by rw [e1, rQQ, if_pos ⟨rfl, rfl⟩], x5.kf k2 (by omega) (by omega) (by omega)⟩
      · obtain ⟨b1, b2⟩ := H q (by omega)
        refine ⟨?_, b2.kf k1 (by omega) (by omega) (by omega)⟩
        rw [e1, rQQ, if_neg (by omega)]; exact x2.Q b1 (by omega) (by omega))
    refine ⟨g, ?_, (k1.w (m := 403) (e' := 61) (t' := 403) (f' := 0) (by omega) (Or.inl rfl) (Or.inl (by omega))).tr a2 (Nat.le_refl _) (Or.inl rfl) (Or.inr ⟨rfl, Nat.le_refl _⟩), a3, a4, a5, ?_, a7⟩
    · rw [elX10_init_132]; unfold bX10_init_132
      rw [if_neg (by rw [i32_le (by omega) (by omega) (by omega) (by omega)]; omega), o, gd_tt, lt_e, z, lt_e, x1, bn_s, r, oc_s, oN0, gd_tt, n0, i32_inb (by omega) (by omega) (by omega), gd_tt, x5.o, gd_tt, i32_cn (by omega) (by omega), show ((i : Int)).toNat = i from rfl, ← e1, lt_e, lt_e, i32_add]
      exact a1
    · rw [a6, e1]
      show hsl f0 + 699 * d = _
      omega
/-- a new array of a view, a layout -/
theorem view_new (z : hsz h = 109) : ∃ g, fX8_init 109 (nw h 8 0 3) = some g ∧ Kf 109 109 109 0 h g ∧ hsz g = 111 ∧ hsl g = hsl h + 27 ∧ isO g 109 8 = true ∧ hR g 514 109 = some 110 ∧ isO g 110 20 = true ∧ hln g 110 = 24 := by
  obtain ⟨h0, e0⟩ : ∃ h0, h0 = nw h 8 0 3 := ⟨_, rfl⟩
  have o0 : isO h0 109 8 = true := by rw [e0]; exact isO_new z rfl
  have z0 : hsz h0 = 110 := by rw [e0]; show hsz h + 1 = _; omega
  have k0 : Kf 109 109 109 0 h h0 := by rw [e0]; exact kf_nw (by omega)
  have s0 : hsl h0 = hsl h + 3 := by rw [e0]; rfl
  rw [← e0]
  unfold fX8_init
  refine st_alG (l := 24) (by decide) (by decide) z0 (by omega) o0 (fun g1 A1 => ?_)
  obtain ⟨b1, b2, b3, b4, b5, -, b7⟩ := A1
  exact ⟨g1, rfl, k0.tr b7 (by omega) (by omega) (by omega), by omega, by omega, b7.O o0 (by omega) (by omega), b3, b4, b5⟩
theorem layout_new (z : hsz h = 111) : ∃ g, fX1_init 111 (nw h 1 0 6) = some g ∧ Kf 111 111 111 0 h g ∧ hsz g = 114 ∧ hsl g = hsl h + 70 ∧ isO g 111 1 = true ∧ (hR g 68 111 = some 112 ∧ isO g 112 20 = true ∧ hln g 112 = 32) ∧ (hR g 69 111 = some 113 ∧ isO g 113 20 = true ∧ hln g 113 = 32) := by
  obtain ⟨h0, e0⟩ : ∃ h0, h0 = nw h 1 0 6 := ⟨_, rfl⟩
  have o0 : isO h0 111 1 = true := by rw [e0]; exact isO_new z rfl
  have z0 : hsz h0 = 112 := by rw [e0]; show hsz h + 1 = _; omega
  have k0 : Kf 111 111 111 0 h h0 := by rw [e0]; exact kf_nw (by omega)
  have s0 : hsl h0 = hsl h + 6 := by rw [e0]; rfl
  rw [← e0]
  unfold fX1_init
  refine st_alG (l := 32) (by decide) (by decide) z0 (by omega) o0 (fun g1 A1 => ?_)
  obtain ⟨b1, b2, b3, b4, b5, -, b7⟩ := A1
  refine st_al (l := 32) (by decide) (by decide) b1 (by omega) (fun g2 A2 => ?_)
  obtain ⟨c1, c2, c3, c4, c5, -, c7⟩ := A2
  exact ⟨g2, rfl, (k0.tr b7 (by omega) (by omega) (by omega)).tr c7 (by omega) (by omega) (by omega), by omega, by omega, c7.O (b7.O o0 (by omega) (by omega)) (by omega) (by omega), ⟨c7.R b3 (by omega) (by omega) (by omega), c7.O b4 (by omega) (by omega), c7.N b5 (by omega) (by omega)⟩, c3, c4, c5⟩
theorem class_new (z : hsz h = 1) (o : isO h 0 10 = true) (i0 : ∀ u, hI h u 0 = 0) : ∃ g, fX10_init 0 h = some g ∧ hsz g = 983 ∧ hsl g = hsl h + 22463 ∧ CS g ∧ KW g ∧ FZ g 3 ∧ hI g 641 0 = 0 ∧ hI g 642 0 = i32 (-2) ∧ hI g 646 0 = 0 ∧ hI g 647 0 = 0 ∧ hI g 321 2 = 0 ∧ hI g 322 2 = 0 := by
  unfold fX10_init
  refine st_alG (l := 1200) (by decide) (by decide) z (by omega) o (fun g1 A1 => ?_)
  obtain ⟨z1, s1, r1, o1, n1, ⟨-, -, -, j1⟩, k1⟩ := A1
  have b1 : isO g1 0 10 = true := k1.O o (by omega) (by omega)
  obtain ⟨g2, e2⟩ : ∃ g2, g2 = sI g1 642 0 (i32 (-2)) := ⟨_, rfl⟩
  have k2 : Kf 2 2 0 642 g1 g2 := by rw [e2]; exact kf_sI (Or.inr ⟨rfl, Nat.le_refl _⟩)
  have b2 : isO g2 0 10 = true := k2.O b1 (by omega) (by omega)
  have z2 : hsz g2 = 2 := by rw [e2]; exact z1
  have s2 : hsl g2 = hsl g1 := by rw [e2]; rfl
  have i2 : hI g2 641 0 = 0 ∧ hI g2 642 0 = i32 (-2) ∧ hI g2 646 0 = 0 ∧ hI g2 647 0 = 0 := by
    rw [e2]
    refine ⟨?_, ?_, ?_, ?_⟩
    · rw [rII, if_neg (by omega), j1 _ _ (by omega), i0]
    · rw [rII, if_pos ⟨rfl, rfl⟩]
    · rw [rII, if_neg (by omega), j1 _ _ (by omega), i0]
    · rw [rII, if_neg (by omega), j1 _ _ (by omega), i0]
  rw [← e2, lt_e, lt_e, lt_e, z2]
  obtain ⟨g3, x1, x2, x3, x4, x5, x6, x7, x8⟩ := state_new z2
  have b3 : isO g3 0 10 = true := x2.O b2 (by omega) (by omega)
  rw [x1, bn_s, b3, gd_tt]
  obtain ⟨g4, e4⟩ : ∃ g4, g4 = sR g3 643 0 (some 2) := ⟨_, rfl⟩
  have k4 : Kf 60 60 0 643 g3 g4 := by rw [e4]; exact kf_sR (Or.inr ⟨rfl, Nat.le_refl _⟩)
  have b4 : isO g4 0 10 = true := k4.O b3 (by omega) (by omega)
  have z4 : hsz g4 = 60 := by rw [e4]; exact x3
  have s4 : hsl g4 = hsl g3 := by rw [e4]; rfl
  have r4 : hR g4 643 0 = some 2 := by rw [e4, rRR, if_pos ⟨rfl, rfl⟩]
  have i4 : ∀ u, hI g4 u 0 = hI g2 u 0 := fun u => by rw [e4, rIR]; exact x2.I rfl (by omega) (by omega) (by omega)
  rw [← e4, lt_e]
  refine st_al (l := 8) (by decide) (by decide) z4 (by omega) (fun g5 A5 => ?_)
  obtain ⟨z5, s5, r5, o5, n5, ⟨-, -, -, j5⟩, k5⟩ := A5
  have b5 : isO g5 0 10 = true := k5.O b4 (by omega) (by omega)
  refine st_al (l := 10) (by decide) (by decide) z5 (by omega) (fun g6 A6 => ?_)
  obtain ⟨z6, s6, r6, o6, n6, ⟨-, -, -, j6⟩, k6⟩ := A6
  have b6 : isO g6 0 10 = true := k6.O b5 (by omega) (by omega)
  rw [lt_e, lt_e, z6]
  obtain ⟨g7, y1, y2, y3, y4, y5⟩ := parser_new z6
  have b7 : isO g7 0 10 = true := y2.O b6 (by omega) (by omega)
  rw [y1, bn_s, b7, gd_tt]
  obtain ⟨g8, e8⟩ : ∃ g8, g8 = sR g7 648 0 (some 62) := ⟨_, rfl⟩
  have k8 : Kf 109 109 0 648 g7 g8 := by rw [e8]; exact kf_sR (Or.inr ⟨rfl, Nat.le_refl _⟩)
  have b8 : isO g8 0 10 = true := k8.O b7 (by omega) (by omega)
  have z8 : hsz g8 = 109 := by rw [e8]; exact y3
  have s8 : hsl g8 = hsl g7 := by rw [e8]; rfl
  have r8 : hR g8 648 0 = some 62 := by rw [e8, rRR, if_pos ⟨rfl, rfl⟩]
  have p8 : PSA g8 := y5.kf k8 (by omega) (by omega) (by omega)
  rw [← e8, lt_e, r8, oc_s, p8.1, gd_tt, p8.2.1]
  obtain ⟨g9, e9⟩ : ∃ g9, g9 = sR g8 649 0 (some 63) := ⟨_, rfl⟩
  have k9 : Kf 109 109 0 649 g8 g9 := by rw [e9]; exact kf_sR (Or.inr ⟨rfl, Nat.le_refl _⟩)
  have b9 : isO g9 0 10 = true := k9.O b8 (by omega) (by omega)
  have z9 : hsz g9 = 109 := by rw [e9]; exact z8
  have s9 : hsl g9 = hsl g8 := by rw [e9]; rfl
  have r9 : hR g9 649 0 = some 63 := by rw [e9, rRR, if_pos ⟨rfl, rfl⟩]
  rw [← e9, lt_e, lt_e, lt_e, z9]
  obtain ⟨g10, v1, v2, v3, v4, v5, v6, v7, v8⟩ := view_new z9
  have b10 : isO g10 0 10 = true := v2.O b9 (by omega) (by omega)
  rw [v1, bn_s, b10, gd_tt]
  obtain ⟨g11, e11⟩ : ∃ g11, g11 = sR g10 650 0 (some 109) := ⟨_, rfl⟩
  have k11 : Kf 111 111 0 650 g10 g11 := by rw [e11]; exact kf_sR (Or.inr ⟨rfl, Nat.le_refl _⟩)
  have b11 : isO g11 0 10 = true := k11.O b10 (by omega) (by omega)
  have z11 : hsz g11 = 111 := by rw [e11]; exact v3
  have s11 : hsl g11 = hsl g10 := by rw [e11]; rfl
  have r11 : hR g11 650 0 = some 109 := by rw [e11, rRR, if_pos ⟨rfl, rfl⟩]
  rw [← e11, lt_e, lt_e, lt_e, z11]
  obtain ⟨g12, w1, w2, w3, w4, w5, ⟨w6, w7, w8⟩, w9, w10, w11⟩ := layout_new z11
  have b12 : isO g12 0 10 = true := w2.O b11 (by omega) (by omega)
  rw [w1, bn_s, b12, gd_tt]
  obtain ⟨g13, e13⟩ : ∃ g13, g13 = sR g12 651 0 (some 111) := ⟨_, rfl⟩
  have k13 : Kf 114 114 0 651 g12 g13 := by rw [e13]; exact kf_sR (Or.inr ⟨rfl, Nat.le_refl _⟩)
  have b13 : isO g13 0 10 = true := k13.O b12 (by omega) (by omega)
  have z13 : hsz g13 = 114 := by rw [e13]; exact w3
  have s13 : hsl g13 = hsl g12 := by rw [e13]; rfl
  have r13 : hR g13 651 0 = some 111 := by rw [e13, rRR, if_pos ⟨rfl, rfl⟩]
  rw [← e13, lt_e, lt_e, lt_e, z13]
  obtain ⟨g14, e14⟩ : ∃ g14, g14 = sR (nw g13 9 0 4) 652 0 (some 114) := ⟨_, rfl⟩
  have k14 : Kf 114 114 0 652 g13 g14 := by
    rw [e14]
    exact Kf.tr (kf_nw (h := g13) (n := 114) (e := 114) (t := 0) (f := 652) (by omega)) (kf_sR (n := 114) (e := 114) (t := 0) (f := 652) (Or.inr ⟨rfl, Nat.le_refl _⟩)) (by omega) (by omega) (by omega)
  have b14 : isO g14 0 10 = true := k14.O b13 (by omega) (by omega)
  have z14 : hsz g14 = 115 := by rw [e14]; show hsz g13 + 1 = _; omega
  have s14 : hsl g14 = hsl g13 + 4 := by rw [e14]; rfl
  have r14 : hR g14 652 0 = some 114 := by rw [e14, rRR, if_pos ⟨rfl, rfl⟩]
  have o14 : isO g14 114 9 = true := by rw [e14]; exact isO_sR rfl (isO_new z13 rfl)
  rw [show fX9_init 114 (nw g13 9 0 4) = some () from rfl, bn_s, ← e14, lt_e]
  -- what stands of the steps before
  have c13 : Kf 114 200 0 652 g13 g14 := k14.w (by omega) (by omega) (by omega)
  have c12 : Kf 114 200 0 651 g12 g14 := (k13.w (m := 114) (e' := 200) (t' := 0) (f' := 651) (by omega) (by omega) (by omega)).tr c13 (by omega) (by omega) (by omega)
  have c11 : Kf 111 200 0 651 g11 g14 := (w2.w (m := 111) (e' := 200) (t' := 0) (f' := 651) (by omega) (by omega) (by omega)).tr c12 (by omega) (by omega) (by omega)
  have c10 : Kf 111 200 0 650 g10 g14 := (k11.w (m := 111) (e' := 200) (t' := 0) (f' := 650) (by omega) (by omega) (by omega)).tr c11 (by omega) (by omega) (by omega)
  have c9 : Kf 109 200 0 650 g9 g14 := (v2.w (m := 109) (e' := 200) (t' := 0) (f' := 650) (by omega) (by omega) (by omega)).tr c10 (by omega) (by omega) (by omega)
  have c8 : Kf 109 200 0 649 g8 g14 := (k9.w (m := 109) (e' := 200) (t' := 0) (f' := 649) (by omega) (by omega) (by omega)).tr c9 (by omega) (by omega) (by omega)
  have c7 : Kf 109 200 0 648 g7 g14 := (k8.w (m := 109) (e' := 200) (t' := 0) (f' := 648) (by omega) (by omega) (by omega)).tr c8 (by omega) (by omega) (by omega)
  have c6 : Kf 62 200 0 648 g6 g14 := (y2.w (m := 62) (e' := 200) (t' := 0) (f' := 648) (by omega) (by omega) (by omega)).tr c7 (by omega) (by omega) (by omega)
  have c5 : Kf 61 200 0 645 g5 g14 := (k6.w (m := 61) (e' := 200) (t' := 0) (f' := 645) (by omega) (by omega) (by omega)).tr c6 (by omega) (by omega) (by omega)
  have c4 : Kf 60 200 0 644 g4 g14 := (k5.w (m := 60) (e' := 200) (t' := 0) (f' := 644) (by omega) (by omega) (by omega)).tr c5 (by omega) (by omega) (by omega)
  have c3 : Kf 60 200 0 643 g3 g14 := (k4.w (m := 60) (e' := 200) (t' := 0) (f' := 643) (by omega) (by omega) (by omega)).tr c4 (by omega) (by omega) (by omega)
  have c2 : Kf 2 200 0 643 g2 g14 := (x2.w (m := 2) (e' := 200) (t' := 0) (f' := 643) (by omega) (by omega) (by omega)).tr c3 (by omega) (by omega) (by omega)
  have c1 : Kf 2 200 0 642 g1 g14 := (k2.w (m := 2) (e' := 200) (t' := 0) (f' := 642) (by omega) (by omega) (by omega)).tr c2 (by omega) (by omega) (by omega)
  have i14 : ∀ u, hI g14 u 0 = hI g2 u 0 := fun u => by
    have q6 : hI g6 u 0 = hI g2 u 0 := by rw [j6 _ _ (by omega), j5 _ _ (by omega), i4]
    have q9 : hI g9 u 0 = hI g2 u 0 := by rw [e9, rIR, e8, rIR]; exact y2.I q6 (by omega) (by omega) (by omega)
    have q11 : hI g11 u 0 = hI g2 u 0 := by rw [e11, rIR]; exact v2.I q9 (by omega) (by omega) (by omega)
    have q13 : hI g13 u 0 = hI g2 u 0 := by rw [e13, rIR]; exact w2.I q11 (by omega) (by omega) (by omega)
    rw [e14, rIR, rIN, if_neg (by omega)]; exact q13
  have o60 : isO g14 60 30 = true := c5.O o5 (by omega) (by omega)
  have n60 : hln g14 60 = 8 := c5.N n5 (by omega) (by omega)
  have r60 : hR g14 644 0 = some 60 := c5.R r5 (by omega) (by omega) (by omega)
  obtain ⟨g15, a1, a2, a3, a4, a5, a6, a7⟩ := revsL (K := fun w48 h49 => lX10_init_132 FU w48 (i32 0) h49) 8 FU 0 g14 (by omega) (by decide) b14 (by omega) r60 o60 n60 (fun q hq => by omega)
  have o61 : isO g15 61 35 = true := a2.O (c6.O o6 (by omega) (by omega)) (by omega) (by omega)
  have n61 : hln g15 61 = 10 := a2.N (c6.N n6 (by omega) (by omega)) (by omega) (by omega)
  have r61 : hR g15 645 0 = some 61 := a2.R (c6.R r6 (by omega) (by omega) (by omega)) (by omega) (by omega) (by omega)
  obtain ⟨g16, t1, t2, t3, t4, t5, t6, t7⟩ := pastL 10 FU 0 g15 (by omega) (by decide) (a2.O b14 (by omega) (by omega)) (by omega) r61 o61 n61 (fun q hq => by omega)
  have O : ∀ {x ty}, isO g14 x ty = true → x < 115 → x ≠ 60 → x ≠ 61 → isO g16 x ty = true := fun w hx hy hw => t2.O (a2.O w (by omega) (by omega)) (by omega) (by omega)
  have N : ∀ {x v}, hln g14 x = v → x < 115 → x ≠ 60 → x ≠ 61 → hln g16 x = v := fun w hx hy hw => t2.N (a2.N w (by omega) (by omega)) (by omega) (by omega)
  have R : ∀ {x u v}, hR g14 u x = v → x < 115 → x ≠ 60 → x ≠ 61 → hR g16 u x = v := fun w hx hy hw => t2.R (a2.R w (by omega) (by omega) (by omega)) (by omega) (by omega) (by omega)
  have I : ∀ {x u v}, hI g14 u x = v → x < 115 → x ≠ 60 → x ≠ 61 → hI g16 u x = v := fun w hx hy hw => t2.I (a2.I w (by omega) (by omega) (by omega)) (by omega) (by omega) (by omega)
  have PS : PSA g16 := ((p8.kf c8 (by omega) (by omega) (by omega)).kf a2 (by omega) (by omega) (by omega)).kf t2 (by omega) (by omega) (by omega)
  obtain ⟨u0, u1, u2, u3, u4, u5, u6, u7, v0, q1, q2, q3, q4, q5, q6⟩ := PS
  have ST : StateAt g16 2 := ((x5.kf c3 (by omega) (by omega) (by omega)).kf a2 (by omega) (by omega) (by omega)).kf t2 (by omega) (by omega) (by omega)
  have FF : FZ g16 3 := ((x6.kf c3 (by omega) (by omega) (by omega)).kf a2 (by omega) (by omega) (by omega)).kf t2 (by omega) (by omega) (by omega)
  refine ⟨g16, a1.trans t1, t5, by omega, ?_, q6, FF, I ((i14 _).trans i2.1) (by omega) (by omega) (by omega), I ((i14 _).trans i2.2.1) (by omega) (by omega) (by omega), I ((i14 _).trans i2.2.2.1) (by omega) (by omega) (by omega), I ((i14 _).trans i2.2.2.2) (by omega) (by omega) (by omega), I (c3.I x7 (by omega) (by omega) (by omega)) (by omega) (by omega) (by omega), I (c3.I x8 (by omega) (by omega) (by omega)) (by omega) (by omega) (by omega)⟩
  refine ⟨O b14 (by omega) (by omega) (by omega), ⟨R (c4.R r4 (by omega) (by omega) (by omega)) (by omega) (by omega) (by omega), ST.o⟩, ⟨R (c8.R r8 (by omega) (by omega) (by omega)) (by omega) (by omega) (by omega), u0⟩, ⟨R (c9.R r9 (by omega) (by omega) (by omega)) (by omega) (by omega) (by omega), u7.o⟩, ⟨R (c11.R r11 (by omega) (by omega) (by omega)) (by omega) (by omega) (by omega), O (c10.O v5 (by omega) (by omega)) (by omega) (by omega) (by omega)⟩, ⟨R (c13.R r13 (by omega) (by omega) (by omega)) (by omega) (by omega) (by omega), O (c12.O w5 (by omega) (by omega)) (by omega) (by omega) (by omega)⟩, ⟨R r14 (by omega) (by omega) (by omega), O o14 (by omega) (by omega) (by omega)⟩, ⟨u1, u7.o⟩, ⟨u2, v0⟩, ⟨R (c1.R r1 (by omega) (by omega) (by omega)) (by omega) (by omega) (by omega), O (c1.O o1 (by omega) (by omega)) (by omega) (by omega) (by omega), N (c1.N n1 (by omega) (by omega)) (by omega) (by omega) (by omega)⟩, ⟨t2.R (a2.R r60 (by omega) (by omega) (by omega)) (by omega) (by omega) (by omega), t2.O a3 (by omega) (by omega), t2.N a4 (by omega) (by omega)⟩, ⟨t2.R r61 (by omega) (by omega) (by omega), t3, t4⟩, u3, u4, u5, u6, q1, q2, q3, q4, q5, ⟨R (c10.R v6 (by omega) (by omega) (by omega)) (by omega) (by omega) (by omega), O (c10.O v7 (by omega) (by omega)) (by omega) (by omega) (by omega), N (c10.N v8 (by omega) (by omega)) (by omega) (by omega) (by omega)⟩, ⟨R (c12.R w6 (by omega) (by omega) (by omega)) (by omega) (by omega) (by omega), O (c12.O w7 (by omega) (by omega)) (by omega) (by omega) (by omega), N (c12.N w8 (by omega) (by omega)) (by omega) (by omega) (by omega)⟩, ⟨R (c12.R w9 (by omega) (by omega) (by omega)) (by omega) (by omega) (by omega), O (c12.O w10 (by omega) (by omega)) (by omega) (by omega) (by omega), N (c12.N w11 (by omega) (by omega)) (by omega) (by omega) (by omega)⟩, ST, u7, fun i hi => ⟨t2.Q (a7 i hi).1 (by omega) (by omega), (a7 i hi).2.kf t2 (by omega) (by omega) (by omega)⟩, fun i hi => t7 i hi⟩
end

section
variable {h g k : HP} {n m e t f u a x ty : Nat}
theorem mclrL : ∀ (d m i : Nat) (f : HP), i + d = 292 → d < m → isO f 983 11 = true → hR f 710 983 = some 988 → isO f 988 23 = true → hln f 988 = 292 → (∀ q, q < i → hL f 988 q = if q < 32 then i64 (-1) else i64 0) → ∃ g, lX11_clearForm_2 m 983 (i32 0) (i32 (i : Int)) f = some g ∧ Kf 1008 988 1008 0 f g ∧ hsz g = hsz f ∧ hsl g = hsl f ∧ isO g 988 23 = true ∧ hln g 988 = 292 ∧ ∀ q, q < 292 → hL g 988 q = if q < 32 then i64 (-1) else i64 0 := by
  intro d
  induction d with
  | zero =>
    intro m i f hi hm o r oN nN H
    obtain ⟨m, rfl⟩ : ∃ y, m = y + 1 := ⟨m - 1, by omega⟩
    refine ⟨f, ?_, Kf.r, rfl, rfl, oN, nN, fun q hq => H q (by omega)⟩
    rw [elX11_clearForm_2]; unfold bX11_clearForm_2
    rw [if_pos (by rw [i32_le (by omega) (by omega) (by omega) (by omega)]; omega)]
  | succ d ih =>
    intro m i f hi hm o r oN nN H
    obtain ⟨m, rfl⟩ : ∃ y, m = y + 1 := ⟨m - 1, by omega⟩
    obtain ⟨v, ev⟩ : ∃ v : Int64, v = if i < 32 then i64 (-1) else i64 0 := ⟨_, rfl⟩
    obtain ⟨f1, e1⟩ : ∃ f1, f1 = sL f 988 i v := ⟨_, rfl⟩
    have k1 : Kf 1008 988 1008 0 f f1 := by rw [e1]; exact kf_sL (Or.inr rfl)
    obtain ⟨g, a1, a2, a3, a4, a5, a6, a7⟩ := ih m (i + 1) f1 (by omega) (by omega) (k1.O o (by omega) (by omega)) (k1.R r (by omega) (by omega) (by omega)) (by rw [e1]; exact isO_sL rfl oN) (by rw [e1]; exact nN) (fun q hq => by
      rw [e1, rLL]
      by_cases y : q = i
      · rw [if_pos ⟨rfl, y⟩, y, ev]
      · rw [if_neg (fun w => y w.2)]; exact H q (by omega))
    refine ⟨g, ?_, k1.tr a2 (Nat.le_refl _) (Or.inl rfl) (Or.inl (Nat.le_refl _)), a3.trans (by rw [e1]; rfl), a4.trans (by rw [e1]; rfl), a5, a6, a7⟩
    have st : jX11_clearForm_29 (fun v0 v1 v2 h => lX11_clearForm_2 m v0 v1 v2 h) 983 (i32 0) (i32 (i : Int)) v (i32 0 + i32 (i : Int)) (hR f 710 983) f = some g := by
      unfold jX11_clearForm_29
      rw [r, oc_s, oN, gd_tt, nN, i32_add, Int.zero_add, i32_inb (by omega) (by omega) (by omega), gd_tt, i32_cn (by omega) (by omega), show ((i : Int)).toNat = i from rfl, ← e1, lt_e, lt_e, i32_add]
      exact a1
    rw [elX11_clearForm_2]; unfold bX11_clearForm_2
    rw [if_neg (by rw [i32_le (by omega) (by omega) (by omega) (by omega)]; omega), o, gd_tt]
    by_cases c : i < 32
    · rw [if_neg (by rw [i32_le (by omega) (by omega) (by omega) (by omega)]; omega)]
      rw [ev, if_pos c] at st; exact st
    · rw [if_pos (by rw [i32_le (by omega) (by omega) (by omega) (by omega)]; omega)]
      rw [ev, if_neg c] at st; exact st
theorem minitL : ∀ (d m i : Nat) (f : HP), i + d = 292 → d < m → isO f 983 11 = true → hR f 710 983 = some 988 → isO f 988 23 = true → hln f 988 = 292 → hR f 709 983 = some 987 → isO f 987 23 = true → hln f 987 = 2880 → (∀ q, q < i → hL f 987 q = hL f 988 q) → ∃ g, lX11_init_236 m 983 (i32 (i : Int)) f = some g ∧ Kf 1008 987 1008 0 f g ∧ hsz g = hsz f ∧ hsl g = hsl f ∧ isO g 987 23 = true ∧ hln g 987 = 2880 ∧ (∀ q, q < 292 → hL g 987 q = hL f 988 q) ∧ ∀ q, 292 ≤ q → hL g 987 q = hL f 987 q := by
  intro d
  induction d with
  | zero =>
    intro m i f hi hm o r oN nN r2 oM nM H
    obtain ⟨m, rfl⟩ : ∃ y, m = y + 1 := ⟨m - 1, by omega⟩
    refine ⟨f, ?_, Kf.r, rfl, rfl, oM, nM, fun q hq => H q (by omega), fun _ _ => rfl⟩
    rw [elX11_init_236]; unfold bX11_init_236
    rw [if_pos (by rw [i32_le (by omega) (by omega) (by omega) (by omega)]; omega)]
  | succ d ih =>
    intro m i f hi hm o r oN nN r2 oM nM H
    obtain ⟨m, rfl⟩ : ∃ y, m = y + 1 := ⟨m - 1, by omega⟩
    obtain ⟨f1, e1⟩ : ∃ f1, f1 = sL f 987 i (hL f 988 i) := ⟨_, rfl⟩
    have k1 : Kf 1008 987 1008 0 f f1 := by rw [e1]; exact kf_sL (Or.inr rfl)
    have q8 : ∀ q, hL f1 988 q = hL f 988 q := fun q => by rw [e1, rLL, if_neg (by omega)]
    obtain ⟨g, a1, a2, a3, a4, a5, a6, a7, a8⟩ := ih m (i + 1) f1 (by omega) (by omega) (k1.O o (by omega) (by omega)) (k1.R r (by omega) (by omega) (by omega)) (k1.O oN (by omega) (by omega)) (k1.N nN (by omega) (by omega)) (k1.R r2 (by omega) (by omega) (by omega)) (by rw [e1]; exact isO_sL rfl oM) (by rw [e1]; exact nM) (fun q hq => by
      rw [q8, e1, rLL]
      by_cases y : q = i
      · rw [if_pos ⟨rfl, y⟩, y]
      · rw [if_neg (fun w => y w.2)]; exact H q (by omega))
    refine ⟨g, ?_, k1.tr a2 (Nat.le_refl _) (Or.inl rfl) (Or.inl (Nat.le_refl _)), a3.trans (by rw [e1]; rfl), a4.trans (by rw [e1]; rfl), a5, a6, fun q hq => (a7 q hq).trans (q8 q), fun q hq => (a8 q hq).trans (by rw [e1, rLL, if_neg (by omega)])⟩
    rw [elX11_init_236]; unfold bX11_init_236
    rw [if_neg (by rw [i32_le (by omega) (by omega) (by omega) (by omega)]; omega), o, gd_tt, r, oc_s, oN, gd_tt, nN, i32_inb (by omega) (by omega) (by omega), gd_tt, r2, oc_s, oM, gd_tt, nM, i32_inb (by omega) (by omega) (by omega), gd_tt, i32_cn (by omega) (by omega), show ((i : Int)).toNat = i from rfl, ← e1, lt_e, lt_e, i32_add]
    exact a1
def Az (f0 g1 : HP) : Prop := hsz g1 = 986 ∧ hsl g1 = hsl f0 + 3 ∧ hR g1 707 983 = some 985 ∧ isO g1 985 20 = true ∧ hln g1 985 = 3 ∧ (hA g1 985 0 = i32 40 ∧ hA g1 985 1 = i32 40 ∧ hA g1 985 2 = i32 20) ∧ Kf 985 985 983 707 f0 g1 ∧ ∀ w, hI g1 w 983 = hI f0 w 983
theorem st_sz {K : HP → Option HP} {Z : HP → Prop} {f0 : HP} (zz0 : hsz f0 = 985) (hk : ∀ g, Az f0 g → ∃ r, K g = some r ∧ Z r) : ∃ r, (gd (iln (i32 3)) <| lt (hsz f0) fun a8 => lt (nw f0 20 (i32 3).toNatClampNeg (i32 3).toNatClampNeg) fun h9 => gd (inb (i32 0) (hln h9 a8)) <| lt (sA h9 a8 (i32 0).toNatClampNeg (i32 40)) fun h11 => gd (inb (i32 1) (hln h11 a8)) <| lt (sA h11 a8 (i32 1).toNatClampNeg (i32 40)) fun h13 => gd (inb (i32 2) (hln h13 a8)) <| lt (sA h13 a8 (i32 2).toNatClampNeg (i32 20)) fun h15 => lt (sR h15 707 983 (some a8)) fun h16 => K h16) = some r ∧ Z r := by
  rw [show iln (i32 3) = true by decide, gd_tt, lt_e, lt_e, zz0, show (i32 3).toNatClampNeg = 3 by decide]
  obtain ⟨y0, d0⟩ : ∃ y0, y0 = nw f0 20 3 3 := ⟨_, rfl⟩
  have ny : hln y0 985 = 3 := by rw [d0]; show (if 985 = hsz f0 then 3 else _) = 3; rw [if_pos zz0.symm]
  have oy : isO y0 985 20 = true := by rw [d0]; exact isO_new zz0 rfl
  have q1 : hln (sA y0 985 0 (i32 40)) 985 = 3 := ny
  have q2 : hln (sA (sA y0 985 0 (i32 40)) 985 1 (i32 40)) 985 = 3 := ny
  rw [← d0, ny, show inb (i32 0) 3 = true by decide, gd_tt, lt_e, show (i32 0).toNatClampNeg = 0 by decide, q1, show inb (i32 1) 3 = true by decide, gd_tt, lt_e, show (i32 1).toNatClampNeg = 1 by decide, q2, show inb (i32 2) 3 = true by decide, gd_tt, lt_e, show (i32 2).toNatClampNeg = 2 by decide, lt_e]
  obtain ⟨g1, e1⟩ : ∃ g1, g1 = sR (sA (sA (sA y0 985 0 (i32 40)) 985 1 (i32 40)) 985 2 (i32 20)) 707 983 (some 985) := ⟨_, rfl⟩
  rw [← e1]
  refine hk _ ⟨?_, ?_, ?_, ?_, ?_, ?_, ?_, fun w => ?_⟩
  · rw [e1, d0]; show hsz f0 + 1 = _; omega
  · rw [e1, d0]; rfl
  · rw [e1, rRR, if_pos ⟨rfl, rfl⟩]
  · rw [e1]; exact isO_sR rfl (isO_sA rfl (isO_sA rfl (isO_sA rfl oy)))
  · rw [e1]; exact ny
  · rw [e1, rAR]
    refine ⟨?_, ?_, ?_⟩
    · rw [rAA, if_neg (by omega), rAA, if_neg (by omega), rAA, if_pos ⟨rfl, rfl⟩]
    · rw [rAA, if_neg (by omega), rAA, if_pos ⟨rfl, rfl⟩]
    · rw [rAA, if_pos ⟨rfl, rfl⟩]
  · rw [e1, d0]
    refine Kf.tr (Kf.tr (Kf.tr (Kf.tr (kf_nw (h := f0) (n := 985) (e := 985) (t := 983) (f := 707) (by omega)) (kf_sA (n := 985) (e := 985) (t := 983) (f := 707) (Or.inr rfl)) (by omega) (by omega) (by omega)) (kf_sA (n := 985) (e := 985) (t := 983) (f := 707) (Or.inr rfl)) (by omega) (by omega) (by omega)) (kf_sA (n := 985) (e := 985) (t := 983) (f := 707) (Or.inr rfl)) (by omega) (by omega) (by omega)) (kf_sR (n := 985) (e := 985) (t := 983) (f := 707) (Or.inr ⟨rfl, Nat.le_refl _⟩)) (by omega) (by omega) (by omega)
  · rw [e1, rIR, rIA, rIA, rIA, d0, rIN, if_neg (by omega)]
set_option maxHeartbeats 4000000 in
theorem model_new (z : hsz h = 984) (o : isO h 983 11 = true) (i0 : ∀ u, hI h u 983 = 0) : ∃ g, fX11_init 983 h = some g ∧ Kf 983 983 983 0 h g ∧ hsz g = 1008 ∧ hsl g = hsl h + 49718 ∧ MS g ∧ N24 g ∧ (hA g 985 0 = i32 40 ∧ hA g 985 1 = i32 40 ∧ hA g 985 2 = i32 20) ∧ (∀ q, q < 32 → hL g 987 q = i64 (-1)) ∧ (∀ q, 32 ≤ q → hL g 987 q = i64 0) ∧ hI g 705 983 = 0 ∧ hI g 706 983 = i32 (-2) ∧ hI g 712 983 = 0 ∧ hI g 714 983 = 0 := by
  unfold fX11_init
  refine st_alG (l := 1200) (by decide) (by decide) z (by omega) o (fun g0 A0 => ?_)
  obtain ⟨z0, s0, r0, o0, n0, ⟨-, -, -, j0⟩, k0⟩ := A0
  obtain ⟨f0, e0⟩ : ∃ f0, f0 = sI g0 706 983 (i32 (-2)) := ⟨_, rfl⟩
  have m0 : Kf 985 985 983 706 g0 f0 := by rw [e0]; exact kf_sI (Or.inr ⟨rfl, Nat.le_refl _⟩)
  have zz0 : hsz f0 = 985 := by rw [e0]; exact z0
  have ss0 : hsl f0 = hsl g0 := by rw [e0]; rfl
  have i1 : hI f0 705 983 = 0 ∧ hI f0 706 983 = i32 (-2) ∧ hI f0 712 983 = 0 ∧ hI f0 714 983 = 0 := by
    rw [e0]
    refine ⟨?_, ?_, ?_, ?_⟩
    · rw [rII, if_neg (by omega), j0 _ _ (by omega), i0]
    · rw [rII, if_pos ⟨rfl, rfl⟩]
    · rw [rII, if_neg (by omega), j0 _ _ (by omega), i0]
    · rw [rII, if_neg (by omega), j0 _ _ (by omega), i0]
  rw [← e0, lt_e]
  refine st_sz zz0 (fun g1 A1 => ?_)
  obtain ⟨z1, s1, r1, o1, n1, a1, k1, jj1⟩ := A1
  refine st_al (l := 3) (by decide) (by decide) z1 (by omega) (fun g2 A2 => ?_)
  obtain ⟨z2, s2, r2, o2, n2, ⟨x2, y2, -, j2⟩, k2⟩ := A2
  have jj2 : ∀ w, hI g2 w 983 = hI f0 w 983 := fun w => (j2 w 983 (by omega)).trans (jj1 w)
  refine st_al (l := 2880) (by decide) (by decide) z2 (by omega) (fun g3 A3 => ?_)
  obtain ⟨z3, s3, r3, o3, n3, ⟨x3, y3, -, j3⟩, k3⟩ := A3
  have jj3 : ∀ w, hI g3 w 983 = hI f0 w 983 := fun w => (j3 w 983 (by omega)).trans (jj2 w)
  refine st_al (l := 292) (by decide) (by decide) z3 (by omega) (fun g4 A4 => ?_)
  obtain ⟨z4, s4, r4, o4, n4, ⟨x4, y4, -, j4⟩, k4⟩ := A4
  have jj4 : ∀ w, hI g4 w 983 = hI f0 w 983 := fun w => (j4 w 983 (by omega)).trans (jj3 w)
  refine st_al (l := 28800) (by decide) (by decide) z4 (by omega) (fun g5 A5 => ?_)
  obtain ⟨z5, s5, r5, o5, n5, ⟨x5, y5, -, j5⟩, k5⟩ := A5
  have jj5 : ∀ w, hI g5 w 983 = hI f0 w 983 := fun w => (j5 w 983 (by omega)).trans (jj4 w)
  refine st_al (l := 12000) (by decide) (by decide) z5 (by omega) (fun g6 A6 => ?_)
  obtain ⟨z6, s6, r6, o6, n6, ⟨x6, y6, -, j6⟩, k6⟩ := A6
  have jj6 : ∀ w, hI g6 w 983 = hI f0 w 983 := fun w => (j6 w 983 (by omega)).trans (jj5 w)
  refine st_al (l := 24) (by decide) (by decide) z6 (by omega) (fun g7 A7 => ?_)
  obtain ⟨z7, s7, r7, o7, n7, ⟨x7, y7, -, j7⟩, k7⟩ := A7
  have jj7 : ∀ w, hI g7 w 983 = hI f0 w 983 := fun w => (j7 w 983 (by omega)).trans (jj6 w)
  refine st_al (l := 400) (by decide) (by decide) z7 (by omega) (fun g8 A8 => ?_)
  obtain ⟨z8, s8, r8, o8, n8, ⟨x8, y8, -, j8⟩, k8⟩ := A8
  have jj8 : ∀ w, hI g8 w 983 = hI f0 w 983 := fun w => (j8 w 983 (by omega)).trans (jj7 w)
  refine st_al (l := 400) (by decide) (by decide) z8 (by omega) (fun g9 A9 => ?_)
  obtain ⟨z9, s9, r9, o9, n9, ⟨x9, y9, -, j9⟩, k9⟩ := A9
  have jj9 : ∀ w, hI g9 w 983 = hI f0 w 983 := fun w => (j9 w 983 (by omega)).trans (jj8 w)
  refine st_al (l := 400) (by decide) (by decide) z9 (by omega) (fun g10 A10 => ?_)
  obtain ⟨z10, s10, r10, o10, n10, ⟨x10, y10, -, j10⟩, k10⟩ := A10
  have jj10 : ∀ w, hI g10 w 983 = hI f0 w 983 := fun w => (j10 w 983 (by omega)).trans (jj9 w)
  refine st_al (l := 400) (by decide) (by decide) z10 (by omega) (fun g11 A11 => ?_)
  obtain ⟨z11, s11, r11, o11, n11, ⟨x11, y11, -, j11⟩, k11⟩ := A11
  have jj11 : ∀ w, hI g11 w 983 = hI f0 w 983 := fun w => (j11 w 983 (by omega)).trans (jj10 w)
  refine st_al (l := 600) (by decide) (by decide) z11 (by omega) (fun g12 A12 => ?_)
  obtain ⟨z12, s12, r12, o12, n12, ⟨x12, y12, -, j12⟩, k12⟩ := A12
  have jj12 : ∀ w, hI g12 w 983 = hI f0 w 983 := fun w => (j12 w 983 (by omega)).trans (jj11 w)
  refine st_al (l := 32) (by decide) (by decide) z12 (by omega) (fun g13 A13 => ?_)
  obtain ⟨z13, s13, r13, o13, n13, ⟨x13, y13, -, j13⟩, k13⟩ := A13
  have jj13 : ∀ w, hI g13 w 983 = hI f0 w 983 := fun w => (j13 w 983 (by omega)).trans (jj12 w)
  refine st_al (l := 32) (by decide) (by decide) z13 (by omega) (fun g14 A14 => ?_)
  obtain ⟨z14, s14, r14, o14, n14, ⟨x14, y14, -, j14⟩, k14⟩ := A14
  have jj14 : ∀ w, hI g14 w 983 = hI f0 w 983 := fun w => (j14 w 983 (by omega)).trans (jj13 w)
  refine st_al (l := 32) (by decide) (by decide) z14 (by omega) (fun g15 A15 => ?_)
  obtain ⟨z15, s15, r15, o15, n15, ⟨x15, y15, -, j15⟩, k15⟩ := A15
  have jj15 : ∀ w, hI g15 w 983 = hI f0 w 983 := fun w => (j15 w 983 (by omega)).trans (jj14 w)
  refine st_al (l := 24) (by decide) (by decide) z15 (by omega) (fun g16 A16 => ?_)
  obtain ⟨z16, s16, r16, o16, n16, ⟨x16, y16, -, j16⟩, k16⟩ := A16
  have jj16 : ∀ w, hI g16 w 983 = hI f0 w 983 := fun w => (j16 w 983 (by omega)).trans (jj15 w)
  refine st_al (l := 300) (by decide) (by decide) z16 (by omega) (fun g17 A17 => ?_)
  obtain ⟨z17, s17, r17, o17, n17, ⟨x17, y17, -, j17⟩, k17⟩ := A17
  have jj17 : ∀ w, hI g17 w 983 = hI f0 w 983 := fun w => (j17 w 983 (by omega)).trans (jj16 w)
  refine st_al (l := 32) (by decide) (by decide) z17 (by omega) (fun g18 A18 => ?_)
  obtain ⟨z18, s18, r18, o18, n18, ⟨x18, y18, -, j18⟩, k18⟩ := A18
  have jj18 : ∀ w, hI g18 w 983 = hI f0 w 983 := fun w => (j18 w 983 (by omega)).trans (jj17 w)
  refine st_al (l := 32) (by decide) (by decide) z18 (by omega) (fun g19 A19 => ?_)
  obtain ⟨z19, s19, r19, o19, n19, ⟨x19, y19, -, j19⟩, k19⟩ := A19
  have jj19 : ∀ w, hI g19 w 983 = hI f0 w 983 := fun w => (j19 w 983 (by omega)).trans (jj18 w)
  refine st_al (l := 32) (by decide) (by decide) z19 (by omega) (fun g20 A20 => ?_)
  obtain ⟨z20, s20, r20, o20, n20, ⟨x20, y20, -, j20⟩, k20⟩ := A20
  have jj20 : ∀ w, hI g20 w 983 = hI f0 w 983 := fun w => (j20 w 983 (by omega)).trans (jj19 w)
  refine st_al (l := 600) (by decide) (by decide) z20 (by omega) (fun g21 A21 => ?_)
  obtain ⟨z21, s21, r21, o21, n21, ⟨x21, y21, -, j21⟩, k21⟩ := A21
  have jj21 : ∀ w, hI g21 w 983 = hI f0 w 983 := fun w => (j21 w 983 (by omega)).trans (jj20 w)
  refine st_al (l := 600) (by decide) (by decide) z21 (by omega) (fun g22 A22 => ?_)
  obtain ⟨z22, s22, r22, o22, n22, ⟨x22, y22, -, j22⟩, k22⟩ := A22
  have jj22 : ∀ w, hI g22 w 983 = hI f0 w 983 := fun w => (j22 w 983 (by omega)).trans (jj21 w)
  refine st_al (l := 600) (by decide) (by decide) z22 (by omega) (fun g23 A23 => ?_)
  obtain ⟨z23, s23, r23, o23, n23, ⟨x23, y23, -, j23⟩, k23⟩ := A23
  have jj23 : ∀ w, hI g23 w 983 = hI f0 w 983 := fun w => (j23 w 983 (by omega)).trans (jj22 w)
  have c23 : Kf 1008 2000 983 800 g23 g23 := Kf.r
  have c22 : Kf 1007 2000 983 751 g22 g23 := (k23.w (m := 1007) (e' := 2000) (t' := 983) (f' := 751) (by omega) (by omega) (by omega)).tr c23 (by omega) (by omega) (by omega)
  have c21 : Kf 1006 2000 983 750 g21 g23 := (k22.w (m := 1006) (e' := 2000) (t' := 983) (f' := 750) (by omega) (by omega) (by omega)).tr c22 (by omega) (by omega) (by omega)
  have c20 : Kf 1005 2000 983 749 g20 g23 := (k21.w (m := 1005) (e' := 2000) (t' := 983) (f' := 749) (by omega) (by omega) (by omega)).tr c21 (by omega) (by omega) (by omega)
  have c19 : Kf 1004 2000 983 739 g19 g23 := (k20.w (m := 1004) (e' := 2000) (t' := 983) (f' := 739) (by omega) (by omega) (by omega)).tr c20 (by omega) (by omega) (by omega)
  have c18 : Kf 1003 2000 983 738 g18 g23 := (k19.w (m := 1003) (e' := 2000) (t' := 983) (f' := 738) (by omega) (by omega) (by omega)).tr c19 (by omega) (by omega) (by omega)
  have c17 : Kf 1002 2000 983 737 g17 g23 := (k18.w (m := 1002) (e' := 2000) (t' := 983) (f' := 737) (by omega) (by omega) (by omega)).tr c18 (by omega) (by omega) (by omega)
  have c16 : Kf 1001 2000 983 736 g16 g23 := (k17.w (m := 1001) (e' := 2000) (t' := 983) (f' := 736) (by omega) (by omega) (by omega)).tr c17 (by omega) (by omega) (by omega)
  have c15 : Kf 1000 2000 983 735 g15 g23 := (k16.w (m := 1000) (e' := 2000) (t' := 983) (f' := 735) (by omega) (by omega) (by omega)).tr c16 (by omega) (by omega) (by omega)
  have c14 : Kf 999 2000 983 734 g14 g23 := (k15.w (m := 999) (e' := 2000) (t' := 983) (f' := 734) (by omega) (by omega) (by omega)).tr c15 (by omega) (by omega) (by omega)
  have c13 : Kf 998 2000 983 733 g13 g23 := (k14.w (m := 998) (e' := 2000) (t' := 983) (f' := 733) (by omega) (by omega) (by omega)).tr c14 (by omega) (by omega) (by omega)
  have c12 : Kf 997 2000 983 732 g12 g23 := (k13.w (m := 997) (e' := 2000) (t' := 983) (f' := 732) (by omega) (by omega) (by omega)).tr c13 (by omega) (by omega) (by omega)
  have c11 : Kf 996 2000 983 727 g11 g23 := (k12.w (m := 996) (e' := 2000) (t' := 983) (f' := 727) (by omega) (by omega) (by omega)).tr c12 (by omega) (by omega) (by omega)
  have c10 : Kf 995 2000 983 725 g10 g23 := (k11.w (m := 995) (e' := 2000) (t' := 983) (f' := 725) (by omega) (by omega) (by omega)).tr c11 (by omega) (by omega) (by omega)
  have c9 : Kf 994 2000 983 724 g9 g23 := (k10.w (m := 994) (e' := 2000) (t' := 983) (f' := 724) (by omega) (by omega) (by omega)).tr c10 (by omega) (by omega) (by omega)
  have c8 : Kf 993 2000 983 723 g8 g23 := (k9.w (m := 993) (e' := 2000) (t' := 983) (f' := 723) (by omega) (by omega) (by omega)).tr c9 (by omega) (by omega) (by omega)
  have c7 : Kf 992 2000 983 722 g7 g23 := (k8.w (m := 992) (e' := 2000) (t' := 983) (f' := 722) (by omega) (by omega) (by omega)).tr c8 (by omega) (by omega) (by omega)
  have c6 : Kf 991 2000 983 715 g6 g23 := (k7.w (m := 991) (e' := 2000) (t' := 983) (f' := 715) (by omega) (by omega) (by omega)).tr c7 (by omega) (by omega) (by omega)
  have c5 : Kf 990 2000 983 713 g5 g23 := (k6.w (m := 990) (e' := 2000) (t' := 983) (f' := 713) (by omega) (by omega) (by omega)).tr c6 (by omega) (by omega) (by omega)
  have c4 : Kf 989 2000 983 711 g4 g23 := (k5.w (m := 989) (e' := 2000) (t' := 983) (f' := 711) (by omega) (by omega) (by omega)).tr c5 (by omega) (by omega) (by omega)
  have c3 : Kf 988 2000 983 710 g3 g23 := (k4.w (m := 988) (e' := 2000) (t' := 983) (f' := 710) (by omega) (by omega) (by omega)).tr c4 (by omega) (by omega) (by omega)
  have c2 : Kf 987 2000 983 709 g2 g23 := (k3.w (m := 987) (e' := 2000) (t' := 983) (f' := 709) (by omega) (by omega) (by omega)).tr c3 (by omega) (by omega) (by omega)
  have c1 : Kf 986 2000 983 708 g1 g23 := (k2.w (m := 986) (e' := 2000) (t' := 983) (f' := 708) (by omega) (by omega) (by omega)).tr c2 (by omega) (by omega) (by omega)
  have cf : Kf 985 2000 983 707 f0 g23 := (k1.w (m := 985) (e' := 2000) (t' := 983) (f' := 707) (by omega) (by omega) (by omega)).tr c1 (by omega) (by omega) (by omega)
  have c0 : Kf 985 2000 983 706 g0 g23 := (m0.w (m := 985) (e' := 2000) (t' := 983) (f' := 706) (by omega) (by omega) (by omega)).tr cf (by omega) (by omega) (by omega)
  have cz : Kf 984 2000 983 704 h g23 := (k0.w (m := 984) (e' := 2000) (t' := 983) (f' := 704) (by omega) (by omega) (by omega)).tr c0 (by omega) (by omega) (by omega)
  have oo : isO g23 983 11 = true := cz.O o (by omega) (by omega)
  have R0 : hR g23 704 983 = some 984 ∧ isO g23 984 21 = true ∧ hln g23 984 = 1200 := ⟨c0.R r0 (by omega) (by omega) (by omega), c0.O o0 (by omega) (by omega), c0.N n0 (by omega) (by omega)⟩
  have R1 : hR g23 707 983 = some 985 ∧ isO g23 985 20 = true ∧ hln g23 985 = 3 := ⟨c1.R r1 (by omega) (by omega) (by omega), c1.O o1 (by omega) (by omega), c1.N n1 (by omega) (by omega)⟩
  have R2 : hR g23 708 983 = some 986 ∧ isO g23 986 20 = true ∧ hln g23 986 = 3 := ⟨c2.R r2 (by omega) (by omega) (by omega), c2.O o2 (by omega) (by omega), c2.N n2 (by omega) (by omega)⟩
  have R3 : hR g23 709 983 = some 987 ∧ isO g23 987 23 = true ∧ hln g23 987 = 2880 := ⟨c3.R r3 (by omega) (by omega) (by omega), c3.O o3 (by omega) (by omega), c3.N n3 (by omega) (by omega)⟩
  have R4 : hR g23 710 983 = some 988 ∧ isO g23 988 23 = true ∧ hln g23 988 = 292 := ⟨c4.R r4 (by omega) (by omega) (by omega), c4.O o4 (by omega) (by omega), c4.N n4 (by omega) (by omega)⟩
  have R5 : hR g23 711 983 = some 989 ∧ isO g23 989 23 = true ∧ hln g23 989 = 28800 := ⟨c5.R r5 (by omega) (by omega) (by omega), c5.O o5 (by omega) (by omega), c5.N n5 (by omega) (by omega)⟩
  have R6 : hR g23 713 983 = some 990 ∧ isO g23 990 20 = true ∧ hln g23 990 = 12000 := ⟨c6.R r6 (by omega) (by omega) (by omega), c6.O o6 (by omega) (by omega), c6.N n6 (by omega) (by omega)⟩
  have R7 : hR g23 715 983 = some 991 ∧ isO g23 991 20 = true ∧ hln g23 991 = 24 := ⟨c7.R r7 (by omega) (by omega) (by omega), c7.O o7 (by omega) (by omega), c7.N n7 (by omega) (by omega)⟩
  have R8 : hR g23 722 983 = some 992 ∧ isO g23 992 23 = true ∧ hln g23 992 = 400 := ⟨c8.R r8 (by omega) (by omega) (by omega), c8.O o8 (by omega) (by omega), c8.N n8 (by omega) (by omega)⟩
  have R9 : hR g23 723 983 = some 993 ∧ isO g23 993 20 = true ∧ hln g23 993 = 400 := ⟨c9.R r9 (by omega) (by omega) (by omega), c9.O o9 (by omega) (by omega), c9.N n9 (by omega) (by omega)⟩
  have R10 : hR g23 724 983 = some 994 ∧ isO g23 994 20 = true ∧ hln g23 994 = 400 := ⟨c10.R r10 (by omega) (by omega) (by omega), c10.O o10 (by omega) (by omega), c10.N n10 (by omega) (by omega)⟩
  have R11 : hR g23 725 983 = some 995 ∧ isO g23 995 20 = true ∧ hln g23 995 = 400 := ⟨c11.R r11 (by omega) (by omega) (by omega), c11.O o11 (by omega) (by omega), c11.N n11 (by omega) (by omega)⟩
  have R12 : hR g23 727 983 = some 996 ∧ isO g23 996 20 = true ∧ hln g23 996 = 600 := ⟨c12.R r12 (by omega) (by omega) (by omega), c12.O o12 (by omega) (by omega), c12.N n12 (by omega) (by omega)⟩
  have R13 : hR g23 732 983 = some 997 ∧ isO g23 997 20 = true ∧ hln g23 997 = 32 := ⟨c13.R r13 (by omega) (by omega) (by omega), c13.O o13 (by omega) (by omega), c13.N n13 (by omega) (by omega)⟩
  have R14 : hR g23 733 983 = some 998 ∧ isO g23 998 22 = true ∧ hln g23 998 = 32 := ⟨c14.R r14 (by omega) (by omega) (by omega), c14.O o14 (by omega) (by omega), c14.N n14 (by omega) (by omega)⟩
  have R15 : hR g23 734 983 = some 999 ∧ isO g23 999 22 = true ∧ hln g23 999 = 32 := ⟨c15.R r15 (by omega) (by omega) (by omega), c15.O o15 (by omega) (by omega), c15.N n15 (by omega) (by omega)⟩
  have R16 : hR g23 735 983 = some 1000 ∧ isO g23 1000 22 = true ∧ hln g23 1000 = 24 := ⟨c16.R r16 (by omega) (by omega) (by omega), c16.O o16 (by omega) (by omega), c16.N n16 (by omega) (by omega)⟩
  have R17 : hR g23 736 983 = some 1001 ∧ isO g23 1001 22 = true ∧ hln g23 1001 = 300 := ⟨c17.R r17 (by omega) (by omega) (by omega), c17.O o17 (by omega) (by omega), c17.N n17 (by omega) (by omega)⟩
  have R18 : hR g23 737 983 = some 1002 ∧ isO g23 1002 22 = true ∧ hln g23 1002 = 32 := ⟨c18.R r18 (by omega) (by omega) (by omega), c18.O o18 (by omega) (by omega), c18.N n18 (by omega) (by omega)⟩
  have R19 : hR g23 738 983 = some 1003 ∧ isO g23 1003 20 = true ∧ hln g23 1003 = 32 := ⟨c19.R r19 (by omega) (by omega) (by omega), c19.O o19 (by omega) (by omega), c19.N n19 (by omega) (by omega)⟩
  have R20 : hR g23 739 983 = some 1004 ∧ isO g23 1004 20 = true ∧ hln g23 1004 = 32 := ⟨c20.R r20 (by omega) (by omega) (by omega), c20.O o20 (by omega) (by omega), c20.N n20 (by omega) (by omega)⟩
  have R21 : hR g23 749 983 = some 1005 ∧ isO g23 1005 20 = true ∧ hln g23 1005 = 600 := ⟨c21.R r21 (by omega) (by omega) (by omega), c21.O o21 (by omega) (by omega), c21.N n21 (by omega) (by omega)⟩
  have R22 : hR g23 750 983 = some 1006 ∧ isO g23 1006 20 = true ∧ hln g23 1006 = 600 := ⟨c22.R r22 (by omega) (by omega) (by omega), c22.O o22 (by omega) (by omega), c22.N n22 (by omega) (by omega)⟩
  have R23 : hR g23 751 983 = some 1007 ∧ isO g23 1007 20 = true ∧ hln g23 1007 = 600 := ⟨c23.R r23 (by omega) (by omega) (by omega), c23.O o23 (by omega) (by omega), c23.N n23 (by omega) (by omega)⟩
  obtain ⟨p, b1, b2, b3, b4, b5, b6, b7⟩ := mclrL 292 FU 0 g23 (by omega) (by decide) oo R4.1 R4.2.1 R4.2.2 (fun q hq => by omega)
  have op : isO p 983 11 = true := b2.O oo (by omega) (by omega)
  obtain ⟨q, d1, d2, d3, d4, d5, d6, d7, d8⟩ := minitL 292 FU 0 p (by omega) (by decide) op (b2.R R4.1 (by omega) (by omega) (by omega)) b5 b6 (b2.R R3.1 (by omega) (by omega) (by omega)) (b2.O R3.2.1 (by omega) (by omega)) (b2.N R3.2.2 (by omega) (by omega)) (fun q hq => by omega)
  have T : ∀ {x u ty l}, (hR g23 u 983 = some x ∧ isO g23 x ty = true ∧ hln g23 x = l) → x < 1008 → x ≠ 987 → x ≠ 988 → (hR q u 983 = some x ∧ isO q x ty = true ∧ hln q x = l) := fun w h1 h2 h3 => ⟨d2.R (b2.R w.1 (by omega) (by omega) (by omega)) (by omega) (by omega) (by omega), d2.O (b2.O w.2.1 (by omega) (by omega)) (by omega) (by omega), d2.N (b2.N w.2.2 (by omega) (by omega)) (by omega) (by omega)⟩
  have I : ∀ {u v}, hI f0 u 983 = v → hI q u 983 = v := fun w => d2.I (b2.I ((jj23 _).trans w) (by omega) (by omega) (by omega)) (by omega) (by omega) (by omega)
  have L : ∀ j, hL g23 987 j = 0 := fun j => c3.L (y3 j) (by omega) (by omega)
  refine ⟨q, ?_, ?_, ?_, ?_, ?_, ?_, ?_, ?_, ?_, I i1.1, I i1.2.1, I i1.2.2.1, I i1.2.2.2⟩
  · rw [show fX11_clearForm 983 (i32 0) g23 = some p from b1, bn_s]
    exact d1
  · exact ((cz.w (m := 983) (e' := 983) (t' := 983) (f' := 0) (by omega) (by omega) (by omega)).tr b2 (by omega) (by omega) (by omega)).tr d2 (by omega) (by omega) (by omega)
  · omega
  · omega
  · exact ⟨d2.O op (by omega) (by omega), T R0 (by omega) (by omega) (by omega), T R1 (by omega) (by omega) (by omega), T R2 (by omega) (by omega) (by omega), ⟨(d2.R (b2.R R3.1 (by omega) (by omega) (by omega)) (by omega) (by omega) (by omega)), d5, d6⟩, ⟨(d2.R (b2.R R4.1 (by omega) (by omega) (by omega)) (by omega) (by omega) (by omega)), d2.O b5 (by omega) (by omega), d2.N b6 (by omega) (by omega)⟩, T R5 (by omega) (by omega) (by omega), T R6 (by omega) (by omega) (by omega), T R7 (by omega) (by omega) (by omega), T R8 (by omega) (by omega) (by omega), T R9 (by omega) (by omega) (by omega), T R10 (by omega) (by omega) (by omega), T R11 (by omega) (by omega) (by omega), T R12 (by omega) (by omega) (by omega), T R13 (by omega) (by omega) (by omega), T R14 (by omega) (by omega) (by omega), T R15 (by omega) (by omega) (by omega), T R16 (by omega) (by omega) (by omega), T R17 (by omega) (by omega) (by omega), T R18 (by omega) (by omega) (by omega), T R19 (by omega) (by omega) (by omega), T R20 (by omega) (by omega) (by omega), T R21 (by omega) (by omega) (by omega), T R22 (by omega) (by omega) (by omega), T R23 (by omega) (by omega) (by omega)⟩
  · refine ⟨fun j _ => d2.A (b2.A (c7.A (x7 j) (by omega) (by omega)) (by omega) (by omega)) (by omega) (by omega), fun j _ => ?_⟩
    rw [show hA q 999 j = 0 from d2.A (b2.A (c15.A (x15 j) (by omega) (by omega)) (by omega) (by omega)) (by omega) (by omega)]
    decide
  · exact ⟨d2.A (b2.A (c1.A a1.1 (by omega) (by omega)) (by omega) (by omega)) (by omega) (by omega), d2.A (b2.A (c1.A a1.2.1 (by omega) (by omega)) (by omega) (by omega)) (by omega) (by omega), d2.A (b2.A (c1.A a1.2.2 (by omega) (by omega)) (by omega) (by omega)) (by omega) (by omega)⟩
  · intro j hj
    rw [d7 j (by omega), b7 j (by omega), if_pos hj]
  · intro j hj
    by_cases c : j < 292
    · rw [d7 j c, b7 j c, if_neg (by omega)]
    · rw [d8 j (by omega)]
      exact (b2.L (L j) (by omega) (by omega)).trans (by decide)
end

