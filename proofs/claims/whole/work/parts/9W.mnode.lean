/-! THE MODEL TELLS A LAYOUT -/
section
variable {h g : HP} {F φ : Int → Int} {fo w la : Int} {pr : Bool} {T : List Int} {L : LYt}
theorem l89 : lsub L8 L9 = true := by decide
/-- what the model needs of its heap while it tells a layout -/
def MTL (g : HP) (F φ : Int → Int) (fo sh : Int) (L : LYt) (pr : Bool) : Prop := MS g ∧ Fm g fo = F ∧ LYm g L ∧ (pr = false → (0 ≤ sh ∧ sh < 10) ∧ ∀ f, 0 ≤ f → f < 24 → hA g 1000 f.toNat = bI (decide (0 ≤ φ f)) ∧ (φ f = -2 ∨ (0 ≤ φ f ∧ φ f ≤ 9999 ∧ φ f = Wm g (2630 + 25 * sh + 1 + f))))
theorem MTL.mo {sh : Int} (m : MTL h F φ fo sh L pr) (p : Mo L9 h g) : MTL g F φ fo sh L pr := by
  obtain ⟨a, b, c, d⟩ := m
  have eW : Wm g = Wm h := by funext j; unfold Wm; rw [p.L (by decide)]
  refine ⟨p.ms a, by rw [← b]; funext q; unfold Fm; rw [eW], ⟨by rw [p.I (by decide)]; exact c.1, by rw [p.I (by decide)]; exact c.2.1, by rw [p.I (by decide)]; exact c.2.2.1, by rw [p.I (by decide)]; exact c.2.2.2.1, fun n a b => by rw [p.A (by decide), p.A (by decide)]; exact c.2.2.2.2 n a b⟩, fun z => ⟨(d z).1, fun f f0 f1 => ?_⟩⟩
  rw [p.A (by decide), eW]
  exact (d z).2 f f0 f1
theorem mpad {sh p : Int} {K : Nat → Bool → Int32 → Int32 → Int32 → HP → Option HP} (m : MTL h F φ fo sh L pr) (p0 : 0 ≤ p) (p1 : p < 32) (wo : wok w) (la0 : 0 ≤ la) (y0 : 0 ≤ lyX L p) (y1 : 0 ≤ lyY L p) (y2 : lyY L p ≤ 372) : ∀ (d n : Nat) (g : HP) (T : List Int), d = (lyY L p - (T.length - la)).toNat → la ≤ T.length → T.length + d ≤ 900000 → d < n → Mo L9 h g → WM g w T 1000000 → hI g 747 983 = i32 la → ∃ g', lX11_saysNode_0 K n 983 pr (i32 fo) (i32 sh) (i32 p) g = K 983 pr (i32 fo) (i32 sh) (i32 p) g' ∧ Mo L9 h g' ∧ WM g' w (T ++ List.replicate d 32) 1000000 ∧ hI g' 747 983 = i32 la := by
  intro d
  induction d with
  | zero =>
    intro n g T e la1 l hn q W h7
    obtain ⟨n, rfl⟩ : ∃ x, n = x + 1 := ⟨n - 1, by omega⟩
    have Mg := (m.mo q).1
    have ly := (m.mo q).2.2.1.2.2.2.2 p p0 p1
    refine ⟨g, ?_, q, by rw [List.replicate_zero, List.append_nil]; exact W, h7⟩
    rw [elX11_saysNode_0]; unfold bX11_saysNode_0
    rw [Mg.o, gd_tt, Mg.r_columnOf, oc_s, Mg.o_columnOf, gd_tt, Mg.n_columnOf, i32_inb p0 (by omega) (by omega), gd_tt, i32_cn p0 (by omega), ly.2 (by omega), W.2.1, h7, i32_sub, if_pos (by rw [i32_le (by omega) (by omega) (by omega) (by omega)]; omega)]
  | succ d ih =>
    intro n g T e la1 l hn q W h7
    obtain ⟨n, rfl⟩ : ∃ x, n = x + 1 := ⟨n - 1, by omega⟩
    have Mg := (m.mo q).1
    have ly := (m.mo q).2.2.1.2.2.2.2 p p0 p1
    obtain ⟨g1, b1, b2, b3⟩ := msay Mg W (by omega) wo 32
    have l1 := len_1 T 32
    rw [List.take_of_length_le (by omega)] at b3
    obtain ⟨g2, c1, c2, c3, c4⟩ := ih n g1 _ (by omega) (by omega) (by omega) (by omega) (q.t (b2.w l89)) b3 (by rw [b2.I (by decide)]; exact h7)
    refine ⟨g2, ?_, c2, by rw [rep_1] at c3; exact c3, c4⟩
    rw [elX11_saysNode_0]; unfold bX11_saysNode_0
    rw [Mg.o, gd_tt, Mg.r_columnOf, oc_s, Mg.o_columnOf, gd_tt, Mg.n_columnOf, i32_inb p0 (by omega) (by omega), gd_tt, i32_cn p0 (by omega), ly.2 (by omega), W.2.1, h7, i32_sub, if_neg (by rw [i32_le (by omega) (by omega) (by omega) (by omega)]; omega), b1, bn_s]
    exact c1
/-- the rest of a field -/
theorem munder {K : Nat → HP → Option HP} (M : MS h) (wo : wok w) {cut : Nat} (l : cut ≤ 1000000) : ∀ (d n : Nat) (g : HP) (T : List Int), T.length + d = cut → d < n → Mo L9 h g → WM g w T cut → ∃ g', lX11_saysNode_129 K n 983 (i32 (cut : Int)) g = K 983 g' ∧ Mo L9 h g' ∧ WM g' w (T ++ List.replicate d 95) cut ∧ hI g' 747 983 = hI g 747 983 := by
  intro d
  induction d with
  | zero =>
    intro n g T e hn q W
    obtain ⟨n, rfl⟩ : ∃ x, n = x + 1 := ⟨n - 1, by omega⟩
    have Mg := q.ms M
    refine ⟨g, ?_, q, by rw [List.replicate_zero, List.append_nil]; exact W, rfl⟩
    rw [elX11_saysNode_129]; unfold bX11_saysNode_129
    rw [Mg.o, gd_tt, W.2.1, if_pos (by rw [i32_le (by omega) (by omega) (by omega) (by omega)]; omega)]
  | succ d ih =>
    intro n g T e hn q W
    obtain ⟨n, rfl⟩ : ∃ x, n = x + 1 := ⟨n - 1, by omega⟩
    have Mg := q.ms M
    obtain ⟨g1, b1, b2, b3⟩ := msay Mg W l wo 95
    have l1 := len_1 T 95
    rw [List.take_of_length_le (by omega)] at b3
    obtain ⟨g2, c1, c2, c3, c4⟩ := ih n g1 _ (by omega) (by omega) (q.t (b2.w l89)) b3
    refine ⟨g2, ?_, c2, by rw [rep_1] at c3; exact c3, by rw [c4, b2.I (by decide)]⟩
    rw [elX11_saysNode_129]; unfold bX11_saysNode_129
    rw [Mg.o, gd_tt, W.2.1, if_neg (by rw [i32_le (by omega) (by omega) (by omega) (by omega)]; omega), b1, bn_s]
    exact c1
theorem cut_fd (T X : List Int) (n : Nat) : (T ++ X).take (T.length + n) ++ List.replicate (T.length + n - ((T ++ X).take (T.length + n)).length) 95 = T ++ (X ++ List.replicate n 95).take n := by
  have e1 : (T ++ X).take (T.length + n) = T ++ X.take n := by
    rw [List.take_append, List.take_of_length_le (by omega), Nat.add_sub_cancel_left]
  rw [e1, List.append_assoc, List.take_append, List.take_replicate, List.length_append, List.length_take]
  congr 3
  omega
theorem msaysNode {sh p : Int} (m : MTL h F φ fo sh L pr) (f0 : 0 ≤ fo) (f1 : fo ≤ 2588) (kd : KD F) (nm : NMs F) (p0 : 0 ≤ p) (p1 : p < 32) (pp : F p ≠ -1) (wo : wok w) (la0 : 0 ≤ la) (y0 : 0 ≤ lyX L p) (y1 : 0 ≤ lyY L p) (y2 : lyY L p ≤ 372) (q : Mo L9 h g) (W : WM g w T 1000000) (h7 : hI g 747 983 = i32 la) (l1 : la ≤ T.length) (l2 : T.length + 400 ≤ 900000) : ∃ g', fX11_saysNode 983 pr (i32 fo) (i32 sh) (i32 p) g = some g' ∧ Mo L9 h g' ∧ WM g' w (T ++ List.replicate (lyY L p - (T.length - la)).toNat 32 ++ bdz F φ pr p) 1000000 ∧ hI g' 747 983 = i32 la := by
  obtain ⟨d, ed⟩ : ∃ d : Nat, d = (lyY L p - (T.length - la)).toNat := ⟨_, rfl⟩
  rw [← ed]
  have ez : bdz F φ pr p = bdy F φ pr p := by unfold bdz; rw [if_pos ⟨p0, p1, pp⟩]
  rw [ez]
  have nv := nm.1 p p0 p1 pp
  have l8 := nl_le (F (32 + p))
  unfold fX11_saysNode
  obtain ⟨g1, a1, a2, a3, a4⟩ := mpad (K := fun w1 w2 w3 w4 w5 h6 =>
    bn (fX11_isField w5 h6) fun v8 =>
    if v8 = true then (
      gd (isO h6 w1 11) <|
      bn (fX11_of w1 w3 (i32 160) w5 h6) fun v11 =>
      lt (((hI h6 744 w1) + v11)) fun v12 =>
      lt (sI h6 748 w1 v12) fun h13 =>
      oc (hR h13 709 w1) fun o14 =>
      gd (isO h13 o14 23) <|
      gd (inb ((w3 + (i32 32)) + w5) (hln h13 o14)) <|
      bn (fX11_saysWord w1 (hL h13 o14 ((w3 + (i32 32)) + w5).toNatClampNeg) h13) fun h19 =>
      if w2 = true then (
        lX11_saysNode_129 (fun w20 h21 =>
          gd (isO h21 w20 11) <|
          lt (sI h21 748 w20 (i32 1000000)) fun h23 =>
          some h23) FU w1 v12 h19
        ) else
      gd (isO h19 w1 11) <|
      oc (hR h19 735 w1) fun o25 =>
      gd (isO h19 o25 22) <|
      gd (inb w5 (hln h19 o25)) <|
      if (hA h19 o25 w5.toNatClampNeg) = 0 then (
        lX11_saysNode_129 (fun w29 h30 =>
          gd (isO h30 w29 11) <|
          lt (sI h30 748 w29 (i32 1000000)) fun h32 =>
          some h32) FU w1 v12 h19
        ) else
      bn (fX11_says w1 (i32 61) h19) fun h34 =>
      gd (isO h34 w1 11) <|
      bn (fX11_answerAt w1 w4 w5 h34) fun v37 =>
      bn (fX11_saysNumber w1 v37 h34) fun h39 =>
      lX11_saysNode_129 (fun w40 h41 =>
        gd (isO h41 w40 11) <|
        lt (sI h41 748 w40 (i32 1000000)) fun h43 =>
        some h43) FU w1 v12 h39
      ) else
    gd (isO h6 w1 11) <|
    bn (fX11_says w1 (i32 35) h6) fun h46 =>
    gd (isO h46 w1 11) <|
    oc (hR h46 709 w1) fun o48 =>
    gd (isO h46 o48 23) <|
    gd (inb ((w3 + (i32 32)) + w5) (hln h46 o48)) <|
    bn (fX11_saysWord w1 (hL h46 o48 ((w3 + (i32 32)) + w5).toNatClampNeg) h46) fun h53 =>
    some h53) m p0 p1 wo la0 y0 y1 y2 d FU g T ed l1 (by omega) (by have : FU = 1000000 := rfl; omega) q W h7
  rw [a1]
  have m1 := m.mo a2
  have M1 := m1.1
  obtain ⟨T1, eT1⟩ : ∃ T1, T1 = T ++ List.replicate d 32 := ⟨_, rfl⟩
  have lT1 : T1.length = T.length + d := by rw [eT1, List.length_append, List.length_replicate]
  rw [← eT1] at a3 ⊢
  have nmE : ∀ g', Fm g' fo = F → Wm g' (fo + 32 + p) = F (32 + p) := fun g' e => by rw [← e]; unfold Fm; rw [Int.add_assoc]
  rw [isField_s (by omega) (by omega), bn_s]
  by_cases gq : 24 ≤ p
  · have eb : bdy F φ pr p = 35 :: nmT (F (32 + p)) := by unfold bdy; rw [if_pos gq]
    obtain ⟨g2, b1, b2, b3⟩ := msay M1 a3 (by omega) wo 35
    have q2 : Mo L9 h g2 := a2.t (b2.w l89)
    have m2 := m.mo q2
    have M2 := m2.1
    have len := len_1 T1 35
    rw [List.take_of_length_le (by omega)] at b3
    obtain ⟨g3, c1, c2, c3⟩ := msayWord M2 b3 (by omega) wo nv.1 nv.2.1
    rw [List.take_of_length_le (by rw [List.length_append, nmT_len]; omega), List.append_assoc] at c3
    refine ⟨g3, ?_, q2.t (c2.w l89), by rw [eb]; exact c3, by rw [c2.I (by decide), b2.I (by decide)]; exact a4⟩
    rw [decide_eq_false (by omega), if_neg (by decide), M1.o, gd_tt, b1, bn_s, M2.o, gd_tt, M2.r_world, oc_s, M2.o_world, gd_tt, M2.n_world, i32_add, i32_add, i32_inb (by omega) (by omega) (by omega), gd_tt, i32_cn (by omega) (by omega), Wm_e, nmE g2 m2.2.1, c1, bn_s]
  · have kf := (kd p p0 p1 pp).1 (by omega)
    obtain ⟨v, ev⟩ : ∃ v, v = (if pr = true then -2 else φ p) := ⟨_, rfl⟩
    have eb : bdy F φ pr p = fdT (F (32 + p)) v (F (160 + p)) := by unfold bdy; rw [if_neg gq, ev]
    obtain ⟨wd, ew⟩ : ∃ wd : Nat, (wd : Int) = F (160 + p) := ⟨(F (160 + p)).toNat, by omega⟩
    obtain ⟨cut, ec⟩ : ∃ cut : Nat, cut = T1.length + wd := ⟨_, rfl⟩
    have eof : fX11_of 983 (i32 fo) (i32 160) (i32 p) g1 = some (i32 (wd : Int)) := by
      rw [of_s M1 (by omega) (by omega), m1.2.1, ew]
    obtain ⟨g2, e2⟩ : ∃ g2, g2 = sI g1 748 983 (i32 (cut : Int)) := ⟨_, rfl⟩
    have q12 : Mo L9 g1 g2 := by rw [e2]; exact Mo_I (by decide) _
    have q2 := a2.t q12
    have m2 := m.mo q2
    have M2 := m2.1
    obtain ⟨z1, z2, z3, z4, z5⟩ := a3
    have W2 : WM g2 w T1 cut := ⟨by rw [e2, rII, if_neg (by omega)]; exact z1, by rw [e2, rII, if_neg (by omega)]; exact z2, by rw [e2, rII, if_neg (by omega)]; exact z3, by rw [e2, rII, if_pos ⟨rfl, rfl⟩], by omega⟩
    have h72 : hI g2 747 983 = i32 la := by rw [e2, rII, if_neg (by omega)]; exact a4
    obtain ⟨g3, c1, c2, c3⟩ := msayWord M2 W2 (by omega) wo nv.1 nv.2.1
    have q3 : Mo L9 h g3 := q2.t (c2.w l89)
    have m3 := m.mo q3
    have M3 := m3.1
    have h73 : hI g3 747 983 = i32 la := by rw [c2.I (by decide)]; exact h72
    -- the end of a field
    have fin : ∀ (g4 : HP), Mo L9 h g4 → WM g4 w ((T1 ++ fdX (F (32 + p)) v).take cut) cut → hI g4 747 983 = i32 la → ∃ g', lX11_saysNode_129 (fun w20 h21 => gd (isO h21 w20 11) <| lt (sI h21 748 w20 (i32 1000000)) fun h23 => some h23) FU 983 (i32 (cut : Int)) g4 = some g' ∧ Mo L9 h g' ∧ WM g' w (T1 ++ bdy F φ pr p) 1000000 ∧ hI g' 747 983 = i32 la := fun g4 q4 W4 h74 => by
      have l4 := W4.2.2.2.2
      obtain ⟨g5, d1, d2, d3, d4⟩ := munder (K := fun w20 h21 => gd (isO h21 w20 11) <| lt (sI h21 748 w20 (i32 1000000)) fun h23 => some h23) m.1 wo (cut := cut) (by omega) (cut - ((T1 ++ fdX (F (32 + p)) v).take cut).length) FU g4 _ (by omega) (by have : FU = 1000000 := rfl; omega) q4 W4
      rw [ec, cut_fd] at d3
      have ex : T1 ++ List.take wd (fdX (F (32 + p)) v ++ List.replicate wd 95) = T1 ++ bdy F φ pr p := by
        rw [eb]
        unfold fdT
        rw [← ew, Int.toNat_natCast]
      rw [ex] at d3
      obtain ⟨u1, u2, u3, u4, u5⟩ := d3
      obtain ⟨g6, e6⟩ : ∃ g6, g6 = sI g5 748 983 (i32 1000000) := ⟨_, rfl⟩
      have p6 : Mo L9 g5 g6 := by rw [e6]; exact Mo_I (by decide) _
      refine ⟨g6, ?_, d2.t p6, ⟨by rw [e6, rII, if_neg (by omega)]; exact u1, by rw [e6, rII, if_neg (by omega)]; exact u2, by rw [e6, rII, if_neg (by omega)]; exact u3, by rw [e6, rII, if_pos ⟨rfl, rfl⟩]; rfl, by omega⟩, by rw [e6, rII, if_neg (by omega), d4]; exact h74⟩
      rw [d1, (d2.ms m.1).o, gd_tt, ← e6, lt_e]
    have head : ∀ rr, (if pr = true then (lX11_saysNode_129 (fun w20 h21 => gd (isO h21 w20 11) <| lt (sI h21 748 w20 (i32 1000000)) fun h23 => some h23) FU 983 (i32 (cut : Int)) g3) else if (hA g3 1000 p.toNat) = 0 then (lX11_saysNode_129 (fun w20 h21 => gd (isO h21 w20 11) <| lt (sI h21 748 w20 (i32 1000000)) fun h23 => some h23) FU 983 (i32 (cut : Int)) g3) else bn (fX11_says 983 (i32 61) g3) fun h34 => gd (isO h34 983 11) <| bn (fX11_answerAt 983 (i32 sh) (i32 p) h34) fun v37 => bn (fX11_saysNumber 983 v37 h34) fun h39 => lX11_saysNode_129 (fun w20 h21 => gd (isO h21 w20 11) <| lt (sI h21 748 w20 (i32 1000000)) fun h23 => some h23) FU 983 (i32 (cut : Int)) h39) = rr → (if decide (p < 24) = true then (gd (isO g1 983 11) <| bn (fX11_of 983 (i32 fo) (i32 160) (i32 p) g1) fun v11 => lt (((hI g1 744 983) + v11)) fun v12 => lt (sI g1 748 983 v12) fun h13 => oc (hR h13 709 983) fun o14 => gd (isO h13 o14 23) <| gd (inb (((i32 fo) + (i32 32)) + (i32 p)) (hln h13 o14)) <| bn (fX11_saysWord 983 (hL h13 o14 (((i32 fo) + (i32 32)) + (i32 p)).toNatClampNeg) h13) fun h19 => if pr = true then (lX11_saysNode_129 (fun w20 h21 => gd (isO h21 w20 11) <| lt (sI h21 748 w20 (i32 1000000)) fun h23 => some h23) FU 983 v12 h19) else gd (isO h19 983 11) <| oc (hR h19 735 983) fun o25 => gd (isO h19 o25 22) <| gd (inb (i32 p) (hln h19 o25)) <| if (hA h19 o25 (i32 p).toNatClampNeg) = 0 then (lX11_saysNode_129 (fun w29 h30 => gd (isO h30 w29 11) <| lt (sI h30 748 w29 (i32 1000000)) fun h32 => some h32) FU 983 v12 h19) else bn (fX11_says 983 (i32 61) h19) fun h34 => gd (isO h34 983 11) <| bn (fX11_answerAt 983 (i32 sh) (i32 p) h34) fun v37 => bn (fX11_saysNumber 983 v37 h34) fun h39 => lX11_saysNode_129 (fun w40 h41 => gd (isO h41 w40 11) <| lt (sI h41 748 w40 (i32 1000000)) fun h43 => some h43) FU 983 v12 h39) else none) = rr := fun rr hrr => by
      rw [if_pos (decide_eq_true (show p < 24 by omega)), M1.o, gd_tt, eof, bn_s, z2, i32_add, show (T1.length : Int) + wd = cut by omega, lt_e, ← e2, lt_e, M2.r_world, oc_s, M2.o_world, gd_tt, M2.n_world, i32_add, i32_add, i32_inb (by omega) (by omega) (by omega), gd_tt, i32_cn (by omega) (by omega), Wm_e, nmE g2 m2.2.1, c1, bn_s, M3.o, gd_tt, M3.r_forced, oc_s, M3.o_forced, gd_tt, M3.n_forced, i32_inb p0 (by omega) (by omega), gd_tt, i32_cn p0 (by omega)]
      exact hrr
    have go : ∀ rr, (if pr = true then (lX11_saysNode_129 (fun w20 h21 => gd (isO h21 w20 11) <| lt (sI h21 748 w20 (i32 1000000)) fun h23 => some h23) FU 983 (i32 (cut : Int)) g3) else if (hA g3 1000 p.toNat) = 0 then (lX11_saysNode_129 (fun w20 h21 => gd (isO h21 w20 11) <| lt (sI h21 748 w20 (i32 1000000)) fun h23 => some h23) FU 983 (i32 (cut : Int)) g3) else bn (fX11_says 983 (i32 61) g3) fun h34 => gd (isO h34 983 11) <| bn (fX11_answerAt 983 (i32 sh) (i32 p) h34) fun v37 => bn (fX11_saysNumber 983 v37 h34) fun h39 => lX11_saysNode_129 (fun w20 h21 => gd (isO h21 w20 11) <| lt (sI h21 748 w20 (i32 1000000)) fun h23 => some h23) FU 983 (i32 (cut : Int)) h39) = some rr → ∀ B : Option HP, (if decide (p < 24) = true then (gd (isO g1 983 11) <| bn (fX11_of 983 (i32 fo) (i32 160) (i32 p) g1) fun v11 => lt (((hI g1 744 983) + v11)) fun v12 => lt (sI g1 748 983 v12) fun h13 => oc (hR h13 709 983) fun o14 => gd (isO h13 o14 23) <| gd (inb (((i32 fo) + (i32 32)) + (i32 p)) (hln h13 o14)) <| bn (fX11_saysWord 983 (hL h13 o14 (((i32 fo) + (i32 32)) + (i32 p)).toNatClampNeg) h13) fun h19 => if pr = true then (lX11_saysNode_129 (fun w20 h21 => gd (isO h21 w20 11) <| lt (sI h21 748 w20 (i32 1000000)) fun h23 => some h23) FU 983 v12 h19) else gd (isO h19 983 11) <| oc (hR h19 735 983) fun o25 => gd (isO h19 o25 22) <| gd (inb (i32 p) (hln h19 o25)) <| if (hA h19 o25 (i32 p).toNatClampNeg) = 0 then (lX11_saysNode_129 (fun w29 h30 => gd (isO h30 w29 11) <| lt (sI h30 748 w29 (i32 1000000)) fun h32 => some h32) FU 983 v12 h19) else bn (fX11_says 983 (i32 61) h19) fun h34 => gd (isO h34 983 11) <| bn (fX11_answerAt 983 (i32 sh) (i32 p) h34) fun v37 => bn (fX11_saysNumber 983 v37 h34) fun h39 => lX11_saysNode_129 (fun w40 h41 => gd (isO h41 w40 11) <| lt (sI h41 748 w40 (i32 1000000)) fun h43 => some h43) FU 983 v12 h39) else B) = some rr := fun rr hrr B => by
      have z := head _ hrr
      rw [if_pos (decide_eq_true (show p < 24 by omega))] at z ⊢
      exact z
    by_cases vv : 0 ≤ v
    · -- with an answer
      have prf : pr = false := by
        cases e : pr with
        | false => rfl
        | true => rw [e, if_pos rfl] at ev; omega
      have evp : v = φ p := by rw [ev, prf, if_neg (by decide)]
      obtain ⟨⟨s0, s1⟩, mf⟩ := m3.2.2.2 prf
      obtain ⟨k1, k2⟩ := mf p p0 (by omega)
      have vr : φ p ≤ 9999 ∧ φ p = Wm g3 (2630 + 25 * sh + 1 + p) := by
        rcases k2 with z | z
        · omega
        · exact z.2
      rw [decide_eq_true (by omega)] at k1
      obtain ⟨g4, d1, d2, d3⟩ := msay M3 c3 (by omega) wo 61
      have q4 : Mo L9 h g4 := q3.t (d2.w l89)
      have m4 := m.mo q4
      have eW4 : Wm g4 = Wm g3 := by funext j; unfold Wm; rw [d2.L (by decide)]
      obtain ⟨g5, x1, x2, x3⟩ := msayNumber m4.1 d3 (by omega) wo (v := v) vv (by omega)
      have eX : fdX (F (32 + p)) v = nmT (F (32 + p)) ++ (61 :: dgT v) := by unfold fdX; rw [if_pos vv]
      rw [take_app, List.append_assoc, take_app] at x3
      have x3' : WM g5 w ((T1 ++ fdX (F (32 + p)) v).take cut) cut := by
        rw [eX]
        rw [List.append_assoc] at x3
        exact x3
      obtain ⟨g', y1, y2, y3, y4⟩ := fin g5 (q4.t (x2.w l89)) x3' (by rw [x2.I (by decide), d2.I (by decide)]; exact h73)
      refine ⟨g', go g' ?_ _, y2, y3, y4⟩
      rw [if_neg (by rw [prf]; decide), k1, if_neg (by decide), d1, bn_s, m4.1.o, gd_tt, answerAt_s m4.1 s0 s1 p0 (by omega), bn_s, eW4, ← vr.2, ← evp, x1, bn_s]
      exact y1
    · have eX : fdX (F (32 + p)) v = nmT (F (32 + p)) := by unfold fdX; rw [if_neg vv, List.append_nil]
      obtain ⟨g', y1, y2, y3, y4⟩ := fin g3 q3 (by rw [eX]; exact c3) h73
      refine ⟨g', go g' ?_ _, y2, y3, y4⟩
      cases e : pr with
      | true => rw [if_pos rfl]; exact y1
      | false =>
        have evp : v = φ p := by rw [ev, e, if_neg (by decide)]
        have k1 := ((m3.2.2.2 e).2 p p0 (by omega)).1
        rw [decide_eq_false (by omega)] at k1
        rw [if_neg (by decide), k1, if_pos (by decide)]
        exact y1
end

