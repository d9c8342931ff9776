/-! TEXTS OF LAYOUTS, BY BOTH -/
section
variable {h g : HP} {F φ : Int → Int} {fo w : Int} {pr : Bool} {L : LYt} {k : Nat}
theorem msl36 {sh : Int} {K : Nat → Bool → Int32 → Int32 → Int32 → HP → Option HP} (m : MTL h F φ fo sh L pr) (f0 : 0 ≤ fo) (f1 : fo ≤ 2588) (t : TR F) (kd : KD F) (nm : NMs F) (ln : LYn L) (wo : wok w) {y : Nat} (y1 : y ≤ 129) : ∀ (d n k : Nat) (g : HP), k + d = (F 288).toNat → d < n → Mo L9 h g → WM g w (txk F (lyX L) (lyY L) (bdz F φ pr) (F 288).toNat y ++ rtk F (lyX L) (lyY L) (bdz F φ pr) (y : Int) k) 1000000 → hI g 747 983 = i32 ((txk F (lyX L) (lyY L) (bdz F φ pr) (F 288).toNat y).length : Int) → ∃ g', lX11_saysLayout_36 K n 983 pr (i32 sh) (i32 fo) (i32 (y : Int)) (i32 (k : Int)) g = K 983 pr (i32 sh) (i32 fo) (i32 (y : Int)) g' ∧ Mo L9 h g' ∧ WM g' w (txk F (lyX L) (lyY L) (bdz F φ pr) (F 288).toNat y ++ rtk F (lyX L) (lyY L) (bdz F φ pr) (y : Int) (F 288).toNat) 1000000 := by
  have O := t.ov
  have o1 := O.1
  have o2 := O.2.1
  obtain ⟨ln, lm0, lm1⟩ := ln
  have hY : ∀ p, lyY L p ≤ 372 := fun p => by have := ln p; omega
  have hb : ∀ p, (bdz F φ pr p).length ≤ 10 := bdz_len kd
  intro d
  induction d with
  | zero =>
    intro n k g e hn q W h7
    obtain ⟨n, rfl⟩ : ∃ x, n = x + 1 := ⟨n - 1, by omega⟩
    have m1 := m.mo q
    have Mg := m1.1
    have ek : k = (F 288).toNat := by omega
    rw [ek] at W ⊢
    refine ⟨g, ?_, q, W⟩
    rw [elX11_saysLayout_36]; unfold bX11_saysLayout_36
    rw [Mg.o, gd_tt, many_s Mg f0 f1, bn_s, m1.2.1, if_pos (by rw [i32_le (by omega) (by omega) (by omega) (by omega)]; omega)]
  | succ d ih =>
    intro n k g e hn q W h7
    obtain ⟨n, rfl⟩ : ∃ x, n = x + 1 := ⟨n - 1, by omega⟩
    have m1 := m.mo q
    have Mg := m1.1
    have o := O.2.2 (k : Int) (by omega) (by omega)
    have pp := t.op (k : Int) (by omega) (by omega)
    obtain ⟨p, ep⟩ : ∃ p, p = F (256 + (k : Int)) := ⟨_, rfl⟩
    rw [← ep] at o pp
    have lp := ln p
    have lyp := (m1.2.2.1.2.2.2.2 p o.1 o.2).1
    have tl := txk_len (F := F) (X := lyX L) (Y := lyY L) (bd := bdz F φ pr) (n := (F 288).toNat) (by omega) hY hb y
    have rl := rtk_len (F := F) (X := lyX L) (Y := lyY L) (bd := bdz F φ pr) (y := (y : Int)) hY hb k
    have nxt : rtk F (lyX L) (lyY L) (bdz F φ pr) (y : Int) (k + 1) = if lyX L p = (y : Int) then rtk F (lyX L) (lyY L) (bdz F φ pr) (y : Int) k ++ List.replicate (lyY L p - (rtk F (lyX L) (lyY L) (bdz F φ pr) (y : Int) k).length).toNat 32 ++ bdz F φ pr p else rtk F (lyX L) (lyY L) (bdz F φ pr) (y : Int) k := by simp only [rtk]; rw [← ep]
    have j81 : ∀ g', jX11_saysLayout_81 (fun v0 v1 v2 v4 v5 v6 h => lX11_saysLayout_36 K n v0 v1 v2 v4 v5 v6 h) 983 pr (i32 sh) (i32 fo) (i32 (y : Int)) (i32 (k : Int)) g' = lX11_saysLayout_36 K n 983 pr (i32 sh) (i32 fo) (i32 (y : Int)) (i32 ((k + 1 : Nat) : Int)) g' := fun g' => by
      unfold jX11_saysLayout_81
      rw [lt_e, i32_add]; rfl
    rw [elX11_saysLayout_36]; unfold bX11_saysLayout_36
    rw [Mg.o, gd_tt, many_s Mg f0 f1, bn_s, m1.2.1, if_neg (by rw [i32_le (by omega) (by omega) (by omega) (by omega)]; omega), ordered_s Mg f0 f1 (by omega) (by omega), bn_s, m1.2.1, ← ep, Mg.r_rowOf, oc_s, Mg.o_rowOf, gd_tt, Mg.n_rowOf, i32_inb o.1 (by omega) (by omega), gd_tt, i32_cn o.1 (by omega), lyp]
    by_cases z : lyX L p = (y : Int)
    · rw [if_pos z] at nxt
      obtain ⟨g1, a1, a2, a3, a4⟩ := msaysNode (φ := φ) (la := ((txk F (lyX L) (lyY L) (bdz F φ pr) (F 288).toNat y).length : Int)) m f0 f1 kd nm o.1 o.2 pp wo (by omega) (by omega) (by omega) (hY p) q W h7 (by rw [List.length_append]; omega) (by rw [List.length_append]; omega)
      have le : ((txk F (lyX L) (lyY L) (bdz F φ pr) (F 288).toNat y ++ rtk F (lyX L) (lyY L) (bdz F φ pr) (y : Int) k).length : Int) - ((txk F (lyX L) (lyY L) (bdz F φ pr) (F 288).toNat y).length : Int) = ((rtk F (lyX L) (lyY L) (bdz F φ pr) (y : Int) k).length : Int) := by rw [List.length_append]; omega
      rw [le] at a3
      have W1 : WM g1 w (txk F (lyX L) (lyY L) (bdz F φ pr) (F 288).toNat y ++ rtk F (lyX L) (lyY L) (bdz F φ pr) (y : Int) (k + 1)) 1000000 := by
        rw [nxt]
        rw [List.append_assoc, List.append_assoc] at a3
        rw [List.append_assoc]; exact a3
      obtain ⟨g', x1, x2, x3⟩ := ih n (k + 1) g1 (by omega) (by omega) a2 W1 a4
      refine ⟨g', ?_, x2, x3⟩
      rw [if_pos (by rw [z]), bn_s, a1, bn_s, j81]
      exact x1
    · rw [if_neg z] at nxt
      obtain ⟨g', x1, x2, x3⟩ := ih n (k + 1) g (by omega) (by omega) q (by rw [nxt]; exact W) h7
      refine ⟨g', ?_, x2, x3⟩
      rw [if_neg (by rw [i32_eq (by omega) (by omega) (by omega) (by omega)]; exact z), j81]
      exact x1
theorem msl16 {sh : Int} (m : MTL h F φ fo sh L pr) (f0 : 0 ≤ fo) (f1 : fo ≤ 2588) (t : TR F) (kd : KD F) (nm : NMs F) (ln : LYn L) (wo : wok w) : ∀ (d n y : Nat) (g : HP), (y : Int) + d = lyM L → d < n → Mo L9 h g → WM g w (txk F (lyX L) (lyY L) (bdz F φ pr) (F 288).toNat y) 1000000 → ∃ g', lX11_saysLayout_16 n 983 pr (i32 sh) (i32 fo) (i32 (y : Int)) g = some g' ∧ Mo L9 h g' ∧ WM g' w (txk F (lyX L) (lyY L) (bdz F φ pr) (F 288).toNat (lyM L).toNat) 1000000 := by
  have O := t.ov
  have o1 := O.1
  have o2 := O.2.1
  have hY : ∀ p, lyY L p ≤ 372 := fun p => by have := ln.1 p; omega
  have hb : ∀ p, (bdz F φ pr p).length ≤ 10 := bdz_len kd
  have lm := ln.2
  intro d
  induction d with
  | zero =>
    intro n y g e hn q W
    obtain ⟨n, rfl⟩ : ∃ x, n = x + 1 := ⟨n - 1, by omega⟩
    have m1 := m.mo q
    have Mg := m1.1
    refine ⟨g, ?_, q, by rw [show (lyM L).toNat = y by omega]; exact W⟩
    rw [elX11_saysLayout_16]; unfold bX11_saysLayout_16
    rw [Mg.o, gd_tt, m1.2.2.1.1, if_pos (by rw [i32_le (by omega) (by omega) (by omega) (by omega)]; omega)]
  | succ d ih =>
    intro n y g e hn q W
    obtain ⟨n, rfl⟩ : ∃ x, n = x + 1 := ⟨n - 1, by omega⟩
    have m1 := m.mo q
    have Mg := m1.1
    have tl := txk_len (F := F) (X := lyX L) (Y := lyY L) (bd := bdz F φ pr) (n := (F 288).toNat) (by omega) hY hb y
    have rl := rtk_len (F := F) (X := lyX L) (Y := lyY L) (bd := bdz F φ pr) (y := (y : Int)) hY hb (F 288).toNat
    obtain ⟨g1, e1⟩ : ∃ g1, g1 = sI g 747 983 (i32 ((txk F (lyX L) (lyY L) (bdz F φ pr) (F 288).toNat y).length : Int)) := ⟨_, rfl⟩
    have p1 : Mo L9 g g1 := by rw [e1]; exact Mo_I (by decide) _
    have W1 : WM g1 w (txk F (lyX L) (lyY L) (bdz F φ pr) (F 288).toNat y ++ rtk F (lyX L) (lyY L) (bdz F φ pr) (y : Int) 0) 1000000 := by
      obtain ⟨z1, z2, z3, z4, z5⟩ := W
      show WM g1 w (_ ++ []) 1000000
      rw [List.append_nil]
      exact ⟨by rw [e1, rII, if_neg (by omega)]; exact z1, by rw [e1, rII, if_neg (by omega)]; exact z2, by rw [e1, rII, if_neg (by omega)]; exact z3, by rw [e1, rII, if_neg (by omega)]; exact z4, z5⟩
    obtain ⟨g2, a1, a2, a3⟩ := msl36 (K := fun w103 w104 w105 w106 w107 h108 => gd (isO h108 w103 11) <| bn (fX11_says w103 (i32 10) h108) fun h111 => lt ((w107 + (i32 1))) fun v112 => lX11_saysLayout_16 n w103 w104 w105 w106 v112 h111) m f0 f1 t kd nm ln wo (y := y) (by omega) (F 288).toNat FU 0 g1 (by omega) (by have : FU = 1000000 := rfl; omega) (q.t p1) W1 (by rw [e1, rII, if_pos ⟨rfl, rfl⟩])
    have M2 := a2.ms m.1
    obtain ⟨g3, b1, b2, b3⟩ := msay M2 a3 (by omega) wo 10
    rw [List.take_of_length_le (by rw [List.length_append, List.length_append, List.length_singleton]; omega)] at b3
    obtain ⟨g', x1, x2, x3⟩ := ih n (y + 1) g3 (by omega) (by omega) (a2.t (b2.w l89)) b3
    refine ⟨g', ?_, x2, x3⟩
    rw [elX11_saysLayout_16]; unfold bX11_saysLayout_16
    rw [Mg.o, gd_tt, m1.2.2.1.1, if_neg (by rw [i32_le (by omega) (by omega) (by omega) (by omega)]; omega), W.2.1, ← e1, lt_e]
    refine a1.trans ?_
    show (gd (isO g2 983 11) <| bn (fX11_says 983 (i32 10) g2) fun h111 => lt ((i32 (y : Int) + (i32 1))) fun v112 => lX11_saysLayout_16 n 983 pr (i32 sh) (i32 fo) v112 h111) = some g'
    rw [M2.o, gd_tt, b1, bn_s, lt_e, i32_add]
    exact x1
theorem RR_M9 (R : RR h k) (p : Mo L9 h g) : RR g k := RR_mo R (by decide) (R.n24.mo p (by decide) (by decide)) p
theorem fd_nil (w : Int) : fd [] w = -2 := by
  unfold fd
  rw [if_neg (by simp only [List.length_nil]; omega)]
theorem mstarts (M : MS g) (w : Int) : ∃ g', fX11_startsOut 983 (i32 w) g = some g' ∧ Mo L9 g g' ∧ WM g' w [] 1000000 := by
  obtain ⟨g', e⟩ : ∃ g', g' = sI (sI (sI (sI g 744 983 (i32 0)) 745 983 (i32 w)) 746 983 (i32 (-2))) 748 983 (i32 1000000) := ⟨_, rfl⟩
  refine ⟨g', ?_, ?_, ?_, ?_, ?_, ?_, ?_⟩
  · unfold fX11_startsOut
    rw [M.o, gd_tt, lt_e, lt_e, lt_e, lt_e, ← e]
  · rw [e]
    exact (Mo_I (by decide) _).t ((Mo_I (by decide) _).t ((Mo_I (by decide) _).t (Mo_I (by decide) _)))
  · rw [e, rII, if_neg (by omega), rII, if_neg (by omega), rII, if_pos ⟨rfl, rfl⟩]
  · rw [e, rII, if_neg (by omega), rII, if_neg (by omega), rII, if_neg (by omega), rII, if_pos ⟨rfl, rfl⟩]; rfl
  · rw [e, rII, if_neg (by omega), rII, if_pos ⟨rfl, rfl⟩, fd_nil]
  · rw [e, rII, if_pos ⟨rfl, rfl⟩]; rfl
  · simp
theorem cstartw (C : CS g) (w : Int) : ∃ g', fX9_start 114 (i32 w) g = some g' ∧ So So8 g g' ∧ WC g' w [] false := by
  obtain ⟨g', e⟩ : ∃ g', g' = sI (sI (sI (sI g 576 114 (i32 0)) 577 114 (i32 (-2))) 578 114 (i32 w)) 579 114 (i32 0) := ⟨_, rfl⟩
  refine ⟨g', ?_, ?_, ?_, ?_, ?_, ?_⟩
  · unfold fX9_start
    rw [C.o_writer, gd_tt, lt_e, lt_e, lt_e, lt_e, ← e]
  · rw [e]
    exact (So_I (S := So8) rfl _ _).t ((So_I (S := So8) rfl _ _).t ((So_I (S := So8) rfl _ _).t (So_I (S := So8) rfl _ _)))
  · rw [e, rII, if_neg (by omega), rII, if_pos ⟨rfl, rfl⟩]
  · rw [e, rII, if_neg (by omega), rII, if_neg (by omega), rII, if_neg (by omega), rII, if_pos ⟨rfl, rfl⟩]; rfl
  · rw [e, rII, if_neg (by omega), rII, if_neg (by omega), rII, if_pos ⟨rfl, rfl⟩, fd_nil]
  · rw [e, rII, if_pos ⟨rfl, rfl⟩]; rfl
/-- a layout's text by the class, behind the layout -/
theorem ctextL (R : RR h k) {r : Nat} (hr : (r : Int) < Wm h 2628) (ld : LAYD (Wf (Wm h) (292 * (1 + (r : Int)))) L) {q : Int} (c : LDc k pr q r L φ h) (wo : wok w) : ∃ g g1 g2 T, fX10_arranged 0 pr (i32 q) h = some (some (115 + 36 * r), g) ∧ CS g ∧ fX9_start 114 (i32 w) g = some g1 ∧ CS g1 ∧ fX9_writeLayout 114 (some (115 + 36 * r)) (some 111) (if pr = true then none else some 109) g1 = some g2 ∧ CS g2 ∧ WC g2 w T false ∧ T = txk (Wf (Wm h) (292 * (1 + (r : Int)))) (lyX L) (lyY L) (bdz (Wf (Wm h) (292 * (1 + (r : Int)))) φ pr) (Wf (Wm h) (292 * (1 + (r : Int))) 288).toNat (lyM L).toNat ∧ RR g2 k ∧ Wm g2 = Wm h ∧ Pt g2 = Pt h ∧ hA g2 985 = hA h 985 := by
  obtain ⟨g, a1, a2, a3, a4, a5, a6, a7⟩ := c
  have Cg := a2.C
  obtain ⟨npg, srg, hng⟩ := a2.sr
  have r8 : r < 8 := by have := R.sr; obtain ⟨_, s, _⟩ := this; have := s.2.1.2.2; omega
  have fx := srg.2.2.2.1 r (by rw [a3]; exact hr)
  rw [a3] at fx
  obtain ⟨F, eF⟩ : ∃ F, F = Wf (Wm h) (292 * (1 + (r : Int))) := ⟨_, rfl⟩
  rw [← eF] at fx ld ⊢
  have A : FormAt g (115 + 36 * r) := Cg.rev r8
  obtain ⟨g1, b1, b2, b3⟩ := cstartw Cg w
  obtain ⟨_, ch⟩ := laydq fx.tr fx.kd ld
  have o1 := fx.tr.ov.1
  have o2 := fx.tr.ov.2.1
  obtain ⟨g2, c1, c2, c3⟩ := cwlay (φ := φ) (pr := pr) (w := w) (sp := false) fx A Cg (Or.inr (by omega)) ld a6 a7 wo (F 288).toNat FU 0 0 false g1 (by omega) (by have : FU = 1000000 := rfl; omega) b2 b3 ch (by omega) (fun _ => rfl) (fun _ _ _ => rfl)
  refine ⟨g, g1, g2, _, a1, Cg, b1, Cg.sk b2.1, c1, Cg.sk c2.1, c3, rfl, RR_S a2 c2 w8, (Wm_S c2 w8).trans a3, (Pt_S c2 w8).trans a4, (z5_S c2 w8).trans a5⟩
/-- and by the model -/
theorem mtextL (R : RR h k) {r : Nat} (hr : (r : Int) < Wm h 2628) (ld : LAYD (Wf (Wm h) (292 * (1 + (r : Int)))) L) {q : Int} (e1 : pr = true → q = (r : Int)) (e2 : pr = false → (0 ≤ q ∧ q < 10 ∧ Wm h (2630 + 25 * q) = (r : Int)) ∧ ∀ f, 0 ≤ f → f < 24 → (φ f = -2 ∨ (0 ≤ φ f ∧ φ f ≤ 9999 ∧ φ f = Wm h (2630 + 25 * q + 1 + f)))) {m : HP} (Rm : RR m k) (eW : Wm m = Wm h) (ly : LYm m L) (fo : pr = false → ∀ f, 0 ≤ f → f < 24 → hA m 1000 f.toNat = bI (decide (0 ≤ φ f))) (wo : wok w) : ∃ m', fX11_saysLayout 983 pr (i32 q) (i32 w) m = some m' ∧ Mo L9 m m' ∧ WM m' w (txk (Wf (Wm h) (292 * (1 + (r : Int)))) (lyX L) (lyY L) (bdz (Wf (Wm h) (292 * (1 + (r : Int)))) φ pr) (Wf (Wm h) (292 * (1 + (r : Int))) 288).toNat (lyM L).toNat) 1000000 := by
  have M := Rm.M
  obtain ⟨npg, srg, hng⟩ := Rm.sr
  have r8 : r < 8 := by have := R.sr; obtain ⟨_, s, _⟩ := this; have := s.2.1.2.2; omega
  have fx := srg.2.2.2.1 r (by rw [eW]; exact hr)
  rw [eW] at fx
  obtain ⟨F, eF⟩ : ∃ F, F = Wf (Wm h) (292 * (1 + (r : Int))) := ⟨_, rfl⟩
  rw [← eF] at fx ld ⊢
  have ln := laydn fx.tr fx.kd ld
  have mt : MTL m F φ (292 * (1 + (r : Int))) q L pr := by
    refine ⟨M, by rw [eF]; funext j; unfold Fm Wf; rw [eW], ly, fun z => ⟨⟨(e2 z).1.1, (e2 z).1.2.1⟩, fun f a b => ⟨fo z f a b, ?_⟩⟩⟩
    rw [eW]; exact (e2 z).2 f a b
  obtain ⟨m1, a1, a2, a3⟩ := mstarts M w
  have M1 := a2.ms M
  have eW1 : Wm m1 = Wm h := by rw [← eW]; funext j; unfold Wm; rw [a2.L (by decide)]
  have fl := formLaid_s (r := r) (pr := pr) (q := q) M1 e1 (fun z => by rw [eW1]; exact (e2 z).1)
  have lm := ln.2
  obtain ⟨m2, b1, b2, b3⟩ := msl16 mt (by omega) (by omega) fx.tr fx.kd fx.nm ln wo (lyM L).toNat FU 0 m1 (by omega) (by have : FU = 1000000 := rfl; omega) a2 a3
  refine ⟨m2, ?_, b2, b3⟩
  unfold fX11_saysLayout
  rw [M.o, gd_tt, a1, bn_s, M1.o, gd_tt, fl, bn_s]
  exact b1
theorem rd_textLength (R : RR h k) (hk : k ≤ 512) (pr : Bool) (p : Int32) : ∃ o g g', fX10_textLength 0 pr p h = some (o, g) ∧ fX11_textLength 983 pr p g = some (o, g') ∧ RR g' (k + 1) := by
  obtain ⟨q, h1, h2, rfl⟩ := i32_ex p
  rcases laid R hk pr h1 h2 with ⟨a, b⟩ | ⟨r, L, φ, hr, ld, e1, e2, lc, mm⟩
  · refine ⟨i32 (-1), h, h, ?_, ?_, RR_up R (by omega)⟩
    · unfold fX10_textLength
      rw [R.C.o, gd_tt, a, bn2_s, on_nn]
    · unfold fX11_textLength
      rw [R.M.o, gd_tt, b, bn2_s, if_neg (by decide)]
  · obtain ⟨g, g1, g2, T, a1, C0, a2, C1, a3, C2, W, eT, R2, eW, eP, e5⟩ := ctextL (w := -1) R hr ld lc (by unfold wok; omega)
    obtain ⟨m, b1, b2, b3, b4, b5, b6, b7⟩ := mm g2 R2 eW eP e5
    obtain ⟨m', c1, c2, c3⟩ := mtextL (w := -1) R hr ld e1 e2 b2 (b3.trans eW) b6 b7 (by unfold wok; omega)
    refine ⟨i32 (T.length : Int), g2, m', ?_, ?_, RR_up (RR_M9 b2 c2) (by omega)⟩
    · unfold fX10_textLength
      rw [R.C.o, gd_tt, a1, bn2_s, on_sm, C0.o, gd_tt, C0.r_writer, oc_s, C0.o_writer, gd_tt, a2, bn_s, C1.o, gd_tt, C1.r_writer, C1.r_layout, C1.r_view]
      unfold jX10_textLength_42
      cases pr with
      | true =>
        rw [if_pos rfl] at a3 ⊢
        rw [oc_s, C1.o_writer, gd_tt, a3, bn_s, C2.o, gd_tt, C2.r_writer, oc_s, C2.o_writer, gd_tt, W.2.1]
      | false =>
        rw [if_neg (by decide)] at a3 ⊢
        rw [oc_s, C1.o_writer, gd_tt, a3, bn_s, C2.o, gd_tt, C2.r_writer, oc_s, C2.o_writer, gd_tt, W.2.1]
    · unfold fX11_textLength
      rw [R2.M.o, gd_tt, b1, bn2_s, if_pos rfl, b2.M.o, gd_tt, c1, bn_s, (c2.ms b2.M).o, gd_tt, c3.2.1, eT]
theorem rd_textByte (R : RR h k) (hk : k ≤ 512) (pr : Bool) (p u : Int32) : ∃ o g g', fX10_textByte 0 pr p u h = some (o, g) ∧ fX11_textByte 983 pr p u g = some (o, g') ∧ RR g' (k + 1) := by
  obtain ⟨q, h1, h2, rfl⟩ := i32_ex p
  obtain ⟨w, h3, h4, rfl⟩ := i32_ex u
  by_cases w0 : 0 ≤ w
  rotate_left
  · have cl : fX10_textByte 0 pr (i32 q) (i32 w) h = some (i32 (-1), h) := by
      unfold fX10_textByte jX10_textByte_14
      rw [i32_z, if_neg (by rw [i32_le (by omega) (by omega) (by omega) (by omega)]; exact w0), on_nn]
    rcases laid R hk pr h1 h2 with ⟨a, b⟩ | ⟨r, L, φ, hr, ld, e1, e2, lc, mm⟩
    · refine ⟨i32 (-1), h, h, cl, ?_, RR_up R (by omega)⟩
      unfold fX11_textByte
      rw [R.M.o, gd_tt, b, bn2_s, if_neg (by decide)]
    · obtain ⟨m, b1, b2, b3, b4, b5, b6, b7⟩ := mm h R rfl rfl rfl
      refine ⟨i32 (-1), h, m, cl, ?_, RR_up b2 (by omega)⟩
      unfold fX11_textByte
      rw [R.M.o, gd_tt, b1, bn2_s, if_pos rfl, i32_z, if_neg (by rw [i32_le (by omega) (by omega) (by omega) (by omega)]; exact w0)]
  have le0 : i32 0 ≤ i32 w := by rw [i32_le (by omega) (by omega) (by omega) (by omega)]; exact w0
  rcases laid R hk pr h1 h2 with ⟨a, b⟩ | ⟨r, L, φ, hr, ld, e1, e2, lc, mm⟩
  · refine ⟨i32 (-1), h, h, ?_, ?_, RR_up R (by omega)⟩
    · unfold fX10_textByte jX10_textByte_14
      rw [i32_z, if_pos le0, R.C.o, gd_tt, a, bn2_s, on_nn]
    · unfold fX11_textByte
      rw [R.M.o, gd_tt, b, bn2_s, if_neg (by decide)]
  · obtain ⟨g, g1, g2, T, a1, C0, a2, C1, a3, C2, W, eT, R2, eW, eP, e5⟩ := ctextL (w := w) R hr ld lc ⟨h3, h4⟩
    obtain ⟨m, b1, b2, b3, b4, b5, b6, b7⟩ := mm g2 R2 eW eP e5
    obtain ⟨m', c1, c2, c3⟩ := mtextL (w := w) R hr ld e1 e2 b2 (b3.trans eW) b6 b7 ⟨h3, h4⟩
    refine ⟨i32 (fd T w), g2, m', ?_, ?_, RR_up (RR_M9 b2 c2) (by omega)⟩
    · unfold fX10_textByte jX10_textByte_14
      rw [i32_z, if_pos le0, R.C.o, gd_tt, a1, bn2_s, on_sm, C0.o, gd_tt, C0.r_writer, oc_s, C0.o_writer, gd_tt, a2, bn_s, C1.o, gd_tt, C1.r_writer, C1.r_layout, C1.r_view]
      unfold jX10_textByte_53
      cases pr with
      | true =>
        rw [if_pos rfl] at a3 ⊢
        rw [oc_s, C1.o_writer, gd_tt, a3, bn_s, C2.o, gd_tt, C2.r_writer, oc_s, C2.o_writer, gd_tt, W.2.2.1]
      | false =>
        rw [if_neg (by decide)] at a3 ⊢
        rw [oc_s, C1.o_writer, gd_tt, a3, bn_s, C2.o, gd_tt, C2.r_writer, oc_s, C2.o_writer, gd_tt, W.2.2.1]
    · unfold fX11_textByte
      rw [R2.M.o, gd_tt, b1, bn2_s, if_pos rfl, i32_z, if_pos le0, b2.M.o, gd_tt, c1, bn_s, (c2.ms b2.M).o, gd_tt, c3.2.2.1, eT]
end

