/-! LOOKING AT A SHEET -/
section
variable {h g : HP} {k : Nat}
theorem Kq_9 (p : So So9 h g) : Kq h g := by
  have s : ∀ x, (x < 109 ∨ 111 ≤ x) → Sm h g x := fun x hx => p.2.2 x (fun z => by unfold So9 at z; omega)
  exact ⟨p.1, StateEq_sm (fun x hx => s x (by have := hx.2; omega)), fun r hr => FormEq_sm (fun x hx => s x (by have := hx.1; omega)), fun i hi => StateEq_sm (fun x hx => s x (by have := hx.1; omega)), ⟨funext (s 1 (by omega)).2.2.2.1, funext (s 104 (by omega)).2.2.2.2.1, (s 0 (by omega)).1 _, (s 0 (by omega)).1 _⟩, fun x x0 x1 => ⟨funext (s x (by omega)).2.2.2.1, funext (s x (by omega)).2.2.2.2.1⟩, fun f _ _ => (s 983 (by omega)).1 f⟩
theorem RR_9 (R : RR h k) (p : So So9 h g) : RR g (k + 1) := by
  have er := R.2.2.2.2.2.1
  obtain ⟨np, T, rc, h714, ⟨b, t1, t2, t3, t4, t5⟩, b1, b2, b3⟩ := R.rc
  have s : ∀ x, (x < 109 ∨ 111 ≤ x) → Sm h g x := fun x hx => p.2.2 x (fun z => by unfold So9 at z; omega)
  exact rr_end R er h714 t1 t2 t3 t4 t5 b1 b2 b3 (RC_k rc (Kq_9 p) (TS2_So p (fun x z => by unfold So9 at z; omega))) (fun f _ => (s 0 (by omega)).1 f) (fun f _ => (s 983 (by omega)).1 f) (funext (s 1 (by omega)).2.2.2.1) (funext (s 984 (by omega)).2.2.2.1) p.2.1
/-- what is seen of a sheet, by both -/
def LOOK (g g' : HP) (A : Int → Int) (S : Int → Bool) (φ : Int → Int) : Prop := (∀ m, 0 ≤ m → m < 32 → (bt (hI g 512 109) m = true ↔ S m = true)) ∧ (∀ m, 0 ≤ m → m < 32 → (bt (hI g 513 109) m = true ↔ (m < 24 ∧ 0 ≤ φ m))) ∧ VW g φ ∧ (∀ m, 0 ≤ m → m < 32 → hA g' 999 m.toNat = bI (S m)) ∧ (∀ f, 0 ≤ f → f < 24 → hA g' 1000 f.toNat = bI (decide (0 ≤ φ f))) ∧ ∀ f, 0 ≤ f → f < 24 → (φ f = -2 ∨ (0 ≤ φ f ∧ φ f = A f ∧ S f = true))
def OKf (h g g' : HP) (k : Nat) : Prop := RR g (k + 1) ∧ RR g' (k + 1) ∧ So So9 h g ∧ Mo L4 g g' ∧ CS g ∧ MS g' ∧ Wm g = Wm h ∧ Wm g' = Wm h
theorem look_rs (R : RR h k) (hk : k ≤ 512) {s r : Nat} (hs : (s : Int) < Wm h 2629) (hr : (r : Int) < Wm h 2628) : ∃ g g' S φ, fX8_look 109 (some (115 + 36 * r)) (some (2 + 38 + 2 * s)) h = some g ∧ fX11_laysShown 983 (i32 (292 * (1 + (r : Int)))) (i32 (s : Int)) g = some g' ∧ OKf h g g' k ∧ LOOK g g' (fun f => Wm h (2630 + 25 * (s : Int) + 1 + f)) S φ := by
  obtain ⟨np, sr, hnp⟩ := R.sr
  have C := R.C
  have M := R.M
  obtain ⟨np0, T0, rc, h714, tp, b1, b2, b3⟩ := R.rc
  obtain ⟨_, ⟨y1, y2, y3⟩, ⟨w1, w2, w3⟩, frs, shs⟩ := sr
  have fx := frs r hr
  have shr := shs s hs
  obtain ⟨F, eF⟩ : ∃ F, F = Wf (Wm h) (292 * (1 + (r : Int))) := ⟨_, rfl⟩
  rw [← eF] at fx
  have q : AQ h (2 + 38 + 2 * s) (fun f => Wm h (2630 + 25 * (s : Int) + 1 + f)) := ⟨C.st.sh (show s < 10 by omega), fun f f0 f1 => shr.2.2.2 f f0 f1⟩
  have S0 : FormAt h (115 + 36 * r) := C.rev (show r < 8 by omega)
  obtain ⟨g, φ, e1, p1, v1, so1, b512, b513⟩ := clook fx S0 C q (by omega) (Or.inr (by omega)) (by omega) (Or.inl (by omega))
  have nb : ∀ x, (x < 109 ∨ 111 ≤ x) → Sm h g x := fun x hx => p1.2.2 x (fun z => by unfold So9 at z; omega)
  have eW : Wm g = Wm h := by funext j; unfold Wm; rw [(nb 987 (by omega)).2.2.2.2.1]
  have eP : Pt g = Pt h := by funext j; unfold Pt; rw [(nb 990 (by omega)).2.2.2.1]
  have Mg : MS g := M.sk p1.1
  have fm : FMs g F (fun f => Wm h (2630 + 25 * (s : Int) + 1 + f)) (cns h F) (292 * (1 + (r : Int))) (s : Int) := by
    refine ⟨Mg, ⟨by omega, by omega⟩, ⟨by omega, by omega⟩, ?_, fun n => by rw [eP]; rfl, fun n n0 n1 p => ⟨?_, ?_⟩, fun f f0 f1 => ⟨by rw [eW], (shr.2.2.2 f f0 f1).2⟩⟩
    · rw [eF]; funext j; unfold Fm Wf; rw [eW]
    · have := fx.sg n n0 n1 p
      exact ⟨this.1, this.2.1, by omega⟩
    · rcases (fx.cd n0 n1 p).1 with ⟨z, _⟩ | ⟨_, u, _, w⟩
      · exact Or.inl z
      · exact Or.inr (GLt_of 15 1008 (hsz h) u _ w)
  have fw : FWf F (cns h F) np := fx.2.1
  obtain ⟨g', ψ, e2, p2, so2, a999, a1000, vA⟩ := mlook fm fw
  have eqφ := SOL_u fw so1 so2
  have same : ∀ n, sho F (cnd φ (cns h F)) 9 n = sho F (cnd ψ (cns h F)) 9 n ∨ ¬ (0 ≤ n ∧ n < 32 ∧ F n ≠ -1) := fun n => by
    by_cases c : 0 ≤ n ∧ n < 32 ∧ F n ≠ -1
    · left
      obtain ⟨n0, n1, p⟩ := c
      refine sho_congr 9 n fun m m0 hm => ?_
      have th := isin_there fx.tr.tv m0 9 n (Or.inr ⟨n0, n1, p⟩) hm
      unfold cnd rv
      rw [rpn_congr (cns h F m) [] (fun u hu ut => ?_)]
      rcases fx.tk m m0 th.1 th.2 u hu with ⟨f', s', v, c1, c2, c3, c4, c5, c6, c7, rfl⟩ | z | z | z
      · obtain ⟨d1, _, _⟩ := dec_tcd c1 c2 c4 c5 c6 c7
        rw [d1]; exact eqφ f' c1 c2
      · rw [z] at ut; exact absurd ut (by decide)
      · rw [z] at ut; exact absurd ut (by decide)
      · rw [z] at ut; exact absurd ut (by decide)
    · exact Or.inr c
  have Rg := RR_9 R p1
  have Cg := C.sk p1.1
  refine ⟨g, g', fun n => decide (F n ≠ -1) && sho F (cnd φ (cns h F)) 9 n, φ, e1, e2, ⟨Rg, RR_mo Rg (by decide) (Rg.n24.l (p2.A (by decide)) a999) p2, p1, p2, Cg, p2.ms Mg, eW, by rw [← eW]; funext j; unfold Wm; rw [p2.L (by decide)]⟩, fun m m0 m1 => ?_, b513, v1, fun m m0 m1 => ?_, fun f f0 f1 => by rw [a1000 f f0 f1, eqφ f f0 f1], fun f f0 f1 => ?_⟩
  · rw [b512 m m0 m1, Bool.and_eq_true, decide_eq_true_eq]
  · rw [a999 m m0 m1]
    congr 1
    show _ = (decide (F m ≠ -1) && sho F (cnd φ (cns h F)) 9 m)
    rcases same m with z | z
    · rw [z]
    · rw [decide_eq_false (fun w => z ⟨m0, m1, w⟩), Bool.false_and, Bool.false_and]
  · by_cases p : F f = -1
    · exact Or.inl ((so1 f f0 f1).2 p)
    · have e := (so1 f f0 f1).1 p
      unfold fvl at e
      by_cases c : sho F (cnd φ (cns h F)) 9 f = true ∧ (fun f => Wm h (2630 + 25 * (s : Int) + 1 + f)) f ≠ -2 ∧ F (96 + f) ≤ (fun f => Wm h (2630 + 25 * (s : Int) + 1 + f)) f ∧ (fun f => Wm h (2630 + 25 * (s : Int) + 1 + f)) f ≤ F (128 + f)
      · rw [if_pos c] at e
        have an := (shr.2.2.2 f f0 f1).2
        have c2 := c.2.1
        right
        refine ⟨?_, e, by show (decide (F f ≠ -1) && sho F (cnd φ (cns h F)) 9 f) = true; rw [decide_eq_true (show F f ≠ -1 from p), Bool.true_and]; exact c.1⟩
        rw [e]
        rcases an with z | z
        · exact absurd z c2
        · exact z.1
      · rw [if_neg c] at e; exact Or.inl e
theorem shows_s (C : CS g) {n : Int} (h1 : -2147483648 ≤ n) (h2 : n < 2147483648) : fX8_shows 109 (i32 n) g = some (decide (0 ≤ n ∧ n < 32 ∧ bt (hI g 512 109) n = true)) := by
  unfold fX8_shows
  rw [C.o_view, gd_tt, chasBit h1 h2, bn_s]
theorem rd_isShown (R : RR h k) (hk : k ≤ 512) (q1 q2 q3 : Int32) : ∃ o g g', fX10_isShown 0 q1 q2 q3 h = some (o, g) ∧ fX11_isShown 983 q1 q2 q3 g = some (o, g') ∧ RR g' (k + 1) := by
  obtain ⟨s, h1, h2, rfl⟩ := i32_ex q1
  obtain ⟨r, h3, h4, rfl⟩ := i32_ex q2
  obtain ⟨n, h5, h6, rfl⟩ := i32_ex q3
  obtain ⟨np, sr, hnp⟩ := R.sr
  have C := R.C
  have M := R.M
  obtain ⟨_, ⟨y1, y2, y3⟩, ⟨w1, w2, w3⟩, frs, shs⟩ := sr
  have R' := RR_up R (show k ≤ k + 1 by omega)
  have fs := findSheet_s C.st w1 ⟨w2, w3⟩ h1 h2
  have fr := findRev_s C y1 ⟨y2, y3⟩ h3 h4
  by_cases cs : 0 ≤ s ∧ s < Wm h 2629
  rotate_left
  · refine ⟨false, h, h, ?_, ?_, R'⟩
    · unfold fX10_isShown
      rw [C.o, gd_tt, C.r_state, oc_s, C.o_state, gd_tt, fs, bn_s, fr, bn_s, if_neg cs, on_nn]
    · unfold fX11_isShown
      rw [M.o, gd_tt, isSheet_s M ⟨w2, w3⟩ h1 h2, bn_s, decide_eq_false cs, if_neg (by decide)]
  by_cases cr : 0 ≤ r ∧ r < Wm h 2628
  rotate_left
  · refine ⟨false, h, h, ?_, ?_, R'⟩
    · unfold fX10_isShown
      rw [C.o, gd_tt, C.r_state, oc_s, C.o_state, gd_tt, fs, bn_s, fr, bn_s, if_pos cs, on_sm, if_neg cr, on_nn]
    · unfold fX11_isShown
      rw [M.o, gd_tt, isSheet_s M ⟨w2, w3⟩ h1 h2, bn_s, decide_eq_true cs, if_pos rfl, isRevision_s M ⟨y2, y3⟩ h3 h4, bn_s, decide_eq_false cr, if_neg (by decide)]
  have fx := frs r.toNat (by omega)
  have A : FormAt h (115 + 36 * r.toNat) := C.rev (show r.toNat < 8 by omega)
  have er : ((r.toNat : Nat) : Int) = r := by omega
  have es : ((s.toNat : Nat) : Int) = s := by omega
  rw [er] at fx
  have hasn : ∀ g : HP, MS g → Wm g = Wm h → fX11_has 983 (i32 (292 * (1 + r))) (i32 n) g = some (decide (0 ≤ n ∧ n < 32 ∧ Wf (Wm h) (292 * (1 + r)) n ≠ -1)) := fun g Mg eW => by
    rw [has_s Mg (by omega) (by omega) h5 h6]
    unfold Fm Wf
    rw [eW]
  by_cases cn : 0 ≤ n ∧ n < 32 ∧ Wf (Wm h) (292 * (1 + r)) n ≠ -1
  rotate_left
  · refine ⟨false, h, h, ?_, ?_, R'⟩
    · unfold fX10_isShown
      rw [C.o, gd_tt, C.r_state, oc_s, C.o_state, gd_tt, fs, bn_s, fr, bn_s, if_pos cs, on_sm, if_pos cr, on_sm, A.o, gd_tt, x_find A fx h5 h6, bn_s, fnx_n cn, on_nn]
    · unfold fX11_isShown
      rw [M.o, gd_tt, isSheet_s M ⟨w2, w3⟩ h1 h2, bn_s, decide_eq_true cs, if_pos rfl, isRevision_s M ⟨y2, y3⟩ h3 h4, bn_s, decide_eq_true cr, if_pos rfl, formOf_s, bn_s, hasn h M rfl, bn_s, decide_eq_false cn, if_neg (by decide)]
  obtain ⟨g, g', S, φ, e1, e2, ⟨R1, R2, p1, p2, Cg, M', eWg, eW'⟩, l1, l2, l3, l4, l5, l6⟩ := look_rs R hk (s := s.toNat) (r := r.toNat) (by omega) (by omega)
  have Mg : MS g := M.sk p1.1
  rw [er, es] at e2
  refine ⟨S n, g, g', ?_, ?_, R2⟩
  · unfold fX10_isShown
    rw [C.o, gd_tt, C.r_state, oc_s, C.o_state, gd_tt, fs, bn_s, fr, bn_s, if_pos cs, on_sm, if_pos cr, on_sm, A.o, gd_tt, x_find A fx h5 h6, bn_s, fnx_y cn, on_sm, C.r_view, oc_s, C.o_view, gd_tt, e1, bn_s, Cg.o, gd_tt, Cg.r_view, oc_s, Cg.o_view, gd_tt, shows_s Cg h5 h6, bn_s]
    congr 2
    have := l1 n cn.1 cn.2.1
    cases z : S n with
    | true => exact decide_eq_true ⟨cn.1, cn.2.1, this.mpr z⟩
    | false => exact decide_eq_false (fun w => by rw [this.mp w.2.2] at z; cases z)
  · unfold fX11_isShown
    rw [Mg.o, gd_tt, isSheet_s Mg (by rw [eWg]; exact ⟨w2, w3⟩) h1 h2, bn_s, eWg, decide_eq_true cs, if_pos rfl, isRevision_s Mg (by rw [eWg]; exact ⟨y2, y3⟩) h3 h4, bn_s, eWg, decide_eq_true cr, if_pos rfl, formOf_s, bn_s, hasn g Mg eWg, bn_s, decide_eq_true cn, if_pos rfl, bn_s, e2, bn_s, M'.o, gd_tt, M'.r_shown, oc_s, M'.o_shown, gd_tt, M'.n_shown, i32_inb cn.1 (by omega) (by omega), gd_tt, i32_cn cn.1 (by omega), l4 n cn.1 cn.2.1, isB_bI, gd_tt, z2b_bI]
theorem rd_inForce (R : RR h k) (hk : k ≤ 512) (q1 q2 q3 : Int32) : ∃ o g g', fX10_inForce 0 q1 q2 q3 h = some (o, g) ∧ fX11_inForce 983 q1 q2 q3 g = some (o, g') ∧ RR g' (k + 1) := by
  obtain ⟨s, h1, h2, rfl⟩ := i32_ex q1
  obtain ⟨r, h3, h4, rfl⟩ := i32_ex q2
  obtain ⟨n, h5, h6, rfl⟩ := i32_ex q3
  obtain ⟨np, sr, hnp⟩ := R.sr
  have C := R.C
  have M := R.M
  obtain ⟨_, ⟨y1, y2, y3⟩, ⟨w1, w2, w3⟩, frs, shs⟩ := sr
  have R' := RR_up R (show k ≤ k + 1 by omega)
  have fs := findSheet_s C.st w1 ⟨w2, w3⟩ h1 h2
  have fr := findRev_s C y1 ⟨y2, y3⟩ h3 h4
  by_cases cs : 0 ≤ s ∧ s < Wm h 2629
  rotate_left
  · refine ⟨i32 (-1), h, h, ?_, ?_, R'⟩
    · unfold fX10_inForce
      rw [C.o, gd_tt, C.r_state, oc_s, C.o_state, gd_tt, fs, bn_s, fr, bn_s, if_neg cs, on_nn]
    · unfold fX11_inForce
      rw [M.o, gd_tt, isSheet_s M ⟨w2, w3⟩ h1 h2, bn_s, decide_eq_false cs, if_neg (by decide)]
  by_cases cr : 0 ≤ r ∧ r < Wm h 2628
  rotate_left
  · refine ⟨i32 (-1), h, h, ?_, ?_, R'⟩
    · unfold fX10_inForce
      rw [C.o, gd_tt, C.r_state, oc_s, C.o_state, gd_tt, fs, bn_s, fr, bn_s, if_pos cs, on_sm, if_neg cr, on_nn]
    · unfold fX11_inForce
      rw [M.o, gd_tt, isSheet_s M ⟨w2, w3⟩ h1 h2, bn_s, decide_eq_true cs, if_pos rfl, isRevision_s M ⟨y2, y3⟩ h3 h4, bn_s, decide_eq_false cr, if_neg (by decide)]
  have fx := frs r.toNat (by omega)
  have A : FormAt h (115 + 36 * r.toNat) := C.rev (show r.toNat < 8 by omega)
  have er : ((r.toNat : Nat) : Int) = r := by omega
  have es : ((s.toNat : Nat) : Int) = s := by omega
  rw [er] at fx
  have hasn : ∀ g : HP, MS g → Wm g = Wm h → fX11_has 983 (i32 (292 * (1 + r))) (i32 n) g = some (decide (0 ≤ n ∧ n < 32 ∧ Wf (Wm h) (292 * (1 + r)) n ≠ -1)) := fun g Mg eW => by
    rw [has_s Mg (by omega) (by omega) h5 h6]
    unfold Fm Wf
    rw [eW]
  by_cases cn : (0 ≤ n ∧ n ≤ 23) ∧ Wf (Wm h) (292 * (1 + r)) n ≠ -1
  rotate_left
  · refine ⟨i32 (-1), h, h, ?_, ?_, R'⟩
    · unfold fX10_inForce
      rw [C.o, gd_tt, C.r_state, oc_s, C.o_state, gd_tt, fs, bn_s, fr, bn_s, if_pos cs, on_sm, if_pos cr, on_sm, A.o, gd_tt, x_findField A fx h5 h6, bn_s]
      by_cases d : n < 24
      · rw [if_pos d, fnx_n (fun z => cn ⟨⟨z.1, by omega⟩, z.2.2⟩), on_nn]
      · rw [if_neg d, on_nn]
    · unfold fX11_inForce
      rw [M.o, gd_tt, isSheet_s M ⟨w2, w3⟩ h1 h2, bn_s, decide_eq_true cs, if_pos rfl, isRevision_s M ⟨y2, y3⟩ h3 h4, bn_s, decide_eq_true cr, if_pos rfl, in_s h5 h6 (by omega) (by omega) (by omega) (by omega), bn_s]
      by_cases d : 0 ≤ n ∧ n ≤ 23
      · rw [decide_eq_true d, if_pos rfl, formOf_s, bn_s, hasn h M rfl, bn_s, decide_eq_false (fun z => cn ⟨d, z.2.2⟩), if_neg (by decide)]
      · rw [decide_eq_false d, if_neg (by decide)]
  obtain ⟨cd, cp⟩ := cn
  obtain ⟨g, g', S, φ, e1, e2, ⟨R1, R2, p1, p2, Cg, M', eWg, eW'⟩, l1, l2, l3, l4, l5, l6⟩ := look_rs R hk (s := s.toNat) (r := r.toNat) (by omega) (by omega)
  have Mg : MS g := M.sk p1.1
  rw [er, es] at e2
  refine ⟨i32 (φ n), g, g', ?_, ?_, R2⟩
  · unfold fX10_inForce
    rw [C.o, gd_tt, C.r_state, oc_s, C.o_state, gd_tt, fs, bn_s, fr, bn_s, if_pos cs, on_sm, if_pos cr, on_sm, A.o, gd_tt, x_findField A fx h5 h6, bn_s, if_pos (show n < 24 by omega), fnx_y ⟨cd.1, by omega, cp⟩, on_sm, C.r_view, oc_s, C.o_view, gd_tt, e1, bn_s, Cg.o, gd_tt, Cg.r_view, oc_s, Cg.o_view, gd_tt, cforce Cg l3 cd.1 (by omega), bn_s]
  · unfold fX11_inForce
    rw [Mg.o, gd_tt, isSheet_s Mg (by rw [eWg]; exact ⟨w2, w3⟩) h1 h2, bn_s, eWg, decide_eq_true cs, if_pos rfl, isRevision_s Mg (by rw [eWg]; exact ⟨y2, y3⟩) h3 h4, bn_s, eWg, decide_eq_true cr, if_pos rfl, in_s h5 h6 (by omega) (by omega) (by omega) (by omega), bn_s, decide_eq_true cd, if_pos rfl, formOf_s, bn_s, hasn g Mg eWg, bn_s, decide_eq_true ⟨cd.1, by omega, cp⟩, if_pos rfl, bn_s, e2, bn_s, M'.o, gd_tt, M'.r_forced, oc_s, M'.o_forced, gd_tt, M'.n_forced, i32_inb cd.1 (by omega) (by omega), gd_tt, i32_cn cd.1 (by omega), l5 n cd.1 (by omega), answerAt_s M' cs.1 (by omega) cd.1 (by omega), bn_s, eW']
    rcases l6 n cd.1 (by omega) with z | ⟨z1, z2, z3⟩
    · rw [z, if_pos (show bI (decide (0 ≤ (-2 : Int))) = 0 by decide)]
    · rw [decide_eq_true z1, if_neg (show ¬ bI true = 0 by decide), z2]
      show some (i32 (Wm h (2630 + 25 * s + 1 + n)), g') = some (i32 (Wm h (2630 + 25 * ((s.toNat : Nat) : Int) + 1 + n)), g')
      rw [es]
end

