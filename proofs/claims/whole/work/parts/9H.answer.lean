section
variable {h g : HP} {k np a : Nat} {F A : Int → Int}
theorem FMs_of {fo sh : Int} (M : MS g) (fx : FRx g a F np) (hnp : np ≤ 12000) (h1 : 0 ≤ fo ∧ fo ≤ 2588) (h2 : 0 ≤ sh ∧ sh < 10) (eF : Fm g fo = F) (eA : ∀ f, 0 ≤ f → f < 24 → Wm g (2630 + 25 * sh + 1 + f) = A f ∧ (A f = -2 ∨ (0 ≤ A f ∧ A f ≤ 9999))) : FMs g F A (cns g F) fo sh := by
  refine ⟨M, h1, h2, eF, fun n => rfl, fun n n0 n1 p => ⟨?_, ?_⟩, eA⟩
  · have := fx.sg n n0 n1 p
    exact ⟨this.1, this.2.1, by omega⟩
  · rcases (fx.cd n0 n1 p).1 with ⟨z, _⟩ | ⟨_, u, _, w⟩
    · exact Or.inl z
    · exact Or.inr (GLt_of 15 1008 (hsz g) u _ w)
/-- what is shown of a node -/
def shw (F : Int → Int) (Cn : Int → List Int32) (φ : Int → Int) (n : Int) : Bool := decide (F n ≠ -1) && sho F (cnd φ Cn) 9 n
theorem shw_same {Cn : Int → List Int32} {φ ψ : Int → Int} (w : FWf F Cn np) (eq : ∀ f, 0 ≤ f → f < 24 → φ f = ψ f) {n : Int} (n0 : 0 ≤ n) (n1 : n < 32) : shw F Cn φ n = shw F Cn ψ n := by
  unfold shw
  by_cases p : F n ≠ -1
  · congr 1
    refine sho_congr 9 n fun m m0 hm => ?_
    have th := isin_there w.1.1.tv m0 9 n (Or.inr ⟨n0, n1, p⟩) hm
    unfold cnd rv
    rw [rpn_congr (Cn m) [] (fun u hu ut => ?_)]
    rcases w.2.2.1 m m0 th.1 th.2 u hu with ⟨f', s', v, c1, c2, c3, c4, c5, c6, c7, rfl⟩ | z | z | z
    · obtain ⟨d1, _, _⟩ := dec_tcd c1 c2 c4 c5 c6 c7
      rw [d1]; exact eq f' c1 c2
    · rw [z] at ut; exact absurd ut (by decide)
    · rw [z] at ut; exact absurd ut (by decide)
    · rw [z] at ut; exact absurd ut (by decide)
  · rw [decide_eq_false p, Bool.false_and, Bool.false_and]
theorem sho_E {F' : Int → Int} {c c' : Int → Bool} (V : AV F) (e : ∀ n, 0 ≤ n → n < 32 → F' n = F n) (ec : ∀ n, 0 ≤ n → n < 32 → c' n = c n) : ∀ (k : Nat) (n : Int), n < 32 → sho F' c' k n = sho F c k n := by
  intro k
  induction k with
  | zero => intro n _; rfl
  | succ k ih =>
    intro n n1
    simp only [sho]
    by_cases n0 : 0 ≤ n
    · rw [if_pos n0, if_pos n0, e n n0 n1, ec n n0 n1, ih _ (V n n0 n1).2]
    · rw [if_neg n0, if_neg n0]
theorem SOL_E {F' : Int → Int} {Cn Cn' : Int → List Int32} {φ : Int → Int} (V : AV F) (e : E292 F' F) (ec : ∀ n, 0 ≤ n → n < 32 → Cn' n = Cn n) : (SOL F' Cn' A φ → SOL F Cn A φ) ∧ ∀ n, 0 ≤ n → n < 32 → shw F' Cn' φ n = shw F Cn φ n := by
  have sh := sho_E (F' := F') (c := cnd φ Cn) (c' := cnd φ Cn') V (fun n n0 n1 => e n n0 (by omega)) (fun n n0 n1 => by unfold cnd; rw [ec n n0 n1])
  refine ⟨fun h f f0 f1 => ?_, fun n n0 n1 => ?_⟩
  · obtain ⟨a, b⟩ := h f f0 f1
    rw [e f f0 (by omega)] at a b
    refine ⟨fun p => ?_, b⟩
    rw [a p, sh 9 f (by omega)]
    unfold fvl
    rw [e (96 + f) (by omega) (by omega), e (128 + f) (by omega) (by omega)]
  · unfold shw
    rw [e n n0 (by omega), sh 9 n n1]
theorem rd_answer (R : RR h k) (hk : k ≤ 512) (q1 q2 q3 : Int32) : ∃ o g g', fX10_answer 0 q1 q2 q3 h = some (o, g) ∧ fX11_answer 983 q1 q2 q3 g = some (o, g') ∧ RR g' (k + 1) := by
  obtain ⟨s, h1, h2, rfl⟩ := i32_ex q1
  obtain ⟨f, h3, h4, rfl⟩ := i32_ex q2
  obtain ⟨y, h5, h6, rfl⟩ := i32_ex q3
  have er := R.2.2.2.2.2.1
  obtain ⟨np, T, rc, h714, ⟨bb, t1, t2, t3, t4, t5⟩, b1, b2, b3⟩ := R.rc
  have C := rc.1
  have M := rc.2.1
  have sr := rc.2.2.2.2.2.2.1
  obtain ⟨sd, ⟨y1, y2, y3⟩, ⟨w1, w2, w3⟩, frs, shs⟩ := id sr
  have R' := RR_up R (show k ≤ k + 1 by omega)
  have fs := findSheet_s C.st w1 ⟨w2, w3⟩ h1 h2
  by_cases cs : 0 ≤ s ∧ s < Wm h 2629
  rotate_left
  · refine ⟨i32 (-1), h, h, ?_, ?_, R'⟩
    · unfold fX10_answer
      have fo : fX10_formOf 0 none h = some none := by unfold fX10_formOf; rw [on_nn]
      rw [C.o, gd_tt, C.r_state, oc_s, C.o_state, gd_tt, fs, bn_s, if_neg cs, fo, bn_s, on_nn]
    · unfold fX11_answer
      rw [M.o, gd_tt, isSheet_s M ⟨w2, w3⟩ h1 h2, bn_s, decide_eq_false cs, if_neg (by decide)]
  obtain ⟨sn, esn⟩ : ∃ sn : Nat, s = (sn : Int) := ⟨s.toNat, by omega⟩
  subst esn
  rw [Int.toNat_natCast] at fs
  obtain ⟨r, e1, e2, e3⟩ := cformOf R cs.2
  have s10 : sn < 10 := by omega
  have r8 : r < 8 := by omega
  have fx := frs r e2
  have shr := shs sn cs.2
  obtain ⟨F, eF⟩ : ∃ F, F = Wf (Wm h) (292 * (1 + (r : Int))) := ⟨_, rfl⟩
  rw [← eF] at fx
  have fw : FWf F (cns h F) np := fx.2.1
  have S0 : FormAt h (115 + 36 * r) := C.rev r8
  have hasn : ∀ g : HP, MS g → Wm g = Wm h → fX11_has 983 (i32 (292 * (1 + (r : Int)))) (i32 f) g = some (decide (0 ≤ f ∧ f < 32 ∧ F f ≠ -1)) := fun g Mg eW => by
    rw [has_s Mg (by omega) (by omega) h3 h4, eF]
    unfold Fm Wf
    rw [eW]
  by_cases cn : (0 ≤ f ∧ f ≤ 23) ∧ F f ≠ -1
  rotate_left
  · refine ⟨i32 (-1), h, h, ?_, ?_, R'⟩
    · unfold fX10_answer
      rw [C.o, gd_tt, C.r_state, oc_s, C.o_state, gd_tt, fs, bn_s, if_pos cs, e3, bn_s, on_sm, on_sm, S0.o, gd_tt, x_findField S0 fx h3 h4, bn_s]
      by_cases d : f < 24
      · rw [if_pos d, fnx_n (fun z => cn ⟨⟨z.1, by omega⟩, z.2.2⟩), on_nn]
      · rw [if_neg d, on_nn]
    · unfold fX11_answer
      rw [M.o, gd_tt, isSheet_s M ⟨w2, w3⟩ h1 h2, bn_s, decide_eq_true cs, if_pos rfl, in_s h3 h4 (by omega) (by omega) (by omega) (by omega), bn_s]
      by_cases d : 0 ≤ f ∧ f ≤ 23
      · rw [decide_eq_true d, if_pos rfl, formBy_s M (by omega) (by omega), bn_s, e1, hasn h M rfl, bn_s, decide_eq_false (fun z => cn ⟨d, z.2.2⟩), if_neg (by decide)]
      · rw [decide_eq_false d, if_neg (by decide)]
  obtain ⟨cf, fp⟩ := cn
  have kd := (fx.kd f cf.1 (by omega) fp).1 (by omega)
  have nd := (fx.nd cf.1 (by omega) fp).2
  have h32 : f.toNat < 32 := by omega
  -- the value
  obtain ⟨vv, evv⟩ : ∃ vv : Bool, vv = decide (y = -2 ∨ (F (96 + f) ≤ y ∧ y ≤ F (128 + f))) := ⟨_, rfl⟩
  have hc : fX10_answer 0 (i32 (sn : Int)) (i32 f) (i32 y) h = if vv = true then jX10_answer_60 0 (i32 f) (i32 y) (some (2 + 38 + 2 * sn)) (some (115 + 36 * r)) h else some (i32 (-1), h) := by
    unfold fX10_answer
    rw [C.o, gd_tt, C.r_state, oc_s, C.o_state, gd_tt, fs, bn_s, if_pos cs, e3, bn_s, on_sm, on_sm, S0.o, gd_tt, x_findField S0 fx h3 h4, bn_s, if_pos (show f < 24 by omega), fnx_y ⟨cf.1, by omega, fp⟩, on_sm]
    by_cases c : y = -2
    · rw [if_pos (by rw [c]), if_pos (by rw [evv]; exact decide_eq_true (Or.inl c))]
    · rw [if_neg (by rw [i32_eq (by omega) (by omega) (by omega) (by omega)]; exact c), S0.on h32, gd_tt]
      have al : fX2_allows (115 + 36 * r + 4 + f.toNat) (i32 y) h = some (decide (F (96 + f) ≤ y ∧ y ≤ F (128 + f))) := by
        unfold fX2_allows
        rw [S0.on h32, gd_tt, nd.2.2.2.1, nd.2.2.2.2.1]
        by_cases c1 : F (96 + f) ≤ y
        · rw [if_neg (by rw [i32_lt (by omega) (by omega) (by omega) (by omega)]; omega)]
          by_cases c2 : y ≤ F (128 + f)
          · rw [if_neg (by rw [i32_lt (by omega) (by omega) (by omega) (by omega)]; omega), decide_eq_true ⟨c1, c2⟩]
          · rw [if_pos (by rw [i32_lt (by omega) (by omega) (by omega) (by omega)]; omega), decide_eq_false (fun z => c2 z.2)]
        · rw [if_pos (by rw [i32_lt (by omega) (by omega) (by omega) (by omega)]; omega), decide_eq_false (fun z => c1 z.1)]
      rw [al, bn_s]
      by_cases d : F (96 + f) ≤ y ∧ y ≤ F (128 + f)
      · rw [if_pos (decide_eq_true d), if_pos (by rw [evv]; exact decide_eq_true (Or.inr d))]
      · rw [if_neg (by rw [decide_eq_true_eq]; exact d), if_neg (by rw [evv, decide_eq_true_eq]; exact fun z => z.elim c d)]
  have hm : ∀ g : HP, MS g → Wm g = Wm h → fX11_answer 983 (i32 (sn : Int)) (i32 f) (i32 y) g = if vv = true then jX11_answer_74 983 (i32 (sn : Int)) (i32 f) (i32 y) (i32 (292 * (1 + (r : Int)))) g else some (i32 (-1), g) := fun g Mg eW => by
    have eFg : Fm g (292 * (1 + (r : Int))) = F := by rw [eF]; funext q; unfold Fm Wf; rw [eW]
    unfold fX11_answer
    rw [Mg.o, gd_tt, isSheet_s Mg (by rw [eW]; exact ⟨w2, w3⟩) h1 h2, bn_s, eW, decide_eq_true cs, if_pos rfl, in_s h3 h4 (by omega) (by omega) (by omega) (by omega), bn_s, decide_eq_true cf, if_pos rfl, formBy_s Mg (by omega) (by omega), bn_s, eW, e1, hasn g Mg eW, bn_s, decide_eq_true ⟨cf.1, by omega, fp⟩, if_pos rfl, bn_s]
    by_cases c : y = -2
    · rw [if_pos (by rw [c]), if_pos (by rw [evv]; exact decide_eq_true (Or.inl c))]
    · rw [if_neg (by rw [i32_eq (by omega) (by omega) (by omega) (by omega)]; exact c), of_s Mg (show 0 ≤ 292 * (1 + (r : Int)) + 96 + f by omega) (by omega), bn_s, of_s Mg (show 0 ≤ 292 * (1 + (r : Int)) + 128 + f by omega) (by omega), bn_s, eFg, in_s h5 h6 (by omega) (by omega) (by omega) (by omega), bn_s]
      by_cases d : F (96 + f) ≤ y ∧ y ≤ F (128 + f)
      · rw [if_pos (decide_eq_true d), if_pos (by rw [evv]; exact decide_eq_true (Or.inr d))]
      · rw [if_neg (by rw [decide_eq_true_eq]; exact d), if_neg (by rw [evv, decide_eq_true_eq]; exact fun z => z.elim c d)]
  by_cases hv : vv = true
  rotate_left
  · exact ⟨i32 (-1), h, h, by rw [hc, if_neg hv], by rw [hm h M rfl, if_neg hv], R'⟩
  rw [if_pos hv] at hc
  have hm' := fun g Mg eW => hm g Mg eW
  simp only [if_pos hv] at hm'
  have yr : y = -2 ∨ (0 ≤ y ∧ y ≤ 9999) := by
    rw [evv, decide_eq_true_eq] at hv
    omega
  -- what is shown before
  obtain ⟨B, eB⟩ : ∃ B : Int, B = 2630 + 25 * (sn : Int) := ⟨_, rfl⟩
  obtain ⟨A, eA⟩ : ∃ A : Int → Int, A = fun j => Wm h (B + 1 + j) := ⟨_, rfl⟩
  have A' : ∀ j, Wm h (B + 1 + j) = A j := fun j => by rw [eA]
  obtain ⟨z1, z2, z3, z4⟩ := shr
  rw [← eB] at z1 z2 z3 z4
  have q0 : AQ h (2 + 38 + 2 * sn) A := ⟨C.st.sh s10, fun j j0 j1 => by rw [← A']; exact z4 j j0 j1⟩
  have hz0 : hsz h ≤ 900000 := by omega
  obtain ⟨g1, φ, x1, p1, v1, so1, b512, b513⟩ := clook fx S0 C q0 hz0 (Or.inr (by omega)) (by omega) (Or.inl (by omega))
  obtain ⟨fx1, ec1⟩ := FRx_9 fx (Or.inr (by omega)) (by omega) p1
  have C1 := C.sk p1.1
  have M1 : MS g1 := M.sk p1.1
  have W1 := Wm_9 p1
  have R1 := RR_9' R p1
  have ts1 : TS2 h g1 := TS2_So p1 (fun x z => by unfold So9 at z; omega)
  have rc1 := RC_k rc (Kq_9 p1) ts1
  have nb1 : ∀ x, (x < 109 ∨ 111 ≤ x) → Sm h g1 x := fun x hx => p1.2.2 x (fun z => by unfold So9 at z; omega)
  obtain ⟨S, eS⟩ : ∃ S, S = shw F (cns h F) φ := ⟨_, rfl⟩
  have bS : ∀ m, 0 ≤ m → m < 32 → (bt (hI g1 512 109) m = true ↔ S m = true) := fun m m0 m1 => by
    rw [b512 m m0 m1, eS]
    unfold shw
    rw [Bool.and_eq_true, decide_eq_true_eq]
  have mlayed : ∀ g : HP, MS g → FRx g (115 + 36 * r) F np → cns g F = cns h F → Wm g = Wm h → ∃ m, fX11_laysShown 983 (i32 (292 * (1 + (r : Int)))) (i32 (sn : Int)) g = some m ∧ Mo L4 g m ∧ ∀ n, 0 ≤ n → n < 32 → hA m 999 n.toNat = bI (S n) := fun g Mg fg ec eW => by
    have fm := FMs_of (A := A) Mg fg (by omega) (show 0 ≤ 292 * (1 + (r : Int)) ∧ 292 * (1 + (r : Int)) ≤ 2588 by omega) (show 0 ≤ (sn : Int) ∧ (sn : Int) < 10 by omega) (by rw [eF]; funext q; unfold Fm Wf; rw [eW]) (fun j j0 j1 => by rw [eW, ← eB, A', ← A']; exact ⟨rfl, (z4 j j0 j1).2⟩)
    rw [ec] at fm
    obtain ⟨m, ψ, a1, a2, a3, a4, _, _⟩ := mlook fm fw
    refine ⟨m, a1, a2, fun n n0 n1 => ?_⟩
    rw [a4 n n0 n1, eS]
    congr 1
    exact shw_same fw (SOL_u fw a3 so1) n0 n1
  have h60 : ∀ rr, (if S f = true then (if i32 (A f) = i32 y then some (i32 (-2), g1) else bn (fX10_remember 0 g1) fun h120 => gd (isO h120 (2 + 38 + 2 * sn) 4) <| bn (fX4_give (2 + 38 + 2 * sn) (i32 f) (i32 y) h120) fun h123 => gd (isO h123 0 10) <| oc (hR h123 650 0) fun o125 => gd (isO h123 o125 8) <| bn (fX8_look o125 (some (115 + 36 * r)) (some (2 + 38 + 2 * sn)) h123) fun h129 => gd (isO h129 0 10) <| oc (hR h129 650 0) fun o131 => gd (isO h129 o131 8) <| bn (fJ6_bitCount_0f7a4 (hI g1 512 109 ^^^ (hI h129 512 o131)) h129) fun v135 => some (v135, h129)) else some (i32 (-2), g1)) = rr → fX10_answer 0 (i32 (sn : Int)) (i32 f) (i32 y) h = rr := fun rr hrr => by
    rw [hc]
    unfold jX10_answer_60
    have sw : decide (0 ≤ f ∧ f < 32 ∧ bt (hI g1 512 109) f = true) = S f := by
      have := bS f cf.1 (by omega)
      cases w : S f with
      | true => exact decide_eq_true ⟨cf.1, by omega, this.mpr w⟩
      | false => exact decide_eq_false (fun z => by rw [this.mp z.2.2] at w; cases w)
    have gv : fX4_given (2 + 38 + 2 * sn) (i32 f) g1 = some (i32 (A f)) := by
      rw [given_s (C1.st.sh s10) h3 h4, if_pos (show 0 ≤ f ∧ f < 24 by omega), (nb1 _ (by omega)).2.2.2.1, (z4 f cf.1 (by omega)).1, A']
    rw [C.o, gd_tt, C.r_view, oc_s, C.o_view, gd_tt, x1, bn_s, C1.o, gd_tt, C1.r_view, oc_s, C1.o_view, gd_tt, shows_s C1 h3 h4, bn_s, sw, oc_s, (C1.st.sh s10).o, gd_tt, gv, bn_s, lt_e]
    exact hrr
  have an := z4 f cf.1 (by omega)
  rw [A'] at an
  have h74 : ∀ (g m : HP), MS g → Wm g = Wm h → fX11_laysShown 983 (i32 (292 * (1 + (r : Int)))) (i32 (sn : Int)) g = some m → Mo L4 g m → (∀ n, 0 ≤ n → n < 32 → hA m 999 n.toNat = bI (S n)) → ∀ rr, (if bI (S f) = 0 then some (i32 (-2), m) else if i32 (A f) = i32 y then some (i32 (-2), m) else bn (fX11_keeps 983 m) fun h112 => lX11_answer_110 (fun w113 w114 w115 w116 w117 h118 => gd (isO h118 w113 11) <| oc (hR h118 709 w113) fun o120 => gd (isO h118 o120 23) <| gd (inb ((((i32 2630) + ((i32 25) * w114)) + (i32 1)) + w115) (hln h118 o120)) <| lt (sL h118 o120 ((((i32 2630) + ((i32 25) * w114)) + (i32 1)) + w115).toNatClampNeg (w116.toInt64)) fun h124 => bn (fX11_laysShown w113 w117 w114 h124) fun h126 => lX11_answer_169 FU w113 (i32 0) (i32 0) h126) FU 983 (i32 (sn : Int)) (i32 f) (i32 y) (i32 (292 * (1 + (r : Int)))) (i32 0) h112) = rr → fX11_answer 983 (i32 (sn : Int)) (i32 f) (i32 y) g = rr := fun g m Mg eW lay mo a999 rr hrr => by
    have Mm := mo.ms Mg
    have Wmm : Wm m = Wm h := (Wm_4 mo).trans eW
    rw [hm' g Mg eW]
    unfold jX11_answer_74
    rw [Mg.o, gd_tt, lay, bn_s, Mm.o, gd_tt, Mm.r_shown, oc_s, Mm.o_shown, gd_tt, Mm.n_shown, i32_inb cf.1 (by omega) (by omega), gd_tt, i32_cn cf.1 (by omega), a999 f cf.1 (by omega), answerAt_s Mm (by omega) (by omega) cf.1 (by omega), bn_s, Wmm, ← eB, A']
    exact hrr
  by_cases sf : S f = true
  rotate_left
  · have sf' : S f = false := by
      cases w : S f with
      | false => rfl
      | true => exact absurd w sf
    obtain ⟨m, l1, l2, l3⟩ := mlayed g1 M1 fx1 ec1 W1
    exact ⟨i32 (-2), g1, m, h60 _ (by rw [if_neg sf]), h74 g1 m M1 W1 l1 l2 l3 _ (by rw [sf', if_pos (show bI false = 0 from rfl)]), RR_up (RR_4 R1 l2 l3) (by omega)⟩
  by_cases sy : A f = y
  · obtain ⟨m, l1, l2, l3⟩ := mlayed g1 M1 fx1 ec1 W1
    exact ⟨i32 (-2), g1, m, h60 _ (by rw [if_pos sf, if_pos (by rw [sy])]), h74 g1 m M1 W1 l1 l2 l3 _ (by rw [sf, if_neg (show ¬ bI true = 0 by decide), if_pos (by rw [sy])]), RR_up (RR_4 R1 l2 l3) (by omega)⟩
  have sy' : ¬ i32 (A f) = i32 y := by rw [i32_eq (by omega) (by omega) (by omega) (by omega)]; exact sy
  -- the class gives the answer
  obtain ⟨u, p, U⟩ := rc1.up
  obtain ⟨g2, c1, c2⟩ := rc1.rem U
  have C2 := C1.sk c2.1.1
  have sm1 : ∀ x, x ≠ 0 → (x < 403 ∨ 983 ≤ x) → Sm g1 g2 x := fun x a b => c2.sm a b U.2.1
  obtain ⟨g3, e3'⟩ : ∃ g3, g3 = sA g2 (2 + 38 + 2 * sn + 1) f.toNat (i32 y) := ⟨_, rfl⟩
  have p3 : So (fun x => x = 2 + 38 + 2 * sn + 1) g2 g3 := by rw [e3']; exact So_A (S := fun x => x = 2 + 38 + 2 * sn + 1) rfl _ _
  have C3 := C2.sk p3.1
  have sm3 : ∀ x, x ≠ 0 → (x < 403 ∨ 983 ≤ x) → x ≠ 2 + 38 + 2 * sn + 1 → Sm g1 g3 x := fun x a b c => (sm1 x a b).t (p3.2.2 x c)
  have ts13 : TS2 g1 g3 := (TS2_So (c2.1.w (T := fun x => x < 1008) (fun x z => by rcases z with z | z; omega; have := z.2; have := U.2.1; omega)) (fun x z => z)).t (TS2_So (S := fun x => x < 1008) (p3.w (fun x z => by omega)) (fun x z => z))
  have a990_3 : hA g3 990 = hA g1 990 := funext (sm3 990 (by omega) (by omega) (by omega)).2.2.2.1
  have fx3 : FRx g3 (115 + 36 * r) F np := FRx_eq fx1 (FormEq_sm (fun x hx => sm3 x (by have := hx.1; omega) (by have := hx.2; omega) (by have := hx.1; omega))) ts13 (fun q _ => by rw [a990_3]) (funext (sm3 985 (by omega) (by omega) (by omega)).2.2.2.1) (Nat.le_refl _)
  have ec3 : cns g3 F = cns h F := by
    rw [← ec1]; unfold cns
    have : Pt g3 = Pt g1 := by funext q; unfold Pt; rw [a990_3]
    rw [this]
  obtain ⟨A2, eA2⟩ : ∃ A2, A2 = updI A f y := ⟨_, rfl⟩
  have q3' : AQ g3 (2 + 38 + 2 * sn) A2 := ⟨C3.st.sh s10, fun j j0 j1 => by
    rw [eA2]
    by_cases w : j = f
    · rw [updI_at w, e3', rAA, if_pos ⟨rfl, by rw [w]⟩]; exact ⟨rfl, yr⟩
    · rw [updI_ne w, e3', rAA, if_neg (fun z => by omega), (sm1 _ (by omega) (by omega)).2.2.2.1, (nb1 _ (by omega)).2.2.2.1, ← A']; exact z4 j j0 j1⟩
  have hz3 : hsz g3 = hsz h := by unfold hsz; rw [p3.2.1, c2.1.2.1, p1.2.1]
  obtain ⟨g4, φ', x4, p4, v4, so4, b512', _⟩ := clook fx3 (C3.rev r8) C3 q3' (by omega) (Or.inr (by omega)) (by omega) (Or.inl (by omega))
  rw [ec3] at so4 b512'
  obtain ⟨S', eS'⟩ : ∃ S', S' = shw F (cns h F) φ' := ⟨_, rfl⟩
  have bS' : ∀ m, 0 ≤ m → m < 32 → (bt (hI g4 512 109) m = true ↔ S' m = true) := fun m m0 m1 => by
    rw [b512' m m0 m1, eS']
    unfold shw
    rw [Bool.and_eq_true, decide_eq_true_eq]
  have C4 := C3.sk p4.1
  obtain ⟨fx4, ec4⟩ := FRx_9 fx3 (Or.inr (by omega)) (by omega) p4
  have nb4 : ∀ x, (x < 109 ∨ 111 ≤ x) → Sm g3 g4 x := fun x hx => p4.2.2 x (fun z => by unfold So9 at z; omega)
  have M4 : MS g4 := M1.sk (c2.1.1.trans (p3.1.trans p4.1))
  have smM : ∀ x, 983 ≤ x → Sm g1 g4 x := fun x a => (sm3 x (by omega) (Or.inr a) (by omega)).t (nb4 x (by omega))
  have W4 : Wm g4 = Wm h := by rw [← W1]; funext j; unfold Wm; rw [(smM 987 (by omega)).2.2.2.2.1]
  -- the model
  obtain ⟨m1, l1, l2, l3⟩ := mlayed g4 M4 fx4 (ec4.trans ec3) W4
  have Mm1 := l2.ms M4
  obtain ⟨m2, k1, k2⟩ := Mm1.keep U.1 (by rw [l2.I (by decide), (smM 983 (by omega)).1]; exact U.2.2.2.2)
  have Mm2 := Mm1.sk k2.1.1
  obtain ⟨m3, j1, j2, j3, _⟩ := mans110 (w1 := i32 (sn : Int)) (w2 := i32 f) (w3 := i32 y) (w4 := i32 (292 * (1 + (r : Int)))) (K := fun w113 w114 w115 w116 w117 h118 => gd (isO h118 w113 11) <| oc (hR h118 709 w113) fun o120 => gd (isO h118 o120 23) <| gd (inb ((((i32 2630) + ((i32 25) * w114)) + (i32 1)) + w115) (hln h118 o120)) <| lt (sL h118 o120 ((((i32 2630) + ((i32 25) * w114)) + (i32 1)) + w115).toNatClampNeg (w116.toInt64)) fun h124 => bn (fX11_laysShown w113 w117 w114 h124) fun h126 => lX11_answer_169 FU w113 (i32 0) (i32 0) h126) 32 FU 0 m2 (by omega) (by omega) (by decide) Mm2
  have Mm3 := j2.ms Mm2
  obtain ⟨m4, e4⟩ : ∃ m4, m4 = sL m3 987 (B + 1 + f).toNat (i64 y) := ⟨_, rfl⟩
  have p5 : So (fun x => x = 987) m3 m4 := by rw [e4]; exact So_L (S := fun x => x = 987) rfl _ _
  have p5' : Mo [987] m3 m4 := by rw [e4]; exact Mo_L (by decide) _ _
  have Mm4 := Mm3.sk p5.1
  have Wm3 : Wm m3 = Wm h := by
    rw [← W4, ← Wm_4 l2]
    funext j; unfold Wm
    rw [j2.L (by decide), (k2.sm (x := 987) (by decide) (by decide)).2.2.2.2.1]
  obtain ⟨W', eW'⟩ : ∃ W', W' = updI (Wm h) (B + 1 + f) y := ⟨_, rfl⟩
  have ew : ∀ j, 0 ≤ j → Wm m4 j = W' j := fun j j0 => by
    rw [e4, Wm_set, eW']
    by_cases w : j = B + 1 + f
    · rw [if_pos (by rw [w]), updI_at w, i64_toInt (by omega) (by omega)]
    · rw [if_neg (by omega), updI_ne w, Wm3]
  have w'n : ∀ j, j ≠ B + 1 + f → W' j = Wm h j := fun j hj => by rw [eW', updI_ne hj]
  have w'a : W' (B + 1 + f) = y := by rw [eW', updI_at rfl]
  have e292 : E292 (Fm m4 (292 * (1 + (r : Int)))) F := fun q q0 q1 => by
    unfold Fm
    rw [ew _ (by omega), w'n _ (by omega), eF]
    rfl
  have sm4 : ∀ x, x < 983 → Sm g4 m4 x := fun x a => (l2.sm a).t ((k2.sm (by omega) (by omega)).t ((j2.sm a).t (p5.2.2 x (by omega))))
  have a990_4 : hA m4 990 = hA g4 990 := by
    rw [p5'.A (by decide), j2.A (by decide), (funext (k2.sm (x := 990) (by omega) (by omega)).2.2.2.1 : hA m2 990 = hA m1 990), l2.A (by decide)]
  have a985_4 : hA m4 985 = hA g4 985 := by
    rw [p5'.A (by decide), j2.A (by decide), (funext (k2.sm (x := 985) (by omega) (by omega)).2.2.2.1 : hA m2 985 = hA m1 985), l2.A (by decide)]
  have ts44 : TS2 g4 m4 := (TS2_mo l2).t ((TS2_So (S := fun x => x < 1008) (k2.1.w (fun x z => by rcases z with z | z <;> omega)) (fun x z => z)).t ((TS2_mo j2).t (TS2_mo p5')))
  have fxm : FRx m4 (115 + 36 * r) (Fm m4 (292 * (1 + (r : Int)))) np := FRx_F (FRx_eq fx4 (FormEq_sm (fun x hx => sm4 x (by have := hx.2; omega))) ts44 (fun q _ => by rw [a990_4]) a985_4 (Nat.le_refl _)) e292
  have fm4 := FMs_of (A := A2) (fo := 292 * (1 + (r : Int))) (sh := (sn : Int)) Mm4 fxm (by omega) (by omega) (by omega) rfl (fun j j0 j1 => by
    rw [← eB, ew _ (by omega), eA2]
    by_cases w : j = f
    · rw [w, w'a, updI_at rfl]; exact ⟨rfl, yr⟩
    · rw [w'n _ (by omega), updI_ne w, A', ← A']; exact ⟨rfl, (z4 j j0 j1).2⟩)
  obtain ⟨m5, ψ, o1, o2, o3, o4, _, _⟩ := mlook fm4 fxm.2.1
  have ecm : ∀ n, 0 ≤ n → n < 32 → cns m4 (Fm m4 (292 * (1 + (r : Int)))) n = cns h F n := fun n n0 n1 => by
    have eP : Pt m4 = Pt g4 := by funext q; unfold Pt; rw [a990_4]
    rw [← ec3, ← ec4]
    unfold cns
    rw [eP]
    exact sgm_E (e292 (192 + n) (by omega) (by omega)) (e292 (224 + n) (by omega) (by omega))
  have se := SOL_E (A := A2) (φ := ψ) fx.tr.av e292 ecm
  have eqS' : ∀ n, 0 ≤ n → n < 32 → hA m5 999 n.toNat = bI (S' n) := fun n n0 n1 => by
    rw [o4 n n0 n1, eS']
    congr 1
    exact (se.2 n n0 n1).trans (shw_same fw (SOL_u fw (se.1 o3) so4) n0 n1)
  have Mm5 := o2.ms Mm4
  have cnt' := mans169 (p := S) (q := S') Mm5 (fun i i0 i1 => by
    rw [o2.A (by decide), p5'.A (by decide), j3 i i0 i1, (k2.sm (x := 999) (by omega) (by omega)).2.2.2.1, l3 i i0 i1, bI_and]) eqS' 32 FU 0 0 (by omega) (by omega) (by decide)
  have cres : cnt (bt (hI g1 512 109 ^^^ hI g4 512 109)) 32 0 = cnt (fun i => S i ^^ S' i) 32 0 := cnt_congr 32 0 fun i i0 i1 => by
    rw [bt_xor]
    have a := bS i i0 (by omega)
    have b := bS' i i0 (by omega)
    have a' : bt (hI g1 512 109) i = S i := Bool.eq_iff_iff.mpr a
    have b' : bt (hI g4 512 109) i = S' i := Bool.eq_iff_iff.mpr b
    rw [a', b']
  refine ⟨i32 (cnt (fun i => S i ^^ S' i) 32 0), g4, m5, h60 _ ?_, h74 g4 m1 M4 W4 l1 l2 l3 _ ?_, ?_⟩
  · have gi : fX4_give (2 + 38 + 2 * sn) (i32 f) (i32 y) g2 = some g3 := by
      unfold fX4_give
      have Sb := C2.st.sh s10
      rw [if_neg (by rw [i32_z, i32_lt (by omega) (by omega) (by omega) (by omega)]; omega), if_neg (by rw [i32_le (by omega) (by omega) (by omega) (by omega)]; omega), Sb.o, gd_tt, Sb.rV, oc_s, Sb.oV, gd_tt, Sb.nV, i32_inb cf.1 (by omega) (by omega), gd_tt, i32_cn cf.1 (by omega), ← e3', lt_e]
    rw [if_pos sf, if_neg sy', c1, bn_s, (C2.st.sh s10).o, gd_tt, gi, bn_s, C3.o, gd_tt, C3.r_view, oc_s, C3.o_view, gd_tt, x4, bn_s, C4.o, gd_tt, C4.r_view, oc_s, C4.o_view, gd_tt, bitCount_s, bn_s, cres]
  · rw [sf, if_neg (show ¬ bI true = 0 by decide), if_neg sy', k1, bn_s]
    refine Eq.trans j1 ?_
    show (gd (isO m3 983 11) <| oc (hR m3 709 983) fun o120 => gd (isO m3 o120 23) <| gd (inb ((((i32 2630) + ((i32 25) * i32 (sn : Int))) + (i32 1)) + i32 f) (hln m3 o120)) <| lt (sL m3 o120 ((((i32 2630) + ((i32 25) * i32 (sn : Int))) + (i32 1)) + i32 f).toNatClampNeg ((i32 y).toInt64)) fun h124 => bn (fX11_laysShown 983 (i32 (292 * (1 + (r : Int)))) (i32 (sn : Int)) h124) fun h126 => lX11_answer_169 FU 983 (i32 0) (i32 0) h126) = _
    rw [Mm3.o, gd_tt, Mm3.r_world, oc_s, Mm3.o_world, gd_tt, Mm3.n_world, i32_mul, i32_add, i32_add, i32_add, ← eB, i32_inb (by omega) (by omega) (by omega), gd_tt, i32_cn (by omega) (by omega), i32_64 (by omega) (by omega), ← e4, lt_e, o1, bn_s, cnt', Int.zero_add]
  · have smA : ∀ x, 2 ≤ x → x < 403 → x ≠ 2 + 38 + 2 * sn + 1 → (x < 109 ∨ 111 ≤ x) → Sm g1 m4 x := fun x a b c d => (sm3 x (by omega) (Or.inl b) c).t ((nb4 x d).t (sm4 x (by omega)))
    have ts : TS2 g1 m4 := ts13.t ((TS2_So p4 (fun x z => by unfold So9 at z; omega)).t ts44)
    have a985 : hA m4 985 = hA g1 985 := a985_4.trans (funext (smM 985 (by omega)).2.2.2.1)
    have a990 : hA m4 990 = hA g1 990 := a990_4.trans (funext (smM 990 (by omega)).2.2.2.1)
    have pl : PlS np g1 m4 := fun q _ => by rw [a990]
    have s1 := rc1.2.2.2.2.2.2.1
    rw [W1] at s1
    have i2 := smA 2 (by omega) (by omega) (by omega) (by omega)
    have wlow : ∀ q, q < 2630 → W' q = Wm h q := fun q hq => w'n q (by omega)
    have s' : SR m4 2 (Wm m4) np := by
      refine SR_W ⟨?_, ⟨?_, ?_⟩, ⟨?_, ?_⟩, fun r' hr' => ?_, fun q hq => ?_⟩ (fun j j0 _ => ew j j0)
      · exact FRx_F (FRx_eq s1.1 (FormEq_sm (fun x hx => smA x (by have := hx.1; omega) (by have := hx.2; omega) (by have := hx.2; omega) (by have := hx.2; omega))) ts pl a985 (Nat.le_refl _)) (fun j j0 j1' => by unfold Wf; rw [wlow _ (by omega)])
      · rw [i2.1, wlow 2628 (by omega)]; exact s1.2.1.1
      · rw [wlow 2628 (by omega)]; exact s1.2.1.2
      · rw [i2.1, wlow 2629 (by omega)]; exact s1.2.2.1.1
      · rw [wlow 2629 (by omega)]; exact s1.2.2.1.2
      · rw [wlow 2628 (by omega)] at hr'
        exact FRx_F (FRx_eq (s1.2.2.2.1 r' hr') (FormEq_sm (fun x hx => smA x (by have := hx.1; omega) (by have := hx.2; omega) (by have := hx.1; omega) (by have := hx.1; omega))) ts pl a985 (Nat.le_refl _)) (fun j j0 j1' => by unfold Wf; rw [wlow _ (by omega)])
      · rw [wlow 2629 (by omega)] at hq
        obtain ⟨u1, u2, u3, u4⟩ := s1.2.2.2.2 q hq
        have smq := smA (2 + 38 + 2 * q) (by omega) (by omega) (by omega) (by omega)
        by_cases w : q = sn
        · rw [w] at u1 u2 u3 u4 smq ⊢
          rw [← eB] at u1 u2 u3 u4 ⊢
          refine ⟨by rw [smq.1, w'n _ (by omega)]; exact u1, by rw [w'n _ (by omega)]; exact u2, by rw [w'n _ (by omega), w'n _ (by omega)]; exact u3, fun j j0 j1' => ?_⟩
          have e5 : hA m4 (2 + 38 + 2 * sn + 1) j.toNat = hA g3 (2 + 38 + 2 * sn + 1) j.toNat := ((nb4 (2 + 38 + 2 * sn + 1) (by omega)).t (sm4 (2 + 38 + 2 * sn + 1) (by omega))).2.2.2.1 _
          have q5 := q3'.2 j j0 j1'
          rw [eA2] at q5
          rw [e5]
          by_cases v : j = f
          · rw [v] at q5 ⊢
            rw [updI_at rfl] at q5
            rw [w'a]; exact q5
          · rw [updI_ne v, ← A'] at q5
            rw [w'n _ (by omega)]; exact q5
        · have smq2 := smA (2 + 38 + 2 * q + 1) (by omega) (by omega) (by omega) (by omega)
          refine ⟨by rw [smq.1, w'n _ (by omega)]; exact u1, by rw [w'n _ (by omega)]; exact u2, by rw [w'n _ (by omega), w'n _ (by omega)]; exact u3, fun j j0 j1' => ?_⟩
          rw [smq2.2.2.2.1, w'n _ (by omega)]
          exact u4 j j0 j1'
    have a991 : ∀ j, hA m4 991 j = hA g1 991 j := fun j => by
      rw [p5'.A (by decide), j2.A (by decide), (k2.sm (x := 991) (by omega) (by omega)).2.2.2.1, l2.A (by decide), (smM 991 (by omega)).2.2.2.1]
    have a999 : ∀ j : Nat, j < 32 → isB (hA m4 999 j) = true := fun j hj => by
      have e := l3 (j : Int) (by omega) (by omega)
      rw [Int.toNat_natCast] at e
      rw [p5'.A (by decide), j2.A (by decide), (k2.sm (x := 999) (by omega) (by omega)).2.2.2.1, e]
      exact isB_bI _
    have n24' : N24 m4 := ⟨fun j hj => by rw [a991]; exact rc1.2.2.2.1.1 j hj, a999⟩
    have r4 : RC m4 np := RC_wr2 rc1 U c2 ((p3.w (fun x z => Or.inl (Or.inl (by omega)))).t (p4.w (fun x z => Or.inr z))) (fun x hx => (p3.2.2 x (by omega)).t (nb4 x (by omega))) l2 (by decide) (l2.L (by decide)) k2 j2 (by decide) p5 pl n24' (by rw [W1, ew 2628 (by omega), wlow 2628 (by omega)]; exact Int.le_refl _) s'
    have r5 : RC m5 np := RC_mo r4 o2 (by decide) (fun i hi => by rw [o2.A (by decide)]) (n24'.l (o2.A (by decide)) eqS') (o2.L (by decide))
    have hzz : m5.1 = h.1 := by rw [o2.1, p5'.1, j2.1, k2.1.2.1, l2.1, p4.2.1, p3.2.1, c2.1.2.1, p1.2.1]
    refine rr_end R er h714 t1 t2 t3 t4 t5 b1 b2 b3 r5 (fun q hq => ?_) (fun q hq => ?_) ?_ ?_ hzz
    · rw [o2.Ix (by omega), p5'.Ix (by omega), j2.Ix (by omega), (k2.sm (x := 0) (by omega) (by omega)).1, l2.Ix (by omega), (nb4 0 (by omega)).1, (p3.2.2 0 (by omega)).1, c2.2.2.2.2 q (by omega) (by omega), (nb1 0 (by omega)).1]
    · rw [o2.I (by rcases hq with e | e | e <;> rw [e] <;> decide), p5'.I (by rcases hq with e | e | e <;> rw [e] <;> decide), j2.I (by rcases hq with e | e | e <;> rw [e] <;> decide), k2.2.2.1 q (by omega), l2.I (by rcases hq with e | e | e <;> rw [e] <;> decide), (smM 983 (by omega)).1, (nb1 983 (by omega)).1]
    · rw [o2.A (by decide), p5'.A (by decide), j2.A (by decide), (funext (k2.sm (x := 1) (by omega) (by omega)).2.2.2.1 : hA m2 1 = hA m1 1), l2.A (by decide)]
      exact (funext ((sm3 1 (by omega) (by omega) (by omega)).t (nb4 1 (by omega))).2.2.2.1).trans (funext (nb1 1 (by omega)).2.2.2.1)
    · rw [o2.A (by decide), p5'.A (by decide), j2.A (by decide), (funext (k2.sm (x := 984) (by omega) (by omega)).2.2.2.1 : hA m2 984 = hA m1 984), l2.A (by decide)]
      exact (funext (smM 984 (by omega)).2.2.2.1).trans (funext (nb1 984 (by omega)).2.2.2.1)
end

