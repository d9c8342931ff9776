section
variable {h g : HP} {k : Nat}
theorem str_fld {F : Int → Int} {x p e : Int} (t : TR F) (s : STR F x p e) (x0 : 0 ≤ x) (x1 : x < 24) : e = p + 1 := by
  obtain ⟨s1, s2, s3, s4, s5⟩ := s
  apply Classical.byContradiction
  intro z
  have o := t.ov.2.2 (p + 1) (by omega) (by omega)
  have pr := t.op (p + 1) (by omega) (by omega)
  have ic := (s5 (p + 1) (by omega) (by omega)).mpr ⟨by omega, by omega⟩
  rcases inch_step ic o.1 with w | ⟨j, w⟩
  · have := t.dd (p + 1) p (by omega) (by omega) s1 (by omega) (w.trans s4.symm)
    omega
  · have g := t.tv.grp o.1 o.2 pr
    rcases up_val t.tv j (F (F (256 + (p + 1)))) (g.imp id fun z => ⟨by omega, z.2.1, z.2.2⟩) with u | u | u
    · rw [u] at w; omega
    · omega
    · omega
theorem m_place {F : Int → Int} {x p : Int} (M : MS g) (eW : Wm g = F) (t : TR F) (x0 : 0 ≤ x) (x1 : x < 32) (p0 : 0 ≤ p) (p1 : p < F 288) (ep : F (256 + p) = x) : fX11_placeOf 983 (i32 0) (i32 x) g = some (i32 p) := by
  have u : ∀ q, 0 ≤ q → q < p → F (256 + q) ≠ x := fun q q0 q1 z => by
    have := t.dd q p q0 (by omega) p0 p1 (z.trans ep.symm)
    omega
  exact placeOf_s M (by omega) (by omega) x0 x1 (by rw [Fm0, eW]; exact t.ov) p0 (by rw [Fm0, eW]; exact p1) (by rw [Fm0, eW]; exact ep) (by rw [Fm0, eW]; exact u)
theorem m_rest {F : Int → Int} {x p e : Int} (M : MS g) (eW : Wm g = F) (t : TR F) (s : STR F x p e) (x0 : 0 ≤ x) (x1 : x < 32) : fX11_rest 983 (i32 x) g = some (i32 e) := by
  obtain ⟨s1, s2, s3, s4, s5⟩ := id s
  unfold fX11_rest
  rw [isField_s (by omega) (by omega), bn_s]
  by_cases c : x < 24
  · rw [if_pos (decide_eq_true c), M.o, gd_tt, m_place M eW t x0 x1 s1 (by omega) s4, bn_s, i32_add, str_fld t s x0 c]
  · have u : ∀ q, 0 ≤ q → q < p → F (256 + q) ≠ x := fun q q0 q1 z => by
      have := t.dd q p q0 (by omega) s1 (by omega) (z.trans s4.symm)
      omega
    rw [if_neg (by rw [decide_eq_true_eq]; exact c), M.o, gd_tt, behind_s M (by omega) (by omega) x0 x1 (by rw [Fm0, eW]; exact t.av) (by rw [Fm0, eW]; exact t.ov) (by rw [Fm0, eW]; exact t.ce) s1 (by rw [Fm0, eW]; omega) (by rw [Fm0, eW]; exact s4) (by rw [Fm0, eW]; exact u), bn_s, Fm0, eW, STR_u s (str_ex t x0 s1 (by omega) s4)]
theorem anyf_order {F : Int → Int} {R : Int → Int32} {x : Int} {s : Int32} (t : TR F) : anyf (fun i => ndo F R x s (F (256 + i))) (F 288).toNat 0 = anyf (ndo F R x s) 32 0 := by
  rw [Bool.eq_iff_iff, anyf_iff, anyf_iff]
  have o1 := t.ov.1
  constructor
  · rintro ⟨i, i0, i1, z⟩
    have o := t.ov.2.2 i i0 (by omega)
    exact ⟨F (256 + i), o.1, by omega, z⟩
  · rintro ⟨n, n0, n1, z⟩
    have z' := z
    unfold ndo at z'
    rw [decide_eq_true_eq] at z'
    obtain ⟨i, i0, i1, e⟩ := t.po n n0 (by omega) z'.1
    exact ⟨i, i0, by omega, by rw [e]; exact z⟩
theorem rd_remove (R : RR h k) (hk : k ≤ 512) (q : Int32) : ∃ o g g', fX10_remove 0 q h = some (o, g) ∧ fX11_remove 983 q g = some (o, g') ∧ RR g' (k + 1) := by
  obtain ⟨x, h1, h2, rfl⟩ := i32_ex q
  obtain ⟨np, sr, hnp⟩ := R.sr
  have C := R.C
  have M := R.M
  have fx := sr.x
  have A : FormAt h (2 + 1) := C.st.d
  have R' := RR_up R (show k ≤ k + 1 by omega)
  have t := fx.tr
  have O := t.ov
  have O2 := O.2.1
  have fu : FU = 1000000 := rfl
  by_cases cn : 0 ≤ x ∧ x < 32 ∧ Wm h x ≠ -1
  rotate_left
  · refine ⟨i32 (-1), h, h, ?_, ?_, R'⟩
    · unfold fX10_remove
      rw [C.o, gd_tt, C.r_state, oc_s, C.o_state, gd_tt, lt_e, C.st.rD, oc_s, A.o, gd_tt, x_find A fx h1 h2, bn_s, fnx_n cn, on_nn]
    · unfold fX11_remove
      rw [M.o, gd_tt, mIsNode M h1 h2, bn_s, decide_eq_false cn, if_neg (by decide)]
  obtain ⟨x0, x1, xp⟩ := cn
  obtain ⟨s, es⟩ : ∃ s, s = fmk (fin (Wm h) x) 24 0 (i32 0) := ⟨_, rfl⟩
  have cf : fX0_fieldsOf (2 + 1) (i32 x) h = some s := by rw [es]; exact x_fields A fx (Or.inr ⟨x0, by omega⟩)
  have cnd := x_needed A fx x0 x1 s
  have mf : ∀ g : HP, MS g → Wm g = Wm h → fX11_fieldsIn 983 (i32 x) g = some s := fun g Mg eW => by
    rw [fieldsIn_s Mg (by omega) (by omega) (by rw [Fm0, eW]; exact t.av) (by rw [Fm0, eW]; exact t.ce), Fm0, eW, es]
    congr 1
    exact fmk_congr 24 0 _ fun j j0 j1 => (fin_M x0 j0).symm
  have sgO : ∀ g : HP, Wm g = Wm h → ∀ i, 0 ≤ i → i < Wm g 288 → SG (Wm g) (Wm g (256 + i)) := fun g eW i i0 i1 => by
    rw [eW] at i1 ⊢
    have o := O.2.2 i i0 i1
    have := fx.sg _ o.1 o.2 (t.op i i0 i1)
    exact ⟨this.1, this.2.1, by omega⟩
  have hc : fX10_remove 0 (i32 x) h = if anyf (ndo (Wm h) (RX h (Wm h)) x s) 32 0 = true then some (i32 (-2), h) else bn (fX10_remember 0 h) fun h18 => gd (isO h18 (2 + 1) 0) <| bn (fX0_takeAway (2 + 1) (i32 x) h18) fun h21 => bn (fJ6_bitCount_0f7a4 s h21) fun v23 => some (v23, h21) := by
    unfold fX10_remove
    rw [C.o, gd_tt, C.r_state, oc_s, C.o_state, gd_tt, lt_e, C.st.rD, oc_s, A.o, gd_tt, x_find A fx h1 h2, bn_s, fnx_y ⟨x0, x1, xp⟩, on_sm, cf, bn_s, cnd, bn_s]
  obtain ⟨K, eK⟩ : ∃ K : Nat → Int32 → HP → Option (Int32 × HP), K = fun w6 w7 h8 => gd (isO h8 w6 11) <| bn (fX11_keeps w6 h8) fun h11 => gd (isO h11 w6 11) <| bn (fX11_placeOf w6 (i32 0) w7 h11) fun v14 => bn (fX11_rest w6 w7 h11) fun v16 => lX11_remove_91 (fun w17 w18 w19 w20 h21 => lX11_remove_130 (fun w22 w23 w24 w25 h26 => gd (isO h26 w22 11) <| bn (fX11_closes w22 w23 (w24 - w23) h26) fun h29 => some (w25, h29)) FU w17 w18 w19 w20 w18 h21) FU w6 v14 v16 (i32 0) v14 h11 := ⟨_, rfl⟩
  have hm : ∀ g : HP, MS g → Wm g = Wm h → RX g (Wm g) = RX h (Wm h) → fX11_remove 983 (i32 x) g = if anyf (ndo (Wm h) (RX h (Wm h)) x s) 32 0 = true then some (i32 (-2), g) else K 983 (i32 x) g := fun g Mg eW eR => by
    unfold fX11_remove
    rw [Mg.o, gd_tt, mIsNode Mg h1 h2, eW, bn_s, decide_eq_true ⟨x0, x1, xp⟩, if_pos rfl, mf g Mg eW, bn_s, ← eK]
    have ml := mneedL (K := K) (s := s) Mg (by rw [eW]; exact t) (sgO g eW) x0 x1 (Wm g 288).toNat FU 0 (by omega) (by rw [eW]; have := O.1; omega) (by rw [eW]; omega)
    rw [ml]
    have ao := anyf_order (R := RX h (Wm h)) (x := x) (s := s) t
    rw [eW] at eR ⊢
    rw [eR]
    by_cases c : anyf (ndo (Wm h) (RX h (Wm h)) x s) 32 0 = true
    · rw [if_pos c, if_pos (ao.trans c)]
    · rw [if_neg c, if_neg (fun z => c (ao.symm.trans z))]
  by_cases nd : anyf (ndo (Wm h) (RX h (Wm h)) x s) 32 0 = true
  · refine ⟨i32 (-2), h, h, ?_, ?_, R'⟩
    · rw [hc, if_pos nd]
    · rw [hm h M rfl rfl, if_pos nd]
  have ndf : anyf (ndo (Wm h) (RX h (Wm h)) x s) 32 0 = false := by
    cases w : anyf (ndo (Wm h) (RX h (Wm h)) x s) 32 0 with
    | true => exact absurd w nd
    | false => rfl
  obtain ⟨p, p0, p1, ep⟩ := t.po x x0 x1 xp
  obtain ⟨e, ee⟩ : ∃ e, e = bhd (Wm h) x 33 (p + 1) := ⟨_, rfl⟩
  have st : STR (Wm h) x p e := by rw [ee]; exact str_ex t x0 p0 p1 ep
  obtain ⟨s1, s2, s3, s4, s5⟩ := id st
  obtain ⟨u, pp, U⟩ := R.up
  obtain ⟨g1, a1, c1⟩ := R.rem U
  have C1 : CS g1 := C.sk c1.1.1
  have smh : ∀ y, y ≠ 0 → (y < 403 ∨ 983 ≤ y) → Sm h g1 y := fun y a b => c1.sm a b U.2.1
  have fe1 : FormEq g1 (2 + 1) h (2 + 1) := FormEq_sm (fun y hy => smh y (by have := hy.1; omega) (by have := hy.2; omega))
  have ts1 : TS2 h g1 := TS2_So (c1.1.w (T := fun y => y < 1008) (fun y z => by rcases z with z | z; omega; have := z.2; have := U.2.1; omega)) (fun y z => z)
  have fb1 : FRb g1 (2 + 1) (Wm h) := (FRc_eq fx.1 t fe1 ts1 (fun _ _ _ _ => rfl)).1
  obtain ⟨g2, a2, w2', fbG, kn, i5⟩ := ctakeAway (C1.st.d) fb1 t st x0 x1 xp
  have w2 : So Sst g1 g2 := w2'.w (fun y z => Or.inl ⟨by have := z.1; omega, by have := z.2; omega⟩)
  have s2' : ∀ y, (y < 3 ∨ 39 ≤ y) → Sm g1 g2 y := fun y hy => w2'.2.2 y (fun z => by have := z.1; have := z.2; omega)
  have M2 : MS g2 := M.sk (c1.1.1.trans w2.1)
  have i983 : ∀ f, hI g2 f 983 = hI h f 983 := fun f => by rw [(s2' 983 (by omega)).1, (smh 983 (by omega) (by omega)).1]
  obtain ⟨g3, a3, m3⟩ := M2.keep U.1 (by rw [i983]; exact U.2.2.2.2)
  have M3 : MS g3 := M2.sk m3.1.1
  have l2 : hL g2 987 = hL h 987 := (funext (s2' 987 (by omega)).2.2.2.2.1 : hL g2 987 = hL g1 987).trans (funext (smh 987 (by omega) (by omega)).2.2.2.2.1)
  have l3 : hL g3 987 = hL h 987 := (funext (m3.sm (x := 987) (by decide) (by decide)).2.2.2.2.1).trans l2
  have W2 : Wm g2 = Wm h := by funext j; unfold Wm; rw [l2]
  have W3 : Wm g3 = Wm h := by funext j; unfold Wm; rw [l3]
  have P2 : Pt g2 = Pt h := by funext j; unfold Pt; rw [(s2' 990 (by omega)).2.2.2.1, (smh 990 (by omega) (by omega)).2.2.2.1]
  have R2 : RX g2 (Wm g2) = RX h (Wm h) := by rw [W2]; funext j; unfold RX; rw [P2]
  obtain ⟨g4, a4, v4, x4, x4', x4''⟩ := mgoneL (F := Wm h) (c := i32 (0 + cnt (fun i => decide (Wm h (256 + i) < 24)) (e - p).toNat p)) (K := fun w22 w23 w24 w25 h26 => gd (isO h26 w22 11) <| bn (fX11_closes w22 w23 (w24 - w23) h26) fun h29 => some (w25, h29)) O p0 s3 (e - p).toNat FU p g3 (by omega) (by omega) (by omega) M3 (fun q _ _ => by rw [W3])
  have M4 : MS g4 := M3.sk v4.1
  obtain ⟨g5, a5, v5, y1, y2, y3⟩ := mclose (m := Wm h 288) (d := e - p) (p := p) M4 (by rw [x4 288 (by omega), W3]) O2 (by omega) p0 (by omega)
  have v35 : So (fun y => y = 987) g3 g5 := v4.t v5
  have rows : ∀ q, 32 ≤ q → ¬ (256 ≤ q ∧ q < 289) → Wm g5 q = Wm h q := fun q q0 q1 => by
    rw [y3 q (by omega) (by omega) (by omega), x4 q q0, W3]
  have cut : CUT (Wm h) (Wm g5) x p e := by
    refine ⟨fun n kp => ?_, fun n n0 n1 kp => ?_, y1, fun i i0 i1 => ?_, fun i i0 i1 => ?_⟩
    · have k1 := kp.2.1
      rw [y3 n kp.1 (by omega) (by omega), x4'' n kp.1 k1 (fun j j0 j1 z => kp.2.2.2 (by rw [← z]; exact (s5 j (by omega) (by omega)).mpr ⟨j0, j1⟩)), W3]
    · rw [y3 n n0 (by omega) (by omega)]
      by_cases pr : Wm h n = -1
      · by_cases w : ∃ j, p ≤ j ∧ j < e ∧ Wm h (256 + j) = n
        · obtain ⟨j, j0, j1, w⟩ := w
          rw [← w]; exact x4' j j0 j1
        · rw [x4'' n n0 n1 (fun j j0 j1 z => w ⟨j, j0, j1, z⟩), W3]; exact pr
      · obtain ⟨i, i0, i1, ei⟩ := t.po n n0 n1 pr
        have ix : inch (Wm h) (Wm h (256 + i)) x := by
          apply Classical.byContradiction
          intro w
          exact kp ⟨n0, n1, pr, by rw [← ei]; exact w⟩
        have ri := (s5 i i0 i1).mp ix
        rw [← ei]; exact x4' i ri.1 ri.2
    · rw [y3 _ (by omega) (by omega) (by omega), x4 _ (by omega), W3]
    · rw [y2 i i0 (by omega), x4 _ (by omega), W3]
  have nn : NoNeed (Wm h) (RX h (Wm h)) x := noNeed_of t x0 (by rw [← es]; exact ndf)
  refine ⟨i32 (cnt (fin (Wm h) x) 24 0), g2, g5, ?_, ?_, ?_⟩
  · rw [hc, if_neg nd, a1, bn_s, C1.st.d.o, gd_tt, a2, bn_s, es, bitCount_fmk, bn_s]
  · rw [hm g2 M2 W2 R2, if_neg nd, eK]
    show (gd (isO g2 983 11) <| bn (fX11_keeps 983 g2) fun h11 => gd (isO h11 983 11) <| bn (fX11_placeOf 983 (i32 0) (i32 x) h11) fun v14 => bn (fX11_rest 983 (i32 x) h11) fun v16 => lX11_remove_91 (fun w17 w18 w19 w20 h21 => lX11_remove_130 (fun w22 w23 w24 w25 h26 => gd (isO h26 w22 11) <| bn (fX11_closes w22 w23 (w24 - w23) h26) fun h29 => some (w25, h29)) FU w17 w18 w19 w20 w18 h21) FU 983 v14 v16 (i32 0) v14 h11) = _
    rw [M2.o, gd_tt, a3, bn_s, M3.o, gd_tt, m_place M3 W3 t x0 x1 p0 p1 ep, bn_s, m_rest M3 W3 t st x0 x1, bn_s, mcntL M3 (by rw [W3]; exact O) p0 (by rw [W3]; exact s3) (e - p).toNat FU 0 p (by omega) (by omega) (by omega), W3]
    refine Eq.trans a4 ?_
    show (gd (isO g4 983 11) <| bn (fX11_closes 983 (i32 p) (i32 e - i32 p) g4) fun h29 => some (i32 (0 + cnt (fun i => decide (Wm h (256 + i) < 24)) (e - p).toNat p), h29)) = _
    rw [M4.o, gd_tt, i32_sub, a5, bn_s, Int.zero_add, cnt_str t st x0]
  · refine RR_rem R U c1 w2 m3 v35 (fun r hr => FormEq_sm (fun y hy => s2' y (by have := hy.1; omega))) (by rw [rows 2628 (by omega) (by omega)]; exact Int.le_refl _) (fun np' hnp' sr' => ?_)
    have fx' := sr'.x
    have sm5 : ∀ y, y ≠ 983 → y ≠ 989 → y ≠ 987 → Sm g2 g5 y := fun y a b c => (m3.sm a b).t (v35.2.2 y c)
    have a985 : hA g5 985 = hA h 985 := by
      funext i
      rw [(sm5 985 (by omega) (by omega) (by omega)).2.2.2.1, (s2' 985 (by omega)).2.2.2.1, (smh 985 (by omega) (by omega)).2.2.2.1]
    have a990 : hA g5 990 = hA h 990 := by
      funext i
      rw [(sm5 990 (by omega) (by omega) (by omega)).2.2.2.1, (s2' 990 (by omega)).2.2.2.1, (smh 990 (by omega) (by omega)).2.2.2.1]
    have ts : TS2 h g5 := ts1.t (TS2_So (S := fun y => y < 1008) ((w2.w (fun y z => by rcases z with z | z <;> omega)).t ((m3.1.w (fun y z => by rcases z with z | z <;> omega)).t (v35.w (fun y z => by omega)))) (fun y z => z))
    have pl : PlS np' h g5 := fun q _ => by rw [a990]
    have smA : ∀ y, 2 ≤ y → y < 403 → (y < 3 ∨ 39 ≤ y) → Sm h g5 y := fun y a b c => (smh y (by omega) (by omega)).t ((s2' y c).t (sm5 y (by omega) (by omega) (by omega)))
    have i2 := smA 2 (by omega) (by omega) (by omega)
    refine SR_draft sr' ?_ (i2.1 321) (i2.1 322) (fun i hi => ⟨(smA _ (by omega) (by omega) (by omega)).1 _, fun j _ => (smA _ (by omega) (by omega) (by omega)).2.2.2.1 j⟩) (fun r hr => FormEq_sm (fun y hy => smA y (by have := hy.1; omega) (by have := hy.2; omega) (by have := hy.1; omega))) (fun j j0 j1 => rows j (by omega) (by omega)) ts pl a985 (Nat.le_refl _)
    rw [Wf_0]
    show FRx g5 (2 + 1) (Wm g5) np'
    have rows' : ∀ q, 32 ≤ q → q < 292 → ¬ (256 ≤ q ∧ q < 289) → Wm g5 q = Wm h q := fun q q0 _ q2 => rows q q0 q2
    have eP : Pt g5 = Pt h := by funext q; unfold Pt; rw [a990]
    have esg : ∀ n, 0 ≤ n → n < 32 → sgm (Pt g5) (Wm g5) n = sgm (Pt h) (Wm h) n := fun n n0 n1 => by
      rw [eP]; exact sgm_E (rows (192 + n) (by omega) (by omega)) (rows (224 + n) (by omega) (by omega))
    have fwG := FWf_cut fx'.2.1 st x0 x1 cut rows' nn
    have f25 : ∀ y, inF 3 y → Sm g2 g5 y := fun y hy => sm5 y (by have := hy.2; omega) (by have := hy.2; omega) (by have := hy.2; omega)
    have fe25 : FormEq g5 3 g2 3 := FormEq_sm f25
    refine ⟨⟨?_, fun n n0 n1 pr => ?_⟩, FWf_C fwG (fun n n0 n1 _ => esg n n0 n1), ?_, ?_, ?_⟩
    · have fbg := fbG (Wm g5) cut rows'
      obtain ⟨r3, r4, r5, ro, rn⟩ := fbg
      refine ⟨by rw [fe25.1 3 (by omega)]; exact r3, by rw [fe25.1 4 (by omega)]; exact r4, by rw [fe25.1 5 (by omega)]; exact r5, fun i i0 i1 => ?_, fun n n0 n1 => ?_⟩
      · have oo := (TR_cut t st x0 x1 cut).ov.2.1
        rw [(fe25.2 i.toNat (by omega)).1]; exact ro i i0 i1
      · obtain ⟨q1, q2, q3, q4, q5, q6, q7, _⟩ := (fe25.2 n.toNat (by omega)).2
        have rn' := rn n n0 n1
        unfold NDc at rn' ⊢
        rw [q1, q2, q3, q4, q5, q6, q7]
        exact rn'
    · have kp := cut.pr n0 n1 pr
      have sm := ((smh (3 + 4 + n.toNat) (by omega) (by omega)).t (kn n kp)).t (f25 _ ⟨by omega, by omega⟩)
      rw [esg n n0 n1]
      exact CND_ts (fx'.cd n0 n1 kp.2.2.1) ts (Nat.le_refl _) ts.1 (sm.2.2.1 135) (sm.1 136) (sm.1 137)
    · rw [a985, fe25.1 0 (by omega), i5 0 (by omega), fe1.1 0 (by omega)]; exact fx'.2.2.1
    · rw [a985, fe25.1 1 (by omega), i5 1 (by omega), fe1.1 1 (by omega)]; exact fx'.2.2.2.1
    · rw [a985, fe25.1 2 (by omega), i5 2 (by omega), fe1.1 2 (by omega)]; exact fx'.2.2.2.2
end

