/-! BEGIN -/
section
variable {h : HP} {k : Nat}
theorem cclearL {a : Nat} : ∀ (d n : Nat) (v : Nat) (f : HP), v + d = 24 → d < n → SheetAt f a → ∃ g, lX4_clear_7 n a (i32 (v : Int)) f = some g ∧ So (fun x => x = a + 1) f g ∧ (∀ i, v ≤ i → i < 24 → hA g (a + 1) i = i32 (-2)) ∧ ∀ i, i < v → hA g (a + 1) i = hA f (a + 1) i := by
  intro d
  induction d with
  | zero =>
    intro n v f hv hn M
    obtain ⟨m, rfl⟩ : ∃ m, n = m + 1 := ⟨n - 1, by omega⟩
    refine ⟨f, ?_, So.r, fun i _ _ => (by omega), fun i _ => rfl⟩
    rw [elX4_clear_7]; unfold bX4_clear_7
    rw [if_pos (by rw [i32_le (by omega) (by omega) (by omega) (by omega)]; omega)]
  | succ d ih =>
    intro n v f hv hn M
    obtain ⟨m, rfl⟩ : ∃ m, n = m + 1 := ⟨n - 1, by omega⟩
    obtain ⟨f1, e1⟩ : ∃ f1, f1 = sA f (a + 1) v (i32 (-2)) := ⟨_, rfl⟩
    have p1 : So (fun x => x = a + 1) f f1 := by rw [e1]; exact So_A (S := fun x => x = a + 1) rfl _ _
    obtain ⟨g, a1, a2, a3, a4⟩ := ih m (v + 1) f1 (by omega) (by omega) (M.sk p1.1)
    have r1 : ∀ x i, hA f1 x i = if x = a + 1 ∧ i = v then i32 (-2) else hA f x i := fun x i => by rw [e1, rAA]
    refine ⟨g, ?_, p1.t a2, fun i i0 i1 => ?_, fun i hi => ?_⟩
    · rw [elX4_clear_7]; unfold bX4_clear_7
      rw [if_neg (by rw [i32_le (by omega) (by omega) (by omega) (by omega)]; omega), M.o, gd_tt, M.rV, oc_s, M.oV, gd_tt, M.nV, i32_inb (by omega) (by omega) (by omega), gd_tt, i32_cn (by omega) (by omega), show ((v : Int)).toNat = v from rfl, ← e1, lt_e, lt_e, i32_add]
      exact a1
    · by_cases y : i = v
      · rw [y, a4 _ (by omega), r1, if_pos ⟨rfl, rfl⟩]
      · rw [a3 i (by omega) i1]
    · rw [a4 i (by omega), r1, if_neg (fun z => by have := z.2; omega)]
theorem cclear {a : Nat} (S : SheetAt h a) (p : Int32) : ∃ g, fX4_clear a p h = some g ∧ So (fun x => x = a ∨ x = a + 1) h g ∧ hI g 256 a = p ∧ ∀ i, i < 24 → hA g (a + 1) i = i32 (-2) := by
  obtain ⟨g1, e1⟩ : ∃ g1, g1 = sI h 256 a p := ⟨_, rfl⟩
  have p1 : So (fun x => x = a ∨ x = a + 1) h g1 := by rw [e1]; exact So_I (Or.inl rfl) _ _
  obtain ⟨g, a1, a2, a3, a4⟩ := cclearL (a := a) 24 FU 0 g1 (by omega) (by decide) (S.sk p1.1)
  refine ⟨g, ?_, p1.t (a2.w fun x z => Or.inr z), ?_, fun i hi => a3 i (by omega) hi⟩
  · unfold fX4_clear
    rw [S.o, gd_tt, ← e1, lt_e]
    exact a1
  · rw [(a2.2.2 a (by omega)).1, e1, rII, if_pos ⟨rfl, rfl⟩]
theorem mclearL {K : Nat → HP → Option (Int32 × HP)} {B : Nat} (hB : B ≤ 2855) : ∀ (d n : Nat) (v : Nat) (f : HP), v + d = 24 → d < n → MS f → ∃ g, lX11_begin_50 K n 983 (i32 (B : Int)) (i32 (v : Int)) f = K 983 g ∧ So (fun x => x = 987) f g ∧ (∀ i, v ≤ i → i < 24 → hL g 987 (B + 1 + i) = i64 (-2)) ∧ ∀ i, (i < B + 1 + v ∨ B + 25 ≤ i) → hL g 987 i = hL f 987 i := by
  intro d
  induction d with
  | zero =>
    intro n v f hv hn M
    obtain ⟨m, rfl⟩ : ∃ m, n = m + 1 := ⟨n - 1, by omega⟩
    refine ⟨f, ?_, So.r, fun i _ _ => (by omega), fun i _ => rfl⟩
    rw [elX11_begin_50]; unfold bX11_begin_50
    rw [if_pos (by rw [i32_le (by omega) (by omega) (by omega) (by omega)]; omega)]
  | succ d ih =>
    intro n v f hv hn M
    obtain ⟨m, rfl⟩ : ∃ m, n = m + 1 := ⟨n - 1, by omega⟩
    obtain ⟨f1, e1⟩ : ∃ f1, f1 = sL f 987 (B + 1 + v) (i64 (-2)) := ⟨_, rfl⟩
    have p1 : So (fun x => x = 987) f f1 := by rw [e1]; exact So_L (S := fun x => x = 987) rfl _ _
    obtain ⟨g, a1, a2, a3, a4⟩ := ih m (v + 1) f1 (by omega) (by omega) (M.sk p1.1)
    have r1 : ∀ x i, hL f1 x i = if x = 987 ∧ i = B + 1 + v then i64 (-2) else hL f x i := fun x i => by rw [e1, rLL]
    refine ⟨g, ?_, p1.t a2, fun i i0 i1 => ?_, fun i hi => ?_⟩
    · rw [elX11_begin_50]; unfold bX11_begin_50
      rw [if_neg (by rw [i32_le (by omega) (by omega) (by omega) (by omega)]; omega), M.o, gd_tt, M.r_world, oc_s, M.o_world, gd_tt, M.n_world, i32_add, i32_add, i32_inb (by omega) (by omega) (by omega), gd_tt, i32_cn (by omega) (by omega), show ((B : Int) + 1 + (v : Int)).toNat = B + 1 + v by omega, ← e1, lt_e, lt_e, i32_add]
      exact a1
    · by_cases y : i = v
      · rw [y, a4 _ (by omega), r1, if_pos ⟨rfl, rfl⟩]
      · rw [a3 i (by omega) i1]
    · rw [a4 i (by omega), r1, if_neg (fun z => by have := z.2; omega)]
theorem rd_begin (R : RR h k) : ∃ o g g', fX10_begin 0 h = some (o, g) ∧ fX11_begin 983 g = some (o, g') ∧ RR g' (k + 1) := by
  obtain ⟨np, sr, hnp⟩ := R.sr
  have C := R.C
  have M := R.M
  obtain ⟨e1, w0, w1⟩ := sr.2.1
  obtain ⟨c, ec⟩ : ∃ c : Nat, Wm h 2628 = (c : Int) := ⟨(Wm h 2628).toNat, by omega⟩
  obtain ⟨e1', y0, y1⟩ := sr.2.2.1
  obtain ⟨s, es⟩ : ∃ s : Nat, Wm h 2629 = (s : Int) := ⟨(Wm h 2629).toNat, by omega⟩
  rw [ec] at e1
  rw [es] at e1'
  by_cases c0 : c = 0
  · refine ⟨i32 (-2), h, h, ?_, ?_, RR_up R (by omega)⟩
    · unfold fX10_begin
      rw [C.o, gd_tt, C.r_state, oc_s, C.o_state, gd_tt, lt_e, e1, if_pos (by rw [c0]; rfl)]
    · unfold fX11_begin
      rw [M.o, gd_tt, revisions_s M, bn_s, ec, if_pos (by rw [c0]; rfl)]
  by_cases s10 : s = 10
  · refine ⟨i32 (-2), h, h, ?_, ?_, RR_up R (by omega)⟩
    · unfold fX10_begin
      rw [C.o, gd_tt, C.r_state, oc_s, C.o_state, gd_tt, lt_e, e1, if_neg (by rw [i32_z, i32_eq (by omega) (by omega) (by omega) (by omega)]; omega), e1', if_neg (by rw [i32_z, i32_lt (by omega) (by omega) (by omega) (by omega)]; omega), if_pos (by rw [i32_le (by omega) (by omega) (by omega) (by omega)]; omega)]
    · unfold fX11_begin
      rw [M.o, gd_tt, revisions_s M, bn_s, ec, if_neg (by rw [i32_z, i32_eq (by omega) (by omega) (by omega) (by omega)]; omega), sheets_s M, bn_s, es, if_pos (by rw [s10]; rfl)]
  have s9 : s < 10 := by omega
  obtain ⟨u, pp, U⟩ := R.up
  obtain ⟨g1, x1, c1⟩ := R.rem U
  have C1 : CS g1 := C.sk c1.1.1
  have smh : ∀ x, x ≠ 0 → (x < 403 ∨ 983 ≤ x) → Sm h g1 x := fun x a b => c1.sm a b U.2.1
  obtain ⟨gq, x2, p2, f2, f2'⟩ := cclear (C1.st.sh s9) (i32 c - i32 1)
  have C2 : CS gq := C1.sk p2.1
  obtain ⟨g2, e2⟩ : ∃ g2, g2 = sI gq 322 2 (i32 ((s : Int) + 1)) := ⟨_, rfl⟩
  have w2 : So Sst g1 g2 := (p2.w (fun x z => Or.inl (by omega))).t (by rw [e2]; exact So_I (Or.inl ⟨by omega, by omega⟩) _ _)
  have s2 : ∀ x, x ≠ 2 → x ≠ 2 + 38 + 2 * s → x ≠ 2 + 38 + 2 * s + 1 → Sm g1 g2 x := fun x a b d => (p2.2.2 x (fun z => by rcases z with z | z; exact b z; exact d z)).t (by rw [e2]; exact Sm_I a _ _)
  have M2 : MS g2 := M.sk (c1.1.1.trans w2.1)
  have i983 : ∀ f, hI g2 f 983 = hI h f 983 := fun f => by rw [(s2 983 (by omega) (by omega) (by omega)).1, (smh 983 (by omega) (by omega)).1]
  obtain ⟨g3, x3, m3⟩ := M2.keep U.1 (by rw [i983]; exact U.2.2.2.2)
  have M3 : MS g3 := M2.sk m3.1.1
  obtain ⟨B, eB⟩ : ∃ B : Nat, B = 2630 + 25 * s := ⟨_, rfl⟩
  obtain ⟨g4, e4⟩ : ∃ g4, g4 = sL g3 987 B (i64 ((c : Int) - 1)) := ⟨_, rfl⟩
  have p4 : So (fun x => x = 987) g3 g4 := by rw [e4]; exact So_L (S := fun x => x = 987) rfl _ _
  have M4 : MS g4 := M3.sk p4.1
  obtain ⟨g5, x5, p5, v5, v5'⟩ := mclearL (K := fun w19 h20 => gd (isO h20 w19 11) <| lt ((hR h20 709 w19)) fun v22 => oc v22 fun o23 => gd (isO h20 o23 23) <| gd (inb (i32 2629) (hln h20 o23)) <| gd (inb (i32 2629) (hln h20 o23)) <| lt (sL h20 o23 (i32 2629).toNatClampNeg ((hL h20 o23 (i32 2629).toNatClampNeg) + (i64 1))) fun h28 => bn (fX11_sheets w19 h28) fun v30 => some ((v30 - (i32 1)), h28)) (B := B) (by omega) 24 FU 0 g4 (by omega) (by decide) M4
  have M5 : MS g5 := M4.sk p5.1
  obtain ⟨g6, e6⟩ : ∃ g6, g6 = sL g5 987 2629 (i64 ((s : Int) + 1)) := ⟨_, rfl⟩
  have p6 : So (fun x => x = 987) g5 g6 := by rw [e6]; exact So_L (S := fun x => x = 987) rfl _ _
  have M6 : MS g6 := M5.sk p6.1
  have v6 : So (fun x => x = 987) g3 g6 := (p4.t p5).t p6
  have l2 : hL g2 987 = hL h 987 := (funext (s2 987 (by omega) (by omega) (by omega)).2.2.2.2.1 : hL g2 987 = hL g1 987).trans (funext (smh 987 (by omega) (by omega)).2.2.2.2.1)
  have l3 : hL g3 987 = hL h 987 := (funext (m3.sm (x := 987) (by decide) (by decide)).2.2.2.2.1).trans l2
  have W2 : Wm g2 = Wm h := by funext j; unfold Wm; rw [l2]
  have W3 : Wm g3 = Wm h := by funext j; unfold Wm; rw [l3]
  have l4 : ∀ i, hL g4 987 i = if i = B then i64 ((c : Int) - 1) else hL h 987 i := fun i => by
    rw [e4, rLL, l3]
    by_cases y : i = B
    · rw [if_pos ⟨rfl, y⟩, if_pos y]
    · rw [if_neg (fun z => y z.2), if_neg y]
  have l6 : ∀ i, hL g6 987 i = if i = 2629 then i64 ((s : Int) + 1) else hL g5 987 i := fun i => by
    rw [e6, rLL]
    by_cases y : i = 2629
    · rw [if_pos ⟨rfl, y⟩, if_pos y]
    · rw [if_neg (fun z => y z.2), if_neg y]
  obtain ⟨W', eW'⟩ : ∃ W' : Int → Int, W' = fun q => if q = 2629 then (s : Int) + 1 else if q = (B : Int) then (c : Int) - 1 else if (B : Int) < q ∧ q < B + 25 then -2 else Wm h q := ⟨_, rfl⟩
  have wa : W' 2629 = (s : Int) + 1 := by rw [eW']; exact if_pos rfl
  have wb : W' B = (c : Int) - 1 := by rw [eW']; show (if (B : Int) = 2629 then _ else _) = _; rw [if_neg (by omega), if_pos rfl]
  have wd : ∀ q, (B : Int) < q → q < B + 25 → W' q = -2 := fun q a b => by rw [eW']; show (if q = 2629 then _ else _) = _; rw [if_neg (by omega), if_neg (by omega), if_pos ⟨a, b⟩]
  have wc : ∀ q, q ≠ 2629 → (q < (B : Int) ∨ (B : Int) + 25 ≤ q) → W' q = Wm h q := fun q a b => by rw [eW']; show (if q = 2629 then _ else _) = _; rw [if_neg a, if_neg (by omega), if_neg (by omega)]
  have W4 : EW (Wm g6) W' := fun j j0 j1 => by
    unfold Wm
    rw [l6]
    by_cases y : j = 2629
    · rw [if_pos (by omega), y, wa, i64_toInt (by omega) (by omega)]
    rw [if_neg (by omega)]
    by_cases y1 : j = (B : Int)
    · rw [v5' j.toNat (by omega), l4, if_pos (by omega), y1, wb, i64_toInt (by omega) (by omega)]
    by_cases y2 : (B : Int) < j ∧ j < B + 25
    · have q := v5 (j - B - 1).toNat (by omega) (by omega)
      rw [show B + 1 + (j - B - 1).toNat = j.toNat by omega] at q
      rw [wd j y2.1 y2.2, q, i64_toInt (by omega) (by omega)]
    · rw [wc j y (by omega), v5' j.toNat (by omega), l4, if_neg (by omega)]; rfl
  have sm4 : ∀ x, x ≠ 983 → x ≠ 989 → x ≠ 987 → Sm g2 g6 x := fun x a b c => (m3.sm a b).t (v6.2.2 x c)
  refine ⟨i32 s, g2, g6, ?_, ?_, ?_⟩
  · unfold fX10_begin
    have i1 : hI g1 321 2 = i32 c := by rw [(smh 2 (by omega) (by omega)).1]; exact e1
    rw [C.o, gd_tt, C.r_state, oc_s, C.o_state, gd_tt, lt_e, e1, if_neg (by rw [i32_z, i32_eq (by omega) (by omega) (by omega) (by omega)]; omega), e1', if_neg (by rw [i32_z, i32_lt (by omega) (by omega) (by omega) (by omega)]; omega), if_neg (by rw [i32_le (by omega) (by omega) (by omega) (by omega)]; omega), C.st.rS, oc_s, C.st.oS, gd_tt, C.st.nS, i32_inb (by omega) (by omega) (by omega), gd_tt, i32_cn (by omega) (by omega), show ((s : Int)).toNat = s from rfl, C.st.q s9, on_sm, x1, bn_s, C1.o, gd_tt, C1.r_state, oc_s, C1.o_state, gd_tt, C1.st.rS, oc_s, C1.st.oS, gd_tt, C1.st.nS, i32_inb (by omega) (by omega) (by omega), gd_tt, C1.st.q s9, oc_s, (C1.st.sh s9).o, gd_tt, i1, x2, bn_s, C2.o, gd_tt, C2.r_state, oc_s, C2.o_state, gd_tt, i32_add, ← e2, lt_e]
  · unfold fX11_begin
    rw [M2.o, gd_tt, revisions_s M2, bn_s, W2, ec, if_neg (by rw [i32_z, i32_eq (by omega) (by omega) (by omega) (by omega)]; omega), sheets_s M2, bn_s, W2, es, if_neg (by rw [i32_eq (by omega) (by omega) (by omega) (by omega)]; omega), x3, bn_s, M3.o, gd_tt, sheets_s M3, bn_s, W3, es, lt_e, i32_mul, i32_add, show 2630 + 25 * (s : Int) = (B : Int) by omega, revisions_s M3, bn_s, W3, ec, M3.r_world, oc_s, M3.o_world, gd_tt, M3.n_world, i32_inb (by omega) (by omega) (by omega), gd_tt, i32_cn (by omega) (by omega), show ((B : Int)).toNat = B from rfl, i32_sub, i32_64 (by omega) (by omega), ← e4, lt_e]
    refine Eq.trans x5 ?_
    show (gd (isO g5 983 11) <| lt ((hR g5 709 983)) fun v22 => oc v22 fun o23 => gd (isO g5 o23 23) <| gd (inb (i32 2629) (hln g5 o23)) <| gd (inb (i32 2629) (hln g5 o23)) <| lt (sL g5 o23 (i32 2629).toNatClampNeg ((hL g5 o23 (i32 2629).toNatClampNeg) + (i64 1))) fun h28 => bn (fX11_sheets 983 h28) fun v30 => some ((v30 - (i32 1)), h28)) = _
    have q : hL g5 987 2629 = i64 (s : Int) := by rw [v5' 2629 (by omega), l4, if_neg (by omega), ← es]; exact Wm_e h 2629
    rw [M5.o, gd_tt, M5.r_world, lt_e, oc_s, M5.o_world, gd_tt, M5.n_world, i32_inb (by omega) (by omega) (by omega), gd_tt, gd_tt, i32_cn (by omega) (by omega), show ((2629 : Int)).toNat = 2629 from rfl, q, i64_add, ← e6, lt_e, sheets_s M6, bn_s, W4 2629 (by omega) (by omega), wa, i32_sub, show (s : Int) + 1 - 1 = s by omega]
  · refine RR_rem R U c1 w2 m3 v6 (fun r hr => FormEq_sm (fun x hx => s2 x (by have := hx.1; omega) (by have := hx.1; omega) (by have := hx.1; omega))) (by rw [W4 2628 (by omega) (by omega), wc 2628 (by omega) (by omega)]; omega) (fun np' hnp' s' => ?_)
    have a985 : hA g6 985 = hA h 985 := by
      funext i
      rw [(sm4 985 (by omega) (by omega) (by omega)).2.2.2.1, (s2 985 (by omega) (by omega) (by omega)).2.2.2.1, (smh 985 (by omega) (by omega)).2.2.2.1]
    have a990 : hA g6 990 = hA h 990 := by
      funext i
      rw [(sm4 990 (by omega) (by omega) (by omega)).2.2.2.1, (s2 990 (by omega) (by omega) (by omega)).2.2.2.1, (smh 990 (by omega) (by omega)).2.2.2.1]
    have ts : TS2 h g6 := TS2_So (S := fun x => x < 1008) ((c1.1.w (fun x z => by rcases z with z | z; omega; have := z.2; have := U.2.1; omega)).t ((w2.w (fun x z => by rcases z with z | z <;> omega)).t ((m3.1.w (fun x z => by rcases z with z | z <;> omega)).t (v6.w (fun x z => by omega))))) (fun x z => z)
    have pl : PlS np' h g6 := fun q _ => by rw [a990]
    have smA : ∀ x, 2 < x → x < 403 → x ≠ 2 + 38 + 2 * s → x ≠ 2 + 38 + 2 * s + 1 → Sm h g6 x := fun x a b d d' => (smh x (by omega) (by omega)).t ((s2 x (by omega) d d').t (sm4 x (by omega) (by omega) (by omega)))
    have i2 : ∀ f, f ≠ 322 → hI g6 f 2 = hI h f 2 := fun f hf => by rw [(sm4 2 (by omega) (by omega) (by omega)).1, e2, rII, if_neg (fun z => hf z.1), (p2.2.2 2 (by omega)).1, (smh 2 (by omega) (by omega)).1]
    have wf : ∀ q, q < 2628 → W' q = Wm h q := fun q hq => wc q (by omega) (by omega)
    refine SR_W ⟨?_, ⟨?_, ?_⟩, ⟨?_, by omega, by omega⟩, fun r hr => ?_, fun q hq => ?_⟩ W4
    · exact FRx_F (FRx_eq s'.1 (FormEq_sm (fun x hx => smA x (by have := hx.1; omega) (by have := hx.2; omega) (by have := hx.2; omega) (by have := hx.2; omega))) ts pl a985 (Nat.le_refl _)) (fun j j0 j1 => by unfold Wf; rw [wf _ (by omega)])
    · rw [i2 321 (by omega), wc 2628 (by omega) (by omega)]; exact s'.2.1.1
    · rw [wc 2628 (by omega) (by omega)]; exact s'.2.1.2
    · rw [wa, (sm4 2 (by omega) (by omega) (by omega)).1, e2, rII, if_pos ⟨rfl, rfl⟩]
    · rw [wc 2628 (by omega) (by omega)] at hr
      exact FRx_F (FRx_eq (s'.2.2.2.1 r hr) (FormEq_sm (fun x hx => smA x (by have := hx.1; omega) (by have := hx.2; omega) (by have := hx.1; omega) (by have := hx.1; omega))) ts pl a985 (Nat.le_refl _)) (fun j j0 j1 => by unfold Wf; rw [wf _ (by omega)])
    · rw [wa] at hq
      by_cases y : q = s
      · have o := smA
        rw [y, show 2630 + 25 * (s : Int) = (B : Int) by omega]
        have t1 : ∀ x, (x = 2 + 38 + 2 * s ∨ x = 2 + 38 + 2 * s + 1) → Sm gq g6 x := fun x hx => (show Sm gq g2 x by rw [e2]; exact Sm_I (by omega) _ _).t (sm4 x (by omega) (by omega) (by omega))
        refine ⟨by rw [(t1 _ (Or.inl rfl)).1, f2, wb, i32_sub], by rw [wb]; omega, by rw [wb, wc 2628 (by omega) (by omega), ec]; omega, fun f f0 f1 => ?_⟩
        rw [(t1 _ (Or.inr rfl)).2.2.2.1, f2' f.toNat (by omega), wd _ (by omega) (by omega)]
        exact ⟨rfl, Or.inl rfl⟩
      · have hq' : (q : Int) < Wm h 2629 := by omega
        obtain ⟨s1, s2', s3, s4⟩ := s'.2.2.2.2 q hq'
        have sm1 := smA (2 + 38 + 2 * q) (by omega) (by omega) (by omega) (by omega)
        have sm2 := smA (2 + 38 + 2 * q + 1) (by omega) (by omega) (by omega) (by omega)
        refine ⟨by rw [sm1.1, wc _ (by omega) (by omega)]; exact s1, by rw [wc _ (by omega) (by omega)]; exact s2', by rw [wc _ (by omega) (by omega), wc 2628 (by omega) (by omega)]; omega, fun f f0 f1 => ?_⟩
        rw [sm2.2.2.2.1, wc _ (by omega) (by omega)]
        exact s4 f f0 f1
end

