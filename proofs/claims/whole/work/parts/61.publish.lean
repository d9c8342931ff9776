/-! PUBLISH -/
section
variable {h : HP} {k : Nat}
theorem mpub {K : Nat → HP → Option (Int32 × HP)} {B : Nat} (h0 : 292 ≤ B) (hB : B ≤ 2336) : ∀ (d n : Nat) (v : Nat) (f : HP), v + d = 292 → d < n → MS f → ∃ g, lX11_publish_26 K n 983 (i32 (B : Int)) (i32 (v : Int)) f = K 983 g ∧ So (fun x => x = 987) f g ∧ (∀ i, v ≤ i → i < 292 → hL g 987 (B + i) = hL f 987 i) ∧ ∀ i, (i < B + v ∨ B + 292 ≤ i) → hL g 987 i = hL f 987 i := by
  intro d
  induction d with
  | zero =>
    intro n v f hv hn M
    obtain ⟨m, rfl⟩ : ∃ m, n = m + 1 := ⟨n - 1, by omega⟩
    refine ⟨f, ?_, So.r, fun i _ _ => (by omega), fun i _ => rfl⟩
    rw [elX11_publish_26]; unfold bX11_publish_26
    rw [if_pos (by rw [i32_le (by omega) (by omega) (by omega) (by omega)]; omega)]
  | succ d ih =>
    intro n v f hv hn M
    obtain ⟨m, rfl⟩ : ∃ m, n = m + 1 := ⟨n - 1, by omega⟩
    obtain ⟨f1, e1⟩ : ∃ f1, f1 = sL f 987 (B + v) (hL f 987 v) := ⟨_, rfl⟩
    have p1 : So (fun x => x = 987) f f1 := by rw [e1]; exact So_L (S := fun x => x = 987) rfl _ _
    obtain ⟨g, a1, a2, a3, a4⟩ := ih m (v + 1) f1 (by omega) (by omega) (M.sk p1.1)
    have r1 : ∀ x i, hL f1 x i = if x = 987 ∧ i = B + v then hL f 987 v else hL f x i := fun x i => by rw [e1, rLL]
    refine ⟨g, ?_, p1.t a2, fun i i0 i1 => ?_, fun i hi => ?_⟩
    · rw [elX11_publish_26]; unfold bX11_publish_26
      rw [if_neg (by rw [i32_le (by omega) (by omega) (by omega) (by omega)]; omega), M.o, gd_tt, M.r_world, oc_s, M.o_world, gd_tt, M.n_world, i32_inb (by omega) (by omega) (by omega), gd_tt, i32_add, i32_inb (by omega) (by omega) (by omega), gd_tt, i32_cn (by omega) (by omega), i32_cn (by omega) (by omega), show ((B : Int) + (v : Int)).toNat = B + v by omega, show ((v : Int)).toNat = v from rfl, ← e1, lt_e, lt_e, i32_add]
      exact a1
    · by_cases y : i = v
      · rw [y, a4 _ (by omega), r1, if_pos ⟨rfl, rfl⟩]
      · rw [a3 i (by omega) i1, r1, if_neg (fun z => by have := z.2; omega)]
    · rw [a4 i (by omega), r1, if_neg (fun z => by have := z.2; omega)]
theorem rd_publish (R : RR h k) : ∃ o g g', fX10_publish 0 h = some (o, g) ∧ fX11_publish 983 g = some (o, g') ∧ RR g' (k + 1) := by
  obtain ⟨np, sr, hnp⟩ := R.sr
  have C := R.C
  have M := R.M
  have A := C.st.d
  obtain ⟨e1, w0, w1⟩ := sr.2.1
  obtain ⟨c, ec⟩ : ∃ c : Nat, Wm h 2628 = (c : Int) := ⟨(Wm h 2628).toNat, by omega⟩
  rw [ec] at e1
  by_cases c8 : c = 8
  · refine ⟨i32 (-2), h, h, ?_, ?_, RR_up R (by omega)⟩
    · unfold fX10_publish
      rw [C.o, gd_tt, C.r_state, oc_s, C.o_state, gd_tt, lt_e, e1, if_neg (by rw [i32_z, i32_lt (by omega) (by omega) (by omega) (by omega)]; omega), if_pos (by rw [i32_le (by omega) (by omega) (by omega) (by omega)]; omega)]
    · unfold fX11_publish
      rw [M.o, gd_tt, revisions_s M, bn_s, ec, if_pos (by rw [c8]; rfl)]
  have c7 : c < 8 := by omega
  obtain ⟨u, pp, U⟩ := R.up
  obtain ⟨g1, x1, c1⟩ := R.rem U
  have C1 : CS g1 := C.sk c1.1.1
  have smh : ∀ x, x ≠ 0 → (x < 403 ∨ 983 ≤ x) → Sm h g1 x := fun x a b => c1.sm a b U.2.1
  obtain ⟨gq, x2, p2, f2⟩ := copyForm (C1.rev c7) C1.st.d (Or.inr (by omega)) (fun i hi => by rw [(smh _ (by omega) (by omega)).1]; exact sr.x.fb.isB i hi)
  have C2 : CS gq := C1.sk p2.1
  obtain ⟨g2, e2⟩ : ∃ g2, g2 = sI gq 321 2 (i32 ((c : Int) + 1)) := ⟨_, rfl⟩
  have w2 : So Sst g1 g2 := (p2.w (fun x z => Or.inr (by have := z.1; have := z.2; omega))).t (by rw [e2]; exact So_I (Or.inl ⟨by omega, by omega⟩) _ _)
  have s2 : ∀ x, x ≠ 2 → ¬ inF (115 + 36 * c) x → Sm g1 g2 x := fun x a b => (p2.2.2 x b).t (by rw [e2]; exact Sm_I a _ _)
  have M2 : MS g2 := M.sk (c1.1.1.trans w2.1)
  have i983 : ∀ f, hI g2 f 983 = hI h f 983 := fun f => by rw [(s2 983 (by omega) (fun z => by have := z.2; omega)).1, (smh 983 (by omega) (by omega)).1]
  obtain ⟨g3, x3, m3⟩ := M2.keep U.1 (by rw [i983]; exact U.2.2.2.2)
  have M3 : MS g3 := M2.sk m3.1.1
  obtain ⟨B, eB⟩ : ∃ B : Nat, B = 292 * (1 + c) := ⟨_, rfl⟩
  obtain ⟨g5, x5, p5, v5, v5'⟩ := mpub (K := fun w11 h12 => gd (isO h12 w11 11) <| lt ((hR h12 709 w11)) fun v14 => oc v14 fun o15 => gd (isO h12 o15 23) <| gd (inb (i32 2628) (hln h12 o15)) <| gd (inb (i32 2628) (hln h12 o15)) <| lt (sL h12 o15 (i32 2628).toNatClampNeg ((hL h12 o15 (i32 2628).toNatClampNeg) + (i64 1))) fun h20 => bn (fX11_revisions w11 h20) fun v22 => some ((v22 - (i32 1)), h20)) (B := B) (by omega) (by omega) 292 FU 0 g3 (by omega) (by decide) M3
  have M5 : MS g5 := M3.sk p5.1
  obtain ⟨g6, e6⟩ : ∃ g6, g6 = sL g5 987 2628 (i64 ((c : Int) + 1)) := ⟨_, rfl⟩
  have p6 : So (fun x => x = 987) g5 g6 := by rw [e6]; exact So_L (S := fun x => x = 987) rfl _ _
  have M6 : MS g6 := M5.sk p6.1
  have v6 : So (fun x => x = 987) g3 g6 := p5.t p6
  have l2 : hL g2 987 = hL h 987 := (funext (s2 987 (by omega) (fun z => by have := z.2; omega)).2.2.2.2.1 : hL g2 987 = hL g1 987).trans (funext (smh 987 (by omega) (by omega)).2.2.2.2.1)
  have l3 : hL g3 987 = hL h 987 := (funext (m3.sm (x := 987) (by decide) (by decide)).2.2.2.2.1).trans l2
  have W2 : Wm g2 = Wm h := by funext j; unfold Wm; rw [l2]
  have W3 : Wm g3 = Wm h := by funext j; unfold Wm; rw [l3]
  have l6 : ∀ i, hL g6 987 i = if i = 2628 then i64 ((c : Int) + 1) else hL g5 987 i := fun i => by
    rw [e6, rLL]
    by_cases y : i = 2628
    · rw [if_pos ⟨rfl, y⟩, if_pos y]
    · rw [if_neg (fun z => y z.2), if_neg y]
  obtain ⟨W', eW'⟩ : ∃ W' : Int → Int, W' = fun q => if q = 2628 then (c : Int) + 1 else if (B : Int) ≤ q ∧ q < B + 292 then Wm h (q - B) else Wm h q := ⟨_, rfl⟩
  have wa : W' 2628 = (c : Int) + 1 := by rw [eW']; exact if_pos rfl
  have wb : ∀ q, q ≠ 2628 → (B : Int) ≤ q → q < B + 292 → W' q = Wm h (q - B) := fun q a b d => by rw [eW']; show (if q = 2628 then _ else _) = _; rw [if_neg a, if_pos ⟨b, d⟩]
  have wc : ∀ q, q ≠ 2628 → (q < (B : Int) ∨ (B : Int) + 292 ≤ q) → W' q = Wm h q := fun q a b => by rw [eW']; show (if q = 2628 then _ else _) = _; rw [if_neg a, if_neg (by omega)]
  have W4 : EW (Wm g6) W' := fun j j0 j1 => by
    unfold Wm
    rw [l6]
    by_cases y : j = 2628
    · rw [if_pos (by omega), y, wa, i64_toInt (by omega) (by omega)]
    rw [if_neg (by omega)]
    by_cases y2 : (B : Int) ≤ j ∧ j < B + 292
    · have q := v5 (j - B).toNat (by omega) (by omega)
      rw [show B + (j - B).toNat = j.toNat by omega, l3] at q
      rw [wb j y y2.1 y2.2, q]; rfl
    · rw [wc j y (by omega), v5' j.toNat (by omega), l3]; rfl
  have sm4 : ∀ x, x ≠ 983 → x ≠ 989 → x ≠ 987 → Sm g2 g6 x := fun x a b c => (m3.sm a b).t (v6.2.2 x c)
  refine ⟨i32 c, g2, g6, ?_, ?_, ?_⟩
  · unfold fX10_publish
    rw [C.o, gd_tt, C.r_state, oc_s, C.o_state, gd_tt, lt_e, e1, if_neg (by rw [i32_z, i32_lt (by omega) (by omega) (by omega) (by omega)]; omega), if_neg (by rw [i32_le (by omega) (by omega) (by omega) (by omega)]; omega), C.r_revs, oc_s, C.o_revs, gd_tt, C.n_revs, i32_inb (by omega) (by omega) (by omega), gd_tt, i32_cn (by omega) (by omega), show ((c : Int)).toNat = c from rfl, C.q_rev c7, on_sm, x1, bn_s, C1.o, gd_tt, C1.r_revs, oc_s, C1.o_revs, gd_tt, C1.n_revs, i32_inb (by omega) (by omega) (by omega), gd_tt, C1.r_state, oc_s, C1.o_state, gd_tt, C1.q_rev c7, oc_s, (C1.rev c7).o, gd_tt, C1.st.rD, x2, bn_s, C2.o, gd_tt, C2.r_state, oc_s, C2.o_state, gd_tt, i32_add, ← e2, lt_e]
  · unfold fX11_publish
    rw [M2.o, gd_tt, revisions_s M2, bn_s, W2, ec, if_neg (by rw [i32_eq (by omega) (by omega) (by omega) (by omega)]; omega), x3, bn_s, M3.o, gd_tt, revisions_s M3, bn_s, W3, ec, formOf_s, bn_s, show 292 * (1 + (c : Int)) = (B : Int) by omega]
    refine Eq.trans x5 ?_
    show (gd (isO g5 983 11) <| lt ((hR g5 709 983)) fun v14 => oc v14 fun o15 => gd (isO g5 o15 23) <| gd (inb (i32 2628) (hln g5 o15)) <| gd (inb (i32 2628) (hln g5 o15)) <| lt (sL g5 o15 (i32 2628).toNatClampNeg ((hL g5 o15 (i32 2628).toNatClampNeg) + (i64 1))) fun h20 => bn (fX11_revisions 983 h20) fun v22 => some ((v22 - (i32 1)), h20)) = _
    have q : hL g5 987 2628 = i64 (c : Int) := by rw [v5' 2628 (by omega), l3, ← ec]; exact Wm_e h 2628
    rw [M5.o, gd_tt, M5.r_world, lt_e, oc_s, M5.o_world, gd_tt, M5.n_world, i32_inb (by omega) (by omega) (by omega), gd_tt, gd_tt, i32_cn (by omega) (by omega), show ((2628 : Int)).toNat = 2628 from rfl, q, i64_add, ← e6, lt_e, revisions_s M6, bn_s, W4 2628 (by omega) (by omega), wa, i32_sub, show (c : Int) + 1 - 1 = c by omega]
  · refine RR_rem R U c1 w2 m3 v6 (fun r hr => FormEq_sm (fun x hx => s2 x (by have := hx.1; omega) (fun z => by have := z.1; have := hx.2; omega))) (by rw [W4 2628 (by omega) (by omega), wa]; omega) (fun np' hnp' s => ?_)
    have a985 : hA g6 985 = hA h 985 := by
      funext i
      rw [(sm4 985 (by omega) (by omega) (by omega)).2.2.2.1, (s2 985 (by omega) (fun z => by have := z.2; omega)).2.2.2.1, (smh 985 (by omega) (by omega)).2.2.2.1]
    have a990 : hA g6 990 = hA h 990 := by
      funext i
      rw [(sm4 990 (by omega) (by omega) (by omega)).2.2.2.1, (s2 990 (by omega) (fun z => by have := z.2; omega)).2.2.2.1, (smh 990 (by omega) (by omega)).2.2.2.1]
    have ts : TS2 h g6 := TS2_So (S := fun x => x < 1008) ((c1.1.w (fun x z => by rcases z with z | z; omega; have := z.2; have := U.2.1; omega)).t ((w2.w (fun x z => by rcases z with z | z <;> omega)).t ((m3.1.w (fun x z => by rcases z with z | z <;> omega)).t (v6.w (fun x z => by omega))))) (fun x z => z)
    have pl : PlS np' h g6 := fun q _ => by rw [a990]
    have smA : ∀ x, 2 < x → x < 403 → ¬ inF (115 + 36 * c) x → Sm h g6 x := fun x a b d => (smh x (by omega) (by omega)).t ((s2 x (by omega) d).t (sm4 x (by omega) (by omega) (by omega)))
    have i2 : ∀ f, f ≠ 321 → hI g6 f 2 = hI h f 2 := fun f hf => by rw [(sm4 2 (by omega) (by omega) (by omega)).1, e2, rII, if_neg (fun z => hf z.1), (p2.2.2 2 (fun z => by have := z.1; omega)).1, (smh 2 (by omega) (by omega)).1]
    have fq : FormEq g6 (115 + 36 * c) h (2 + 1) := by
      have q1 : FormEq g6 (115 + 36 * c) gq (115 + 36 * c) := FormEq_sm (fun x hx => (show Sm gq g2 x by rw [e2]; exact Sm_I (by have := hx.1; omega) _ _).t (sm4 x (by have := hx.2; omega) (by have := hx.2; omega) (by have := hx.2; omega)))
      have q2 : FormEq g1 (2 + 1) h (2 + 1) := FormEq_sm (fun x hx => smh x (by have := hx.1; omega) (by have := hx.2; omega))
      exact q1.t (f2.t q2)
    refine SR_W ⟨?_, ⟨?_, by omega, by omega⟩, ⟨?_, ?_⟩, fun r hr => ?_, fun q hq => ?_⟩ W4
    · exact FRx_F (FRx_eq s.1 (FormEq_sm (fun x hx => smA x (by have := hx.1; omega) (by have := hx.2; omega) (fun z => by have := z.1; have := hx.2; omega))) ts pl a985 (Nat.le_refl _)) (fun j j0 j1 => by unfold Wf; rw [wc _ (by omega) (by omega)])
    · rw [wa, (sm4 2 (by omega) (by omega) (by omega)).1, e2, rII, if_pos ⟨rfl, rfl⟩]
    · rw [i2 322 (by omega), wc 2629 (by omega) (by omega)]; exact s.2.2.1.1
    · rw [wc 2629 (by omega) (by omega)]; exact s.2.2.1.2
    · rw [wa] at hr
      by_cases y : r = c
      · rw [y]
        exact FRx_F (FRx_eq s.1 fq ts pl a985 (Nat.le_refl _)) (fun j j0 j1 => by unfold Wf; rw [wb _ (by omega) (by omega) (by omega)]; congr 1; omega)
      · exact FRx_F (FRx_eq (s.2.2.2.1 r (by omega)) (FormEq_sm (fun x hx => smA x (by have := hx.1; omega) (by have := hx.2; omega) (fun z => by have := z.1; have := z.2; have := hx.1; have := hx.2; omega))) ts pl a985 (Nat.le_refl _)) (fun j j0 j1 => by unfold Wf; rw [wc _ (by omega) (by omega)])
    · have hq' : (q : Int) < Wm h 2629 := by rw [wc 2629 (by omega) (by omega)] at hq; exact hq
      have hs := s.2.2.1.2
      obtain ⟨s1, s2', s3, s4⟩ := s.2.2.2.2 q hq'
      have n1 : 2 + 38 + 2 * q < 115 := by omega
      have eI := (smA (2 + 38 + 2 * q) (by omega) (by omega) (fun z => by have := z.1; omega)).1
      have eA := (smA (2 + 38 + 2 * q + 1) (by omega) (by omega) (fun z => by have := z.1; omega)).2.2.2.1
      refine ⟨by rw [eI, wc _ (by omega) (by omega)]; exact s1, by rw [wc _ (by omega) (by omega)]; exact s2', by rw [wc _ (by omega) (by omega), wa]; omega, fun f f0 f1 => ?_⟩
      rw [eA, wc _ (by omega) (by omega)]
      exact s4 f f0 f1
end

