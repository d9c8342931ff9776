/-! ADVANCE -/
section
variable {h : HP} {k : Nat}
/-- an answer that falls away -/
def drp (V F : Int → Int) (i : Int) : Bool := decide (V i ≠ -2 ∧ F i = -1)
theorem cadv {a b : Nat} {F V : Int → Int} {f0 : HP} (S0 : SheetAt f0 a) (B0 : FormAt f0 b) (hfd : ∀ g, So (fun x => x = a + 1) f0 g → ∀ i : Int, 0 ≤ i → i < 24 → fX0_findField b (i32 i) g = some (fnx F b i)) (hV : ∀ i : Int, 0 ≤ i → i < 24 → V i = -2 ∨ (0 ≤ V i ∧ V i ≤ 9999)) : ∀ (d n : Nat) (c v : Int) (f : HP), 0 ≤ v → v + d = 24 → d < n → So (fun x => x = a + 1) f0 f → (∀ i : Int, v ≤ i → i < 24 → hA f (a + 1) i.toNat = i32 (V i)) → ∃ g, lX10_advance_75 n (some a) (some b) (i32 c) (i32 v) f = some (i32 (c + cnt (drp V F) d v), g) ∧ So (fun x => x = a + 1) f g ∧ (∀ i : Int, v ≤ i → i < 24 → hA g (a + 1) i.toNat = i32 (if drp V F i = true then -2 else V i)) ∧ ∀ i : Int, 0 ≤ i → i < v → hA g (a + 1) i.toNat = hA f (a + 1) i.toNat := by
  intro d
  induction d with
  | zero =>
    intro n c v f v0 hv hn s e
    obtain ⟨m, rfl⟩ : ∃ m, n = m + 1 := ⟨n - 1, by omega⟩
    refine ⟨f, ?_, So.r, fun i _ _ => (by omega), fun i _ _ => rfl⟩
    rw [elX10_advance_75]; unfold bX10_advance_75
    rw [if_pos (by rw [i32_le (by omega) (by omega) (by omega) (by omega)]; omega)]
    simp [cnt]
  | succ d ih =>
    intro n c v f v0 hv hn s e
    obtain ⟨m, rfl⟩ : ∃ m, n = m + 1 := ⟨n - 1, by omega⟩
    have S := S0.sk s.1
    have Bf := B0.sk s.1
    have hv' := hV v v0 (by omega)
    have st : lX10_advance_75 (m + 1) (some a) (some b) (i32 c) (i32 v) f = if drp V F v = true then lX10_advance_75 m (some a) (some b) (i32 (c + 1)) (i32 (v + 1)) (sA f (a + 1) v.toNat (i32 (-2))) else lX10_advance_75 m (some a) (some b) (i32 c) (i32 (v + 1)) f := by
      rw [elX10_advance_75]; unfold bX10_advance_75
      rw [if_neg (by rw [i32_le (by omega) (by omega) (by omega) (by omega)]; omega), oc_s, S.o, gd_tt, given_s S (by omega) (by omega), bn_s, if_pos (show 0 ≤ v ∧ v < 24 by omega), e v (by omega) (by omega)]
      unfold jX10_advance_113
      by_cases y : V v = -2
      · rw [if_pos (by rw [y]), lt_e, i32_add, if_neg (by unfold drp; rw [decide_eq_true_eq]; exact fun z => z.1 y)]
      rw [if_neg (by rw [i32_eq (by omega) (by omega) (by omega) (by omega)]; exact y), oc_s, Bf.o, gd_tt, hfd f s v v0 (by omega), bn_s]
      by_cases y2 : F v = -1
      · rw [fnx_n (fun z => z.2.2 y2), on_nn, if_pos (by unfold drp; rw [decide_eq_true_eq]; exact ⟨y, y2⟩)]
        unfold fX4_give
        rw [if_neg (by rw [i32_z, i32_lt (by omega) (by omega) (by omega) (by omega)]; omega), if_neg (by rw [i32_le (by omega) (by omega) (by omega) (by omega)]; omega), S.o, gd_tt, S.rV, oc_s, S.oV, gd_tt, S.nV, i32_inb (by omega) (by omega) (by omega), gd_tt, i32_cn (by omega) (by omega), lt_e, bn_s, lt_e, lt_e, i32_add, i32_add]
      · rw [fnx_y ⟨v0, by omega, y2⟩, on_sm, lt_e, i32_add, if_neg (by unfold drp; rw [decide_eq_true_eq]; exact fun z => y2 z.2)]
    rw [st]
    by_cases y : drp V F v = true
    · rw [if_pos y]
      obtain ⟨f1, e1⟩ : ∃ f1, f1 = sA f (a + 1) v.toNat (i32 (-2)) := ⟨_, rfl⟩
      rw [← e1]
      have p1 : So (fun x => x = a + 1) f f1 := by rw [e1]; exact So_A (S := fun x => x = a + 1) rfl _ _
      have r1 : ∀ x i, hA f1 x i = if x = a + 1 ∧ i = v.toNat then i32 (-2) else hA f x i := fun x i => by rw [e1, rAA]
      obtain ⟨g, a1, a2, a3, a4⟩ := ih m (c + 1) (v + 1) f1 (by omega) (by omega) (by omega) (s.t p1) (fun i i0 i1 => by rw [r1, if_neg (by omega)]; exact e i (by omega) i1)
      refine ⟨g, ?_, p1.t a2, fun i i0 i1 => ?_, fun i i0 i1 => ?_⟩
      · rw [a1]
        simp only [cnt]
        rw [if_pos y, Int.add_assoc]
      · by_cases z : i = v
        · rw [z, a4 v v0 (by omega), r1, if_pos ⟨rfl, rfl⟩, if_pos y]
        · exact a3 i (by omega) i1
      · rw [a4 i i0 (by omega), r1, if_neg (by omega)]
    · rw [if_neg y]
      obtain ⟨g, a1, a2, a3, a4⟩ := ih m c (v + 1) f (by omega) (by omega) (by omega) s (fun i i0 i1 => e i (by omega) i1)
      refine ⟨g, ?_, a2, fun i i0 i1 => ?_, fun i i0 i1 => ?_⟩
      · rw [a1]
        simp only [cnt]
        rw [if_neg y, Int.zero_add]
      · by_cases z : i = v
        · rw [z, a4 v v0 (by omega), if_neg y]; exact e v (by omega) (by omega)
        · exact a3 i (by omega) i1
      · exact a4 i i0 (by omega)
theorem Wm_set {f : HP} {j : Nat} {x : Int64} {q : Int} : Wm (sL f 987 j x) q = if q.toNat = j then x.toInt else Wm f q := by
  unfold Wm
  rw [rLL]
  by_cases y : q.toNat = j
  · rw [if_pos ⟨rfl, y⟩, if_pos y]
  · rw [if_neg (fun z => y z.2), if_neg y]
theorem madv {K : Nat → Int32 → Int32 → Int32 → HP → Option (Int32 × HP)} {W0 : Int → Int} {s r B : Int} (s0 : 0 ≤ s) (s1 : s < 10) (r0 : 0 ≤ r) (r1 : r < 8) (eB : B = 2630 + 25 * s) (hV : ∀ i : Int, 0 ≤ i → i < 24 → W0 (B + 1 + i) = -2 ∨ (0 ≤ W0 (B + 1 + i) ∧ W0 (B + 1 + i) ≤ 9999)) : ∀ (d n : Nat) (c v : Int) (f : HP), 0 ≤ v → v + d = 24 → d < n → MS f → (∀ q, 0 ≤ q → q < 2880 → (q < B + 1 ∨ B + 1 + v ≤ q) → Wm f q = W0 q) → ∃ g, lX11_advance_38 K n 983 (i32 s) (i32 r) (i32 c) (i32 v) f = K 983 (i32 s) (i32 r) (i32 (c + cnt (drp (fun i => W0 (B + 1 + i)) (Wf W0 (292 * (1 + r)))) d v)) g ∧ So (fun x => x = 987) f g ∧ (∀ i : Int, v ≤ i → i < 24 → Wm g (B + 1 + i) = if drp (fun i => W0 (B + 1 + i)) (Wf W0 (292 * (1 + r))) i = true then -2 else W0 (B + 1 + i)) ∧ ∀ q : Int, 0 ≤ q → (q < B + 1 + v ∨ B + 25 ≤ q) → Wm g q = Wm f q := by
  obtain ⟨V, eV⟩ : ∃ V : Int → Int, V = fun i => W0 (B + 1 + i) := ⟨_, rfl⟩
  obtain ⟨F, eF⟩ : ∃ F : Int → Int, F = Wf W0 (292 * (1 + r)) := ⟨_, rfl⟩
  have V' : ∀ i, W0 (B + 1 + i) = V i := fun i => by rw [eV]
  have F' : ∀ i, W0 (292 * (1 + r) + i) = F i := fun i => by rw [eF]; rfl
  rw [← eV, ← eF]
  intro d
  induction d with
  | zero =>
    intro n c v f v0 hv hn M e
    obtain ⟨m, rfl⟩ : ∃ m, n = m + 1 := ⟨n - 1, by omega⟩
    refine ⟨f, ?_, So.r, fun i _ _ => (by omega), fun i _ _ => rfl⟩
    rw [elX11_advance_38]; unfold bX11_advance_38
    rw [if_pos (by rw [i32_le (by omega) (by omega) (by omega) (by omega)]; omega)]
    simp [cnt]
  | succ d ih =>
    intro n c v f v0 hv hn M e
    obtain ⟨m, rfl⟩ : ∃ m, n = m + 1 := ⟨n - 1, by omega⟩
    have hv' := hV v v0 (by omega)
    rw [V'] at hv'
    have st : lX11_advance_38 K (m + 1) 983 (i32 s) (i32 r) (i32 c) (i32 v) f = if drp V F v = true then lX11_advance_38 K m 983 (i32 s) (i32 r) (i32 (c + 1)) (i32 (v + 1)) (sL f 987 (B + 1 + v).toNat (i64 (-2))) else lX11_advance_38 K m 983 (i32 s) (i32 r) (i32 c) (i32 (v + 1)) f := by
      have ew : Wm f (2630 + 25 * s + 1 + v) = V v := by rw [e _ (by omega) (by omega) (by omega), ← V', eB]
      have ef : Fm f (292 * (1 + r)) v = F v := by unfold Fm; rw [e _ (by omega) (by omega) (by omega), F']
      rw [elX11_advance_38]; unfold bX11_advance_38
      rw [if_neg (by rw [i32_le (by omega) (by omega) (by omega) (by omega)]; omega), M.o, gd_tt, answerAt_s M s0 s1 v0 (by omega), bn_s, ew]
      unfold jX11_advance_94
      by_cases y : V v = -2
      · rw [if_pos (by rw [y]), lt_e, i32_add, if_neg (by unfold drp; rw [decide_eq_true_eq]; exact fun z => z.1 y)]
      rw [if_neg (by rw [i32_eq (by omega) (by omega) (by omega) (by omega)]; exact y), formOf_s, bn_s, has_s M (by omega) (by omega) (by omega) (by omega), bn_s, ef]
      by_cases y2 : F v = -1
      · rw [decide_eq_false (fun z => z.2.2 y2), if_neg (by decide), if_pos (show drp V F v = true by unfold drp; rw [decide_eq_true_eq]; exact ⟨y, y2⟩), M.r_world, oc_s, M.o_world, gd_tt, M.n_world, i32_mul, i32_add, i32_add, i32_add, ← eB, i32_inb (by omega) (by omega) (by omega), gd_tt, i32_cn (by omega) (by omega), lt_e, lt_e, lt_e, i32_add, i32_add]
      · rw [decide_eq_true ⟨v0, by omega, y2⟩, if_pos rfl, lt_e, i32_add, if_neg (by unfold drp; rw [decide_eq_true_eq]; exact fun z => y2 z.2)]
    rw [st]
    by_cases y : drp V F v = true
    · rw [if_pos y]
      obtain ⟨f1, e1⟩ : ∃ f1, f1 = sL f 987 (B + 1 + v).toNat (i64 (-2)) := ⟨_, rfl⟩
      rw [← e1]
      have p1 : So (fun x => x = 987) f f1 := by rw [e1]; exact So_L (S := fun x => x = 987) rfl _ _
      have r1 : ∀ q, 0 ≤ q → Wm f1 q = if q = B + 1 + v then -2 else Wm f q := fun q q0 => by
        rw [e1, Wm_set]
        by_cases z : q = B + 1 + v
        · rw [if_pos (by rw [z]), if_pos z, i64_toInt (by omega) (by omega)]
        · rw [if_neg (by omega), if_neg z]
      obtain ⟨g, a1, a2, a3, a4⟩ := ih m (c + 1) (v + 1) f1 (by omega) (by omega) (by omega) (M.sk p1.1) (fun q q0 q1 q2 => by rw [r1 q q0, if_neg (by omega)]; exact e q q0 q1 (by omega))
      refine ⟨g, ?_, p1.t a2, fun i i0 i1 => ?_, fun q q0 q1 => ?_⟩
      · rw [a1]
        simp only [cnt]
        rw [if_pos y, Int.add_assoc]
      · by_cases z : i = v
        · rw [z, a4 _ (by omega) (by omega), r1 _ (by omega), if_pos rfl, if_pos y]
        · exact a3 i (by omega) i1
      · rw [a4 q q0 (by omega), r1 q q0, if_neg (by omega)]
    · rw [if_neg y]
      obtain ⟨g, a1, a2, a3, a4⟩ := ih m c (v + 1) f (by omega) (by omega) (by omega) M (fun q q0 q1 q2 => e q q0 q1 (by omega))
      refine ⟨g, ?_, a2, fun i i0 i1 => ?_, fun q q0 q1 => ?_⟩
      · rw [a1]
        simp only [cnt]
        rw [if_neg y, Int.zero_add]
      · by_cases z : i = v
        · rw [z, a4 _ (by omega) (by omega), if_neg y]; exact e _ (by omega) (by omega) (by omega)
        · exact a3 i (by omega) i1
      · exact a4 q q0 (by omega)
theorem rd_advance (R : RR h k) (p : Int32) : ∃ o g g', fX10_advance 0 p h = some (o, g) ∧ fX11_advance 983 p g = some (o, g') ∧ RR g' (k + 1) := by
  obtain ⟨p', h1, h2, rfl⟩ := i32_ex p
  obtain ⟨np, sr, hnp⟩ := R.sr
  have C := R.C
  have M := R.M
  obtain ⟨e1, w0, w1⟩ := sr.2.1
  obtain ⟨e1', y0, y1⟩ := sr.2.2.1
  by_cases cp : 0 ≤ p' ∧ p' < Wm h 2629
  rotate_left
  · refine ⟨i32 (-1), h, h, ?_, ?_, RR_up R (by omega)⟩
    · unfold fX10_advance
      rw [C.o, gd_tt, C.r_state, oc_s, C.o_state, gd_tt, findSheet_s C.st e1' ⟨y0, y1⟩ h1 h2, bn_s, if_neg cp, e1, i32_sub, findRev_s C e1 ⟨w0, w1⟩ (by omega) (by omega), bn_s, on_nn]
    · unfold fX11_advance
      rw [M.o, gd_tt, isSheet_s M ⟨y0, y1⟩ h1 h2, bn_s, decide_eq_false cp, if_neg (by decide)]
  obtain ⟨s, es⟩ : ∃ s : Nat, p' = (s : Int) := ⟨p'.toNat, by omega⟩
  rw [es] at cp h1 h2 ⊢
  have s9 : s < 10 := by omega
  have ss := sr.2.2.2.2 s cp.2
  obtain ⟨t1, t2, t3, t4⟩ := ss
  obtain ⟨c, ec⟩ : ∃ c : Nat, Wm h 2628 = (c : Int) + 1 := ⟨(Wm h 2628 - 1).toNat, by omega⟩
  rw [ec] at e1
  have c7 : c < 8 := by omega
  have fs : fX5_findSheet 2 (i32 (s : Int)) h = some (some (2 + 38 + 2 * s)) := by rw [findSheet_s C.st e1' ⟨y0, y1⟩ h1 h2, if_pos cp]; rfl
  have fr : fX10_findRevision 0 (hI h 321 2 - i32 1) h = some (some (115 + 36 * c)) := by rw [e1, i32_sub, findRev_s C e1 ⟨by omega, by omega⟩ (by omega) (by omega), if_pos (by omega), show ((c : Int) + 1 - 1).toNat = c by omega]
  by_cases cs : Wm h (2630 + 25 * (s : Int)) = c
  · refine ⟨i32 (-2), h, h, ?_, ?_, RR_up R (by omega)⟩
    · unfold fX10_advance
      rw [C.o, gd_tt, C.r_state, oc_s, C.o_state, gd_tt, fs, bn_s, fr, bn_s, on_sm, on_sm, (C.st.sh s9).o, gd_tt, t1, e1, cs, i32_sub, if_pos (by rw [show (c : Int) + 1 - 1 = c by omega])]
    · unfold fX11_advance
      rw [M.o, gd_tt, isSheet_s M ⟨y0, y1⟩ h1 h2, bn_s, decide_eq_true cp, if_pos rfl, revisions_s M, bn_s, lt_e, revisionBy_s M (by omega) (by omega), bn_s, ec, cs, i32_sub, if_pos (by rw [show (c : Int) + 1 - 1 = c by omega])]
  obtain ⟨u, pp, U⟩ := R.up
  obtain ⟨g1, x1, c1⟩ := R.rem U
  have C1 : CS g1 := C.sk c1.1.1
  have smh : ∀ x, x ≠ 0 → (x < 403 ∨ 983 ≤ x) → Sm h g1 x := fun x a b => c1.sm a b U.2.1
  obtain ⟨B, eB⟩ : ∃ B : Int, B = 2630 + 25 * (s : Int) := ⟨_, rfl⟩
  rw [← eB] at t1 t2 t3 t4 cs
  obtain ⟨V, eV⟩ : ∃ V : Int → Int, V = fun i => Wm h (B + 1 + i) := ⟨_, rfl⟩
  obtain ⟨F, eF⟩ : ∃ F : Int → Int, F = Wf (Wm h) (292 * (1 + (c : Int))) := ⟨_, rfl⟩
  have V' : ∀ i, Wm h (B + 1 + i) = V i := fun i => by rw [eV]
  obtain ⟨gq, eq⟩ : ∃ gq, gq = sI g1 256 (2 + 38 + 2 * s) (i32 c) := ⟨_, rfl⟩
  have pq : So (fun x => x = 2 + 38 + 2 * s) g1 gq := by rw [eq]; exact So_I (S := fun x => x = 2 + 38 + 2 * s) rfl _ _
  have Cq : CS gq := C1.sk pq.1
  have rv := sr.2.2.2.1 c (by omega)
  rw [← eF] at rv
  have a985q : ∀ g, So (fun x => x = 2 + 38 + 2 * s + 1) gq g → ∀ x, (x < 403 ∨ 983 ≤ x) → x ≠ 0 → x ≠ 2 + 38 + 2 * s → x ≠ 2 + 38 + 2 * s + 1 → Sm h g x := fun g sg x a b d d' => (smh x b a).t ((pq.2.2 x d).t (sg.2.2 x d'))
  have tsh1 : TS2 h g1 := TS2_So (c1.1.w (T := fun x => x < 1008) (fun x z => by rcases z with z | z; omega; have := z.2; have := U.2.1; omega)) (fun x z => z)
  obtain ⟨g2, x2, p2, v2, _⟩ := cadv (a := 2 + 38 + 2 * s) (b := 115 + 36 * c) (F := F) (V := V) (Cq.st.sh s9) (Cq.rev c7) (fun g sg i i0 i1 => by
    have cr : FormAt g (115 + 36 * c) := (Cq.rev c7).sk sg.1
    have sm := a985q g sg
    have ts : TS2 h g := tsh1.t (TS2_So (S := fun x => x < 1008) ((pq.w (fun x z => by omega)).t (sg.w (fun x z => by omega))) (fun x z => z))
    have fx : FRx g (115 + 36 * c) F np := FRx_eq rv (FormEq_sm (fun x hx => sm x (by have := hx.2; omega) (by have := hx.1; omega) (by have := hx.1; omega) (by have := hx.1; omega))) ts (fun q _ => by rw [(sm 990 (by omega) (by omega) (by omega) (by omega)).2.2.2.1]) (funext (sm 985 (by omega) (by omega) (by omega) (by omega)).2.2.2.1) (Nat.le_refl _)
    rw [x_findField cr fx (by omega) (by omega), if_pos i1]) (fun i i0 i1 => by rw [← V']; exact (t4 i i0 i1).2) 24 FU 0 0 gq (by omega) (by omega) (by decide) So.r (fun i i0 i1 => by
    rw [(pq.2.2 (2 + 38 + 2 * s + 1) (by omega)).2.2.2.1, (smh (2 + 38 + 2 * s + 1) (by omega) (by omega)).2.2.2.1, (t4 i i0 i1).1, V'])
  have C2 : CS g2 := Cq.sk p2.1
  have w2 : So Sst g1 g2 := (pq.w (fun x z => Or.inl (by omega))).t (p2.w (fun x z => Or.inl (by omega)))
  have s2 : ∀ x, x ≠ 2 + 38 + 2 * s → x ≠ 2 + 38 + 2 * s + 1 → Sm g1 g2 x := fun x b d => (pq.2.2 x b).t (p2.2.2 x d)
  have M2 : MS g2 := M.sk (c1.1.1.trans w2.1)
  have i983 : ∀ f, hI g2 f 983 = hI h f 983 := fun f => by rw [(s2 983 (by omega) (by omega)).1, (smh 983 (by omega) (by omega)).1]
  obtain ⟨g3, x3, m3⟩ := M2.keep U.1 (by rw [i983]; exact U.2.2.2.2)
  have M3 : MS g3 := M2.sk m3.1.1
  have l2 : hL g2 987 = hL h 987 := (funext (s2 987 (by omega) (by omega)).2.2.2.2.1 : hL g2 987 = hL g1 987).trans (funext (smh 987 (by omega) (by omega)).2.2.2.2.1)
  have l3 : hL g3 987 = hL h 987 := (funext (m3.sm (x := 987) (by decide) (by decide)).2.2.2.2.1).trans l2
  have W2 : Wm g2 = Wm h := by funext j; unfold Wm; rw [l2]
  have W3 : Wm g3 = Wm h := by funext j; unfold Wm; rw [l3]
  obtain ⟨g5, x5, p5, v5, v5'⟩ := madv (K := fun w11 w12 w13 w14 h15 => gd (isO h15 w11 11) <| oc (hR h15 709 w11) fun o17 => gd (isO h15 o17 23) <| gd (inb ((i32 2630) + ((i32 25) * w12)) (hln h15 o17)) <| lt (sL h15 o17 ((i32 2630) + ((i32 25) * w12)).toNatClampNeg (w13.toInt64)) fun h21 => some (w14, h21)) (W0 := Wm h) (s := s) (r := c) (B := B) (by omega) (by omega) (by omega) (by omega) eB (fun i i0 i1 => (t4 i i0 i1).2) 24 FU 0 0 g3 (by omega) (by omega) (by decide) M3 (fun q q0 q1 _ => by rw [W3])
  rw [← eV, ← eF] at x5 v5
  have M5 : MS g5 := M3.sk p5.1
  obtain ⟨g6, e6⟩ : ∃ g6, g6 = sL g5 987 B.toNat (i64 c) := ⟨_, rfl⟩
  have p6 : So (fun x => x = 987) g5 g6 := by rw [e6]; exact So_L (S := fun x => x = 987) rfl _ _
  have v6 : So (fun x => x = 987) g3 g6 := p5.t p6
  obtain ⟨W', eW'⟩ : ∃ W' : Int → Int, W' = fun q => if q = B then (c : Int) else if B < q ∧ q < B + 25 then (if drp V F (q - B - 1) = true then -2 else V (q - B - 1)) else Wm h q := ⟨_, rfl⟩
  have wb : W' B = c := by rw [eW']; exact if_pos rfl
  have wd : ∀ i, 0 ≤ i → i < 24 → W' (B + 1 + i) = if drp V F i = true then -2 else V i := fun i a b => by
    rw [eW']; show (if B + 1 + i = B then _ else _) = _
    rw [if_neg (by omega), if_pos (by omega), show B + 1 + i - B - 1 = i by omega]
  have wc : ∀ q, (q < B ∨ B + 25 ≤ q) → W' q = Wm h q := fun q b => by rw [eW']; show (if q = B then _ else _) = _; rw [if_neg (by omega), if_neg (by omega)]
  have W4 : EW (Wm g6) W' := fun j j0 j1 => by
    rw [e6, Wm_set]
    by_cases y : j = B
    · rw [if_pos (by rw [y]), y, wb, i64_toInt (by omega) (by omega)]
    rw [if_neg (by omega)]
    by_cases y2 : B < j ∧ j < B + 25
    · have q := v5 (j - B - 1) (by omega) (by omega)
      have q' := wd (j - B - 1) (by omega) (by omega)
      rw [V'] at q
      rw [show B + 1 + (j - B - 1) = j by omega] at q q'
      rw [q, q']
    · rw [wc j (by omega), v5' j j0 (by omega), W3]
  have sm4 : ∀ x, x ≠ 983 → x ≠ 989 → x ≠ 987 → Sm g2 g6 x := fun x a b c => (m3.sm a b).t (v6.2.2 x c)
  refine ⟨i32 (0 + cnt (drp V F) 24 0), g2, g6, ?_, ?_, ?_⟩
  · unfold fX10_advance
    have i1 : hI g1 321 2 = i32 ((c : Int) + 1) := by rw [(smh 2 (by omega) (by omega)).1]; exact e1
    rw [C.o, gd_tt, C.r_state, oc_s, C.o_state, gd_tt, fs, bn_s, fr, bn_s, on_sm, on_sm, (C.st.sh s9).o, gd_tt, t1, e1, i32_sub, if_neg (by rw [i32_eq (by omega) (by omega) (by omega) (by omega)]; omega), x1, bn_s, C1.o, gd_tt, C1.r_state, oc_s, C1.o_state, gd_tt, (C1.st.sh s9).o, gd_tt, i1, i32_sub, show (c : Int) + 1 - 1 = c by omega, ← eq, lt_e]
    exact x2
  · unfold fX11_advance
    rw [M2.o, gd_tt, isSheet_s M2 (by rw [W2]; exact ⟨y0, y1⟩) h1 h2, bn_s, W2, decide_eq_true cp, if_pos rfl, revisions_s M2, bn_s, lt_e, revisionBy_s M2 (by omega) (by omega), bn_s, W2, ec, ← eB, i32_sub, if_neg (by rw [i32_eq (by omega) (by omega) (by omega) (by omega)]; omega), x3, bn_s, show (c : Int) + 1 - 1 = c by omega]
    refine Eq.trans x5 ?_
    show (gd (isO g5 983 11) <| oc (hR g5 709 983) fun o17 => gd (isO g5 o17 23) <| gd (inb ((i32 2630) + ((i32 25) * i32 (s : Int))) (hln g5 o17)) <| lt (sL g5 o17 ((i32 2630) + ((i32 25) * i32 (s : Int))).toNatClampNeg ((i32 (c : Int)).toInt64)) fun h21 => some (i32 (0 + cnt (drp V F) 24 0), h21)) = _
    rw [M5.o, gd_tt, M5.r_world, oc_s, M5.o_world, gd_tt, M5.n_world, i32_mul, i32_add, ← eB, i32_inb (by omega) (by omega) (by omega), gd_tt, i32_cn (by omega) (by omega), i32_64 (by omega) (by omega), ← e6, lt_e]
  · refine RR_rem R U c1 w2 m3 v6 (fun r hr => FormEq_sm (fun x hx => s2 x (by have := hx.1; omega) (by have := hx.1; omega))) (by rw [W4 2628 (by omega) (by omega), wc 2628 (by omega)]; omega) (fun np' hnp' s' => ?_)
    have a985 : hA g6 985 = hA h 985 := by
      funext i
      rw [(sm4 985 (by omega) (by omega) (by omega)).2.2.2.1, (s2 985 (by omega) (by omega)).2.2.2.1, (smh 985 (by omega) (by omega)).2.2.2.1]
    have a990 : hA g6 990 = hA h 990 := by
      funext i
      rw [(sm4 990 (by omega) (by omega) (by omega)).2.2.2.1, (s2 990 (by omega) (by omega)).2.2.2.1, (smh 990 (by omega) (by omega)).2.2.2.1]
    have ts : TS2 h g6 := tsh1.t (TS2_So (S := fun x => x < 1008) ((w2.w (fun x z => by rcases z with z | z <;> omega)).t ((m3.1.w (fun x z => by rcases z with z | z <;> omega)).t (v6.w (fun x z => by omega)))) (fun x z => z))
    have pl : PlS np' h g6 := fun q _ => by rw [a990]
    have smA : ∀ x, 2 ≤ x → x < 403 → x ≠ 2 + 38 + 2 * s → x ≠ 2 + 38 + 2 * s + 1 → Sm h g6 x := fun x a b d d' => (smh x (by omega) (by omega)).t ((s2 x d d').t (sm4 x (by omega) (by omega) (by omega)))
    have wf : ∀ q, q < 2628 → W' q = Wm h q := fun q hq => wc q (by omega)
    have sm2 := smA 2 (by omega) (by omega) (by omega) (by omega)
    refine SR_W ⟨?_, ⟨?_, ?_⟩, ⟨?_, ?_⟩, fun r hr => ?_, fun q hq => ?_⟩ W4
    · exact FRx_F (FRx_eq s'.1 (FormEq_sm (fun x hx => smA x (by have := hx.1; omega) (by have := hx.2; omega) (by have := hx.2; omega) (by have := hx.2; omega))) ts pl a985 (Nat.le_refl _)) (fun j j0 j1 => by unfold Wf; rw [wf _ (by omega)])
    · rw [sm2.1, wc 2628 (by omega)]; exact s'.2.1.1
    · rw [wc 2628 (by omega)]; exact s'.2.1.2
    · rw [sm2.1, wc 2629 (by omega)]; exact s'.2.2.1.1
    · rw [wc 2629 (by omega)]; exact s'.2.2.1.2
    · rw [wc 2628 (by omega)] at hr
      exact FRx_F (FRx_eq (s'.2.2.2.1 r hr) (FormEq_sm (fun x hx => smA x (by have := hx.1; omega) (by have := hx.2; omega) (by have := hx.1; omega) (by have := hx.1; omega))) ts pl a985 (Nat.le_refl _)) (fun j j0 j1 => by unfold Wf; rw [wf _ (by omega)])
    · rw [wc 2629 (by omega)] at hq
      by_cases y : q = s
      · rw [y, ← eB]
        refine ⟨?_, by rw [wb]; omega, by rw [wb, wc 2628 (by omega), ec]; omega, fun f f0 f1 => ?_⟩
        · rw [(sm4 _ (by omega) (by omega) (by omega)).1, (p2.2.2 _ (by omega)).1, eq, rII, if_pos ⟨rfl, rfl⟩, wb]
        · rw [(sm4 _ (by omega) (by omega) (by omega)).2.2.2.1, v2 f (by omega) f1, wd f f0 f1]
          refine ⟨rfl, ?_⟩
          by_cases z : drp V F f = true
          · rw [if_pos z]; exact Or.inl rfl
          · rw [if_neg z, ← V']; exact (t4 f f0 f1).2
      · obtain ⟨s1, s2', s3, s4⟩ := s'.2.2.2.2 q hq
        have sm1 := smA (2 + 38 + 2 * q) (by omega) (by omega) (by omega) (by omega)
        have sm2 := smA (2 + 38 + 2 * q + 1) (by omega) (by omega) (by omega) (by omega)
        refine ⟨by rw [sm1.1, wc _ (by omega)]; exact s1, by rw [wc _ (by omega)]; exact s2', by rw [wc _ (by omega), wc 2628 (by omega)]; omega, fun f f0 f1 => ?_⟩
        rw [sm2.2.2.2.1, wc _ (by omega)]
        exact s4 f f0 f1
end

