section
variable {b : Int → Int} {n : Int} {was : Nat} {node fr : Int}
theorem simD {q : Nat} {pc : Nat → List TS → PR} (n0 : 0 ≤ n) (n1 : n ≤ 1200) (q6 : q ≤ 6) (sim : SimX b n was node fr q 2 1 okC (fun k => k ≠ 12) pc) (hp : ∀ j S, AP b n j S (pc j S)) : SimX b n was node fr q 1 0 okD (fun k => k ≠ 12 ∧ k ≠ 11) (pch (tkn b n) pc 11 2) := by
  intro N f j S W LL g P B hn wl tp hf hN
  have sn := tS_n (b := b) n0 j
  have FUe : FU = 1000000 := rfl
  have st := sim N f j S W LL g P B hn (by omega) (Top_up tp (by decide)) hf hN
  have ap := hp j S
  unfold pch
  cases ok : (pc j S).1 with
  | false =>
    refine ⟨fun z => by simp at z, fun _ => st.2 ok⟩
  | true =>
    obtain ⟨N2, m2, g2, X, LL2, z1, z0, z2, z3, x1, x2, e2, m2', q2, P2⟩ := st.1 ok
    obtain ⟨c1, c2, c3, c4⟩ := MB_of (j2 := 0) (S2 := []) (L := []) B ap ok
    have sn2 := tS_n (b := b) n0 (pc j S).2.1
    have B' := B
    obtain ⟨b1, b2, b3, b4⟩ := B'
    simp only [List.length_append] at c4
    have aj := (ap ok).1
    have oD : okD X := by
      rcases z1 with z1 | z1
      · exact Or.inl z1
      · exact Or.inr (Or.inl z1)
    have xl : X.length ≤ 1 := by rcases z1 with z1 | z1 <;> (subst z1; decide)
    have l2 : LL2.length + X.length = LL.length + (pc j S).2.2.2.length := by
      have := congrArg List.length z2
      simp at this; omega
    have go := simD_tail n0 n1 q6 sim hp hn (by omega) tp b1 1200 0 (pc j S).2.1 (pc j S).2.2.1 (pc j S).2.2.2 LL LL2 X N2 m2 g2 (by decide) (by omega) oD z0 z2 z3 P2 c1 c2 c3 (by simp; omega) x1 x2
    refine ⟨fun okk => ?_, fun okk => ?_⟩
    · obtain ⟨N', m', g', X', LL3, y1, y0, y2, y3, y4, y5, y6, y7, y8, y9⟩ := go.1 okk
      exact ⟨N', m', g', X', LL3, y1, y0, y2, y3, y4, y5, e2.trans y6, m2'.t y7, fun i hi => (y8 i hi).trans (q2 i hi), y9⟩
    · obtain ⟨gf, y1, y2⟩ := go.2 okk
      exact ⟨gf, e2.trans y1, FF_t y2 m2' (by omega) q2⟩
/-- a closing parenthesis -/
theorem cB_close {g : HP} {j N m : Nat} {S : List TS} {W X LL : List Int} (n0 : 0 ≤ n) (n1 : n ≤ 1200) (P : MCs g b n was j S (W ++ [4] ++ X) LL) (ox : okD X) (w6 : W.length ≤ 500) (pb : (was : Int) + LL.length + W.length + 3 ≤ 12000) (h : tK b n j = 41) : ∃ g', cBx N (m + 1) (i32 node) (i32 fr) g = cBx N m (i32 node) (i32 fr) g' ∧ Mo lcC g g' ∧ (∀ i : Nat, i < was → hA g' 990 i = hA g 990 i) ∧ MCs g' b n was (j + 1) S (stl 3 W).1 (LL ++ X.reverse ++ (stl 3 W).2) := by
  obtain ⟨xl, x4, xn, xp⟩ := okD_4 ox
  have nr := nst_rng W
  have nr4 := nst_rng (W ++ [4] ++ X)
  have np : prs (W ++ [4] ++ X) = prs W + 1 := by rw [prs_app, prs_app, xp, prs_one, if_pos rfl]; omega
  have nn : nst (W ++ [4] ++ X) = nst W + 1 := by rw [nst_app, nst_app, xn, nst_one, if_pos (by decide)]; omega
  have tp : TopL 1 (W ++ [4]) := Top_one (by decide)
  have hs := stl1_D tp ox
  obtain ⟨g1, e1, m1, P1, q1⟩ := settles_m (r := 1) (by decide) (by decide) P (by simp; omega) (by simp; omega) (by rw [hs]; intro u hu; rw [List.mem_reverse] at hu; exact x4 u hu)
  rw [hs] at P1
  simp only at P1
  have np1 : prs (W ++ [4]) = prs W + 1 := by rw [prs_app, prs_one, if_pos rfl]
  have nn1 : nst (W ++ [4]) = nst W + 1 := by rw [nst_app, nst_one, if_pos (by decide)]
  obtain ⟨p1, p2, p3, p4, p5, p6⟩ := P1
  rw [nn1] at p5
  rw [np1] at p6
  have p728 : hI g1 728 983 = i32 ((W.length : Int) + 1) := by have := p4.1; simpa using this
  obtain ⟨ga, ea⟩ : ∃ ga, ga = sI g1 728 983 (i32 W.length) := ⟨_, rfl⟩
  obtain ⟨gb, eb⟩ : ∃ gb, gb = sI ga 729 983 (i32 (nst W)) := ⟨_, rfl⟩
  obtain ⟨gc, ec⟩ : ∃ gc, gc = sI gb 730 983 (i32 (prs W)) := ⟨_, rfl⟩
  have r729 : hI ga 729 983 = i32 (nst W + 1) := by rw [ea, rII, if_neg (by decide)]; exact p5
  have r730 : hI gb 730 983 = i32 (prs W + 1) := by rw [eb, rII, if_neg (by decide), ea, rII, if_neg (by decide)]; exact p6
  have mc : Mo [728, 729, 730] g1 gc := by rw [ec, eb, ea]; exact ((Mo_I (by decide) _).t (Mo_I (by decide) _)).t (Mo_I (by decide) _)
  have Pc : MCs gc b n was j S W (LL ++ X.reverse) := by
    refine ⟨p1.mo mc (by decide), ⟨(mc.I (by decide)).trans p2.1, fun k x hk => ?_⟩, ⟨(mc.I (by decide)).trans p3.1, fun i e he => ?_⟩, ⟨?_, fun k w hk => ?_⟩, ?_, ?_⟩
    · rw [mc.L (by decide), mc.A (by decide), mc.A (by decide)]; exact p2.2 k x hk
    · have := PLi_S (X := []) (g' := gc) (p3.2 i e he) (by rw [mc.A (by decide)]) (fun k _ => by rw [mc.A (by decide)])
      rwa [List.append_nil] at this
    · rw [ec, rII, if_neg (by decide), eb, rII, if_neg (by decide), ea, rII, if_pos ⟨rfl, rfl⟩]
    · rw [mc.A (by decide)]
      apply p4.2 k w
      rw [List.getElem?_append_left (List.getElem?_eq_some_iff.mp hk).1]; exact hk
    · rw [ec, rII, if_neg (by decide), eb, rII, if_pos ⟨rfl, rfl⟩]
    · rw [ec, rII, if_pos ⟨rfl, rfl⟩]
  obtain ⟨g2, e2, m2, P2⟩ := Pc.next n0 n1
  obtain ⟨g3, e3, m3, P3, q3⟩ := settles3 P2 (by omega) (by simp; omega)
  refine ⟨g3, ?_, (((m1.w (by decide)).t (mc.w (by decide))).t (m2.w (by decide))).t m3, fun i hi => by rw [q3 i hi, m2.A (by decide), mc.A (by decide)]; exact q1 i hi, P3⟩
  have h730 := P.2.2.2.2.2
  rw [np] at h730
  have h41 := isHere_s n0 P.1 (show (13 : Int) < 41 by decide) (by decide)
  unfold cBx
  rw [elX11_readCondition_43]; unfold bX11_readCondition_43
  unfold tK at h
  have k0 : ¬ hI g 721 983 = 0 := by rw [P.1.fn]; exact i32_1n0
  have k1 : ¬ hI g 730 983 ≤ 0 := by rw [h730, i32_z, i32_le (by omega) (by omega) (by omega) (by omega)]; omega
  rw [P.1.ms.o, gd_tt, if_neg k0, if_neg k1, h41, bn_s, if_pos (by simp [h]), e1, bn_s, p1.ms.o, gd_tt, p728, i32_sub, lt_e, show ((W.length : Int) + 1 - 1) = W.length by omega, ← ea, r729, i32_sub, lt_e, show nst W + 1 - 1 = nst W by omega, ← eb, r730, i32_sub, lt_e, show prs W + 1 - 1 = prs W by omega, ← ec, e2, bn_s, P2.1.ms.o, gd_tt, e3, bn_s]
theorem simT_all (n0 : 0 ≤ n) (n1 : n ≤ 1200) (h0 : 0 ≤ node) (h1 : node < 32) (f0 : 0 ≤ fr) (f1 : fr ≤ 12000) : ∀ q : Nat, q ≤ 6 → SimT b n was node fr q (ptest (tkn b n) node q) := by
  have FUe : FU = 999999 + 1 := rfl
  intro q
  induction q with
  | zero =>
    intro _ N f j S W LL g P B hn wl hf hN
    have sn := tS_n (b := b) n0 j
    have nr := nst_rng W
    have B' := B
    obtain ⟨b1, b2, b3, b4⟩ := B'
    have nm := simT_name (q := 0) (f := f) n0 n1 h0 h1 f0 f1 P B (by omega) (by omega) hN
    unfold ptest
    by_cases c : tkk (tkn b n j) = 2
    · rw [if_pos c]; exact nm.1 c
    · rw [if_neg c]
      refine ⟨fun z => (by cases z), fun _ => ?_⟩
      by_cases c2 : tK b n j = 13 ∨ tK b n j = 40
      · obtain ⟨f, rfl⟩ : ∃ x, f = x + 2 := ⟨f - 2, by omega⟩
        obtain ⟨N, rfl⟩ : ∃ x, N = x + 1 := ⟨N - 1, by omega⟩
        obtain ⟨g1, W', e1, m1, F1, f6, f7, q1⟩ := rt_deep (f := f) (node := node) n0 n1 P B (by omega) c2 (by omega)
        obtain ⟨gf, e2, fe⟩ := bB_F (N := N) (m := 999999) F1 h0 h1 f0 f1
        refine ⟨gf, ?_, FF_of (s := S.length) fe m1 f6 (f7.trans P.2.1.1) (by omega) (Int.le_refl _) (by omega) q1⟩
        unfold aA
        rw [e1]
        simp only [bn_s, F1.1.o, gd_tt]
        exact e2
      · exact nm.2 c (fun z => c2 (Or.inl z)) (fun z => c2 (Or.inr z))
  | succ q ih =>
    intro q6 N f j S W LL g P B hn wl hf hN
    have sn := tS_n (b := b) n0 j
    have nr := nst_rng W
    have ihq := ih (by omega)
    have nm := simT_name (q := q + 1) (f := f) n0 n1 h0 h1 f0 f1 P B (by omega) (by omega) hN
    have B' := B
    obtain ⟨b1, b2, b3, b4⟩ := B'
    unfold ptest
    by_cases c : tkk (tkn b n j) = 2
    · rw [if_pos c]; exact nm.1 c
    rw [if_neg c]
    obtain ⟨f, rfl⟩ : ∃ x, f = x + 1 := ⟨f - 1, by omega⟩
    by_cases c2 : tkk (tkn b n j) = 13
    · rw [if_pos c2]
      obtain ⟨g1, e1, m1, q1, P1⟩ := rt_push (f := f) (node := node) (w := 3) n0 n1 P (by omega) (Or.inl ⟨c2, rfl⟩) (by omega)
      have s1 := tS_1 (b := b) n0 (j := j) (show tkk (tkn b n j) ≠ 0 by omega)
      have B1 : MB b n was (j + 1) S (W ++ [3]) LL := ⟨b1, by omega, by omega, by simp; omega⟩
      have st := ihq N f (j + 1) S (W ++ [3]) LL g1 P1 B1 (by rw [nst_app, nst_one, if_pos (by decide)]; omega) (by simp; omega) (by omega) (by omega)
      have ea : aA N (f + 1) (i32 node) (i32 fr) g = aA N f (i32 node) (i32 fr) g1 := by unfold aA; rw [e1]
      cases ok : (ptest (tkn b n) node q (j + 1) S).1 with
      | false =>
        refine ⟨fun z => by simp at z, fun _ => ?_⟩
        obtain ⟨gf, e2, ff⟩ := st.2 ok
        exact ⟨gf, ea.trans e2, FF_t ff m1 (Int.le_refl _) q1⟩
      | true =>
        refine ⟨fun _ => ?_, fun z => by simp at z⟩
        obtain ⟨N2, m2, g2, x1, x2, e2, m2', q2, P2⟩ := st.1 ok
        rw [stl_snoc, if_pos (by decide)] at P2
        refine ⟨N2, m2, g2, x1, x2, ea.trans e2, m1.t m2', fun i hi => (q2 i hi).trans (q1 i hi), ?_⟩
        have : LL ++ (ptest (tkn b n) node q (j + 1) S).2.2.2 ++ 3 :: (stl 3 W).2 = LL ++ ((ptest (tkn b n) node q (j + 1) S).2.2.2 ++ [3]) ++ (stl 3 W).2 := by simp
        rw [← this]; exact P2
    rw [if_neg c2]
    by_cases c3 : tkk (tkn b n j) = 40
    · rw [if_pos c3]
      obtain ⟨g1, e1, m1, q1, P1⟩ := rt_push (f := f) (node := node) (w := 4) n0 n1 P (by omega) (Or.inr ⟨c3, rfl⟩) (by omega)
      have s1 := tS_1 (b := b) n0 (j := j) (show tkk (tkn b n j) ≠ 0 by omega)
      have B1 : MB b n was (j + 1) S (W ++ [4]) LL := ⟨b1, by omega, by omega, by simp; omega⟩
      have sD := simD n0 n1 (by omega) (simC n0 n1 (by omega) ihq (ap_test n0 q)) (ap_con n0 q)
      have st := sD N f (j + 1) S (W ++ [4]) LL g1 P1 B1 (by rw [nst_app, nst_one, if_pos (by decide)]; omega) (by simp; omega) (Top_one (by decide)) (by omega) (by omega)
      have apd := ap_dis (b := b) (ow := node) n0 q (j + 1) S
      have ea : aA N (f + 1) (i32 node) (i32 fr) g = aA N f (i32 node) (i32 fr) g1 := by unfold aA; rw [e1]
      have ed : pch (tkn b n) (pcon (tkn b n) (ptest (tkn b n) node q)) 11 2 (j + 1) S = pdis (tkn b n) (ptest (tkn b n) node q) (j + 1) S := rfl
      rw [ed] at st
      generalize pdis (tkn b n) (ptest (tkn b n) node q) (j + 1) S = PD at st apd ⊢
      cases ok : PD.1 with
      | false =>
        refine ⟨fun z => by simp at z, fun _ => ?_⟩
        obtain ⟨gf, e2, ff⟩ := st.2 ok
        exact ⟨gf, ea.trans e2, FF_t ff m1 (Int.le_refl _) q1⟩
      | true =>
        obtain ⟨N2, m2, g2, X, LL2, z1, z0, z2, z3, x1, x2, e2, m2', q2, P2⟩ := st.1 ok
        obtain ⟨c5, c6, c7, c8⟩ := MB_of (j2 := 0) (S2 := []) (L := []) B1 apd ok
        have sn2 := tS_n (b := b) n0 PD.2.1
        have aj := (apd ok).1
        obtain ⟨xl, x4, xn, xp⟩ := okD_4 z1
        have l2 : LL2.length + X.length = LL.length + PD.2.2.2.length := by
          have := congrArg List.length z2
          simp at this; omega
        simp only [List.length_append, List.length_singleton] at c8
        show (((if tkk (tkn b n PD.2.1) = 41 then _ else _ : PR)).1 = true → _) ∧ _
        by_cases c4 : tkk (tkn b n PD.2.1) = 41
        · rw [if_pos c4]
          refine ⟨fun _ => ?_, fun z => by cases z⟩
          obtain ⟨m2, rfl⟩ : ∃ x, m2 = x + 1 := ⟨m2 - 1, by omega⟩
          obtain ⟨g3, e3, m3, q3, P3⟩ := cB_close (N := N2) (m := m2) (node := node) (fr := fr) n0 n1 P2 z1 (by omega) (by omega) c4
          refine ⟨N2, m2, g3, by show 3000 ≤ N2 + (PD.2.1 + 1); omega, by show FU ≤ m2 + (PD.2.1 + 1); omega, (ea.trans e2).trans e3, (m1.t m2').t m3, fun i hi => ((q3 i hi).trans (q2 i hi)).trans (q1 i hi), ?_⟩
          rw [z2] at P3
          exact P3
        · rw [if_neg c4]
          refine ⟨fun z => (by cases z), fun _ => ?_⟩
          obtain ⟨N2, rfl⟩ : ∃ x, N2 = x + 1 := ⟨N2 - 1, by omega⟩
          have eo := cB_out (N := N2 + 1) (m := m2) (node := node) (fr := fr) n0 P2 (by omega) (by simp; omega) (Or.inl c4)
          have ek := KC_end (N := N2) (node := node) (fr := fr) n0 P2 z3.1 z3.2
          obtain ⟨gf, e5, ff⟩ := K1_bad (p := was + LL.length) P2 (by rw [prs_app, prs_app, xp, prs_one, if_pos rfl]; omega) (by simp; omega) (by simp; omega) (by omega) h0 h1 f0 f1 (by omega)
          exact ⟨gf, by rw [ea, e2, eo, ek, e5], FF_t ff (m1.t m2') (Int.le_refl _) (fun i hi => (q2 i hi).trans (q1 i hi))⟩
    · rw [if_neg c3]
      exact ⟨fun z => (by cases z), fun _ => nm.2 c c2 c3⟩
end
