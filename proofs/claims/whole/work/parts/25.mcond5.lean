/-- what a failure leaves, with all that is asked of it -/
def FF (was : Nat) (g gf : HP) (node fr p er : Int) : Prop := Mo (987 :: lcC) g gf ∧ hI gf 721 983 = i32 0 ∧ hI gf 706 983 = i32 er ∧ (∃ s : Nat, hI gf 726 983 = i32 s ∧ s ≤ 400) ∧ (∃ p', hI gf 714 983 = i32 p' ∧ p ≤ p' ∧ p' ≤ 12000 ∧ ∀ k, 0 ≤ k → Wm gf k = if k = 192 + node then fr else if k = 224 + node then p' - fr else Wm g k) ∧ ∀ i : Nat, i < was → hA gf 990 i = hA g 990 i
section
variable {b : Int → Int} {n : Int} {was : Nat} {node fr : Int}
theorem FF_of {g g2 gf : HP} {p q er : Int} (e : FE g2 gf node fr q) (m : Mo lcC g g2) (h706 : hI g2 706 983 = i32 er) {s : Nat} (h726 : hI g2 726 983 = i32 s) (s4 : s ≤ 400) (hp : p ≤ q) (hq : (was : Int) ≤ q) (hw : ∀ i : Nat, i < was → hA g2 990 i = hA g 990 i) : FF was g gf node fr p er := by
  obtain ⟨e1, e2, e3, e4, ⟨p', a1, a2, a3, a4⟩, e6⟩ := e
  refine ⟨(m.w (by decide)).t e1, e2, e3.trans h706, ⟨s, e4.trans h726, s4⟩, ⟨p', a1, by omega, a3, fun k k0 => ?_⟩, fun i hi => (e6 i (by omega)).trans (hw i hi)⟩
  rw [a4 k k0]
  have : Wm g2 k = Wm g k := by unfold Wm; rw [m.L (by decide)]
  rw [this]
theorem FF_t {g g2 gf : HP} {p q er : Int} (e : FF was g2 gf node fr q er) (m : Mo lcC g g2) (hp : p ≤ q) (hw : ∀ i : Nat, i < was → hA g2 990 i = hA g 990 i) : FF was g gf node fr p er := by
  obtain ⟨e1, e2, e3, e4, ⟨p', a1, a2, a3, a4⟩, e6⟩ := e
  refine ⟨(m.w (by decide)).t e1, e2, e3, e4, ⟨p', a1, by omega, a3, fun k k0 => ?_⟩, fun i hi => (e6 i hi).trans (hw i hi)⟩
  rw [a4 k k0]
  have : Wm g2 k = Wm g k := by unfold Wm; rw [m.L (by decide)]
  rw [this]
theorem nst_one (w : Int) : nst [w] = if w = 3 ∨ w = 4 then 1 else 0 := by
  unfold nst
  by_cases c : w = 3
  · subst c; decide
  by_cases c2 : w = 4
  · subst c2; decide
  simp [c, c2]
theorem prs_one (w : Int) : prs [w] = if w = 4 then 1 else 0 := by
  unfold prs
  by_cases c2 : w = 4
  · subst c2; decide
  simp [c2]
/-- pushing a part that waits -/
theorem push_m {g : HP} {j : Nat} {S : List TS} {W LL : List Int} {w : Int} (P : MCs g b n was j S W LL) (l : W.length < 600) (w0 : 1 ≤ w) (w1 : w ≤ 4) {nz pz : Int} (g0 : HP) (m0 : Mo [729, 730] g g0) (h729 : hI g0 729 983 = i32 (nst W + nst [w])) (h730 : hI g0 730 983 = i32 (prs W + prs [w])) : ∃ g', fX11_waitsFor 983 (i32 w) g0 = some g' ∧ Mo [729, 730, 728, 996] g g' ∧ MCs g' b n was j S (W ++ [w]) LL := by
  obtain ⟨p1, p2, p3, p4, p5, p6⟩ := P
  have S0 : WS g0 W := ⟨(m0.I (by decide)).trans p4.1, fun k u hk => by rw [m0.A (by decide)]; exact p4.2 k u hk⟩
  obtain ⟨g', e, m, S'⟩ := waitsFor_s (m0.ms p1.ms) S0 l w0 w1
  have mm : Mo [729, 730, 728, 996] g g' := (m0.w (by decide)).t (m.w (by decide))
  refine ⟨g', e, mm, p1.mo mm (by decide), ⟨(mm.I (by decide)).trans p2.1, fun k x hk => ?_⟩, ⟨(mm.I (by decide)).trans p3.1, fun i e he => ?_⟩, S', ?_, ?_⟩
  · rw [mm.L (by decide), mm.A (by decide), mm.A (by decide)]; exact p2.2 k x hk
  · have := PLi_S (X := []) (g' := g') (p3.2 i e he) (by rw [mm.A (by decide)]) (fun k _ => by rw [mm.A (by decide)])
    rwa [List.append_nil] at this
  · rw [m.I (by decide), h729, nst_app]
  · rw [m.I (by decide), h730, prs_app]
theorem MCs.next {g : HP} {j : Nat} {S : List TS} {W LL : List Int} (n0 : 0 ≤ n) (n1 : n ≤ 1200) (P : MCs g b n was j S W LL) : ∃ g', fX11_next 983 g = some g' ∧ Mo lnN g g' ∧ MCs g' b n was (j + 1) S W LL := by
  obtain ⟨p1, p2, p3, p4, p5, p6⟩ := P
  obtain ⟨g', e, m, Q⟩ := p1.next n0 n1
  refine ⟨g', e, m, Q, ⟨(m.I (by decide)).trans p2.1, fun k x hk => ?_⟩, ⟨(m.I (by decide)).trans p3.1, fun i e he => ?_⟩, ⟨(m.I (by decide)).trans p4.1, fun k w hk => by rw [m.A (by decide)]; exact p4.2 k w hk⟩, (m.I (by decide)).trans p5, (m.I (by decide)).trans p6⟩
  · rw [m.L (by decide), m.A (by decide), m.A (by decide)]; exact p2.2 k x hk
  · have := PLi_S (X := []) (g' := g') (p3.2 i e he) (by rw [m.A (by decide)]) (fun k _ => by rw [m.A (by decide)])
    rwa [List.append_nil] at this
theorem nst_rng (W : List Int) : 0 ≤ nst W ∧ nst W ≤ W.length ∧ 0 ≤ prs W ∧ prs W ≤ nst W := by
  unfold nst prs
  have h1 := List.length_filter_le (fun w : Int => w == 3 || w == 4) W
  have h2 : (W.filter fun w => w == 4).length ≤ (W.filter fun w => w == 3 || w == 4).length := by
    induction W with
    | nil => exact Nat.le_refl _
    | cons w W ih =>
      have ih := ih (List.length_filter_le _ _)
      simp only [List.filter_cons]
      by_cases c : w = 4
      · simp [c]; exact ih
      · by_cases c3 : w = 3
        · simp [c3]; omega
        · simp [c, c3]; exact ih
  omega
/-- "not" or an opening parenthesis that may stand here -/
theorem rt_push {g : HP} {j f : Nat} {S : List TS} {W LL : List Int} {w : Int} (n0 : 0 ≤ n) (n1 : n ≤ 1200) (P : MCs g b n was j S W LL) (l : W.length < 600) (hw : (tK b n j = 13 ∧ w = 3) ∨ (tK b n j = 40 ∧ w = 4)) (hn : nst W < 6) : ∃ g', lX11_readTest_0 KTt (f + 1) 983 (i32 node) g = lX11_readTest_0 KTt f 983 (i32 node) g' ∧ Mo lcC g g' ∧ (∀ i : Nat, i < was → hA g' 990 i = hA g 990 i) ∧ MCs g' b n was (j + 1) S (W ++ [w]) LL := by
  have nr := nst_rng W
  obtain ⟨g1, e1, m1, P1⟩ := P.next n0 n1
  have tk : fX11_takes 983 true g = some g1 := by
    have M := P.1.ms
    unfold fX11_takes jX11_takes_24
    simp only [M.o, gd_tt, P.1.fn, i32_z, e1, bn_s, if_true]
    rw [if_neg i32_1n0, if_neg i32_1n0]
  have i13 := isW n0 P.1 9 (by decide)
  rw [show kws.getD 9 0 = 14836 from rfl] at i13
  have h729 : hI g1 729 983 = i32 (nst W) := P1.2.2.2.2.1
  have h730 : hI g1 730 983 = i32 (prs W) := P1.2.2.2.2.2
  obtain ⟨g2, e2⟩ : ∃ g2, g2 = sI g1 729 983 (i32 (nst W + 1)) := ⟨_, rfl⟩
  have M1 := P1.1.ms
  have M2 : MS g2 := by rw [e2]; exact M1.sk (sk_sI rfl)
  have h730' : hI g2 730 983 = i32 (prs W) := by rw [e2, rII, if_neg (by decide)]; exact h730
  have M3 : ∀ v, MS (sI g2 730 983 v) := fun v => M2.sk (sk_sI rfl)
  have k718 := P.1.kd
  have mr := mkk_rng (tkk (tkn b n j))
  have m2 : ∀ v, Mo [729, 730] g1 (sI g2 730 983 v) := fun v => by rw [e2]; exact (Mo_I (by decide) _).t (Mo_I (by decide) _)
  obtain ⟨g4, e4, m4, P4⟩ := push_m P1 l (w := w) (by omega) (by omega) (nz := 0) (pz := 0) (sI g2 730 983 (i32 (prs W + prs [w]))) (m2 _) (by rw [rII, if_neg (by decide), e2, rII, if_pos ⟨rfl, rfl⟩, nst_one, if_pos (by omega)]) (by rw [rII, if_pos ⟨rfl, rfl⟩])
  refine ⟨g4, ?_, (m1.w (by decide)).t (m4.w (by decide)), fun i _ => by rw [m4.A (by decide), m1.A (by decide)], P4⟩
  have h40 := isHere_s n0 P.1 (show (13 : Int) < 40 by decide) (by decide)
  have c6 : ¬ i32 6 ≤ i32 (nst W) := by rw [i32_le (by omega) (by omega) (by omega) (by omega)]; omega
  rw [elX11_readTest_0]; unfold bX11_readTest_0
  rcases hw with ⟨h1, h2⟩ | ⟨h1, h2⟩
  · subst h2
    unfold tK at h1
    have em : mkk (tkk (tkn b n j)) = 2 := mkk_2.mpr (by omega)
    rw [prs_one, if_neg (by decide)] at e4
    rw [P.1.ms.o, gd_tt, i13, bn_s, if_pos (by simp [h1])]
    unfold jX11_readTest_19
    rw [P.1.ms.o, gd_tt, k718, if_pos (by rw [em])]
    unfold jX11_readTest_32
    rw [P.1.ms.o, gd_tt, P.2.2.2.2.1, if_neg c6]
    unfold jX11_readTest_48
    rw [P.1.ms.o, gd_tt, tk, bn_s, M1.o, gd_tt, h729, i32_add, lt_e, ← e2, if_pos rfl]
    unfold jX11_readTest_75
    rw [M2.o, gd_tt, h730', bI_ff, i32_add, lt_e, if_pos rfl]
    unfold jX11_readTest_89
    rw [(M3 _).o, gd_tt, e4, bn_s]
  · subst h2
    unfold tK at h1
    have em : ¬ mkk (tkk (tkn b n j)) = 2 := fun z => by have := mkk_2.mp z; omega
    rw [prs_one, if_pos rfl] at e4
    rw [P.1.ms.o, gd_tt, i13, bn_s, if_neg (by simp [h1]), h40, bn_s, if_pos (by simp [h1])]
    unfold jX11_readTest_19
    rw [P.1.ms.o, gd_tt, k718, if_neg (by rw [i32_eq (by omega) (by omega) (by omega) (by omega)]; exact em)]
    unfold jX11_readTest_32
    rw [P.1.ms.o, gd_tt, P.2.2.2.2.1, if_neg c6]
    unfold jX11_readTest_48
    rw [P.1.ms.o, gd_tt, tk, bn_s, M1.o, gd_tt, h729, i32_add, lt_e, ← e2, if_neg (by decide)]
    unfold jX11_readTest_75
    rw [M2.o, gd_tt, h730', bI_tt, i32_add, lt_e, if_neg (by decide)]
    unfold jX11_readTest_89
    rw [(M3 _).o, gd_tt, e4, bn_s]
/-- a test that is too deep, or none at all, or one that is right -/
theorem rt_deep {g : HP} {j f : Nat} {S : List TS} {W LL : List Int} (n0 : 0 ≤ n) (n1 : n ≤ 1200) (P : MCs g b n was j S W LL) (B : MB b n was j S W LL) (l : W.length ≤ 100) (hw : tK b n j = 13 ∨ tK b n j = 40) (hn : 6 ≤ nst W) : ∃ g' W', lX11_readTest_0 KTt (f + 2) 983 (i32 node) g = some g' ∧ Mo lcC g g' ∧ MFs g' W' (was + LL.length) ∧ hI g' 706 983 = i32 (tS b n j) ∧ hI g' 726 983 = hI g 726 983 ∧ ∀ i : Nat, i < was → hA g' 990 i = hA g 990 i := by
  have nr := nst_rng W
  have sn := tS_n (b := b) n0 j
  obtain ⟨b1, b2, b3, b4⟩ := B
  obtain ⟨g1, tk, m1, z1, z2⟩ := takes_f P.1
  have i13 := isW n0 P.1 9 (by decide)
  rw [show kws.getD 9 0 = 14836 from rfl] at i13
  have h729 : hI g1 729 983 = i32 (nst W) := (m1.I (by decide)).trans P.2.2.2.2.1
  have h730 : hI g1 730 983 = i32 (prs W) := (m1.I (by decide)).trans P.2.2.2.2.2
  obtain ⟨g2, e2⟩ : ∃ g2, g2 = sI g1 729 983 (i32 (nst W + 1)) := ⟨_, rfl⟩
  have M1 := m1.ms P.1.ms
  have M2 : MS g2 := by rw [e2]; exact M1.sk (sk_sI rfl)
  have h730' : hI g2 730 983 = i32 (prs W) := by rw [e2, rII, if_neg (by decide)]; exact h730
  have M3 : ∀ v, MS (sI g2 730 983 v) := fun v => M2.sk (sk_sI rfl)
  have k718 := P.1.kd
  have mr := mkk_rng (tkk (tkn b n j))
  have key : ∀ (v : Int32) (w : Int), 1 ≤ w → w ≤ 4 → ∃ g' W', (bn (fX11_waitsFor 983 (i32 w) (sI g2 730 983 v)) fun h103 => lX11_readTest_0 KTt (f + 1) 983 (i32 node) h103) = some g' ∧ Mo lcC g g' ∧ MFs g' W' (was + LL.length) ∧ hI g' 706 983 = i32 (tS b n j) ∧ hI g' 726 983 = hI g 726 983 ∧ ∀ i : Nat, i < was → hA g' 990 i = hA g 990 i := by
    intro v w w0 w1
    have mm : Mo lcC g (sI g2 730 983 v) := by rw [e2]; exact ((m1.w (by decide)).t (Mo_I (by decide) _)).t (Mo_I (by decide) _)
    have rd : ∀ fl : Nat, fl ≠ 729 → fl ≠ 730 → hI (sI g2 730 983 v) fl 983 = hI g1 fl 983 := fun fl h1 h2 => by
      rw [rII, if_neg (fun z => h2 z.1), e2, rII, if_neg (fun z => h1 z.1)]
    have h996 : hA (sI g2 730 983 v) 996 = hA g 996 := by rw [rAI, e2, rAI, m1.A (by decide)]
    have S0 : WS (sI g2 730 983 v) W := ⟨by rw [rd _ (by decide) (by decide), m1.I (by decide)]; exact P.2.2.2.1.1, fun k u hk => by rw [h996]; exact P.2.2.2.1.2 k u hk⟩
    obtain ⟨g4, e4, m4, S4⟩ := waitsFor_s (M3 v) S0 (by omega) w0 w1
    have M4 := m4.ms (M3 v)
    have z4 : hI g4 721 983 = i32 0 := by rw [m4.I (by decide), rd _ (by decide) (by decide)]; exact z1
    have h726 : hI g4 726 983 = i32 S.length := by rw [m4.I (by decide), rd _ (by decide) (by decide), m1.I (by decide)]; exact P.2.1.1
    obtain ⟨g5, e5, m5⟩ := KT_z (node := node) M4 z4 h726 (by omega)
    rw [e4]; simp only [bn_s]
    rw [elX11_readTest_0]; unfold bX11_readTest_0
    simp only [M4.o, gd_tt, isWord_z M4 z4, isHere_z M4 z4, bn_s, Bool.false_eq_true, if_false, e5]
    refine ⟨g5, W ++ [w], rfl, (mm.t (m4.w (by decide))).t (m5.w (by decide)), ⟨m5.ms M4, (m5.I (by decide)).trans z4, ⟨(m5.I (by decide)).trans S4.1, fun k u hk => by rw [m5.A (by decide)]; exact S4.2 k u hk⟩, by simp; omega, ?_, by omega, by simp; omega⟩, ?_, ?_, fun i hi => ?_⟩
    · rw [m5.I (by decide), m4.I (by decide), rd _ (by decide) (by decide), m1.I (by decide)]; exact P.2.2.1.1
    · rw [m5.I (by decide), m4.I (by decide), rd _ (by decide) (by decide)]; exact z2
    · rw [m5.I (by decide), m4.I (by decide), rd _ (by decide) (by decide), m1.I (by decide)]
    · rw [m5.A (by decide), m4.A (by decide), rAI, e2, rAI, m1.A (by decide)]
  have h40 := isHere_s n0 P.1 (show (13 : Int) < 40 by decide) (by decide)
  have c6 : i32 6 ≤ i32 (nst W) := by rw [i32_le (by omega) (by omega) (by omega) (by omega)]; omega
  rw [elX11_readTest_0]; unfold bX11_readTest_0
  rcases hw with h1 | h1
  · unfold tK at h1
    have em : mkk (tkk (tkn b n j)) = 2 := mkk_2.mpr (by omega)
    rw [P.1.ms.o, gd_tt, i13, bn_s, if_pos (by simp [h1])]
    unfold jX11_readTest_19
    rw [P.1.ms.o, gd_tt, k718, if_pos (by rw [em])]
    unfold jX11_readTest_32
    rw [P.1.ms.o, gd_tt, P.2.2.2.2.1, if_pos c6]
    unfold jX11_readTest_48
    rw [P.1.ms.o, gd_tt, tk, bn_s, M1.o, gd_tt, h729, i32_add, lt_e, ← e2, if_pos rfl]
    unfold jX11_readTest_75
    rw [M2.o, gd_tt, h730', bI_ff, i32_add, lt_e, if_pos rfl]
    unfold jX11_readTest_89
    rw [(M3 _).o, gd_tt]
    exact key (i32 (prs W + 0)) 3 (by decide) (by decide)
  · unfold tK at h1
    have em : ¬ mkk (tkk (tkn b n j)) = 2 := fun z => by have := mkk_2.mp z; omega
    rw [P.1.ms.o, gd_tt, i13, bn_s, if_neg (by simp [h1]), h40, bn_s, if_pos (by simp [h1])]
    unfold jX11_readTest_19
    rw [P.1.ms.o, gd_tt, k718, if_neg (by rw [i32_eq (by omega) (by omega) (by omega) (by omega)]; exact em)]
    unfold jX11_readTest_32
    rw [P.1.ms.o, gd_tt, P.2.2.2.2.1, if_pos c6]
    unfold jX11_readTest_48
    rw [P.1.ms.o, gd_tt, tk, bn_s, M1.o, gd_tt, h729, i32_add, lt_e, ← e2, if_neg (by decide)]
    unfold jX11_readTest_75
    rw [M2.o, gd_tt, h730', bI_tt, i32_add, lt_e, if_neg (by decide)]
    unfold jX11_readTest_89
    rw [(M3 _).o, gd_tt]
    exact key (i32 (prs W + 1)) 4 (by decide) (by decide)
/-- no "not" and no parenthesis: the loop of the test ends -/
theorem rt_end {g : HP} {j f : Nat} {S : List TS} {W LL : List Int} (n0 : 0 ≤ n) (P : MCs g b n was j S W LL) (h : tK b n j ≠ 13) (h2 : tK b n j ≠ 40) : lX11_readTest_0 KTt (f + 1) 983 (i32 node) g = KTt 983 (i32 node) g := by
  have i13 := isW n0 P.1 9 (by decide)
  rw [show kws.getD 9 0 = 14836 from rfl] at i13
  rw [elX11_readTest_0]; unfold bX11_readTest_0
  simp (disch := omega) only [P.1.ms.o, gd_tt, i13, isHere_s n0 P.1 (show (13 : Int) < 40 by decide) (by decide), bn_s]
  rw [if_neg (by unfold tK at h; simp; omega), if_neg (by unfold tK at h2; simp [h2])]
end
/-- the top of what waits binds less than r -/
def TopL (r : Int) (W : List Int) : Prop := ∀ V w, W = V ++ [w] → rnk w < r
theorem stl_top {r : Int} {W : List Int} (h : TopL r W) : stl r W = (W, []) := by
  rcases List.eq_nil_or_concat W with e | ⟨V, w, e⟩
  · subst e; rfl
  · rw [List.concat_eq_append] at e
    subst e
    rw [stl_snoc, if_neg (by have := h V w rfl; omega)]
theorem Top_up {r r' : Int} {W : List Int} (h : TopL r W) (q : r ≤ r') : TopL r' W := fun V w e => by have := h V w e; omega
theorem Top_one {r w : Int} {W : List Int} (h : rnk w < r) : TopL r (W ++ [w]) := fun V u e => by
  have := List.append_inj_right' e rfl
  simp at this
  rw [← this]; exact h
section
variable {b : Int → Int} {n : Int} {was : Nat} {node fr : Int}
/-- nothing to settle -/
theorem settles_id {g : HP} {j : Nat} {S : List TS} {W LL : List Int} {r : Int} (r1 : r ≤ 3) (r2 : 1 ≤ r) (P : MCs g b n was j S W LL) (w6 : W.length ≤ 600) (pb : (was : Int) + LL.length + W.length ≤ 12000) (t : TopL r W) : ∃ g', fX11_settles 983 (i32 r) g = some g' ∧ Mo lsS g g' ∧ MCs g' b n was j S W LL ∧ ∀ i : Nat, i < was → hA g' 990 i = hA g 990 i := by
  have e := stl_top t
  obtain ⟨g', e1, m, P', q⟩ := settles_m (r := r) r1 r2 P w6 pb (by rw [e]; intro w hw; cases hw)
  rw [e] at P'
  rw [List.append_nil] at P'
  exact ⟨g', e1, m, P', q⟩
/-- the loop over closing parentheses ends here -/
theorem cB_out {g : HP} {j N m : Nat} {S : List TS} {W LL : List Int} (n0 : 0 ≤ n) (P : MCs g b n was j S W LL) (m1 : 1 ≤ m) (w6 : W.length ≤ 600) (h : tK b n j ≠ 41 ∨ prs W = 0) : cBx N m (i32 node) (i32 fr) g = KCc N 983 (i32 node) (i32 fr) g := by
  obtain ⟨m, rfl⟩ : ∃ x, m = x + 1 := ⟨m - 1, by omega⟩
  have nr := nst_rng W
  unfold cBx
  rw [elX11_readCondition_43]; unfold bX11_readCondition_43
  have h730 := P.2.2.2.2.2
  by_cases c : prs W = 0
  · simp only [P.1.ms.o, gd_tt, P.1.fn, i32_z, h730, c]
    rw [if_neg i32_1n0, if_pos (Int32.le_refl _)]
  · have c41 : tK b n j ≠ 41 := by rcases h with h | h; exact h; exact absurd h c
    simp (disch := omega) only [P.1.ms.o, gd_tt, P.1.fn, i32_z, h730, i32_le, i32_eq, isHere_s n0 P.1 (show (13 : Int) < 41 by decide) (by decide), bn_s]
    rw [if_neg (by decide), if_neg (by omega), if_neg (by unfold tK at c41; simp [c41])]
/-- neither "and" nor "or": the reading of the condition ends -/
theorem KC_end {g : HP} {j N : Nat} {S : List TS} {W LL : List Int} (n0 : 0 ≤ n) (P : MCs g b n was j S W LL) (h1 : tK b n j ≠ 12) (h2 : tK b n j ≠ 11) : KCc (N + 1) 983 (i32 node) (i32 fr) g = K1x 983 (i32 node) (i32 fr) g := by
  have i1 := isW n0 P.1 8 (by decide)
  have i2 := isW n0 P.1 7 (by decide)
  rw [show kws.getD 8 0 = 1476 from rfl] at i1
  rw [show kws.getD 7 0 = 498 from rfl] at i2
  unfold KCc jX11_readCondition_138
  simp only [P.1.ms.o, gd_tt, i1, i2, bn_s]
  rw [if_neg (by unfold tK at h1; simp; omega), if_neg (by unfold tK at h2; simp; omega), if_neg (by decide)]
  show lX11_readCondition_22 K1x (N + 1) 983 (i32 node) (i32 fr) false g = _
  rw [elX11_readCondition_22]; unfold bX11_readCondition_22
  rw [if_neg (by decide)]
/-- "and" or "or": on to the next test -/
theorem KC_op {g : HP} {j N : Nat} {S : List TS} {W LL X : List Int} {w r : Int} (n0 : 0 ≤ n) (n1 : n ≤ 1200) (hw : (tK b n j = 12 ∧ w = 1 ∧ r = 2) ∨ (tK b n j = 11 ∧ w = 2 ∧ r = 1)) (P : MCs g b n was j S (W ++ X) LL) (w6 : (W ++ X).length < 500) (pb : (was : Int) + LL.length + (W ++ X).length ≤ 12000) (hs : stl r (W ++ X) = (W, X.reverse)) (h4 : ∀ w ∈ X, w ≠ 4) : ∃ g', KCc (N + 1) 983 (i32 node) (i32 fr) g = aA N FU (i32 node) (i32 fr) g' ∧ Mo lcC g g' ∧ (∀ i : Nat, i < was → hA g' 990 i = hA g 990 i) ∧ MCs g' b n was (j + 1) S (W ++ [w]) (LL ++ X.reverse) := by
  have i1 := isW n0 P.1 8 (by decide)
  have i2 := isW n0 P.1 7 (by decide)
  rw [show kws.getD 8 0 = 1476 from rfl] at i1
  rw [show kws.getD 7 0 = 498 from rfl] at i2
  have tv := tk_val (b := b) n0 j
  have nv := tv.2.1 (Or.inr (by unfold tK at hw; omega))
  have ew := P.1.wd (Or.inr (by unfold tK at hw; omega))
  obtain ⟨g1, e1, m1, P1, q1⟩ := settles_m (r := r) (by omega) (by omega) P (by omega) pb (by rw [hs]; intro u hu; rw [List.mem_reverse] at hu; exact h4 u hu)
  rw [hs] at P1
  simp only at P1
  obtain ⟨g2, e2, m2, P2⟩ := push_m P1 (w := w) (by simp at w6; omega) (by omega) (by omega) (nz := 0) (pz := 0) g1 Mo.r (by rw [nst_one, if_neg (by omega), Int.add_zero]; exact P1.2.2.2.2.1) (by rw [prs_one, if_neg (by omega), Int.add_zero]; exact P1.2.2.2.2.2)
  obtain ⟨g3, e3, m3, P3⟩ := P2.next n0 n1
  refine ⟨g3, ?_, ((m1.w (by decide)).t (m2.w (by decide))).t (m3.w (by decide)), fun i hi => by rw [m3.A (by decide), m2.A (by decide)]; exact q1 i hi, P3⟩
  rw [← aA_0 N _ _ g3 P3.1.ms P3.1.fn]
  have fin : jX11_readCondition_159 (K22 (N + 1)) 983 (i32 node) (i32 fr) true (i32 w) g = K22 (N + 1) 983 (i32 node) (i32 fr) true g3 := by
    unfold jX11_readCondition_159
    have er : rnk w = r := by rcases hw with ⟨_, h1, h2⟩ | ⟨_, h1, h2⟩ <;> (subst h1; subst h2; rfl)
    simp (disch := omega) only [rankOf_s, bn_s, er, P.1.ms.o, gd_tt, e1, P1.1.ms.o, e2, P2.1.ms.o, e3]
  have mid : jX11_readCondition_133 (K22 (N + 1)) 983 (i32 node) (i32 fr) g = K22 (N + 1) 983 (i32 node) (i32 fr) true g3 := by
    unfold jX11_readCondition_133 jX11_readCondition_138
    have v1 := nv.1.1
    have v2 := nv.1.2.1
    simp (disch := omega) only [if_true, P.1.ms.o, gd_tt, ew, i64_eq]
    rcases hw with ⟨h0, h1, h2⟩ | ⟨h0, h1, h2⟩
    · have : tkv (tkn b n j) = 1476 := kwk_inj 8 (by decide) _ (by rw [nv.2]; unfold tK at h0; rw [h0]; decide)
      rw [if_pos this]; subst h1; exact fin
    · have : ¬ tkv (tkn b n j) = 1476 := fun z => by
        have := nv.2
        rw [z] at this; unfold tK at h0; rw [h0] at this; exact absurd this (by decide)
      rw [if_neg this]; subst h1; exact fin
  unfold KCc
  simp only [P.1.ms.o, gd_tt, i1, i2, bn_s]
  rcases hw with ⟨h0, _⟩ | ⟨h0, _⟩
  · rw [if_pos (by unfold tK at h0; simp [h0])]; exact mid
  · rw [if_neg (by unfold tK at h0; simp [h0]), if_pos (by unfold tK at h0; simp [h0])]; exact mid
/-- the reading ends, and a parenthesis is open -/
theorem K1_bad {g : HP} {j : Nat} {S : List TS} {W LL : List Int} {p : Int} (P : MCs g b n was j S W LL) (hp : prs W ≠ 0) (w6 : W.length ≤ 600) (pb : (was : Int) + LL.length + W.length ≤ 12000) (s4 : S.length ≤ 400) (n0 : 0 ≤ node) (n1 : node < 32) (f0 : 0 ≤ fr) (f1 : fr ≤ 12000) (hpp : p ≤ was + LL.length) : ∃ gf, K1x 983 (i32 node) (i32 fr) g = some gf ∧ FF was g gf node fr p (tS b n j) := by
  have nr := nst_rng W
  obtain ⟨g1, e1, m1, z1, z2⟩ := takes1_f P.1
  have M1 := m1.ms P.1.ms
  have F1 : MFs g1 W (was + LL.length) := MCs.mf M1 z1 P (m1.w (by decide)) (m1.I (by decide)) (m1.I (by decide)) (m1.A (by decide)) w6 pb
  obtain ⟨M, z, S0, wl, h714, p0, pw⟩ := F1
  obtain ⟨gf, e, q, a1, a2, a3, _⟩ := K1_end M S0 wl h714 p0 pw n0 n1 f0 f1
  have sl := wlen W 1
  refine ⟨gf, ?_, FF_of (g2 := g1) (q := was + LL.length) (s := S.length) ⟨q.w (by decide), (q.I (by decide)).trans z1, q.I (by decide), q.I (by decide), ⟨_, a1, by omega, by omega, a2⟩, a3⟩ (m1.w (by decide)) z2 ((m1.I (by decide)).trans P.2.1.1) s4 hpp (by omega) (fun i _ => by rw [m1.A (by decide)])⟩
  unfold K1x jX11_readCondition_196
  simp (disch := omega) only [P.1.ms.o, gd_tt, P.2.2.2.2.2, i32_z, i32_eq, e1, bn_s, M1.o]
  rw [if_neg hp]
  exact e
end
