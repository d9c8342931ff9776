theorem mkk_1 {k : Int} (h : 0 ≤ k) : mkk k = 1 ↔ k = 2 := by
  unfold mkk
  constructor
  · intro z
    by_cases c : k = 2
    · exact c
    · exfalso
      revert z
      rw [if_neg c]
      repeat (first | (split; · omega) | omega)
  · intro z; subst z; rfl
theorem mkk_2 {k : Int} : mkk k = 2 ↔ (4 ≤ k ∧ k ≤ 13) ∨ (k < 0) := by
  unfold mkk
  by_cases c0 : k = 0
  · rw [if_pos c0]; omega
  rw [if_neg c0]
  by_cases c0 : k = 1
  · rw [if_pos c0]; omega
  rw [if_neg c0]
  by_cases c0 : k = 2
  · rw [if_pos c0]; omega
  rw [if_neg c0]
  by_cases c0 : k = 3
  · rw [if_pos c0]; omega
  rw [if_neg c0]
  by_cases c0 : k ≤ 13
  · rw [if_pos c0]; omega
  · rw [if_neg c0]; omega
section
variable {g : HP} {b : Int → Int} {n : Int} {was j : Nat} {S : List TS} {W LL : List Int} {node fr : Int}
def ltT : List Nat := [992, 993, 994, 995]
/-- the four rows of a test are written -/
def kt4 (g : HP) (s : Nat) (w : Int64) (st nd pl : Int32) : HP := sA (sA (sA (sL g 992 s w) 993 s st) 994 s nd) 995 s pl
theorem kt4_mo (s : Nat) (w : Int64) (st nd pl : Int32) : Mo ltT g (kt4 g s w st nd pl) := (((Mo_L (by decide) _ _).t (Mo_A (by decide) _ _)).t (Mo_A (by decide) _ _)).t (Mo_A (by decide) _ _)
theorem kt4_r (s : Nat) (w : Int64) (st nd pl : Int32) (k : Nat) : hL (kt4 g s w st nd pl) 992 k = (if k = s then w else hL g 992 k) ∧ hA (kt4 g s w st nd pl) 993 k = (if k = s then st else hA g 993 k) ∧ hA (kt4 g s w st nd pl) 994 k = (if k = s then nd else hA g 994 k) ∧ hA (kt4 g s w st nd pl) 995 k = (if k = s then pl else hA g 995 k) := by
  unfold kt4
  have d : ∀ {x y : Nat}, x ≠ y → ¬ (x = y ∧ k = s) := fun h z => h z.1
  refine ⟨?_, ?_, ?_, ?_⟩
  · rw [rLA, rLA, rLA, rLL]
    by_cases c : k = s
    · rw [if_pos ⟨rfl, c⟩, if_pos c]
    · rw [if_neg (fun z => c z.2), if_neg c]
  · rw [rAA, if_neg (d (by decide)), rAA, if_neg (d (by decide)), rAA, rAL]
    by_cases c : k = s
    · rw [if_pos ⟨rfl, c⟩, if_pos c]
    · rw [if_neg (fun z => c z.2), if_neg c]
  · rw [rAA, if_neg (d (by decide)), rAA]
    by_cases c : k = s
    · rw [if_pos ⟨rfl, c⟩, if_pos c]
    · rw [if_neg (fun z => c z.2), if_neg c, rAA, if_neg (d (by decide)), rAL]
  · rw [rAA]
    by_cases c : k = s
    · rw [if_pos ⟨rfl, c⟩, if_pos c]
    · rw [if_neg (fun z => c z.2), if_neg c, rAA, if_neg (d (by decide)), rAA, if_neg (d (by decide)), rAL]
theorem KT_e (M : MS g) {s : Nat} (hs : hI g 726 983 = i32 s) (s4 : s < 400) : KTt 983 (i32 node) g = if (hI g 718 983) = (i32 1) then jX11_readTest_158 983 true 983 (kt4 g s (hJ g 720 983) (hI g 717 983) (i32 node) (hI g 714 983)) else jX11_readTest_158 983 false 983 (kt4 g s (hJ g 720 983) (hI g 717 983) (i32 node) (hI g 714 983)) := by
  unfold KTt
  simp (disch := omega) only [M.o, gd_tt, M.r_saidName, M.o_saidName, M.n_saidName, M.r_saidAt, M.o_saidAt, M.n_saidAt, M.r_saidNode, M.o_saidNode, M.n_saidNode, M.r_saidIn, M.o_saidIn, M.n_saidIn, oc_s, hs, i32_inb, i32_cn, lt_e, Int.toNat_natCast, rRL, rRA, roL, roA, rnL, rnA, rIL, rIA]
  rfl
theorem KT_z (M : MS g) (z : hI g 721 983 = i32 0) {s : Nat} (hs : hI g 726 983 = i32 s) (s4 : s < 400) : ∃ g', KTt 983 (i32 node) g = some g' ∧ Mo ltT g g' := by
  rw [KT_e M hs s4]
  have q := kt4_mo (g := g) s (hJ g 720 983) (hI g 717 983) (i32 node) (hI g 714 983)
  have M4 := q.ms M
  have z4 : hI (kt4 g s (hJ g 720 983) (hI g 717 983) (i32 node) (hI g 714 983)) 721 983 = i32 0 := (q.I (by decide)).trans z
  have key : ∀ c, jX11_readTest_158 983 c 983 (kt4 g s (hJ g 720 983) (hI g 717 983) (i32 node) (hI g 714 983)) = some (kt4 g s (hJ g 720 983) (hI g 717 983) (i32 node) (hI g 714 983)) := by
    intro c
    unfold jX11_readTest_158
    simp only [M4.o, gd_tt, takes_z M4 z4, bn_s, z4, i32_z, if_true]
  rw [key, key]
  exact ⟨_, by split <;> rfl, q⟩
/-- the state with the rows of the next test -/
theorem MC_kt4 (P : MCs g b n was j S W LL) (w : Int64) (st nd pl : Int32) : MCs (kt4 g S.length w st nd pl) b n was j S W LL := by
  obtain ⟨p1, p2, p3, p4, p5, p6⟩ := P
  have q := kt4_mo (g := g) S.length w st nd pl
  have r := kt4_r (g := g) S.length w st nd pl
  refine ⟨p1.mo q (by decide), ⟨(q.I (by decide)).trans p2.1, fun k x hk => ?_⟩, ⟨(q.I (by decide)).trans p3.1, fun i e he => ?_⟩, ⟨(q.I (by decide)).trans p4.1, fun k w hk => by rw [q.A (by decide)]; exact p4.2 k w hk⟩, (q.I (by decide)).trans p5, (q.I (by decide)).trans p6⟩
  · have hl := (List.getElem?_eq_some_iff.mp hk).1
    obtain ⟨r1, r2, r3, r4⟩ := r k
    rw [r1, r2, r3, if_neg (by omega), if_neg (by omega), if_neg (by omega)]
    exact p2.2 k x hk
  · have := PLi_S (X := []) (g' := kt4 g S.length w st nd pl) (p3.2 i e he) (by rw [q.A (by decide)]) (fun k hk => by rw [(r k).2.2.2, if_neg (by omega)])
    rwa [List.append_nil] at this
/-- no test stands here -/
theorem KT_no (n0 : 0 ≤ n) (P : MCs g b n was j S W LL) (B : MB b n was j S W LL) (n1 : n ≤ 1200) (w6 : W.length ≤ 600) (h : tK b n j ≠ 2) : ∃ g', KTt 983 (i32 node) g = some g' ∧ Mo lcC g g' ∧ MFs g' W (was + LL.length) ∧ hI g' 706 983 = i32 (tS b n j) ∧ hI g' 726 983 = hI g 726 983 ∧ ∀ i : Nat, i < was → hA g' 990 i = hA g 990 i := by
  have M := P.1.ms
  have tr := tk_val (b := b) n0 j
  have sn := tS_n (b := b) n0 j
  obtain ⟨b1, b2, b3, b4⟩ := B
  rw [KT_e M P.2.1.1 (by omega)]
  have k0 : 0 ≤ tkk (tkn b n j) := by omega
  have mr := mkk_rng (tkk (tkn b n j))
  rw [P.1.kd]
  simp (disch := omega) only [i32_eq]
  rw [if_neg (fun z => h ((mkk_1 k0).mp z))]
  have q := kt4_mo (g := g) S.length (hJ g 720 983) (hI g 717 983) (i32 node) (hI g 714 983)
  have P4 := MC_kt4 P (hJ g 720 983) (hI g 717 983) (i32 node) (hI g 714 983)
  generalize kt4 g S.length (hJ g 720 983) (hI g 717 983) (i32 node) (hI g 714 983) = g4 at q P4
  obtain ⟨gf, e, m, f1, f2⟩ := takes_f P4.1
  have Mf := m.ms P4.1.ms
  unfold jX11_readTest_158
  simp only [P4.1.ms.o, gd_tt, e, bn_s, Mf.o, f1, i32_z, if_true]
  refine ⟨gf, rfl, (q.w (by decide)).t (m.w (by decide)), ?_, f2, (m.I (by decide)).trans (q.I (by decide)), fun i _ => by rw [m.A (by decide), q.A (by decide)]⟩
  exact MCs.mf Mf f1 P4 (m.w (by decide)) (m.I (by decide)) (m.I (by decide)) (m.A (by decide)) w6 (by omega)
/-- a test's name, sign and number -/
theorem KT_name (n0 : 0 ≤ n) (n1 : n ≤ 1200) (P : MCs g b n was j S W LL) (B : MB b n was j S W LL) (w6 : W.length ≤ 600) (h : tK b n j = 2) : ∃ g', KTt 983 (i32 node) g = some g' ∧ Mo lcC g g' ∧ (∀ i : Nat, i < was → hA g' 990 i = hA g 990 i) ∧ (((pname (tkn b n) node j S).1 = true ∧ MCs g' b n was (pname (tkn b n) node j S).2.1 (pname (tkn b n) node j S).2.2.1 W (LL ++ (pname (tkn b n) node j S).2.2.2)) ∨ ((pname (tkn b n) node j S).1 = false ∧ MFs g' W (was + LL.length + 1) ∧ hI g' 706 983 = i32 (tS b n (pname (tkn b n) node j S).2.1) ∧ hI g' 726 983 = i32 ((S.length : Int) + 1))) := by
  have M := P.1.ms
  have sn := tS_n (b := b) n0 j
  obtain ⟨b1, b2, b3, b4⟩ := B
  rw [KT_e M P.2.1.1 (by omega), P.1.kd, show tkk (tkn b n j) = 2 from h]
  rw [if_pos (by rfl)]
  have ew : hJ g 720 983 = i64 (tkv (tkn b n j)) := P.1.wd (Or.inl h)
  have es : hI g 717 983 = i32 (tks (tkn b n j)) := P.1.st
  have ep : hI g 714 983 = i32 (was + LL.length) := P.2.2.1.1
  rw [ew, es, ep]
  have q := kt4_mo (g := g) S.length (i64 (tkv (tkn b n j))) (i32 (tks (tkn b n j))) (i32 node) (i32 (was + LL.length))
  have P4 := MC_kt4 P (i64 (tkv (tkn b n j))) (i32 (tks (tkn b n j))) (i32 node) (i32 (was + LL.length))
  obtain ⟨t1, t2, t3, t4⟩ := kt4_r (g := g) S.length (i64 (tkv (tkn b n j))) (i32 (tks (tkn b n j))) (i32 node) (i32 (was + LL.length)) S.length
  generalize kt4 g S.length (i64 (tkv (tkn b n j))) (i32 (tks (tkn b n j))) (i32 node) (i32 (was + LL.length)) = g4 at q P4 t1 t2 t3 t4
  rw [if_pos rfl] at t1 t2 t3 t4
  obtain ⟨g5, e5, m5, Q5⟩ := takes_t n0 n1 P4.1
  obtain ⟨p1, p2, p3, p4, p5, p6⟩ := P4
  have h726 : hI g5 726 983 = i32 S.length := (m5.I (by decide)).trans p2.1
  obtain ⟨g6, e6⟩ : ∃ g6, g6 = sI g5 726 983 (i32 ((S.length : Int) + 1)) := ⟨_, rfl⟩
  have m6 : Mo [726] g5 g6 := by rw [e6]; exact Mo_I (by decide) _
  have Q6 : MQt g6 b n (j + 1) := Q5.mo m6 (by decide)
  have m46 : Mo lcC g4 g6 := (m5.w (by decide)).t (m6.w (by decide))
  have m06 : Mo lcC g g6 := (q.w (by decide)).t m46
  -- the rest keeps rows and pool
  have keep : ∀ (g7 : HP) (l : List Nat), Mo l g6 g7 → (l.contains 714 || l.contains 726 || l.contains 728 || l.contains 729 || l.contains 730 || l.contains 990 || l.contains 992 || l.contains 993 || l.contains 994 || l.contains 995 || l.contains 996) = false → hI g7 714 983 = i32 (was + LL.length) ∧ hI g7 726 983 = i32 ((S.length : Int) + 1) ∧ hI g7 728 983 = i32 W.length ∧ hI g7 729 983 = i32 (nst W) ∧ hI g7 730 983 = i32 (prs W) ∧ hA g7 990 = hA g4 990 ∧ hL g7 992 = hL g4 992 ∧ hA g7 993 = hA g4 993 ∧ hA g7 994 = hA g4 994 ∧ hA g7 995 = hA g4 995 ∧ hA g7 996 = hA g4 996 := by
    intro g7 l m7 ql
    simp only [Bool.or_eq_false_iff] at ql
    obtain ⟨⟨⟨⟨⟨⟨⟨⟨⟨⟨r1, r2⟩, r3⟩, r4⟩, r5⟩, r6⟩, r7⟩, r8⟩, r9⟩, r10⟩, r11⟩ := ql
    refine ⟨?_, ?_, ?_, ?_, ?_, ?_, ?_, ?_, ?_, ?_, ?_⟩
    · rw [m7.I r1, m6.I (by decide), m5.I (by decide)]; exact p3.1
    · rw [m7.I r2, e6, rII, if_pos ⟨rfl, rfl⟩]
    · rw [m7.I r3, m6.I (by decide), m5.I (by decide)]; exact p4.1
    · rw [m7.I r4, m6.I (by decide), m5.I (by decide)]; exact p5
    · rw [m7.I r5, m6.I (by decide), m5.I (by decide)]; exact p6
    · rw [m7.A r6, m6.A (by decide), m5.A (by decide)]
    · rw [m7.L r7, m6.L (by decide), m5.L (by decide)]
    · rw [m7.A r8, m6.A (by decide), m5.A (by decide)]
    · rw [m7.A r9, m6.A (by decide), m5.A (by decide)]
    · rw [m7.A r10, m6.A (by decide), m5.A (by decide)]
    · rw [m7.A r11, m6.A (by decide), m5.A (by decide)]
  -- the end: the test goes out
  have out : ∀ (g7 : HP) (l : List Nat) (s v : Int) (j2 : Nat), Mo l g6 g7 → lsub l lcC = true → (l.contains 714 || l.contains 726 || l.contains 728 || l.contains 729 || l.contains 730 || l.contains 990 || l.contains 992 || l.contains 993 || l.contains 994 || l.contains 995 || l.contains 996) = false → MQt g7 b n j2 → 0 ≤ s → s ≤ 3 → 0 ≤ v → v ≤ 9999 → ∃ g', jX11_readTest_239 983 (i32 s) (i32 v) g7 = some g' ∧ Mo lcC g g' ∧ (∀ i : Nat, i < was → hA g' 990 i = hA g 990 i) ∧ MCs g' b n was j2 (S ++ [(tkv (tkn b n j), tks (tkn b n j), node, s, v)]) W (LL ++ [4 + (S.length : Int)]) := by
    intro g7 l s v j2 m7 ls ql Q7 s0 s3 v0 v9
    obtain ⟨k1, k2, k3, k4, k5, k6, k7, k8, k9, k10, k11⟩ := keep g7 l m7 ql
    obtain ⟨g8, e8, m8, a1, a2, a3⟩ := emits_s Q7.ms k1 (by omega) (by omega) (i32 (tcd 0 s v))
    unfold jX11_readTest_239
    simp only [test_s s0 s3 v0 v9, bn_s, Q7.ms.o, gd_tt, e8]
    have m68 : Mo lcC g6 g8 := (m7.w ls).t (m8.w (by decide))
    have sl : (was + LL.length : Int).toNat = was + LL.length := by omega
    refine ⟨g8, rfl, m06.t m68, fun i hi => ?_, Q7.mo m8 (by decide), ⟨?_, fun k x hk => ?_⟩, ⟨?_, fun i e he => ?_⟩, ⟨?_, fun k w hk => ?_⟩, (m8.I (by decide)).trans k4, (m8.I (by decide)).trans k5⟩
    · rw [a3 i (by omega), k6, q.A (by decide)]
    · rw [m8.I (by decide), k2]; simp
    · rw [m8.L (by decide), m8.A (by decide), m8.A (by decide), k7, k8, k9]
      rcases lstg_cases hk with hk | ⟨h1, hk⟩
      · exact p2.2 k x hk
      · have hk0 : k - S.length = 0 := by
          have := (List.getElem?_eq_some_iff.mp hk).1
          simp at this; omega
        have : k = S.length := by omega
        subst this
        rw [hk0] at hk
        simp at hk
        subst hk
        exact ⟨t1, t2, t3⟩
    · rw [a1, List.length_append]; congr 1
    · rcases lstg_cases he with he | ⟨h1, he⟩
      · have l := (List.getElem?_eq_some_iff.mp he).1
        exact PLi_S (p3.2 i e he) (by rw [a3 _ (by omega), k6]) (fun k _ => by rw [m8.A (by decide), k10])
      · have hk0 : i - LL.length = 0 := by
          have := (List.getElem?_eq_some_iff.mp he).1
          simp at this; omega
        have : i = LL.length := by omega
        subst this
        rw [hk0] at he
        simp at he
        subst he
        unfold PLi
        rw [if_pos (by omega)]
        have e4 : (4 + (S.length : Int) - 4).toNat = S.length := by omega
        rw [e4]
        refine ⟨(tkv (tkn b n j), tks (tkn b n j), node, s, v), by simp, ?_, ?_⟩
        · rw [← sl]; exact a2
        · rw [m8.A (by decide), k10, t4]; rfl
    · rw [m8.I (by decide)]; exact k3
    · rw [m8.A (by decide), k11]; exact p4.2 k w hk
  -- a number that is wrong
  have bad : ∀ (g7 : HP) (v : Int32) (s : Int32) (er : Int32), Mo (721 :: 706 :: lnN) g6 g7 → MS g7 → hI g7 721 983 = i32 0 → hI g7 706 983 = er → ∃ g', jX11_readTest_239 983 s v g7 = some g' ∧ Mo lcC g g' ∧ (∀ i : Nat, i < was → hA g' 990 i = hA g 990 i) ∧ MFs g' W (was + LL.length + 1) ∧ hI g' 706 983 = er ∧ hI g' 726 983 = i32 ((S.length : Int) + 1) := by
    intro g7 v s er m7 M7 z7 z8
    obtain ⟨k1, k2, k3, k4, k5, k6, k7, k8, k9, k10, k11⟩ := keep g7 _ m7 (by decide)
    have et : ∃ t, fX11_test (i32 0) s v g7 = some t := ⟨_, rfl⟩
    obtain ⟨t, et⟩ := et
    obtain ⟨g8, e8, m8, a1, a2, a3⟩ := emits_s M7 k1 (by omega) (by omega) t
    unfold jX11_readTest_239
    simp only [et, bn_s, M7.o, gd_tt, e8]
    refine ⟨g8, rfl, (m06.t (m7.w (by decide))).t (m8.w (by decide)), fun i hi => by rw [a3 i (by omega), k6, q.A (by decide)], ⟨m8.ms M7, (m8.I (by decide)).trans z7, ⟨(m8.I (by decide)).trans k3, fun k w hk => by rw [m8.A (by decide), k11]; exact p4.2 k w hk⟩, w6, a1, by omega, by omega⟩, (m8.I (by decide)).trans z8, (m8.I (by decide)).trans k2⟩
  unfold jX11_readTest_158
  simp only [p1.ms.o, gd_tt, e5, bn_s, Q5.ms.o, Q5.fn, i32_z, lt_e, h726, i32_add, ← e6, isHere_s n0 Q6 (show (13 : Int) < 61 by decide) (by decide), isHere_s n0 Q6 (show (13 : Int) < 60 by decide) (by decide), isHere_s n0 Q6 (show (13 : Int) < 62 by decide) (by decide)]
  rw [if_neg i32_1n0]
  have sgn_case : ∀ (s : Int), 1 ≤ s → s ≤ 3 → sg (tkk (tkn b n (j + 1))) = s → ∃ g', jX11_readTest_219 983 (i32 s) g6 = some g' ∧ Mo lcC g g' ∧ (∀ i : Nat, i < was → hA g' 990 i = hA g 990 i) ∧ (((pname (tkn b n) node j S).1 = true ∧ MCs g' b n was (pname (tkn b n) node j S).2.1 (pname (tkn b n) node j S).2.2.1 W (LL ++ (pname (tkn b n) node j S).2.2.2)) ∨ ((pname (tkn b n) node j S).1 = false ∧ MFs g' W (was + LL.length + 1) ∧ hI g' 706 983 = i32 (tS b n (pname (tkn b n) node j S).2.1) ∧ hI g' 726 983 = i32 ((S.length : Int) + 1))) := by
    intro s s1 s3 hs
    obtain ⟨g7, e7, m7, Q7⟩ := Q6.next n0 n1
    unfold jX11_readTest_219
    simp (disch := omega) only [i32_z, i32_eq, Q6.ms.o, gd_tt, e7, bn_s, Q7.ms.o]
    rw [if_neg (by omega)]
    have tv := tk_val (b := b) n0 (j + 2)
    have pe : pname (tkn b n) node j S = if tkk (tkn b n (j + 2)) = 3 then (true, j + 3, S ++ [(tkv (tkn b n j), tks (tkn b n j), node, s, tkv (tkn b n (j + 2)))], [4 + (S.length : Int)]) else (false, j + 2, S, []) := by
      unfold pname
      rw [if_neg (by omega), hs]
    rcases number_s n0 n1 Q7 (lo := 0) (hi := 9999) (by decide) (by decide) (by decide) (by decide) with ⟨c1, c2, c3, g8, e8, m8, Q8⟩ | ⟨c1, v, g8, e8, m8, f1, f2⟩
    · simp only [e8, bn2_s]
      rw [pe, if_pos c1]
      obtain ⟨g9, e9, x1, x2, x3⟩ := out g8 lnN s _ (j + 3) (m7.t m8) (by decide) (by decide) Q8 (by omega) s3 c2 c3
      exact ⟨g9, e9, x1, x2, Or.inl ⟨rfl, x3⟩⟩
    · simp only [e8, bn2_s]
      rw [pe, if_neg (fun z => c1 ⟨z, (tv.1 z).1, (tv.1 z).2⟩)]
      obtain ⟨g9, e9, x1, x2, x3, x4, x5⟩ := bad g8 v (i32 s) _ ((m7.w (by decide)).t (m8.w (by decide))) (m8.ms Q7.ms) f1 f2
      exact ⟨g9, e9, x1, x2, Or.inr ⟨rfl, x3, x4, x5⟩⟩
  by_cases d1 : tkk (tkn b n (j + 1)) = 61
  · rw [if_pos (by simp [d1])]; exact sgn_case 1 (by decide) (by decide) (by rw [d1]; rfl)
  rw [if_neg (by simp [d1])]
  by_cases d2 : tkk (tkn b n (j + 1)) = 60
  · rw [if_pos (by simp [d2])]; exact sgn_case 2 (by decide) (by decide) (by rw [d2]; rfl)
  rw [if_neg (by simp [d2])]
  by_cases d3 : tkk (tkn b n (j + 1)) = 62
  · rw [if_pos (by simp [d3])]; exact sgn_case 3 (by decide) (by decide) (by rw [d3]; rfl)
  rw [if_neg (by simp [d3])]
  have s0 : sg (tkk (tkn b n (j + 1))) = 0 := by unfold sg; rw [if_neg d1, if_neg d2, if_neg d3]
  unfold jX11_readTest_219
  rw [if_pos (by rfl)]
  have pe : pname (tkn b n) node j S = (true, j + 1, S ++ [(tkv (tkn b n j), tks (tkn b n j), node, 0, 0)], [4 + (S.length : Int)]) := by
    unfold pname; rw [if_pos s0]
  rw [pe]
  obtain ⟨g9, e9, x1, x2, x3⟩ := out g6 [] 0 0 (j + 1) Mo.r (by decide) (by decide) Q6 (by decide) (by decide) (by decide) (by decide)
  exact ⟨g9, e9, x1, x2, Or.inl ⟨rfl, x3⟩⟩
end
