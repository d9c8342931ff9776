/-! SETCONDITION -/
section
variable {h g : HP} {b : Int → Int} {np T k : Nat} {F : Int → Int} {n : Int} {was : Nat}
theorem mpc {node : Int} (n0 : 0 ≤ n) (n1 : n ≤ 1200) (M : MN g b n 0 F [] [] was) (wb : (was : Int) ≤ 10300) (h0 : 0 ≤ node) (h1 : node < 32) (tr : TR F) (sg : SGT F) : ∃ g', fX11_readCondition 983 (i32 node) g = some g' ∧ FrM was g g' ∧ ((pcd (tkn b n) was node 0 F [] []).1 = true → MN g' b n (pcd (tkn b n) was node 0 F [] []).2.1 (pcd (tkn b n) was node 0 F [] []).2.2.1 (pcd (tkn b n) was node 0 F [] []).2.2.2.1 (pcd (tkn b n) was node 0 F [] []).2.2.2.2 was) ∧ ((pcd (tkn b n) was node 0 F [] []).1 = false → BdM g' (tks (tkn b n (pcd (tkn b n) was node 0 F [] []).2.1)) was) := by
  have s0 := tS_n (b := b) n0 0
  obtain ⟨r1, r2⟩ := readCond_s n0 n1 h0 h1 M.1 M.2.1 M.2.2.1 ⟨wb, by omega, by simp; omega, by simp⟩
  have ap := ap_dis (b := b) n0 (ow := node) 6 0 []
  change AP b n 0 [] (pcond (tkn b n) node 0 []) at ap
  unfold pcd
  generalize pcond (tkn b n) node 0 [] = PD at *
  cases ok : PD.1 with
  | true =>
    obtain ⟨gf, x1, x2, x3, x4, x5, x6, x7⟩ := r1 ok
    refine ⟨gf, x1, ⟨x2.w (by decide), x7, fun k hk => by rw [x6 k (by omega), if_neg (by omega), if_neg (by omega)]⟩, fun _ => ⟨x3, x4, x5, fun k hk => ?_⟩, fun z => (by cases z)⟩
    rw [x6 k hk]
    show _ = updI (updI F (192 + node) (was + ([] : List Int).length)) (224 + node) PD.2.2.2.length k
    unfold updI
    by_cases c1 : k = 224 + node
    · rw [if_neg (by omega), if_pos c1, if_pos c1]
    · rw [if_neg c1, if_neg c1]
      by_cases c2 : k = 192 + node
      · rw [if_pos c2, if_pos c2]
      · rw [if_neg c2, if_neg c2]; exact M.2.2.2 k hk
  | false =>
    obtain ⟨gf, x1, x2, x3, x4, ⟨s, x5, x6⟩, ⟨p', y1, y2, y3, y4⟩, x7⟩ := r2 ok
    have y2' : (was : Int) ≤ p' := by have : (([] : List Int).length : Int) = 0 := rfl; omega
    refine ⟨gf, x1, ⟨x2.w (by decide), x7, fun k hk => by rw [y4 k (by omega), if_neg (by omega), if_neg (by omega)]⟩, fun z => (by cases z), fun _ => ⟨x2.ms M.1.ms, x3, x4, ⟨s, x5, x6⟩, ⟨p', y1, y2', y3⟩, ?_, ?_⟩⟩
    · refine TR_E (F := F) ⟨fun m a c => ?_, ?_, fun i i0 i1 => ?_⟩ tr
      · rw [y4 m a, if_neg (by omega), if_neg (by omega)]; exact M.2.2.2 m a
      · rw [y4 288 (by omega), if_neg (by omega), if_neg (by omega)]; exact M.2.2.2 288 (by omega)
      · rw [y4 (256 + i) (by omega), if_neg (by omega), if_neg (by omega)]; exact M.2.2.2 (256 + i) (by omega)
    · intro m a c d
      rw [y4 m a, if_neg (by omega), if_neg (by omega), M.2.2.2 m a] at d
      have l0 : (([] : List Int).length : Int) = 0 := rfl
      unfold SG
      rw [y4 (192 + m) (by omega), y4 (224 + m) (by omega)]
      by_cases q : m = node
      · rw [if_pos (by omega), if_neg (by omega), if_pos (by omega)]
        omega
      · rw [if_neg (by omega), if_neg (by omega), if_neg (by omega), if_neg (by omega), M.2.2.2 _ (by omega), M.2.2.2 _ (by omega)]
        exact sg m a c d
/-- the model sets a condition, up to its end -/
theorem msetc {node : Int} (M : MS g) (h705 : hI g 705 983 = i32 T) (h714 : hI g 714 983 = i32 np) (tb : TB g 984 b T) (T1 : T ≤ 1200) (n24 : N24 g) (wb : np ≤ 10300) (fw : FWf (Wm g) (sgm (Pt g) (Wm g)) np) (h0 : 0 ≤ node) (h1 : node < 32) (npr : Wm g node ≠ -1) : ∃ g5, (fX11_setCondition 983 (i32 node) g = if hI g5 721 983 = 0 then (bn (fX11_takesMade 983 g5) fun h121 => gd (isO h121 983 11) <| lt (sI h121 714 983 (i32 np)) fun h123 => some ((i32 (-1)), h123)) else bn (fX11_swaps 983 g5) fun h110 => gd (isO h110 983 11) <| bn (fX11_keeps 983 h110) fun h113 => gd (isO h113 983 11) <| bn (fX11_takesMade 983 h113) fun h116 => gd (isO h116 983 11) <| bn (fX11_tests 983 (i32 0) (i32 node) h116) fun v119 => some (v119, h116)) ∧ Mo LI g g5 ∧ N24 g5 ∧ (∀ i : Nat, i < np → hA g5 990 i = hA g 990 i) ∧ (∀ i : Nat, 292 ≤ i → hL g5 987 i = hL g 987 i) ∧ (∀ i, i < 292 → hL g5 988 i = hL g 987 i) ∧ hI g5 705 983 = i32 0 ∧ (∀ e, perr (tkn b T) (R0 (sgm (Pt g) (Wm g)) (oldC (Wm g) node)) (pset (tkn b T) np node (setc (Wm g) node 0 0)) = some e → hI g5 721 983 = i32 0 ∧ hI g5 706 983 = i32 e) ∧ (perr (tkn b T) (R0 (sgm (Pt g) (Wm g)) (oldC (Wm g) node)) (pset (tkn b T) np node (setc (Wm g) node 0 0)) = none → hI g5 721 983 = i32 1 ∧ hI g5 706 983 = i32 (-2) ∧ Enn (Wm g5) (pset (tkn b T) np node (setc (Wm g) node 0 0)).2.2.1 ∧ hI g5 714 983 = i32 (np + (pset (tkn b T) np node (setc (Wm g) node 0 0)).2.2.2.2.length) ∧ ∀ m, 0 ≤ m → m < 32 → (pset (tkn b T) np node (setc (Wm g) node 0 0)).2.2.1 m ≠ -1 → sgm (Pt g5) (pset (tkn b T) np node (setc (Wm g) node 0 0)).2.2.1 m = Cnw (pset (tkn b T) np node (setc (Wm g) node 0 0)).2.2.1 (pset (tkn b T) np node (setc (Wm g) node 0 0)).2.2.2.1 (pset (tkn b T) np node (setc (Wm g) node 0 0)).2.2.2.2 np (sgm (Pt g) (Wm g)) (oldC (Wm g) node) m) := by
  obtain ⟨F, eF⟩ : ∃ F, F = Wm g := ⟨_, rfl⟩
  obtain ⟨C0, eC⟩ : ∃ C0, C0 = sgm (Pt g) F := ⟨_, rfl⟩
  rw [← eF] at fw npr ⊢
  rw [← eC] at fw ⊢
  obtain ⟨Fb, eFb⟩ : ∃ Fb, Fb = setc F node 0 0 := ⟨_, rfl⟩
  rw [← eFb]
  have n0 : (0 : Int) ≤ (T : Int) := by omega
  have n1 : (T : Int) ≤ 1200 := by omega
  have t := fw.1
  have lo : ∀ x, (x < 192 ∨ 256 ≤ x) → Fb x = F x := fun x hx => by rw [eFb]; exact setc_lo h0 h1 hx
  have zb : Fb (192 + node) = 0 ∧ Fb (224 + node) = 0 := by rw [eFb]; exact setc_Z h0 h1
  have ot : ∀ m, m ≠ node → 0 ≤ m → m < 32 → Fb (192 + m) = F (192 + m) ∧ Fb (224 + m) = F (224 + m) := fun m q m0 m1 => by rw [eFb]; exact setc_oth q m0 m1 h0 h1
  obtain ⟨tb', kb⟩ := setc_TF (fr := 0) (sz := 0) h0 h1 t fw.2.1
  rw [← eFb] at tb' kb
  have sj : ∀ m, 0 ≤ m → m < 32 → Fb m ≠ -1 → 0 ≤ Fb (192 + m) ∧ 0 ≤ Fb (224 + m) ∧ Fb (192 + m) + Fb (224 + m) ≤ np := fun m m0 m1 mp => by
    rw [lo m (by omega)] at mp
    by_cases q : m = node
    · rw [q, zb.1, zb.2]; omega
    · rw [(ot m q m0 m1).1, (ot m q m0 m1).2]; have := fw.2.2.2.2 m m0 m1 mp; omega
  have sgt : SGT Fb := fun m m0 m1 mp => by
    have := sj m m0 m1 mp
    exact ⟨this.1, this.2.1, by omega⟩
  have oe : oldC Fb node = oldC F node := by
    funext m; unfold oldC
    rw [decide_eq_decide]
    constructor
    · rintro ⟨⟨a, c, d⟩, e⟩; exact ⟨⟨a, c, by rw [← lo m (by omega)]; exact d⟩, e⟩
    · rintro ⟨⟨a, c, d⟩, e⟩; exact ⟨⟨a, c, by rw [lo m (by omega)]; exact d⟩, e⟩
  obtain ⟨g1, a1, q1, M1, a990, L7, l8⟩ := mstart M h705 h714 tb n0 n1
  rw [← eF] at M1
  have m1 := M1.1.ms
  obtain ⟨ga, ea⟩ : ∃ ga, ga = sL g1 987 (192 + node).toNat (i64 0) := ⟨_, rfl⟩
  obtain ⟨g2, e2⟩ : ∃ g2, g2 = sL ga 987 (224 + node).toNat (i64 0) := ⟨_, rfl⟩
  have qa : Mo [987] g1 ga := by rw [ea]; exact Mo_L (by decide) _ _
  have q2 : Mo [987] g1 g2 := qa.t (by rw [e2]; exact Mo_L (by decide) _ _)
  have ma := qa.ms m1
  have m2 := q2.ms m1
  have W2 : ∀ q, 0 ≤ q → Wm g2 q = Fb q := fun q q0 => by
    rw [e2, Wm_set, ea, Wm_set, eFb]
    unfold setc updI
    by_cases c1 : q = 224 + node
    · rw [if_pos (by rw [c1]), if_pos c1, i64_toInt (by omega) (by omega)]
    · rw [if_neg (by omega), if_neg c1]
      by_cases c2 : q = 192 + node
      · rw [if_pos (by rw [c2]), if_pos c2, i64_toInt (by omega) (by omega)]
      · rw [if_neg (by omega), if_neg c2, M1.2.2.2 q q0]
  have M2 : MN g2 b T 0 Fb [] [] np := M1.w W2 q2 (Or.inl rfl)
  have tv := tk_val (b := b) n0 0
  have kd0 : hI g2 718 983 = i32 (mkk (tkk (tkn b T 0))) := M2.1.kd
  have mk := mkk_rng (tkk (tkn b T 0))
  have hk : (hI g2 718 983 = 0) = (tkk (tkn b T 0) = 0) := by rw [kd0, i32_z, i32_eq (by omega) (by omega) (by omega) (by omega)]; exact propext mkk_0
  -- up to the end of reading
  obtain ⟨g3, e3, f3, z3, z4⟩ : ∃ g3, (if hI g2 718 983 = 0 then jX11_setCondition_53 983 (i32 node) (i32 np) g2 else bn (fX11_readCondition 983 (i32 node) g2) fun h19 => jX11_setCondition_53 983 (i32 node) (i32 np) h19) = (bn (fX11_resolves 983 g3) fun h106 => gd (isO h106 983 11) <| lt (sI h106 705 983 (i32 0)) fun h108 => if (hI h108 721 983) = 0 then (bn (fX11_takesMade 983 h108) fun h121 => gd (isO h121 983 11) <| lt (sI h121 714 983 (i32 np)) fun h123 => some ((i32 (-1)), h123)) else bn (fX11_swaps 983 h108) fun h110 => gd (isO h110 983 11) <| bn (fX11_keeps 983 h110) fun h113 => gd (isO h113 983 11) <| bn (fX11_takesMade 983 h113) fun h116 => gd (isO h116 983 11) <| bn (fX11_tests 983 (i32 0) (i32 node) h116) fun v119 => some (v119, h116)) ∧ FrM np g2 g3 ∧ ((pset (tkn b T) np node Fb).1 = true → MN g3 b T (pset (tkn b T) np node Fb).2.1 (pset (tkn b T) np node Fb).2.2.1 (pset (tkn b T) np node Fb).2.2.2.1 (pset (tkn b T) np node Fb).2.2.2.2 np) ∧ ((pset (tkn b T) np node Fb).1 = false → BdM g3 (tks (tkn b T (pset (tkn b T) np node Fb).2.1)) np) := by
    have j66 : ∀ (g' g'' : HP) (c : Bool), MS g' → MS g'' → fX11_takes1 983 c g' = some g'' → jX11_setCondition_66 983 (i32 node) (i32 np) c 983 g' = (bn (fX11_resolves 983 g'') fun h106 => gd (isO h106 983 11) <| lt (sI h106 705 983 (i32 0)) fun h108 => if (hI h108 721 983) = 0 then (bn (fX11_takesMade 983 h108) fun h121 => gd (isO h121 983 11) <| lt (sI h121 714 983 (i32 np)) fun h123 => some ((i32 (-1)), h123)) else bn (fX11_swaps 983 h108) fun h110 => gd (isO h110 983 11) <| bn (fX11_keeps 983 h110) fun h113 => gd (isO h113 983 11) <| bn (fX11_takesMade 983 h113) fun h116 => gd (isO h116 983 11) <| bn (fX11_tests 983 (i32 0) (i32 node) h116) fun v119 => some (v119, h116)) := fun g' g'' c m' m'' e' => by
      unfold jX11_setCondition_66
      rw [m'.o, gd_tt, e', bn_s, m''.o, gd_tt]
    unfold pset
    by_cases kz : tkk (tkn b T 0) = 0
    · rw [if_pos (by rw [hk]; exact kz), if_pos kz]
      refine ⟨g2, ?_, FrM.r, fun _ => M2, fun z => by cases z⟩
      unfold jX11_setCondition_53
      rw [m2.o, gd_tt, if_pos (by rw [hk]; exact kz)]
      exact j66 g2 g2 true m2 m2 (takes1_t m2)
    · rw [if_neg (by rw [hk]; exact kz), if_neg kz]
      obtain ⟨g3, r1, r2, r3, r4⟩ := mpc n0 n1 M2 (by omega) h0 h1 tb'.1 sgt
      have m3 := r2.1.ms m2
      rw [r1, bn_s]
      obtain ⟨Z, eZ⟩ : ∃ Z, Z = pcd (tkn b (T : Int)) np node 0 Fb [] [] := ⟨_, rfl⟩
      have zinv := fun ok => pset_inv (b := b) (F := Fb) (was := np) n0 n1 h0 h1 tb' kb (by rw [lo node (by omega)]; exact npr) zb.1 zb.2 sj ok
      unfold pset at zinv
      rw [if_neg kz] at zinv
      rw [← eZ] at r3 r4 zinv ⊢
      by_cases okZ : Z.1 = true
      rotate_left
      · rw [if_neg okZ]
        have okF : Z.1 = false := by cases y : Z.1 with
          | true => exact absurd y okZ
          | false => rfl
        have B := r4 okF
        refine ⟨g3, ?_, r2, fun z => absurd z okZ, fun _ => B⟩
        unfold jX11_setCondition_53
        rw [m3.o, gd_tt]
        by_cases y : hI g3 718 983 = 0
        · rw [if_pos y]; exact j66 g3 g3 true m3 m3 (takes1_z m3 B.2.1 _)
        · rw [if_neg y]; exact j66 g3 g3 false m3 m3 (takes1_z m3 B.2.1 _)
      rw [if_pos okZ] at zinv ⊢
      have M3 := r3 okZ
      have mk3 := mkk_rng (tkk (tkn b T Z.2.1))
      have hk3 : (hI g3 718 983 = 0) = (tkk (tkn b T Z.2.1) = 0) := by rw [M3.1.kd, i32_z, i32_eq (by omega) (by omega) (by omega) (by omega)]; exact propext mkk_0
      by_cases ke : tkk (tkn b T Z.2.1) = 0
      · refine ⟨g3, ?_, r2, fun _ => M3, fun z => ?_⟩
        · unfold jX11_setCondition_53
          rw [m3.o, gd_tt, if_pos (by rw [hk3]; exact ke)]
          exact j66 g3 g3 true m3 m3 (takes1_t m3)
        · change decide (tkk (tkn b T Z.2.1) = 0) = false at z
          rw [decide_eq_true ke] at z; cases z
      · obtain ⟨g4, s1, s2, s3, s4⟩ := takes1_f M3.1
        have bd : ∃ N, BdM g4 (tks (tkn b T Z.2.1)) np ∧ N = 0 := by
          -- the lengths, from the condition alone
          have ap := ap_dis (b := b) n0 (ow := node) 6 0 []
          change AP b T 0 [] (pcond (tkn b T) node 0 []) at ap
          have ap5 := ap5_dis (b := b) n0 (ow := node) 6 0 []
          change AQ5 b T 0 (pcond (tkn b T) node 0 []) at ap5
          have okZ' := okZ
          have eZ' := eZ
          unfold pcd at eZ'
          cases okP : (pcond (tkn b T) node 0 []).1 with
          | false => simp only [okP] at eZ'; rw [eZ'] at okZ'; cases okZ'
          | true =>
            simp only [okP, List.nil_append] at eZ'
            obtain ⟨⟨x1, x2⟩, x3, -, x4, x5, x6, x7, x8, x9⟩ := ap okP
            have x10 := ap5 okP 0 0 (Or.inl rfl) (Or.inl rfl)
            have sn := tS_n (b := b) n0 (pcond (tkn b T) node 0 []).2.1
            have s0 := tS_n (b := b) n0 0
            have x3' := x3 (by omega)
            simp only [List.length_nil] at x6 x8
            have lenS : Z.2.2.2.1.length ≤ 400 ∧ Z.2.2.2.2.length ≤ 480 := by
              rw [eZ']
              exact ⟨by show (pcond (tkn b T) node 0 []).2.2.1.length ≤ 400; omega, by show (pcond (tkn b T) node 0 []).2.2.2.length ≤ 480; omega⟩
            have F4 : Z.2.2.1 = setc Fb node (np + ([] : List Int).length) (pcond (tkn b T) node 0 []).2.2.2.length := by rw [eZ']
            have trZ : TR Z.2.2.1 := by rw [F4]; exact setc_T h0 h1 tb'.1
            have sgZ : SGT Z.2.2.1 := by
              rw [F4]
              refine setc_S h0 h1 sgt ?_ ?_ ?_
              · have : (([] : List Int).length : Int) = 0 := rfl
                omega
              · omega
              · have : (([] : List Int).length : Int) = 0 := rfl
                omega
            exact ⟨0, bad_of M3 (by omega) lenS trZ sgZ s2 rfl s3 s4, rfl⟩
        obtain ⟨_, bd, _⟩ := bd
        refine ⟨g4, ?_, r2.t ⟨s2.w (by decide), fun i _ => by rw [s2.A (by decide)], fun q _ => by
          unfold Wm; rw [s2.L (by decide)]⟩, fun z => ?_, fun _ => bd⟩
        · unfold jX11_setCondition_53
          rw [m3.o, gd_tt, if_neg (by rw [hk3]; exact ke)]
          exact j66 g3 g4 false m3 (s2.ms m3) s1
        · change decide (tkk (tkn b T Z.2.1) = 0) = true at z
          exact absurd (of_decide_eq_true z) ke
  have zN := fun ok => pset_inv (b := b) (F := Fb) (was := np) n0 n1 h0 h1 tb' kb (by rw [lo node (by omega)]; exact npr) zb.1 zb.2 sj ok
  obtain ⟨Z, eZ⟩ : ∃ Z, Z = pset (tkn b (T : Int)) np node Fb := ⟨_, rfl⟩
  rw [← eZ] at z3 z4 zN ⊢
  rw [oe] at zN
  have q13 : Mo (988 :: LM) g g3 := ((q1.w (by decide)).t (q2.w (by decide))).t (f3.1.w (by decide))
  obtain ⟨g4, a4, fr, q4, n4, p4, w1, w2⟩ := mflow (n := T) (by omega) (C0 := C0) (old := oldC F node) (Fb := Fb) (n24.mo q13 (by decide) (by decide)) ⟨f3, z3, z4⟩ (fun ok => ⟨(zN ok).1, (zN ok).2.1⟩) (fun m hm => by
    obtain ⟨⟨m0, m1, mp⟩, mn⟩ := oldC_t.mp hm
    rw [(ot m mn m0 m1).1, (ot m mn m0 m1).2]
    have := fw.2.2.2.2 m m0 m1 mp
    omega) (fun m hm => by
    obtain ⟨⟨m0, m1, mp⟩, mn⟩ := oldC_t.mp hm
    have e : Pt g2 = Pt g := by funext q; unfold Pt; rw [q2.A (by decide), a990]
    rw [e, eC]
    exact (sgm_E (ot m mn m0 m1).1 (ot m mn m0 m1).2).symm) (fun m hm t' ht => by
    obtain ⟨⟨m0, m1, mp⟩, mn⟩ := oldC_t.mp hm
    rcases fw.2.2.1 m m0 m1 mp t' ht with ⟨f, s, v, x1, x2, x3, r⟩ | r
    · exact Or.inl ⟨f, s, v, x1, x2, by rw [lo f (by omega)]; exact x3, r⟩
    · exact Or.inr r) (fun m m0 m1 _ ok _ => by rw [(zN ok).2.2.1 m (by omega)])
  have q14 : Mo LI g g4 := (q13.w (by decide)).t (q4.w (by decide))
  obtain ⟨g5, e5⟩ : ∃ g5, g5 = sI g4 705 983 (i32 0) := ⟨_, rfl⟩
  have q5 : Mo [705] g4 g5 := by rw [e5]; exact Mo_I (by decide) _
  have q15 : Mo LI g g5 := q14.t (q5.w (by decide))
  have m3 := q13.ms M
  have m4 := q14.ms M
  have eW5 : Wm g5 = Wm g4 := by funext j; unfold Wm; rw [q5.L (by decide)]
  refine ⟨g5, ?_, q15, n4.mo q5 (by decide) (by decide), fun i hi => ?_, fun i hi => ?_, fun i hi => ?_, by rw [e5, rII, if_pos ⟨rfl, rfl⟩], fun e he => ?_, fun he => ?_⟩
  · unfold fX11_setCondition
    have i714 : hI g1 714 983 = i32 np := by
      rw [M1.pool]
      show i32 ((np : Int) + 0) = _
      rw [Int.add_zero]
    rw [M.o, gd_tt, mIsNode M (by omega) (by omega), ← eF, bn_s, decide_eq_true ⟨h0, h1, npr⟩, if_pos rfl, a1, bn_s, m1.o, gd_tt, i714, lt_e, m1.r_world, oc_s, m1.o_world, gd_tt, m1.n_world, i32_add, i32_inb (by omega) (by omega) (by omega), gd_tt, i32_cn (by omega) (by omega), ← ea, lt_e, ma.r_world, oc_s, ma.o_world, gd_tt, ma.n_world, i32_add, i32_inb (by omega) (by omega) (by omega), gd_tt, i32_cn (by omega) (by omega), ← e2, lt_e, e3, a4, bn_s, m4.o, gd_tt, ← e5, lt_e]
  · rw [q5.A (by decide), p4 i hi, q2.A (by decide), a990]
  · have e : Wm g5 (i : Int) = Wm g (i : Int) := by
      have e4 : Wm g4 = Wm g3 := by funext j; unfold Wm; rw [q4.L (by decide)]
      rw [eW5, e4, fr.2.2 _ (by omega), W2 _ (by omega), lo _ (by omega), eF]
    exact hL_W e
  · rw [q5.L (by decide), q4.L (by decide), f3.1.L (by decide), q2.L (by decide)]; exact l8 i hi
  · obtain ⟨x1, x2⟩ := w1 e he
    exact ⟨by rw [q5.I (by decide)]; exact x1, by rw [q5.I (by decide)]; exact x2⟩
  · obtain ⟨x1, x2, x3, x4, x5⟩ := w2 he
    have x3' : Enn (Wm g5) Z.2.2.1 := by rw [eW5]; exact x3
    refine ⟨by rw [q5.I (by decide)]; exact x1, by rw [q5.I (by decide)]; exact x2, x3', by rw [q5.I (by decide)]; exact x4, fun m m0 m1 mp => ?_⟩
    have e : Pt g5 = Pt g4 := by funext q; unfold Pt; rw [q5.A (by decide)]
    rw [e]; exact x5 m m0 m1 mp
end

