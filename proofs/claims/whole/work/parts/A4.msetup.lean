/-! THE SETUP TEXT, BY THE MODEL -/
section
variable {h g : HP} {a np : Nat} {F : Int → Int} {w : Int} {T : List Int} {k : Nat}
theorem mifT (M : MS h) (x : FRx h a F np) (eW : Wm h = F) (hnp : np ≤ 11000) (wo : wok w) {n : Int} (n0 : 0 ≤ n) (n1 : n < 32) (pn : F n ≠ -1) (q : Mo L9 h g) (W : WM g w T 1000000) (l : T.length ≤ 450000) : ∃ g', fX11_saysIf 983 (i32 n) g = some g' ∧ Mo L9 h g' ∧ WM g' w (T ++ ifT F (sgm (Pt h) F n)) 1000000 := by
  have Mg := q.ms M
  have eWg : Wm g = F := by rw [← eW]; funext j; unfold Wm; rw [q.L (by decide)]
  have sg := x.sg n n0 n1 pn
  have s6 := x.s6 n0 n1 pn
  have sl : (sgm (Pt h) F n).length = (F (224 + n)).toNat := by unfold sgm; rw [List.length_map, List.length_range]
  have of1 : fX11_of 983 (i32 0) (i32 224) (i32 n) g = some (i32 (F (224 + n))) := by rw [of_s Mg (by omega) (by omega), Fm0, eWg]
  unfold fX11_saysIf ifT
  rw [Mg.o, gd_tt, of1, bn_s]
  rcases (x.cd n0 n1 pn).1 with ⟨c1, c2⟩ | ⟨c1, t, c2, c3⟩
  · rw [c1, List.length_nil] at sl
    rw [if_pos (by rw [i32_z, i32_le (by omega) (by omega) (by omega) (by omega)]; omega), if_pos c1, List.append_nil]
    exact ⟨g, rfl, q, W⟩
  · have sp : 1 ≤ (sgm (Pt h) F n).length := IsT_ne c3
    rw [if_neg (by rw [i32_z, i32_le (by omega) (by omega) (by omega) (by omega)]; omega), if_neg c1]
    obtain ⟨g1, a1, a2, a3⟩ := msay1 Mg W wo (by omega) 32
    have M1 := a2.ms Mg
    obtain ⟨g2, b1, b2, b3⟩ := mword1 M1 a3 wo (nm := 294) (by omega) (by omega) (by rw [List.length_append, List.length_singleton]; omega)
    have M2 := b2.ms M1
    have q2 := q.t ((a2.w l89).t (b2.w l89))
    have eW2 : Wm g2 = F := by rw [← eW]; funext j; unfold Wm; rw [q2.L (by decide)]
    have l8 := nm8 294
    obtain ⟨g3, c1', c2', c3'⟩ := msaysCond M2 eW2 x.nm wo n0 n1 (L := sgm (Pt h) F n) (fr := (F (192 + n)).toNat) (by omega) (by omega) (by omega) (by omega) (GLt_of 15 1008 (hsz h) t _ c3) (fun j y e => by
      unfold sgm at e
      rw [List.getElem?_map] at e
      obtain ⟨i, hi, ey⟩ := Option.map_eq_some_iff.mp e
      obtain ⟨i1, i2⟩ := List.getElem?_eq_some_iff.mp hi
      rw [List.getElem_range] at i2
      rw [q2.A (by decide), ← ey, ← i2]
      unfold Pt
      congr 1
      omega) (x.tk n n0 n1 pn) b3 (by simp only [List.length_append, List.length_singleton]; omega)
    refine ⟨g3, ?_, q2.t c2', ?_⟩
    · rw [a1, bn_s, M1.o, gd_tt, b1, bn_s, M2.o, gd_tt, c1', bn_s]
    · rw [List.append_assoc, List.append_assoc] at c3'
      rw [show ((32 :: nmT 294) ++ (txc F (sgm (Pt h) F n)).1) = [32] ++ (nmT 294 ++ (txc F (sgm (Pt h) F n)).1) from rfl]
      exact c3'
theorem mboth (M : MS g) (W : WM g w T 1000000) (wo : wok w) {nm v : Int} (n0 : 0 < nm) (n1 : nm < 1099511627776) (v0 : 0 ≤ v) (v1 : v ≤ 9999) (l : T.length + 20 ≤ 1000000) : ∃ g', fX11_saysBoth 983 (i64 nm) (i32 v) g = some g' ∧ Mo L8 g g' ∧ WM g' w (T ++ (nmT nm ++ (32 :: dgT v))) 1000000 := by
  have l8 := nm8 nm
  obtain ⟨g1, a1, a2, a3⟩ := mword1 M W wo n0 n1 (by omega)
  have M1 := a2.ms M
  obtain ⟨g2, b1, b2, b3⟩ := msay1 M1 a3 wo (by rw [List.length_append]; omega) 32
  have M2 := b2.ms M1
  obtain ⟨g3, c1, c2, c3⟩ := mnum1 M2 b3 wo v0 v1 (by simp only [List.length_append, List.length_singleton]; omega)
  refine ⟨g3, ?_, a2.t (b2.t c2), ?_⟩
  · unfold fX11_saysBoth
    rw [M.o, gd_tt, a1, bn_s, M1.o, gd_tt, b1, bn_s, M2.o, gd_tt, c1, bn_s]
  · rw [List.append_assoc, List.append_assoc] at c3
    exact c3
theorem mnameT (M : MS g) (eW : Wm g = F) (W : WM g w T 1000000) (wo : wok w) {n : Int} (n0 : 0 ≤ n) (n1 : n < 32) (nv : NV (F (32 + n))) (l : T.length + 20 ≤ 1000000) : ∃ g1 g2, fX11_says 983 (i32 32) g = some g1 ∧ MS g1 ∧ hL g1 987 (32 + n).toNat = i64 (F (32 + n)) ∧ fX11_saysWord 983 (i64 (F (32 + n))) g1 = some g2 ∧ MS g2 ∧ Mo L8 g g2 ∧ WM g2 w (T ++ (32 :: nmT (F (32 + n)))) 1000000 := by
  obtain ⟨g1, a1, a2, a3⟩ := msay1 M W wo (by omega) 32
  have M1 := a2.ms M
  have eW1 : Wm g1 = F := by rw [← eW]; funext j; unfold Wm; rw [a2.L (by decide)]
  obtain ⟨g2, b1, b2, b3⟩ := mword1 M1 a3 wo nv.1 nv.2.1 (by rw [List.length_append, List.length_singleton]; omega)
  refine ⟨g1, g2, a1, M1, by rw [Wm_e, eW1], b1, b2.ms M1, a2.t b2, ?_⟩
  rw [List.append_assoc] at b3
  exact b3
/-- a field -/
theorem mfieldT (M : MS h) (x : FRx h a F np) (eW : Wm h = F) (hnp : np ≤ 11000) (wo : wok w) {n : Int} (n0 : 0 ≤ n) (n1 : n < 24) (pn : F n ≠ -1) (q : Mo L9 h g) (W : WM g w T 1000000) (l : T.length ≤ 400000) : ∃ g', fX11_saysField 983 (i32 n) g = some g' ∧ Mo L9 h g' ∧ WM g' w (T ++ ndT F (fun n => sgm (Pt h) F n) n) 1000000 := by
  have Mg := q.ms M
  have eWg : ∀ {g'}, Mo L9 h g' → Wm g' = F := fun q' => by rw [← eW]; funext j; unfold Wm; rw [q'.L (by decide)]
  have ofx : ∀ {g'} (v : Int), Mo L9 h g' → 0 ≤ v → v ≤ 2000 → fX11_of 983 (i32 0) (i32 v) (i32 n) g' = some (i32 (F (v + n))) := fun v q' a b => by rw [of_s (q'.ms M) (by omega) (by omega), Fm0, eWg q']
  have kf := (x.kd n n0 (by omega) pn).1 n1
  have nv := x.nm.1 n n0 (by omega) pn
  have pl := prT_len (F := F) n
  -- behind the kind
  have e83 : ∀ (g1 : HP), Mo L9 h g1 → WM g1 w (T ++ prT F n) 1000000 → ∃ g', jX11_saysField_83 983 (i32 n) g1 = some g' ∧ Mo L9 h g' ∧ WM g' w (T ++ ndT F (fun n => sgm (Pt h) F n) n) 1000000 := fun g1 q1 W1 => by
    have M1 := q1.ms M
    obtain ⟨g2, g3, b1, M2, b2, b3, M3, b4, b5⟩ := mnameT M1 (eWg q1) W1 wo n0 (by omega) nv (by rw [List.length_append]; omega)
    have q3 := q1.t (b4.w l89)
    have l8 := nm8 (F (32 + n))
    obtain ⟨g4, c1, c2, c3⟩ := msay1 M3 b5 wo (by simp only [List.length_append, List.length_cons]; omega) 32
    have q4 := q3.t (c2.w l89)
    have M4 := q4.ms M
    obtain ⟨g5, d1, d2, d3⟩ := mboth M4 c3 wo (nm := 24416904) (v := F (160 + n)) (by omega) (by omega) (by omega) (by omega) (by simp only [List.length_append, List.length_cons, List.length_nil]; omega)
    have q5 := q4.t (d2.w l89)
    have M5 := q5.ms M
    have l9 := nm8 24416904
    have l10 := dg4 (F (160 + n))
    obtain ⟨g6, e1, e2, e3⟩ := mifT M x eW hnp wo n0 (by omega) pn q5 d3 (by simp only [List.length_append, List.length_cons, List.length_nil]; omega)
    have M6 := e2.ms M
    have s6 := x.s6 n0 (by omega) pn
    have sl : (sgm (Pt h) F n).length = (F (224 + n)).toNat := by unfold sgm; rw [List.length_map, List.length_range]
    have il : (ifT F (sgm (Pt h) F n)).length ≤ 9610 := by
      unfold ifT
      have l11 := nm8 294
      rcases (x.cd n0 (by omega) pn).1 with ⟨z, _⟩ | ⟨z, t', _, z'⟩
      · rw [if_pos z]; simp
      · rw [if_neg z]
        have tl := txc_len (F := F) (IsT_txc lfM_tT 15 _ _ _ _ z').1
        simp only [List.length_append, List.length_cons]
        omega
    obtain ⟨g7, f1, f2, f3⟩ := msay1 M6 e3 wo (by simp only [List.length_append, List.length_cons, List.length_nil]; omega) 59
    refine ⟨g7, ?_, e2.t (f2.w l89), ?_⟩
    · unfold jX11_saysField_83
      rw [M1.o, gd_tt, b1, bn_s, M2.o, gd_tt, M2.r_world, oc_s, M2.o_world, gd_tt, M2.n_world, i32_add, i32_inb (by omega) (by omega) (by omega), gd_tt, i32_cn (by omega) (by omega), b2, b3, bn_s, M3.o, gd_tt, c1, bn_s, M4.o, gd_tt, ofx 160 q4 (by omega) (by omega), bn_s, d1, bn_s, M5.o, gd_tt, e1, bn_s, M6.o, gd_tt, f1, bn_s]
    · unfold ndT qrT
      rw [if_neg (by omega), if_neg (by omega)]
      simp only [List.append_assoc, List.cons_append, List.nil_append] at f3 ⊢
      exact f3
  unfold fX11_saysField
  rw [Mg.o, gd_tt, ofx 64 q (by omega) (by omega), bn_s]
  rcases kf.1 with ⟨k0, k1, k2, k3⟩ | ⟨k0, k1, k2, k3⟩ | ⟨k0, k1, k2⟩
  · obtain ⟨g1, a1, a2, a3⟩ := mboth Mg W wo (nm := 492210354) (v := F (96 + n)) (by omega) (by omega) k1 (by omega) (by omega)
    have q1 := q.t (a2.w l89)
    have M1 := q1.ms M
    have l1 := nm8 492210354
    have l2 := dg4 (F (96 + n))
    obtain ⟨g2, b1, b2, b3⟩ := msay1 M1 a3 wo (by simp only [List.length_append, List.length_cons]; omega) 32
    have q2 := q1.t (b2.w l89)
    have M2 := q2.ms M
    obtain ⟨g3, c1, c2, c3⟩ := mnum1 M2 b3 wo (v := F (128 + n)) (by omega) k3 (by simp only [List.length_append, List.length_cons, List.length_nil]; omega)
    obtain ⟨g', y1, y2, y3⟩ := e83 g3 (q2.t (c2.w l89)) (by
      unfold prT
      rw [if_neg (by omega), if_pos k0]
      simp only [List.append_assoc, List.cons_append, List.nil_append] at c3 ⊢
      exact c3)
    refine ⟨g', ?_, y2, y3⟩
    rw [k0, if_pos (by decide), ofx 96 q (by omega) (by omega), bn_s, a1, bn_s, M1.o, gd_tt, b1, bn_s, M2.o, gd_tt, ofx 128 q2 (by omega) (by omega), bn_s, c1, bn_s]
    exact y1
  · obtain ⟨g1, a1, a2, a3⟩ := mboth Mg W wo (nm := 109552741) (v := F (128 + n) + 1) (by omega) (by omega) (by omega) (by omega) (by omega)
    obtain ⟨g', y1, y2, y3⟩ := e83 g1 (q.t (a2.w l89)) (by
      unfold prT
      rw [if_neg (by omega), if_neg (by omega), if_pos k0]
      exact a3)
    refine ⟨g', ?_, y2, y3⟩
    rw [k0, if_neg (by decide), if_pos rfl, ofx 128 q (by omega) (by omega), bn_s, i32_add, a1, bn_s]
    exact y1
  · obtain ⟨g1, a1, a2, a3⟩ := mword1 Mg W wo (nm := 26398159) (by omega) (by omega) (by omega)
    obtain ⟨g', y1, y2, y3⟩ := e83 g1 (q.t (a2.w l89)) (by
      unfold prT
      rw [if_neg (by omega), if_neg (by omega), if_neg (by omega)]
      exact a3)
    refine ⟨g', ?_, y2, y3⟩
    rw [k0, if_neg (by decide), if_neg (by decide), a1, bn_s]
    exact y1
/-- groups end, ahead of a node -/
theorem mcl77 {K : Nat → Int32 → Int32 → Int32 → HP → Option HP} (M : MS h) (wo : wok w) {d n : Int} {kk : Int32} (d0 : 0 ≤ d) (hd : ∀ g, Mo L9 h g → fX11_depth 983 (i32 0) (i32 n) g = some (i32 d)) : ∀ (c m : Nat) (l : Int) (g : HP) (T : List Int), l = d + c → l ≤ 20 → c < m → Mo L9 h g → WM g w T 1000000 → T.length + c ≤ 900000 → ∃ g', lX11_saysSetup_77 K m 983 (i32 l) kk (i32 n) g = K 983 (i32 d) kk (i32 n) g' ∧ Mo L9 h g' ∧ WM g' w (T ++ List.replicate c 125) 1000000 := by
  intro c
  induction c with
  | zero =>
    intro m l g T e l1 hm q W le
    obtain ⟨m, rfl⟩ : ∃ x, m = x + 1 := ⟨m - 1, by omega⟩
    have Mg := q.ms M
    refine ⟨g, ?_, q, by rw [List.replicate_zero, List.append_nil]; exact W⟩
    rw [elX11_saysSetup_77]; unfold bX11_saysSetup_77
    rw [Mg.o, gd_tt, hd g q, bn_s, if_pos (by rw [i32_le (by omega) (by omega) (by omega) (by omega)]; omega), show l = d by omega]
  | succ c ih =>
    intro m l g T e l1 hm q W le
    obtain ⟨m, rfl⟩ : ∃ x, m = x + 1 := ⟨m - 1, by omega⟩
    have Mg := q.ms M
    obtain ⟨g1, a1, a2, a3⟩ := msay1 Mg W wo (by omega) 125
    obtain ⟨g2, b1, b2, b3⟩ := ih m (l + -1) g1 _ (by omega) (by omega) (by omega) (q.t (a2.w l89)) a3 (by rw [List.length_append, List.length_singleton]; omega)
    refine ⟨g2, ?_, b2, by rw [rep_1] at b3; exact b3⟩
    rw [elX11_saysSetup_77]; unfold bX11_saysSetup_77
    rw [Mg.o, gd_tt, hd g q, bn_s, if_neg (by rw [i32_le (by omega) (by omega) (by omega) (by omega)]; omega), i32_add, lt_e, a1, bn_s]
    exact b1
theorem mcl165 (M : MS h) (wo : wok w) : ∀ (c m : Nat) (g : HP) (T : List Int), c ≤ 20 → c < m → Mo L9 h g → WM g w T 1000000 → T.length + c ≤ 900000 → ∃ g', lX11_saysSetup_165 m 983 (i32 (c : Int)) g = some g' ∧ Mo L9 h g' ∧ WM g' w (T ++ List.replicate c 125) 1000000 := by
  intro c
  induction c with
  | zero =>
    intro m g T l1 hm q W le
    obtain ⟨m, rfl⟩ : ∃ x, m = x + 1 := ⟨m - 1, by omega⟩
    refine ⟨g, ?_, q, by rw [List.replicate_zero, List.append_nil]; exact W⟩
    rw [elX11_saysSetup_165]; unfold bX11_saysSetup_165
    rw [if_pos (by decide)]
  | succ c ih =>
    intro m g T l1 hm q W le
    obtain ⟨m, rfl⟩ : ∃ x, m = x + 1 := ⟨m - 1, by omega⟩
    have Mg := q.ms M
    obtain ⟨g1, a1, a2, a3⟩ := msay1 Mg W wo (by omega) 125
    obtain ⟨g2, b1, b2, b3⟩ := ih m g1 _ (by omega) (by omega) (q.t (a2.w l89)) a3 (by rw [List.length_append, List.length_singleton]; omega)
    refine ⟨g2, ?_, b2, by rw [rep_1] at b3; exact b3⟩
    rw [elX11_saysSetup_165]; unfold bX11_saysSetup_165
    rw [if_neg (by rw [i32_z, i32_le (by omega) (by omega) (by omega) (by omega)]; omega), i32_add, lt_e, Mg.o, gd_tt, a1, bn_s, show ((c + 1 : Nat) : Int) + -1 = (c : Int) by omega]
    exact b1
/-- the nodes -/
theorem mnodesT (M : MS h) (x : FRx h a F np) (eW : Wm h = F) (hnp : np ≤ 11000) (wo : wok w) : ∀ (k m : Nat) (i l : Int) (g : HP) (T : List Int), i + k = F 288 → 0 ≤ i → 0 ≤ l → l ≤ 9 → LVi F (fun _ => true) i l → k < m → Mo L9 h g → WM g w T 1000000 → T.length + 9720 * k + 10 ≤ 400000 → ∃ g', lX11_saysSetup_60 (fun w34 w35 h36 => lX11_saysSetup_165 FU w34 w35 h36) m 983 (i32 l) (i32 i) g = some g' ∧ Mo L9 h g' ∧ WM g' w (T ++ suT F (fun n => sgm (Pt h) F n) k i l) 1000000 := by
  have t := x.tr
  have O := t.ov
  have o2 := O.2.1
  have o1 := O.1
  have de := x.2.1.1.2.2.1
  have eWg : ∀ {g'}, Mo L9 h g' → Wm g' = F := fun q' => by rw [← eW]; funext j; unfold Wm; rw [q'.L (by decide)]
  intro k
  induction k with
  | zero =>
    intro m i l g T e i0 l0 l1 lv hm q W le
    obtain ⟨m, rfl⟩ : ∃ x, m = x + 1 := ⟨m - 1, by omega⟩
    have Mg := q.ms M
    obtain ⟨g1, a1, a2, a3⟩ := mcl165 M wo l.toNat FU g T (by omega) (by have : FU = 1000000 := rfl; omega) q W (by omega)
    refine ⟨g1, ?_, a2, a3⟩
    rw [elX11_saysSetup_60]; unfold bX11_saysSetup_60
    rw [Mg.o, gd_tt, many_s Mg (by omega) (by omega), bn_s, Fm0, eWg q, if_pos (by rw [i32_le (by omega) (by omega) (by omega) (by omega)]; omega)]
    rw [show ((l.toNat : Nat) : Int) = l by omega] at a1
    exact a1
  | succ k ih =>
    intro m i l g T e i0 l0 l1 lv hm q W le
    obtain ⟨m, rfl⟩ : ∃ x, m = x + 1 := ⟨m - 1, by omega⟩
    have Mg := q.ms M
    have o := O.2.2 i i0 (by omega)
    have pp := t.op i i0 (by omega)
    have ld := LVi_d (sh := fun _ => true) t (fun _ _ _ _ _ _ => rfl) lv l0 i0 (by omega) rfl
    have ls := LVi_s (sh := fun _ => true) t lv i0 (by omega)
    rw [if_pos rfl] at ls
    obtain ⟨n, en⟩ : ∃ n, n = F (256 + i) := ⟨_, rfl⟩
    rw [← en] at o pp ld ls
    have rd := dpt_rng F 8 (F n)
    have kd := x.kd n o.1 o.2 pp
    have nv := x.nm.1 n o.1 o.2 pp
    have hdp : ∀ g, Mo L9 h g → fX11_depth 983 (i32 0) (i32 n) g = some (i32 (dpt F 8 (F n))) := fun g' q' => by
      have M' := q'.ms M
      have dp := depth_s (fo := 0) M' (by omega) (by omega) (by rw [Fm0, eWg q']; exact t.av) o.1 o.2 (by rw [Fm0, eWg q']; exact ends_mono (de n o.1 o.2 pp).1 (by omega))
      rw [Fm0, eWg q', dpt_ends (de n o.1 o.2 pp).1 (show 4 ≤ 9 by omega), ← dpt_ends (de n o.1 o.2 pp).1 (show 4 ≤ 8 by omega)] at dp
      exact dp
    obtain ⟨d, ed⟩ : ∃ d, d = dpt F 8 (F n) := ⟨_, rfl⟩
    rw [← ed] at rd hdp ld
    obtain ⟨c, ec⟩ : ∃ c : Nat, c = (l - d).toNat := ⟨_, rfl⟩
    have lvr := lvl_r (F := F) (n := n)
    have s6 := x.s6 o.1 o.2 pp
    have sl : (sgm (Pt h) F n).length = (F (224 + n)).toNat := by unfold sgm; rw [List.length_map, List.length_range]
    have tl : (txc F (sgm (Pt h) F n)).1.length ≤ 20 * (sgm (Pt h) F n).length := by
      rcases (x.cd o.1 o.2 pp).1 with ⟨z, _⟩ | ⟨_, t', _, z⟩
      · rw [z]; exact Nat.le_refl _
      · exact txc_len (IsT_txc lfM_tT 15 _ _ _ _ z).1
    have nl' := ndT_len (F := F) n (Ln := fun n => sgm (Pt h) F n) tl (by show (sgm (Pt h) F n).length ≤ 480; omega)
    obtain ⟨g1, a1, a2, a3⟩ := mcl77 (K := fun w106 w107 w108 w109 h110 =>
    bn (fX11_isField w109 h110) fun v112 =>
    if v112 = true then (
      gd (isO h110 w106 11) <|
      bn (fX11_saysField w106 w109 h110) fun h115 =>
      jX11_saysSetup_159 (fun v0 v2 v3 h => lX11_saysSetup_60 (fun w34 w35 h36 => lX11_saysSetup_165 FU w34 w35 h36) m v0 v2 v3 h) w106 w107 w108 h115
      ) else
    gd (isO h110 w106 11) <|
    bn (fX11_saysWord w106 (i64 7945904) h110) fun h118 =>
    gd (isO h118 w106 11) <|
    bn (fX11_says w106 (i32 32) h118) fun h121 =>
    gd (isO h121 w106 11) <|
    oc (hR h121 709 w106) fun o123 =>
    gd (isO h121 o123 23) <|
    gd (inb ((i32 32) + w109) (hln h121 o123)) <|
    bn (fX11_saysWord w106 (hL h121 o123 ((i32 32) + w109).toNatClampNeg) h121) fun h128 =>
    gd (isO h128 w106 11) <|
    bn (fX11_saysIf w106 w109 h128) fun h131 =>
    gd (isO h131 w106 11) <|
    bn (fX11_says w106 (i32 123) h131) fun h134 =>
    lt ((w107 + (i32 1))) fun v135 =>
    jX11_saysSetup_159 (fun v0 v2 v3 h => lX11_saysSetup_60 (fun w34 w35 h36 => lX11_saysSetup_165 FU w34 w35 h36) m v0 v2 v3 h) w106 v135 w108 h134) (kk := i32 i) M wo rd.1 hdp c FU l g T (by omega) (by omega) (by have : FU = 1000000 := rfl; omega) q W (by omega)
    have M1 := a2.ms M
    have l1c : (T ++ List.replicate c 125).length = T.length + c := by rw [List.length_append, List.length_replicate]
    have head : ∀ rr, (bn (fX11_isField (i32 n) g1) fun v112 => if v112 = true then (gd (isO g1 983 11) <| bn (fX11_saysField 983 (i32 n) g1) fun h115 => jX11_saysSetup_159 (fun v0 v2 v3 h => lX11_saysSetup_60 (fun w34 w35 h36 => lX11_saysSetup_165 FU w34 w35 h36) m v0 v2 v3 h) 983 (i32 d) (i32 i) h115) else gd (isO g1 983 11) <| bn (fX11_saysWord 983 (i64 7945904) g1) fun h118 => gd (isO h118 983 11) <| bn (fX11_says 983 (i32 32) h118) fun h121 => gd (isO h121 983 11) <| oc (hR h121 709 983) fun o123 => gd (isO h121 o123 23) <| gd (inb ((i32 32) + (i32 n)) (hln h121 o123)) <| bn (fX11_saysWord 983 (hL h121 o123 ((i32 32) + (i32 n)).toNatClampNeg) h121) fun h128 => gd (isO h128 983 11) <| bn (fX11_saysIf 983 (i32 n) h128) fun h131 => gd (isO h131 983 11) <| bn (fX11_says 983 (i32 123) h131) fun h134 => lt (((i32 d) + (i32 1))) fun v135 => jX11_saysSetup_159 (fun v0 v2 v3 h => lX11_saysSetup_60 (fun w34 w35 h36 => lX11_saysSetup_165 FU w34 w35 h36) m v0 v2 v3 h) 983 v135 (i32 i) h134) = rr → lX11_saysSetup_60 (fun w34 w35 h36 => lX11_saysSetup_165 FU w34 w35 h36) (m + 1) 983 (i32 l) (i32 i) g = rr := fun rr hrr => by
      rw [elX11_saysSetup_60]; unfold bX11_saysSetup_60
      rw [Mg.o, gd_tt, many_s Mg (by omega) (by omega), bn_s, Fm0, eWg q, if_neg (by rw [i32_le (by omega) (by omega) (by omega) (by omega)]; omega), ordered_s Mg (by omega) (by omega) i0 (by omega), bn_s, Fm0, eWg q, ← en]
      exact a1.trans hrr
    have j159 : ∀ (l' : Int) (g' : HP), jX11_saysSetup_159 (fun v0 v2 v3 h => lX11_saysSetup_60 (fun w34 w35 h36 => lX11_saysSetup_165 FU w34 w35 h36) m v0 v2 v3 h) 983 (i32 l') (i32 i) g' = lX11_saysSetup_60 (fun w34 w35 h36 => lX11_saysSetup_165 FU w34 w35 h36) m 983 (i32 l') (i32 (i + 1)) g' := fun l' g' => by
      unfold jX11_saysSetup_159
      rw [lt_e, i32_add]
    have goal : ∀ (g2 : HP), Mo L9 h g2 → WM g2 w ((T ++ List.replicate c 125) ++ ndT F (fun n => sgm (Pt h) F n) n) 1000000 → ∃ g', lX11_saysSetup_60 (fun w34 w35 h36 => lX11_saysSetup_165 FU w34 w35 h36) m 983 (i32 (lLV F n)) (i32 (i + 1)) g2 = some g' ∧ Mo L9 h g' ∧ WM g' w (T ++ suT F (fun n => sgm (Pt h) F n) (k + 1) i l) 1000000 := fun g2 q2 W2 => by
      obtain ⟨g3, x1, x2, x3⟩ := ih m (i + 1) (lLV F n) g2 _ (by omega) (by omega) lvr.1 lvr.2 ls (by omega) q2 W2 (by rw [List.length_append, l1c]; omega)
      refine ⟨g3, x1, x2, ?_⟩
      simp only [suT]
      rw [← en, ← ed, ← ec]
      rw [List.append_assoc, List.append_assoc] at x3
      exact x3
    by_cases gq : 24 ≤ n
    · -- a group
      obtain ⟨g2, b1, b2, b3⟩ := mword1 M1 a3 wo (nm := 7945904) (by omega) (by omega) (by omega)
      have q2 := a2.t (b2.w l89)
      have M2 := q2.ms M
      have l8 := nm8 7945904
      obtain ⟨g3, g4, c1, M3, c2, c3, M4, c4, c5⟩ := mnameT M2 (eWg q2) b3 wo o.1 o.2 nv (by rw [List.length_append, l1c]; omega)
      have q4 := q2.t (c4.w l89)
      have l9 := nm8 (F (32 + n))
      obtain ⟨g5, d1, d2, d3⟩ := mifT M x eW hnp wo o.1 o.2 pp q4 c5 (by simp only [List.length_append, List.length_cons, List.length_replicate]; omega)
      have M5 := d2.ms M
      have il : (ifT F (sgm (Pt h) F n)).length ≤ 9610 := by
        unfold ifT
        have l11 := nm8 294
        split
        · simp
        · simp only [List.length_append, List.length_cons]; omega
      obtain ⟨g6, f1, f2, f3⟩ := msay1 M5 d3 wo (by simp only [List.length_append, List.length_cons, List.length_replicate]; omega) 123
      obtain ⟨g', y1, y2, y3⟩ := goal g6 (d2.t (f2.w l89)) (by
        unfold ndT prT qrT
        rw [if_pos gq, if_pos gq, if_pos gq]
        simp only [List.append_assoc, List.cons_append, List.nil_append, List.append_nil] at f3 ⊢
        exact f3)
      refine ⟨g', head _ ?_, y2, y3⟩
      have elv : lLV F n = d + 1 := by unfold lLV; rw [if_pos gq, ed]
      rw [isField_s (by omega) (by omega), bn_s, decide_eq_false (by omega), if_neg (by decide), M1.o, gd_tt, b1, bn_s, M2.o, gd_tt, c1, bn_s, M3.o, gd_tt, M3.r_world, oc_s, M3.o_world, gd_tt, M3.n_world, i32_add, i32_inb (by omega) (by omega) (by omega), gd_tt, i32_cn (by omega) (by omega), c2, c3, bn_s, M4.o, gd_tt, d1, bn_s, M5.o, gd_tt, f1, bn_s, i32_add, lt_e, j159, ← elv]
      exact y1
    · obtain ⟨g2, b1, b2, b3⟩ := mfieldT M x eW hnp wo o.1 (by omega) pp a2 a3 (by rw [l1c]; omega)
      obtain ⟨g', y1, y2, y3⟩ := goal g2 b2 b3
      refine ⟨g', head _ ?_, y2, y3⟩
      have elv : lLV F n = d := by unfold lLV; rw [if_neg gq, ed]
      rw [isField_s (by omega) (by omega), bn_s, decide_eq_true (by omega), if_pos rfl, M1.o, gd_tt, b1, bn_s, j159, ← elv]
      exact y1
/-- the whole setup text by the model -/
theorem msetup (M : MS h) (x : FRx h a F np) (eW : Wm h = F) (hnp : np ≤ 11000) (wo : wok w) {zs zp zq : Int} (s0 : hA h 985 0 = i32 zs) (s1 : hA h 985 1 = i32 zp) (s2 : hA h 985 2 = i32 zq) (b0 : 0 ≤ zs ∧ zs ≤ 9999) (b1 : 0 ≤ zp ∧ zp ≤ 9999) (b2 : 0 ≤ zq ∧ zq ≤ 9999) : ∃ g, fX11_saysSetup 983 (i32 w) h = some g ∧ Mo L9 h g ∧ WM g w (hdT zs zp zq ++ suT F (fun n => sgm (Pt h) F n) (F 288).toNat 0 0) 1000000 := by
  have o1 := x.tr.ov.1
  have o2 := x.tr.ov.2.1
  obtain ⟨g1, a1, a2, a3⟩ := mstarts M w
  have M1 := a2.ms M
  obtain ⟨g2, c1, c2, c3⟩ := mboth M1 a3 wo (nm := 212557) (v := zs) (by omega) (by omega) b0.1 b0.2 (by simp)
  have q2 := a2.t (c2.w l89)
  have M2 := q2.ms M
  have l1 := nm8 212557
  have l2 := dg4 zs
  rw [List.nil_append] at c3
  obtain ⟨g3, d1, d2, d3⟩ := msay1 M2 c3 wo (by simp only [List.length_append, List.length_cons]; omega) 32
  have q3 := q2.t (d2.w l89)
  have M3 := q3.ms M
  obtain ⟨g4, e1, e2, e3⟩ := mnum1 M3 d3 wo (v := zp) b1.1 b1.2 (by simp only [List.length_append, List.length_cons, List.length_nil]; omega)
  have q4 := q3.t (e2.w l89)
  have M4 := q4.ms M
  have l3 := dg4 zp
  obtain ⟨g5, f1, f2, f3⟩ := msay1 M4 e3 wo (by simp only [List.length_append, List.length_cons, List.length_nil]; omega) 32
  have q5 := q4.t (f2.w l89)
  have M5 := q5.ms M
  obtain ⟨g6, x1, x2, x3⟩ := mnum1 M5 f3 wo (v := zq) b2.1 b2.2 (by simp only [List.length_append, List.length_cons, List.length_nil]; omega)
  have q6 := q5.t (x2.w l89)
  have M6 := q6.ms M
  have l4 := dg4 zq
  obtain ⟨g7, y1, y2, y3⟩ := msay1 M6 x3 wo (by simp only [List.length_append, List.length_cons, List.length_nil]; omega) 59
  have q7 := q6.t (y2.w l89)
  have W7 : WM g7 w (hdT zs zp zq) 1000000 := by
    unfold hdT
    simp only [List.append_assoc, List.cons_append, List.nil_append] at y3 ⊢
    exact y3
  have hl : (hdT zs zp zq).length ≤ 30 := by
    unfold hdT
    simp only [List.length_append, List.length_cons, List.length_nil]
    omega
  obtain ⟨g8, u1, u2, u3⟩ := mnodesT M x eW hnp wo (F 288).toNat FU 0 0 g7 _ (by omega) (by omega) (by omega) (by omega) (fun c _ _ _ z _ => by omega) (by have : FU = 1000000 := rfl; omega) q7 W7 (by omega)
  refine ⟨g8, ?_, u2, u3⟩
  unfold fX11_saysSetup
  rw [M.o, gd_tt, a1, bn_s, M1.o, gd_tt, M1.r_sizes, oc_s, M1.o_sizes, gd_tt, M1.n_sizes, i32_inb (by omega) (by omega) (by omega), gd_tt, i32_cn (by omega) (by omega), show ((0 : Int)).toNat = 0 from rfl, a2.A (by decide), s0, c1, bn_s, M2.o, gd_tt, d1, bn_s, M3.o, gd_tt, M3.r_sizes, oc_s, M3.o_sizes, gd_tt, M3.n_sizes, i32_inb (by omega) (by omega) (by omega), gd_tt, i32_cn (by omega) (by omega), show ((1 : Int)).toNat = 1 from rfl, q3.A (by decide), s1, e1, bn_s, M4.o, gd_tt, f1, bn_s, M5.o, gd_tt, M5.r_sizes, oc_s, M5.o_sizes, gd_tt, M5.n_sizes, i32_inb (by omega) (by omega) (by omega), gd_tt, i32_cn (by omega) (by omega), show ((2 : Int)).toNat = 2 from rfl, q5.A (by decide), s2, x1, bn_s, M6.o, gd_tt, y1, bn_s]
  exact u1
/-- both -/
theorem setupB (R : RR h k) (hk : k ≤ 512) {w : Int} (wo : wok w) : ∃ g1 g2 m T, fX9_start 114 (i32 w) h = some g1 ∧ CS g1 ∧ fX9_writeSetup 114 (some 3) g1 = some g2 ∧ CS g2 ∧ WC g2 w T false ∧ MS g2 ∧ fX11_saysSetup 983 (i32 w) g2 = some m ∧ MS m ∧ WM m w T 1000000 ∧ RR m k := by
  obtain ⟨np, sr, hnp⟩ := R.sr
  obtain ⟨np', T', rc, h714, tp, b1', b2', b3'⟩ := R.rc
  have C := R.C
  have x := sr.x
  obtain ⟨zs, zp, zq, d0, d1, d2, ⟨zs0, zs1⟩, ⟨zp0, zp1⟩, zq0, zq1⟩ := R.2.2.2.2.1
  obtain ⟨g1, g2, a1, C1, a2, a3, a4⟩ := csetup x C.st.d C (Or.inl (by omega)) wo (by omega) d0 d1 d2 (by omega) (by omega) (by omega)
  have R2 := RR_S R a3 w8
  have eW := Wm_S a3 w8
  have eP := Pt_S a3 w8
  have e5 := z5_S a3 w8
  obtain ⟨np2, sr2, hnp2⟩ := R2.sr
  have x2 := sr2.x
  rw [eW] at x2
  obtain ⟨m, c1, c2, c3⟩ := msetup (w := w) R2.M x2 eW (by omega) wo (by rw [e5]; exact d0) (by rw [e5]; exact d1) (by rw [e5]; exact d2) (by omega) (by omega) (by omega)
  rw [eP] at c3
  exact ⟨g1, g2, m, _, a1, C1, a2, R2.C, a4, R2.M, c1, c2.ms R2.M, c3, RR_M9 R2 c2⟩
theorem rd_setupLength (R : RR h k) (hk : k ≤ 512) : ∃ o g g', fX10_setupLength 0 h = some (o, g) ∧ fX11_setupLength 983 g = some (o, g') ∧ RR g' (k + 1) := by
  obtain ⟨g1, g2, m, T, a1, C1, a2, C2, a4, M2, c1, Mm, c3, Rm⟩ := setupB R hk (w := -1) (by unfold wok; omega)
  have C := R.C
  refine ⟨i32 (T.length : Int), g2, m, ?_, ?_, RR_up Rm (by omega)⟩
  · unfold fX10_setupLength
    rw [C.o, gd_tt, C.r_writer, oc_s, C.o_writer, gd_tt, a1, bn_s, C1.o, gd_tt, C1.r_state, oc_s, C1.o_state, gd_tt, C1.st.rD, C1.r_writer, oc_s, C1.o_writer, gd_tt, a2, bn_s, C2.o, gd_tt, C2.r_writer, oc_s, C2.o_writer, gd_tt, a4.2.1]
  · unfold fX11_setupLength
    rw [M2.o, gd_tt, c1, bn_s, Mm.o, gd_tt, c3.2.1]
theorem rd_setupByte (R : RR h k) (hk : k ≤ 512) (u : Int32) : ∃ o g g', fX10_setupByte 0 u h = some (o, g) ∧ fX11_setupByte 983 u g = some (o, g') ∧ RR g' (k + 1) := by
  obtain ⟨w, h3, h4, rfl⟩ := i32_ex u
  by_cases w0 : 0 ≤ w
  rotate_left
  · refine ⟨i32 (-1), h, h, ?_, ?_, RR_up R (by omega)⟩
    · unfold fX10_setupByte
      rw [i32_z, if_neg (by rw [i32_le (by omega) (by omega) (by omega) (by omega)]; exact w0)]
    · unfold fX11_setupByte
      rw [i32_z, if_neg (by rw [i32_le (by omega) (by omega) (by omega) (by omega)]; exact w0)]
  have le0 : i32 0 ≤ i32 w := by rw [i32_le (by omega) (by omega) (by omega) (by omega)]; exact w0
  obtain ⟨g1, g2, m, T, a1, C1, a2, C2, a4, M2, c1, Mm, c3, Rm⟩ := setupB R hk (w := w) ⟨h3, h4⟩
  have C := R.C
  refine ⟨i32 (fd T w), g2, m, ?_, ?_, RR_up Rm (by omega)⟩
  · unfold fX10_setupByte
    rw [i32_z, if_pos le0, C.o, gd_tt, C.r_writer, oc_s, C.o_writer, gd_tt, a1, bn_s, C1.o, gd_tt, C1.r_state, oc_s, C1.o_state, gd_tt, C1.st.rD, C1.r_writer, oc_s, C1.o_writer, gd_tt, a2, bn_s, C2.o, gd_tt, C2.r_writer, oc_s, C2.o_writer, gd_tt, a4.2.2.1]
  · unfold fX11_setupByte
    rw [i32_z, if_pos le0, M2.o, gd_tt, c1, bn_s, Mm.o, gd_tt, c3.2.2.1]
end

