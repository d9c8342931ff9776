/-! THE SETUP TEXT, BY THE CLASS -/
section
variable {h g : HP} {a np : Nat} {F : Int → Int} {w : Int} {T : List Int}
def prT (F : Int → Int) (n : Int) : List Int := if 24 ≤ n then nmT 7945904 else if F (64 + n) = 0 then nmT 492210354 ++ ((32 :: dgT (F (96 + n))) ++ (32 :: dgT (F (128 + n)))) else if F (64 + n) = 1 then nmT 109552741 ++ (32 :: dgT (F (128 + n) + 1)) else nmT 26398159
def qrT (F : Int → Int) (n : Int) : List Int := (32 :: nmT (F (32 + n))) ++ (if 24 ≤ n then [] else (32 :: nmT 24416904) ++ (32 :: dgT (F (160 + n))))
def ifT (F : Int → Int) (L : List Int32) : List Int := if L = [] then [] else (32 :: nmT 294) ++ (txc F L).1
def ndT (F : Int → Int) (Ln : Int → List Int32) (n : Int) : List Int := prT F n ++ (qrT F n ++ (ifT F (Ln n) ++ [if 24 ≤ n then 123 else 59]))
/-- the nodes from a place of the order on, below a level -/
def suT (F : Int → Int) (Ln : Int → List Int32) : Nat → Int → Int → List Int
  | 0, _, l => List.replicate l.toNat 125
  | k + 1, i, l => List.replicate (l - dpt F 8 (F (F (256 + i)))).toNat 125 ++ (ndT F Ln (F (256 + i)) ++ suT F Ln k (i + 1) (lLV F (F (256 + i))))
def hdT (zs zp zq : Int) : List Int := nmT 212557 ++ ((32 :: dgT zs) ++ ((32 :: dgT zp) ++ ((32 :: dgT zq) ++ [59])))
theorem nm8 (w : Int) : (nmT w).length ≤ 8 := by rw [nmT_len]; exact nl_le w
theorem dg4 (v : Int) : (dgT v).length ≤ 4 := by rw [dgT_len]; exact (dgn_4 v).2
theorem prT_len (n : Int) : (prT F n).length ≤ 18 := by
  unfold prT
  have a1 := nm8 7945904
  have a2 := nm8 492210354
  have a3 := nm8 109552741
  have a4 := nm8 26398159
  have b1 := dg4 (F (96 + n))
  have b2 := dg4 (F (128 + n))
  have b3 := dg4 (F (128 + n) + 1)
  split
  · omega
  · split
    · simp only [List.length_append, List.length_cons]; omega
    · split
      · simp only [List.length_append, List.length_cons]; omega
      · omega
theorem qrT_len (n : Int) : (qrT F n).length ≤ 23 := by
  unfold qrT
  have a1 := nm8 (F (32 + n))
  have a2 := nm8 24416904
  have b1 := dg4 (F (160 + n))
  split
  · simp only [List.length_append, List.length_cons, List.length_nil]; omega
  · simp only [List.length_append, List.length_cons]; omega
theorem lvl_r {n : Int} : 0 ≤ lLV F n ∧ lLV F n ≤ 9 := by
  have rd := dpt_rng F 8 (F n)
  unfold lLV
  split <;> omega
/-- the head of a node -/
theorem cpr (r0 : FRx h a F np) (S0 : FormAt h a) (C0 : CS h) (ha : a + 36 ≤ 114 ∨ 115 ≤ a) (wo : wok w) {n : Int} (n0 : 0 ≤ n) (n1 : n < 32) (pn : F n ≠ -1) (q : So So8 h g) (W : WC g w T false) (l : T.length + 30 ≤ 900000) : ∃ g1, fX9_putNode 114 (some a) (some (a + 4 + n.toNat)) g = jX9_putNode_77 114 (some a) (some (a + 4 + n.toNat)) (decide (24 ≤ n)) g1 ∧ So So8 h g1 ∧ WC g1 w (T ++ prT F n) true := by
  have Cg := C0.sk q.1
  have ob : isO h (a + 4 + n.toNat) 2 = true := S0.on (show n.toNat < 32 by omega)
  have nd := (r0.nd n0 n1 pn).2
  have kd := r0.kd n n0 n1 pn
  have nb : ¬ So8 (a + 4 + n.toNat) := fun z => by unfold So8 at z; omega
  have sn := q.2.2 _ nb
  have og := isO_sk q.1 ob
  have hk : hI g 130 (a + 4 + n.toNat) = i32 (F (64 + n)) := (sn.1 130).trans nd.2.2.1
  -- the keyword
  have kw : ∀ (kk : Nat) (v : Int32) (s0 : Bool), kk < 10 → v = i32 (4 + (kk : Int)) → ∃ g1, jX9_putNode_30 114 (some a) (some (a + 4 + n.toNat)) s0 v 114 g = (if i32 (F (64 + n)) = 0 then (bn (fX9_putNumber 114 (i32 (F (96 + n))) g1) fun h112 => gd (isO h112 (a + 4 + n.toNat) 2) <| gd (isO h112 114 9) <| bn (fX9_putNumber 114 (hI h112 132 (a + 4 + n.toNat)) h112) fun h116 => jX9_putNode_77 114 (some a) (some (a + 4 + n.toNat)) s0 h116) else if i32 (F (64 + n)) = (i32 1) then (bn (fX9_putNumber 114 (i32 (F (128 + n)) + (i32 1)) g1) fun h109 => jX9_putNode_77 114 (some a) (some (a + 4 + n.toNat)) s0 h109) else jX9_putNode_77 114 (some a) (some (a + 4 + n.toNat)) s0 g1) ∧ So So8 h g1 ∧ WC g1 w (T ++ nmT (kwv kk)) true := fun kk v s0 hk1 ev => by
    obtain ⟨g1, a1, a2, a3⟩ := ckeyword Cg W (by omega) wo hk1
    rw [show spT false = [] from rfl, List.nil_append] at a3
    have q1 := q.t a2
    have sn1 := q1.2.2 _ nb
    refine ⟨g1, ?_, q1, a3⟩
    unfold jX9_putNode_30
    rw [Cg.o_writer, gd_tt, ev, a1, bn_s, oc_s, isO_sk q1.1 ob, gd_tt, sn1.1, nd.2.2.1, (C0.sk q1.1).o_writer, gd_tt, sn1.1, nd.2.2.2.1, gd_tt, sn1.1, nd.2.2.2.2.1]
  unfold fX9_putNode jX9_putNode_13
  rw [oc_s, og, gd_tt, hk]
  by_cases gq : 24 ≤ n
  · have k3 := (kd.2 gq).1
    obtain ⟨g1, a1, a2, a3⟩ := kw 1 (i32 5) true (by omega) rfl
    refine ⟨g1, ?_, a2, ?_⟩
    · rw [k3, if_pos rfl, if_pos rfl, a1, k3, if_neg (by decide), if_neg (by decide), decide_eq_true gq]
    · unfold prT
      rw [if_pos gq]
      exact a3
  · have kf := kd.1 (by omega)
    have hx : ∀ m : Int, 0 ≤ m → m < 3 → ¬ i32 m = i32 3 := fun m a b => by rw [i32_eq (by omega) (by omega) (by omega) (by omega)]; omega
    unfold prT
    rw [if_neg gq, decide_eq_false gq]
    rcases kf.1 with ⟨k0, k1, k2, k3⟩ | ⟨k0, k1, k2, k3⟩ | ⟨k0, k1, k2⟩
    · obtain ⟨g1, a1, a2, a3⟩ := kw 4 (i32 8 + i32 (F (64 + n))) false (by omega) (by rw [k0]; rfl)
      have C1 := C0.sk a2.1
      have l1 := nm8 (kwv 4)
      obtain ⟨g2, b1, b2, b3⟩ := cnumber C1 a3 (by rw [List.length_append]; omega) wo (v := F (96 + n)) k1 (by omega)
      have q2 := a2.t b2
      have C2 := C0.sk q2.1
      have l2 := dg4 (F (96 + n))
      obtain ⟨g3, c1, c2, c3⟩ := cnumber C2 b3 (by simp only [List.length_append, show spT true = [32] from rfl, List.length_singleton]; omega) wo (v := F (128 + n)) (by omega) k3
      have sn2 := q2.2.2 _ nb
      refine ⟨g3, ?_, q2.t c2, ?_⟩
      · rw [if_neg (by rw [k0]; decide), if_neg (by decide), oc_s, og, gd_tt, hk, a1, k0, if_pos (by decide), b1, bn_s, isO_sk q2.1 ob, gd_tt, C2.o_writer, gd_tt, sn2.1, nd.2.2.2.2.1, c1, bn_s]
      · rw [if_pos k0]
        rw [show spT true = [32] from rfl, List.append_assoc, List.append_assoc] at c3
        exact c3
    · obtain ⟨g1, a1, a2, a3⟩ := kw 5 (i32 8 + i32 (F (64 + n))) false (by omega) (by rw [k0]; rfl)
      have C1 := C0.sk a2.1
      have l1 := nm8 (kwv 5)
      obtain ⟨g2, b1, b2, b3⟩ := cnumber C1 a3 (by rw [List.length_append]; omega) wo (v := F (128 + n) + 1) (by omega) (by omega)
      refine ⟨g2, ?_, a2.t b2, ?_⟩
      · rw [if_neg (by rw [k0]; decide), if_neg (by decide), oc_s, og, gd_tt, hk, a1, k0, if_neg (by decide), if_pos rfl, i32_add, b1, bn_s]
      · rw [if_neg (by omega), if_pos k0]
        rw [show spT true = [32] from rfl, List.append_assoc] at b3
        exact b3
    · obtain ⟨g1, a1, a2, a3⟩ := kw 6 (i32 8 + i32 (F (64 + n))) false (by omega) (by rw [k0]; rfl)
      refine ⟨g1, ?_, a2, ?_⟩
      · rw [if_neg (by rw [k0]; decide), if_neg (by decide), oc_s, og, gd_tt, hk, a1, k0, if_neg (by decide), if_neg (by decide)]
      · rw [if_neg (by omega), if_neg (by omega)]
        exact a3
/-- its name and width -/
theorem cqr (r0 : FRx h a F np) (S0 : FormAt h a) (C0 : CS h) (ha : a + 36 ≤ 114 ∨ 115 ≤ a) (wo : wok w) {n : Int} (n0 : 0 ≤ n) (n1 : n < 32) (pn : F n ≠ -1) (q : So So8 h g) (W : WC g w T true) (l : T.length + 30 ≤ 900000) : ∃ g1, jX9_putNode_77 114 (some a) (some (a + 4 + n.toNat)) (decide (24 ≤ n)) g = jX9_putNode_107 114 (some a) (some (a + 4 + n.toNat)) (decide (24 ≤ n)) g1 ∧ So So8 h g1 ∧ WC g1 w (T ++ qrT F n) true := by
  have Cg := C0.sk q.1
  have ob : isO h (a + 4 + n.toNat) 2 = true := S0.on (show n.toNat < 32 by omega)
  have nd := (r0.nd n0 n1 pn).2
  have kd := r0.kd n n0 n1 pn
  have nb : ¬ So8 (a + 4 + n.toNat) := fun z => by unfold So8 at z; omega
  have nv := r0.nm.1 n n0 n1 pn
  obtain ⟨g1, a1, a2, a3⟩ := cspace Cg W (by omega) wo
  rw [show spT true = [32] from rfl] at a3
  have q1 := q.t a2
  have C1 := C0.sk q1.1
  have sn1 := q1.2.2 _ nb
  obtain ⟨g2, b1, b2, b3⟩ := cputName C1 a3 nv (by rw [List.length_append, List.length_singleton]; omega) wo
  have q2 := q1.t b2
  have C2 := C0.sk q2.1
  have l1 := nm8 (F (32 + n))
  unfold jX9_putNode_77 qrT
  rw [Cg.o_writer, gd_tt, a1, bn_s, oc_s, isO_sk q1.1 ob, gd_tt, C1.o_writer, gd_tt, sn1.2.1, nd.2.1, b1, bn_s]
  by_cases gq : 24 ≤ n
  · rw [decide_eq_true gq, if_pos rfl, if_pos gq, List.append_nil]
    refine ⟨g2, rfl, q2, ?_⟩
    rw [List.append_assoc] at b3
    exact b3
  · have kf := kd.1 (by omega)
    obtain ⟨g3, c1, c2, c3⟩ := ckeyword C2 b3 (by simp only [List.length_append, List.length_singleton]; omega) wo (k := 3) (by omega)
    have q3 := q2.t c2
    have C3 := C0.sk q3.1
    have sn3 := q3.2.2 _ nb
    have l2 := nm8 (kwv 3)
    obtain ⟨g4, d1, d2, d3⟩ := cnumber C3 c3 (by simp only [List.length_append, show spT true = [32] from rfl, List.length_singleton]; omega) wo (v := F (160 + n)) (by omega) (by omega)
    refine ⟨g4, ?_, q3.t d2, ?_⟩
    · rw [decide_eq_false gq, if_neg (by decide), C2.o_writer, gd_tt]
      rw [show i32 (4 + ((3 : Nat) : Int)) = i32 7 from rfl] at c1
      rw [c1, bn_s, isO_sk q3.1 ob, gd_tt, C3.o_writer, gd_tt, sn3.1, nd.2.2.2.2.2, d1, bn_s]
    · rw [if_neg gq]
      rw [show spT true = [32] from rfl, List.append_assoc, List.append_assoc, List.append_assoc] at d3
      exact d3
/-- its condition and end -/
theorem ccr (r0 : FRx h a F np) (S0 : FormAt h a) (C0 : CS h) (ha : a + 36 ≤ 114 ∨ 115 ≤ a) (wo : wok w) (hz : hsz h ≤ 900000) (hlf : ∀ t e, lfM h t e → tT e = true) {n : Int} (n0 : 0 ≤ n) (n1 : n < 32) (pn : F n ≠ -1) (q : So So8 h g) (W : WC g w T true) (l : T.length ≤ 400000) : ∃ g1, jX9_putNode_107 114 (some a) (some (a + 4 + n.toNat)) (decide (24 ≤ n)) g = some g1 ∧ So So8 h g1 ∧ WC g1 w (T ++ (ifT F (sgm (Pt h) F n) ++ [if 24 ≤ n then 123 else 59])) false := by
  have Cg := C0.sk q.1
  have ob : isO h (a + 4 + n.toNat) 2 = true := S0.on (show n.toNat < 32 by omega)
  have nb : ¬ So8 (a + 4 + n.toNat) := fun z => by unfold So8 at z; omega
  have sn := q.2.2 _ nb
  have cd := (r0.cd n0 n1 pn).1
  have s6 := r0.s6 n0 n1 pn
  have sl : (sgm (Pt h) F n).length = (F (224 + n)).toNat := by unfold sgm; rw [List.length_map, List.length_range]
  have end' : ∀ (g2 : HP) (T2 : List Int) (b : Bool), So So8 h g2 → WC g2 w T2 b → T2.length ≤ 900000 → ∃ g1, jX9_putNode_130 114 (decide (24 ≤ n)) g2 = some g1 ∧ So So8 h g1 ∧ WC g1 w (T2 ++ [if 24 ≤ n then 123 else 59]) false := fun g2 T2 b q2 W2 l2 => by
    have C2 := C0.sk q2.1
    obtain ⟨g3, c1, c2, c3⟩ := cmark C2 W2 (by omega) wo (if 24 ≤ n then 123 else 59)
    refine ⟨g3, ?_, q2.t c2, c3⟩
    unfold jX9_putNode_130 jX9_putNode_142
    by_cases gq : 24 ≤ n
    · rw [if_pos gq] at c1
      rw [decide_eq_true gq, if_pos rfl, C2.o_writer, gd_tt, c1, bn_s]
    · rw [if_neg gq] at c1
      rw [decide_eq_false gq, if_neg (by decide), C2.o_writer, gd_tt, c1, bn_s]
  unfold jX9_putNode_107 ifT
  rw [oc_s, isO_sk q.1 ob, gd_tt, sn.2.2.1]
  rcases cd with ⟨c1, c2⟩ | ⟨c1, t, c2, c3⟩
  · rw [c1, c2, on_nn, if_pos rfl, List.nil_append]
    exact end' g T true q W (by omega)
  · rw [c2, on_sm, if_neg c1, Cg.o_writer, gd_tt]
    obtain ⟨g1, a1, a2, a3⟩ := ckeyword Cg W (by omega) wo (k := 2) (by omega)
    rw [show spT true = [32] from rfl] at a3
    have q1 := q.t a2
    have C1 := C0.sk q1.1
    have sn1 := q1.2.2 _ nb
    have l1 := nm8 (kwv 2)
    obtain ⟨g2, b1, b2, b3⟩ := cterm r0 S0 C0 ha wo hlf 15 64 1008 (hsz h) t (sgm (Pt h) F n) 0 g1 _ c3 (Nat.le_refl _) (Nat.le_refl _) hz (by omega) (by omega) (by omega) (r0.tk n n0 n1 pn) q1 a3 (by simp only [List.length_append, List.length_singleton]; omega)
    have tl := txc_len (F := F) (IsT_txc hlf 15 _ _ _ _ c3).1
    obtain ⟨g3, d1, d2, d3⟩ := end' g2 _ true b2 b3 (by simp only [List.length_append, List.length_singleton]; omega)
    refine ⟨g3, ?_, d2, ?_⟩
    · rw [show i32 (4 + ((2 : Nat) : Int)) = i32 6 from rfl] at a1
      rw [a1, bn_s, isO_sk q1.1 ob, gd_tt, sn1.2.2.1, c2]
      unfold fX9_putTerm
      rw [b1, bn_s]
      exact d1
    · rw [List.append_assoc, List.append_assoc] at d3
      rw [List.append_assoc]
      rw [List.append_assoc] at d3
      exact d3
theorem ndT_len (n : Int) {Ln : Int → List Int32} (t : (txc F (Ln n)).1.length ≤ 20 * (Ln n).length) (l : (Ln n).length ≤ 480) : (ndT F Ln n).length ≤ 9700 := by
  have a := prT_len (F := F) n
  have b := qrT_len (F := F) n
  have c := nm8 294
  unfold ndT ifT
  split
  · simp only [List.length_append, List.length_cons, List.length_nil]; omega
  · simp only [List.length_append, List.length_cons, List.length_nil]; omega
/-- groups end -/
theorem cclose (C0 : CS h) (wo : wok w) {to : Int} (t0 : 0 ≤ to) (t1 : to ≤ 20) : ∀ (d n : Nat) (from' : Int) (g : HP) (T : List Int), d = (from' - to).toNat → 0 ≤ from' → from' ≤ 20 → d < n → So So8 h g → WC g w T false → T.length + d ≤ 900000 → ∃ g', lX9_closeGroups_2 n 114 (i32 to) (i32 from') g = some g' ∧ So So8 h g' ∧ WC g' w (T ++ List.replicate d 125) false := by
  intro d
  induction d with
  | zero =>
    intro n f g T e f0 f1 hn q W l
    obtain ⟨n, rfl⟩ : ∃ x, n = x + 1 := ⟨n - 1, by omega⟩
    refine ⟨g, ?_, q, by rw [List.replicate_zero, List.append_nil]; exact W⟩
    rw [elX9_closeGroups_2]; unfold bX9_closeGroups_2
    rw [if_pos (by rw [i32_le (by omega) (by omega) (by omega) (by omega)]; omega)]
  | succ d ih =>
    intro n f g T e f0 f1 hn q W l
    obtain ⟨n, rfl⟩ : ∃ x, n = x + 1 := ⟨n - 1, by omega⟩
    have Cg := C0.sk q.1
    obtain ⟨g1, a1, a2, a3⟩ := cmark Cg W (by omega) wo 125
    obtain ⟨g2, b1, b2, b3⟩ := ih n (f + -1) g1 _ (by omega) (by omega) (by omega) (by omega) (q.t a2) a3 (by rw [List.length_append, List.length_singleton]; omega)
    refine ⟨g2, ?_, b2, by rw [rep_1] at b3; exact b3⟩
    rw [elX9_closeGroups_2]; unfold bX9_closeGroups_2
    rw [if_neg (by rw [i32_le (by omega) (by omega) (by omega) (by omega)]; omega), Cg.o_writer, gd_tt, a1, bn_s, i32_add, lt_e]
    exact b1
/-- the nodes -/
theorem cnodesT (r0 : FRx h a F np) (S0 : FormAt h a) (C0 : CS h) (ha : a + 36 ≤ 114 ∨ 115 ≤ a) (wo : wok w) (hz : hsz h ≤ 900000) (hlf : ∀ t e, lfM h t e → tT e = true) : ∀ (k m : Nat) (i l : Int) (g : HP) (T : List Int), i + k = F 288 → 0 ≤ i → 0 ≤ l → l ≤ 9 → k < m → So So8 h g → WC g w T false → T.length + 9710 * k + 10 ≤ 400000 → ∃ g', lX9_writeSetup_39 (fun w21 w22 h23 => gd (isO h23 w21 9) <| bn (fX9_closeGroups w21 w22 (i32 0) h23) fun h26 => some h26) m 114 (some a) (i32 l) (i32 i) g = some g' ∧ So So8 h g' ∧ WC g' w (T ++ suT F (fun n => sgm (Pt h) F n) k i l) false := by
  have t := r0.tr
  have O := t.ov
  have o2 := O.2.1
  have o1 := O.1
  intro k
  induction k with
  | zero =>
    intro m i l g T e i0 l0 l1 hm q W le
    obtain ⟨m, rfl⟩ : ∃ x, m = x + 1 := ⟨m - 1, by omega⟩
    have Cg := C0.sk q.1
    have rg := FRx_7' r0 ha q
    obtain ⟨g1, a1, a2, a3⟩ := cclose C0 wo (to := 0) (by omega) (by omega) l.toNat FU l g T (by omega) l0 (by omega) (by have : FU = 1000000 := rfl; omega) q W (by omega)
    refine ⟨g1, ?_, a2, a3⟩
    rw [elX9_writeSetup_39]; unfold bX9_writeSetup_39
    rw [oc_s, (S0.sk q.1).o, gd_tt, rg.fb.2.2.1, if_pos (by rw [i32_le (by omega) (by omega) (by omega) (by omega)]; omega)]
    show (gd (isO g 114 9) <| bn (fX9_closeGroups 114 (i32 l) (i32 0) g) fun h26 => some h26) = some g1
    unfold fX9_closeGroups
    rw [Cg.o_writer, gd_tt, a1, bn_s]
  | succ k ih =>
    intro m i l g T e i0 l0 l1 hm q W le
    obtain ⟨m, rfl⟩ : ∃ x, m = x + 1 := ⟨m - 1, by omega⟩
    have Cg := C0.sk q.1
    have Sg := S0.sk q.1
    have rg := FRx_7' r0 ha q
    have o := O.2.2 i i0 (by omega)
    have pp := t.op i i0 (by omega)
    obtain ⟨n, en⟩ : ∃ n, n = F (256 + i) := ⟨_, rfl⟩
    rw [← en] at o pp
    have at' := x_at Sg rg (i := i) (by omega) (by omega)
    rw [if_pos ⟨by omega, by omega⟩, ← en] at at'
    have fi := x_find Sg rg (i := n) (by omega) (by omega)
    rw [fnx_y ⟨o.1, o.2, pp⟩] at fi
    have ob : isO h (a + 4 + n.toNat) 2 = true := S0.on (show n.toNat < 32 by omega)
    have nd := (r0.nd o.1 o.2 pp).2
    have kd := r0.kd n o.1 o.2 pp
    have nb : ¬ So8 (a + 4 + n.toNat) := fun z => by unfold So8 at z; omega
    have sn := q.2.2 _ nb
    have rd := dpt_rng F 8 (F n)
    have lv := x_level Sg rg o.1 o.2 pp
    obtain ⟨d, ed⟩ : ∃ d, d = dpt F 8 (F n) := ⟨_, rfl⟩
    rw [← ed] at rd lv
    obtain ⟨c, ec⟩ : ∃ c : Nat, c = (l - d).toNat := ⟨_, rfl⟩
    obtain ⟨g1, a1, a2, a3⟩ := cclose C0 wo (to := d) rd.1 (by omega) c FU l g T ec l0 (by omega) (by have : FU = 1000000 := rfl; omega) q W (by omega)
    have C1 := C0.sk a2.1
    obtain ⟨g2, b1, b2, b3⟩ := cpr r0 S0 C0 ha wo o.1 o.2 pp a2 a3 (by rw [List.length_append, List.length_replicate]; omega)
    have pl := prT_len (F := F) n
    obtain ⟨g3, c1, c2, c3⟩ := cqr r0 S0 C0 ha wo o.1 o.2 pp b2 b3 (by simp only [List.length_append, List.length_replicate]; omega)
    have ql := qrT_len (F := F) n
    have lc : (T ++ List.replicate c 125 ++ prT F n ++ qrT F n).length ≤ 390400 := by
      simp only [List.length_append, List.length_replicate]
      omega
    obtain ⟨g4, d1, d2, d3⟩ := ccr r0 S0 C0 ha wo hz hlf o.1 o.2 pp c2 c3 (by omega)
    have ac : fX9_closeGroups 114 (i32 l) (i32 d) g = some g1 := a1
    have W4 : WC g4 w (T ++ (List.replicate c 125 ++ ndT F (fun n => sgm (Pt h) F n) n)) false := by
      unfold ndT
      rw [List.append_assoc, List.append_assoc, List.append_assoc] at d3
      exact d3
    have sl : (sgm (Pt h) F n).length = (F (224 + n)).toNat := by unfold sgm; rw [List.length_map, List.length_range]
    have s6 := r0.s6 o.1 o.2 pp
    have tl : (txc F (sgm (Pt h) F n)).1.length ≤ 20 * (sgm (Pt h) F n).length := by
      rcases (r0.cd o.1 o.2 pp).1 with ⟨z, _⟩ | ⟨_, t', _, z⟩
      · rw [z]; exact Nat.le_refl _
      · exact txc_len (IsT_txc hlf 15 _ _ _ _ z).1
    have nl' := ndT_len (F := F) n (Ln := fun n => sgm (Pt h) F n) tl (by show (sgm (Pt h) F n).length ≤ 480; omega)
    have lvr := lvl_r (F := F) (n := n)
    obtain ⟨g5, x1, x2, x3⟩ := ih m (i + 1) (lLV F n) g4 _ (by omega) (by omega) lvr.1 lvr.2 (by omega) d2 W4 (by rw [List.length_append, List.length_append, List.length_replicate]; omega)
    have C4 := C0.sk d2.1
    have S4 := S0.sk d2.1
    have r4 := FRx_7' r0 ha d2
    have sn4 := d2.2.2 _ nb
    have lv4 := x_level S4 r4 o.1 o.2 pp
    rw [← ed] at lv4
    refine ⟨g5, ?_, x2, ?_⟩
    · rw [elX9_writeSetup_39]; unfold bX9_writeSetup_39
      rw [oc_s, Sg.o, gd_tt, rg.fb.2.2.1, if_neg (show ¬ i32 (F 288) ≤ i32 i by rw [i32_le (by omega) (by omega) (by omega) (by omega)]; omega), at', bn_s, fi, bn_s, on_sm, isO_sk q.1 ob, gd_tt, sn.1, nd.1, lv, bn_s, Cg.o_writer, gd_tt, ac, bn_s, C1.o_writer, gd_tt, b1, c1, d1, bn_s, isO_sk d2.1 ob, gd_tt, S4.o, gd_tt, sn4.1, nd.1, lv4, bn_s, sn4.1, nd.2.2.1, ← x1]
      unfold jX9_writeSetup_107 jX9_writeSetup_109 lLV
      rw [← ed]
      by_cases gq : 24 ≤ n
      · rw [(kd.2 gq).1, if_pos rfl, if_pos gq, bI_tt, i32_add, lt_e, lt_e, i32_add]
      · have kf := kd.1 (by omega)
        rw [if_neg (by rw [i32_eq (by omega) (by omega) (by omega) (by omega)]; omega), if_neg gq, bI_ff, i32_add, Int.add_zero, lt_e, lt_e, i32_add]
    · simp only [suT]
      rw [← en, ← ed, ← ec]
      rw [List.append_assoc, List.append_assoc] at x3
      exact x3
theorem lfM_tT : ∀ t e, lfM h t e → tT e = true := by
  rintro t e ⟨f, s, v, f0, f1, s0, s1, v0, v1, rfl, _⟩
  exact tT_c f0 (by omega) s0 s1 v0 v1
/-- the whole setup text by the class -/
theorem csetup (r0 : FRx h a F np) (S0 : FormAt h a) (C0 : CS h) (ha : a + 36 ≤ 114 ∨ 115 ≤ a) (wo : wok w) (hz : hsz h ≤ 900000) {zs zp zq : Int} (s0 : hA h 985 0 = i32 zs) (s1 : hA h 985 1 = i32 zp) (s2 : hA h 985 2 = i32 zq) (b0 : 0 ≤ zs ∧ zs ≤ 9999) (b1 : 0 ≤ zp ∧ zp ≤ 9999) (b2 : 0 ≤ zq ∧ zq ≤ 9999) : ∃ g1 g2, fX9_start 114 (i32 w) h = some g1 ∧ CS g1 ∧ fX9_writeSetup 114 (some a) g1 = some g2 ∧ So So8 h g2 ∧ WC g2 w (hdT zs zp zq ++ suT F (fun n => sgm (Pt h) F n) (F 288).toNat 0 0) false := by
  have o1 := r0.tr.ov.1
  have o2 := r0.tr.ov.2.1
  obtain ⟨g1, a1, a2, a3⟩ := cstartw C0 w
  have C1 := C0.sk a2.1
  obtain ⟨g2, c1, c2, c3⟩ := ckeyword C1 a3 (by simp) wo (k := 0) (by omega)
  rw [show spT false = [] from rfl, List.nil_append, List.nil_append] at c3
  have q2 := a2.t c2
  have C2 := C0.sk q2.1
  have l1 := nm8 (kwv 0)
  obtain ⟨g3, d1, d2, d3⟩ := cnumber C2 c3 (by omega) wo b0.1 b0.2
  have q3 := q2.t d2
  have C3 := C0.sk q3.1
  have l2 := dg4 zs
  have st : spT true = [32] := rfl
  rw [st] at d3
  obtain ⟨g4, e1, e2, e3⟩ := cnumber C3 d3 (by simp only [List.length_append, List.length_singleton]; omega) wo b1.1 b1.2
  have q4 := q3.t e2
  have C4 := C0.sk q4.1
  have l3 := dg4 zp
  rw [st] at e3
  obtain ⟨g5, f1, f2, f3⟩ := cnumber C4 e3 (by simp only [List.length_append, List.length_singleton]; omega) wo b2.1 b2.2
  have q5 := q4.t f2
  have C5 := C0.sk q5.1
  have l4 := dg4 zq
  rw [st] at f3
  obtain ⟨g6, x1, x2, x3⟩ := cmark C5 f3 (by simp only [List.length_append, List.length_singleton]; omega) wo 59
  have q6 := q5.t x2
  have W6 : WC g6 w (hdT zs zp zq) false := by
    unfold hdT
    rw [List.append_assoc, List.append_assoc, List.append_assoc] at x3
    exact x3
  have hl : (hdT zs zp zq).length ≤ 30 := by
    have l5 := nm8 212557
    unfold hdT
    simp only [List.length_append, List.length_cons, List.length_nil]
    omega
  obtain ⟨g7, y1, y2, y3⟩ := cnodesT r0 S0 C0 ha wo hz lfM_tT (F 288).toNat FU 0 0 g6 _ (by omega) (by omega) (by omega) (by omega) (by have : FU = 1000000 := rfl; omega) q6 W6 (by omega)
  refine ⟨g1, g7, a1, C1, ?_, y2, y3⟩
  have na : ¬ So8 a := fun z => by unfold So8 at z; omega
  have i0 : ∀ g', So So8 h g' → hI g' 0 a = i32 zs ∧ hI g' 1 a = i32 zp ∧ hI g' 2 a = i32 zq := fun g' q' => by
    have sa := q'.2.2 a na
    exact ⟨(sa.1 0).trans (r0.2.2.1.trans s0), (sa.1 1).trans (r0.2.2.2.1.trans s1), (sa.1 2).trans (r0.2.2.2.2.trans s2)⟩
  unfold fX9_writeSetup
  rw [C1.o_writer, gd_tt]
  rw [show i32 (4 + ((0 : Nat) : Int)) = i32 4 from rfl] at c1
  rw [c1, bn_s, oc_s, (S0.sk q2.1).o, gd_tt, C2.o_writer, gd_tt, (i0 g2 q2).1, d1, bn_s, (S0.sk q3.1).o, gd_tt, C3.o_writer, gd_tt, (i0 g3 q3).2.1, e1, bn_s, (S0.sk q4.1).o, gd_tt, C4.o_writer, gd_tt, (i0 g4 q4).2.2, f1, bn_s, C5.o_writer, gd_tt, x1, bn_s]
  exact y1
end

