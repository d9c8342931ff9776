/-! THE MODEL TELLS A WHOLE CONDITION -/
section
variable {h g : HP} {F : Int → Int} {w : Int} {T : List Int}
/-- two parts are planned -/
theorem mbin (M : MS g) {s k iB : Nat} (hs : hI g 752 983 = i32 (s : Int)) (s6 : s + 3 ≤ 600) (k1 : 1 ≤ k) (k6 : k ≤ 600) (b1 : 1 ≤ iB) (b6 : iB ≤ 600) (hp : hA g 1005 (k - 1) = i32 (iB : Int)) {o : Nat} (ho : o = 1 ∨ o = 2) (ins : Bool) : ∃ g', jX11_saysPart_105 983 (i32 (k : Int)) (i32 (o : Int)) ins g = some g' ∧ Mo LQ g g' ∧ hI g' 752 983 = i32 ((s + 3 : Nat) : Int) ∧ (hA g' 1006 s = i32 ((k : Int) - 1) ∧ hA g' 1007 s = bI ins) ∧ hA g' 1006 (s + 1) = i32 (if o = 1 then -2 else -1) ∧ (hA g' 1006 (s + 2) = i32 ((iB : Int) - 1) ∧ hA g' 1007 (s + 2) = bI ins) ∧ (∀ j, j < s → hA g' 1006 j = hA g 1006 j ∧ hA g' 1007 j = hA g 1007 j) ∧ ∀ T, WM g w T 1000000 → WM g' w T 1000000 := by
  obtain ⟨g1, a1, a2, a3, a4, a5, a6, a7⟩ := mplans (w := w) M hs (by omega) (i32 ((k : Int) - 1)) (bI ins)
  have M1 := a2.ms M
  obtain ⟨g2, b1', b2, b3, b4, b5, b6', b7⟩ := mplans (w := w) M1 a3 (by omega) (i32 (if o = 1 then -2 else -1)) (i32 0)
  have M2 := b2.ms M1
  have hp2 : hA g2 1005 (k - 1) = i32 (iB : Int) := by rw [b2.A (by decide), a2.A (by decide)]; exact hp
  obtain ⟨g3, c1, c2, c3, c4, c5, c6, c7⟩ := mplans (w := w) M2 b3 (by omega) (i32 ((iB : Int) - 1)) (bI ins)
  have e127 : jX11_saysPart_127 983 (i32 (k : Int)) ins (i32 (if o = 1 then -2 else -1)) 983 g1 = some g3 := by
    unfold jX11_saysPart_127
    rw [M1.o, gd_tt, b1', bn_s, M2.o, gd_tt, M2.r_partFrom, oc_s, M2.o_partFrom, gd_tt, M2.n_partFrom, i32_sub, i32_inb (by omega) (by omega) (by omega), gd_tt, i32_cn (by omega) (by omega), show ((k : Int) - 1).toNat = k - 1 by omega, hp2, i32_sub, c1, bn_s]
  refine ⟨g3, ?_, a2.t (b2.t c2), c3, ⟨?_, ?_⟩, ?_, ⟨c4, c5⟩, fun j hj => ⟨?_, ?_⟩, fun T W => c7 T (b7 T (a7 T W))⟩
  · unfold jX11_saysPart_105
    rw [M.o, gd_tt, i32_sub, a1, bn_s]
    rcases ho with rfl | rfl
    · rw [if_pos (show i32 ((1 : Nat) : Int) = i32 1 from rfl)]
      rw [if_pos rfl] at e127
      exact e127
    · rw [if_neg (show ¬ i32 ((2 : Nat) : Int) = i32 1 by decide)]
      rw [if_neg (by decide)] at e127
      exact e127
  · rw [(c6 s (by omega)).1, (b6' s (by omega)).1]; exact a4
  · rw [(c6 s (by omega)).2, (b6' s (by omega)).2]; exact a5
  · rw [(c6 (s + 1) (by omega)).1]; exact b4
  · rw [(c6 j (by omega)).1, (b6' j (by omega)).1, (a6 j (by omega)).1]
  · rw [(c6 j (by omega)).2, (b6' j (by omega)).2, (a6 j (by omega)).2]
theorem msp {o wh : Nat} (ho : o = 1 ∨ o = 2) (hw : wh ≤ 2) (k : Int32) : fX11_saysPart 983 (opM o) k (i32 (wh : Int)) g = jX11_saysPart_79 983 k (i32 (o : Int)) (decide (wh = 2 ∨ (o = 2 ∧ wh = 1))) (decide (o = 1)) g := by
  rcases ho with rfl | rfl <;> rcases (show wh = 0 ∨ wh = 1 ∨ wh = 2 by omega) with rfl | rfl | rfl <;> rfl
theorem jnT_ins (o : Nat) : (if o = 1 then (1 : Int) else 0) = ((if o = 1 then 1 else 0 : Nat) : Int) := by split <;> rfl
/-- the model works off a planned condition -/
theorem m113 (M : MS h) (eW : Wm h = F) (nm : NMs F) (wo : wok w) {fr N : Nat} (hN : N ≤ 480) (hfr : fr + N ≤ 12000) : ∀ (n : Nat) (L : List Int32) (i s wh : Nat) (g : HP) (T : List Int), GP (hA h 1005) n i L → SGp h fr i L → (∀ e ∈ L, tkOk F e) → i + L.length ≤ N → 4 * s + 5 * L.length + 2 * wh ≤ 2400 → wh ≤ 2 → Mo LQ h g → WM g w T 1000000 → T.length + 24 * L.length + 10 ≤ 900000 → hI g 752 983 = i32 ((s + 1 : Nat) : Int) → hA g 1006 s = i32 ((i + L.length : Nat) - 1 : Int) → hA g 1007 s = i32 (wh : Int) → ∃ c g', c ≤ 3 * L.length ∧ (∀ m, lX11_saysCondition_113 (m + c) 983 (i32 (fr : Int)) g = lX11_saysCondition_113 m 983 (i32 (fr : Int)) g') ∧ Mo LQ h g' ∧ WM g' w (T ++ wrp (wh : Int) (txc F L)) 1000000 ∧ hI g' 752 983 = i32 (s : Int) ∧ ∀ j, j < s → hA g' 1006 j = hA g 1006 j ∧ hA g' 1007 j = hA g 1007 j := by
  have wnn : ∀ {g : HP}, Mo LQ h g → Wm g = F := fun q => by rw [← eW]; funext j; unfold Wm; rw [q.L (by decide)]
  intro n
  induction n with
  | zero => intro L i s wh g T z; exact z.elim
  | succ n ih =>
    intro L i s wh g T z sg tk iN bd w2 q W le hs h6 h7
    have l1 := GB_len _ _ (GP_GB _ _ _ z)
    have tx := GB_txc (F := F) _ _ (GP_GB _ _ _ z)
    obtain ⟨pfe, z⟩ := z
    have Mg := q.ms M
    -- the entry
    have ent : ∀ (k : Nat) (x : Int32), k + 1 = i + L.length → hA h 990 (fr + k) = x → ∃ g1, Mo LQ h g1 ∧ MS g1 ∧ hI g1 752 983 = i32 (s : Int) ∧ (∀ j, hA g1 1006 j = hA g 1006 j ∧ hA g1 1007 j = hA g 1007 j) ∧ WM g1 w T 1000000 ∧ ∀ m, lX11_saysCondition_113 (m + 1) 983 (i32 (fr : Int)) g = (bn (fX11_saysPart 983 x (i32 (k : Int)) (i32 (wh : Int)) g1) fun h117 => lX11_saysCondition_113 m 983 (i32 (fr : Int)) h117) := fun k x ek ex => by
      have hx : hA g 1006 s = i32 (k : Int) := by rw [h6]; congr 1; omega
      obtain ⟨g1, e1, a1, a2, a3, a4, _⟩ := mpop (w := w) (fr := fr) Mg hs (by omega) 0 hx
      refine ⟨g1, q.t a1, a1.ms Mg, a2, a3, a4 T W, fun m => ?_⟩
      obtain ⟨g1', e1', _, _, _, _, a5⟩ := mpop (w := w) (fr := fr) Mg hs (by omega) m hx
      have : g1' = g1 := by rw [e1, e1']
      subst this
      rw [a5, if_pos (by rw [i32_z, i32_le (by omega) (by omega) (by omega) (by omega)]; omega), i32_add, i32_inb (by omega) (by omega) (by omega), gd_tt, i32_cn (by omega) (by omega), a1.A (by decide), q.A (by decide), show ((fr : Int) + (k : Int)).toNat = fr + k by omega, ex, (a3 s).2, h7]
    rcases z with ⟨f, s', v, f0, f1, s0, s1, v0, v1, rfl⟩ | ⟨L', z, rfl⟩ | ⟨o, A, B, ho, z1, z2, rfl⟩
    · -- a test
      have e0 : hA h 990 (fr + i) = i32 (tcd f s' v) := sg 0 _ rfl
      obtain ⟨g1, q1, M1, a2, a3, W1, a5⟩ := ent i _ rfl e0
      have fp : F f ≠ -1 := by
        obtain ⟨d1, _, _⟩ := dec_tcd f0 f1 s0 s1 v0 v1
        rcases tk _ (List.mem_singleton.mpr rfl) with ⟨f', s'', v', f0', f1', fp, s0', s1', v0', v1', e⟩ | z | z | z
        · obtain ⟨d1', _, _⟩ := dec_tcd f0' f1' s0' s1' v0' v1'
          rw [← e, d1] at d1'
          rw [d1']; exact fp
        · have := tT_c f0 (by omega) s0 s1 v0 v1; rw [z] at this; exact absurd this (by decide)
        · have := tT_c f0 (by omega) s0 s1 v0 v1; rw [z] at this; exact absurd this (by decide)
        · have := tT_c f0 (by omega) s0 s1 v0 v1; rw [z] at this; exact absurd this (by decide)
      obtain ⟨g2, b1, b2, b3⟩ := mtest M1 (wnn q1) nm W1 wo f0 f1 s0 s1 v0 v1 fp (by rw [List.length_singleton] at le; omega)
      have et : txc F [i32 (tcd f s' v)] = (tsT F (i32 (tcd f s' v)), 0) := txc_of (fun st => by rw [rpT_one]; unfold stT; rw [if_pos (tT_c f0 (by omega) s0 s1 v0 v1)])
      refine ⟨1, g2, by rw [List.length_singleton]; omega, fun m => ?_, q1.t (b2.w l8Q), ?_, by rw [b2.I (by decide)]; exact a2, fun j hj => by rw [b2.A (by decide), b2.A (by decide)]; exact a3 j⟩
      · rw [a5 m]
        have so : fX11_sortOf (i32 (tcd f s' v)) g1 = some (i32 0) := by unfold fX11_sortOf; rw [sort_c f0 (by omega) s0 s1 v0 v1]
        unfold fX11_saysPart
        rw [so, bn_s, if_pos (show i32 0 = 0 from rfl), M1.o, gd_tt, b1, bn_s, bn_s]
      · rw [et]
        have : wrp (wh : Int) (tsT F (i32 (tcd f s' v)), 0) = tsT F (i32 (tcd f s' v)) := by
          unfold wrp
          rw [if_neg (by simp)]
        rw [this]; exact b3
    · -- a not
      rw [List.length_append, List.length_singleton] at iN bd le
      have e0 : hA h 990 (fr + (i + L'.length)) = opM 3 := sg.r 0 _ rfl
      obtain ⟨g1, q1, M1, a2, a3, W1, a5⟩ := ent (i + L'.length) _ (by rw [List.length_append, List.length_singleton]; omega) e0
      have kl := kwl.1
      obtain ⟨g2, b1, b2, b3⟩ := msay1 M1 W1 wo (by omega) 32
      have M2 := b2.ms M1
      obtain ⟨g3, c1, c2, c3⟩ := mword1 M2 b3 wo (nm := 14836) (by omega) (by omega) (by rw [List.length_append, List.length_singleton]; omega)
      have M3 := c2.ms M2
      have q3 := q1.t ((b2.w l8Q).t (c2.w l8Q))
      have h3 : hI g3 752 983 = i32 (s : Int) := by rw [c2.I (by decide), b2.I (by decide)]; exact a2
      obtain ⟨g4, d1, d2, d3, d4, d5, d6, d7⟩ := mplans (w := w) M3 h3 (by omega) (i32 ((i + L'.length : Nat) - 1 : Int)) (i32 2)
      obtain ⟨c, g5, x1, x2, x3, x4, x5, x6⟩ := ih L' i s 2 g4 _ z sg.l (fun e he => tk e (List.mem_append_left _ he)) (by omega) (by omega) (by omega) (q3.t d2) (d7 _ c3) (by simp only [List.length_append, List.length_singleton]; omega) d3 d4 d5
      have et : txc F (L' ++ [opM 3]) = ngT (txc F L') := txc_of (fun st => by rw [rpT_app, GB_txc _ _ (GP_GB _ _ _ z), rpT_one, stT_not])
      refine ⟨c + 1, g5, by rw [List.length_append, List.length_singleton]; omega, fun m => ?_, x3, ?_, x5, fun j hj => ?_⟩
      · rw [show m + (c + 1) = (m + c) + 1 by omega, a5 (m + c)]
        have so : fX11_sortOf (opM 3) g1 = some (i32 3) := by unfold fX11_sortOf; rfl
        unfold fX11_saysPart
        rw [so, bn_s, if_neg (show ¬ i32 3 = 0 by decide), if_pos rfl, M1.o, gd_tt, b1, bn_s, M2.o, gd_tt, c1, bn_s, M3.o, gd_tt, i32_sub, d1, bn_s, bn_s]
        exact x2 m
      · rw [et]
        have : wrp (wh : Int) (ngT (txc F L')) = (ngT (txc F L')).1 := by
          unfold wrp ngT
          rw [if_neg (by simp)]
        rw [this]
        rw [List.append_assoc, List.append_assoc] at x4
        exact x4
      · rw [(x6 j hj).1, (x6 j hj).2, (d6 j (by omega)).1, (d6 j (by omega)).2, c2.A (by decide), c2.A (by decide), b2.A (by decide), b2.A (by decide)]
        exact a3 j
    · -- two parts
      have lA := GB_len _ _ (GP_GB _ _ _ z1)
      have lB := GB_len _ _ (GP_GB _ _ _ z2)
      have tA := GB_txc (F := F) _ _ (GP_GB _ _ _ z1)
      have tB := GB_txc (F := F) _ _ (GP_GB _ _ _ z2)
      have sA := txc_len tA
      have sB := txc_len tB
      have el : (A ++ (B ++ [opM o])).length = A.length + (B.length + 1) := by rw [List.length_append, List.length_append, List.length_singleton]
      rw [el] at iN bd le l1
      obtain ⟨k, ek⟩ : ∃ k, k = i + A.length + B.length := ⟨_, rfl⟩
      have e0 : hA h 990 (fr + k) = opM o := by rw [ek]; exact sg.r.r 0 _ rfl
      obtain ⟨g1, q1, M1, a2, a3, W1, a5⟩ := ent k _ (by rw [el]; omega) e0
      have pB : hA h 1005 (k - 1) = i32 ((i + A.length : Nat) : Int) := by
        cases n with
        | zero => exact z2.elim
        | succ n =>
          have := z2.1
          rw [ek, show i + A.length + B.length - 1 = (i + A.length) + B.length - 1 by omega]; exact this
      obtain ⟨wi, ewi⟩ : ∃ wi : Nat, wi = (if o = 1 then 1 else 0) := ⟨_, rfl⟩
      have wi1 : wi ≤ 1 := by rw [ewi]; split <;> omega
      have ins : bI (decide (o = 1)) = i32 (wi : Int) := by
        rw [ewi]
        rcases ho with rfl | rfl <;> rfl
      have wil := wrp_len (wi : Int) (txc F A)
      have wrl := wrp_len (wi : Int) (txc F B)
      have k3 := kw3 o
      have kwn : 0 < (if o = 1 then (1476 : Int) else 498) ∧ (if o = 1 then (1476 : Int) else 498) < 1099511627776 := by split <;> omega
      have et : txc F (A ++ (B ++ [opM o])) = jnT o (txc F A) (txc F B) := txc_of (fun st => by rw [rpT_app, rpT_app, tA, tB, rpT_one, stT_op ho])
      have ej : (jnT o (txc F A) (txc F B)).1 = wrp (wi : Int) (txc F A) ++ ((32 :: nmT (if o = 1 then 1476 else 498)) ++ wrp (wi : Int) (txc F B)) := by
        unfold jnT
        rw [jnT_ins, ← ewi]
      -- both parts, planned above s'
      have rest : ∀ (s' : Nat) (g2 : HP) (T2 : List Int), Mo LQ h g2 → WM g2 w T2 1000000 → hI g2 752 983 = i32 (s' : Int) → s' + 3 ≤ 600 → 4 * (s' + 2) + 5 * A.length + 2 * wi ≤ 2400 → 4 * s' + 5 * B.length + 2 * wi ≤ 2400 → T2.length ≤ T.length + 2 → ∃ g3 c g', jX11_saysPart_105 983 (i32 (k : Int)) (i32 (o : Int)) (decide (o = 1)) g2 = some g3 ∧ c ≤ 3 * A.length + 3 * B.length + 1 ∧ (∀ m, lX11_saysCondition_113 (m + c) 983 (i32 (fr : Int)) g3 = lX11_saysCondition_113 m 983 (i32 (fr : Int)) g') ∧ Mo LQ h g' ∧ WM g' w (T2 ++ (jnT o (txc F A) (txc F B)).1) 1000000 ∧ hI g' 752 983 = i32 (s' : Int) ∧ ∀ j, j < s' → hA g' 1006 j = hA g2 1006 j ∧ hA g' 1007 j = hA g2 1007 j := fun s' g2 T2 q2 W2 h2 c1 c2 c3 c4 => by
        have M2 := q2.ms M
        obtain ⟨g3, x1, x2, x3, ⟨x4, x5⟩, x6, ⟨x7, x8⟩, x9, x10⟩ := mbin (w := w) M2 h2 c1 (k := k) (iB := i + A.length) (by omega) (by omega) (by omega) (by omega) (by rw [q2.A (by decide)]; exact pB) ho (decide (o = 1))
        rw [ins] at x5 x8
        obtain ⟨cA, g4, y1, y2, y3, y4, y5, y6⟩ := ih A i (s' + 2) wi g3 T2 z1 sg.l (fun e he => tk e (List.mem_append_left _ he)) (by omega) (by omega) (by omega) (q2.t x2) (x10 _ W2) (by omega) x3 x7 x8
        have M4 := y3.ms M
        -- the word between them
        have hx : hA g4 1006 (s' + 1) = i32 (if o = 1 then -2 else -1) := by rw [(y6 (s' + 1) (by omega)).1]; exact x6
        obtain ⟨g5, e5, u1, u2, u3, u4, _⟩ := mpop (w := w) (fr := fr) M4 y5 (by omega) 0 hx
        have M5 := u1.ms M4
        obtain ⟨g6, v1, v2, v3⟩ := msay1 M5 (u4 _ y4) wo (by rw [List.length_append]; omega) 32
        have M6 := v2.ms M5
        obtain ⟨g7, r1, r2, r3⟩ := mword1 M6 v3 wo kwn.1 kwn.2 (by simp only [List.length_append, List.length_singleton]; omega)
        have q7 := y3.t (u1.t ((v2.w l8Q).t (r2.w l8Q)))
        have n7 : ∀ j, hA g7 1006 j = hA g4 1006 j ∧ hA g7 1007 j = hA g4 1007 j := fun j => by
          rw [r2.A (by decide), r2.A (by decide), v2.A (by decide), v2.A (by decide)]; exact u3 j
        have st7 : ∀ m, lX11_saysCondition_113 (m + 1) 983 (i32 (fr : Int)) g4 = lX11_saysCondition_113 m 983 (i32 (fr : Int)) g7 := fun m => by
          obtain ⟨g5', e5', _, _, _, _, u5⟩ := mpop (w := w) (fr := fr) M4 y5 (by omega) m hx
          have : g5' = g5 := by rw [e5, e5']
          subst this
          rw [u5]
          rcases ho with rfl | rfl
          · rw [if_pos rfl] at r1 ⊢
            rw [if_neg (by decide), v1, bn_s, if_neg (by decide), if_neg (by decide), M6.o, gd_tt, r1, bn_s]
          · rw [if_neg (by decide)] at r1 ⊢
            rw [if_neg (by decide), v1, bn_s, if_neg (by decide), if_pos rfl, M6.o, gd_tt, r1, bn_s]
        obtain ⟨cB, g8, z1', z2', z3', z4', z5', z6'⟩ := ih B (i + A.length) s' wi g7 _ z2 sg.r.l (fun e he => tk e (List.mem_append_right _ (List.mem_append_left _ he))) (by omega) c3 (by omega) q7 r3 (by simp only [List.length_append, List.length_singleton]; omega) (by rw [r2.I (by decide), v2.I (by decide)]; exact u2) (by rw [(n7 s').1, (y6 s' (by omega)).1, x4, ek]) (by rw [(n7 s').2, (y6 s' (by omega)).2]; exact x5)
        refine ⟨g3, cB + 1 + cA, g8, x1, by omega, fun m => ?_, z3', ?_, z5', fun j hj => ?_⟩
        · rw [show m + (cB + 1 + cA) = (m + cB + 1) + cA by omega, y2, st7, z2']
        · rw [ej]
          rw [List.append_assoc, List.append_assoc, List.append_assoc] at z4'
          exact z4'
        · rw [(z6' j hj).1, (z6' j hj).2, (n7 j).1, (n7 j).2, (y6 j (by omega)).1, (y6 j (by omega)).2]
          exact x9 j hj
      have pP : (wh = 2 ∨ (o = 2 ∧ wh = 1)) ↔ (((wh : Int) = 2 ∧ ((jnT o (txc F A) (txc F B)).2 = 1 ∨ (jnT o (txc F A) (txc F B)).2 = 2)) ∨ ((wh : Int) = 1 ∧ (jnT o (txc F A) (txc F B)).2 = 2)) := by
        have : (jnT o (txc F A) (txc F B)).2 = (o : Int) := rfl
        rw [this]
        omega
      by_cases hP : wh = 2 ∨ (o = 2 ∧ wh = 1)
      · -- in parentheses
        have wi2 : o = 2 → wi = 0 := fun z => by rw [ewi, z]; rfl
        obtain ⟨g2, b1, b2, b3⟩ := msay1 M1 W1 wo (by omega) 32
        have M2 := b2.ms M1
        obtain ⟨g3, c1, c2, c3⟩ := msay1 M2 b3 wo (by rw [List.length_append, List.length_singleton]; omega) 40
        have M3 := c2.ms M2
        have q3 := q1.t ((b2.w l8Q).t (c2.w l8Q))
        have h3 : hI g3 752 983 = i32 (s : Int) := by rw [c2.I (by decide), b2.I (by decide)]; exact a2
        obtain ⟨g4, d1, d2, d3, d4, d5, d6, d7⟩ := mplans (w := w) M3 h3 (by omega) (i32 (-3)) (i32 0)
        obtain ⟨g5, c, g6, x1, x2, x3, x4, x5, x6, x7⟩ := rest (s + 1) g4 _ (q3.t d2) (d7 _ c3) d3 (by omega) (by omega) (by omega) (by simp only [List.length_append, List.length_singleton]; omega)
        have M6 := x4.ms M
        have jl : (jnT o (txc F A) (txc F B)).1.length ≤ 20 * A.length + 20 * B.length + 12 := by
          rw [ej]
          simp only [List.length_append, List.length_cons]
          omega
        have hx : hA g6 1006 s = i32 (-3) := by rw [(x7 s (by omega)).1]; exact d4
        obtain ⟨g7, e7, u1, u2, u3, u4, _⟩ := mpop (w := w) (fr := fr) M6 x6 (by omega) 0 hx
        have M7 := u1.ms M6
        obtain ⟨g8, v1, v2, v3⟩ := msay1 M7 (u4 _ x5) wo (by simp only [List.length_append, List.length_singleton]; omega) 32
        have M8 := v2.ms M7
        obtain ⟨g9, r1, r2, r3⟩ := msay1 M8 v3 wo (by simp only [List.length_append, List.length_singleton]; omega) 41
        refine ⟨1 + c + 1, g9, by rw [el]; omega, fun m => ?_, x4.t (u1.t ((v2.w l8Q).t (r2.w l8Q))), ?_, by rw [r2.I (by decide), v2.I (by decide)]; exact u2, fun j hj => ?_⟩
        · rw [show m + (1 + c + 1) = (m + 1 + c) + 1 by omega, a5, msp ho w2, decide_eq_true hP]
          unfold jX11_saysPart_79
          rw [if_pos rfl, M1.o, gd_tt, b1, bn_s, M2.o, gd_tt, c1, bn_s, M3.o, gd_tt, d1, bn_s, x1, bn_s, x3 (m + 1)]
          obtain ⟨g7', e7', _, _, _, _, u5⟩ := mpop (w := w) (fr := fr) M6 x6 (by omega) m hx
          have : g7' = g7 := by rw [e7, e7']
          subst this
          rw [u5, if_neg (by decide), v1, bn_s, if_pos rfl, M8.o, gd_tt, r1, bn_s]
        · rw [et]
          have : wrp (wh : Int) (jnT o (txc F A) (txc F B)) = prn (jnT o (txc F A) (txc F B)).1 := by unfold wrp; rw [if_pos (pP.mp hP)]
          rw [this]
          unfold prn
          simp only [List.append_assoc] at r3 ⊢
          exact r3
        · rw [r2.A (by decide), r2.A (by decide), v2.A (by decide), v2.A (by decide), (u3 j).1, (u3 j).2, (x7 j (by omega)).1, (x7 j (by omega)).2, (d6 j (by omega)).1, (d6 j (by omega)).2, c2.A (by decide), c2.A (by decide), b2.A (by decide), b2.A (by decide)]
          exact a3 j
      · obtain ⟨g5, c, g6, x1, x2, x3, x4, x5, x6, x7⟩ := rest s g1 T q1 W1 a2 (by omega) (by omega) (by omega) (by omega)
        refine ⟨c + 1, g6, by rw [el]; omega, fun m => ?_, x4, ?_, x6, fun j hj => ?_⟩
        · rw [show m + (c + 1) = (m + c) + 1 by omega, a5, msp ho w2, decide_eq_false hP]
          unfold jX11_saysPart_79
          rw [if_neg (by decide), x1, bn_s, x3 m]
        · rw [et]
          have : wrp (wh : Int) (jnT o (txc F A) (txc F B)) = (jnT o (txc F A) (txc F B)).1 := by unfold wrp; rw [if_neg (fun z => hP (pP.mpr z))]
          rw [this]; exact x5
        · rw [(x7 j hj).1, (x7 j hj).2]
          exact a3 j
/-- the model tells a node's condition -/
theorem msaysCond (M : MS g) (eW : Wm g = F) (nm : NMs F) (wo : wok w) {nd : Int} (n0 : 0 ≤ nd) (n1 : nd < 32) {L : List Int32} {fr : Nat} (e1 : F (192 + nd) = (fr : Int)) (e2 : F (224 + nd) = (L.length : Int)) (hN : L.length ≤ 480) (hfr : fr + L.length ≤ 12000) {d : Nat} (gl : GLt d L) (sg : SGp g fr 0 L) (tk : ∀ e ∈ L, tkOk F e) (W : WM g w T 1000000) (le : T.length + 24 * L.length + 10 ≤ 900000) : ∃ g', fX11_saysCondition 983 (i32 nd) g = some g' ∧ Mo L9 g g' ∧ WM g' w (T ++ (txc F L).1) 1000000 := by
  obtain ⟨n, gb⟩ := GB_of d L gl
  have l1 := GB_len _ _ gb
  obtain ⟨g1, a1, a2, a3, a4, a5⟩ := m23 (K := fun w6 w7 w8 h9 => gd (isO h9 w6 11) <| lt (sI h9 752 w6 (i32 0)) fun h11 => bn (fX11_plans w6 (w8 - (i32 1)) (i32 0) h11) fun h13 => lX11_saysCondition_113 FU w6 w7 h13) (N := L.length) M hN hfr n L 0 g gb sg (by omega) Mo.r
  have M1 := a2.ms M
  obtain ⟨g2, e2'⟩ : ∃ g2, g2 = sI g1 752 983 (i32 0) := ⟨_, rfl⟩
  have p2 : Mo LQ g1 g2 := by rw [e2']; exact Mo_I (by decide) _
  have M2 := p2.ms M1
  have h2 : hI g2 752 983 = i32 ((0 : Nat) : Int) := by rw [e2', rII, if_pos ⟨rfl, rfl⟩]; rfl
  obtain ⟨g3, b1, b2, b3, b4, b5, b6, b7⟩ := mplans (w := w) M2 h2 (by omega) (i32 ((L.length : Int) - 1)) (i32 0)
  have M3 := b2.ms M2
  have W3 : WM g3 w T 1000000 := b7 _ (by
    obtain ⟨u1, u2, u3, u4, u5⟩ := W
    exact ⟨by rw [e2', rII, if_neg (by omega), a2.I (by decide)]; exact u1, by rw [e2', rII, if_neg (by omega), a2.I (by decide)]; exact u2, by rw [e2', rII, if_neg (by omega), a2.I (by decide)]; exact u3, by rw [e2', rII, if_neg (by omega), a2.I (by decide)]; exact u4, u5⟩)
  have q3 : Mo LQ g1 g3 := p2.t b2
  have eW1 : Wm g1 = F := by rw [← eW]; funext j; unfold Wm; rw [a2.L (by decide)]
  have sg1 : SGp g1 fr 0 L := fun j x e => by rw [a2.A (by decide)]; exact sg j x e
  obtain ⟨c, g4, c1, c2, c3, c4, c5, _⟩ := m113 M1 eW1 nm wo hN hfr n L 0 0 0 g3 T (a5 _ (fun j _ _ => rfl)) sg1 tk (by omega) (by omega) (by omega) q3 W3 le b3 (by rw [b4, Nat.zero_add]) b5
  have M4 := c3.ms M1
  refine ⟨g4, ?_, (a2.w (by decide)).t (c3.w lQ9), ?_⟩
  · unfold fX11_saysCondition
    rw [M.o, gd_tt, show (i32 0) = i32 (0 : Int) from rfl, of_s M (by omega) (by omega), bn_s, of_s M (by omega) (by omega), bn_s, Fm0, eW, e1, e2]
    have s1 := a1 (FU - L.length)
    rw [show FU - L.length + L.length = FU by have : FU = 1000000 := rfl; omega] at s1
    refine s1.trans ?_
    obtain ⟨x, hx⟩ : ∃ x, FU - L.length = x + 1 := ⟨FU - L.length - 1, by have : FU = 1000000 := rfl; omega⟩
    rw [hx, elX11_saysCondition_23]; unfold bX11_saysCondition_23
    rw [Nat.zero_add, if_pos (by rw [i32_le (by omega) (by omega) (by omega) (by omega)]; omega)]
    show (gd (isO g1 983 11) <| lt (sI g1 752 983 (i32 0)) fun h11 => bn (fX11_plans 983 (i32 (L.length : Int) - (i32 1)) (i32 0) h11) fun h13 => lX11_saysCondition_113 FU 983 (i32 (fr : Int)) h13) = some g4
    rw [M1.o, gd_tt, ← e2', lt_e, i32_sub, b1, bn_s]
    have s2 := c2 (FU - c)
    rw [show FU - c + c = FU by have : FU = 1000000 := rfl; omega] at s2
    refine s2.trans ?_
    obtain ⟨y, hy⟩ : ∃ y, FU - c = y + 1 := ⟨FU - c - 1, by have : FU = 1000000 := rfl; omega⟩
    rw [hy, elX11_saysCondition_113]; unfold bX11_saysCondition_113
    rw [M4.o, gd_tt, c5, if_pos (by decide)]
  · have : wrp ((0 : Nat) : Int) (txc F L) = (txc F L).1 := by
      unfold wrp
      rw [if_neg (by simp)]
    rw [this] at c4
    exact c4
end

