section
variable {b : Int → Int} {n : Int} {was : Nat} {node : Int}
theorem TopL_nil (r : Int) : TopL r [] := fun V w e => by
  have := congrArg List.length e
  simp at this
/-- a condition's reading ends as it should -/
theorem K1_ok {g : HP} {j : Nat} {S : List TS} {X LL : List Int} {fr : Int} (P : MCs g b n was j S X LL) (ox : okD X) (pb : (was : Int) + LL.length + 3 ≤ 12000) (h0 : 0 ≤ node) (h1 : node < 32) (f0 : 0 ≤ fr) (f1 : fr ≤ 12000) : ∃ gf, K1x 983 (i32 node) (i32 fr) g = some gf ∧ Mo (987 :: lcC) g gf ∧ MQt gf b n j ∧ SDm gf S ∧ PLm gf was S (LL ++ X.reverse) ∧ (∀ k, 0 ≤ k → Wm gf k = if k = 192 + node then fr else if k = 224 + node then (was : Int) + ((LL ++ X.reverse).length : Int) - fr else Wm g k) ∧ ∀ i : Nat, i < was → hA gf 990 i = hA g 990 i := by
  obtain ⟨xl, x4, xn, xp⟩ := okD_4 ox
  obtain ⟨p1, p2, p3, p4, p5, p6⟩ := P
  have hs : stl 1 X = ([], X.reverse) := by have := stl1_D (TopL_nil 1) ox; simpa using this
  obtain ⟨gf, e, q, a1, a2, a3, a4⟩ := K1_end p1.ms p4 (by omega) p3.1 (by omega) (by omega) h0 h1 f0 f1
  rw [hs] at a1 a2 a4
  simp only at a1 a2 a4
  have x3 : ∀ w ∈ X.reverse, w < 4 := fun w hw => by
    rw [List.mem_reverse] at hw
    rcases ox with ox | ox | ox | ox <;> subst ox <;> simp at hw <;> omega
  refine ⟨gf, ?_, q.w (by decide), p1.mo q (by decide), ⟨(q.I (by decide)).trans p2.1, fun k x hk => ?_⟩, PLm_ops p3 a1 a3 a4 (q.A (by decide)) x3, fun k k0 => ?_, fun i hi => a3 i (by omega)⟩
  · unfold K1x
    rw [p1.ms.o, gd_tt, p6, xp, if_pos (by rfl)]
    unfold jX11_readCondition_196
    rw [p1.ms.o, gd_tt, takes1_t p1.ms, bn_s, p1.ms.o, gd_tt]
    exact e
  · rw [q.L (by decide), q.A (by decide), q.A (by decide)]; exact p2.2 k x hk
  · rw [a2 k k0, List.length_append]
    congr 2
    simp only [List.length_reverse]; omega
/-- the model reads a condition -/
theorem readCond_s {g : HP} {j : Nat} {S : List TS} {LL : List Int} (n0 : 0 ≤ n) (n1 : n ≤ 1200) (h0 : 0 ≤ node) (h1 : node < 32) (Q : MQt g b n j) (D : SDm g S) (PL : PLm g was S LL) (B : MB b n was j S [] LL) :
  ((pcond (tkn b n) node j S).1 = true → ∃ gf, fX11_readCondition 983 (i32 node) g = some gf ∧ Mo (987 :: lcC) g gf ∧ MQt gf b n (pcond (tkn b n) node j S).2.1 ∧ SDm gf (pcond (tkn b n) node j S).2.2.1 ∧ PLm gf was (pcond (tkn b n) node j S).2.2.1 (LL ++ (pcond (tkn b n) node j S).2.2.2) ∧ (∀ k, 0 ≤ k → Wm gf k = if k = 192 + node then (was : Int) + LL.length else if k = 224 + node then ((pcond (tkn b n) node j S).2.2.2.length : Int) else Wm g k) ∧ ∀ i : Nat, i < was → hA gf 990 i = hA g 990 i) ∧
  ((pcond (tkn b n) node j S).1 = false → ∃ gf, fX11_readCondition 983 (i32 node) g = some gf ∧ FF was g gf node (was + LL.length) (was + LL.length) (tS b n (pcond (tkn b n) node j S).2.1)) := by
  have sn := tS_n (b := b) n0 j
  have FUe : FU = 999999 + 1 := rfl
  obtain ⟨g3, e3⟩ : ∃ g3, g3 = sI g 728 983 (i32 0) := ⟨_, rfl⟩
  obtain ⟨g4, e4⟩ : ∃ g4, g4 = sI g3 729 983 (i32 0) := ⟨_, rfl⟩
  obtain ⟨g5, e5⟩ : ∃ g5, g5 = sI g4 730 983 (i32 0) := ⟨_, rfl⟩
  have m5 : Mo [728, 729, 730] g g5 := by rw [e5, e4, e3]; exact ((Mo_I (by decide) _).t (Mo_I (by decide) _)).t (Mo_I (by decide) _)
  have P5 : MCs g5 b n was j S [] LL := by
    refine ⟨Q.mo m5 (by decide), ⟨(m5.I (by decide)).trans D.1, fun k x hk => ?_⟩, ⟨(m5.I (by decide)).trans PL.1, fun i e he => ?_⟩, ⟨?_, fun k w hk => by simp at hk⟩, ?_, ?_⟩
    · rw [m5.L (by decide), m5.A (by decide), m5.A (by decide)]; exact D.2 k x hk
    · have := PLi_S (X := []) (g' := g5) (PL.2 i e he) (by rw [m5.A (by decide)]) (fun k _ => by rw [m5.A (by decide)])
      rwa [List.append_nil] at this
    · rw [e5, rII, if_neg (by decide), e4, rII, if_neg (by decide), e3, rII, if_pos ⟨rfl, rfl⟩]; rfl
    · rw [e5, rII, if_neg (by decide), e4, rII, if_pos ⟨rfl, rfl⟩]; rfl
    · rw [e5, rII, if_pos ⟨rfl, rfl⟩]; rfl
  have hf : fX11_readCondition 983 (i32 node) g = K22 FU 983 (i32 node) (i32 (was + LL.length)) true g5 := by
    unfold fX11_readCondition
    rw [Q.ms.o, gd_tt, lt_e, lt_e, ← e3, lt_e, ← e4, lt_e, ← e5, PL.1]
    rfl
  have B' := B
  obtain ⟨b1, b2, b3, b4⟩ := B'
  have ea : K22 FU 983 (i32 node) (i32 (was + LL.length)) true g5 = aA 999999 FU (i32 node) (i32 (was + LL.length)) g5 := aA_0 999999 _ _ g5 P5.1.ms P5.1.fn
  have f1 : (was : Int) + LL.length ≤ 12000 := by simp at b4; omega
  have sT := simT_all (b := b) (was := was) (fr := was + LL.length) n0 n1 h0 h1 (by omega) f1 6 (by decide)
  have sD := simD n0 n1 (by decide) (simC n0 n1 (by decide) sT (ap_test n0 6)) (ap_con n0 6)
  have st := sD 999999 FU j S [] LL g5 P5 B (by decide) (by decide) (TopL_nil 1) (by decide) (by omega)
  have apd := ap_dis (b := b) (ow := node) n0 6 j S
  have ed : pch (tkn b n) (pcon (tkn b n) (ptest (tkn b n) node 6)) 11 2 j S = pcond (tkn b n) node j S := rfl
  have ed2 : pdis (tkn b n) (ptest (tkn b n) node 6) j S = pcond (tkn b n) node j S := rfl
  rw [ed] at st
  rw [ed2] at apd
  rw [hf, ea]
  have wm5 : ∀ k, Wm g5 k = Wm g k := fun k => by unfold Wm; rw [m5.L (by decide)]
  refine ⟨fun ok => ?_, fun ok => ?_⟩
  · obtain ⟨N2, m2, g2, X, LL2, z1, z0, z2, z3, x1, x2, e2, m2', q2, P2⟩ := st.1 ok
    obtain ⟨c5, c6, c7, c8⟩ := MB_of (j2 := 0) (S2 := []) (L := []) B apd ok
    have sn2 := tS_n (b := b) n0 (pcond (tkn b n) node j S).2.1
    obtain ⟨xl, x4, xn, xp⟩ := okD_4 z1
    have l2 : LL2.length + X.length = LL.length + (pcond (tkn b n) node j S).2.2.2.length := by
      have := congrArg List.length z2
      simp at this; omega
    simp only [List.length_append, List.length_nil] at c8
    rw [List.nil_append] at P2
    obtain ⟨N2, rfl⟩ : ∃ x, N2 = x + 1 := ⟨N2 - 1, by omega⟩
    have eo := cB_out (N := N2 + 1) (m := m2) (node := node) (fr := was + LL.length) n0 P2 (by omega) (by omega) (Or.inr xp)
    have ek := KC_end (N := N2) (node := node) (fr := was + LL.length) n0 P2 z3.1 z3.2
    obtain ⟨gf, e6, m6, Q6, D6, L6, w6, q6⟩ := K1_ok (fr := was + LL.length) P2 z1 (by omega) h0 h1 (by omega) f1
    rw [z2] at L6
    refine ⟨gf, by rw [e2, eo, ek, e6], ((m5.w (by decide)).t (m2'.w (by decide))).t m6, Q6, D6, L6, fun k k0 => ?_, fun i hi => ?_⟩
    · rw [w6 k k0]
      have w2 : Wm g2 k = Wm g k := by
        rw [← wm5 k]; unfold Wm; rw [m2'.L (by decide)]
      rw [w2, z2, List.length_append]
      by_cases k1 : k = 192 + node
      · rw [if_pos k1, if_pos k1]
      · rw [if_neg k1, if_neg k1]
        by_cases k2 : k = 224 + node
        · rw [if_pos k2, if_pos k2]; omega
        · rw [if_neg k2, if_neg k2]
    · rw [q6 i hi, q2 i hi, m5.A (by decide)]
  · obtain ⟨gf, e2, ff⟩ := st.2 ok
    exact ⟨gf, e2, FF_t ff (m5.w (by decide)) (Int.le_refl _) (fun i _ => by rw [m5.A (by decide)])⟩
end
