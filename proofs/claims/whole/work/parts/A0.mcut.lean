/-! A CONDITION AS THE MODEL CUTS IT -/
section
variable {F : Int → Int}
/-- a condition, two parts at a time -/
def GB : Nat → List Int32 → Prop
  | 0, _ => False
  | n + 1, L => (∃ f s v : Int, 0 ≤ f ∧ f < 24 ∧ 0 ≤ s ∧ s ≤ 3 ∧ 0 ≤ v ∧ v ≤ 9999 ∧ L = [i32 (tcd f s v)]) ∨ (∃ L', GB n L' ∧ L = L' ++ [opM 3]) ∨ (∃ (o : Nat) (A B : List Int32), (o = 1 ∨ o = 2) ∧ GB n A ∧ GB n B ∧ L = A ++ (B ++ [opM o]))
theorem GB_mono : ∀ (n n' : Nat) (L : List Int32), n ≤ n' → GB n L → GB n' L := by
  intro n
  induction n with
  | zero => intro n' L _ z; exact z.elim
  | succ n ih =>
    intro n' L hn z
    obtain ⟨n', rfl⟩ : ∃ x, n' = x + 1 := ⟨n' - 1, by omega⟩
    rcases z with z | ⟨L', z, e⟩ | ⟨o, A, B, ho, z1, z2, e⟩
    · exact Or.inl z
    · exact Or.inr (Or.inl ⟨L', ih n' L' (by omega) z, e⟩)
    · exact Or.inr (Or.inr ⟨o, A, B, ho, ih n' A (by omega) z1, ih n' B (by omega) z2, e⟩)
theorem GB_of : ∀ (d : Nat) (L : List Int32), GLt d L → ∃ n, GB n L := by
  intro d
  induction d with
  | zero => intro L z; exact z.elim
  | succ d ih =>
    intro L z
    rcases z with z | ⟨L', z, e⟩ | ⟨o, ho, L0, Q, z0, zq, e⟩
    · exact ⟨1, Or.inl z⟩
    · obtain ⟨n, hn⟩ := ih L' z
      exact ⟨n + 1, Or.inr (Or.inl ⟨L', hn, e⟩)⟩
    · obtain ⟨n0, h0⟩ := ih L0 z0
      have key : ∀ (Q : List (List Int32)) (A : List Int32) (n : Nat), GB n A → (∀ q ∈ Q, GLt d q) → ∃ n', GB n' (A ++ (Q.map fun q => q ++ [opM o]).flatten) := by
        intro Q
        induction Q with
        | nil => intro A n hA _; exact ⟨n, by simp only [List.map_nil, List.flatten_nil, List.append_nil]; exact hA⟩
        | cons q Q ihq =>
          intro A n hA hq
          obtain ⟨m, hm⟩ := ih q (hq q List.mem_cons_self)
          obtain ⟨n', h'⟩ := ihq (A ++ (q ++ [opM o])) (n + m + 1) (Or.inr (Or.inr ⟨o, A, q, ho, GB_mono n (n + m) A (by omega) hA, GB_mono m (n + m) q (by omega) hm, rfl⟩)) (fun p hp => hq p (List.mem_cons_of_mem _ hp))
          refine ⟨n', ?_⟩
          rw [List.map_cons, List.flatten_cons, ← List.append_assoc]
          exact h'
      obtain ⟨n', h'⟩ := key Q L0 n0 h0 zq
      exact ⟨n', by rw [e]; exact h'⟩
/-- the same, with where each part begins -/
def GP (pf : Nat → Int32) : Nat → Nat → List Int32 → Prop
  | 0, _, _ => False
  | n + 1, i, L => pf (i + L.length - 1) = i32 (i : Int) ∧ ((∃ f s v : Int, 0 ≤ f ∧ f < 24 ∧ 0 ≤ s ∧ s ≤ 3 ∧ 0 ≤ v ∧ v ≤ 9999 ∧ L = [i32 (tcd f s v)]) ∨ (∃ L', GP pf n i L' ∧ L = L' ++ [opM 3]) ∨ (∃ (o : Nat) (A B : List Int32), (o = 1 ∨ o = 2) ∧ GP pf n i A ∧ GP pf n (i + A.length) B ∧ L = A ++ (B ++ [opM o])))
theorem GB_len : ∀ (n : Nat) (L : List Int32), GB n L → 1 ≤ L.length := by
  intro n L z
  cases n with
  | zero => exact z.elim
  | succ n =>
    rcases z with ⟨f, s, v, _, _, _, _, _, _, rfl⟩ | ⟨L', _, rfl⟩ | ⟨o, A, B, _, _, _, rfl⟩
    · exact Nat.le_refl 1
    · rw [List.length_append, List.length_singleton]; omega
    · rw [List.length_append, List.length_append, List.length_singleton]; omega
theorem GP_GB {pf : Nat → Int32} : ∀ (n i : Nat) (L : List Int32), GP pf n i L → GB n L := by
  intro n
  induction n with
  | zero => intro i L z; exact z.elim
  | succ n ih =>
    intro i L z
    rcases z.2 with z | ⟨L', z, e⟩ | ⟨o, A, B, ho, z1, z2, e⟩
    · exact Or.inl z
    · exact Or.inr (Or.inl ⟨L', ih i L' z, e⟩)
    · exact Or.inr (Or.inr ⟨o, A, B, ho, ih i A z1, ih _ B z2, e⟩)
theorem GB_txc : ∀ (n : Nat) (L : List Int32), GB n L → ∀ st, rpT F L st = txc F L :: st := by
  intro n
  induction n with
  | zero => intro L z; exact z.elim
  | succ n ih =>
    intro L z
    have key : ∃ b, ∀ st, rpT F L st = b :: st := by
      rcases z with ⟨f, s, v, f0, f1, s0, s1, v0, v1, rfl⟩ | ⟨L', z, rfl⟩ | ⟨o, A, B, ho, z1, z2, rfl⟩
      · exact ⟨(tsT F (i32 (tcd f s v)), 0), fun st => by rw [rpT_one]; unfold stT; rw [if_pos (tT_c f0 (by omega) s0 s1 v0 v1)]⟩
      · exact ⟨ngT (txc F L'), fun st => by rw [rpT_app, ih L' z, rpT_one, stT_not]⟩
      · exact ⟨jnT o (txc F A) (txc F B), fun st => by rw [rpT_app, rpT_app, ih A z1, ih B z2, rpT_one, stT_op ho]⟩
    obtain ⟨b, e⟩ := key
    rw [txc_of e]; exact e
/-- where the parts of a condition lie -/
def SGp (h : HP) (fr i : Nat) (L : List Int32) : Prop := ∀ (j : Nat) (x : Int32), L[j]? = some x → hA h 990 (fr + i + j) = x
theorem SGp.l {h : HP} {fr i : Nat} {A B : List Int32} (s : SGp h fr i (A ++ B)) : SGp h fr i A := fun j x e => s j x (by
  have := (List.getElem?_eq_some_iff.mp e).1
  rw [List.getElem?_append_left this]; exact e)
theorem SGp.r {h : HP} {fr i : Nat} {A B : List Int32} (s : SGp h fr i (A ++ B)) : SGp h fr (i + A.length) B := fun j x e => by
  have := s (A.length + j) x (by rw [List.getElem?_append_right (by omega), Nat.add_sub_cancel_left]; exact e)
  rw [show fr + (i + A.length) + j = fr + i + (A.length + j) by omega]; exact this
end
section
variable {h g : HP} {fr N : Nat} {K : Nat → Int32 → Int32 → HP → Option HP}
theorem m93 {i : Nat} {v : Int32} {m : Nat} (M : MS g) (iN : i < 600) : jX11_saysCondition_93 (fun v0 v2 v3 v4 h => lX11_saysCondition_23 K m v0 v2 v3 v4 h) 983 (i32 (fr : Int)) (i32 (N : Int)) (i32 (i : Int)) v (i32 (i : Int)) (some 1005) g = lX11_saysCondition_23 K m 983 (i32 (fr : Int)) (i32 (N : Int)) (i32 ((i + 1 : Nat) : Int)) (sA g 1005 i v) := by
  unfold jX11_saysCondition_93
  rw [oc_s, M.o_partFrom, gd_tt, M.n_partFrom, i32_inb (by omega) (by omega) (by omega), gd_tt, i32_cn (by omega) (by omega), Int.toNat_natCast, lt_e, lt_e, i32_add]
  rfl
/-- the model finds where the parts begin -/
theorem m23 (M : MS h) (hN : N ≤ 480) (hfr : fr + N ≤ 12000) : ∀ (n : Nat) (L : List Int32) (i : Nat) (g : HP), GB n L → SGp h fr i L → i + L.length ≤ N → Mo [1005] h g → ∃ g', (∀ m, lX11_saysCondition_23 K (m + L.length) 983 (i32 (fr : Int)) (i32 (N : Int)) (i32 (i : Int)) g = lX11_saysCondition_23 K m 983 (i32 (fr : Int)) (i32 (N : Int)) (i32 ((i + L.length : Nat) : Int)) g') ∧ Mo [1005] h g' ∧ (∀ j, j < i → hA g' 1005 j = hA g 1005 j) ∧ hA g' 1005 (i + L.length - 1) = i32 (i : Int) ∧ ∀ pf : Nat → Int32, (∀ j, i ≤ j → j < i + L.length → pf j = hA g' 1005 j) → GP pf n i L := by
  intro n
  induction n with
  | zero => intro L i g z; exact z.elim
  | succ n ih =>
    intro L i g z sg iN q
    have head : ∀ (m k : Nat) (g : HP), Mo [1005] h g → k < N → ∀ x, hA h 990 (fr + k) = x → ∀ so, fX11_sortOf x g = some so → lX11_saysCondition_23 K (m + 1) 983 (i32 (fr : Int)) (i32 (N : Int)) (i32 (k : Int)) g = (if so = 0 then (jX11_saysCondition_93 (fun v0 v2 v3 v4 h => lX11_saysCondition_23 K m v0 v2 v3 v4 h) 983 (i32 (fr : Int)) (i32 (N : Int)) (i32 (k : Int)) (i32 (k : Int)) (i32 (k : Int)) (some 1005) g) else if so = (i32 3) then (gd (inb ((i32 (k : Int)) - (i32 1)) 600) <| jX11_saysCondition_93 (fun v0 v2 v3 v4 h => lX11_saysCondition_23 K m v0 v2 v3 v4 h) 983 (i32 (fr : Int)) (i32 (N : Int)) (i32 (k : Int)) (hA g 1005 ((i32 (k : Int)) - (i32 1)).toNatClampNeg) (i32 (k : Int)) (some 1005) g) else gd (inb ((i32 (k : Int)) - (i32 1)) 600) <| gd (inb ((hA g 1005 ((i32 (k : Int)) - (i32 1)).toNatClampNeg) - (i32 1)) 600) <| jX11_saysCondition_93 (fun v0 v2 v3 v4 h => lX11_saysCondition_23 K m v0 v2 v3 v4 h) 983 (i32 (fr : Int)) (i32 (N : Int)) (i32 (k : Int)) (hA g 1005 ((hA g 1005 ((i32 (k : Int)) - (i32 1)).toNatClampNeg) - (i32 1)).toNatClampNeg) (i32 (k : Int)) (some 1005) g) := fun m k g q hk x hx so hso => by
      have Mg := q.ms M
      have e990 : hA g 990 = hA h 990 := q.A (by decide)
      rw [elX11_saysCondition_23]; unfold bX11_saysCondition_23
      rw [if_neg (by rw [i32_le (by omega) (by omega) (by omega) (by omega)]; omega), Mg.o, gd_tt, Mg.r_pool, oc_s, Mg.o_pool, gd_tt, Mg.n_pool, i32_add, i32_inb (by omega) (by omega) (by omega), gd_tt, i32_cn (by omega) (by omega), e990, show ((fr : Int) + (k : Int)).toNat = fr + k by omega, hx, hso, bn_s, Mg.r_partFrom, oc_s, Mg.o_partFrom, gd_tt, Mg.n_partFrom, oc_s, Mg.o_partFrom, gd_tt, Mg.n_partFrom]
    rcases z with ⟨f, s, v, f0, f1, s0, s1, v0, v1, rfl⟩ | ⟨L', z, rfl⟩ | ⟨o, A, B, ho, z1, z2, rfl⟩
    · -- a test
      rw [List.length_singleton] at iN ⊢
      have Mg := q.ms M
      have e0 : hA h 990 (fr + i) = i32 (tcd f s v) := by
        have := sg 0 _ rfl
        exact this
      obtain ⟨g1, e1⟩ : ∃ g1, g1 = sA g 1005 i (i32 (i : Int)) := ⟨_, rfl⟩
      have p1 : Mo [1005] g g1 := by rw [e1]; exact Mo_A (by decide) _ _
      have r1 : hA g1 1005 i = i32 (i : Int) := by rw [e1, rAA, if_pos ⟨rfl, rfl⟩]
      refine ⟨g1, fun m => ?_, q.t p1, fun j hj => by rw [e1, rAA, if_neg (by omega)], by rw [Nat.add_sub_cancel]; exact r1, fun pf hpf => ⟨?_, Or.inl ⟨f, s, v, f0, f1, s0, s1, v0, v1, rfl⟩⟩⟩
      · rw [head m i g q (by omega) _ e0 (i32 0) (by unfold fX11_sortOf; rw [sort_c f0 (by omega) s0 s1 v0 v1]), if_pos (by decide), m93 Mg (by omega), ← e1]
      · rw [List.length_singleton, Nat.add_sub_cancel, hpf i (by omega) (by omega)]; exact r1
    · -- a not
      have l1 := GB_len _ _ z
      rw [List.length_append, List.length_singleton] at iN ⊢
      obtain ⟨g1, a1, a2, a3, a4, a5⟩ := ih L' i g z sg.l (by omega) q
      have M1 := a2.ms M
      have e0 : hA h 990 (fr + (i + L'.length)) = opM 3 := by
        have := sg.r 0 _ rfl
        exact this
      obtain ⟨g2, e2⟩ : ∃ g2, g2 = sA g1 1005 (i + L'.length) (i32 (i : Int)) := ⟨_, rfl⟩
      have p2 : Mo [1005] g1 g2 := by rw [e2]; exact Mo_A (by decide) _ _
      have r2 : hA g2 1005 (i + L'.length) = i32 (i : Int) := by rw [e2, rAA, if_pos ⟨rfl, rfl⟩]
      have n2 : ∀ j, j < i + L'.length → hA g2 1005 j = hA g1 1005 j := fun j hj => by rw [e2, rAA, if_neg (by omega)]
      refine ⟨g2, fun m => ?_, a2.t p2, fun j hj => by rw [n2 j (by omega)]; exact a3 j hj, ?_, fun pf hpf => ⟨?_, Or.inr (Or.inl ⟨L', a5 pf (fun j j0 j1 => by rw [hpf j j0 (by omega)]; exact n2 j j1), rfl⟩)⟩⟩
      · rw [show m + (L'.length + 1) = (m + 1) + L'.length by omega, a1 (m + 1), head m (i + L'.length) g1 a2 (by omega) _ e0 (i32 3) (by unfold fX11_sortOf; rfl), if_neg (by decide), if_pos rfl, i32_sub, i32_inb (by omega) (by omega) (by omega), gd_tt, i32_cn (by omega) (by omega), show (((i + L'.length : Nat) : Int) - 1).toNat = i + L'.length - 1 by omega, a4, m93 M1 (by omega), ← e2]
        rfl
      · rw [show i + (L'.length + 1) - 1 = i + L'.length by omega]; exact r2
      · rw [List.length_append, List.length_singleton, show i + (L'.length + 1) - 1 = i + L'.length by omega, hpf _ (by omega) (by omega)]; exact r2
    · -- two parts
      have l1 := GB_len _ _ z1
      have l2 := GB_len _ _ z2
      have el : (A ++ (B ++ [opM o])).length = A.length + (B.length + 1) := by rw [List.length_append, List.length_append, List.length_singleton]
      rw [el] at iN ⊢
      obtain ⟨g1, a1, a2, a3, a4, a5⟩ := ih A i g z1 sg.l (by omega) q
      obtain ⟨g2, b1, b2, b3, b4, b5⟩ := ih B (i + A.length) g1 z2 sg.r.l (by omega) a2
      have M2 := b2.ms M
      obtain ⟨k, ek⟩ : ∃ k, k = i + A.length + B.length := ⟨_, rfl⟩
      rw [← ek] at b1 b4 b5
      have e0 : hA h 990 (fr + k) = opM o := by
        have := sg.r.r 0 _ rfl
        rw [ek]; exact this
      obtain ⟨g3, e3⟩ : ∃ g3, g3 = sA g2 1005 k (i32 (i : Int)) := ⟨_, rfl⟩
      have p3 : Mo [1005] g2 g3 := by rw [e3]; exact Mo_A (by decide) _ _
      have r3 : hA g3 1005 k = i32 (i : Int) := by rw [e3, rAA, if_pos ⟨rfl, rfl⟩]
      have n3 : ∀ j, j < k → hA g3 1005 j = hA g2 1005 j := fun j hj => by rw [e3, rAA, if_neg (by omega)]
      have so : ∃ s : Int32, fX11_sortOf (opM o) g2 = some s ∧ ¬ s = 0 ∧ ¬ s = i32 3 := by
        rcases ho with rfl | rfl
        · exact ⟨i32 1, by unfold fX11_sortOf; rfl, by decide, by decide⟩
        · exact ⟨i32 2, by unfold fX11_sortOf; rfl, by decide, by decide⟩
      obtain ⟨s, so1, so2, so3⟩ := so
      refine ⟨g3, fun m => ?_, b2.t p3, fun j hj => by rw [n3 j (by omega), b3 j (by omega)]; exact a3 j hj, ?_, fun pf hpf => ⟨?_, Or.inr (Or.inr ⟨o, A, B, ho, a5 pf (fun j j0 j1 => by rw [hpf j j0 (by omega), n3 j (by omega), b3 j (by omega)]), b5 pf (fun j j0 j1 => by rw [hpf j (by omega) (by omega), n3 j (by omega)]), rfl⟩)⟩⟩
      · rw [show m + (A.length + (B.length + 1)) = (m + 1 + B.length) + A.length by omega, a1 (m + 1 + B.length), b1 (m + 1), head m k g2 b2 (by omega) _ e0 s so1, if_neg so2, if_neg so3, i32_sub, i32_inb (by omega) (by omega) (by omega), gd_tt, i32_cn (by omega) (by omega), show ((k : Int) - 1).toNat = k - 1 by omega, b4, i32_sub, i32_inb (by omega) (by omega) (by omega), gd_tt, i32_cn (by omega) (by omega), show (((i + A.length : Nat) : Int) - 1).toNat = i + A.length - 1 by omega, b3 _ (by omega), a4, m93 M2 (by omega), ← e3, show i + (A.length + (B.length + 1)) = k + 1 by omega]
      · rw [show i + (A.length + (B.length + 1)) - 1 = k by omega]; exact r3
      · rw [el, show i + (A.length + (B.length + 1)) - 1 = k by omega, hpf _ (by omega) (by omega)]; exact r3
end

