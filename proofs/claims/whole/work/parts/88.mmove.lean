/-! HOW DEEP -/
section
variable {F G H : Int → Int} {x p e ins to : Int}
/-- how much a group of the node adds -/
def hv (F : Int → Int) (x y : Int) : Int := dpt F 9 (F y) - dpt F 9 (F x) + 1
/-- groups one in the other in a node -/
def hgt (F : Int → Int) (x : Int) : Nat → Int → Int → Int
  | 0, v, _ => v
  | k + 1, v, i => hgt F x k (if 24 ≤ F (256 + i) ∧ isin F 9 (F (256 + i)) x = true then (if v ≤ hv F x (F (256 + i)) then hv F x (F (256 + i)) else v) else v) (i + 1)
theorem hgt_le {b : Int} : ∀ (k : Nat) (v i : Int), hgt F x k v i ≤ b ↔ (v ≤ b ∧ ∀ j, i ≤ j → j < i + k → 24 ≤ F (256 + j) → isin F 9 (F (256 + j)) x = true → hv F x (F (256 + j)) ≤ b) := by
  intro k
  induction k with
  | zero =>
    intro v i
    simp only [hgt]
    exact ⟨fun h => ⟨h, fun j a c => by omega⟩, fun h => h.1⟩
  | succ k ih =>
    intro v i
    simp only [hgt]
    rw [ih]
    by_cases c : 24 ≤ F (256 + i) ∧ isin F 9 (F (256 + i)) x = true
    · rw [if_pos c]
      constructor
      · rintro ⟨h1, h2⟩
        refine ⟨?_, fun j j0 j1 g1 g2 => ?_⟩
        · split at h1 <;> omega
        · by_cases e : j = i
          · rw [e]; split at h1 <;> omega
          · exact h2 j (by omega) (by omega) g1 g2
      · rintro ⟨h1, h2⟩
        refine ⟨?_, fun j j0 j1 => h2 j (by omega) (by omega)⟩
        have := h2 i (Int.le_refl _) (by omega) c.1 c.2
        split <;> omega
    · rw [if_neg c]
      constructor
      · rintro ⟨h1, h2⟩
        refine ⟨h1, fun j j0 j1 g1 g2 => ?_⟩
        by_cases e : j = i
        · rw [e] at g1 g2; exact absurd ⟨g1, g2⟩ c
        · exact h2 j (by omega) (by omega) g1 g2
      · rintro ⟨h1, h2⟩
        exact ⟨h1, fun j j0 j1 => h2 j (by omega) (by omega)⟩
theorem hgt_rng : ∀ (k : Nat) (v i : Int), 0 ≤ v → v ≤ 10 → 0 ≤ hgt F x k v i ∧ hgt F x k v i ≤ 10 := by
  intro k
  induction k with
  | zero => intro v i a b; exact ⟨a, b⟩
  | succ k ih =>
    intro v i a b
    simp only [hgt]
    have r1 := dpt_rng F 9 (F (F (256 + i)))
    have r2 := dpt_rng F 9 (F x)
    have r3 : hv F x (F (256 + i)) ≤ 10 := by unfold hv; omega
    refine ih _ _ ?_ ?_
    · split
      · split <;> omega
      · exact a
    · split
      · split <;> omega
      · exact b
theorem dpt_9 (t : TR F) (de : DE F) {n : Int} (n0 : 0 ≤ n) (n1 : n < 32) (p : F n ≠ -1) : dpt F 9 (F n) + 1 = dpt F 8 n := by
  have e := (de n n0 n1 p).1
  have d := dpt_par t.ce n0 n1
  rw [dpt_ends e (show 4 ≤ 8 by omega)] at d
  rw [dpt_ends e (show 4 ≤ 9 by omega)]
  omega
theorem dpt_g4 (de : DE F) {g : Int} (g0 : 24 ≤ g) (g1 : g < 32) (p : F g ≠ -1) : dpt F 8 g ≤ 4 := by
  have e : ends F 4 g := Or.inr ((de g (by omega) g1 p).2 g0)
  have r := dpt_rng F 4 g
  rw [dpt_ends e (show 4 ≤ 8 by omega)]
  omega
theorem INq.d4 (i : INq F x ins) (de : DE F) : 0 ≤ dpt F 8 ins ∧ dpt F 8 ins ≤ 4 := by
  have e := i.e4 de
  have r := dpt_rng F 4 ins
  rw [dpt_ends e (show 4 ≤ 8 by omega)]
  omega
theorem DP_iff (t : TR F) (de : DE F) (i : INq F x ins) (x0 : 0 ≤ x) (x1 : x < 32) (xp : F x ≠ -1) : DP F x ins ↔ dpt F 8 ins + hgt F x (F 288).toNat 0 0 ≤ 4 := by
  have i4 := i.d4 de
  have o1 := t.ov.1
  have w := hgt_le (F := F) (x := x) (b := 4 - dpt F 8 ins) (F 288).toNat 0 0
  have vx := dpt_9 t de x0 x1 xp
  constructor
  · intro D
    have := w.mpr ⟨by omega, fun j j0 j1 g1 g2 => by
      have o := t.ov.2.2 j j0 (by omega)
      have pr := t.op j j0 (by omega)
      have c := (isin_ch x0 (t.ce.ends o.2)).mp g2
      have q := D _ g1 o.2 pr c
      have v := dpt_9 t de o.1 o.2 pr
      unfold hv; omega⟩
    omega
  · intro D g g0 g1 gp gx
    obtain ⟨j, j0, j1, ej⟩ := t.po g (by omega) g1 gp
    have q := (w.mp (by omega)).2 j j0 (by omega) (by rw [ej]; exact g0) (by rw [ej]; exact (isin_ch x0 (t.ce.ends g1)).mpr gx)
    rw [ej] at q
    have v := dpt_9 t de (by omega) g1 gp
    unfold hv at q
    omega
/-- the levels of the groups of the moved form -/
theorem MVD.lv (m : MVD F G H x p e ins to) (t : TR F) (de : DE F) (i : INq F x ins) (x0 : 0 ≤ x) (x1 : x < 32) {g : Int} (g0 : 24 ≤ g) (g1 : g < 32) (gp : F g ≠ -1) : ends H 8 g ∧ (inch F g x → dpt H 8 g = dpt F 8 g - dpt F 8 x + 1 + dpt F 8 ins) ∧ (¬ inch F g x → dpt H 8 g = dpt F 8 g) := by
  have g4 := dpt_g4 de g0 g1 gp
  by_cases k : inch F g x
  · obtain ⟨j, u, d, en, dd⟩ := m.dp t de i x0 x1 (by omega) g1 gp k
    have x4 := dpt_par t.ce x0 x1
    have r := dpt_rng F 8 (F x)
    refine ⟨ends_mono (en 4 (i.e4 de)) (by omega), fun _ => ?_, fun z => absurd k z⟩
    rw [dd (by omega)]
    omega
  · have kn : keep F x g := ⟨by omega, g1, gp, k⟩
    have kk := fun n kn => m.kp (n := n) kn
    exact ⟨ends_keep t.tv kk 8 g (Or.inr kn) (t.ce g (by omega) g1), fun z => absurd z k, fun _ => dpt_keep t.tv kk 8 g (Or.inr kn)⟩
theorem MVD.deep (m : MVD F G H x p e ins to) (t : TR F) (de : DE F) (i : INq F x ins) (x0 : 0 ≤ x) (x1 : x < 32) (xp : F x ≠ -1) : anyf (fun j => decide (H (24 + j) ≠ -1 ∧ 4 < dpt H 8 (24 + j))) 8 0 = true ↔ ¬ DP F x ins := by
  rw [anyf_iff]
  constructor
  · rintro ⟨j, j0, j1, z⟩ D
    obtain ⟨z1, z2⟩ := of_decide_eq_true z
    have gp := (m.pr i xp (n := 24 + j) (by omega) (by omega)).mp z1
    obtain ⟨_, l1, l2⟩ := m.lv t de i x0 x1 (g := 24 + j) (by omega) (by omega) gp
    by_cases k : inch F (24 + j) x
    · have := D _ (by omega) (by omega) gp k
      have := l1 k
      omega
    · have := dpt_g4 de (g := 24 + j) (by omega) (by omega) gp
      have := l2 k
      omega
  · intro D
    apply Classical.byContradiction
    intro z
    apply D
    intro g g0 g1 gp gx
    obtain ⟨_, l1, l2⟩ := m.lv t de i x0 x1 g0 g1 gp
    apply Classical.byContradiction
    intro w
    refine z ⟨g - 24, by omega, by omega, decide_eq_true ?_⟩
    rw [show 24 + (g - 24) = g by omega, l1 gx]
    exact ⟨(m.pr i xp (by omega) g1).mpr gp, by omega⟩
/-- the class looks how deep the groups stand -/
theorem cdeep {h : HP} {a : Nat} (A : FormAt h a) (T : TV (Fc h a)) (Gc : GC h a) (en : ∀ g, 24 ≤ g → g < 32 → Fc h a g ≠ -1 → ends (Fc h a) 8 g) : fX0_isTooDeep a h = some (anyf (fun j => decide (Fc h a (24 + j) ≠ -1 ∧ 4 < dpt (Fc h a) 8 (24 + j))) 8 0) := by
  have lev : ∀ i : Int, 0 ≤ i → i < 8 → fX0_levelOf a (i32 i) h = some (i32 (if Fc h a (24 + i) ≠ -1 then dpt (Fc h a) 8 (24 + i) else 0)) := fun i i0 i1 => by
    have eg : gno i = 24 + i := if_pos ⟨i0, i1⟩
    by_cases c : Fc h a (24 + i) ≠ -1
    · rw [if_pos c]
      have := clevelOf A T Gc (g := i) (by omega) (by omega) (Or.inr (by rw [eg]; exact c)) (by rw [eg]; exact en _ (by omega) (by omega) c)
      rw [eg] at this
      exact this
    · rw [if_neg c]
      have L := clevelL A T Gc 8 FU 0 (-2) 0 (by omega) (Or.inl (by omega)) (by decide) (by omega) (Or.inl rfl)
      rw [fno_n (show ¬ (0 ≤ (-2 : Int) ∧ (-2 : Int) < 32 ∧ Fc h a (-2) ≠ -1) by omega), show dpt (Fc h a) 8 (-2) = 0 from rfl] at L
      unfold fX0_levelOf
      rw [A.o, gd_tt, cfindGroup A (by omega) (by omega), bn_s, eg, fno_n (fun z => c z.2.2)]
      exact L
  have loop : ∀ (k n : Nat) (i : Int), 0 ≤ i → i + k = 8 → k < n → lX0_isTooDeep_2 h n a (i32 i) = some (anyf (fun j => decide (Fc h a (24 + j) ≠ -1 ∧ 4 < dpt (Fc h a) 8 (24 + j))) k i) := by
    intro k
    induction k with
    | zero =>
      intro n i i0 e hn
      obtain ⟨n, rfl⟩ : ∃ x, n = x + 1 := ⟨n - 1, by omega⟩
      rw [elX0_isTooDeep_2]; unfold bX0_isTooDeep_2
      rw [if_pos (by rw [i32_le (by omega) (by omega) (by omega) (by omega)]; omega)]
      rfl
    | succ k ih =>
      intro n i i0 e hn
      obtain ⟨n, rfl⟩ : ∃ x, n = x + 1 := ⟨n - 1, by omega⟩
      have r := dpt_rng (Fc h a) 8 (24 + i)
      rw [elX0_isTooDeep_2]; unfold bX0_isTooDeep_2
      rw [if_neg (by rw [i32_le (by omega) (by omega) (by omega) (by omega)]; omega), A.o, gd_tt, lev i i0 (by omega), bn_s]
      simp only [anyf]
      by_cases c : Fc h a (24 + i) ≠ -1
      · rw [if_pos c]
        by_cases d : 4 < dpt (Fc h a) 8 (24 + i)
        · rw [if_neg (by rw [i32_le (by omega) (by omega) (by omega) (by omega)]; omega), if_pos (decide_eq_true ⟨c, d⟩)]
        · rw [if_pos (by rw [i32_le (by omega) (by omega) (by omega) (by omega)]; omega), if_neg (by rw [decide_eq_true_eq]; exact fun z => d z.2), lt_e, i32_add, ih n (i + 1) (by omega) (by omega) (by omega)]
      · rw [if_neg c, if_pos (by rw [i32_le (by omega) (by omega) (by omega) (by omega)]; omega), if_neg (by rw [decide_eq_true_eq]; exact fun z => c z.1), lt_e, i32_add, ih n (i + 1) (by omega) (by omega) (by omega)]
  unfold fX0_isTooDeep
  exact loop 8 FU 0 (by omega) (by omega) (by decide)
end
/-! MOVE, THE MODEL -/
section
variable {h g : HP} {x p : Int}
theorem mheight {F : Int → Int} (M : MS h) (eW : Wm h = F) (t : TR F) (de : DE F) (x0 : 0 ≤ x) (x1 : x < 32) (xp : F x ≠ -1) : fX11_height 983 (i32 0) (i32 x) h = some (i32 (hgt F x (F 288).toNat 0 0)) := by
  have O := t.ov
  have o2 := O.2.1
  have fu : FU = 1000000 := rfl
  have V : AV (Fm h 0) := by rw [Fm0, eW]; exact t.av
  have dp : ∀ n, 0 ≤ n → n < 32 → F n ≠ -1 → fX11_depth 983 (i32 0) (i32 n) h = some (i32 (dpt F 9 (F n))) := fun n n0 n1 np => by
    have := depth_s (fo := 0) M (by omega) (by omega) V n0 n1 (by rw [Fm0, eW]; exact ends_mono (de n n0 n1 np).1 (by omega))
    rw [Fm0, eW] at this
    exact this
  have loop : ∀ (k n : Nat) (v i : Int), 0 ≤ i → i + k = F 288 → k < n → 0 ≤ v → v ≤ 10 → lX11_height_5 h n 983 (i32 0) (i32 x) (i32 v) (i32 i) = some (i32 (hgt F x k v i)) := by
    intro k
    induction k with
    | zero =>
      intro n v i i0 hi hn v0 v1
      obtain ⟨n, rfl⟩ : ∃ x, n = x + 1 := ⟨n - 1, by omega⟩
      rw [elX11_height_5]; unfold bX11_height_5
      rw [M.o, gd_tt, many_s M (by omega) (by omega), bn_s, Fm0, eW, if_pos (by rw [i32_le (by omega) (by omega) (by omega) (by omega)]; omega)]
      rfl
    | succ k ih =>
      intro n v i i0 hi hn v0 v1
      obtain ⟨n, rfl⟩ : ∃ x, n = x + 1 := ⟨n - 1, by omega⟩
      have o := O.2.2 i i0 (by omega)
      have pr := t.op i i0 (by omega)
      have r1 := dpt_rng F 9 (F (F (256 + i)))
      have r2 := dpt_rng F 9 (F x)
      have isn := isIn_s (o := x) M (fo := 0) (n := F (256 + i)) (by omega) (by omega) (by omega) (by omega) V (by omega) o.2 (by rw [Fm0, eW]; exact t.ce.ends o.2)
      rw [Fm0, eW] at isn
      rw [elX11_height_5]; unfold bX11_height_5
      rw [M.o, gd_tt, many_s M (by omega) (by omega), bn_s, Fm0, eW, if_neg (by rw [i32_le (by omega) (by omega) (by omega) (by omega)]; omega), ordered_s M (by omega) (by omega) i0 (by omega), bn_s, Fm0, eW, isField_s (by omega) (by omega), bn_s, isn, bn_s]
      simp only [hgt]
      have nx : ∀ v', 0 ≤ v' → v' ≤ 10 → jX11_height_64 h (fun v0 v1 v2 v3 v4 => lX11_height_5 h n v0 v1 v2 v3 v4) 983 (i32 0) (i32 x) (i32 v') (i32 i) = some (i32 (hgt F x k v' (i + 1))) := fun v' a b => by
        unfold jX11_height_64
        rw [lt_e, i32_add]
        exact ih n v' (i + 1) (by omega) (by omega) (by omega) a b
      by_cases c : F (256 + i) < 24
      · rw [if_pos (decide_eq_true c), if_neg (fun z => by omega)]
        exact nx v v0 v1
      · rw [if_neg (by rw [decide_eq_true_eq]; exact c)]
        by_cases d : isin F 9 (F (256 + i)) x = true
        · rw [if_pos d, if_pos (show 24 ≤ F (256 + i) ∧ isin F 9 (F (256 + i)) x = true from ⟨by omega, d⟩), dp _ o.1 o.2 pr, bn_s, dp x x0 x1 xp, bn_s, i32_sub, i32_add]
          have ms : fX11_most (i32 v) (i32 (dpt F 9 (F (F (256 + i))) - dpt F 9 (F x) + 1)) h = some (i32 (if v ≤ hv F x (F (256 + i)) then hv F x (F (256 + i)) else v)) := by
            unfold fX11_most hv
            by_cases w : v ≤ dpt F 9 (F (F (256 + i))) - dpt F 9 (F x) + 1
            · rw [if_pos w, if_pos (by rw [i32_le (by omega) (by omega) (by omega) (by omega)]; exact w)]
            · rw [if_neg w, if_neg (by rw [i32_le (by omega) (by omega) (by omega) (by omega)]; exact w)]
          rw [ms, bn_s]
          refine nx _ ?_ ?_
          · unfold hv; split <;> omega
          · unfold hv; split <;> omega
        · rw [if_neg d, if_neg (fun z => d z.2)]
          exact nx v v0 v1
  unfold fX11_height
  exact loop (F 288).toNat FU 0 0 (by omega) (by have := O.1; omega) (by omega) (by omega) (by omega)
/-- the world is kept aside -/
theorem mcpyM {K : Nat → Int32 → Int32 → Int32 → HP → Option (Bool × HP)} {w1 w3 w4 : Int32} : ∀ (d m v : Nat) (f : HP), v + d = 292 → d < m → MS f → ∃ g, lX11_move_134 K m 983 w1 w3 w4 (i32 (v : Int)) f = K 983 w1 w3 w4 g ∧ Mo [988] f g ∧ (∀ i, v ≤ i → i < 292 → hL g 988 i = hL f 987 i) ∧ ∀ i, i < v → hL g 988 i = hL f 988 i := by
  intro d
  induction d with
  | zero =>
    intro n v f hv hn M
    obtain ⟨m, rfl⟩ : ∃ m, n = m + 1 := ⟨n - 1, by omega⟩
    refine ⟨f, ?_, Mo.r, fun i _ _ => (by omega), fun i _ => rfl⟩
    rw [elX11_move_134]; unfold bX11_move_134
    rw [if_pos (by rw [i32_le (by omega) (by omega) (by omega) (by omega)]; omega)]
  | succ d ih =>
    intro n v f hv hn M
    obtain ⟨m, rfl⟩ : ∃ m, n = m + 1 := ⟨n - 1, by omega⟩
    obtain ⟨f1, e1⟩ : ∃ f1, f1 = sL f 988 v (hL f 987 v) := ⟨_, rfl⟩
    have p1 : Mo [988] f f1 := by rw [e1]; exact Mo_L (by decide) _ _
    obtain ⟨g, a1, a2, a3, a4⟩ := ih m (v + 1) f1 (by omega) (by omega) (p1.ms M)
    have r1 : ∀ x i, hL f1 x i = if x = 988 ∧ i = v then hL f 987 v else hL f x i := fun x i => by rw [e1, rLL]
    refine ⟨g, ?_, p1.t a2, fun i i0 i1 => ?_, fun i hi => ?_⟩
    · rw [elX11_move_134]; unfold bX11_move_134
      rw [if_neg (by rw [i32_le (by omega) (by omega) (by omega) (by omega)]; omega), M.o, gd_tt, M.r_world, oc_s, M.o_world, gd_tt, M.n_world, i32_inb (by omega) (by omega) (by omega), gd_tt, M.r_made, oc_s, M.o_made, gd_tt, M.n_made, i32_inb (by omega) (by omega) (by omega), gd_tt, i32_cn (by omega) (by omega), show ((v : Int)).toNat = v from rfl, ← e1, lt_e, lt_e, i32_add]
      exact a1
    · by_cases y : i = v
      · rw [y, a4 _ (by omega), r1, if_pos ⟨rfl, rfl⟩]
      · rw [a3 i (by omega) i1, r1, if_neg (by omega)]
    · rw [a4 i (by omega), r1, if_neg (by omega)]
/-- the stretch is held -/
theorem mholdM {K : Nat → Int32 → Int32 → Int32 → Int32 → Int32 → HP → Option (Bool × HP)} {w1 w3 w4 : Int32} {m d : Int} (p0 : 0 ≤ p) (em : p + d ≤ m) (m1 : m ≤ 32) : ∀ (c n : Nat) (i : Int) (f : HP), i + c = d → 0 ≤ i → c < n → MS f → ∃ g, lX11_move_183 K n 983 w1 w3 w4 (i32 p) (i32 d) (i32 i) f = K 983 w1 w3 w4 (i32 p) (i32 d) g ∧ Mo [997] f g ∧ (∀ q, i ≤ q → q < d → hA g 997 q.toNat = i32 (Wm f (256 + (p + q)))) ∧ ∀ q : Nat, (q : Int) < i → hA g 997 q = hA f 997 q := by
  intro c
  induction c with
  | zero =>
    intro n i f hi hp hn M
    obtain ⟨n, rfl⟩ : ∃ x, n = x + 1 := ⟨n - 1, by omega⟩
    refine ⟨f, ?_, Mo.r, fun q q0 q1 => by omega, fun q _ => rfl⟩
    rw [elX11_move_183]; unfold bX11_move_183
    rw [if_pos (by rw [i32_le (by omega) (by omega) (by omega) (by omega)]; omega)]
  | succ c ih =>
    intro n i f hi hp hn M
    obtain ⟨n, rfl⟩ : ∃ x, n = x + 1 := ⟨n - 1, by omega⟩
    obtain ⟨f1, e1⟩ : ∃ f1, f1 = sA f 997 i.toNat (i32 (Wm f (256 + (p + i)))) := ⟨_, rfl⟩
    have p1 : Mo [997] f f1 := by rw [e1]; exact Mo_A (by decide) _ _
    have eW : Wm f1 = Wm f := by funext j; unfold Wm; rw [p1.L (by decide)]
    have r1 : ∀ q, hA f1 997 q = if q = i.toNat then i32 (Wm f (256 + (p + i))) else hA f 997 q := fun q => by
      rw [e1, rAA]
      by_cases y : q = i.toNat
      · rw [if_pos ⟨rfl, y⟩, if_pos y]
      · rw [if_neg (fun z => y z.2), if_neg y]
    obtain ⟨g, a1, a2, a3, a4⟩ := ih n (i + 1) f1 (by omega) (by omega) (by omega) (p1.ms M)
    refine ⟨g, ?_, p1.t a2, fun q q0 q1 => ?_, fun q hq => ?_⟩
    · rw [elX11_move_183]; unfold bX11_move_183
      rw [if_neg (by rw [i32_le (by omega) (by omega) (by omega) (by omega)]; omega), M.o, gd_tt, i32_add, ordered_s M (by omega) (by omega) (by omega) (by omega), bn_s, Fm0, M.r_moved, oc_s, M.o_moved, gd_tt, M.n_moved, i32_inb (by omega) (by omega) (by omega), gd_tt, i32_cn (by omega) (by omega), ← e1, lt_e, lt_e, i32_add]
      exact a1
    · by_cases y : q = i
      · have := a4 i.toNat (by omega)
        rw [y, this, r1, if_pos rfl]
      · rw [a3 q (by omega) q1, eW]
    · rw [a4 q (by omega), r1, if_neg (by omega)]
/-- room is made -/
theorem mshiftM {K : Nat → Int32 → Int32 → Int32 → Int32 → HP → Option (Bool × HP)} {w1 w4 : Int32} {m d to : Int} (d0 : 0 < d) (t0 : 0 ≤ to) (m1 : m ≤ 32) : ∀ (c n : Nat) (i : Int) (f : HP), to - 1 + c = i → i + d < m → c < n → MS f → ∃ g, lX11_move_250 K n 983 w1 w4 (i32 d) (i32 to) (i32 i) f = K 983 w1 w4 (i32 d) (i32 to) g ∧ So (fun x => x = 987) f g ∧ Mo [987] f g ∧ (∀ q, to + d ≤ q → q ≤ i + d → Wm g (256 + q) = Wm f (256 + (q - d))) ∧ ∀ q, 0 ≤ q → (q < 256 + (to + d) ∨ 256 + (i + d) < q) → Wm g q = Wm f q := by
  intro c
  induction c with
  | zero =>
    intro n i f hi hp hn M
    obtain ⟨n, rfl⟩ : ∃ x, n = x + 1 := ⟨n - 1, by omega⟩
    refine ⟨f, ?_, So.r, Mo.r, fun q q0 q1 => by omega, fun q _ _ => rfl⟩
    rw [elX11_move_250]; unfold bX11_move_250
    rw [if_pos (by rw [i32_lt (by omega) (by omega) (by omega) (by omega)]; omega)]
  | succ c ih =>
    intro n i f hi hp hn M
    obtain ⟨n, rfl⟩ : ∃ x, n = x + 1 := ⟨n - 1, by omega⟩
    obtain ⟨f1, e1⟩ : ∃ f1, f1 = sL f 987 (256 + i + d).toNat (hL f 987 (256 + i).toNat) := ⟨_, rfl⟩
    have p1 : So (fun x => x = 987) f f1 := by rw [e1]; exact So_L (S := fun x => x = 987) rfl _ _
    have q1 : Mo [987] f f1 := by rw [e1]; exact Mo_L (by decide) _ _
    have r1 : ∀ q, 0 ≤ q → Wm f1 q = if q = 256 + i + d then Wm f (256 + i) else Wm f q := fun q q0 => by
      rw [e1, Wm_set]
      by_cases y : q = 256 + i + d
      · rw [if_pos (by rw [y]), if_pos y]; rfl
      · rw [if_neg (by omega), if_neg y]
    obtain ⟨g, a1, a2, a2', a3, a4⟩ := ih n (i + -1) f1 (by omega) (by omega) (by omega) (M.sk p1.1)
    refine ⟨g, ?_, p1.t a2, q1.t a2', fun q q0 q1 => ?_, fun q q0 hq => ?_⟩
    · rw [elX11_move_250]; unfold bX11_move_250
      rw [if_neg (by rw [i32_lt (by omega) (by omega) (by omega) (by omega)]; omega), M.o, gd_tt, M.r_world, oc_s, M.o_world, gd_tt, M.n_world, i32_add, i32_add, i32_inb (by omega) (by omega) (by omega), gd_tt, i32_inb (by omega) (by omega) (by omega), gd_tt, i32_cn (by omega) (by omega), i32_cn (by omega) (by omega), ← e1, lt_e, lt_e, i32_add]
      exact a1
    · by_cases y : q = i + d
      · rw [y, a4 _ (by omega) (by omega), r1 _ (by omega), if_pos (by omega)]
        congr 1; omega
      · rw [a3 q (by omega) (by omega), r1 _ (by omega), if_neg (by omega)]
    · rw [a4 q q0 (by omega), r1 q q0, if_neg (by omega)]
/-- the stretch is put back -/
theorem mputM {K : Nat → Int32 → Int32 → Int32 → HP → Option (Bool × HP)} {w1 w4 : Int32} {V : Int → Int} {d to : Int} (t0 : 0 ≤ to) (td : to + d ≤ 32) (hV : ∀ q, 0 ≤ q → q < d → 0 ≤ V q ∧ V q < 32) : ∀ (c n : Nat) (i : Int) (f : HP), i + c = d → 0 ≤ i → c < n → MS f → (∀ q, 0 ≤ q → q < d → hA f 997 q.toNat = i32 (V q)) → ∃ g, lX11_move_291 K n 983 w1 w4 (i32 d) (i32 to) (i32 i) f = K 983 w1 w4 (i32 d) g ∧ So (fun x => x = 987) f g ∧ Mo [987] f g ∧ (∀ q, i ≤ q → q < d → Wm g (256 + (to + q)) = V q) ∧ ∀ q, 0 ≤ q → (q < 256 + (to + i) ∨ 256 + (to + d) ≤ q) → Wm g q = Wm f q := by
  intro c
  induction c with
  | zero =>
    intro n i f hi hp hn M _
    obtain ⟨n, rfl⟩ : ∃ x, n = x + 1 := ⟨n - 1, by omega⟩
    refine ⟨f, ?_, So.r, Mo.r, fun q q0 q1 => by omega, fun q _ _ => rfl⟩
    rw [elX11_move_291]; unfold bX11_move_291
    rw [if_pos (by rw [i32_le (by omega) (by omega) (by omega) (by omega)]; omega)]
  | succ c ih =>
    intro n i f hi hp hn M hA
    obtain ⟨n, rfl⟩ : ∃ x, n = x + 1 := ⟨n - 1, by omega⟩
    have v := hV i hp (by omega)
    obtain ⟨f1, e1⟩ : ∃ f1, f1 = sL f 987 (256 + to + i).toNat (i64 (V i)) := ⟨_, rfl⟩
    have p1 : So (fun x => x = 987) f f1 := by rw [e1]; exact So_L (S := fun x => x = 987) rfl _ _
    have q1 : Mo [987] f f1 := by rw [e1]; exact Mo_L (by decide) _ _
    have r1 : ∀ q, 0 ≤ q → Wm f1 q = if q = 256 + to + i then V i else Wm f q := fun q q0 => by
      rw [e1, Wm_set]
      by_cases y : q = 256 + to + i
      · rw [if_pos (by rw [y]), if_pos y, i64_toInt (by omega) (by omega)]
      · rw [if_neg (by omega), if_neg y]
    obtain ⟨g, a1, a2, a2', a3, a4⟩ := ih n (i + 1) f1 (by omega) (by omega) (by omega) (M.sk p1.1) (fun q q0 q1' => by rw [q1.A (by decide)]; exact hA q q0 q1')
    refine ⟨g, ?_, p1.t a2, q1.t a2', fun q q0 q1 => ?_, fun q q0 hq => ?_⟩
    · rw [elX11_move_291]; unfold bX11_move_291
      rw [if_neg (by rw [i32_le (by omega) (by omega) (by omega) (by omega)]; omega), M.o, gd_tt, M.r_moved, oc_s, M.o_moved, gd_tt, M.n_moved, i32_inb (by omega) (by omega) (by omega), gd_tt, M.r_world, oc_s, M.o_world, gd_tt, M.n_world, i32_add, i32_add, i32_inb (by omega) (by omega) (by omega), gd_tt, i32_cn (by omega) (by omega), i32_cn (by omega) (by omega), hA i hp (by omega), i32_64 (by omega) (by omega), ← e1, lt_e, lt_e, i32_add]
      exact a1
    · by_cases y : q = i
      · rw [y, a4 _ (by omega) (by omega), r1 _ (by omega), if_pos (by omega)]
      · exact a3 q (by omega) q1
    · rw [a4 q q0 (by omega), r1 q q0, if_neg (by omega)]
/-- no field depends on itself, the model says -/
theorem msound {F : Int → Int} (M : MS h) (eW : Wm h = F) (t : TR F) (sg : ∀ i, 0 ≤ i → i < F 288 → SG F (F (256 + i))) (lo : ∀ n, 0 ≤ n → n < 32 → F n ≠ -1 → lo24 (RX h F n)) (n24 : N24 h) : ∃ g, fX11_isSound 983 h = some (!anyf (fun f => bt (cl (NE F (RX h F)) 24 (NE F (RX h F) f)) f) 24 0, g) ∧ Mo [991] h g ∧ N24 g := by
  have eF : Fm h 0 = F := by rw [Fm0, eW]
  have eR : Rm F (Pt h) = RX h F := by funext n; exact sgm_Rm _ _ _
  obtain ⟨g, eg⟩ : ∃ g, g = wA h 991 (lays F (RX h F) (-2) (hA h 991)) := ⟨_, rfl⟩
  have hN : ∀ f, 0 ≤ f → f < 24 → Nm g f = NE F (RX h F) f := fun f f0 f1 => by
    unfold Nm
    rw [eg, wA_A]
    exact lays_NE (by omega) t.tv t.ov t.ce t.po f0 f1
  have n24' : N24 g := by rw [eg]; exact n24.w (fun j hj => lays_hi hj) rfl
  have k2 : ∀ f, lo24 (Nm g f) := fun f => by
    by_cases z : f.toNat < 24
    · have := hN (f.toNat : Int) (by omega) (by omega)
      unfold Nm at this ⊢
      rw [Int.toNat_natCast] at this
      rw [this]; exact NE_lo t.tv t.ce lo _
    · unfold Nm
      rw [n24'.1 _ (by omega)]
      intro i _ _; exact bt_0 i
  have e := isSound_s M (by rw [eF]; exact t.av) (by rw [eF]; exact t.ov) (by rw [eF]; exact t.ce) (by rw [eF]; exact sg) g (by rw [eF, eR]; exact eg) k2
  refine ⟨g, ?_, by rw [eg]; exact Mo_wA (by decide) _, n24'⟩
  rw [e]
  congr 3
  refine anyf_congr 24 0 fun f f0 f1 => ?_
  rw [hN f f0 (by omega), cl_congr hN]
end

