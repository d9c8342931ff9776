/-! MOVE: THE TREE -/
section
variable {F G H : Int → Int} {x p e ins to : Int}
theorem dpt_keep (T : TV F) (g : ∀ n, keep F x n → G n = F n) : ∀ (k : Nat) (n : Int), (n = -2 ∨ keep F x n) → dpt G k n = dpt F k n := by
  intro k
  induction k with
  | zero => intro n _; rfl
  | succ k ih =>
    intro n hn
    simp only [dpt]
    rcases hn with hn | hn
    · rw [if_neg (show ¬ 0 ≤ n by omega), if_neg (show ¬ 0 ≤ n by omega)]
    · rw [if_pos hn.1, if_pos hn.1, g n hn, ih _ (keep_par T hn)]
theorem ends_upw : ∀ (j k : Nat) (n : Int), ends F k (up F j n) → ends F (j + k) n := by
  intro j
  induction j with
  | zero => intro k n h; rw [Nat.zero_add]; exact h
  | succ j ih =>
    intro k n h
    rw [show j + 1 + k = (j + k) + 1 by omega]
    simp only [up] at h
    by_cases c : 0 ≤ n
    · rw [if_pos c] at h
      exact Or.inr (ih k _ h)
    · exact Or.inl (by omega)
theorem no_cyc (C : CE F) (A : AV F) {n : Int} (n0 : 0 ≤ n) (n1 : n < 32) (f0 : 0 ≤ F n) : ¬ inch F (F n) n := by
  intro z
  have a := A n n0 n1
  have e := inch_lvl C f0 a.2 n0 n1 z (inch_par n0)
  have d := dpt_par C n0 n1
  rw [e] at d
  omega
theorem up_in (C : CE F) (A : AV F) (x0 : 0 ≤ x) (x1 : x < 32) (hx : ∀ n, 0 ≤ n → n < 32 → n ≠ x → H n = F n) {c : Int} (c0 : 0 ≤ c) (cx : inch F c x) : ∀ (j : Nat) (n : Int), n < 32 → up F j n = c → up H j n = c := by
  intro j
  induction j with
  | zero => intro n _ h; exact h
  | succ j ih =>
    intro n n1 h
    by_cases n0 : 0 ≤ n
    · simp only [up] at h ⊢
      rw [if_pos n0] at h ⊢
      have a := A n n0 n1
      have f0 : 0 ≤ F n := by
        apply Classical.byContradiction
        intro z
        rw [up_neg _ _ (by omega)] at h
        omega
      by_cases q : n = x
      · exfalso
        rw [q] at h f0
        exact no_cyc C A x0 x1 f0 (inch_tr ⟨j, h⟩ cx)
      · rw [hx n n0 n1 q]
        exact ih _ a.2 h
    · rw [up_neg _ _ (by omega)] at h ⊢
      exact h
/-- where a node may come to stand -/
def LG (G : Int → Int) (ins to : Int) : Prop := 0 ≤ to ∧ to ≤ G 288 ∧ (ins = -2 ∨ (1 ≤ to ∧ inch G (G (256 + (to - 1))) ins)) ∧ (to < G 288 → G (G (256 + to)) = -2 ∨ inch G ins (G (G (256 + to))))
/-- the form with the stretch moved -/
def MVD (F G H : Int → Int) (x p e ins to : Int) : Prop := (∀ n, 0 ≤ n → n < 32 → n ≠ x → H n = F n) ∧ H x = ins ∧ H 288 = F 288 ∧ (∀ i, 0 ≤ i → i < to → H (256 + i) = G (256 + i)) ∧ (∀ i, to ≤ i → i < to + (e - p) → H (256 + i) = F (256 + (p + (i - to)))) ∧ ∀ i, to + (e - p) ≤ i → i < F 288 → H (256 + i) = G (256 + (i - (e - p)))
/-- what a group that takes the node is -/
def INq (F : Int → Int) (x ins : Int) : Prop := ins = -2 ∨ (24 ≤ ins ∧ keep F x ins)
/-- all groups of the node stand high enough -/
def DP (F : Int → Int) (x ins : Int) : Prop := ∀ g, 24 ≤ g → g < 32 → F g ≠ -1 → inch F g x → dpt F 8 g - dpt F 8 x + 1 + dpt F 8 ins ≤ 4
/-- where a place of the moved form comes from -/
def mvs (p d to i : Int) : Int := if i < to then (if i < p then i else i + d) else if i < to + d then p + (i - to) else (if i - d < p then i - d else i)
theorem MVD.od (m : MVD F G H x p e ins to) (c : CUT F G x p e) (l : LG G ins to) (s : STR F x p e) {i : Int} (i0 : 0 ≤ i) (i1 : i < F 288) : H (256 + i) = F (256 + mvs p (e - p) to i) ∧ 0 ≤ mvs p (e - p) to i ∧ mvs p (e - p) to i < F 288 := by
  obtain ⟨m1, m2, m3, m4, m5, m6⟩ := m
  obtain ⟨c1, c2, c3, c4, c5⟩ := c
  obtain ⟨l1, l2, _⟩ := l
  obtain ⟨s1, s2, s3, _⟩ := s
  unfold mvs
  by_cases a : i < to
  · rw [if_pos a]
    by_cases b : i < p
    · rw [if_pos b, m4 i i0 a, c4 i i0 b]; exact ⟨rfl, by omega, by omega⟩
    · rw [if_neg b, m4 i i0 a, c5 i (by omega) (by omega)]; exact ⟨rfl, by omega, by omega⟩
  · rw [if_neg a]
    by_cases b : i < to + (e - p)
    · rw [if_pos b, m5 i (by omega) b]; exact ⟨rfl, by omega, by omega⟩
    · rw [if_neg b, m6 i (by omega) i1]
      by_cases w : i - (e - p) < p
      · rw [if_pos w, c4 _ (by omega) w]; exact ⟨rfl, by omega, by omega⟩
      · rw [if_neg w, c5 _ (by omega) (by omega), show i - (e - p) + (e - p) = i by omega]; exact ⟨rfl, by omega, by omega⟩
theorem mvs_inj {d i j : Int} (d0 : 0 < d) (h : mvs p d to i = mvs p d to j) : i = j := by
  unfold mvs at h
  by_cases a : i < to
  · rw [if_pos a] at h
    by_cases b : i < p
    · rw [if_pos b] at h
      by_cases a' : j < to
      · rw [if_pos a'] at h
        by_cases b' : j < p
        · rw [if_pos b'] at h; exact h
        · rw [if_neg b'] at h; omega
      · rw [if_neg a'] at h
        by_cases b' : j < to + d
        · rw [if_pos b'] at h; omega
        · rw [if_neg b'] at h
          by_cases w : j - d < p
          · rw [if_pos w] at h; omega
          · rw [if_neg w] at h; omega
    · rw [if_neg b] at h
      by_cases a' : j < to
      · rw [if_pos a'] at h
        by_cases b' : j < p
        · rw [if_pos b'] at h; omega
        · rw [if_neg b'] at h; omega
      · rw [if_neg a'] at h
        by_cases b' : j < to + d
        · rw [if_pos b'] at h; omega
        · rw [if_neg b'] at h
          by_cases w : j - d < p
          · rw [if_pos w] at h; omega
          · rw [if_neg w] at h; omega
  · rw [if_neg a] at h
    by_cases b : i < to + d
    · rw [if_pos b] at h
      by_cases a' : j < to
      · rw [if_pos a'] at h
        by_cases b' : j < p
        · rw [if_pos b'] at h; omega
        · rw [if_neg b'] at h; omega
      · rw [if_neg a'] at h
        by_cases b' : j < to + d
        · rw [if_pos b'] at h; omega
        · rw [if_neg b'] at h
          by_cases w : j - d < p
          · rw [if_pos w] at h; omega
          · rw [if_neg w] at h; omega
    · rw [if_neg b] at h
      by_cases w' : i - d < p
      · rw [if_pos w'] at h
        by_cases a' : j < to
        · rw [if_pos a'] at h
          by_cases b' : j < p
          · rw [if_pos b'] at h; omega
          · rw [if_neg b'] at h; omega
        · rw [if_neg a'] at h
          by_cases b' : j < to + d
          · rw [if_pos b'] at h; omega
          · rw [if_neg b'] at h
            by_cases w : j - d < p
            · rw [if_pos w] at h; omega
            · rw [if_neg w] at h; omega
      · rw [if_neg w'] at h
        by_cases a' : j < to
        · rw [if_pos a'] at h
          by_cases b' : j < p
          · rw [if_pos b'] at h; omega
          · rw [if_neg b'] at h; omega
        · rw [if_neg a'] at h
          by_cases b' : j < to + d
          · rw [if_pos b'] at h; omega
          · rw [if_neg b'] at h
            by_cases w : j - d < p
            · rw [if_pos w] at h; omega
            · rw [if_neg w] at h; omega
theorem mvs_sur {d m i : Int} (d0 : 0 < d) (p0 : 0 ≤ p) (pd : p + d ≤ m) (t0 : 0 ≤ to) (t1 : to ≤ m - d) (i0 : 0 ≤ i) (i1 : i < m) : ∃ j, 0 ≤ j ∧ j < m ∧ mvs p d to j = i := by
  unfold mvs
  by_cases a : p ≤ i ∧ i < p + d
  · refine ⟨to + (i - p), by omega, by omega, ?_⟩
    rw [if_neg (by omega), if_pos (by omega)]; omega
  · by_cases b : i < p
    · by_cases c : i < to
      · refine ⟨i, i0, i1, ?_⟩
        rw [if_pos c, if_pos b]
      · refine ⟨i + d, by omega, by omega, ?_⟩
        rw [if_neg (by omega), if_neg (by omega), if_pos (by omega)]; omega
    · by_cases c : i - d < to
      · refine ⟨i - d, by omega, by omega, ?_⟩
        rw [if_pos c, if_neg (by omega)]; omega
      · refine ⟨i, by omega, by omega, ?_⟩
        rw [if_neg (by omega), if_neg (by omega), if_neg (by omega)]
theorem MVD.kp (m : MVD F G H x p e ins to) {n : Int} (k : keep F x n) : H n = F n := m.1 n k.1 k.2.1 (fun z => k.2.2.2 (by rw [z]; exact inch_rfl))
theorem INq.k (i : INq F x ins) : ins = -2 ∨ keep F x ins := i.imp id fun z => z.2
theorem MVD.pr (m : MVD F G H x p e ins to) (i : INq F x ins) (xp : F x ≠ -1) {n : Int} (n0 : 0 ≤ n) (n1 : n < 32) : H n ≠ -1 ↔ F n ≠ -1 := by
  by_cases c : n = x
  · rw [c, m.2.1]
    exact ⟨fun _ => xp, fun _ => by rcases i with z | z <;> omega⟩
  · rw [m.1 n n0 n1 c]
theorem MVD.tv (m : MVD F G H x p e ins to) (T : TV F) (i : INq F x ins) (xp : F x ≠ -1) : TV H := by
  intro n n0 n1
  by_cases c : n = x
  · rw [c, m.2.1]
    rcases i with z | z
    · exact Or.inr (Or.inl z)
    · exact Or.inr (Or.inr ⟨z.1, z.2.2.1, (m.pr (Or.inr z) xp z.2.1 z.2.2.1).mpr z.2.2.2.1⟩)
  · rw [m.1 n n0 n1 c]
    rcases T n n0 n1 with z | z | z
    · exact Or.inl z
    · exact Or.inr (Or.inl z)
    · exact Or.inr (Or.inr ⟨z.1, z.2.1, (m.pr i xp (by omega) z.2.1).mpr z.2.2⟩)
theorem INq.e4 (i : INq F x ins) (d : DE F) : ends F 4 ins := by
  rcases i with z | z
  · exact Or.inl (by omega)
  · exact Or.inr ((d ins z.2.1 z.2.2.1 z.2.2.2.1).2 z.1)
/-- how deep a group of the node comes to stand -/
theorem MVD.dp (m : MVD F G H x p e ins to) (t : TR F) (de : DE F) (i : INq F x ins) (x0 : 0 ≤ x) (x1 : x < 32) {c : Int} (c0 : 0 ≤ c) (c1 : c < 32) (cp : F c ≠ -1) (cx : inch F c x) : ∃ j : Nat, up F j c = x ∧ dpt F 8 c = j + dpt F 8 x ∧ (∀ k : Nat, ends F k ins → ends H (j + (k + 1)) c) ∧ (j ≤ 3 → dpt H 8 c = j + 1 + dpt F 8 ins) := by
  obtain ⟨j, u, d⟩ := lev_ch t.ce c1 x0 x1 cx
  have uH := up_in (H := H) t.ce t.av x0 x1 m.1 x0 inch_rfl j c c1 u
  refine ⟨j, u, d, fun k ek => ?_, fun h => ?_⟩
  · refine ends_upw j (k + 1) c ?_
    rw [uH]
    refine Or.inr ?_
    rw [m.2.1]
    exact ends_keep t.tv (fun n kn => m.kp kn) k ins i.k ek
  · have w := dpt_up (F := H) j (8 - j) c (by rw [uH]; exact x0)
    rw [uH, show 8 - j + j = 8 by omega, show 8 - j = (7 - j) + 1 by omega] at w
    rw [w]
    have st : dpt H ((7 - j) + 1) x = 1 + dpt H (7 - j) (H x) := by
      show (if 0 ≤ x then 1 + dpt H (7 - j) (H x) else 0) = _
      rw [if_pos x0]
    rw [st, m.2.1, dpt_keep t.tv (fun n kn => m.kp kn) (7 - j) ins i.k, dpt_ends (i.e4 de) (show 4 ≤ 7 - j by omega), dpt_ends (i.e4 de) (show 4 ≤ 8 by omega)]
    omega
theorem MVD.de (m : MVD F G H x p e ins to) (t : TR F) (de : DE F) (i : INq F x ins) (x0 : 0 ≤ x) (x1 : x < 32) (xp : F x ≠ -1) (D : DP F x ins) : DE H := by
  have T := t.tv
  have kk := fun n kn => m.kp (n := n) kn
  have e8 : ends F 8 ins := ends_mono (i.e4 de) (by omega)
  have r8 := dpt_rng F 8 ins
  have ed : ends F (dpt F 8 ins).toNat ins := ends_dpt 8 _ ins e8 (by omega)
  intro n n0 n1 hp
  have fp := (m.pr i xp n0 n1).mp hp
  by_cases c : n = x
  · rw [c, m.2.1]
    refine ⟨ends_keep T kk 4 ins i.k (i.e4 de), fun h => ?_⟩
    have d := D x h x1 xp inch_rfl
    exact ends_keep T kk 3 ins i.k (ends_dpt 8 3 ins e8 (by omega))
  · rw [m.1 n n0 n1 c]
    by_cases k : inch F n x
    · rcases inch_step k n0 with w | w
      · exact absurd w c
      · have c0 : 0 ≤ F n := by
          apply Classical.byContradiction
          intro z
          have := inch_neg w (by omega)
          omega
        rcases T.grp n0 n1 fp with g | ⟨g1, g2, g3⟩
        · omega
        obtain ⟨j, u, dd, en, _⟩ := m.dp t de i x0 x1 c0 g2 g3 w
        have q := D (F n) g1 g2 g3 w
        have en' := en _ ed
        refine ⟨ends_mono en' (by omega), fun h => ?_⟩
        have q2 := D n h n1 fp k
        have := dpt_par t.ce n0 n1
        exact ends_mono en' (by omega)
    · have kn : keep F x n := ⟨n0, n1, fp, k⟩
      obtain ⟨u1, u2⟩ := de n n0 n1 fp
      exact ⟨ends_keep T kk 4 _ (keep_par T kn) u1, fun h => ends_keep T kk 3 _ (keep_par T kn) (u2 h)⟩
theorem MVD.tr (m : MVD F G H x p e ins to) (t : TR F) (de : DE F) (i : INq F x ins) (x0 : 0 ≤ x) (x1 : x < 32) (xp : F x ≠ -1) (D : DP F x ins) (s : STR F x p e) (c : CUT F G x p e) (l : LG G ins to) : TR H := by
  have T := t.tv
  have O := t.ov
  have o2 := O.2.1
  have tG := TR_cut t s x0 x1 c
  have dH := m.de t de i x0 x1 xp D
  have TH := m.tv T i xp
  have od := fun j (j0 : 0 ≤ j) (j1 : j < F 288) => m.od c l s j0 j1
  obtain ⟨m1, m2, m3, m4, m5, m6⟩ := id m
  obtain ⟨s1, s2, s3, s4, s5⟩ := id s
  obtain ⟨c1, c2, c3, c4, c5⟩ := id c
  obtain ⟨l1, l2, l3, l4⟩ := l
  have kG : ∀ j, 0 ≤ j → j < G 288 → keep F x (G (256 + j)) := fun j j0 j1 => c.pr (tG.ov.2.2 j j0 j1).1 (tG.ov.2.2 j j0 j1).2 (tG.op j j0 j1)
  have eGH : ∀ n, keep F x n → H n = G n := fun n k => (m.kp k).trans (c1 n k).symm
  have iGH : ∀ n a, keep F x n → inch G n a → inch H n a := fun n a k h => (inch_keep T (fun n k => m.kp k) k).mpr ((inch_keep T c1 k).mp h)
  refine ⟨⟨by omega, by omega, fun j j0 j1 => ?_⟩, fun j j0 j1 => ?_, fun n n0 n1 h => ?_, fun a b a0 a1 b0 b1 h => ?_, TH, fun n n0 n1 => ?_, fun q q0 q1 => ?_⟩
  · obtain ⟨w1, w2, w3⟩ := od j j0 (by omega)
    rw [w1]; exact O.2.2 _ w2 w3
  · obtain ⟨w1, w2, w3⟩ := od j j0 (by omega)
    rw [w1]
    have o := O.2.2 _ w2 w3
    exact (m.pr i xp o.1 o.2).mpr (t.op _ w2 w3)
  · obtain ⟨j, j0, j1, ej⟩ := t.po n n0 n1 ((m.pr i xp n0 n1).mp h)
    obtain ⟨a, a0, a1, ea⟩ := mvs_sur (p := p) (to := to) (d := e - p) (m := F 288) (by omega) s1 (by omega) l1 (by omega) j0 j1
    exact ⟨a, a0, by omega, by rw [(od a a0 a1).1, ea]; exact ej⟩
  · obtain ⟨w1, w2, w3⟩ := od a a0 (by omega)
    obtain ⟨v1, v2, v3⟩ := od b b0 (by omega)
    rw [w1, v1] at h
    exact mvs_inj (by omega) (t.dd _ _ w2 w3 v2 v3 h)
  · by_cases h : H n = -1
    · right
      show ends H 7 (H n)
      rw [h]; exact Or.inl (by decide)
    · right
      show ends H 7 (H n)
      exact ends_mono (dH n n0 n1 h).1 (by omega)
  · by_cases a : q < to
    · have k := kG q q0 (by omega)
      rw [m4 q q0 a, eGH _ k]
      rcases tG.pre q q0 (by omega) with z | ⟨z1, z2⟩
      · exact Or.inl z
      · refine Or.inr ⟨z1, ?_⟩
        rw [m4 (q - 1) (by omega) (by omega)]
        exact iGH _ _ (kG (q - 1) (by omega) (by omega)) z2
    by_cases b : q = to
    · have ex : H (256 + q) = x := by
        rw [m5 q (by omega) (by omega), b, show p + (to - to) = p by omega, s4]
      rw [ex, m2]
      rcases l3 with z | ⟨z1, z2⟩
      · exact Or.inl z
      · refine Or.inr ⟨by omega, ?_⟩
        rw [b, m4 (to - 1) (by omega) (by omega)]
        exact iGH _ _ (kG (to - 1) (by omega) (by omega)) z2
    by_cases d : q < to + (e - p)
    · have r0 : 0 ≤ p + (q - to) := by omega
      have r1 : p + (q - to) < F 288 := by omega
      rw [m5 q (by omega) d, m5 (q - 1) (by omega) (by omega)]
      have o := O.2.2 _ r0 r1
      have ny : F (256 + (p + (q - to))) ≠ x := fun z => by
        have := t.dd _ p r0 r1 s1 (by omega) (z.trans s4.symm)
        omega
      have ix := (s5 _ r0 r1).mpr ⟨by omega, by omega⟩
      rw [m1 _ o.1 o.2 ny]
      rcases inch_step ix o.1 with w | w
      · exact absurd w ny
      have par : F (F (256 + (p + (q - to)))) = -2 ∨ (1 ≤ p + (q - to) ∧ inch F (F (256 + (p + (q - to) - 1))) (F (F (256 + (p + (q - to)))))) := t.pre _ r0 r1
      rcases par with z | ⟨z1, z2⟩
      · exact Or.inl z
      · refine Or.inr ⟨by omega, ?_⟩
        have c0 : 0 ≤ F (F (256 + (p + (q - to)))) := by
          apply Classical.byContradiction
          intro z
          have := inch_neg w (by omega)
          omega
        have op := O.2.2 (p + (q - to) - 1) (by omega) (by omega)
        obtain ⟨j, ej⟩ := z2
        rw [show p + (q - 1 - to) = p + (q - to) - 1 by omega]
        exact ⟨j, up_in t.ce t.av x0 x1 m1 c0 w j _ op.2 ej⟩
    by_cases f : q = to + (e - p)
    · have k := kG to l1 (by omega)
      have ey : H (256 + q) = G (256 + to) := by
        rw [m6 q (by omega) (by omega), show q - (e - p) = to by omega]
      rw [ey, eGH _ k]
      rcases l4 (by omega) with z | z
      · exact Or.inl z
      · rcases i with w | w
        · left
          rw [w] at z
          exact (inch_neg z (by decide)).symm
        · refine Or.inr ⟨by omega, ?_⟩
          have ep : H (256 + (q - 1)) = F (256 + (e - 1)) := by
            rw [m5 (q - 1) (by omega) (by omega), show p + (q - 1 - to) = e - 1 by omega]
          have op := O.2.2 (e - 1) (by omega) (by omega)
          obtain ⟨j, ej⟩ := (s5 (e - 1) (by omega) (by omega)).mpr ⟨by omega, by omega⟩
          have q1 : inch H (F (256 + (e - 1))) x := ⟨j, up_in t.ce t.av x0 x1 m1 x0 inch_rfl j _ op.2 ej⟩
          have q2 : inch H x ins := by
            have := inch_par (F := H) x0
            rw [m2] at this
            exact this
          rw [ep]
          exact inch_tr q1 (inch_tr q2 (iGH _ _ w.2 z))
    · have k := kG (q - (e - p)) (by omega) (by omega)
      rw [m6 q (by omega) (by omega), m6 (q - 1) (by omega) (by omega), eGH _ k]
      rcases tG.pre (q - (e - p)) (by omega) (by omega) with z | ⟨z1, z2⟩
      · exact Or.inl z
      · refine Or.inr ⟨by omega, ?_⟩
        rw [show q - 1 - (e - p) = q - (e - p) - 1 by omega]
        exact iGH _ _ (kG (q - (e - p) - 1) (by omega) (by omega)) z2
theorem FWf_mv {C : Int → List Int32} {np : Nat} (w : FWf F C np) (m : MVD F G H x p e ins to) (i : INq F x ins) (x0 : 0 ≤ x) (x1 : x < 32) (xp : F x ≠ -1) (D : DP F x ins) (s : STR F x p e) (c : CUT F G x p e) (l : LG G ins to) (rows : ∀ q, 32 ≤ q → q < 292 → ¬ (256 ≤ q ∧ q < 289) → H q = F q) (ac : Acy (NE H (fun n => RlL (C n)))) : FWf H C np := by
  obtain ⟨⟨tr, nm, de, gv⟩, kd, tk, _, sg⟩ := w
  have pr := fun n n0 n1 => m.pr (n := n) i xp n0 n1
  refine ⟨⟨m.tr tr de i x0 x1 xp D s c l, ⟨fun n a b d => ?_, fun n m' a b a' b' d d' h => ?_⟩, m.de tr de i x0 x1 xp D, ?_⟩, fun n a b d => ?_, fun n a b d t ht => ?_, ac, fun n a b d => ?_⟩
  · rw [rows (32 + n) (by omega) (by omega) (by omega)]; exact nm.1 n a b ((pr n a b).mp d)
  · rw [rows (32 + n) (by omega) (by omega) (by omega), rows (32 + m') (by omega) (by omega) (by omega)] at h
    exact nm.2 n m' a b a' b' ((pr n a b).mp d) ((pr m' a' b').mp d') h
  · obtain ⟨u1, u2, u3, u4, u5, u6⟩ := gv
    have e9 := rows 289 (by omega) (by omega) (by omega)
    have e10 := rows 290 (by omega) (by omega) (by omega)
    refine ⟨by rw [e9]; exact u1, by rw [e9]; exact u2, by rw [e10]; exact u3, by rw [e10]; exact u4, by rw [e9, e10, m.2.2.1]; exact u5, fun n a b d => ?_⟩
    rw [e9, e10]
    exact u6 n a b ((pr n a b).mp d)
  · unfold kdOk
    rw [rows (64 + n) (by omega) (by omega) (by omega), rows (96 + n) (by omega) (by omega) (by omega), rows (128 + n) (by omega) (by omega) (by omega), rows (160 + n) (by omega) (by omega) (by omega)]
    exact kd n a b ((pr n a b).mp d)
  · rcases tk n a b ((pr n a b).mp d) t ht with ⟨f, sg', v, f0, f1, f2, r⟩ | h
    · exact Or.inl ⟨f, sg', v, f0, f1, (pr f f0 (by omega)).mpr f2, r⟩
    · exact Or.inr h
  · rw [rows (192 + n) (by omega) (by omega) (by omega), rows (224 + n) (by omega) (by omega) (by omega)]
    exact sg n a b ((pr n a b).mp d)
end

