/-! A NODE WITH ALL THAT IS IN IT -/
/-- its stretch of the order -/
def STR (F : Int → Int) (x p e : Int) : Prop := 0 ≤ p ∧ p < e ∧ e ≤ F 288 ∧ F (256 + p) = x ∧ ∀ i, 0 ≤ i → i < F 288 → (inch F (F (256 + i)) x ↔ (p ≤ i ∧ i < e))
def keep (F : Int → Int) (x n : Int) : Prop := 0 ≤ n ∧ n < 32 ∧ F n ≠ -1 ∧ ¬ inch F n x
section
variable {F G : Int → Int} {x p e : Int}
theorem str_ex (t : TR F) (x0 : 0 ≤ x) (p0 : 0 ≤ p) (p1 : p < F 288) (ep : F (256 + p) = x) : STR F x p (bhd F x 33 (p + 1)) := by
  have o2 := t.ov.2.1
  obtain ⟨e0, e1, e2, e3⟩ := bhd_spec t.ce t.ov x0 33 (p + 1) (by omega) (by omega) (by omega)
  refine ⟨p0, by omega, e1, ep, fun i i0 i1 => ⟨fun h => ?_, fun ⟨h1, h2⟩ => ?_⟩⟩
  · have a := in_from t x0 p0 p1 ep i.toNat (by omega) (by rw [Int.toNat_of_nonneg i0]; exact h)
    refine ⟨by omega, ?_⟩
    apply Classical.byContradiction
    intro z
    exact out_stays ⟨t.ov, t.op, t.tv, t.ce, t.pre⟩ t.dd x0 p0 ep (by omega) e3 (i - bhd F x 33 (p + 1)).toNat i (by omega) i1 h
  · by_cases c : i = p
    · rw [c, ep]; exact inch_rfl
    · exact e2 i (by omega) h2
theorem keep_par (T : TV F) {n : Int} (k : keep F x n) : F n = -2 ∨ keep F x (F n) := by
  obtain ⟨a, b, c, d⟩ := k
  rcases T.grp a b c with h | ⟨h1, h2, h3⟩
  · exact Or.inl h
  · exact Or.inr ⟨by omega, h2, h3, fun z => d (inch_tr (inch_par a) z)⟩
theorem up_keep (T : TV F) (g : ∀ n, keep F x n → G n = F n) : ∀ (j : Nat) (n : Int), (n = -2 ∨ keep F x n) → up G j n = up F j n := by
  intro j
  induction j with
  | zero => intro n _; rfl
  | succ j ih =>
    intro n h
    rcases h with h | h
    · rw [up_neg _ n (by omega), up_neg _ n (by omega)]
    · simp only [up]
      rw [if_pos h.1, if_pos h.1, g n h]
      exact ih _ (keep_par T h)
theorem inch_keep (T : TV F) (g : ∀ n, keep F x n → G n = F n) {n c : Int} (k : keep F x n) : inch G n c ↔ inch F n c := by
  constructor
  · rintro ⟨j, z⟩; exact ⟨j, by rw [← up_keep T g j n (Or.inr k)]; exact z⟩
  · rintro ⟨j, z⟩; exact ⟨j, by rw [up_keep T g j n (Or.inr k)]; exact z⟩
theorem ends_keep (T : TV F) (g : ∀ n, keep F x n → G n = F n) : ∀ (k : Nat) (n : Int), (n = -2 ∨ keep F x n) → ends F k n → ends G k n := by
  intro k
  induction k with
  | zero => intro n _ h; exact h
  | succ k ih =>
    intro n hn h
    rcases hn with hn | hn
    · left; omega
    · rcases h with h | h
      · exact Or.inl h
      · right; rw [g n hn]; exact ih _ (keep_par T hn) h
/-- the form without the node -/
def CUT (F G : Int → Int) (x p e : Int) : Prop := (∀ n, keep F x n → G n = F n) ∧ (∀ n, 0 ≤ n → n < 32 → ¬ keep F x n → G n = -1) ∧ G 288 = F 288 - (e - p) ∧ (∀ i, 0 ≤ i → i < p → G (256 + i) = F (256 + i)) ∧ ∀ i, p ≤ i → i < F 288 - (e - p) → G (256 + i) = F (256 + (i + (e - p)))
theorem CUT.pr (c : CUT F G x p e) {n : Int} (n0 : 0 ≤ n) (n1 : n < 32) (h : G n ≠ -1) : keep F x n := by
  apply Classical.byContradiction
  intro z
  exact h (c.2.1 n n0 n1 z)
theorem inch_lvl (C : CE F) {a c : Int} (a0 : 0 ≤ a) (a1 : a < 32) (c0 : 0 ≤ c) (c1 : c < 32) (h1 : inch F a c) (h2 : inch F c a) : a = c := by
  obtain ⟨i, e1, d1⟩ := lev_ch C a1 c0 c1 h1
  obtain ⟨j, e2, d2⟩ := lev_ch C c1 a0 a1 h2
  have : i = 0 := by omega
  rw [this] at e1
  exact e1
theorem TR_cut (t : TR F) (s : STR F x p e) (x0 : 0 ≤ x) (x1 : x < 32) (c : CUT F G x p e) : TR G := by
  obtain ⟨s1, s2, s3, s4, s5⟩ := s
  obtain ⟨g1, g2, g3, g4, g5⟩ := id c
  have O := t.ov
  have T := t.tv
  have kp : ∀ i, 0 ≤ i → i < F 288 → ¬ (p ≤ i ∧ i < e) → keep F x (F (256 + i)) := fun i i0 i1 h => ⟨(O.2.2 i i0 i1).1, (O.2.2 i i0 i1).2, t.op i i0 i1, fun z => h ((s5 i i0 i1).mp z)⟩
  have od : ∀ i, 0 ≤ i → i < G 288 → ∃ q, 0 ≤ q ∧ q < F 288 ∧ ¬ (p ≤ q ∧ q < e) ∧ G (256 + i) = F (256 + q) ∧ q = if i < p then i else i + (e - p) := fun i i0 i1 => by
    by_cases h : i < p
    · exact ⟨i, i0, by omega, by omega, g4 i i0 h, by rw [if_pos h]⟩
    · exact ⟨i + (e - p), by omega, by omega, by omega, g5 i (by omega) (by omega), by rw [if_neg h]⟩
  refine ⟨⟨by omega, by have := O.2.1; omega, fun i i0 i1 => ?_⟩, fun i i0 i1 => ?_, fun n n0 n1 h => ?_, fun i j i0 i1 j0 j1 h => ?_, fun n n0 n1 => ?_, fun n n0 n1 => ?_, fun q q0 q1 => ?_⟩
  · obtain ⟨q, q0, q1, q2, q3, _⟩ := od i i0 i1
    rw [q3]; exact O.2.2 q q0 q1
  · obtain ⟨q, q0, q1, q2, q3, _⟩ := od i i0 i1
    have k := kp q q0 q1 q2
    rw [q3, g1 _ k]; exact k.2.2.1
  · have k := c.pr n0 n1 h
    obtain ⟨i, i0, i1, ei⟩ := t.po n n0 n1 k.2.2.1
    have ni : ¬ (p ≤ i ∧ i < e) := fun z => k.2.2.2 (by rw [← ei]; exact (s5 i i0 i1).mpr z)
    by_cases h : i < p
    · exact ⟨i, i0, by omega, by rw [g4 i i0 h]; exact ei⟩
    · refine ⟨i - (e - p), by omega, by omega, ?_⟩
      rw [g5 _ (by omega) (by omega), show i - (e - p) + (e - p) = i by omega]; exact ei
  · obtain ⟨q, q0, q1, q2, q3, q4⟩ := od i i0 i1
    obtain ⟨r, r0, r1, r2, r3, r4⟩ := od j j0 j1
    rw [q3, r3] at h
    have := t.dd q r q0 q1 r0 r1 h
    split at q4 <;> split at r4 <;> omega
  · by_cases h : G n = -1
    · exact Or.inl h
    · have k := c.pr n0 n1 h
      rw [g1 n k]
      rcases keep_par T k with z | z
      · exact Or.inr (Or.inl z)
      · rcases T n n0 n1 with w | w | w
        · exact Or.inl w
        · exact Or.inr (Or.inl w)
        · refine Or.inr (Or.inr ⟨w.1, w.2.1, ?_⟩)
          rw [g1 _ z]; exact w.2.2
  · by_cases h : G n = -1
    · right
      show ends G 7 (G n)
      rw [h]; exact Or.inl (by decide)
    · have k := c.pr n0 n1 h
      exact ends_keep T g1 8 n (Or.inr k) (t.ce n n0 n1)
  · obtain ⟨r, r0, r1, r2, r3, r4⟩ := od q q0 q1
    have kr := kp r r0 r1 r2
    rw [r3, g1 _ kr]
    have par : F (F (256 + r)) = -2 ∨ (1 ≤ r ∧ inch F (F (256 + (r - 1))) (F (F (256 + r)))) := t.pre r r0 r1
    rcases par with z | ⟨z1, z2⟩
    · exact Or.inl z
    by_cases h : q = p
    · -- the first one behind the gap
      have re : r = e := by rw [r4, if_neg (by omega)]; omega
      rw [re] at z2 ⊢
      have oy := O.2.2 e (by omega) (by omega)
      have ny : ¬ inch F (F (256 + e)) x := fun w => by have := (s5 e (by omega) (by omega)).mp w; omega
      have ix := (s5 (e - 1) (by omega) (by omega)).mpr ⟨by omega, by omega⟩
      have icy : ¬ inch F (F (F (256 + e))) x := fun w => ny (inch_tr (inch_par oy.1) w)
      have xc : inch F x (F (F (256 + e))) := by
        rcases inch_lin z2 ix with w | w
        · exact absurd w icy
        · exact w
      have cx : x ≠ F (F (256 + e)) := fun w => icy (by rw [← w]; exact inch_rfl)
      rcases inch_step xc x0 with w | w
      · exact absurd w cx
      · have px := t.pre p s1 (by omega)
        rw [s4] at px
        rcases px with y | ⟨y1, y2⟩
        · rw [y] at w
          have := inch_neg w (by decide)
          exact Or.inl this.symm
        · refine Or.inr ⟨by omega, ?_⟩
          have kq := kp (p - 1) (by omega) (by omega) (by omega)
          rw [h, g4 (p - 1) (by omega) (by omega), inch_keep T g1 kq]
          exact inch_tr y2 w
    · have hq : 1 ≤ q := by
        by_cases w : q < p
        · rw [if_pos w] at r4; omega
        · omega
      have e1 : G (256 + (q - 1)) = F (256 + (r - 1)) := by
        by_cases w : q < p
        · rw [g4 (q - 1) (by omega) (by omega), r4, if_pos w]
        · rw [g5 (q - 1) (by omega) (by omega), r4, if_neg w]; congr 2; omega
      have kq := kp (r - 1) (by omega) (by omega) (by
        by_cases w : q < p
        · rw [if_pos w] at r4; omega
        · rw [if_neg w] at r4; omega)
      refine Or.inr ⟨hq, ?_⟩
      rw [e1, inch_keep T g1 kq]; exact z2
/-- nothing that stays asks for what goes -/
def NoNeed (F : Int → Int) (R : Int → Int32) (x : Int) : Prop := ∀ n, keep F x n → ∀ g, 0 ≤ g → g < 24 → bt (R n) g = true → F g ≠ -1 → keep F x g
theorem FWf_cut {C : Int → List Int32} {np : Nat} (w : FWf F C np) (s : STR F x p e) (x0 : 0 ≤ x) (x1 : x < 32) (c : CUT F G x p e) (rows : ∀ q, 32 ≤ q → q < 292 → ¬ (256 ≤ q ∧ q < 289) → G q = F q) (nn : NoNeed F (fun n => RlL (C n)) x) : FWf G C np := by
  obtain ⟨⟨tr, nm, de, gv⟩, kd, tk, ac, sg⟩ := w
  have trG := TR_cut tr s x0 x1 c
  have T := tr.tv
  have kp := fun n (n0 : 0 ≤ n) (n1 : n < 32) (h : G n ≠ -1) => c.pr n0 n1 h
  have g1 := c.1
  have tkG : ∀ n, 0 ≤ n → n < 32 → G n ≠ -1 → ∀ t ∈ C n, tkOk G t := fun n a b d t ht => by
    have k := kp n a b d
    rcases tk n a b k.2.2.1 t ht with ⟨f, sg', v, f0, f1, f2, v0, v1, v2, v3, r⟩ | h
    · refine Or.inl ⟨f, sg', v, f0, f1, ?_, v0, v1, v2, v3, r⟩
      have kf := nn n k f f0 f1 ((RlL_bt (C n) (fun t ht => tk_bits (tk n a b k.2.2.1 t ht)) f0 (by omega)).mpr ⟨t, ht, by rw [r]; exact tT_c f0 (by omega) v0 v1 v2 v3, by rw [r]; exact tF_c f0 (by omega) v0 v1 v2 v3⟩) f2
      rw [g1 f kf]; exact f2
    · exact Or.inr h
  refine ⟨⟨trG, ⟨fun n a b d => ?_, fun n m a b a' b' d d' h => ?_⟩, fun n a b d => ?_, ?_⟩, fun n a b d => ?_, tkG, ?_, fun n a b d => ?_⟩
  · rw [rows (32 + n) (by omega) (by omega) (by omega)]; exact nm.1 n a b (kp n a b d).2.2.1
  · rw [rows (32 + n) (by omega) (by omega) (by omega), rows (32 + m) (by omega) (by omega) (by omega)] at h
    exact nm.2 n m a b a' b' (kp n a b d).2.2.1 (kp m a' b' d').2.2.1 h
  · have k := kp n a b d
    rw [g1 n k]
    obtain ⟨u1, u2⟩ := de n a b k.2.2.1
    exact ⟨ends_keep T g1 4 _ (keep_par T k) u1, fun h => ends_keep T g1 3 _ (keep_par T k) (u2 h)⟩
  · obtain ⟨u1, u2, u3, u4, u5, u6⟩ := gv
    have e9 := rows 289 (by omega) (by omega) (by omega)
    have e10 := rows 290 (by omega) (by omega) (by omega)
    refine ⟨by rw [e9]; exact u1, by rw [e9]; exact u2, by rw [e10]; exact u3, by rw [e10]; exact u4, by rw [e9, e10, c.2.2.1]; have := s.2.1; omega, fun n a b d => ?_⟩
    rw [e9, e10]
    exact u6 n a b (kp n a b d).2.2.1
  · have k := kp n a b d
    unfold kdOk
    rw [rows (64 + n) (by omega) (by omega) (by omega), rows (96 + n) (by omega) (by omega) (by omega), rows (128 + n) (by omega) (by omega) (by omega), rows (160 + n) (by omega) (by omega) (by omega)]
    exact kd n a b k.2.2.1
  · refine acy_mono (NE_lo tr.tv tr.ce (fun n a b d => RlL_lo (tk n a b d))) (NE_lo trG.tv trG.ce (fun n a b d => RlL_lo (tkG n a b d))) (fun f f0 f1 g g0 g1' h => ?_) ac
    by_cases d : G f = -1
    · rw [NE_ab (fun z => z.2.2 d), bt_0] at h; cases h
    · have k := kp f f0 (by omega) d
      obtain ⟨o, o0, o1, o2, o3⟩ := (NE_bt trG.tv trG.ce f0 f1 d).mp h
      refine (NE_bt tr.tv tr.ce f0 f1 k.2.2.1).mpr ⟨o, o0, o1, ?_, o3⟩
      rw [isin_ch o0 (tr.ce.ends (by omega)), ← inch_keep T g1 k, ← isin_ch o0 (trG.ce.ends (by omega))]
      exact o2
  · rw [rows (192 + n) (by omega) (by omega) (by omega), rows (224 + n) (by omega) (by omega) (by omega)]
    exact sg n a b (kp n a b d).2.2.1
theorem keep_ndo {R : Int → Int32} (t : TR F) (x0 : 0 ≤ x) {n : Int} (n0 : 0 ≤ n) (n1 : n < 32) (s : Int32) : ndo F R x s n = true ↔ (keep F x n ∧ R n &&& s ≠ i32 0) := by
  unfold ndo keep
  rw [decide_eq_true_eq]
  have c := isin_ch (F := F) (n := n) x0 (t.ce.ends n1)
  have d := isin_9 (F := F) (x := x) n0
  constructor
  · rintro ⟨a1, a2, a3, a4⟩
    refine ⟨⟨n0, n1, a1, fun z => ?_⟩, a4⟩
    rcases d.mp (c.mpr z) with w | w
    · exact a2 w
    · rw [a3] at w; cases w
  · rintro ⟨⟨_, _, a1, a2⟩, a4⟩
    refine ⟨a1, fun w => a2 (by rw [w]; exact inch_rfl), ?_, a4⟩
    cases h : isin F 8 (F n) x with
    | false => rfl
    | true => exact absurd (c.mp (d.mpr (Or.inr h))) a2
theorem fin_ch (t : TR F) (x0 : 0 ≤ x) {g : Int} (g0 : 0 ≤ g) (g1 : g < 24) : fin F x g = true ↔ (F g ≠ -1 ∧ inch F g x) := by
  rw [fin_M x0 g0]
  unfold finM
  rw [decide_eq_true_eq, isin_ch x0 (t.ce.ends (by omega))]
theorem noNeed_of {R : Int → Int32} (t : TR F) (x0 : 0 ≤ x) (h : anyf (ndo F R x (fmk (fin F x) 24 0 (i32 0))) 32 0 = false) : NoNeed F R x := by
  intro n k g g0 g1 b pg
  refine ⟨g0, by omega, pg, fun z => ?_⟩
  have e : anyf (ndo F R x (fmk (fin F x) 24 0 (i32 0))) 32 0 = true := by
    rw [anyf_iff]
    refine ⟨n, k.1, by have := k.2.1; omega, ?_⟩
    rw [keep_ndo t x0 k.1 k.2.1]
    refine ⟨k, fun w => ?_⟩
    have bb : bt (R n &&& fmk (fin F x) 24 0 (i32 0)) g = true := by
      rw [bt_and, b, Bool.true_and, fmk_bt g0 (by omega) 24 0 _ (by omega) (by omega)]
      exact Or.inr ⟨g0, by omega, (fin_ch t x0 g0 g1).mpr ⟨pg, z⟩⟩
    rw [w, bt_0] at bb; cases bb
  rw [h] at e; cases e
end

