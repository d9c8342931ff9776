/-! REMOVE, THE CLASS -/
section
variable {h g : HP} {a : Nat} {F G : Int → Int} {x p e : Int}
theorem STR_E (E : EqT G F) (t : TR F) (s : STR G x p e) (x0 : 0 ≤ x) : STR F x p e := by
  obtain ⟨s1, s2, s3, s4, s5⟩ := s
  have tG := TR_E E t
  rw [E.2.1] at s3 s5
  refine ⟨s1, s2, s3, by rw [← E.2.2 p s1 (by omega)]; exact s4, fun i i0 i1 => ?_⟩
  have o := t.ov.2.2 i i0 i1
  rw [← s5 i i0 i1, E.2.2 i i0 i1, ← isin_ch x0 (t.ce.ends o.2), ← isin_ch x0 (tG.ce.ends o.2), EqT_isin E t.av 9 _ o.2]
theorem STR_u (s : STR F x p e) {e' : Int} (s' : STR F x p e') : e = e' := by
  obtain ⟨s1, s2, s3, s4, s5⟩ := s
  obtain ⟨r1, r2, r3, r4, r5⟩ := s'
  apply Classical.byContradiction
  intro n
  by_cases c : e < e'
  · have := (s5 e (by omega) (by omega)).mp ((r5 e (by omega) (by omega)).mpr ⟨by omega, c⟩)
    omega
  · have := (r5 e' (by omega) (by omega)).mp ((s5 e' (by omega) (by omega)).mpr ⟨by omega, by omega⟩)
    omega
theorem x_place (A : FormAt h a) (E : EqT (Fc h a) F) (t : TR F) (x0 : 0 ≤ x) (x1 : x < 32) (p0 : 0 ≤ p) (p1 : p < F 288) (ep : F (256 + p) = x) : fX0_placeOf a (i32 x) h = some (i32 p) := by
  have tc := TR_E E t
  have e1 := E.2.1
  refine cplaceOf A (by omega) (by omega) tc.ov p0 (by rw [e1]; exact p1) (by rw [E.2.2 p p0 p1]; exact ep) (fun q q0 q1 z => ?_)
  rw [E.2.2 q q0 (by omega)] at z
  have := t.dd q p q0 (by omega) p0 p1 (z.trans ep.symm)
  omega
theorem x_end (A : FormAt h a) (E : EqT (Fc h a) F) (Gc : GC h a) (t : TR F) (s : STR F x p e) (x0 : 0 ≤ x) (x1 : x < 32) (xp : F x ≠ -1) : fX0_endOf a (i32 x) h = some (i32 e) := by
  have tc := TR_E E t
  have e1 := E.2.1
  obtain ⟨s1, s2, s3, s4, s5⟩ := id s
  have p1 : p < F 288 := by omega
  have epc : Fc h a (256 + p) = x := by rw [E.2.2 p s1 p1]; exact s4
  have u : ∀ q, 0 ≤ q → q < p → Fc h a (256 + q) ≠ x := fun q q0 q1 z => by
    rw [E.2.2 q q0 (by omega)] at z
    have := t.dd q p q0 (by omega) s1 p1 (z.trans s4.symm)
    omega
  rw [cend A tc.tv Gc tc.ov tc.op tc.ce x0 x1 s1 (by rw [e1]; exact p1) epc u]
  have xpc : Fc h a x ≠ -1 := by rw [E.1 x x0 x1]; exact xp
  have o2 := tc.ov.2.1
  rw [eof_bhd ⟨tc.ov, tc.op, tc.tv, tc.ce, tc.pre⟩ tc.dd x0 x1 xpc s1 epc (Fc h a 288 - (p + 1)).toNat 33 (p + 1) (by omega) (by omega) (by omega) (by rw [show p + 1 - 1 = p by omega, epc]; exact inch_rfl)]
  have sc := STR_E E t (str_ex tc x0 s1 (by rw [e1]; exact p1) epc) x0
  rw [STR_u s sc]
theorem put_r (S : FormAt h a) {i : Int} {v : Int32} (i0 : 0 ≤ i) (i1 : i < 32) : fX0_put a (i32 i) v h = some (sA h (a + 1) i.toNat v) := by
  unfold fX0_put
  rw [if_neg (by rw [i32_z, i32_lt (by omega) (by omega) (by omega) (by omega)]; omega), if_neg (by rw [i32_le (by omega) (by omega) (by omega) (by omega)]; omega), S.o, gd_tt, S.rO, oc_s, S.oO, gd_tt, S.nO, i32_inb i0 (by omega) (by omega), gd_tt, i32_cn i0 (by omega), lt_e]
theorem hold_r (S : FormAt h a) {i : Int} {v : Int32} (i0 : 0 ≤ i) (i1 : i < 32) : fX0_hold a (i32 i) v h = some (sA h (a + 2) i.toNat v) := by
  unfold fX0_hold
  rw [if_neg (by rw [i32_z, i32_lt (by omega) (by omega) (by omega) (by omega)]; omega), if_neg (by rw [i32_le (by omega) (by omega) (by omega) (by omega)]; omega), S.o, gd_tt, S.rH, oc_s, S.oH, gd_tt, S.nH, i32_inb i0 (by omega) (by omega), gd_tt, i32_cn i0 (by omega), lt_e]
theorem held_r (S : FormAt h a) {i : Int} (i0 : 0 ≤ i) (i1 : i < 32) : fX0_heldAt a (i32 i) h = some (hA h (a + 2) i.toNat) := by
  unfold fX0_heldAt
  rw [if_neg (by rw [i32_z, i32_lt (by omega) (by omega) (by omega) (by omega)]; omega), if_neg (by rw [i32_le (by omega) (by omega) (by omega) (by omega)]; omega), S.o, gd_tt, S.rH, oc_s, S.oH, gd_tt, S.nH, i32_inb i0 (by omega) (by omega), gd_tt, i32_cn i0 (by omega)]
/-- the stretch is held -/
theorem choldL {K : Nat → Int32 → Int32 → HP → Option HP} {m : Int} (p0 : 0 ≤ p) (em : e ≤ m) (m1 : m ≤ 32) : ∀ (d n : Nat) (i : Int) (f : HP), i + d = e → p ≤ i → d < n → FormAt f a → hI f 5 a = i32 m → ∃ g, lX0_takeAway_20 K n a (i32 p) (i32 e) (i32 i) f = K a (i32 p) (i32 e) g ∧ So (fun x => x = a + 2) f g ∧ (∀ q, i ≤ q → q < e → hA g (a + 2) (q - p).toNat = hA f (a + 1) q.toNat) ∧ ∀ q : Nat, (q : Int) < i - p → hA g (a + 2) q = hA f (a + 2) q := by
  intro d
  induction d with
  | zero =>
    intro n i f hi hp hn A hm
    obtain ⟨n, rfl⟩ : ∃ x, n = x + 1 := ⟨n - 1, by omega⟩
    refine ⟨f, ?_, So.r, fun q q0 q1 => by omega, fun q _ => rfl⟩
    rw [elX0_takeAway_20]; unfold bX0_takeAway_20
    rw [if_pos (by rw [i32_le (by omega) (by omega) (by omega) (by omega)]; omega)]
  | succ d ih =>
    intro n i f hi hp hn A hm
    obtain ⟨n, rfl⟩ : ∃ x, n = x + 1 := ⟨n - 1, by omega⟩
    obtain ⟨f1, e1⟩ : ∃ f1, f1 = sA f (a + 2) (i - p).toNat (hA f (a + 1) i.toNat) := ⟨_, rfl⟩
    have p1 : So (fun x => x = a + 2) f f1 := by rw [e1]; exact So_A (S := fun x => x = a + 2) rfl _ _
    have r1 : ∀ y q, hA f1 y q = if y = a + 2 ∧ q = (i - p).toNat then hA f (a + 1) i.toNat else hA f y q := fun y q => by rw [e1, rAA]
    obtain ⟨g, a1, a2, a3, a4⟩ := ih n (i + 1) f1 (by omega) (by omega) (by omega) (A.sk p1.1) (by rw [(p1.2.2 a (by omega)).1]; exact hm)
    refine ⟨g, ?_, p1.t a2, fun q q0 q1 => ?_, fun q hq => ?_⟩
    · rw [elX0_takeAway_20]; unfold bX0_takeAway_20
      rw [if_neg (by rw [i32_le (by omega) (by omega) (by omega) (by omega)]; omega), A.o, gd_tt, at_raw A hm m1 (by omega) (by omega), bn_s, i32_sub, hold_r A (by omega) (by omega), bn_s, ← e1, lt_e, i32_add]
      exact a1
    · by_cases y : q = i
      · have := a4 (i - p).toNat (by omega)
        rw [y, this, r1, if_pos ⟨rfl, rfl⟩]
      · rw [a3 q (by omega) q1, r1, if_neg (fun z => by omega)]
    · rw [a4 q (by omega), r1, if_neg (fun z => by omega)]
/-- the order is closed -/
theorem ccutL {K : Nat → Int32 → HP → Option HP} {m d : Int} (d0 : 0 < d) (m1 : m ≤ 32) : ∀ (c n : Nat) (i : Int) (f : HP), i + c = m → d ≤ i → c < n → FormAt f a → hI f 5 a = i32 m → ∃ g, lX0_cut_7 K n a (i32 d) (i32 i) f = K a (i32 d) g ∧ So (fun x => x = a + 1) f g ∧ (∀ q, i ≤ q → q < m → hA g (a + 1) (q - d).toNat = hA f (a + 1) q.toNat) ∧ ∀ q : Nat, (q : Int) < i - d → hA g (a + 1) q = hA f (a + 1) q := by
  intro c
  induction c with
  | zero =>
    intro n i f hi hp hn A hm
    obtain ⟨n, rfl⟩ : ∃ x, n = x + 1 := ⟨n - 1, by omega⟩
    refine ⟨f, ?_, So.r, fun q q0 q1 => by omega, fun q _ => rfl⟩
    rw [elX0_cut_7]; unfold bX0_cut_7
    rw [A.o, gd_tt, hm, if_pos (by rw [i32_le (by omega) (by omega) (by omega) (by omega)]; omega)]
  | succ c ih =>
    intro n i f hi hp hn A hm
    obtain ⟨n, rfl⟩ : ∃ x, n = x + 1 := ⟨n - 1, by omega⟩
    obtain ⟨f1, e1⟩ : ∃ f1, f1 = sA f (a + 1) (i - d).toNat (hA f (a + 1) i.toNat) := ⟨_, rfl⟩
    have p1 : So (fun x => x = a + 1) f f1 := by rw [e1]; exact So_A (S := fun x => x = a + 1) rfl _ _
    have r1 : ∀ q, hA f1 (a + 1) q = if q = (i - d).toNat then hA f (a + 1) i.toNat else hA f (a + 1) q := fun q => by
      rw [e1, rAA]
      by_cases y : q = (i - d).toNat
      · rw [if_pos ⟨rfl, y⟩, if_pos y]
      · rw [if_neg (fun z => y z.2), if_neg y]
    obtain ⟨g, a1, a2, a3, a4⟩ := ih n (i + 1) f1 (by omega) (by omega) (by omega) (A.sk p1.1) (by rw [(p1.2.2 a (by omega)).1]; exact hm)
    refine ⟨g, ?_, p1.t a2, fun q q0 q1 => ?_, fun q hq => ?_⟩
    · rw [elX0_cut_7]; unfold bX0_cut_7
      rw [A.o, gd_tt, hm, if_neg (by rw [i32_le (by omega) (by omega) (by omega) (by omega)]; omega), at_raw A hm m1 (by omega) (by omega), bn_s, i32_sub, put_r A (by omega) (by omega), bn_s, ← e1, lt_e, i32_add]
      exact a1
    · by_cases y : q = i
      · have := a4 (i - d).toNat (by omega)
        rw [y, this, r1, if_pos rfl]
      · rw [a3 q (by omega) q1, r1, if_neg (by omega)]
    · rw [a4 q (by omega), r1, if_neg (by omega)]
theorem ccut {m : Int} (A : FormAt h a) (hm : hI h 5 a = i32 m) (m1 : m ≤ 32) (p0 : 0 ≤ p) (pe : p < e) (em : e ≤ m) : ∃ g, fX0_cut a (i32 p) (i32 e) h = some g ∧ So (fun x => x = a ∨ x = a + 1) h g ∧ hI g 5 a = i32 (m - (e - p)) ∧ (∀ f, f ≠ 5 → hI g f a = hI h f a) ∧ (∀ q, 0 ≤ q → q < p → hA g (a + 1) q.toNat = hA h (a + 1) q.toNat) ∧ ∀ q, p ≤ q → q < m - (e - p) → hA g (a + 1) q.toNat = hA h (a + 1) (q + (e - p)).toNat := by
  obtain ⟨g1, a1, a2, a3, a4⟩ := ccutL (a := a) (K := fun w2 w3 h4 => gd (isO h4 w2 0) <| lt (sI h4 5 w2 ((hI h4 5 w2) - w3)) fun h6 => some h6) (d := e - p) (by omega) m1 (m - e).toNat FU e h (by omega) (by omega) (by have : FU = 1000000 := rfl; omega) A hm
  have n0 := a2.2.2 a (by omega)
  obtain ⟨g2, e2⟩ : ∃ g2, g2 = sI g1 5 a (i32 (m - (e - p))) := ⟨_, rfl⟩
  refine ⟨g2, ?_, (a2.w (fun x z => Or.inr z)).t (by rw [e2]; exact So_I (Or.inl rfl) _ _), by rw [e2, rII, if_pos ⟨rfl, rfl⟩], fun f hf => by rw [e2, rII, if_neg (fun z => hf z.1), n0.1], fun q q0 q1 => by rw [e2, rAI, a4 q.toNat (by omega)], fun q q0 q1 => ?_⟩
  · unfold fX0_cut
    rw [i32_sub, lt_e]
    refine Eq.trans a1 ?_
    show (gd (isO g1 a 0) <| lt (sI g1 5 a ((hI g1 5 a) - i32 (e - p))) fun h6 => some h6) = _
    rw [(A.sk a2.1).o, gd_tt, n0.1, hm, i32_sub, ← e2, lt_e]
  · rw [e2, rAI, ← a3 (q + (e - p)) (by omega) (by omega), show q + (e - p) - (e - p) = q by omega]
/-- the nodes that are held are cleared -/
theorem cgoneL {V : Int → Int} {d : Int} (d1 : d ≤ 32) (pe : e - p = d) (p0 : 0 ≤ p) (e1 : e ≤ 32) (hV : ∀ q, 0 ≤ q → q < d → 0 ≤ V q ∧ V q < 32) : ∀ (c n : Nat) (i : Int) (f : HP), i + c = d → 0 ≤ i → c < n → FormAt f a → (∀ q, 0 ≤ q → q < d → hA f (a + 2) q.toNat = i32 (V q)) → ∃ g, lX0_takeAway_55 n a (i32 p) (i32 e) (i32 i) f = some g ∧ So (fun x => ∃ q, i ≤ q ∧ q < d ∧ x = a + 4 + (V q).toNat) f g ∧ ∀ q, i ≤ q → q < d → hI g 128 (a + 4 + (V q).toNat) = i32 0 := by
  intro c
  induction c with
  | zero =>
    intro n i f hi i0 hn A hm
    obtain ⟨n, rfl⟩ : ∃ x, n = x + 1 := ⟨n - 1, by omega⟩
    refine ⟨f, ?_, So.r, fun q q0 q1 => by omega⟩
    rw [elX0_takeAway_55]; unfold bX0_takeAway_55
    rw [i32_sub, pe, if_pos (by rw [i32_le (by omega) (by omega) (by omega) (by omega)]; omega)]
  | succ c ih =>
    intro n i f hi i0 hn A hm
    obtain ⟨n, rfl⟩ : ∃ x, n = x + 1 := ⟨n - 1, by omega⟩
    have v := hV i i0 (by omega)
    have h32 : (V i).toNat < 32 := by omega
    -- one step
    obtain ⟨f1, s1, p1, z1⟩ : ∃ f1, lX0_takeAway_55 (n + 1) a (i32 p) (i32 e) (i32 i) f = lX0_takeAway_55 n a (i32 p) (i32 e) (i32 (i + 1)) f1 ∧ So (fun x => x = a + 4 + (V i).toNat) f f1 ∧ hI f1 128 (a + 4 + (V i).toNat) = i32 0 := by
      rw [elX0_takeAway_55]; unfold bX0_takeAway_55 jX0_takeAway_85
      rw [i32_sub, pe, if_neg (by rw [i32_le (by omega) (by omega) (by omega) (by omega)]; omega), A.o, gd_tt, held_r A i0 (by omega), bn_s, hm i i0 (by omega), cfind A (by omega) (by omega), bn_s]
      by_cases c : Fc f a (V i) ≠ -1
      · obtain ⟨φ, ψ, ρ, c1, c2, c3, c4, c5, c6⟩ := clearNode (A.on h32)
        rw [fno_y v.1 v.2 c, on_sm, A.on h32, gd_tt, c1, bn_s, lt_e, i32_add]
        exact ⟨_, rfl, So_wO rfl (fun u a1 _ _ => c5 u a1), by rw [wO_I]; exact c2.1⟩
      · rw [fno_n (fun z => c z.2.2), on_nn, lt_e, i32_add]
        exact ⟨f, rfl, So.r, (Fc_p v.2).mp (Classical.not_not.mp c)⟩
    obtain ⟨g, a1, a2, a3⟩ := ih n (i + 1) f1 (by omega) (by omega) (by omega) (A.sk p1.1) (fun q q0 q1 => by rw [(p1.2.2 (a + 2) (by omega)).2.2.2.1]; exact hm q q0 q1)
    refine ⟨g, s1.trans a1, (p1.w (fun x z => ⟨i, by omega, by omega, z⟩)).t (a2.w (fun x ⟨q, q0, q1, z⟩ => ⟨q, by omega, q1, z⟩)), fun q q0 q1 => ?_⟩
    by_cases y : ∃ q', i + 1 ≤ q' ∧ q' < d ∧ (V q').toNat = (V q).toNat
    · obtain ⟨q', y0, y1, y2⟩ := y
      rw [← y2]; exact a3 q' y0 y1
    · have e : q = i := by
        apply Classical.byContradiction
        intro z
        exact y ⟨q, by omega, q1, rfl⟩
      rw [e] at y ⊢
      rw [(a2.2.2 _ (fun ⟨q', y0, y1, y2⟩ => y ⟨q', y0, y1, by omega⟩)).1]; exact z1
theorem ctakeAway (A : FormAt h a) (r : FRb h a F) (t : TR F) (s : STR F x p e) (x0 : 0 ≤ x) (x1 : x < 32) (xp : F x ≠ -1) : ∃ g, fX0_takeAway a (i32 x) h = some g ∧ So (inF a) h g ∧ (∀ G, CUT F G x p e → (∀ q, 32 ≤ q → q < 292 → ¬ (256 ≤ q ∧ q < 289) → G q = F q) → FRb g a G) ∧ (∀ n, keep F x n → Sm h g (a + 4 + n.toNat)) ∧ ∀ f, f < 5 → hI g f a = hI h f a := by
  obtain ⟨E, Gc⟩ := FRb_tree r t.tv t.ov
  obtain ⟨s1, s2, s3, s4, s5⟩ := id s
  obtain ⟨r3, r4, r5, ro, rn⟩ := r
  have O := t.ov
  have O2 := O.2.1
  have fu : FU = 1000000 := rfl
  obtain ⟨g1, a1, p1, b1, _⟩ := choldL (a := a) (K := fun w6 w7 w8 h9 => gd (isO h9 w6 0) <| bn (fX0_cut w6 w7 w8 h9) fun h12 => lX0_takeAway_55 FU w6 w7 w8 (i32 0) h12) s1 s3 O.2.1 (e - p).toNat FU p h (by omega) (by omega) (by omega) A r5
  have A1 := A.sk p1.1
  have n1 := p1.2.2 a (by omega)
  have o1 := p1.2.2 (a + 1) (by omega)
  obtain ⟨g2, a2, p2, b2, b2', c2, c2'⟩ := ccut A1 (by rw [n1.1]; exact r5) O.2.1 s1 s2 s3
  have A2 := A1.sk p2.1
  obtain ⟨g3, a3, p3, b3⟩ := cgoneL (a := a) (V := fun q => F (256 + (p + q))) (d := e - p) (p := p) (e := e) (by have := O.2.1; omega) rfl s1 (by have := O.2.1; omega) (fun q q0 q1 => O.2.2 (p + q) (by omega) (by omega)) (e - p).toNat FU 0 g2 (by omega) (by omega) (by have := O.2.1; omega) A2 (fun q q0 q1 => by
    have e1 := b1 (p + q) (by omega) (by omega)
    rw [show p + q - p = q by omega] at e1
    rw [(p2.2.2 (a + 2) (by omega)).2.2.2.1, e1]
    exact ro (p + q) (by omega) (by omega))
  have q1 : So (inF a) h g1 := p1.w (fun y z => ⟨by omega, by omega⟩)
  have q2 : So (inF a) g1 g2 := p2.w (fun y z => ⟨by omega, by omega⟩)
  have q3 : So (inF a) g2 g3 := p3.w (fun y ⟨q, z0, z1, z2⟩ => by
    have := O.2.2 (p + q) (by omega) (by omega)
    have z2 : y = a + 4 + (F (256 + (p + q))).toNat := z2
    exact ⟨by omega, by omega⟩)
  have kn : ∀ n, keep F x n → Sm h g3 (a + 4 + n.toNat) := fun n k => by
    refine ((p1.2.2 _ (by omega)).t (p2.2.2 _ (by omega))).t (p3.2.2 _ (fun ⟨q, z0, z1, z2⟩ => ?_))
    have o := O.2.2 (p + q) (by omega) (by omega)
    have z2 : a + 4 + n.toNat = a + 4 + (F (256 + (p + q))).toNat := z2
    have en : n = F (256 + (p + q)) := by have := k.1; omega
    exact k.2.2.2 (by rw [en]; exact (s5 (p + q) (by omega) (by omega)).mpr ⟨by omega, by omega⟩)
  have n3 : ∀ f, hI g3 f a = hI g2 f a := fun f => (p3.2.2 a (fun ⟨q, z0, z1, z2⟩ => by omega)).1 f
  have o3 : ∀ i, hA g3 (a + 1) i = hA g2 (a + 1) i := fun i => (p3.2.2 (a + 1) (fun ⟨q, z0, z1, z2⟩ => by omega)).2.2.2.1 i
  refine ⟨g3, ?_, (q1.t q2).t q3, fun G c rows => ?_, kn, fun f hf => by rw [n3, b2' f (by omega), n1.1]⟩
  · unfold fX0_takeAway
    rw [A.o, gd_tt, x_place A E t x0 x1 s1 (by omega) s4, bn_s, if_pos (by rw [i32_z, i32_le (by omega) (by omega) (by omega) (by omega)]; exact s1), x_end A E Gc t s x0 x1 xp, bn_s]
    refine Eq.trans a1 ?_
    show (gd (isO g1 a 0) <| bn (fX0_cut a (i32 p) (i32 e) g1) fun h12 => lX0_takeAway_55 FU a (i32 p) (i32 e) (i32 0) h12) = _
    rw [A1.o, gd_tt, a2, bn_s]
    exact a3
  · obtain ⟨g1', g2', g3', g4', g5'⟩ := id c
    refine ⟨by rw [n3, b2' 3 (by omega), n1.1, rows 289 (by omega) (by omega) (by omega)]; exact r3, by rw [n3, b2' 4 (by omega), n1.1, rows 290 (by omega) (by omega) (by omega)]; exact r4, by rw [n3, b2, g3'], fun i i0 i1 => ?_, fun n m0 m1 => ?_⟩
    · rw [o3]
      by_cases z : i < p
      · rw [c2 i i0 z, g4' i i0 z, o1.2.2.2.1]; exact ro i i0 (by omega)
      · rw [c2' i (by omega) (by omega), g5' i (by omega) (by omega), o1.2.2.2.1]; exact ro _ (by omega) (by omega)
    · by_cases k : keep F x n
      · have sm := kn n k
        have gn := g1' n k
        right
        rcases rn n m0 m1 with z | ⟨z1, z2, z3⟩
        · exact absurd z.1 k.2.2.1
        · refine ⟨by rw [gn]; exact z1, by rw [sm.1]; exact z2, ?_⟩
          unfold NDc at z3 ⊢
          rw [sm.1, sm.1, sm.1, sm.1, sm.1, sm.2.1, gn, rows (32 + n) (by omega) (by omega) (by omega), rows (64 + n) (by omega) (by omega) (by omega), rows (96 + n) (by omega) (by omega) (by omega), rows (128 + n) (by omega) (by omega) (by omega), rows (160 + n) (by omega) (by omega) (by omega)]
          exact z3
      · left
        refine ⟨g2' n m0 m1 k, ?_⟩
        by_cases pr : F n = -1
        · rcases rn n m0 m1 with z | ⟨z1, _⟩
          · by_cases w : ∃ q, 0 ≤ q ∧ q < e - p ∧ a + 4 + n.toNat = a + 4 + (F (256 + (p + q))).toNat
            · obtain ⟨q, w0, w1, w2⟩ := w
              rw [w2]; exact b3 q w0 w1
            · rw [(p3.2.2 _ w).1, (p2.2.2 _ (by omega)).1, (p1.2.2 _ (by omega)).1]; exact z.2
          · exact absurd pr z1
        · obtain ⟨i, i0, i1, ei⟩ := t.po n m0 m1 pr
          have ix : inch F (F (256 + i)) x := by
            apply Classical.byContradiction
            intro w
            exact k ⟨m0, m1, pr, by rw [← ei]; exact w⟩
          have ri := (s5 i i0 i1).mp ix
          have := b3 (i - p) (by omega) (by omega)
          rw [show p + (i - p) = i by omega, ei] at this
          exact this
end

