section
variable {h g : HP} {F A : Int → Int} {Cn : Int → List Int32} {kn sn fd : Int → Bool} {fo sh : Int}
theorem bI_0 {b : Bool} : (bI b = 0) ↔ b = false := by cases b <;> decide
theorem areKnown_s (M : MS g) (ha : ∀ n, 0 ≤ n → n < 32 → hA g 998 n.toNat = bI (kn n)) {s : Int32} : fX11_areKnown 983 s g = some (!anyf (fun f => bt s f && !kn f) 24 0) := by
  have loop : ∀ (k n : Nat) (i : Int), 0 ≤ i → i + k = 24 → k < n → lX11_areKnown_2 g n 983 s (i32 i) = some (!anyf (fun f => bt s f && !kn f) k i) := by
    intro k
    induction k with
    | zero =>
      intro n i i0 e hn
      obtain ⟨n, rfl⟩ : ∃ x, n = x + 1 := ⟨n - 1, by omega⟩
      rw [elX11_areKnown_2]; unfold bX11_areKnown_2
      rw [if_pos (by rw [i32_le (by omega) (by omega) (by omega) (by omega)]; omega)]
      rfl
    | succ k ih =>
      intro n i i0 e hn
      obtain ⟨n, rfl⟩ : ∃ x, n = x + 1 := ⟨n - 1, by omega⟩
      have nx : jX11_areKnown_28 g (fun v0 v1 v2 => lX11_areKnown_2 g n v0 v1 v2) 983 s (i32 i) = some (!anyf (fun f => bt s f && !kn f) k (i + 1)) := by
        unfold jX11_areKnown_28
        rw [lt_e, i32_add]
        exact ih n (i + 1) (by omega) (by omega) (by omega)
      rw [elX11_areKnown_2]; unfold bX11_areKnown_2
      rw [if_neg (by rw [i32_le (by omega) (by omega) (by omega) (by omega)]; omega)]
      simp only [anyf]
      by_cases c : bt s i = true
      · rw [if_pos (by rw [bt_in i0 (by omega)]; exact c), M.o, gd_tt, M.r_known, oc_s, M.o_known, gd_tt, M.n_known, i32_inb i0 (by omega) (by omega), gd_tt, i32_cn i0 (by omega), ha i i0 (by omega)]
        by_cases w : kn i = true
        · rw [if_neg (show ¬ bI (kn i) = 0 by rw [w]; decide), if_neg (show ¬ (bt s i && !kn i) = true by rw [w, c]; decide), nx]
        · have w' : kn i = false := by
            cases z : kn i with
            | false => rfl
            | true => exact absurd z w
          rw [if_pos (show bI (kn i) = 0 by rw [w']; rfl), if_pos (show (bt s i && !kn i) = true by rw [w', c]; rfl)]
          rfl
      · rw [if_neg (by rw [bt_in i0 (by omega)]; exact c), nx]
        have c' : bt s i = false := by
          cases w : bt s i with
          | false => rfl
          | true => exact absurd w c
        rw [if_neg (show ¬ (bt s i && !kn i) = true by rw [c', Bool.false_and]; decide)]
  unfold fX11_areKnown
  exact loop 24 FU 0 (by omega) (by omega) (by decide)
theorem FMs.im (m : FMs g F A Cn fo sh) (la : LSa g kn sn fd) (k4 : ∀ f, 0 ≤ f → f < 24 → fd f = true → 0 ≤ A f ∧ A f ≤ 9999) {n : Int} (n0 : 0 ≤ n) (n1 : n < 32) (p : F n ≠ -1) : IMt g A (phi A fd) fo n sh (F (192 + n)) (Cn n) := by
  obtain ⟨M, i2, i3, i4, i5, i6, i7⟩ := m
  obtain ⟨⟨s1, s2, s3⟩, _⟩ := i6 n n0 n1 p
  have len : ((Cn n).length : Int) = F (224 + n) := by
    rw [← i5 n]; unfold sgm
    rw [List.length_map, List.length_range]; omega
  refine ⟨M, i2, ⟨n0, n1⟩, i3, by rw [i4]; exact len.symm, by rw [i4], s1, by omega, fun j t ht => ?_, i7, fun f f0 f1 => ?_⟩
  · rw [← i5 n] at ht
    unfold sgm at ht
    rw [List.getElem?_map] at ht
    have hj : j < (F (224 + n)).toNat := by
      apply Classical.byContradiction
      intro z
      rw [List.getElem?_eq_none (by rw [List.length_range]; omega)] at ht
      cases ht
    rw [List.getElem?_range hj] at ht
    exact (Option.some.inj ht)
  · have e := la.2 f f0 f1
    cases w : fd f with
    | false => left; rw [e, w]; exact ⟨rfl, by unfold phi; rw [w, if_neg (by decide)]⟩
    | true => right; rw [e, w]; exact ⟨rfl, by unfold phi; rw [w, if_pos rfl], k4 f f0 f1 w⟩
/-- one node of the order -/
theorem mlay1 {np : Nat} {K : Nat → Int32 → Int32 → Int32 → HP → Option HP} (m : FMs g F A Cn fo sh) (w : FWf F Cn np) (la : LSa g kn sn fd) (k : LSk F A Cn kn sn fd) {n : Nat} {i : Int} (i0 : 0 ≤ i) (i1 : i < F 288) (mb : Bool) : ∃ g' kn' sn' fd' mb', lX11_laysShown_60 K (n + 1) 983 (i32 fo) (i32 sh) (bI mb) (i32 i) g = lX11_laysShown_60 K n 983 (i32 fo) (i32 sh) (bI mb') (i32 (i + 1)) g' ∧ Mo L4 g g' ∧ LSa g' kn' sn' fd' ∧ LSk F A Cn kn' sn' fd' ∧ ((mb' = mb ∧ kn' = kn ∧ (kn (F (256 + i)) = true ∨ (0 ≤ F (F (256 + i)) ∧ kn (F (F (256 + i))) = false) ∨ ∃ f, 0 ≤ f ∧ f < 24 ∧ bt (RlL (Cn (F (256 + i)))) f = true ∧ kn f = false)) ∨ (mb' = true ∧ kn (F (256 + i)) = false ∧ kn' = updB kn (F (256 + i)) true)) := by
  have m0 := m
  obtain ⟨M, j2, j3, j4, j5, j6, j7⟩ := m
  have t := w.1.1
  have O := t.ov
  have o2 := O.2.1
  have o := O.2.2 i i0 i1
  have pr := t.op i i0 i1
  obtain ⟨y, ey⟩ : ∃ y, y = F (256 + i) := ⟨_, rfl⟩
  rw [← ey] at o pr ⊢
  have av := t.av y o.1 o.2
  have par := t.tv.grp o.1 o.2 pr
  obtain ⟨sg, _⟩ := j6 y o.1 o.2 pr
  have skip : ∀ (v3 : Bool) (g' : HP), jX11_laysShown_238 (fun v0 v1 v2 v3 v4 h => lX11_laysShown_60 K n v0 v1 v2 v3 v4 h) 983 (i32 fo) (i32 sh) (bI v3) (i32 i) g' = lX11_laysShown_60 K n 983 (i32 fo) (i32 sh) (bI v3) (i32 (i + 1)) g' := fun v3 g' => by
    unfold jX11_laysShown_238
    rw [lt_e, i32_add]
  have head : ∀ r, (if bI (kn y) = 0 then (if i32 (F y) < 0 then jX11_laysShown_114 (fun v0 v1 v2 v3 v4 h => lX11_laysShown_60 K n v0 v1 v2 v3 v4 h) 983 (i32 fo) (i32 sh) (bI mb) (i32 i) (i32 y) (i32 (F y)) g else gd (inb (i32 (F y)) 32) <| if hA g 998 (F y).toNat = 0 then jX11_laysShown_238 (fun v0 v1 v2 v3 v4 h => lX11_laysShown_60 K n v0 v1 v2 v3 v4 h) 983 (i32 fo) (i32 sh) (bI mb) (i32 i) g else jX11_laysShown_114 (fun v0 v1 v2 v3 v4 h => lX11_laysShown_60 K n v0 v1 v2 v3 v4 h) 983 (i32 fo) (i32 sh) (bI mb) (i32 i) (i32 y) (i32 (F y)) g) else jX11_laysShown_238 (fun v0 v1 v2 v3 v4 h => lX11_laysShown_60 K n v0 v1 v2 v3 v4 h) 983 (i32 fo) (i32 sh) (bI mb) (i32 i) g) = r → lX11_laysShown_60 K (n + 1) 983 (i32 fo) (i32 sh) (bI mb) (i32 i) g = r := fun r hr => by
    rw [elX11_laysShown_60]; unfold bX11_laysShown_60
    rw [M.o, gd_tt, many_s M j2.1 j2.2, bn_s, j4, if_neg (by rw [i32_le (by omega) (by omega) (by omega) (by omega)]; omega), ordered_s M j2.1 j2.2 i0 (by omega), bn_s, j4, ← ey, of_s M (show 0 ≤ fo + 0 + y by omega) (by omega), bn_s, j4, Int.zero_add, M.r_known, oc_s, M.o_known, gd_tt, M.n_known, i32_inb o.1 (by omega) (by omega), gd_tt, i32_cn o.1 (by omega), (la.1 y o.1 o.2).1]
    rw [← hr]
    by_cases c : bI (kn y) = 0
    · rw [if_pos c, if_pos c]
      by_cases d : i32 (F y) < 0
      · rw [if_pos d, if_pos d]
      · rw [if_neg d, if_neg d]
        have d' : 0 ≤ F y := by
          apply Classical.byContradiction
          intro z
          exact d (by rw [i32_z, i32_lt (by omega) (by omega) (by omega) (by omega)]; omega)
        rw [i32_cn d' (by omega)]
    · rw [if_neg c, if_neg c]
  -- known already
  by_cases ky : kn y = true
  · refine ⟨g, kn, sn, fd, mb, head _ ?_, Mo.r, la, k, Or.inl ⟨rfl, rfl, Or.inl ky⟩⟩
    rw [ky, if_neg (show ¬ bI true = 0 by decide), skip]
  have ky' : kn y = false := by
    cases z : kn y with
    | false => rfl
    | true => exact absurd z ky
  -- the group is not known
  by_cases pk : 0 ≤ F y ∧ kn (F y) = false
  · refine ⟨g, kn, sn, fd, mb, head _ ?_, Mo.r, la, k, Or.inl ⟨rfl, rfl, Or.inr (Or.inl pk)⟩⟩
    have z : F y < 32 := by omega
    rw [ky', if_pos (show bI false = 0 from rfl), if_neg (by rw [i32_z, i32_lt (by omega) (by omega) (by omega) (by omega)]; omega), i32_inb pk.1 (by omega) (by omega), gd_tt, (la.1 (F y) pk.1 z).1, pk.2, if_pos (show bI false = 0 from rfl), skip]
  have gk : F y = -2 ∨ kn (F y) = true := by
    rcases par with z | ⟨z1, z2, z3⟩
    · exact Or.inl z
    · right
      cases q : kn (F y) with
      | true => rfl
      | false => exact absurd ⟨by omega, q⟩ pk
  have h114 : ∀ r, jX11_laysShown_114 (fun v0 v1 v2 v3 v4 h => lX11_laysShown_60 K n v0 v1 v2 v3 v4 h) 983 (i32 fo) (i32 sh) (bI mb) (i32 i) (i32 y) (i32 (F y)) g = r → lX11_laysShown_60 K (n + 1) 983 (i32 fo) (i32 sh) (bI mb) (i32 i) g = r := fun r hr => head r (by
    rw [ky', if_pos (show bI false = 0 from rfl)]
    by_cases d : F y < 0
    · rw [if_pos (by rw [i32_z, i32_lt (by omega) (by omega) (by omega) (by omega)]; exact d)]; exact hr
    · have kp : kn (F y) = true := by rcases gk with z | z; omega; exact z
      rw [if_neg (by rw [i32_z, i32_lt (by omega) (by omega) (by omega) (by omega)]; exact d), i32_inb (by omega) (by omega) (by omega), gd_tt, (la.1 (F y) (by omega) (by omega)).1, kp, if_neg (show ¬ bI true = 0 by decide)]
      exact hr)
  have ask : fX11_asked 983 (i32 fo) (i32 y) g = some (RlL (Cn y)) := by
    rw [asked_s M j2.1 j2.2 o.1 o.2 (by rw [j4]; exact sg), j4, sgm_Rm, j5]
  have ak := areKnown_s (kn := kn) M (fun n a b => (la.1 n a b).1) (s := RlL (Cn y))
  by_cases un : anyf (fun f => bt (RlL (Cn y)) f && !kn f) 24 0 = true
  · -- it asks what is not known
    obtain ⟨f, f0, f1, f2⟩ := (anyf_iff 24 0).mp un
    rw [Bool.and_eq_true] at f2
    refine ⟨g, kn, sn, fd, mb, h114 _ ?_, Mo.r, la, k, Or.inl ⟨rfl, rfl, Or.inr (Or.inr ⟨f, f0, by omega, f2.1, ?_⟩)⟩⟩
    · unfold jX11_laysShown_114
      rw [M.o, gd_tt, ask, bn_s, ak, bn_s, un, if_neg (by decide), skip]
    · cases z : kn f with
      | false => rfl
      | true => rw [z] at f2; cases f2.2
  have un' : anyf (fun f => bt (RlL (Cn y)) f && !kn f) 24 0 = false := by
    cases z : anyf (fun f => bt (RlL (Cn y)) f && !kn f) 24 0 with
    | false => rfl
    | true => exact absurd z un
  have asks : ∀ f, 0 ≤ f → f < 24 → bt (RlL (Cn y)) f = true → kn f = true := fun f f0 f1 hf => by
    cases z : kn f with
    | true => rfl
    | false => exact absurd ((anyf_iff 24 0).mpr ⟨f, f0, by omega, by rw [hf, z]; rfl⟩) un
  -- it is worked out
  obtain ⟨g1, e1⟩ : ∃ g1, g1 = sA g 998 y.toNat (bI true) := ⟨_, rfl⟩
  have p1 : Mo L4 g g1 := by rw [e1]; exact Mo_A (by decide) _ _
  have m1 := m0.mo p1
  have M1 := m1.1
  have la1 : LSa g1 (updB kn y true) sn fd := by
    refine ⟨fun q q0 q1 => ?_, fun f f0 f1 => ?_⟩
    · rw [e1, rAA, rAA]
      refine ⟨?_, by rw [if_neg (fun z => by omega)]; exact (la.1 q q0 q1).2⟩
      by_cases c : q = y
      · rw [if_pos ⟨rfl, by rw [c]⟩, updB_at c]
      · rw [if_neg (fun z => by omega), updB_ne c]; exact (la.1 q q0 q1).1
    · rw [e1, rAA, if_neg (fun z => by omega)]; exact la.2 f f0 f1
  have k4 := k.2.2.2
  obtain ⟨g2, im, p2⟩ := misMet (m1.im la1 k4 o.1 o.2 pr) (j6 y o.1 o.2 pr).2
  have p2' : Mo L4 g1 g2 := p2.w (by decide)
  have a2 : ∀ a q, a ≠ 1001 → hA g2 a q = hA g1 a q := fun a q ha => by
    rw [p2.A (by rw [List.contains_eq_mem, decide_eq_false_iff_not]; simp; exact ha)]
  obtain ⟨sv, esv⟩ : ∃ sv, sv = ((decide (F y < 0) || sn (F y)) && rv (phi A fd) (Cn y)) := ⟨_, rfl⟩
  -- up to the value that is shown
  have to173 : ∀ r : HP → Option HP, (∀ g' : HP, (g' = g1 ∨ g' = g2) → jX11_laysShown_173 (fun v0 v1 v2 v3 v4 h => lX11_laysShown_60 K n v0 v1 v2 v3 v4 h) 983 (i32 fo) (i32 sh) (i32 i) (i32 y) sv (i32 y) (some 999) g' = r g') → ∃ g', (g' = g1 ∨ g' = g2) ∧ lX11_laysShown_60 K (n + 1) 983 (i32 fo) (i32 sh) (bI mb) (i32 i) g = r g' := fun r hr => by
    have j157 : (decide (F y < 0) || sn (F y)) = true → jX11_laysShown_157 (fun v0 v1 v2 v3 v4 h => lX11_laysShown_60 K n v0 v1 v2 v3 v4 h) 983 (i32 fo) (i32 sh) (i32 i) (i32 y) (i32 y) (some 999) g1 = r g2 := fun b => by
      unfold jX11_laysShown_157 jX11_laysShown_172
      have es : sv = rv (phi A fd) (Cn y) := by rw [esv, b, Bool.true_and]
      have hr2 := hr g2 (Or.inr rfl)
      rw [es] at hr2
      rw [M1.o, gd_tt, im, bn2_s]
      cases z : rv (phi A fd) (Cn y) with
      | true => rw [z] at hr2; rw [if_pos rfl]; exact hr2
      | false => rw [z] at hr2; rw [if_neg (by decide)]; exact hr2
    have pre : ∀ r', (if i32 (F y) < 0 then jX11_laysShown_157 (fun v0 v1 v2 v3 v4 h => lX11_laysShown_60 K n v0 v1 v2 v3 v4 h) 983 (i32 fo) (i32 sh) (i32 i) (i32 y) (i32 y) (some 999) g1 else gd (inb (i32 (F y)) 32) <| if hA g1 999 (i32 (F y)).toNatClampNeg = 0 then jX11_laysShown_172 (fun v0 v1 v2 v3 v4 h => lX11_laysShown_60 K n v0 v1 v2 v3 v4 h) 983 (i32 fo) (i32 sh) (i32 i) (i32 y) (i32 y) (some 999) g1 else jX11_laysShown_157 (fun v0 v1 v2 v3 v4 h => lX11_laysShown_60 K n v0 v1 v2 v3 v4 h) 983 (i32 fo) (i32 sh) (i32 i) (i32 y) (i32 y) (some 999) g1) = r' → lX11_laysShown_60 K (n + 1) 983 (i32 fo) (i32 sh) (bI mb) (i32 i) g = r' := fun r' hr' => h114 r' (by
      unfold jX11_laysShown_114
      rw [M.o, gd_tt, ask, bn_s, ak, bn_s, un', if_pos (by decide), M.r_known, oc_s, M.o_known, gd_tt, M.n_known, i32_inb o.1 (by omega) (by omega), gd_tt, i32_cn o.1 (by omega), show (i32 1) &&& 1 = bI true from rfl, ← e1, lt_e, M1.r_shown, oc_s, M1.o_shown, gd_tt, M1.n_shown]
      exact hr')
    by_cases d : F y < 0
    · exact ⟨g2, Or.inr rfl, pre _ (by rw [if_pos (by rw [i32_z, i32_lt (by omega) (by omega) (by omega) (by omega)]; exact d)]; exact j157 (by rw [decide_eq_true d]; rfl))⟩
    · have s1 := (la1.1 (F y) (by omega) (by omega)).2
      cases z : sn (F y) with
      | true => exact ⟨g2, Or.inr rfl, pre _ (by rw [if_neg (by rw [i32_z, i32_lt (by omega) (by omega) (by omega) (by omega)]; exact d), i32_inb (by omega) (by omega) (by omega), gd_tt, i32_cn (by omega) (by omega), s1, z, if_neg (show ¬ bI true = 0 by decide)]; exact j157 (by rw [z, Bool.or_true]))⟩
      | false =>
        have es : sv = false := by rw [esv, decide_eq_false d, z]; rfl
        have hr1 := hr g1 (Or.inl rfl)
        rw [es] at hr1
        exact ⟨g1, Or.inl rfl, pre _ (by
          rw [if_neg (by rw [i32_z, i32_lt (by omega) (by omega) (by omega) (by omega)]; exact d), i32_inb (by omega) (by omega) (by omega), gd_tt, i32_cn (by omega) (by omega), s1, z, if_pos (show bI false = 0 from rfl)]
          unfold jX11_laysShown_172
          exact hr1)⟩
  -- what is written
  have wr : ∀ g' : HP, (g' = g1 ∨ g' = g2) → ∃ g3, jX11_laysShown_173 (fun v0 v1 v2 v3 v4 h => lX11_laysShown_60 K n v0 v1 v2 v3 v4 h) 983 (i32 fo) (i32 sh) (i32 i) (i32 y) sv (i32 y) (some 999) g' = lX11_laysShown_60 K n 983 (i32 fo) (i32 sh) (bI true) (i32 (i + 1)) g3 ∧ Mo L4 g' g3 ∧ LSa g3 (updB kn y true) (updB sn y sv) (if y < 24 then updB fd y (sv && decide (F (96 + y) ≤ A y ∧ A y ≤ F (128 + y))) else fd) := fun g' hg' => by
    have mg' : Mo L4 g1 g' := by rcases hg' with z | z; rw [z]; exact Mo.r; rw [z]; exact p2'
    have ag' : ∀ a q, a ≠ 1001 → hA g' a q = hA g1 a q := fun a q ha => by rcases hg' with z | z; rw [z]; rw [z]; exact a2 a q ha
    have m' := m1.mo mg'
    have M' := m'.1
    obtain ⟨g3, e3⟩ : ∃ g3, g3 = sA g' 999 y.toNat (bI sv) := ⟨_, rfl⟩
    have p3 : Mo L4 g' g3 := by rw [e3]; exact Mo_A (by decide) _ _
    have M3 := p3.ms M'
    have m3 := m'.mo p3
    have r3 : ∀ a q, a ≠ 1001 → hA g3 a q = if a = 999 ∧ q = y.toNat then bI sv else hA g1 a q := fun a q ha => by
      rw [e3, rAA]
      by_cases c : a = 999 ∧ q = y.toNat
      · rw [if_pos c, if_pos c]
      · rw [if_neg c, if_neg c, ag' a q ha]
    have la3 : LSa g3 (updB kn y true) (updB sn y sv) fd := by
      refine ⟨fun q q0 q1 => ?_, fun f f0 f1 => ?_⟩
      · rw [r3 998 _ (by decide), r3 999 _ (by decide), if_neg (fun z => by omega)]
        refine ⟨(la1.1 q q0 q1).1, ?_⟩
        by_cases c : q = y
        · rw [if_pos ⟨rfl, by rw [c]⟩, updB_at c]
        · rw [if_neg (fun z => by omega), updB_ne c]; exact (la1.1 q q0 q1).2
      · rw [r3 1000 _ (by decide), if_neg (fun z => by omega)]; exact la1.2 f f0 f1
    unfold jX11_laysShown_173
    rw [oc_s, M'.o_shown, gd_tt, M'.n_shown, i32_inb o.1 (by omega) (by omega), gd_tt, i32_cn o.1 (by omega), bI_and, ← e3, lt_e, isField_s (by omega) (by omega), bn_s]
    by_cases c : y < 24
    · have last : ∀ b : Bool, ∃ g4, jX11_laysShown_235 (fun v0 v1 v2 v3 v4 h => lX11_laysShown_60 K n v0 v1 v2 v3 v4 h) 983 (i32 fo) (i32 sh) (i32 i) b (i32 y) (some 1000) g3 = lX11_laysShown_60 K n 983 (i32 fo) (i32 sh) (bI true) (i32 (i + 1)) g4 ∧ Mo L4 g3 g4 ∧ LSa g4 (updB kn y true) (updB sn y sv) (updB fd y b) := fun b => by
        obtain ⟨g4, e4⟩ : ∃ g4, g4 = sA g3 1000 y.toNat (bI b) := ⟨_, rfl⟩
        refine ⟨g4, ?_, by rw [e4]; exact Mo_A (by decide) _ _, fun q q0 q1 => ?_, fun f f0 f1 => ?_⟩
        · unfold jX11_laysShown_235 jX11_laysShown_236
          rw [oc_s, M3.o_forced, gd_tt, M3.n_forced, i32_inb o.1 (by omega) (by omega), gd_tt, i32_cn o.1 (by omega), bI_and, ← e4, lt_e]
          exact skip true g4
        · rw [e4, rAA, rAA, if_neg (fun z => by omega), if_neg (fun z => by omega)]; exact la3.1 q q0 q1
        · rw [e4, rAA]
          by_cases z : f = y
          · rw [if_pos ⟨rfl, by rw [z]⟩, updB_at z]
          · rw [if_neg (fun u => by omega), updB_ne z]; exact la3.2 f f0 f1
      have r999 : hA g3 999 y.toNat = bI sv := by rw [r3 999 _ (by decide), if_pos ⟨rfl, rfl⟩]
      rw [if_pos (decide_eq_true c), if_pos c, M3.o, gd_tt, M3.r_shown, oc_s, M3.o_shown, gd_tt, M3.n_shown, i32_inb o.1 (by omega) (by omega), gd_tt, r999, M3.r_forced]
      cases sv with
      | false =>
        rw [if_pos (show bI false = 0 from rfl), Bool.false_and]
        unfold jX11_laysShown_234
        obtain ⟨g4, b1, b2, b3⟩ := last false
        exact ⟨g4, b1, p3.t b2, b3⟩
      | true =>
        obtain ⟨an1, an2⟩ := m3.2.2.2.2.2.2 y o.1 c
        have an := answerAt_s M3 j3.1 j3.2 o.1 c
        rw [an1] at an
        have kd := (w.2.1 y o.1 o.2 pr).1 c
        rw [if_neg (show ¬ bI true = 0 by decide), Bool.true_and, an, bn_s, of_s M3 (show 0 ≤ fo + 96 + y by omega) (by omega), bn_s, of_s M3 (show 0 ≤ fo + 128 + y by omega) (by omega), bn_s, m3.2.2.2.1, in_s (by omega) (by omega) (by omega) (by omega) (by omega) (by omega), bn_s]
        by_cases d : F (96 + y) ≤ A y ∧ A y ≤ F (128 + y)
        · rw [if_pos (decide_eq_true d), decide_eq_true d]
          obtain ⟨g4, b1, b2, b3⟩ := last true
          exact ⟨g4, b1, p3.t b2, b3⟩
        · rw [if_neg (by rw [decide_eq_true_eq]; exact d), decide_eq_false d]
          unfold jX11_laysShown_234
          obtain ⟨g4, b1, b2, b3⟩ := last false
          exact ⟨g4, b1, p3.t b2, b3⟩
    · rw [if_neg (by rw [decide_eq_true_eq]; exact c), if_neg c]
      unfold jX11_laysShown_236
      exact ⟨g3, skip true g3, p3, la3⟩
  obtain ⟨ga, x1, x2, x3⟩ := wr g1 (Or.inl rfl)
  obtain ⟨gb, y1, y2, y3⟩ := wr g2 (Or.inr rfl)
  have step := LSk_step t w.2.2.1 w.2.1 (fun f f0 f1 => (j7 f f0 f1).2) k o.1 o.2 pr ky' gk asks sv esv (sv && decide (F (96 + y) ≤ A y ∧ A y ≤ F (128 + y))) (fun _ => rfl)
  obtain ⟨g', hg', fin⟩ := to173 (fun g' => jX11_laysShown_173 (fun v0 v1 v2 v3 v4 h => lX11_laysShown_60 K n v0 v1 v2 v3 v4 h) 983 (i32 fo) (i32 sh) (i32 i) (i32 y) sv (i32 y) (some 999) g') (fun _ _ => rfl)
  rcases hg' with z | z
  · rw [z] at fin
    exact ⟨ga, _, _, _, true, fin.trans x1, p1.t x2, x3, step, Or.inr ⟨rfl, ky', rfl⟩⟩
  · rw [z] at fin
    exact ⟨gb, _, _, _, true, fin.trans y1, p1.t (p2'.t y2), y3, step, Or.inr ⟨rfl, ky', rfl⟩⟩
end

