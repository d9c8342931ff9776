section
variable {h g : HP} {F A : Int → Int} {Cn : Int → List Int32} {kn sn fd : Int → Bool} {fo sh : Int} {np : Nat}
def STb (F : Int → Int) (Cn : Int → List Int32) (kn : Int → Bool) (y : Int) : Prop := kn y = true ∨ (0 ≤ F y ∧ kn (F y) = false) ∨ ∃ f, 0 ≤ f ∧ f < 24 ∧ bt (RlL (Cn y)) f = true ∧ kn f = false
theorem mlay60 {K : Nat → Int32 → Int32 → Int32 → HP → Option HP} (w : FWf F Cn np) : ∀ (k n : Nat) (i : Int) (mb : Bool) (g : HP) (kn sn fd : Int → Bool), 0 ≤ i → i + k = F 288 → k < n → FMs g F A Cn fo sh → LSa g kn sn fd → LSk F A Cn kn sn fd → ∃ g' kn' sn' fd' mb', lX11_laysShown_60 K n 983 (i32 fo) (i32 sh) (bI mb) (i32 i) g = K 983 (i32 fo) (i32 sh) (bI mb') g' ∧ Mo L4 g g' ∧ LSa g' kn' sn' fd' ∧ LSk F A Cn kn' sn' fd' ∧ cnt kn 32 0 ≤ cnt kn' 32 0 ∧ (mb' = false → mb = false ∧ kn' = kn ∧ ∀ j, i ≤ j → j < i + k → STb F Cn kn (F (256 + j))) ∧ (mb' = true → mb = true ∨ cnt kn 32 0 < cnt kn' 32 0) := by
  intro k
  induction k with
  | zero =>
    intro n i mb g kn sn fd i0 e hn m la lk
    obtain ⟨n, rfl⟩ : ∃ x, n = x + 1 := ⟨n - 1, by omega⟩
    have M := m.1
    have o2 := w.1.1.ov.2.1
    refine ⟨g, kn, sn, fd, mb, ?_, Mo.r, la, lk, Int.le_refl _, fun z => ⟨z, rfl, fun j a b => by omega⟩, fun z => Or.inl z⟩
    rw [elX11_laysShown_60]; unfold bX11_laysShown_60
    rw [M.o, gd_tt, many_s M m.2.1.1 m.2.1.2, bn_s, m.2.2.2.1, if_pos (by rw [i32_le (by omega) (by omega) (by omega) (by omega)]; omega)]
  | succ k ih =>
    intro n i mb g kn sn fd i0 e hn m la lk
    obtain ⟨n, rfl⟩ : ∃ x, n = x + 1 := ⟨n - 1, by omega⟩
    obtain ⟨g1, kn1, sn1, fd1, mb1, a1, p1, la1, lk1, cs⟩ := mlay1 (K := K) (n := n) m w la lk i0 (show i < F 288 by omega) mb
    obtain ⟨g', kn', sn', fd', mb', b1, p2, la2, lk2, c1, c2, c3⟩ := ih n (i + 1) mb1 g1 kn1 sn1 fd1 (by omega) (by omega) (by omega) (m.mo p1) la1 lk1
    have o := w.1.1.ov.2.2 i i0 (by omega)
    refine ⟨g', kn', sn', fd', mb', a1.trans b1, p1.t p2, la2, lk2, ?_⟩
    rcases cs with ⟨q1, q2, q3⟩ | ⟨q1, q2, q3⟩
    · rw [q2] at c1 c2 c3
      rw [q1] at c2 c3
      refine ⟨c1, fun z => ?_, c3⟩
      obtain ⟨u1, u2, u3⟩ := c2 z
      refine ⟨u1, u2, fun j a b => ?_⟩
      by_cases y : j = i
      · rw [y]; exact q3
      · exact u3 j (by omega) (by omega)
    · have gr := cnt_lt (p := kn) (q := kn1) 32 0 (fun j a b hj => by
        rw [q3]
        by_cases y : j = F (256 + i)
        · rw [updB_at y]
        · rw [updB_ne y]; exact hj)
      have gs := gr.2 ⟨F (256 + i), o.1, by omega, q2, by rw [q3, updB_at rfl]⟩
      refine ⟨by omega, fun z => ?_, fun z => Or.inr (by omega)⟩
      have := (c2 z).1
      rw [q1] at this; cases this
theorem mlay51 (w : FWf F Cn np) : ∀ (m n : Nat) (g : HP) (kn sn fd : Int → Bool), 33 ≤ cnt kn 32 0 + m → m + 1 < n → FMs g F A Cn fo sh → LSa g kn sn fd → LSk F A Cn kn sn fd → ∃ g' kn' sn' fd', lX11_laysShown_51 n 983 (i32 fo) (i32 sh) (i32 1) g = some g' ∧ Mo L4 g g' ∧ LSa g' kn' sn' fd' ∧ LSk F A Cn kn' sn' fd' ∧ ∀ y, 0 ≤ y → y < 32 → F y ≠ -1 → STb F Cn kn' y := by
  intro m
  induction m with
  | zero =>
    intro n g kn sn fd hc _ _ _ _
    have := cnt_rng kn 32 0
    omega
  | succ m ih =>
    intro n g kn sn fd hc hn fm la lk
    obtain ⟨n, rfl⟩ : ∃ x, n = x + 1 := ⟨n - 1, by omega⟩
    have t := w.1.1
    have o1 := t.ov.1
    have o2 := t.ov.2.1
    obtain ⟨g1, kn1, sn1, fd1, mb1, a1, p1, la1, lk1, c1, c2, c3⟩ := mlay60 (K := fun w101 w102 w103 w104 h105 => lX11_laysShown_51 n w101 w102 w103 w104 h105) w (F 288).toNat FU 0 false g kn sn fd (by omega) (by omega) (by have : FU = 1000000 := rfl; omega) fm la lk
    have st : lX11_laysShown_51 (n + 1) 983 (i32 fo) (i32 sh) (i32 1) g = lX11_laysShown_51 n 983 (i32 fo) (i32 sh) (bI mb1) g1 := by
      rw [elX11_laysShown_51]; unfold bX11_laysShown_51
      rw [if_neg (by decide)]
      exact a1
    cases mb1 with
    | false =>
      obtain ⟨_, u2, u3⟩ := c2 rfl
      refine ⟨g1, kn1, sn1, fd1, ?_, p1, la1, lk1, fun y y0 y1 yp => ?_⟩
      · rw [st]
        obtain ⟨n, rfl⟩ : ∃ x, n = x + 1 := ⟨n - 1, by omega⟩
        rw [elX11_laysShown_51]; unfold bX11_laysShown_51
        rw [if_pos (show bI false = 0 from rfl)]
      · obtain ⟨j, j0, j1, ej⟩ := t.po y y0 y1 yp
        have := u3 j j0 (by omega)
        rw [ej] at this
        rw [u2]; exact this
    | true =>
      have gs : cnt kn 32 0 < cnt kn1 32 0 := by
        rcases c3 rfl with z | z
        · cases z
        · exact z
      obtain ⟨g', kn', sn', fd', b1, p2, la2, lk2, s2⟩ := ih n g1 kn1 sn1 fd1 (by omega) (by omega) (fm.mo p1) la1 lk1
      exact ⟨g', kn', sn', fd', st.trans b1, p1.t p2, la2, lk2, s2⟩
theorem mlay2 {K : Nat → Int32 → Int32 → HP → Option HP} {w1 w2 : Int32} : ∀ (k n : Nat) (i : Int) (f : HP), i + k = 32 → 0 ≤ i → k < n → MS f → ∃ g, lX11_laysShown_2 K n 983 w1 w2 (i32 i) f = K 983 w1 w2 g ∧ Mo L4 f g ∧ (∀ q, i ≤ q → q < 32 → hA g 998 q.toNat = i32 0 ∧ hA g 999 q.toNat = i32 0) ∧ ∀ q : Nat, (q : Int) < i → hA g 998 q = hA f 998 q ∧ hA g 999 q = hA f 999 q := by
  intro k
  induction k with
  | zero =>
    intro n i f e i0 hn M
    obtain ⟨n, rfl⟩ : ∃ x, n = x + 1 := ⟨n - 1, by omega⟩
    refine ⟨f, ?_, Mo.r, fun q a b => by omega, fun q _ => ⟨rfl, rfl⟩⟩
    rw [elX11_laysShown_2]; unfold bX11_laysShown_2
    rw [if_pos (by rw [i32_le (by omega) (by omega) (by omega) (by omega)]; omega)]
  | succ k ih =>
    intro n i f e i0 hn M
    obtain ⟨n, rfl⟩ : ∃ x, n = x + 1 := ⟨n - 1, by omega⟩
    obtain ⟨f1, e1⟩ : ∃ f1, f1 = sA f 998 i.toNat (i32 0) := ⟨_, rfl⟩
    obtain ⟨f2, e2⟩ : ∃ f2, f2 = sA f1 999 i.toNat (i32 0) := ⟨_, rfl⟩
    have p1 : Mo L4 f f1 := by rw [e1]; exact Mo_A (by decide) _ _
    have p2 : Mo L4 f f2 := p1.t (by rw [e2]; exact Mo_A (by decide) _ _)
    have M1 := p1.ms M
    have r2 : ∀ a q, hA f2 a q = if a = 999 ∧ q = i.toNat then i32 0 else if a = 998 ∧ q = i.toNat then i32 0 else hA f a q := fun a q => by rw [e2, rAA, e1, rAA]
    obtain ⟨g, a1, a2, a3, a4⟩ := ih n (i + 1) f2 (by omega) (by omega) (by omega) (p2.ms M)
    refine ⟨g, ?_, p2.t a2, fun q q0 q1 => ?_, fun q hq => ?_⟩
    · rw [elX11_laysShown_2]; unfold bX11_laysShown_2
      rw [if_neg (by rw [i32_le (by omega) (by omega) (by omega) (by omega)]; omega), M.o, gd_tt, M.r_known, oc_s, M.o_known, gd_tt, M.n_known, i32_inb i0 (by omega) (by omega), gd_tt, i32_cn i0 (by omega), show (i32 0) &&& 1 = i32 0 from rfl, ← e1, lt_e, M1.r_shown, oc_s, M1.o_shown, gd_tt, M1.n_shown, i32_inb i0 (by omega) (by omega), gd_tt, ← e2, lt_e, lt_e, i32_add]
      exact a1
    · by_cases y : q = i
      · have := a4 i.toNat (by omega)
        rw [y, this.1, this.2, r2, r2, if_neg (fun z => by omega), if_pos ⟨rfl, rfl⟩, if_pos ⟨rfl, rfl⟩]
        exact ⟨rfl, rfl⟩
      · exact a3 q (by omega) q1
    · have := a4 q (by omega)
      rw [this.1, this.2, r2, r2, if_neg (fun z => by omega), if_neg (fun z => by omega), if_neg (fun z => by omega), if_neg (fun z => by omega)]
      exact ⟨rfl, rfl⟩
theorem mlay30 {K : Nat → Int32 → Int32 → HP → Option HP} {w1 w2 : Int32} : ∀ (k n : Nat) (i : Int) (f : HP), i + k = 24 → 0 ≤ i → k < n → MS f → ∃ g, lX11_laysShown_30 K n 983 w1 w2 (i32 i) f = K 983 w1 w2 g ∧ Mo L4 f g ∧ (∀ a q, a ≠ 1000 → hA g a q = hA f a q) ∧ (∀ q, i ≤ q → q < 24 → hA g 1000 q.toNat = i32 0) ∧ ∀ q : Nat, (q : Int) < i → hA g 1000 q = hA f 1000 q := by
  intro k
  induction k with
  | zero =>
    intro n i f e i0 hn M
    obtain ⟨n, rfl⟩ : ∃ x, n = x + 1 := ⟨n - 1, by omega⟩
    refine ⟨f, ?_, Mo.r, fun _ _ _ => rfl, fun q a b => by omega, fun q _ => rfl⟩
    rw [elX11_laysShown_30]; unfold bX11_laysShown_30
    rw [if_pos (by rw [i32_le (by omega) (by omega) (by omega) (by omega)]; omega)]
  | succ k ih =>
    intro n i f e i0 hn M
    obtain ⟨n, rfl⟩ : ∃ x, n = x + 1 := ⟨n - 1, by omega⟩
    obtain ⟨f1, e1⟩ : ∃ f1, f1 = sA f 1000 i.toNat (i32 0) := ⟨_, rfl⟩
    have p1 : Mo L4 f f1 := by rw [e1]; exact Mo_A (by decide) _ _
    obtain ⟨g, a1, a2, a3, a4, a5⟩ := ih n (i + 1) f1 (by omega) (by omega) (by omega) (p1.ms M)
    refine ⟨g, ?_, p1.t a2, fun a q ha => by rw [a3 a q ha, e1, rAA, if_neg (fun z => ha z.1)], fun q q0 q1 => ?_, fun q hq => ?_⟩
    · rw [elX11_laysShown_30]; unfold bX11_laysShown_30
      rw [if_neg (by rw [i32_le (by omega) (by omega) (by omega) (by omega)]; omega), M.o, gd_tt, M.r_forced, oc_s, M.o_forced, gd_tt, M.n_forced, i32_inb i0 (by omega) (by omega), gd_tt, i32_cn i0 (by omega), show (i32 0) &&& 1 = i32 0 from rfl, ← e1, lt_e, lt_e, i32_add]
      exact a1
    · by_cases y : q = i
      · have := a5 i.toNat (by omega)
        rw [y, this, e1, rAA, if_pos ⟨rfl, rfl⟩]
      · exact a4 q (by omega) q1
    · rw [a5 q (by omega), e1, rAA, if_neg (fun z => by omega)]
/-- the model lays what is shown and in force -/
theorem mlook (m : FMs h F A Cn fo sh) (w : FWf F Cn np) : ∃ g φ, fX11_laysShown 983 (i32 fo) (i32 sh) h = some g ∧ Mo L4 h g ∧ SOL F Cn A φ ∧ (∀ n, 0 ≤ n → n < 32 → hA g 999 n.toNat = bI (decide (F n ≠ -1) && sho F (cnd φ Cn) 9 n)) ∧ (∀ f, 0 ≤ f → f < 24 → hA g 1000 f.toNat = bI (decide (0 ≤ φ f))) ∧ ∀ f, 0 ≤ f → f < 24 → 0 ≤ φ f → φ f = A f := by
  have M := m.1
  obtain ⟨g1, a1, p1, z1, _⟩ := mlay2 (w1 := i32 fo) (w2 := i32 sh) (K := fun w1 w2 w3 h4 => lX11_laysShown_30 (fun w5 w6 w7 h8 => lX11_laysShown_51 FU w5 w6 w7 (i32 1) h8) FU w1 w2 w3 (i32 0) h4) 32 FU 0 h (by omega) (by omega) (by decide) M
  have M1 := p1.ms M
  obtain ⟨g2, a2, p2, o2, z2, _⟩ := mlay30 (w1 := i32 fo) (w2 := i32 sh) (K := fun w5 w6 w7 h8 => lX11_laysShown_51 FU w5 w6 w7 (i32 1) h8) 24 FU 0 g1 (by omega) (by omega) (by decide) M1
  have la2 : LSa g2 (fun _ => false) (fun _ => false) (fun _ => false) := ⟨fun n n0 n1 => by
    rw [o2 998 _ (by decide), o2 999 _ (by decide)]; exact z1 n n0 n1, fun f f0 f1 => z2 f f0 f1⟩
  have lk2 : LSk F A Cn (fun _ => false) (fun _ => false) (fun _ => false) := ⟨fun n _ _ z => (by cases z), fun n _ _ => ⟨fun z => (by cases z), fun _ => rfl⟩, fun f _ _ => ⟨fun z => (by cases z), fun _ => rfl⟩, fun f _ _ z => (by cases z)⟩
  obtain ⟨g3, kn, sn, fd, a3, p3, la, lk, st⟩ := mlay51 w 33 FU g2 _ _ _ (by have := (cnt_rng (fun _ => false) 32 0).1; omega) (by decide) (m.mo (p1.t p2)) la2 lk2
  have all := kn_all w lk st
  obtain ⟨k1, k2, k3, k4⟩ := lk
  have ab : ∀ n, 0 ≤ n → n < 32 → F n = -1 → kn n = false := fun n n0 n1 p => by
    cases z : kn n with
    | false => rfl
    | true => exact absurd p (k1 n n0 n1 z).1
  refine ⟨g3, phi A fd, ?_, p1.t (p2.t p3), fun f f0 f1 => ⟨fun p => (k3 f f0 f1).1 (all f f0 (by omega) p), fun p => ?_⟩, fun n n0 n1 => ?_, fun f f0 f1 => ?_, fun f f0 f1 hf => ?_⟩
  · unfold fX11_laysShown
    refine Eq.trans a1 (Eq.trans a2 a3)
  · have := (k3 f f0 f1).2 (ab f f0 (by omega) p)
    unfold phi; rw [this, if_neg (by decide)]
  · rw [(la.1 n n0 n1).2]
    congr 1
    by_cases p : F n = -1
    · rw [(k2 n n0 n1).2 (ab n n0 n1 p), decide_eq_false (fun z => z p), Bool.false_and]
    · rw [(k2 n n0 n1).1 (all n n0 n1 p), decide_eq_true p, Bool.true_and]
  · rw [la.2 f f0 f1]
    congr 1
    cases z : fd f with
    | true =>
      have := k4 f f0 f1 z
      unfold phi
      rw [z, if_pos rfl, decide_eq_true this.1]
    | false => unfold phi; rw [z, if_neg (by decide), decide_eq_false (by decide)]
  · unfold phi at hf ⊢
    cases z : fd f with
    | true => rw [if_pos rfl]
    | false => rw [z, if_neg (by decide)] at hf; omega
end

