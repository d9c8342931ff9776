/-! MOVE, THE CLASS -/
section
variable {h g : HP} {a : Nat} {F G : Int → Int} {x p e pp E : Int}
theorem choldT {K : Nat → Int32 → Int32 → Option Nat → Int32 → Int32 → HP → Option HP} {w2 w3 : Int32} {v4 : Option Nat} {m d : Int} (p0 : 0 ≤ p) (em : p + d ≤ m) (m1 : m ≤ 32) : ∀ (c n : Nat) (i : Int) (f : HP), i + c = d → 0 ≤ i → c < n → FormAt f a → hI f 5 a = i32 m → ∃ g, lX0_transfer_38 K n a w2 w3 v4 (i32 p) (i32 d) (i32 i) f = K a w2 w3 v4 (i32 p) (i32 d) g ∧ So (fun x => x = a + 2) f g ∧ (∀ q, i ≤ q → q < d → hA g (a + 2) q.toNat = hA f (a + 1) (p + q).toNat) ∧ ∀ q : Nat, (q : Int) < i → hA g (a + 2) q = hA f (a + 2) q := by
  intro c
  induction c with
  | zero =>
    intro n i f hi hp hn A hm
    obtain ⟨n, rfl⟩ : ∃ x, n = x + 1 := ⟨n - 1, by omega⟩
    refine ⟨f, ?_, So.r, fun q q0 q1 => by omega, fun q _ => rfl⟩
    rw [elX0_transfer_38]; unfold bX0_transfer_38
    rw [if_pos (by rw [i32_le (by omega) (by omega) (by omega) (by omega)]; omega)]
  | succ c ih =>
    intro n i f hi hp hn A hm
    obtain ⟨n, rfl⟩ : ∃ x, n = x + 1 := ⟨n - 1, by omega⟩
    obtain ⟨f1, e1⟩ : ∃ f1, f1 = sA f (a + 2) i.toNat (hA f (a + 1) (p + i).toNat) := ⟨_, rfl⟩
    have p1 : So (fun x => x = a + 2) f f1 := by rw [e1]; exact So_A (S := fun x => x = a + 2) rfl _ _
    have r1 : ∀ y q, hA f1 y q = if y = a + 2 ∧ q = i.toNat then hA f (a + 1) (p + i).toNat else hA f y q := fun y q => by rw [e1, rAA]
    obtain ⟨g, a1, a2, a3, a4⟩ := ih n (i + 1) f1 (by omega) (by omega) (by omega) (A.sk p1.1) (by rw [(p1.2.2 a (by omega)).1]; exact hm)
    refine ⟨g, ?_, p1.t a2, fun q q0 q1 => ?_, fun q hq => ?_⟩
    · rw [elX0_transfer_38]; unfold bX0_transfer_38
      rw [if_neg (by rw [i32_le (by omega) (by omega) (by omega) (by omega)]; omega), A.o, gd_tt, i32_add, at_raw A hm m1 (by omega) (by omega), bn_s, hold_r A (by omega) (by omega), bn_s, ← e1, lt_e, i32_add]
      exact a1
    · by_cases y : q = i
      · have := a4 i.toNat (by omega)
        rw [y, this, r1, if_pos ⟨rfl, rfl⟩]
      · rw [a3 q (by omega) q1, r1, if_neg (fun z => by omega)]
    · rw [a4 q (by omega), r1, if_neg (fun z => by omega)]
theorem cshiftL {K : Nat → Int32 → Option Nat → Int32 → Int32 → HP → Option HP} {w2 : Int32} {v4 : Option Nat} {m d to : Int} (d0 : 0 < d) (t0 : 0 ≤ to) (m1 : m ≤ 32) : ∀ (c n : Nat) (i : Int) (f : HP), to + d - 1 + c = i → i < m → c < n → FormAt f a → hI f 5 a = i32 m → ∃ g, lX0_transfer_104 K n a w2 v4 (i32 d) (i32 to) (i32 i) f = K a w2 v4 (i32 d) (i32 to) g ∧ So (fun x => x = a + 1) f g ∧ (∀ q, to + d ≤ q → q ≤ i → hA g (a + 1) q.toNat = hA f (a + 1) (q - d).toNat) ∧ ∀ q : Nat, ((q : Int) < to + d ∨ i < (q : Int)) → hA g (a + 1) q = hA f (a + 1) q := by
  intro c
  induction c with
  | zero =>
    intro n i f hi hp hn A hm
    obtain ⟨n, rfl⟩ : ∃ x, n = x + 1 := ⟨n - 1, by omega⟩
    refine ⟨f, ?_, So.r, fun q q0 q1 => by omega, fun q _ => rfl⟩
    rw [elX0_transfer_104]; unfold bX0_transfer_104
    rw [i32_add, if_pos (by rw [i32_lt (by omega) (by omega) (by omega) (by omega)]; omega)]
  | succ c ih =>
    intro n i f hi hp hn A hm
    obtain ⟨n, rfl⟩ : ∃ x, n = x + 1 := ⟨n - 1, by omega⟩
    obtain ⟨f1, e1⟩ : ∃ f1, f1 = sA f (a + 1) i.toNat (hA f (a + 1) (i - d).toNat) := ⟨_, rfl⟩
    have p1 : So (fun x => x = a + 1) f f1 := by rw [e1]; exact So_A (S := fun x => x = a + 1) rfl _ _
    have r1 : ∀ q, hA f1 (a + 1) q = if q = i.toNat then hA f (a + 1) (i - d).toNat else hA f (a + 1) q := fun q => by
      rw [e1, rAA]
      by_cases y : q = i.toNat
      · rw [if_pos ⟨rfl, y⟩, if_pos y]
      · rw [if_neg (fun z => y z.2), if_neg y]
    obtain ⟨g, a1, a2, a3, a4⟩ := ih n (i + -1) f1 (by omega) (by omega) (by omega) (A.sk p1.1) (by rw [(p1.2.2 a (by omega)).1]; exact hm)
    refine ⟨g, ?_, p1.t a2, fun q q0 q1 => ?_, fun q hq => ?_⟩
    · rw [elX0_transfer_104]; unfold bX0_transfer_104
      rw [i32_add, if_neg (by rw [i32_lt (by omega) (by omega) (by omega) (by omega)]; omega), A.o, gd_tt, i32_sub, at_raw A hm m1 (by omega) (by omega), bn_s, put_r A (by omega) (by omega), bn_s, ← e1, lt_e, i32_add]
      exact a1
    · by_cases y : q = i
      · have := a4 i.toNat (by omega)
        rw [y, this, r1, if_pos rfl]
      · rw [a3 q (by omega) (by omega), r1, if_neg (by omega)]
    · rw [a4 q (by omega), r1, if_neg (by omega)]
theorem cputL {K : Int32 → Option Nat → HP → Option HP} {w2 : Int32} {v4 : Option Nat} {d to : Int} (t0 : 0 ≤ to) (td : to + d ≤ 32) : ∀ (c n : Nat) (i : Int) (f : HP), i + c = d → 0 ≤ i → c < n → FormAt f a → ∃ g, lX0_transfer_138 K n a w2 v4 (i32 d) (i32 to) (i32 i) f = K w2 v4 g ∧ So (fun x => x = a + 1) f g ∧ (∀ q, i ≤ q → q < d → hA g (a + 1) (to + q).toNat = hA f (a + 2) q.toNat) ∧ ∀ q : Nat, ((q : Int) < to + i ∨ to + d ≤ (q : Int)) → hA g (a + 1) q = hA f (a + 1) q := by
  intro c
  induction c with
  | zero =>
    intro n i f hi hp hn A
    obtain ⟨n, rfl⟩ : ∃ x, n = x + 1 := ⟨n - 1, by omega⟩
    refine ⟨f, ?_, So.r, fun q q0 q1 => by omega, fun q _ => rfl⟩
    rw [elX0_transfer_138]; unfold bX0_transfer_138
    rw [if_pos (by rw [i32_le (by omega) (by omega) (by omega) (by omega)]; omega)]
  | succ c ih =>
    intro n i f hi hp hn A
    obtain ⟨n, rfl⟩ : ∃ x, n = x + 1 := ⟨n - 1, by omega⟩
    obtain ⟨f1, e1⟩ : ∃ f1, f1 = sA f (a + 1) (to + i).toNat (hA f (a + 2) i.toNat) := ⟨_, rfl⟩
    have p1 : So (fun x => x = a + 1) f f1 := by rw [e1]; exact So_A (S := fun x => x = a + 1) rfl _ _
    have r1 : ∀ q, hA f1 (a + 1) q = if q = (to + i).toNat then hA f (a + 2) i.toNat else hA f (a + 1) q := fun q => by
      rw [e1, rAA]
      by_cases y : q = (to + i).toNat
      · rw [if_pos ⟨rfl, y⟩, if_pos y]
      · rw [if_neg (fun z => y z.2), if_neg y]
    have r2 : ∀ q, hA f1 (a + 2) q = hA f (a + 2) q := fun q => (p1.2.2 (a + 2) (by omega)).2.2.2.1 q
    obtain ⟨g, a1, a2, a3, a4⟩ := ih n (i + 1) f1 (by omega) (by omega) (by omega) (A.sk p1.1)
    refine ⟨g, ?_, p1.t a2, fun q q0 q1 => ?_, fun q hq => ?_⟩
    · rw [elX0_transfer_138]; unfold bX0_transfer_138
      rw [if_neg (by rw [i32_le (by omega) (by omega) (by omega) (by omega)]; omega), A.o, gd_tt, held_r A (by omega) (by omega), bn_s, i32_add, put_r A (by omega) (by omega), bn_s, ← e1, lt_e, i32_add]
      exact a1
    · by_cases y : q = i
      · have := a4 (to + i).toNat (by omega)
        rw [y, this, r1, if_pos rfl]
      · rw [a3 q (by omega) q1, r2]
    · rw [a4 q (by omega), r1, if_neg (by omega)]
theorem ctransfer (A : FormAt h a) (r : FRb h a F) (t : TR F) (s : STR F x p e) (x0 : 0 ≤ x) (x1 : x < 32) (xp : F x ≠ -1) (c : CUT F G x p e) {gr y : Int} (hg : gr = -2 ∨ (0 ≤ gr ∧ gr < 8)) (y1 : -2147483648 ≤ y) (y2 : y < 2147483648) (n : EN G (gno gr) pp E) (gK : 0 ≤ gr → keep F x (gno gr)) : ∃ g, fX0_transfer a (i32 x) (i32 gr) (i32 y) h = some g ∧ So (inF a) h g ∧ (∀ H, MVD F G H x p e (gno gr) (nth (son G (gno gr)) y E (G 288).toNat 0 0) → (∀ q, 32 ≤ q → q < 292 → ¬ (256 ≤ q ∧ q < 289) → H q = F q) → FRb g a H) ∧ (∀ f, f < 5 → hI g f a = hI h f a) ∧ ∀ n : Nat, n < 32 → (∀ f, f ≠ 134 → hI g f (a + 4 + n) = hI h f (a + 4 + n)) ∧ (∀ f, hJ g f (a + 4 + n) = hJ h f (a + 4 + n)) ∧ ∀ f, hR g f (a + 4 + n) = hR h f (a + 4 + n) := by
  obtain ⟨Et, Gc⟩ := FRb_tree r t.tv t.ov
  have tG := TR_cut t s x0 x1 c
  have LGt := n.lg tG (y := y)
  obtain ⟨to, eto⟩ : ∃ to, to = nth (son G (gno gr)) y E (G 288).toNat 0 0 := ⟨_, rfl⟩
  rw [← eto] at LGt ⊢
  obtain ⟨l1, l2, _⟩ := LGt
  obtain ⟨s1, s2, s3, s4, s5⟩ := id s
  obtain ⟨c1, c2, c3, c4, c5⟩ := id c
  obtain ⟨r3, r4, r5, ro, rn⟩ := r
  have O := t.ov
  have O2 := O.2.1
  have fu : FU = 1000000 := rfl
  obtain ⟨d, ed⟩ : ∃ d, d = e - p := ⟨_, rfl⟩
  have ee : e = p + d := by omega
  obtain ⟨g1, a1, p1, b1, _⟩ := choldT (a := a) (w2 := i32 gr) (w3 := i32 y) (v4 := some (a + 4 + x.toNat)) (K := fun w11 w12 w13 w14 w15 w16 h17 => gd (isO h17 w11 0) <| bn (fX0_cut w11 w15 (w15 + w16) h17) fun h20 => gd (isO h20 w11 0) <| bn (fX0_placeFor w11 w12 w13 h20) fun v23 => lt (sI h20 5 w11 ((hI h20 5 w11) + w16)) fun h24 => lt (((hI h24 5 w11) - (i32 1))) fun v25 => lX0_transfer_104 (fun w26 w27 w28 w29 w30 h31 => lX0_transfer_138 (fun w32 w33 h34 => oc w33 fun o35 => gd (isO h34 o35 2) <| lt (sI h34 134 o35 w32) fun h38 => some h38) FU w26 w27 w28 w29 w30 (i32 0) h31) FU w11 w12 w14 w16 v23 v25 h24) (p := p) (d := d) (m := F 288) s1 (by omega) O2 d.toNat FU 0 h (by omega) (by omega) (by omega) A r5
  have A1 := A.sk p1.1
  have n1 := p1.2.2 a (by omega)
  have o1 := p1.2.2 (a + 1) (by omega)
  obtain ⟨g2, a2, p2, b2, b2', c2', c2''⟩ := ccut A1 (by rw [n1.1]; exact r5) O2 s1 s2 s3
  have A2 := A1.sk p2.1
  have e288 : G 288 = F 288 - d := by omega
  -- the tree between
  have sm2 : ∀ q, q < 32 → Sm h g2 (a + 4 + q) := fun q hq => (p1.2.2 _ (by omega)).t (p2.2.2 _ (by omega))
  have lo : ∀ q, 0 ≤ q → q < 32 → Fc g2 a q = F q := fun q q0 q1 => by
    rw [← Et.1 q q0 q1, Fc_lo q1, Fc_lo q1]
    unfold cnI
    rw [(sm2 q.toNat (by omega)).1, (sm2 q.toNat (by omega)).1]
  have mn : Fc g2 a 288 = G 288 := by
    rw [Fc_mn, b2, i32_toInt (by omega) (by omega)]; omega
  have od : ∀ i, 0 ≤ i → i < G 288 → hA g2 (a + 1) i.toNat = i32 (G (256 + i)) := fun i i0 i1 => by
    by_cases z : i < p
    · rw [c2' i i0 z, c4 i i0 z, o1.2.2.2.1]; exact ro i i0 (by omega)
    · rw [c2'' i (by omega) (by omega), c5 i (by omega) (by omega), o1.2.2.2.1]; exact ro _ (by omega) (by omega)
  have kf : KF F G (Fc g2 a) x := ⟨fun q k => lo q k.1 k.2.1, mn, fun i i0 i1 => by
    have o := tG.ov.2.2 i i0 i1
    rw [Fc_od i0 (by omega), od i i0 i1, i32_toInt (by omega) (by omega)]⟩
  have TK : TV (Fc g2 a) := fun q q0 q1 => by
    rw [lo q q0 q1]
    rcases t.tv q q0 q1 with z | z | z
    · exact Or.inl z
    · exact Or.inr (Or.inl z)
    · exact Or.inr (Or.inr ⟨z.1, z.2.1, by rw [lo _ (by omega) z.2.1]; exact z.2.2⟩)
  have eN : ∀ (k : Nat) (q : Int), q < 32 → ends F k q → ends (Fc g2 a) k q := by
    intro k
    induction k with
    | zero => intro q _ z; exact z
    | succ k ih =>
      intro q q1 z
      by_cases q0 : 0 ≤ q
      · rcases z with z | z
        · exact Or.inl z
        · right
          rw [lo q q0 q1]
          exact ih _ (t.av q q0 q1).2 z
      · exact Or.inl (by omega)
  have CK : CE (Fc g2 a) := fun q q0 q1 => eN 8 q q1 (t.ce q q0 q1)
  have GcK : GC g2 a := fun q q0 q1 z => by
    rw [lo q q0 q1] at z ⊢
    rw [(sm2 q.toNat (by omega)).1, Gc q q0 q1 (by rw [Et.1 q q0 q1]; exact z), Et.1 q q0 q1]
  have pl := cplace A2 kf t.tv c tG TK GcK CK hg y1 y2 n gK
  rw [← eto] at pl
  -- the gap
  obtain ⟨g3, e3⟩ : ∃ g3, g3 = sI g2 5 a (i32 (F 288)) := ⟨_, rfl⟩
  have p3 : So (fun z => z = a) g2 g3 := by rw [e3]; exact So_I (S := fun z => z = a) rfl _ _
  have A3 := A2.sk p3.1
  have m3 : hI g3 5 a = i32 (F 288) := by rw [e3, rII, if_pos ⟨rfl, rfl⟩]
  have m3' : ∀ f, f ≠ 5 → hI g3 f a = hI g2 f a := fun f hf => by rw [e3, rII, if_neg (fun z => hf z.1)]
  obtain ⟨g4, a4, p4, b4, b4'⟩ := cshiftL (a := a) (w2 := i32 gr) (v4 := some (a + 4 + x.toNat)) (K := fun w26 w27 w28 w29 w30 h31 => lX0_transfer_138 (fun w32 w33 h34 => oc w33 fun o35 => gd (isO h34 o35 2) <| lt (sI h34 134 o35 w32) fun h38 => some h38) FU w26 w27 w28 w29 w30 (i32 0) h31) (d := d) (to := to) (by omega) l1 O2 (F 288 - (to + d)).toNat FU (F 288 - 1) g3 (by omega) (by omega) (by omega) A3 m3
  have A4 := A3.sk p4.1
  obtain ⟨g5, a5, p5, b5, b5'⟩ := cputL (a := a) (w2 := i32 gr) (v4 := some (a + 4 + x.toNat)) (K := fun w32 w33 h34 => oc w33 fun o35 => gd (isO h34 o35 2) <| lt (sI h34 134 o35 w32) fun h38 => some h38) (d := d) (to := to) l1 (by omega) d.toNat FU 0 g4 (by omega) (by omega) (by omega) A4
  have A5 := A4.sk p5.1
  obtain ⟨g6, e6⟩ : ∃ g6, g6 = sI g5 134 (a + 4 + x.toNat) (i32 gr) := ⟨_, rfl⟩
  have p6 : So (fun z => z = a + 4 + x.toNat) g5 g6 := by rw [e6]; exact So_I (S := fun z => z = a + 4 + x.toNat) rfl _ _
  have h32 : x.toNat < 32 := by omega
  have i2 : hI g6 5 a = i32 (F 288) := by
    rw [(p6.2.2 a (by omega)).1, (p5.2.2 a (by omega)).1, (p4.2.2 a (by omega)).1, m3]
  have i5 : ∀ f, f ≠ 5 → hI g6 f a = hI h f a := fun f hf => by
    rw [(p6.2.2 a (by omega)).1, (p5.2.2 a (by omega)).1, (p4.2.2 a (by omega)).1, m3' f hf, b2' f hf, n1.1]
  have o6 : ∀ q, hA g6 (a + 1) q = hA g5 (a + 1) q := fun q => (p6.2.2 (a + 1) (by omega)).2.2.2.1 q
  have o3 : ∀ q, hA g3 (a + 1) q = hA g2 (a + 1) q := fun q => (p3.2.2 (a + 1) (by omega)).2.2.2.1 q
  have h4 : ∀ q, hA g4 (a + 2) q = hA g1 (a + 2) q := fun q => by
    rw [(p4.2.2 (a + 2) (by omega)).2.2.2.1, (p3.2.2 (a + 2) (by omega)).2.2.2.1, (p2.2.2 (a + 2) (by omega)).2.2.2.1]
  have sm5 : ∀ q, q < 32 → Sm h g5 (a + 4 + q) := fun q hq => (sm2 q hq).t ((p3.2.2 _ (by omega)).t ((p4.2.2 _ (by omega)).t (p5.2.2 _ (by omega))))
  have nd : ∀ q : Nat, q < 32 → (∀ f, f ≠ 134 → hI g6 f (a + 4 + q) = hI h f (a + 4 + q)) ∧ (∀ f, hJ g6 f (a + 4 + q) = hJ h f (a + 4 + q)) ∧ ∀ f, hR g6 f (a + 4 + q) = hR h f (a + 4 + q) := fun q hq => by
    have z := sm5 q hq
    refine ⟨fun f hf => by rw [e6, rII, if_neg (fun w => hf w.1), z.1], fun f => ?_, fun f => ?_⟩
    · rw [e6]; exact z.2.1 f
    · rw [e6]; exact z.2.2.1 f
  refine ⟨g6, ?_, ?_, fun H mv rows => ?_, fun f hf => i5 f (by omega), nd⟩
  · unfold fX0_transfer
    have fx := cfind A (show -2147483648 ≤ x by omega) (by omega)
    rw [fno_y x0 x1 (by rw [Et.1 x x0 x1]; exact xp)] at fx
    rw [A.o, gd_tt, fx, bn_s, x_place A Et t x0 x1 s1 (by omega) s4, bn_s, on_sm, if_pos (by rw [i32_z, i32_le (by omega) (by omega) (by omega) (by omega)]; exact s1), x_end A Et Gc t s x0 x1 xp, bn_s, i32_sub, ← ed, lt_e]
    refine Eq.trans a1 ?_
    show (gd (isO g1 a 0) <| bn (fX0_cut a (i32 p) (i32 p + i32 d) g1) fun h20 => gd (isO h20 a 0) <| bn (fX0_placeFor a (i32 gr) (i32 y) h20) fun v23 => lt (sI h20 5 a ((hI h20 5 a) + i32 d)) fun h24 => lt (((hI h24 5 a) - (i32 1))) fun v25 => lX0_transfer_104 (fun w26 w27 w28 w29 w30 h31 => lX0_transfer_138 (fun w32 w33 h34 => oc w33 fun o35 => gd (isO h34 o35 2) <| lt (sI h34 134 o35 w32) fun h38 => some h38) FU w26 w27 w28 w29 w30 (i32 0) h31) FU a (i32 gr) (some (a + 4 + x.toNat)) (i32 d) v23 v25 h24) = _
    rw [A1.o, gd_tt, i32_add, ← ee, a2, bn_s, A2.o, gd_tt, pl, bn_s, b2, i32_add, show F 288 - (e - p) + d = F 288 by omega, ← e3, lt_e, m3, i32_sub, lt_e]
    refine Eq.trans a4 ?_
    show (lX0_transfer_138 (fun w32 w33 h34 => oc w33 fun o35 => gd (isO h34 o35 2) <| lt (sI h34 134 o35 w32) fun h38 => some h38) FU a (i32 gr) (some (a + 4 + x.toNat)) (i32 d) (i32 to) (i32 0) g4) = _
    refine Eq.trans a5 ?_
    show (oc (some (a + 4 + x.toNat)) fun o35 => gd (isO g5 o35 2) <| lt (sI g5 134 o35 (i32 gr)) fun h38 => some h38) = _
    rw [oc_s, A5.on h32, gd_tt, ← e6, lt_e]
  · have w : ∀ {S : Nat → Prop} {f f' : HP}, So S f f' → (∀ y, S y → a ≤ y ∧ y < a + 36) → So (inF a) f f' := fun q k => q.w (fun y z => k y z)
    exact (w p1 (fun y z => by omega)).t ((w p2 (fun y z => by omega)).t ((w p3 (fun y z => by omega)).t ((w p4 (fun y z => by omega)).t ((w p5 (fun y z => by omega)).t (w p6 (fun y z => by omega))))))
  · obtain ⟨m1, m2, m3x, m4, m5, m6⟩ := mv
    rw [← ed] at m5 m6
    refine ⟨by rw [i5 3 (by omega), rows 289 (by omega) (by omega) (by omega)]; exact r3, by rw [i5 4 (by omega), rows 290 (by omega) (by omega) (by omega)]; exact r4, by rw [i2, m3x], fun i i0 i1 => ?_, fun q q0 q1 => ?_⟩
    · rw [m3x] at i1
      rw [o6]
      by_cases z : i < to
      · rw [m4 i i0 z, b5' i.toNat (by omega), b4' i.toNat (by omega), o3, od i i0 (by omega)]
      · by_cases w : i < to + d
        · have v := b5 (i - to) (by omega) (by omega)
          rw [show to + (i - to) = i by omega] at v
          rw [v, h4, b1 (i - to) (by omega) (by omega), m5 i (by omega) w]
          exact ro _ (by omega) (by omega)
        · rw [m6 i (by omega) i1, b5' i.toNat (by omega), b4 i (by omega) (by omega), o3, od (i - d) (by omega) (by omega)]
    · obtain ⟨z1, z2, z3⟩ := nd q.toNat (by omega)
      by_cases qx : q = x
      · right
        rw [qx] at z1 z2 ⊢
        rcases rn x x0 x1 with w | ⟨w1, w2, w3⟩
        · exact absurd w.1 xp
        · refine ⟨?_, by rw [z1 128 (by omega)]; exact w2, ?_⟩
          · rw [m2]
            rcases n with ⟨v, _⟩ | ⟨v, _⟩ <;> omega
          · unfold NDc at w3 ⊢
            rw [z1 130 (by omega), z1 131 (by omega), z1 132 (by omega), z1 133 (by omega), z2, m2, rows (32 + x) (by omega) (by omega) (by omega), rows (64 + x) (by omega) (by omega) (by omega), rows (96 + x) (by omega) (by omega) (by omega), rows (128 + x) (by omega) (by omega) (by omega), rows (160 + x) (by omega) (by omega) (by omega)]
            refine ⟨?_, w3.2⟩
            rw [e6, rII, if_pos ⟨rfl, rfl⟩]
            congr 1
            rcases hg with u | ⟨u, u'⟩
            · rw [show gno gr = -2 from if_neg (by omega), u]; rfl
            · rw [show gno gr = 24 + gr from if_pos ⟨u, u'⟩]
              unfold cgr
              rw [if_neg (by omega)]; omega
      · have i134 : hI g6 134 (a + 4 + q.toNat) = hI h 134 (a + 4 + q.toNat) := by
          rw [e6, rII, if_neg (fun w => by omega), (sm5 q.toNat (by omega)).1]
        rw [m1 q q0 q1 qx, z1 128 (by omega)]
        rcases rn q q0 q1 with w | ⟨w1, w2, w3⟩
        · exact Or.inl w
        · refine Or.inr ⟨w1, w2, ?_⟩
          unfold NDc at w3 ⊢
          rw [i134, z1 130 (by omega), z1 131 (by omega), z1 132 (by omega), z1 133 (by omega), z2, m1 q q0 q1 qx, rows (32 + q) (by omega) (by omega) (by omega), rows (64 + q) (by omega) (by omega) (by omega), rows (96 + q) (by omega) (by omega) (by omega), rows (128 + q) (by omega) (by omega) (by omega), rows (160 + q) (by omega) (by omega) (by omega)]
          exact w3
end

