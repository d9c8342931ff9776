/-! CALLS THAT WRITE THE STATE AND LET THE TAPE BE -/
section
variable {h : HP} {k : Nat}
theorem RR_wr {g : HP} (R : RR h k) (sk : Sk h g) (g1 : g.1 = h.1) (l104 : hL g 104 = hL h 104) (n24 : N24 g) (a985 : hA g 985 = hA h 985) (t1 : hA g 1 = hA h 1) (t2 : hA g 984 = hA h 984) (i641 : hI g 641 0 = hI h 641 0) (i705 : hI g 705 983 = hI h 705 983) (i714 : hI g 714 983 = hI h 714 983) (er : hI g 642 0 = hI g 706 983) (sr : ∀ np : Nat, np ≤ 20 * k → PastR h np → SR h 2 (Wm h) np → SR g 2 (Wm g) np) (past : ∀ np : Nat, np ≤ 20 * k → PastR h np → SR h 2 (Wm h) np → PastR g np) : RR g (k + 1) := by
  obtain ⟨C, M, K, _, ⟨s1, s2, s3, sz⟩, _, np, T, h714, ⟨b, q1, q2, q3, q4, q5⟩, b1, ⟨b2, b2'⟩, b3, s, P⟩ := R
  have hs : hsz g = hsz h := by unfold hsz; rw [g1]
  have hl : hsl g = hsl h := by unfold hsl; rw [g1]
  refine ⟨C.sk sk, M.sk sk, fun i hi => by rw [l104]; exact K i hi, n24, ⟨s1, s2, s3, by rw [a985]; exact sz⟩, er, np, T, by rw [i714]; exact h714, ⟨b, by rw [i641]; exact q1, by rw [i705]; exact q2, q3, TB_e q4 t1, TB_e q5 t2⟩, by omega, ⟨by omega, by omega⟩, by omega, sr np (by omega) P s, past np (by omega) P s⟩
theorem NodeEq.t {k g h : HP} {a b c : Nat} (x : NodeEq k a g b) (y : NodeEq g b h c) : NodeEq k a h c := by
  obtain ⟨a1, a2, a3, a4, a5, a6, a7, a8, a9, a10⟩ := x
  obtain ⟨b1, b2, b3, b4, b5, b6, b7, b8, b9, b10⟩ := y
  exact ⟨a1.trans b1, a2.trans b2, a3.trans b3, a4.trans b4, a5.trans b5, a6.trans b6, a7.trans b7, a8.trans b8, a9.trans b9, a10.trans b10⟩
theorem FormEq.t {k g h : HP} {a b c : Nat} (x : FormEq k a g b) (y : FormEq g b h c) : FormEq k a h c := ⟨fun f hf => (x.1 f hf).trans (y.1 f hf), fun i hi => ⟨(x.2 i hi).1.trans (y.2 i hi).1, (x.2 i hi).2.t (y.2 i hi).2⟩⟩
theorem SheetEq.t {k g h : HP} {a b c : Nat} (x : SheetEq k a g b) (y : SheetEq g b h c) : SheetEq k a h c := ⟨x.1.trans y.1, fun i hi => (x.2 i hi).trans (y.2 i hi)⟩
theorem StateEq.t {k g h : HP} {a b c : Nat} (x : StateEq k a g b) (y : StateEq g b h c) : StateEq k a h c := ⟨x.1.t y.1, x.2.1.trans y.2.1, x.2.2.1.trans y.2.2.1, fun i hi => (x.2.2.2 i hi).t (y.2.2.2 i hi)⟩
/-- the model takes a world back -/
theorem mback {K : Nat → HP → Option (Int32 × HP)} {u : Nat} (hu : u < 10) : ∀ (d n : Nat) (v : Nat) (f : HP), v + d = 2880 → d < n → MS f → hI f 712 983 = i32 u → ∃ g, lX11_undo_21 K n 983 (i32 (v : Int)) f = K 983 g ∧ So (fun x => x = 987) f g ∧ (∀ i, v ≤ i → i < 2880 → hL g 987 i = hL f 989 (2880 * u + i)) ∧ ∀ i, i < v → hL g 987 i = hL f 987 i := by
  intro d
  induction d with
  | zero =>
    intro n v f hv hn M e
    obtain ⟨m, rfl⟩ : ∃ m, n = m + 1 := ⟨n - 1, by omega⟩
    refine ⟨f, ?_, So.r, fun i _ _ => (by omega), fun i _ => rfl⟩
    rw [elX11_undo_21]; unfold bX11_undo_21
    rw [if_pos (by rw [i32_le (by omega) (by omega) (by omega) (by omega)]; omega)]
  | succ d ih =>
    intro n v f hv hn M e
    obtain ⟨m, rfl⟩ : ∃ m, n = m + 1 := ⟨n - 1, by omega⟩
    obtain ⟨f1, e1⟩ : ∃ f1, f1 = sL f 987 v (hL f 989 (2880 * u + v)) := ⟨_, rfl⟩
    have p1 : So (fun x => x = 987) f f1 := by rw [e1]; exact So_L (S := fun x => x = 987) rfl _ _
    obtain ⟨g, a1, a2, a3, a4⟩ := ih m (v + 1) f1 (by omega) (by omega) (M.sk p1.1) (by rw [(p1.2.2 983 (by decide)).1]; exact e)
    have r1 : ∀ x i, hL f1 x i = if x = 987 ∧ i = v then hL f 989 (2880 * u + v) else hL f x i := fun x i => by rw [e1, rLL]
    refine ⟨g, ?_, p1.t a2, fun i i0 i1 => ?_, fun i hi => ?_⟩
    · rw [elX11_undo_21]; unfold bX11_undo_21
      rw [if_neg (by rw [i32_le (by omega) (by omega) (by omega) (by omega)]; omega), M.o, gd_tt, M.r_undone, oc_s, M.o_undone, gd_tt, M.n_undone, e, i32_mul, i32_add, i32_inb (by omega) (by omega) (by omega), gd_tt, M.r_world, oc_s, M.o_world, gd_tt, M.n_world, i32_inb (by omega) (by omega) (by omega), gd_tt, i32_cn (by omega) (by omega), i32_cn (by omega) (by omega), show (2880 * (u : Int) + (v : Int)).toNat = 2880 * u + v by omega, show ((v : Int)).toNat = v from rfl, ← e1, lt_e, lt_e, i32_add]
      exact a1
    · by_cases y : i = v
      · rw [y, a4 _ (by omega), r1, if_pos ⟨rfl, rfl⟩]
      · rw [a3 i (by omega) i1, r1, if_neg (fun z => by cases z.1)]
    · rw [a4 i (by omega), r1, if_neg (fun z => by have := z.2; omega)]
theorem rd_undo (R : RR h k) : ∃ r g g', fX10_undo 0 h = some (r, g) ∧ fX11_undo 983 g = some (r, g') ∧ RR g' (k + 1) := by
  have R' := R
  obtain ⟨C, M, K, n24, sz, er, np, T, h714, tp, b1, ⟨b2, b2'⟩, b3, sr, ⟨u, p, hu, hp, e6, e7, e12, ⟨pm1, pm2⟩, pst⟩⟩ := R'
  by_cases u0 : u = 0
  · refine ⟨i32 (-1), h, h, ?_, ?_, RR_up R (by omega)⟩
    · unfold fX10_undo
      rw [C.o, gd_tt, e6, u0, if_neg (by decide)]
    · unfold fX11_undo
      rw [M.o, gd_tt, e12, u0, if_pos (show i32 ((0 : Nat) : Int) = 0 from rfl)]
  obtain ⟨q, eq⟩ : ∃ q, q = (p + 9) % 10 := ⟨_, rfl⟩
  have q10 : q < 10 := by rw [eq]; exact Nat.mod_lt _ (by omega)
  have sl : psl u p (u - 1) = q := by rw [eq]; unfold psl; omega
  have sq := pst (u - 1) (by omega)
  rw [sl] at sq
  obtain ⟨g1, d1⟩ : ∃ g1, g1 = sI h 647 0 (i32 (q : Nat)) := ⟨_, rfl⟩
  obtain ⟨g2, d2⟩ : ∃ g2, g2 = sI g1 646 0 (i32 (u - 1 : Nat)) := ⟨_, rfl⟩
  have r1 : ∀ f x, hI g1 f x = if f = 647 ∧ x = 0 then i32 (q : Nat) else hI h f x := fun f x => by rw [d1, rII]
  have r2 : ∀ f x, hI g2 f x = if f = 646 ∧ x = 0 then i32 (u - 1 : Nat) else hI g1 f x := fun f x => by rw [d2, rII]
  have p2 : So (fun x => x = 0) h g2 := by rw [d2, d1]; exact (So_I (S := fun x => x = 0) rfl _ _).t (So_I (S := fun x => x = 0) rfl _ _)
  have C2 := C.sk p2.1
  have sm2 : ∀ x, x ≠ 0 → Sm h g2 x := fun x hx => p2.2.2 x hx
  have bb : ∀ i : Nat, i < 32 → isB (hI g2 128 (403 + 58 * q + 1 + 4 + i)) = true := fun i hi => by
    rw [(sm2 _ (by omega)).1]; exact sq.1.1.1.isB i hi
  obtain ⟨g3, c1, c2, c3⟩ := copyState C2.st (C2.past q10) (Or.inl (by omega)) bb
  have C3 := C2.sk c2.1
  have z3 : ∀ f, hI g3 f 0 = hI g2 f 0 := fun f => (c2.2.2 0 (fun z => by have := z.1; omega)).1 f
  have pc := (p2.w (T := fun x => x = 0 ∨ inS 2 x) (fun x z => Or.inl z)).t (c2.w (fun x z => Or.inr z))
  have M3 : MS g3 := M.sk pc.1
  have sm3 : ∀ x, x ≠ 0 → ¬ inS 2 x → Sm h g3 x := fun x a b => pc.2.2 x (fun z => by rcases z with z | z; exact a z; exact b z)
  have n3 := sm3 983 (by decide) (fun z => by have := z.2; omega)
  obtain ⟨g4, d4⟩ : ∃ g4, g4 = sI g3 712 983 (i32 (u - 1 : Nat)) := ⟨_, rfl⟩
  have p4 : So (fun x => x = 983 ∨ x = 987) g3 g4 := by rw [d4]; exact So_I (Or.inl rfl) _ _
  have r4 : ∀ f x, hI g4 f x = if f = 712 ∧ x = 983 then i32 (u - 1 : Nat) else hI g3 f x := fun f x => by rw [d4, rII]
  have l4 : hL g4 = hL g3 := by rw [d4, rLI]
  obtain ⟨g5, m1, m2, m3, m4⟩ := mback (K := fun w3 h4 => gd (isO h4 w3 11) <| some ((hI h4 712 w3), h4)) (u := u - 1) (by omega) 2880 FU 0 g4 (by omega) (by decide) (M3.sk p4.1) (by rw [r4, if_pos ⟨rfl, rfl⟩])
  have pm := p4.t (m2.w (fun x z => Or.inr z))
  have M5 : MS g5 := M3.sk pm.1
  have sm5 : ∀ x, x ≠ 983 → x ≠ 987 → Sm g3 g5 x := fun x a b => pm.2.2 x (fun z => by rcases z with z | z; exact a z; exact b z)
  have i5 : ∀ f, hI g5 f 983 = hI g4 f 983 := fun f => (m2.2.2 983 (by decide)).1 f
  have smA : ∀ x, x ≠ 0 → ¬ inS 2 x → x ≠ 983 → x ≠ 987 → Sm h g5 x := fun x a b c d => (sm3 x a b).t (sm5 x c d)
  have nS : ∀ x, 60 ≤ x → ¬ inS 2 x := fun x hx z => by have := z.2; omega
  have eA : ∀ x, 60 ≤ x → x ≠ 983 → x ≠ 987 → hA g5 x = hA h x := fun x a c d => funext (smA x (by omega) (nS x a) c d).2.2.2.1
  have eL : ∀ x, 60 ≤ x → x ≠ 983 → x ≠ 987 → hL g5 x = hL h x := fun x a c d => funext (smA x (by omega) (nS x a) c d).2.2.2.2.1
  have eU : Un g5 = Un h := by funext j; unfold Un; rw [eL 989 (by omega) (by omega) (by omega)]
  have eW : EW (Wm g5) (Un h (u - 1)) := fun i i0 i1 => by
    unfold Wm Un
    rw [m3 i.toNat (by omega) (by omega), l4, (funext (sm3 989 (by omega) (nS _ (by omega))).2.2.2.2.1 : hL g3 989 = hL h 989)]
  have ts : TS2 h g5 := TS2_So (pc.w (T := fun x => x < 1008) (fun x z => by rcases z with z | z; omega; have := z.2; omega) |>.t (pm.w (fun x z => by rcases z with z | z <;> omega))) (fun x z => z)
  have i712 : hI g5 712 983 = i32 (u - 1 : Nat) := by rw [i5, r4, if_pos ⟨rfl, rfl⟩]
  have o5 : ∀ f, f ≠ 712 → hI g5 f 983 = hI h f 983 := fun f hf => by rw [i5, r4, if_neg (fun z => hf z.1), n3.1]
  have c5 : ∀ f, hI g5 f 0 = hI g2 f 0 := fun f => by rw [(sm5 0 (by decide) (by decide)).1, z3]
  have pl : ∀ np, PlS np h g5 := fun np q _ => by rw [eA 990 (by omega) (by omega) (by omega)]
  have rev : ∀ r : Nat, r < 8 → FormEq g5 (115 + 36 * r) h (115 + 36 * r) := fun r hr => FormEq_sm (fun x hx => by
    have := hx.1
    have := hx.2
    exact smA x (by omega) (nS x (by omega)) (by omega) (by omega))
  refine ⟨i32 (u - 1 : Nat), g3, g5, ?_, ?_, ?_⟩
  · unfold fX10_undo
    rw [C.o, gd_tt, e6, if_pos (by rw [i32_z, i32_lt (by omega) (by omega) (by omega) (by omega)]; omega), e7, i32_sub, fmod_c (by omega) (by omega), bn_s, show ((p : Int) - 1 + 10) % 10 = (q : Nat) by omega, ← d1, lt_e, r1, if_neg (by omega), e6, i32_sub, show (u : Int) - 1 = (u - 1 : Nat) by omega, ← d2, lt_e, C2.r_past, oc_s, C2.o_past, gd_tt, C2.n_past, r2, if_neg (by omega), r1, if_pos ⟨rfl, rfl⟩, i32_inb (by omega) (by omega) (by omega), gd_tt, i32_cn (by omega) (by omega), show ((q : Int)).toNat = q from rfl, C2.q_past q10, on_sm, C2.r_state, oc_s, C2.o_state, gd_tt, c1, bn_s]
    unfold jX10_undo_62
    rw [C3.o, z3, r2, if_pos ⟨rfl, rfl⟩, gd_tt, gd_tt]
  · unfold fX11_undo
    rw [M3.o, gd_tt, n3.1, e12, i32_z, if_neg (by rw [i32_eq (by omega) (by omega) (by omega) (by omega)]; omega), i32_sub, show (u : Int) - 1 = (u - 1 : Nat) by omega, ← d4, lt_e]
    refine m1.trans ?_
    show (gd (isO g5 983 11) <| some ((hI g5 712 983), g5)) = _
    rw [M5.o, gd_tt, i712]
  · refine RR_wr R (pc.1.trans pm.1) (pm.2.1.trans pc.2.1) (eL 104 (by omega) (by omega) (by omega)) (n24.e (eA 991 (by omega) (by omega) (by omega)) (eA 999 (by omega) (by omega) (by omega))) (eA 985 (by omega) (by omega) (by omega)) ?_ (eA 984 (by omega) (by omega) (by omega)) ?_ (o5 705 (by omega)) (o5 714 (by omega)) ?_ (fun np hnp P s => ?_) (fun np hnp P s => ?_)
    · exact funext (smA 1 (by omega) (fun z => by have := z.1; omega) (by omega) (by omega)).2.2.2.1
    · rw [c5, r2, if_neg (by omega), r1, if_neg (by omega)]
    · rw [c5, r2, if_neg (by omega), r1, if_neg (by omega), o5 706 (by omega)]; exact er
    · obtain ⟨u', p', hu', hp', f6, f7, f12, _, pst'⟩ := P
      obtain rfl : u' = u := by rw [e6, i32_eq (by omega) (by omega) (by omega) (by omega)] at f6; omega
      obtain rfl : p' = p := by rw [e7, i32_eq (by omega) (by omega) (by omega) (by omega)] at f7; omega
      have sq' := pst' (u' - 1) (by omega)
      rw [sl] at sq'
      have eS : StateEq g5 2 h (403 + 58 * q) := (StateEq_sm (fun x hx => sm5 x (by have := hx.2; omega) (by have := hx.2; omega))).t (c3.t (StateEq_sm (fun x hx => sm2 x (by have := hx.1; omega))))
      exact SR_W (SR_eq sq' eS ts (pl np) (eA 985 (by omega) (by omega) (by omega)) (Nat.le_refl _) rev) eW
    · obtain ⟨u', p', hu', hp', f6, f7, f12, _, pst'⟩ := P
      obtain rfl : u' = u := by rw [e6, i32_eq (by omega) (by omega) (by omega) (by omega)] at f6; omega
      obtain rfl : p' = p := by rw [e7, i32_eq (by omega) (by omega) (by omega) (by omega)] at f7; omega
      refine ⟨u' - 1, q, by omega, q10, ?_, ?_, i712, ⟨fun j hj => ?_, fun hj => ?_⟩, fun j hj => ?_⟩
      · rw [c5, r2, if_pos ⟨rfl, rfl⟩]
      · rw [c5, r2, if_neg (by omega), r1, if_pos ⟨rfl, rfl⟩]
      · rw [eU]; exact pm1 j (by omega)
      · rw [eU, eW 2628 (by omega) (by omega)]
        have := pm1 (u' - 1 - 1) (by omega)
        rwa [show u' - 1 - 1 + 1 = u' - 1 by omega] at this
      · have e : psl (u' - 1) q j = psl u' p' j := by rw [eq]; unfold psl; omega
        have hq : psl u' p' j < 10 := Nat.mod_lt _ (by omega)
        rw [e, eU]
        exact SR_eq (pst' j (by omega)) (StateEq_sm fun x hx => smA x (by have := hx.1; omega) (nS x (by have := hx.1; omega)) (by have := hx.2; omega) (by have := hx.2; omega)) ts (pl np) (eA 985 (by omega) (by omega) (by omega)) (Nat.le_refl _) rev
end
