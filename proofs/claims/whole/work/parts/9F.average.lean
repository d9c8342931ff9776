/-! AVERAGE -/
section
variable {h g : HP} {k : Nat}
def smt (p : Int → Bool) (w : Int → Int) : Nat → Int → Int
  | 0, _ => 0
  | k + 1, i => (if p i = true then w i else 0) + smt p w k (i + 1)
theorem smt_rng {p : Int → Bool} {w : Int → Int} : ∀ (k : Nat) (i : Int), (∀ j, i ≤ j → j < i + k → p j = true → 0 ≤ w j ∧ w j ≤ 9999) → 0 ≤ smt p w k i ∧ smt p w k i ≤ 9999 * k := by
  intro k
  induction k with
  | zero => intro i _; simp only [smt]; omega
  | succ k ih =>
    intro i h
    have := ih (i + 1) (fun j a b => h j (by omega) (by omega))
    simp only [smt]
    by_cases c : p i = true
    · rw [if_pos c]
      have := h i (Int.le_refl _) (by omega) c
      omega
    · rw [if_neg c]; omega
theorem smt_ff {p : Int → Bool} {w : Int → Int} : ∀ (k : Nat) (i : Int), (∀ j, i ≤ j → j < i + k → p j = false) → smt p w k i = 0 := by
  intro k
  induction k with
  | zero => intro i _; rfl
  | succ k ih =>
    intro i h
    simp only [smt]
    rw [if_neg (by rw [h i (Int.le_refl _) (by omega)]; decide), ih (i + 1) (fun j a b => h j (by omega) (by omega))]
    rfl
/-- whether a sheet has the field in force -/
def avp (Φ : Nat → Nat × (Int → Int)) (f : Int) (i : Int) : Bool := decide (0 ≤ f ∧ f < 24 ∧ 0 ≤ (Φ i.toNat).2 f)
def avw (Φ : Nat → Nat × (Int → Int)) (f : Int) (i : Int) : Int := (Φ i.toNat).2 f
theorem rd_average (R : RR h k) (hk : k ≤ 512) (q1 : Int32) : ∃ o g g', fX10_average 0 q1 h = some (o, g) ∧ fX11_average 983 q1 g = some (o, g') ∧ RR g' (k + 1) ∧ nn32 o = true := by
  obtain ⟨f, h1, h2, rfl⟩ := i32_ex q1
  obtain ⟨np, sr, hnp⟩ := R.sr
  have w2 := sr.2.2.1.2
  obtain ⟨Φ, hΦ⟩ := look_all R hk
  -- the class
  have cl : ∀ (K : Int32 → Int32 → HP → Option (UInt32 × HP)) (j n : Nat) (sm c i : Int) (g : HP), i + j = Wm h 2629 → 0 ≤ i → j < n → RR g k → Wm g = Wm h → Pt g = Pt h → ∃ g', lX10_average_7 K n 0 (i32 f) (i32 sm) (i32 c) (i32 i) g = K (i32 (sm + smt (avp Φ f) (avw Φ f) j i)) (i32 (c + cnt (avp Φ f) j i)) g' ∧ RR g' k ∧ Wm g' = Wm h ∧ Pt g' = Pt h := by
    intro K j
    induction j with
    | zero =>
      intro n sm c i g e i0 hn Rg eW eP
      obtain ⟨n, rfl⟩ : ∃ x, n = x + 1 := ⟨n - 1, by omega⟩
      have C := Rg.C
      obtain ⟨_, srg, _⟩ := Rg.sr
      have e322 := srg.2.2.1.1
      rw [eW] at e322
      refine ⟨g, ?_, Rg, eW, eP⟩
      rw [elX10_average_7]; unfold bX10_average_7
      rw [C.o, gd_tt, C.r_state, oc_s, C.o_state, gd_tt, e322, if_pos (by rw [i32_le (by omega) (by omega) (by omega) (by omega)]; omega)]
      simp only [cnt, smt, Int.add_zero]
    | succ j ih =>
      intro n sm c i g e i0 hn Rg eW eP
      obtain ⟨n, rfl⟩ : ∃ x, n = x + 1 := ⟨n - 1, by omega⟩
      have C := Rg.C
      obtain ⟨_, srg, _⟩ := Rg.sr
      have e322 := srg.2.2.1.1
      rw [eW] at e322
      obtain ⟨p1, p2, p3, S, both⟩ := hΦ i.toNat (by omega)
      obtain ⟨⟨g1, x1, x2, x3, x4, x5, x6⟩, _⟩ := both g Rg eW eP
      have ei : ((i.toNat : Nat) : Int) = i := by omega
      rw [ei] at p1
      have at' := (clookAt Rg (s := i) (by omega) (by omega)).2 (Φ i.toNat).1 i0 (by rw [eW]; omega) (by rw [eW]; exact p1)
      rw [x1, bn_s] at at'
      have C1 := x3.C
      have fo := force_s C1 x6 h1 h2
      have nx : ∀ s' c' : Int32, jX10_average_53 (fun v0 v1 v2 v3 v4 h => lX10_average_7 K n v0 v1 v2 v3 v4 h) 0 (i32 f) s' c' (i32 i) g1 = lX10_average_7 K n 0 (i32 f) s' c' (i32 (i + 1)) g1 := fun s' c' => by
        unfold jX10_average_53
        rw [lt_e, i32_add]
      have eW1 := (Wm_9 x2).trans eW
      have eP1 := (Pt_9 x2).trans eP
      have hd : ∀ r, (if i32 (if 0 ≤ f ∧ f < 24 then (Φ i.toNat).2 f else -2) < 0 then lX10_average_7 K n 0 (i32 f) (i32 sm) (i32 c) (i32 (i + 1)) g1 else lX10_average_7 K n 0 (i32 f) (i32 (sm + (if 0 ≤ f ∧ f < 24 then (Φ i.toNat).2 f else -2))) (i32 (c + 1)) (i32 (i + 1)) g1) = r → lX10_average_7 K (n + 1) 0 (i32 f) (i32 sm) (i32 c) (i32 i) g = r := fun r hr => by
        rw [elX10_average_7]; unfold bX10_average_7
        rw [C.o, gd_tt, C.r_state, oc_s, C.o_state, gd_tt, e322, if_neg (by rw [i32_le (by omega) (by omega) (by omega) (by omega)]; omega), at', bn2_s, if_pos rfl, C1.o, gd_tt, C1.r_view, oc_s, C1.o_view, gd_tt, fo, bn_s, bn_s, i32_add, i32_add, lt_e, lt_e, nx, nx]
        exact hr
      simp only [cnt, smt]
      by_cases t : avp Φ f i = true
      · obtain ⟨u1, u2, u3⟩ := of_decide_eq_true t
        obtain ⟨g', y1, y2⟩ := ih n (sm + avw Φ f i) (c + 1) (i + 1) g1 (by omega) (by omega) (by omega) x3 eW1 eP1
        refine ⟨g', ?_, y2⟩
        rw [if_pos t, if_pos t, ← Int.add_assoc, ← Int.add_assoc]
        refine hd _ ?_
        have r0 := p3 f u1 u2
        rw [if_pos (show 0 ≤ f ∧ f < 24 from ⟨u1, u2⟩), if_neg (by rw [i32_z, i32_lt (by omega) (by omega) (by omega) (by omega)]; omega)]
        exact y1
      · obtain ⟨g', y1, y2⟩ := ih n sm c (i + 1) g1 (by omega) (by omega) (by omega) x3 eW1 eP1
        refine ⟨g', ?_, y2⟩
        rw [if_neg t, if_neg t, Int.zero_add, Int.zero_add]
        refine hd _ ?_
        by_cases d : 0 ≤ f ∧ f < 24
        · have r0 := p3 f d.1 d.2
          have w : (Φ i.toNat).2 f < 0 := by
            apply Classical.byContradiction
            intro w
            exact t (decide_eq_true ⟨d.1, d.2, by omega⟩)
          rw [if_pos d, if_pos (by rw [i32_z, i32_lt (by omega) (by omega) (by omega) (by omega)]; exact w)]
          exact y1
        · rw [if_neg d, if_pos (show i32 (-2) < 0 by decide)]
          exact y1
  -- the model
  have ml : ∀ (K : Int32 → Int32 → HP → Option (UInt32 × HP)) (j n : Nat) (sm c i : Int) (g : HP), i + j = Wm h 2629 → 0 ≤ i → j < n → RR g k → Wm g = Wm h → Pt g = Pt h → ∃ g', lX11_average_7 K n 983 (i32 f) (i32 c) (i32 sm) (i32 i) g = K (i32 (c + cnt (avp Φ f) j i)) (i32 (sm + smt (avp Φ f) (avw Φ f) j i)) g' ∧ RR g' k := by
    intro K j
    induction j with
    | zero =>
      intro n sm c i g e i0 hn Rg eW eP
      obtain ⟨n, rfl⟩ : ∃ x, n = x + 1 := ⟨n - 1, by omega⟩
      have M := Rg.M
      refine ⟨g, ?_, Rg⟩
      rw [elX11_average_7]; unfold bX11_average_7
      rw [M.o, gd_tt, sheets_s M, bn_s, eW, if_pos (by rw [i32_le (by omega) (by omega) (by omega) (by omega)]; omega)]
      simp only [cnt, smt, Int.add_zero]
    | succ j ih =>
      intro n sm c i g e i0 hn Rg eW eP
      obtain ⟨n, rfl⟩ : ∃ x, n = x + 1 := ⟨n - 1, by omega⟩
      have M := Rg.M
      by_cases d : 0 ≤ f ∧ f ≤ 23
      rotate_left
      · refine ⟨g, ?_, Rg⟩
        have ff : ∀ q, i ≤ q → q < i + ((j + 1 : Nat) : Int) → avp Φ f q = false := fun q a b => decide_eq_false (fun y => d ⟨y.1, by omega⟩)
        rw [elX11_average_7]; unfold bX11_average_7
        rw [M.o, gd_tt, sheets_s M, bn_s, eW, if_neg (by rw [i32_le (by omega) (by omega) (by omega) (by omega)]; omega), in_s h1 h2 (by omega) (by omega) (by omega) (by omega), bn_s, decide_eq_false d, if_neg (by decide), cnt_ff (j + 1) i ff, smt_ff (j + 1) i ff, Int.add_zero, Int.add_zero]
      obtain ⟨p1, p2, p3, S, both⟩ := hΦ i.toNat (by omega)
      obtain ⟨_, ⟨g1, x1, x2, x3, x4, x5⟩⟩ := both g Rg eW eP
      have ei : ((i.toNat : Nat) : Int) = i := by omega
      rw [ei] at p1 p3 x1
      have M1 := x3.M
      have eW1 := (Wm_4 x2).trans eW
      have eP1 := (Pt_4 x2).trans eP
      have r0 := p3 f d.1 (by omega)
      have j53 : ∀ b : Bool, b = decide (0 ≤ (Φ i.toNat).2 f) → jX11_average_53 (fun v0 v1 v2 v3 v4 h => lX11_average_7 K n v0 v1 v2 v3 v4 h) 983 (i32 f) (i32 sm) (i32 i) b (i32 c) g1 = if b = true then lX11_average_7 K n 983 (i32 f) (i32 (c + 1)) (i32 (sm + (Φ i.toNat).2 f)) (i32 (i + 1)) g1 else lX11_average_7 K n 983 (i32 f) (i32 c) (i32 sm) (i32 (i + 1)) g1 := fun b eb => by
        unfold jX11_average_53 jX11_average_76
        rw [lt_e, M1.o, gd_tt, M1.r_forced, oc_s, M1.o_forced, gd_tt, M1.n_forced, i32_inb d.1 (by omega) (by omega), gd_tt, i32_cn d.1 (by omega), x5 f d.1 (by omega), ← eb, answerAt_s M1 i0 (by omega) d.1 (by omega), bn_s, eW1]
        cases b with
        | false => rw [if_pos (show bI false = 0 from rfl), if_neg (by decide), lt_e, lt_e, bI_ff, i32_add, i32_add, i32_add, Int.add_zero, Int.add_zero]
        | true =>
          have q := of_decide_eq_true eb.symm
          have r1 : Wm h (2630 + 25 * i + 1 + f) = (Φ i.toNat).2 f := by
            rcases r0 with z | z
            · omega
            · exact z.2.2.symm
          rw [if_neg (show ¬ bI true = 0 by decide), if_pos rfl, lt_e, lt_e, bI_tt, i32_add, i32_add, i32_add, r1]
      have hd : ∀ r, (if decide (0 ≤ (Φ i.toNat).2 f) = true then lX11_average_7 K n 983 (i32 f) (i32 (c + 1)) (i32 (sm + (Φ i.toNat).2 f)) (i32 (i + 1)) g1 else lX11_average_7 K n 983 (i32 f) (i32 c) (i32 sm) (i32 (i + 1)) g1) = r → lX11_average_7 K (n + 1) 983 (i32 f) (i32 c) (i32 sm) (i32 i) g = r := fun r hr => by
        rw [elX11_average_7]; unfold bX11_average_7
        rw [M.o, gd_tt, sheets_s M, bn_s, eW, if_neg (by rw [i32_le (by omega) (by omega) (by omega) (by omega)]; omega), in_s h1 h2 (by omega) (by omega) (by omega) (by omega), bn_s, decide_eq_true d, if_pos rfl, formBy_s M i0 (by omega), bn_s, eW, p1, x1, bn_s, M1.o, gd_tt, M1.r_forced, oc_s, M1.o_forced, gd_tt, M1.n_forced, i32_inb d.1 (by omega) (by omega), gd_tt, i32_cn d.1 (by omega), x5 f d.1 (by omega)]
        cases w : decide (0 ≤ (Φ i.toNat).2 f) with
        | false =>
          rw [w] at hr
          rw [if_pos (show bI false = 0 from rfl), j53 false w.symm]; exact hr
        | true =>
          rw [w] at hr
          rw [if_neg (show ¬ bI true = 0 by decide), j53 true w.symm]; exact hr
      simp only [cnt, smt]
      by_cases t : avp Φ f i = true
      · obtain ⟨u1, u2, u3⟩ := of_decide_eq_true t
        obtain ⟨g', y1, y2⟩ := ih n (sm + avw Φ f i) (c + 1) (i + 1) g1 (by omega) (by omega) (by omega) x3 eW1 eP1
        refine ⟨g', ?_, y2⟩
        rw [if_pos t, if_pos t, ← Int.add_assoc, ← Int.add_assoc]
        exact hd _ (by rw [if_pos (decide_eq_true u3)]; exact y1)
      · obtain ⟨g', y1, y2⟩ := ih n sm c (i + 1) g1 (by omega) (by omega) (by omega) x3 eW1 eP1
        refine ⟨g', ?_, y2⟩
        rw [if_neg t, if_neg t, Int.zero_add, Int.zero_add]
        exact hd _ (by rw [if_neg (by rw [decide_eq_true_eq]; exact fun w => t (decide_eq_true ⟨d.1, by omega, w⟩))]; exact y1)
  obtain ⟨g, a1, a2, a3, a4⟩ := cl (fun w1 w2 h3 => if w2 = 0 then some ((3212836864 : UInt32), h3) else gd (nn32 (FP.fdiv ((FP.i2f w1)) ((FP.i2f w2)))) <| some ((FP.fdiv ((FP.i2f w1)) ((FP.i2f w2))), h3)) (Wm h 2629).toNat FU 0 0 0 h (by omega) (by omega) (by have : FU = 1000000 := rfl; omega) R rfl rfl
  obtain ⟨g', b1, b2⟩ := ml (fun w1 w2 h3 => if w1 = 0 then some ((3212836864 : UInt32), h3) else gd (nn32 (FP.fdiv ((FP.i2f w2)) ((FP.i2f w1)))) <| some ((FP.fdiv ((FP.i2f w2)) ((FP.i2f w1))), h3)) (Wm h 2629).toNat FU 0 0 0 g (by omega) (by omega) (by have : FU = 1000000 := rfl; omega) a2 a3 a4
  obtain ⟨a, ea⟩ : ∃ a, a = smt (avp Φ f) (avw Φ f) (Wm h 2629).toNat 0 := ⟨_, rfl⟩
  obtain ⟨b, eb⟩ : ∃ b, b = cnt (avp Φ f) (Wm h 2629).toNat 0 := ⟨_, rfl⟩
  have ra := smt_rng (p := avp Φ f) (w := avw Φ f) (Wm h 2629).toNat 0 (fun j j0 j1 hj => by
    obtain ⟨u1, u2, u3⟩ := of_decide_eq_true hj
    obtain ⟨p1, p2, p3, _⟩ := hΦ j.toNat (by omega)
    have := p3 f u1 u2
    unfold avw
    omega)
  have rb := cnt_rng (avp Φ f) (Wm h 2629).toNat 0
  rw [← ea, ← eb, Int.zero_add, Int.zero_add] at a1 b1
  rw [← ea] at ra
  rw [← eb] at rb
  have zz : (i32 b = 0) ↔ b = 0 := by rw [i32_z, i32_eq (by omega) (by omega) (by omega) (by omega)]
  by_cases w : b = 0
  · refine ⟨3212836864, g, g', ?_, ?_, RR_up b2 (by omega), by decide +kernel⟩
    · refine Eq.trans a1 ?_
      show (if i32 b = 0 then some ((3212836864 : UInt32), g) else _) = _
      rw [if_pos (zz.mpr w)]
    · refine Eq.trans b1 ?_
      show (if i32 b = 0 then some ((3212836864 : UInt32), g') else _) = _
      rw [if_pos (zz.mpr w)]
  · have nn := nn_div (a := a) (b := b) (by omega) (by omega) (by omega) (by omega)
    refine ⟨FP.fdiv (FP.i2f (i32 a)) (FP.i2f (i32 b)), g, g', ?_, ?_, RR_up b2 (by omega), nn⟩
    · refine Eq.trans a1 ?_
      show (if i32 b = 0 then some ((3212836864 : UInt32), g) else gd (nn32 (FP.fdiv ((FP.i2f (i32 a))) ((FP.i2f (i32 b))))) <| some ((FP.fdiv ((FP.i2f (i32 a))) ((FP.i2f (i32 b)))), g)) = _
      rw [if_neg (fun y => w (zz.mp y)), nn, gd_tt]
    · refine Eq.trans b1 ?_
      show (if i32 b = 0 then some ((3212836864 : UInt32), g') else gd (nn32 (FP.fdiv ((FP.i2f (i32 a))) ((FP.i2f (i32 b))))) <| some ((FP.fdiv ((FP.i2f (i32 a))) ((FP.i2f (i32 b)))), g')) = _
      rw [if_neg (fun y => w (zz.mp y)), nn, gd_tt]
end

