/-! TALLY -/
section
variable {h g : HP} {k : Nat}
/-- what all sheets show -/
theorem look_all (R : RR h k) (hk : k ≤ 512) : ∃ Φ : Nat → Nat × (Int → Int), ∀ s : Nat, (s : Int) < Wm h 2629 → Wm h (2630 + 25 * (s : Int)) = ((Φ s).1 : Int) ∧ ((Φ s).1 : Int) < Wm h 2628 ∧ (∀ f, 0 ≤ f → f < 24 → ((Φ s).2 f = -2 ∨ (0 ≤ (Φ s).2 f ∧ (Φ s).2 f ≤ 9999 ∧ (Φ s).2 f = Wm h (2630 + 25 * (s : Int) + 1 + f)))) ∧ ∃ S, ∀ g, RR g k → Wm g = Wm h → Pt g = Pt h → LKc k (Φ s).1 s S (Φ s).2 g ∧ LKm k (Φ s).1 s S (Φ s).2 g := by
  have ex : ∀ s : Nat, ∃ x : Nat × (Int → Int), (s : Int) < Wm h 2629 → Wm h (2630 + 25 * (s : Int)) = (x.1 : Int) ∧ (x.1 : Int) < Wm h 2628 ∧ (∀ f, 0 ≤ f → f < 24 → (x.2 f = -2 ∨ (0 ≤ x.2 f ∧ x.2 f ≤ 9999 ∧ x.2 f = Wm h (2630 + 25 * (s : Int) + 1 + f)))) ∧ ∃ S, ∀ g, RR g k → Wm g = Wm h → Pt g = Pt h → LKc k x.1 s S x.2 g ∧ LKm k x.1 s S x.2 g := fun s => by
    by_cases c : (s : Int) < Wm h 2629
    · obtain ⟨r, e1, e2, _⟩ := cformOf R c
      obtain ⟨S, φ, f1, f2, both⟩ := look_base R hk c e2
      exact ⟨(r, φ), fun _ => ⟨e1, e2, fun f f0 f1' => (f1 f f0 f1').imp id fun z => ⟨z.1, z.2.1, z.2.2.1⟩, S, both⟩⟩
    · exact ⟨(0, fun _ => 0), fun z => absurd z c⟩
  exact Classical.skolem.mp ex
theorem force_s {φ : Int → Int} (C : CS g) (v : VW g φ) {f : Int} (h1 : -2147483648 ≤ f) (h2 : f < 2147483648) : fX8_force 109 (i32 f) g = some (i32 (if 0 ≤ f ∧ f < 24 then φ f else -2)) := by
  by_cases c : 0 ≤ f ∧ f < 24
  · rw [if_pos c]; exact cforce C v c.1 c.2
  · rw [if_neg c]
    unfold fX8_force
    by_cases d : f < 0
    · rw [if_pos (by rw [i32_z, i32_lt (by omega) (by omega) (by omega) (by omega)]; exact d)]
    · rw [if_neg (by rw [i32_z, i32_lt (by omega) (by omega) (by omega) (by omega)]; exact d), if_pos (by rw [i32_le (by omega) (by omega) (by omega) (by omega)]; omega)]
/-- whether a sheet counts -/
def tlp (Φ : Nat → Nat × (Int → Int)) (f : Int) (v : Int32) (i : Int) : Bool := decide (0 ≤ f ∧ f < 24 ∧ 0 ≤ (Φ i.toNat).2 f ∧ i32 ((Φ i.toNat).2 f) = v)
theorem rd_tally (R : RR h k) (hk : k ≤ 512) (q1 v : Int32) : ∃ o g g', fX10_tally 0 q1 v h = some (o, g) ∧ fX11_tally 983 q1 v g = some (o, g') ∧ RR g' (k + 1) := by
  obtain ⟨f, h1, h2, rfl⟩ := i32_ex q1
  obtain ⟨np, sr, hnp⟩ := R.sr
  have w2 := sr.2.2.1.2
  obtain ⟨Φ, hΦ⟩ := look_all R hk
  -- the class
  have cl : ∀ (j n : Nat) (c i : Int) (g : HP), i + j = Wm h 2629 → 0 ≤ i → j < n → RR g k → Wm g = Wm h → Pt g = Pt h → ∃ g', lX10_tally_5 n 0 (i32 f) v (i32 c) (i32 i) g = some (i32 (c + cnt (tlp Φ f v) j i), g') ∧ RR g' k ∧ Wm g' = Wm h ∧ Pt g' = Pt h := by
    intro j
    induction j with
    | zero =>
      intro n c i g e i0 hn Rg eW eP
      obtain ⟨n, rfl⟩ : ∃ x, n = x + 1 := ⟨n - 1, by omega⟩
      have C := Rg.C
      obtain ⟨_, srg, _⟩ := Rg.sr
      have e322 := srg.2.2.1.1
      rw [eW] at e322
      refine ⟨g, ?_, Rg, eW, eP⟩
      rw [elX10_tally_5]; unfold bX10_tally_5
      rw [C.o, gd_tt, C.r_state, oc_s, C.o_state, gd_tt, e322, if_pos (by rw [i32_le (by omega) (by omega) (by omega) (by omega)]; omega)]
      simp only [cnt, Int.add_zero]
    | succ j ih =>
      intro n c i g e i0 hn Rg eW eP
      obtain ⟨n, rfl⟩ : ∃ x, n = x + 1 := ⟨n - 1, by omega⟩
      have C := Rg.C
      obtain ⟨_, srg, _⟩ := Rg.sr
      have e322 := srg.2.2.1.1
      rw [eW] at e322
      obtain ⟨p1, p2, p3, S, both⟩ := hΦ i.toNat (by omega)
      obtain ⟨⟨g1, x1, x2, x3, x4, x5, x6⟩, _⟩ := both g Rg eW eP
      have ei : ((i.toNat : Nat) : Int) = i := by omega
      rw [ei] at p1
      have at' := (clookAt Rg (s := i) (by omega) (by omega)).2 (Φ i.toNat).1 i0 (by rw [eW]; omega) (by rw [eW]; exact p1)
      rw [x1, bn_s] at at'
      have C1 := x3.C
      have fo := force_s C1 x6 h1 h2
      have nx : ∀ c', jX10_tally_52 (fun v0 v1 v2 v3 v4 h => lX10_tally_5 n v0 v1 v2 v3 v4 h) 0 (i32 f) v (i32 c') (i32 i) g1 = lX10_tally_5 n 0 (i32 f) v (i32 c') (i32 (i + 1)) g1 := fun c' => by
        unfold jX10_tally_52
        rw [lt_e, i32_add]
      have eW1 := (Wm_9 x2).trans eW
      have eP1 := (Pt_9 x2).trans eP
      have hd : ∀ r, (if i32 (if 0 ≤ f ∧ f < 24 then (Φ i.toNat).2 f else -2) < 0 then lX10_tally_5 n 0 (i32 f) v (i32 c) (i32 (i + 1)) g1 else if i32 (if 0 ≤ f ∧ f < 24 then (Φ i.toNat).2 f else -2) = v then lX10_tally_5 n 0 (i32 f) v (i32 (c + 1)) (i32 (i + 1)) g1 else lX10_tally_5 n 0 (i32 f) v (i32 c) (i32 (i + 1)) g1) = r → lX10_tally_5 (n + 1) 0 (i32 f) v (i32 c) (i32 i) g = r := fun r hr => by
        rw [elX10_tally_5]; unfold bX10_tally_5
        rw [C.o, gd_tt, C.r_state, oc_s, C.o_state, gd_tt, e322, if_neg (by rw [i32_le (by omega) (by omega) (by omega) (by omega)]; omega), at', bn2_s, if_pos rfl, C1.o, gd_tt, C1.r_view, oc_s, C1.o_view, gd_tt, fo, bn_s, bn_s, i32_add, lt_e, nx, nx]
        exact hr
      simp only [cnt]
      by_cases t : tlp Φ f v i = true
      · obtain ⟨g', y1, y2⟩ := ih n (c + 1) (i + 1) g1 (by omega) (by omega) (by omega) x3 eW1 eP1
        refine ⟨g', ?_, y2⟩
        rw [if_pos t, ← Int.add_assoc]
        obtain ⟨u1, u2, u3, u4⟩ := of_decide_eq_true t
        refine hd _ ?_
        have r0 := p3 f u1 u2
        rw [if_pos (show 0 ≤ f ∧ f < 24 from ⟨u1, u2⟩), if_neg (by rw [i32_z, i32_lt (by omega) (by omega) (by omega) (by omega)]; omega), if_pos u4]
        exact y1
      · obtain ⟨g', y1, y2⟩ := ih n c (i + 1) g1 (by omega) (by omega) (by omega) x3 eW1 eP1
        refine ⟨g', ?_, y2⟩
        rw [if_neg t, Int.zero_add]
        refine hd _ ?_
        by_cases d : 0 ≤ f ∧ f < 24
        · have r0 := p3 f d.1 d.2
          rw [if_pos d]
          by_cases w : (Φ i.toNat).2 f < 0
          · rw [if_pos (by rw [i32_z, i32_lt (by omega) (by omega) (by omega) (by omega)]; exact w)]
            exact y1
          · rw [if_neg (by rw [i32_z, i32_lt (by omega) (by omega) (by omega) (by omega)]; exact w), if_neg (fun z => t (decide_eq_true ⟨d.1, d.2, by omega, z⟩))]
            exact y1
        · rw [if_neg d, if_pos (show i32 (-2) < 0 by decide)]
          exact y1
  -- the model
  have ml : ∀ (j n : Nat) (c i : Int) (g : HP), i + j = Wm h 2629 → 0 ≤ i → j < n → RR g k → Wm g = Wm h → Pt g = Pt h → ∃ g', lX11_tally_5 n 983 (i32 f) v (i32 c) (i32 i) g = some (i32 (c + cnt (tlp Φ f v) j i), g') ∧ RR g' k := by
    intro j
    induction j with
    | zero =>
      intro n c i g e i0 hn Rg eW eP
      obtain ⟨n, rfl⟩ : ∃ x, n = x + 1 := ⟨n - 1, by omega⟩
      have M := Rg.M
      refine ⟨g, ?_, Rg⟩
      rw [elX11_tally_5]; unfold bX11_tally_5
      rw [M.o, gd_tt, sheets_s M, bn_s, eW, if_pos (by rw [i32_le (by omega) (by omega) (by omega) (by omega)]; omega)]
      simp only [cnt, Int.add_zero]
    | succ j ih =>
      intro n c i g e i0 hn Rg eW eP
      obtain ⟨n, rfl⟩ : ∃ x, n = x + 1 := ⟨n - 1, by omega⟩
      have M := Rg.M
      by_cases d : 0 ≤ f ∧ f ≤ 23
      rotate_left
      · refine ⟨g, ?_, Rg⟩
        have z : cnt (tlp Φ f v) (j + 1) i = 0 := cnt_ff (j + 1) i (fun q a b => decide_eq_false (fun y => d ⟨y.1, by omega⟩))
        rw [elX11_tally_5]; unfold bX11_tally_5
        rw [M.o, gd_tt, sheets_s M, bn_s, eW, if_neg (by rw [i32_le (by omega) (by omega) (by omega) (by omega)]; omega), in_s h1 h2 (by omega) (by omega) (by omega) (by omega), bn_s, decide_eq_false d, if_neg (by decide), z, Int.add_zero]
      obtain ⟨p1, p2, p3, S, both⟩ := hΦ i.toNat (by omega)
      obtain ⟨_, ⟨g1, x1, x2, x3, x4, x5⟩⟩ := both g Rg eW eP
      have ei : ((i.toNat : Nat) : Int) = i := by omega
      rw [ei] at p1 p3 x1
      have M1 := x3.M
      have eW1 := (Wm_4 x2).trans eW
      have eP1 := (Pt_4 x2).trans eP
      have nx : ∀ (b : Bool), jX11_tally_62 (fun v0 v1 v2 v3 v4 h => lX11_tally_5 n v0 v1 v2 v3 v4 h) 983 (i32 f) v (i32 i) b (i32 c) g1 = lX11_tally_5 n 983 (i32 f) v (i32 c + bI b) (i32 (i + 1)) g1 := fun b => by
        unfold jX11_tally_62
        rw [lt_e, lt_e, i32_add]
      have r0 := p3 f d.1 (by omega)
      have hd : ∀ r, (if bI (decide (0 ≤ (Φ i.toNat).2 f)) = 0 then lX11_tally_5 n 983 (i32 f) v (i32 c + bI false) (i32 (i + 1)) g1 else if i32 (Wm h (2630 + 25 * i + 1 + f)) = v then lX11_tally_5 n 983 (i32 f) v (i32 c + bI true) (i32 (i + 1)) g1 else lX11_tally_5 n 983 (i32 f) v (i32 c + bI false) (i32 (i + 1)) g1) = r → lX11_tally_5 (n + 1) 983 (i32 f) v (i32 c) (i32 i) g = r := fun r hr => by
        rw [elX11_tally_5]; unfold bX11_tally_5 jX11_tally_61
        rw [M.o, gd_tt, sheets_s M, bn_s, eW, if_neg (by rw [i32_le (by omega) (by omega) (by omega) (by omega)]; omega), in_s h1 h2 (by omega) (by omega) (by omega) (by omega), bn_s, decide_eq_true d, if_pos rfl, formBy_s M i0 (by omega), bn_s, eW, p1, x1, bn_s, M1.o, gd_tt, M1.r_forced, oc_s, M1.o_forced, gd_tt, M1.n_forced, i32_inb d.1 (by omega) (by omega), gd_tt, i32_cn d.1 (by omega), x5 f d.1 (by omega), answerAt_s M1 i0 (by omega) d.1 (by omega), bn_s, eW1, nx, nx]
        exact hr
      simp only [cnt]
      by_cases t : tlp Φ f v i = true
      · obtain ⟨g', y1, y2⟩ := ih n (c + 1) (i + 1) g1 (by omega) (by omega) (by omega) x3 eW1 eP1
        refine ⟨g', ?_, y2⟩
        rw [if_pos t, ← Int.add_assoc]
        obtain ⟨u1, u2, u3, u4⟩ := of_decide_eq_true t
        refine hd _ ?_
        have r1 : (Φ i.toNat).2 f = Wm h (2630 + 25 * i + 1 + f) := by
          rcases r0 with z | z
          · omega
          · exact z.2.2
        rw [decide_eq_true u3, if_neg (show ¬ bI true = 0 by decide), ← r1, if_pos u4, bI_tt, i32_add]
        exact y1
      · obtain ⟨g', y1, y2⟩ := ih n c (i + 1) g1 (by omega) (by omega) (by omega) x3 eW1 eP1
        refine ⟨g', ?_, y2⟩
        rw [if_neg t, Int.zero_add]
        refine hd _ ?_
        have c0 : i32 c + bI false = i32 c := by rw [bI_ff, i32_add, Int.add_zero]
        rcases r0 with z | z
        · rw [decide_eq_false (by omega), if_pos (show bI false = 0 from rfl), c0]
          exact y1
        · rw [decide_eq_true z.1, if_neg (show ¬ bI true = 0 by decide), ← z.2.2, if_neg (fun y => t (decide_eq_true ⟨d.1, by omega, z.1, y⟩)), c0]
          exact y1
  obtain ⟨g, a1, a2, a3, a4⟩ := cl (Wm h 2629).toNat FU 0 0 h (by omega) (by omega) (by have : FU = 1000000 := rfl; omega) R rfl rfl
  obtain ⟨g', b1, b2⟩ := ml (Wm h 2629).toNat FU 0 0 g (by omega) (by omega) (by have : FU = 1000000 := rfl; omega) a2 a3 a4
  exact ⟨_, g, g', a1, b1, RR_up b2 (by omega)⟩
end

