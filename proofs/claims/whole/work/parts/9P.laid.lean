/-! LAID OUT BY BOTH -/
section
variable {h g : HP} {k : Nat}
def So8 (x : Nat) : Prop := x = 114
theorem Kq_S {S : Nat → Prop} (p : So S h g) (w : ∀ x, S x → 109 ≤ x ∧ x < 115) : Kq h g := by
  have s : ∀ x, (x < 109 ∨ 115 ≤ x) → Sm h g x := fun x hx => p.2.2 x (fun z => by have := w x z; omega)
  exact ⟨p.1, StateEq_sm (fun x hx => s x (by have := hx.2; omega)), fun r hr => FormEq_sm (fun x hx => s x (by have := hx.1; omega)), fun i hi => StateEq_sm (fun x hx => s x (by have := hx.1; omega)), ⟨funext (s 1 (by omega)).2.2.2.1, funext (s 104 (by omega)).2.2.2.2.1, (s 0 (by omega)).1 _, (s 0 (by omega)).1 _⟩, fun x x0 x1 => ⟨funext (s x (by omega)).2.2.2.1, funext (s x (by omega)).2.2.2.2.1⟩, fun f _ _ => (s 983 (by omega)).1 f⟩
theorem RR_S {S : Nat → Prop} (R : RR h k) (p : So S h g) (w : ∀ x, S x → 109 ≤ x ∧ x < 115) : RR g k := by
  have er := R.2.2.2.2.2.1
  obtain ⟨np, T, rc, h714, ⟨b, t1, t2, t3, t4, t5⟩, b1, b2, b3⟩ := R.rc
  have s : ∀ x, (x < 109 ∨ 115 ≤ x) → Sm h g x := fun x hx => p.2.2 x (fun z => by have := w x z; omega)
  have z : hsz g = hsz h := by unfold hsz; rw [p.2.1]
  have z' : hsl g = hsl h := by unfold hsl; rw [p.2.1]
  exact RC.rr (RC_k rc (Kq_S p w) (TS2_So p (fun x z => by have := w x z; omega))) (T := T) (by rw [(s 0 (by omega)).1, (s 983 (by omega)).1]; exact er) (by rw [(s 983 (by omega)).1]; exact h714) ⟨b, by rw [(s 0 (by omega)).1]; exact t1, by rw [(s 983 (by omega)).1]; exact t2, t3, TB_e t4 (funext (s 1 (by omega)).2.2.2.1), TB_e t5 (funext (s 984 (by omega)).2.2.2.1)⟩ b1 (by omega) (by omega)
theorem Wm_S {S : Nat → Prop} (p : So S h g) (w : ∀ x, S x → 109 ≤ x ∧ x < 115) : Wm g = Wm h := by funext j; unfold Wm; rw [(p.2.2 987 (fun z => by have := w _ z; omega)).2.2.2.2.1]
theorem Pt_S {S : Nat → Prop} (p : So S h g) (w : ∀ x, S x → 109 ≤ x ∧ x < 115) : Pt g = Pt h := by funext j; unfold Pt; rw [(p.2.2 990 (fun z => by have := w _ z; omega)).2.2.2.1]
theorem z5_S {S : Nat → Prop} (p : So S h g) (w : ∀ x, S x → 109 ≤ x ∧ x < 115) : hA g 985 = hA h 985 := funext (p.2.2 985 (fun z => by have := w _ z; omega)).2.2.2.1
theorem w7 : ∀ x, So7 x → 109 ≤ x ∧ x < 115 := fun x z => by unfold So7 at z; omega
theorem w8 : ∀ x, So8 x → 109 ≤ x ∧ x < 115 := fun x z => by unfold So8 at z; omega
theorem w9 : ∀ x, So9 x → 109 ≤ x ∧ x < 115 := fun x z => by unfold So9 at z; omega
theorem Wm_M7 (p : Mo L7 h g) : Wm g = Wm h := by funext j; unfold Wm; rw [p.L (by decide)]
theorem Pt_M7 (p : Mo L7 h g) : Pt g = Pt h := by funext j; unfold Pt; rw [p.A (by decide)]
theorem RR_M7 (R : RR h k) (p : Mo L7 h g) : RR g k := RR_mo R (by decide) (R.n24.mo p (by decide) (by decide)) p
/-- whether a node has a condition -/
theorem x_cond {a np : Nat} {F : Int → Int} (r : FRx h a F np) {n : Int} (n0 : 0 ≤ n) (n1 : n < 32) (p : F n ≠ -1) : decide (hR h 135 (a + 4 + n.toNat) ≠ none) = decide (0 < F (224 + n)) := by
  have c := (r.cd n0 n1 p).1
  have g := r.sg n n0 n1 p
  have l : (sgm (Pt h) F n).length = (F (224 + n)).toNat := by unfold sgm; rw [List.length_map, List.length_range]
  rcases c with ⟨c1, c2⟩ | ⟨c1, t, c2, c3⟩
  · rw [c1] at l
    simp only [List.length_nil] at l
    rw [decide_eq_false (fun z => z c2), decide_eq_false (by omega)]
  · have : (sgm (Pt h) F n).length ≠ 0 := fun z => c1 (List.eq_nil_of_length_eq_zero z)
    rw [decide_eq_true (by rw [c2]; exact fun z => by cases z), decide_eq_true (by omega)]
/-- a layout of a form -/
def LAYD (F : Int → Int) (L : LYt) : Prop := ∃ (sh ap : Int → Bool) (cols pg : Int), L = lay9 F sh ap cols pg (F 288).toNat 0 0 ly0
theorem laidAt (R : RR h k) (hk : k ≤ 512) {r : Nat} (hr : (r : Int) < Wm h 2628) (pr : Bool) {S : Int → Bool} (up : pr = false → ∀ n, 0 ≤ n → n < 32 → S n = true → Wf (Wm h) (292 * (1 + (r : Int))) n ≠ -1 ∧ (0 ≤ Wf (Wm h) (292 * (1 + (r : Int))) n → S (Wf (Wm h) (292 * (1 + (r : Int))) n) = true)) : ∃ L, LAYD (Wf (Wm h) (292 * (1 + (r : Int)))) L ∧ (∀ g, RR g k → Wm g = Wm h → hA g 985 = hA h 985 → (pr = false → ∀ m, 0 ≤ m → m < 32 → (bt (hI g 512 109) m = true ↔ S m = true)) → ∃ g1, fX1_arrange 111 (some (115 + 36 * r)) (if pr = true then none else some 109) g = some g1 ∧ So So7 g g1 ∧ LYr g1 L) ∧ (∀ g, RR g k → Wm g = Wm h → hA g 985 = hA h 985 → (pr = false → ∀ m, 0 ≤ m → m < 32 → hA g 999 m.toNat = bI (S m)) → ∃ g1, fX11_laysOut 983 pr (i32 (292 * (1 + (r : Int)))) g = some g1 ∧ Mo L7 g g1 ∧ LYm g1 L) := by
  obtain ⟨F, eF⟩ : ∃ F, F = Wf (Wm h) (292 * (1 + (r : Int))) := ⟨_, rfl⟩
  rw [← eF] at up ⊢
  obtain ⟨np, sr, hnp⟩ := R.sr
  have r8 : r < 8 := by have := sr.2.1.2.2; omega
  obtain ⟨zs, zp, zq, d0, d1, d2, ⟨zs0, zs1⟩, ⟨zp0, zp1⟩, zq0, zq1⟩ := R.2.2.2.2.1
  obtain ⟨cols, ec⟩ : ∃ c, c = if pr = true then zp else zs := ⟨_, rfl⟩
  obtain ⟨pg, ep⟩ : ∃ c : Int, c = if pr = true then zq else 0 := ⟨_, rfl⟩
  have c0 : 0 ≤ cols ∧ cols ≤ 60 := by rw [ec]; split <;> omega
  have p0 : 0 ≤ pg ∧ pg ≤ 60 := by rw [ep]; split <;> omega
  have ecF : hA h 985 (if pr = true then 1 else 0) = i32 cols := by
    rw [ec]
    cases pr with
    | true => rw [if_pos rfl, if_pos rfl]; exact d1
    | false => rw [if_neg (by decide), if_neg (by decide)]; exact d0
  have epT : pr = true → hA h 985 2 = i32 pg := fun z => by rw [ep, if_pos z]; exact d2
  have epF : pr = false → pg = 0 := fun z => by rw [ep, if_neg (by rw [z]; decide)]
  refine ⟨lay9 F (fun m => pr || S m) (fun m => pr && decide (0 < F (224 + m))) cols pg (F 288).toNat 0 0 ly0, ⟨_, _, _, _, rfl⟩, fun g Rg eW e5 hS => ?_, fun g Rg eW e5 hS => ?_⟩
  · obtain ⟨npg, srg, hng⟩ := Rg.sr
    have fxg := srg.2.2.2.1 r (by rw [eW]; exact hr)
    rw [eW, ← eF] at fxg
    obtain ⟨_, _, f0, f1, f2⟩ := fxg
    have fxg := srg.2.2.2.1 r (by rw [eW]; exact hr)
    rw [eW, ← eF] at fxg
    refine carrange fxg (Rg.C.rev r8) Rg.C (Or.inr (by omega)) (by omega) pr c0.1 c0.2 p0.1 p0.2 ?_ (fun z => ?_) epF (fun m m0 m1 mp => ?_) (fun m m0 m1 mp => ⟨fun z => ?_, fun z => ?_⟩)
    · rw [← ecF, ← e5]
      cases pr with
      | true => rw [if_pos rfl]; exact f1
      | false => rw [if_neg (by decide)]; exact f0
    · rw [f2, e5]; exact epT z
    · show (pr && decide (0 < F (224 + m))) = _
      rw [x_cond fxg m0 m1 mp]
    · show (pr || S m) = true
      rw [z]; rfl
    · show _ ↔ (pr || S m) = true
      rw [z, Bool.false_or]; exact hS z m m0 m1
  · obtain ⟨npg, srg, hng⟩ := Rg.sr
    have fxg := srg.2.2.2.1 r (by rw [eW]; exact hr)
    rw [eW, ← eF] at fxg
    refine mlaysOut Rg.M (by omega) (by omega) (by rw [eF]; funext q; unfold Fm Wf; rw [eW]) fxg.tr fxg.2.1.1.2.2.1 fxg.kd (fun m m0 m1 mp => ?_) pr c0.1 c0.2 p0.1 p0.2 (by rw [e5]; exact ecF) (fun z => by rw [e5]; exact epT z) epF (fun m m0 m1 mp => rfl) Rg.n24.2 (fun m m0 m1 mp => ?_) (fun m m0 m1 mp z z0 => ?_)
    · have := fxg.sg m m0 m1 mp
      omega
    · show _ = (pr || S m)
      cases pr with
      | true => rw [Bool.true_or, Bool.true_or]
      | false => rw [hS rfl m m0 m1, z2b_bI]
    · show (pr || S (F m)) = true
      have z' : (pr || S m) = true := z
      cases pr with
      | true => rw [Bool.true_or]
      | false =>
        rw [Bool.false_or] at z' ⊢
        exact (up rfl m m0 m1 z').2 z0
/-- laid out by the class -/
def LDc (k : Nat) (pr : Bool) (q : Int) (r : Nat) (L : LYt) (φ : Int → Int) (h : HP) : Prop := ∃ g, fX10_arranged 0 pr (i32 q) h = some (some (115 + 36 * r), g) ∧ RR g k ∧ Wm g = Wm h ∧ Pt g = Pt h ∧ hA g 985 = hA h 985 ∧ LYr g L ∧ (pr = false → VW g φ)
/-- laid out by the model -/
def LDm (k : Nat) (pr : Bool) (q : Int) (L : LYt) (φ : Int → Int) (g : HP) : Prop := ∃ m, fX11_isLaid 983 pr (i32 q) g = some (true, m) ∧ RR m k ∧ Wm m = Wm g ∧ Pt m = Pt g ∧ hA m 985 = hA g 985 ∧ LYm m L ∧ (pr = false → ∀ f, 0 ≤ f → f < 24 → hA m 1000 f.toNat = bI (decide (0 ≤ φ f)))
theorem formLaid_s (M : MS g) {pr : Bool} {q : Int} {r : Nat} (e1 : pr = true → q = (r : Int)) (e2 : pr = false → 0 ≤ q ∧ q < 10 ∧ Wm g (2630 + 25 * q) = (r : Int)) : fX11_formLaid 983 pr (i32 q) g = some (i32 (292 * (1 + (r : Int)))) := by
  unfold fX11_formLaid
  cases pr with
  | true => rw [if_pos rfl, e1 rfl, formOf_s, bn_s]
  | false =>
    obtain ⟨q0, q1, q2⟩ := e2 rfl
    rw [if_neg (by decide), M.o, gd_tt, formBy_s M q0 q1, bn_s, q2]
/-- a layout, by both: none, or one -/
theorem laid (R : RR h k) (hk : k ≤ 512) (pr : Bool) {q : Int} (h1 : -2147483648 ≤ q) (h2 : q < 2147483648) : (fX10_arranged 0 pr (i32 q) h = some (none, h) ∧ fX11_isLaid 983 pr (i32 q) h = some (false, h)) ∨ ∃ (r : Nat) (L : LYt) (φ : Int → Int), (r : Int) < Wm h 2628 ∧ LAYD (Wf (Wm h) (292 * (1 + (r : Int)))) L ∧ (pr = true → q = (r : Int)) ∧ (pr = false → (0 ≤ q ∧ q < 10 ∧ Wm h (2630 + 25 * q) = (r : Int)) ∧ ∀ f, 0 ≤ f → f < 24 → (φ f = -2 ∨ (0 ≤ φ f ∧ φ f ≤ 9999 ∧ φ f = Wm h (2630 + 25 * q + 1 + f)))) ∧ LDc k pr q r L φ h ∧ ∀ g, RR g k → Wm g = Wm h → Pt g = Pt h → hA g 985 = hA h 985 → LDm k pr q L φ g := by
  obtain ⟨np, sr, hnp⟩ := R.sr
  have C := R.C
  have M := R.M
  obtain ⟨_, ⟨y1, y2, y3⟩, ⟨w1, w2, w3⟩, frs, shs⟩ := sr
  have fr := findRev_s C y1 ⟨y2, y3⟩ h1 h2
  have fs := findSheet_s C.st w1 ⟨w2, w3⟩ h1 h2
  cases pr with
  | true =>
    by_cases cr : 0 ≤ q ∧ q < Wm h 2628
    rotate_left
    · left
      constructor
      · unfold fX10_arranged jX10_arranged_16 jX10_arranged_34
        rw [if_pos rfl, if_pos rfl, C.o, gd_tt, fr, bn_s, if_neg cr, on_nn]
      · unfold fX11_isLaid
        rw [if_pos rfl, M.o, gd_tt, isRevision_s M ⟨y2, y3⟩ h1 h2, bn_s, decide_eq_false cr, if_neg (by decide)]
    right
    have eq : ((q.toNat : Nat) : Int) = q := by omega
    obtain ⟨L, l1, lc, lm⟩ := laidAt R hk (r := q.toNat) (by omega) true (S := fun _ => true) (fun z => by cases z)
    refine ⟨q.toNat, L, fun _ => -2, by omega, l1, fun _ => eq.symm, fun z => (by cases z), ?_, fun g Rg eW eP e5 => ?_⟩
    · obtain ⟨g1, a1, a2, a3⟩ := lc h R rfl rfl (fun z => by cases z)
      rw [if_pos rfl] at a1
      refine ⟨g1, ?_, RR_S R a2 w7, Wm_S a2 w7, Pt_S a2 w7, z5_S a2 w7, a3, fun z => by cases z⟩
      unfold fX10_arranged jX10_arranged_16 jX10_arranged_34 jX10_arranged_57 jX10_arranged_75
      rw [if_pos rfl, if_pos rfl, C.o, gd_tt, fr, bn_s, if_pos cr, on_sm, on_nn, gd_tt, on_nn, C.r_layout, oc_s, C.o_layout, gd_tt, a1, bn_s]
    · obtain ⟨g1, a1, a2, a3⟩ := lm g Rg eW e5 (fun z => by cases z)
      refine ⟨g1, ?_, RR_M7 Rg a2, Wm_M7 a2, Pt_M7 a2, a2.A (by decide), a3, fun z => by cases z⟩
      have Mg := Rg.M
      unfold fX11_isLaid jX11_isLaid_25 jX11_isLaid_39
      rw [if_pos rfl, Mg.o, gd_tt, isRevision_s Mg (by rw [eW]; exact ⟨y2, y3⟩) h1 h2, bn_s, eW, decide_eq_true cr, if_pos rfl, if_pos rfl, gd_tt, formLaid_s (r := q.toNat) Mg (fun _ => eq.symm) (fun z => by cases z), bn_s, a1, bn_s]
  | false =>
    by_cases cs : 0 ≤ q ∧ q < Wm h 2629
    rotate_left
    · left
      have fo : fX10_formOf 0 none h = some none := by unfold fX10_formOf; rw [on_nn]
      constructor
      · unfold fX10_arranged jX10_arranged_16 jX10_arranged_34
        rw [if_neg (by decide), C.o, gd_tt, C.r_state, oc_s, C.o_state, gd_tt, fs, bn_s, if_neg cs, if_neg (by decide), gd_tt, fo, bn_s, on_nn]
      · unfold fX11_isLaid
        rw [if_neg (by decide), M.o, gd_tt, isSheet_s M ⟨w2, w3⟩ h1 h2, bn_s, decide_eq_false cs, if_neg (by decide)]
    right
    have eq : ((q.toNat : Nat) : Int) = q := by omega
    obtain ⟨r, e1, e2, e3⟩ := cformOf R (s := q.toNat) (by omega)
    obtain ⟨S, φ, f1, f2, both⟩ := look_base R hk (s := q.toNat) (r := r) (by omega) e2
    obtain ⟨L, l1, lc, lm⟩ := laidAt R hk e2 false (S := S) (fun _ => f2)
    rw [eq] at e1
    refine ⟨r, L, φ, e2, l1, fun z => (by cases z), fun _ => ⟨⟨cs.1, by omega, e1⟩, fun f a b => ?_⟩, ?_, fun g Rg eW eP e5 => ?_⟩
    · rcases f1 f a b with z | z
      · exact Or.inl z
      · rw [eq] at z; exact Or.inr ⟨z.1, z.2.1, z.2.2.1⟩
    · obtain ⟨⟨g, x1, x2, x3, x4, x5, x6⟩, _⟩ := both h R rfl rfl
      obtain ⟨g1, a1, a2, a3⟩ := lc g x3 (Wm_9 x2) (z5_S x2 w9) (fun _ => x4)
      rw [if_neg (by decide)] at a1
      have Cg := x3.C
      refine ⟨g1, ?_, RR_S x3 a2 w7, (Wm_S a2 w7).trans (Wm_9 x2), (Pt_S a2 w7).trans (Pt_9 x2), (z5_S a2 w7).trans (z5_S x2 w9), a3, fun _ => ⟨fun f a b => ?_, x6.2⟩⟩
      · unfold fX10_arranged jX10_arranged_16 jX10_arranged_34 jX10_arranged_57 jX10_arranged_75
        rw [if_neg (by decide), C.o, gd_tt, C.r_state, oc_s, C.o_state, gd_tt, fs, bn_s, if_pos cs, if_neg (by decide), gd_tt, e3, bn_s, on_sm, on_sm, gd_tt, C.r_view, oc_s, C.o_view, gd_tt, x1, bn_s, Cg.o, gd_tt, on_sm, Cg.r_layout, oc_s, Cg.o_layout, gd_tt, Cg.r_view, a1, bn_s]
      · rw [(a2.2.2 110 (fun z => by unfold So7 at z; omega)).2.2.2.1]
        exact x6.1 f a b
    · obtain ⟨_, ⟨g', z1, z2, z3, z4, z5⟩⟩ := both g Rg eW eP
      rw [eq] at z1
      obtain ⟨g1, a1, a2, a3⟩ := lm g' z3 ((Wm_4 z2).trans eW) ((z2.A (by decide)).trans e5) (fun _ => z4)
      refine ⟨g1, ?_, RR_M7 z3 a2, (Wm_M7 a2).trans (Wm_4 z2), (Pt_M7 a2).trans (Pt_4 z2), (a2.A (by decide)).trans (z2.A (by decide)), a3, fun _ f a b => by rw [a2.A (by decide)]; exact z5 f a b⟩
      have Mg := Rg.M
      have M' := z3.M
      have eW' : Wm g' = Wm h := (Wm_4 z2).trans eW
      unfold fX11_isLaid jX11_isLaid_25 jX11_isLaid_39
      rw [if_neg (by decide), Mg.o, gd_tt, isSheet_s Mg (by rw [eW]; exact ⟨w2, w3⟩) h1 h2, bn_s, eW, decide_eq_true cs, if_pos rfl, if_neg (by decide), gd_tt, formBy_s Mg cs.1 (by omega), bn_s, eW, e1, z1, bn_s, M'.o, gd_tt, formLaid_s (r := r) M' (fun z => by cases z) (fun _ => ⟨cs.1, by omega, by rw [eW']; exact e1⟩), bn_s, a1, bn_s]
end

