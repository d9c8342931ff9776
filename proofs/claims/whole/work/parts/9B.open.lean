/-! WHAT A SHEET SHOWS, WHENEVER ONE LOOKS -/
section
variable {h g : HP} {k : Nat}
theorem RR_9' (R : RR h k) (p : So So9 h g) : RR g k := by
  have er := R.2.2.2.2.2.1
  obtain ⟨np, T, rc, h714, ⟨b, t1, t2, t3, t4, t5⟩, b1, b2, b3⟩ := R.rc
  have s : ∀ x, (x < 109 ∨ 111 ≤ x) → Sm h g x := fun x hx => p.2.2 x (fun z => by unfold So9 at z; omega)
  have z : hsz g = hsz h := by unfold hsz; rw [p.2.1]
  have z' : hsl g = hsl h := by unfold hsl; rw [p.2.1]
  exact RC.rr (RC_k rc (Kq_9 p) (TS2_So p (fun x z => by unfold So9 at z; omega))) (T := T) (by rw [(s 0 (by omega)).1, (s 983 (by omega)).1]; exact er) (by rw [(s 983 (by omega)).1]; exact h714) ⟨b, by rw [(s 0 (by omega)).1]; exact t1, by rw [(s 983 (by omega)).1]; exact t2, t3, TB_e t4 (funext (s 1 (by omega)).2.2.2.1), TB_e t5 (funext (s 984 (by omega)).2.2.2.1)⟩ b1 (by omega) (by omega)
theorem Wm_9 (p : So So9 h g) : Wm g = Wm h := by funext j; unfold Wm; rw [(p.2.2 987 (fun z => by unfold So9 at z; omega)).2.2.2.2.1]
theorem Pt_9 (p : So So9 h g) : Pt g = Pt h := by funext j; unfold Pt; rw [(p.2.2 990 (fun z => by unfold So9 at z; omega)).2.2.2.1]
theorem Pt_4 (p : Mo L4 h g) : Pt g = Pt h := by funext j; unfold Pt; rw [p.A (by decide)]
theorem Wm_4 (p : Mo L4 h g) : Wm g = Wm h := by funext j; unfold Wm; rw [p.L (by decide)]
theorem RR_4 (R : RR h k) (p : Mo L4 h g) {S : Int → Bool} (a : ∀ m, 0 ≤ m → m < 32 → hA g 999 m.toNat = bI (S m)) : RR g k := RR_mo R (by decide) (R.n24.l (p.A (by decide)) a) p
/-- what the class sees -/
def LKc (k r s : Nat) (S : Int → Bool) (φ : Int → Int) (g : HP) : Prop := ∃ g1, fX8_look 109 (some (115 + 36 * r)) (some (2 + 38 + 2 * s)) g = some g1 ∧ So So9 g g1 ∧ RR g1 k ∧ (∀ m, 0 ≤ m → m < 32 → (bt (hI g1 512 109) m = true ↔ S m = true)) ∧ (∀ m, 0 ≤ m → m < 32 → (bt (hI g1 513 109) m = true ↔ (m < 24 ∧ 0 ≤ φ m))) ∧ VW g1 φ
/-- what the model sees -/
def LKm (k r s : Nat) (S : Int → Bool) (φ : Int → Int) (g : HP) : Prop := ∃ g1, fX11_laysShown 983 (i32 (292 * (1 + (r : Int)))) (i32 (s : Int)) g = some g1 ∧ Mo L4 g g1 ∧ RR g1 k ∧ (∀ m, 0 ≤ m → m < 32 → hA g1 999 m.toNat = bI (S m)) ∧ ∀ f, 0 ≤ f → f < 24 → hA g1 1000 f.toNat = bI (decide (0 ≤ φ f))
theorem look_base (R : RR h k) (hk : k ≤ 512) {s r : Nat} (hs : (s : Int) < Wm h 2629) (hr : (r : Int) < Wm h 2628) : ∃ S φ, (∀ f, 0 ≤ f → f < 24 → (φ f = -2 ∨ (0 ≤ φ f ∧ φ f ≤ 9999 ∧ φ f = Wm h (2630 + 25 * (s : Int) + 1 + f) ∧ S f = true))) ∧ (∀ n, 0 ≤ n → n < 32 → S n = true → Wf (Wm h) (292 * (1 + (r : Int))) n ≠ -1 ∧ (0 ≤ Wf (Wm h) (292 * (1 + (r : Int))) n → S (Wf (Wm h) (292 * (1 + (r : Int))) n) = true)) ∧ (∀ g, RR g k → Wm g = Wm h → Pt g = Pt h → LKc k r s S φ g ∧ LKm k r s S φ g) := by
  obtain ⟨np, sr, hnp⟩ := R.sr
  obtain ⟨F, eF⟩ : ∃ F, F = Wf (Wm h) (292 * (1 + (r : Int))) := ⟨_, rfl⟩
  obtain ⟨A, eA⟩ : ∃ A : Int → Int, A = fun f => Wm h (2630 + 25 * (s : Int) + 1 + f) := ⟨_, rfl⟩
  have fx := sr.2.2.2.1 r hr
  have shr := sr.2.2.2.2 s hs
  rw [← eF] at fx
  have fw : FWf F (cns h F) np := fx.2.1
  have an : ∀ f, 0 ≤ f → f < 24 → (A f = -2 ∨ (0 ≤ A f ∧ A f ≤ 9999)) := fun f f0 f1 => by rw [eA]; exact (shr.2.2.2 f f0 f1).2
  -- the class on any of these heaps
  have cl : ∀ g, RR g k → Wm g = Wm h → Pt g = Pt h → ∃ g1 φ, fX8_look 109 (some (115 + 36 * r)) (some (2 + 38 + 2 * s)) g = some g1 ∧ So So9 g g1 ∧ VW g1 φ ∧ SOL F (cns h F) A φ ∧ (∀ m, 0 ≤ m → m < 32 → (bt (hI g1 512 109) m = true ↔ (F m ≠ -1 ∧ sho F (cnd φ (cns h F)) 9 m = true))) ∧ ∀ m, 0 ≤ m → m < 32 → (bt (hI g1 513 109) m = true ↔ (m < 24 ∧ 0 ≤ φ m)) := fun g Rg eW eP => by
    obtain ⟨npg, srg, _⟩ := Rg.sr
    obtain ⟨np0, T0, rc, h714, tp, b1, b2, b3⟩ := Rg.rc
    have fxg := srg.2.2.2.1 r (by rw [eW]; exact hr)
    rw [eW, ← eF] at fxg
    have shg := srg.2.2.2.2 s (by rw [eW]; exact hs)
    rw [eW] at shg
    have ec : cns g F = cns h F := by unfold cns; rw [eP]
    have s10 : s < 10 := by have := sr.2.2.1.2.2; omega
    have r8 : r < 8 := by have := sr.2.1.2.2; omega
    obtain ⟨g1, φ, x1, x2, x3, x4, x5, x6⟩ := clook fxg (Rg.C.rev r8) Rg.C (b := 2 + 38 + 2 * s) (A := A) ⟨Rg.C.st.sh s10, fun f f0 f1 => by rw [eA]; exact shg.2.2.2 f f0 f1⟩ (by omega) (Or.inr (by omega)) (by omega) (Or.inl (by omega))
    rw [ec] at x4 x5
    exact ⟨g1, φ, x1, x2, x3, x4, x5, x6⟩
  obtain ⟨_, φ, _, _, _, so, _, _⟩ := cl h R rfl rfl
  have same : ∀ ψ, SOL F (cns h F) A ψ → (∀ f, 0 ≤ f → f < 24 → ψ f = φ f) ∧ ∀ n, 0 ≤ n → n < 32 → F n ≠ -1 → sho F (cnd ψ (cns h F)) 9 n = sho F (cnd φ (cns h F)) 9 n := fun ψ sψ => by
    have eq := SOL_u fw sψ so
    refine ⟨eq, fun n n0 n1 p => sho_congr 9 n fun m m0 hm => ?_⟩
    have th := isin_there fx.tr.tv m0 9 n (Or.inr ⟨n0, n1, p⟩) hm
    unfold cnd rv
    rw [rpn_congr (cns h F m) [] (fun u hu ut => ?_)]
    rcases fx.tk m m0 th.1 th.2 u hu with ⟨f', s', v, c1, c2, c3, c4, c5, c6, c7, rfl⟩ | z | z | z
    · obtain ⟨d1, _, _⟩ := dec_tcd c1 c2 c4 c5 c6 c7
      rw [d1]; exact eq f' c1 c2
    · rw [z] at ut; exact absurd ut (by decide)
    · rw [z] at ut; exact absurd ut (by decide)
    · rw [z] at ut; exact absurd ut (by decide)
  refine ⟨fun n => decide (F n ≠ -1) && sho F (cnd φ (cns h F)) 9 n, φ, fun f f0 f1 => ?_, fun n n0 n1 hn => ?_, fun g Rg eW eP => ⟨?_, ?_⟩⟩
  · by_cases p : F f = -1
    · exact Or.inl ((so f f0 f1).2 p)
    · have e := (so f f0 f1).1 p
      unfold fvl at e
      by_cases c : sho F (cnd φ (cns h F)) 9 f = true ∧ A f ≠ -2 ∧ F (96 + f) ≤ A f ∧ A f ≤ F (128 + f)
      · rw [if_pos c] at e
        have c2 := c.2.1
        have r0 := an f f0 f1
        right
        refine ⟨by omega, by omega, by rw [e, eA], ?_⟩
        show (decide (F f ≠ -1) && sho F (cnd φ (cns h F)) 9 f) = true
        rw [decide_eq_true (show F f ≠ -1 from p), Bool.true_and]; exact c.1
      · rw [if_neg c] at e; exact Or.inl e
  · rw [Bool.and_eq_true, decide_eq_true_eq] at hn
    obtain ⟨hn1, hn2⟩ := hn
    refine ⟨by rw [← eF]; exact hn1, fun q0 => ?_⟩
    rw [← eF] at q0 ⊢
    have th : 24 ≤ F n ∧ F n < 32 ∧ F (F n) ≠ -1 := by
      rcases fx.tr.tv.grp n0 n1 hn1 with z | z
      · omega
      · exact z
    have hn3 : (if 0 ≤ n then cnd φ (cns h F) n && sho F (cnd φ (cns h F)) 8 (F n) else true) = true := hn2
    rw [if_pos n0, Bool.and_eq_true] at hn3
    show (decide (F (F n) ≠ -1) && sho F (cnd φ (cns h F)) 9 (F n)) = true
    rw [decide_eq_true th.2.2, Bool.true_and, sho_ends (fx.tr.ce (F n) (by omega) th.2.1) (show 8 ≤ 9 by omega)]
    exact hn3.2
  · obtain ⟨g1, ψ, x1, x2, x3, x4, x5, x6⟩ := cl g Rg eW eP
    obtain ⟨eq, sm⟩ := same ψ x4
    refine ⟨g1, x1, x2, RR_9' Rg x2, fun m m0 m1 => ?_, fun m m0 m1 => ?_, fun f f0 f1 => by rw [← eq f f0 f1]; exact x3.1 f f0 f1, fun f f0 f1 => by rw [← eq f f0 f1]; exact x3.2 f f0 f1⟩
    · rw [x5 m m0 m1, Bool.and_eq_true, decide_eq_true_eq]
      constructor
      · rintro ⟨z1, z2⟩; exact ⟨z1, by rw [← sm m m0 m1 z1]; exact z2⟩
      · rintro ⟨z1, z2⟩; exact ⟨z1, by rw [sm m m0 m1 z1]; exact z2⟩
    · rw [x6 m m0 m1]
      constructor
      · rintro ⟨z1, z2⟩; exact ⟨z1, by rw [← eq m m0 z1]; exact z2⟩
      · rintro ⟨z1, z2⟩; exact ⟨z1, by rw [eq m m0 z1]; exact z2⟩
  · obtain ⟨npg, srg, hng⟩ := Rg.sr
    have fxg := srg.2.2.2.1 r (by rw [eW]; exact hr)
    rw [eW, ← eF] at fxg
    have ec : cns g F = cns h F := by unfold cns; rw [eP]
    have s10 : (s : Int) < 10 := by have := sr.2.2.1.2.2; omega
    have r8 : (r : Int) < 8 := by have := sr.2.1.2.2; omega
    have fm : FMs g F A (cns h F) (292 * (1 + (r : Int))) (s : Int) := by
      refine ⟨Rg.M, ⟨by omega, by omega⟩, ⟨by omega, by omega⟩, ?_, fun n => by rw [eP]; rfl, fun n n0 n1 p => ⟨?_, ?_⟩, fun f f0 f1 => ⟨by rw [eW, eA], an f f0 f1⟩⟩
      · rw [eF]; funext j; unfold Fm Wf; rw [eW]
      · have := fxg.sg n n0 n1 p
        exact ⟨this.1, this.2.1, by omega⟩
      · have cd := fxg.cd n0 n1 p
        have e : sgm (Pt g) F n = cns h F n := by rw [eP]; rfl
        rw [e] at cd
        rcases cd.1 with ⟨z, _⟩ | ⟨_, u, _, w⟩
        · exact Or.inl z
        · exact Or.inr (GLt_of 15 1008 (hsz g) u _ w)
    obtain ⟨g1, ψ, x1, x2, x3, x4, x5, x6⟩ := mlook fm fw
    obtain ⟨eq, sm⟩ := same ψ x3
    refine ⟨g1, x1, x2, RR_4 Rg x2 x4, fun m m0 m1 => ?_, fun f f0 f1 => by rw [x5 f f0 f1, eq f f0 f1]⟩
    rw [x4 m m0 m1]
    congr 1
    show _ = (decide (F m ≠ -1) && sho F (cnd φ (cns h F)) 9 m)
    by_cases p : F m ≠ -1
    · rw [sm m m0 m1 p]
    · rw [decide_eq_false p, Bool.false_and, Bool.false_and]
/-- the class finds the form of a sheet -/
theorem cformOf (R : RR h k) {s : Nat} (hs : (s : Int) < Wm h 2629) : ∃ r : Nat, Wm h (2630 + 25 * (s : Int)) = (r : Int) ∧ (r : Int) < Wm h 2628 ∧ fX10_formOf 0 (some (2 + 38 + 2 * s)) h = some (some (115 + 36 * r)) := by
  obtain ⟨np, sr, hnp⟩ := R.sr
  have C := R.C
  obtain ⟨_, ⟨y1, y2, y3⟩, ⟨w1, w2, w3⟩, frs, shs⟩ := sr
  obtain ⟨z1, z2, z3, _⟩ := shs s hs
  refine ⟨(Wm h (2630 + 25 * (s : Int))).toNat, by omega, by omega, ?_⟩
  unfold fX10_formOf
  rw [on_sm, (C.st.sh (show s < 10 by omega)).o, gd_tt, C.o, gd_tt, z1, findRev_s C y1 ⟨y2, y3⟩ (by omega) (by omega), bn_s, if_pos ⟨z2, z3⟩]
theorem clookAt (R : RR h k) {s : Int} (h1 : -2147483648 ≤ s) (h2 : s < 2147483648) : (¬ (0 ≤ s ∧ s < Wm h 2629) → fX10_lookAt 0 (i32 s) h = some (false, h)) ∧ (∀ r : Nat, 0 ≤ s → s < Wm h 2629 → Wm h (2630 + 25 * s) = (r : Int) → fX10_lookAt 0 (i32 s) h = bn (fX8_look 109 (some (115 + 36 * r)) (some (2 + 38 + 2 * s.toNat)) h) fun h17 => some (true, h17)) := by
  obtain ⟨np, sr, hnp⟩ := R.sr
  have C := R.C
  obtain ⟨_, ⟨y1, y2, y3⟩, ⟨w1, w2, w3⟩, frs, shs⟩ := sr
  have fs := findSheet_s C.st w1 ⟨w2, w3⟩ h1 h2
  refine ⟨fun cs => ?_, fun r s0 s1 e => ?_⟩
  · unfold fX10_lookAt
    have fo : fX10_formOf 0 none h = some none := by unfold fX10_formOf; rw [on_nn]
    rw [C.o, gd_tt, C.r_state, oc_s, C.o_state, gd_tt, fs, bn_s, if_neg cs, fo, bn_s, on_nn]
  · obtain ⟨r', e1, e2, e3⟩ := cformOf R (s := s.toNat) (by omega)
    rw [show ((s.toNat : Nat) : Int) = s by omega, e] at e1
    have : r' = r := by omega
    rw [this] at e3
    unfold fX10_lookAt
    rw [C.o, gd_tt, C.r_state, oc_s, C.o_state, gd_tt, fs, bn_s, if_pos ⟨s0, s1⟩, e3, bn_s, on_sm, on_sm, C.r_view, oc_s, C.o_view, gd_tt]
theorem bt_24 {i : Int} (i0 : 0 ≤ i) (i1 : i < 32) : bt (i32 16777215) i = decide (i < 24) := by
  have w : ∀ n : Fin 32, bt (i32 16777215) (n.val : Int) = decide ((n.val : Int) < 24) := by decide +kernel
  have := w ⟨i.toNat, by omega⟩
  rwa [show ((i.toNat : Nat) : Int) = i by omega] at this
theorem rd_open (R : RR h k) (hk : k ≤ 512) (q1 : Int32) : ∃ o g g', fX10_open 0 q1 h = some (o, g) ∧ fX11_open 983 q1 g = some (o, g') ∧ RR g' (k + 1) := by
  obtain ⟨s, h1, h2, rfl⟩ := i32_ex q1
  obtain ⟨np, sr, hnp⟩ := R.sr
  have C := R.C
  have M := R.M
  have w2 := sr.2.2.1.2
  have y2 := sr.2.1.2
  have R' := RR_up R (show k ≤ k + 1 by omega)
  obtain ⟨a1, a2⟩ := clookAt R h1 h2
  by_cases cs : 0 ≤ s ∧ s < Wm h 2629
  rotate_left
  · refine ⟨i32 (-1), h, h, ?_, ?_, R'⟩
    · unfold fX10_open
      rw [C.o, gd_tt, a1 cs, bn2_s, if_neg (by decide)]
    · unfold fX11_open
      rw [M.o, gd_tt, isSheet_s M w2 h1 h2, bn_s, decide_eq_false cs, if_neg (by decide)]
  obtain ⟨r, e1, e2, _⟩ := cformOf R (s := s.toNat) (by omega)
  have es : ((s.toNat : Nat) : Int) = s := by omega
  obtain ⟨S, φ, f1, f2, both⟩ := look_base R hk (s := s.toNat) (r := r) (by omega) e2
  obtain ⟨⟨g, x1, x2, x3, x4, x5, x6⟩, _⟩ := both h R rfl rfl
  obtain ⟨_, ⟨g', z1, z2, z3, z4, z5⟩⟩ := both g x3 (Wm_9 x2) (Pt_9 x2)
  have Cg := x3.C
  have Mg := x3.M
  have M' := z3.M
  rw [es] at e1 z1
  have eW := Wm_9 x2
  have cm := mskL (L := fun n c i => lX11_open_24 n 983 c i g') (b := fun c => some (c, g')) (p := fun f => S f && !decide (0 ≤ φ f)) (fun m c' i i0 i1 => by
    show lX11_open_24 (m + 1) 983 c' (i32 i) g' = if i < 24 then lX11_open_24 m 983 _ _ g' else _
    rw [elX11_open_24]; unfold bX11_open_24
    by_cases d : 24 ≤ i
    · rw [if_pos (by rw [i32_le (by omega) (by omega) (by omega) (by omega)]; exact d), if_neg (by omega)]
    rw [if_neg (by rw [i32_le (by omega) (by omega) (by omega) (by omega)]; exact d), if_pos (show i < 24 by omega), M'.o, gd_tt, M'.r_shown, oc_s, M'.o_shown, gd_tt, M'.n_shown, i32_inb i0 (by omega) (by omega), gd_tt, i32_cn i0 (by omega), z4 i i0 (by omega)]
    unfold jX11_open_55 jX11_open_56
    cases q : S i with
    | false => rw [if_pos (show bI false = 0 from rfl), or_0, lt_e, lt_e, i32_add, Bool.false_and, if_neg (by decide)]
    | true =>
      rw [if_neg (show ¬ bI true = 0 by decide), M'.r_forced, oc_s, M'.o_forced, gd_tt, M'.n_forced, i32_inb i0 (by omega) (by omega), gd_tt, z5 i i0 (by omega), Bool.true_and]
      by_cases w : 0 ≤ φ i
      · rw [decide_eq_true w, if_neg (show ¬ bI true = 0 by decide), or_0, lt_e, lt_e, i32_add, if_neg (by decide)]
      · rw [decide_eq_false w, if_pos (show bI false = 0 from rfl), lt_e, lt_e, i32_add, if_pos (by decide)]) 24 FU (i32 0) 0 (by omega) (by omega) (by decide)
  refine ⟨fmk (fun f => S f && !decide (0 ≤ φ f)) 24 0 (i32 0), g, g', ?_, ?_, RR_up z3 (by omega)⟩
  · unfold fX10_open
    rw [C.o, gd_tt, a2 r cs.1 cs.2 e1, x1, bn_s, bn2_s, if_pos rfl, Cg.o, gd_tt, Cg.r_view, oc_s, Cg.o_view, gd_tt]
    congr 2
    refine bt_ext fun i i0 i1 => ?_
    rw [bt_and, bt_and, bt_xor, bt_m1 i0 i1, bt_24 i0 i1]
    rw [Bool.eq_iff_iff, fmk_bt i0 i1 24 0 (i32 0) (by omega) (by omega), bt_0]
    have b1 := x4 i i0 i1
    have b2 := x5 i i0 i1
    constructor
    · intro z
      rw [Bool.and_eq_true, Bool.and_eq_true, decide_eq_true_eq] at z
      obtain ⟨⟨u1, u2⟩, u3⟩ := z
      right
      refine ⟨i0, by omega, ?_⟩
      rw [b1.mp u1, Bool.true_and]
      by_cases w : 0 ≤ φ i
      · rw [b2.mpr ⟨u2, w⟩] at u3; cases u3
      · rw [decide_eq_false w]; rfl
    · rintro (z | ⟨_, u1, u2⟩)
      · cases z
      · rw [Bool.and_eq_true] at u2
        have u3 : i < 24 := by omega
        have nn : ¬ (0 ≤ φ i) := fun w => by rw [decide_eq_true w] at u2; cases u2.2
        have b513 : bt (hI g 513 109) i = false := by
          cases w : bt (hI g 513 109) i with
          | false => rfl
          | true => exact absurd (b2.mp w).2 nn
        rw [b1.mpr u2.1, b513, decide_eq_true u3]
        rfl
  · unfold fX11_open
    rw [Mg.o, gd_tt, isSheet_s Mg (by rw [eW]; exact w2) h1 h2, bn_s, eW, decide_eq_true cs, if_pos rfl, formBy_s Mg cs.1 (by omega), bn_s, eW, e1, z1, bn_s]
    exact cm
end

