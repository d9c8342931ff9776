/-! THE CLASS LOOKS -/
def So9 (x : Nat) : Prop := x = 109 ∨ x = 110
section
variable {h g : HP} {a b np : Nat} {F A φ : Int → Int}
theorem lf_tT : ∀ t e, lfM g t e → tT e = true := by
  rintro t e ⟨f, s, v, f0, f1, s0, s1, v0, v1, rfl, _⟩
  exact tT_c f0 (by omega) s0 s1 v0 v1
/-- the conditions of a form -/
def cns (g : HP) (F : Int → Int) : Int → List Int32 := sgm (Pt g) F
theorem cvisL (r : FRx g a F np) (S : FormAt g a) (C : CS g) (v : VW g φ) (hz : hsz g ≤ 900000) : ∀ (k n : Nat) (c i : Int), i + k = 9 → 0 ≤ i → k < n → thr F c → lX8_isVisible_15 g n 109 (some a) (fnx F a c) (i32 i) = some (sho F (cnd φ (cns g F)) k c) := by
  intro k
  induction k with
  | zero =>
    intro n c i e i0 hn th
    obtain ⟨n, rfl⟩ : ∃ x, n = x + 1 := ⟨n - 1, by omega⟩
    rw [elX8_isVisible_15]; unfold bX8_isVisible_15
    rw [if_pos (by rw [i32_lt (by omega) (by omega) (by omega) (by omega)]; omega)]
    rfl
  | succ k ih =>
    intro n c i e i0 hn th
    obtain ⟨n, rfl⟩ : ∃ x, n = x + 1 := ⟨n - 1, by omega⟩
    rw [elX8_isVisible_15]; unfold bX8_isVisible_15
    rw [if_neg (by rw [i32_lt (by omega) (by omega) (by omega) (by omega)]; omega)]
    rcases th with z | ⟨c0, c1, cp⟩
    · rw [fnx_n (by omega), on_nn]
      simp only [sho]
      rw [if_neg (by omega)]
    · have t := r.tr
      have h32 : c.toNat < 32 := by omega
      have nd := r.nd c0 c1 cp
      have cd := r.cd c0 c1 cp
      have par := t.tv.grp c0 c1 cp
      have cg : -2 ≤ cgr (F c) ∧ cgr (F c) < 8 := by
        unfold cgr
        rcases par with z | z
        · rw [z]; simp
        · rw [if_neg (by omega)]; omega
      have j47 : jX8_isVisible_47 g (fun v0 v1 v3 v4 => lX8_isVisible_15 g n v0 v1 v3 v4) 109 (some a) (some (a + 4 + c.toNat)) (i32 i) = some (sho F (cnd φ (cns g F)) k (F c)) := by
        unfold jX8_isVisible_47
        have ef : fno g a (F c) = fnx F a (F c) := by
          rcases par with z | ⟨z1, z2, z3⟩
          · rw [fno_n (by omega), fnx_n (by omega)]
          · rw [fno_y (by omega) z2 (by rw [r.E.1 (F c) (by omega) z2]; exact z3), fnx_y ⟨by omega, z2, z3⟩]
        rw [oc_s, S.on h32, gd_tt, oc_s, S.o, gd_tt, nd.2.1, cfindGroup S (by omega) (by omega), bn_s, gno_cgr (par.imp id fun z => ⟨z.1, z.2.1⟩), ef, lt_e, i32_add]
        exact ih n (F c) (i + 1) (by omega) (by omega) (by omega) (thr_par t.tv c0 c1 cp)
      rw [fnx_y ⟨c0, c1, cp⟩, on_sm, S.on h32, gd_tt]
      simp only [sho]
      rw [if_pos c0]
      rcases cd.1 with ⟨l0, w⟩ | ⟨l0, u, w1, w2⟩
      · rw [w, on_nn, j47]
        have e1 : cnd φ (cns g F) c = true := by
          unfold cnd cns
          rw [l0]; rfl
        rw [e1, Bool.true_and]
      · have hd : fX8_holds (some 109) (some u) (i32 0) g = some (cnd φ (cns g F) c) := cholds C v lf_tT 15 64 1008 (hsz g) u _ 0 w2 hz (by decide) (by omega) (by decide)
        rw [w1, on_sm, hd, bn_s]
        by_cases y : cnd φ (cns g F) c = true
        · rw [if_pos y, j47, y, Bool.true_and]
        · rw [if_neg y]
          cases z : cnd φ (cns g F) c with
          | true => exact absurd z y
          | false => rfl
theorem cvis (r : FRx g a F np) (S : FormAt g a) (C : CS g) (v : VW g φ) (hz : hsz g ≤ 900000) {n : Int} (n0 : 0 ≤ n) (n1 : n < 32) : fX8_isVisible 109 (some a) (i32 n) g = some (decide (F n ≠ -1) && sho F (cnd φ (cns g F)) 9 n) := by
  unfold fX8_isVisible
  rw [oc_s, S.o, gd_tt, x_find S r (by omega) (by omega), bn_s]
  by_cases c : F n ≠ -1
  · have L := cvisL r S C v hz 9 FU n 0 (by omega) (by omega) (by decide) (Or.inr ⟨n0, n1, c⟩)
    rw [fnx_y ⟨n0, n1, c⟩] at L ⊢
    rw [on_sm, L, decide_eq_true c, Bool.true_and]
  · rw [fnx_n (fun z => c z.2.2), on_nn, decide_eq_false c, Bool.false_and]
/-- the answers of a sheet -/
def AQ (g : HP) (b : Nat) (A : Int → Int) : Prop := SheetAt g b ∧ ∀ f, 0 ≤ f → f < 24 → hA g (b + 1) f.toNat = i32 (A f) ∧ (A f = -2 ∨ (0 ≤ A f ∧ A f ≤ 9999))
theorem clookF (r : FRx g a F np) (S : FormAt g a) (C : CS g) (v : VW g φ) (hz : hsz g ≤ 900000) (ha : a + 36 ≤ 109 ∨ 111 ≤ a) (hb : b + 2 ≤ 109 ∨ 111 ≤ b) (q : AQ g b A) {f : Int} (f0 : 0 ≤ f) (f1 : f < 24) (p : F f ≠ -1) (s : Bool) (es : s = sho F (cnd φ (cns g F)) 9 f) (w : φ f = -2) : ∃ g', fX8_lookAtField 109 (some a) (some b) (i32 f) g = some g' ∧ So So9 g g' ∧ hI g' 512 109 = (if s = true then hI g 512 109 ||| (i32 1 <<< (i32 f &&& 31)) else hI g 512 109) ∧ hI g' 513 109 = (if 0 ≤ fvl F A s f then hI g 513 109 ||| (i32 1 <<< (i32 f &&& 31)) else hI g 513 109) ∧ VW g' (updI φ f (fvl F A s f)) := by
  have kd := (r.kd f f0 (by omega) p).1 f1
  have nd := (r.nd f0 (by omega) p).2
  have h32 : f.toNat < 32 := by omega
  obtain ⟨Sb, an⟩ := q
  obtain ⟨a1, a2⟩ := an f f0 f1
  have vis := cvis r S C v hz f0 (show f < 32 by omega)
  rw [decide_eq_true p, Bool.true_and, ← es] at vis
  have fnf : fX0_findField a (i32 f) g = some (some (a + 4 + f.toNat)) := by
    rw [x_findField S r (by omega) (by omega), if_pos f1, fnx_y ⟨f0, by omega, p⟩]
  have vw2 : ∀ g' : HP, (∀ i, hA g' 110 i = hA g 110 i) → VW g' (updI φ f (-2)) := fun g' e => by
    refine ⟨fun j j0 j1 => ?_, fun j j0 j1 => ?_⟩
    · rw [e, v.1 j j0 j1]
      by_cases c : j = f
      · rw [updI_at c, c, w]
      · rw [updI_ne c]
    · by_cases c : j = f
      · rw [updI_at c]; omega
      · rw [updI_ne c]; exact v.2 j j0 j1
  unfold fX8_lookAtField
  rw [oc_s, S.o, gd_tt, fnf, bn_s, on_sm, if_neg (by rw [i32_z, i32_lt (by omega) (by omega) (by omega) (by omega)]; omega), if_neg (by rw [i32_le (by omega) (by omega) (by omega) (by omega)]; omega), C.o_view, gd_tt, vis, bn_s]
  cases s with
  | false =>
    have e1 : fvl F A false f = -2 := if_neg (fun z => by cases z.1)
    rw [if_neg (by decide), if_neg (by decide), e1, if_neg (by decide)]
    exact ⟨g, rfl, So.r, rfl, rfl, vw2 g (fun _ => rfl)⟩
  | true =>
    obtain ⟨g1, e1⟩ : ∃ g1, g1 = sI g 512 109 (hI g 512 109 ||| (i32 1 <<< (i32 f &&& 31))) := ⟨_, rfl⟩
    have p1 : So So9 g g1 := by rw [e1]; exact So_I (S := So9) (Or.inl rfl) _ _
    have C1 := C.sk p1.1
    have S1 := Sb.sk p1.1
    have nb : ∀ x, ¬ So9 x → Sm g g1 x := fun x hx => p1.2.2 x hx
    have gv : fX4_given b (i32 f) g1 = some (i32 (A f)) := by
      rw [given_s S1 (by omega) (by omega), if_pos ⟨f0, f1⟩, (nb (b + 1) (fun z => by unfold So9 at z; omega)).2.2.2.1, a1]
    rw [if_pos rfl, ← e1, lt_e, oc_s, S1.o, gd_tt, gv, bn_s, if_pos rfl]
    have i512 : hI g1 512 109 = hI g 512 109 ||| (i32 1 <<< (i32 f &&& 31)) := by rw [e1, rII, if_pos ⟨rfl, rfl⟩]
    have i513 : hI g1 513 109 = hI g 513 109 := by rw [e1, rII, if_neg (by omega)]
    by_cases z : A f = -2
    · have e2 : fvl F A true f = -2 := if_neg (fun y => y.2.1 z)
      rw [if_pos (by rw [z]), e2, if_neg (by decide)]
      exact ⟨g1, rfl, p1, i512, i513, vw2 g1 (fun i => by rw [e1, rAI])⟩
    · have on2 : isO g1 (a + 4 + f.toNat) 2 = true := (S.sk p1.1).on h32
      have nod := nb (a + 4 + f.toNat) (fun y => by unfold So9 at y; omega)
      have al : fX2_allows (a + 4 + f.toNat) (i32 (A f)) g1 = some (decide (F (96 + f) ≤ A f ∧ A f ≤ F (128 + f))) := by
        unfold fX2_allows
        rw [on2, gd_tt, nod.1, nod.1, nd.2.2.2.1, nd.2.2.2.2.1]
        by_cases c1 : F (96 + f) ≤ A f
        · rw [if_neg (by rw [i32_lt (by omega) (by omega) (by omega) (by omega)]; omega)]
          by_cases c2 : A f ≤ F (128 + f)
          · rw [if_neg (by rw [i32_lt (by omega) (by omega) (by omega) (by omega)]; omega), decide_eq_true ⟨c1, c2⟩]
          · rw [if_pos (by rw [i32_lt (by omega) (by omega) (by omega) (by omega)]; omega), decide_eq_false (fun y => c2 y.2)]
        · rw [if_pos (by rw [i32_lt (by omega) (by omega) (by omega) (by omega)]; omega), decide_eq_false (fun y => c1 y.1)]
      rw [if_neg (by rw [i32_eq (by omega) (by omega) (by omega) (by omega)]; exact z), on2, gd_tt, al, bn_s]
      by_cases c : F (96 + f) ≤ A f ∧ A f ≤ F (128 + f)
      · have e2 : fvl F A true f = A f := if_pos ⟨rfl, z, c⟩
        obtain ⟨g2, e2'⟩ : ∃ g2, g2 = sI g1 513 109 (hI g 513 109 ||| (i32 1 <<< (i32 f &&& 31))) := ⟨_, rfl⟩
        have p2 : So So9 g1 g2 := by rw [e2']; exact So_I (S := So9) (Or.inl rfl) _ _
        have C2 := C1.sk p2.1
        obtain ⟨g3, e3⟩ : ∃ g3, g3 = sA g2 110 f.toNat (i32 (A f)) := ⟨_, rfl⟩
        have p3 : So So9 g2 g3 := by rw [e3]; exact So_A (S := So9) (Or.inr rfl) _ _
        rw [if_pos (decide_eq_true c), i513, ← e2', lt_e, C2.r_forces, oc_s, C2.o_forces, gd_tt, C2.n_forces, i32_inb f0 (by omega) (by omega), gd_tt, i32_cn f0 (by omega), ← e3, lt_e, e2, if_pos (show 0 ≤ A f by omega)]
        refine ⟨g3, rfl, p1.t (p2.t p3), ?_, ?_, fun j j0 j1 => ?_, fun j j0 j1 => ?_⟩
        · rw [e3, rIA, e2', rII, if_neg (by omega), i512]
        · rw [e3, rIA, e2', rII, if_pos ⟨rfl, rfl⟩]
        · rw [e3, rAA]
          by_cases y : j = f
          · rw [if_pos ⟨rfl, by rw [y]⟩, updI_at y]
          · rw [if_neg (fun u => by omega), updI_ne y, e2', rAI, e1, rAI]; exact v.1 j j0 j1
        · by_cases y : j = f
          · rw [updI_at y]; omega
          · rw [updI_ne y]; exact v.2 j j0 j1
      · have e2 : fvl F A true f = -2 := if_neg (fun y => c y.2.2)
        rw [if_neg (by rw [decide_eq_true_eq]; exact c), e2, if_neg (by decide)]
        exact ⟨g1, rfl, p1, i512, i513, vw2 g1 (fun i => by rw [e1, rAI])⟩
end

