/-! THE WHOLE RELATION -/
/-- a form that is well made; np: parts in the pool -/
def FWf (F : Int → Int) (C : Int → List Int32) (np : Nat) : Prop := TF F ∧ KD F ∧ (∀ n, 0 ≤ n → n < 32 → F n ≠ -1 → ∀ t ∈ C n, tkOk F t) ∧ Acy (NE F (fun n => RlL (C n))) ∧ ∀ n, 0 ≤ n → n < 32 → F n ≠ -1 → 0 ≤ F (192 + n) ∧ 0 ≤ F (224 + n) ∧ F (192 + n) + F (224 + n) ≤ np
/-- a form of the class against a form of the model -/
def FRx (h : HP) (a : Nat) (F : Int → Int) (np : Nat) : Prop := FRc h a F (sgm (Pt h) F) ∧ FWf F (sgm (Pt h) F) np ∧ hI h 0 a = hA h 985 0 ∧ hI h 1 a = hA h 985 1 ∧ hI h 2 a = hA h 985 2
/-- the world from a form on -/
def Wf (W : Int → Int) (fo : Int) : Int → Int := fun k => W (fo + k)
def ShR (h : HP) (a : Nat) (W : Int → Int) (o : Int) : Prop := hI h 256 a = i32 (W o) ∧ 0 ≤ W o ∧ W o < W 2628 ∧ ∀ f, 0 ≤ f → f < 24 → hA h (a + 1) f.toNat = i32 (W (o + 1 + f)) ∧ (W (o + 1 + f) = -2 ∨ (0 ≤ W (o + 1 + f) ∧ W (o + 1 + f) ≤ 9999))
/-- a state of the class against a world of the model -/
def SR (h : HP) (a : Nat) (W : Int → Int) (np : Nat) : Prop := FRx h (a + 1) (Wf W 0) np ∧ (hI h 321 a = i32 (W 2628) ∧ 0 ≤ W 2628 ∧ W 2628 ≤ 8) ∧ (hI h 322 a = i32 (W 2629) ∧ 0 ≤ W 2629 ∧ W 2629 ≤ 10) ∧ (∀ r : Nat, (r : Int) < W 2628 → FRx h (115 + 36 * r) (Wf W (292 * (1 + (r : Int)))) np) ∧ ∀ s : Nat, (s : Int) < W 2629 → ShR h (a + 38 + 2 * s) W (2630 + 25 * (s : Int))
/-- a world that is kept -/
def Un (h : HP) (j : Nat) : Int → Int := fun k => (hL h 989 (2880 * j + k.toNat)).toInt
def psl (u p j : Nat) : Nat := (p + 10 - u + j) % 10
def PastR (h : HP) (np : Nat) : Prop := ∃ u p : Nat, u ≤ 10 ∧ p < 10 ∧ hI h 646 0 = i32 u ∧ hI h 647 0 = i32 p ∧ hI h 712 983 = i32 u ∧ ∀ j, j < u → SR h (403 + 58 * psl u p j) (Un h j) np
def TapeR (h : HP) (T : Nat) : Prop := ∃ b : Int → Int, hI h 641 0 = i32 T ∧ hI h 705 983 = i32 T ∧ T ≤ 1200 ∧ TB h 1 b T ∧ TB h 984 b T
def SzR (h : HP) : Prop := ∃ s p q : Int, hA h 985 0 = i32 s ∧ hA h 985 1 = i32 p ∧ hA h 985 2 = i32 q ∧ (14 ≤ s ∧ s ≤ 60) ∧ (14 ≤ p ∧ p ≤ 60) ∧ 1 ≤ q ∧ q ≤ 60
/-- what holds after k calls -/
def RR (h : HP) (k : Nat) : Prop := CS h ∧ MS h ∧ KW h ∧ N24 h ∧ SzR h ∧ hI h 642 0 = hI h 706 983 ∧ ∃ np T : Nat, hI h 714 983 = i32 np ∧ TapeR h T ∧ np + T ≤ 20 * k ∧ (1008 ≤ hsz h ∧ hsz h + T ≤ 1008 + 20 * k) ∧ hsl h + 6 * T ≤ 60000 + 120 * k ∧ SR h 2 (Wm h) np ∧ PastR h np
/-! frames -/
/-- numbers of fields and addresses that the relation does not look at -/
def scB (x : Nat) : Bool := (decide (x < 653) && !(([0, 1, 2, 3, 4, 5, 128, 129, 130, 131, 132, 133, 134, 135, 136, 137, 256, 321, 322, 384, 385, 386, 387, 388, 389, 641, 642, 646, 647] : List Nat).contains x)) || (decide (1062 ≤ x) && (decide (x ≤ 1114) && decide (x ≠ 1104))) || (decide (5062 ≤ x) && decide (x ≤ 5114))
def okS (l : List Nat) : Bool := l.all scB
theorem okS_n {l : List Nat} (o : okS l = true) {x : Nat} (h : scB x = false) : l.contains x = false := by
  rw [List.contains_eq_mem, decide_eq_false_iff_not]
  intro m
  have := List.all_eq_true.mp o x m
  rw [h] at this; cases this
theorem scB_5 {x : Nat} (h : x < 62 ∨ 114 < x) : scB (5000 + x) = false := by
  unfold scB
  have a : decide (5000 + x < 653) = false := decide_eq_false (by omega)
  have b : (decide (1062 ≤ 5000 + x) && (decide (5000 + x ≤ 1114) && decide (5000 + x ≠ 1104))) = false := by
    rw [decide_eq_false (p := 5000 + x ≤ 1114) (by omega)]; simp
  have c : (decide (5062 ≤ 5000 + x) && decide (5000 + x ≤ 5114)) = false := by
    rcases h with h | h
    · rw [decide_eq_false (p := 5062 ≤ 5000 + x) (by omega)]; rfl
    · rw [decide_eq_false (p := 5000 + x ≤ 5114) (by omega)]; simp
  rw [a, b, c]; rfl
theorem scB_1 {x : Nat} (h : x < 62 ∨ (114 < x ∧ x < 4000) ∨ x = 104) : scB (1000 + x) = false := by
  unfold scB
  have a : decide (1000 + x < 653) = false := decide_eq_false (by omega)
  have c : (decide (5062 ≤ 1000 + x) && decide (1000 + x ≤ 5114)) = false := by
    rw [decide_eq_false (p := 5062 ≤ 1000 + x) (by omega)]; rfl
  have b : (decide (1062 ≤ 1000 + x) && (decide (1000 + x ≤ 1114) && decide (1000 + x ≠ 1104))) = false := by
    rcases h with h | h | h
    · rw [decide_eq_false (p := 1062 ≤ 1000 + x) (by omega)]; rfl
    · rw [decide_eq_false (p := 1000 + x ≤ 1114) (by omega)]; simp
    · rw [decide_eq_false (p := 1000 + x ≠ 1104) (by omega)]; simp
  rw [a, b, c]; rfl
theorem okS_T {l : List Nat} (o : okS l = true) : okT l := by
  refine ⟨?_, fun x hx => okS_n o (scB_5 (by omega))⟩
  rw [okS_n o (x := 384) (by decide), okS_n o (x := 385) (by decide), okS_n o (x := 386) (by decide), okS_n o (x := 387) (by decide), okS_n o (x := 388) (by decide), okS_n o (x := 389) (by decide)]
  rfl
theorem okS_N {l : List Nat} (o : okS l = true) : okN l := by
  unfold okN
  rw [okS_n o (x := 128) (by decide), okS_n o (x := 129) (by decide), okS_n o (x := 130) (by decide), okS_n o (x := 131) (by decide), okS_n o (x := 132) (by decide), okS_n o (x := 133) (by decide), okS_n o (x := 134) (by decide), okS_n o (x := 135) (by decide), okS_n o (x := 136) (by decide), okS_n o (x := 137) (by decide)]
  rfl
theorem okS_F {l : List Nat} (o : okS l = true) {a : Nat} (h : a + 36 ≤ 62 ∨ (114 < a ∧ a < 3000)) : okF l a := by
  refine ⟨okS_N o, ?_, fun i hi => okS_n o (scB_5 (by omega))⟩
  rw [okS_n o (x := 0) (by decide), okS_n o (x := 1) (by decide), okS_n o (x := 2) (by decide), okS_n o (x := 3) (by decide), okS_n o (x := 4) (by decide), okS_n o (x := 5) (by decide), okS_n o (scB_5 (by omega)), okS_n o (scB_1 (by omega))]
  rfl
section
variable {g g' : HP} {k : Nat} {l : List Nat}
/-- over the class's scratch -/
theorem FRx_co {a np : Nat} {F : Int → Int} (r : FRx g a F np) (S : FormAt g a) (o : okS l = true) (p : Co k l g g') (ha : a + 36 ≤ 62 ∨ (114 < a ∧ a < 3000)) (z : 1008 ≤ hsz g) : FRx g' a F np := by
  obtain ⟨⟨r1, r2⟩, r3, r4, r5, r6⟩ := r
  have of := okS_F o ha
  have eP : Pt g' = Pt g := by
    funext q; unfold Pt
    rw [p.A (by omega) (okS_n o (scB_1 (x := 990) (by omega)))]
  have z985 : hA g' 985 = hA g 985 := p.A (by omega) (okS_n o (scB_1 (x := 985) (by omega)))
  have za := isO_lt S.o
  have na := okS_n o (scB_5 (x := a) (by omega))
  unfold FRx FRc
  rw [eP, z985, p.I za (okS_n o (x := 0) (by decide)) na, p.I za (okS_n o (x := 1) (by decide)) na, p.I za (okS_n o (x := 2) (by decide)) na]
  refine ⟨⟨FRb_co r1 S p of, fun n h0 h1 h2 => ?_⟩, r3, r4, r5, r6⟩
  have hb := isO_lt (S.on (show n.toNat < 32 by omega))
  exact CND_co (r2 n h0 h1 h2) (Nat.le_refl _) p.sk.1 p (okS_T o) of.1 hb (of.2.2 n.toNat (by omega)) (lfM_co p (okS_T o))
theorem ShR_co {a : Nat} {W : Int → Int} {o' : Int} (r : ShR g a W o') (S : SheetAt g a) (o : okS l = true) (p : Co k l g g') (ha : a + 2 ≤ 62 ∨ (114 < a ∧ a < 3000)) : ShR g' a W o' := by
  obtain ⟨r1, r2, r3, r4⟩ := r
  have za := isO_lt S.o
  have zb := isO_lt S.oV
  refine ⟨by rw [p.I za (okS_n o (x := 256) (by decide)) (okS_n o (scB_5 (by omega)))]; exact r1, r2, r3, fun f f0 f1 => ?_⟩
  rw [p.A zb (okS_n o (scB_1 (by omega)))]
  exact r4 f f0 f1
theorem SR_co {a np : Nat} {W : Int → Int} (r : SR g a W np) (S : StateAt g a) (C : CS g) (o : okS l = true) (p : Co k l g g') (ha : a + 58 ≤ 62 ∨ (114 < a ∧ a < 2900)) (z : 1008 ≤ hsz g) : SR g' a W np := by
  obtain ⟨r1, r2, r3, r4, r5⟩ := r
  have za := isO_lt S.o
  have na := okS_n o (scB_5 (x := a) (by omega))
  refine ⟨FRx_co r1 S.d o p (by omega) z, ?_, ?_, fun q hq => FRx_co (r4 q hq) (C.rev (by omega)) o p (by omega) z, fun q hq => ShR_co (r5 q hq) (S.sh (by omega)) o p (by omega)⟩
  · rw [p.I za (okS_n o (x := 321) (by decide)) na]; exact r2
  · rw [p.I za (okS_n o (x := 322) (by decide)) na]; exact r3
theorem scB_m {f : Nat} (h : 653 ≤ f ∧ f < 1000) : scB f = false := by
  unfold scB
  rw [decide_eq_false (p := f < 653) (by omega), decide_eq_false (p := 1062 ≤ f) (by omega), decide_eq_false (p := 5062 ≤ f) (by omega)]
  rfl
theorem TB_e {a : Nat} {b : Int → Int} {n : Int} (t : TB g a b n) (e : hA g' a = hA g a) : TB g' a b n := fun i i0 i1 => by rw [e]; exact t i i0 i1
theorem RR_co {c : Nat} (r : RR g c) (o : okS l = true) (p : Co 0 l g g') : RR g' c := by
  obtain ⟨C, M, K, n24, ⟨s1, s2, s3, sz⟩, er, np, T, h714, ⟨b, t1, t2, t3, t4, t5⟩, b1, ⟨b2, b2'⟩, b3, sr, ⟨u, pp, p1, p2, p3, p4, p5, p6⟩⟩ := r
  have eA : ∀ x, (983 ≤ x ∧ x < 1008) → hA g' x = hA g x ∧ hL g' x = hL g x := fun x hx => ⟨p.A (by omega) (okS_n o (scB_1 (by omega))), p.L (by omega) (okS_n o (scB_1 (by omega)))⟩
  have eI : ∀ f, scB f = false → hI g' f 0 = hI g f 0 := fun f hf => p.I (by omega) (okS_n o hf) (okS_n o (scB_5 (x := 0) (by omega)))
  have eM : ∀ f, (653 ≤ f ∧ f < 1000) → hI g' f 983 = hI g f 983 := fun f hf => p.I (by omega) (okS_n o (scB_m hf)) (okS_n o (scB_5 (x := 983) (by omega)))
  have hs : hsz g' = hsz g := by have := p.2.1; have := p.sk.1; omega
  have hl : hsl g' ≤ hsl g := by have := p.2.2.1; omega
  have eW : Wm g' = Wm g := by funext q; unfold Wm; rw [(eA 987 (by omega)).2]
  have eU : ∀ j, Un g' j = Un g j := by intro j; funext q; unfold Un; rw [(eA 989 (by omega)).2]
  have e1 : hA g' 1 = hA g 1 := p.A (by omega) (okS_n o (scB_1 (x := 1) (by omega)))
  refine ⟨C.sk p.sk, M.sk p.sk, fun i hi => ?_, fun j hj => ?_, ⟨s1, s2, s3, ?_⟩, ?_, np, T, ?_, ⟨b, ?_, ?_, t3, TB_e t4 e1, TB_e t5 (eA 984 (by omega)).1⟩, b1, ⟨by omega, by omega⟩, by omega, ?_, ⟨u, pp, p1, p2, ?_, ?_, ?_, fun j hj => ?_⟩⟩
  · rw [p.L (by omega) (okS_n o (scB_1 (x := 104) (by omega)))]; exact K i hi
  · rw [(eA 991 (by omega)).1]; exact n24 j hj
  · rw [(eA 985 (by omega)).1]; exact sz
  · rw [eI 642 (by decide), eM 706 (by omega)]; exact er
  · rw [eM 714 (by omega)]; exact h714
  · rw [eI 641 (by decide)]; exact t1
  · rw [eM 705 (by omega)]; exact t2
  · rw [eW]; exact SR_co sr C.st C o p (by omega) b2
  · rw [eI 646 (by decide)]; exact p3
  · rw [eI 647 (by decide)]; exact p4
  · rw [eM 712 (by omega)]; exact p5
  · have hq : psl u pp j < 10 := Nat.mod_lt _ (by omega)
    rw [eU]; exact SR_co (p6 j hj) (C.past hq) C o p (by omega) b2
end
/-! over the model's scratch -/
def mcB (x : Nat) : Bool := !(([705, 706, 712, 714, 984, 985, 987, 989, 990] : List Nat).contains x)
def okM' (l : List Nat) : Bool := l.all mcB
theorem okM_n {l : List Nat} (o : okM' l = true) {x : Nat} (h : mcB x = false) : l.contains x = false := by
  rw [List.contains_eq_mem, decide_eq_false_iff_not]
  intro m
  have := List.all_eq_true.mp o x m
  rw [h] at this; cases this
section
variable {g g' : HP} {l : List Nat}
theorem IsT_mo {α : Type} {lf lf' : Nat → α → Prop} {op : Nat → α} (p : Mo l g g') (hl : ∀ t e, 1008 ≤ t → lf t e → lf' t e) {d t hi : Nat} {L : List α} (z : IsT g lf op d 1008 hi t L) : IsT g' lf' op d 1008 hi t L := IsT_fr d 1008 hi t L z (fun x x0 x1 ox => ⟨isO_sk p.sk ox, p.Ix (by omega), by rw [p.R], fun e h => hl x e x0 h⟩) (fun x x0 x1 _ => by rw [p.R])
theorem lfM_mo (p : Mo l g g') : ∀ t e, 1008 ≤ t → lfM g t e → lfM g' t e := by
  rintro t e t0 ⟨f, s, v, a1, a2, a3, a4, a5, a6, a7, a8, a9, a10⟩
  exact ⟨f, s, v, a1, a2, a3, a4, a5, a6, a7, by rw [p.Ix (by omega)]; exact a8, by rw [p.Ix (by omega)]; exact a9, by rw [p.Ix (by omega)]; exact a10⟩
theorem Mo.hs (p : Mo l g g') : hsz g' = hsz g := by unfold hsz; rw [p.1]
theorem Mo.hl (p : Mo l g g') : hsl g' = hsl g := by unfold hsl; rw [p.1]
theorem FRb_mo {a : Nat} {F : Int → Int} (r : FRb g a F) (p : Mo l g g') (ha : a + 36 ≤ 983) : FRb g' a F := by
  obtain ⟨r3, r4, r5, ro, rn⟩ := r
  refine ⟨by rw [p.Ix (by omega)]; exact r3, by rw [p.Ix (by omega)]; exact r4, by rw [p.Ix (by omega)]; exact r5, fun i i0 i1 => by rw [p.Ac (by omega)]; exact ro i i0 i1, fun n h0 h1 => ?_⟩
  unfold NDc
  rw [p.Ix (by omega), p.Ix (by omega), p.Jx (by omega), p.Ix (by omega), p.Ix (by omega), p.Ix (by omega), p.Ix (by omega)]
  exact rn n h0 h1
end
