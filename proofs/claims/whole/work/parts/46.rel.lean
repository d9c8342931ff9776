/-! THE WHOLE RELATION -/
/-- a form that is well made; np: parts in the pool -/
def FWf (F : Int → Int) (C : Int → List Int32) (np : Nat) : Prop := TF F ∧ KD F ∧ (∀ n, 0 ≤ n → n < 32 → F n ≠ -1 → ∀ t ∈ C n, tkOk F t) ∧ Acy (NE F (fun n => RlL (C n))) ∧ ∀ n, 0 ≤ n → n < 32 → F n ≠ -1 → 0 ≤ F (192 + n) ∧ 0 ≤ F (224 + n) ∧ F (192 + n) + F (224 + n) ≤ np ∧ F (224 + n) ≤ 480
/-- a form of the class against a form of the model -/
def FRx (h : HP) (a : Nat) (F : Int → Int) (np : Nat) : Prop := FRc h a F (sgm (Pt h) F) ∧ FWf F (sgm (Pt h) F) np ∧ hI h 0 a = hA h 985 0 ∧ hI h 1 a = hA h 985 1 ∧ hI h 2 a = hA h 985 2
/-- the world from a form on -/
def Wf (W : Int → Int) (fo : Int) : Int → Int := fun k => W (fo + k)
def ShR (h : HP) (a : Nat) (W : Int → Int) (o : Int) : Prop := hI h 256 a = i32 (W o) ∧ 0 ≤ W o ∧ W o < W 2628 ∧ ∀ f, 0 ≤ f → f < 24 → hA h (a + 1) f.toNat = i32 (W (o + 1 + f)) ∧ (W (o + 1 + f) = -2 ∨ (0 ≤ W (o + 1 + f) ∧ W (o + 1 + f) ≤ 9999))
/-- a state of the class against a world of the model -/
def SR (h : HP) (a : Nat) (W : Int → Int) (np : Nat) : Prop := FRx h (a + 1) (Wf W 0) np ∧ (hI h 321 a = i32 (W 2628) ∧ 0 ≤ W 2628 ∧ W 2628 ≤ 8) ∧ (hI h 322 a = i32 (W 2629) ∧ 0 ≤ W 2629 ∧ W 2629 ≤ 10) ∧ (∀ r : Nat, (r : Int) < W 2628 → FRx h (115 + 36 * r) (Wf W (292 * (1 + (r : Int)))) np) ∧ ∀ s : Nat, (s : Int) < W 2629 → ShR h (a + 38 + 2 * s) W (2630 + 25 * (s : Int))
/-- a world that is kept -/
def Un (h : HP) (j : Nat) : Int → Int := fun k => (hL h 989 (2880 * j + k.toNat)).toInt
def psl (u p j : Nat) : Nat := (p + 10 - u + j) % 10
/-- a world that is older has no more revisions -/
def PMo (W : Int → Int) (U : Nat → Int → Int) (u : Nat) : Prop := (∀ j, j + 1 < u → U j 2628 ≤ U (j + 1) 2628) ∧ (0 < u → U (u - 1) 2628 ≤ W 2628)
def PastR (h : HP) (np : Nat) : Prop := ∃ u p : Nat, u ≤ 10 ∧ p < 10 ∧ hI h 646 0 = i32 u ∧ hI h 647 0 = i32 p ∧ hI h 712 983 = i32 u ∧ PMo (Wm h) (Un h) u ∧ ∀ j, j < u → SR h (403 + 58 * psl u p j) (Un h j) np
def TapeR (h : HP) (T : Nat) : Prop := ∃ b : Int → Int, hI h 641 0 = i32 T ∧ hI h 705 983 = i32 T ∧ T ≤ 1200 ∧ TB h 1 b T ∧ TB h 984 b T
def SzR (h : HP) : Prop := ∃ s p q : Int, hA h 985 0 = i32 s ∧ hA h 985 1 = i32 p ∧ hA h 985 2 = i32 q ∧ (14 ≤ s ∧ s ≤ 60) ∧ (14 ≤ p ∧ p ≤ 60) ∧ 1 ≤ q ∧ q ≤ 60
/-- what holds after k calls -/
def RR (h : HP) (k : Nat) : Prop := CS h ∧ MS h ∧ KW h ∧ N24 h ∧ SzR h ∧ hI h 642 0 = hI h 706 983 ∧ ∃ np T : Nat, hI h 714 983 = i32 np ∧ TapeR h T ∧ np + T ≤ 20 * k ∧ (1008 ≤ hsz h ∧ hsz h + T ≤ 1008 + 20 * k) ∧ hsl h + 6 * T ≤ 80000 + 120 * k ∧ SR h 2 (Wm h) np ∧ PastR h np
/-! frames -/
/-- numbers of fields and addresses that the relation does not look at -/
def scB (x : Nat) : Bool := (decide (x < 653) && !(([0, 1, 2, 3, 4, 5, 128, 129, 130, 131, 132, 133, 134, 135, 136, 137, 256, 321, 322, 384, 385, 386, 387, 388, 389, 641, 642, 646, 647] : List Nat).contains x)) || (decide (1062 ≤ x) && (decide (x ≤ 1114) && decide (x ≠ 1104))) || (decide (5062 ≤ x) && decide (x ≤ 5114))
def okS (l : List Nat) : Bool := l.all scB
theorem okS_n {l : List Nat} (o : okS l = true) {x : Nat} (h : scB x = false) : l.contains x = false := by
  rw [List.contains_eq_mem, decide_eq_false_iff_not]
  intro m
  have := List.all_eq_true.mp o x m
  rw [h] at this; cases this
theorem scB_5 {x : Nat} (h : x < 62 ∨ 114 < x) : scB (5000 + x) = false := by
  unfold scB
  have a : decide (5000 + x < 653) = false := decide_eq_false (by omega)
  have b : (decide (1062 ≤ 5000 + x) && (decide (5000 + x ≤ 1114) && decide (5000 + x ≠ 1104))) = false := by
    rw [decide_eq_false (p := 5000 + x ≤ 1114) (by omega)]; simp
  have c : (decide (5062 ≤ 5000 + x) && decide (5000 + x ≤ 5114)) = false := by
    rcases h with h | h
    · rw [decide_eq_false (p := 5062 ≤ 5000 + x) (by omega)]; rfl
    · rw [decide_eq_false (p := 5000 + x ≤ 5114) (by omega)]; simp
  rw [a, b, c]; rfl
theorem scB_1 {x : Nat} (h : x < 62 ∨ (114 < x ∧ x < 4000) ∨ x = 104) : scB (1000 + x) = false := by
  unfold scB
  have a : decide (1000 + x < 653) = false := decide_eq_false (by omega)
  have c : (decide (5062 ≤ 1000 + x) && decide (1000 + x ≤ 5114)) = false := by
    rw [decide_eq_false (p := 5062 ≤ 1000 + x) (by omega)]; rfl
  have b : (decide (1062 ≤ 1000 + x) && (decide (1000 + x ≤ 1114) && decide (1000 + x ≠ 1104))) = false := by
    rcases h with h | h | h
    · rw [decide_eq_false (p := 1062 ≤ 1000 + x) (by omega)]; rfl
    · rw [decide_eq_false (p := 1000 + x ≤ 1114) (by omega)]; simp
    · rw [decide_eq_false (p := 1000 + x ≠ 1104) (by omega)]; simp
  rw [a, b, c]; rfl
theorem okS_T {l : List Nat} (o : okS l = true) : okT l := by
  refine ⟨?_, fun x hx => okS_n o (scB_5 (by omega))⟩
  rw [okS_n o (x := 384) (by decide), okS_n o (x := 385) (by decide), okS_n o (x := 386) (by decide), okS_n o (x := 387) (by decide), okS_n o (x := 388) (by decide), okS_n o (x := 389) (by decide)]
  rfl
theorem okS_N {l : List Nat} (o : okS l = true) : okN l := by
  unfold okN
  rw [okS_n o (x := 128) (by decide), okS_n o (x := 129) (by decide), okS_n o (x := 130) (by decide), okS_n o (x := 131) (by decide), okS_n o (x := 132) (by decide), okS_n o (x := 133) (by decide), okS_n o (x := 134) (by decide), okS_n o (x := 135) (by decide), okS_n o (x := 136) (by decide), okS_n o (x := 137) (by decide)]
  rfl
theorem okS_F {l : List Nat} (o : okS l = true) {a : Nat} (h : a + 36 ≤ 62 ∨ (114 < a ∧ a < 3000)) : okF l a := by
  refine ⟨okS_N o, ?_, fun i hi => okS_n o (scB_5 (by omega))⟩
  rw [okS_n o (x := 0) (by decide), okS_n o (x := 1) (by decide), okS_n o (x := 2) (by decide), okS_n o (x := 3) (by decide), okS_n o (x := 4) (by decide), okS_n o (x := 5) (by decide), okS_n o (scB_5 (by omega)), okS_n o (scB_1 (by omega))]
  rfl
section
variable {g g' : HP} {k : Nat} {l : List Nat}
/-- over the class's scratch -/
theorem FRx_co {a np : Nat} {F : Int → Int} (r : FRx g a F np) (S : FormAt g a) (o : okS l = true) (p : Co k l g g') (ha : a + 36 ≤ 62 ∨ (114 < a ∧ a < 3000)) (z : 1008 ≤ hsz g) : FRx g' a F np := by
  obtain ⟨⟨r1, r2⟩, r3, r4, r5, r6⟩ := r
  have of := okS_F o ha
  have eP : Pt g' = Pt g := by
    funext q; unfold Pt
    rw [p.A (by omega) (okS_n o (scB_1 (x := 990) (by omega)))]
  have z985 : hA g' 985 = hA g 985 := p.A (by omega) (okS_n o (scB_1 (x := 985) (by omega)))
  have za := isO_lt S.o
  have na := okS_n o (scB_5 (x := a) (by omega))
  unfold FRx FRc
  rw [eP, z985, p.I za (okS_n o (x := 0) (by decide)) na, p.I za (okS_n o (x := 1) (by decide)) na, p.I za (okS_n o (x := 2) (by decide)) na]
  refine ⟨⟨FRb_co r1 S p of, fun n h0 h1 h2 => ?_⟩, r3, r4, r5, r6⟩
  have hb := isO_lt (S.on (show n.toNat < 32 by omega))
  exact CND_co (r2 n h0 h1 h2) (Nat.le_refl _) p.sk.1 p (okS_T o) of.1 hb (of.2.2 n.toNat (by omega)) (lfM_co p (okS_T o))
theorem ShR_co {a : Nat} {W : Int → Int} {o' : Int} (r : ShR g a W o') (S : SheetAt g a) (o : okS l = true) (p : Co k l g g') (ha : a + 2 ≤ 62 ∨ (114 < a ∧ a < 3000)) : ShR g' a W o' := by
  obtain ⟨r1, r2, r3, r4⟩ := r
  have za := isO_lt S.o
  have zb := isO_lt S.oV
  refine ⟨by rw [p.I za (okS_n o (x := 256) (by decide)) (okS_n o (scB_5 (by omega)))]; exact r1, r2, r3, fun f f0 f1 => ?_⟩
  rw [p.A zb (okS_n o (scB_1 (by omega)))]
  exact r4 f f0 f1
theorem SR_co {a np : Nat} {W : Int → Int} (r : SR g a W np) (S : StateAt g a) (C : CS g) (o : okS l = true) (p : Co k l g g') (ha : a + 58 ≤ 62 ∨ (114 < a ∧ a < 2900)) (z : 1008 ≤ hsz g) : SR g' a W np := by
  obtain ⟨r1, r2, r3, r4, r5⟩ := r
  have za := isO_lt S.o
  have na := okS_n o (scB_5 (x := a) (by omega))
  refine ⟨FRx_co r1 S.d o p (by omega) z, ?_, ?_, fun q hq => FRx_co (r4 q hq) (C.rev (by omega)) o p (by omega) z, fun q hq => ShR_co (r5 q hq) (S.sh (by omega)) o p (by omega)⟩
  · rw [p.I za (okS_n o (x := 321) (by decide)) na]; exact r2
  · rw [p.I za (okS_n o (x := 322) (by decide)) na]; exact r3
theorem scB_m {f : Nat} (h : 653 ≤ f ∧ f < 1000) : scB f = false := by
  unfold scB
  rw [decide_eq_false (p := f < 653) (by omega), decide_eq_false (p := 1062 ≤ f) (by omega), decide_eq_false (p := 5062 ≤ f) (by omega)]
  rfl
theorem TB_e {a : Nat} {b : Int → Int} {n : Int} (t : TB g a b n) (e : hA g' a = hA g a) : TB g' a b n := fun i i0 i1 => by rw [e]; exact t i i0 i1
theorem RR_co {c : Nat} (r : RR g c) (o : okS l = true) (p : Co 0 l g g') : RR g' c := by
  obtain ⟨C, M, K, n24, ⟨s1, s2, s3, sz⟩, er, np, T, h714, ⟨b, t1, t2, t3, t4, t5⟩, b1, ⟨b2, b2'⟩, b3, sr, ⟨u, pp, p1, p2, p3, p4, p5, pm, p6⟩⟩ := r
  have eA : ∀ x, (983 ≤ x ∧ x < 1008) → hA g' x = hA g x ∧ hL g' x = hL g x := fun x hx => ⟨p.A (by omega) (okS_n o (scB_1 (by omega))), p.L (by omega) (okS_n o (scB_1 (by omega)))⟩
  have eI : ∀ f, scB f = false → hI g' f 0 = hI g f 0 := fun f hf => p.I (by omega) (okS_n o hf) (okS_n o (scB_5 (x := 0) (by omega)))
  have eM : ∀ f, (653 ≤ f ∧ f < 1000) → hI g' f 983 = hI g f 983 := fun f hf => p.I (by omega) (okS_n o (scB_m hf)) (okS_n o (scB_5 (x := 983) (by omega)))
  have hs : hsz g' = hsz g := by have := p.2.1; have := p.sk.1; omega
  have hl : hsl g' ≤ hsl g := by have := p.2.2.1; omega
  have eW : Wm g' = Wm g := by funext q; unfold Wm; rw [(eA 987 (by omega)).2]
  have eU : ∀ j, Un g' j = Un g j := by intro j; funext q; unfold Un; rw [(eA 989 (by omega)).2]
  have e1 : hA g' 1 = hA g 1 := p.A (by omega) (okS_n o (scB_1 (x := 1) (by omega)))
  refine ⟨C.sk p.sk, M.sk p.sk, fun i hi => ?_, n24.e (eA 991 (by omega)).1 (eA 999 (by omega)).1, ⟨s1, s2, s3, ?_⟩, ?_, np, T, ?_, ⟨b, ?_, ?_, t3, TB_e t4 e1, TB_e t5 (eA 984 (by omega)).1⟩, b1, ⟨by omega, by omega⟩, by omega, ?_, ⟨u, pp, p1, p2, ?_, ?_, ?_, by rw [eW, show Un g' = Un g from funext eU]; exact pm, fun j hj => ?_⟩⟩
  · rw [p.L (by omega) (okS_n o (scB_1 (x := 104) (by omega)))]; exact K i hi
  · rw [(eA 985 (by omega)).1]; exact sz
  · rw [eI 642 (by decide), eM 706 (by omega)]; exact er
  · rw [eM 714 (by omega)]; exact h714
  · rw [eI 641 (by decide)]; exact t1
  · rw [eM 705 (by omega)]; exact t2
  · rw [eW]; exact SR_co sr C.st C o p (by omega) b2
  · rw [eI 646 (by decide)]; exact p3
  · rw [eI 647 (by decide)]; exact p4
  · rw [eM 712 (by omega)]; exact p5
  · have hq : psl u pp j < 10 := Nat.mod_lt _ (by omega)
    rw [eU]; exact SR_co (p6 j hj) (C.past hq) C o p (by omega) b2
end
/-! over the model's scratch -/
def mcB (x : Nat) : Bool := !(([705, 706, 712, 714, 984, 985, 987, 989, 990] : List Nat).contains x)
def okM' (l : List Nat) : Bool := l.all mcB
theorem okM_n {l : List Nat} (o : okM' l = true) {x : Nat} (h : mcB x = false) : l.contains x = false := by
  rw [List.contains_eq_mem, decide_eq_false_iff_not]
  intro m
  have := List.all_eq_true.mp o x m
  rw [h] at this; cases this
section
variable {g g' : HP} {l : List Nat}
theorem IsT_mo {α : Type} {lf lf' : Nat → α → Prop} {op : Nat → α} (p : Mo l g g') (hl : ∀ t e, 1008 ≤ t → lf t e → lf' t e) {d t hi : Nat} {L : List α} (z : IsT g lf op d 1008 hi t L) : IsT g' lf' op d 1008 hi t L := IsT_fr d 1008 hi t L z (fun x x0 x1 ox => ⟨isO_sk p.sk ox, p.Ix (by omega), by rw [p.R], fun e h => hl x e x0 h⟩) (fun x x0 x1 _ => by rw [p.R])
theorem lfM_mo (p : Mo l g g') : ∀ t e, 1008 ≤ t → lfM g t e → lfM g' t e := by
  rintro t e t0 ⟨f, s, v, a1, a2, a3, a4, a5, a6, a7, a8, a9, a10⟩
  exact ⟨f, s, v, a1, a2, a3, a4, a5, a6, a7, by rw [p.Ix (by omega)]; exact a8, by rw [p.Ix (by omega)]; exact a9, by rw [p.Ix (by omega)]; exact a10⟩
theorem Mo.hs (p : Mo l g g') : hsz g' = hsz g := by unfold hsz; rw [p.1]
theorem Mo.hl (p : Mo l g g') : hsl g' = hsl g := by unfold hsl; rw [p.1]
theorem FRb_mo {a : Nat} {F : Int → Int} (r : FRb g a F) (p : Mo l g g') (ha : a + 36 ≤ 983) : FRb g' a F := by
  obtain ⟨r3, r4, r5, ro, rn⟩ := r
  refine ⟨by rw [p.Ix (by omega)]; exact r3, by rw [p.Ix (by omega)]; exact r4, by rw [p.Ix (by omega)]; exact r5, fun i i0 i1 => by rw [p.Ac (by omega)]; exact ro i i0 i1, fun n h0 h1 => ?_⟩
  unfold NDc
  rw [p.Ix (by omega), p.Ix (by omega), p.Jx (by omega), p.Ix (by omega), p.Ix (by omega), p.Ix (by omega), p.Ix (by omega)]
  exact rn n h0 h1
end
/-! FORMS AND STATES CARRIED OVER -/
/-- the terms stand as they stood -/
def TS2 (h g : HP) : Prop := hsz h ≤ hsz g ∧ ∀ x, 1008 ≤ x → x < hsz h → (isO h x 6 = true → isO g x 6 = true) ∧ hI g 384 x = hI h 384 x ∧ hI g 387 x = hI h 387 x ∧ hI g 388 x = hI h 388 x ∧ hI g 389 x = hI h 389 x ∧ hR g 385 x = hR h 385 x ∧ hR g 386 x = hR h 386 x
theorem TS2.r {h : HP} : TS2 h h := ⟨Nat.le_refl _, fun _ _ _ => ⟨id, rfl, rfl, rfl, rfl, rfl, rfl⟩⟩
theorem TS2.t {h g k : HP} (p : TS2 h g) (q : TS2 g k) : TS2 h k := ⟨Nat.le_trans p.1 q.1, fun x x0 x1 => by
  obtain ⟨a1, a2, a3, a4, a5, a6, a7⟩ := p.2 x x0 x1
  obtain ⟨b1, b2, b3, b4, b5, b6, b7⟩ := q.2 x x0 (Nat.lt_of_lt_of_le x1 p.1)
  exact ⟨fun z => b1 (a1 z), b2.trans a2, b3.trans a3, b4.trans a4, b5.trans a5, b6.trans a6, b7.trans a7⟩⟩
theorem TS2_co {n : Nat} {l : List Nat} {h g : HP} (p : Co n l h g) (o : okT l) : TS2 h g := by
  obtain ⟨o1, o2⟩ := o
  simp only [Bool.or_eq_false_iff] at o1
  exact ⟨p.sk.1, fun x x0 x1 => ⟨fun z => isO_sk p.sk z, p.I x1 o1.1.1.1.1.1 (o2 x x0), p.I x1 o1.1.1.2 (o2 x x0), p.I x1 o1.1.2 (o2 x x0), p.I x1 o1.2 (o2 x x0), p.R x1 o1.1.1.1.1.2 (o2 x x0), p.R x1 o1.1.1.1.2 (o2 x x0)⟩⟩
theorem TS2_mo {l : List Nat} {h g : HP} (p : Mo l h g) : TS2 h g := ⟨p.sk.1, fun x x0 x1 => ⟨fun z => isO_sk p.sk z, p.Ix (by omega), p.Ix (by omega), p.Ix (by omega), p.Ix (by omega), by rw [p.R], by rw [p.R]⟩⟩
theorem TS2_So {S : Nat → Prop} {h g : HP} (p : So S h g) (w : ∀ x, S x → x < 1008) : TS2 h g := by
  have z : hsz g = hsz h := by unfold hsz; rw [p.2.1]
  refine ⟨by omega, fun x x0 x1 => ?_⟩
  have s := p.2.2 x (fun q => by have := w x q; omega)
  exact ⟨fun z => isO_sk p.1 z, s.1 _, s.1 _, s.1 _, s.1 _, s.2.2.1 _, s.2.2.1 _⟩
theorem TS2_SI {W : Nat → Nat → Prop} {h g : HP} (p : SI W h g) (w : ∀ f x, W f x → x < 1008) : TS2 h g := ⟨by rw [p.sz]; exact Nat.le_refl _, fun x x0 x1 => ⟨fun z => by rw [p.o]; exact z, p.I (fun q => by have := w _ _ q; omega), p.I (fun q => by have := w _ _ q; omega), p.I (fun q => by have := w _ _ q; omega), p.I (fun q => by have := w _ _ q; omega), by rw [p.R], by rw [p.R]⟩⟩
theorem lfM_ts {h g : HP} (p : TS2 h g) : ∀ t e, 1008 ≤ t → t < hsz h → lfM h t e → lfM g t e := by
  rintro t e t0 t1 ⟨f, s, v, a1, a2, a3, a4, a5, a6, a7, a8, a9, a10⟩
  obtain ⟨b1, b2, b3, b4, b5, b6, b7⟩ := p.2 t t0 t1
  exact ⟨f, s, v, a1, a2, a3, a4, a5, a6, a7, by rw [b3]; exact a8, by rw [b4]; exact a9, by rw [b5]; exact a10⟩
theorem CND_ts {h g : HP} {b b' : Nat} {L : List Int32} {tc : Int} {rf : Int32} {hi hi' : Nat} (c : CND h hi (lfM h) opM b L tc rf) (p : TS2 h g) (hh : hi ≤ hsz h) (h2 : hi ≤ hi') (e5 : hR g 135 b' = hR h 135 b) (e6 : hI g 136 b' = hI h 136 b) (e7 : hI g 137 b' = hI h 137 b) : CND g hi' (lfM g) opM b' L tc rf := by
  obtain ⟨c1, c2, c3⟩ := c
  refine ⟨?_, e6.trans c2, e7.trans c3⟩
  rw [e5]
  rcases c1 with q | ⟨q, t, h1, h3⟩
  · exact Or.inl q
  · refine Or.inr ⟨q, t, h1, IsT_up 15 1008 hi t L 15 1008 hi' (Nat.le_refl _) (Nat.le_refl _) h2 (IsT_fr 15 1008 hi t L h3 (fun x x0 x1 ox => ?_) (fun x x0 x1 _ => (p.2 x x0 (by omega)).2.2.2.2.2.2))⟩
    obtain ⟨b1, b2, b3, b4, b5, b6, b7⟩ := p.2 x x0 (by omega)
    exact ⟨b1 ox, b2, b6, fun e he => lfM_ts p x e x0 (by omega) he⟩
/-- the pool stands up to a place -/
def PlS (np : Nat) (h g : HP) : Prop := ∀ p : Nat, p < np → hA g 990 p = hA h 990 p
theorem FWf_up {F : Int → Int} {C : Int → List Int32} {np np' : Nat} (w : FWf F C np) (h : np ≤ np') : FWf F C np' := ⟨w.1, w.2.1, w.2.2.1, w.2.2.2.1, fun n a b c => by have := w.2.2.2.2 n a b c; omega⟩
theorem FWf_C {F : Int → Int} {C C' : Int → List Int32} {np : Nat} (w : FWf F C np) (e : ∀ n, 0 ≤ n → n < 32 → F n ≠ -1 → C' n = C n) : FWf F C' np := by
  refine ⟨w.1, w.2.1, fun n a b c t ht => w.2.2.1 n a b c t (by rw [← e n a b c]; exact ht), ?_, w.2.2.2.2⟩
  rw [NE_congr w.1.1.tv (R := fun n => RlL (C' n)) (R' := fun n => RlL (C n)) (fun n a b c => by show RlL (C' n) = RlL (C n); rw [e n a b c])]
  exact w.2.2.2.1
theorem FRc_eq {h g : HP} {a a' : Nat} {F : Int → Int} {C C' : Int → List Int32} (r : FRc h a F C) (tr : TR F) (e : FormEq g a' h a) (ts : TS2 h g) (ec : ∀ n, 0 ≤ n → n < 32 → F n ≠ -1 → C' n = C n) : FRc g a' F C' := by
  obtain ⟨⟨r3, r4, r5, ro, rn⟩, rc⟩ := r
  obtain ⟨e1, e2⟩ := e
  refine ⟨⟨by rw [e1 3 (by omega)]; exact r3, by rw [e1 4 (by omega)]; exact r4, by rw [e1 5 (by omega)]; exact r5, fun i i0 i1 => ?_, fun n h0 h1 => ?_⟩, fun n h0 h1 h2 => ?_⟩
  · have := tr.ov.2.1
    rw [(e2 i.toNat (by omega)).1]; exact ro i i0 i1
  · obtain ⟨n1, n2, n3, n4, n5, n6, n7, n8, n9, n10⟩ := (e2 n.toNat (by omega)).2
    unfold NDc
    rw [n1, n2, n3, n4, n5, n6, n7]
    exact rn n h0 h1
  · obtain ⟨n1, n2, n3, n4, n5, n6, n7, n8, n9, n10⟩ := (e2 n.toNat (by omega)).2
    rw [ec n h0 h1 h2]
    exact CND_ts (rc n h0 h1 h2) ts (Nat.le_refl _) ts.1 n8 n9 n10
theorem sgm_np {h g : HP} {F : Int → Int} {np : Nat} (p : PlS np h g) {n : Int} (s : 0 ≤ F (192 + n) ∧ 0 ≤ F (224 + n) ∧ F (192 + n) + F (224 + n) ≤ np) : sgm (Pt g) F n = sgm (Pt h) F n := sgm_low (was := np) s.1 s.2.2 p
theorem FRx_eq {h g : HP} {a a' : Nat} {F : Int → Int} {np np' : Nat} (r : FRx h a F np) (e : FormEq g a' h a) (ts : TS2 h g) (pl : PlS np h g) (e5 : hA g 985 = hA h 985) (hn : np ≤ np') : FRx g a' F np' := by
  obtain ⟨r1, r2, r3, r4, r5⟩ := r
  have ec : ∀ n, 0 ≤ n → n < 32 → F n ≠ -1 → sgm (Pt g) F n = sgm (Pt h) F n := fun n a b c => sgm_np pl (by have := r2.2.2.2.2 n a b c; omega)
  refine ⟨FRc_eq r1 r2.1.1 e ts ec, FWf_up (FWf_C r2 ec) hn, ?_, ?_, ?_⟩
  · rw [e5, e.1 0 (by omega)]; exact r3
  · rw [e5, e.1 1 (by omega)]; exact r4
  · rw [e5, e.1 2 (by omega)]; exact r5
/-- a form told alike -/
def E292 (F' F : Int → Int) : Prop := ∀ k, 0 ≤ k → k < 292 → F' k = F k
theorem E292.T {F' F : Int → Int} (e : E292 F' F) (O : OV F) : EqT F' F := ⟨fun n a b => e n a (by omega), e 288 (by omega) (by omega), fun i i0 i1 => e (256 + i) (by omega) (by have := O.2.1; omega)⟩
theorem FWf_F {F' F : Int → Int} {C : Int → List Int32} {np : Nat} (w : FWf F C np) (e : E292 F' F) : FWf F' C np := by
  obtain ⟨⟨tr, nm, de, gv⟩, kd, tk, ac, sg⟩ := w
  have E := e.T tr.ov
  have en : ∀ n, 0 ≤ n → n < 32 → F n ≠ -1 → F' n = F n := fun n a b _ => e n a (by omega)
  refine ⟨⟨TR_E E tr, ⟨fun n a b c => ?_, fun n m a b a' b' c c' x => ?_⟩, fun n a b c => ?_, ?_⟩, fun n a b c => ?_, fun n a b c t ht => ?_, ?_, fun n a b c => ?_⟩
  · rw [e n a (by omega)] at c; rw [e (32 + n) (by omega) (by omega)]; exact nm.1 n a b c
  · rw [e n a (by omega)] at c
    rw [e m a' (by omega)] at c'
    rw [e (32 + n) (by omega) (by omega), e (32 + m) (by omega) (by omega)] at x
    exact nm.2 n m a b a' b' c c' x
  · rw [e n a (by omega)] at c ⊢
    have th := thr_par tr.tv a b c
    obtain ⟨u1, u2⟩ := de n a b c
    exact ⟨ends_congr tr.tv en 4 _ th u1, fun h => ends_congr tr.tv en 3 _ th (u2 h)⟩
  · obtain ⟨u1, u2, u3, u4, u5, u6⟩ := gv
    refine ⟨by rw [e 289 (by omega) (by omega)]; exact u1, by rw [e 289 (by omega) (by omega)]; exact u2, by rw [e 290 (by omega) (by omega)]; exact u3, by rw [e 290 (by omega) (by omega)]; exact u4, by rw [e 288 (by omega) (by omega), e 289 (by omega) (by omega), e 290 (by omega) (by omega)]; exact u5, fun n a b c => ?_⟩
    rw [e n a (by omega)] at c
    rw [e 289 (by omega) (by omega), e 290 (by omega) (by omega)]
    exact u6 n a b c
  · rw [e n a (by omega)] at c
    unfold kdOk
    rw [e (64 + n) (by omega) (by omega), e (96 + n) (by omega) (by omega), e (128 + n) (by omega) (by omega), e (160 + n) (by omega) (by omega)]
    exact kd n a b c
  · rw [e n a (by omega)] at c
    rcases tk n a b c t ht with ⟨f, s, v, f0, f1, f2, r⟩ | h
    · exact Or.inl ⟨f, s, v, f0, f1, by rw [e f f0 (by omega)]; exact f2, r⟩
    · exact Or.inr h
  · rw [EqT_NE E tr.av (R := fun n => RlL (C n)) (S := fun n => RlL (C n)) (fun _ _ _ _ => rfl) tr.tv]
    exact ac
  · rw [e n a (by omega)] at c
    rw [e (192 + n) (by omega) (by omega), e (224 + n) (by omega) (by omega)]
    exact sg n a b c
theorem FRb_F {h : HP} {a : Nat} {F' F : Int → Int} (r : FRb h a F) (e : E292 F' F) (m : F 288 ≤ 32) : FRb h a F' := by
  obtain ⟨r3, r4, r5, ro, rn⟩ := r
  refine ⟨by rw [e 289 (by omega) (by omega)]; exact r3, by rw [e 290 (by omega) (by omega)]; exact r4, by rw [e 288 (by omega) (by omega)]; exact r5, fun i i0 i1 => ?_, fun n h0 h1 => ?_⟩
  · rw [e 288 (by omega) (by omega)] at i1
    rw [e (256 + i) (by omega) (by omega)]; exact ro i i0 i1
  · unfold NDc
    rw [e n h0 (by omega), e (32 + n) (by omega) (by omega), e (64 + n) (by omega) (by omega), e (96 + n) (by omega) (by omega), e (128 + n) (by omega) (by omega), e (160 + n) (by omega) (by omega)]
    exact rn n h0 h1
theorem FRx_F {h : HP} {a np : Nat} {F' F : Int → Int} (r : FRx h a F np) (e : E292 F' F) : FRx h a F' np := by
  obtain ⟨⟨r1, rc⟩, r2, r3⟩ := r
  have es : ∀ n, 0 ≤ n → n < 32 → sgm (Pt h) F' n = sgm (Pt h) F n := fun n a b => sgm_E (e _ (by omega) (by omega)) (e _ (by omega) (by omega))
  refine ⟨⟨FRb_F r1 e r2.1.1.ov.2.1, fun n a b c => ?_⟩, ?_, r3⟩
  · rw [e n a (by omega)] at c
    rw [es n a b]; exact rc n a b c
  · exact FWf_C (FWf_F r2 e) (fun n a b c => es n a b)
theorem Wf_0 (W : Int → Int) : Wf W 0 = W := by funext k; unfold Wf; rw [Int.zero_add]
/-- worlds told alike -/
def EW (W' W : Int → Int) : Prop := ∀ k, 0 ≤ k → k < 2880 → W' k = W k
theorem EW.f {W' W : Int → Int} (e : EW W' W) {fo : Int} (f0 : 0 ≤ fo) (f1 : fo ≤ 2588) : E292 (Wf W' fo) (Wf W fo) := fun k k0 k1 => e (fo + k) (by omega) (by omega)
theorem SR_W {h : HP} {a np : Nat} {W' W : Int → Int} (r : SR h a W np) (e : EW W' W) : SR h a W' np := by
  obtain ⟨r1, r2, r3, r4, r5⟩ := r
  refine ⟨FRx_F r1 (e.f (by omega) (by omega)), by rw [e 2628 (by omega) (by omega)]; exact r2, by rw [e 2629 (by omega) (by omega)]; exact r3, fun r hr => ?_, fun s hs => ?_⟩
  · rw [e 2628 (by omega) (by omega)] at hr
    exact FRx_F (r4 r hr) (e.f (by omega) (by omega))
  · rw [e 2629 (by omega) (by omega)] at hs
    obtain ⟨s1, s2, s3, s4⟩ := r5 s hs
    have hb : (s : Int) < 10 := by omega
    refine ⟨by rw [e _ (by omega) (by omega)]; exact s1, by rw [e _ (by omega) (by omega)]; exact s2, by rw [e _ (by omega) (by omega), e 2628 (by omega) (by omega)]; exact s3, fun f f0 f1 => ?_⟩
    rw [e _ (by omega) (by omega)]; exact s4 f f0 f1
theorem SheetEq_ShR {h g : HP} {a a' : Nat} {W : Int → Int} {o : Int} (r : ShR h a W o) (e : SheetEq g a' h a) : ShR g a' W o := by
  obtain ⟨r1, r2, r3, r4⟩ := r
  refine ⟨by rw [e.1]; exact r1, r2, r3, fun f f0 f1 => ?_⟩
  rw [e.2 f.toNat (by omega)]; exact r4 f f0 f1
theorem SR_eq {h g : HP} {a a' : Nat} {W : Int → Int} {np np' : Nat} (r : SR h a W np) (e : StateEq g a' h a) (ts : TS2 h g) (pl : PlS np h g) (e5 : hA g 985 = hA h 985) (hn : np ≤ np') (er : ∀ r : Nat, r < 8 → FormEq g (115 + 36 * r) h (115 + 36 * r)) : SR g a' W np' := by
  obtain ⟨r1, r2, r3, r4, r5⟩ := r
  obtain ⟨e1, e2, e3, e4⟩ := e
  exact ⟨FRx_eq r1 e1 ts pl e5 hn, by rw [e2]; exact r2, by rw [e3]; exact r3, fun q hq => FRx_eq (r4 q hq) (er q (by omega)) ts pl e5 hn, fun q hq => SheetEq_ShR (r5 q hq) (e4 q (by omega))⟩
/-- nothing has changed in a stretch of objects -/
theorem FormEq_sm {h g : HP} {a : Nat} (s : ∀ x, inF a x → Sm h g x) : FormEq g a h a := by
  have sa := s a ⟨by omega, by omega⟩
  refine ⟨fun f _ => sa.1 f, fun i hi => ?_⟩
  have s1 := s (a + 1) ⟨by omega, by omega⟩
  have s2 := s (a + 4 + i) ⟨by omega, by omega⟩
  exact ⟨s1.2.2.2.1 i, s2.1 _, s2.2.1 _, s2.1 _, s2.1 _, s2.1 _, s2.1 _, s2.1 _, s2.2.2.1 _, s2.1 _, s2.1 _⟩
theorem StateEq_sm {h g : HP} {a : Nat} (s : ∀ x, inS a x → Sm h g x) : StateEq g a h a := by
  have sa := s a ⟨by omega, by omega⟩
  refine ⟨FormEq_sm (fun x hx => s x ⟨by have := hx.1; omega, by have := hx.2; omega⟩), sa.1 _, sa.1 _, fun i hi => ?_⟩
  have s1 := s (a + 38 + 2 * i) ⟨by omega, by omega⟩
  have s2 := s (a + 38 + 2 * i + 1) ⟨by omega, by omega⟩
  exact ⟨s1.1 _, fun q _ => s2.2.2.2.1 q⟩
section
variable {g g' : HP} {l : List Nat}
theorem Mo.sm (p : Mo l g g') {x : Nat} (hx : x < 983) : Sm g g' x := ⟨fun f => p.Ix (by omega), fun f => p.Jx (by omega), fun f => by rw [p.R], fun i => by rw [p.Ac hx], fun i => by rw [p.Lc hx], fun i => by rw [p.Q]⟩
theorem SR_mo {a np : Nat} {W : Int → Int} (r : SR g a W np) (p : Mo l g g') (ha : a + 58 ≤ 983) (c : l.contains 985 = false) (d : PlS np g g') : SR g' a W np := by
  refine SR_eq r (StateEq_sm (fun x hx => p.sm (by have := hx.2; omega))) (TS2_mo p) d (p.A c) (Nat.le_refl _) (fun q hq => FormEq_sm (fun x hx => p.sm (by have := hx.2; omega)))
theorem RR_mo {c : Nat} (r : RR g c) (o : okM' l = true) (n24 : N24 g') (p : Mo l g g') : RR g' c := by
  obtain ⟨C, M, K, -, ⟨s1, s2, s3, sz⟩, er, np, T, h714, ⟨b, t1, t2, t3, t4, t5⟩, b1, ⟨b2, b2'⟩, b3, sr, ⟨u, pp, p1, p2, p3, p4, p5, pm, p6⟩⟩ := r
  have eW : Wm g' = Wm g := by funext q; unfold Wm; rw [p.L (okM_n o (x := 987) (by decide))]
  have eU : ∀ j, Un g' j = Un g j := by intro j; funext q; unfold Un; rw [p.L (okM_n o (x := 989) (by decide))]
  have pl : PlS np g g' := fun q _ => by rw [p.A (okM_n o (x := 990) (by decide))]
  have c5 := okM_n o (x := 985) (by decide)
  refine ⟨C.sk p.sk, M.sk p.sk, fun i hi => ?_, n24, ⟨s1, s2, s3, ?_⟩, ?_, np, T, ?_, ⟨b, ?_, ?_, t3, TB_e t4 (p.Ac (by omega)), TB_e t5 (p.A (okM_n o (x := 984) (by decide)))⟩, b1, ⟨by rw [p.hs]; exact b2, by rw [p.hs]; exact b2'⟩, by rw [p.hl]; exact b3, ?_, ⟨u, pp, p1, p2, ?_, ?_, ?_, by rw [eW, show Un g' = Un g from funext eU]; exact pm, fun j hj => ?_⟩⟩
  · rw [p.Lc (by omega)]; exact K i hi
  · rw [p.A c5]; exact sz
  · rw [p.Ix (by omega), p.I (okM_n o (x := 706) (by decide))]; exact er
  · rw [p.I (okM_n o (x := 714) (by decide))]; exact h714
  · rw [p.Ix (by omega)]; exact t1
  · rw [p.I (okM_n o (x := 705) (by decide))]; exact t2
  · rw [eW]; exact SR_mo sr p (by omega) c5 pl
  · rw [p.Ix (by omega)]; exact p3
  · rw [p.Ix (by omega)]; exact p4
  · rw [p.I (okM_n o (x := 712) (by decide))]; exact p5
  · have hq : psl u pp j < 10 := Nat.mod_lt _ (by omega)
    rw [eU]; exact SR_mo (p6 j hj) p (by omega) c5 pl
end
theorem RR_up {h : HP} {k k' : Nat} (r : RR h k) (e : k ≤ k') : RR h k' := by
  obtain ⟨C, M, K, n, s, er, np, T, a, b, c, ⟨d, d'⟩, f, g⟩ := r
  exact ⟨C, M, K, n, s, er, np, T, a, b, by omega, ⟨d, by omega⟩, by omega, g⟩
