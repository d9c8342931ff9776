/-! WHAT READING A TEXT LEAVES ALONE -/
section
variable {g g' : HP} {l : List Nat} {m : Nat}
theorem NodeEq_co {b : Nat} (p : Co m l g g') (o : okN l) (hb : b < hsz g) (nb : l.contains (5000 + b) = false) : NodeEq g' b g b := by
  obtain ⟨i, j⟩ := okN_I o p hb nb
  exact ⟨(i 128 (by omega) (by omega)).1, j, (i 130 (by omega) (by omega)).1, (i 131 (by omega) (by omega)).1, (i 132 (by omega) (by omega)).1, (i 133 (by omega) (by omega)).1, (i 134 (by omega) (by omega)).1, (i 135 (by omega) (by omega)).2, (i 136 (by omega) (by omega)).1, (i 137 (by omega) (by omega)).1⟩
theorem FormEq_co {a : Nat} (p : Co m l g g') (o : okS l = true) (z : 1008 ≤ hsz g) (ha : a + 36 ≤ 62 ∨ (114 < a ∧ a < 960)) : FormEq g' a g a := by
  have na := okS_n o (scB_5 (x := a) (by omega))
  refine ⟨fun f hf => ?_, fun i hi => ⟨?_, NodeEq_co p (okS_N o) (by omega) (okS_n o (scB_5 (by omega)))⟩⟩
  · have c : l.contains f = false := okS_n o (by
      rcases (show f = 0 ∨ f = 1 ∨ f = 2 ∨ f = 3 ∨ f = 4 ∨ f = 5 by omega) with e | e | e | e | e | e <;> rw [e] <;> decide)
    exact p.I (by omega) c na
  · rw [p.A (by omega) (okS_n o (scB_1 (by omega)))]
theorem StateEq_co {a : Nat} (p : Co m l g g') (o : okS l = true) (z : 1008 ≤ hsz g) (ha : a + 58 ≤ 62 ∨ (114 < a ∧ a < 940)) : StateEq g' a g a := by
  have na := okS_n o (scB_5 (x := a) (by omega))
  refine ⟨FormEq_co p o z (by omega), p.I (by omega) (okS_n o (by decide)) na, p.I (by omega) (okS_n o (by decide)) na, fun i hi => ⟨p.I (by omega) (okS_n o (by decide)) (okS_n o (scB_5 (by omega))), fun j _ => ?_⟩⟩
  rw [p.A (by omega) (okS_n o (scB_1 (by omega)))]
def Kq (h g : HP) : Prop := Sk h g ∧ StateEq g 2 h 2 ∧ (∀ r : Nat, r < 8 → FormEq g (115 + 36 * r) h (115 + 36 * r)) ∧ (∀ i : Nat, i < 10 → StateEq g (403 + 58 * i) h (403 + 58 * i)) ∧ (hA g 1 = hA h 1 ∧ hL g 104 = hL h 104 ∧ hI g 646 0 = hI h 646 0 ∧ hI g 647 0 = hI h 647 0) ∧ (∀ x, 983 ≤ x → x < 1008 → hA g x = hA h x ∧ hL g x = hL h x) ∧ ∀ f, 653 ≤ f → f < 1000 → hI g f 983 = hI h f 983
theorem Kq.t {h g k : HP} (p : Kq h g) (q : Kq g k) : Kq h k := by
  obtain ⟨a1, a2, a3, a4, ⟨a5, a6, a7, a8⟩, a9, a10⟩ := p
  obtain ⟨b1, b2, b3, b4, ⟨b5, b6, b7, b8⟩, b9, b10⟩ := q
  exact ⟨a1.trans b1, b2.t a2, fun r hr => (b3 r hr).t (a3 r hr), fun i hi => (b4 i hi).t (a4 i hi), ⟨b5.trans a5, b6.trans a6, b7.trans a7, b8.trans a8⟩, fun x x0 x1 => ⟨(b9 x x0 x1).1.trans (a9 x x0 x1).1, (b9 x x0 x1).2.trans (a9 x x0 x1).2⟩, fun f f0 f1 => (b10 f f0 f1).trans (a10 f f0 f1)⟩
theorem Kq_co (p : Co m l g g') (o : okS l = true) (z : 1008 ≤ hsz g) : Kq g g' := by
  have i0 : ∀ f, scB f = false → hI g' f 0 = hI g f 0 := fun f hf => p.I (by omega) (okS_n o hf) (okS_n o (scB_5 (x := 0) (by omega)))
  exact ⟨p.sk, StateEq_co p o z (by omega), fun r hr => FormEq_co p o z (by omega), fun i hi => StateEq_co p o z (by omega), ⟨p.A (by omega) (okS_n o (scB_1 (x := 1) (by omega))), p.L (by omega) (okS_n o (scB_1 (x := 104) (by omega))), i0 646 (by decide), i0 647 (by decide)⟩, fun x x0 x1 => ⟨p.A (by omega) (okS_n o (scB_1 (by omega))), p.L (by omega) (okS_n o (scB_1 (by omega)))⟩, fun f f0 f1 => p.I (by omega) (okS_n o (scB_m ⟨f0, f1⟩)) (okS_n o (scB_5 (x := 983) (by omega)))⟩
theorem Kq_So (p : So (inF 63) g g') : Kq g g' := by
  have s : ∀ x, (x < 63 ∨ 99 ≤ x) → Sm g g' x := fun x hx => p.2.2 x (fun z => by have := z.1; have := z.2; omega)
  exact ⟨p.1, StateEq_sm (fun x hx => s x (by have := hx.2; omega)), fun r hr => FormEq_sm (fun x hx => s x (by have := hx.1; omega)), fun i hi => StateEq_sm (fun x hx => s x (by have := hx.1; omega)), ⟨funext (s 1 (by omega)).2.2.2.1, funext (s 104 (by omega)).2.2.2.2.1, (s 0 (by omega)).1 _, (s 0 (by omega)).1 _⟩, fun x x0 x1 => ⟨funext (s x (by omega)).2.2.2.1, funext (s x (by omega)).2.2.2.2.1⟩, fun f _ _ => (s 983 (by omega)).1 f⟩
theorem Kq_I {f : Nat} (hf : f = 641 ∨ f = 642) (v : Int32) : Kq g (sI g f 0 v) := by
  have s : ∀ x, x ≠ 0 → Sm g (sI g f 0 v) x := fun x hx => Sm_I hx f v
  exact ⟨sk_sI rfl, StateEq_sm (fun x hx => s x (by have := hx.1; omega)), fun r hr => FormEq_sm (fun x hx => s x (by have := hx.1; omega)), fun i hi => StateEq_sm (fun x hx => s x (by have := hx.1; omega)), ⟨rfl, rfl, by rw [rII, if_neg (by omega)], by rw [rII, if_neg (by omega)]⟩, fun x x0 x1 => ⟨rfl, rfl⟩, fun f _ _ => (s 983 (by omega)).1 f⟩
theorem Kq_SI {z0 : Nat} (p : SI (Wst z0) g g') (z : 1008 ≤ z0) : Kq g g' := by
  have hi : ∀ f x, (x < 62 ∨ (114 < x ∧ x < 1008)) → hI g' f x = hI g f x := fun f x hx => p.I (fun w => by rcases w with w | w | w <;> omega)
  have s : ∀ x, (x < 62 ∨ (114 < x ∧ x < 1008)) → Sm g g' x := fun x hx => ⟨fun f => hi f x hx, fun f => by rw [p.J], fun f => by rw [p.R], fun i => by rw [p.A], fun i => by rw [p.L], fun i => by rw [p.Q]⟩
  exact ⟨p.sk, StateEq_sm (fun x hx => s x (by have := hx.2; omega)), fun r hr => FormEq_sm (fun x hx => s x (by have := hx.1; have := hx.2; omega)), fun i hi => StateEq_sm (fun x hx => s x (by have := hx.1; have := hx.2; omega)), ⟨by rw [p.A], by rw [p.L], hi _ _ (by omega), hi _ _ (by omega)⟩, fun x x0 x1 => ⟨by rw [p.A], by rw [p.L]⟩, fun f _ _ => hi f 983 (by omega)⟩
end
/-! THE RELATION WITHOUT THE TAPE -/
def RC (g : HP) (np : Nat) : Prop := CS g ∧ MS g ∧ KW g ∧ N24 g ∧ SzR g ∧ 1008 ≤ hsz g ∧ SR g 2 (Wm g) np ∧ PastR g np
section
variable {h g g' : HP} {np : Nat} {k : Nat}
theorem RR.rc (R : RR h k) : ∃ np T : Nat, RC h np ∧ hI h 714 983 = i32 np ∧ TapeR h T ∧ np + T ≤ 20 * k ∧ hsz h + T ≤ 1008 + 20 * k ∧ hsl h + 6 * T ≤ 80000 + 120 * k := by
  obtain ⟨C, M, K, n24, sz, er, np, T, a, b, c, ⟨d, d'⟩, f, s, P⟩ := R
  exact ⟨np, T, ⟨C, M, K, n24, sz, d, s, P⟩, a, b, c, d', f⟩
theorem RC.rr (r : RC g np) {T : Nat} (er : hI g 642 0 = hI g 706 983) (a : hI g 714 983 = i32 np) (t : TapeR g T) (b1 : np + T ≤ 20 * k) (b2 : hsz g + T ≤ 1008 + 20 * k) (b3 : hsl g + 6 * T ≤ 80000 + 120 * k) : RR g k := by
  obtain ⟨C, M, K, n24, sz, d, s, P⟩ := r
  exact ⟨C, M, K, n24, sz, er, np, T, a, t, b1, ⟨d, b2⟩, b3, s, P⟩
theorem Tape0 (a : hI g 641 0 = i32 0) (b : hI g 705 983 = i32 0) : TapeR g 0 := ⟨fun _ => 0, a, b, by omega, fun i i0 i1 => absurd i1 (by omega), fun i i0 i1 => absurd i1 (by omega)⟩
theorem RC_k (r : RC h np) (q : Kq h g) (ts : TS2 h g) : RC g np := by
  obtain ⟨C, M, K, n24, ⟨s1, s2, s3, sz⟩, d, s, ⟨u, p, p1, p2, p3, p4, p5, pm, p6⟩⟩ := r
  obtain ⟨a1, a2, a3, a4, ⟨a5, a6, a7, a8⟩, a9, a10⟩ := q
  have eW : Wm g = Wm h := by funext j; unfold Wm; rw [(a9 987 (by omega) (by omega)).2]
  have eU : Un g = Un h := by funext i j; unfold Un; rw [(a9 989 (by omega) (by omega)).2]
  have pl : PlS np h g := fun q _ => by rw [(a9 990 (by omega) (by omega)).1]
  have e5 := (a9 985 (by omega) (by omega)).1
  refine ⟨C.sk a1, M.sk a1, fun i hi => by rw [a6]; exact K i hi, n24.e (a9 991 (by omega) (by omega)).1 (a9 999 (by omega) (by omega)).1, ⟨s1, s2, s3, by rw [e5]; exact sz⟩, Nat.le_trans d ts.1, by rw [eW]; exact SR_eq s a2 ts pl e5 (Nat.le_refl _) a3, ⟨u, p, p1, p2, a7.trans p3, a8.trans p4, (a10 712 (by omega) (by omega)).trans p5, by rw [eW, eU]; exact pm, fun j hj => ?_⟩⟩
  have hq : psl u p j < 10 := Nat.mod_lt _ (by omega)
  rw [eU]; exact SR_eq (p6 j hj) (a4 _ hq) ts pl e5 (Nat.le_refl _) a3
/-- over a run of the model that leaves the world as it was -/
theorem RC_mo {l : List Nat} (r : RC g np) (p : Mo l g g') (o : (l.contains 712 || l.contains 985 || l.contains 989) = false) (pl : PlS np g g') (n24 : N24 g') (w : hL g' 987 = hL g 987) : RC g' np := by
  simp only [Bool.or_eq_false_iff] at o
  obtain ⟨C, M, K, _, ⟨s1, s2, s3, sz⟩, d, s, ⟨u, pp, p1, p2, p3, p4, p5, pm, p6⟩⟩ := r
  have eW : Wm g' = Wm g := by funext j; unfold Wm; rw [w]
  have eU : Un g' = Un g := by funext i j; unfold Un; rw [p.L o.2]
  refine ⟨C.sk p.sk, M.sk p.sk, fun i hi => by rw [p.Lc (by omega)]; exact K i hi, n24, ⟨s1, s2, s3, by rw [p.A o.1.2]; exact sz⟩, by rw [p.hs]; exact d, by rw [eW]; exact SR_mo s p (by omega) o.1.2 pl, ⟨u, pp, p1, p2, by rw [p.Ix (by omega)]; exact p3, by rw [p.Ix (by omega)]; exact p4, by rw [p.I o.1.1]; exact p5, by rw [eW, eU]; exact pm, fun j hj => ?_⟩⟩
  have hq : psl u pp j < 10 := Nat.mod_lt _ (by omega)
  rw [eU]; exact SR_mo (p6 j hj) p (by omega) o.1.2 pl
theorem RC.rem {u p : Nat} (r : RC g np) (U : UP g u p) : ∃ g1, fX10_remember 0 g = some g1 ∧ CR g g1 u p := by
  obtain ⟨g1, a, b⟩ := crem r.1 U.1 U.2.1 U.2.2.1 U.2.2.2.1 r.2.2.2.2.2.2.1.x.1.1.isB
  exact ⟨g1, a, b⟩
theorem RC.up (r : RC g np) : ∃ u p, UP g u p := by
  obtain ⟨C, M, K, n24, sz, d, s, ⟨u, p, p1, p2, p3, p4, p5, _⟩⟩ := r
  exact ⟨u, p, p1, p2, p3, p4, p5⟩
/-- over a call that keeps the old state and makes a new draft -/
theorem RC_wr {g1 g2 ga gb : HP} {u p np' : Nat} {l : List Nat} (r : RC g np) (U : UP g u p) (c : CR g g1 u p) (w : So (inF 3) g1 g2) (m : Mo l g2 ga) (o : (l.contains 712 || l.contains 985 || l.contains 989) = false) (e7 : hL ga 987 = hL g2 987) (kp : MR ga gb u) (v : So (fun x => x = 987) gb g') (pl : PlS np g g') (n24 : N24 g') (hn : np ≤ np') (ew : ∀ q, 292 ≤ q → q < 2880 → Wm g' q = Wm g q) (d : FRx g' 3 (Wm g') np') : RC g' np' := by
  simp only [Bool.or_eq_false_iff] at o
  obtain ⟨C, M, K, _, ⟨s1, s2, s3, sz⟩, dz, s, P⟩ := r
  obtain ⟨hu, hp, e6, e7', e12⟩ := U
  have sm1 : ∀ x, x ≠ 0 → (x < 403 ∨ 983 ≤ x) → Sm g g1 x := fun x a b => c.sm a b hp
  have sm2 : ∀ x, (x < 3 ∨ 39 ≤ x) → Sm g1 g2 x := fun x a => w.2.2 x (fun z => by have := z.1; have := z.2; omega)
  have sma : ∀ x, x < 983 → Sm g2 ga x := fun x a => m.sm a
  have smb : ∀ x, x ≠ 983 → x ≠ 989 → Sm ga gb x := fun x a b => kp.sm a b
  have smv : ∀ x, x ≠ 987 → Sm gb g' x := fun x a => v.2.2 x a
  have smL : ∀ x, x < 983 → Sm g2 g' x := fun x a => (sma x a).t ((smb x (by omega) (by omega)).t (smv x (by omega)))
  have smA : ∀ x, x ≠ 0 → x < 403 → (x < 3 ∨ 39 ≤ x) → Sm g g' x := fun x a b d => (sm1 x a (Or.inl b)).t ((sm2 x d).t (smL x (by omega)))
  have aM : ∀ x, 983 ≤ x → x ≠ 987 → x ≠ 983 → x ≠ 989 → l.contains x = false → hA g' x = hA g x ∧ hL g' x = hL g x := fun x a b b2 b3 d => by
    have q1 := (smb x b2 b3).t (smv x b)
    have q2 := (sm1 x (by omega) (Or.inr a)).t (sm2 x (by omega))
    exact ⟨(funext q1.2.2.2.1 : hA g' x = hA ga x).trans ((m.A d).trans (funext q2.2.2.2.1)), (funext q1.2.2.2.2.1 : hL g' x = hL ga x).trans ((m.L d).trans (funext q2.2.2.2.2.1))⟩
  have e985 := (aM 985 (by omega) (by omega) (by omega) (by omega) o.1.2).1
  have sk : Sk g g' := c.1.1.trans (w.1.trans (m.sk.trans (kp.1.1.trans v.1)))
  have hz : hsz g' = hsz g := by unfold hsz; rw [v.2.1, kp.1.2.1, m.1, w.2.1, c.1.2.1]
  have ts : TS2 g g' := (TS2_So ((c.1.w (T := fun x => x < 1008) (fun x z => by rcases z with z | z; omega; have := z.2; omega)).t (w.w (fun x z => by have := z.2; omega))) (fun x z => z)).t ((TS2_mo m).t (TS2_So (S := fun x => x < 1008) ((kp.1.w (fun x z => by rcases z with z | z <;> omega)).t (v.w (fun x z => by omega))) (fun x z => z)))
  have i2 : ∀ f, hI g' f 2 = hI g f 2 := fun f => (smA 2 (by omega) (by omega) (by omega)).1 f
  have rv : ∀ r : Nat, r < 8 → FormEq g' (115 + 36 * r) g (115 + 36 * r) := fun r hr => FormEq_sm (fun x hx => smA x (by have := hx.1; omega) (by have := hx.2; omega) (by have := hx.1; omega))
  have u983 : ∀ f, hI g2 f 983 = hI g f 983 := fun f => ((sm1 983 (by omega) (by omega)).t (sm2 983 (by omega))).1 f
  have sr : SR g' 2 (Wm g') np' := SR_draft s (by rw [Wf_0]; exact d) (i2 321) (i2 322) (fun i hi => ⟨(smA _ (by omega) (by omega) (by omega)).1 _, fun j _ => (smA _ (by omega) (by omega) (by omega)).2.2.2.1 j⟩) rv ew ts pl e985 hn
  refine ⟨C.sk sk, M.sk sk, fun i hi => ?_, n24, ⟨s1, s2, s3, by rw [e985]; exact sz⟩, by rw [hz]; exact dz, sr, ?_⟩
  · rw [(smA 104 (by omega) (by omega) (by omega)).2.2.2.2.1]; exact K i hi
  · refine PastR_rem P s (fun u' p' hu' hp' f6 f7 f12 => ?_) ts pl e985 (fun r hr => rv r (by have := s.2.1.2; omega)) (by rw [ew 2628 (by omega) (by omega)]; exact Int.le_refl _) hn
    obtain rfl : u' = u := by rw [e6, i32_eq (by omega) (by omega) (by omega) (by omega)] at f6; omega
    obtain rfl : p' = p := by rw [e7', i32_eq (by omega) (by omega) (by omega) (by omega)] at f7; omega
    refine Rem_mk (c := g1) (m := ga) c.1 c.2.1 c.2.2.1 c.2.2.2.1 hp (fun x hx f _ => ((sm2 x (by omega)).t (sma x (by omega))).1 f) (fun x x0 x1 => (sm2 x (by omega)).t (sma x x1)) ?_ ?_ ?_ (fun j i hj hi => ?_) (fun i hi => ?_) (fun x hx => (smb x (by omega) (by omega)).t (smv x (by omega)))
    · rw [e7]; exact funext ((sm1 987 (by omega) (by omega)).t (sm2 987 (by omega))).2.2.2.2.1
    · rw [m.L o.2]; exact funext ((sm1 989 (by omega) (by omega)).t (sm2 989 (by omega))).2.2.2.2.1
    · rw [(smv 983 (by decide)).1]; exact kp.2.1
    · rw [(smv 989 (by decide)).2.2.2.2.1]; exact kp.2.2.2.1 j i hj hi
    · rw [(smv 989 (by decide)).2.2.2.2.1]; exact kp.2.2.2.2 i hi
/-- a new form of the class, taken from where it was made -/
theorem FRx_new {F : Int → Int} {Cn : Int → List Int32} {np' a a' : Nat} (fc : FRc g a F Cn) (w : FWf F Cn np') (e : FormEq g' a' g a) (ts : TS2 g g') (sg : ∀ n, 0 ≤ n → n < 32 → F n ≠ -1 → sgm (Pt g') F n = Cn n) (z0 : hI g 0 a = hA g' 985 0) (z1 : hI g 1 a = hA g' 985 1) (z2 : hI g 2 a = hA g' 985 2) : FRx g' a' F np' :=
  ⟨FRc_eq fc w.1.1 e ts sg, FWf_C w sg, (e.1 0 (by omega)).trans z0, (e.1 1 (by omega)).trans z1, (e.1 2 (by omega)).trans z2⟩
end

