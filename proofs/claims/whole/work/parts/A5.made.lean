/-! THE START: objects made -/
section
variable {h g k : HP} {n m e t f u a x ty : Nat}
/-- all below n stands but e, and but fields of t from f on -/
def Kf (n e t f : Nat) (h g : HP) : Prop := hsz h ≤ hsz g ∧ ∀ x, x < n → x ≠ e → (htg g x = htg h x ∧ hln g x = hln h x ∧ (∀ i, hA g x i = hA h x i) ∧ (∀ i, hL g x i = hL h x i) ∧ ∀ i, hQ g x i = hQ h x i) ∧ ∀ u, (x ≠ t ∨ u < f) → hI g u x = hI h u x ∧ hJ g u x = hJ h u x ∧ hR g u x = hR h u x
theorem Kf.r : Kf n e t f h h := ⟨Nat.le_refl _, fun _ _ _ => ⟨⟨rfl, rfl, fun _ => rfl, fun _ => rfl, fun _ => rfl⟩, fun _ _ => ⟨rfl, rfl, rfl⟩⟩⟩
theorem Kf.tr {e' t' f' : Nat} (p : Kf n e t f h g) (q : Kf m e' t' f' g k) (hm : n ≤ m) (he : e' = e ∨ n ≤ e') (ht : n ≤ t' ∨ (t' = t ∧ f ≤ f')) : Kf n e t f h k := ⟨Nat.le_trans p.1 q.1, fun x hx hy => by
  obtain ⟨⟨a1, a2, a3, a4, a5⟩, a6⟩ := p.2 x hx hy
  obtain ⟨⟨b1, b2, b3, b4, b5⟩, b6⟩ := q.2 x (by omega) (by omega)
  refine ⟨⟨b1.trans a1, b2.trans a2, fun i => (b3 i).trans (a3 i), fun i => (b4 i).trans (a4 i), fun i => (b5 i).trans (a5 i)⟩, fun u hu => ?_⟩
  obtain ⟨c1, c2, c3⟩ := a6 u hu
  obtain ⟨d1, d2, d3⟩ := b6 u (by omega)
  exact ⟨d1.trans c1, d2.trans c2, d3.trans c3⟩⟩
theorem Kf.w {e' t' f' : Nat} (p : Kf n e t f h g) (hm : m ≤ n) (he : e = e' ∨ m ≤ e) (ht : m ≤ t ∨ (t' = t ∧ f' ≤ f)) : Kf m e' t' f' h g := ⟨p.1, fun x hx hy => by
  obtain ⟨a, b⟩ := p.2 x (by omega) (by omega)
  exact ⟨a, fun u hu => b u (by omega)⟩⟩
theorem isO_i (l : a < hsz h) (q : htg h a = ty) : isO h a ty = true := by
  unfold isO; rw [decide_eq_true l, q]; exact beq_self_eq_true ty
theorem Kf.O (p : Kf n e t f h g) (o : isO h x ty = true) (hx : x < n) (hy : x ≠ e) : isO g x ty = true := isO_i (Nat.lt_of_lt_of_le (isO_lt o) p.1) ((p.2 x hx hy).1.1.trans (isO_tg o))
theorem Kf.N {v : Nat} (p : Kf n e t f h g) (o : hln h x = v) (hx : x < n) (hy : x ≠ e) : hln g x = v := (p.2 x hx hy).1.2.1.trans o
theorem Kf.A {v : Int32} {i : Nat} (p : Kf n e t f h g) (o : hA h x i = v) (hx : x < n) (hy : x ≠ e) : hA g x i = v := ((p.2 x hx hy).1.2.2.1 i).trans o
theorem Kf.L {v : Int64} {i : Nat} (p : Kf n e t f h g) (o : hL h x i = v) (hx : x < n) (hy : x ≠ e) : hL g x i = v := ((p.2 x hx hy).1.2.2.2.1 i).trans o
theorem Kf.Q {v : Option Nat} {i : Nat} (p : Kf n e t f h g) (o : hQ h x i = v) (hx : x < n) (hy : x ≠ e) : hQ g x i = v := ((p.2 x hx hy).1.2.2.2.2 i).trans o
theorem Kf.I {v : Int32} (p : Kf n e t f h g) (o : hI h u x = v) (hx : x < n) (hy : x ≠ e) (hu : x ≠ t ∨ u < f) : hI g u x = v := ((p.2 x hx hy).2 u hu).1.trans o
theorem Kf.R {v : Option Nat} (p : Kf n e t f h g) (o : hR h u x = v) (hx : x < n) (hy : x ≠ e) (hu : x ≠ t ∨ u < f) : hR g u x = v := ((p.2 x hx hy).2 u hu).2.2.trans o
theorem FormAt.kf (A : FormAt h a) (p : Kf n e t f h g) (ha : a + 36 ≤ n) (he : e < a ∨ a + 36 ≤ e) (ht : t < a ∨ a + 36 ≤ t) : FormAt g a :=
  ⟨p.O A.o (by omega) (by omega), ⟨p.R A.rO (by omega) (by omega) (by omega), p.O A.oO (by omega) (by omega), p.N A.nO (by omega) (by omega)⟩, ⟨p.R A.rH (by omega) (by omega) (by omega), p.O A.oH (by omega) (by omega), p.N A.nH (by omega) (by omega)⟩, ⟨p.R A.rN (by omega) (by omega) (by omega), p.O A.oN (by omega) (by omega), p.N A.nN (by omega) (by omega)⟩, fun i hi => ⟨p.Q (A.q hi) (by omega) (by omega), p.O (A.on hi) (by omega) (by omega)⟩⟩
theorem SheetAt.kf (A : SheetAt h a) (p : Kf n e t f h g) (ha : a + 2 ≤ n) (he : e < a ∨ a + 2 ≤ e) (ht : t < a ∨ a + 2 ≤ t) : SheetAt g a :=
  ⟨p.O A.o (by omega) (by omega), p.R A.rV (by omega) (by omega) (by omega), p.O A.oV (by omega) (by omega), p.N A.nV (by omega) (by omega)⟩
theorem StateAt.kf (A : StateAt h a) (p : Kf n e t f h g) (ha : a + 58 ≤ n) (he : e < a ∨ a + 58 ≤ e) (ht : t < a ∨ a + 58 ≤ t) : StateAt g a :=
  ⟨p.O A.o (by omega) (by omega), p.R A.rD (by omega) (by omega) (by omega), A.d.kf p (by omega) (by omega) (by omega), p.R A.rS (by omega) (by omega) (by omega), p.O A.oS (by omega) (by omega), p.N A.nS (by omega) (by omega), fun i hi => ⟨p.Q (A.q hi) (by omega) (by omega), (A.sh hi).kf p (by omega) (by omega) (by omega)⟩⟩
/-- what a new form holds -/
def FZ (h : HP) (a : Nat) : Prop := hI h 0 a = i32 40 ∧ hI h 1 a = i32 40 ∧ hI h 2 a = i32 20 ∧ hI h 3 a = 0 ∧ hI h 4 a = 0 ∧ hI h 5 a = 0 ∧ ∀ q, q < 32 → hI h 128 (a + 4 + q) = 0
theorem FZ.kf (A : FZ h a) (p : Kf n e t f h g) (ha : a + 36 ≤ n) (he : e < a ∨ a + 36 ≤ e) (ht : t < a ∨ a + 36 ≤ t) : FZ g a := by
  obtain ⟨a0, a1, a2, a3, a4, a5, a6⟩ := A
  exact ⟨p.I a0 (by omega) (by omega) (by omega), p.I a1 (by omega) (by omega) (by omega), p.I a2 (by omega) (by omega) (by omega), p.I a3 (by omega) (by omega) (by omega), p.I a4 (by omega) (by omega) (by omega), p.I a5 (by omega) (by omega) (by omega), fun q hq => p.I (a6 q hq) (by omega) (by omega) (by omega)⟩
theorem kf_nw {l s : Nat} (hn : n ≤ hsz h) : Kf n e t f h (nw h ty l s) := ⟨Nat.le_succ _, fun x hx _ => by
  have ne : x ≠ hsz h := by omega
  exact ⟨⟨if_neg ne, if_neg ne, fun i => if_neg ne, fun i => if_neg ne, fun i => if_neg ne⟩, fun u _ => ⟨if_neg ne, if_neg ne, if_neg ne⟩⟩⟩
theorem kf_sR {v : Option Nat} (hb : n ≤ a ∨ (a = t ∧ f ≤ u)) : Kf n e t f h (sR h u a v) := ⟨Nat.le_refl _, fun x hx _ => ⟨⟨rfl, rfl, fun _ => rfl, fun _ => rfl, fun _ => rfl⟩, fun w hw => ⟨rfl, rfl, if_neg (by omega)⟩⟩⟩
theorem kf_sI {v : Int32} (hb : n ≤ a ∨ (a = t ∧ f ≤ u)) : Kf n e t f h (sI h u a v) := ⟨Nat.le_refl _, fun x hx _ => ⟨⟨rfl, rfl, fun _ => rfl, fun _ => rfl, fun _ => rfl⟩, fun w hw => ⟨if_neg (by omega), rfl, rfl⟩⟩⟩
theorem kf_sQ {v : Option Nat} {i : Nat} (hb : n ≤ a ∨ a = e) : Kf n e t f h (sQ h a i v) := ⟨Nat.le_refl _, fun x hx hy => ⟨⟨rfl, rfl, fun _ => rfl, fun _ => rfl, fun j => if_neg (by omega)⟩, fun w hw => ⟨rfl, rfl, rfl⟩⟩⟩
theorem kf_sL {v : Int64} {i : Nat} (hb : n ≤ a ∨ a = e) : Kf n e t f h (sL h a i v) := ⟨Nat.le_refl _, fun x hx hy => ⟨⟨rfl, rfl, fun _ => rfl, fun j => if_neg (by omega), fun _ => rfl⟩, fun w hw => ⟨rfl, rfl, rfl⟩⟩⟩
theorem kf_sA {v : Int32} {i : Nat} (hb : n ≤ a ∨ a = e) : Kf n e t f h (sA h a i v) := ⟨Nat.le_refl _, fun x hx hy => ⟨⟨rfl, rfl, fun j => if_neg (by omega), fun _ => rfl, fun _ => rfl⟩, fun w hw => ⟨rfl, rfl, rfl⟩⟩⟩
/-- an array is made and put into a field of t -/
def Al (h g : HP) (n t ty l u : Nat) : Prop := hsz g = n + 1 ∧ hsl g = hsl h + l ∧ hR g u t = some n ∧ isO g n ty = true ∧ hln g n = l ∧ ((∀ i, hA g n i = 0) ∧ (∀ i, hL g n i = 0) ∧ (∀ i, hQ g n i = none) ∧ ∀ w x, x < n → hI g w x = hI h w x) ∧ Kf n n t u h g
theorem al_mk {l : Nat} (hn : hsz h = n) (ht : t < n) : Al h (sR (nw h ty l l) u t (some n)) n t ty l u := by
  subst hn
  exact ⟨rfl, rfl, if_pos ⟨rfl, rfl⟩, isO_i (Nat.lt_succ_self _) (if_pos rfl), if_pos rfl, ⟨fun i => if_pos rfl, fun i => if_pos rfl, fun i => if_pos rfl, fun w x hx => if_neg (Nat.ne_of_lt hx)⟩, Kf.tr (kf_nw (Nat.le_refl _)) (kf_sR (n := hsz h) (e := hsz h) (t := t) (f := u) (Or.inr ⟨rfl, Nat.le_refl _⟩)) (Nat.le_refl _) (Or.inl rfl) (Or.inr ⟨rfl, Nat.le_refl _⟩)⟩
variable {K : HP → Option HP} {Z : HP → Prop} {N : Int32} {l tt : Nat}
theorem st_al (hN : iln N = true) (e : N.toNatClampNeg = l) (hn : hsz h = n) (ht : t < n) (hk : ∀ g, Al h g n t ty l u → ∃ r, K g = some r ∧ Z r) : ∃ r, (gd (iln N) <| lt (hsz h) fun a => lt (nw h ty N.toNatClampNeg N.toNatClampNeg) fun h1 => lt (sR h1 u t (some a)) fun h2 => K h2) = some r ∧ Z r := by
  rw [hN, gd_tt, lt_e, lt_e, lt_e, e, hn]; exact hk _ (al_mk hn ht)
theorem st_alG (hN : iln N = true) (e : N.toNatClampNeg = l) (hn : hsz h = n) (ht : t < n) (o : isO h t tt = true) (hk : ∀ g, Al h g n t ty l u → ∃ r, K g = some r ∧ Z r) : ∃ r, (gd (iln N) <| lt (hsz h) fun a => lt (nw h ty N.toNatClampNeg N.toNatClampNeg) fun h1 => gd (isO h1 t tt) <| lt (sR h1 u t (some a)) fun h2 => K h2) = some r ∧ Z r := by
  rw [hN, gd_tt, lt_e, lt_e, e, hn, isO_nw rfl o, gd_tt, lt_e]; exact hk _ (al_mk hn ht)
/-- a form -/
theorem node_new {f' : HP} (z : hsz f' = x) : fX2_init x (nw f' 2 0 10) = some (sI (nw f' 2 0 10) 134 x (i32 (-2))) := by
  unfold fX2_init; rw [isO_new z rfl, gd_tt, lt_e]
theorem formL : ∀ (d m i : Nat) (f : HP), i + d = 32 → d < m → isO f a 0 = true → hsz f = a + 4 + i → hR f 8 a = some (a + 3) → isO f (a + 3) 32 = true → hln f (a + 3) = 32 → (∀ q, q < i → hQ f (a + 3) q = some (a + 4 + q) ∧ isO f (a + 4 + q) 2 = true ∧ hI f 128 (a + 4 + q) = 0) → ∃ g, lX0_init_49 m a (i32 (i : Int)) f = some g ∧ Kf (a + 3) (a + 3) (a + 3) 0 f g ∧ isO g (a + 3) 32 = true ∧ hln g (a + 3) = 32 ∧ hsz g = a + 36 ∧ hsl g = hsl f + 10 * d ∧ ∀ q, q < 32 → hQ g (a + 3) q = some (a + 4 + q) ∧ isO g (a + 4 + q) 2 = true ∧ hI g 128 (a + 4 + q) = 0 := by
  intro d
  induction d with
  | zero =>
    intro m i f hi hm o z r oN nN H
    obtain ⟨m, rfl⟩ : ∃ y, m = y + 1 := ⟨m - 1, by omega⟩
    refine ⟨f, ?_, Kf.r, oN, nN, by omega, rfl, fun q hq => H q (by omega)⟩
    rw [elX0_init_49]; unfold bX0_init_49
    rw [if_pos (by rw [i32_le (by omega) (by omega) (by omega) (by omega)]; omega)]
  | succ d ih =>
    intro m i f hi hm o z r oN nN H
    obtain ⟨m, rfl⟩ : ∃ y, m = y + 1 := ⟨m - 1, by omega⟩
    obtain ⟨f0, e0⟩ : ∃ f0, f0 = sI (nw f 2 0 10) 134 (a + 4 + i) (i32 (-2)) := ⟨_, rfl⟩
    obtain ⟨f1, e1⟩ : ∃ f1, f1 = sQ f0 (a + 3) i (some (a + 4 + i)) := ⟨_, rfl⟩
    have o0 : ∀ x ty, isO f x ty = true → isO f0 x ty = true := fun x ty w => by rw [e0]; exact isO_sI rfl (isO_nw rfl w)
    have o1 : ∀ x ty, isO f0 x ty = true → isO f1 x ty = true := fun x ty w => by rw [e1]; exact isO_sQ rfl w
    have on : isO f0 (a + 4 + i) 2 = true := by rw [e0]; exact isO_sI rfl (isO_new z rfl)
    have n0 : hln f0 (a + 3) = 32 := by
      rw [e0]; show (if a + 3 = hsz f then 0 else hln f (a + 3)) = 32
      rw [if_neg (by omega)]; exact nN
    have k1 : Kf (a + 3) (a + 3) (a + 3) 0 f f1 := by
      rw [e1, e0]
      exact (Kf.tr (kf_nw (h := f) (n := a + 3) (e := a + 3) (t := a + 3) (f := 0) (by omega)) (kf_sI (n := a + 3) (e := a + 3) (t := a + 3) (f := 0) (Or.inl (by omega))) (Nat.le_refl _) (Or.inl rfl) (Or.inr ⟨rfl, Nat.le_refl _⟩)).tr (kf_sQ (n := a + 3) (e := a + 3) (t := a + 3) (f := 0) (Or.inl (by omega))) (Nat.le_refl _) (Or.inl rfl) (Or.inr ⟨rfl, Nat.le_refl _⟩)
    obtain ⟨g, a1, a2, a3, a4, a5, a6, a7⟩ := ih m (i + 1) f1 (by omega) (by omega) (o1 _ _ (o0 _ _ o)) (by rw [e1, e0]; show hsz f + 1 = _; omega) (k1.R r (by omega) (by omega) (by omega)) (o1 _ _ (o0 _ _ oN)) (by rw [e1]; exact n0) (fun q hq => by
      by_cases y : q = i
      · subst y
        refine ⟨by rw [e1, rQQ, if_pos ⟨rfl, rfl⟩], o1 _ _ on, ?_⟩
        rw [e1, rIQ, e0, rII, if_neg (by omega), rIN, if_pos z.symm]
      · obtain ⟨b1, b2, b3⟩ := H q (by omega)
        refine ⟨?_, o1 _ _ (o0 _ _ b2), ?_⟩
        · rw [e1, rQQ, if_neg (by omega), e0, rQI, rQN, if_neg (by omega)]; exact b1
        · rw [e1, rIQ, e0, rII, if_neg (by omega), rIN, if_neg (by omega)]; exact b3)
    refine ⟨g, ?_, k1.tr a2 (Nat.le_refl _) (Or.inl rfl) (Or.inr ⟨rfl, Nat.le_refl _⟩), a3, a4, a5, ?_, a7⟩
    · rw [elX0_init_49]; unfold bX0_init_49
      rw [if_neg (by rw [i32_le (by omega) (by omega) (by omega) (by omega)]; omega), o, gd_tt, lt_e, z, lt_e, node_new z, bn_s, r, oc_s, ← e0, o0 _ _ oN, gd_tt, n0, i32_inb (by omega) (by omega) (by omega), gd_tt, on, gd_tt, i32_cn (by omega) (by omega), show ((i : Int)).toNat = i from rfl, ← e1, lt_e, lt_e, i32_add]
      exact a1
    · rw [a6, e1, e0]
      show hsl f + 10 + 10 * d = _
      omega
theorem form_new (z : hsz h = a) : ∃ g, fX0_init a (nw h 0 0 9) = some g ∧ Kf a a a 0 h g ∧ hsz g = a + 36 ∧ hsl g = hsl h + 425 ∧ FormAt g a ∧ FZ g a := by
  obtain ⟨h0, e0⟩ : ∃ h0, h0 = nw h 0 0 9 := ⟨_, rfl⟩
  have o0 : isO h0 a 0 = true := by rw [e0]; exact isO_new z rfl
  have z0 : hsz h0 = a + 1 := by rw [e0]; show hsz h + 1 = _; omega
  have i0 : ∀ u, hI h0 u a = 0 := fun u => by rw [e0, rIN, if_pos z.symm]
  have k0 : Kf a a a 0 h h0 := by rw [e0]; exact kf_nw (by omega)
  have s0 : hsl h0 = hsl h + 9 := by rw [e0]; rfl
  rw [← e0]
  unfold fX0_init
  rw [o0, gd_tt, lt_e, lt_e, lt_e]
  obtain ⟨h4, e4⟩ : ∃ h4, h4 = sI (sI (sI h0 0 a (i32 40)) 1 a (i32 40)) 2 a (i32 20) := ⟨_, rfl⟩
  have o4 : isO h4 a 0 = true := by rw [e4]; exact isO_sI rfl (isO_sI rfl (isO_sI rfl o0))
  have k4 : Kf a a a 0 h h4 := by
    rw [e4]
    have kI : ∀ {h : HP} {u v}, Kf a a a 0 h (sI h u a v) := fun {h u v} => kf_sI (Or.inl (Nat.le_refl _))
    exact ((k0.tr kI (Nat.le_refl _) (Or.inl rfl) (Or.inr ⟨rfl, Nat.le_refl _⟩)).tr kI (Nat.le_refl _) (Or.inl rfl) (Or.inr ⟨rfl, Nat.le_refl _⟩)).tr kI (Nat.le_refl _) (Or.inl rfl) (Or.inr ⟨rfl, Nat.le_refl _⟩)
  have z4 : hsz h4 = a + 1 := by rw [e4]; exact z0
  have s4 : hsl h4 = hsl h + 9 := by rw [e4]; exact s0
  have i4 : hI h4 0 a = i32 40 ∧ hI h4 1 a = i32 40 ∧ hI h4 2 a = i32 20 ∧ hI h4 3 a = 0 ∧ hI h4 4 a = 0 ∧ hI h4 5 a = 0 := by
    rw [e4]
    refine ⟨?_, ?_, ?_, ?_, ?_, ?_⟩
    · rw [rII, if_neg (by omega), rII, if_neg (by omega), rII, if_pos ⟨rfl, rfl⟩]
    · rw [rII, if_neg (by omega), rII, if_pos ⟨rfl, rfl⟩]
    · rw [rII, if_pos ⟨rfl, rfl⟩]
    all_goals rw [rII, if_neg (by omega), rII, if_neg (by omega), rII, if_neg (by omega), i0]
  rw [← e4]
  refine st_al (l := 32) (by decide) (by decide) z4 (by omega) (fun g1 A1 => ?_)
  obtain ⟨b1, b2, b3, b4, b5, -, b7⟩ := A1
  refine st_al (l := 32) (by decide) (by decide) b1 (by omega) (fun g2 A2 => ?_)
  obtain ⟨c1, c2, c3, c4, c5, -, c7⟩ := A2
  refine st_al (l := 32) (by decide) (by decide) c1 (by omega) (fun g3 A3 => ?_)
  obtain ⟨d1, d2, d3, d4, d5, -, d7⟩ := A3
  have o1 : isO g1 a 0 = true := b7.O o4 (by omega) (by omega)
  have o2 : isO g2 a 0 = true := c7.O o1 (by omega) (by omega)
  have o3 : isO g3 a 0 = true := d7.O o2 (by omega) (by omega)
  obtain ⟨g, q1, q2, q3, q4, q5, q6, q7⟩ := formL (a := a) 32 FU 0 g3 (by omega) (by decide) o3 (by omega) d3 d4 d5 (fun q hq => by omega)
  refine ⟨g, q1, ?_, q5, by rw [q6, d2, c2, b2, s4], ⟨?_, ⟨?_, ?_, ?_⟩, ⟨?_, ?_, ?_⟩, ⟨?_, q3, q4⟩, fun i hi => ⟨(q7 i hi).1, (q7 i hi).2.1⟩⟩, ⟨?_, ?_, ?_, ?_, ?_, ?_, fun q hq => (q7 q hq).2.2⟩⟩
  · exact (((k4.tr b7 (by omega) (by omega) (by omega)).tr c7 (by omega) (by omega) (by omega)).tr d7 (by omega) (by omega) (by omega)).tr q2 (by omega) (by omega) (by omega)
  · exact q2.O o3 (by omega) (by omega)
  · exact q2.R (d7.R (c7.R b3 (by omega) (by omega) (by omega)) (by omega) (by omega) (by omega)) (by omega) (by omega) (by omega)
  · exact q2.O (d7.O (c7.O b4 (by omega) (by omega)) (by omega) (by omega)) (by omega) (by omega)
  · exact q2.N (d7.N (c7.N b5 (by omega) (by omega)) (by omega) (by omega)) (by omega) (by omega)
  · exact q2.R (d7.R c3 (by omega) (by omega) (by omega)) (by omega) (by omega) (by omega)
  · exact q2.O (d7.O c4 (by omega) (by omega)) (by omega) (by omega)
  · exact q2.N (d7.N c5 (by omega) (by omega)) (by omega) (by omega)
  · exact q2.R d3 (by omega) (by omega) (by omega)
  all_goals refine q2.I (d7.I (c7.I (b7.I (v := _) ?_ (by omega) (by omega) (by omega)) (by omega) (by omega) (by omega)) (by omega) (by omega) (by omega)) (by omega) (by omega) (by omega)
  · exact i4.1
  · exact i4.2.1
  · exact i4.2.2.1
  · exact i4.2.2.2.1
  · exact i4.2.2.2.2.1
  · exact i4.2.2.2.2.2
/-- a sheet -/
theorem sheet_new (z : hsz h = a) : ∃ g, fX4_init a (nw h 4 0 2) = some g ∧ Kf a a a 0 h g ∧ hsz g = a + 2 ∧ hsl g = hsl h + 26 ∧ SheetAt g a := by
  obtain ⟨h0, e0⟩ : ∃ h0, h0 = nw h 4 0 2 := ⟨_, rfl⟩
  have o0 : isO h0 a 4 = true := by rw [e0]; exact isO_new z rfl
  have z0 : hsz h0 = a + 1 := by rw [e0]; show hsz h + 1 = _; omega
  have k0 : Kf a a a 0 h h0 := by rw [e0]; exact kf_nw (by omega)
  have s0 : hsl h0 = hsl h + 2 := by rw [e0]; rfl
  rw [← e0]
  unfold fX4_init
  refine st_alG (l := 24) (by decide) (by decide) z0 (by omega) o0 (fun g1 A1 => ?_)
  obtain ⟨b1, b2, b3, b4, b5, -, b7⟩ := A1
  exact ⟨g1, rfl, k0.tr b7 (by omega) (by omega) (by omega), by omega, by omega, b7.O o0 (by omega) (by omega), b3, b4, b5⟩
theorem stateL : ∀ (d m i : Nat) (f : HP), i + d = 10 → d < m → isO f a 5 = true → hsz f = a + 38 + 2 * i → hR f 323 a = some (a + 37) → isO f (a + 37) 34 = true → hln f (a + 37) = 10 → (∀ q, q < i → hQ f (a + 37) q = some (a + 38 + 2 * q) ∧ SheetAt f (a + 38 + 2 * q)) → ∃ g, lX5_init_26 m a (i32 (i : Int)) f = some g ∧ Kf (a + 37) (a + 37) (a + 37) 0 f g ∧ isO g (a + 37) 34 = true ∧ hln g (a + 37) = 10 ∧ hsz g = a + 58 ∧ hsl g = hsl f + 26 * d ∧ ∀ q, q < 10 → hQ g (a + 37) q = some (a + 38 + 2 * q) ∧ SheetAt g (a + 38 + 2 * q) := by
  intro d
  induction d with
  | zero =>
    intro m i f hi hm o z r oN nN H
    obtain ⟨m, rfl⟩ : ∃ y, m = y + 1 := ⟨m - 1, by omega⟩
    refine ⟨f, ?_, Kf.r, oN, nN, by omega, rfl, fun q hq => H q (by omega)⟩
    rw [elX5_init_26]; unfold bX5_init_26
    rw [if_pos (by rw [i32_le (by omega) (by omega) (by omega) (by omega)]; omega)]
  | succ d ih =>
    intro m i f hi hm o z r oN nN H
    obtain ⟨m, rfl⟩ : ∃ y, m = y + 1 := ⟨m - 1, by omega⟩
    obtain ⟨f0, x1, x2, x3, x4, x5⟩ := sheet_new z
    obtain ⟨f1, e1⟩ : ∃ f1, f1 = sQ f0 (a + 37) i (some (a + 38 + 2 * i)) := ⟨_, rfl⟩
    have k1 : Kf (a + 38 + 2 * i) (a + 37) (a + 38 + 2 * i) 0 f f1 := by
      rw [e1]
      exact (x2.w (m := a + 38 + 2 * i) (e' := a + 37) (t' := a + 38 + 2 * i) (f' := 0) (Nat.le_refl _) (Or.inr (Nat.le_refl _)) (Or.inl (Nat.le_refl _))).tr (kf_sQ (n := a + 38 + 2 * i) (e := a + 37) (t := a + 38 + 2 * i) (f := 0) (Or.inr rfl)) (Nat.le_refl _) (Or.inl rfl) (Or.inl (Nat.le_refl _))
    have k2 : Kf (a + 38 + 2 * i + 2) (a + 37) (a + 38 + 2 * i + 2) 0 f0 f1 := by rw [e1]; exact kf_sQ (Or.inr rfl)
    have oN0 : isO f0 (a + 37) 34 = true := x2.O oN (by omega) (by omega)
    have n0 : hln f0 (a + 37) = 10 := x2.N nN (by omega) (by omega)
    obtain ⟨g, a1, a2, a3, a4, a5, a6, a7⟩ := ih m (i + 1) f1 (by omega) (by omega) (k1.O o (by omega) (by omega)) (by rw [e1]; show hsz f0 = _; omega) (k1.R r (by omega) (by omega) (by omega)) (by rw [e1]; exact isO_sQ rfl oN0) (by rw [e1]; exact n0) (fun q hq => by
      by_cases y : q = i
      · subst y
        exact ⟨by rw [e1, rQQ, if_pos ⟨rfl, rfl⟩], x5.kf k2 (by omega) (by omega) (by omega)⟩
      · obtain ⟨b1, b2⟩ := H q (by omega)
        refine ⟨?_, b2.kf k1 (by omega) (by omega) (by omega)⟩
        rw [e1, rQQ, if_neg (by omega)]; exact x2.Q b1 (by omega) (by omega))
    refine ⟨g, ?_, (k1.w (m := a + 37) (e' := a + 37) (t' := a + 37) (f' := 0) (by omega) (Or.inl rfl) (Or.inl (by omega))).tr a2 (Nat.le_refl _) (Or.inl rfl) (Or.inr ⟨rfl, Nat.le_refl _⟩), a3, a4, a5, ?_, a7⟩
    · rw [elX5_init_26]; unfold bX5_init_26
      rw [if_neg (by rw [i32_le (by omega) (by omega) (by omega) (by omega)]; omega), o, gd_tt, lt_e, z, lt_e, x1, bn_s, r, oc_s, oN0, gd_tt, n0, i32_inb (by omega) (by omega) (by omega), gd_tt, x5.o, gd_tt, i32_cn (by omega) (by omega), show ((i : Int)).toNat = i from rfl, ← e1, lt_e, lt_e, i32_add]
      exact a1
    · rw [a6, e1]
      show hsl f0 + 26 * d = _
      omega
theorem state_new (z : hsz h = a) : ∃ g, fX5_init a (nw h 5 0 4) = some g ∧ Kf a a a 0 h g ∧ hsz g = a + 58 ∧ hsl g = hsl h + 699 ∧ StateAt g a ∧ FZ g (a + 1) ∧ hI g 321 a = 0 ∧ hI g 322 a = 0 := by
  obtain ⟨h0, e0⟩ : ∃ h0, h0 = nw h 5 0 4 := ⟨_, rfl⟩
  have o0 : isO h0 a 5 = true := by rw [e0]; exact isO_new z rfl
  have z0 : hsz h0 = a + 1 := by rw [e0]; show hsz h + 1 = _; omega
  have i0 : ∀ u, hI h0 u a = 0 := fun u => by rw [e0, rIN, if_pos z.symm]
  have k0 : Kf a a a 0 h h0 := by rw [e0]; exact kf_nw (by omega)
  have s0 : hsl h0 = hsl h + 4 := by rw [e0]; rfl
  rw [← e0]
  unfold fX5_init
  obtain ⟨g0, x1, x2, x3, x4, x5, x6⟩ := form_new z0
  rw [lt_e, lt_e, z0, x1, bn_s, x2.O o0 (by omega) (by omega), gd_tt, lt_e]
  obtain ⟨g1, e1⟩ : ∃ g1, g1 = sR g0 320 a (some (a + 1)) := ⟨_, rfl⟩
  have k1 : Kf (a + 37) (a + 37) a 320 g0 g1 := by rw [e1]; exact kf_sR (Or.inr ⟨rfl, Nat.le_refl _⟩)
  have o1 : isO g1 a 5 = true := k1.O (x2.O o0 (by omega) (by omega)) (by omega) (by omega)
  have r1 : hR g1 320 a = some (a + 1) := by rw [e1, rRR, if_pos ⟨rfl, rfl⟩]
  have i1 : ∀ u, hI g1 u a = 0 := fun u => by rw [e1, rIR]; exact x2.I (i0 u) (by omega) (by omega) (by omega)
  have z1 : hsz g1 = a + 37 := by rw [e1]; show hsz g0 = _; omega
  have s1 : hsl g1 = hsl g0 := by rw [e1]; rfl
  rw [← e1]
  refine st_al (l := 10) (by decide) (by decide) z1 (by omega) (fun g2 A2 => ?_)
  obtain ⟨b1, b2, b3, b4, b5, -, b7⟩ := A2
  obtain ⟨g, q1, q2, q3, q4, q5, q6, q7⟩ := stateL (a := a) 10 FU 0 g2 (by omega) (by decide) (b7.O o1 (by omega) (by omega)) (by omega) b3 b4 b5 (fun q hq => by omega)
  have F1 := (((x5.kf k1 (by omega) (by omega) (by omega)).kf b7 (by omega) (by omega) (by omega)).kf q2 (by omega) (by omega) (by omega))
  have F2 := (((x6.kf k1 (by omega) (by omega) (by omega)).kf b7 (by omega) (by omega) (by omega)).kf q2 (by omega) (by omega) (by omega))
  refine ⟨g, q1, ?_, q5, by omega, ⟨?_, ?_, F1, ?_, q3, q4, q7⟩, F2, ?_, ?_⟩
  · exact (((k0.tr x2 (by omega) (by omega) (by omega)).tr k1 (by omega) (by omega) (by omega)).tr b7 (by omega) (by omega) (by omega)).tr q2 (by omega) (by omega) (by omega)
  · exact q2.O (b7.O o1 (by omega) (by omega)) (by omega) (by omega)
  · exact q2.R (b7.R r1 (by omega) (by omega) (by omega)) (by omega) (by omega) (by omega)
  · exact q2.R b3 (by omega) (by omega) (by omega)
  · exact q2.I (b7.I (i1 321) (by omega) (by omega) (by omega)) (by omega) (by omega) (by omega)
  · exact q2.I (b7.I (i1 322) (by omega) (by omega) (by omega)) (by omega) (by omega) (by omega)
end

section
variable {h g k : HP} {n m e t f u a x ty : Nat}
/-- the words of the class -/
theorem pk_h (h : HP) : ∀ (n v0 : Nat) (v1 : Int64) (v3 : Int32), lX7_packed_4 h n v0 v1 v3 = lX7_packed_4 hp0 n v0 v1 v3 := by
  intro n
  induction n with
  | zero => intro v0 v1 v3; rfl
  | succ n ih =>
    intro v0 v1 v3
    rw [elX7_packed_4, elX7_packed_4]
    have e : (fun v0 v1 v3 => lX7_packed_4 h n v0 v1 v3) = (fun v0 v1 v3 => lX7_packed_4 hp0 n v0 v1 v3) := by
      funext a b c; exact ih a b c
    rw [e]; rfl
theorem pk_v (h : HP) (i : Nat) (hi : i < 10) : fX7_packed i h = some (i64 (lft (kws.getD i 0))) := by
  have e : fX7_packed i h = fX7_packed i hp0 := pk_h h FU i (i64 0) (i32 0)
  rw [e]
  have all : ∀ i : Fin 10, fX7_packed i.val hp0 = some (i64 (lft (kws.getD i.val 0))) := by decide +kernel
  exact all ⟨i, hi⟩
theorem keysL : ∀ (d m i : Nat) (f : HP), i + d = 10 → d < m → isO f 99 7 = true → hR f 458 99 = some 104 → isO f 104 23 = true → hln f 104 = 10 → (∀ q, q < i → hL f 104 q = i64 (lft (kws.getD q 0))) → ∃ g, lX7_init_50 m 99 (i32 (i : Int)) f = some g ∧ Kf 105 104 105 0 f g ∧ hsz g = hsz f ∧ hsl g = hsl f ∧ isO g 104 23 = true ∧ hln g 104 = 10 ∧ ∀ q, q < 10 → hL g 104 q = i64 (lft (kws.getD q 0)) := by
  intro d
  induction d with
  | zero =>
    intro m i f hi hm o r oN nN H
    obtain ⟨m, rfl⟩ : ∃ y, m = y + 1 := ⟨m - 1, by omega⟩
    refine ⟨f, ?_, Kf.r, rfl, rfl, oN, nN, fun q hq => H q (by omega)⟩
    rw [elX7_init_50]; unfold bX7_init_50
    rw [if_pos (by rw [i32_le (by omega) (by omega) (by omega) (by omega)]; omega)]
  | succ d ih =>
    intro m i f hi hm o r oN nN H
    obtain ⟨m, rfl⟩ : ∃ y, m = y + 1 := ⟨m - 1, by omega⟩
    obtain ⟨f1, e1⟩ : ∃ f1, f1 = sL f 104 i (i64 (lft (kws.getD i 0))) := ⟨_, rfl⟩
    have k1 : Kf 105 104 105 0 f f1 := by rw [e1]; exact kf_sL (Or.inr rfl)
    obtain ⟨g, a1, a2, a3, a4, a5, a6, a7⟩ := ih m (i + 1) f1 (by omega) (by omega) (k1.O o (by omega) (by omega)) (k1.R r (by omega) (by omega) (by omega)) (by rw [e1]; exact isO_sL rfl oN) (by rw [e1]; exact nN) (fun q hq => by
      rw [e1, rLL]
      by_cases y : q = i
      · rw [if_pos ⟨rfl, y⟩, y]
      · rw [if_neg (fun w => y w.2)]; exact H q (by omega))
    refine ⟨g, ?_, k1.tr a2 (Nat.le_refl _) (Or.inl rfl) (Or.inl (Nat.le_refl _)), a3.trans (by rw [e1]; rfl), a4.trans (by rw [e1]; rfl), a5, a6, a7⟩
    rw [elX7_init_50]; unfold bX7_init_50
    rw [if_neg (by rw [i32_le (by omega) (by omega) (by omega) (by omega)]; omega), o, gd_tt, i32_add, kw_no i (by omega), bn_s, pk_v f i (by omega), bn_s, r, oc_s, oN, gd_tt, nN, i32_inb (by omega) (by omega) (by omega), gd_tt, i32_cn (by omega) (by omega), show ((i : Int)).toNat = i from rfl, ← e1, lt_e, lt_e, i32_add]
    exact a1
/-- the tokens -/
def TKA (h : HP) : Prop := isO h 99 7 = true ∧ (hR h 454 99 = some 100 ∧ isO h 100 20 = true ∧ hln h 100 = 1200) ∧ (hR h 455 99 = some 101 ∧ isO h 101 20 = true ∧ hln h 101 = 1200) ∧ (hR h 456 99 = some 102 ∧ isO h 102 20 = true ∧ hln h 102 = 1200) ∧ (hR h 457 99 = some 103 ∧ isO h 103 23 = true ∧ hln h 103 = 1200) ∧ (hR h 458 99 = some 104 ∧ isO h 104 23 = true ∧ hln h 104 = 10) ∧ KW h
theorem TKA.kf (A : TKA h) (p : Kf n e t f h g) (hn : 105 ≤ n) (he : e < 99 ∨ 105 ≤ e) (ht : t < 99 ∨ 105 ≤ t) : TKA g := by
  obtain ⟨a0, ⟨b1, b2, b3⟩, ⟨c1, c2, c3⟩, ⟨d1, d2, d3⟩, ⟨e1, e2, e3⟩, ⟨f1, f2, f3⟩, w⟩ := A
  exact ⟨p.O a0 (by omega) (by omega), ⟨p.R b1 (by omega) (by omega) (by omega), p.O b2 (by omega) (by omega), p.N b3 (by omega) (by omega)⟩, ⟨p.R c1 (by omega) (by omega) (by omega), p.O c2 (by omega) (by omega), p.N c3 (by omega) (by omega)⟩, ⟨p.R d1 (by omega) (by omega) (by omega), p.O d2 (by omega) (by omega), p.N d3 (by omega) (by omega)⟩, ⟨p.R e1 (by omega) (by omega) (by omega), p.O e2 (by omega) (by omega), p.N e3 (by omega) (by omega)⟩, ⟨p.R f1 (by omega) (by omega) (by omega), p.O f2 (by omega) (by omega), p.N f3 (by omega) (by omega)⟩, fun i hi => p.L (w i hi) (by omega) (by omega)⟩
theorem tokens_new (z : hsz h = 99) : ∃ g, fX7_init 99 (nw h 7 0 11) = some g ∧ Kf 99 99 99 0 h g ∧ hsz g = 105 ∧ hsl g = hsl h + 4821 ∧ TKA g := by
  obtain ⟨h0, e0⟩ : ∃ h0, h0 = nw h 7 0 11 := ⟨_, rfl⟩
  have o0 : isO h0 99 7 = true := by rw [e0]; exact isO_new z rfl
  have z0 : hsz h0 = 100 := by rw [e0]; show hsz h + 1 = _; omega
  have k0 : Kf 99 99 99 0 h h0 := by rw [e0]; exact kf_nw (by omega)
  have s0 : hsl h0 = hsl h + 11 := by rw [e0]; rfl
  rw [← e0]
  unfold fX7_init
  refine st_alG (l := 1200) (by decide) (by decide) z0 (by omega) o0 (fun g1 A1 => ?_)
  obtain ⟨z1, s1, r1, o1, n1, -, k1⟩ := A1
  refine st_al (l := 1200) (by decide) (by decide) z1 (by omega) (fun g2 A2 => ?_)
  obtain ⟨z2, s2, r2, o2, n2, -, k2⟩ := A2
  refine st_al (l := 1200) (by decide) (by decide) z2 (by omega) (fun g3 A3 => ?_)
  obtain ⟨z3, s3, r3, o3, n3, -, k3⟩ := A3
  refine st_al (l := 1200) (by decide) (by decide) z3 (by omega) (fun g4 A4 => ?_)
  obtain ⟨z4, s4, r4, o4, n4, -, k4⟩ := A4
  refine st_al (l := 10) (by decide) (by decide) z4 (by omega) (fun g5 A5 => ?_)
  obtain ⟨z5, s5, r5, o5, n5, -, k5⟩ := A5
  have p5 : Kf 105 105 99 500 g5 g5 := Kf.r
  have p4 : Kf 104 105 99 458 g4 g5 := k5.w (by omega) (by omega) (by omega)
  have p3 : Kf 103 105 99 457 g3 g5 := (k4.w (m := 103) (e' := 105) (t' := 99) (f' := 457) (by omega) (by omega) (by omega)).tr p4 (by omega) (by omega) (by omega)
  have p2 : Kf 102 105 99 456 g2 g5 := (k3.w (m := 102) (e' := 105) (t' := 99) (f' := 456) (by omega) (by omega) (by omega)).tr p3 (by omega) (by omega) (by omega)
  have p1 : Kf 101 105 99 455 g1 g5 := (k2.w (m := 101) (e' := 105) (t' := 99) (f' := 455) (by omega) (by omega) (by omega)).tr p2 (by omega) (by omega) (by omega)
  have p0 : Kf 100 105 99 454 h0 g5 := (k1.w (m := 100) (e' := 105) (t' := 99) (f' := 454) (by omega) (by omega) (by omega)).tr p1 (by omega) (by omega) (by omega)
  obtain ⟨g, a1, a2, a3, a4, a5, a6, a7⟩ := keysL 10 FU 0 g5 (by omega) (by decide) (p0.O o0 (by omega) (by omega)) r5 o5 n5 (fun q hq => by omega)
  refine ⟨g, a1, (k0.tr p0 (by omega) (by omega) (by omega)).tr a2 (by omega) (by omega) (by omega), by omega, by omega, ?_⟩
  refine ⟨a2.O (p0.O o0 (by omega) (by omega)) (by omega) (by omega), ⟨a2.R (p1.R r1 (by omega) (by omega) (by omega)) (by omega) (by omega) (by omega), a2.O (p1.O o1 (by omega) (by omega)) (by omega) (by omega), a2.N (p1.N n1 (by omega) (by omega)) (by omega) (by omega)⟩, ⟨a2.R (p2.R r2 (by omega) (by omega) (by omega)) (by omega) (by omega) (by omega), a2.O (p2.O o2 (by omega) (by omega)) (by omega) (by omega), a2.N (p2.N n2 (by omega) (by omega)) (by omega) (by omega)⟩, ⟨a2.R (p3.R r3 (by omega) (by omega) (by omega)) (by omega) (by omega) (by omega), a2.O (p3.O o3 (by omega) (by omega)) (by omega) (by omega), a2.N (p3.N n3 (by omega) (by omega)) (by omega) (by omega)⟩, ⟨a2.R (p4.R r4 (by omega) (by omega) (by omega)) (by omega) (by omega) (by omega), a2.O (p4.O o4 (by omega) (by omega)) (by omega) (by omega), a2.N (p4.N n4 (by omega) (by omega)) (by omega) (by omega)⟩, ⟨a2.R r5 (by omega) (by omega) (by omega), a5, a6⟩, a7⟩
/-- the parser -/
def PSA (h : HP) : Prop := isO h 62 3 = true ∧ hR h 193 62 = some 63 ∧ hR h 194 62 = some 99 ∧ (hR h 197 62 = some 105 ∧ isO h 105 36 = true ∧ hln h 105 = 1200) ∧ (hR h 198 62 = some 106 ∧ isO h 106 23 = true ∧ hln h 106 = 1200) ∧ (hR h 199 62 = some 107 ∧ isO h 107 20 = true ∧ hln h 107 = 1200) ∧ (hR h 200 62 = some 108 ∧ isO h 108 20 = true ∧ hln h 108 = 1200) ∧ FormAt h 63 ∧ TKA h
theorem PSA.kf (A : PSA h) (p : Kf n e t f h g) (hn : 109 ≤ n) (he : e < 62 ∨ 109 ≤ e) (ht : t < 62 ∨ 109 ≤ t) : PSA g := by
  obtain ⟨a0, a1, a2, ⟨b1, b2, b3⟩, ⟨c1, c2, c3⟩, ⟨d1, d2, d3⟩, ⟨e1, e2, e3⟩, w, v⟩ := A
  exact ⟨p.O a0 (by omega) (by omega), p.R a1 (by omega) (by omega) (by omega), p.R a2 (by omega) (by omega) (by omega), ⟨p.R b1 (by omega) (by omega) (by omega), p.O b2 (by omega) (by omega), p.N b3 (by omega) (by omega)⟩, ⟨p.R c1 (by omega) (by omega) (by omega), p.O c2 (by omega) (by omega), p.N c3 (by omega) (by omega)⟩, ⟨p.R d1 (by omega) (by omega) (by omega), p.O d2 (by omega) (by omega), p.N d3 (by omega) (by omega)⟩, ⟨p.R e1 (by omega) (by omega) (by omega), p.O e2 (by omega) (by omega), p.N e3 (by omega) (by omega)⟩, w.kf p (by omega) (by omega) (by omega), v.kf p (by omega) (by omega) (by omega)⟩
theorem parser_new (z : hsz h = 62) : ∃ g, fX3_init 62 (nw h 3 0 9) = some g ∧ Kf 62 62 62 0 h g ∧ hsz g = 109 ∧ hsl g = hsl h + 10055 ∧ PSA g := by
  obtain ⟨h0, e0⟩ : ∃ h0, h0 = sI (nw h 3 0 9) 192 62 (i32 (-2)) := ⟨_, rfl⟩
  have oo : isO (nw h 3 0 9) 62 3 = true := isO_new z rfl
  have o0 : isO h0 62 3 = true := by rw [e0]; exact isO_sI rfl oo
  have z0 : hsz h0 = 63 := by rw [e0]; show hsz h + 1 = _; omega
  have k0 : Kf 62 62 62 0 h h0 := by
    rw [e0]
    exact Kf.tr (kf_nw (h := h) (n := 62) (e := 62) (t := 62) (f := 0) (by omega)) (kf_sI (n := 62) (e := 62) (t := 62) (f := 0) (Or.inl (by omega))) (by omega) (by omega) (by omega)
  have s0 : hsl h0 = hsl h + 9 := by rw [e0]; rfl
  unfold fX3_init
  rw [oo, gd_tt, ← e0, lt_e, lt_e, lt_e, z0]
  obtain ⟨h1, x1, x2, x3, x4, x5, x6⟩ := form_new z0
  have o1 : isO h1 62 3 = true := x2.O o0 (by omega) (by omega)
  rw [x1, bn_s, o1, gd_tt]
  obtain ⟨h2, e2⟩ : ∃ h2, h2 = sR h1 193 62 (some 63) := ⟨_, rfl⟩
  have k2 : Kf 99 99 62 193 h1 h2 := by rw [e2]; exact kf_sR (Or.inr ⟨rfl, Nat.le_refl _⟩)
  have o2 : isO h2 62 3 = true := k2.O o1 (by omega) (by omega)
  have z2 : hsz h2 = 99 := by rw [e2]; show hsz h1 = _; omega
  have r2 : hR h2 193 62 = some 63 := by rw [e2, rRR, if_pos ⟨rfl, rfl⟩]
  have s2 : hsl h2 = hsl h1 := by rw [e2]; rfl
  rw [← e2, lt_e, lt_e, lt_e, z2]
  obtain ⟨h3, y1, y2, y3, y4, y5⟩ := tokens_new z2
  have o3 : isO h3 62 3 = true := y2.O o2 (by omega) (by omega)
  rw [y1, bn_s, o3, gd_tt]
  obtain ⟨h4, e4⟩ : ∃ h4, h4 = sR h3 194 62 (some 99) := ⟨_, rfl⟩
  have k4 : Kf 105 105 62 194 h3 h4 := by rw [e4]; exact kf_sR (Or.inr ⟨rfl, Nat.le_refl _⟩)
  have o4 : isO h4 62 3 = true := k4.O o3 (by omega) (by omega)
  have z4 : hsz h4 = 105 := by rw [e4]; show hsz h3 = _; omega
  have r4 : hR h4 194 62 = some 99 := by rw [e4, rRR, if_pos ⟨rfl, rfl⟩]
  have s4 : hsl h4 = hsl h3 := by rw [e4]; rfl
  rw [← e4, lt_e]
  refine st_al (l := 1200) (by decide) (by decide) z4 (by omega) (fun g1 A1 => ?_)
  obtain ⟨c1, c2, c3, c4, c5, -, c7⟩ := A1
  refine st_al (l := 1200) (by decide) (by decide) c1 (by omega) (fun g2 A2 => ?_)
  obtain ⟨d1, d2, d3, d4, d5, -, d7⟩ := A2
  refine st_al (l := 1200) (by decide) (by decide) d1 (by omega) (fun g3 A3 => ?_)
  obtain ⟨f1, f2, f3, f4, f5, -, f7⟩ := A3
  refine st_al (l := 1200) (by decide) (by decide) f1 (by omega) (fun g4 A4 => ?_)
  obtain ⟨w1, w2, w3, w4, w5, -, w7⟩ := A4
  have p3 : Kf 108 109 62 200 g3 g4 := w7.w (by omega) (by omega) (by omega)
  have p2 : Kf 107 109 62 199 g2 g4 := (f7.w (m := 107) (e' := 109) (t' := 62) (f' := 199) (by omega) (by omega) (by omega)).tr p3 (by omega) (by omega) (by omega)
  have p1 : Kf 106 109 62 198 g1 g4 := (d7.w (m := 106) (e' := 109) (t' := 62) (f' := 198) (by omega) (by omega) (by omega)).tr p2 (by omega) (by omega) (by omega)
  have p0 : Kf 105 109 62 197 h4 g4 := (c7.w (m := 105) (e' := 109) (t' := 62) (f' := 197) (by omega) (by omega) (by omega)).tr p1 (by omega) (by omega) (by omega)
  have q3 : Kf 105 109 62 194 h3 g4 := (k4.w (m := 105) (e' := 109) (t' := 62) (f' := 194) (by omega) (by omega) (by omega)).tr p0 (by omega) (by omega) (by omega)
  have q2 : Kf 99 109 62 194 h2 g4 := (y2.w (m := 99) (e' := 109) (t' := 62) (f' := 194) (by omega) (by omega) (by omega)).tr q3 (by omega) (by omega) (by omega)
  have q1 : Kf 99 109 62 193 h1 g4 := (k2.w (m := 99) (e' := 109) (t' := 62) (f' := 193) (by omega) (by omega) (by omega)).tr q2 (by omega) (by omega) (by omega)
  have q0 : Kf 63 109 62 193 h0 g4 := (x2.w (m := 63) (e' := 109) (t' := 62) (f' := 193) (by omega) (by omega) (by omega)).tr q1 (by omega) (by omega) (by omega)
  refine ⟨g4, rfl, (k0.tr q0 (by omega) (by omega) (by omega)), by omega, by omega, ?_⟩
  exact ⟨q0.O o0 (by omega) (by omega), q2.R r2 (by omega) (by omega) (by omega), p0.R r4 (by omega) (by omega) (by omega), ⟨p1.R c3 (by omega) (by omega) (by omega), p1.O c4 (by omega) (by omega), p1.N c5 (by omega) (by omega)⟩, ⟨p2.R d3 (by omega) (by omega) (by omega), p2.O d4 (by omega) (by omega), p2.N d5 (by omega) (by omega)⟩, ⟨p3.R f3 (by omega) (by omega) (by omega), p3.O f4 (by omega) (by omega), p3.N f5 (by omega) (by omega)⟩, ⟨w3, w4, w5⟩, x5.kf q1 (by omega) (by omega) (by omega), y5.kf q3 (by omega) (by omega) (by omega)⟩
end

