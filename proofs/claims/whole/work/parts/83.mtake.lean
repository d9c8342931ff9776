/-! REMOVE -/
section
variable {h g : HP} {k : Nat}
theorem cnt_ff {q : Int → Bool} : ∀ (k : Nat) (i : Int), (∀ j, i ≤ j → j < i + k → q j = false) → cnt q k i = 0 := by
  intro k
  induction k with
  | zero => intro i _; rfl
  | succ k ih =>
    intro i h
    simp only [cnt]
    rw [h i (by omega) (by omega), ih (i + 1) (fun j a b => h j (by omega) (by omega))]
    rfl
theorem cnt_str {F : Int → Int} {x p e : Int} (t : TR F) (s : STR F x p e) (x0 : 0 ≤ x) : cnt (fin F x) 24 0 = cnt (fun i => decide (F (256 + i) < 24)) (e - p).toNat p := by
  obtain ⟨s1, s2, s3, s4, s5⟩ := s
  have O := t.ov
  have e1 := cnt_order t (fun n => decide (n < 24) && finM F x n)
  have l : cnt (fun n => decide (F n ≠ -1) && (decide (n < 24) && finM F x n)) 32 0 = cnt (fin F x) 24 0 := by
    rw [show (32 : Nat) = 24 + 8 from rfl, cnt_add, cnt_ff 8 _ (fun j a b => by
      have : decide (j < 24) = false := decide_eq_false (by omega)
      simp only [this, Bool.false_and, Bool.and_false]), Int.add_zero]
    refine cnt_congr 24 0 fun n n0 n1 => ?_
    rw [fin_M x0 n0, decide_eq_true (show n < 24 by omega), Bool.true_and]
    unfold finM
    by_cases c : F n ≠ -1
    · rw [decide_eq_true c, Bool.true_and]
    · rw [decide_eq_false c, Bool.false_and, decide_eq_false (fun z => c z.1)]
  rw [l] at e1
  rw [e1]
  have inP : ∀ i, 0 ≤ i → i < F 288 → finM F x (F (256 + i)) = decide (p ≤ i ∧ i < e) := fun i i0 i1 => by
    have o := O.2.2 i i0 i1
    unfold finM
    rw [decide_eq_decide, isin_ch x0 (t.ce.ends o.2), s5 i i0 i1]
    exact ⟨fun z => z.2, fun z => ⟨t.op i i0 i1, z⟩⟩
  rw [show (F 288).toNat = p.toNat + ((e - p).toNat + (F 288 - e).toNat) by omega, cnt_add, cnt_add, cnt_ff p.toNat 0 (fun j a b => by
    have a1 := inP j (by omega) (by omega)
    rw [decide_eq_false (by omega)] at a1
    simp only [a1, Bool.and_false]), cnt_ff (F 288 - e).toNat _ (fun j a b => by
    have a1 := inP j (by omega) (by omega)
    rw [decide_eq_false (by omega)] at a1
    simp only [a1, Bool.and_false]), Int.zero_add, Int.add_zero, show (0 : Int) + (p.toNat : Int) = p by omega]
  refine cnt_congr _ p fun j a b => ?_
  have a1 := inP j (by omega) (by omega)
  rw [decide_eq_true (by omega)] at a1
  simp only [a1, Bool.and_true]
theorem x_needed {a np : Nat} {F : Int → Int} (A : FormAt h a) (r : FRx h a F np) {x : Int} (x0 : 0 ≤ x) (x1 : x < 32) (s : Int32) : fX0_isNeededOutside a (i32 x) s h = some (anyf (ndo F (RX h F) x s) 32 0) := by
  have E := r.E
  have t := r.tr
  rw [cneeded A (EqT_TV E t.tv) r.G (EqT_CE E t.av t.ce) x0 x1]
  congr 1
  rw [Bool.eq_iff_iff, anyf_iff, anyf_iff]
  have eq : ∀ n, 0 ≤ n → n < 32 → ndo (Fc h a) (Rfc h a) x s n = ndo F (RX h F) x s n := fun n n0 n1 => by
    unfold ndo
    rw [decide_eq_decide, E.1 n n0 n1]
    constructor
    · rintro ⟨a1, a2, a3, a4⟩
      rw [EqT_isin E t.av 8 _ (t.av n n0 n1).2] at a3
      rw [r.rf n0 n1 a1] at a4
      exact ⟨a1, a2, a3, a4⟩
    · rintro ⟨a1, a2, a3, a4⟩
      refine ⟨a1, a2, ?_, ?_⟩
      · rw [EqT_isin E t.av 8 _ (t.av n n0 n1).2]; exact a3
      · rw [r.rf n0 n1 a1]; exact a4
  constructor
  · rintro ⟨j, a1, a2, a3⟩; exact ⟨j, a1, a2, by rw [← eq j a1 (by omega)]; exact a3⟩
  · rintro ⟨j, a1, a2, a3⟩; exact ⟨j, a1, a2, by rw [eq j a1 (by omega)]; exact a3⟩
/-- the model asks whether the fields are needed outside -/
theorem mneedL {K : Nat → Int32 → HP → Option (Int32 × HP)} {x : Int} {s : Int32} (M : MS h) (t : TR (Wm h)) (sg : ∀ i, 0 ≤ i → i < Wm h 288 → SG (Wm h) (Wm h (256 + i))) (x0 : 0 ≤ x) (x1 : x < 32) : ∀ (d n : Nat) (i : Int), 0 ≤ i → i + d = Wm h 288 → d < n → lX11_remove_18 K n 983 (i32 x) s (i32 i) h = if anyf (fun i => ndo (Wm h) (RX h (Wm h)) x s (Wm h (256 + i))) d i = true then some (i32 (-2), h) else K 983 (i32 x) h := by
  have O := t.ov
  intro d
  induction d with
  | zero =>
    intro n i i0 hi hn
    obtain ⟨n, rfl⟩ : ∃ x, n = x + 1 := ⟨n - 1, by omega⟩
    rw [elX11_remove_18]; unfold bX11_remove_18
    rw [M.o, gd_tt, many_s M (by omega) (by omega), bn_s, Fm0, if_pos (by rw [i32_le (by omega) (by have := O.2.1; omega) (by omega) (by have := O.2.1; omega)]; omega), if_neg (by simp [anyf])]
  | succ d ih =>
    intro n i i0 hi hn
    obtain ⟨n, rfl⟩ : ∃ x, n = x + 1 := ⟨n - 1, by omega⟩
    have o2 := O.2.1
    have o := O.2.2 i i0 (by omega)
    have pr := t.op i i0 (by omega)
    have ask : fX11_asked 983 (i32 0) (i32 (Wm h (256 + i))) h = some (RX h (Wm h) (Wm h (256 + i))) := by
      rw [asked_s M (by omega) (by omega) o.1 o.2 (by rw [Fm0]; exact sg i i0 (by omega)), Fm0, sgm_Rm]; rfl
    have isn := isIn_s (o := x) M (fo := 0) (n := Wm h (256 + i)) (by omega) (by omega) (by omega) (by omega) (by rw [Fm0]; exact t.av) (by omega) o.2 (by rw [Fm0]; exact t.ce.ends o.2)
    rw [Fm0] at isn
    have st : lX11_remove_18 K (n + 1) 983 (i32 x) s (i32 i) h = if ndo (Wm h) (RX h (Wm h)) x s (Wm h (256 + i)) = true then some (i32 (-2), h) else lX11_remove_18 K n 983 (i32 x) s (i32 (i + 1)) h := by
      rw [elX11_remove_18]; unfold bX11_remove_18 jX11_remove_61
      rw [M.o, gd_tt, many_s M (by omega) (by omega), bn_s, Fm0, if_neg (by rw [i32_le (by omega) (by omega) (by omega) (by omega)]; omega), ordered_s M (by omega) (by omega) i0 (by omega), bn_s, Fm0, isn, bn_s]
      have nd := keep_ndo (R := RX h (Wm h)) t x0 o.1 o.2 s
      by_cases c : isin (Wm h) 9 (Wm h (256 + i)) x = true
      · have c' := (isin_ch x0 (t.ce.ends o.2)).mp c
        rw [if_pos c, if_neg (fun z => (nd.mp z).1.2.2.2 c'), lt_e, i32_add]
      · have c' : ¬ inch (Wm h) (Wm h (256 + i)) x := fun z => c ((isin_ch x0 (t.ce.ends o.2)).mpr z)
        rw [if_neg c, ask, bn_s]
        by_cases d : RX h (Wm h) (Wm h (256 + i)) &&& s = i32 0
        · rw [if_pos (by rw [i32_z]; exact d), if_neg (fun z => (nd.mp z).2 d), lt_e, i32_add]
        · rw [if_neg (by rw [i32_z]; exact d), if_pos (nd.mpr ⟨⟨o.1, o.2, pr, c'⟩, d⟩)]
    rw [st]
    by_cases c : ndo (Wm h) (RX h (Wm h)) x s (Wm h (256 + i)) = true
    · have an : anyf (fun i => ndo (Wm h) (RX h (Wm h)) x s (Wm h (256 + i))) (d + 1) i = true := by
        simp only [anyf]; rw [if_pos c]
      rw [if_pos c, if_pos an]
    · have an : anyf (fun i => ndo (Wm h) (RX h (Wm h)) x s (Wm h (256 + i))) (d + 1) i = anyf (fun i => ndo (Wm h) (RX h (Wm h)) x s (Wm h (256 + i))) d (i + 1) := by
        simp only [anyf]; rw [if_neg c]
      rw [if_neg c, ih n (i + 1) (by omega) (by omega) (by omega)]
      by_cases w : anyf (fun i => ndo (Wm h) (RX h (Wm h)) x s (Wm h (256 + i))) d (i + 1) = true
      · rw [if_pos w, if_pos (an.trans w)]
      · rw [if_neg w, if_neg (fun z => w (an.symm.trans z))]
theorem mcntL {K : Nat → Int32 → Int32 → Int32 → HP → Option (Int32 × HP)} {p e : Int} (M : MS h) (O : OV (Wm h)) (p0 : 0 ≤ p) (e1 : e ≤ Wm h 288) : ∀ (d n : Nat) (c i : Int), p ≤ i → i + d = e → d < n → lX11_remove_91 K n 983 (i32 p) (i32 e) (i32 c) (i32 i) h = K 983 (i32 p) (i32 e) (i32 (c + cnt (fun i => decide (Wm h (256 + i) < 24)) d i)) h := by
  have o2 := O.2.1
  intro d
  induction d with
  | zero =>
    intro n c i i0 hi hn
    obtain ⟨n, rfl⟩ : ∃ x, n = x + 1 := ⟨n - 1, by omega⟩
    rw [elX11_remove_91]; unfold bX11_remove_91
    rw [if_pos (by rw [i32_le (by omega) (by omega) (by omega) (by omega)]; omega)]
    simp only [cnt, Int.add_zero]
  | succ d ih =>
    intro n c i i0 hi hn
    obtain ⟨n, rfl⟩ : ∃ x, n = x + 1 := ⟨n - 1, by omega⟩
    have o := O.2.2 i (by omega) (by omega)
    rw [elX11_remove_91]; unfold bX11_remove_91 jX11_remove_118
    rw [if_neg (by rw [i32_le (by omega) (by omega) (by omega) (by omega)]; omega), M.o, gd_tt, ordered_s M (by omega) (by omega) (by omega) (by omega), bn_s, Fm0, isField_s (by omega) (by omega), bn_s]
    simp only [cnt]
    by_cases d' : Wm h (256 + i) < 24
    · rw [if_pos (decide_eq_true d'), lt_e, lt_e, bI_tt, i32_add, i32_add, if_pos (decide_eq_true d')]
      show lX11_remove_91 K n 983 (i32 p) (i32 e) _ _ h = _
      rw [ih n _ _ (by omega) (by omega) (by omega), Int.add_assoc]
    · rw [if_neg (by rw [decide_eq_true_eq]; exact d'), lt_e, lt_e, bI_ff, i32_add, i32_add, if_neg (by rw [decide_eq_true_eq]; exact d')]
      show lX11_remove_91 K n 983 (i32 p) (i32 e) _ _ h = _
      rw [ih n _ _ (by omega) (by omega) (by omega), Int.add_assoc]
theorem mgoneL {K : Nat → Int32 → Int32 → Int32 → HP → Option (Int32 × HP)} {F : Int → Int} {p e : Int} {c : Int32} (O : OV F) (p0 : 0 ≤ p) (e1 : e ≤ F 288) : ∀ (d n : Nat) (i : Int) (f : HP), p ≤ i → i + d = e → d < n → MS f → (∀ q, 256 ≤ q → q < 288 → Wm f q = F q) → ∃ g, lX11_remove_130 K n 983 (i32 p) (i32 e) c (i32 i) f = K 983 (i32 p) (i32 e) c g ∧ So (fun x => x = 987) f g ∧ (∀ q, 32 ≤ q → Wm g q = Wm f q) ∧ (∀ j, i ≤ j → j < e → Wm g (F (256 + j)) = -1) ∧ ∀ q, 0 ≤ q → q < 32 → (∀ j, i ≤ j → j < e → F (256 + j) ≠ q) → Wm g q = Wm f q := by
  have o2 := O.2.1
  intro d
  induction d with
  | zero =>
    intro n i f i0 hi hn M e5
    obtain ⟨n, rfl⟩ : ∃ x, n = x + 1 := ⟨n - 1, by omega⟩
    refine ⟨f, ?_, So.r, fun _ _ => rfl, fun j _ _ => by omega, fun _ _ _ _ => rfl⟩
    rw [elX11_remove_130]; unfold bX11_remove_130
    rw [if_pos (by rw [i32_le (by omega) (by omega) (by omega) (by omega)]; omega)]
  | succ d ih =>
    intro n i f i0 hi hn M e5
    obtain ⟨n, rfl⟩ : ∃ x, n = x + 1 := ⟨n - 1, by omega⟩
    have o := O.2.2 i (by omega) (by omega)
    obtain ⟨f1, e1'⟩ : ∃ f1, f1 = sL f 987 (F (256 + i)).toNat (i64 (-1)) := ⟨_, rfl⟩
    have p1 : So (fun x => x = 987) f f1 := by rw [e1']; exact So_L (S := fun x => x = 987) rfl _ _
    have r1 : ∀ q, 0 ≤ q → Wm f1 q = if q = F (256 + i) then -1 else Wm f q := fun q q0 => by
      rw [e1', Wm_set]
      by_cases y : q = F (256 + i)
      · rw [if_pos (by rw [y]), if_pos y, i64_toInt (by omega) (by omega)]
      · rw [if_neg (by omega), if_neg y]
    obtain ⟨g, a1, a2, a3, a4, a5⟩ := ih n (i + 1) f1 (by omega) (by omega) (by omega) (M.sk p1.1) (fun q q0 q1 => by rw [r1 q (by omega), if_neg (by omega)]; exact e5 q q0 q1)
    refine ⟨g, ?_, p1.t a2, fun q q0 => by rw [a3 q q0, r1 q (by omega), if_neg (by omega)], fun j j0 j1 => ?_, fun q q0 q1 hq => ?_⟩
    · rw [elX11_remove_130]; unfold bX11_remove_130
      rw [if_neg (by rw [i32_le (by omega) (by omega) (by omega) (by omega)]; omega), M.o, gd_tt, ordered_s M (by omega) (by omega) (by omega) (by omega), bn_s, Fm0, e5 _ (by omega) (by omega), M.r_world, oc_s, M.o_world, gd_tt, M.n_world, i32_add, Int.zero_add, i32_inb (by omega) (by omega) (by omega), gd_tt, i32_cn (by omega) (by omega), ← e1', lt_e, lt_e, i32_add]
      exact a1
    · by_cases y : ∃ j', i + 1 ≤ j' ∧ j' < e ∧ F (256 + j') = F (256 + j)
      · obtain ⟨j', y0, y1, y2⟩ := y
        rw [← y2]; exact a4 j' y0 y1
      · have ej : j = i := by
          apply Classical.byContradiction
          intro z
          exact y ⟨j, by omega, j1, rfl⟩
        have oj := O.2.2 j (by omega) (by omega)
        rw [a5 _ oj.1 oj.2 (fun j' y0 y1 y2 => y ⟨j', y0, y1, y2⟩), r1 _ oj.1, ej, if_pos rfl]
    · rw [a5 q q0 q1 (fun j j0 j1 => hq j (by omega) j1), r1 q q0, if_neg (fun z => hq i (by omega) (by omega) z.symm)]
theorem mcloseL {K : Nat → Int32 → HP → Option HP} {m d : Int} (d0 : 0 < d) (m1 : m ≤ 32) : ∀ (c n : Nat) (i : Int) (f : HP), i + d + c = m → 0 ≤ i → c < n → MS f → Wm f 288 = m → ∃ g, lX11_closes_2 K n 983 (i32 d) (i32 i) f = K 983 (i32 d) g ∧ So (fun x => x = 987) f g ∧ (∀ q, i ≤ q → q < m - d → Wm g (256 + q) = Wm f (256 + q + d)) ∧ ∀ q, 0 ≤ q → (q < 256 + i ∨ 256 + m - d ≤ q) → Wm g q = Wm f q := by
  intro c
  induction c with
  | zero =>
    intro n i f hi i0 hn M e
    obtain ⟨n, rfl⟩ : ∃ x, n = x + 1 := ⟨n - 1, by omega⟩
    refine ⟨f, ?_, So.r, fun q _ _ => by omega, fun q _ _ => rfl⟩
    rw [elX11_closes_2]; unfold bX11_closes_2
    rw [M.o, gd_tt, many_s M (by omega) (by omega), bn_s, Fm0, e, i32_add, if_pos (by rw [i32_le (by omega) (by omega) (by omega) (by omega)]; omega)]
  | succ c ih =>
    intro n i f hi i0 hn M e
    obtain ⟨n, rfl⟩ : ∃ x, n = x + 1 := ⟨n - 1, by omega⟩
    obtain ⟨f1, e1⟩ : ∃ f1, f1 = sL f 987 (256 + i).toNat (hL f 987 (256 + i + d).toNat) := ⟨_, rfl⟩
    have p1 : So (fun x => x = 987) f f1 := by rw [e1]; exact So_L (S := fun x => x = 987) rfl _ _
    have r1 : ∀ q, 0 ≤ q → Wm f1 q = if q = 256 + i then Wm f (256 + i + d) else Wm f q := fun q q0 => by
      rw [e1, Wm_set]
      by_cases y : q = 256 + i
      · rw [if_pos (by rw [y]), if_pos y]; rfl
      · rw [if_neg (by omega), if_neg y]
    obtain ⟨g, a1, a2, a3, a4⟩ := ih n (i + 1) f1 (by omega) (by omega) (by omega) (M.sk p1.1) (by rw [r1 288 (by omega), if_neg (by omega)]; exact e)
    refine ⟨g, ?_, p1.t a2, fun q q0 q1 => ?_, fun q q0 q1 => ?_⟩
    · rw [elX11_closes_2]; unfold bX11_closes_2
      rw [M.o, gd_tt, many_s M (by omega) (by omega), bn_s, Fm0, e, i32_add, if_neg (by rw [i32_le (by omega) (by omega) (by omega) (by omega)]; omega), M.r_world, oc_s, M.o_world, gd_tt, M.n_world, i32_add, i32_add, i32_inb (by omega) (by omega) (by omega), gd_tt, i32_inb (by omega) (by omega) (by omega), gd_tt, i32_cn (by omega) (by omega), i32_cn (by omega) (by omega), ← e1, lt_e, lt_e, i32_add]
      exact a1
    · by_cases y : q = i
      · rw [y, a4 _ (by omega) (by omega), r1 _ (by omega), if_pos rfl]
      · rw [a3 q (by omega) q1, r1 _ (by omega), if_neg (by omega)]
    · rw [a4 q q0 (by omega), r1 q q0, if_neg (by omega)]
theorem mclose {m d p : Int} (M : MS g) (e : Wm g 288 = m) (m1 : m ≤ 32) (d0 : 0 < d) (p0 : 0 ≤ p) (pd : p + d ≤ m) : ∃ g', fX11_closes 983 (i32 p) (i32 d) g = some g' ∧ So (fun x => x = 987) g g' ∧ Wm g' 288 = m - d ∧ (∀ q, p ≤ q → q < m - d → Wm g' (256 + q) = Wm g (256 + (q + d))) ∧ ∀ q, 0 ≤ q → q ≠ 288 → (q < 256 + p ∨ 256 + m - d ≤ q) → Wm g' q = Wm g q := by
  obtain ⟨g1, a1, a2, a3, a4⟩ := mcloseL (K := fun w1 w2 h3 => gd (isO h3 w1 11) <| lt ((hR h3 709 w1)) fun v5 => oc v5 fun o6 => gd (isO h3 o6 23) <| gd (inb (i32 288) (hln h3 o6)) <| gd (inb (i32 288) (hln h3 o6)) <| lt (sL h3 o6 (i32 288).toNatClampNeg ((hL h3 o6 (i32 288).toNatClampNeg) - (w2.toInt64))) fun h11 => some h11) d0 m1 (m - d - p).toNat FU p g (by omega) p0 (by have : FU = 1000000 := rfl; omega) M e
  have M1 := M.sk a2.1
  obtain ⟨g2, e2⟩ : ∃ g2, g2 = sL g1 987 288 (i64 (m - d)) := ⟨_, rfl⟩
  have e288 : Wm g1 288 = m := by rw [a4 288 (by omega) (by omega)]; exact e
  refine ⟨g2, ?_, a2.t (by rw [e2]; exact So_L (S := fun x => x = 987) rfl _ _), ?_, fun q q0 q1 => ?_, fun q q0 q1 q2 => ?_⟩
  · unfold fX11_closes
    refine Eq.trans a1 ?_
    show (gd (isO g1 983 11) <| lt ((hR g1 709 983)) fun v5 => oc v5 fun o6 => gd (isO g1 o6 23) <| gd (inb (i32 288) (hln g1 o6)) <| gd (inb (i32 288) (hln g1 o6)) <| lt (sL g1 o6 (i32 288).toNatClampNeg ((hL g1 o6 (i32 288).toNatClampNeg) - ((i32 d).toInt64))) fun h11 => some h11) = _
    have w : hL g1 987 288 = i64 m := by rw [← e288]; exact Wm_e g1 288
    rw [M1.o, gd_tt, M1.r_world, lt_e, oc_s, M1.o_world, gd_tt, M1.n_world, i32_inb (by omega) (by omega) (by omega), gd_tt, gd_tt, i32_cn (by omega) (by omega), show ((288 : Int)).toNat = 288 from rfl, w, i32_64 (by omega) (by omega), i64_sub, ← e2, lt_e]
  · rw [e2, Wm_set, if_pos (by rfl), i64_toInt (by omega) (by omega)]
  · rw [e2, Wm_set, if_neg (by omega), a3 q q0 q1]; congr 1; omega
  · rw [e2, Wm_set, if_neg (by omega), a4 q q0 q2]
end

