/-! THE CLASS SETTLES ITS TESTS -/
/-- nothing but some numbers in objects has changed -/
def SI (W : Nat → Nat → Prop) (h g : HP) : Prop := g.1 = h.1 ∧ htg g = htg h ∧ hln g = hln h ∧ hJ g = hJ h ∧ hR g = hR h ∧ hA g = hA h ∧ hL g = hL h ∧ hQ g = hQ h ∧ ∀ f x, ¬ W f x → hI g f x = hI h f x
section
variable {W : Nat → Nat → Prop} {h g k : HP}
theorem SI.r : SI W h h := ⟨rfl, rfl, rfl, rfl, rfl, rfl, rfl, rfl, fun _ _ _ => rfl⟩
theorem SI.t (p : SI W h g) (q : SI W g k) : SI W h k := by
  obtain ⟨p1, p2, p3, p4, p5, p6, p7, p8, p9⟩ := p
  obtain ⟨q1, q2, q3, q4, q5, q6, q7, q8, q9⟩ := q
  exact ⟨q1.trans p1, q2.trans p2, q3.trans p3, q4.trans p4, q5.trans p5, q6.trans p6, q7.trans p7, q8.trans p8, fun f x n => (q9 f x n).trans (p9 f x n)⟩
theorem SI_I {f a : Nat} (w : W f a) (v : Int32) : SI W h (sI h f a v) := ⟨rfl, rfl, rfl, rfl, rfl, rfl, rfl, rfl, fun f' x n => by rw [rII, if_neg (fun z => n (by rw [z.1, z.2]; exact w))]⟩
theorem SI.sz (p : SI W h g) : hsz g = hsz h := by unfold hsz; rw [p.1]
theorem SI.sk (p : SI W h g) : Sk h g := by
  have z := p.sz
  obtain ⟨p1, p2, p3, p4, p5, p6, p7, p8, p9⟩ := p
  exact ⟨by omega, fun a _ => ⟨by rw [p2], by rw [p3], fun _ i => by rw [p8], fun f _ _ _ => by rw [p5]⟩⟩
theorem SI.o (p : SI W h g) (a t : Nat) : isO g a t = isO h a t := by
  have z := p.sz
  unfold isO
  rw [z, p.2.1]
theorem SI.J (p : SI W h g) : hJ g = hJ h := p.2.2.2.1
theorem SI.R (p : SI W h g) : hR g = hR h := p.2.2.2.2.1
theorem SI.A (p : SI W h g) : hA g = hA h := p.2.2.2.2.2.1
theorem SI.L (p : SI W h g) : hL g = hL h := p.2.2.2.2.2.2.1
theorem SI.Q (p : SI W h g) : hQ g = hQ h := p.2.2.2.2.2.2.2.1
theorem SI.I (p : SI W h g) {f x : Nat} (n : ¬ W f x) : hI g f x = hI h f x := p.2.2.2.2.2.2.2.2 f x n
end
/-- fields of new terms, what scratch nodes refer to, the error -/
def Wst (z0 : Nat) (f x : Nat) : Prop := (f = 387 ∧ z0 ≤ x) ∨ (f = 137 ∧ 67 ≤ x ∧ x < 99) ∨ (f = 192 ∧ x = 62)
theorem FRb_SI {z0 : Nat} {g g' : HP} {a : Nat} {F : Int → Int} (r : FRb g a F) (p : SI (Wst z0) g g') : FRb g' a F := by
  have i : ∀ f x, f ≠ 387 → f ≠ 137 → f ≠ 192 → hI g' f x = hI g f x := fun f x h1 h2 h3 => p.I (by unfold Wst; omega)
  obtain ⟨r3, r4, r5, ro, rn⟩ := r
  refine ⟨by rw [i _ _ (by omega) (by omega) (by omega)]; exact r3, by rw [i _ _ (by omega) (by omega) (by omega)]; exact r4, by rw [i _ _ (by omega) (by omega) (by omega)]; exact r5, fun q q0 q1 => by rw [p.A]; exact ro q q0 q1, fun n h0 h1 => ?_⟩
  rw [i 128 _ (by omega) (by omega) (by omega)]
  unfold NDc
  rw [i 134 _ (by omega) (by omega) (by omega), i 130 _ (by omega) (by omega) (by omega), i 131 _ (by omega) (by omega) (by omega), i 132 _ (by omega) (by omega) (by omega), i 133 _ (by omega) (by omega) (by omega), p.J]
  exact rn n h0 h1
def kse : Nat → Int32 → HP → Option (Bool × HP) := fun w1 w2 h3 =>
    gd (isO h3 w1 3) <|
    oc (hR h3 199 w1) fun o5 =>
    gd (isO h3 o5 20) <|
    gd (inb w2 (hln h3 o5)) <|
    lt (sI h3 192 w1 (hA h3 o5 w2.toNatClampNeg)) fun h9 =>
    some (false, h9)
section
variable {g0 g : HP} {n : Int} {F : Int → Int} {S : List TS} {ts : Nat → Nat} {z0 : Nat}
/-- what settling needs to know of the tests -/
def SetC (g0 : HP) (n : Int) (F : Int → Int) (S : List TS) (ts : Nat → Nat) (z0 : Nat) : Prop := CS g0 ∧ hI g0 196 62 = i32 S.length ∧ S.length ≤ 1200 ∧ Tbl g0 S ts ∧ TZ g0 S ts z0 ∧ FRb g0 63 F ∧ TR F ∧ NMs F ∧ ∀ (k : Nat) (x : TS), S[k]? = some x → NV x.1 ∧ 0 ≤ x.2.2.1 ∧ x.2.2.1 < 32 ∧ F x.2.2.1 ≠ -1
theorem kse_s (D : SetC g0 n F S ts z0) (p : SI (Wst z0) g0 g) {i : Nat} {x : TS} (hx : S[i]? = some x) : ∃ g', kse 62 (i32 i) g = some (false, g') ∧ hI g' 192 62 = i32 x.2.1 ∧ SI (Wst z0) g0 g' := by
  obtain ⟨C0, d1, d2, d3, d4, d5, d6, d7, d8⟩ := D
  have C := C0.sk p.sk
  have hi := (List.getElem?_eq_some_iff.mp hx).1
  have t := d3 i x hx
  unfold kse
  rw [C.o_parser, gd_tt, C.r_tstarts, oc_s, C.o_tstarts, gd_tt, C.n_tstarts, i32_inb (by omega) (by omega) (by omega), gd_tt, i32_cn (by omega) (by omega), Int.toNat_natCast, p.A, t.2.2.2.2.2.2.2.1, lt_e]
  exact ⟨_, rfl, by rw [rII, if_pos ⟨rfl, rfl⟩], p.t (SI_I (Or.inr (Or.inr ⟨rfl, rfl⟩)) _)⟩
theorem drop_cons {α : Type} {S : List α} {i : Nat} {x : α} (h : S[i]? = some x) : S.drop i = x :: S.drop (i + 1) := by
  obtain ⟨h1, h2⟩ := List.getElem?_eq_some_iff.mp h
  rw [List.drop_eq_getElem_cons h1, h2]
theorem csetL1 (D : SetC g0 n F S ts z0) {K2 : Nat → HP → Option (Bool × HP)} : ∀ (k m i : Nat) (g : HP), i + k = S.length → k < m → SI (Wst z0) g0 g → (∀ (q : Nat) (x : TS), q < i → S[q]? = some x → hI g 387 (ts q) = i32 (fnm F x.1)) → (∀ m, 0 ≤ m → m < 32 → F m ≠ -1 → hI g 137 (63 + 4 + m.toNat) = hI g0 137 (63 + 4 + m.toNat)) →
  (∀ e, pnames F (S.drop i) = some e → ∃ g', lX3_settle_2 kse K2 m 62 (i32 i) g = some (false, g') ∧ hI g' 192 62 = i32 e ∧ SI (Wst z0) g0 g') ∧
  (pnames F (S.drop i) = none → ∃ g', lX3_settle_2 kse K2 m 62 (i32 i) g = K2 62 g' ∧ SI (Wst z0) g0 g' ∧ (∀ (q : Nat) (x : TS), S[q]? = some x → hI g' 387 (ts q) = i32 (fnm F x.1)) ∧ (∀ m, 0 ≤ m → m < 32 → F m ≠ -1 → hI g' 137 (63 + 4 + m.toNat) = hI g0 137 (63 + 4 + m.toNat)) ∧ hI g' 192 62 = hI g 192 62) := by
  obtain ⟨C0, d1, d2, d3, d4, d5, d6, d7, d8⟩ := id D
  intro k
  induction k with
  | zero =>
    intro m i g e hm p hq hr
    obtain ⟨m, rfl⟩ : ∃ x, m = x + 1 := ⟨m - 1, by omega⟩
    have C := C0.sk p.sk
    have el : S.drop i = [] := List.drop_eq_nil_of_le (by omega)
    have h196 : hI g 196 62 = i32 S.length := by rw [p.I (by unfold Wst; omega)]; exact d1
    have step : lX3_settle_2 kse K2 (m + 1) 62 (i32 i) g = K2 62 g := by
      rw [elX3_settle_2]; unfold bX3_settle_2
      rw [C.o_parser, gd_tt, h196, if_pos (by rw [i32_le (by omega) (by omega) (by omega) (by omega)]; omega)]
    rw [el]
    refine ⟨fun e h => (by cases h), fun _ => ⟨g, step, p, fun q x hx => hq q x ?_ hx, hr, rfl⟩⟩
    have := (List.getElem?_eq_some_iff.mp hx).1; omega
  | succ k ih =>
    intro m i g e hm p hq hr
    obtain ⟨m, rfl⟩ : ∃ x, m = x + 1 := ⟨m - 1, by omega⟩
    have C := C0.sk p.sk
    have hi : i < S.length := by omega
    obtain ⟨x, hx⟩ : ∃ x, S[i]? = some x := ⟨_, List.getElem?_eq_getElem hi⟩
    have t := d3 i x hx
    obtain ⟨x1, x2, x3, x4⟩ := d8 i x hx
    have h196 : hI g 196 62 = i32 S.length := by rw [p.I (by unfold Wst; omega)]; exact d1
    have fr := fnm_rng (w := x.1) d6.ov
    have R := FRb_SI d5 p
    have nm := FRb_name R d6.tv d6.ov
    have cn : fX0_findName 63 (i64 (lft x.1)) g = some (i32 (fnm F x.1)) := cname_s C.sf nm.1 d6.ov d6.op d6.po d7 nm.2 x1
    have pre : lX3_settle_2 kse K2 (m + 1) 62 (i32 i) g = on (if fnm F x.1 < 24 then fno g 63 (fnm F x.1) else none) (kse 62 (i32 i) g) fun o113 =>
        oc (hR g 197 62) fun o115 => gd (isO g o115 36) <| gd (inb (i32 i) (hln g o115)) <| on (hQ g o115 (i32 i).toNatClampNeg) (kse 62 (i32 i) g) fun o119 => gd (inb (i32 i) (hln g o115)) <| gd (isO g o119 6) <| lt (sI g 387 o119 (i32 (fnm F x.1))) fun h123 => lt ((i32 i + (i32 1))) fun v124 => lX3_settle_2 kse K2 m 62 v124 h123 := by
      rw [elX3_settle_2]; unfold bX3_settle_2
      rw [C.o_parser, gd_tt, h196, if_neg (by rw [i32_le (by omega) (by omega) (by omega) (by omega)]; omega), if_neg (by rw [i32_le (by omega) (by omega) (by omega) (by omega)]; omega), C.r_tnames, oc_s, C.o_tnames, gd_tt, C.n_tnames, i32_inb (by omega) (by omega) (by omega), gd_tt, C.r_pform, oc_s, C.o_pform, gd_tt, i32_cn (by omega) (by omega), Int.toNat_natCast, p.L, t.2.2.2.2.2.2.1, cn, bn_s, cfindField C.sf (by omega) (by omega), bn_s]
    rw [drop_cons hx]
    simp only [pnames]
    by_cases c : 0 ≤ fnm F x.1 ∧ fnm F x.1 < 24
    · rw [if_pos c]
      have pr : F (fnm F x.1) ≠ -1 := by
        rcases fnm_spec (w := x.1) d6.ov with ⟨a, _⟩ | ⟨q, q0, q1, a, _⟩
        · omega
        · rw [a]; exact d6.op q q0 q1
      have E := (FRb_tree R d6.tv d6.ov).1
      have ot : isO g (ts i) 6 = true := by rw [p.o]; exact t.2.2.1
      have go : lX3_settle_2 kse K2 (m + 1) 62 (i32 i) g = lX3_settle_2 kse K2 m 62 (i32 ((i + 1 : Nat) : Int)) (sI g 387 (ts i) (i32 (fnm F x.1))) := by
        rw [pre, if_pos c.2, fno_y c.1 (by omega) (by rw [E.1 _ c.1 (by omega)]; exact pr), on_sm, C.r_terms, oc_s, C.o_terms, gd_tt, C.n_terms, i32_inb (by omega) (by omega) (by omega), gd_tt, i32_cn (by omega) (by omega), Int.toNat_natCast, p.Q, t.1, on_sm, gd_tt, ot, gd_tt, lt_e, i32_add, lt_e]
        rfl
      rw [go]
      have z := d4.2 i hi
      have hq' : ∀ (q : Nat) (y : TS), q < i + 1 → S[q]? = some y → hI (sI g 387 (ts i) (i32 (fnm F x.1))) 387 (ts q) = i32 (fnm F y.1) := by
        intro q y hq1 hy
        rw [rII]
        by_cases d : q = i
        · subst d
          rw [hx] at hy; cases hy
          rw [if_pos ⟨rfl, rfl⟩]
        · have hq2 : q < i := by omega
          have := z.2.2 q hq2
          rw [if_neg (by omega)]
          exact hq q y hq2 hy
      obtain ⟨r1, r2⟩ := ih m (i + 1) (sI g 387 (ts i) (i32 (fnm F x.1))) (by omega) (by omega) (p.t (SI_I (Or.inl ⟨rfl, z.1⟩) _)) hq' (fun m' a b c' => by rw [rII, if_neg (by omega)]; exact hr m' a b c')
      refine ⟨r1, fun he => ?_⟩
      obtain ⟨g', y1, y2, y3, y4, y5⟩ := r2 he
      exact ⟨g', y1, y2, y3, y4, by rw [y5, rII, if_neg (by omega)]⟩
    · rw [if_neg c]
      have er : lX3_settle_2 kse K2 (m + 1) 62 (i32 i) g = kse 62 (i32 i) g := by
        rw [pre]
        by_cases c2 : fnm F x.1 < 24
        · rw [if_pos c2, fno_n (fun z => c ⟨z.1, c2⟩), on_nn]
        · rw [if_neg c2, on_nn]
      obtain ⟨g', y1, y2, y3⟩ := kse_s D p hx
      exact ⟨fun e he => (by cases he; exact ⟨g', by rw [er]; exact y1, y2, y3⟩), fun he => by cases he⟩
theorem EqT_fmk {G F : Int → Int} (E : EqT G F) (V : AV F) (x : Int) : fmk (fin G x) 24 0 (i32 0) = fmk (fin F x) 24 0 (i32 0) := fmk_congr 24 0 _ (fun j j0 j1 => EqT_fin E V j0 (by omega))
theorem csetL2 (D : SetC g0 n F S ts z0) (C : TR F) (pn : ∀ x ∈ S, 0 ≤ fnm F x.1 ∧ fnm F x.1 < 24) : ∀ (k m i : Nat) (R : Int → Int32) (g : HP), i + k = S.length → k < m → SI (Wst z0) g0 g → (∀ (q : Nat) (x : TS), S[q]? = some x → hI g 387 (ts q) = i32 (fnm F x.1)) → (∀ m, 0 ≤ m → m < 32 → F m ≠ -1 → hI g 137 (63 + 4 + m.toNat) = R m) →
  (∀ e, pcirc F (S.drop i) R = some e → ∃ g', lX3_settle_81 kse m 62 (i32 i) g = some (false, g') ∧ hI g' 192 62 = i32 e ∧ SI (Wst z0) g0 g') ∧
  (pcirc F (S.drop i) R = none → ∃ g', lX3_settle_81 kse m 62 (i32 i) g = some (true, g') ∧ SI (Wst z0) g0 g' ∧ (∀ (q : Nat) (x : TS), S[q]? = some x → hI g' 387 (ts q) = i32 (fnm F x.1)) ∧ (∀ m, 0 ≤ m → m < 32 → F m ≠ -1 → hI g' 137 (63 + 4 + m.toNat) = Rfin F (S.drop i) R m) ∧ hI g' 192 62 = hI g 192 62) := by
  obtain ⟨C0, d1, d2, d3, d4, d5, d6, d7, d8⟩ := id D
  intro k
  induction k with
  | zero =>
    intro m i R g e hm p hq hr
    obtain ⟨m, rfl⟩ : ∃ x, m = x + 1 := ⟨m - 1, by omega⟩
    have C := C0.sk p.sk
    have el : S.drop i = [] := List.drop_eq_nil_of_le (by omega)
    have h196 : hI g 196 62 = i32 S.length := by rw [p.I (by unfold Wst; omega)]; exact d1
    have step : lX3_settle_81 kse (m + 1) 62 (i32 i) g = some (true, g) := by
      rw [elX3_settle_81]; unfold bX3_settle_81
      rw [C.o_parser, gd_tt, h196, if_pos (by rw [i32_le (by omega) (by omega) (by omega) (by omega)]; omega)]
    rw [el]
    exact ⟨fun e h => (by cases h), fun _ => ⟨g, step, p, hq, hr, rfl⟩⟩
  | succ k ih =>
    intro m i R g e hm p hq hr
    obtain ⟨m, rfl⟩ : ∃ x, m = x + 1 := ⟨m - 1, by omega⟩
    have C := C0.sk p.sk
    have hi : i < S.length := by omega
    obtain ⟨x, hx⟩ : ∃ x, S[i]? = some x := ⟨_, List.getElem?_eq_getElem hi⟩
    have t := d3 i x hx
    have px := pn x (List.mem_of_getElem? hx)
    obtain ⟨x1, x2, x3, x4⟩ := d8 i x hx
    have h196 : hI g 196 62 = i32 S.length := by rw [p.I (by unfold Wst; omega)]; exact d1
    have Rr := FRb_SI d5 p
    obtain ⟨E, G⟩ := FRb_tree Rr d6.tv d6.ov
    have V := d6.av
    have ot : isO g (ts i) 6 = true := by rw [p.o]; exact t.2.2.1
    have hf : hI g 387 (ts i) = i32 (fnm F x.1) := hq i x hx
    have cr := crefuses C.sf (EqT_TV E d6.tv) G (EqT_CE E V d6.ce) (x := x.2.2.1) (f := fnm F x.1) (Or.inr ⟨x2, by omega⟩) (by omega) (by omega)
    rw [EqT_fmk E V, EqT_NE E V (R := Rfc g 63) (S := R) (fun m a c d => hr m a c d) d6.tv] at cr
    have pre : lX3_settle_81 kse (m + 1) 62 (i32 i) g = if decide (fmk (fin F x.2.2.1) 24 0 (i32 0) &&& rch (NE F R) (fnm F x.1) ≠ i32 0) = true then kse 62 (i32 i) g else lX3_settle_81 kse m 62 (i32 ((i + 1 : Nat) : Int)) (sI g 137 (63 + 4 + x.2.2.1.toNat) (hI g 137 (63 + 4 + x.2.2.1.toNat) ||| sng (fnm F x.1))) := by
      rw [elX3_settle_81]; unfold bX3_settle_81
      rw [C.o_parser, gd_tt, h196, if_neg (by rw [i32_le (by omega) (by omega) (by omega) (by omega)]; omega), if_neg (by rw [i32_le (by omega) (by omega) (by omega) (by omega)]; omega), C.r_terms, oc_s, C.o_terms, gd_tt, C.n_terms, i32_inb (by omega) (by omega) (by omega), gd_tt, i32_cn (by omega) (by omega), Int.toNat_natCast, p.Q, t.1, on_sm, gd_tt, ot, gd_tt, hf]
      unfold jX3_settle_119
      rw [C.o_parser, gd_tt, C.r_towners, oc_s, C.o_towners, gd_tt, C.n_towners, i32_inb (by omega) (by omega) (by omega), gd_tt, C.r_pform, oc_s, C.o_pform, gd_tt, i32_cn (by omega) (by omega), Int.toNat_natCast, p.A, t.2.2.2.2.2.2.2.2, cfind C.sf (by omega) (by omega), bn_s, fno_y x2 x3 (by rw [E.1 _ x2 x3]; exact x4), on_sm, if_neg (by rw [i32_z, i32_lt (by omega) (by omega) (by omega) (by omega)]; omega), gd_tt, cr, bn_s, C.sf.on (by omega), gd_tt, lt_e, i32_add, lt_e]
      rfl
    rw [drop_cons hx]
    simp only [pcirc]
    rw [pre]
    by_cases c : fmk (fin F x.2.2.1) 24 0 (i32 0) &&& rch (NE F R) (fnm F x.1) ≠ i32 0
    · rw [if_pos c, if_pos (decide_eq_true c)]
      obtain ⟨g', y1, y2, y3⟩ := kse_s D p hx
      exact ⟨fun e he => (by cases he; exact ⟨g', y1, y2, y3⟩), fun he => by cases he⟩
    · rw [if_neg c, if_neg (by rw [decide_eq_true_eq]; exact c)]
      have q2 : SI (Wst z0) g (sI g 137 (63 + 4 + x.2.2.1.toNat) (hI g 137 (63 + 4 + x.2.2.1.toNat) ||| sng (fnm F x.1))) := SI_I (Or.inr (Or.inl ⟨rfl, by omega, by omega⟩)) _
      obtain ⟨r1, r2⟩ := ih m (i + 1) (addR R x.2.2.1 (fnm F x.1)) _ (by omega) (by omega) (p.t q2) (fun q y hy => by rw [rII, if_neg (by omega)]; exact hq q y hy) (fun m' a b c' => by
        rw [rII]
        unfold addR
        by_cases d : m' = x.2.2.1
        · rw [if_pos (by omega), if_pos d, d, hr _ x2 x3 x4]
        · rw [if_neg (by omega), if_neg d]; exact hr m' a b c')
      refine ⟨r1, fun he => ?_⟩
      obtain ⟨g', y1, y2, y3, y4, y5⟩ := r2 he
      exact ⟨g', y1, y2, y3, y4, by rw [y5, rII, if_neg (by omega)]⟩
/-- the class settles: right, or a place -/
theorem csettle (D : SetC g0 n F S ts z0) {R : Int → Int32} (hr : ∀ m, 0 ≤ m → m < 32 → F m ≠ -1 → hI g0 137 (63 + 4 + m.toNat) = R m) :
  (∀ e, pres F S R = some e → ∃ g', fX3_settle 62 g0 = some (false, g') ∧ hI g' 192 62 = i32 e ∧ SI (Wst z0) g0 g') ∧
  (pres F S R = none → ∃ g', fX3_settle 62 g0 = some (true, g') ∧ SI (Wst z0) g0 g' ∧ (∀ (q : Nat) (x : TS), S[q]? = some x → hI g' 387 (ts q) = i32 (fnm F x.1)) ∧ (∀ m, 0 ≤ m → m < 32 → F m ≠ -1 → hI g' 137 (63 + 4 + m.toNat) = Rfin F S R m) ∧ hI g' 192 62 = hI g0 192 62) := by
  have fu : FU = 1000000 := rfl
  have d2 := D.2.2.1
  have un : fX3_settle 62 g0 = lX3_settle_2 kse (fun w10 h11 => lX3_settle_81 kse FU w10 (i32 0) h11) FU 62 (i32 ((0 : Nat) : Int)) g0 := rfl
  obtain ⟨a1, a2⟩ := csetL1 D (K2 := fun w10 h11 => lX3_settle_81 kse FU w10 (i32 0) h11) S.length FU 0 g0 (by omega) (by omega) SI.r (fun q x hq _ => by omega) (fun m _ _ _ => rfl)
  rw [← un] at a1 a2
  simp only [List.drop_zero] at a1 a2
  unfold pres
  cases h : pnames F S with
  | some e => exact ⟨fun e' he => (by cases he; exact a1 e h), fun he => by cases he⟩
  | none =>
    obtain ⟨g1, y1, y2, y3, y4, y5⟩ := a2 h
    rw [y1]
    obtain ⟨b1, b2⟩ := csetL2 D D.2.2.2.2.2.2.1 (pnames_ok S h) S.length FU 0 R g1 (by omega) (by omega) y2 y3 (fun m a c d => by rw [y4 m a c d]; exact hr m a c d)
    simp only [List.drop_zero] at b1 b2
    refine ⟨b1, fun he => ?_⟩
    obtain ⟨g', z1, z2, z3, z4, z5⟩ := b2 he
    exact ⟨g', z1, z2, z3, z4, z5.trans y5⟩
end
