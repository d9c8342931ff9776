/-! THE HEAD, THE CLASS -/
section
variable {g g' : HP} {b : Int → Int} {n : Int} {c j : Nat} {W : Int → Int}
theorem cclearFL {a : Nat} : ∀ (d m i : Nat) (f : HP), i + d = 32 → d < m → FormAt f a → (∀ q : Nat, q < i → hI f 128 (a + 4 + q) = i32 0) → ∃ g', lX0_clear_17 m a (i32 (i : Int)) f = some g' ∧ So (inF a) f g' ∧ (∀ q : Nat, q < 32 → hI g' 128 (a + 4 + q) = i32 0) ∧ ∀ u, hI g' u a = hI f u a := by
  intro d
  induction d with
  | zero =>
    intro m i f hi hm A z
    obtain ⟨m, rfl⟩ : ∃ x, m = x + 1 := ⟨m - 1, by omega⟩
    refine ⟨f, ?_, So.r, fun q hq => z q (by omega), fun _ => rfl⟩
    rw [elX0_clear_17]; unfold bX0_clear_17
    rw [if_pos (by rw [i32_le (by omega) (by omega) (by omega) (by omega)]; omega)]
  | succ d ih =>
    intro m i f hi hm A z
    obtain ⟨m, rfl⟩ : ∃ x, m = x + 1 := ⟨m - 1, by omega⟩
    have h32 : i < 32 := by omega
    obtain ⟨φ, ψ, ρ, c1, c2, c3, c4, c5, c6⟩ := clearNode (A.on h32)
    obtain ⟨f1, e1⟩ : ∃ f1, f1 = wO f (a + 4 + i) φ ψ ρ := ⟨_, rfl⟩
    rw [← e1] at c1
    have p1 : So (fun x => x = a + 4 + i) f f1 := by rw [e1]; exact So_wO rfl (fun u a1 _ _ => c5 u a1)
    have q1 : So (inF a) f f1 := p1.w (fun x hx => ⟨by omega, by omega⟩)
    obtain ⟨g', a1, a2, a3, a4⟩ := ih m (i + 1) f1 (by omega) (by omega) (A.sk p1.1) (fun q hq => by
      by_cases y : q = i
      · rw [y, e1, wO_I]; exact c2.1
      · rw [(p1.2.2 _ (by omega)).1]; exact z q (by omega))
    refine ⟨g', ?_, q1.t a2, a3, fun u => by rw [a4 u, (p1.2.2 a (by omega)).1]⟩
    rw [elX0_clear_17]; unfold bX0_clear_17 jX0_clear_41
    rw [if_neg (by rw [i32_le (by omega) (by omega) (by omega) (by omega)]; omega), A.o, gd_tt, A.rN, oc_s, A.oN, gd_tt, A.nN, i32_inb (by omega) (by omega) (by omega), gd_tt, i32_cn (by omega) (by omega), show ((i : Int)).toNat = i from rfl, A.q h32, on_sm, gd_tt, A.on h32, gd_tt, c1, bn_s, lt_e, i32_add]
    exact a1
theorem cclearF {a : Nat} (A : FormAt g a) : ∃ g', fX0_clear a g = some g' ∧ So (inF a) g g' ∧ FRb g' a (emp W) ∧ ∀ u, u < 3 → hI g' u a = hI g u a := by
  obtain ⟨g1, e1⟩ : ∃ g1, g1 = sI (sI (sI g 3 a (i32 0)) 4 a (i32 0)) 5 a (i32 0) := ⟨_, rfl⟩
  have ia : inF a a := ⟨by omega, by omega⟩
  have p1 : So (inF a) g g1 := by rw [e1]; exact ((So_I ia _ _).t (So_I ia _ _)).t (So_I ia _ _)
  obtain ⟨g', a1, a2, a3, a4⟩ := cclearFL (a := a) 32 FU 0 g1 (by omega) (by decide) (A.sk p1.1) (fun q hq => by omega)
  have z8 : emp W 288 = 0 := emp_1 (by omega) (by omega)
  refine ⟨g', ?_, p1.t a2, ⟨?_, ?_, ?_, fun i i0 i1 => by rw [z8] at i1; omega, fun m m0 m1 => Or.inl ⟨emp_0 m1, a3 m.toNat (by omega)⟩⟩, fun u hu => ?_⟩
  · unfold fX0_clear
    rw [A.o, gd_tt, lt_e, lt_e, lt_e, ← e1]
    exact a1
  · rw [a4, e1, rII, if_neg (by omega), rII, if_neg (by omega), rII, if_pos ⟨rfl, rfl⟩, emp_1 (by omega) (by omega)]
  · rw [a4, e1, rII, if_neg (by omega), rII, if_pos ⟨rfl, rfl⟩, emp_1 (by omega) (by omega)]
  · rw [a4, e1, rII, if_pos ⟨rfl, rfl⟩, emp_1 (by omega) (by omega)]
  · rw [a4, e1, rII, if_neg (by omega), rII, if_neg (by omega), rII, if_neg (by omega)]
theorem CQ_So (p : So (inF 63) g g') (P : CQ g b n c j) : CQ g' b n c j := by
  obtain ⟨C, ⟨z, e⟩, ⟨t1, t2, t3, t4, t5⟩, ⟨u1, u2, u3, u4⟩⟩ := P
  have s : ∀ x, (x < 63 ∨ 99 ≤ x) → Sm g g' x := fun x hx => p.2.2 x (fun w => by have := w.1; have := w.2; omega)
  have s99 := s 99 (by omega)
  refine ⟨C.sk p.1, ⟨by unfold hsz; rw [p.2.1]; exact z, by rw [(s 62 (by omega)).1]; exact e⟩, ⟨t1, (s99.1 _).trans t2, (s99.1 _).trans t3, fun q hq => ?_, t5⟩, ⟨(s99.1 _).trans u1, (s99.1 _).trans u2, (s99.1 _).trans u3, fun x y => (s99.2.1 _).trans (u4 x y)⟩⟩
  obtain ⟨v1, v2, v3, v4⟩ := t4 q hq
  exact ⟨v1, ((s 100 (by omega)).2.2.2.1 q).trans v2, ((s 101 (by omega)).2.2.2.1 q).trans v3, fun w => ((s 103 (by omega)).2.2.2.2.1 q).trans (v4 w)⟩
theorem FRb_I {f : Nat} {v : Int32} {F : Int → Int} (hf : f < 3) (r : FRb g 63 F) : FRb (sI g f 63 v) 63 F := by
  obtain ⟨r3, r4, r5, ro, rn⟩ := r
  have i : ∀ u x, (x ≠ 63 ∨ 3 ≤ u) → hI (sI g f 63 v) u x = hI g u x := fun u x w => by rw [rII, if_neg (by omega)]
  refine ⟨by rw [i _ _ (by omega)]; exact r3, by rw [i _ _ (by omega)]; exact r4, by rw [i _ _ (by omega)]; exact r5, fun q i0 i1 => by rw [rAI]; exact ro q i0 i1, fun m m0 m1 => ?_⟩
  unfold NDc
  rw [i 128 _ (by omega), i 134 _ (by omega), rJI, i 130 _ (by omega), i 131 _ (by omega), i 132 _ (by omega), i 133 _ (by omega)]
  exact rn m m0 m1
theorem creadHead {ts : Nat → Nat} (n0 : 0 ≤ n) (n1 : n ≤ 1200) (P : CP g b n c 0 [] ts) : ∃ g', fX3_readHead 62 g = some ((phd (tkn b n)).1, g') ∧ HF g g' ∧ ((phd (tkn b n)).1 = true → CQ g' b n c 5 ∧ hI g' 196 62 = i32 0 ∧ FRb g' 63 (emp W) ∧ (hI g' 0 63 = i32 (tkv (tkn b n 1)) ∧ hI g' 1 63 = i32 (tkv (tkn b n 2)) ∧ hI g' 2 63 = i32 (tkv (tkn b n 3))) ∧ (14 ≤ tkv (tkn b n 1) ∧ tkv (tkn b n 1) ≤ 60) ∧ (14 ≤ tkv (tkn b n 2) ∧ tkv (tkn b n 2) ≤ 60) ∧ 1 ≤ tkv (tkn b n 3) ∧ tkv (tkn b n 3) ≤ 60) ∧ ((phd (tkn b n)).1 = false → hI g' 192 62 = i32 (tks (tkn b n (phd (tkn b n)).2))) := by
  have C := P.1.cs
  have z := P.1.sz
  have lo : okS [448, 449, 450, 451] = true := by decide
  have l2 : okS [192] = true := by decide
  have i63 : inF 63 63 := ⟨by omega, by omega⟩
  obtain ⟨g1, a1, p1, fb1, s1⟩ := cclearF (W := W) C.sf
  have Q1 := CQ_So p1 P.1
  have C1 := Q1.cs
  have h1 := HF_So p1
  have e196 : hI g1 196 62 = i32 0 := by rw [(p1.2.2 62 (fun w => by have := w.1; omega)).1]; exact P.2.2.1
  unfold fX3_readHead
  rw [C.o_parser, gd_tt, C.r_pform, oc_s, C.o_pform, gd_tt, a1, bn_s, C1.o_parser, gd_tt]
  have fb_co : ∀ {g g' : HP}, CS g → FRb g 63 (emp W) → Co 0 [448, 449, 450, 451] g g' → FRb g' 63 (emp W) := fun C f p => FRb_co f C.sf p (LF_F0 (Or.inl rfl)).2.1
  rcases ctake n0 n1 Q1 (by omega) (k := 4) (by omega) (by omega) with ⟨k0, g2, a2, p2, Q2⟩ | ⟨k0, g2, a2, p2, e2⟩
  rotate_left
  · have ph : phd (tkn b n) = (false, 0) := by unfold phd; rw [if_neg k0]
    rw [ph, a2, bn2_s, if_neg (by decide)]
    exact ⟨g2, rfl, h1.t (HF_co p2 l2 Q1.sz), fun w => (by cases w), fun _ => e2⟩
  have Q2 : CQ g2 b n c 1 := Q2
  have h2 := h1.t (HF_co p2 lo Q1.sz)
  have C2 := Q2.cs
  have fb2 := fb_co C1 fb1 p2
  have x2 : hI g2 196 62 = i32 0 := by rw [p2.I (sz_le C1 (by decide)) (by decide) (by decide)]; exact e196
  rw [a2, bn2_s, if_pos rfl, C2.o_parser, gd_tt]
  rcases ctakeInt n0 n1 Q2 (by omega) (lo := 14) (hi := 60) (by omega) (by omega) (by omega) (by omega) with ⟨k1, v1, w1, g3, a3, p3, Q3⟩ | ⟨k1, g3, a3, p3, e3⟩
  rotate_left
  · have ph : phd (tkn b n) = (false, 1) := by
      unfold phd
      rw [if_pos k0, if_neg (by rw [pin_t]; exact k1)]
    obtain ⟨g4, e4⟩ : ∃ g4, g4 = sI g3 0 63 (i32 (-1)) := ⟨_, rfl⟩
    have p4 : So (inF 63) g3 g4 := by rw [e4]; exact So_I i63 _ _
    have C3 := C2.sk p3.sk
    have C4 := C3.sk p4.1
    rw [ph, a3, bn2_s, C2.r_pform, oc_s, C3.o_pform, gd_tt, ← e4, lt_e, C4.o_parser, gd_tt, C4.r_pform, oc_s, C4.o_pform, gd_tt, show hI g4 0 63 = i32 (-1) by rw [e4, rII, if_pos ⟨rfl, rfl⟩], if_neg (by decide)]
    refine ⟨g4, rfl, (h2.t (HF_co p3 l2 Q2.sz)).t (HF_So p4), fun w => (by cases w), fun _ => ?_⟩
    rw [(p4.2.2 62 (fun w => by have := w.1; omega)).1]; exact e3
  obtain ⟨g4, e4⟩ : ∃ g4, g4 = sI g3 0 63 (i32 (tkv (tkn b n 1))) := ⟨_, rfl⟩
  have p4 : So (inF 63) g3 g4 := by rw [e4]; exact So_I i63 _ _
  have Q3 : CQ g3 b n c 2 := Q3
  have C3 := Q3.cs
  have Q4 := CQ_So p4 Q3
  have C4 := Q4.cs
  have h4 := (h2.t (HF_co p3 lo Q2.sz)).t (HF_So p4)
  have fb4 : FRb g4 63 (emp W) := by rw [e4]; exact FRb_I (by omega) (fb_co C2 fb2 p3)
  have x4 : hI g4 196 62 = i32 0 := by rw [(p4.2.2 62 (fun w => by have := w.1; omega)).1, p3.I (sz_le C2 (by decide)) (by decide) (by decide)]; exact x2
  have y4 : hI g4 0 63 = i32 (tkv (tkn b n 1)) := by rw [e4, rII, if_pos ⟨rfl, rfl⟩]
  rw [a3, bn2_s, C2.r_pform, oc_s, C3.o_pform, gd_tt, ← e4, lt_e, C4.o_parser, gd_tt, C4.r_pform, oc_s, C4.o_pform, gd_tt, y4, if_pos (by rw [i32_z, i32_le (by omega) (by omega) (by omega) (by omega)]; omega)]
  rcases ctakeInt n0 n1 Q4 (by omega) (lo := 14) (hi := 60) (by omega) (by omega) (by omega) (by omega) with ⟨k2, v2, w2, g5, a5, p5, Q5⟩ | ⟨k2, g5, a5, p5, e5⟩
  rotate_left
  · have ph : phd (tkn b n) = (false, 2) := by
      unfold phd
      rw [if_pos k0, if_pos (pin_t.mpr ⟨k1, v1, w1⟩), if_neg (by rw [pin_t]; exact k2)]
    obtain ⟨g6, e6⟩ : ∃ g6, g6 = sI g5 1 63 (i32 (-1)) := ⟨_, rfl⟩
    have p6 : So (inF 63) g5 g6 := by rw [e6]; exact So_I i63 _ _
    have C5 := C4.sk p5.sk
    have C6 := C5.sk p6.1
    rw [ph, a5, bn2_s, C5.o_pform, gd_tt, ← e6, lt_e, C6.o_parser, gd_tt, C6.r_pform, oc_s, C6.o_pform, gd_tt, show hI g6 1 63 = i32 (-1) by rw [e6, rII, if_pos ⟨rfl, rfl⟩], if_neg (by decide)]
    refine ⟨g6, rfl, (h4.t (HF_co p5 l2 Q4.sz)).t (HF_So p6), fun w => (by cases w), fun _ => ?_⟩
    rw [(p6.2.2 62 (fun w => by have := w.1; omega)).1]; exact e5
  obtain ⟨g6, e6⟩ : ∃ g6, g6 = sI g5 1 63 (i32 (tkv (tkn b n 2))) := ⟨_, rfl⟩
  have p6 : So (inF 63) g5 g6 := by rw [e6]; exact So_I i63 _ _
  have Q5 : CQ g5 b n c 3 := Q5
  have C5 := Q5.cs
  have Q6 := CQ_So p6 Q5
  have C6 := Q6.cs
  have h6 := (h4.t (HF_co p5 lo Q4.sz)).t (HF_So p6)
  have fb6 : FRb g6 63 (emp W) := by rw [e6]; exact FRb_I (by omega) (fb_co C4 fb4 p5)
  have x6 : hI g6 196 62 = i32 0 := by rw [(p6.2.2 62 (fun w => by have := w.1; omega)).1, p5.I (sz_le C4 (by decide)) (by decide) (by decide)]; exact x4
  have y6 : hI g6 1 63 = i32 (tkv (tkn b n 2)) := by rw [e6, rII, if_pos ⟨rfl, rfl⟩]
  have y6' : hI g6 0 63 = i32 (tkv (tkn b n 1)) := by rw [e6, rII, if_neg (by omega), p5.I (by have := Q4.sz; omega) (by decide) (by decide)]; exact y4
  rw [a5, bn2_s, C5.o_pform, gd_tt, ← e6, lt_e, C6.o_parser, gd_tt, C6.r_pform, oc_s, C6.o_pform, gd_tt, y6, if_pos (by rw [i32_z, i32_le (by omega) (by omega) (by omega) (by omega)]; omega)]
  rcases ctakeInt n0 n1 Q6 (by omega) (lo := 1) (hi := 60) (by omega) (by omega) (by omega) (by omega) with ⟨k3, v3, w3, g7, a7, p7, Q7⟩ | ⟨k3, g7, a7, p7, e7⟩
  rotate_left
  · have ph : phd (tkn b n) = (false, 3) := by
      unfold phd
      rw [if_pos k0, if_pos (pin_t.mpr ⟨k1, v1, w1⟩), if_pos (pin_t.mpr ⟨k2, v2, w2⟩), if_neg (by rw [pin_t]; exact k3)]
    obtain ⟨g8, e8⟩ : ∃ g8, g8 = sI g7 2 63 (i32 (-1)) := ⟨_, rfl⟩
    have p8 : So (inF 63) g7 g8 := by rw [e8]; exact So_I i63 _ _
    have C7 := C6.sk p7.sk
    have C8 := C7.sk p8.1
    rw [ph, a7, bn2_s, C7.o_pform, gd_tt, ← e8, lt_e, C8.o_parser, gd_tt, C8.r_pform, oc_s, C8.o_pform, gd_tt, show hI g8 2 63 = i32 (-1) by rw [e8, rII, if_pos ⟨rfl, rfl⟩], if_pos (by decide)]
    refine ⟨g8, rfl, (h6.t (HF_co p7 l2 Q6.sz)).t (HF_So p8), fun w => (by cases w), fun _ => ?_⟩
    rw [(p8.2.2 62 (fun w => by have := w.1; omega)).1]; exact e7
  obtain ⟨g8, e8⟩ : ∃ g8, g8 = sI g7 2 63 (i32 (tkv (tkn b n 3))) := ⟨_, rfl⟩
  have p8 : So (inF 63) g7 g8 := by rw [e8]; exact So_I i63 _ _
  have Q7 : CQ g7 b n c 4 := Q7
  have C7 := Q7.cs
  have Q8 := CQ_So p8 Q7
  have C8 := Q8.cs
  have h8 := (h6.t (HF_co p7 lo Q6.sz)).t (HF_So p8)
  have fb8 : FRb g8 63 (emp W) := by rw [e8]; exact FRb_I (by omega) (fb_co C6 fb6 p7)
  have x8 : hI g8 196 62 = i32 0 := by rw [(p8.2.2 62 (fun w => by have := w.1; omega)).1, p7.I (sz_le C6 (by decide)) (by decide) (by decide)]; exact x6
  have i7 : ∀ u, u < 2 → hI g8 u 63 = hI g6 u 63 := fun u hu => by
    rw [e8, rII, if_neg (by omega), p7.I (by have := Q6.sz; omega) (by rcases (show u = 0 ∨ u = 1 by omega) with e | e <;> rw [e] <;> decide) (by decide)]
  have y8 : hI g8 2 63 = i32 (tkv (tkn b n 3)) := by rw [e8, rII, if_pos ⟨rfl, rfl⟩]
  rw [a7, bn2_s, C7.o_pform, gd_tt, ← e8, lt_e, C8.o_parser, gd_tt, C8.r_pform, oc_s, C8.o_pform, gd_tt, y8, if_neg (by rw [i32_z, i32_lt (by omega) (by omega) (by omega) (by omega)]; omega)]
  rcases ctake n0 n1 Q8 (by omega) (k := 59) (by omega) (by omega) with ⟨k4, g9, a9, p9, Q9⟩ | ⟨k4, g9, a9, p9, e9⟩
  rotate_left
  · have ph : phd (tkn b n) = (false, 4) := by
      unfold phd
      rw [if_pos k0, if_pos (pin_t.mpr ⟨k1, v1, w1⟩), if_pos (pin_t.mpr ⟨k2, v2, w2⟩), if_pos (pin_t.mpr ⟨k3, v3, w3⟩), if_neg k4]
    rw [ph, a9, bn2_s, if_neg (by decide)]
    exact ⟨g9, rfl, h8.t (HF_co p9 l2 Q8.sz), fun w => (by cases w), fun _ => e9⟩
  have ph : phd (tkn b n) = (true, 5) := by
    unfold phd
    rw [if_pos k0, if_pos (pin_t.mpr ⟨k1, v1, w1⟩), if_pos (pin_t.mpr ⟨k2, v2, w2⟩), if_pos (pin_t.mpr ⟨k3, v3, w3⟩), if_pos k4]
  have Q9 : CQ g9 b n c 5 := Q9
  rw [ph, a9, bn2_s, if_pos rfl]
  have i9 : ∀ u, u < 3 → hI g9 u 63 = hI g8 u 63 := fun u hu => p9.I (by have := Q8.sz; omega) (by rcases (show u = 0 ∨ u = 1 ∨ u = 2 by omega) with e | e | e <;> rw [e] <;> decide) (by decide)
  exact ⟨g9, rfl, h8.t (HF_co p9 lo Q8.sz), fun _ => ⟨Q9, by rw [p9.I (sz_le C8 (by decide)) (by decide) (by decide)]; exact x8, fb_co C8 fb8 p9, ⟨by rw [i9 0 (by omega), i7 0 (by omega)]; exact y6', by rw [i9 1 (by omega), i7 1 (by omega)]; exact y6, by rw [i9 2 (by omega)]; exact y8⟩, ⟨v1, w1⟩, ⟨v2, w2⟩, v3, w3⟩, fun w => (by cases w)⟩
end

