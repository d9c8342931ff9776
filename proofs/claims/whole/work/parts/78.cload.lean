/-! LOAD -/
section
variable {h g : HP} {b : Int → Int} {np T k : Nat}
def pld (T : Nat → TK) (was : Nat) (F : Int → Int) : ZR := if (phd T).1 = true then pnod T was 1201 0 (-2) 0 5 F [] [] else (false, (phd T).2, F, [], [])
theorem pld_le {T : Nat → TK} {was c : Nat} {F : Int → Int} (e : Tend T c) : (pld T was F).2.1 ≤ c := by
  have a := phd_le e
  unfold pld
  by_cases p : (phd T).1 = true
  · rw [if_pos p]
    have : (phd T).2 = 5 := by
      unfold phd at p ⊢
      by_cases c0 : tkk (T 0) = 4
      · rw [if_pos c0] at p ⊢
        by_cases c1 : pin (T 1) 14 60 = true
        · rw [if_pos c1] at p ⊢
          by_cases c2 : pin (T 2) 14 60 = true
          · rw [if_pos c2] at p ⊢
            by_cases c3 : pin (T 3) 1 60 = true
            · rw [if_pos c3] at p ⊢
              by_cases c4 : tkk (T 4) = 59
              · rw [if_pos c4]
              · rw [if_neg c4] at p; cases p
            · rw [if_neg c3] at p; cases p
          · rw [if_neg c2] at p; cases p
        · rw [if_neg c1] at p; cases p
      · rw [if_neg c0] at p; cases p
    exact le_nod e 1201 0 (-2) 0 5 F [] [] (by omega)
  · rw [if_neg p]; exact a
theorem phd_k {T : Nat → TK} (p : (phd T).1 = true) : ∀ j, j < 5 → tkk (T j) ≠ 0 := by
  unfold phd at p
  by_cases c0 : tkk (T 0) = 4
  · rw [if_pos c0] at p
    by_cases c1 : pin (T 1) 14 60 = true
    · rw [if_pos c1] at p
      by_cases c2 : pin (T 2) 14 60 = true
      · rw [if_pos c2] at p
        by_cases c3 : pin (T 3) 1 60 = true
        · rw [if_pos c3] at p
          by_cases c4 : tkk (T 4) = 59
          · intro j hj
            have d1 := (pin_t.mp c1).1
            have d2 := (pin_t.mp c2).1
            have d3 := (pin_t.mp c3).1
            rcases (show j = 0 ∨ j = 1 ∨ j = 2 ∨ j = 3 ∨ j = 4 by omega) with e | e | e | e | e <;> rw [e] <;> omega
          · rw [if_neg c4] at p; cases p
        · rw [if_neg c3] at p; cases p
      · rw [if_neg c2] at p; cases p
    · rw [if_neg c1] at p; cases p
  · rw [if_neg c0] at p; cases p
def noO (_ : Int) : Bool := false
def noC (_ : Int) : List Int32 := []
/-- the head is read: nothing stands yet -/
theorem ni_load {W : Int → Int} {n : Int} {was : Nat} (n0 : 0 ≤ n) (p : (phd (tkn b n)).1 = true) : NI b n was noO (emp W) 5 (emp W) [] [] := by
  have kz := phd_k p
  have st := tS_n (b := b) n0 0
  obtain ⟨t, kd⟩ := emp_T W
  have nn : ∀ m, m < 32 → ¬ emp W m ≠ -1 := fun m h z => z (emp_0 h)
  have B0 : MBz b n 0 [] [] := ⟨by omega, by simp; omega, by simp; omega⟩
  have B5 : MBz b n 5 [] [] := MBz_1 n0 (MBz_1 n0 (MBz_1 n0 (MBz_1 n0 (MBz_1 n0 B0 (kz 0 (by omega))) (kz 1 (by omega))) (kz 2 (by omega))) (kz 3 (by omega))) (kz 4 (by omega))
  exact ⟨t, kd, fun m a c d => absurd d (nn m c), ⟨fun m a c d => absurd d (nn m c), fun q x hx => by simp at hx⟩, B5, fun m hm => (by cases hm), fun m hm => (by cases hm)⟩
theorem PL_emp (W : Int → Int) : PLs (emp W) 0 (-2) 0 := fun i hi => by
  have e : i = 0 := by omega
  have z8 : emp W 288 = 0 := emp_1 (by omega) (by omega)
  rw [e]
  exact ⟨Int.le_refl _, by rw [z8]; exact Int.le_refl _, fun _ => z8.symm, fun z => absurd rfl z⟩
theorem pld_inv {W : Int → Int} {n : Int} {was : Nat} (n0 : 0 ≤ n) (ok : (pld (tkn b n) was (emp W)).1 = true) : NI b n was noO (emp W) (pld (tkn b n) was (emp W)).2.1 (pld (tkn b n) was (emp W)).2.2.1 (pld (tkn b n) was (emp W)).2.2.2.1 (pld (tkn b n) was (emp W)).2.2.2.2 ∧ SGJ (pld (tkn b n) was (emp W)).2.2.1 was (pld (tkn b n) was (emp W)).2.2.2.2 ∧ SGZ (pld (tkn b n) was (emp W)).2.2.1 ∧ nfl (pld (tkn b n) was (emp W)).2.2.1 = (pld (tkn b n) was (emp W)).2.2.1 289 := by
  unfold pld at ok ⊢
  by_cases p : (phd (tkn b n)).1 = true
  rotate_left
  · rw [if_neg p] at ok; cases ok
  rw [if_pos p] at ok ⊢
  have N0 := ni_load (W := W) (was := was) n0 p
  have nn : ∀ m, m < 32 → ¬ emp W m ≠ -1 := fun m h z => z (emp_0 h)
  have io : ∀ i, i < 0 → 0 ≤ up (emp W) i (-2) := fun i hi => by omega
  have g2 : grok (emp W) (-2) := Or.inl rfl
  refine ⟨(ni_nod n0 1201 0 5 0 (-2) _ [] [] N0 (PL_emp W) g2 io ok).1, sgj_nod n0 1201 0 5 0 (-2) _ [] [] N0 (PL_emp W) g2 io (fun m a c d => absurd d (nn m c)) ok, nod_ind n0 (fun _ _ _ _ _ _ t P q o => sgz_fld n0 t P q o) (fun _ _ _ _ _ _ t P q o => sgz_grp n0 t P q o) 1201 0 5 0 (-2) _ [] [] N0 (PL_emp W) g2 io (fun m a c d => absurd d (nn m c)) ok, ?_⟩
  have e := nfl_nod n0 1201 0 5 0 (-2) _ [] [] N0 (PL_emp W) g2 io ok
  have e0 : nfl (emp W) = 0 := by
    unfold nfl
    rw [cnt_congr (q := fun _ => false) 24 0 (fun m m0 m1 => decide_eq_false (nn m (by omega)))]
    decide
  have e9 : emp W 289 = 0 := emp_1 (by omega) (by omega)
  rw [e0, e9] at e
  omega
theorem cload (r : RC h np) (h641 : hI h 641 0 = i32 T) (T1 : T ≤ 1200) (tb : TB h 1 b T) : ∃ ok g3, fX10_load 0 h = jX10_load_52 0 ok g3 ∧ (Kq h g3 ∧ TS2 h g3 ∧ hsz g3 ≤ hsz h + T ∧ hsl g3 ≤ hsl h + 6 * T) ∧ (∀ e, perr (tkn b T) (R0 noC noO) (pld (tkn b T) np (emp (Wm h))) = some e → ok = false ∧ hI g3 192 62 = i32 e) ∧ (perr (tkn b T) (R0 noC noO) (pld (tkn b T) np (emp (Wm h))) = none → ok = true ∧ hI g3 192 62 = i32 (-2) ∧ FRc g3 63 (pld (tkn b T) np (emp (Wm h))).2.2.1 (Cnw (pld (tkn b T) np (emp (Wm h))).2.2.1 (pld (tkn b T) np (emp (Wm h))).2.2.2.1 (pld (tkn b T) np (emp (Wm h))).2.2.2.2 np noC noO) ∧ (hI g3 0 63 = i32 (tkv (tkn b T 1)) ∧ hI g3 1 63 = i32 (tkv (tkn b T 2)) ∧ hI g3 2 63 = i32 (tkv (tkn b T 3))) ∧ (14 ≤ tkv (tkn b T 1) ∧ tkv (tkn b T 1) ≤ 60) ∧ (14 ≤ tkv (tkn b T 2) ∧ tkv (tkn b T 2) ≤ 60) ∧ 1 ≤ tkv (tkn b T 3) ∧ tkv (tkn b T 3) ≤ 60) := by
  obtain ⟨C, M, K, n24, sz, d8, s, past⟩ := r
  have n0 : (0 : Int) ≤ (T : Int) := by omega
  have n1 : (T : Int) ≤ 1200 := by omega
  obtain ⟨F0, eF⟩ : ∃ F0, F0 = emp (Wm h) := ⟨_, rfl⟩
  obtain ⟨g2, c, c2, q2, P2, te, cn⟩ := cstart (b := b) (n := T) C K d8 tb n0 n1 (fun _ => 0)
  have C2 : CS g2 := P2.1.cs
  have z2 : hsz g2 = hsz h := by have := q2.2.1; have := q2.sk.1; omega
  obtain ⟨g3, e3, h3, w3, w3'⟩ := creadHead (W := Wm h) n0 n1 P2
  rw [← eF] at w3 ⊢
  have C3 := C2.sk h3.1.1
  have kq3 : Kq h g3 := (Kq_co q2 LSt_S d8).t h3.1
  have ts3 : TS2 h g3 := (TS2_co q2 (okS_T LSt_S)).t h3.2.1
  have pre : ∀ x, fX10_load 0 h = x ↔ (if (phd (tkn b T)).1 = true then (gd (isO g3 0 10) <| oc (hR g3 648 0) fun o15 => gd (isO g3 o15 3) <| bn2 (fX3_readNodes o15 (i32 (-2)) g3) fun v19 h20 => if v19 = true then (gd (isO h20 0 10) <| oc (hR h20 648 0) fun o22 => gd (isO h20 o22 3) <| bn2 (fX3_settle o22 h20) fun v26 h27 => if v26 = true then jX10_load_52 0 true h27 else jX10_load_51 0 h27) else jX10_load_51 0 h20) else jX10_load_51 0 g3) = x := fun x => by
    unfold fX10_load
    rw [C.o, gd_tt, C.r_parser, oc_s, C.o_parser, gd_tt, C.r_tape, h641, c2, bn_s, C2.o, gd_tt, C2.r_parser, oc_s, C2.o_parser, gd_tt, e3, bn2_s]
  obtain ⟨Z, eZ⟩ : ∃ Z, Z = pld (tkn b (T : Int)) np F0 := ⟨_, rfl⟩
  have zl : Z.2.1 ≤ c := by rw [eZ]; exact pld_le te
  have zN : Z.1 = true → NI b T np noO F0 Z.2.1 Z.2.2.1 Z.2.2.2.1 Z.2.2.2.2 := fun ok => by
    rw [eZ, eF] at ok ⊢
    exact (pld_inv n0 ok).1
  rw [← eZ]
  have l2 := q2.2.2.1
  have l3 := h3.2.2.2
  by_cases ph : (phd (tkn b (T : Int))).1 = true
  rotate_left
  · have phf : (phd (tkn b (T : Int))).1 = false := by cases y : (phd (tkn b (T : Int))).1 with
      | true => exact absurd y ph
      | false => rfl
    have eZ' : Z = (false, (phd (tkn b (T : Int))).2, F0, [], []) := by rw [eZ]; unfold pld; rw [if_neg ph]
    refine ⟨false, g3, (pre _).mpr (by rw [if_neg ph]; rfl), ⟨kq3, ts3, by have := h3.2.2.1; omega, by omega⟩, fun e he => ?_, fun he => ?_⟩
    · rw [eZ'] at he
      unfold perr at he
      rw [if_neg (show ¬ (false = true) by decide)] at he
      cases he
      exact ⟨rfl, w3' phf⟩
    · rw [eZ'] at he
      unfold perr at he
      rw [if_neg (show ¬ (false = true) by decide)] at he
      cases he
  obtain ⟨Q3, x196, fb3, ⟨y0, y1, y2⟩, r1, r2, r3⟩ := w3 ph
  have P3 : CP g3 b T c 5 [] (fun _ => 0) := ⟨Q3, by simp, x196, fun q x hx => by simp at hx⟩
  have nn : ∀ m, m < 32 → ¬ F0 m ≠ -1 := fun m hm z => by rw [eF] at z; exact z (emp_0 hm)
  have R3 : RPc g3 F0 [] [] (fun _ => 0) np noC noO (hsz h) := ⟨fb3, fun m m0 m1 mp => absurd mp (nn m m1), ⟨by have := h3.2.2.1; omega, fun q hq => by simp at hq⟩⟩
  have N0 : NI b T np noO F0 5 F0 [] [] := by rw [eF]; exact ni_load n0 ph
  have c5 : 5 ≤ c := by
    have := te.s (j := 4) (phd_k ph 4 (by omega))
    omega
  obtain ⟨ok2, g4, e4, eok, z3⟩ := cnodesL n0 n1 1201 FU 0 0 5 0 (-2) F0 [] [] (fun _ => 0) g3 (by omega) (by decide) (by omega) c5 P3 R3 N0 (by rw [eF]; exact PL_emp _) (Or.inl rfl) (start := -2) ⟨rfl, fun i hi => by omega⟩
  have eZ' : pnod (tkn b (T : Int)) np 1201 0 (-2) 0 5 F0 [] [] = Z := by rw [eZ]; unfold pld; rw [if_pos ph]
  rw [eZ'] at eok z3
  have q4 := z3.2.1
  have C4 := C3.sk q4.sk
  obtain ⟨ok, g5, e5, q5, w1, w2⟩ := cflow (J := jX10_load_52 0) (n := T) C4 (fun ok => by
    obtain ⟨_, ts, P, R⟩ := z3.2.2.1 ok
    exact ⟨ts, ⟨P.2.2.1, P.2.2.2, P.1.er⟩, R⟩) z3.2.2.2 (fun ok => (zN ok).j n0 n1)
  have zz3 := h3.2.2.1
  have ts4 : TS2 h g4 := ts3.t (TS2_co q4 (okS_T LF_S))
  have kq4 : Kq h g4 := kq3.t (Kq_co q4 LF_S (by omega))
  refine ⟨ok, g5, (pre _).mpr ?_, ⟨kq4.t (Kq_SI q5 d8), TS2_SI' ts4 q5 (Nat.le_refl _) d8, ?_, ?_⟩, w1, fun he => ?_⟩
  · have en : fX3_readNodes 62 (i32 (-2)) g3 = some (ok2, g4) := e4
    rw [if_pos ph, C3.o, gd_tt, C3.r_parser, oc_s, C3.o_parser, gd_tt, en, bn2_s, eok]
    exact e5
  · rw [q5.sz]
    have := q4.2.1
    omega
  · have e : hsl g5 = hsl g4 := by unfold hsl; rw [q5.1]
    have l4 := q4.2.2.1
    rw [e]; omega
  · obtain ⟨u1, u2, u3⟩ := w2 he
    have i5 : ∀ f, f < 3 → hI g5 f 63 = hI g3 f 63 := fun f hf => by
      have nf : LF.contains f = false := by rcases (show f = 0 ∨ f = 1 ∨ f = 2 by omega) with e | e | e <;> rw [e] <;> decide
      rw [q5.I (fun w => by rcases w with w | w | w <;> omega), q4.I3 (by omega) nf hf]
    exact ⟨u1, u2, u3, ⟨(i5 0 (by omega)).trans y0, (i5 1 (by omega)).trans y1, (i5 2 (by omega)).trans y2⟩, r1, r2, r3⟩
end

