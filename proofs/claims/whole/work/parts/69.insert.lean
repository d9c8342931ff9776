/-! THE FIELDS THAT A TEXT ADDS -/
section
variable {b : Int → Int} {n : Int} {was : Nat} {j : Nat} {F F0 : Int → Int} {S : List TS} {LL : List Int} {old : Int → Bool}
def nfl (F : Int → Int) : Int := cnt (fun n => decide (F n ≠ -1)) 24 0
theorem nfl_congr {F G : Int → Int} (e : ∀ n, 0 ≤ n → n < 24 → G n = F n) : nfl G = nfl F := cnt_congr 24 0 fun n n0 n1 => by
  show decide (G n ≠ -1) = decide (F n ≠ -1)
  rw [e n n0 (by omega)]
theorem pif_at {T : Nat → TK} {node x : Int} (h0 : 0 ≤ node) (h1 : node < 32) (h : x < 192 ∨ 256 ≤ x) : (pif T was node j F S LL).2.2.1 x = F x := by
  unfold pif
  by_cases z : tkk (T j) = 6
  · rw [if_pos z]
    cases okP : (pcond T node (j + 1) S).1 with
    | false => rfl
    | true => exact setc_lo h0 h1 h
  · rw [if_neg z]
theorem nfl_fld {ins pl : Int} (t : TF F) (gk : grok F ins) (P : PL F ins pl) (ok : (pfld (tkn b n) was pl ins j F S LL).1 = true) : nfl (pfld (tkn b n) was pl ins j F S LL).2.2.1 - (pfld (tkn b n) was pl ins j F S LL).2.2.1 289 = nfl F - F 289 := by
  have p0 := P.1
  have gv := t.2.2.2
  unfold pfld at ok ⊢
  by_cases m1 : F 289 < 24
  rotate_left
  · rw [if_neg m1] at ok; cases ok
  rw [if_pos m1] at ok ⊢
  have h0 : 0 ≤ F 289 := gv.1
  have h1 : F 289 < 32 := by omega
  have nab : F (F 289) = -1 := by
    apply Classical.byContradiction
    intro z
    have := (gv.2.2.2.2.2 (F 289) h0 h1 z).1 m1
    omega
  cases okN : (pnum (tkn b n) (tkk (tkn b n j) - 8) (j + 1)).1 with
  | false => simp only [okN] at ok; cases ok
  | true =>
    simp only [okN] at ok ⊢
    generalize pnum (tkn b n) (tkk (tkn b n j) - 8) (j + 1) = PN at *
    generalize tkk (tkn b n j) - 8 = srt at *
    unfold pfldT at ok ⊢
    by_cases c1 : nmOk F (tkn b n PN.2.1) = true
    rotate_left
    · rw [if_neg c1] at ok; cases ok
    rw [if_pos c1] at ok ⊢
    by_cases c2 : tkk (tkn b n (PN.2.1 + 1)) = 7
    rotate_left
    · rw [if_neg c2] at ok; cases ok
    rw [if_pos c2] at ok ⊢
    by_cases c3 : pin (tkn b n (PN.2.1 + 2)) 1 10 = true
    rotate_left
    · rw [if_neg c3] at ok; cases ok
    rw [if_pos c3] at ok ⊢
    rw [pend_F]
    obtain ⟨G, eG⟩ : ∃ G, G = fldF F pl ins srt (tkv (tkn b n PN.2.1)) PN.2.2.1 PN.2.2.2 (tkv (tkn b n (PN.2.1 + 2))) := ⟨_, rfl⟩
    rw [← eG]
    have g9 : G 289 = F 289 + 1 := by rw [eG]; unfold fldF; rw [updI_ne (by omega), updI_ne (by omega), updI_ne (by omega), updI_at rfl]
    have gn : ∀ m, 0 ≤ m → m < 24 → G m = if m = F 289 then ins else F m := fun m m0 m1 => by rw [eG, fldF_at (by omega) (by omega) (by omega) (by omega), addF_n p0 h0 h1 (by omega)]
    have e := cnt_ins (fun m => decide (F m ≠ -1)) (F 289) 24 0 (decide_eq_false (by rw [nab]; omega))
    rw [if_pos (by omega)] at e
    have e2 : nfl G = nfl F + 1 := by
      unfold nfl
      rw [← e]
      refine cnt_congr 24 0 fun m m0 m2 => ?_
      show decide (G m ≠ -1) = (decide (F m ≠ -1) || decide (m = F 289))
      rw [gn m m0 (by omega)]
      by_cases y : m = F 289
      · rw [if_pos y, decide_eq_true y, Bool.or_true]
        exact decide_eq_true (by rcases gk with q | q <;> omega)
      · rw [if_neg y, decide_eq_false y, Bool.or_false]
    rw [pif_at h0 h1 (by omega), nfl_congr (fun m m0 m2 => pif_at h0 h1 (by omega)), g9, e2]
    omega
theorem nfl_grp {ins pl : Int} (t : TF F) (P : PL F ins pl) (ok : (pgrp (tkn b n) was pl ins j F S LL).1 = true) : nfl (pgrp (tkn b n) was pl ins j F S LL).2.2.1 - (pgrp (tkn b n) was pl ins j F S LL).2.2.1 289 = nfl F - F 289 := by
  have p0 := P.1
  have p1 := P.2.1
  have gv := t.2.2.2
  unfold pgrp at ok ⊢
  by_cases m1 : F 290 < 8 ∧ (ins < 0 ∨ dpt F 8 ins < 4)
  rotate_left
  · rw [if_neg m1] at ok; cases ok
  rw [if_pos m1] at ok ⊢
  have h00 : 0 ≤ F 290 := gv.2.2.1
  have m32 : F 288 < 32 := gv.m (n := 0) (Or.inr m1.1)
  by_cases c1 : nmOk F (tkn b n (j + 1)) = true
  rotate_left
  · rw [if_neg c1] at ok; cases ok
  rw [if_pos c1] at ok ⊢
  rw [pend_F, pif_at (by omega) (by omega) (by omega), nfl_congr (fun m m0 m2 => pif_at (by omega) (by omega) (by omega)), grpF_at (by omega), addF_gt (by omega) (by omega) p1 m32 (by omega)]
  rw [nfl_congr (F := F) (fun m m0 m2 => by rw [grpF_at (by omega), addF_n p0 (by omega) (by omega) (by omega), if_neg (by omega)])]
theorem nfl_nod (n0 : 0 ≤ n) : ∀ (k : Nat) (op j : Nat) (pl ins : Int) (F : Int → Int) (S : List TS) (LL : List Int), NI b n was old F0 j F S LL → PLs F op ins pl → grok F ins → (∀ i, i < op → 0 ≤ up F i ins) → (pnod (tkn b n) was k pl ins op j F S LL).1 = true → nfl (pnod (tkn b n) was k pl ins op j F S LL).2.2.1 - (pnod (tkn b n) was k pl ins op j F S LL).2.2.1 289 = nfl F - F 289 := by
  intro k
  induction k with
  | zero => intro op j pl ins F S LL _ _ _ _ ok; cases ok
  | succ k ih =>
    intro op j pl ins F S LL N P gk io ok
    have T := N.1.1.tv
    by_cases c1 : 8 ≤ tkk (tkn b n j) ∧ tkk (tkn b n j) ≤ 10
    · cases okP : (pfld (tkn b n) was pl ins j F S LL).1 with
      | false => rw [pn_fld0 c1 okP] at ok; rw [ok] at okP; cases okP
      | true =>
        rw [pn_fld c1 okP] at ok ⊢
        obtain ⟨r1, r2, r3, r4⟩ := ni_fld n0 N P gk c1.1 c1.2 okP
        obtain ⟨i1, i2⟩ := INS_mv T gk ⟨rfl, io⟩ r4
        rw [ih op _ _ _ _ _ _ r2 r3 i2 i1.2 ok]
        exact nfl_fld N.1 gk (P 0 (by omega)) okP
    by_cases c2 : tkk (tkn b n j) = 5
    · cases okP : (pgrp (tkn b n) was pl ins j F S LL).1 with
      | false => rw [pn_grp0 c2 okP] at ok; rw [ok] at okP; cases okP
      | true =>
        rw [pn_grp c2 okP] at ok ⊢
        obtain ⟨r1, r2, r3, r4, r5, r6, r7⟩ := ni_grp n0 N P gk c2 okP
        obtain ⟨i1, i2⟩ := INS_mv T gk ⟨rfl, io⟩ r4
        rw [ih (op + 1) _ _ _ _ _ _ r2 r3 (Or.inr ⟨by omega, by omega, ?_⟩) (fun i hi => ?_) ok]
        · exact nfl_grp N.1 (P 0 (by omega)) okP
        · rw [r5]
          rcases gk with g | ⟨g1, g2, g3⟩ <;> omega
        · cases i with
          | zero => show 0 ≤ 24 + F 290; omega
          | succ i =>
            show 0 ≤ (if 0 ≤ 24 + F 290 then up _ i _ else _)
            rw [if_pos (by omega), r5]
            exact i1.2 i (by omega)
    by_cases c3 : tkk (tkn b n j) = 125 ∧ op ≠ 0
    · rw [pn_close c3] at ok ⊢
      obtain ⟨o, rfl⟩ : ∃ o, op = o + 1 := ⟨op - 1, by omega⟩
      have h0 := io 0 (by omega)
      change 0 ≤ ins at h0
      have upS : ∀ i, up F (i + 1) ins = up F i (F ins) := fun i => by
        show (if 0 ≤ ins then up F i (F ins) else ins) = _
        rw [if_pos h0]
      refine ih (o + 1 - 1) (j + 1) pl (F ins) F S LL ⟨N.1, N.2.1, N.2.2.1, N.2.2.2.1, MBz_1 n0 N.2.2.2.2.1 (by omega), N.2.2.2.2.2⟩ (fun i hi => ?_) ?_ (fun i hi => ?_) ok
      · rw [← upS]; exact P (i + 1) (by omega)
      · rcases gk with g | ⟨g1, g2, g3⟩
        · omega
        · rcases T.grp (by omega) g2 g3 with h | h
          · exact Or.inl h
          · exact Or.inr h
      · rw [← upS]; exact io (i + 1) (by omega)
    rw [pn_end c1 c2 c3]
end
/-! INSERT -/
section
variable {h g : HP} {np T k : Nat} {b : Int → Int} {pl p : Int}
/-- the model reads nodes into what is there -/
theorem mins (M : MS g) (h705 : hI g 705 983 = i32 T) (h714 : hI g 714 983 = i32 np) (tb : TB g 984 b T) (T1 : T ≤ 1200) (n24 : N24 g) (wb : np ≤ 10300) (fw : FWf (Wm g) (sgm (Pt g) (Wm g)) np) (p1 : -2147483648 ≤ p) (p2 : p < 2147483648) (vp : p = -2 ∨ (0 ≤ p ∧ p < 8 ∧ Wm g (24 + p) ≠ -1)) (P : PL (Wm g) (gno p) pl) (bh : ∀ g' : HP, MS g' → Wm g' = Wm g → fX11_behind 983 (i32 0) (i32 (gno p)) g' = some (i32 pl)) (gk : grok (Wm g) (gno p)) : ∃ g5 s0 v, fX11_insert 983 (i32 p) g = jX11_insert_71 983 (i32 np) v s0 g5 ∧ Mo LI g g5 ∧ N24 g5 ∧ (∀ i : Nat, i < np → hA g5 990 i = hA g 990 i) ∧ (∀ i : Nat, 292 ≤ i → hL g5 987 i = hL g 987 i) ∧ (∀ i, i < 292 → hL g5 988 i = hL g 987 i) ∧ hI g5 705 983 = i32 0 ∧ (∀ e, perr (tkn b T) (R0 (sgm (Pt g) (Wm g)) (oldF (Wm g))) (pnod (tkn b T) np 1201 pl (gno p) 0 0 (Wm g) [] []) = some e → hI g5 721 983 = i32 0 ∧ hI g5 706 983 = i32 e) ∧ (perr (tkn b T) (R0 (sgm (Pt g) (Wm g)) (oldF (Wm g))) (pnod (tkn b T) np 1201 pl (gno p) 0 0 (Wm g) [] []) = none → hI g5 721 983 = i32 1 ∧ hI g5 706 983 = i32 (-2) ∧ Enn (Wm g5) (pnod (tkn b T) np 1201 pl (gno p) 0 0 (Wm g) [] []).2.2.1 ∧ hI g5 714 983 = i32 (np + (pnod (tkn b T) np 1201 pl (gno p) 0 0 (Wm g) [] []).2.2.2.2.length) ∧ (∀ m, 0 ≤ m → m < 32 → (pnod (tkn b T) np 1201 pl (gno p) 0 0 (Wm g) [] []).2.2.1 m ≠ -1 → sgm (Pt g5) (pnod (tkn b T) np 1201 pl (gno p) 0 0 (Wm g) [] []).2.2.1 m = Cnw (pnod (tkn b T) np 1201 pl (gno p) 0 0 (Wm g) [] []).2.2.1 (pnod (tkn b T) np 1201 pl (gno p) 0 0 (Wm g) [] []).2.2.2.1 (pnod (tkn b T) np 1201 pl (gno p) 0 0 (Wm g) [] []).2.2.2.2 np (sgm (Pt g) (Wm g)) (oldF (Wm g)) m) ∧ s0 = decide ((pnod (tkn b T) np 1201 pl (gno p) 0 0 (Wm g) [] []).2.2.1 288 = Wm g 288) ∧ v = i32 (nfl (pnod (tkn b T) np 1201 pl (gno p) 0 0 (Wm g) [] []).2.2.1 - nfl (Wm g))) ∧ ((pnod (tkn b T) np 1201 pl (gno p) 0 0 (Wm g) [] []).1 = true → NI b T np (oldF (Wm g)) (Wm g) (pnod (tkn b T) np 1201 pl (gno p) 0 0 (Wm g) [] []).2.1 (pnod (tkn b T) np 1201 pl (gno p) 0 0 (Wm g) [] []).2.2.1 (pnod (tkn b T) np 1201 pl (gno p) 0 0 (Wm g) [] []).2.2.2.1 (pnod (tkn b T) np 1201 pl (gno p) 0 0 (Wm g) [] []).2.2.2.2 ∧ SGJ (pnod (tkn b T) np 1201 pl (gno p) 0 0 (Wm g) [] []).2.2.1 np (pnod (tkn b T) np 1201 pl (gno p) 0 0 (Wm g) [] []).2.2.2.2) := by
  obtain ⟨F, eF⟩ : ∃ F, F = Wm g := ⟨_, rfl⟩
  obtain ⟨C0, eC⟩ : ∃ C0, C0 = sgm (Pt g) F := ⟨_, rfl⟩
  rw [← eF] at fw vp P gk bh ⊢
  rw [← eC] at fw ⊢
  have n0 : (0 : Int) ≤ (T : Int) := by omega
  have n1 : (T : Int) ≤ 1200 := by omega
  have t := fw.1
  have fu : FU = 1000000 := rfl
  obtain ⟨g1, a1, q1, M1, a990, L7, l8⟩ := mstart M h705 h714 tb n0 n1
  rw [← eF] at M1
  have eW1 : Wm g1 = F := by rw [eF]; funext j; unfold Wm; rw [L7]
  have m1 := M1.1.ms
  obtain ⟨g2, e2⟩ : ∃ g2, g2 = sI g1 731 983 (i32 pl) := ⟨_, rfl⟩
  have q2 : Mo [731] g1 g2 := by rw [e2]; exact Mo_I (by decide) _
  have M2 : MN g2 b T 0 F [] [] np := M1.mo q2 (by decide) (M1.1.mo q2 (by decide))
  have N0 : NI b (T : Int) np (oldF F) F 0 F [] [] := ni_start n0 t fw.2.1
  have PS : PLs F 0 (gno p) pl := fun i hi => by
    have e : i = 0 := by omega
    rw [e]; exact P
  have sgt : SGT F := fun m m0 m1 mp => by
    have := fw.2.2.2.2 m m0 m1 mp
    exact ⟨this.1, this.2.1, by omega⟩
  have sj0 : SGJ F np [] := fun m m0 m1 mp => by
    have := fw.2.2.2.2 m m0 m1 mp
    exact ⟨this.1, this.2.1, by simpa using this.2.2.1⟩
  obtain ⟨g3, pl', e3, z3⟩ := mnodesL n0 n1 (by omega) 1201 FU 0 0 0 pl (gno p) F [] [] g2 (by omega) (by omega) (by omega) (by omega) M2 N0 sgt PS gk (fun i hi => by omega) (by rw [e2, rII, if_pos ⟨rfl, rfl⟩])
  obtain ⟨Z, eZ⟩ : ∃ Z, Z = pnod (tkn b (T : Int)) np 1201 pl (gno p) 0 0 F [] [] := ⟨_, rfl⟩
  have zN : Z.1 = true → NI b (T : Int) np (oldF F) F Z.2.1 Z.2.2.1 Z.2.2.2.1 Z.2.2.2.2 ∧ SGJ Z.2.2.1 np Z.2.2.2.2 := fun ok => by
    rw [eZ] at ok ⊢
    exact ⟨(ni_nod n0 1201 0 0 pl (gno p) F [] [] N0 PS gk (fun i hi => by omega) ok).1, sgj_nod n0 1201 0 0 pl (gno p) F [] [] N0 PS gk (fun i hi => by omega) sj0 ok⟩
  have zD : Z.1 = true → nfl Z.2.2.1 - Z.2.2.1 289 = nfl F - F 289 := fun ok => by
    rw [eZ] at ok ⊢
    exact nfl_nod n0 1201 0 0 pl (gno p) F [] [] N0 PS gk (fun i hi => by omega) ok
  rw [← eZ] at z3 ⊢
  have q13 : Mo (988 :: LM) g g3 := ((q1.w (by decide)).t (q2.w (by decide))).t (z3.1.1.w (by decide))
  obtain ⟨g4, a4, fr, q4, n4, p4, w1, w2⟩   := mflow (n := T) (by omega) (C0 := C0) (old := oldF F) (Fb := F) (n24.mo q13 (by decide) (by decide)) ⟨z3.1, fun ok => (z3.2.1 ok).1, z3.2.2⟩ (fun ok => ⟨(zN ok).1.j n0 n1, (zN ok).2⟩) (fun m hm => by
    obtain ⟨m0, m1, mp⟩ := oldF_t.mp hm
    have := fw.2.2.2.2 m m0 m1 mp
    omega) (fun m hm => by
    have e : Pt g2 = Pt g := by funext q; unfold Pt; rw [q2.A (by decide), a990]
    rw [e, eC]) (fun m hm t' ht => by
    obtain ⟨m0, m1, mp⟩ := oldF_t.mp hm
    exact fw.2.2.1 m m0 m1 mp t' ht) (fun m m0 m1 hm _ mp => absurd hm (oldF_f m0 m1 mp))
  have q14 : Mo LI g g4 := (q13.w (by decide)).t (q4.w (by decide))
  obtain ⟨g5, e5⟩ : ∃ g5, g5 = sI g4 705 983 (i32 0) := ⟨_, rfl⟩
  have q5 : Mo [705] g4 g5 := by rw [e5]; exact Mo_I (by decide) _
  have q15 : Mo LI g g5 := q14.t (q5.w (by decide))
  have m3 := q13.ms M
  have m4 := q14.ms M
  have m5 := q15.ms M
  have eW5 : Wm g5 = Wm g4 := by funext j; unfold Wm; rw [q5.L (by decide)]
  refine ⟨g5, decide (i32 (Wm g5 288) = i32 (F 288)), i32 (nfl (Wm g5)) - i32 (nfl F), ?_, q15, n4.mo q5 (by decide) (by decide), fun i hi => ?_, fun i hi => ?_, fun i hi => ?_, by rw [e5, rII, if_pos ⟨rfl, rfl⟩], fun e he => ?_, fun he => ?_, zN⟩
  · unfold fX11_insert
    have eis : fX11_isGroup 983 (i32 p) g = some true := by
      rw [isGroup_s M p1 p2, Fm0, ← eF, decide_eq_true vp]
    have eno : ∀ g' : HP, fX11_nodeOf (i32 p) g' = some (i32 (gno p)) := fun g' => by
      unfold fX11_nodeOf gno
      by_cases y : 0 ≤ p
      · rw [if_pos (by rw [i32_z, i32_le (by omega) (by omega) p1 p2]; exact y), if_pos (by omega), i32_add]
      · rw [if_neg (by rw [i32_z, i32_le (by omega) (by omega) p1 p2]; exact y), if_neg (by omega)]
    have er : fX11_readNodes 983 (i32 (gno p)) g1 = some g3 := by
      unfold fX11_readNodes
      rw [m1.o, gd_tt, bh g1 m1 eW1, bn_s, lt_e, ← e2]
      exact e3
    rw [M.o, gd_tt, eis, bn_s, if_pos rfl, a1, bn_s, m1.o, gd_tt, lt_e, many_s m1 (by omega) (by omega), bn_s, Fm0, eW1, fieldMany_s m1, bn_s, eW1, eno, bn_s, er, bn_s, m3.o, gd_tt, a4, bn_s, m4.o, gd_tt, ← e5, lt_e, fieldMany_s m5, bn_s, lt_e, many_s m5 (by omega) (by omega), bn_s, Fm0, M1.pool]
    show (if i32 (Wm g5 288) = i32 (F 288) then jX11_insert_71 983 (i32 ((np : Int) + 0)) (i32 (nfl (Wm g5)) - i32 (nfl F)) true g5 else jX11_insert_71 983 (i32 ((np : Int) + 0)) (i32 (nfl (Wm g5)) - i32 (nfl F)) false g5) = _
    rw [Int.add_zero]
    by_cases y : i32 (Wm g5 288) = i32 (F 288)
    · rw [if_pos y, decide_eq_true y]
    · rw [if_neg y, decide_eq_false y]
  · rw [q5.A (by decide), p4 i hi, q2.A (by decide), a990]
  · have e : Wm g5 (i : Int) = Wm g (i : Int) := by
      have e4 : Wm g4 = Wm g3 := by funext j; unfold Wm; rw [q4.L (by decide)]
      have e2' : Wm g2 = Wm g1 := by funext j; unfold Wm; rw [q2.L (by decide)]
      rw [eW5, e4, fr.2.2 _ (by omega), e2', eW1, eF]
    exact hL_W e
  · rw [q5.L (by decide), q4.L (by decide), z3.1.1.L (by decide), q2.L (by decide)]; exact l8 i hi
  · obtain ⟨x1, x2⟩ := w1 e he
    exact ⟨by rw [q5.I (by decide)]; exact x1, by rw [q5.I (by decide)]; exact x2⟩
  · obtain ⟨x1, x2, x3, x4, x5⟩ := w2 he
    have ok : Z.1 = true := by
      unfold perr at he
      cases y : Z.1 with
      | true => rfl
      | false => rw [y, if_neg (by decide)] at he; cases he
    have N := (zN ok).1
    have o := N.1.1.ov
    have o' := t.1.ov
    have x3' : Enn (Wm g5) Z.2.2.1 := by rw [eW5]; exact x3
    refine ⟨by rw [q5.I (by decide)]; exact x1, by rw [q5.I (by decide)]; exact x2, x3', by rw [q5.I (by decide)]; exact x4, fun m m0 m1 mp => ?_, ?_, ?_⟩
    · have e : Pt g5 = Pt g4 := by funext q; unfold Pt; rw [q5.A (by decide)]
      rw [e]; exact x5 m m0 m1 mp
    · rw [x3' 288 (by omega), decide_eq_decide, i32_eq (by have := o.1; omega) (by have := o.2.1; omega) (by have := o'.1; omega) (by have := o'.2.1; omega)]
    · rw [i32_sub, nfl_congr (fun m m0 _ => x3' m m0)]
theorem rd_insert (R : RR h k) (hk : k ≤ 512) (q : Int32) : ∃ o g g', fX10_insert 0 q h = some (o, g) ∧ fX11_insert 983 q g = some (o, g') ∧ RR g' (k + 1) := by
  obtain ⟨p, p1, p2, rfl⟩ := i32_ex q
  obtain ⟨np, T, rc, h714, ⟨b, t1, t2, t3, t4, t5⟩, b1, b2, b3⟩ := R.rc
  have C := rc.1
  have M := rc.2.1
  have sr := rc.2.2.2.2.2.2.1
  have x := sr.x
  have A := C.st.d
  have R' := RR_up R (show k ≤ k + 1 by omega)
  by_cases vp : p = -2 ∨ (0 ≤ p ∧ p < 8 ∧ Wm h (24 + p) ≠ -1)
  rotate_left
  · refine ⟨i32 (-1), h, h, ?_, ?_, R'⟩
    · unfold fX10_insert
      rw [C.o, gd_tt, C.r_state, oc_s, C.o_state, gd_tt, C.st.rD, oc_s, A.o, gd_tt, ctakes A p1 p2, bn_s, if_neg (by
        rw [decide_eq_true_eq]
        intro z
        rcases z with v | ⟨v1, v2, v3⟩
        · exact vp (Or.inl v)
        · exact vp (Or.inr ⟨v1, v2, by rw [← x.E.1 _ (by omega) (by omega)]; exact v3⟩))]
    · unfold fX11_insert
      rw [M.o, gd_tt, isGroup_s M p1 p2, Fm0, bn_s, decide_eq_false vp, if_neg (by decide)]
  have gk : grok (Wm h) (gno p) := by
    unfold gno
    rcases vp with v | ⟨v1, v2, v3⟩
    · rw [if_neg (by omega)]; exact Or.inl rfl
    · rw [if_pos ⟨v1, v2⟩]; exact Or.inr ⟨by omega, by omega, v3⟩
  obtain ⟨pl, P, bh⟩ := place_ex x.tr gk
  obtain ⟨ok, g3, e3, ⟨k3, ts3, z3, z3'⟩, f3, w1, w2⟩ := cins rc t1 t3 t4 p1 p2 vp P gk
  obtain ⟨g4, e4⟩ : ∃ g4, g4 = sI (sI g3 641 0 (i32 0)) 642 0 (hI g3 192 62) := ⟨_, rfl⟩
  have C3 := C.sk k3.1
  have k4 : Kq h g4 := by rw [e4]; exact (k3.t (Kq_I (Or.inl rfl) _)).t (Kq_I (Or.inr rfl) _)
  have so4 : So (fun y => y = 0) g3 g4 := by rw [e4]; exact (So_I (S := fun y => y = 0) rfl _ _).t (So_I (S := fun y => y = 0) rfl _ _)
  have ts4 : TS2 h g4 := ts3.t (TS2_So so4 (fun y z => by omega))
  have C4 := C.sk k4.1
  have zz4 : hsz g4 = hsz g3 := by unfold hsz; rw [so4.2.1]
  have zl4 : hsl g4 = hsl g3 := by unfold hsl; rw [so4.2.1]
  have i641 : hI g4 641 0 = i32 0 := by rw [e4, rII, if_neg (by omega), rII, if_pos ⟨rfl, rfl⟩]
  have i642 : hI g4 642 0 = hI g3 192 62 := by rw [e4, rII, if_pos ⟨rfl, rfl⟩]
  have end4 : fX10_endText 0 g3 = some g4 := by
    have C3' : CS (sI g3 641 0 (i32 0)) := C3.sk (sk_sI rfl)
    unfold fX10_endText
    rw [C3.o, gd_tt, lt_e, C3'.r_parser, oc_s, C3'.o_parser, gd_tt, rII, if_neg (by omega), ← e4, lt_e]
  have r4 := RC_k rc k4 ts4
  have M4 := r4.2.1
  have sr4 := r4.2.2.2.2.2.2.1
  have eW4 : Wm g4 = Wm h := by funext j; unfold Wm; rw [(k4.2.2.2.2.2.1 987 (by omega) (by omega)).2]
  have eP4 : Pt g4 = Pt h := by funext j; unfold Pt; rw [(k4.2.2.2.2.2.1 990 (by omega) (by omega)).1]
  -- the model's run, from a heap that the class left
  have mi : ∀ g : HP, MS g → Wm g = Wm h → Pt g = Pt h → hI g 705 983 = hI h 705 983 → hI g 714 983 = hI h 714 983 → hA g 984 = hA h 984 → N24 g → _ := fun g Mg eW eP c705 c714 c984 n24 => mins (g := g) (p := p) (pl := pl) (b := b) (T := T) (np := np) Mg (by rw [c705]; exact t2) (by rw [c714]; exact h714) (TB_e t5 c984) t3 n24 (by omega) (by rw [eW, eP]; exact x.2.1) p1 p2 (by rw [eW]; exact vp) (by rw [eW]; exact P) (fun g' M' e' => bh g' M' (by rw [e', eW])) (by rw [eW]; exact gk)
  obtain ⟨Z, eZ⟩ : ∃ Z, Z = pnod (tkn b (T : Int)) np 1201 pl (gno p) 0 0 (Wm h) [] [] := ⟨_, rfl⟩
  rw [← eZ] at w1 w2
  have i705 : hI g4 705 983 = hI h 705 983 := k4.2.2.2.2.2.2 705 (by omega) (by omega)
  have i714 : hI g4 714 983 = hI h 714 983 := k4.2.2.2.2.2.2 714 (by omega) (by omega)
  cases pe : perr (tkn b (T : Int)) (R0 (sgm (Pt h) (Wm h)) (oldF (Wm h))) Z with
  | some e =>
    obtain ⟨rfl, x2⟩ := w1 e pe
    obtain ⟨g5, s0, v, y1, y2, y3, y4, y5, y6, y7, y8, _⟩ := mi g4 M4 eW4 eP4 i705 i714 (k4.2.2.2.2.2.1 984 (by omega) (by omega)).1 r4.2.2.2.1
    rw [eW4, eP4, ← eZ] at y8
    obtain ⟨u1, u2⟩ := y8 e pe
    obtain ⟨g6, a1, a2, a3, a4⟩ := txt_fail rc k4 ts4 (by omega) (by omega) i641 (i642.trans x2) y2 y3 y4 y5 y6 y7 u2 b1 b2 b3
    refine ⟨i32 (-1), g4, _, ?_, ?_, a4⟩
    · rw [e3]
      unfold jX10_insert_71
      rw [C3.o, gd_tt, end4, bn_s, if_neg (by decide)]
    · have M5 := y2.ms M4
      rw [y1]
      unfold jX11_insert_71
      rw [M5.o, gd_tt, u1, if_pos (by rw [i32_z])]
      unfold jX11_insert_85
      rw [M5.o, gd_tt, a1, bn_s, a2.o, gd_tt, lt_e, show hI (sI g6 714 983 (i32 (np : Int))) 721 983 = hI g6 721 983 by rw [rII, if_neg (by omega)], a3, u1, if_pos (by rw [i32_z])]
  | none =>
    obtain ⟨rfl, x2, fc⟩ := w2 pe
    have okZ : Z.1 = true := by
      have pe' := pe
      unfold perr at pe'
      cases y : Z.1 with
      | true => rfl
      | false => rw [y, if_neg (by decide)] at pe'; cases pe'
    have prs : pres Z.2.2.1 Z.2.2.2.1 (R0 (sgm (Pt h) (Wm h)) (oldF (Wm h))) = none := by
      have pe' := pe
      unfold perr at pe'
      rw [if_pos okZ] at pe'
      exact pe'
    have fb := fc.1
    have x4 := sr4.x
    rw [eW4] at x4
    have h3 : hI g4 3 63 = i32 (Z.2.2.1 289) := by rw [(so4.2.2 63 (by omega)).1]; exact fb.1
    have h5 : hI g4 5 63 = i32 (Z.2.2.1 288) := by rw [(so4.2.2 63 (by omega)).1]; exact fb.2.2.1
    have d3 : hI g4 3 (2 + 1) = i32 (Wm h 289) := x4.1.1.1
    have d5 : hI g4 5 (2 + 1) = i32 (Wm h 288) := x4.1.1.2.2.1
    have hc : fX10_insert 0 (i32 p) h = if i32 (Z.2.2.1 288) = i32 (Wm h 288) then some (i32 (-2), g4) else bn (fX10_remember 0 g4) fun h116 => gd (isO h116 0 10) <| oc (hR h116 643 0) fun o118 => gd (isO h116 o118 5) <| oc (hR h116 320 o118) fun o121 => gd (isO h116 o121 0) <| bn (fX0_copyFrom o121 (hR h116 649 0) h116) fun h125 => some (i32 (Z.2.2.1 289) - i32 (Wm h 289), h125) := by
      rw [e3]
      unfold jX10_insert_71
      rw [C3.o, gd_tt, end4, bn_s, if_pos rfl, C4.o, gd_tt, C4.r_scratch, oc_s, C4.o_scratch, gd_tt, C4.r_state, oc_s, C4.o_state, gd_tt, C4.st.rD, oc_s, C4.st.d.o, gd_tt, h5, d5, h3, d3, lt_e]
    by_cases same : i32 (Z.2.2.1 288) = i32 (Wm h 288)
    · obtain ⟨g5, s0, v, y1, y2, y3, y4, y5, y6, y7, _, y9, y10⟩ := mi g4 M4 eW4 eP4 i705 i714 (k4.2.2.2.2.2.1 984 (by omega) (by omega)).1 r4.2.2.2.1
      rw [eW4, eP4, ← eZ] at y9
      rw [eW4, ← eZ] at y10
      obtain ⟨u1, u2, u3, u4, u5, u6, u7⟩ := y9 pe
      have N := (y10 okZ).1
      have o := N.1.1.ov
      have o' := x.tr.ov
      have s' : s0 = true := by
        rw [u6]
        rw [i32_eq (by have := o.1; omega) (by have := o.2.1; omega) (by have := o'.1; omega) (by have := o'.2.1; omega)] at same
        exact decide_eq_true same
      obtain ⟨g6, a1, a2, a3, a4⟩ := txt_fail rc k4 ts4 (by omega) (by omega) i641 (i642.trans x2) y2 y3 y4 y5 y6 y7 u2 b1 b2 b3
      refine ⟨i32 (-2), g4, _, ?_, ?_, a4⟩
      · rw [hc, if_pos same]
      · have M5 := y2.ms M4
        rw [y1, s']
        unfold jX11_insert_71
        rw [M5.o, gd_tt, u1, if_neg (by decide), if_pos rfl]
        unfold jX11_insert_85
        rw [M5.o, gd_tt, a1, bn_s, a2.o, gd_tt, lt_e, show hI (sI g6 714 983 (i32 (np : Int))) 721 983 = hI g6 721 983 by rw [rII, if_neg (by omega)], a3, u1, if_neg (by decide)]
    · obtain ⟨u, pp, U⟩ := r4.up
      obtain ⟨g1, c1, c2⟩ := r4.rem U
      have C1 := C4.sk c2.1.1
      have sm1 : ∀ x, x ≠ 0 → (x < 403 ∨ 983 ≤ x) → Sm g4 g1 x := fun x a b => c2.sm a b U.2.1
      have bb : ∀ i : Nat, i < 32 → isB (hI g1 128 (63 + 4 + i)) = true := fun i hi => by
        rw [(sm1 _ (by omega) (by omega)).1, (so4.2.2 _ (by omega)).1]; exact fb.isB i hi
      obtain ⟨g2, d1, d2, d3'⟩ := copyForm C1.st.d C1.sf (Or.inl (by omega)) bb
      have sm2 : ∀ x, (x < 3 ∨ 39 ≤ x) → Sm g1 g2 x := fun x a => d2.2.2 x (fun z => by have := z.1; have := z.2; omega)
      have smM : ∀ x, 983 ≤ x → Sm g4 g2 x := fun x a => (sm1 x (by omega) (Or.inr a)).t (sm2 x (by omega))
      have M2 : MS g2 := M4.sk (c2.1.1.trans d2.1)
      have eW2 : Wm g2 = Wm h := by rw [← eW4]; funext j; unfold Wm; rw [(smM 987 (by omega)).2.2.2.2.1]
      have eP2 : Pt g2 = Pt h := by rw [← eP4]; funext j; unfold Pt; rw [(smM 990 (by omega)).2.2.2.1]
      obtain ⟨g5, s0, v, y1, y2, y3, y4, y5, y6, y7, _, y9, y10⟩ := mi g2 M2 eW2 eP2 (((smM 983 (by omega)).1 705).trans i705) (((smM 983 (by omega)).1 714).trans i714) ((funext (smM 984 (by omega)).2.2.2.1).trans (k4.2.2.2.2.2.1 984 (by omega) (by omega)).1) (r4.2.2.2.1.e (funext (smM 991 (by omega)).2.2.2.1) (funext (smM 999 (by omega)).2.2.2.1))
      rw [eW2, eP2, ← eZ] at y9
      rw [eW2, ← eZ] at y10
      obtain ⟨u1, u2, u3, u4, u5, u6, u7⟩ := y9 pe
      obtain ⟨N, sj⟩ := y10 okZ
      have o := N.1.1.ov
      have o' := x.tr.ov
      have s' : s0 = false := by
        rw [u6]
        rw [i32_eq (by have := o.1; omega) (by have := o.2.1; omega) (by have := o'.1; omega) (by have := o'.2.1; omega)] at same
        exact decide_eq_false same
      have nD : nfl Z.2.2.1 - Z.2.2.1 289 = nfl (Wm h) - Wm h 289 := by
        rw [eZ] at okZ ⊢
        have N0 := ni_start (b := b) (n := T) (was := np) (by omega) x.2.1.1 x.kd
        exact nfl_nod (by omega) 1201 0 0 pl (gno p) (Wm h) [] [] N0 (fun i hi => by
          have e : i = 0 := by omega
          rw [e]; exact P) gk (fun i hi => by omega) okZ
      have LB : Z.2.2.2.2.length ≤ T := by
        have := N.2.2.2.2.1
        have st := tS_n (b := b) (n := T) (by omega) Z.2.1
        have := this.1
        have := N.2.2.2.2.1.2.2
        omega
      have fw : FWf Z.2.2.1 (Cnw Z.2.2.1 Z.2.2.2.1 Z.2.2.2.2 np (sgm (Pt h) (Wm h)) (oldF (Wm h))) (np + Z.2.2.2.2.length) := fwf_new (N.j (by omega) (by omega)) x.2.1 (fun m m0 m1 mp => by
        have := N.2.2.2.2.2.2 m (oldF_t.mpr ⟨m0, m1, mp⟩) 0 (by omega)
        rwa [show (32 * ((0 : Nat) : Int) + m) = m by omega] at this) (fun m hm => oldF_t.mp hm) prs sj (fun m hm => by
        have := N.2.2.2.2.2.2 m hm 7 (by omega)
        rwa [show (32 * ((7 : Nat) : Int) + m) = 224 + m by omega] at this)
      have fc4 : FRc g4 63 Z.2.2.1 (Cnw Z.2.2.1 Z.2.2.2.1 Z.2.2.2.2 np (sgm (Pt h) (Wm h)) (oldF (Wm h))) := FRc_eq fc N.1.1 (FormEq_sm (fun y hy => so4.2.2 y (by have := hy.1; omega))) (TS2_So so4 (fun y z => by omega)) (fun _ _ _ _ => rfl)
      obtain ⟨ga, gb, g', l1, l2, l3, l4, l5, l6, l7, _, _⟩ := txt_ok rc k4 ts4 (by omega) (by omega) i641 (i642.trans x2) U c2 d2 d3' y2 y3 y4 y5 y6 y7 u2 u4 u3 u5 fc4 fw (fun f hf => by
        rw [(so4.2.2 63 (by omega)).1, f3 f hf]
        rcases (show f = 0 ∨ f = 1 ∨ f = 2 by omega) with e | e | e <;> rw [e]
        · exact x.2.2.1
        · exact x.2.2.2.1
        · exact x.2.2.2.2) (by omega) (by omega) b2 b3
      refine ⟨i32 (Z.2.2.1 289) - i32 (Wm h 289), g2, g', ?_, ?_, l7⟩
      · rw [hc, if_neg same, c1, bn_s, C1.o, gd_tt, C1.r_state, oc_s, C1.o_state, gd_tt, C1.st.rD, oc_s, C1.st.d.o, gd_tt, C1.r_scratch, d1, bn_s]
      · have M5 := y2.ms M2
        rw [y1, s']
        unfold jX11_insert_71
        rw [M5.o, gd_tt, u1, if_neg (by decide), if_neg (by decide), l1, bn_s, l2.o, gd_tt, l3, bn_s, l4.o, gd_tt, l5, bn_s, u7, i32_sub, show nfl Z.2.2.1 - nfl (Wm h) = Z.2.2.1 289 - Wm h 289 by omega]
end

