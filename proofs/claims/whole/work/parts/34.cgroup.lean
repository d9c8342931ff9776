section
variable {g : HP} {b : Int → Int} {n : Int} {c j : Nat} {F : Int → Int} {S : List TS} {LL : List Int} {ts : Nat → Nat} {was : Nat} {C0 : Int → List Int32} {old : Int → Bool} {z0 : Nat}
theorem f53_t {v1 v2 v3 s0 v103 : Int32} {h h104 : HP} (o : isO h 62 3 = true) (h0 : (0 : Int32) ≤ s0) (e : fX3_takeHighest 62 v3 s0 h = some (v103, h104)) (h1 : (0 : Int32) ≤ v103) : jX3_field_53 62 v1 v2 v3 s0 h = cft v1 v2 v3 s0 v103 h104 := by
  unfold jX3_field_53
  rw [if_pos h0, o, gd_tt, e, bn2_s, if_pos h1]
  rfl
theorem f53_f {v1 v2 v3 s0 v103 : Int32} {h h104 : HP} (o : isO h 62 3 = true) (h0 : (0 : Int32) ≤ s0) (e : fX3_takeHighest 62 v3 s0 h = some (v103, h104)) (h1 : ¬ (0 : Int32) ≤ v103) : jX3_field_53 62 v1 v2 v3 s0 h = some (false, h104) := by
  unfold jX3_field_53
  rw [if_pos h0, o, gd_tt, e, bn2_s, if_neg h1]
theorem RPs_co {g' : HP} (R : RPc g F S LL ts was C0 old z0) (C : CS g) {l : List Nat} (h : l = [448, 449, 450, 451] ∨ l = [192]) (p : Co 0 l g g') : RPc g' F S LL ts was C0 old z0 := RPc_co R C.sf p (LF_F0 h).1 (LF_F0 h).2.1
theorem cfield (n0 : 0 ≤ n) (n1 : n ≤ 1200) (P : CP g b n c j S ts) (R : RPc g F S LL ts was C0 old z0) (cv : CV F LL was old) (t : TF F) {ins pl : Int} (gk : grok F ins) (PLx : PL F ins pl) (hold : ∀ m, old m = true → 0 ≤ m ∧ m < 32 ∧ F m ≠ -1) (k8 : 8 ≤ tkk (tkn b n j)) (k10 : tkk (tkn b n j) ≤ 10) : ∃ ok g', fX3_field 62 (i32 (cgr ins)) g = some (ok, g') ∧ ok = (pfld (tkn b n) was pl ins j F S LL).1 ∧ ZoC b n c was C0 old z0 g j (pfld (tkn b n) was pl ins j F S LL) g' := by
  obtain ⟨tr, nms, de, gv⟩ := id t
  have gv' := gv
  obtain ⟨v1, v2, v3, v4, v5, v6⟩ := gv'
  have C := P.1.cs
  have c3 := P.1.2.2.1.1
  have jn := P.1.jn n0 (by omega)
  obtain ⟨oS1, oS2, oS3⟩ := LF_F0 (l := [448, 449, 450, 451]) (Or.inl rfl)
  obtain ⟨oE1, oE2, oE3⟩ := LF_F0 (l := [192]) (Or.inr rfl)
  unfold fX3_field pfld
  rw [C.o_parser, gd_tt, C.r_pform, oc_s, C.o_pform, gd_tt, lt_e, R.1.1]
  by_cases m1 : F 289 < 24
  rotate_left
  · obtain ⟨g1, e1, e2, e3⟩ := fail_s P.1
    rw [if_neg (by rw [i32_lt (by omega) (by omega) (by omega) (by omega)]; omega), if_neg m1, e1, bn2_s]
    exact ⟨false, g1, rfl, rfl, ZoC_bad (Nat.le_refl _) (by show Co (j - j) LF g g1; rw [Nat.sub_self]; exact e2.w oE3) rfl e3⟩
  have no : old (F 289) = false := by
    cases q : old (F 289) with
    | false => rfl
    | true =>
      obtain ⟨q1, q2, q3⟩ := hold _ q
      have := v6 _ q1 q2 q3
      omega
  obtain ⟨g1, s1, s2, s3⟩ := P.1.step n0 n1 (by omega)
  have P1 := P.mv s2 s3
  have R1 := RPs_co R C (Or.inl rfl) s2
  rw [if_pos (by rw [i32_lt (by omega) (by omega) (by omega) (by omega)]; omega), if_pos m1, C.r_tokens, oc_s, C.o_tokens, gd_tt, P.1.k, i32_sub, lt_e, s1, bn_s]
  have d0 : (i32 (tkk (tkn b n j) - 8) = 0) = (tkk (tkn b n j) - 8 = 0) := by rw [i32_z, i32_eq (by omega) (by omega) (by omega) (by omega)]
  have nn1 : ¬ (0 : Int32) ≤ i32 (-1) := by decide
  have nn2 : ¬ (0 : Int32) ≤ i32 (-2) := by decide
  have pp : ∀ x : Int, 0 ≤ x → x < 100000 → (0 : Int32) ≤ i32 x := fun x a c => by rw [i32_z, i32_le (by omega) (by omega) (by omega) (by omega)]; omega
  rcases (show tkk (tkn b n j) - 8 = 0 ∨ tkk (tkn b n j) - 8 = 1 ∨ tkk (tkn b n j) - 8 = 2 by omega) with q | q | q
  · rw [if_pos (by rw [d0]; exact q), P1.1.cs.o_parser, gd_tt]
    rw [q]
    rcases ctakeInt n0 n1 P1.1 (by omega) (lo := 0) (hi := 9999) (by omega) (by omega) (by omega) (by omega) with ⟨a1, a2, a3, g2, e1, e2, e3⟩ | ⟨a1, g2, e1, e2, e3⟩
    rotate_left
    · have pe : pnum (tkn b n) 0 (j + 1) = (false, j + 1, 0, 0) := by unfold pnum; rw [if_pos rfl, if_neg (fun z => a1 (pin_t.mp z))]
      rw [e1, bn2_s, pe]
      unfold jX3_field_53
      rw [if_neg nn1]
      exact ⟨false, g2, rfl, rfl, ZoC_bad (by show j ≤ j + 1; omega) (((s2.w oS3).t (e2.w oE3)).up (by omega)) rfl e3⟩
    have P2 := P1.mv e2 e3
    have R2 := RPs_co R1 P1.1.cs (Or.inl rfl) e2
    have jn1 := P1.1.jn n0 (by omega)
    have tH : ∀ h, fX3_takeHighest 62 (i32 0) (i32 (tkv (tkn b n (j + 1)))) h = gd (isO h 62 3) (bn2 (fX3_takeInt 62 (i32 (tkv (tkn b n (j + 1)))) (i32 9999) h) fun v3 h4 => some (v3, h4)) := fun h => by unfold fX3_takeHighest; rw [if_pos rfl]
    rw [e1, bn2_s]
    rcases ctakeInt n0 n1 P2.1 (by omega) (lo := tkv (tkn b n (j + 1))) (hi := 9999) (by omega) (by omega) (by omega) (by omega) with ⟨d1, d2, d3, g3, k1, k2, k3⟩ | ⟨d1, g3, k1, k2, k3⟩
    rotate_left
    · have pe : pnum (tkn b n) 0 (j + 1) = (false, j + 2, 0, 0) := by unfold pnum; rw [if_pos rfl, if_pos (pin_t.mpr ⟨a1, a2, a3⟩), if_neg (fun z => d1 (pin_t.mp z))]
      rw [pe, f53_f P2.1.cs.o_parser (pp _ a2 (by omega)) (by rw [tH, P2.1.cs.o_parser, gd_tt, k1, bn2_s]) nn1]
      exact ⟨false, g3, rfl, rfl, ZoC_bad (by show j ≤ j + 2; omega) ((((s2.w oS3).t (e2.w oS3)).t (k2.w oE3)).up (by omega)) rfl k3⟩
    have P3 := P2.mv k2 k3
    have R3 := RPs_co R2 P2.1.cs (Or.inl rfl) k2
    have jn2 := P2.1.jn n0 (by omega)
    have pe : pnum (tkn b n) 0 (j + 1) = (true, j + 3, tkv (tkn b n (j + 1)), tkv (tkn b n (j + 2))) := by unfold pnum; rw [if_pos rfl, if_pos (pin_t.mpr ⟨a1, a2, a3⟩), if_pos (pin_t.mpr ⟨d1, d2, d3⟩)]
    rw [pe, f53_t P2.1.cs.o_parser (pp _ a2 (by omega)) (by rw [tH, P2.1.cs.o_parser, gd_tt, k1, bn2_s]) (pp _ (by omega) (by omega))]
    obtain ⟨ok, g', y1, y2, y3⟩ := cfldT (srt := 0) (lo := tkv (tkn b n (j + 1))) (hi := tkv (tkn b n (j + 2))) n0 n1 P3 (by omega) R3 cv t gk PLx m1 no (by omega) (by omega)
    exact ⟨ok, g', y1, y2, ZoC_pre y3 (((s2.w oS3).t (e2.w oS3)).t (k2.w oS3)) (by omega)⟩
  · rw [if_neg (by rw [d0]; omega), q]
    have tH : ∀ h s, fX3_takeHighest 62 (i32 1) s h = gd (isO h 62 3) (bn2 (fX3_takeInt 62 (i32 2) (i32 9) h) fun v8 h9 => some ((v8 - (i32 1)), h9)) := fun h s => by unfold fX3_takeHighest; rw [if_neg (by decide), if_pos rfl]
    rcases ctakeInt n0 n1 P1.1 (by omega) (lo := 2) (hi := 9) (by omega) (by omega) (by omega) (by omega) with ⟨d1, d2, d3, g3, k1, k2, k3⟩ | ⟨d1, g3, k1, k2, k3⟩
    rotate_left
    · have pe : pnum (tkn b n) 1 (j + 1) = (false, j + 1, 0, 0) := by unfold pnum; rw [if_neg (by decide), if_pos rfl, if_neg (fun z => d1 (pin_t.mp z))]
      rw [pe, f53_f P1.1.cs.o_parser (pp 0 (by omega) (by omega)) (by rw [tH, P1.1.cs.o_parser, gd_tt, k1, bn2_s, i32_sub]) (show ¬ (0 : Int32) ≤ i32 (-1 - 1) by decide)]
      exact ⟨false, g3, rfl, rfl, ZoC_bad (by show j ≤ j + 1; omega) (((s2.w oS3).t (k2.w oE3)).up (by omega)) rfl k3⟩
    have P3 := P1.mv k2 k3
    have R3 := RPs_co R1 P1.1.cs (Or.inl rfl) k2
    have jn2 := P1.1.jn n0 (by omega)
    have pe : pnum (tkn b n) 1 (j + 1) = (true, j + 2, 0, tkv (tkn b n (j + 1)) - 1) := by unfold pnum; rw [if_neg (by decide), if_pos rfl, if_pos (pin_t.mpr ⟨d1, d2, d3⟩)]
    rw [pe, f53_t P1.1.cs.o_parser (pp 0 (by omega) (by omega)) (by rw [tH, P1.1.cs.o_parser, gd_tt, k1, bn2_s, i32_sub]) (pp _ (by omega) (by omega))]
    obtain ⟨ok, g', y1, y2, y3⟩ := cfldT (srt := 1) (lo := 0) (hi := tkv (tkn b n (j + 1)) - 1) n0 n1 P3 (by omega) R3 cv t gk PLx m1 no (by omega) (by omega)
    exact ⟨ok, g', y1, y2, ZoC_pre y3 ((s2.w oS3).t (k2.w oS3)) (by omega)⟩
  · rw [if_neg (by rw [d0]; omega), q]
    have pe : pnum (tkn b n) 2 (j + 1) = (true, j + 1, 0, 1) := by unfold pnum; rw [if_neg (by decide), if_neg (by decide)]
    rw [pe, f53_t (v103 := i32 1) (h104 := g1) P1.1.cs.o_parser (pp 0 (by omega) (by omega)) (by unfold fX3_takeHighest; rw [if_neg (by decide), if_neg (by decide)]) (pp _ (by omega) (by omega))]
    obtain ⟨ok, g', y1, y2, y3⟩ := cfldT (srt := 2) (lo := 0) (hi := 1) n0 n1 P1 (by omega) R1 cv t gk PLx m1 no (by omega) (by omega)
    exact ⟨ok, g', y1, y2, ZoC_pre y3 (s2.w oS3) (by omega)⟩
/-! A GROUP'S HEAD -/
theorem grpF_at {p ins nm x : Int} (h : x ≠ 290) : grpF F p ins nm x = addF F p (24 + F 290) ins 3 nm x := by
  unfold grpF; rw [updI_ne h]
/-- the head of a group: its number, or a failure -/
theorem cgroup (n0 : 0 ≤ n) (n1 : n ≤ 1200) (P : CP g b n c j S ts) (R : RPc g F S LL ts was C0 old z0) (cv : CV F LL was old) (t : TF F) {ins pl : Int} (gk : grok F ins) (PLx : PL F ins pl) (hold : ∀ m, old m = true → 0 ≤ m ∧ m < 32 ∧ F m ≠ -1) (k5 : tkk (tkn b n j) = 5) : ∃ v g', fX3_groupHead 62 (i32 (cgr ins)) g = some (v, g') ∧ ((pgrp (tkn b n) was pl ins j F S LL).1 = true → v = i32 (F 290)) ∧ ((pgrp (tkn b n) was pl ins j F S LL).1 = false → v = i32 (-1)) ∧ ZoC b n c was C0 old z0 g j (pgrp (tkn b n) was pl ins j F S LL) g' := by
  obtain ⟨tr, nms, de, gv⟩ := id t
  have O := tr.ov
  have gv' := gv
  obtain ⟨v1, v2, v3, v4, v5, v6⟩ := gv'
  have C := P.1.cs
  have c3 := P.1.2.2.1.1
  have jn := P.1.jn n0 (by omega)
  obtain ⟨oS1, oS2, oS3⟩ := LF_F0 (l := [448, 449, 450, 451]) (Or.inl rfl)
  obtain ⟨oE1, oE2, oE3⟩ := LF_F0 (l := [192]) (Or.inr rfl)
  obtain ⟨E, G⟩ := FRb_tree R.1 tr.tv O
  obtain ⟨gf, f1, f2, f3⟩ := fail_s P.1
  have bad : jX3_groupHead_26 62 g = some (i32 (-1), gf) := by unfold jX3_groupHead_26; rw [C.o_parser, gd_tt, f1, bn2_s]
  have badZ : ZoC b n c was C0 old z0 g j (false, j, F, S, LL) gf := ZoC_bad (Nat.le_refl _) (by show Co (j - j) LF g gf; rw [Nat.sub_self]; exact f2.w oE3) rfl f3
  have gi : gno (cgr ins) = ins := by
    rcases gk with h | ⟨h1, h2, h3⟩
    · exact gno_cgr (Or.inl h)
    · exact gno_cgr (Or.inr ⟨h1, h2⟩)
  have cr : -2 ≤ cgr ins ∧ cgr ins < 8 := cgr_rng (by rcases gk with h | ⟨h1, h2, h3⟩ <;> omega)
  have V := tr.av
  have lev : fX0_levelOf 63 (i32 (cgr ins)) g = some (i32 (dpt F 8 ins)) := by
    have e := clevelOf C.sf (EqT_TV E tr.tv) G (g := cgr ins) (by omega) (by omega) (by
      rw [gi]
      rcases gk with h | ⟨h1, h2, h3⟩
      · exact Or.inl h
      · right; rw [E.1 ins (by omega) h2]; exact h3) (by
      rw [gi]
      rcases gk with h | ⟨h1, h2, h3⟩
      · exact Or.inl (by omega)
      · exact EqT_ends E V 8 ins (by omega) (tr.ce ins (by omega) h2))
    rw [e, gi, EqT_dpt E V 8 ins (by rcases gk with h | ⟨h1, h2, h3⟩ <;> omega)]
  have dr := dpt_rng F 8 ins
  unfold fX3_groupHead pgrp
  rw [C.o_parser, gd_tt, C.r_pform, oc_s, C.o_pform, gd_tt, lt_e, R.1.2.1]
  by_cases m0 : F 290 < 8
  rotate_left
  · rw [if_pos (by rw [i32_le (by omega) (by omega) (by omega) (by omega)]; omega), bad, if_neg (fun z => m0 z.1)]
    exact ⟨_, gf, rfl, fun z => (by cases z), fun _ => rfl, badZ⟩
  rw [if_neg (by rw [i32_le (by omega) (by omega) (by omega) (by omega)]; omega), lev, bn_s]
  by_cases m2 : dpt F 8 ins < 4
  rotate_left
  · have i0 : ¬ ins < 0 := by
      intro z
      apply m2
      show (if 0 ≤ ins then 1 + dpt F 7 (F ins) else 0) < 4
      rw [if_neg (by omega)]; omega
    rw [if_neg (by rw [i32_lt (by omega) (by omega) (by omega) (by omega)]; omega), bad, if_neg (fun z => m2 (z.2.resolve_left i0))]
    exact ⟨_, gf, rfl, fun z => (by cases z), fun _ => rfl, badZ⟩
  obtain ⟨g1, s1, s2, s3⟩ := P.1.step n0 n1 (by omega)
  have P1 := P.mv s2 s3
  have R1 := RPs_co R C (Or.inl rfl) s2
  rw [if_pos (by rw [i32_lt (by omega) (by omega) (by omega) (by omega)]; omega), if_pos ⟨m0, Or.inr m2⟩, C.r_tokens, oc_s, C.o_tokens, gd_tt, s1, bn_s, P1.1.cs.o_parser, gd_tt]
  rcases ctakeName n0 n1 P1.1 (by omega) (FRb_name R1.1 tr.tv O) O tr.op tr.po nms with ⟨a1, a2, g2, e1, e2, e3⟩ | ⟨a1, g2, e1, e2, e3⟩
  rotate_left
  · rw [e1, bn2_s, if_pos rfl, if_neg (fun z => a1 (nmOk_t.mp z))]
    unfold jX3_groupHead_67
    rw [on_nn]
    exact ⟨_, g2, rfl, fun z => (by cases z), fun _ => rfl, ZoC_bad (by show j ≤ j + 1; omega) (((s2.w oS3).t (e2.w oE3)).up (by omega)) rfl e3⟩
  obtain ⟨node, en⟩ : ∃ node, node = 24 + F 290 := ⟨_, rfl⟩
  have h0 : 0 ≤ node := by omega
  have h1 : node < 32 := by omega
  have hi32 : node.toNat < 32 := by omega
  have m32 : F 288 < 32 := gv.m (n := 0) (Or.inr m0)
  have t62 : (62 : Nat) ≠ 63 + 4 + node.toNat := by omega
  have l3 := LN3_LF hi32
  have nv := ((tk_val (b := b) n0 (j + 1)).2.1 (Or.inl a1)).1
  have P2 := P1.mv e2 e3
  have R2 := RPs_co R1 P1.1.cs (Or.inl rfl) e2
  have j1 := P1.1.jn n0 (by show tK b n (j + 1) ≠ 0; omega)
  obtain ⟨E2, G2⟩ := FRb_tree R2.1 tr.tv O
  obtain ⟨g4, b1, b2, b3, b4, b5, b6⟩ := cadd P2.1.cs.sf E2 G2 tr h0 h1 m32 gk PLx
  rw [e1, bn2_s, if_neg (lft_nz nv), if_pos (nmOk_t.mpr ⟨a1, a2⟩), P2.1.cs.o_parser, gd_tt, P2.1.cs.r_pform, oc_s, P2.1.cs.o_pform, gd_tt, i32_add, ← en, b1, bn2_s]
  have P4 := CP_LN P2 b2 hi32
  have C4 := P4.1.cs
  have ot4 := C4.sf.on hi32
  obtain ⟨g5, e5⟩ : ∃ g5, g5 = sI (sJ (sI g4 4 63 (i32 (F 290 + 1))) 129 (63 + 4 + node.toNat) (i64 (lft (tkv (tkn b n (j + 1)))))) 130 (63 + 4 + node.toNat) (i32 3) := ⟨_, rfl⟩
  have q45 : Co 0 [1000 + (63 + 1), 5000 + 63, 5000 + (63 + 4 + node.toNat)] g4 g5 := by
    rw [e5]
    exact ((Co_I (Or.inr (by simp)) _).t (Co_J (Or.inr (by simp)) _)).t (Co_I (Or.inr (by simp)) _)
  have r5 : ∀ f x, hI g5 f x = if f = 130 ∧ x = 63 + 4 + node.toNat then i32 3 else if f = 4 ∧ x = 63 then i32 (F 290 + 1) else hI g4 f x := fun f x => by rw [e5, rII, rIJ, rII]
  have r5J : hJ g5 129 (63 + 4 + node.toNat) = i64 (lft (tkv (tkn b n (j + 1)))) := by rw [e5, rJI, rJJ, if_pos ⟨rfl, rfl⟩]
  have r5R : hR g5 = hR g4 := by rw [e5, rRI, rRJ, rRI]
  have r5A : hA g5 = hA g4 := by rw [e5, rAI, rAJ, rAI]
  have P5 := CP_LN P4 q45 hi32
  unfold jX3_groupHead_67
  rw [on_sm, C4.o_parser, gd_tt, C4.r_pform, oc_s, C4.o_pform, gd_tt, i32_add, lt_e, roI, ot4, gd_tt, lt_e, lt_e, ← e5, P5.1.cs.r_tokens, oc_s, P5.1.cs.o_tokens, gd_tt]
  have f05 : Co 0 LF g g5 := (((s2.w oS3).t (e2.w oS3)).t (b2.w l3)).t (q45.w l3)
  have lN := lsub_LN (i := node.toNat) (Or.inr rfl)
  have q25 : Co 0 (LN node.toNat) g2 g5 := (b2.w lN).t (q45.w lN)
  obtain ⟨oT, oN, oM⟩ := okLN hi32
  have nab : F node = -1 := by
    by_cases z : F node = -1
    · exact z
    · have := v6 _ h0 h1 z; omega
  have no : old node = false := by
    cases q : old node with
    | false => rfl
    | true => exact absurd nab (hold _ q).2.2
  obtain ⟨y1, y2, y3⟩ := b6
  have gat : ∀ x, x ≠ 290 → grpF F pl ins (tkv (tkn b n (j + 1))) x = addF F pl node ins 3 (tkv (tkn b n (j + 1))) x := fun x hx => by rw [grpF_at hx, ← en]
  have R5 : RPc g5 (grpF F pl ins (tkv (tkn b n (j + 1)))) S LL ts was C0 old z0 := by
    refine RPc_new R2 P2.1.cs.sf t q25 oT oN h0 h1 nab no gk PLx m32 oM (srt := 3) (nm := tkv (tkn b n (j + 1))) (fun x x0 x1 => gat x (by omega)) (fun x x0 x1 x2 x3 x4 x5 x6 x7 => ?_) ?_ ?_ ?_ ?_ ?_ ?_ ⟨?_, ?_, ?_, ?_, ?_, ?_⟩ ?_ ?_ ?_
    · rw [gat x (by omega), addF_lo PLx.1 h0 h1 x1, if_neg (by omega), if_neg (by omega), if_neg x2, if_neg (by omega)]
    · rw [gat _ (by omega), addF_lo PLx.1 h0 h1 (by omega), if_neg (by omega), if_neg (by omega), if_neg (by omega), if_pos (by omega)]
    · rw [gat _ (by omega), addF_gt h0 h1 PLx.2.1 m32 (by omega), r5, if_neg (by omega), if_neg (by omega), b3 3 (by omega)]
      exact R2.1.1
    · have : grpF F pl ins (tkv (tkn b n (j + 1))) 290 = F 290 + 1 := by unfold grpF; rw [updI_at rfl]
      rw [this, r5, if_neg (by omega), if_pos ⟨rfl, rfl⟩]
    · rw [r5, if_neg (by omega), if_neg (by omega)]
      exact b4
    · rw [r5A]; exact b5
    · rw [r5, if_neg (by omega), if_neg (by omega)]
      exact y1.1
    · rw [gat _ (by omega), addF_n PLx.1 h0 h1 h1, if_pos rfl, r5, if_neg (by omega), if_neg (by omega)]
      exact y1.2.2.2.2.2.1
    · rw [gat _ (by omega), addF_lo PLx.1 h0 h1 (by omega), if_neg (by omega), if_pos rfl, r5J]
    · rw [gat _ (by omega), addF_lo PLx.1 h0 h1 (by omega), if_neg (by omega), if_neg (by omega), if_pos rfl, r5, if_pos ⟨rfl, rfl⟩]
    · rw [gat _ (by omega), addF_lo PLx.1 h0 h1 (by omega), if_neg (by omega), if_neg (by omega), if_neg (by omega), if_pos (by omega), r5, if_neg (by omega), if_neg (by omega)]
      exact y1.2.2.1
    · rw [gat _ (by omega), addF_lo PLx.1 h0 h1 (by omega), if_neg (by omega), if_neg (by omega), if_neg (by omega), if_pos (by omega), r5, if_neg (by omega), if_neg (by omega)]
      exact y1.2.2.2.1
    · rw [gat _ (by omega), addF_lo PLx.1 h0 h1 (by omega), if_neg (by omega), if_neg (by omega), if_neg (by omega), if_pos (by omega), r5, if_neg (by omega), if_neg (by omega)]
      exact y1.2.2.2.2.1
    · rw [r5R]; exact y3
    · rw [r5, if_neg (by omega), if_neg (by omega)]
      exact y1.2.2.2.2.2.2.1
    · rw [r5, if_neg (by omega), if_neg (by omega)]
      exact y1.2.2.2.2.2.2.2
  have gnz : grpF F pl ins (tkv (tkn b n (j + 1))) (224 + node) = 0 := by
    rw [gat _ (by omega), addF_lo PLx.1 h0 h1 (by omega), if_neg (by omega), if_neg (by omega), if_neg (by omega), if_pos (by omega)]
  have cv8 : CV (grpF F pl ins (tkv (tkn b n (j + 1)))) LL was old := by
    refine cv_new cv _ (node := node) h0 h1 (fun x x0 x1 x2 => ?_) (fun x x0 x1 x2 x3 => ?_) gnz
    · rw [gat _ (by omega), addF_n PLx.1 h0 h1 x1, if_neg x2]
    · rw [gat _ (by omega), addF_lo PLx.1 h0 h1 x1, if_neg (by omega), if_neg (by omega), if_neg (by omega), if_neg (by omega)]
  have npr : grpF F pl ins (tkv (tkn b n (j + 1))) node ≠ -1 := by
    rw [gat _ (by omega), addF_n PLx.1 h0 h1 h1, if_pos rfl]
    rcases gk with h | ⟨h2, h3, h4⟩ <;> omega
  obtain ⟨w1, w2⟩ := cpe (node := node) (k := 123) n0 n1 (by omega) (by omega) P5 (by omega) R5 cv8 h0 h1 npr no gnz
  have last : ∀ (g6 : HP) (ok2 : Bool) (k3 : HP), isO g6 62 3 = true → fX3_take 62 (i32 123) g6 = some (ok2, k3) → jX3_groupHead_132 62 (i32 (F 290)) g6 = some (if ok2 = true then i32 (F 290) else i32 (-1), k3) := by
    intro g6 ok2 k3 o e
    unfold jX3_groupHead_132
    rw [o, gd_tt, e, bn2_s]
    cases ok2 <;> rfl
  rw [i32_add, ← en]
  generalize pend (tkn b n) 123 (pif (tkn b n) was node (j + 2) (grpF F pl ins (tkv (tkn b n (j + 1)))) S LL) = Z at *
  by_cases tk : tkk (tkn b n (j + 2)) = 6
  · obtain ⟨k1, ok, k2, z1, z2, z3, z4, z5⟩ := w1 tk
    rw [if_pos ((tk6 n0 P5.1 (by omega) (by omega)).mpr tk), z1, bn_s, z2, gd_tt, z3, bn2_s]
    cases ok with
    | true =>
      obtain ⟨u1, ok2, k3, u2, u3, u4⟩ := z4 rfl
      rw [if_pos rfl, last k2 ok2 k3 u1 u2]
      exact ⟨_, k3, rfl, fun z => by rw [if_pos (u3.trans z)], fun z => by rw [if_neg (by rw [u3, z]; decide)], ZoC_pre u4 f05 (by omega)⟩
    | false =>
      obtain ⟨u1, u2⟩ := z5 rfl
      rw [if_neg (by decide)]
      exact ⟨_, k2, rfl, fun z => (by rw [u1] at z; cases z), fun _ => rfl, ZoC_pre u2 f05 (by omega)⟩
  · obtain ⟨ok2, k3, u2, u3, u4⟩ := w2 tk
    rw [if_neg (fun z => tk ((tk6 n0 P5.1 (by omega) (by omega)).mp z)), last g5 ok2 k3 P5.1.cs.o_parser u2]
    exact ⟨_, k3, rfl, fun z => by rw [if_pos (u3.trans z)], fun z => by rw [if_neg (by rw [u3, z]; decide)], ZoC_pre u4 f05 (by omega)⟩
end
