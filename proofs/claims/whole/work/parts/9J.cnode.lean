section
variable {h g : HP} {a np : Nat} {F : Int → Int} {s : LYt}
theorem FRx_7 (r : FRx h a F np) (ha : a + 36 ≤ 111 ∨ 114 ≤ a) (ha' : a + 36 ≤ 983) (p : So So7 h g) : FRx g a F np := by
  have nb : ∀ x, ¬ So7 x → Sm h g x := fun x hx => p.2.2 x hx
  have e990 : hA g 990 = hA h 990 := funext (nb 990 (fun z => by unfold So7 at z; omega)).2.2.2.1
  exact FRx_eq r (FormEq_sm (fun x hx => nb x (fun z => by unfold So7 at z; have := hx.1; have := hx.2; omega))) (TS2_So p (fun x z => by unfold So7 at z; omega)) (fun q _ => by rw [e990]) (funext (nb 985 (fun z => by unfold So7 at z; omega)).2.2.2.1) (Nat.le_refl _)
theorem LYb_BR {i d : Int} (b : LYb s i) (i0 : 0 ≤ i) (d0 : 0 ≤ d) (d1 : d ≤ 9) : 0 ≤ lyR (lBR d s) ∧ lyR (lBR d s) ≤ 4 * i + 1 ∧ lyC (lBR d s) = d := by
  have e1 : lyR (lBR d s) = if lyT s = true then lyR s + 1 else lyR s := rfl
  have e2 : lyC (lBR d s) = d := rfl
  obtain ⟨b1, b2, b3, b4⟩ := b
  rw [e1, e2]
  split <;> omega
/-- one node laid by the class -/
theorem cnode (r0 : FRx h a F np) (S0 : FormAt h a) (C0 : CS h) (ha : a + 36 ≤ 111 ∨ 114 ≤ a) (ha' : a + 36 ≤ 983) (pr : Bool) {cols pg : Int} (c0 : 0 ≤ cols) (c1 : cols ≤ 60) (p0 : 0 ≤ pg) (p1 : pg ≤ 60) (hcol : hI h (if pr = true then 1 else 0) a = i32 cols) (hpg : pr = true → hI h 2 a = i32 pg) (hpg' : pr = false → pg = 0) {ap : Int → Bool} (hap : ∀ m, 0 ≤ m → m < 32 → F m ≠ -1 → ap m = (pr && decide (hR h 135 (a + 4 + m.toNat) ≠ none))) {n : Nat} {i l m : Int} (m0 : 0 ≤ m) (m1 : m < 32) (mp : F m ≠ -1) (l0 : 0 ≤ l) (l1 : l ≤ 9) (p : So So7 h g) (r : LYr g s) (b : LYb s i) (i0 : 0 ≤ i) (i1 : i ≤ 32) : ∃ g', jX1_arrange_55 (fun v0 v1 v2 v3 v4 h => lX1_arrange_9 n v0 v1 v2 v3 v4 h) 111 (some a) (if pr = true then none else some 109) (i32 l) (i32 i) (i32 m) (some (a + 4 + m.toNat)) g = lX1_arrange_9 n 111 (some a) (if pr = true then none else some 109) (i32 (lLV F m)) (i32 (i + 1)) g' ∧ So So7 h g' ∧ LYr g' (lND F ap cols pg m (if dpt F 8 (F m) < l then lBR (dpt F 8 (F m)) s else s)) ∧ LYb (lND F ap cols pg m (if dpt F 8 (F m) < l then lBR (dpt F 8 (F m)) s else s)) (i + 1) := by
  have rg := FRx_7 r0 ha ha' p
  have Sg := S0.sk p.1
  have Cg := C0.sk p.1
  have h32 : m.toNat < 32 := by omega
  have nd := (rg.nd m0 m1 mp).2
  have kd := r0.kd m m0 m1 mp
  have lev := x_level Sg rg m0 m1 mp
  obtain ⟨d, ed⟩ : ∃ d, d = dpt F 8 (F m) := ⟨_, rfl⟩
  have rd := dpt_rng F 8 (F m)
  rw [← ed] at lev rd ⊢
  obtain ⟨s1, es1⟩ : ∃ s1, s1 = if d < l then lBR d s else s := ⟨_, rfl⟩
  rw [← es1]
  -- the row that ends
  obtain ⟨g1, a1, p1', r1, bR⟩ : ∃ g1, jX1_arrange_55 (fun v0 v1 v2 v3 v4 h => lX1_arrange_9 n v0 v1 v2 v3 v4 h) 111 (some a) (if pr = true then none else some 109) (i32 l) (i32 i) (i32 m) (some (a + 4 + m.toNat)) g = jX1_arrange_78 (fun v0 v1 v2 v3 v4 h => lX1_arrange_9 n v0 v1 v2 v3 v4 h) 111 (some a) (if pr = true then none else some 109) (i32 i) (i32 m) (some (a + 4 + m.toNat)) (i32 d) g1 ∧ So So7 h g1 ∧ LYr g1 s1 ∧ (0 ≤ lyR s1 ∧ lyR s1 ≤ 4 * i + 1 ∧ 0 ≤ lyC s1 ∧ lyC s1 ≤ 20 + 11 * i) := by
    unfold jX1_arrange_55
    rw [oc_s, Sg.on h32, gd_tt, oc_s, Sg.o, gd_tt, nd.1, lev, bn_s]
    by_cases c : d < l
    · obtain ⟨g1, x1, x2, x3⟩ := cBR Cg r d
      have q := LYb_BR b i0 rd.1 (show d ≤ 9 by omega)
      rw [if_pos c] at es1
      rw [if_neg (by rw [i32_le (by omega) (by omega) (by omega) (by omega)]; omega), Cg.o_layout, gd_tt, x1, bn_s, es1]
      exact ⟨g1, rfl, p.t x2, x3, by omega⟩
    · rw [if_neg c] at es1
      rw [if_pos (by rw [i32_le (by omega) (by omega) (by omega) (by omega)]; omega), es1]
      obtain ⟨b1, b2, b3, b4⟩ := b
      exact ⟨g, rfl, p, r, by omega⟩
  have rg1 := FRx_7 r0 ha ha' p1'
  have Sg1 := S0.sk p1'.1
  have Cg1 := C0.sk p1'.1
  have nd1 := (rg1.nd m0 m1 mp).2
  have on1 := Sg1.on h32
  have sa : Sm h g1 a := p1'.2.2 a (fun z => by unfold So7 at z; omega)
  have sn : Sm h g1 (a + 4 + m.toNat) := p1'.2.2 _ (fun z => by unfold So7 at z; omega)
  have b1 : LYb s1 (i + 1) → True := fun _ => trivial
  by_cases gq : 24 ≤ m
  · -- a group
    have k3 := (kd.2 gq).1
    have bb : LYb s1 (i + 1) := ⟨bR.1, by omega, bR.2.2.1, by omega⟩
    obtain ⟨g2, y1, y2, y3⟩ := cGR Cg1 r1 m0 m1 rd.1 (show d ≤ 8 by omega) p0 p1 bb (by omega)
    refine ⟨g2, ?_, p1'.t y2, ?_, ?_⟩
    · have e107 : jX1_arrange_107 (fun v0 v1 v2 v3 v4 h => lX1_arrange_9 n v0 v1 v2 v3 v4 h) 111 (some a) (if pr = true then none else some 109) (i32 i) (i32 d) (i32 pg) (i32 d) (i32 m) 111 g1 = lX1_arrange_9 n 111 (some a) (if pr = true then none else some 109) (i32 (lLV F m)) (i32 (i + 1)) g2 := by
        unfold jX1_arrange_107 jX1_arrange_202 lLV
        rw [Cg1.o_layout, gd_tt, y1, bn_s, lt_e, lt_e, i32_add, i32_add, if_pos gq, ← ed]
      rw [a1]
      unfold jX1_arrange_78
      rw [oc_s, on1, gd_tt, nd1.2.2.1, k3, if_pos rfl]
      cases pr with
      | true =>
        rw [if_pos rfl] at e107 ⊢
        rw [on_nn, oc_s, Sg1.o, gd_tt, sa.1, hpg rfl]; exact e107
      | false =>
        have z := hpg' rfl
        rw [if_neg (by decide)] at e107 ⊢
        rw [on_sm, ← z]; exact e107
    · unfold lND
      rw [if_pos gq, ← ed]; exact y3
    · unfold lND
      rw [if_pos gq, ← ed]
      show LYb (lGR m d pg s1) (i + 1)
      have e1 : lyC (lGR m d pg s1) = d + 1 := rfl
      have q := LYb_BR (s := s1) (i := i + 1) (d := d) bb (by omega) rd.1 (by omega)
      have e3 : lyR (lBR d s1) ≤ 4 * i + 2 := by
        have e0 : lyR (lBR d s1) = if lyT s1 = true then lyR s1 + 1 else lyR s1 := rfl
        rw [e0]; split <;> omega
      have e2 : lyR (lGR m d pg s1) = (if decide (2 ≤ pg ∧ lyR (lBR d s1) % pg = pg - 1) = true then lyR (lBR d s1) + 1 else lyR (lBR d s1)) + 1 := rfl
      refine ⟨?_, ?_, by omega, by omega⟩
      · rw [e2]; split <;> omega
      · rw [e2]; split <;> omega
  · -- a field
    have m24 : m < 24 := by omega
    have kf := kd.1 m24
    have w1 := kf.2.1
    have w2 := kf.2.2
    obtain ⟨w, ew⟩ : ∃ w, w = F (160 + m) := ⟨_, rfl⟩
    rw [← ew] at w1 w2
    have i133 : ∀ g', So So7 h g' → hI g' 133 (a + 4 + m.toNat) = i32 w := fun g' q => by
      rw [ew]; exact ((FRx_7 r0 ha ha' q).nd m0 m1 mp).2.2.2.2.2.2
    have e180 : ∀ (g2 : HP) (s2 : LYt), So So7 h g2 → LYr g2 s2 → ∃ g3, jX1_arrange_180 (fun v0 v1 v2 v3 v4 h => lX1_arrange_9 n v0 v1 v2 v3 v4 h) 111 (some a) (if pr = true then none else some 109) (i32 d) (i32 i) (i32 m) (some (a + 4 + m.toNat)) g2 = lX1_arrange_9 n 111 (some a) (if pr = true then none else some 109) (i32 d) (i32 (i + 1)) g3 ∧ So So7 h g3 ∧ LYr g3 (lCO (w + 1) (lST m s2)) := fun g2 s2 q2 r2 => by
      have C2 := C0.sk q2.1
      obtain ⟨g3, y1, y2, y3⟩ := cST C2 r2 m0 m1
      have q3 := q2.t y2
      have C3 := C0.sk q3.1
      obtain ⟨g4, e4⟩ : ∃ g4, g4 = sI g3 66 111 (i32 (lyC (lST m s2) + (w + 1))) := ⟨_, rfl⟩
      have p4 : So So7 g3 g4 := by rw [e4]; exact So_I (S := So7) (Or.inl rfl) _ _
      refine ⟨g4, ?_, q3.t p4, ?_, ?_, ?_, ?_, fun j j0 j1 => ?_⟩
      · unfold jX1_arrange_180 jX1_arrange_202
        rw [C2.o_layout, gd_tt, y1, bn_s, C3.o_layout, gd_tt, oc_s, (S0.sk q3.1).on h32, gd_tt, i133 g3 q3, y3.2.2.1, i32_add, i32_add, ← e4, lt_e, lt_e, i32_add]
      · rw [e4, rII, if_neg (by omega)]; exact y3.1
      · rw [e4, rII, if_neg (by omega)]; exact y3.2.1
      · rw [e4, rII, if_pos ⟨rfl, rfl⟩]; rfl
      · rw [e4, rII, if_neg (by omega)]; exact y3.2.2.2.1
      · rw [e4, rAI]; exact y3.2.2.2.2 j j0 j1
    have e174 : ∃ g3, jX1_arrange_174 (fun v0 v1 v2 v3 v4 h => lX1_arrange_9 n v0 v1 v2 v3 v4 h) 111 (some a) (if pr = true then none else some 109) (i32 d) (i32 i) (i32 m) (some (a + 4 + m.toNat)) (i32 d) g1 = lX1_arrange_9 n 111 (some a) (if pr = true then none else some 109) (i32 d) (i32 (i + 1)) g3 ∧ So So7 h g3 ∧ LYr g3 (lCO (w + 1) (lST m (lBR d s1))) := by
      obtain ⟨g2, y1, y2, y3⟩ := cBR Cg1 r1 d
      obtain ⟨g3, z1, z2⟩ := e180 g2 _ (p1'.t y2) y3
      refine ⟨g3, ?_, z2⟩
      unfold jX1_arrange_174
      rw [Cg1.o_layout, gd_tt, y1, bn_s]
      exact z1
    have e152 : ∃ g3, jX1_arrange_152 (fun v0 v1 v2 v3 v4 h => lX1_arrange_9 n v0 v1 v2 v3 v4 h) 111 (some a) (if pr = true then none else some 109) (i32 d) (i32 i) (i32 m) (some (a + 4 + m.toNat)) (i32 d) (ap m) (i32 cols) g1 = lX1_arrange_9 n 111 (some a) (if pr = true then none else some 109) (i32 d) (i32 (i + 1)) g3 ∧ So So7 h g3 ∧ LYr g3 (lFD m d w cols (ap m) s1) := by
      unfold jX1_arrange_152 lFD
      by_cases c : ap m = true
      · rw [if_pos c, if_pos (Or.inl c)]; exact e174
      · rw [if_neg c, Cg1.o_layout, gd_tt, oc_s, on1, gd_tt, i133 g1 p1', r1.2.2.1, i32_add]
        by_cases e : cols < lyC s1 + w
        · rw [if_neg (by rw [i32_le (by omega) (by omega) (by omega) (by omega)]; omega), if_pos (Or.inr e)]
          exact e174
        · rw [if_pos (by rw [i32_le (by omega) (by omega) (by omega) (by omega)]; omega), if_neg (show ¬ (ap m = true ∨ cols < lyC s1 + w) from fun z => z.elim c e)]
          exact e180 g1 s1 p1' r1
    obtain ⟨g3, x1, x2, x3⟩ := e152
    have k3 : ¬ i32 (F (64 + m)) = i32 3 := by
      rw [i32_eq (by omega) (by omega) (by omega) (by omega)]; omega
    refine ⟨g3, ?_, x2, ?_, ?_⟩
    · rw [a1]
      have lv : lLV F m = d := by unfold lLV; rw [if_neg gq, ← ed]
      rw [lv, ← x1]
      have hp := hap m m0 m1 mp
      have sr : hR g1 135 (a + 4 + m.toNat) = hR h 135 (a + 4 + m.toNat) := sn.2.2.1 135
      unfold jX1_arrange_78 jX1_arrange_134 jX1_arrange_135
      rw [oc_s, on1, gd_tt, nd1.2.2.1, if_neg k3]
      cases pr with
      | true =>
        rw [if_pos rfl] at hcol ⊢
        rw [on_nn, on_nn, on_nn, oc_s, Sg1.o, gd_tt, sa.1, hcol, sr]
        cases t : hR h 135 (a + 4 + m.toNat) with
        | none => rw [t] at hp; rw [on_nn, hp]; rfl
        | some u => rw [t] at hp; rw [on_sm, oc_s, Sg1.o, gd_tt, sa.1, hcol, hp]; rfl
      | false =>
        rw [if_neg (by decide)] at hcol ⊢
        rw [on_sm, on_sm, oc_s, Sg1.o, gd_tt, sa.1, hcol, hp, Bool.false_and]
    · unfold lND
      rw [if_neg gq, ← ed, ← ew]; exact x3
    · unfold lND
      rw [if_neg gq, ← ed, ← ew]
      have q := LYb_BR (s := s1) (i := i + 1) (d := d) ⟨bR.1, by omega, bR.2.2.1, by omega⟩ (by omega) rd.1 (by omega)
      have e3 : lyR (lBR d s1) ≤ 4 * i + 2 := by
        have e0 : lyR (lBR d s1) = if lyT s1 = true then lyR s1 + 1 else lyR s1 := rfl
        rw [e0]; split <;> omega
      unfold lFD
      by_cases c : ap m = true ∨ cols < lyC s1 + w
      · rw [if_pos c]
        have e1 : lyR (lCO (w + 1) (lST m (lBR d s1))) = lyR (lBR d s1) := rfl
        have e2 : lyC (lCO (w + 1) (lST m (lBR d s1))) = d + (w + 1) := rfl
        refine ⟨?_, ?_, ?_, ?_⟩ <;> first | rw [e1] | rw [e2]
        all_goals omega
      · rw [if_neg c]
        have e1 : lyR (lCO (w + 1) (lST m s1)) = lyR s1 := rfl
        have e2 : lyC (lCO (w + 1) (lST m s1)) = lyC s1 + (w + 1) := rfl
        refine ⟨?_, ?_, ?_, ?_⟩ <;> first | rw [e1] | rw [e2]
        all_goals omega
end

