section
variable {h g : HP} {a np : Nat} {F : Int → Int} {s : LYt}
theorem carrL (r0 : FRx h a F np) (S0 : FormAt h a) (C0 : CS h) (ha : a + 36 ≤ 111 ∨ 114 ≤ a) (ha' : a + 36 ≤ 983) (pr : Bool) {cols pg : Int} (c0 : 0 ≤ cols) (c1 : cols ≤ 60) (p0 : 0 ≤ pg) (p1 : pg ≤ 60) (hcol : hI h (if pr = true then 1 else 0) a = i32 cols) (hpg : pr = true → hI h 2 a = i32 pg) (hpg' : pr = false → pg = 0) {ap sh : Int → Bool} (hap : ∀ m, 0 ≤ m → m < 32 → F m ≠ -1 → ap m = (pr && decide (hR h 135 (a + 4 + m.toNat) ≠ none))) (hsh : ∀ m, 0 ≤ m → m < 32 → F m ≠ -1 → (pr = true → sh m = true) ∧ (pr = false → (bt (hI h 512 109) m = true ↔ sh m = true))) : ∀ (k n : Nat) (i l : Int) (g : HP) (s : LYt), i + k = F 288 → 0 ≤ i → k < n → So So7 h g → LYr g s → LYb s i → 0 ≤ l → l ≤ 9 → ∃ g', lX1_arrange_9 n 111 (some a) (if pr = true then none else some 109) (i32 l) (i32 i) g = some g' ∧ So So7 h g' ∧ LYr g' (lay9 F sh ap cols pg k i l s) := by
  have t := r0.tr
  have O := t.ov
  have o2 := O.2.1
  intro k
  induction k with
  | zero =>
    intro n i l g s e i0 hn p r b l0 l1
    obtain ⟨n, rfl⟩ : ∃ x, n = x + 1 := ⟨n - 1, by omega⟩
    have Sg := S0.sk p.1
    have rg := FRx_7 r0 ha ha' p
    refine ⟨g, ?_, p, r⟩
    rw [elX1_arrange_9]; unfold bX1_arrange_9
    rw [oc_s, Sg.o, gd_tt, rg.1.1.2.2.1, if_pos (by rw [i32_le (by omega) (by omega) (by omega) (by omega)]; omega)]
  | succ k ih =>
    intro n i l g s e i0 hn p r b l0 l1
    obtain ⟨n, rfl⟩ : ∃ x, n = x + 1 := ⟨n - 1, by omega⟩
    have Sg := S0.sk p.1
    have Cg := C0.sk p.1
    have rg := FRx_7 r0 ha ha' p
    have o := O.2.2 i i0 (by omega)
    have mp := t.op i i0 (by omega)
    obtain ⟨m, em⟩ : ∃ m, m = F (256 + i) := ⟨_, rfl⟩
    rw [← em] at o mp
    have at' := x_at Sg rg (i := i) (by omega) (by omega)
    rw [if_pos ⟨i0, by omega⟩, ← em] at at'
    have fi := x_find Sg rg (i := m) (by omega) (by omega)
    rw [fnx_y ⟨o.1, o.2, mp⟩] at fi
    obtain ⟨g1, x1, x2, x3, x4⟩ := cnode r0 S0 C0 ha ha' pr c0 c1 p0 p1 hcol hpg hpg' hap (n := n) o.1 o.2 mp l0 l1 p r b i0 (by omega)
    have rd := dpt_rng F 8 (F m)
    have lv : 0 ≤ lLV F m ∧ lLV F m ≤ 9 := by unfold lLV; split <;> omega
    obtain ⟨h1, h2⟩ := hsh m o.1 o.2 mp
    have head : ∀ rr, (on (if pr = true then none else some 109) (jX1_arrange_55 (fun v0 v1 v2 v3 v4 h => lX1_arrange_9 n v0 v1 v2 v3 v4 h) 111 (some a) (if pr = true then none else some 109) (i32 l) (i32 i) (i32 m) (some (a + 4 + m.toNat)) g) fun o110 => gd (isO g o110 8) <| bn (fX8_shows o110 (i32 m) g) fun v114 => if v114 = true then (jX1_arrange_55 (fun v0 v1 v2 v3 v4 h => lX1_arrange_9 n v0 v1 v2 v3 v4 h) 111 (some a) (if pr = true then none else some 109) (i32 l) (i32 i) (i32 m) (some (a + 4 + m.toNat)) g) else jX1_arrange_202 (fun v0 v1 v2 v3 v4 h => lX1_arrange_9 n v0 v1 v2 v3 v4 h) 111 (some a) (if pr = true then none else some 109) (i32 l) (i32 i) g) = rr → lX1_arrange_9 (n + 1) 111 (some a) (if pr = true then none else some 109) (i32 l) (i32 i) g = rr := fun rr hrr => by
      rw [elX1_arrange_9]; unfold bX1_arrange_9
      rw [oc_s, Sg.o, gd_tt, rg.1.1.2.2.1, if_neg (show ¬ i32 (F 288) ≤ i32 i by rw [i32_le (by omega) (by omega) (by omega) (by omega)]; omega), at', bn_s, fi, bn_s, on_sm]
      exact hrr
    simp only [lay9]
    rw [← em]
    by_cases q : sh m = true
    · obtain ⟨g', y1, y2, y3⟩ := ih n (i + 1) (lLV F m) g1 _ (by omega) (by omega) (by omega) x2 x3 x4 lv.1 lv.2
      rw [if_pos q]
      refine ⟨g', head _ ?_, y2, y3⟩
      rw [← y1, ← x1]
      cases pr with
      | true => rw [if_pos rfl, on_nn]
      | false =>
        have bs : bt (hI g 512 109) m = true := by
          rw [(p.2.2 109 (fun z => by unfold So7 at z; omega)).1]
          exact (h2 rfl).mpr q
        rw [if_neg (show ¬ false = true by decide), on_sm, Cg.o_view, gd_tt, shows_s Cg (by omega) (by omega), bn_s, if_pos (decide_eq_true ⟨o.1, o.2, bs⟩)]
    · obtain ⟨g', y1, y2, y3⟩ := ih n (i + 1) l g s (by omega) (by omega) (by omega) p r ⟨b.1, by have := b.2.1; omega, b.2.2.1, by have := b.2.2.2; omega⟩ l0 l1
      rw [if_neg q]
      refine ⟨g', head _ ?_, y2, y3⟩
      rw [← y1]
      cases pr with
      | true => exact absurd (h1 rfl) q
      | false =>
        have bs : ¬ bt (hI g 512 109) m = true := by
          rw [(p.2.2 109 (fun z => by unfold So7 at z; omega)).1]
          exact fun z => q ((h2 rfl).mp z)
        rw [if_neg (show ¬ false = true by decide), on_sm, Cg.o_view, gd_tt, shows_s Cg (by omega) (by omega), bn_s, if_neg (by rw [decide_eq_true_eq]; exact fun z => bs z.2.2)]
        unfold jX1_arrange_202
        rw [lt_e, i32_add]
theorem cstart22 : ∀ (k n : Nat) (i : Int) (g : HP), i + k = 32 → 0 ≤ i → k < n → CS g → ∃ g', lX1_start_22 n 111 (i32 i) g = some g' ∧ So So7 g g' ∧ (∀ f, hI g' f 111 = hI g f 111) ∧ (∀ j, i ≤ j → j < 32 → hA g' 112 j.toNat = i32 (-2) ∧ hA g' 113 j.toNat = i32 (-2)) ∧ ∀ j : Nat, (j : Int) < i → hA g' 112 j = hA g 112 j ∧ hA g' 113 j = hA g 113 j := by
  intro k
  induction k with
  | zero =>
    intro n i g e i0 hn C
    obtain ⟨n, rfl⟩ : ∃ x, n = x + 1 := ⟨n - 1, by omega⟩
    rw [elX1_start_22]; unfold bX1_start_22
    rw [if_pos (by rw [i32_le (by omega) (by omega) (by omega) (by omega)]; omega)]
    exact ⟨g, rfl, So.r, fun _ => rfl, fun j _ _ => by omega, fun _ _ => ⟨rfl, rfl⟩⟩
  | succ k ih =>
    intro n i g e i0 hn C
    obtain ⟨n, rfl⟩ : ∃ x, n = x + 1 := ⟨n - 1, by omega⟩
    obtain ⟨g1, e1⟩ : ∃ g1, g1 = sA g 112 i.toNat (i32 (-2)) := ⟨_, rfl⟩
    obtain ⟨g2, e2⟩ : ∃ g2, g2 = sA g1 113 i.toNat (i32 (-2)) := ⟨_, rfl⟩
    have p1 : So So7 g g1 := by rw [e1]; exact So_A (S := So7) (Or.inr (Or.inl rfl)) _ _
    have p2 : So So7 g1 g2 := by rw [e2]; exact So_A (S := So7) (Or.inr (Or.inr rfl)) _ _
    have C1 := C.sk p1.1
    obtain ⟨g', w1, w2, w3, w4, w5⟩ := ih n (i + 1) g2 (by omega) (by omega) (by omega) (C1.sk p2.1)
    have r2 : ∀ x q, hA g2 x q = if x = 113 ∧ q = i.toNat then i32 (-2) else if x = 112 ∧ q = i.toNat then i32 (-2) else hA g x q := fun x q => by rw [e2, rAA, e1, rAA]
    rw [elX1_start_22]; unfold bX1_start_22
    rw [if_neg (by rw [i32_le (by omega) (by omega) (by omega) (by omega)]; omega), C.o_layout, gd_tt, C.r_nrows, oc_s, C.o_nrows, gd_tt, C.n_nrows, i32_inb i0 (by omega) (by omega), gd_tt, i32_cn i0 (by omega), ← e1, lt_e, C1.r_ncols, oc_s, C1.o_ncols, gd_tt, C1.n_ncols, i32_inb i0 (by omega) (by omega), gd_tt, ← e2, lt_e, lt_e, i32_add]
    refine ⟨g', w1, p1.t (p2.t w2), fun f => by rw [w3, e2, rIA, e1, rIA], fun j j0 j1 => ?_, fun j hj => ?_⟩
    · by_cases y : j = i
      · have := w5 i.toNat (by omega)
        rw [y, this.1, this.2, r2, r2, if_neg (fun z => by omega), if_pos ⟨rfl, rfl⟩, if_pos ⟨rfl, rfl⟩]
        exact ⟨rfl, rfl⟩
      · exact w4 j (by omega) j1
    · have := w5 j (by omega)
      rw [this.1, this.2, r2, r2, if_neg (fun z => by omega), if_neg (fun z => by omega), if_neg (fun z => by omega), if_neg (fun z => by omega)]
      exact ⟨rfl, rfl⟩
/-- the class arranges a form -/
theorem carrange (r0 : FRx h a F np) (S0 : FormAt h a) (C0 : CS h) (ha : a + 36 ≤ 111 ∨ 114 ≤ a) (ha' : a + 36 ≤ 983) (pr : Bool) {cols pg : Int} (c0 : 0 ≤ cols) (c1 : cols ≤ 60) (p0 : 0 ≤ pg) (p1 : pg ≤ 60) (hcol : hI h (if pr = true then 1 else 0) a = i32 cols) (hpg : pr = true → hI h 2 a = i32 pg) (hpg' : pr = false → pg = 0) {ap sh : Int → Bool} (hap : ∀ m, 0 ≤ m → m < 32 → F m ≠ -1 → ap m = (pr && decide (hR h 135 (a + 4 + m.toNat) ≠ none))) (hsh : ∀ m, 0 ≤ m → m < 32 → F m ≠ -1 → (pr = true → sh m = true) ∧ (pr = false → (bt (hI h 512 109) m = true ↔ sh m = true))) : ∃ g, fX1_arrange 111 (some a) (if pr = true then none else some 109) h = some g ∧ So So7 h g ∧ LYr g (lay9 F sh ap cols pg (F 288).toNat 0 0 ly0) := by
  obtain ⟨g1, e1⟩ : ∃ g1, g1 = sI (sI (sI (sI h 64 111 (i32 0)) 65 111 (i32 0)) 66 111 (i32 0)) 67 111 (i32 0) := ⟨_, rfl⟩
  have q1 : So So7 h g1 := by
    rw [e1]
    exact (So_I (S := So7) (Or.inl rfl) _ _).t ((So_I (S := So7) (Or.inl rfl) _ _).t ((So_I (S := So7) (Or.inl rfl) _ _).t (So_I (S := So7) (Or.inl rfl) _ _)))
  have C1 := C0.sk q1.1
  obtain ⟨g2, a2, q2, i2, r2, _⟩ := cstart22 32 FU 0 g1 (by omega) (by omega) (by decide) C1
  have o1 := r0.tr.ov.1
  have o2 := r0.tr.ov.2.1
  have i64 : hI g1 64 111 = i32 0 := by rw [e1, rII, if_neg (by omega), rII, if_neg (by omega), rII, if_neg (by omega), rII, if_pos ⟨rfl, rfl⟩]
  have i65 : hI g1 65 111 = i32 0 := by rw [e1, rII, if_neg (by omega), rII, if_neg (by omega), rII, if_pos ⟨rfl, rfl⟩]
  have i66 : hI g1 66 111 = i32 0 := by rw [e1, rII, if_neg (by omega), rII, if_pos ⟨rfl, rfl⟩]
  have i67 : hI g1 67 111 = i32 0 := by rw [e1, rII, if_pos ⟨rfl, rfl⟩]
  have ly : LYr g2 ly0 := ⟨by rw [i2, i64]; rfl, by rw [i2, i65]; rfl, by rw [i2, i66]; rfl, by rw [i2, i67]; rfl, fun n n0 n1 => r2 n n0 n1⟩
  have b0 : LYb ly0 0 := ⟨Int.le_refl _, Int.le_refl _, Int.le_refl _, (by decide : (0 : Int) ≤ 20 + 11 * 0)⟩
  obtain ⟨g, a3, q3, r3⟩ := carrL r0 S0 C0 ha ha' pr c0 c1 p0 p1 hcol hpg hpg' hap hsh (F 288).toNat FU 0 0 g2 ly0 (by omega) (by omega) (by have : FU = 1000000 := rfl; omega) (q1.t q2) ly b0 (by omega) (by omega)
  refine ⟨g, ?_, q3, r3⟩
  have st : fX1_start 111 h = some g2 := by
    unfold fX1_start
    rw [C0.o_layout, gd_tt, lt_e, lt_e, lt_e, lt_e, ← e1]
    exact a2
  unfold fX1_arrange
  rw [C0.o_layout, gd_tt, st, bn_s]
  exact a3
end

