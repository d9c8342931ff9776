section
variable {h g : HP} {s : LYt} {F : Int → Int}
theorem LYb_nd {ap : Int → Bool} {cols pg m i l : Int} (b : LYb s i) (i0 : 0 ≤ i) (w0 : m < 24 → 1 ≤ F (160 + m) ∧ F (160 + m) ≤ 10) : LYb (lND F ap cols pg m (if dpt F 8 (F m) < l then lBR (dpt F 8 (F m)) s else s)) (i + 1) := by
  obtain ⟨d, ed⟩ : ∃ d, d = dpt F 8 (F m) := ⟨_, rfl⟩
  have rd := dpt_rng F 8 (F m)
  rw [← ed] at rd ⊢
  obtain ⟨s1, es1⟩ : ∃ s1, s1 = if d < l then lBR d s else s := ⟨_, rfl⟩
  rw [← es1]
  have bR : 0 ≤ lyR s1 ∧ lyR s1 ≤ 4 * i + 1 ∧ 0 ≤ lyC s1 ∧ lyC s1 ≤ 20 + 11 * i := by
    have q := LYb_BR b i0 rd.1 (show d ≤ 9 by omega)
    obtain ⟨b1, b2, b3, b4⟩ := b
    rw [es1]
    by_cases c : d < l
    · rw [if_pos c]; omega
    · rw [if_neg c]; omega
  have bb : LYb s1 (i + 1) := ⟨bR.1, by omega, bR.2.2.1, by omega⟩
  have q := LYb_BR (s := s1) (i := i + 1) (d := d) bb (by omega) rd.1 (by omega)
  have e3 : lyR (lBR d s1) ≤ 4 * i + 2 := by
    have e0 : lyR (lBR d s1) = if lyT s1 = true then lyR s1 + 1 else lyR s1 := rfl
    rw [e0]; split <;> omega
  unfold lND
  by_cases gq : 24 ≤ m
  · rw [if_pos gq, ← ed]
    have e1 : lyC (lGR m d pg s1) = d + 1 := rfl
    have e2 : lyR (lGR m d pg s1) = (if decide (2 ≤ pg ∧ lyR (lBR d s1) % pg = pg - 1) = true then lyR (lBR d s1) + 1 else lyR (lBR d s1)) + 1 := rfl
    refine ⟨?_, ?_, by omega, by omega⟩
    · rw [e2]; split <;> omega
    · rw [e2]; split <;> omega
  · have w1 := w0 (by omega)
    rw [if_neg gq, ← ed]
    unfold lFD
    by_cases c : ap m = true ∨ cols < lyC s1 + F (160 + m)
    · rw [if_pos c]
      have e1 : lyR (lCO (F (160 + m) + 1) (lST m (lBR d s1))) = lyR (lBR d s1) := rfl
      have e2 : lyC (lCO (F (160 + m) + 1) (lST m (lBR d s1))) = d + (F (160 + m) + 1) := rfl
      refine ⟨?_, ?_, ?_, ?_⟩ <;> first | rw [e1] | rw [e2]
      all_goals omega
    · rw [if_neg c]
      have e1 : lyR (lCO (F (160 + m) + 1) (lST m s1)) = lyR s1 := rfl
      have e2 : lyC (lCO (F (160 + m) + 1) (lST m s1)) = lyC s1 + (F (160 + m) + 1) := rfl
      refine ⟨?_, ?_, ?_, ?_⟩ <;> first | rw [e1] | rw [e2]
      all_goals omega
/-- the groups around what stands ahead are open -/
def LVi (F : Int → Int) (sh : Int → Bool) (i l : Int) : Prop := ∀ c, 24 ≤ c → c < 32 → sh c = true → 1 ≤ i → inch F (F (256 + (i - 1))) c → dpt F 8 (F c) + 1 ≤ l
theorem LVi_d {sh : Int → Bool} (t : TR F) (up : ∀ m, 0 ≤ m → m < 32 → F m ≠ -1 → sh m = true → 0 ≤ F m → sh (F m) = true) {i l : Int} (v : LVi F sh i l) (l0 : 0 ≤ l) (i0 : 0 ≤ i) (i1 : i < F 288) (hs : sh (F (256 + i)) = true) : dpt F 8 (F (F (256 + i))) ≤ l := by
  have o := t.ov.2.2 i i0 i1
  have p := t.op i i0 i1
  rcases t.tv.grp o.1 o.2 p with z | ⟨z1, z2, z3⟩
  · rw [z]; exact l0
  · have par : F (F (256 + i)) = -2 ∨ (1 ≤ i ∧ inch F (F (256 + (i - 1))) (F (F (256 + i)))) := t.pre i i0 i1
    rcases par with w | ⟨w1, w2⟩
    · omega
    · have := v _ z1 z2 (up _ o.1 o.2 p hs (by omega)) w1 w2
      have := dpt_par t.ce (n := F (F (256 + i))) (by omega) z2
      omega
theorem LVi_s {sh : Int → Bool} (t : TR F) {i l : Int} (v : LVi F sh i l) (i0 : 0 ≤ i) (i1 : i < F 288) : LVi F sh (i + 1) (if sh (F (256 + i)) = true then lLV F (F (256 + i)) else l) := by
  intro c c0 c1 cs _ ch
  rw [show i + 1 - 1 = i by omega] at ch
  have o := t.ov.2.2 i i0 i1
  have p := t.op i i0 i1
  obtain ⟨m, em⟩ : ∃ m, m = F (256 + i) := ⟨_, rfl⟩
  rw [← em] at ch o p ⊢
  have dc := dpt_par t.ce (n := c) (by omega) c1
  by_cases q : m = c
  · rw [q, if_pos cs]
    unfold lLV
    rw [if_pos c0]
    exact Int.le_refl _
  · have ch' : inch F (F m) c := by
      rcases inch_step ch o.1 with z | z
      · exact absurd z q
      · exact z
    by_cases hs : sh m = true
    · rw [if_pos hs]
      have av := t.av m o.1 o.2
      obtain ⟨j, _, e⟩ := lev_ch t.ce av.2 (by omega) c1 ch'
      unfold lLV
      split <;> omega
    · rw [if_neg hs]
      rcases t.tv.grp o.1 o.2 p with z | ⟨z1, z2, z3⟩
      · rw [z] at ch'
        have := inch_neg ch' (by decide)
        omega
      · have par : F (F (256 + i)) = -2 ∨ (1 ≤ i ∧ inch F (F (256 + (i - 1))) (F (F (256 + i)))) := t.pre i i0 i1
        rw [← em] at par
        rcases par with w | ⟨w1, w2⟩
        · omega
        · exact v c c0 c1 cs w1 (inch_tr w2 ch')
/-- the model lays out -/
theorem mlaysL (M : MS h) {fo cols pg : Int} (h0 : 0 ≤ fo) (h1 : fo ≤ 2588) (eF : Fm h fo = F) (t : TR F) (de : DE F) (kd : KD F) (sg : ∀ m, 0 ≤ m → m < 32 → F m ≠ -1 → 0 ≤ F (224 + m) ∧ F (224 + m) ≤ 12000) (pr : Bool) (c0 : 0 ≤ cols) (c1 : cols ≤ 60) (p0 : 0 ≤ pg) (p1 : pg ≤ 60) (hc : hA h 985 (if pr = true then 1 else 0) = i32 cols) (hpg : pr = true → hA h 985 2 = i32 pg) (hpg' : pr = false → pg = 0) {ap sh : Int → Bool} (hap : ∀ m, 0 ≤ m → m < 24 → F m ≠ -1 → ap m = (pr && decide (0 < F (224 + m)))) (hb : ∀ j : Nat, j < 32 → isB (hA h 999 j) = true) (hsh : ∀ m, 0 ≤ m → m < 32 → F m ≠ -1 → (pr || z2b (hA h 999 m.toNat)) = sh m) (up : ∀ m, 0 ≤ m → m < 32 → F m ≠ -1 → sh m = true → 0 ≤ F m → sh (F m) = true) : ∀ (k n : Nat) (i l : Int) (g : HP) (s : LYt), i + k = F 288 → 0 ≤ i → k < n → Mo L7 h g → LYm g s → LYb s i → 0 ≤ l → l ≤ 9 → LVi F sh i l → ∃ g', lX11_laysOut_47 n 983 pr (i32 fo) (i32 l) (i32 i) g = some g' ∧ Mo L7 h g' ∧ LYm g' (lay9 F sh ap cols pg k i l s) := by
  have O := t.ov
  have o2 := O.2.1
  have eFg : ∀ g, Mo L7 h g → Fm g fo = F := fun g p => by rw [← eF]; funext q; unfold Fm Wm; rw [p.L (by decide)]
  intro k
  induction k with
  | zero =>
    intro n i l g s e i0 hn p r b l0 l1 v
    obtain ⟨n, rfl⟩ : ∃ x, n = x + 1 := ⟨n - 1, by omega⟩
    have Mg := p.ms M
    refine ⟨g, ?_, p, r⟩
    rw [elX11_laysOut_47]; unfold bX11_laysOut_47
    rw [Mg.o, gd_tt, many_s Mg h0 h1, bn_s, eFg g p, if_pos (by rw [i32_le (by omega) (by omega) (by omega) (by omega)]; omega)]
  | succ k ih =>
    intro n i l g s e i0 hn p r b l0 l1 v
    obtain ⟨n, rfl⟩ : ∃ x, n = x + 1 := ⟨n - 1, by omega⟩
    have Mg := p.ms M
    have o := O.2.2 i i0 (by omega)
    have mp := t.op i i0 (by omega)
    have vs := LVi_s t v i0 (show i < F 288 by omega)
    have vd := LVi_d t up v l0 i0 (show i < F 288 by omega)
    obtain ⟨m, em⟩ : ∃ m, m = F (256 + i) := ⟨_, rfl⟩
    rw [← em] at o mp vs vd
    have a999 : hA g 999 m.toNat = hA h 999 m.toNat := by rw [p.A (by decide)]
    have th : fX11_isThere pr (z2b (hA h 999 m.toNat)) g = some (sh m) := by
      rw [← hsh m o.1 o.2 mp]
      unfold fX11_isThere
      cases pr with
      | true => rw [if_pos rfl]; rfl
      | false =>
        rw [if_neg (by decide), Bool.false_or]
        cases z2b (hA h 999 m.toNat) with
        | true => rw [if_pos rfl]
        | false => rw [if_neg (by decide)]
    have rd := dpt_rng F 8 (F m)
    have dp := depth_s (fo := fo) Mg h0 h1 (by rw [eFg g p]; exact t.av) o.1 o.2 (by rw [eFg g p]; exact ends_mono (de m o.1 o.2 mp).1 (by omega))
    rw [eFg g p, dpt_ends (de m o.1 o.2 mp).1 (show 4 ≤ 9 by omega), ← dpt_ends (de m o.1 o.2 mp).1 (show 4 ≤ 8 by omega)] at dp
    have j205 : ∀ (l' : Int) (g' : HP), jX11_laysOut_205 (fun v0 v1 v2 v3 v4 h => lX11_laysOut_47 n v0 v1 v2 v3 v4 h) 983 pr (i32 fo) (i32 l') (i32 i) g' = lX11_laysOut_47 n 983 pr (i32 fo) (i32 l') (i32 (i + 1)) g' := fun l' g' => by
      unfold jX11_laysOut_205
      rw [lt_e, i32_add]
    simp only [lay9]
    rw [← em]
    by_cases q : sh m = true
    rotate_left
    · rw [if_neg q] at vs ⊢
      obtain ⟨g', y1, y2, y3⟩ := ih n (i + 1) l g s (by omega) (by omega) (by omega) p r ⟨b.1, by have := b.2.1; omega, b.2.2.1, by have := b.2.2.2; omega⟩ l0 l1 vs
      refine ⟨g', ?_, y2, y3⟩
      rw [elX11_laysOut_47]; unfold bX11_laysOut_47
      rw [Mg.o, gd_tt, many_s Mg h0 h1, bn_s, eFg g p, if_neg (by rw [i32_le (by omega) (by omega) (by omega) (by omega)]; omega), ordered_s Mg h0 h1 i0 (by omega), bn_s, eFg g p, ← em, Mg.r_shown, oc_s, Mg.o_shown, gd_tt, Mg.n_shown, i32_inb o.1 (by omega) (by omega), gd_tt, i32_cn o.1 (by omega), a999, hb _ (by omega), gd_tt, th, bn_s, if_neg q, j205]
      exact y1
    · rw [if_pos q] at vs ⊢
      have vd' := vd q
      have lv : 0 ≤ lLV F m ∧ lLV F m ≤ 9 := by unfold lLV; split <;> omega
      have bLY := LYb_nd (F := F) (ap := ap) (cols := cols) (pg := pg) (m := m) (l := l) b i0 (fun c => ((kd m o.1 o.2 mp).1 c).2)
      obtain ⟨d, ed⟩ : ∃ d, d = dpt F 8 (F m) := ⟨_, rfl⟩
      rw [← ed] at dp vd' rd bLY ⊢
      obtain ⟨s1, es1⟩ : ∃ s1, s1 = if d < l then lBR d s else s := ⟨_, rfl⟩
      rw [← es1] at bLY ⊢
      have b1 : 0 ≤ lyR s1 ∧ lyR s1 ≤ 4 * i + 1 ∧ 0 ≤ lyC s1 ∧ lyC s1 ≤ 20 + 11 * i := by
        have q := LYb_BR b i0 rd.1 (show d ≤ 9 by omega)
        obtain ⟨b1, b2, b3, b4⟩ := b
        rw [es1]
        by_cases c : d < l
        · rw [if_pos c]; omega
        · rw [if_neg c]; omega
      obtain ⟨g1, x1, x2, x3⟩ := mWH (K := fun w115 w116 w117 w118 w119 w120 w121 h122 =>
        bn (fX11_isField w120 h122) fun v124 =>
        if v124 = true then (
          gd (isO h122 w115 11) <|
          bn (fX11_placesField w115 w116 w117 w120 w121 h122) fun h127 =>
          jX11_laysOut_205 (fun v0 v1 v2 v3 v4 h => lX11_laysOut_47 n v0 v1 v2 v3 v4 h) w115 w116 w117 w118 w119 h127
          ) else
        gd (isO h122 w115 11) <|
        bn (fX11_rowAt w115 w121 h122) fun h130 =>
        gd (isO h130 w115 11) <|
        if w116 = true then (
          oc (hR h130 707 w115) fun o132 =>
          gd (isO h130 o132 20) <|
          gd (inb (i32 2) (hln h130 o132)) <|
          if (hA h130 o132 (i32 2).toNatClampNeg) < (i32 2) then (
            jX11_laysOut_181 (fun v0 v1 v2 v3 v4 h => lX11_laysOut_47 n v0 v1 v2 v3 v4 h) w115 w116 w117 w119 w120 w121 (hI h130 740 w115) w115 h130
            ) else
          gd (inb (i32 2) (hln h130 o132)) <|
          gd (nz (hA h130 o132 (i32 2).toNatClampNeg)) <|
          lt ((hI h130 740 w115)) fun v138 =>
          lt ((hA h130 o132 (i32 2).toNatClampNeg)) fun v139 =>
          gd (inb (i32 2) (hln h130 o132)) <|
          if (v138 - v138 / v139 * v139) = ((hA h130 o132 (i32 2).toNatClampNeg) - (i32 1)) then (
            jX11_laysOut_182 (fun v0 v1 v2 v3 v4 h => lX11_laysOut_47 n v0 v1 v2 v3 v4 h) w115 w116 w117 w119 w120 w121 true (hI h130 740 w115) w115 h130
            ) else
          jX11_laysOut_181 (fun v0 v1 v2 v3 v4 h => lX11_laysOut_47 n v0 v1 v2 v3 v4 h) w115 w116 w117 w119 w120 w121 (hI h130 740 w115) w115 h130
          ) else
        jX11_laysOut_181 (fun v0 v1 v2 v3 v4 h => lX11_laysOut_47 n v0 v1 v2 v3 v4 h) w115 w116 w117 w119 w120 w121 (hI h130 740 w115) w115 h130) (pr := pr) (fo := i32 fo) (w4 := i32 i) (w5 := i32 m) (d := d) rd.1 (l - d).toNat FU l g s (by omega) (by omega) (by have : FU = 1000000 := rfl; omega) Mg r
      rw [← es1] at x3
      have p1' := p.t x2
      have Mg1 := p1'.ms M
      by_cases gq : 24 ≤ m
      · -- a group
        have eN : lND F ap cols pg m s1 = lGR m d pg s1 := by unfold lND; rw [if_pos gq, ← ed]
        have eL : lLV F m = d + 1 := by unfold lLV; rw [if_pos gq, ← ed]
        rw [eN] at bLY ⊢
        rw [eL] at vs lv ⊢
        obtain ⟨g2, y1, y2, y3⟩ := mBR Mg1 x3 d
        have p2 := p1'.t y2
        have Mg2 := p2.ms M
        have hbr : 0 ≤ lyR (lBR d s1) ∧ lyR (lBR d s1) ≤ 4 * i + 2 := by
          have e0 : lyR (lBR d s1) = if lyT s1 = true then lyR s1 + 1 else lyR s1 := rfl
          rw [e0]; split <;> omega
        have m182 : ∀ bq : Bool, ∃ g', jX11_laysOut_182 (fun v0 v1 v2 v3 v4 h => lX11_laysOut_47 n v0 v1 v2 v3 v4 h) 983 pr (i32 fo) (i32 i) (i32 m) (i32 d) bq (i32 (lyR (lBR d s1))) 983 g2 = lX11_laysOut_47 n 983 pr (i32 fo) (i32 (d + 1)) (i32 (i + 1)) g' ∧ Mo L7 h g' ∧ LYm g' (lBR (d + 1) (lST m (lUP bq (lBR d s1)))) := fun bq => by
          obtain ⟨g3, e3⟩ : ∃ g3, g3 = sI g2 740 983 (i32 (lyR (lBR d s1)) + bI bq) := ⟨_, rfl⟩
          have q3 : Mo L7 g2 g3 := by rw [e3]; exact Mo_I (by decide) _
          have p3 := p2.t q3
          have M3 := p3.ms M
          have r3 : LYm g3 (lUP bq (lBR d s1)) := by
            refine ⟨?_, ?_, ?_, ?_, fun j j0 j1 => ?_⟩
            · rw [e3, rII, if_neg (by omega)]; exact y3.1
            · rw [e3, rII, if_pos ⟨rfl, rfl⟩]
              show _ = i32 (if bq = true then lyR (lBR d s1) + 1 else lyR (lBR d s1))
              cases bq with
              | false => rw [bI_ff, i32_add, if_neg (by decide), Int.add_zero]
              | true => rw [bI_tt, i32_add, if_pos rfl]
            · rw [e3, rII, if_neg (by omega)]; exact y3.2.2.1
            · rw [e3, rII, if_neg (by omega)]; exact y3.2.2.2.1
            · rw [e3, rAI]; exact y3.2.2.2.2 j j0 j1
          obtain ⟨g4, z1, z2, z3⟩ := mST M3 r3 o.1 o.2
          have p4 := p3.t z2
          have M4 := p4.ms M
          obtain ⟨g5, u1, u2, u3⟩ := mBR M4 z3 (d + 1)
          refine ⟨g5, ?_, p4.t u2, u3⟩
          unfold jX11_laysOut_182
          rw [Mg2.o, gd_tt, ← e3, lt_e, M3.o, gd_tt, z1, bn_s, M4.o, gd_tt, i32_add, u1, bn_s, lt_e, j205]
        obtain ⟨bq, ebq⟩ : ∃ bq, bq = decide (2 ≤ pg ∧ lyR (lBR d s1) % pg = pg - 1) := ⟨_, rfl⟩
        obtain ⟨g', z1, z2, z3⟩ := m182 bq
        have eG : lGR m d pg s1 = lBR (d + 1) (lST m (lUP bq (lBR d s1))) := by rw [ebq]; rfl
        rw [← eG] at z3
        obtain ⟨g'', w1, w2, w3⟩ := ih n (i + 1) (d + 1) g' _ (by omega) (by omega) (by omega) z2 z3 bLY lv.1 lv.2 vs
        refine ⟨g'', ?_, w2, w3⟩
        rw [elX11_laysOut_47]; unfold bX11_laysOut_47
        rw [Mg.o, gd_tt, many_s Mg h0 h1, bn_s, eFg g p, if_neg (by rw [i32_le (by omega) (by omega) (by omega) (by omega)]; omega), ordered_s Mg h0 h1 i0 (by omega), bn_s, eFg g p, ← em, Mg.r_shown, oc_s, Mg.o_shown, gd_tt, Mg.n_shown, i32_inb o.1 (by omega) (by omega), gd_tt, i32_cn o.1 (by omega), a999, hb _ (by omega), gd_tt, th, bn_s, if_pos q, dp, bn_s]
        refine Eq.trans x1 ?_
        rw [← w1, ← z1]
        show (bn (fX11_isField (i32 m) g1) fun v124 => _) = _
        rw [isField_s (by omega) (by omega), bn_s, decide_eq_false (show ¬ m < 24 by omega), if_neg (by decide), Mg1.o, gd_tt, y1, bn_s, Mg2.o, gd_tt, y3.2.1]
        unfold jX11_laysOut_181
        cases pr with
        | false =>
          have z := hpg' rfl
          have eb : bq = false := by rw [ebq]; exact decide_eq_false (fun y => by omega)
          rw [if_neg (by decide), eb]
        | true =>
          have sz : hA g2 985 2 = i32 pg := by rw [p2.A (by decide)]; exact hpg rfl
          rw [if_pos rfl, Mg2.r_sizes, oc_s, Mg2.o_sizes, gd_tt, Mg2.n_sizes, i32_inb (by omega) (by omega) (by omega), gd_tt, i32_cn (by omega) (by omega), show ((2 : Int)).toNat = 2 from rfl, sz]
          by_cases c : 2 ≤ pg
          · have nzp : nz (i32 pg) = true := by
              unfold nz
              rw [decide_eq_true_eq, i32_z, i32_eq (by omega) (by omega) (by omega) (by omega)]
              omega
            have dm := Int.emod_add_mul_ediv (lyR (lBR d s1)) pg
            have m0 := Int.emod_nonneg (lyR (lBR d s1)) (show pg ≠ 0 by omega)
            have m1 := Int.emod_lt_of_pos (lyR (lBR d s1)) (show 0 < pg by omega)
            have cm : lyR (lBR d s1) / pg * pg = pg * (lyR (lBR d s1) / pg) := Int.mul_comm _ _
            have md : (i32 (lyR (lBR d s1)) - i32 (lyR (lBR d s1)) / i32 pg * i32 pg = i32 pg - i32 1) ↔ lyR (lBR d s1) % pg = pg - 1 := by
              rw [i32_dv hbr.1 (by omega) (by omega) (by omega), i32_mul, i32_sub, i32_sub, cm, show lyR (lBR d s1) - pg * (lyR (lBR d s1) / pg) = lyR (lBR d s1) % pg by omega, i32_eq (by omega) (by omega) (by omega) (by omega)]
            rw [if_neg (by rw [i32_lt (by omega) (by omega) (by omega) (by omega)]; omega), gd_tt, nzp, gd_tt, lt_e, lt_e, gd_tt]
            by_cases e' : lyR (lBR d s1) % pg = pg - 1
            · rw [if_pos (md.mpr e'), show bq = true by rw [ebq]; exact decide_eq_true ⟨c, e'⟩]
            · rw [if_neg (fun z => e' (md.mp z)), show bq = false by rw [ebq]; exact decide_eq_false (fun z => e' z.2)]
          · rw [if_pos (by rw [i32_lt (by omega) (by omega) (by omega) (by omega)]; omega), show bq = false by rw [ebq]; exact decide_eq_false (fun z => c z.1)]
      · -- a field
        have m24 : m < 24 := by omega
        have kf := (kd m o.1 o.2 mp).1 m24
        have sgm' := sg m o.1 o.2 mp
        have eN : lND F ap cols pg m s1 = lFD m d (F (160 + m)) cols (ap m) s1 := by unfold lND; rw [if_neg gq, ← ed]
        have eL : lLV F m = d := by unfold lLV; rw [if_neg gq, ← ed]
        rw [eN] at bLY ⊢
        rw [eL] at vs lv ⊢
        have ef1 := eFg g1 p1'
        obtain ⟨g2, y1, y2, y3⟩ := mFD (cols := cols) (i := i) Mg1 x3 pr (ap m) h0 h1 o.1 m24 (by rw [ef1]) kf.2.1 kf.2.2 c0 c1 rd.1 (show d ≤ 9 by omega) (by rw [p1'.A (by decide)]; exact hc) (by rw [ef1]; exact hap m o.1 m24 mp) (by rw [ef1]; exact sgm'.1) (by rw [ef1]; exact sgm'.2) (by omega)
        obtain ⟨g'', w1, w2, w3⟩ := ih n (i + 1) d g2 _ (by omega) (by omega) (by omega) (p1'.t y2) y3 bLY lv.1 lv.2 vs
        refine ⟨g'', ?_, w2, w3⟩
        rw [elX11_laysOut_47]; unfold bX11_laysOut_47
        rw [Mg.o, gd_tt, many_s Mg h0 h1, bn_s, eFg g p, if_neg (by rw [i32_le (by omega) (by omega) (by omega) (by omega)]; omega), ordered_s Mg h0 h1 i0 (by omega), bn_s, eFg g p, ← em, Mg.r_shown, oc_s, Mg.o_shown, gd_tt, Mg.n_shown, i32_inb o.1 (by omega) (by omega), gd_tt, i32_cn o.1 (by omega), a999, hb _ (by omega), gd_tt, th, bn_s, if_pos q, dp, bn_s]
        refine Eq.trans x1 ?_
        rw [← w1, ← j205]
        show (bn (fX11_isField (i32 m) g1) fun v124 => _) = _
        rw [isField_s (by omega) (by omega), bn_s, decide_eq_true m24, if_pos rfl, Mg1.o, gd_tt, y1, bn_s]
end

