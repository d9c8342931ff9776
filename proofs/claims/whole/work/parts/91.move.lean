section
variable {h g : HP} {k : Nat}
theorem rd_move (R : RR h k) (hk : k ≤ 512) (q1 q2 q3 : Int32) : ∃ o g g', fX10_move 0 q1 q2 q3 h = some (o, g) ∧ fX11_move 983 q1 q2 q3 g = some (o, g') ∧ RR g' (k + 1) := by
  obtain ⟨x, h1, h2, rfl⟩ := i32_ex q1
  obtain ⟨gr, h3, h4, rfl⟩ := i32_ex q2
  obtain ⟨y, h5, h6, rfl⟩ := i32_ex q3
  have er := R.2.2.2.2.2.1
  obtain ⟨np, T, rc, h714, ⟨b, t1, t2, t3, t4, t5⟩, b1, b2, b3⟩ := R.rc
  have C := rc.1
  have M := rc.2.1
  have n24 := rc.2.2.2.1
  have sr := rc.2.2.2.2.2.2.1
  have A : FormAt h (2 + 1) := C.st.d
  have R' := RR_up R (show k ≤ k + 1 by omega)
  obtain ⟨F, eF⟩ : ∃ F, F = Wm h := ⟨_, rfl⟩
  have fx : FRx h (2 + 1) F np := by rw [eF]; exact sr.x
  have t := fx.tr
  have O := t.ov
  have o1 := O.1
  have o2 := O.2.1
  have de : DE F := fx.2.1.1.2.2.1
  have fu : FU = 1000000 := rfl
  have mnode : ∀ g : HP, MS g → Wm g = F → fX11_isNode 983 (i32 x) g = some (decide (0 ≤ x ∧ x < 32 ∧ F x ≠ -1)) := fun g Mg eW => by rw [mIsNode Mg h1 h2, eW]
  have eno : ∀ g' : HP, fX11_nodeOf (i32 gr) g' = some (i32 (if 0 ≤ gr then 24 + gr else -2)) := fun g' => by
    unfold fX11_nodeOf
    by_cases w : 0 ≤ gr
    · rw [if_pos (by rw [i32_z, i32_le (by omega) (by omega) h3 h4]; exact w), if_pos w, i32_add]
    · rw [if_neg (by rw [i32_z, i32_le (by omega) (by omega) h3 h4]; exact w), if_neg w]
  have eis : ∀ g : HP, MS g → Wm g = F → fX11_isGroup 983 (i32 gr) g = some (decide (gr = -2 ∨ (0 ≤ gr ∧ gr < 8 ∧ F (24 + gr) ≠ -1))) := fun g Mg eW => by rw [isGroup_s Mg h3 h4, Fm0, eW]
  -- no node
  by_cases cn : 0 ≤ x ∧ x < 32 ∧ F x ≠ -1
  rotate_left
  · refine ⟨false, h, h, ?_, ?_, R'⟩
    · unfold fX10_move
      rw [C.o, gd_tt, C.r_state, oc_s, C.o_state, gd_tt, lt_e, C.st.rD, oc_s, A.o, gd_tt, x_find A fx h1 h2, bn_s, fnx_n cn, on_nn]
    · unfold fX11_move
      rw [eno, bn_s, M.o, gd_tt, mnode h M eF.symm, bn_s, decide_eq_false cn, if_neg (by decide)]
  have cn' := cn
  obtain ⟨x0, x1, xp⟩ := cn
  have ctk : fX0_takesGroup (2 + 1) (i32 gr) h = some (decide (gr = -2 ∨ (0 ≤ gr ∧ gr < 8 ∧ F (24 + gr) ≠ -1))) := by
    rw [ctakes A h3 h4]
    congr 1
    rw [decide_eq_decide]
    constructor
    · rintro (z | ⟨z1, z2, z3⟩)
      · exact Or.inl z
      · exact Or.inr ⟨z1, z2, by rw [← fx.E.1 (24 + gr) (by omega) (by omega)]; exact z3⟩
    · rintro (z | ⟨z1, z2, z3⟩)
      · exact Or.inl z
      · exact Or.inr ⟨z1, z2, by rw [fx.E.1 (24 + gr) (by omega) (by omega)]; exact z3⟩
  -- no group
  by_cases vg : gr = -2 ∨ (0 ≤ gr ∧ gr < 8 ∧ F (24 + gr) ≠ -1)
  rotate_left
  · refine ⟨false, h, h, ?_, ?_, R'⟩
    · unfold fX10_move
      rw [C.o, gd_tt, C.r_state, oc_s, C.o_state, gd_tt, lt_e, C.st.rD, oc_s, A.o, gd_tt, x_find A fx h1 h2, bn_s, fnx_y cn', on_sm, ctk, bn_s, decide_eq_false vg, if_neg (by decide)]
    · unfold fX11_move
      rw [eno, bn_s, M.o, gd_tt, mnode h M eF.symm, bn_s, decide_eq_true cn', if_pos rfl, eis h M eF.symm, bn_s, decide_eq_false vg, if_neg (by decide)]
  have hg : gr = -2 ∨ (0 ≤ gr ∧ gr < 8) := vg.imp id fun z => ⟨z.1, z.2.1⟩
  obtain ⟨ins, eins⟩ : ∃ ins, ins = gno gr := ⟨_, rfl⟩
  have vi : ins = -2 ∨ (24 ≤ ins ∧ ins < 32 ∧ F ins ≠ -1) := by
    rcases vg with z | ⟨z1, z2, z3⟩
    · left; rw [eins]; exact if_neg (by omega)
    · right
      rw [eins, show gno gr = 24 + gr from if_pos ⟨z1, z2⟩]
      exact ⟨by omega, by omega, z3⟩
  have eno' : ∀ g' : HP, fX11_nodeOf (i32 gr) g' = some (i32 ins) := fun g' => by
    rw [eno, eins]
    unfold gno
    by_cases w : 0 ≤ gr
    · rw [if_pos w, if_pos (show 0 ≤ gr ∧ gr < 8 by omega)]
    · rw [if_neg w, if_neg (show ¬ (0 ≤ gr ∧ gr < 8) by omega)]
  have e8 : ends F 8 ins := by
    rcases vi with z | ⟨z1, z2, z3⟩
    · exact Or.inl (by omega)
    · exact t.ce ins (by omega) z2
  have car : fX0_isAround (2 + 1) (i32 x) (i32 gr) h = some (isin F 8 ins x) := by
    have eg : ends (Fc h (2 + 1)) 8 (gno gr) := by
      rw [← eins]
      exact EqT_ends fx.E t.av 8 ins (by omega) e8
    rw [caround A (EqT_TV fx.E t.tv) fx.G x0 (by omega) eg (by omega) (by omega) (by
      rw [← eins]
      rcases vi with z | ⟨z1, z2, z3⟩
      · exact Or.inl z
      · exact Or.inr (by rw [fx.E.1 ins (by omega) z2]; exact z3)), ← eins, EqT_isin fx.E t.av 8 ins (by omega)]
  have c8 := isin_ch8 (F := F) (n := ins) x0 e8
  have c9 := isin_ch (F := F) (n := ins) x0 (ends_mono e8 (by omega))
  have min : ∀ g : HP, MS g → Wm g = F → fX11_isIn 983 (i32 0) (i32 ins) (i32 x) g = some (isin F 9 ins x) := fun g Mg eW => by
    have := isIn_s (o := x) Mg (fo := 0) (n := ins) (by omega) (by omega) (by omega) (by omega) (by rw [Fm0, eW]; exact t.av) (by omega) (by omega) (by rw [Fm0, eW]; exact ends_mono e8 (by omega))
    rw [Fm0, eW] at this
    exact this
  have mpre : ∀ g : HP, MS g → Wm g = F → fX11_move 983 (i32 x) (i32 gr) (i32 y) g = if isin F 9 ins x = true then some (false, g) else jX11_move_40 983 (i32 x) (i32 y) (i32 ins) g := fun g Mg eW => by
    unfold fX11_move
    rw [eno', bn_s, Mg.o, gd_tt, mnode g Mg eW, bn_s, decide_eq_true cn', if_pos rfl, eis g Mg eW, bn_s, decide_eq_true vg, if_pos rfl]
    rcases vi with z | ⟨z1, z2, z3⟩
    · have nz : ¬ inch F ins x := fun w => by
        have := inch_neg w (by omega)
        omega
      rw [if_pos (by rw [i32_z, i32_lt (by omega) (by omega) (by omega) (by omega)]; omega), if_neg (fun z => nz (c9.mp z))]
    · rw [if_neg (by rw [i32_z, i32_lt (by omega) (by omega) (by omega) (by omega)]; omega), min g Mg eW, bn_s]
  -- into itself
  by_cases ic : inch F ins x
  · refine ⟨false, h, h, ?_, ?_, R'⟩
    · unfold fX10_move
      rw [C.o, gd_tt, C.r_state, oc_s, C.o_state, gd_tt, lt_e, C.st.rD, oc_s, A.o, gd_tt, x_find A fx h1 h2, bn_s, fnx_y cn', on_sm, ctk, bn_s, decide_eq_true vg, if_pos rfl, car, bn_s, if_pos (c8.mpr ic)]
    · rw [mpre h M eF.symm, if_pos (c9.mpr ic)]
  have hi : INq F x ins := vi.imp id fun z => ⟨z.1, by omega, z.2.1, z.2.2, ic⟩
  obtain ⟨p, p0, p1, ep⟩ := t.po x x0 x1 xp
  obtain ⟨n1, en1⟩ : ∃ n1, n1 = cnt (son F ins) (F 288).toNat 0 := ⟨_, rfl⟩
  have rn := cnt_rng (son F ins) (F 288).toNat 0
  rw [← en1] at rn
  obtain ⟨ix, eix⟩ : ∃ ix, ix = cnt (son F (F x)) p.toNat 0 := ⟨_, rfl⟩
  have rix := cnt_rng (son F (F x)) p.toNat 0
  rw [← eix] at rix
  have h32 : x.toNat < 32 := by omega
  have nd := fx.nd x0 x1 xp
  have par := t.tv.grp x0 x1 xp
  have pe : (i32 (cgr (F x)) = i32 gr) ↔ F x = ins := by
    have cg : -2 ≤ cgr (F x) ∧ cgr (F x) < 8 := by
      unfold cgr
      rcases par with z | z
      · rw [z]; simp
      · rw [if_neg (by omega)]; omega
    rw [i32_eq (by omega) (by omega) (by omega) (by omega), cgr_eq (par.imp id fun z => ⟨z.1, z.2.1⟩) hg, eins]
  have u : ∀ q, 0 ≤ q → q < p → F (256 + q) ≠ x := fun q q0 q1 z => by
    have := t.dd q p q0 (by omega) p0 p1 (z.trans ep.symm)
    omega
  -- the class up to the transfer
  have hc : fX10_move 0 (i32 x) (i32 gr) (i32 y) h = if 0 ≤ y ∧ y ≤ n1 - (if F x = ins then 1 else 0) ∧ ¬ (F x = ins ∧ ix = y) then jX10_move_99 0 (i32 x) (i32 gr) (i32 y) (some (2 + 1)) h else some (false, h) := by
    unfold fX10_move
    rw [C.o, gd_tt, C.r_state, oc_s, C.o_state, gd_tt, lt_e, C.st.rD, oc_s, A.o, gd_tt, x_find A fx h1 h2, bn_s, fnx_y cn', on_sm, ctk, bn_s, decide_eq_true vg, if_pos rfl, car, bn_s, if_neg (fun z => ic (c8.mp z)), x_list A fx hg, bn_s, ← eins, ← en1, A.on h32, gd_tt, nd.2.1]
    have lst : fX0_indexOf (2 + 1) (i32 x) h = some (i32 ix) := by rw [eix]; exact x_index A fx x0 x1 p0 p1 ep
    have tail : ∀ (s0 : Bool) (c : Int), bI s0 = i32 c → 0 ≤ c → c ≤ 1 → jX10_move_63 0 (i32 x) (i32 gr) (i32 y) (some (2 + 1)) (some (2 + 1 + 4 + x.toNat)) s0 (i32 n1) h = if 0 ≤ y ∧ y ≤ n1 - c ∧ ¬ (F x = ins ∧ ix = y) then jX10_move_99 0 (i32 x) (i32 gr) (i32 y) (some (2 + 1)) h else some (false, h) := fun s0 c e c0 c1 => by
      unfold jX10_move_63
      rw [e, i32_sub, lt_e]
      by_cases y0 : 0 ≤ y
      · rw [if_neg (by rw [i32_z, i32_lt (by omega) (by omega) (by omega) (by omega)]; omega)]
        by_cases yn : y ≤ n1 - c
        · rw [if_pos (by rw [i32_le (by omega) (by omega) (by omega) (by omega)]; exact yn), oc_s, A.on h32, gd_tt, nd.2.1]
          by_cases s : F x = ins
          · rw [if_pos (pe.mpr s), oc_s, A.o, gd_tt, lst, bn_s]
            by_cases w : ix = y
            · rw [if_pos (by rw [w]), if_neg (fun z => z.2.2 ⟨s, w⟩)]
            · rw [if_neg (by rw [i32_eq (by omega) (by omega) (by omega) (by omega)]; exact w), if_pos ⟨y0, yn, fun z => w z.2⟩]
          · rw [if_neg (fun z => s (pe.mp z)), if_pos ⟨y0, yn, fun z => s z.1⟩]
        · rw [if_neg (by rw [i32_le (by omega) (by omega) (by omega) (by omega)]; exact yn), if_neg (fun z => yn z.2.1)]
      · rw [if_pos (by rw [i32_z, i32_lt (by omega) (by omega) (by omega) (by omega)]; omega), if_neg (fun z => y0 z.1)]
    by_cases s : F x = ins
    · rw [if_pos (pe.mpr s), tail true 1 bI_tt (by omega) (by omega), if_pos s]
    · rw [if_neg (fun z => s (pe.mp z)), tail false 0 bI_ff (by omega) (by omega), if_neg s]
  -- the model up to the depth
  have hm : ∀ g : HP, MS g → Wm g = F → fX11_move 983 (i32 x) (i32 gr) (i32 y) g = if 0 ≤ y ∧ y ≤ n1 - (if F x = ins then 1 else 0) ∧ ¬ (F x = ins ∧ ix = y) then jX11_move_100 983 (i32 x) (i32 y) (i32 ins) g else some (false, g) := fun g Mg eW => by
    rw [mpre g Mg eW, if_neg (fun z => ic (c9.mp z))]
    unfold jX11_move_40
    have vx := t.av x x0 x1
    rw [Mg.o, gd_tt, of_s Mg (show 0 ≤ 0 + 0 + x by omega) (by omega), bn_s, Fm0, eW, Int.zero_add]
    have sn : fX11_sons 983 (i32 ins) g = some (i32 n1) := by
      rw [sons_s Mg (by omega) (by omega) (by rw [Fm0, eW]; exact t.av) (by rw [Fm0, eW]; exact O), Fm0, eW, ← en1]
    have ixo : fX11_indexOf 983 (i32 x) g = some (i32 ix) := by
      rw [indexOf_s Mg x0 x1 (by rw [Fm0, eW]; exact t.av) (by rw [Fm0, eW]; exact O) p0 (by rw [Fm0, eW]; exact p1) (by rw [Fm0, eW]; exact ep) (by rw [Fm0, eW]; exact u), Fm0, eW, ← eix]
    have tail : ∀ (s0 : Bool) (c : Int), bI s0 = i32 c → 0 ≤ c → c ≤ 1 → (s0 = true ↔ F x = ins) → jX11_move_77 983 (i32 x) (i32 y) (i32 ins) s0 s0 (i32 n1) false (i32 y) g = if 0 ≤ y ∧ y ≤ n1 - c ∧ ¬ (F x = ins ∧ ix = y) then jX11_move_100 983 (i32 x) (i32 y) (i32 ins) g else some (false, g) := fun s0 c e c0 c1 es => by
      unfold jX11_move_77
      rw [e, i32_sub, bI_ff, in_s (by omega) (by omega) (by omega) (by omega) (by omega) (by omega), bn_s]
      by_cases yr : 0 ≤ y ∧ y ≤ n1 - c
      · rw [if_pos (decide_eq_true yr)]
        by_cases s : F x = ins
        · rw [if_pos (es.mpr s), Mg.o, gd_tt, ixo, bn_s]
          by_cases w : ix = y
          · rw [if_pos (by rw [w]), if_neg (fun z => z.2.2 ⟨s, w⟩)]
          · rw [if_neg (by rw [i32_eq (by omega) (by omega) (by omega) (by omega)]; exact w), if_pos ⟨yr.1, yr.2, fun z => w z.2⟩]
        · rw [if_neg (fun z => s (es.mp z)), if_pos ⟨yr.1, yr.2, fun z => s z.1⟩]
      · rw [if_neg (by rw [decide_eq_true_eq]; exact yr), if_neg (fun z => yr ⟨z.1, z.2.1⟩)]
    by_cases s : F x = ins
    · rw [if_pos (by rw [s]), if_pos s]
      unfold jX11_move_57
      rw [Mg.o, gd_tt, sn, bn_s, if_pos rfl]
      exact tail true 1 bI_tt (by omega) (by omega) ⟨fun _ => s, fun _ => rfl⟩
    · rw [if_neg (by rw [i32_eq (by omega) (by omega) (by omega) (by omega)]; exact s), if_neg s]
      unfold jX11_move_57
      rw [Mg.o, gd_tt, sn, bn_s, if_neg (by decide)]
      exact tail false 0 bI_ff (by omega) (by omega) ⟨fun z => (by cases z), fun z => absurd z s⟩
  by_cases ok : 0 ≤ y ∧ y ≤ n1 - (if F x = ins then 1 else 0) ∧ ¬ (F x = ins ∧ ix = y)
  rotate_left
  · exact ⟨false, h, h, by rw [hc, if_neg ok], by rw [hm h M eF.symm, if_neg ok], R'⟩
  rw [if_pos ok] at hc
  have hm' := fun g Mg eW => hm g Mg eW
  simp only [if_pos ok] at hm'
  -- the forms
  obtain ⟨e, ee⟩ : ∃ e, e = bhd F x 33 (p + 1) := ⟨_, rfl⟩
  have st : STR F x p e := by rw [ee]; exact str_ex t x0 p0 p1 ep
  obtain ⟨G, eG⟩ : ∃ G, G = cutF F x p e := ⟨_, rfl⟩
  have cut : CUT F G x p e := by rw [eG]; exact cut_ex t x0 st
  have tG := TR_cut t st x0 x1 cut
  obtain ⟨pp, E, en⟩ : ∃ pp E, EN G ins pp E := EN_ex tG (by
    rcases hi with z | z
    · exact Or.inl z
    · exact Or.inr ⟨z.1, z.2.2.1, by rw [cut.1 ins z.2]; exact z.2.2.2.1⟩)
  have lg := en.lg tG (y := y)
  have i4 := hi.d4 de
  have rh := hgt_rng (F := F) (x := x) (F 288).toNat 0 0 (by omega) (by omega)
  have dpi := DP_iff t de hi x0 x1 xp
  have w118 : ∀ g : HP, MS g → Wm g = F → fX11_move 983 (i32 x) (i32 gr) (i32 y) g = jX11_move_118 983 (i32 x) (i32 y) (i32 ins) (i32 (dpt F 8 ins)) g := fun g Mg eW => by
    rw [hm' g Mg eW]
    unfold jX11_move_100
    rcases vi with z | ⟨z1, z2, z3⟩
    · rw [if_neg (by rw [i32_z, i32_le (by omega) (by omega) (by omega) (by omega)]; omega), z]
      rfl
    · have dep := depth_s (fo := 0) Mg (by omega) (by omega) (by rw [Fm0, eW]; exact t.av) (show 0 ≤ ins by omega) z2 (by rw [Fm0, eW]; exact ends_mono (de ins (by omega) z2 z3).1 (by omega))
      rw [Fm0, eW] at dep
      rw [if_pos (by rw [i32_z, i32_le (by omega) (by omega) (by omega) (by omega)]; omega), Mg.o, gd_tt, dep, bn_s, i32_add, dpt_9 t de (by omega) z2 z3]
  have mdeep : ¬ DP F x ins → ∀ g : HP, MS g → Wm g = F → fX11_move 983 (i32 x) (i32 gr) (i32 y) g = some (false, g) := fun D g Mg eW => by
    rw [w118 g Mg eW]
    unfold jX11_move_118
    rw [Mg.o, gd_tt, mheight Mg eW t de x0 x1 xp, bn_s, i32_add, if_neg (by rw [i32_le (by omega) (by omega) (by omega) (by omega)]; exact fun z => D (dpi.mpr z))]
  obtain ⟨to, eto⟩ : ∃ to, to = nth (son G ins) y E (G 288).toNat 0 0 := ⟨_, rfl⟩
  rw [← eto] at lg
  have esg : ∀ gE : HP, hA gE 990 = hA h 990 → (∀ q, 32 ≤ q → ¬ (256 ≤ q ∧ q < 289) → Wm gE q = F q) → ∀ n, 0 ≤ n → n < 32 → sgm (Pt gE) (Wm gE) n = sgm (Pt h) F n := fun gE a rows n n0 n1 => by
    have eP : Pt gE = Pt h := by funext q; unfold Pt; rw [a]
    rw [eP]; exact sgm_E (rows (192 + n) (by omega) (by omega)) (rows (224 + n) (by omega) (by omega))
  have lo : ∀ n, 0 ≤ n → n < 32 → F n ≠ -1 → lo24 (RlL (sgm (Pt h) F n)) := fx.lo
  have mall : DP F x ins → ∀ g : HP, MS g → Wm g = F → hA g 990 = hA h 990 → N24 g → ∃ gE g6, fX11_move 983 (i32 x) (i32 gr) (i32 y) g = (if (!anyf (fun f => bt (cl (NE (Wm gE) (fun n => RlL (sgm (Pt h) F n))) 24 (NE (Wm gE) (fun n => RlL (sgm (Pt h) F n)) f)) f) 24 0) = true then (gd (isO g6 983 11) <| bn (fX11_swaps 983 g6) fun h165 => gd (isO h165 983 11) <| bn (fX11_keeps 983 h165) fun h168 => gd (isO h168 983 11) <| bn (fX11_takesMade 983 h168) fun h171 => some (true, h171)) else gd (isO g6 983 11) <| bn (fX11_takesMade 983 g6) fun h174 => some (false, h174)) ∧ Mo [987, 988, 997] g gE ∧ Mo [991] gE g6 ∧ N24 g6 ∧ (∀ i, i < 292 → hL gE 988 i = hL g 987 i) ∧ MVD F G (Wm gE) x p e ins to ∧ ∀ q, 32 ≤ q → ¬ (256 ≤ q ∧ q < 289) → Wm gE q = F q := fun D g Mg eW a990 n24g => by
    obtain ⟨gE, ⟨h159, rfl, eq⟩, mo, l988, mv, rows⟩ := mtransfer Mg eW t st x0 x1 xp cut (y := y) h5 h6 en hi
    rw [← eto] at mv
    have ME := mo.ms Mg
    have trH := mv.tr t de hi x0 x1 xp D st cut lg
    have aE : hA gE 990 = hA h 990 := (mo.A (by decide)).trans a990
    have es := esg gE aE rows
    obtain ⟨g6, s1, s2, s3⟩ := msound ME rfl trH (fun i i0 i1 => by
      have o := trH.ov.2.2 i i0 i1
      have := fx.sg _ o.1 o.2 ((mv.pr hi xp o.1 o.2).mp (trH.op i i0 i1))
      unfold SG
      rw [rows (192 + Wm gE (256 + i)) (by omega) (by omega), rows (224 + Wm gE (256 + i)) (by omega) (by omega)]
      exact ⟨this.1, this.2.1, by omega⟩) (fun n n0 n1 np' => by
      show lo24 (RlL (sgm (Pt gE) (Wm gE) n))
      rw [es n n0 n1]
      exact lo n n0 n1 ((mv.pr hi xp n0 n1).mp np')) (n24g.mo mo (by decide) (by decide))
    have eN : NE (Wm gE) (RX gE (Wm gE)) = NE (Wm gE) (fun n => RlL (sgm (Pt h) F n)) := NE_congr trH.tv (R := RX gE (Wm gE)) (R' := fun n => RlL (sgm (Pt h) F n)) (fun n a b c => by show RlL (sgm (Pt gE) (Wm gE) n) = _; rw [es n a b])
    rw [eN] at s1
    refine ⟨gE, g6, ?_, mo, s2, s3, l988, mv, rows⟩
    rw [w118 g Mg eW]
    unfold jX11_move_118
    rw [Mg.o, gd_tt, mheight Mg eW t de x0 x1 xp, bn_s, i32_add, if_pos (by rw [i32_le (by omega) (by omega) (by omega) (by omega)]; exact dpi.mp D)]
    refine Eq.trans eq ?_
    rw [s1, bn2_s]
  -- the class writes aside
  subst eins
  obtain ⟨g1, gT, u1, C1, u2, sT, f3, fcT⟩ := mv_scr rc eF st x0 x1 xp cut hg h5 h6 en hi
  rw [← eto] at fcT
  have CT := C.sk sT.1
  have kT : Kq h gT := Kq_So sT
  have tsT : TS2 h gT := TS2_So (sT.w (T := fun y => y < 1008) (fun y z => by have := z.2; omega)) (fun y z => z)
  have rT := RC_k rc kT tsT
  have MT := rT.2.1
  have smT : ∀ y, (y < 63 ∨ 99 ≤ y) → Sm h gT y := fun y hy => sT.2.2 y (fun z => by have := z.1; have := z.2; omega)
  have eWT : Wm gT = F := by rw [eF]; funext j; unfold Wm; rw [(smT 987 (by omega)).2.2.2.2.1]
  have a990T : hA gT 990 = hA h 990 := funext (smT 990 (by omega)).2.2.2.1
  have hz : gT.1 = h.1 := sT.2.1
  obtain ⟨gX, _, _, _, mv0, rows0⟩ := mtransfer MT eWT t st x0 x1 xp cut (y := y) h5 h6 en hi
  rw [← eto] at mv0
  obtain ⟨H0, eH0⟩ : ∃ H0, H0 = Wm gX := ⟨_, rfl⟩
  rw [← eH0] at mv0 rows0
  have fc0 := fcT H0 mv0 (fun q a _ c => rows0 q a c)
  have TH0 := mv0.tv t.tv hi xp
  obtain ⟨EH, GT⟩ := FRb_tree fc0.1 TH0 (mv0.ov t st cut lg)
  have AT : FormAt gT 63 := CT.sf
  have TT := EqT_TV EH TH0
  have deepv : fX0_isTooDeep 63 gT = some (anyf (fun j => decide (H0 (24 + j) ≠ -1 ∧ 4 < dpt H0 8 (24 + j))) 8 0) := by
    rw [cdeep AT TT GT (fun g g0 g1' gp => by
      rw [EH.1 g (by omega) g1'] at gp
      exact EqT_ends EH TH0.av 8 g g1' (mv0.lv t de hi x0 x1 g0 g1' ((mv0.pr hi xp (by omega) g1').mp gp)).1)]
    congr 1
    refine anyf_congr 8 0 fun j j0 j1 => ?_
    rw [EH.1 (24 + j) (by omega) (by omega), EqT_dpt EH TH0.av 8 (24 + j) (by omega)]
  have dd := mv0.deep t de hi x0 x1 xp
  have eN0 : NE (Fc gT 63) (Rfc gT 63) = NE H0 (fun n => RlL (sgm (Pt h) F n)) := EqT_NE EH TH0.av (fun n a b c => (fc0.2 n a b c).2.2) TH0
  have circ := ccirc AT TT GT
  rw [eN0] at circ
  have c99 : ∀ r, (if anyf (fun j => decide (H0 (24 + j) ≠ -1 ∧ 4 < dpt H0 8 (24 + j))) 8 0 = true then some (false, gT) else if anyf (fun f => bt (cl (NE H0 (fun n => RlL (sgm (Pt h) F n))) 24 (NE H0 (fun n => RlL (sgm (Pt h) F n)) f)) f) 24 0 = true then some (false, gT) else bn (fX10_remember 0 gT) fun h122 => gd (isO h122 0 10) <| oc (some (2 + 1)) fun o124 => gd (isO h122 o124 0) <| bn (fX0_copyFrom o124 (hR h122 649 0) h122) fun h128 => some (true, h128)) = r → fX10_move 0 (i32 x) (i32 gr) (i32 y) h = r := fun r hr => by
    rw [hc]
    unfold jX10_move_99
    have u1' : fX0_copyFrom 63 (some (2 + 1)) h = some g1 := u1
    rw [C.o, gd_tt, C.r_scratch, oc_s, C.o_scratch, gd_tt, u1', bn_s, C1.o, gd_tt, C1.r_scratch, oc_s, C1.o_scratch, gd_tt, u2, bn_s, CT.o, gd_tt, CT.r_scratch, oc_s, CT.o_scratch, gd_tt, deepv, bn_s, circ, bn_s]
    exact hr
  have rrT : RR gT (k + 1) := rr_end R er h714 t1 t2 t3 t4 t5 b1 b2 b3 rT (fun f _ => (smT 0 (by omega)).1 f) (fun f _ => (smT 983 (by omega)).1 f) (funext (smT 1 (by omega)).2.2.2.1) (funext (smT 984 (by omega)).2.2.2.1) hz
  by_cases D : DP F x (gno gr)
  rotate_left
  · exact ⟨false, gT, gT, c99 _ (by rw [if_pos (dd.mpr D)]), mdeep D gT MT eWT, rrT⟩
  have nd0 : ¬ anyf (fun j => decide (H0 (24 + j) ≠ -1 ∧ 4 < dpt H0 8 (24 + j))) 8 0 = true := fun z => dd.mp z D
  have n24T := rT.2.2.2.1
  by_cases cc : anyf (fun f => bt (cl (NE H0 (fun n => RlL (sgm (Pt h) F n))) 24 (NE H0 (fun n => RlL (sgm (Pt h) F n)) f)) f) 24 0 = true
  · -- a field would depend on itself
    obtain ⟨gE, g6, me, mo, m6, n6, l988, mv, rows⟩ := mall D gT MT eWT a990T n24T
    have M6 : MS g6 := m6.ms (mo.ms MT)
    obtain ⟨g7, a1, a2, a3, a4⟩ := mmade M6
    have eqN : NE (Wm gE) (fun n => RlL (sgm (Pt h) F n)) = NE H0 (fun n => RlL (sgm (Pt h) F n)) := EqT_NE (mv0.E mv) TH0.av (fun _ _ _ _ => rfl) TH0
    have q : Mo [987, 988, 997, 991] gT g7 := (mo.w (by decide)).t ((m6.w (by decide)).t (a3.w (by decide)))
    have l7 : hL g7 987 = hL gT 987 := by
      funext i
      rw [a4 i]
      by_cases c : i < 292
      · rw [if_pos c, m6.L (by decide), l988 i c]
      · rw [if_neg c, m6.L (by decide)]
        exact hL_W (by rw [rows i (by omega) (by omega), eWT])
    have r7 := RC_mo rT q (by decide) (fun i hi => by rw [q.A (by decide)]) (n6.mo a3 (by decide) (by decide)) l7
    refine ⟨false, gT, g7, c99 _ (by rw [if_neg nd0, if_pos cc]), ?_, ?_⟩
    · rw [me, eqN, cc, if_neg (by decide), M6.o, gd_tt, a1, bn_s]
    · exact rr_end R er h714 t1 t2 t3 t4 t5 b1 b2 b3 r7 (fun f _ => by rw [q.Ix (by omega)]; exact (smT 0 (by omega)).1 f) (fun f hf => by
        rw [q.I (by rcases hf with e | e | e <;> rw [e] <;> decide)]; exact (smT 983 (by omega)).1 f) ((q.A (by decide)).trans (funext (smT 1 (by omega)).2.2.2.1)) ((q.A (by decide)).trans (funext (smT 984 (by omega)).2.2.2.1)) (q.1.trans hz)
  · -- the node is moved
    have cf : anyf (fun f => bt (cl (NE H0 (fun n => RlL (sgm (Pt h) F n))) 24 (NE H0 (fun n => RlL (sgm (Pt h) F n)) f)) f) 24 0 = false := by
      cases w : anyf (fun f => bt (cl (NE H0 (fun n => RlL (sgm (Pt h) F n))) 24 (NE H0 (fun n => RlL (sgm (Pt h) F n)) f)) f) 24 0 with
      | true => exact absurd w cc
      | false => rfl
    obtain ⟨us, ps, U⟩ := rT.up
    obtain ⟨g1', c1, c2⟩ := rT.rem U
    have C1' := CT.sk c2.1.1
    have sm1 : ∀ x, x ≠ 0 → (x < 403 ∨ 983 ≤ x) → Sm gT g1' x := fun x a b => c2.sm a b U.2.1
    have bb : ∀ i : Nat, i < 32 → isB (hI g1' 128 (63 + 4 + i)) = true := fun i hi => by
      rw [(sm1 _ (by omega) (by omega)).1]; exact fc0.1.isB i hi
    obtain ⟨g2, d1, d2, d3⟩ := copyForm C1'.st.d C1'.sf (Or.inl (by omega)) bb
    have C2 := C1'.sk d2.1
    have sm2 : ∀ x, (x < 3 ∨ 39 ≤ x) → Sm g1' g2 x := fun x a => d2.2.2 x (fun z => by have := z.1; have := z.2; omega)
    have smM : ∀ x, 983 ≤ x → Sm gT g2 x := fun x a => (sm1 x (by omega) (Or.inr a)).t (sm2 x (by omega))
    have M2 : MS g2 := MT.sk (c2.1.1.trans d2.1)
    have eW2 : Wm g2 = F := by rw [← eWT]; funext j; unfold Wm; rw [(smM 987 (by omega)).2.2.2.2.1]
    have a990' : hA g2 990 = hA h 990 := (funext (smM 990 (by omega)).2.2.2.1).trans a990T
    obtain ⟨gE, g6, me, mo, m6, n6, l988, mv, rows⟩ := mall D g2 M2 eW2 a990' (n24T.e (funext (smM 991 (by omega)).2.2.2.1) (funext (smM 999 (by omega)).2.2.2.1))
    have eqN : NE (Wm gE) (fun n => RlL (sgm (Pt h) F n)) = NE H0 (fun n => RlL (sgm (Pt h) F n)) := EqT_NE (mv0.E mv) TH0.av (fun _ _ _ _ => rfl) TH0
    have M6 : MS g6 := m6.ms (mo.ms M2)
    obtain ⟨g7, a1, a2, a3⟩ := mswap M6
    have M7 := a2.ms M6
    have q7 : Mo [987, 988, 997, 991] g2 g7 := (mo.w (by decide)).t ((m6.w (by decide)).t (a2.w (by decide)))
    have i712 : hI g7 712 983 = i32 us := by
      rw [q7.I (by decide), (smM 983 (by omega)).1]; exact U.2.2.2.2
    obtain ⟨g8, v1, v2⟩ := M7.keep U.1 i712
    have M8 := M7.sk v2.1.1
    obtain ⟨g9, z1, z2, z3, z4⟩ := mmade M8
    have sm8 : ∀ x, x ≠ 983 → x ≠ 989 → Sm g7 g8 x := fun x a b => v2.sm a b
    have la : hL g7 987 = hL g2 987 := by
      funext i
      rw [(a3 i).1]
      by_cases c : i < 292
      · rw [if_pos c, m6.L (by decide)]; exact l988 i c
      · rw [if_neg c, m6.L (by decide)]
        exact hL_W (by rw [rows i (by omega) (by omega), eW2])
    have A9 : ∀ y, 983 < y → y ≠ 987 → y ≠ 988 → y ≠ 997 → y ≠ 991 → y ≠ 989 → hA g9 y = hA h y := fun y a b c d e f => by
      have e7 : hA g7 y = hA g2 y := q7.A (by
        rw [List.contains_eq_mem, decide_eq_false_iff_not]; simp; omega)
      have e9 : hA g9 y = hA g8 y := z3.A (by
        rw [List.contains_eq_mem, decide_eq_false_iff_not]; simp; omega)
      rw [e9]
      exact (funext (sm8 y (by omega) f).2.2.2.1).trans (e7.trans ((funext (smM y (by omega)).2.2.2.1).trans (funext (smT y (by omega)).2.2.2.1)))
    have a9 := A9 990 (by omega) (by omega) (by omega) (by omega) (by omega) (by omega)
    have a5 := A9 985 (by omega) (by omega) (by omega) (by omega) (by omega) (by omega)
    have W9 : ∀ q, 0 ≤ q → q < 292 → Wm g9 q = Wm gE q := fun q q0 q1' => by
      unfold Wm
      rw [z4, if_pos (by omega), (sm8 988 (by omega) (by omega)).2.2.2.2.1, (a3 _).2, if_pos (by omega), m6.L (by decide)]
    have W9' : ∀ q, 292 ≤ q → Wm g9 q = F q := fun q q0 => by
      rw [← eW2]
      unfold Wm
      rw [z4, if_neg (by omega), (sm8 987 (by omega) (by omega)).2.2.2.2.1, la]
    have rows9 : ∀ q, 32 ≤ q → ¬ (256 ≤ q ∧ q < 289) → Wm g9 q = F q := fun q q0 q1' => by
      by_cases c : q < 292
      · rw [W9 q (by omega) c]; exact rows q q0 q1'
      · exact W9' q (by omega)
    have ts9 : TS2 gT g9 := (TS2_So ((c2.1.w (T := fun x => x < 1008) (fun x z => by rcases z with z | z; omega; have := z.2; have := U.2.1; omega)).t (d2.w (fun x z => by have := z.2; omega))) (fun x z => z)).t ((TS2_mo q7).t ((TS2_So (v2.1.w (T := fun x => x < 1008) (fun x z => by rcases z with z | z <;> omega)) (fun x z => z)).t (TS2_mo z3)))
    have fcE := fcT (Wm gE) mv (fun q a _ c => rows q a c)
    have ac : Acy (NE (Wm gE) (fun n => RlL (sgm (Pt h) F n))) := by
      rw [eqN]; exact acy_any.mp cf
    have fwE : FWf (Wm gE) (sgm (Pt h) F) np := FWf_mv fx.2.1 mv hi x0 x1 xp D st cut lg (fun q a _ c => rows q a c) ac
    have sm39 : ∀ y, inF 3 y → Sm g2 g9 y := fun y hy => (q7.sm (by have := hy.2; omega)).t ((sm8 y (by have := hy.2; omega) (by have := hy.2; omega)).t (z3.sm (by have := hy.2; omega)))
    have fe9 : FormEq g9 3 gT 63 := ((FormEq_sm sm39).t d3).t (FormEq_sm (fun y hy => sm1 y (by have := hy.1; omega) (by have := hy.2; omega)))
    have z0 : ∀ f, f < 3 → hI gT f 63 = hI h f 3 := f3
    have fx9 : FRx g9 3 (Wm g9) np := FRx_F (FRx_new fcE fwE fe9 ts9 (fun n n0 n1' _ => by
      have eP : Pt g9 = Pt h := by funext q; unfold Pt; rw [a9]
      rw [eP]; exact sgm_E (rows (192 + n) (by omega) (by omega)) (rows (224 + n) (by omega) (by omega))) (by rw [z0 0 (by omega), a5]; exact fx.2.2.1) (by rw [z0 1 (by omega), a5]; exact fx.2.2.2.1) (by rw [z0 2 (by omega), a5]; exact fx.2.2.2.2)) (fun q a b => W9 q a b)
    have r9 : RC g9 np := RC_wr rT U c2 d2 q7 (by decide) la v2 z2 (fun q _ => by rw [a9, a990T]) (((n6.mo a2 (by decide) (by decide)).e (funext (sm8 991 (by omega) (by omega)).2.2.2.1) (funext (sm8 999 (by omega) (by omega)).2.2.2.1)).mo z3 (by decide) (by decide)) (Nat.le_refl _) (fun q a _ => by rw [W9' q a, eWT]) fx9
    refine ⟨true, g2, g9, c99 _ ?_, ?_, ?_⟩
    · rw [if_neg nd0, if_neg cc, c1, bn_s, C1'.o, gd_tt, oc_s, C1'.st.d.o, gd_tt, C1'.r_scratch, d1, bn_s]
    · rw [me, eqN, cf, if_pos (by decide), M6.o, gd_tt, a1, bn_s, M7.o, gd_tt, v1, bn_s, M8.o, gd_tt, z1, bn_s]
    · have i0 : ∀ f, f ≠ 646 → f ≠ 647 → hI g9 f 0 = hI h f 0 := fun f a b => by
        rw [z3.Ix (by omega), (sm8 0 (by omega) (by omega)).1, q7.Ix (by omega), (sm2 0 (by omega)).1, c2.2.2.2.2 f a b, (smT 0 (by omega)).1]
      have i9 : ∀ f, f = 705 ∨ f = 706 ∨ f = 714 → hI g9 f 983 = hI h f 983 := fun f hf => by
        rw [z3.I (by rcases hf with e | e | e <;> rw [e] <;> decide), v2.2.2.1 f (by omega), q7.I (by rcases hf with e | e | e <;> rw [e] <;> decide), (smM 983 (by omega)).1, (smT 983 (by omega)).1]
      have e1 : hA g9 1 = hA h 1 := by
        rw [z3.A (by decide)]
        exact (funext (sm8 1 (by omega) (by omega)).2.2.2.1).trans ((q7.A (by decide)).trans ((funext ((sm1 1 (by omega) (by omega)).t (sm2 1 (by omega))).2.2.2.1).trans (funext (smT 1 (by omega)).2.2.2.1)))
      have hz9 : g9.1 = h.1 := by rw [z3.1, v2.1.2.1, q7.1, d2.2.1, c2.1.2.1, hz]
      exact rr_end R er h714 t1 t2 t3 t4 t5 b1 b2 b3 r9 (fun f hf => i0 f (by omega) (by omega)) i9 e1 (A9 984 (by omega) (by omega) (by omega) (by omega) (by omega) (by omega)) hz9
end

