section
variable {b : Int → Int} {n : Int} {was : Nat} {g g' : HP} {j : Nat} {F : Int → Int} {S : List TS} {LL : List Int}
theorem SGT_new {G : Int → Int} {pl node ins srt nm : Int} (sg : SGT F) (p0 : 0 ≤ pl) (h0 : 0 ≤ node) (h1 : node < 32) (e : ∀ k, 0 ≤ k → (k < 32 ∨ (192 ≤ k ∧ k < 256)) → G k = addF F pl node ins srt nm k) : SGT G := by
  intro m a c d
  rw [e m a (by omega), addF_n p0 h0 h1 c] at d
  unfold SG
  rw [e _ (by omega) (by omega), e _ (by omega) (by omega), addF_lo p0 h0 h1 (by omega), addF_lo p0 h0 h1 (by omega)]
  by_cases q : m = node
  · rw [if_neg (by omega), if_neg (by omega), if_neg (by omega), if_pos (by omega), if_neg (by omega), if_neg (by omega), if_neg (by omega), if_pos (by omega)]
    omega
  · rw [if_neg q] at d
    rw [if_neg (by omega), if_neg (by omega), if_neg (by omega), if_neg (by omega), if_neg (by omega), if_neg (by omega), if_neg (by omega), if_neg (by omega)]
    exact sg m a c d
theorem pend_F {T : Nat → TK} {k : Int} {Z : ZR} : (pend T k Z).2.2 = Z.2.2 := by
  unfold pend
  by_cases c : Z.1 = true
  · rw [if_pos c]
    by_cases d : tkk (T Z.2.1) = k
    · rw [if_pos d]
    · rw [if_neg d]
  · rw [if_neg c]
theorem pend_1 {T : Nat → TK} {k : Int} {Z : ZR} (h : (pend T k Z).1 = true) : Z.1 = true := pend_ok h
theorem sgt_fld {ins pl : Int} (n0 : 0 ≤ n) (n1 : n ≤ 1200) (wb : (was : Int) ≤ 10300) (B : MBz b n j S LL) (t : TF F) (gk : grok F ins) (P : PL F ins pl) (sg : SGT F) (k8 : 8 ≤ tkk (tkn b n j)) (k10 : tkk (tkn b n j) ≤ 10) (ok : (pfld (tkn b n) was pl ins j F S LL).1 = true) : SGT (pfld (tkn b n) was pl ins j F S LL).2.2.1 := by
  have p0 := P.1
  have p1 := P.2.1
  have gv := t.2.2.2
  unfold pfld at ok ⊢
  by_cases m1 : F 289 < 24
  rotate_left
  · rw [if_neg m1] at ok; cases ok
  rw [if_pos m1] at ok ⊢
  have h0 : 0 ≤ F 289 := gv.1
  have h1 : F 289 < 32 := by omega
  have m32 : F 288 < 32 := gv.m (n := 0) (Or.inl m1)
  cases okN : (pnum (tkn b n) (tkk (tkn b n j) - 8) (j + 1)).1 with
  | false => simp only [okN] at ok; cases ok
  | true =>
    simp only [okN] at ok ⊢
    obtain ⟨nk, nb⟩ := pnum_ok (n := n) (b := b) (by omega) (by omega) okN
    obtain ⟨nj, B1⟩ := nb S LL n0 rfl (MBz_1 n0 B (by omega))
    generalize pnum (tkn b n) (tkk (tkn b n j) - 8) (j + 1) = PN at *
    generalize tkk (tkn b n j) - 8 = srt at *
    unfold pfldT at ok ⊢
    by_cases c1 : nmOk F (tkn b n PN.2.1) = true
    rotate_left
    · rw [if_neg c1] at ok; cases ok
    rw [if_pos c1] at ok ⊢
    by_cases c2 : tkk (tkn b n (PN.2.1 + 1)) = 7
    rotate_left
    · rw [if_neg c2] at ok; cases ok
    rw [if_pos c2] at ok ⊢
    by_cases c3 : pin (tkn b n (PN.2.1 + 2)) 1 10 = true
    rotate_left
    · rw [if_neg c3] at ok; cases ok
    rw [if_pos c3] at ok ⊢
    have d1 := nmOk_t.mp c1
    have d3 := pin_t.mp c3
    have nv := ((tk_val (b := b) n0 PN.2.1).2.1 (Or.inl d1.1)).1
    have B4 : MBz b n (PN.2.1 + 3) S LL := MBz_1 n0 (MBz_1 n0 (MBz_1 n0 B1 (by omega)) (by omega)) (by show tkk (tkn b n (PN.2.1 + 2)) ≠ 0; omega)
    rw [pend_F]
    obtain ⟨G, eG⟩ : ∃ G, G = fldF F pl ins srt (tkv (tkn b n PN.2.1)) PN.2.2.1 PN.2.2.2 (tkv (tkn b n (PN.2.1 + 2))) := ⟨_, rfl⟩
    rw [← eG] at ok ⊢
    have hG : ∀ x, 0 ≤ x → x ≤ 288 → (x < 64 ∨ 256 ≤ x) → G x = addF F pl (F 289) ins srt (tkv (tkn b n PN.2.1)) x := fun x x0 x1 x2 => by rw [eG]; exact fldF_at (by omega) (by omega) (by omega) (by omega)
    have g9 : G 289 = F 289 + 1 := by rw [eG]; unfold fldF; rw [updI_ne (by omega), updI_ne (by omega), updI_ne (by omega), updI_at rfl]
    have g10 : G 290 = F 290 := by rw [eG]; unfold fldF; rw [updI_ne (by omega), updI_ne (by omega), updI_ne (by omega), updI_ne (by omega), addF_gt h0 h1 p1 m32 (by omega)]
    have tG := (TF_add t G (Or.inl ⟨rfl, m1, g9, g10⟩) gk P nv d1.2 hG).1
    have sG : SGT G := SGT_new sg p0 h0 h1 (fun k k0 k1 => by rw [eG]; exact fldF_at (by omega) (by omega) (by omega) (by omega))
    exact (pif_w n0 n1 wb B4 h0 h1 tG.1 sG (pend_1 ok)).2.2
theorem sgt_grp {ins pl : Int} (n0 : 0 ≤ n) (n1 : n ≤ 1200) (wb : (was : Int) ≤ 10300) (B : MBz b n j S LL) (t : TF F) (gk : grok F ins) (P : PL F ins pl) (sg : SGT F) (k5 : tkk (tkn b n j) = 5) (ok : (pgrp (tkn b n) was pl ins j F S LL).1 = true) : SGT (pgrp (tkn b n) was pl ins j F S LL).2.2.1 := by
  have p0 := P.1
  have p1 := P.2.1
  have gv := t.2.2.2
  have tr := t.1
  unfold pgrp at ok ⊢
  by_cases m1 : F 290 < 8 ∧ (ins < 0 ∨ dpt F 8 ins < 4)
  rotate_left
  · rw [if_neg m1] at ok; cases ok
  rw [if_pos m1] at ok ⊢
  have h00 : 0 ≤ F 290 := gv.2.2.1
  have h0 : 0 ≤ 24 + F 290 := by omega
  have h1 : 24 + F 290 < 32 := by omega
  have m32 : F 288 < 32 := gv.m (n := 0) (Or.inr m1.1)
  by_cases c1 : nmOk F (tkn b n (j + 1)) = true
  rotate_left
  · rw [if_neg c1] at ok; cases ok
  rw [if_pos c1] at ok ⊢
  have d1 := nmOk_t.mp c1
  have B4 : MBz b n (j + 2) S LL := MBz_1 n0 (MBz_1 n0 B (by omega)) (by omega)
  have nv := ((tk_val (b := b) n0 (j + 1)).2.1 (Or.inl d1.1)).1
  have e3 : ends F 3 ins := by
    rcases gk with h | ⟨h2, h3, h4⟩
    · exact Or.inl (by omega)
    · rcases m1.2 with m | m
      · omega
      · exact ends_dpt 8 3 ins (tr.ce ins (by omega) h3) (by omega)
  rw [pend_F]
  obtain ⟨G, eG⟩ : ∃ G, G = grpF F pl ins (tkv (tkn b n (j + 1))) := ⟨_, rfl⟩
  rw [← eG] at ok ⊢
  have g10 : G 290 = F 290 + 1 := by rw [eG]; unfold grpF; rw [updI_at rfl]
  have g9 : G 289 = F 289 := by rw [eG, grpF_at (by omega), addF_gt h0 h1 p1 m32 (by omega)]
  have tG := (TF_add (srt := 3) t G (Or.inr ⟨rfl, m1.1, g10, g9, e3⟩) gk P nv d1.2 (fun x x0 x1 x2 => by rw [eG]; exact grpF_at (by omega))).1
  have sG : SGT G := SGT_new sg p0 h0 h1 (fun k k0 k1 => by rw [eG]; exact grpF_at (by omega))
  exact (pif_w n0 n1 wb B4 h0 h1 tG.1 sG (pend_1 ok)).2.2
/-! the loop -/
def kend : Nat → Int32 → HP → Option HP := fun w5 w6 h7 =>
    gd (isO h7 w5 11) <|
    if (hI h7 718 w5) = 0 then (
      if w6 = 0 then (
        jX11_readNodes_214 true w5 h7
        ) else
      jX11_readNodes_213 w5 h7
      ) else
    jX11_readNodes_213 w5 h7
theorem r214_z (M : MS g) (z : hI g 721 983 = i32 0) (c : Bool) : jX11_readNodes_214 c 983 g = some g := by
  unfold jX11_readNodes_214
  rw [M.o, gd_tt, takes1_z M z, bn_s]
theorem kend_z (M : MS g) (z : hI g 721 983 = i32 0) (v : Int32) : kend 983 v g = some g := by
  have r213 : jX11_readNodes_213 983 g = some g := by unfold jX11_readNodes_213; exact r214_z M z false
  unfold kend
  rw [M.o, gd_tt]
  by_cases c : hI g 718 983 = 0
  · rw [if_pos c]
    by_cases d : v = 0
    · rw [if_pos d, r214_z M z]
    · rw [if_neg d, r213]
  · rw [if_neg c, r213]
theorem mkk_0 {k : Int} : mkk k = 0 ↔ k = 0 := by
  unfold mkk
  by_cases a : k = 0
  · rw [if_pos a]; omega
  rw [if_neg a]
  by_cases c : k = 1
  · rw [if_pos c]; omega
  rw [if_neg c]
  by_cases d : k = 2
  · rw [if_pos d]; omega
  rw [if_neg d]
  by_cases e : k = 3
  · rw [if_pos e]; omega
  rw [if_neg e]
  by_cases f : k ≤ 13
  · rw [if_pos f]; omega
  · rw [if_neg f]; omega
theorem kend_ok {op : Nat} (M : MN g b n j F S LL was) (wb : (was : Int) ≤ 10300) (Bw : S.length ≤ 400 ∧ LL.length ≤ 480) (tr : TR F) (sg : SGT F) (o4 : op < 4000) {pl : Int} (hp : hI g 731 983 = i32 pl) : ∃ g', kend 983 (i32 op) g = some g' ∧ ZoM b n was g (decide (tkk (tkn b n j) = 0 ∧ op = 0), j, F, S, LL) pl g' := by
  have C := M.1.ms
  have mr := mkk_rng (tkk (tkn b n j))
  have e0 : (hI g 718 983 = 0) = (tkk (tkn b n j) = 0) := by
    rw [M.1.kd, i32_z, i32_eq (by omega) (by omega) (by omega) (by omega)]
    exact propext mkk_0
  have e1 : (i32 (op : Int) = 0) = (op = 0) := by
    rw [i32_z, i32_eq (by omega) (by omega) (by omega) (by omega)]
    exact propext (by omega)
  obtain ⟨gf, f1, f2, f3, f4⟩ := takes1_f M.1
  have bd := bad_of M wb Bw tr sg f2 rfl f3 f4
  have r213 : jX11_readNodes_213 983 g = some gf := by unfold jX11_readNodes_213 jX11_readNodes_214; rw [C.o, gd_tt, f1, bn_s]
  have fin : ∀ c : Bool, c = false → ∃ g', some gf = some g' ∧ ZoM b n was g (c, j, F, S, LL) pl g' := fun c hc => by
    subst hc
    exact ⟨gf, rfl, FrM.mo f2 (by decide) (by decide) (by decide), fun z => (by cases z), fun _ => bd⟩
  unfold kend
  rw [C.o, gd_tt]
  by_cases c : tkk (tkn b n j) = 0
  · rw [if_pos (by rw [e0]; exact c)]
    by_cases d : op = 0
    · rw [if_pos (by rw [e1]; exact d)]
      unfold jX11_readNodes_214
      rw [C.o, gd_tt, takes1_t C, bn_s, decide_eq_true ⟨c, d⟩]
      exact ⟨g, rfl, FrM.r, fun _ => ⟨M, hp⟩, fun z => by cases z⟩
    · rw [if_neg (by rw [e1]; exact d), r213]
      exact fin _ (decide_eq_false (fun z => d z.2))
  · rw [if_neg (by rw [e0]; exact c), r213]
    exact fin _ (decide_eq_false (fun z => c z.1))
theorem one0 : ¬ (i32 1 = (0 : Int32)) := by decide
theorem loop_z {m : Nat} {v2 v3 : Int32} (M : MS g) (z : hI g 721 983 = i32 0) : lX11_readNodes_17 kend (m + 1) 983 v2 v3 (i32 1) g = some g := by
  rw [elX11_readNodes_17]; unfold bX11_readNodes_17
  rw [if_neg one0, M.o, gd_tt, z, i32_z, if_pos rfl, kend_z M z]
theorem isFld_s (n0 : 0 ≤ n) (P : MQt g b n j) : fX11_isFieldHere 983 g = some (decide (8 ≤ tkk (tkn b n j) ∧ tkk (tkn b n j) ≤ 10)) := by
  have w4 : fX11_isWord 983 (i64 492210354) g = some (decide (tkk (tkn b n j) = 8)) := isW n0 P 4 (by decide)
  have w5 : fX11_isWord 983 (i64 109552741) g = some (decide (tkk (tkn b n j) = 9)) := isW n0 P 5 (by decide)
  have w6 : fX11_isWord 983 (i64 26398159) g = some (decide (tkk (tkn b n j) = 10)) := isW n0 P 6 (by decide)
  unfold fX11_isFieldHere
  rw [P.ms.o, gd_tt, w4, bn_s, w5, bn_s, w6, bn_s]
  by_cases a : tkk (tkn b n j) = 8
  · rw [if_pos (decide_eq_true a), decide_eq_true (by omega)]
  rw [if_neg (by rw [decide_eq_true_eq]; exact a)]
  by_cases c : tkk (tkn b n j) = 9
  · rw [if_pos (decide_eq_true c), decide_eq_true (by omega)]
  rw [if_neg (by rw [decide_eq_true_eq]; exact c)]
  by_cases d : tkk (tkn b n j) = 10
  · rw [if_pos (decide_eq_true d), decide_eq_true (by omega)]
  rw [if_neg (by rw [decide_eq_true_eq]; exact d), decide_eq_false (by omega)]
theorem mdepth {ins : Int} (M : MN g b n j F S LL was) (tr : TR F) (h0 : 0 ≤ ins) (h1 : ins < 32) (hi : F ins ≠ -1) : fX11_depth 983 (i32 0) (i32 ins) g = some (i32 (dpt F 8 ins - 1)) := by
  have E := M.2.2.2.T tr.ov
  have V := EqT_AV E tr.av
  have ce := tr.ce ins h0 h1
  have e7 : ends F 7 (F ins) := by
    rcases ce with h | h
    · omega
    · exact h
  have v := tr.av ins h0 h1
  rw [depth_s M.1.ms (by omega) (by omega) (by rw [Fm0]; exact V) h0 h1 (by
    rw [Fm0, E.1 ins h0 h1]
    exact EqT_ends E tr.av 9 (F ins) v.2 (ends_mono e7 (by omega))), Fm0, E.1 ins h0 h1, EqT_dpt E tr.av 9 (F ins) v.2]
  have d1 : dpt F 9 (F ins) = dpt F 7 (F ins) := dpt_ends e7 (by omega)
  have d2 : dpt F 8 ins = 1 + dpt F 7 (F ins) := by
    show (if 0 ≤ ins then 1 + dpt F 7 (F ins) else 0) = _
    rw [if_pos h0]
  rw [d1, d2]
  congr 2; omega
variable {old : Int → Bool} {F0 : Int → Int}
theorem mnodesL (n0 : 0 ≤ n) (n1 : n ≤ 1200) (wb : (was : Int) ≤ 10300) : ∀ (k m step op j : Nat) (pl ins : Int) (F : Int → Int) (S : List TS) (LL : List Int) (g : HP), k + step = 1201 → k + 2 ≤ m → step ≤ j → op ≤ step → MN g b n j F S LL was → NI b n was old F0 j F S LL → SGT F → PLs F op ins pl → grok F ins → (∀ i, i < op → 0 ≤ up F i ins) → hI g 731 983 = i32 pl → ∃ g' pl', lX11_readNodes_17 kend m 983 (i32 ins) (i32 op) (i32 1) g = some g' ∧ ZoM b n was g (pnod (tkn b n) was k pl ins op j F S LL) pl' g' := by
  intro k
  induction k with
  | zero =>
    intro m step op j pl ins F S LL g e hm sj ops M N
    have t := tS_n (b := b) n0 j
    have := N.2.2.2.2.1.1
    omega
  | succ k ih =>
    intro m step op j pl ins F S LL g e hm sj ops M N sg PLx gk io hp
    obtain ⟨m, rfl⟩ : ∃ x, m = x + 1 := ⟨m - 1, by omega⟩
    have tr := N.1.1
    have T := tr.tv
    have C := M.1.ms
    have B := N.2.2.2.2.1
    have tv := tk_val (b := b) n0 j
    have kr : 0 ≤ tkk (tkn b n j) ∧ tkk (tkn b n j) < 128 := by omega
    have P0 := PLx 0 (by omega)
    have gv := N.1.2.2.2
    have g10 : 0 ≤ F 290 ∧ F 290 ≤ 8 := ⟨gv.2.2.1, gv.2.2.2.1⟩
    have insr : -2 ≤ ins ∧ ins < 32 := by rcases gk with h | ⟨h2, h3, h4⟩ <;> omega
    have w1 : fX11_isWord 983 (i64 7945904) g = some (decide (tkk (tkn b n j) = 5)) := isW n0 M.1 1 (by decide)
    rw [elX11_readNodes_17]; unfold bX11_readNodes_17
    rw [if_neg one0, C.o, gd_tt, M.1.fn, i32_z, if_neg i32_1n0, isFld_s n0 M.1, bn_s]
    by_cases c8 : 8 ≤ tkk (tkn b n j) ∧ tkk (tkn b n j) ≤ 10
    · rw [if_pos (decide_eq_true c8)]
      obtain ⟨g1, y1, y2⟩ := mfield n0 n1 M wb B N.1 sg gk P0 hp c8.1 c8.2
      have y1' : fX11_readField 983 (i32 ins) g = some g1 := y1
      rw [y1', bn_s]
      cases okP : (pfld (tkn b n) was pl ins j F S LL).1 with
      | false =>
        obtain ⟨m', rfl⟩ : ∃ x, m = x + 1 := ⟨m - 1, by omega⟩
        have bd := y2.2.2 okP
        rw [pn_fld0 c8 okP]
        refine ⟨g1, pl + 1, ?_, y2⟩
        show lX11_readNodes_17 kend (m' + 1) 983 (i32 ins) (i32 op) (i32 1) g1 = some g1
        exact loop_z bd.1 bd.2.1
      | true =>
        obtain ⟨r1, r2, r3, r4⟩ := ni_fld n0 N PLx gk c8.1 c8.2 okP
        obtain ⟨i1, i2⟩ := INS_mv T gk ⟨rfl, io⟩ r4
        obtain ⟨M1, hp1⟩ := y2.2.1 okP
        rw [pn_fld c8 okP]
        obtain ⟨g', pl', x1, x2⟩ := ih m (step + 1) op _ (pl + 1) ins _ _ _ g1 (by omega) (by omega) (by omega) (by omega) M1 r2 (sgt_fld n0 n1 wb B N.1 gk P0 sg c8.1 c8.2 okP) r3 i2 i1.2 hp1
        exact ⟨g', pl', x1, x2.pre y2.1⟩
    rw [if_neg (by rw [decide_eq_true_eq]; exact c8), w1, bn_s]
    by_cases c5 : tkk (tkn b n j) = 5
    · rw [if_pos (decide_eq_true c5), C.r_world, oc_s, C.o_world, gd_tt, C.n_world, i32_inb (by omega) (by omega) (by omega), gd_tt, i32_cn (by omega) (by omega), wcell M (by omega), i64_32, i32_add, lt_e, gd_tt]
      -- one way to go on from here
      have go : ∀ ok : Bool, ok = decide (F 290 < 8 ∧ (ins < 0 ∨ dpt F 8 ins < 4)) → ∃ g' pl', jX11_readNodes_105 (fun v0 v2 v3 v4 h => lX11_readNodes_17 kend m v0 v2 v3 v4 h) 983 (i32 ins) (i32 op) (i32 1) (i32 (24 + F 290)) ok 983 g = some g' ∧ ZoM b n was g (pnod (tkn b n) was (k + 1) pl ins op j F S LL) pl' g' := by
        intro ok hok
        obtain ⟨g1, y2, y3, y4⟩ := mgrp (op := op) n0 n1 M wb B N.1 sg gk P0 hp c5 (fun v0 v2 v3 v4 h => lX11_readNodes_17 kend m v0 v2 v3 v4 h) (i32 1) ok hok
        cases okP : (pgrp (tkn b n) was pl ins j F S LL).1 with
        | false =>
          obtain ⟨m', rfl⟩ : ∃ x, m = x + 1 := ⟨m - 1, by omega⟩
          have bd := y2.2.2 okP
          obtain ⟨v2, v3, ev⟩ := y4 okP
          rw [ev, pn_grp0 c5 okP]
          refine ⟨g1, pl + 1, ?_, y2⟩
          show lX11_readNodes_17 kend (m' + 1) 983 v2 v3 (i32 1) g1 = some g1
          exact loop_z bd.1 bd.2.1
        | true =>
          obtain ⟨r1, r2, r3, r4, r5, r6, r7⟩ := ni_grp n0 N PLx gk c5 okP
          obtain ⟨i1, i2⟩ := INS_mv T gk ⟨rfl, io⟩ r4
          obtain ⟨M1, hp1⟩ := y2.2.1 okP
          rw [y3 okP, pn_grp c5 okP]
          obtain ⟨g', pl', x1, x2⟩ := ih m (step + 1) (op + 1) _ (pl + 1) (24 + F 290) _ _ _ g1 (by omega) (by omega) (by omega) (by omega) M1 r2 (sgt_grp n0 n1 wb B N.1 gk P0 sg c5 okP) r3 (Or.inr ⟨by omega, by omega, by rw [r5]; rcases gk with h | ⟨h2, h3, h4⟩ <;> omega⟩) (fun i hi => by
            cases i with
            | zero => show 0 ≤ 24 + F 290; omega
            | succ i =>
              show 0 ≤ (if 0 ≤ 24 + F 290 then up _ i _ else _)
              rw [if_pos (by omega), r5]
              exact i1.2 i (by omega)) hp1
          exact ⟨g', pl', x1, x2.pre y2.1⟩
      by_cases m0 : F 290 < 8
      rotate_left
      · rw [if_pos (by rw [i64_le (by omega) (by omega) (by omega) (by omega)]; omega)]
        unfold jX11_readNodes_104
        exact go false (by rw [decide_eq_false (fun z => m0 z.1)])
      rw [if_neg (by rw [i64_le (by omega) (by omega) (by omega) (by omega)]; omega)]
      by_cases i0 : ins < 0
      · rw [if_pos (by rw [i32_lt (by omega) (by omega) (by omega) (by omega)]; exact i0)]
        unfold jX11_readNodes_100
        exact go true (by rw [decide_eq_true ⟨m0, Or.inl i0⟩])
      rw [if_neg (by rw [i32_lt (by omega) (by omega) (by omega) (by omega)]; exact i0)]
      have gi := gk.resolve_left (by omega)
      have dr := dpt_rng F 8 ins
      have md := mdepth M tr (by omega) insr.2 gi.2.2
      have md' : fX11_depth 983 (i32 0) (i32 ins) g = some (i32 (dpt F 8 ins - 1)) := md
      rw [md', bn_s, i32_add]
      by_cases m2 : dpt F 8 ins < 4
      · rw [if_neg (by rw [i32_le (by omega) (by omega) (by omega) (by omega)]; omega)]
        unfold jX11_readNodes_100
        exact go true (by rw [decide_eq_true ⟨m0, Or.inr m2⟩])
      · rw [if_pos (by rw [i32_le (by omega) (by omega) (by omega) (by omega)]; omega)]
        unfold jX11_readNodes_104
        exact go false (by rw [decide_eq_false (fun z => m2 (z.2.resolve_left i0))])
    rw [if_neg (by rw [decide_eq_true_eq]; exact c5)]
    -- the reading ends here
    have stop : ¬ (tkk (tkn b n j) = 125 ∧ op ≠ 0) → ∃ g' pl', lX11_readNodes_17 kend m 983 (i32 ins) (i32 op) (i32 0) g = some g' ∧ ZoM b n was g (pnod (tkn b n) was (k + 1) pl ins op j F S LL) pl' g' := by
      intro c9
      obtain ⟨m', rfl⟩ : ∃ x, m = x + 1 := ⟨m - 1, by omega⟩
      obtain ⟨g', x1, x2⟩ := kend_ok (op := op) M wb (MBz_w n0 n1 B) tr sg (by omega) hp
      rw [elX11_readNodes_17]; unfold bX11_readNodes_17
      rw [if_pos (show i32 0 = (0 : Int32) from i32_z.symm), pn_end c8 c5 c9]
      exact ⟨g', pl, x1, x2⟩
    by_cases o0 : op = 0
    · rw [if_pos (by rw [i32_le (by omega) (by omega) (by omega) (by omega)]; omega)]
      unfold jX11_readNodes_191
      exact stop (fun z => z.2 o0)
    rw [if_neg (by rw [i32_le (by omega) (by omega) (by omega) (by omega)]; omega), isHere_s n0 M.1 (by omega) (by omega), bn_s]
    by_cases c9 : tkk (tkn b n j) = 125
    rotate_left
    · rw [if_neg (by rw [decide_eq_true_eq]; exact c9)]
      unfold jX11_readNodes_191
      exact stop (fun z => c9 z.1)
    obtain ⟨o, rfl⟩ : ∃ o, op = o + 1 := ⟨op - 1, by omega⟩
    have h0 := io 0 (by omega)
    change 0 ≤ ins at h0
    have gi := gk.resolve_left (by omega)
    have upS : ∀ i, up F (i + 1) ins = up F i (F ins) := fun i => by
      show (if 0 ≤ ins then up F i (F ins) else ins) = _
      rw [if_pos h0]
    obtain ⟨g1, s1, s2, s3⟩ := M.1.next n0 n1
    have M1 := M.mo s2 (by decide) s3
    have ev : Fm g 0 (0 + ins) = F ins := by rw [Fm0, Int.zero_add, M.2.2.2 ins h0]
    rw [if_pos (decide_eq_true c9), of_s C (by omega) (by omega), ev, bn_s, i32_add, lt_e, s1, bn_s, pn_close ⟨c9, by omega⟩]
    obtain ⟨g', pl', x1, x2⟩ := ih m (step + 1) o (j + 1) pl (F ins) F S LL g1 (by omega) (by omega) (by omega) (by omega) M1 ⟨N.1, N.2.1, N.2.2.1, N.2.2.2.1, MBz_1 n0 B (by omega), N.2.2.2.2.2⟩ sg (fun i hi => by rw [← upS]; exact PLx (i + 1) (by omega)) (by
      rcases T.grp h0 gi.2.1 gi.2.2 with h | h
      · exact Or.inl h
      · exact Or.inr h) (fun i hi => by rw [← upS]; exact io (i + 1) (by omega)) (by rw [s2.I (by decide)]; exact hp)
    refine ⟨g', pl', ?_, x2.pre (FrM.mo s2 (by decide) (by decide) (by decide))⟩
    rw [show ((o + 1 : Nat) : Int) + -1 = (o : Int) by omega]
    exact x1
end
