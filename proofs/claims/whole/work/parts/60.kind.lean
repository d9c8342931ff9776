/-! SETKIND -/
def kk (a b c : Int) : Bool := decide ((a = 0 ∧ 0 ≤ b ∧ b ≤ c ∧ c ≤ 9999) ∨ (a = 1 ∧ b = 0 ∧ 2 ≤ c ∧ c ≤ 9) ∨ (a = 2 ∧ b = 0 ∧ c = 1))
theorem kk_y {a b c : Int} (h : (a = 0 ∧ 0 ≤ b ∧ b ≤ c ∧ c ≤ 9999) ∨ (a = 1 ∧ b = 0 ∧ 2 ≤ c ∧ c ≤ 9) ∨ (a = 2 ∧ b = 0 ∧ c = 1)) : kk a b c = true := decide_eq_true h
theorem kk_n {a b c : Int} (h : ¬ ((a = 0 ∧ 0 ≤ b ∧ b ≤ c ∧ c ≤ 9999) ∨ (a = 1 ∧ b = 0 ∧ 2 ≤ c ∧ c ≤ 9) ∨ (a = 2 ∧ b = 0 ∧ c = 1))) : kk a b c = false := decide_eq_false h
section
variable {h : HP} {k : Nat}
theorem cisKind {a b c : Int} (a1 : -2147483648 ≤ a) (a2 : a < 2147483648) (b1 : -2147483648 ≤ b) (b2 : b < 2147483648) (c1 : -2147483648 ≤ c) (c2 : c < 2147483648) (h : HP) : fX10_isKind (i32 a) (i32 b) (i32 c) h = some (kk a b c) := by
  unfold fX10_isKind
  by_cases x0 : a = 0
  · rw [if_pos (by rw [x0])]
    by_cases y : b < 0
    · rw [if_pos (by rw [i32_z, i32_lt b1 b2 (by omega) (by omega)]; exact y), kk_n (by omega)]
    rw [if_neg (by rw [i32_z, i32_lt b1 b2 (by omega) (by omega)]; exact y)]
    by_cases y2 : c < b
    · rw [if_pos (by rw [i32_lt c1 c2 b1 b2]; exact y2), kk_n (by omega)]
    rw [if_neg (by rw [i32_lt c1 c2 b1 b2]; exact y2)]
    by_cases y3 : 9999 < c
    · rw [if_pos (by rw [i32_lt (by omega) (by omega) c1 c2]; exact y3), kk_n (by omega)]
    rw [if_neg (by rw [i32_lt (by omega) (by omega) c1 c2]; exact y3), kk_y (by omega)]
  rw [if_neg (by rw [i32_eq a1 a2 (by omega) (by omega)]; exact x0)]
  by_cases x1 : a = 1
  · rw [if_pos (by rw [x1])]
    by_cases y : b = 0
    · rw [if_pos (by rw [y, i32_z])]
      by_cases y2 : c < 2
      · rw [if_pos (by rw [i32_lt c1 c2 (by omega) (by omega)]; exact y2), kk_n (by omega)]
      rw [if_neg (by rw [i32_lt c1 c2 (by omega) (by omega)]; exact y2)]
      by_cases y3 : 9 < c
      · rw [if_pos (by rw [i32_lt (by omega) (by omega) c1 c2]; exact y3), kk_n (by omega)]
      rw [if_neg (by rw [i32_lt (by omega) (by omega) c1 c2]; exact y3), kk_y (by omega)]
    · rw [if_neg (by rw [i32_z, i32_eq b1 b2 (by omega) (by omega)]; exact y), kk_n (by omega)]
  rw [if_neg (by rw [i32_eq a1 a2 (by omega) (by omega)]; exact x1)]
  by_cases x2 : a = 2
  · rw [if_pos (by rw [x2])]
    by_cases y : b = 0
    · rw [if_pos (by rw [y, i32_z])]
      by_cases y2 : c = 1
      · rw [if_pos (by rw [y2]), kk_y (by omega)]
      · rw [if_neg (by rw [i32_eq c1 c2 (by omega) (by omega)]; exact y2), kk_n (by omega)]
    · rw [if_neg (by rw [i32_z, i32_eq b1 b2 (by omega) (by omega)]; exact y), kk_n (by omega)]
  rw [if_neg (by rw [i32_eq a1 a2 (by omega) (by omega)]; exact x2), kk_n (by omega)]
theorem mKind {a b c : Int} (a1 : -2147483648 ≤ a) (a2 : a < 2147483648) (b1 : -2147483648 ≤ b) (b2 : b < 2147483648) (c1 : -2147483648 ≤ c) (c2 : c < 2147483648) (p : Int32) (h : HP) : fX11_setKind 983 p (i32 a) (i32 b) (i32 c) h = jX11_setKind_83 983 p (i32 a) (i32 b) (i32 c) (kk a b c) h := by
  unfold fX11_setKind
  by_cases x0 : a = 0
  · rw [if_pos (by rw [x0, i32_z]), in_s b1 b2 (by omega) (by omega) (by omega) (by omega), bn_s]
    by_cases y : 0 ≤ b ∧ b ≤ 9999
    · rw [if_pos (decide_eq_true y), in_s c1 c2 b1 b2 (by omega) (by omega), bn_s]
      by_cases y2 : b ≤ c ∧ c ≤ 9999
      · rw [if_pos (decide_eq_true y2), kk_y (by omega)]
      · rw [if_neg (by rw [decide_eq_true_eq]; exact y2), kk_n (by omega)]; rfl
    · rw [if_neg (by rw [decide_eq_true_eq]; exact y), kk_n (by omega)]; rfl
  rw [if_neg (by rw [i32_z, i32_eq a1 a2 (by omega) (by omega)]; exact x0)]
  by_cases x1 : a = 1
  · rw [if_pos (by rw [x1])]
    by_cases y : b = 0
    · rw [if_pos (by rw [y, i32_z]), in_s c1 c2 (by omega) (by omega) (by omega) (by omega), bn_s]
      by_cases y2 : 2 ≤ c ∧ c ≤ 9
      · rw [if_pos (decide_eq_true y2), kk_y (by omega)]
      · rw [if_neg (by rw [decide_eq_true_eq]; exact y2), kk_n (by omega)]; rfl
    · rw [if_neg (by rw [i32_z, i32_eq b1 b2 (by omega) (by omega)]; exact y), kk_n (by omega)]; rfl
  rw [if_neg (by rw [i32_eq a1 a2 (by omega) (by omega)]; exact x1)]
  by_cases x2 : a = 2
  · rw [if_pos (by rw [x2])]
    by_cases y : b = 0
    · rw [if_pos (by rw [y, i32_z])]
      by_cases y2 : c = 1
      · rw [if_pos (by rw [y2]), kk_y (by omega)]
      · rw [if_neg (by rw [i32_eq c1 c2 (by omega) (by omega)]; exact y2), kk_n (by omega)]; rfl
    · rw [if_neg (by rw [i32_z, i32_eq b1 b2 (by omega) (by omega)]; exact y), kk_n (by omega)]; rfl
  rw [if_neg (by rw [i32_eq a1 a2 (by omega) (by omega)]; exact x2), kk_n (by omega)]; rfl
theorem rd_setKind (R : RR h k) (p q r s : Int32) : ∃ o g g', fX10_setKind 0 p q r s h = some (o, g) ∧ fX11_setKind 983 p q r s g = some (o, g') ∧ RR g' (k + 1) := by
  obtain ⟨n, h1, h2, rfl⟩ := i32_ex p
  obtain ⟨a, a1, a2, rfl⟩ := i32_ex q
  obtain ⟨b, b1, b2, rfl⟩ := i32_ex r
  obtain ⟨c, c1, c2, rfl⟩ := i32_ex s
  obtain ⟨np, sr, hnp⟩ := R.sr
  have C := R.C
  have M := R.M
  have x := sr.x
  have A := C.st.d
  have R' := RR_up R (show k ≤ k + 1 by omega)
  obtain ⟨e, ee⟩ : ∃ e : Int, e = if a = 1 then c - 1 else c := ⟨_, rfl⟩
  have hf : fX0_findField (2 + 1) (i32 n) h = some (if n < 24 then fnx (Wm h) (2 + 1) n else none) := x_findField A x h1 h2
  by_cases cn : 0 ≤ n ∧ n < 24 ∧ Wm h n ≠ -1
  rotate_left
  · have ho : (if n < 24 then fnx (Wm h) (2 + 1) n else none) = none := by
      by_cases z : n < 24
      · rw [if_pos z, fnx_n (fun y => cn ⟨y.1, z, y.2.2⟩)]
      · rw [if_neg z]
    refine ⟨i32 (-1), h, h, ?_, ?_, R'⟩
    · unfold fX10_setKind
      rw [C.o, gd_tt, C.r_state, oc_s, C.o_state, gd_tt, C.st.rD, oc_s, A.o, gd_tt, hf, bn_s, ho, on_nn]
    · rw [mKind a1 a2 b1 b2 c1 c2]; unfold jX11_setKind_83
      rw [M.o, gd_tt, mIsDF M h1 h2, bn_s, decide_eq_false cn, if_neg (by decide)]
  have ho : (if n < 24 then fnx (Wm h) (2 + 1) n else none) = some (2 + 1 + 4 + n.toNat) := by rw [if_pos cn.2.1, fnx_y ⟨cn.1, by omega, cn.2.2⟩]
  cases ck : kk a b c with
  | false =>
    refine ⟨i32 (-1), h, h, ?_, ?_, R'⟩
    · unfold fX10_setKind
      rw [C.o, gd_tt, C.r_state, oc_s, C.o_state, gd_tt, C.st.rD, oc_s, A.o, gd_tt, hf, bn_s, ho, on_sm, cisKind a1 a2 b1 b2 c1 c2, bn_s, ck, if_neg (by decide)]
    · rw [mKind a1 a2 b1 b2 c1 c2]; unfold jX11_setKind_83
      rw [M.o, gd_tt, mIsDF M h1 h2, bn_s, decide_eq_true cn, if_pos rfl, ck, if_neg (by decide)]
  | true =>
  have ck' : (a = 0 ∧ 0 ≤ b ∧ b ≤ c ∧ c ≤ 9999) ∨ (a = 1 ∧ b = 0 ∧ 2 ≤ c ∧ c ≤ 9) ∨ (a = 2 ∧ b = 0 ∧ c = 1) := of_decide_eq_true ck
  have er : (a = 0 ∧ 0 ≤ b ∧ b ≤ e ∧ e ≤ 9999) ∨ (a = 1 ∧ b = 0 ∧ 1 ≤ e ∧ e ≤ 8) ∨ (a = 2 ∧ b = 0 ∧ e = 1) := by
    rw [ee]
    by_cases z : a = 1
    · rw [if_pos z]; omega
    · rw [if_neg z]; omega
  have nd := (x.nd cn.1 (by omega) cn.2.2).2
  have hc : fX10_setKind 0 (i32 n) (i32 a) (i32 b) (i32 c) h = jX10_setKind_44 0 (i32 a) (i32 b) (some (2 + 1 + 4 + n.toNat)) (i32 e) h := by
    unfold fX10_setKind
    rw [C.o, gd_tt, C.r_state, oc_s, C.o_state, gd_tt, C.st.rD, oc_s, A.o, gd_tt, hf, bn_s, ho, on_sm, cisKind a1 a2 b1 b2 c1 c2, bn_s, ck, if_pos rfl]
    by_cases z : a = 1
    · rw [if_pos (by rw [z]), ee, if_pos z, i32_sub]
    · rw [if_neg (by rw [i32_eq a1 a2 (by omega) (by omega)]; exact z), ee, if_neg z]
  have jc : jX10_setKind_44 0 (i32 a) (i32 b) (some (2 + 1 + 4 + n.toNat)) (i32 e) h = if i32 (Wm h (64 + n)) = i32 a ∧ i32 (Wm h (96 + n)) = i32 b ∧ i32 (Wm h (128 + n)) = i32 e then some (i32 (-2), h) else jX10_setKind_77 0 (i32 a) (i32 b) (some (2 + 1 + 4 + n.toNat)) (i32 e) h := by
    unfold jX10_setKind_44
    rw [oc_s, A.on (show n.toNat < 32 by omega), gd_tt, nd.2.2.1, nd.2.2.2.1, nd.2.2.2.2.1]
    by_cases y1 : i32 (Wm h (64 + n)) = i32 a
    · by_cases y2 : i32 (Wm h (96 + n)) = i32 b
      · by_cases y3 : i32 (Wm h (128 + n)) = i32 e
        · rw [if_pos y1, if_pos y2, if_pos y3, if_pos ⟨y1, y2, y3⟩]
        · rw [if_pos y1, if_pos y2, if_neg y3, if_neg (fun z => y3 z.2.2)]
      · rw [if_pos y1, if_neg y2, if_neg (fun z => y2 z.2.1)]
    · rw [if_neg y1, if_neg (fun z => y1 z.1)]
  have hm : ∀ g : HP, MS g → Wm g = Wm h → fX11_setKind 983 (i32 n) (i32 a) (i32 b) (i32 c) g = if i32 (Wm h (64 + n)) = i32 a ∧ i32 (Wm h (96 + n)) = i32 b ∧ i32 (Wm h (128 + n)) = i32 e then some (i32 (-2), g) else jX11_setKind_161 983 (i32 n) (i32 a) (i32 b) (i32 e) (i32 (Wm h (64 + n))) g := fun g Mg eg => by
    have o : ∀ w : Int, 0 ≤ w → w ≤ 128 → fX11_of 983 (i32 0) (i32 w) (i32 n) g = some (i32 (Wm h (w + n))) := fun w w0 w1 => by rw [of_s Mg (by omega) (by omega), Fm0, eg]
    rw [mKind a1 a2 b1 b2 c1 c2]; unfold jX11_setKind_83
    rw [Mg.o, gd_tt, mIsDF Mg h1 h2, eg, bn_s, decide_eq_true cn, if_pos rfl, ck, if_pos rfl]
    have z' : (if i32 a = i32 1 then jX11_setKind_114 983 (i32 n) (i32 a) (i32 b) (i32 c - i32 1) g else jX11_setKind_114 983 (i32 n) (i32 a) (i32 b) (i32 c) g) = jX11_setKind_114 983 (i32 n) (i32 a) (i32 b) (i32 e) g := by
      by_cases z : a = 1
      · rw [if_pos (by rw [z]), ee, if_pos z, i32_sub]
      · rw [if_neg (by rw [i32_eq a1 a2 (by omega) (by omega)]; exact z), ee, if_neg z]
    rw [z']
    unfold jX11_setKind_114
    rw [Mg.o, gd_tt, o 64 (by omega) (by omega), bn_s, o 96 (by omega) (by omega), bn_s, o 128 (by omega) (by omega), bn_s]
    by_cases y1 : i32 (Wm h (64 + n)) = i32 a
    · by_cases y2 : i32 (Wm h (96 + n)) = i32 b
      · by_cases y3 : i32 (Wm h (128 + n)) = i32 e
        · rw [if_pos y1, if_pos y2, if_pos y3, if_pos ⟨y1, y2, y3⟩]
        · rw [if_pos y1, if_pos y2, if_neg y3, if_neg (fun z => y3 z.2.2)]
      · rw [if_pos y1, if_neg y2, if_neg (fun z => y2 z.2.1)]
    · rw [if_neg y1, if_neg (fun z => y1 z.1)]
  by_cases cs : i32 (Wm h (64 + n)) = i32 a ∧ i32 (Wm h (96 + n)) = i32 b ∧ i32 (Wm h (128 + n)) = i32 e
  · refine ⟨i32 (-2), h, h, ?_, ?_, R'⟩
    · rw [hc, jc, if_pos cs]
    · rw [hm h M rfl, if_pos cs]
  obtain ⟨u, pp, U⟩ := R.up
  obtain ⟨g1, x1, c1'⟩ := R.rem U
  have C1 : CS g1 := C.sk c1'.1.1
  obtain ⟨g2, e2⟩ : ∃ g2, g2 = sI (sI (sI g1 130 (2 + 1 + 4 + n.toNat) (i32 a)) 131 (2 + 1 + 4 + n.toNat) (i32 b)) 132 (2 + 1 + 4 + n.toNat) (i32 e) := ⟨_, rfl⟩
  have w2 : So Sst g1 g2 := by
    rw [e2]
    exact ((So_I (Or.inl ⟨by omega, by omega⟩) _ _).t (So_I (Or.inl ⟨by omega, by omega⟩) _ _)).t (So_I (Or.inl ⟨by omega, by omega⟩) _ _)
  have s2 : ∀ x, x ≠ 2 + 1 + 4 + n.toNat → Sm g1 g2 x := fun x hx => by
    rw [e2]; exact ((Sm_I hx _ _).t (Sm_I hx _ _)).t (Sm_I hx _ _)
  have r2 : ∀ f x, hI g2 f x = if f = 132 ∧ x = 2 + 1 + 4 + n.toNat then i32 e else if f = 131 ∧ x = 2 + 1 + 4 + n.toNat then i32 b else if f = 130 ∧ x = 2 + 1 + 4 + n.toNat then i32 a else hI g1 f x := fun f x => by rw [e2, rII, rII, rII]
  have M2 : MS g2 := M.sk (c1'.1.1.trans w2.1)
  have smh : ∀ x, x ≠ 0 → (x < 403 ∨ 983 ≤ x) → Sm h g1 x := fun x a b => c1'.sm a b U.2.1
  have i983 : ∀ f, hI g2 f 983 = hI h f 983 := fun f => by rw [(s2 983 (by omega)).1, (smh 983 (by omega) (by omega)).1]
  obtain ⟨g3, x3, m3⟩ := M2.keep U.1 (by rw [i983]; exact U.2.2.2.2)
  have M3 : MS g3 := M2.sk m3.1.1
  obtain ⟨ga, ea⟩ : ∃ ga, ga = sL g3 987 (64 + n).toNat (i64 a) := ⟨_, rfl⟩
  obtain ⟨gb, eb⟩ : ∃ gb, gb = sL ga 987 (96 + n).toNat (i64 b) := ⟨_, rfl⟩
  obtain ⟨g4, e4⟩ : ∃ g4, g4 = sL gb 987 (128 + n).toNat (i64 e) := ⟨_, rfl⟩
  have va : So (fun x => x = 987) g3 ga := by rw [ea]; exact So_L (S := fun x => x = 987) rfl _ _
  have vb : So (fun x => x = 987) ga gb := by rw [eb]; exact So_L (S := fun x => x = 987) rfl _ _
  have v4 : So (fun x => x = 987) g3 g4 := (va.t vb).t (by rw [e4]; exact So_L (S := fun x => x = 987) rfl _ _)
  have Ma := M3.sk va.1
  have Mb := Ma.sk vb.1
  have l2 : hL g2 987 = hL h 987 := ((funext (s2 987 (by omega)).2.2.2.2.1 : hL g2 987 = hL g1 987)).trans (funext (smh 987 (by omega) (by omega)).2.2.2.2.1)
  have W2 : Wm g2 = Wm h := by funext j; unfold Wm; rw [l2]
  have l3 : hL g3 987 = hL h 987 := (funext (m3.sm (x := 987) (by decide) (by decide)).2.2.2.2.1).trans l2
  obtain ⟨W', eW'⟩ : ∃ W', W' = updI (updI (updI (Wm h) (64 + n) a) (96 + n) b) (128 + n) e := ⟨_, rfl⟩
  have W4 : EW (Wm g4) W' := fun j j0 j1 => by
    rw [eW']
    unfold Wm
    rw [e4, rLL, eb, rLL, ea, rLL]
    by_cases y : j = 128 + n
    · rw [if_pos ⟨rfl, by rw [y]⟩, updI_at y, i64_toInt (by omega) (by omega)]
    rw [if_neg (fun z => y (by have := z.2; omega)), updI_ne y]
    by_cases y : j = 96 + n
    · rw [if_pos ⟨rfl, by rw [y]⟩, updI_at y, i64_toInt (by omega) (by omega)]
    rw [if_neg (fun z => y (by have := z.2; omega)), updI_ne y]
    by_cases y : j = 64 + n
    · rw [if_pos ⟨rfl, by rw [y]⟩, updI_at y, i64_toInt (by omega) (by omega)]
    rw [if_neg (fun z => y (by have := z.2; omega)), updI_ne y, l3]
  have wn : ∀ j, j ≠ 64 + n → j ≠ 96 + n → j ≠ 128 + n → W' j = Wm h j := fun j y1 y2 y3 => by rw [eW', updI_ne y3, updI_ne y2, updI_ne y1]
  have w64 : W' (64 + n) = a := by rw [eW', updI_ne (by omega), updI_ne (by omega), updI_at rfl]
  have w96 : W' (96 + n) = b := by rw [eW', updI_ne (by omega), updI_at rfl]
  have w128 : W' (128 + n) = e := by rw [eW', updI_at rfl]
  have sm4 : ∀ x, x ≠ 983 → x ≠ 989 → x ≠ 987 → Sm g2 g4 x := fun x a b c => (m3.sm a b).t (v4.2.2 x c)
  refine ⟨i32 (Wm h (64 + n)), g2, g4, ?_, ?_, ?_⟩
  · rw [hc, jc, if_neg cs]; unfold jX10_setKind_77
    rw [oc_s, A.on (show n.toNat < 32 by omega), gd_tt, nd.2.2.1, lt_e, C.o, gd_tt, x1, bn_s, C1.st.d.on (show n.toNat < 32 by omega), gd_tt, lt_e, lt_e, lt_e, ← e2]
  · rw [hm g2 M2 W2, if_neg cs]; unfold jX11_setKind_161
    rw [M2.o, gd_tt, x3, bn_s, M3.o, gd_tt, M3.r_world, oc_s, M3.o_world, gd_tt, M3.n_world, i32_add, i32_inb (by omega) (by omega) (by omega), gd_tt, i32_cn (by omega) (by omega), i32_64 a1 a2, ← ea, lt_e, Ma.r_world, oc_s, Ma.o_world, gd_tt, Ma.n_world, i32_add, i32_inb (by omega) (by omega) (by omega), gd_tt, i32_cn (by omega) (by omega), i32_64 b1 b2, ← eb, lt_e, Mb.r_world, oc_s, Mb.o_world, gd_tt, Mb.n_world, i32_add, i32_inb (by omega) (by omega) (by omega), gd_tt, i32_cn (by omega) (by omega), i32_64 (by omega) (by omega), ← e4, lt_e]
  · refine RR_rem R U c1' w2 m3 v4 (fun r hr => FormEq_sm (fun x hx => s2 x (by have := hx.1; omega))) (by rw [W4 2628 (by omega) (by omega), wn 2628 (by omega) (by omega) (by omega)]; exact Int.le_refl _) (fun np' hnp' s => ?_)
    have x' := s.x
    have tr := x'.tr
    have hI4 : ∀ f x, 2 ≤ x → x < 403 → hI g4 f x = if f = 132 ∧ x = 2 + 1 + 4 + n.toNat then i32 e else if f = 131 ∧ x = 2 + 1 + 4 + n.toNat then i32 b else if f = 130 ∧ x = 2 + 1 + 4 + n.toNat then i32 a else hI h f x := fun f x a b => by rw [(sm4 x (by omega) (by omega) (by omega)).1, r2, (smh x (by omega) (by omega)).1]
    have hI5 : ∀ f x, 2 ≤ x → x < 403 → (x ≠ 2 + 1 + 4 + n.toNat ∨ (f ≠ 130 ∧ f ≠ 131 ∧ f ≠ 132)) → hI g4 f x = hI h f x := fun f x a b y => by rw [hI4 f x a b, if_neg (by omega), if_neg (by omega), if_neg (by omega)]
    have hA4 : ∀ x, 2 ≤ x → x < 403 → hA g4 x = hA h x := fun x a b => by
      funext i
      rw [(sm4 x (by omega) (by omega) (by omega)).2.2.2.1, e2, rAI, rAI, rAI, (smh x (by omega) (by omega)).2.2.2.1]
    have hR4 : ∀ f x, 2 ≤ x → x < 403 → hR g4 f x = hR h f x := fun f x a b => by rw [(sm4 x (by omega) (by omega) (by omega)).2.2.1, e2, rRI, rRI, rRI, (smh x (by omega) (by omega)).2.2.1]
    have hJ4 : ∀ f x, 2 ≤ x → x < 403 → hJ g4 f x = hJ h f x := fun f x a b => by rw [(sm4 x (by omega) (by omega) (by omega)).2.1, e2, rJI, rJI, rJI, (smh x (by omega) (by omega)).2.1]
    have a985 : hA g4 985 = hA h 985 := by
      funext i
      rw [(sm4 985 (by omega) (by omega) (by omega)).2.2.2.1, (s2 985 (by omega)).2.2.2.1, (smh 985 (by omega) (by omega)).2.2.2.1]
    have a990 : hA g4 990 = hA h 990 := by
      funext i
      rw [(sm4 990 (by omega) (by omega) (by omega)).2.2.2.1, (s2 990 (by omega)).2.2.2.1, (smh 990 (by omega) (by omega)).2.2.2.1]
    have ts : TS2 h g4 := TS2_So (S := fun x => x < 1008) ((c1'.1.w (fun x z => by rcases z with z | z; omega; have := z.2; have := U.2.1; omega)).t ((w2.w (fun x z => by rcases z with z | z <;> omega)).t ((m3.1.w (fun x z => by rcases z with z | z <;> omega)).t (v4.w (fun x z => by omega))))) (fun x z => z)
    have pl : PlS np' h g4 := fun q _ => by rw [a990]
    refine SR_W (SR_draft s ?_ (hI5 321 2 (by omega) (by omega) (by omega)) (hI5 322 2 (by omega) (by omega) (by omega)) (fun i hi => ⟨hI5 256 _ (by omega) (by omega) (by omega), fun j _ => by rw [hA4 _ (by omega) (by omega)]⟩) (fun r hr => FormEq_sm (fun x hx => (smh x (by have := hx.1; omega) (by have := hx.2; omega)).t ((s2 x (by have := hx.1; omega)).t (sm4 x (by have := hx.2; omega) (by have := hx.2; omega) (by have := hx.2; omega))))) (fun j j0 j1 => wn j (by omega) (by omega) (by omega)) ts pl a985 (Nat.le_refl _)) W4
    rw [Wf_0]
    show FRx g4 (2 + 1) W' np'
    refine FRx_set x' (fun j j0 j1 jn => wn j (by omega) (by omega) (by omega)) ⟨fun m m0 m1 pm => ?_, fun m l m0 m1 l0 l1 pm pl' e => ?_⟩ (fun m m0 m1 pm => ?_) (fun f hf => hI5 f 3 (by omega) (by omega) (by omega)) (fun i hi => by rw [hA4 _ (by omega) (by omega)]) (fun i hi => ⟨hI5 _ _ (by omega) (by omega) (by omega), hI5 _ _ (by omega) (by omega) (by omega), hR4 _ _ (by omega) (by omega), hI5 _ _ (by omega) (by omega) (by omega), hI5 _ _ (by omega) (by omega) (by omega)⟩) (fun m m0 m1 pm => ?_) ts pl a985
    · rw [wn m (by omega) (by omega) (by omega)] at pm
      rw [wn (32 + m) (by omega) (by omega) (by omega)]; exact x'.nm.1 m m0 m1 pm
    · rw [wn m (by omega) (by omega) (by omega)] at pm
      rw [wn l (by omega) (by omega) (by omega)] at pl'
      rw [wn (32 + m) (by omega) (by omega) (by omega), wn (32 + l) (by omega) (by omega) (by omega)] at e
      exact x'.nm.2 m l m0 m1 l0 l1 pm pl' e
    · rw [wn m (by omega) (by omega) (by omega)] at pm
      have kd := x'.kd m m0 m1 pm
      unfold kdOk at kd ⊢
      rw [wn (160 + m) (by omega) (by omega) (by omega)]
      by_cases y : m = n
      · rw [y, w64, w96, w128]
        rw [y] at kd
        refine ⟨fun z => ⟨?_, (kd.1 z).2⟩, fun z => by omega⟩
        omega
      · rw [wn (64 + m) (by omega) (by omega) (by omega), wn (96 + m) (by omega) (by omega) (by omega), wn (128 + m) (by omega) (by omega) (by omega)]
        exact kd
    · have nd := (x'.nd m0 m1 pm).2
      rw [hJ4 _ _ (by omega) (by omega), wn (32 + m) (by omega) (by omega) (by omega), hI5 133 _ (by omega) (by omega) (by omega), wn (160 + m) (by omega) (by omega) (by omega)]
      by_cases y : m = n
      · rw [hI4 130 _ (by omega) (by omega), hI4 131 _ (by omega) (by omega), hI4 132 _ (by omega) (by omega), y, w64, w96, w128]
        rw [y] at nd
        refine ⟨nd.2.1, ?_, ?_, ?_, nd.2.2.2.2.2⟩
        · rw [if_neg (by omega), if_neg (by omega), if_pos ⟨rfl, rfl⟩]
        · rw [if_neg (by omega), if_pos ⟨rfl, rfl⟩]
        · rw [if_pos ⟨rfl, rfl⟩]
      · rw [hI5 130 _ (by omega) (by omega) (by omega), hI5 131 _ (by omega) (by omega) (by omega), hI5 132 _ (by omega) (by omega) (by omega), wn (64 + m) (by omega) (by omega) (by omega), wn (96 + m) (by omega) (by omega) (by omega), wn (128 + m) (by omega) (by omega) (by omega)]
        exact nd.2
end

