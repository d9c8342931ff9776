section
variable {b : Int → Int} {n : Int} {was : Nat} {g g' : HP} {j : Nat} {F : Int → Int} {S : List TS} {LL : List Int}
theorem MN.ov (M : MN g b n j F S LL was) (tr : TR F) : OV (Wm g) := EqT_OV (M.2.2.2.T tr.ov) tr.ov
theorem BdM.ov {er : Int} (z : BdM g er was) : OV (Wm g) := z.2.2.2.2.2.1.ov
theorem m39 {ins pl srt : Int} (n0 : 0 ≤ n) (n1 : n ≤ 1200) (M : MN g b n j F S LL was) (wb : (was : Int) ≤ 10300) (B : MBz b n j S LL) (t : TF F) (sg : SGT F) (gk : grok F ins) (P : PL F ins pl) (hp : hI g 731 983 = i32 pl) (k8 : 8 ≤ tkk (tkn b n j)) (k10 : tkk (tkn b n j) ≤ 10) (es : srt = tkk (tkn b n j) - 8) : ∃ g', jX11_readField_39 983 (i32 ins) (i32 (F 289)) (i32 srt) g = some g' ∧ ZoM b n was g (pfld (tkn b n) was pl ins j F S LL) (pl + 1) g' := by
  obtain ⟨tr, nms, de, gv⟩ := id t
  have g9 : 0 ≤ F 289 ∧ F 289 ≤ 24 := ⟨gv.1, gv.2.1⟩
  have C := M.1.ms
  have Bw := MBz_w n0 n1 B
  have d0 : (i32 srt = 0) = (srt = 0) := by rw [i32_z, i32_eq (by omega) (by omega) (by omega) (by omega)]
  have d1 : (i32 srt = i32 1) = (srt = 1) := by rw [i32_eq (by omega) (by omega) (by omega) (by omega)]
  unfold jX11_readField_39 pfld
  rw [← es]
  by_cases m1 : F 289 < 24
  rotate_left
  · obtain ⟨g1, t1, t2, t3, t4⟩ := takes_f M.1
    have bd := bad_of M wb Bw tr sg t2 rfl t3 t4
    rw [if_pos (by rw [i32_le (by omega) (by omega) (by omega) (by omega)]; omega)]
    unfold jX11_readField_52
    rw [C.o, gd_tt, t1, bn_s, z52 bd.1 t3 bd.ov, if_neg m1]
    exact ⟨g1, rfl, FrM.mo t2 (by decide) (by decide) (by decide), fun z => (by cases z), fun _ => bd⟩
  rw [if_neg (by rw [i32_le (by omega) (by omega) (by omega) (by omega)]; omega)]
  obtain ⟨g1, t1, t2, t3⟩ := takes_t n0 n1 M.1
  have M1 := M.mo t2 (by decide) t3
  have B1 := MBz_1 n0 B (by omega)
  have f1 : FrM was g g1 := FrM.mo t2 (by decide) (by decide) (by decide)
  have hp1 : hI g1 731 983 = i32 pl := by rw [t2.I (by decide)]; exact hp
  unfold jX11_readField_52
  rw [C.o, gd_tt, t1, bn_s]
  rw [show (if F 289 < 24 then _ else _) = _ from if_pos m1]
  rcases (show srt = 0 ∨ srt = 1 ∨ srt = 2 by omega) with q | q | q
  · rw [if_pos (by rw [d0]; exact q), t3.ms.o, gd_tt]
    rcases number_s n0 n1 M1.1 (lo := 0) (hi := 9999) (by omega) (by omega) (by omega) (by omega) with ⟨a1, a2, a3, g2, e1, e2, e3⟩ | ⟨a1, v, g2, e1, e2, e3, e4⟩
    rotate_left
    · have bd := bad_of M1 wb Bw tr sg e2 rfl e3 e4
      have pe : pnum (tkn b n) srt (j + 1) = (false, j + 1, 0, 0) := by unfold pnum; rw [if_pos q, if_neg (fun z => a1 (pin_t.mp z))]
      rw [e1, bn2_s, z71 bd.1 e3 bd.ov, pe]
      exact ⟨g2, rfl, f1.t (FrM.mo e2 (by decide) (by decide) (by decide)), fun z => (by cases z), fun _ => bd⟩
    have M2 := M1.mo e2 (by decide) e3
    have B2 := MBz_1 n0 B1 (by omega)
    have f2 := f1.t (FrM.mo e2 (by decide) (by decide) (by decide))
    rw [e1, bn2_s]
    unfold jX11_readField_71
    rw [if_pos (by rw [d0]; exact q), e3.ms.o, gd_tt]
    rcases number_s n0 n1 M2.1 (lo := tkv (tkn b n (j + 1))) (hi := 9999) (by omega) (by omega) (by omega) (by omega) with ⟨c1, c2, c3, g3, k1, k2, k3⟩ | ⟨c1, v, g3, k1, k2, k3, k4⟩
    rotate_left
    · have bd := bad_of M2 wb Bw tr sg k2 rfl k3 k4
      have pe : pnum (tkn b n) srt (j + 1) = (false, j + 2, 0, 0) := by unfold pnum; rw [if_pos q, if_pos (pin_t.mpr ⟨a1, a2, a3⟩), if_neg (fun z => c1 (pin_t.mp z))]
      rw [k1, bn2_s, z107 bd.1 k3 bd.ov, pe]
      exact ⟨g3, rfl, f2.t (FrM.mo k2 (by decide) (by decide) (by decide)), fun z => (by cases z), fun _ => bd⟩
    have M3 := M2.mo k2 (by decide) k3
    have B3 := MBz_1 n0 B2 (by omega)
    have f3 := f2.t (FrM.mo k2 (by decide) (by decide) (by decide))
    have pe : pnum (tkn b n) srt (j + 1) = (true, j + 3, tkv (tkn b n (j + 1)), tkv (tkn b n (j + 2))) := by unfold pnum; rw [if_pos q, if_pos (pin_t.mpr ⟨a1, a2, a3⟩), if_pos (pin_t.mpr ⟨c1, c2, c3⟩)]
    rw [k1, bn2_s, pe]
    obtain ⟨g', y1, y2⟩ := mfldT (srt := srt) (lo := tkv (tkn b n (j + 1))) (hi := tkv (tkn b n (j + 1 + 1))) n0 n1 M3 wb B3 t sg gk P (by rw [k2.I (by decide), e2.I (by decide)]; exact hp1) m1 (by omega) (by omega) (by omega) (by omega) (by omega) (by omega)
    exact ⟨g', y1, y2.pre f3⟩
  · rw [if_neg (by rw [d0]; omega)]
    unfold jX11_readField_71
    rw [if_neg (by rw [d0]; omega), if_pos (by rw [d1]; exact q), t3.ms.o, gd_tt]
    rcases number_s n0 n1 M1.1 (lo := 2) (hi := 9) (by omega) (by omega) (by omega) (by omega) with ⟨c1, c2, c3, g3, k1, k2, k3⟩ | ⟨c1, v, g3, k1, k2, k3, k4⟩
    rotate_left
    · have bd := bad_of M1 wb Bw tr sg k2 rfl k3 k4
      have pe : pnum (tkn b n) srt (j + 1) = (false, j + 1, 0, 0) := by unfold pnum; rw [if_neg (by omega), if_pos q, if_neg (fun z => c1 (pin_t.mp z))]
      rw [k1, bn2_s, z107 bd.1 k3 bd.ov, pe]
      exact ⟨g3, rfl, f1.t (FrM.mo k2 (by decide) (by decide) (by decide)), fun z => (by cases z), fun _ => bd⟩
    have M3 := M1.mo k2 (by decide) k3
    have B3 := MBz_1 n0 B1 (by omega)
    have f3 := f1.t (FrM.mo k2 (by decide) (by decide) (by decide))
    have pe : pnum (tkn b n) srt (j + 1) = (true, j + 2, 0, tkv (tkn b n (j + 1)) - 1) := by unfold pnum; rw [if_neg (by omega), if_pos q, if_pos (pin_t.mpr ⟨c1, c2, c3⟩)]
    rw [k1, bn2_s, i32_sub, pe]
    obtain ⟨g', y1, y2⟩ := mfldT (srt := srt) (lo := 0) (hi := tkv (tkn b n (j + 1)) - 1) n0 n1 M3 wb B3 t sg gk P (by rw [k2.I (by decide)]; exact hp1) m1 (by omega) (by omega) (by omega) (by omega) (by omega) (by omega)
    exact ⟨g', y1, y2.pre f3⟩
  · rw [if_neg (by rw [d0]; omega)]
    unfold jX11_readField_71
    rw [if_neg (by rw [d0]; omega), if_neg (by rw [d1]; omega)]
    have pe : pnum (tkn b n) srt (j + 1) = (true, j + 1, 0, 1) := by unfold pnum; rw [if_neg (by omega), if_neg (by omega)]
    rw [pe]
    obtain ⟨g', y1, y2⟩ := mfldT (srt := srt) (lo := 0) (hi := 1) n0 n1 M1 wb B1 t sg gk P hp1 m1 (by omega) (by omega) (by omega) (by omega) (by omega) (by omega)
    exact ⟨g', y1, y2.pre f1⟩
/-- a cell of the world as a number -/
theorem wcell {k : Int} (M : MN g b n j F S LL was) (k0 : 0 ≤ k) : hL g 987 k.toNat = i64 (F k) := by rw [Wm_e, M.2.2.2 k k0]
theorem mfield {ins pl : Int} (n0 : 0 ≤ n) (n1 : n ≤ 1200) (M : MN g b n j F S LL was) (wb : (was : Int) ≤ 10300) (B : MBz b n j S LL) (t : TF F) (sg : SGT F) (gk : grok F ins) (P : PL F ins pl) (hp : hI g 731 983 = i32 pl) (k8 : 8 ≤ tkk (tkn b n j)) (k10 : tkk (tkn b n j) ≤ 10) : ∃ g', fX11_readField 983 (i32 ins) g = some g' ∧ ZoM b n was g (pfld (tkn b n) was pl ins j F S LL) (pl + 1) g' := by
  have C := M.1.ms
  have w4 : fX11_isWord 983 (i64 492210354) g = some (decide (tkk (tkn b n j) = 8)) := isW n0 M.1 4 (by decide)
  have w5 : fX11_isWord 983 (i64 109552741) g = some (decide (tkk (tkn b n j) = 9)) := isW n0 M.1 5 (by decide)
  unfold fX11_readField
  rw [C.o, gd_tt, C.r_world, oc_s, C.o_world, gd_tt, C.n_world, i32_inb (by omega) (by omega) (by omega), gd_tt, i32_cn (by omega) (by omega), wcell M (by omega), i64_32, lt_e, w4, bn_s]
  rcases (show tkk (tkn b n j) = 8 ∨ tkk (tkn b n j) = 9 ∨ tkk (tkn b n j) = 10 by omega) with q | q | q
  · rw [if_pos (by rw [decide_eq_true_eq]; exact q)]
    exact m39 n0 n1 M wb B t sg gk P hp k8 k10 (by omega)
  · rw [if_neg (by rw [decide_eq_true_eq]; omega), w5, bn_s, if_pos (by rw [decide_eq_true_eq]; exact q)]
    exact m39 n0 n1 M wb B t sg gk P hp k8 k10 (by omega)
  · rw [if_neg (by rw [decide_eq_true_eq]; omega), w5, bn_s, if_neg (by rw [decide_eq_true_eq]; omega)]
    exact m39 n0 n1 M wb B t sg gk P hp k8 k10 (by omega)
/-- the model reads a group's head: what the loop goes on with -/
theorem mgrp {ins pl : Int} {op : Nat} (n0 : 0 ≤ n) (n1 : n ≤ 1200) (M : MN g b n j F S LL was) (wb : (was : Int) ≤ 10300) (B : MBz b n j S LL) (t : TF F) (sg : SGT F) (gk : grok F ins) (P : PL F ins pl) (hp : hI g 731 983 = i32 pl) (k5 : tkk (tkn b n j) = 5) (K : Nat → Int32 → Int32 → Int32 → HP → Option HP) (v4 : Int32) (ok : Bool) (hok : ok = decide (F 290 < 8 ∧ (ins < 0 ∨ dpt F 8 ins < 4))) :
  ∃ g', ZoM b n was g (pgrp (tkn b n) was pl ins j F S LL) (pl + 1) g' ∧ ((pgrp (tkn b n) was pl ins j F S LL).1 = true → jX11_readNodes_105 K 983 (i32 ins) (i32 op) v4 (i32 (24 + F 290)) ok 983 g = K 983 (i32 (24 + F 290)) (i32 (op + 1)) v4 g') ∧ ((pgrp (tkn b n) was pl ins j F S LL).1 = false → ∃ v2 v3, jX11_readNodes_105 K 983 (i32 ins) (i32 op) v4 (i32 (24 + F 290)) ok 983 g = K 983 v2 v3 v4 g') := by
  obtain ⟨tr, nms, de, gv⟩ := id t
  have h00 : 0 ≤ F 290 ∧ F 290 ≤ 8 := ⟨gv.2.2.1, gv.2.2.2.1⟩
  obtain ⟨p0, p1, -⟩ := id P
  have C := M.1.ms
  have Bw := MBz_w n0 n1 B
  unfold jX11_readNodes_105 jX11_readNodes_157 pgrp
  rw [C.o, gd_tt, hok]
  by_cases m1 : F 290 < 8 ∧ (ins < 0 ∨ dpt F 8 ins < 4)
  rotate_left
  · obtain ⟨g1, t1, t2, t3, t4⟩ := takes_f M.1
    have bd := bad_of M wb Bw tr sg t2 rfl t3 t4
    rw [decide_eq_false m1, t1, bn_s, bd.1.o, gd_tt, begins_z bd.1 t3 bd.ov, bn_s, bd.1.o, gd_tt, t3, i32_z, if_pos rfl, if_neg m1]
    exact ⟨g1, ⟨FrM.mo t2 (by decide) (by decide) (by decide), fun z => (by cases z), fun _ => bd⟩, fun z => (by cases z), fun _ => ⟨_, _, rfl⟩⟩
  obtain ⟨g1, t1, t2, t3⟩ := takes_t n0 n1 M.1
  have M1 := M.mo t2 (by decide) t3
  have B1 := MBz_1 n0 B (by omega)
  have Bw1 := MBz_w n0 n1 B1
  have f1 : FrM was g g1 := FrM.mo t2 (by decide) (by decide) (by decide)
  have hp1 : hI g1 731 983 = i32 pl := by rw [t2.I (by decide)]; exact hp
  have E := M1.2.2.2
  obtain ⟨node, en⟩ : ∃ node, node = 24 + F 290 := ⟨_, rfl⟩
  have h0 : 0 ≤ node := by omega
  have h1 : node < 32 := by omega
  have m32 : F 288 < 32 := gv.m (n := 0) (Or.inr m1.1)
  have nab : F node = -1 := by
    by_cases z : F node = -1
    · exact z
    · have := gv.2.2.2.2.2 _ h0 h1 z; omega
  have insr : -2 ≤ ins ∧ ins < 32 := by rcases gk with h | ⟨h2, h3, h4⟩ <;> omega
  have e3 : ends F 3 ins := by
    rcases gk with h | ⟨h2, h3, h4⟩
    · exact Or.inl (by omega)
    · rcases m1.2 with m | m
      · omega
      · exact ends_dpt 8 3 ins (tr.ce ins (by omega) h3) (by omega)
  rw [decide_eq_true m1, t1, bn_s, t3.ms.o, gd_tt, if_pos m1, ← en]
  rcases begins_s n0 n1 M1.1 (M1.ov tr) (node := node) (grp := ins) (srt := 3) hp1 p0 (by rw [E 288 (by omega)]; exact p1) (by rw [E 288 (by omega)]; exact m32) h0 h1 insr.1 insr.2 (by omega) (by omega) with ⟨a1, a2, gb, b1, b2, b3, b4, b5⟩ | ⟨a1, gb, b1, b2, b3, b4⟩
  rotate_left
  · have bd := bad_of M1 wb Bw1 tr sg b2 rfl b3 b4
    rw [b1, bn_s, bd.1.o, gd_tt, b3, i32_z, if_pos rfl, if_neg (fun z => a1 (by rw [E.nm tr.ov]; exact nmOk_t.mp z))]
    exact ⟨gb, ⟨f1.t (FrM.mo b2 (by decide) (by decide) (by decide)), fun z => (by cases z), fun _ => bd⟩, fun z => (by cases z), fun _ => ⟨_, _, rfl⟩⟩
  have a2' : fnm F (tkv (tkn b n (j + 1))) < 0 := by rw [← E.nm tr.ov]; exact a2
  have Cb := b3.ms
  have nv := ((tk_val (b := b) n0 (j + 1)).2.1 (Or.inl a1)).1
  have Eb : Enn (Wm gb) (addF F pl node ins 3 (tkv (tkn b n (j + 1)))) := fun k k0 => (b5 k k0).trans (E.add p0 k k0)
  have e290 : Wm gb 290 = F 290 := by rw [Eb 290 (by omega), addF_gt h0 h1 p1 m32 (by omega)]
  rw [b1, bn_s, Cb.o, gd_tt, b3.fn, i32_z, if_neg i32_1n0, if_pos (nmOk_t.mpr ⟨a1, a2'⟩), ww_r0 Cb (by omega) (by omega), e290]
  obtain ⟨g4, e4⟩ : ∃ g4, g4 = wW gb (updI (Wm gb) 290 (F 290 + 1)) := ⟨_, rfl⟩
  obtain ⟨F4, eF⟩ : ∃ F4, F4 = grpF F pl ins (tkv (tkn b n (j + 1))) := ⟨_, rfl⟩
  rw [← e4, ← eF]
  have F4at : ∀ x, x ≠ 290 → F4 x = addF F pl node ins 3 (tkv (tkn b n (j + 1))) x := fun x hx => by rw [eF, grpF_at hx, en]
  have E4 : Enn (Wm g4) F4 := by
    intro k k0
    rw [e4, wW_all (R64_upd (R64_Wm gb) (by omega)) k0, eF]
    unfold grpF
    rw [← en]
    exact (Eb.upd _ _) k k0
  have q4 : Mo [987] gb g4 := by rw [e4]; exact wW_mo _
  have M4 : MN g4 b n (j + 2) F4 S LL was := ⟨b3.mo q4 (by decide), (M1.2.1.mo b2 (by decide)).mo q4 (by decide), (M1.2.2.1.mo b2 (by decide)).mo q4 (by decide), E4⟩
  have hp4 : hI g4 731 983 = i32 (pl + 1) := by rw [e4, wW_I]; exact b4
  have fr4 : FrM was g g4 := by
    refine f1.t ⟨(b2.w (by decide)).t (q4.w (by decide)), fun i _ => by rw [q4.A (by decide), b2.A (by decide)], fun k hk => ?_⟩
    rw [E4 k (by omega), F4at k (by omega), addF_gt h0 h1 p1 m32 (by omega), E k (by omega)]
  have g10 : F4 290 = F 290 + 1 := by rw [eF]; unfold grpF; rw [updI_at rfl]
  obtain ⟨tTF, -⟩ := TF_add (srt := 3) (nm := tkv (tkn b n (j + 1))) t F4 (node := node) (ins := ins) (p := pl) (Or.inr ⟨en, m1.1, g10, by rw [F4at _ (by omega), addF_gt h0 h1 p1 m32 (by omega)], e3⟩) gk P nv a2' (fun k k0 k1 k2 => F4at k (by omega))
  have tr4 := tTF.1
  have sg4 : SGT F4 := by
    intro m a c d
    rw [F4at m (by omega), addF_n p0 h0 h1 c] at d
    unfold SG
    rw [F4at _ (by omega), F4at _ (by omega), addF_lo p0 h0 h1 (by omega), addF_lo p0 h0 h1 (by omega)]
    by_cases q : m = node
    · rw [if_neg (by omega), if_neg (by omega), if_neg (by omega), if_pos (by omega), if_neg (by omega), if_neg (by omega), if_neg (by omega), if_pos (by omega)]
      omega
    · rw [if_neg q] at d
      rw [if_neg (by omega), if_neg (by omega), if_neg (by omega), if_neg (by omega), if_neg (by omega), if_neg (by omega), if_neg (by omega), if_neg (by omega)]
      exact sg m a c d
  have B2 : MBz b n (j + 2) S LL := MBz_1 n0 B1 (by show tK b n (j + 1) ≠ 0; omega)
  obtain ⟨g8, y1, y2⟩ := mif n0 n1 M4 wb B2 h0 h1 tr4 sg4 hp4
  obtain ⟨o8, c8, y3, g9, y4, y5⟩ := mpend n0 n1 (k := 123) (by omega) (by omega) wb y2 (fun ok => pif_w n0 n1 wb B2 h0 h1 tr4 sg4 ok)
  rw [y1, bn_s, o8, gd_tt, y3, bn_s, y4, bn_s, i32_add, lt_e]
  exact ⟨g9, y5.pre fr4, fun _ => rfl, fun _ => ⟨_, _, rfl⟩⟩
end
