section
variable {h g : HP} {b : Int → Int} {np T k : Nat}
/-- the class sets a condition, up to its end -/
theorem csetc {n : Int} (r : RC h np) (h641 : hI h 641 0 = i32 T) (T1 : T ≤ 1200) (tb : TB h 1 b T) (n0' : 0 ≤ n) (n1' : n < 32) (npr : Wm h n ≠ -1) : ∃ ok g3, fX10_setCondition 0 (i32 n) h = jX10_setCondition_87 0 (some (63 + 4 + n.toNat)) ok g3 ∧ (Kq h g3 ∧ TS2 h g3 ∧ hsz g3 ≤ hsz h + T ∧ hsl g3 ≤ hsl h + 6 * T) ∧ (∀ f, f < 3 → hI g3 f 63 = hI h f 3) ∧ (pset (tkn b T) np n (setc (Wm h) n 0 0)).2.1 ≤ T ∧ (∀ e, perr (tkn b T) (R0 (sgm (Pt h) (Wm h)) (oldC (Wm h) n)) (pset (tkn b T) np n (setc (Wm h) n 0 0)) = some e → ok = false ∧ hI g3 192 62 = i32 e) ∧ (perr (tkn b T) (R0 (sgm (Pt h) (Wm h)) (oldC (Wm h) n)) (pset (tkn b T) np n (setc (Wm h) n 0 0)) = none → ok = true ∧ hI g3 192 62 = i32 (-2) ∧ FRc g3 63 (pset (tkn b T) np n (setc (Wm h) n 0 0)).2.2.1 (Cnw (pset (tkn b T) np n (setc (Wm h) n 0 0)).2.2.1 (pset (tkn b T) np n (setc (Wm h) n 0 0)).2.2.2.1 (pset (tkn b T) np n (setc (Wm h) n 0 0)).2.2.2.2 np (sgm (Pt h) (Wm h)) (oldC (Wm h) n))) ∧ ((pset (tkn b T) np n (setc (Wm h) n 0 0)).1 = true → NJ T np (oldC (Wm h) n) (setc (Wm h) n 0 0) (pset (tkn b T) np n (setc (Wm h) n 0 0)).2.2.1 (pset (tkn b T) np n (setc (Wm h) n 0 0)).2.2.2.1 (pset (tkn b T) np n (setc (Wm h) n 0 0)).2.2.2.2 ∧ SGJ (pset (tkn b T) np n (setc (Wm h) n 0 0)).2.2.1 np (pset (tkn b T) np n (setc (Wm h) n 0 0)).2.2.2.2 ∧ (∀ x, (x < 192 ∨ 256 ≤ x) → (pset (tkn b T) np n (setc (Wm h) n 0 0)).2.2.1 x = Wm h x) ∧ (pset (tkn b T) np n (setc (Wm h) n 0 0)).2.2.2.2.length ≤ (pset (tkn b T) np n (setc (Wm h) n 0 0)).2.1) := by
  obtain ⟨C, M, K, n24, sz, d8, s, past⟩ := r
  have x := s.x
  have A : FormAt h (2 + 1) := C.st.d
  obtain ⟨F, eF⟩ : ∃ F, F = Wm h := ⟨_, rfl⟩
  rw [← eF] at x npr ⊢
  have t := x.2.1.1
  have n0 : (0 : Int) ≤ (T : Int) := by omega
  have n1 : (T : Int) ≤ 1200 := by omega
  obtain ⟨g1, c1, q1, f1⟩ := copyForm C.sf A (Or.inr (by omega)) (fun i hi => x.fb.isB i hi)
  have k1 : Kq h g1 := Kq_So q1
  have C1 : CS g1 := C.sk q1.1
  have s1 : ∀ y, (y < 63 ∨ 99 ≤ y) → Sm h g1 y := fun y hy => q1.2.2 y (fun z => by have := z.1; have := z.2; omega)
  have z1 : hsz g1 = hsz h := by unfold hsz; rw [q1.2.1]
  have l1 : hsl g1 = hsl h := by unfold hsl; rw [q1.2.1]
  have ts1 : TS2 h g1 := TS2_So (q1.w (T := fun y => y < 1008) (fun y z => by have := z.2; omega)) (fun y z => z)
  have a990 : hA g1 990 = hA h 990 := funext (s1 990 (by omega)).2.2.2.1
  have x1 : FRx g1 63 F np := FRx_eq x f1 ts1 (fun q _ => by rw [a990]) (funext (s1 985 (by omega)).2.2.2.1) (Nat.le_refl _)
  have eP : Pt g1 = Pt h := by funext q; unfold Pt; rw [a990]
  obtain ⟨g2, c, c2, q2, P2, te, cn⟩ := cstart (b := b) (n := T) C1 (fun i hi => by rw [(s1 104 (by omega)).2.2.2.2.1]; exact K i hi) (by omega) (TB_e tb (funext (s1 1 (by omega)).2.2.2.1)) n0 n1 (fun _ => 0)
  have C2 : CS g2 := P2.1.cs
  have z2 : hsz g2 = hsz g1 := by have := q2.2.1; have := q2.sk.1; omega
  have fb2 : FRb g2 63 F := FRb_co x1.1.1 C1.sf q2 okF_LSt
  obtain ⟨g3, e3, q3, r3, r4⟩ := creadC (was := np) (z0 := hsz h) (C0 := sgm (Pt h) F) (node := n) n0 n1 P2 te fb2 t n0' n1' npr (fun m m0 m1 mp _ => by
    have := x1.cd m0 m1 mp
    rw [eP, z1] at this
    have hb := isO_lt (C1.sf.on (show m.toNat < 32 by omega))
    exact CND_co this (by omega) (Nat.le_refl _) q2 (okS_T LSt_S) (okS_N LSt_S) hb (okF_LSt.2.2 m.toNat (by omega)) (lfM_co q2 (okS_T LSt_S))) (by omega)
  obtain ⟨Fb, eFb⟩ : ∃ Fb, Fb = setc F n 0 0 := ⟨_, rfl⟩
  have lo : ∀ y, (y < 192 ∨ 256 ≤ y) → Fb y = F y := fun y hy => by rw [eFb]; exact setc_lo n0' n1' hy
  have zb : Fb (192 + n) = 0 ∧ Fb (224 + n) = 0 := by rw [eFb]; exact setc_Z n0' n1'
  have ot : ∀ m, m ≠ n → 0 ≤ m → m < 32 → Fb (192 + m) = F (192 + m) ∧ Fb (224 + m) = F (224 + m) := fun m q m0 m1 => by rw [eFb]; exact setc_oth q m0 m1 n0' n1'
  obtain ⟨tf, kf⟩ := setc_TF (fr := 0) (sz := 0) n0' n1' t x.kd
  rw [← eFb] at tf kf e3 q3 r3 r4 ⊢
  have sj : ∀ m, 0 ≤ m → m < 32 → Fb m ≠ -1 → 0 ≤ Fb (192 + m) ∧ 0 ≤ Fb (224 + m) ∧ Fb (192 + m) + Fb (224 + m) ≤ np := fun m m0 m1 mp => by
    rw [lo m (by omega)] at mp
    by_cases q : m = n
    · rw [q, zb.1, zb.2]; omega
    · rw [(ot m q m0 m1).1, (ot m q m0 m1).2]; exact x.sg m m0 m1 mp
  have oe : oldC Fb n = oldC F n := by
    funext m; unfold oldC
    rw [decide_eq_decide]
    constructor
    · rintro ⟨⟨a, c, d⟩, e⟩; exact ⟨⟨a, c, by rw [← lo m (by omega)]; exact d⟩, e⟩
    · rintro ⟨⟨a, c, d⟩, e⟩; exact ⟨⟨a, c, by rw [lo m (by omega)]; exact d⟩, e⟩
  have zN := fun ok => pset_inv (b := b) (F := Fb) (was := np) n0 n1 n0' n1' tf kf (by rw [lo n (by omega)]; exact npr) zb.1 zb.2 sj ok
  have zl : (pset (tkn b (T : Int)) np n Fb).2.1 ≤ c := pset_le te
  obtain ⟨Z, eZ⟩ : ∃ Z, Z = pset (tkn b (T : Int)) np n Fb := ⟨_, rfl⟩
  rw [← eZ] at e3 q3 r3 r4 zN zl ⊢
  rw [oe] at zN
  have C3 := C2.sk q3.sk
  obtain ⟨ok, g4, e4, q4, w1, w2⟩ := cflow (J := jX10_setCondition_87 0 (some (63 + 4 + n.toNat))) (n := T) C3 r3 r4 (fun ok => (zN ok).1)
  have ts3 : TS2 h g3 := (ts1.t (TS2_co q2 (okS_T LSt_S))).t (TS2_co q3 (okS_T LF_S))
  have k3 : Kq h g3 := (k1.t (Kq_co q2 LSt_S (by omega))).t (Kq_co q3 LF_S (by omega))
  refine ⟨ok, g4, ?_, ⟨k3.t (Kq_SI q4 d8), TS2_SI' ts3 q4 (Nat.le_refl _) d8, ?_, ?_⟩, fun f f3 => ?_, by omega, w1, w2, fun o => ?_⟩
  · unfold fX10_setCondition
    have i641 : hI g1 641 0 = i32 T := by rw [(s1 0 (by omega)).1]; exact h641
    rw [C.o, gd_tt, C.r_state, oc_s, C.o_state, gd_tt, C.st.rD, oc_s, A.o, gd_tt, x_find A x (by omega) (by omega), fnx_y ⟨n0', n1', npr⟩, bn_s, on_sm, C.r_scratch, oc_s, C.o_scratch, gd_tt, c1, bn_s, C1.o, gd_tt, C1.r_scratch, oc_s, C1.o_scratch, gd_tt, x_find C1.sf x1 (by omega) (by omega), fnx_y ⟨n0', n1', npr⟩, bn_s, on_sm, C1.r_parser, oc_s, C1.o_parser, gd_tt, C1.r_tape, i641, c2, bn_s, C2.o, gd_tt, C2.r_parser, oc_s, C2.o_parser, gd_tt, e3, bn2_s]
    exact e4
  · rw [q4.sz]
    have := q3.2.1
    omega
  · have e : hsl g4 = hsl g3 := by unfold hsl; rw [q4.1]
    have l2 := q2.2.2.1
    have l3 := q3.2.2.1
    rw [e]; omega
  · have nf : LF.contains f = false := by rcases (show f = 0 ∨ f = 1 ∨ f = 2 by omega) with e | e | e <;> rw [e] <;> decide
    have ns : LSt.contains f = false := by rcases (show f = 0 ∨ f = 1 ∨ f = 2 by omega) with e | e | e <;> rw [e] <;> decide
    rw [q4.I (fun w => by rcases w with w | w | w <;> omega), q3.I3 (by omega) nf f3, q2.I3 (by omega) ns f3, f1.1 f (by omega)]
  · obtain ⟨v1, v2, v3, v4, _⟩ := zN o
    exact ⟨v1, v2, fun y hy => by rw [v3 y hy, lo y hy], v4⟩
theorem rd_setCondition (R : RR h k) (hk : k ≤ 512) (q : Int32) : ∃ o g g', fX10_setCondition 0 q h = some (o, g) ∧ fX11_setCondition 983 q g = some (o, g') ∧ RR g' (k + 1) := by
  obtain ⟨n, p1, p2, rfl⟩ := i32_ex q
  obtain ⟨np, T, rc, h714, ⟨b, t1, t2, t3, t4, t5⟩, b1, b2, b3⟩ := R.rc
  have C := rc.1
  have M := rc.2.1
  have sr := rc.2.2.2.2.2.2.1
  have x := sr.x
  have A := C.st.d
  have R' := RR_up R (show k ≤ k + 1 by omega)
  by_cases vn : 0 ≤ n ∧ n < 32 ∧ Wm h n ≠ -1
  rotate_left
  · refine ⟨i32 (-1), h, h, ?_, ?_, R'⟩
    · unfold fX10_setCondition
      rw [C.o, gd_tt, C.r_state, oc_s, C.o_state, gd_tt, C.st.rD, oc_s, A.o, gd_tt, x_find A x p1 p2, fnx_n vn, bn_s, on_nn]
    · unfold fX11_setCondition
      rw [M.o, gd_tt, mIsNode M p1 p2, bn_s, decide_eq_false vn, if_neg (by decide)]
  obtain ⟨v0, v1, npr⟩ := vn
  obtain ⟨ok, g3, e3, ⟨k3, ts3, z3, z3'⟩, f3, zT, w1, w2, zN⟩ := csetc rc t1 t3 t4 v0 v1 npr
  obtain ⟨g4, e4⟩ : ∃ g4, g4 = sI (sI g3 641 0 (i32 0)) 642 0 (hI g3 192 62) := ⟨_, rfl⟩
  have C3 := C.sk k3.1
  have k4 : Kq h g4 := by rw [e4]; exact (k3.t (Kq_I (Or.inl rfl) _)).t (Kq_I (Or.inr rfl) _)
  have so4 : So (fun y => y = 0) g3 g4 := by rw [e4]; exact (So_I (S := fun y => y = 0) rfl _ _).t (So_I (S := fun y => y = 0) rfl _ _)
  have ts4 : TS2 h g4 := ts3.t (TS2_So so4 (fun y z => by omega))
  have C4 := C.sk k4.1
  have zz4 : hsz g4 = hsz g3 := by unfold hsz; rw [so4.2.1]
  have zl4 : hsl g4 = hsl g3 := by unfold hsl; rw [so4.2.1]
  have i641 : hI g4 641 0 = i32 0 := by rw [e4, rII, if_neg (by omega), rII, if_pos ⟨rfl, rfl⟩]
  have i642 : hI g4 642 0 = hI g3 192 62 := by rw [e4, rII, if_pos ⟨rfl, rfl⟩]
  have end4 : fX10_endText 0 g3 = some g4 := by
    have C3' : CS (sI g3 641 0 (i32 0)) := C3.sk (sk_sI rfl)
    unfold fX10_endText
    rw [C3.o, gd_tt, lt_e, C3'.r_parser, oc_s, C3'.o_parser, gd_tt, rII, if_neg (by omega), ← e4, lt_e]
  have r4 := RC_k rc k4 ts4
  have M4 := r4.2.1
  have eW4 : Wm g4 = Wm h := by funext j; unfold Wm; rw [(k4.2.2.2.2.2.1 987 (by omega) (by omega)).2]
  have eP4 : Pt g4 = Pt h := by funext j; unfold Pt; rw [(k4.2.2.2.2.2.1 990 (by omega) (by omega)).1]
  have mi : ∀ g : HP, MS g → Wm g = Wm h → Pt g = Pt h → hI g 705 983 = hI h 705 983 → hI g 714 983 = hI h 714 983 → hA g 984 = hA h 984 → N24 g → _ := fun g Mg eW eP c705 c714 c984 n24 => msetc (g := g) (node := n) (b := b) (T := T) (np := np) Mg (by rw [c705]; exact t2) (by rw [c714]; exact h714) (TB_e t5 c984) t3 n24 (by omega) (by rw [eW, eP]; exact x.2.1) v0 v1 (by rw [eW]; exact npr)
  obtain ⟨Z, eZ⟩ : ∃ Z, Z = pset (tkn b (T : Int)) np n (setc (Wm h) n 0 0) := ⟨_, rfl⟩
  rw [← eZ] at w1 w2 zT zN
  have i705 : hI g4 705 983 = hI h 705 983 := k4.2.2.2.2.2.2 705 (by omega) (by omega)
  have i714 : hI g4 714 983 = hI h 714 983 := k4.2.2.2.2.2.2 714 (by omega) (by omega)
  cases pe : perr (tkn b (T : Int)) (R0 (sgm (Pt h) (Wm h)) (oldC (Wm h) n)) Z with
  | some e =>
    obtain ⟨rfl, x2⟩ := w1 e pe
    obtain ⟨g5, y1, y2, y3, y4, y5, y6, y7, y8, _⟩ := mi g4 M4 eW4 eP4 i705 i714 (k4.2.2.2.2.2.1 984 (by omega) (by omega)).1 r4.2.2.2.1
    rw [eW4, eP4, ← eZ] at y8
    obtain ⟨u1, u2⟩ := y8 e pe
    obtain ⟨g6, a1, a2, a3, a4⟩ := txt_fail rc k4 ts4 (by omega) (by omega) i641 (i642.trans x2) y2 y3 y4 y5 y6 y7 u2 b1 b2 b3
    refine ⟨i32 (-1), g4, _, ?_, ?_, a4⟩
    · rw [e3]
      unfold jX10_setCondition_87
      rw [C3.o, gd_tt, end4, bn_s, if_neg (by decide)]
    · rw [y1, if_pos (by rw [u1, i32_z]), a1, bn_s, a2.o, gd_tt, lt_e]
  | none =>
    obtain ⟨rfl, x2, fc⟩ := w2 pe
    have okZ : Z.1 = true := by
      have pe' := pe
      unfold perr at pe'
      cases y : Z.1 with
      | true => rfl
      | false => rw [y, if_neg (by decide)] at pe'; cases pe'
    have prs : pres Z.2.2.1 Z.2.2.2.1 (R0 (sgm (Pt h) (Wm h)) (oldC (Wm h) n)) = none := by
      have pe' := pe
      unfold perr at pe'
      rw [if_pos okZ] at pe'
      exact pe'
    obtain ⟨N, sj, lo, LB⟩ := zN okZ
    have fb := fc.1
    obtain ⟨u, pp, U⟩ := r4.up
    obtain ⟨g1, c1, c2⟩ := r4.rem U
    have C1 := C4.sk c2.1.1
    have sm1 : ∀ x, x ≠ 0 → (x < 403 ∨ 983 ≤ x) → Sm g4 g1 x := fun x a b => c2.sm a b U.2.1
    have bb : ∀ i : Nat, i < 32 → isB (hI g1 128 (63 + 4 + i)) = true := fun i hi => by
      rw [(sm1 _ (by omega) (by omega)).1, (so4.2.2 _ (by omega)).1]; exact fb.isB i hi
    obtain ⟨g2, d1, d2, d3'⟩ := copyForm C1.st.d C1.sf (Or.inl (by omega)) bb
    have C2 := C1.sk d2.1
    have sm2 : ∀ x, (x < 3 ∨ 39 ≤ x) → Sm g1 g2 x := fun x a => d2.2.2 x (fun z => by have := z.1; have := z.2; omega)
    have smM : ∀ x, 983 ≤ x → Sm g4 g2 x := fun x a => (sm1 x (by omega) (Or.inr a)).t (sm2 x (by omega))
    have M2 : MS g2 := M4.sk (c2.1.1.trans d2.1)
    have eW2 : Wm g2 = Wm h := by rw [← eW4]; funext j; unfold Wm; rw [(smM 987 (by omega)).2.2.2.2.1]
    have eP2 : Pt g2 = Pt h := by rw [← eP4]; funext j; unfold Pt; rw [(smM 990 (by omega)).2.2.2.1]
    obtain ⟨g5, y1, y2, y3, y4, y5, y6, y7, _, y9⟩ := mi g2 M2 eW2 eP2 (((smM 983 (by omega)).1 705).trans i705) (((smM 983 (by omega)).1 714).trans i714) ((funext (smM 984 (by omega)).2.2.2.1).trans (k4.2.2.2.2.2.1 984 (by omega) (by omega)).1) (r4.2.2.2.1.e (funext (smM 991 (by omega)).2.2.2.1) (funext (smM 999 (by omega)).2.2.2.1))
    rw [eW2, eP2, ← eZ] at y9
    obtain ⟨u1, u2, u3, u4, u5⟩ := y9 pe
    have fw : FWf Z.2.2.1 (Cnw Z.2.2.1 Z.2.2.2.1 Z.2.2.2.2 np (sgm (Pt h) (Wm h)) (oldC (Wm h) n)) (np + Z.2.2.2.2.length) := fwf_new N x.2.1 (fun m m0 m1 mp => lo m (by omega)) (fun m hm => (oldC_t.mp hm).1) prs sj (fun m hm => by
      obtain ⟨⟨m0, m1, mp⟩, mn⟩ := oldC_t.mp hm
      have := N.2.2.2.2.2.2 m hm 7 (by omega)
      rw [show (32 * ((7 : Nat) : Int) + m) = 224 + m by omega] at this
      rw [this]
      exact (setc_oth mn m0 m1 v0 v1).2)
    have fc4 : FRc g4 63 Z.2.2.1 (Cnw Z.2.2.1 Z.2.2.2.1 Z.2.2.2.2 np (sgm (Pt h) (Wm h)) (oldC (Wm h) n)) := FRc_eq fc N.1.1 (FormEq_sm (fun y hy => so4.2.2 y (by have := hy.1; omega))) (TS2_So so4 (fun y z => by omega)) (fun _ _ _ _ => rfl)
    obtain ⟨ga, gb, g', l1, l2, l3, l4, l5, l6, l7, l8, l9⟩ := txt_ok rc k4 ts4 (by omega) (by omega) i641 (i642.trans x2) U c2 d2 d3' y2 y3 y4 y5 y6 y7 u2 u4 u3 u5 fc4 fw (fun f hf => by
      rw [(so4.2.2 63 (by omega)).1, f3 f hf]
      rcases (show f = 0 ∨ f = 1 ∨ f = 2 by omega) with e | e | e <;> rw [e]
      · exact x.2.2.1
      · exact x.2.2.2.1
      · exact x.2.2.2.2) (by omega) (by omega) b2 b3
    have nZ : Z.2.2.1 n ≠ -1 := by rw [lo n (by omega)]; exact npr
    have t136 : hI g2 136 (63 + 4 + n.toNat) = i32 (tcL (Cnw Z.2.2.1 Z.2.2.2.1 Z.2.2.2.2 np (sgm (Pt h) (Wm h)) (oldC (Wm h) n) n)) := by
      rw [(sm2 _ (by omega)).1, (sm1 _ (by omega) (by omega)).1]
      exact (fc4.2 n v0 v1 nZ).2.1
    refine ⟨i32 (tcL (Cnw Z.2.2.1 Z.2.2.2.1 Z.2.2.2.2 np (sgm (Pt h) (Wm h)) (oldC (Wm h) n) n)), g2, g', ?_, ?_, l7⟩
    · rw [e3]
      unfold jX10_setCondition_87
      rw [C3.o, gd_tt, end4, bn_s, if_pos rfl, C4.o, gd_tt, c1, bn_s, C1.o, gd_tt, C1.r_state, oc_s, C1.o_state, gd_tt, C1.st.rD, oc_s, C1.st.d.o, gd_tt, C1.r_scratch, d1, bn_s, oc_s, C2.sf.on (show n.toNat < 32 by omega), gd_tt, t136]
    · have sgn := fw.2.2.2.2 n v0 v1 nZ
      have e192 := l8 (192 + n) (by omega) (by omega)
      have e224 := l8 (224 + n) (by omega) (by omega)
      have ets : fX11_tests 983 (i32 0) (i32 n) g' = some (i32 (tcL (Cnw Z.2.2.1 Z.2.2.2.1 Z.2.2.2.2 np (sgm (Pt h) (Wm h)) (oldC (Wm h) n) n))) := by
        rw [tests_s l6 (by omega) (by omega) v0 v1 (by rw [Fm0]; unfold SG; rw [e192, e224]; exact ⟨sgn.1, sgn.2.1, by omega⟩), Fm0, sgm_nT, sgm_E (P := Pt g') (F := Z.2.2.1) e192 e224, l9 n v0 v1 nZ]
      rw [y1, if_neg (by rw [u1]; decide), l1, bn_s, l2.o, gd_tt, l3, bn_s, l4.o, gd_tt, l5, bn_s, l6.o, gd_tt, ets, bn_s]
end

