section
variable {h g : HP} {b : Int → Int} {np T k : Nat}
theorem rd_load (R : RR h k) (hk : k ≤ 512) : ∃ o g g', fX10_load 0 h = some (o, g) ∧ fX11_load 983 g = some (o, g') ∧ RR g' (k + 1) := by
  obtain ⟨np, T, rc, h714, ⟨b, t1, t2, t3, t4, t5⟩, b1, b2, b3⟩ := R.rc
  have C := rc.1
  have M := rc.2.1
  obtain ⟨ok, g3, e3, ⟨k3, ts3, z3, z3'⟩, w1, w2⟩ := cload rc t1 t3 t4
  obtain ⟨g4, e4⟩ : ∃ g4, g4 = sI (sI g3 641 0 (i32 0)) 642 0 (hI g3 192 62) := ⟨_, rfl⟩
  have C3 := C.sk k3.1
  have k4 : Kq h g4 := by rw [e4]; exact (k3.t (Kq_I (Or.inl rfl) _)).t (Kq_I (Or.inr rfl) _)
  have so4 : So (fun y => y = 0) g3 g4 := by rw [e4]; exact (So_I (S := fun y => y = 0) rfl _ _).t (So_I (S := fun y => y = 0) rfl _ _)
  have ts4 : TS2 h g4 := ts3.t (TS2_So so4 (fun y z => by omega))
  have C4 := C.sk k4.1
  have zz4 : hsz g4 = hsz g3 := by unfold hsz; rw [so4.2.1]
  have zl4 : hsl g4 = hsl g3 := by unfold hsl; rw [so4.2.1]
  have i641 : hI g4 641 0 = i32 0 := by rw [e4, rII, if_neg (by omega), rII, if_pos ⟨rfl, rfl⟩]
  have i642 : hI g4 642 0 = hI g3 192 62 := by rw [e4, rII, if_pos ⟨rfl, rfl⟩]
  have end4 : fX10_endText 0 g3 = some g4 := by
    have C3' : CS (sI g3 641 0 (i32 0)) := C3.sk (sk_sI rfl)
    unfold fX10_endText
    rw [C3.o, gd_tt, lt_e, C3'.r_parser, oc_s, C3'.o_parser, gd_tt, rII, if_neg (by omega), ← e4, lt_e]
  have r4 := RC_k rc k4 ts4
  have M4 := r4.2.1
  have eW4 : Wm g4 = Wm h := by funext j; unfold Wm; rw [(k4.2.2.2.2.2.1 987 (by omega) (by omega)).2]
  have mi : ∀ g : HP, MS g → Wm g = Wm h → hI g 705 983 = hI h 705 983 → hI g 714 983 = hI h 714 983 → hA g 984 = hA h 984 → N24 g → _ := fun g Mg eW c705 c714 c984 n24 => mload (g := g) (b := b) (T := T) (np := np) Mg (by rw [c705]; exact t2) (by rw [c714]; exact h714) (TB_e t5 c984) t3 n24 (by omega)
  obtain ⟨Z, eZ⟩ : ∃ Z, Z = pld (tkn b (T : Int)) np (emp (Wm h)) := ⟨_, rfl⟩
  rw [← eZ] at w1 w2
  have i705 : hI g4 705 983 = hI h 705 983 := k4.2.2.2.2.2.2 705 (by omega) (by omega)
  have i714 : hI g4 714 983 = hI h 714 983 := k4.2.2.2.2.2.2 714 (by omega) (by omega)
  cases pe : perr (tkn b (T : Int)) (R0 noC noO) Z with
  | some e =>
    obtain ⟨rfl, x2⟩ := w1 e pe
    obtain ⟨g5, y1, y2, y3, y4, y5, y6, y7, y8, _⟩ := mi g4 M4 eW4 i705 i714 (k4.2.2.2.2.2.1 984 (by omega) (by omega)).1 r4.2.2.2.1
    rw [eW4, ← eZ] at y8
    obtain ⟨u1, u2⟩ := y8 e pe
    obtain ⟨g6, a1, a2, a3, a4⟩ := txt_fail rc k4 ts4 (by omega) (by omega) i641 (i642.trans x2) y2 y3 y4 y5 y6 y7 u2 b1 b2 b3
    refine ⟨i32 (-1), g4, _, ?_, ?_, a4⟩
    · rw [e3]
      unfold jX10_load_52
      rw [C3.o, gd_tt, end4, bn_s, if_neg (by decide)]
    · rw [y1, if_pos (by rw [u1, i32_z]), a1, bn_s, a2.o, gd_tt, lt_e]
  | none =>
    obtain ⟨rfl, x2, fc, ⟨v0, v1, v2⟩, rs1, rs2, rs3⟩ := w2 pe
    have okZ : Z.1 = true := by
      have pe' := pe
      unfold perr at pe'
      cases y : Z.1 with
      | true => rfl
      | false => rw [y, if_neg (by decide)] at pe'; cases pe'
    have prs : pres Z.2.2.1 Z.2.2.2.1 (R0 noC noO) = none := by
      have pe' := pe
      unfold perr at pe'
      rw [if_pos okZ] at pe'
      exact pe'
    obtain ⟨N, sj, sz0, nf⟩ : NI b T np noO (emp (Wm h)) Z.2.1 Z.2.2.1 Z.2.2.2.1 Z.2.2.2.2 ∧ SGJ Z.2.2.1 np Z.2.2.2.2 ∧ SGZ Z.2.2.1 ∧ nfl Z.2.2.1 = Z.2.2.1 289 := by
      rw [eZ] at okZ ⊢
      exact pld_inv (by omega) okZ
    have fb := fc.1
    have o1 := N.1.1.ov
    have bb : ∀ i : Nat, i < 32 → isB (hI g4 128 (63 + 4 + i)) = true := fun i hi => by
      rw [(so4.2.2 _ (by omega)).1]; exact fb.isB i hi
    obtain ⟨g1, d1, d2, d3⟩ := copyForm C4.st.d C4.sf (Or.inl (by omega)) bb
    have C1 := C4.sk d2.1
    obtain ⟨g2, e2⟩ : ∃ g2, g2 = sI (sI (sI g1 321 2 (i32 0)) 322 2 (i32 0)) 646 0 (i32 0) := ⟨_, rfl⟩
    have p2 : So (fun x => x = 0 ∨ x = 2) g1 g2 := by
      rw [e2]; exact ((So_I (Or.inr rfl) _ _).t (So_I (Or.inr rfl) _ _)).t (So_I (Or.inl rfl) _ _)
    have C2 := C1.sk p2.1
    have sm1 : ∀ x, (x < 3 ∨ 39 ≤ x) → Sm g4 g1 x := fun x a => d2.2.2 x (fun z => by have := z.1; have := z.2; omega)
    have sm2 : ∀ x, x ≠ 0 → x ≠ 2 → Sm g1 g2 x := fun x a c => p2.2.2 x (fun z => by rcases z with z | z; exact a z; exact c z)
    have smM : ∀ x, 39 ≤ x → Sm g4 g2 x := fun x a => (sm1 x (Or.inr a)).t (sm2 x (by omega) (by omega))
    have M2 : MS g2 := M4.sk (d2.1.trans p2.1)
    have eW2 : Wm g2 = Wm h := by rw [← eW4]; funext j; unfold Wm; rw [(smM 987 (by omega)).2.2.2.2.1]
    obtain ⟨g5, y1, y2, y3, y4, y5, y6, y7, _, y9⟩ := mi g2 M2 eW2 (((smM 983 (by omega)).1 705).trans i705) (((smM 983 (by omega)).1 714).trans i714) ((funext (smM 984 (by omega)).2.2.2.1).trans (k4.2.2.2.2.2.1 984 (by omega) (by omega)).1) (r4.2.2.2.1.e (funext (smM 991 (by omega)).2.2.2.1) (funext (smM 999 (by omega)).2.2.2.1))
    rw [eW2, ← eZ] at y9
    obtain ⟨u1, u2, u3, u4, u5, s0, s1, s2⟩ := y9 pe
    have M5 := y2.ms M2
    obtain ⟨L, eL⟩ : ∃ L : Nat, L = Z.2.2.2.2.length := ⟨_, rfl⟩
    have LB : L ≤ T := by
      have a := N.2.2.2.2.1
      have st := tS_n (b := b) (n := T) (by omega) Z.2.1
      have := a.1
      have := a.2.2
      omega
    -- the sizes, the rest of the world, the undos, the pool, the stretches
    obtain ⟨g6, a6, q6, c6, _⟩ := msz (K := fun w106 w107 h108 => lX11_load_169 (fun w109 w110 h111 => gd (isO h111 w109 11) <| lt (sI h111 712 w109 (i32 0)) fun h113 => bn (fX11_packs w109 w110 h113) fun h115 => gd (isO h115 w109 11) <| bn (fX11_fieldMany w109 h115) fun v118 => some (v118, h115)) FU w106 w107 (i32 292) h108) (v1 := i32 (np : Int)) 3 FU 0 g5 (by omega) (by decide) M5
    have M6 := q6.ms M5
    obtain ⟨g7, a7, q7, c7, c7'⟩ := mclr (K := fun w109 w110 h111 => gd (isO h111 w109 11) <| lt (sI h111 712 w109 (i32 0)) fun h113 => bn (fX11_packs w109 w110 h113) fun h115 => gd (isO h115 w109 11) <| bn (fX11_fieldMany w109 h115) fun v118 => some (v118, h115)) (v1 := i32 (np : Int)) (B := 2880) rfl 2588 FU 292 g6 (by omega) (by decide) M6
    have M7 := q7.ms M6
    obtain ⟨g8, e8⟩ : ∃ g8, g8 = sI g7 712 983 (i32 0) := ⟨_, rfl⟩
    have q8 : Mo [712] g7 g8 := by rw [e8]; exact Mo_I (by decide) _
    have M8 := q8.ms M7
    have i8 : hI g8 714 983 = i32 ((np + L : Nat) : Int) := by
      rw [q8.I (by decide), q7.I (by decide), q6.I (by decide), u4, eL]
      congr 1
    obtain ⟨g9, a9, q9, c9, c9'⟩ := mpackA (np := np) (K := fun w1 w2 h3 => gd (isO h3 w1 11) <| lt (sI h3 714 w1 ((hI h3 714 w1) - w2)) fun h5 => lX11_packs_42 FU w1 w2 (i32 0) h5) (tot := np + L) (by omega) L FU np g8 (by omega) (Nat.le_refl _) (by have : FU = 1000000 := rfl; omega) M8 i8
    have M9 := q9.ms M8
    obtain ⟨g10, e10⟩ : ∃ g10, g10 = sI g9 714 983 (i32 (L : Int)) := ⟨_, rfl⟩
    have q10 : Mo [714] g9 g10 := by rw [e10]; exact Mo_I (by decide) _
    have M10 := q10.ms M9
    obtain ⟨g', a11, q11, c11, c11'⟩ := mpackW (np := np) 32 FU 0 g10 (by omega) (by decide) M10 (by omega)
    have M11 := q11.ms M10
    have epk : fX11_packs 983 (i32 (np : Int)) g8 = some g' := by
      unfold fX11_packs
      refine Eq.trans a9 ?_
      show (gd (isO g9 983 11) <| lt (sI g9 714 983 ((hI g9 714 983) - i32 (np : Int))) fun h5 => lX11_packs_42 FU 983 (i32 (np : Int)) (i32 0) h5) = _
      rw [M9.o, gd_tt, q9.I (by decide), i8, i32_sub, show ((np + L : Nat) : Int) - (np : Int) = (L : Int) by omega, ← e10, lt_e]
      exact a11
    have W10 : ∀ q : Int, 0 ≤ q → q < 292 → Wm g10 q = Z.2.2.1 q := fun q q0 q1 => by
      rw [← u3 q q0]
      unfold Wm
      rw [q10.L (by decide), q9.L (by decide), q8.L (by decide), c7' q.toNat (by omega), q6.L (by decide)]
    have pk : Pkd Z.2.2.1 (Wm g') np := by
      refine ⟨fun q q0 q1 => ?_, fun m m0 m1 mp => ?_⟩
      · rw [c11' q q0 (by omega), W10 q q0 (by omega)]
      · have := sj m m0 m1 mp
        rw [c11 m (by omega) m1 (by rw [W10 _ (by omega) (by omega)]; omega), W10 _ (by omega) (by omega), W10 _ (by omega) (by omega)]
    have Whi : ∀ q : Int, 292 ≤ q → q < 2880 → Wm g' q = 0 := fun q q0 q1 => by
      rw [c11' q (by omega) (by omega)]
      unfold Wm
      rw [q10.L (by decide), q9.L (by decide), q8.L (by decide), c7 q.toNat (by omega) (by omega), i64_toInt (by omega) (by omega)]
    have q6' : Mo (985 :: 712 :: 987 :: LI) g2 g' := (((((y2.w (by decide)).t (q6.w (by decide))).t (q7.w (by decide))).t (q8.w (by decide))).t (q9.w (by decide))).t ((q10.w (by decide)).t (q11.w (by decide)))
    have A985 : ∀ q, q < 3 → hA g' 985 q = hA g5 986 q := fun q hq => by
      rw [q11.A (by decide), q10.A (by decide), q9.A (by decide), q8.A (by decide), q7.A (by decide), c6 q (by omega) hq]
    have A999 : hA g' 999 = hA g5 999 := (q11.A (by decide)).trans ((q10.A (by decide)).trans ((q9.A (by decide)).trans ((q8.A (by decide)).trans ((q7.A (by decide)).trans (q6.A (by decide))))))
    have A991 : hA g' 991 = hA g5 991 := (q11.A (by decide)).trans ((q10.A (by decide)).trans ((q9.A (by decide)).trans ((q8.A (by decide)).trans ((q7.A (by decide)).trans (q6.A (by decide))))))
    have P8 : ∀ q : Nat, hA g8 990 q = hA g5 990 q := fun q => by rw [q8.A (by decide), q7.A (by decide), q6.A (by decide)]
    have P11 : ∀ q : Int, (np : Int) ≤ q → q < np + L → Pt g' (q - np) = Pt g5 q := fun q q0 q1 => by
      unfold Pt
      have e := c9 q.toNat (by omega) (by omega)
      rw [q11.A (by decide), q10.A (by decide), show (q - (np : Int)).toNat = q.toNat - np by omega, e, P8]
    have cv := N.2.2.1
    have fw : FWf Z.2.2.1 (Cnw Z.2.2.1 Z.2.2.2.1 Z.2.2.2.2 np noC noO) (np + L) := by
      rw [eL]
      exact fwf_new (N.j (by omega) (by omega)) (emp_W (Wm h)) (fun m m0 m1 mp => absurd (emp_0 m1) mp) (fun m hm => by cases hm) prs sj (fun m hm => by cases hm)
    have cvp : ∀ m, 0 ≤ m → m < 32 → Z.2.2.1 m ≠ -1 → 0 < Z.2.2.1 (224 + m) → (np : Int) ≤ Z.2.2.1 (192 + m) := fun m m0 m1 mp hp => by
      have := cv m m0 m1 mp rfl
      omega
    have fw' : FWf (Wm g') (Cnw Z.2.2.1 Z.2.2.2.1 Z.2.2.2.2 np noC noO) L := FWf_pk fw sz0 cvp pk
    have fc4 : FRc g4 63 (Wm g') (Cnw Z.2.2.1 Z.2.2.2.1 Z.2.2.2.2 np noC noO) := FRc_pk (FRc_eq fc N.1.1 (FormEq_sm (fun y hy => so4.2.2 y (by have := hy.1; omega))) (TS2_So so4 (fun y z => by omega)) (fun _ _ _ _ => rfl)) o1.2.1 pk
    have smF : ∀ x, x < 983 → Sm g2 g' x := fun x a => q6'.sm a
    have tsf : TS2 g4 g' := ((TS2_So (d2.w (T := fun x => x < 1008) (fun x z => by have := z.2; omega)) (fun x z => z)).t (TS2_So p2 (fun x z => by rcases z with z | z <;> omega))).t (TS2_mo q6')
    have fe : FormEq g' 3 g4 63 := (FormEq_sm (fun x hx => smF x (by have := hx.2; omega))).t ((FormEq_sm (fun x hx => sm2 x (by have := hx.1; omega) (by have := hx.1; omega))).t d3)
    have s63 := so4.2.2 63 (by omega)
    have fx : FRx g' 3 (Wm g') L := by
      refine FRx_new fc4 fw' fe tsf (fun m m0 m1 mp => ?_) ?_ ?_ ?_
      · rw [pk.1 m m0 (by omega)] at mp
        rw [sgm_pk m0 m1 mp pk P11 (fun hp => by
          have a := sj m m0 m1 mp
          have := cvp m m0 m1 mp hp
          omega)]
        exact u5 m m0 m1 mp
      · rw [s63.1, v0, A985 0 (by omega), s0]
      · rw [s63.1, v1, A985 1 (by omega), s1]
      · rw [s63.1, v2, A985 2 (by omega), s2]
    have i2 : ∀ f, hI g' f 2 = hI g2 f 2 := fun f => (smF 2 (by omega)).1 f
    have i0 : ∀ f, hI g' f 0 = hI g2 f 0 := fun f => (smF 0 (by omega)).1 f
    have j2 : ∀ f x, (f ≠ 321 ∧ f ≠ 322 ∧ f ≠ 646) → hI g2 f x = hI g1 f x := fun f x w => by rw [e2, rII, if_neg (by omega), rII, if_neg (by omega), rII, if_neg (by omega)]
    have w28 := Whi 2628 (by omega) (by omega)
    have w29 := Whi 2629 (by omega) (by omega)
    have sr : SR g' 2 (Wm g') L := by
      refine ⟨by rw [Wf_0]; exact fx, ⟨?_, by rw [w28]; exact Int.le_refl _, by rw [w28]; decide⟩, ⟨?_, by rw [w29]; exact Int.le_refl _, by rw [w29]; decide⟩, fun r hr => by rw [w28] at hr; omega, fun r hr => by rw [w29] at hr; omega⟩
      · rw [i2, e2, rII, if_neg (by omega), rII, if_neg (by omega), rII, if_pos ⟨rfl, rfl⟩, w28]
      · rw [i2, e2, rII, if_neg (by omega), rII, if_pos ⟨rfl, rfl⟩, w29]
    obtain ⟨u, pp, U⟩ := r4.up
    have i647 : hI g' 647 0 = hI g4 647 0 := by rw [i0, j2 647 0 (by omega), (sm1 0 (by omega)).1]
    have i646 : hI g' 646 0 = i32 0 := by rw [i0, e2, rII, if_pos ⟨rfl, rfl⟩]
    have i712 : hI g' 712 983 = i32 0 := by rw [q11.I (by decide), q10.I (by decide), q9.I (by decide), e8, rII, if_pos ⟨rfl, rfl⟩]
    have past' : PastR g' L := ⟨0, pp, by omega, U.2.1, i646, i647.trans U.2.2.2.1, i712, ⟨fun j hj => by omega, fun hj => by omega⟩, fun j hj => by omega⟩
    have skf : Sk g4 g' := d2.1.trans (p2.1.trans q6'.sk)
    have hz : hsz g' = hsz g4 := by
      have x1 : hsz g1 = hsz g4 := by unfold hsz; rw [d2.2.1]
      have x2 : hsz g2 = hsz g1 := by unfold hsz; rw [p2.2.1]
      rw [q6'.hs, x2, x1]
    have hl : hsl g' = hsl g4 := by
      have x1 : hsl g1 = hsl g4 := by unfold hsl; rw [d2.2.1]
      have x2 : hsl g2 = hsl g1 := by unfold hsl; rw [p2.2.1]
      rw [q6'.hl, x2, x1]
    have rcf : RC g' L := by
      refine ⟨C4.sk skf, M11, fun i hi => ?_, y3.e A991 A999, ⟨tkv (tkn b T 1), tkv (tkn b T 2), tkv (tkn b T 3), by rw [A985 0 (by omega), s0], by rw [A985 1 (by omega), s1], by rw [A985 2 (by omega), s2], rs1, rs2, rs3⟩, by rw [hz]; exact r4.2.2.2.2.2.1, sr, past'⟩
      rw [(smF 104 (by omega)).2.2.2.2.1, (smM 104 (by omega)).2.2.2.2.1]
      exact r4.2.2.1 i hi
    refine ⟨i32 (Z.2.2.1 289), g2, g', ?_, ?_, rcf.rr (T := 0) ?_ ?_ (Tape0 ?_ ?_) (by omega) (by rw [hz]; omega) (by rw [hl]; omega)⟩
    · have o' : ∀ g, Sk g1 g → CS g := fun g sk => C1.sk sk
      have Ca : CS (sI g1 321 2 (i32 0)) := C1.sk (sk_sI rfl)
      have Cb : CS (sI (sI g1 321 2 (i32 0)) 322 2 (i32 0)) := Ca.sk (sk_sI rfl)
      rw [e3]
      unfold jX10_load_52
      rw [C3.o, gd_tt, end4, bn_s, if_pos rfl, C4.o, gd_tt, C4.r_state, oc_s, C4.o_state, gd_tt, C4.st.rD, oc_s, C4.st.d.o, gd_tt, C4.r_scratch, d1, bn_s, C1.o, gd_tt, C1.r_state, oc_s, C1.o_state, gd_tt, lt_e, Ca.r_state, oc_s, Ca.o_state, gd_tt, lt_e, lt_e, ← e2, C2.r_state, oc_s, C2.o_state, gd_tt, C2.st.rD, oc_s, C2.st.d.o, gd_tt, j2 3 _ (by omega)]
      have e33 : hI g1 3 (2 + 1) = i32 (Z.2.2.1 289) := by
        rw [d3.1 3 (by omega), s63.1]; exact fb.1
      rw [e33]
    · have efm : fX11_fieldMany 983 g' = some (i32 (Z.2.2.1 289)) := by
        rw [fieldMany_s M11, ← nf]
        congr 2
        exact nfl_congr (fun m m0 m1 => pk.1 m m0 (by omega))
      rw [y1, if_neg (by rw [u1]; decide)]
      refine Eq.trans a6 (Eq.trans a7 ?_)
      show (gd (isO g7 983 11) <| lt (sI g7 712 983 (i32 0)) fun h113 => bn (fX11_packs 983 (i32 (np : Int)) h113) fun h115 => gd (isO h115 983 11) <| bn (fX11_fieldMany 983 h115) fun v118 => some (v118, h115)) = _
      rw [M7.o, gd_tt, ← e8, lt_e, epk, bn_s, M11.o, gd_tt, efm, bn_s]
    · rw [i0, j2 642 0 (by omega), (sm1 0 (by omega)).1, i642, x2, q11.I (by decide), q10.I (by decide), q9.I (by decide), q8.I (by decide), q7.I (by decide), q6.I (by decide), u2]
    · rw [q11.I (by decide), e10, rII, if_pos ⟨rfl, rfl⟩]
    · rw [i0, j2 641 0 (by omega), (sm1 0 (by omega)).1]; exact i641
    · rw [q11.I (by decide), q10.I (by decide), q9.I (by decide), q8.I (by decide), q7.I (by decide), q6.I (by decide)]; exact y7
end

