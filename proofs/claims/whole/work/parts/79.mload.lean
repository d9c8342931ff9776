section
variable {h g : HP} {b : Int → Int} {np T k : Nat}
/-- the model loads, up to its end -/
theorem mload (M : MS g) (h705 : hI g 705 983 = i32 T) (h714 : hI g 714 983 = i32 np) (tb : TB g 984 b T) (T1 : T ≤ 1200) (n24 : N24 g) (wb : np ≤ 10300) : ∃ g5, (fX11_load 983 g = if hI g5 721 983 = 0 then (bn (fX11_takesMade 983 g5) fun h120 => gd (isO h120 983 11) <| lt (sI h120 714 983 (i32 np)) fun h122 => some ((i32 (-1)), h122)) else lX11_load_142 (fun w106 w107 h108 => lX11_load_169 (fun w109 w110 h111 => gd (isO h111 w109 11) <| lt (sI h111 712 w109 (i32 0)) fun h113 => bn (fX11_packs w109 w110 h113) fun h115 => gd (isO h115 w109 11) <| bn (fX11_fieldMany w109 h115) fun v118 => some (v118, h115)) FU w106 w107 (i32 292) h108) FU 983 (i32 np) (i32 0) g5) ∧ Mo LI g g5 ∧ N24 g5 ∧ (∀ i : Nat, i < np → hA g5 990 i = hA g 990 i) ∧ (∀ i : Nat, 292 ≤ i → hL g5 987 i = hL g 987 i) ∧ (∀ i, i < 292 → hL g5 988 i = hL g 987 i) ∧ hI g5 705 983 = i32 0 ∧ (∀ e, perr (tkn b T) (R0 noC noO) (pld (tkn b T) np (emp (Wm g))) = some e → hI g5 721 983 = i32 0 ∧ hI g5 706 983 = i32 e) ∧ (perr (tkn b T) (R0 noC noO) (pld (tkn b T) np (emp (Wm g))) = none → hI g5 721 983 = i32 1 ∧ hI g5 706 983 = i32 (-2) ∧ Enn (Wm g5) (pld (tkn b T) np (emp (Wm g))).2.2.1 ∧ hI g5 714 983 = i32 (np + (pld (tkn b T) np (emp (Wm g))).2.2.2.2.length) ∧ (∀ m, 0 ≤ m → m < 32 → (pld (tkn b T) np (emp (Wm g))).2.2.1 m ≠ -1 → sgm (Pt g5) (pld (tkn b T) np (emp (Wm g))).2.2.1 m = Cnw (pld (tkn b T) np (emp (Wm g))).2.2.1 (pld (tkn b T) np (emp (Wm g))).2.2.2.1 (pld (tkn b T) np (emp (Wm g))).2.2.2.2 np noC noO m) ∧ hA g5 986 0 = i32 (tkv (tkn b T 1)) ∧ hA g5 986 1 = i32 (tkv (tkn b T 2)) ∧ hA g5 986 2 = i32 (tkv (tkn b T 3))) := by
  obtain ⟨F, eF⟩ : ∃ F, F = emp (Wm g) := ⟨_, rfl⟩
  have n0 : (0 : Int) ≤ (T : Int) := by omega
  have n1 : (T : Int) ≤ 1200 := by omega
  have fu : FU = 1000000 := rfl
  obtain ⟨g1, a1, q1, M1, a990, L7, l8⟩ := mstart M h705 h714 tb n0 n1
  have m1 := M1.1.ms
  obtain ⟨J, eJ⟩ : ∃ J : Nat → Int32 → HP → Option (Int32 × HP), J = fun w14 w15 h21 => gd (isO h21 w14 11) <| if (hI h21 721 w14) = 0 then (jX11_load_113 w14 w15 h21) else bn (fX11_readNodes w14 (i32 (-2)) h21) fun h24 => jX11_load_113 w14 w15 h24 := ⟨_, rfl⟩
  obtain ⟨g2, a2, q2, l2, l2'⟩ := mempL (K := fun w6 w7 h8 => gd (isO h8 w6 11) <| bn (fX11_isWord w6 (i64 212557) h8) fun v11 => bn (fX11_takes w6 v11 h8) fun h13 => lX11_load_56 (fun w14 w15 h16 => gd (isO h16 w14 11) <| bn (fX11_isHere w14 (i32 59) h16) fun v19 => bn (fX11_takes w14 v19 h16) fun h21 => J w14 w15 h21) FU w6 w7 (i32 0) h13) (v1 := i32 (np : Int)) 292 FU 0 g1 (by omega) (by omega) m1
  have m2 := q2.ms m1
  have W2 : Enn (Wm g2) F := fun q q0 => by
    rw [eF]
    by_cases c : q < 292
    · unfold Wm
      rw [l2 q.toNat (by omega) (by omega)]
      by_cases d : q < 32
      · rw [if_pos (by omega), emp_0 d, i64_toInt (by omega) (by omega)]
      · rw [if_neg (by omega), emp_1 (by omega) c, i64_toInt (by omega) (by omega)]
    · rw [emp_2 (by omega)]
      unfold Wm
      rw [l2' q.toNat (by omega), L7]
  have M2 : MN g2 b T 0 F [] [] np := M1.w W2 q2 (Or.inl rfl)
  obtain ⟨g3, a3, q3, h3, h3'⟩ := mhead (J := J) (v1 := i32 (np : Int)) n0 n1 M2.1
  have m3 := q3.ms m2
  have i714 : hI g1 714 983 = i32 np := by
    rw [M1.pool]
    show i32 ((np : Int) + 0) = _
    rw [Int.add_zero]
  have run3 : fX11_load 983 g = J 983 (i32 (np : Int)) g3 := by
    unfold fX11_load
    rw [M.o, gd_tt, a1, bn_s, m1.o, gd_tt, i714, lt_e]
    rw [eJ] at a2 a3
    refine Eq.trans a2 ?_
    show (gd (isO g2 983 11) <| _) = _
    rw [m2.o, gd_tt, eJ]
    exact a3
  obtain ⟨Z, eZ⟩ : ∃ Z, Z = pld (tkn b (T : Int)) np F := ⟨_, rfl⟩
  have nn : ∀ m, m < 32 → ¬ F m ≠ -1 := fun m hm z => by rw [eF] at z; exact z (emp_0 hm)
  have sgt : SGT F := fun m _ hm mp => absurd mp (nn m hm)
  have trF : TR F := by rw [eF]; exact (emp_T _).1.1
  have eW3 : Wm g3 = Wm g2 := by funext j; unfold Wm; rw [q3.L (by decide)]
  have q13 : Mo LI g g3 := ((q1.w (by decide)).t (q2.w (by decide))).t (q3.w (by decide))
  have a990' : hA g3 990 = hA g 990 := (q3.A (by decide)).trans ((q2.A (by decide)).trans a990)
  have W292 : ∀ q : Int, 292 ≤ q → Wm g3 q = Wm g q := fun q hq => by
    rw [eW3]
    unfold Wm
    rw [l2' q.toNat (by omega), L7]
  have L8 : hL g3 988 = hL g1 988 := (q3.L (by decide)).trans (q2.L (by decide))
  -- reading
  obtain ⟨g4, e4, f4, z3, z4⟩ : ∃ g4, J 983 (i32 (np : Int)) g3 = jX11_load_113 983 (i32 (np : Int)) g4 ∧ FrM np g3 g4 ∧ (Z.1 = true → MN g4 b T Z.2.1 Z.2.2.1 Z.2.2.2.1 Z.2.2.2.2 np) ∧ (Z.1 = false → BdM g4 (tks (tkn b T Z.2.1)) np) := by
    rw [eJ]
    show ∃ g4, (gd (isO g3 983 11) <| if (hI g3 721 983) = 0 then (jX11_load_113 983 (i32 (np : Int)) g3) else bn (fX11_readNodes 983 (i32 (-2)) g3) fun h24 => jX11_load_113 983 (i32 (np : Int)) h24) = _ ∧ _
    rw [m3.o, gd_tt]
    by_cases ph : (phd (tkn b (T : Int))).1 = true
    rotate_left
    · have phf : (phd (tkn b (T : Int))).1 = false := by cases y : (phd (tkn b (T : Int))).1 with
        | true => exact absurd y ph
        | false => rfl
      obtain ⟨u1, u2⟩ := h3' phf
      have eZ' : Z = (false, (phd (tkn b (T : Int))).2, F, [], []) := by rw [eZ]; unfold pld; rw [if_neg ph]
      refine ⟨g3, by rw [if_pos (by rw [u1, i32_z])], FrM.r, fun w => ?_, fun _ => ?_⟩
      · rw [eZ'] at w; cases w
      · rw [eZ']
        refine ⟨m3, u1, u2, ⟨0, ?_, by omega⟩, ⟨np, ?_, Int.le_refl _, by omega⟩, ?_, ?_⟩
        · rw [q3.I (by decide)]; exact M2.2.1.1
        · rw [q3.I (by decide), M2.pool]
          show i32 ((np : Int) + 0) = _
          rw [Int.add_zero]
        · rw [eW3]
          refine TR_E (F := F) ⟨fun m a c => W2 m a, W2 288 (by omega), fun i i0 i1 => W2 (256 + i) (by omega)⟩ trF
        · rw [eW3]; exact W2.sg sgt
    · have M3 : MN g3 b T 5 F [] [] np := M2.mo q3 (by decide) (h3 ph).1
      obtain ⟨g3', e3'⟩ : ∃ g3', g3' = sI g3 731 983 (i32 0) := ⟨_, rfl⟩
      have p3 : Mo [731] g3 g3' := by rw [e3']; exact Mo_I (by decide) _
      have M3' : MN g3' b T 5 F [] [] np := M3.mo p3 (by decide) (M3.1.mo p3 (by decide))
      have N0 : NI b T np noO F 5 F [] [] := by rw [eF]; exact ni_load n0 ph
      obtain ⟨g4, pl', x1, x2⟩ := mnodesL n0 n1 (by omega) 1201 FU 0 0 5 0 (-2) F [] [] g3' (by omega) (by omega) (by omega) (by omega) M3' N0 sgt (by rw [eF]; exact PL_emp _) (Or.inl rfl) (fun i hi => by omega) (by rw [e3', rII, if_pos ⟨rfl, rfl⟩])
      have eZ' : pnod (tkn b (T : Int)) np 1201 0 (-2) 0 5 F [] [] = Z := by rw [eZ]; unfold pld; rw [if_pos ph]
      rw [eZ'] at x2
      refine ⟨g4, ?_, (FrM.mo p3 (by decide) (by decide) (by decide)).t x2.1, fun ok => (x2.2.1 ok).1, x2.2.2⟩
      have F8 : F 288 = 0 := by rw [eF]; exact emp_1 (by omega) (by omega)
      have er : fX11_readNodes 983 (i32 (-2)) g3 = some g4 := by
        unfold fX11_readNodes
        rw [m3.o, gd_tt, behindN_s m3 (by omega) (by omega) (by omega) (by omega), bn_s, Fm0, M3.2.2.2 288 (by omega), F8, lt_e, ← e3']
        exact x1
      rw [if_neg (by rw [(h3 ph).1.fn]; decide), er, bn_s]
  have zN : Z.1 = true → NI b T np noO F Z.2.1 Z.2.2.1 Z.2.2.2.1 Z.2.2.2.2 ∧ SGJ Z.2.2.1 np Z.2.2.2.2 := fun ok => by
    rw [eZ, eF] at ok ⊢
    exact ⟨(pld_inv n0 ok).1, (pld_inv n0 ok).2.1⟩
  have q14 : Mo LI g g4 := q13.t (f4.1.w (by decide))
  obtain ⟨g5, a5, fr, q5, n5, p5, w1, w2⟩ := mflow (n := T) (by omega) (C0 := noC) (old := noO) (Fb := F) ((((n24.mo q1 (by decide) (by decide)).mo q2 (by decide) (by decide)).mo q3 (by decide) (by decide)).mo f4.1 (by decide) (by decide)) ⟨f4, z3, z4⟩ (fun ok => ⟨(zN ok).1.j n0 n1, (zN ok).2⟩) (fun m hm => by cases hm) (fun m hm => by cases hm) (fun m hm => by cases hm) (fun m m0 m1 _ _ mp => absurd mp (nn m m1))
  have q15 : Mo LI g g5 := q14.t (q5.w (by decide))
  have m4 := q14.ms M
  have m5 := q15.ms M
  obtain ⟨g6, e6⟩ : ∃ g6, g6 = sI g5 705 983 (i32 0) := ⟨_, rfl⟩
  have q6 : Mo [705] g5 g6 := by rw [e6]; exact Mo_I (by decide) _
  have q16 : Mo LI g g6 := q15.t (q6.w (by decide))
  have eW6 : Wm g6 = Wm g5 := by funext j; unfold Wm; rw [q6.L (by decide)]
  have eW5 : Wm g5 = Wm g4 := by funext j; unfold Wm; rw [q5.L (by decide)]
  have A986 : hA g6 986 = hA g3 986 := (q6.A (by decide)).trans ((q5.A (by decide)).trans (f4.1.A (by decide)))
  rw [← eF, ← eZ]
  refine ⟨g6, ?_, q16, n5.mo q6 (by decide) (by decide), fun i hi => ?_, fun i hi => ?_, fun i hi => ?_, by rw [e6, rII, if_pos ⟨rfl, rfl⟩], fun e he => ?_, fun he => ?_⟩
  · rw [run3, e4]
    unfold jX11_load_113
    rw [m4.o, gd_tt, a5, bn_s, m5.o, gd_tt, ← e6, lt_e]
  · rw [q6.A (by decide), p5 i hi, a990']
  · exact hL_W (by rw [eW6, eW5, f4.2.2 _ (by omega), W292 _ (by omega)])
  · rw [q6.L (by decide), q5.L (by decide), f4.1.L (by decide), L8]; exact l8 i hi
  · obtain ⟨x1, x2⟩ := w1 e he
    exact ⟨by rw [q6.I (by decide)]; exact x1, by rw [q6.I (by decide)]; exact x2⟩
  · obtain ⟨x1, x2, x3, x4, x5⟩ := w2 he
    have ok : Z.1 = true := by
      unfold perr at he
      cases y : Z.1 with
      | true => rfl
      | false => rw [y, if_neg (by decide)] at he; cases he
    have ph : (phd (tkn b (T : Int))).1 = true := by
      rw [eZ] at ok
      unfold pld at ok
      by_cases p : (phd (tkn b (T : Int))).1 = true
      · exact p
      · rw [if_neg p] at ok; cases ok
    obtain ⟨_, y0, y1, y2⟩ := h3 ph
    refine ⟨by rw [q6.I (by decide)]; exact x1, by rw [q6.I (by decide)]; exact x2, by rw [eW6]; exact x3, by rw [q6.I (by decide)]; exact x4, fun m m0 m1 mp => ?_, by rw [A986]; exact y0, by rw [A986]; exact y1, by rw [A986]; exact y2⟩
    have e : Pt g6 = Pt g5 := by funext q; unfold Pt; rw [q6.A (by decide)]
    rw [e]; exact x5 m m0 m1 mp
end

