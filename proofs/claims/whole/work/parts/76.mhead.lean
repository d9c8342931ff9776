/-! THE HEAD, THE MODEL -/
section
variable {g : HP} {b : Int → Int} {n : Int} {was : Nat} {F : Int → Int}
theorem mempL {K : Nat → Int32 → HP → Option (Int32 × HP)} {v1 : Int32} : ∀ (d m v : Nat) (f : HP), v + d = 292 → d < m → MS f → ∃ g, lX11_load_11 K m 983 v1 (i32 (v : Int)) f = K 983 v1 g ∧ Mo [987] f g ∧ (∀ i, v ≤ i → i < 292 → hL g 987 i = if i < 32 then i64 (-1) else i64 0) ∧ ∀ i, (i < v ∨ 292 ≤ i) → hL g 987 i = hL f 987 i := by
  intro d
  induction d with
  | zero =>
    intro n v f hv hn M
    obtain ⟨m, rfl⟩ : ∃ m, n = m + 1 := ⟨n - 1, by omega⟩
    refine ⟨f, ?_, Mo.r, fun i _ _ => (by omega), fun i _ => rfl⟩
    rw [elX11_load_11]; unfold bX11_load_11
    rw [if_pos (by rw [i32_le (by omega) (by omega) (by omega) (by omega)]; omega)]
  | succ d ih =>
    intro n v f hv hn M
    obtain ⟨m, rfl⟩ : ∃ m, n = m + 1 := ⟨n - 1, by omega⟩
    obtain ⟨f1, e1⟩ : ∃ f1, f1 = sL f 987 v (if v < 32 then i64 (-1) else i64 0) := ⟨_, rfl⟩
    have p1 : Mo [987] f f1 := by rw [e1]; exact Mo_L (by decide) _ _
    obtain ⟨g, a1, a2, a3, a4⟩ := ih m (v + 1) f1 (by omega) (by omega) (p1.ms M)
    have r1 : ∀ i, hL f1 987 i = if i = v then (if v < 32 then i64 (-1) else i64 0) else hL f 987 i := fun i => by
      rw [e1, rLL]
      by_cases y : i = v
      · rw [if_pos ⟨rfl, y⟩, if_pos y]
      · rw [if_neg (fun z => y z.2), if_neg y]
    refine ⟨g, ?_, p1.t a2, fun i i0 i1 => ?_, fun i hi => ?_⟩
    · have st : ∀ s : Int64, s = (if v < 32 then i64 (-1) else i64 0) → jX11_load_36 (fun v0 v1 v2 h => lX11_load_11 K m v0 v1 v2 h) 983 v1 (i32 (v : Int)) s (i32 (v : Int)) (hR f 709 983) f = K 983 v1 g := fun s hs => by
        unfold jX11_load_36
        rw [M.r_world, oc_s, M.o_world, gd_tt, M.n_world, i32_inb (by omega) (by omega) (by omega), gd_tt, i32_cn (by omega) (by omega), show ((v : Int)).toNat = v from rfl, hs, ← e1, lt_e, lt_e, i32_add]
        exact a1
      rw [elX11_load_11]; unfold bX11_load_11
      rw [if_neg (by rw [i32_le (by omega) (by omega) (by omega) (by omega)]; omega), M.o, gd_tt]
      by_cases c : v < 32
      · rw [if_neg (by rw [i32_le (by omega) (by omega) (by omega) (by omega)]; omega)]
        exact st _ (by rw [if_pos c])
      · rw [if_pos (by rw [i32_le (by omega) (by omega) (by omega) (by omega)]; omega)]
        exact st _ (by rw [if_neg c])
    · by_cases y : i = v
      · rw [y, a4 _ (by omega), r1, if_pos rfl]
      · exact a3 i (by omega) i1
    · rw [a4 i (by omega), r1, if_neg (by omega)]
def los (i : Nat) : Int := if 2 ≤ i then 1 else 14
theorem los_e (i : Nat) : los i = 14 ∨ los i = 1 := by unfold los; split <;> omega
theorem num_st {K : Nat → Int32 → HP → Option (Int32 × HP)} {v1 : Int32} {m i : Nat} (hi : i < 3) (M : MS g) : lX11_load_56 K (m + 1) 983 v1 (i32 (i : Int)) g = (bn2 (fX11_number 983 (i32 (los i)) (i32 60) g) fun v103 h104 => gd (isO h104 986 20) <| gd (inb (i32 (i : Int)) (hln h104 986)) <| lt (sA h104 986 i v103) fun h109 => lX11_load_56 K m 983 v1 (i32 ((i + 1 : Nat) : Int)) h109) := by
  rw [elX11_load_56]; unfold bX11_load_56
  have j : ∀ s : Int32, jX11_load_78 (fun v0 v1 v2 h => lX11_load_56 K m v0 v1 v2 h) 983 v1 (i32 (i : Int)) s 983 (i32 (i : Int)) (hR g 708 983) g = (bn2 (fX11_number 983 s (i32 60) g) fun v103 h104 => gd (isO h104 986 20) <| gd (inb (i32 (i : Int)) (hln h104 986)) <| lt (sA h104 986 i v103) fun h109 => lX11_load_56 K m 983 v1 (i32 ((i + 1 : Nat) : Int)) h109) := fun s => by
    unfold jX11_load_78
    rw [M.o, gd_tt, M.r_readSizes]
    have e : ∀ v h, (oc (some 986) fun o105 => gd (isO h o105 20) <| gd (inb (i32 (i : Int)) (hln h o105)) <| lt (sA h o105 (i32 (i : Int)).toNatClampNeg v) fun h109 => lt (i32 (i : Int) + i32 1) fun v110 => lX11_load_56 K m 983 v1 v110 h109) = (gd (isO h 986 20) <| gd (inb (i32 (i : Int)) (hln h 986)) <| lt (sA h 986 i v) fun h109 => lX11_load_56 K m 983 v1 (i32 ((i + 1 : Nat) : Int)) h109) := fun v h => by
      rw [oc_s, i32_cn (by omega) (by omega), i32_add]
      rfl
    simp only [e]
  rw [if_neg (by rw [i32_le (by omega) (by omega) (by omega) (by omega)]; omega), M.o, gd_tt]
  by_cases c : 2 ≤ i
  · rw [if_pos (by rw [i32_le (by omega) (by omega) (by omega) (by omega)]; omega), j]
    have : los i = 1 := if_pos c
    rw [this]
  · rw [if_neg (by rw [i32_le (by omega) (by omega) (by omega) (by omega)]; omega), j]
    have : los i = 14 := if_neg c
    rw [this]
theorem num_end {K : Nat → Int32 → HP → Option (Int32 × HP)} {v1 : Int32} {m : Nat} : lX11_load_56 K (m + 1) 983 v1 (i32 ((3 : Nat) : Int)) g = K 983 v1 g := by
  rw [elX11_load_56]; unfold bX11_load_56
  rw [if_pos (by rw [i32_le (by omega) (by omega) (by omega) (by omega)]; omega)]
theorem num_z {K : Nat → Int32 → HP → Option (Int32 × HP)} {v1 : Int32} : ∀ (d m i : Nat) (g : HP), i + d = 3 → d < m → MS g → hI g 721 983 = i32 0 → ∃ g', lX11_load_56 K m 983 v1 (i32 (i : Int)) g = K 983 v1 g' ∧ Mo [986] g g' := by
  intro d
  induction d with
  | zero =>
    intro m i g hi hm M z
    obtain ⟨m, rfl⟩ : ∃ x, m = x + 1 := ⟨m - 1, by omega⟩
    obtain rfl : i = 3 := by omega
    exact ⟨g, num_end, Mo.r⟩
  | succ d ih =>
    intro m i g hi hm M z
    obtain ⟨m, rfl⟩ : ∃ x, m = x + 1 := ⟨m - 1, by omega⟩
    obtain ⟨v, e⟩ : ∃ v, fX11_number 983 (i32 (los i)) (i32 60) g = some (v, g) := number_z M z
    obtain ⟨g1, e1⟩ : ∃ g1, g1 = sA g 986 i v := ⟨_, rfl⟩
    have q1 : Mo [986] g g1 := by rw [e1]; exact Mo_A (by decide) _ _
    obtain ⟨g', a1, a2⟩ := ih m (i + 1) g1 (by omega) (by omega) (q1.ms M) (by rw [q1.I (by decide)]; exact z)
    refine ⟨g', ?_, q1.t a2⟩
    rw [num_st (by omega) M, e, bn2_s, M.o_readSizes, gd_tt, M.n_readSizes, i32_inb (by omega) (by omega) (by omega), gd_tt, ← e1, lt_e]
    exact a1
theorem num_g {K : Nat → Int32 → HP → Option (Int32 × HP)} {v1 : Int32} (n0 : 0 ≤ n) (n1 : n ≤ 1200) : ∀ (d m i : Nat) (g : HP), i + d = 3 → d < m → MQt g b n (1 + i) → ∃ g', lX11_load_56 K m 983 v1 (i32 (i : Int)) g = K 983 v1 g' ∧ Mo (986 :: 721 :: 706 :: lnN) g g' ∧ (((∀ q, i ≤ q → q < 3 → pin (tkn b n (1 + q)) (los q) 60 = true ∧ hA g' 986 q = i32 (tkv (tkn b n (1 + q)))) ∧ MQt g' b n 4 ∧ ∀ q, q < i → hA g' 986 q = hA g 986 q) ∨ ∃ q, i ≤ q ∧ q < 3 ∧ (∀ q', i ≤ q' → q' < q → pin (tkn b n (1 + q')) (los q') 60 = true) ∧ ¬ pin (tkn b n (1 + q)) (los q) 60 = true ∧ hI g' 721 983 = i32 0 ∧ hI g' 706 983 = i32 (tks (tkn b n (1 + q)))) := by
  intro d
  induction d with
  | zero =>
    intro m i g hi hm Q
    obtain ⟨m, rfl⟩ : ∃ x, m = x + 1 := ⟨m - 1, by omega⟩
    obtain rfl : i = 3 := by omega
    exact ⟨g, num_end, Mo.r, Or.inl ⟨fun q q0 q1 => by omega, Q, fun _ _ => rfl⟩⟩
  | succ d ih =>
    intro m i g hi hm Q
    obtain ⟨m, rfl⟩ : ∃ x, m = x + 1 := ⟨m - 1, by omega⟩
    have lr := los_e i
    rcases number_s n0 n1 Q (lo := los i) (hi := 60) (by omega) (by omega) (by omega) (by omega) with ⟨k1, k2, k3, g1, e1, p1, Q1⟩ | ⟨k1, v, g1, e1, p1, z1, z2⟩
    · obtain ⟨g2, e2⟩ : ∃ g2, g2 = sA g1 986 i (i32 (tkv (tkn b n (1 + i)))) := ⟨_, rfl⟩
      have p2 : Mo [986] g1 g2 := by rw [e2]; exact Mo_A (by decide) _ _
      have M1 := Q1.ms
      have r2 : ∀ q, hA g2 986 q = if q = i then i32 (tkv (tkn b n (1 + i))) else hA g1 986 q := fun q => by
        rw [e2, rAA]
        by_cases y : q = i
        · rw [if_pos ⟨rfl, y⟩, if_pos y]
        · rw [if_neg (fun z => y z.2), if_neg y]
      obtain ⟨g', a1, a2, a3⟩ := ih m (i + 1) g2 (by omega) (by omega) (Q1.mo p2 (by decide))
      have A1 : hA g1 986 = hA g 986 := p1.A (by decide)
      refine ⟨g', ?_, ((p1.w (by decide)).t (p2.w (by decide))).t a2, ?_⟩
      · rw [num_st (by omega) Q.ms, e1, bn2_s, M1.o_readSizes, gd_tt, M1.n_readSizes, i32_inb (by omega) (by omega) (by omega), gd_tt, ← e2, lt_e]
        exact a1
      · have pk : pin (tkn b n (1 + i)) (los i) 60 = true := pin_t.mpr ⟨k1, k2, k3⟩
        rcases a3 with ⟨x1, x2, x3⟩ | ⟨q, x1, x2, x3, x4, x5, x6⟩
        · refine Or.inl ⟨fun q q0 q1 => ?_, x2, fun q hq => by rw [x3 q (by omega), r2, if_neg (by omega), A1]⟩
          by_cases y : q = i
          · rw [y]; exact ⟨pk, by rw [x3 i (by omega), r2, if_pos rfl]⟩
          · exact x1 q (by omega) q1
        · refine Or.inr ⟨q, by omega, x2, fun q' q0 q1 => ?_, x4, x5, x6⟩
          by_cases y : q' = i
          · rw [y]; exact pk
          · exact x3 q' (by omega) q1
    · have M1 := p1.ms Q.ms
      obtain ⟨g2, e2⟩ : ∃ g2, g2 = sA g1 986 i v := ⟨_, rfl⟩
      have p2 : Mo [986] g1 g2 := by rw [e2]; exact Mo_A (by decide) _ _
      obtain ⟨g', a1, a2⟩ := num_z (K := K) (v1 := v1) d m (i + 1) g2 (by omega) (by omega) (p2.ms M1) (by rw [p2.I (by decide)]; exact z1)
      refine ⟨g', ?_, ((p1.w (by decide)).t (p2.w (by decide))).t (a2.w (by decide)), Or.inr ⟨i, Nat.le_refl _, by omega, fun q' q0 q1 => by omega, by rw [pin_t]; exact k1, ?_, ?_⟩⟩
      · rw [num_st (by omega) Q.ms, e1, bn2_s, M1.o_readSizes, gd_tt, M1.n_readSizes, i32_inb (by omega) (by omega) (by omega), gd_tt, ← e2, lt_e]
        exact a1
      · rw [a2.I (by decide), p2.I (by decide)]; exact z1
      · rw [a2.I (by decide), p2.I (by decide)]; exact z2
/-- the model reads the head -/
theorem mhead {J : Nat → Int32 → HP → Option (Int32 × HP)} {v1 : Int32} (n0 : 0 ≤ n) (n1 : n ≤ 1200) (Q : MQt g b n 0) : ∃ g', (bn (fX11_isWord 983 (i64 212557) g) fun v11 => bn (fX11_takes 983 v11 g) fun h13 => lX11_load_56 (fun w14 w15 h16 => gd (isO h16 w14 11) <| bn (fX11_isHere w14 (i32 59) h16) fun v19 => bn (fX11_takes w14 v19 h16) fun h21 => J w14 w15 h21) FU 983 v1 (i32 0) h13) = J 983 v1 g' ∧ Mo (986 :: 721 :: 706 :: lnN) g g' ∧ ((phd (tkn b n)).1 = true → MQt g' b n 5 ∧ hA g' 986 0 = i32 (tkv (tkn b n 1)) ∧ hA g' 986 1 = i32 (tkv (tkn b n 2)) ∧ hA g' 986 2 = i32 (tkv (tkn b n 3))) ∧ ((phd (tkn b n)).1 = false → hI g' 721 983 = i32 0 ∧ hI g' 706 983 = i32 (tks (tkn b n (phd (tkn b n)).2))) := by
  have w0 := isW n0 Q 0 (by decide)
  have e0 : kws.getD 0 0 = 212557 := rfl
  rw [e0] at w0
  rw [w0, bn_s]
  obtain ⟨K, eK⟩ : ∃ K : Nat → Int32 → HP → Option (Int32 × HP), K = fun w14 w15 h16 => gd (isO h16 w14 11) <| bn (fX11_isHere w14 (i32 59) h16) fun v19 => bn (fX11_takes w14 v19 h16) fun h21 => J w14 w15 h21 := ⟨_, rfl⟩
  have kK : ∀ g2, K 983 v1 g2 = (gd (isO g2 983 11) <| bn (fX11_isHere 983 (i32 59) g2) fun v19 => bn (fX11_takes 983 v19 g2) fun h21 => J 983 v1 h21) := fun g2 => by rw [eK]
  rw [← eK]
  have zK : ∀ g2, MS g2 → hI g2 721 983 = i32 0 → K 983 v1 g2 = J 983 v1 g2 := fun g2 M2 z2 => by
    rw [kK, M2.o, gd_tt, isHere_z M2 z2, bn_s, takes_z M2 z2, bn_s]
  by_cases c0 : tkk (tkn b n 0) = 4
  rotate_left
  · obtain ⟨g1, a1, p1, z1, z2⟩ := takes_f Q
    have M1 := p1.ms Q.ms
    obtain ⟨g2, a2, p2⟩ := num_z (K := K) (v1 := v1) 3 FU 0 g1 (by omega) (by decide) M1 z1
    have ph : phd (tkn b n) = (false, 0) := by unfold phd; rw [if_neg c0]
    have z3 : hI g2 721 983 = i32 0 := by rw [p2.I (by decide)]; exact z1
    refine ⟨g2, ?_, (p1.w (by decide)).t (p2.w (by decide)), fun w => ?_, fun _ => ⟨z3, ?_⟩⟩
    · rw [decide_eq_false (by omega), a1, bn_s]
      refine Eq.trans a2 (zK g2 (p2.ms M1) z3)
    · rw [ph] at w; cases w
    · rw [ph, p2.I (by decide)]; exact z2
  obtain ⟨g1, a1, p1, Q1⟩ := takes_t n0 n1 Q
  rw [decide_eq_true (by omega), a1, bn_s]
  obtain ⟨g2, a2, p2, o2⟩ := num_g (K := K) (v1 := v1) n0 n1 3 FU 0 g1 (by omega) (by decide) Q1
  have q2 : Mo (986 :: 721 :: 706 :: lnN) g g2 := (p1.w (by decide)).t p2
  have M2 := q2.ms Q.ms
  rcases o2 with ⟨x1, Q2, _⟩ | ⟨q, y0, y1, y2, y3, y4, y5⟩
  · have k1 := (x1 0 (by omega) (by omega)).1
    have k2 := (x1 1 (by omega) (by omega)).1
    have k3 := (x1 2 (by omega) (by omega)).1
    have k1 : pin (tkn b n 1) 14 60 = true := k1
    have k2 : pin (tkn b n 2) 14 60 = true := k2
    have k3 : pin (tkn b n 3) 1 60 = true := k3
    have h59 := isHere_s n0 Q2 (s := 59) (by omega) (by omega)
    by_cases c4 : tkk (tkn b n 4) = 59
    · obtain ⟨g3, a3, p3, Q3⟩ := takes_t n0 n1 Q2
      have ph : phd (tkn b n) = (true, 5) := by
        unfold phd
        rw [if_pos c0, if_pos k1, if_pos k2, if_pos k3, if_pos c4]
      refine ⟨g3, ?_, q2.t (p3.w (by decide)), fun _ => ⟨Q3, ?_, ?_, ?_⟩, fun w => ?_⟩
      · refine Eq.trans a2 ?_
        rw [kK, M2.o, gd_tt, h59, bn_s, decide_eq_true c4, a3, bn_s]
      · rw [p3.A (by decide)]; exact (x1 0 (by omega) (by omega)).2
      · rw [p3.A (by decide)]; exact (x1 1 (by omega) (by omega)).2
      · rw [p3.A (by decide)]; exact (x1 2 (by omega) (by omega)).2
      · rw [ph] at w; cases w
    · obtain ⟨g3, a3, p3, z1, z2⟩ := takes_f Q2
      have ph : phd (tkn b n) = (false, 4) := by
        unfold phd
        rw [if_pos c0, if_pos k1, if_pos k2, if_pos k3, if_neg c4]
      refine ⟨g3, ?_, q2.t (p3.w (by decide)), fun w => ?_, fun _ => ⟨z1, by rw [ph]; exact z2⟩⟩
      · refine Eq.trans a2 ?_
        rw [kK, M2.o, gd_tt, h59, bn_s, decide_eq_false c4, a3, bn_s]
      · rw [ph] at w; cases w
  · have ph : phd (tkn b n) = (false, 1 + q) := by
      unfold phd
      rw [if_pos c0]
      rcases (show q = 0 ∨ q = 1 ∨ q = 2 by omega) with e | e | e
      · rw [e] at y3
        have y3 : ¬ pin (tkn b n 1) 14 60 = true := y3
        rw [if_neg y3, e]
      · rw [e] at y3 y2
        have y3 : ¬ pin (tkn b n 2) 14 60 = true := y3
        have k1 : pin (tkn b n 1) 14 60 = true := y2 0 (by omega) (by omega)
        rw [if_pos k1, if_neg y3, e]
      · rw [e] at y3 y2
        have y3 : ¬ pin (tkn b n 3) 1 60 = true := y3
        have k1 : pin (tkn b n 1) 14 60 = true := y2 0 (by omega) (by omega)
        have k2 : pin (tkn b n 2) 14 60 = true := y2 1 (by omega) (by omega)
        rw [if_pos k1, if_pos k2, if_neg y3, e]
    refine ⟨g2, ?_, q2, fun w => ?_, fun _ => ⟨y4, by rw [ph]; exact y5⟩⟩
    · exact Eq.trans a2 (zK g2 M2 y4)
    · rw [ph] at w; cases w
end

