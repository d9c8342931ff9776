/-! WHERE A NODE COMES TO STAND -/
section
variable {F G K : Int → Int} {x p e ins pp E : Int}
theorem nth_or {q : Int → Bool} {y z : Int} : ∀ (k : Nat) (s i : Int), nth q y z k s i = z ∨ (i ≤ nth q y z k s i ∧ nth q y z k s i < i + k ∧ q (nth q y z k s i) = true) := by
  intro k
  induction k with
  | zero => intro s i; left; rfl
  | succ k ih =>
    intro s i
    simp only [nth]
    by_cases c : q i = true
    · rw [if_pos c]
      by_cases d : s = y
      · rw [if_pos d]; right; exact ⟨Int.le_refl _, by omega, c⟩
      · rw [if_neg d]
        rcases ih (s + 1) (i + 1) with w | ⟨w1, w2, w3⟩
        · exact Or.inl w
        · exact Or.inr ⟨by omega, by omega, w3⟩
    · rw [if_neg c]
      rcases ih s (i + 1) with w | ⟨w1, w2, w3⟩
      · exact Or.inl w
      · exact Or.inr ⟨by omega, by omega, w3⟩
theorem nth_none {q : Int → Bool} {y z : Int} : ∀ (m : Nat) (s i : Int), (∀ j, i ≤ j → j < i + m → ¬ q j = true) → nth q y z m s i = z := by
  intro m
  induction m with
  | zero => intro s i _; rfl
  | succ m ih =>
    intro s i h
    simp only [nth]
    rw [if_neg (h i (Int.le_refl _) (by omega))]
    exact ih s (i + 1) (fun j a b => h j (by omega) (by omega))
theorem nth_ext {q : Int → Bool} {y z : Int} : ∀ (k m : Nat) (s i : Int), (∀ j, i + k ≤ j → j < i + k + m → ¬ q j = true) → nth q y z (k + m) s i = nth q y z k s i := by
  intro k
  induction k with
  | zero => intro m s i h; rw [Nat.zero_add]; exact nth_none m s i (fun j a b => h j (by omega) (by omega))
  | succ k ih =>
    intro m s i h
    rw [show k + 1 + m = (k + m) + 1 by omega]
    simp only [nth]
    rw [ih m (s + 1) (i + 1) (fun j a b => h j (by omega) (by omega)), ih m s (i + 1) (fun j a b => h j (by omega) (by omega))]
/-- where what is in a group ends -/
def EN (G : Int → Int) (ins pp E : Int) : Prop := (ins = -2 ∧ E = G 288) ∨ (24 ≤ ins ∧ ins < 32 ∧ G ins ≠ -1 ∧ STR G ins pp E)
theorem EN.rng (n : EN G ins pp E) (O : OV G) : 0 ≤ E ∧ E ≤ G 288 := by
  have o := O.1
  rcases n with ⟨_, h⟩ | ⟨_, _, _, h1, h2, h3, _⟩
  · omega
  · omega
theorem EN_ex (t : TR G) (h : ins = -2 ∨ (24 ≤ ins ∧ ins < 32 ∧ G ins ≠ -1)) : ∃ pp E, EN G ins pp E := by
  rcases h with h | ⟨h1, h2, h3⟩
  · exact ⟨0, G 288, Or.inl ⟨h, rfl⟩⟩
  · obtain ⟨pp, p0, p1, ep⟩ := t.po ins (by omega) h2 h3
    exact ⟨pp, _, Or.inr ⟨h1, h2, h3, str_ex t (by omega) p0 p1 ep⟩⟩
/-- the sons of a group stand before its end -/
theorem EN.cut (n : EN G ins pp E) (t : TR G) {y : Int} : nth (son G ins) y E (G 288).toNat 0 0 = nth (son G ins) y E E.toNat 0 0 := by
  have r := n.rng t.ov
  have w := nth_ext (q := son G ins) (y := y) (z := E) E.toNat (G 288 - E).toNat 0 0 (fun j a b z => by
    rcases n with ⟨_, h⟩ | ⟨h0, h1, h2, s1, s2, s3, s4, s5⟩
    · omega
    · have o := t.ov.2.2 j (by omega) (by omega)
      have e : G (G (256 + j)) = ins := eq_of_beq z
      have i := inch_par (F := G) o.1
      rw [e] at i
      have := (s5 j (by omega) (by omega)).mp i
      omega)
  rw [← w, show E.toNat + (G 288 - E).toNat = (G 288).toNat by omega]
theorem EN.lg (n : EN G ins pp E) (t : TR G) {y : Int} : LG G ins (nth (son G ins) y E (G 288).toNat 0 0) := by
  have r := n.rng t.ov
  have o1 := t.ov.1
  have rr := nth_rng (son G ins) y E 0 (G 288) (G 288).toNat 0 0 (by omega) (by omega) r.1 r.2
  have w := nth_or (q := son G ins) (y := y) (z := E) (G 288).toNat 0 0
  obtain ⟨to, et⟩ : ∃ to, to = nth (son G ins) y E (G 288).toNat 0 0 := ⟨_, rfl⟩
  rw [← et] at w rr ⊢
  rcases w with w | ⟨w1, w2, w3⟩
  · rw [w]
    rcases n with ⟨h1, h2⟩ | ⟨h0, h1, h2, s1, s2, s3, s4, s5⟩
    · exact ⟨r.1, r.2, Or.inl h1, fun z => by omega⟩
    · refine ⟨r.1, r.2, Or.inr ⟨by omega, (s5 (E - 1) (by omega) (by omega)).mpr ⟨by omega, by omega⟩⟩, fun z => ?_⟩
      have par : G (G (256 + E)) = -2 ∨ (1 ≤ E ∧ inch G (G (256 + (E - 1))) (G (G (256 + E)))) := t.pre E r.1 z
      rcases par with q | ⟨q1, q2⟩
      · exact Or.inl q
      · rcases inch_lin q2 ((s5 (E - 1) (by omega) (by omega)).mpr ⟨by omega, by omega⟩) with u | u
        · have o := t.ov.2.2 E r.1 z
          have := (s5 E r.1 z).mp (inch_tr (inch_par o.1) u)
          omega
        · exact Or.inr u
  · have e : G (G (256 + to)) = ins := eq_of_beq w3
    refine ⟨rr.1, rr.2, ?_, fun z => ?_⟩
    · rcases n with ⟨h1, h2⟩ | ⟨h0, h1, h2, _⟩
      · exact Or.inl h1
      · have par : G (G (256 + to)) = -2 ∨ (1 ≤ to ∧ inch G (G (256 + (to - 1))) (G (G (256 + to)))) := t.pre to rr.1 (by omega)
        rcases par with q | q
        · omega
        · rw [e] at q; exact Or.inr q
    · rw [e]; exact Or.inr inch_rfl
/-- a form that has the order of G, and of F the nodes that are kept -/
def KF (F G K : Int → Int) (x : Int) : Prop := (∀ n, keep F x n → K n = F n) ∧ K 288 = G 288 ∧ ∀ i, 0 ≤ i → i < G 288 → K (256 + i) = G (256 + i)
theorem CUT.kG (c : CUT F G x p e) (tG : TR G) {i : Int} (i0 : 0 ≤ i) (i1 : i < G 288) : keep F x (G (256 + i)) := c.pr (tG.ov.2.2 i i0 i1).1 (tG.ov.2.2 i i0 i1).2 (tG.op i i0 i1)
theorem KF.in (k : KF F G K x) (T : TV F) (c : CUT F G x p e) (tG : TR G) {i b : Int} (i0 : 0 ≤ i) (i1 : i < G 288) : inch K (K (256 + i)) b ↔ inch G (G (256 + i)) b := by
  rw [k.2.2 i i0 i1, inch_keep T k.1 (c.kG tG i0 i1), inch_keep T c.1 (c.kG tG i0 i1)]
theorem KF.val (k : KF F G K x) (c : CUT F G x p e) (tG : TR G) {i : Int} (i0 : 0 ≤ i) (i1 : i < G 288) : K (K (256 + i)) = G (G (256 + i)) := by
  have q := c.kG tG i0 i1
  rw [k.2.2 i i0 i1, k.1 _ q, c.1 _ q]
theorem KF.sn (k : KF F G K x) (c : CUT F G x p e) (tG : TR G) {i : Int} (i0 : 0 ≤ i) (i1 : i < G 288) : son K ins i = son G ins i := by
  unfold son
  rw [k.val c tG i0 i1]
theorem KF.ov (k : KF F G K x) (tG : TR G) : OV K := ⟨by rw [k.2.1]; exact tG.ov.1, by rw [k.2.1]; exact tG.ov.2.1, fun i i0 i1 => by rw [k.2.1] at i1; rw [k.2.2 i i0 i1]; exact tG.ov.2.2 i i0 i1⟩
theorem KF.op (k : KF F G K x) (c : CUT F G x p e) (tG : TR G) : OP K := fun i i0 i1 => by
  rw [k.2.1] at i1
  rw [k.val c tG i0 i1]; exact tG.op i i0 i1
theorem KF.dd (k : KF F G K x) (tG : TR G) : DO K := fun i j i0 i1 j0 j1 h => by
  rw [k.2.1] at i1 j1
  rw [k.2.2 i i0 i1, k.2.2 j j0 j1] at h
  exact tG.dd i j i0 i1 j0 j1 h
theorem KF.pre (k : KF F G K x) (T : TV F) (c : CUT F G x p e) (tG : TR G) : PRE K := fun q q0 q1 => by
  rw [k.2.1] at q1
  rw [k.val c tG q0 q1]
  have par : G (G (256 + q)) = -2 ∨ (1 ≤ q ∧ inch G (G (256 + (q - 1))) (G (G (256 + q)))) := tG.pre q q0 q1
  exact par.imp id fun z => ⟨z.1, (k.in T c tG (by omega) (by omega)).mpr z.2⟩
theorem KF.bh (k : KF F G K x) (T : TV F) (c : CUT F G x p e) (tG : TR G) (C : CE K) (s : STR G ins pp E) (i0 : 0 ≤ ins) : bhd K ins 33 (pp + 1) = E := by
  obtain ⟨s1, s2, s3, s4, s5⟩ := s
  have o2 := tG.ov.2.1
  have e := k.2.1
  obtain ⟨b0, b1, b2, b3⟩ := bhd_spec C (k.ov tG) i0 33 (pp + 1) (by omega) (by omega) (by omega)
  obtain ⟨B, eB⟩ : ∃ B, B = bhd K ins 33 (pp + 1) := ⟨_, rfl⟩
  rw [← eB] at b0 b1 b2 b3 ⊢
  rw [e] at b1 b3
  apply Classical.byContradiction
  intro z
  by_cases w : B < E
  · exact b3 (by omega) ((k.in T c tG (by omega) (by omega)).mpr ((s5 B (by omega) (by omega)).mpr ⟨by omega, w⟩))
  · have := (s5 E (by omega) (by omega)).mp ((k.in T c tG (by omega) (by omega)).mp (b2 E (by omega) (by omega)))
    omega
/-- the class finds the place -/
theorem cplace {h : HP} {a : Nat} (A : FormAt h a) (k : KF F G (Fc h a) x) (T : TV F) (c : CUT F G x p e) (tG : TR G) (TK : TV (Fc h a)) (Gc : GC h a) (CK : CE (Fc h a)) {g y : Int} (hg : g = -2 ∨ (0 ≤ g ∧ g < 8)) (y1 : -2147483648 ≤ y) (y2 : y < 2147483648) (n : EN G (gno g) pp E) (gK : 0 ≤ g → keep F x (gno g)) : fX0_placeFor a (i32 g) (i32 y) h = some (i32 (nth (son G (gno g)) y E (G 288).toNat 0 0)) := by
  have O := k.ov tG
  have P := k.op c tG
  have e1 := k.2.1
  have r := n.rng tG.ov
  have o2 := tG.ov.2.1
  have fu : FU = 1000000 := rfl
  have L := cplaceForL A TK Gc O P hg y1 y2 r.1 (by rw [e1]; exact r.2) E.toNat FU 0 0 (by omega) (by omega) (by omega) (by omega) (by omega)
  rw [nth_congr E.toNat 0 0 (fun j a b => k.sn c tG (i := j) (by omega) (by omega)), ← n.cut tG] at L
  unfold fX0_placeFor
  rw [A.o, gd_tt]
  rcases hg with hg | ⟨g0, g1⟩
  · have en : E = G 288 := by
      rcases n with ⟨_, h2⟩ | ⟨h1, _⟩
      · exact h2
      · have : gno g = -2 := if_neg (by omega)
        omega
    rw [if_pos (by rw [i32_eq (by omega) (by omega) (by omega) (by omega)]; exact hg)]
    unfold jX0_placeFor_21
    rw [en] at L ⊢
    rw [Fc_mne, e1]
    exact L
  · have eg : gno g = 24 + g := if_pos ⟨g0, g1⟩
    rw [if_neg (by rw [i32_eq (by omega) (by omega) (by omega) (by omega)]; omega), gd_tt, i32_add, ← eg]
    rcases n with ⟨h1, _⟩ | ⟨h0, h1, h2, s⟩
    · omega
    have s' := s
    obtain ⟨s1, s2, s3, s4, s5⟩ := s
    have gp : Fc h a (gno g) ≠ -1 := by
      have q := gK g0
      rw [k.1 _ q]; exact q.2.2.1
    have epc : Fc h a (256 + pp) = gno g := by rw [k.2.2 pp s1 (by omega)]; exact s4
    have u : ∀ q, 0 ≤ q → q < pp → Fc h a (256 + q) ≠ gno g := fun q q0 q1 z => by
      have := k.dd tG q pp q0 (by omega) s1 (by omega) (z.trans epc.symm)
      omega
    rw [cend A TK Gc O P CK (by omega) h1 s1 (by omega) epc u]
    rw [eof_bhd ⟨O, P, TK, CK, k.pre T c tG⟩ (k.dd tG) (by omega) h1 gp s1 epc (Fc h a 288 - (pp + 1)).toNat 33 (pp + 1) (by omega) (by omega) (by omega) (by rw [show pp + 1 - 1 = pp by omega, epc]; exact inch_rfl), k.bh T c tG CK s' (by omega), bn_s]
    unfold jX0_placeFor_21
    exact L
/-- the model finds the place -/
theorem mplace {h : HP} (M : MS h) (k : KF F G (Wm h) x) (T : TV F) (c : CUT F G x p e) (tG : TR G) (V : AV (Wm h)) (CK : CE (Wm h)) {y : Int} (y1 : -2147483648 ≤ y) (y2 : y < 2147483648) (n : EN G ins pp E) : fX11_placeFor 983 (i32 ins) (i32 y) h = some (i32 (nth (son G ins) y E (G 288).toNat 0 0)) := by
  have O := k.ov tG
  have e1 := k.2.1
  have o1 := tG.ov.1
  have o2 := tG.ov.2.1
  have fu : FU = 1000000 := rfl
  have hi : -2 ≤ ins ∧ ins < 32 := by rcases n with h | h <;> omega
  have bh : fX11_behind 983 (i32 0) (i32 ins) h = some (i32 E) := by
    rcases n with ⟨h1, h2⟩ | ⟨h0, h1, h2, s⟩
    · rw [behindN_s M (by omega) (by omega) (by omega) (by omega), Fm0, e1, h2]
    · have s' := s
      obtain ⟨s1, s2, s3, s4, s5⟩ := s
      have epc : Wm h (256 + pp) = ins := by rw [k.2.2 pp s1 (by omega)]; exact s4
      rw [behind_s M (by omega) (by omega) (by omega) h1 (by rw [Fm0]; exact V) (by rw [Fm0]; exact O) (by rw [Fm0]; exact CK) s1 (by rw [Fm0, e1]; omega) (by rw [Fm0]; exact epc) (fun q q0 q1 z => by
        rw [Fm0] at z
        have := k.dd tG q pp q0 (by omega) s1 (by omega) (z.trans epc.symm)
        omega), Fm0, k.bh T c tG CK s' (by omega)]
  have L := placeForL_s (K := fun w1 w2 => gd (isO h w1 11) <| bn (fX11_behind w1 (i32 0) w2 h) fun v5 => some v5) (g := ins) (x := y) (e := E) M hi.1 hi.2 y1 y2 (by rw [Fm0]; exact V) (by rw [Fm0]; exact O) (by
    show (gd (isO h 983 11) <| bn (fX11_behind 983 (i32 0) (i32 ins) h) fun v5 => some v5) = _
    rw [M.o, gd_tt, bh, bn_s]) (G 288).toNat FU 0 0 (by omega) (by omega) (by omega) (by rw [Fm0, e1]; omega) (by omega)
  unfold fX11_placeFor
  rw [Fm0, nth_congr (G 288).toNat 0 0 (fun j a b => k.sn c tG (i := j) (by omega) (by omega))] at L
  exact L
end

