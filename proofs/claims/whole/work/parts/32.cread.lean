/-! THE CLASS READS NODES: the relation -/
def LF : List Nat := 195 :: 1064 :: 5063 :: (lpP ++ (List.range 32).map (fun i => 5067 + i))
theorem LF_lo : ∀ x ∈ LF, x < 6000 := by
  intro x hx
  have h : LF.all (fun x => decide (x < 6000)) = true := by decide +kernel
  have := List.all_eq_true.mp h x hx
  simpa using this
theorem LF_T : okT LF := by
  refine ⟨by decide +kernel, fun x hx => ?_⟩
  rw [List.contains_eq_mem, decide_eq_false_iff_not]
  intro m
  have := LF_lo _ m
  omega
theorem LF_nd {i : Nat} (hi : i < 32) : 5000 + (63 + 4 + i) ∈ LF := by
  unfold LF
  refine List.mem_cons_of_mem _ (List.mem_cons_of_mem _ (List.mem_cons_of_mem _ (List.mem_append_right _ (List.mem_map.mpr ⟨i, List.mem_range.mpr hi, by omega⟩))))
theorem LF_lp : ∀ x ∈ lpP, x ∈ LF := fun x hx => List.mem_cons_of_mem _ (List.mem_cons_of_mem _ (List.mem_cons_of_mem _ (List.mem_append_left _ hx)))
theorem lsub_of {l m : List Nat} (h : ∀ x ∈ l, x ∈ m) : lsub l m = true := by
  unfold lsub
  rw [List.all_eq_true]
  intro x hx
  rw [List.contains_eq_mem, decide_eq_true_eq]
  exact h x hx
theorem LF_cond {i : Nat} (hi : i < 32) : lsub (195 :: (5000 + (63 + 4 + i)) :: lpP) LF = true := by
  apply lsub_of
  intro x hx
  rcases List.mem_cons.mp hx with h | h
  · rw [h]; exact List.mem_cons_self
  · rcases List.mem_cons.mp h with h | h
    · rw [h]; exact LF_nd hi
    · exact LF_lp x h
/-- the cells that a new node's making writes -/
def LN (i : Nat) : List Nat := [1000 + (63 + 1), 5000 + 63, 5000 + (63 + 4 + i), 448, 449, 450, 451]
theorem LN_LF {i : Nat} (hi : i < 32) : lsub (LN i) LF = true := by
  apply lsub_of
  intro x hx
  simp only [LN, List.mem_cons, List.not_mem_nil, or_false] at hx
  rcases hx with h | h | h | h | h | h | h
  · rw [h]; decide +kernel
  · rw [h]; decide +kernel
  · rw [h]; exact LF_nd hi
  · rw [h]; decide +kernel
  · rw [h]; decide +kernel
  · rw [h]; decide +kernel
  · rw [h]; decide +kernel
theorem LN_not {i x : Nat} (h1 : x ≠ 1064) (h2 : x ≠ 5063) (h3 : x ≠ 5067 + i) (h4 : x < 448 ∨ 451 < x) : (LN i).contains x = false := by
  rw [List.contains_eq_mem, decide_eq_false_iff_not]
  simp only [LN, List.mem_cons, List.not_mem_nil, or_false]
  omega
def seg (F : Int → Int) (LL : List Int) (was : Nat) (n : Int) : List Int := (LL.drop (F (192 + n) - was).toNat).take (F (224 + n)).toNat
def CNn (g : HP) (F : Int → Int) (S : List TS) (LL : List Int) (ts : Nat → Nat) (was : Nat) (C0 : Int → List Int32) (old : Int → Bool) (z0 : Nat) (n : Int) : Prop := (old n = true → CND g z0 (lfM g) opM (63 + 4 + n.toNat) (C0 n) (tcL (C0 n)) (RlL (C0 n))) ∧ (old n = false → CND g (hsz g) (lfT ts S.length) opI (63 + 4 + n.toNat) (seg F LL was n) (tcI (seg F LL was n)) (i32 0))
/-- the terms of the tests: new ones, in rising order -/
def TZ (g : HP) (S : List TS) (ts : Nat → Nat) (z0 : Nat) : Prop := z0 ≤ hsz g ∧ ∀ k, k < S.length → z0 ≤ ts k ∧ ts k < hsz g ∧ ∀ k', k' < k → ts k' < ts k
theorem TZ.mo {g g' : HP} {S : List TS} {ts : Nat → Nat} {z0 : Nat} (z : TZ g S ts z0) (h : hsz g ≤ hsz g') : TZ g' S ts z0 := ⟨Nat.le_trans z.1 h, fun k hk => by
  obtain ⟨a, b, c⟩ := z.2 k hk
  exact ⟨a, Nat.lt_of_lt_of_le b h, c⟩⟩
def RPc (g : HP) (F : Int → Int) (S : List TS) (LL : List Int) (ts : Nat → Nat) (was : Nat) (C0 : Int → List Int32) (old : Int → Bool) (z0 : Nat) : Prop := FRb g 63 F ∧ (∀ n, 0 ≤ n → n < 32 → F n ≠ -1 → CNn g F S LL ts was C0 old z0 n) ∧ TZ g S ts z0
def CV (F : Int → Int) (LL : List Int) (was : Nat) (old : Int → Bool) : Prop := ∀ n, 0 ≤ n → n < 32 → F n ≠ -1 → old n = false → 0 ≤ F (224 + n) ∧ (F (224 + n) = 0 ∨ ((was : Int) ≤ F (192 + n) ∧ F (192 + n) + F (224 + n) ≤ was + LL.length))
theorem seg_0 {F : Int → Int} {LL : List Int} {was : Nat} {n : Int} (h : F (224 + n) = 0) : seg F LL was n = [] := by unfold seg; rw [h]; rfl
theorem seg_app {F : Int → Int} {LL X : List Int} {was : Nat} {n : Int} (h0 : 0 ≤ F (224 + n)) (h : F (224 + n) = 0 ∨ ((was : Int) ≤ F (192 + n) ∧ F (192 + n) + F (224 + n) ≤ was + LL.length)) : seg F (LL ++ X) was n = seg F LL was n := by
  rcases h with h | ⟨h1, h2⟩
  · rw [seg_0 h, seg_0 h]
  · unfold seg
    rw [List.drop_append_of_le_length (by omega), List.take_append_of_le_length (by rw [List.length_drop]; omega)]
theorem seg_eq {F G : Int → Int} {LL : List Int} {was : Nat} {n : Int} (h1 : G (192 + n) = F (192 + n)) (h2 : G (224 + n) = F (224 + n)) : seg G LL was n = seg F LL was n := by unfold seg; rw [h1, h2]
section
variable {g g' : HP} {F : Int → Int} {S : List TS} {LL : List Int} {ts : Nat → Nat} {was : Nat} {C0 : Int → List Int32} {old : Int → Bool} {z0 : Nat} {k : Nat} {l : List Nat}
theorem RPc_co (R : RPc g F S LL ts was C0 old z0) (A : FormAt g 63) (p : Co k l g g') (o : okT l) (f : okF l 63) : RPc g' F S LL ts was C0 old z0 := by
  refine ⟨FRb_co R.1 A p f, fun n h0 h1 h2 => ?_, R.2.2.mo p.sk.1⟩
  obtain ⟨a, c⟩ := R.2.1 n h0 h1 h2
  have hb := isO_lt (A.on (show n.toNat < 32 by omega))
  have nb := f.2.2 n.toNat (by omega)
  exact ⟨fun z => CND_co (a z) R.2.2.1 (Nat.le_refl _) p o f.1 hb nb (lfM_co p o), fun z => CND_co (c z) (Nat.le_refl _) p.sk.1 p o f.1 hb nb (fun _ _ _ _ h => h)⟩
theorem setc_lo {node fr sz x : Int} (h0 : 0 ≤ node) (h1 : node < 32) (h : x < 192 ∨ 256 ≤ x) : setc F node fr sz x = F x := by
  unfold setc
  rw [updI_ne (by omega), updI_ne (by omega)]
theorem setc_fr {node fr sz : Int} : setc F node fr sz (192 + node) = fr := by
  unfold setc
  rw [updI_ne (by omega), updI_at rfl]
theorem setc_sz {node fr sz : Int} : setc F node fr sz (224 + node) = sz := by
  unfold setc
  rw [updI_at rfl]
/-- the tree with a node more, as the class holds it -/
theorem RPc_new (R : RPc g F S LL ts was C0 old z0) (A : FormAt g 63) (t : TF F) (p : Co k l g g') (o : okT l) (on : okN l) {node ins pl srt nm : Int} (h0 : 0 ≤ node) (h1 : node < 32) (nab : F node = -1) (no : old node = false) (gk : grok F ins) (P : PL F ins pl) (m1 : F 288 < 32) (ol : ∀ m : Nat, m < 32 → m ≠ node.toNat → l.contains (5000 + (63 + 4 + m)) = false) {G : Int → Int}
    (hG : ∀ x, 0 ≤ x → (x < 64 ∨ (256 ≤ x ∧ x ≤ 288)) → G x = addF F pl node ins srt nm x) (hG2 : ∀ x, 64 ≤ x → x < 256 → x ≠ 64 + node → x ≠ 96 + node → x ≠ 128 + node → x ≠ 160 + node → x ≠ 192 + node → x ≠ 224 + node → G x = F x) (hz : G (224 + node) = 0)
    (x3 : hI g' 3 63 = i32 (G 289)) (x4 : hI g' 4 63 = i32 (G 290)) (x5 : hI g' 5 63 = i32 (F 288 + 1)) (xA : hA g' 64 = up1 (shN (hA g 64) pl (F 288)) pl.toNat (i32 node)) (x128 : hI g' 128 (63 + 4 + node.toNat) = i32 1) (xN : NDc g' (63 + 4 + node.toNat) G node) (x135 : hR g' 135 (63 + 4 + node.toNat) = none) (x136 : hI g' 136 (63 + 4 + node.toNat) = i32 0) (x137 : hI g' 137 (63 + 4 + node.toNat) = i32 0) : RPc g' G S LL ts was C0 old z0 := by
  obtain ⟨tr, -⟩ := t
  obtain ⟨⟨r3, r4, r5, ro, rn⟩, rc, rz⟩ := R
  obtain ⟨p0, p1, -⟩ := P
  have O := tr.ov
  have gne : ∀ n, 0 ≤ n → n < 32 → n ≠ node → G n = F n := fun n a c d => by rw [hG n a (by omega), addF_n p0 h0 h1 c, if_neg d]
  have ab : ∀ n, 0 ≤ n → n < 32 → n ≠ node → hI g' 128 (63 + 4 + n.toNat) = hI g 128 (63 + 4 + n.toNat) ∧ (NDc g (63 + 4 + n.toNat) F n → NDc g' (63 + 4 + n.toNat) G n) := by
    intro n a c d
    have hb := isO_lt (A.on (show n.toNat < 32 by omega))
    have nb := ol n.toNat (by omega) (by omega)
    refine ⟨((okN_I on p hb nb).1 128 (by omega) (by omega)).1, fun z => ?_⟩
    have z' := NDc_co z p on hb nb
    unfold NDc at z' ⊢
    rw [gne n a c d, hG (32 + n) (by omega) (by omega), addF_lo p0 h0 h1 (by omega), if_neg (by omega), if_neg (by omega), if_neg (by omega), if_neg (by omega), hG2 (64 + n) (by omega) (by omega) (by omega) (by omega) (by omega) (by omega) (by omega) (by omega), hG2 (96 + n) (by omega) (by omega) (by omega) (by omega) (by omega) (by omega) (by omega) (by omega), hG2 (128 + n) (by omega) (by omega) (by omega) (by omega) (by omega) (by omega) (by omega) (by omega), hG2 (160 + n) (by omega) (by omega) (by omega) (by omega) (by omega) (by omega) (by omega) (by omega)]
    exact z'
  have g288 : G 288 = F 288 + 1 := by rw [hG 288 (by omega) (by omega), addF_288 h0 h1]
  refine ⟨⟨x3, x4, by rw [g288]; exact x5, fun i i0 i1 => ?_, fun n a c => ?_⟩, fun n a c d => ?_, rz.mo p.sk.1⟩
  · rw [g288] at i1
    show hA g' 64 i.toNat = _
    rw [xA, up1_e, hG (256 + i) (by omega) (by omega)]
    unfold shN
    by_cases c1 : i < pl
    · rw [if_neg (by omega), if_neg (by omega), addF_o1 h0 h1 m1 p1 i0 c1]
      exact ro i i0 (by omega)
    · by_cases c2 : i = pl
      · rw [if_pos (by omega), c2, addF_o2 h0 h1 m1 p0 p1]
      · rw [if_neg (by omega), if_pos (by omega), addF_o3 h0 h1 m1 p0 (by omega) (by omega), show i.toNat - 1 = (i - 1).toNat by omega]
        exact ro (i - 1) (by omega) (by omega)
  · by_cases d : n = node
    · right
      rw [d]
      refine ⟨?_, x128, xN⟩
      rw [hG node h0 (by omega), addF_n p0 h0 h1 h1, if_pos rfl]
      rcases gk with h | ⟨h2, h3, h4⟩ <;> omega
    · obtain ⟨e1, e2⟩ := ab n a c d
      rw [gne n a c d, e1]
      rcases rn n a c with h | ⟨h, x, y⟩
      · exact Or.inl h
      · exact Or.inr ⟨h, x, e2 y⟩
  · by_cases e : n = node
    · rw [e]
      refine ⟨fun z => (by rw [no] at z; cases z), fun _ => ?_⟩
      rw [seg_0 hz]
      exact ⟨Or.inl ⟨rfl, x135⟩, x136, x137⟩
    · rw [gne n a c e] at d
      obtain ⟨u, v⟩ := rc n a c d
      have hb := isO_lt (A.on (show n.toNat < 32 by omega))
      have nb := ol n.toNat (by omega) (by omega)
      rw [CNn, seg_eq (F := F) (hG2 (192 + n) (by omega) (by omega) (by omega) (by omega) (by omega) (by omega) (by omega) (by omega)) (hG2 (224 + n) (by omega) (by omega) (by omega) (by omega) (by omega) (by omega) (by omega) (by omega))]
      exact ⟨fun z => CND_co (u z) rz.1 (Nat.le_refl _) p o on hb nb (lfM_co p o), fun z => CND_co (v z) (Nat.le_refl _) p.sk.1 p o on hb nb (fun _ _ _ _ h => h)⟩
end
section
variable {g : HP} {b : Int → Int} {n : Int} {c j : Nat} {F : Int → Int} {S : List TS} {LL : List Int} {ts : Nat → Nat} {was : Nat} {C0 : Int → List Int32} {old : Int → Bool} {z0 : Nat}
/-- what a piece of nodes gives in the class -/
def ZoC (b : Int → Int) (n : Int) (c : Nat) (was : Nat) (C0 : Int → List Int32) (old : Int → Bool) (z0 : Nat) (g : HP) (j : Nat) (Z : ZR) (g' : HP) : Prop :=
  j ≤ Z.2.1 ∧ Co (Z.2.1 - j) LF g g' ∧ (Z.1 = true → (j ≤ Z.2.1 ∧ Z.2.1 ≤ c) ∧ ∃ ts', CP g' b n c Z.2.1 Z.2.2.2.1 ts' ∧ RPc g' Z.2.2.1 Z.2.2.2.1 Z.2.2.2.2 ts' was C0 old z0) ∧ (Z.1 = false → hI g' 192 62 = i32 (tks (tkn b n Z.2.1)))
theorem cpif {node : Int} (n0 : 0 ≤ n) (n1 : n ≤ 1200) (P : CP g b n c j S ts) (R : RPc g F S LL ts was C0 old z0) (cv : CV F LL was old) (h0 : 0 ≤ node) (h1 : node < 32) (np : F node ≠ -1) (no : old node = false) (nz : F (224 + node) = 0) (tk : tkk (tkn b n j) = 6) : ∃ g1 ok g2, fX7_step 99 g = some g1 ∧ isO g1 62 3 = true ∧ fX3_condition 62 (i32 node) (some (63 + 4 + node.toNat)) g1 = some (ok, g2) ∧ ok = (pif (tkn b n) was node j F S LL).1 ∧ ZoC b n c was C0 old z0 g j (pif (tkn b n) was node j F S LL) g2 := by
  have hi : node.toNat < 32 := by omega
  have jb := P.1.jn n0 (by rw [tk]; decide)
  obtain ⟨g1, s1, s2, s3⟩ := P.1.step n0 n1 (by omega)
  have P1 := P.mv s2 s3
  have A := P.1.cs.sf
  have A1 := s3.cs.sf
  have ot := A1.on hi
  obtain ⟨ok, g2, e1, e2, e3, e4, e5, e6, e7, e8⟩ := ccond_s (ow := node) n0 n1 P1 ot (by omega) (by omega) (by omega)
  have tp := tp_cond (b := b) n0 (ow := node) (j + 1) S
  have ap := ap_dis (b := b) n0 (ow := node) 6 (j + 1) S
  change AP b n (j + 1) S (pcond (tkn b n) node (j + 1) S) at ap
  refine ⟨g1, ok, g2, s1, s3.cs.o_parser, e1, ?_⟩
  unfold pif
  rw [if_pos tk]
  generalize pcond (tkn b n) node (j + 1) S = PD at *
  have fr : Co (PD.2.1 - j) LF g g2 := by
    have := (s2.w (m := LF) (by decide +kernel)).t (e4.w (LF_cond hi))
    exact this.up (by omega)
  cases okP : PD.1 with
  | false =>
    rw [okP] at e2
    exact ⟨e2, by show j ≤ PD.2.1; omega, fr, fun z => (by cases z), fun _ => e8 okP⟩
  | true =>
    rw [okP] at e2
    obtain ⟨⟨x1, x2⟩, t, ts', y1, y2, y3, y4, y5, y6⟩ := e7 okP
    obtain ⟨S2, t1, t2, t3⟩ := tp okP
    obtain ⟨⟨-, a1⟩, -⟩ := ap okP
    refine ⟨e2, by show j ≤ PD.2.1; omega, fr, fun _ => ⟨⟨by show j ≤ PD.2.1; omega, x2⟩, ts', y3, ?_⟩, fun z => (by cases z)⟩
    show RPc g2 (setc F node (was + LL.length) PD.2.2.2.length) PD.2.2.1 (LL ++ PD.2.2.2) ts' was C0 old z0
    have q12 := s2
    have R1 : RPc g1 F S LL ts was C0 old z0 := RPc_co R A s2 ⟨by decide +kernel, fun x hx => by simp; omega⟩ ⟨by unfold okN; decide +kernel, by decide +kernel, fun i hi => by simp; omega⟩
    have l1 : okT (195 :: (5000 + (63 + 4 + node.toNat)) :: lpP) := ⟨by simp [lpP]; omega, fun x hx => by simp [lpP]; omega⟩
    have l2 : okN (195 :: (5000 + (63 + 4 + node.toNat)) :: lpP) := by unfold okN; simp [lpP]; omega
    have l3 : ∀ x, x < 983 → x ≠ 62 → x ≠ 99 → x ≠ 63 + 4 + node.toNat → (195 :: (5000 + (63 + 4 + node.toNat)) :: lpP).contains (5000 + x) = false := fun x a b c d => by simp [lpP]; omega
    obtain ⟨⟨r3, r4, r5, ro, rn⟩, rc, rz⟩ := R1
    have hs : ∀ x, (x < 192 ∨ 256 ≤ x) → setc F node (was + LL.length) PD.2.2.2.length x = F x := fun x hx => setc_lo h0 h1 hx
    have z63 : 63 < hsz g1 := isO_lt A1.o
    have z64 : 64 < hsz g1 := isO_lt A1.oO
    have Fn : ∀ m, 0 ≤ m → m < 32 → NDc g1 (63 + 4 + m.toNat) F m → NDc g2 (63 + 4 + m.toNat) (setc F node (was + LL.length) PD.2.2.2.length) m := by
      intro m m0 m1 z
      unfold NDc at z ⊢
      rw [hs m (by omega), hs (32 + m) (by omega), hs (64 + m) (by omega), hs (96 + m) (by omega), hs (128 + m) (by omega), hs (160 + m) (by omega)]
      by_cases d : m = node
      · rw [d] at z ⊢
        rw [e5 134 (by omega) (by omega) (by omega), e6, e5 130 (by omega) (by omega) (by omega), e5 131 (by omega) (by omega) (by omega), e5 132 (by omega) (by omega) (by omega), e5 133 (by omega) (by omega) (by omega)]
        exact z
      · have hb := isO_lt (A1.on (show m.toNat < 32 by omega))
        have := NDc_co (F := F) (n := m) z e4 l2 hb (l3 _ (by omega) (by omega) (by omega) (by omega))
        exact this
    refine ⟨⟨?_, ?_, ?_, fun i i0 i1 => ?_, fun m m0 m1 => ?_⟩, fun m m0 m1 m2 => ?_, ?_⟩
    · rw [hs 289 (by omega), e4.I z63 (by simp [lpP]; omega) (l3 63 (by omega) (by omega) (by omega) (by omega))]; exact r3
    · rw [hs 290 (by omega), e4.I z63 (by simp [lpP]; omega) (l3 63 (by omega) (by omega) (by omega) (by omega))]; exact r4
    · rw [hs 288 (by omega), e4.I z63 (by simp [lpP]; omega) (l3 63 (by omega) (by omega) (by omega) (by omega))]; exact r5
    · rw [hs 288 (by omega)] at i1
      rw [hs (256 + i) (by omega), e4.A z64 (by simp [lpP]; omega)]
      exact ro i i0 i1
    · rw [hs m (by omega)]
      have e128 : hI g2 128 (63 + 4 + m.toNat) = hI g1 128 (63 + 4 + m.toNat) := by
        by_cases d : m = node
        · rw [d]; exact e5 128 (by omega) (by omega) (by omega)
        · have hb := isO_lt (A1.on (show m.toNat < 32 by omega))
          exact ((okN_I l2 e4 hb (l3 _ (by omega) (by omega) (by omega) (by omega))).1 128 (by omega) (by omega)).1
      rw [e128]
      rcases rn m m0 m1 with h | ⟨h, x, y⟩
      · exact Or.inl h
      · exact Or.inr ⟨h, x, Fn m m0 m1 y⟩
    · rw [hs m (by omega)] at m2
      obtain ⟨u, v⟩ := rc m m0 m1 m2
      by_cases d : m = node
      · rw [d] at u v ⊢
        refine ⟨fun z => (by rw [no] at z; cases z), fun _ => ?_⟩
        obtain ⟨v1, v2, v3⟩ := v no
        have sl : seg (setc F node (was + LL.length) PD.2.2.2.length) (LL ++ PD.2.2.2) was node = PD.2.2.2 := by
          unfold seg
          rw [setc_fr, setc_sz, show ((was : Int) + LL.length - was).toNat = LL.length by omega, List.drop_left, Int.toNat_natCast, List.take_length]
        rw [sl]
        refine ⟨Or.inr ⟨fun z => by rw [z] at a1; exact absurd a1 (by decide), t, y1, ?_⟩, ?_, ?_⟩
        · exact IsT_up 15 (hsz g1) (hsz g2) t _ 15 1008 (hsz g2) (Nat.le_refl _) s3.sz (Nat.le_refl _) y6
        · rw [y2]
          congr 1
          unfold tcI
          rw [t2, idx_len, t1, List.length_append]
          omega
        · rw [e5 137 (by omega) (by omega) (by omega)]; exact v3
      · have hb := isO_lt (A1.on (show m.toNat < 32 by omega))
        have nb := l3 (63 + 4 + m.toNat) (by omega) (by omega) (by omega) (by omega)
        refine ⟨fun z => CND_co (u z) rz.1 (Nat.le_refl _) e4 l1 l2 hb nb (lfM_co e4 l1), fun z => ?_⟩
        obtain ⟨c1, c2⟩ := cv m m0 m1 m2 z
        have sl : seg (setc F node (was + LL.length) PD.2.2.2.length) (LL ++ PD.2.2.2) was m = seg F LL was m := by
          rw [seg_eq (F := F) (by unfold setc; rw [updI_ne (by omega), updI_ne (by omega)]) (by unfold setc; rw [updI_ne (by omega), updI_ne (by omega)])]
          exact seg_app c1 c2
        rw [sl]
        refine CND_co (v z) (Nat.le_refl _) e4.sk.1 e4 l1 l2 hb nb ?_
        rintro t' e' _ _ ⟨k, k1, k2, k3⟩
        exact ⟨k, by omega, k2, by rw [y4 k k1]; exact k3⟩
    · obtain ⟨A, l1', l2', l3'⟩ := leaf_inc (tst := ist) (fun o ho => by unfold ist opI; rw [decide_eq_false_iff_not]; omega) (fun t' e' he => by
        obtain ⟨k, _, k2, _⟩ := he
        unfold ist; rw [decide_eq_true_eq]; omega) _ _ _ _ _ y6
      rw [t2] at l3'
      obtain ⟨q1, q2⟩ := F2_get _ _ l3'
      rw [idx_len] at q1
      have tsA : ∀ i, i < S2.length → A[i]? = some (ts' (S.length + i)) := by
        intro i hi
        have hA : A[i]? = some A[i] := List.getElem?_eq_getElem (by omega)
        have hE : (idx S.length S2.length)[i]? = some (4 + ((S.length + i : Nat) : Int)) := by
          unfold idx
          rw [List.getElem?_map, List.getElem?_range hi]
          rfl
        obtain ⟨k, _, k2, k3⟩ := q2 i _ _ hA hE
        have : k = S.length + i := by omega
        rw [hA, ← k3, this]
      have hl : PD.2.2.1.length = S.length + S2.length := by rw [t1, List.length_append]
      refine ⟨Nat.le_trans rz.1 e4.sk.1, fun k hk => ?_⟩
      by_cases c1 : k < S.length
      · obtain ⟨a, b, d⟩ := rz.2 k c1
        rw [y4 k c1]
        refine ⟨a, Nat.lt_of_lt_of_le b e4.sk.1, fun k' hk' => ?_⟩
        rw [y4 k' (by omega)]; exact d k' hk'
      · have hk2 : PD.2.2.1.length = S.length + S2.length := hl
        have hk3 : k < S.length + S2.length := by rw [← hl]; exact hk
        have mk := tsA (k - S.length) (by omega)
        rw [show S.length + (k - S.length) = k by omega] at mk
        have rk := l2' _ (List.mem_of_getElem? mk)
        have zr := rz.1
        refine ⟨by omega, rk.2, fun k' hk' => ?_⟩
        by_cases c2 : k' < S.length
        · have := (rz.2 k' c2).2.1
          rw [y4 k' c2]; omega
        · have mk' := tsA (k' - S.length) (by omega)
          rw [show S.length + (k' - S.length) = k' by omega] at mk'
          obtain ⟨h1', e1'⟩ := List.getElem?_eq_some_iff.mp mk
          obtain ⟨h2', e2'⟩ := List.getElem?_eq_some_iff.mp mk'
          have pw := List.pairwise_iff_getElem.mp l1' (k' - S.length) (k - S.length) h2' h1' (by omega)
          rw [e1', e2'] at pw
          exact pw
end
