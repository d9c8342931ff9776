/-! A CONDITION OF ITS OWN -/
section
variable {g : HP} {b : Int → Int} {n : Int} {c j : Nat} {F : Int → Int} {S : List TS} {LL : List Int} {ts : Nat → Nat} {was : Nat} {C0 : Int → List Int32} {old : Int → Bool} {z0 : Nat}
def pcd (T : Nat → TK) (was : Nat) (node : Int) (j : Nat) (F : Int → Int) (S : List TS) (LL : List Int) : ZR :=
  match (pcond T node j S).1 with
  | true => (true, (pcond T node j S).2.1, setc F node (was + LL.length) (pcond T node j S).2.2.2.length, (pcond T node j S).2.2.1, LL ++ (pcond T node j S).2.2.2)
  | false => (false, (pcond T node j S).2.1, F, S, LL)
theorem cpc {node : Int} (n0 : 0 ≤ n) (n1 : n ≤ 1200) (P : CP g b n c j S ts) (R : RPc g F S LL ts was C0 old z0) (cv : CV F LL was old) (h0 : 0 ≤ node) (h1 : node < 32) (np : F node ≠ -1) (no : old node = false) (nz : F (224 + node) = 0) : ∃ ok g2, fX3_condition 62 (i32 node) (some (63 + 4 + node.toNat)) g = some (ok, g2) ∧ ok = (pcd (tkn b n) was node j F S LL).1 ∧ ZoC b n c was C0 old z0 g j (pcd (tkn b n) was node j F S LL) g2 := by
  have hi : node.toNat < 32 := by omega
  have A := P.1.cs.sf
  have s3 := P.1
  have ot := A.on hi
  obtain ⟨ok, g2, e1, e2, e3, e4, e5, e6, e7, e8⟩ := ccond_s (ow := node) n0 n1 P ot (by omega) (by omega) (by omega)
  have tp := tp_cond (b := b) n0 (ow := node) j S
  have ap := ap_dis (b := b) n0 (ow := node) 6 j S
  change AP b n j S (pcond (tkn b n) node j S) at ap
  refine ⟨ok, g2, e1, ?_⟩
  unfold pcd
  generalize pcond (tkn b n) node j S = PD at *
  have fr : Co (PD.2.1 - j) LF g g2 := by
    exact e4.w (LF_cond hi)
  cases okP : PD.1 with
  | false =>
    rw [okP] at e2
    exact ⟨e2, by show j ≤ PD.2.1; omega, fr, fun z => (by cases z), fun _ => e8 okP⟩
  | true =>
    rw [okP] at e2
    obtain ⟨⟨x1, x2⟩, t, ts', y1, y2, y3, y4, y5, y6⟩ := e7 okP
    obtain ⟨S2, t1, t2, t3⟩ := tp okP
    obtain ⟨⟨-, a1⟩, -⟩ := ap okP
    refine ⟨e2, by show j ≤ PD.2.1; omega, fr, fun _ => ⟨⟨by show j ≤ PD.2.1; omega, x2⟩, ts', y3, ?_⟩, fun z => (by cases z)⟩
    show RPc g2 (setc F node (was + LL.length) PD.2.2.2.length) PD.2.2.1 (LL ++ PD.2.2.2) ts' was C0 old z0
    have l1 : okT (195 :: (5000 + (63 + 4 + node.toNat)) :: lpP) := ⟨by simp [lpP]; omega, fun x hx => by simp [lpP]; omega⟩
    have l2 : okN (195 :: (5000 + (63 + 4 + node.toNat)) :: lpP) := by unfold okN; simp [lpP]; omega
    have l3 : ∀ x, x < 983 → x ≠ 62 → x ≠ 99 → x ≠ 63 + 4 + node.toNat → (195 :: (5000 + (63 + 4 + node.toNat)) :: lpP).contains (5000 + x) = false := fun x a b c d => by simp [lpP]; omega
    obtain ⟨⟨r3, r4, r5, ro, rn⟩, rc, rz⟩ := R
    have hs : ∀ x, (x < 192 ∨ 256 ≤ x) → setc F node (was + LL.length) PD.2.2.2.length x = F x := fun x hx => setc_lo h0 h1 hx
    have z63 : 63 < hsz g := isO_lt A.o
    have z64 : 64 < hsz g := isO_lt A.oO
    have Fn : ∀ m, 0 ≤ m → m < 32 → NDc g (63 + 4 + m.toNat) F m → NDc g2 (63 + 4 + m.toNat) (setc F node (was + LL.length) PD.2.2.2.length) m := by
      intro m m0 m1 z
      unfold NDc at z ⊢
      rw [hs m (by omega), hs (32 + m) (by omega), hs (64 + m) (by omega), hs (96 + m) (by omega), hs (128 + m) (by omega), hs (160 + m) (by omega)]
      by_cases d : m = node
      · rw [d] at z ⊢
        rw [e5 134 (by omega) (by omega) (by omega), e6, e5 130 (by omega) (by omega) (by omega), e5 131 (by omega) (by omega) (by omega), e5 132 (by omega) (by omega) (by omega), e5 133 (by omega) (by omega) (by omega)]
        exact z
      · have hb := isO_lt (A.on (show m.toNat < 32 by omega))
        have := NDc_co (F := F) (n := m) z e4 l2 hb (l3 _ (by omega) (by omega) (by omega) (by omega))
        exact this
    refine ⟨⟨?_, ?_, ?_, fun i i0 i1 => ?_, fun m m0 m1 => ?_⟩, fun m m0 m1 m2 => ?_, ?_⟩
    · rw [hs 289 (by omega), e4.I z63 (by simp [lpP]; omega) (l3 63 (by omega) (by omega) (by omega) (by omega))]; exact r3
    · rw [hs 290 (by omega), e4.I z63 (by simp [lpP]; omega) (l3 63 (by omega) (by omega) (by omega) (by omega))]; exact r4
    · rw [hs 288 (by omega), e4.I z63 (by simp [lpP]; omega) (l3 63 (by omega) (by omega) (by omega) (by omega))]; exact r5
    · rw [hs 288 (by omega)] at i1
      rw [hs (256 + i) (by omega), e4.A z64 (by simp [lpP]; omega)]
      exact ro i i0 i1
    · rw [hs m (by omega)]
      have e128 : hI g2 128 (63 + 4 + m.toNat) = hI g 128 (63 + 4 + m.toNat) := by
        by_cases d : m = node
        · rw [d]; exact e5 128 (by omega) (by omega) (by omega)
        · have hb := isO_lt (A.on (show m.toNat < 32 by omega))
          exact ((okN_I l2 e4 hb (l3 _ (by omega) (by omega) (by omega) (by omega))).1 128 (by omega) (by omega)).1
      rw [e128]
      rcases rn m m0 m1 with h | ⟨h, x, y⟩
      · exact Or.inl h
      · exact Or.inr ⟨h, x, Fn m m0 m1 y⟩
    · rw [hs m (by omega)] at m2
      obtain ⟨u, v⟩ := rc m m0 m1 m2
      by_cases d : m = node
      · rw [d] at u v ⊢
        refine ⟨fun z => (by rw [no] at z; cases z), fun _ => ?_⟩
        obtain ⟨v1, v2, v3⟩ := v no
        have sl : seg (setc F node (was + LL.length) PD.2.2.2.length) (LL ++ PD.2.2.2) was node = PD.2.2.2 := by
          unfold seg
          rw [setc_fr, setc_sz, show ((was : Int) + LL.length - was).toNat = LL.length by omega, List.drop_left, Int.toNat_natCast, List.take_length]
        rw [sl]
        refine ⟨Or.inr ⟨fun z => by rw [z] at a1; exact absurd a1 (by decide), t, y1, ?_⟩, ?_, ?_⟩
        · exact IsT_up 15 (hsz g) (hsz g2) t _ 15 1008 (hsz g2) (Nat.le_refl _) s3.sz (Nat.le_refl _) y6
        · rw [y2]
          congr 1
          unfold tcI
          rw [t2, idx_len, t1, List.length_append]
          omega
        · rw [e5 137 (by omega) (by omega) (by omega)]; exact v3
      · have hb := isO_lt (A.on (show m.toNat < 32 by omega))
        have nb := l3 (63 + 4 + m.toNat) (by omega) (by omega) (by omega) (by omega)
        refine ⟨fun z => CND_co (u z) rz.1 (Nat.le_refl _) e4 l1 l2 hb nb (lfM_co e4 l1), fun z => ?_⟩
        obtain ⟨c1, c2⟩ := cv m m0 m1 m2 z
        have sl : seg (setc F node (was + LL.length) PD.2.2.2.length) (LL ++ PD.2.2.2) was m = seg F LL was m := by
          rw [seg_eq (F := F) (by unfold setc; rw [updI_ne (by omega), updI_ne (by omega)]) (by unfold setc; rw [updI_ne (by omega), updI_ne (by omega)])]
          exact seg_app c1 c2
        rw [sl]
        refine CND_co (v z) (Nat.le_refl _) e4.sk.1 e4 l1 l2 hb nb ?_
        rintro t' e' _ _ ⟨k, k1, k2, k3⟩
        exact ⟨k, by omega, k2, by rw [y4 k k1]; exact k3⟩
    · obtain ⟨A, l1', l2', l3'⟩ := leaf_inc (tst := ist) (fun o ho => by unfold ist opI; rw [decide_eq_false_iff_not]; omega) (fun t' e' he => by
        obtain ⟨k, _, k2, _⟩ := he
        unfold ist; rw [decide_eq_true_eq]; omega) _ _ _ _ _ y6
      rw [t2] at l3'
      obtain ⟨q1, q2⟩ := F2_get _ _ l3'
      rw [idx_len] at q1
      have tsA : ∀ i, i < S2.length → A[i]? = some (ts' (S.length + i)) := by
        intro i hi
        have hA : A[i]? = some A[i] := List.getElem?_eq_getElem (by omega)
        have hE : (idx S.length S2.length)[i]? = some (4 + ((S.length + i : Nat) : Int)) := by
          unfold idx
          rw [List.getElem?_map, List.getElem?_range hi]
          rfl
        obtain ⟨k, _, k2, k3⟩ := q2 i _ _ hA hE
        have : k = S.length + i := by omega
        rw [hA, ← k3, this]
      have hl : PD.2.2.1.length = S.length + S2.length := by rw [t1, List.length_append]
      refine ⟨Nat.le_trans rz.1 e4.sk.1, fun k hk => ?_⟩
      by_cases c1 : k < S.length
      · obtain ⟨a, b, d⟩ := rz.2 k c1
        rw [y4 k c1]
        refine ⟨a, Nat.lt_of_lt_of_le b e4.sk.1, fun k' hk' => ?_⟩
        rw [y4 k' (by omega)]; exact d k' hk'
      · have hk2 : PD.2.2.1.length = S.length + S2.length := hl
        have hk3 : k < S.length + S2.length := by rw [← hl]; exact hk
        have mk := tsA (k - S.length) (by omega)
        rw [show S.length + (k - S.length) = k by omega] at mk
        have rk := l2' _ (List.mem_of_getElem? mk)
        have zr := rz.1
        refine ⟨by omega, rk.2, fun k' hk' => ?_⟩
        by_cases c2 : k' < S.length
        · have := (rz.2 k' c2).2.1
          rw [y4 k' c2]; omega
        · have mk' := tsA (k' - S.length) (by omega)
          rw [show S.length + (k' - S.length) = k' by omega] at mk'
          obtain ⟨h1', e1'⟩ := List.getElem?_eq_some_iff.mp mk
          obtain ⟨h2', e2'⟩ := List.getElem?_eq_some_iff.mp mk'
          have pw := List.pairwise_iff_getElem.mp l1' (k' - S.length) (k - S.length) h2' h1' (by omega)
          rw [e1', e2'] at pw
          exact pw
/-- the whole text as a condition -/
def pset (T : Nat → TK) (was : Nat) (node : Int) (F : Int → Int) : ZR :=
  if tkk (T 0) = 0 then (true, 0, F, [], [])
  else if (pcd T was node 0 F [] []).1 = true then (decide (tkk (T (pcd T was node 0 F [] []).2.1) = 0), (pcd T was node 0 F [] []).2) else pcd T was node 0 F [] []
theorem pcd_le {T : Nat → TK} (e : Tend T c) {node : Int} (a : j ≤ c) : (pcd T was node j F S LL).2.1 ≤ c := by
  unfold pcd
  have r := le_cond e (ow := node) j S a
  cases ok : (pcond T node j S).1 with
  | false => exact r
  | true => exact r
theorem pset_le {T : Nat → TK} (e : Tend T c) {node : Int} : (pset T was node F).2.1 ≤ c := by
  have r := pcd_le e (was := was) (F := F) (S := []) (LL := []) (node := node) (j := 0) (by omega)
  unfold pset
  by_cases k : tkk (T 0) = 0
  · rw [if_pos k]; exact Nat.zero_le _
  · rw [if_neg k]
    by_cases ok : (pcd T was node 0 F [] []).1 = true
    · rw [if_pos ok]; exact r
    · rw [if_neg ok]; exact r
/-- a form whose node has another condition -/
theorem setc_TF {node fr sz : Int} (h0 : 0 ≤ node) (h1 : node < 32) (t : TF F) (kd : KD F) : TF (setc F node fr sz) ∧ KD (setc F node fr sz) := by
  have lo : ∀ x, (x < 192 ∨ 256 ≤ x) → setc F node fr sz x = F x := fun x hx => setc_lo h0 h1 hx
  obtain ⟨tr, nm, de, gv⟩ := t
  refine ⟨⟨setc_T h0 h1 tr, ⟨fun m a c d => ?_, fun m m' a c a' c' d d' x => ?_⟩, fun m a c d => ?_, ?_⟩, fun m a c d => ?_⟩
  · rw [lo (32 + m) (by omega)]; rw [lo m (by omega)] at d; exact nm.1 m a c d
  · rw [lo (32 + m) (by omega), lo (32 + m') (by omega)] at x
    rw [lo m (by omega)] at d
    rw [lo m' (by omega)] at d'
    exact nm.2 m m' a c a' c' d d' x
  · rw [lo m (by omega)] at d ⊢
    have th := thr_par tr.tv a c d
    obtain ⟨u1, u2⟩ := de m a c d
    have en : ∀ m, 0 ≤ m → m < 32 → F m ≠ -1 → setc F node fr sz m = F m := fun m a b _ => lo m (by omega)
    exact ⟨ends_congr tr.tv en 4 _ th u1, fun h => ends_congr tr.tv en 3 _ th (u2 h)⟩
  · obtain ⟨u1, u2, u3, u4, u5, u6⟩ := gv
    refine ⟨by rw [lo 289 (by omega)]; exact u1, by rw [lo 289 (by omega)]; exact u2, by rw [lo 290 (by omega)]; exact u3, by rw [lo 290 (by omega)]; exact u4, by rw [lo 288 (by omega), lo 289 (by omega), lo 290 (by omega)]; exact u5, fun m a c d => ?_⟩
    rw [lo m (by omega)] at d
    rw [lo 289 (by omega), lo 290 (by omega)]
    exact u6 m a c d
  · rw [lo m (by omega)] at d
    unfold kdOk
    rw [lo (64 + m) (by omega), lo (96 + m) (by omega), lo (128 + m) (by omega), lo (160 + m) (by omega)]
    exact kd m a c d
/-- the other nodes are old -/
def oldC (F : Int → Int) (node n : Int) : Bool := decide ((0 ≤ n ∧ n < 32 ∧ F n ≠ -1) ∧ n ≠ node)
theorem oldC_t {node m : Int} : oldC F node m = true ↔ ((0 ≤ m ∧ m < 32 ∧ F m ≠ -1) ∧ m ≠ node) := by unfold oldC; rw [decide_eq_true_eq]
theorem oldC_f {node m : Int} (m0 : 0 ≤ m) (m1 : m < 32) (p : F m ≠ -1) (h : oldC F node m = false) : m = node := by
  apply Classical.byContradiction
  intro z
  rw [oldC_t.mpr ⟨⟨m0, m1, p⟩, z⟩] at h; cases h
theorem oldC_n {node : Int} : oldC F node node = false := by
  unfold oldC; exact decide_eq_false (fun z => z.2 rfl)
theorem pset_inv {node : Int} (n0 : 0 ≤ n) (n1 : n ≤ 1200) (h0 : 0 ≤ node) (h1 : node < 32) (t : TF F) (kd : KD F) (np : F node ≠ -1) (z1 : F (192 + node) = 0) (z2 : F (224 + node) = 0) (sj : ∀ m, 0 ≤ m → m < 32 → F m ≠ -1 → 0 ≤ F (192 + m) ∧ 0 ≤ F (224 + m) ∧ F (192 + m) + F (224 + m) ≤ was) (ok : (pset (tkn b n) was node F).1 = true) : NJ n was (oldC F node) F (pset (tkn b n) was node F).2.2.1 (pset (tkn b n) was node F).2.2.2.1 (pset (tkn b n) was node F).2.2.2.2 ∧ SGJ (pset (tkn b n) was node F).2.2.1 was (pset (tkn b n) was node F).2.2.2.2 ∧ (∀ x, (x < 192 ∨ 256 ≤ x) → (pset (tkn b n) was node F).2.2.1 x = F x) ∧ (pset (tkn b n) was node F).2.2.2.2.length ≤ (pset (tkn b n) was node F).2.1 ∧ ∀ m, 0 ≤ m → m < 32 → m ≠ node → (pset (tkn b n) was node F).2.2.1 (192 + m) = F (192 + m) ∧ (pset (tkn b n) was node F).2.2.1 (224 + m) = F (224 + m) := by
  unfold pset at ok ⊢
  by_cases k : tkk (tkn b n 0) = 0
  · rw [if_pos k]
    refine ⟨⟨t, kd, fun m a c d e => ?_, ⟨fun m a c d e => ?_, fun q x hx => by simp at hx⟩, ⟨by simp, by simp⟩, fun m hm => (oldC_t.mp hm).1, fun m _ q _ => rfl⟩, fun m a c d => ?_, fun _ _ => rfl, Nat.le_refl _, fun m _ _ _ => ⟨rfl, rfl⟩⟩
    · rw [oldC_f a c d e]
      show 0 ≤ F (224 + node) ∧ (F (224 + node) = 0 ∨ _)
      rw [z2]; exact ⟨Int.le_refl _, Or.inl rfl⟩
    · rw [oldC_f a c d e]
      show ∀ x ∈ seg F [] was node, _
      rw [seg_0 z2]; intro x hx; cases hx
    · have := sj m a c d
      exact ⟨this.1, this.2.1, by simpa using this.2.2⟩
  rw [if_neg k] at ok ⊢
  by_cases okc : (pcd (tkn b n) was node 0 F [] []).1 = true
  rotate_left
  · rw [if_neg okc] at ok; exact absurd ok okc
  rw [if_pos okc] at ok ⊢
  have kend : tkk (tkn b n (pcd (tkn b n) was node 0 F [] []).2.1) = 0 := of_decide_eq_true ok
  clear ok
  show NJ n was (oldC F node) F (pcd (tkn b n) was node 0 F [] []).2.2.1 (pcd (tkn b n) was node 0 F [] []).2.2.2.1 (pcd (tkn b n) was node 0 F [] []).2.2.2.2 ∧ SGJ (pcd (tkn b n) was node 0 F [] []).2.2.1 was (pcd (tkn b n) was node 0 F [] []).2.2.2.2 ∧ (∀ x, (x < 192 ∨ 256 ≤ x) → (pcd (tkn b n) was node 0 F [] []).2.2.1 x = F x) ∧ (pcd (tkn b n) was node 0 F [] []).2.2.2.2.length ≤ (pcd (tkn b n) was node 0 F [] []).2.1 ∧ ∀ m, 0 ≤ m → m < 32 → m ≠ node → (pcd (tkn b n) was node 0 F [] []).2.2.1 (192 + m) = F (192 + m) ∧ (pcd (tkn b n) was node 0 F [] []).2.2.1 (224 + m) = F (224 + m)
  unfold pcd at okc kend ⊢
  have tp := tp_cond (b := b) n0 (ow := node) 0 []
  have ap := ap_dis (b := b) n0 (ow := node) 6 0 []
  change AP b n 0 [] (pcond (tkn b n) node 0 []) at ap
  have ap5 := ap5_dis (b := b) n0 (ow := node) 6 0 []
  change AQ5 b n 0 (pcond (tkn b n) node 0 []) at ap5
  generalize pcond (tkn b n) node 0 [] = PD at *
  cases okP : PD.1 with
  | false => simp only [okP] at okc; cases okc
  | true =>
    simp only [okP] at kend ⊢
    obtain ⟨S2, t1, t2, t3⟩ := tp okP
    obtain ⟨⟨a1, a0⟩, a2, -, a4, a5, a6, a7, a8, a9⟩ := ap okP
    have a10 := ap5 okP 0 0 (Or.inl rfl) (Or.inl rfl)
    have sn := tS_n (b := b) n0 PD.2.1
    have s0 := tS_n (b := b) n0 0
    have a2' := a2 (by omega)
    rw [List.nil_append] at t1
    simp only [List.length_nil] at t2 a6 a9
    rw [← t1] at t2 t3
    simp only [List.nil_append]
    obtain ⟨fr, efr⟩ : ∃ fr : Int, fr = was + ([] : List Int).length := ⟨_, rfl⟩
    have efr' : fr = was := by rw [efr]; simp
    rw [← efr]
    have lo : ∀ x, (x < 192 ∨ 256 ≤ x) → setc F node fr PD.2.2.2.length x = F x := fun x hx => setc_lo h0 h1 hx
    have sgn : seg (setc F node fr PD.2.2.2.length) PD.2.2.2 was node = PD.2.2.2 := by
      unfold seg
      rw [setc_fr, setc_sz, efr', show ((was : Int) - was).toNat = 0 by omega, List.drop_zero, Int.toNat_natCast, List.take_length]
    have oth : ∀ m, m ≠ node → 0 ≤ m → m < 32 → setc F node fr PD.2.2.2.length (192 + m) = F (192 + m) ∧ setc F node fr PD.2.2.2.length (224 + m) = F (224 + m) := fun m q m0 m1 => by
      constructor
      · unfold setc; rw [updI_ne (by omega), updI_ne (by omega)]
      · unfold setc; rw [updI_ne (by omega), updI_ne (by omega)]
    obtain ⟨tf, kf⟩ := setc_TF (fr := fr) (sz := PD.2.2.2.length) h0 h1 t kd
    refine ⟨⟨tf, kf, fun m a c d e => ?_, ⟨fun m a c d e x hx => ?_, fun q x hx => ?_⟩, ⟨by omega, by omega⟩, fun m hm => ?_, fun m hm q hq => ?_⟩, fun m a c d => ?_, lo, by omega, fun m m0 m1 q => oth m q m0 m1⟩
    · rw [lo m (by omega)] at d
      rw [oldC_f a c d e, setc_fr, setc_sz]; omega
    · rw [lo m (by omega)] at d
      have em := oldC_f a c d e
      rw [em, sgn] at hx
      by_cases e4 : 4 ≤ x
      · have hm : x ∈ PD.2.2.2.filter ist := List.mem_filter.mpr ⟨hx, by unfold ist; rw [decide_eq_true_eq]; exact e4⟩
        rw [t2] at hm
        obtain ⟨q, k1, k2, k3⟩ := idx_mem.mp hm
        right
        obtain ⟨y, hy⟩ : ∃ y, PD.2.2.1[q]? = some y := ⟨_, List.getElem?_eq_getElem (by omega)⟩
        exact ⟨q, y, k3, hy, by rw [em]; exact (t3 _ (List.mem_of_getElem? hy)).2.2.2.1⟩
      · have := a9 x hx; omega
    · have hm := List.mem_of_getElem? hx
      have tk3 := t3 x hm
      have ow : x.2.2.1 = node := tk3.2.2.2.1
      rw [ow]
      refine ⟨tk3, h0, h1, by rw [lo node (by omega)]; exact np, oldC_n, ?_⟩
      rw [sgn]
      have hl := (List.getElem?_eq_some_iff.mp hx).1
      have : (4 + (q : Int)) ∈ PD.2.2.2.filter ist := by
        rw [t2]
        exact idx_mem.mpr ⟨q, by omega, by omega, rfl⟩
      exact (List.mem_filter.mp this).1
    · obtain ⟨⟨m0, m1, mp⟩, _⟩ := oldC_t.mp hm
      exact ⟨m0, m1, by rw [lo m (by omega)]; exact mp⟩
    · obtain ⟨⟨m0, m1, mp⟩, mn⟩ := oldC_t.mp hm
      rcases (show q < 6 ∨ q = 6 ∨ q = 7 by omega) with y | y | y
      · exact lo _ (by omega)
      · rw [y]; exact (oth m mn m0 m1).1
      · rw [y]; exact (oth m mn m0 m1).2
    · rw [lo m (by omega)] at d
      by_cases q : m = node
      · rw [q, setc_fr, setc_sz]; omega
      · obtain ⟨o1, o2⟩ := oth m q a c
        rw [o1, o2]
        have := sj m a c d
        omega
end

