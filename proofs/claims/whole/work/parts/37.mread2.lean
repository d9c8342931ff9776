/-! THE MODEL READS NODES -/
theorem TR_E {F G : Int → Int} (E : EqT G F) (t : TR F) : TR G := by
  have V := t.av
  have e : ∀ n, 0 ≤ n → n < 32 → F n ≠ -1 → G n = F n := fun n a c _ => E.1 n a c
  have thO : ∀ i, 0 ≤ i → i < F 288 → thr F (F (256 + i)) := fun i i0 i1 => Or.inr ⟨(t.ov.2.2 i i0 i1).1, (t.ov.2.2 i i0 i1).2, t.op i i0 i1⟩
  refine ⟨EqT_OV E t.ov, EqT_OP E t.ov t.op, fun m a c d => ?_, fun i j i0 i1 j0 j1 x => ?_, EqT_TV E t.tv, EqT_CE E V t.ce, fun q q0 q1 => ?_⟩
  · rw [E.1 m a c] at d
    obtain ⟨i, i0, i1, x⟩ := t.po m a c d
    exact ⟨i, i0, by rw [E.2.1]; exact i1, by rw [E.2.2 i i0 i1]; exact x⟩
  · rw [E.2.1] at i1 j1
    rw [E.2.2 i i0 i1, E.2.2 j j0 j1] at x
    exact t.dd i j i0 i1 j0 j1 x
  · rw [E.2.1] at q1
    have o' := t.ov.2.2 q q0 q1
    rw [E.2.2 q q0 q1, E.1 _ o'.1 o'.2]
    rcases t.pre q q0 q1 with h | ⟨h, k⟩
    · exact Or.inl h
    · refine Or.inr ⟨h, ?_⟩
      rw [E.2.2 (q - 1) (by omega) (by omega)]
      exact (inch_congr t.tv e (thO (q - 1) (by omega) (by omega))).mpr k
/-- told alike at all places from nought on -/
def Enn (G F : Int → Int) : Prop := ∀ k, 0 ≤ k → G k = F k
theorem Enn.T {G F : Int → Int} (e : Enn G F) (O : OV F) : EqT G F := ⟨fun n a _ => e n a, e 288 (by omega), fun i i0 _ => e (256 + i) (by omega)⟩
theorem Enn.nm {G F : Int → Int} (e : Enn G F) (O : OV F) (w : Int) : fnm G w = fnm F w := by
  unfold fnm
  rw [e 288 (by omega)]
  have : ∀ (k : Nat) (i : Int), 0 ≤ i → i + k ≤ F 288 → nmd G w k i = nmd F w k i := by
    intro k
    induction k with
    | zero => intro i _ _; rfl
    | succ k ih =>
      intro i i0 i1
      have o := O.2.2 i i0 (by omega)
      simp only [nmd]
      rw [e (256 + i) (by omega), e (32 + F (256 + i)) (by omega), ih (i + 1) (by omega) (by omega)]
  exact this _ 0 (by omega) (by have := O.1; omega)
theorem Enn.upd {G F : Int → Int} (e : Enn G F) (i v : Int) : Enn (updI G i v) (updI F i v) := by
  intro k k0
  unfold updI
  rw [e k k0]
theorem Enn.add {G F : Int → Int} (e : Enn G F) {p node grp srt nm : Int} (p0 : 0 ≤ p) : Enn (addF G p node grp srt nm) (addF F p node grp srt nm) := by
  unfold addF
  rw [e 288 (by omega)]
  refine Enn.upd (Enn.upd (Enn.upd (Enn.upd (Enn.upd (Enn.upd (Enn.upd (Enn.upd (Enn.upd (Enn.upd ?_ _ _) _ _) _ _) _ _) _ _) _ _) _ _) _ _) _ _) _ _
  intro k k0
  unfold shf
  by_cases c : 256 + p < k ∧ k ≤ 256 + F 288
  · rw [if_pos c, if_pos c, e (k - 1) (by omega)]
  · rw [if_neg c, if_neg c, e k k0]
def LM : List Nat := 731 :: 987 :: lcC
/-- stretches of the pool of what is there -/
def SGT (F : Int → Int) : Prop := ∀ m, 0 ≤ m → m < 32 → F m ≠ -1 → SG F m
theorem Enn.sg {G F : Int → Int} (e : Enn G F) (s : SGT F) : SGT G := by
  intro m a c d
  unfold SG
  rw [e m a] at d
  rw [e (192 + m) (by omega), e (224 + m) (by omega)]
  exact s m a c d
def MN (g : HP) (b : Int → Int) (n : Int) (j : Nat) (F : Int → Int) (S : List TS) (LL : List Int) (was : Nat) : Prop := MQt g b n j ∧ SDm g S ∧ PLm g was S LL ∧ Enn (Wm g) F
/-- a failure, and what holds then -/
def BdM (g : HP) (er : Int) (was : Nat) : Prop := MS g ∧ hI g 721 983 = i32 0 ∧ hI g 706 983 = i32 er ∧ (∃ s : Nat, hI g 726 983 = i32 s ∧ s ≤ 400) ∧ (∃ p', hI g 714 983 = i32 p' ∧ (was : Int) ≤ p' ∧ p' ≤ 12000) ∧ TR (Wm g) ∧ SGT (Wm g)
def FrM (was : Nat) (g g' : HP) : Prop := Mo LM g g' ∧ (∀ i : Nat, i < was → hA g' 990 i = hA g 990 i) ∧ ∀ k, 292 ≤ k → Wm g' k = Wm g k
def ZoM (b : Int → Int) (n : Int) (was : Nat) (g : HP) (Z : ZR) (pl : Int) (g' : HP) : Prop := FrM was g g' ∧ (Z.1 = true → MN g' b n Z.2.1 Z.2.2.1 Z.2.2.2.1 Z.2.2.2.2 was ∧ hI g' 731 983 = i32 pl) ∧ (Z.1 = false → BdM g' (tks (tkn b n Z.2.1)) was)
theorem FrM.r {was : Nat} {g : HP} : FrM was g g := ⟨Mo.r, fun _ _ => rfl, fun _ _ => rfl⟩
theorem FrM.t {was : Nat} {g h k : HP} (p : FrM was g h) (q : FrM was h k) : FrM was g k := ⟨p.1.t q.1, fun i hi => (q.2.1 i hi).trans (p.2.1 i hi), fun x hx => (q.2.2 x hx).trans (p.2.2 x hx)⟩
theorem FrM.mo {was : Nat} {g h : HP} {l : List Nat} (p : Mo l g h) (s : lsub l LM = true) (a : l.contains 990 = false) (c : l.contains 987 = false) : FrM was g h := ⟨p.w s, fun i _ => by rw [p.A a], fun k _ => by rw [← Fm0, ← Fm0, Mo_Fm p c]⟩
theorem ZoM.pre {b : Int → Int} {n : Int} {was : Nat} {g0 g : HP} {Z : ZR} {pl : Int} {g' : HP} (z : ZoM b n was g Z pl g') (f : FrM was g0 g) : ZoM b n was g0 Z pl g' := ⟨f.t z.1, z.2⟩
section
variable {b : Int → Int} {n : Int} {was : Nat} {g g' : HP} {j : Nat} {F : Int → Int} {S : List TS} {LL : List Int}
theorem SDm.mo {l : List Nat} (D : SDm g S) (p : Mo l g g') (q : (l.contains 726 || l.contains 992 || l.contains 993 || l.contains 994) = false) : SDm g' S := by
  simp only [Bool.or_eq_false_iff] at q
  obtain ⟨⟨⟨q1, q2⟩, q3⟩, q4⟩ := q
  exact ⟨by rw [p.I q1]; exact D.1, fun k x h => by rw [p.L q2, p.A q3, p.A q4]; exact D.2 k x h⟩
theorem PLm.mo {l : List Nat} (D : PLm g was S LL) (p : Mo l g g') (q : (l.contains 714 || l.contains 990 || l.contains 995) = false) : PLm g' was S LL := by
  simp only [Bool.or_eq_false_iff] at q
  obtain ⟨⟨q1, q2⟩, q3⟩ := q
  refine ⟨by rw [p.I q1]; exact D.1, fun i e h => ?_⟩
  have := D.2 i e h
  unfold PLi at this ⊢
  rw [p.A q2, p.A q3]
  exact this
/-- over a step that reads a token -/
theorem MN.mo {l : List Nat} {j2 : Nat} (M : MN g b n j F S LL was) (p : Mo l g g') (q : (l.contains 726 || l.contains 992 || l.contains 993 || l.contains 994 || l.contains 714 || l.contains 990 || l.contains 995 || l.contains 987) = false) (Q : MQt g' b n j2) : MN g' b n j2 F S LL was := by
  simp only [Bool.or_eq_false_iff] at q
  obtain ⟨⟨⟨⟨⟨⟨⟨q1, q2⟩, q3⟩, q4⟩, q5⟩, q6⟩, q7⟩, q8⟩ := q
  refine ⟨Q, M.2.1.mo p (by rw [q1, q2, q3, q4]; rfl), M.2.2.1.mo p (by rw [q5, q6, q7]; rfl), ?_⟩
  have e := Mo_Fm p q8 0
  rw [Fm0, Fm0] at e
  rw [e]; exact M.2.2.2
theorem MN.pool (M : MN g b n j F S LL was) : hI g 714 983 = i32 (was + LL.length) := M.2.2.1.1
/-- a token that is wrong -/
theorem bad_of {l : List Nat} (M : MN g b n j F S LL was) (wb : (was : Int) ≤ 10300) (B : S.length ≤ 400 ∧ LL.length ≤ 480) (tr : TR F) (sg : SGT F) (p : Mo l g g') (q : l = [721, 706]) {er : Int} (z : hI g' 721 983 = i32 0) (e : hI g' 706 983 = i32 er) : BdM g' er was := by
  subst q
  have e2 := Mo_Fm p (by decide) 0
  rw [Fm0, Fm0] at e2
  refine ⟨p.ms M.1.ms, z, e, ⟨S.length, by rw [p.I (by decide)]; exact M.2.1.1, by omega⟩, ⟨was + LL.length, by rw [p.I (by decide)]; exact M.pool, by omega, by omega⟩, ?_, ?_⟩
  · rw [e2]; exact TR_E (M.2.2.2.T tr.ov) tr
  · rw [e2]; exact M.2.2.2.sg sg
theorem wW_sd {φ : Int → Int} (D : SDm g S) : SDm (wW g φ) S := D.mo (wW_mo φ) (by decide)
theorem wW_pl {φ : Int → Int} (D : PLm g was S LL) : PLm (wW g φ) was S LL := D.mo (wW_mo φ) (by decide)
theorem MN.w {G : Int → Int} (M : MN g b n j F S LL was) (e : Enn (Wm g') G) {l : List Nat} (p : Mo l g g') (q : l = [987] ∨ l = [731, 987]) : MN g' b n j G S LL was := by
  rcases q with q | q <;> subst q <;> exact ⟨M.1.mo p (by decide), M.2.1.mo p (by decide), M.2.2.1.mo p (by decide), e⟩
/-- the model reads what may stand behind "if" -/
theorem mif {node pl : Int} (n0 : 0 ≤ n) (n1 : n ≤ 1200) (M : MN g b n j F S LL was) (wb : (was : Int) ≤ 10300) (B : MBz b n j S LL) (h0 : 0 ≤ node) (h1 : node < 32) (tr : TR F) (sg : SGT F) (hp : hI g 731 983 = i32 pl) : ∃ g', fX11_readIf 983 (i32 node) g = some g' ∧ ZoM b n was g (pif (tkn b n) was node j F S LL) pl g' := by
  have C := M.1.ms
  have w2 := isW n0 M.1 2 (by decide)
  have e2 : kws.getD 2 0 = 294 := rfl
  rw [e2] at w2
  unfold fX11_readIf pif
  rw [C.o, gd_tt, w2, bn_s]
  by_cases tk : tkk (tkn b n j) = 6
  rotate_left
  · rw [if_neg (by rw [decide_eq_true_eq]; omega), if_neg tk]
    exact ⟨g, rfl, FrM.r, fun _ => ⟨M, hp⟩, fun z => by cases z⟩
  rw [if_pos (by rw [decide_eq_true_eq]; omega), if_pos tk]
  obtain ⟨g1, s1, s2, s3⟩ := M.1.next n0 n1
  have M1 := M.mo s2 (by decide) s3
  obtain ⟨b1, b2, b3, _⟩ := MBz_1 n0 B (by omega)
  have f1 : FrM was g g1 := FrM.mo s2 (by decide) (by decide) (by decide)
  obtain ⟨r1, r2⟩ := readCond_s n0 n1 h0 h1 s3 M1.2.1 M1.2.2.1 (⟨wb, b1, b2, by simpa using b3⟩)
  have ap := ap_dis (b := b) n0 (ow := node) 6 (j + 1) S
  change AP b n (j + 1) S (pcond (tkn b n) node (j + 1) S) at ap
  rw [s1, bn_s, s3.ms.o, gd_tt]
  have tn := tS_n (b := b) n0 j
  generalize pcond (tkn b n) node (j + 1) S = PD at *
  cases ok : PD.1 with
  | true =>
    obtain ⟨gf, x1, x2, x3, x4, x5, x6, x7⟩ := r1 ok
    rw [x1, bn_s]
    refine ⟨gf, rfl, f1.t ⟨x2.w (by decide), x7, fun k hk => by rw [x6 k (by omega), if_neg (by omega), if_neg (by omega)]⟩, fun _ => ⟨⟨x3, x4, x5, fun k hk => ?_⟩, ?_⟩, fun z => (by cases z)⟩
    · rw [x6 k hk]
      show _ = updI (updI F (192 + node) (was + LL.length)) (224 + node) PD.2.2.2.length k
      unfold updI
      by_cases c1 : k = 224 + node
      · rw [if_neg (by omega), if_pos c1, if_pos c1]
      · rw [if_neg c1, if_neg c1]
        by_cases c2 : k = 192 + node
        · rw [if_pos c2, if_pos c2]
        · rw [if_neg c2, if_neg c2]; exact M1.2.2.2 k hk
    · rw [x2.I (by decide), s2.I (by decide)]; exact hp
  | false =>
    obtain ⟨gf, x1, x2, x3, x4, ⟨s, x5, x6⟩, ⟨p', y1, y2, y3, y4⟩, x7⟩ := r2 ok
    rw [x1, bn_s]
    refine ⟨gf, rfl, f1.t ⟨x2.w (by decide), x7, fun k hk => by rw [y4 k (by omega), if_neg (by omega), if_neg (by omega)]⟩, fun z => (by cases z), fun _ => ⟨x2.ms s3.ms, x3, x4, ⟨s, x5, x6⟩, ⟨p', y1, by omega, y3⟩, ?_, ?_⟩⟩
    · refine TR_E (F := F) ⟨fun m a c => ?_, ?_, fun i i0 i1 => ?_⟩ tr
      · rw [y4 m a, if_neg (by omega), if_neg (by omega)]; exact M1.2.2.2 m a
      · rw [y4 288 (by omega), if_neg (by omega), if_neg (by omega)]; exact M1.2.2.2 288 (by omega)
      · rw [y4 (256 + i) (by omega), if_neg (by omega), if_neg (by omega)]; exact M1.2.2.2 (256 + i) (by omega)
    · intro m a c d
      rw [y4 m a, if_neg (by omega), if_neg (by omega), M1.2.2.2 m a] at d
      unfold SG
      rw [y4 (192 + m) (by omega), y4 (224 + m) (by omega)]
      by_cases q : m = node
      · rw [if_pos (by omega), if_neg (by omega), if_pos (by omega)]
        omega
      · rw [if_neg (by omega), if_neg (by omega), if_neg (by omega), if_neg (by omega), M1.2.2.2 _ (by omega), M1.2.2.2 _ (by omega)]
        exact sg m a c d
/-- a token behind a piece -/
theorem mpend {Z : ZR} {k pl : Int} (n0 : 0 ≤ n) (n1 : n ≤ 1200) (k0 : 13 < k) (k1 : k < 128) (wb : (was : Int) ≤ 10300) (z : ZoM b n was g Z pl g') (B : Z.1 = true → (Z.2.2.2.1.length ≤ 400 ∧ Z.2.2.2.2.length ≤ 480) ∧ TR Z.2.2.1 ∧ SGT Z.2.2.1) : isO g' 983 11 = true ∧ ∃ c, fX11_isHere 983 (i32 k) g' = some c ∧ ∃ g2, fX11_takes 983 c g' = some g2 ∧ ZoM b n was g (pend (tkn b n) k Z) pl g2 := by
  obtain ⟨z1, z2, z3⟩ := z
  unfold pend
  cases ok : Z.1 with
  | true =>
    obtain ⟨M, hp⟩ := z2 ok
    obtain ⟨B1, tr, sg⟩ := B ok
    rw [if_pos rfl]
    refine ⟨M.1.ms.o, _, isHere_s n0 M.1 k0 k1, ?_⟩
    by_cases c : tkk (tkn b n Z.2.1) = k
    · rw [decide_eq_true c, if_pos c]
      obtain ⟨g2, t1, t2, t3⟩ := takes_t n0 n1 M.1
      exact ⟨g2, t1, z1.t (FrM.mo t2 (by decide) (by decide) (by decide)), fun _ => ⟨M.mo t2 (by decide) t3, by rw [t2.I (by decide)]; exact hp⟩, fun z => by cases z⟩
    · rw [decide_eq_false c, if_neg c]
      obtain ⟨g2, t1, t2, t3, t4⟩ := takes_f M.1
      exact ⟨g2, t1, z1.t (FrM.mo t2 (by decide) (by decide) (by decide)), fun z => (by cases z), fun _ => bad_of M wb B1 tr sg t2 rfl t3 t4⟩
  | false =>
    rw [if_neg (by decide)]
    have b := z3 ok
    refine ⟨b.1.o, false, isHere_z b.1 b.2.1 _, g', takes_z b.1 b.2.1 _, z1, fun z => ?_, fun _ => b⟩
    rw [ok] at z; cases z
/-- writes into the world of a heap -/
theorem ww_s0 {β : Type} {h : HP} (M : MS h) {i v : Int} (i0 : 0 ≤ i) (i1 : i < 2880) (k : HP → Option β) : (oc (hR h 709 983) fun o => gd (isO h o 23) <| gd (inb (i32 i) (hln h o)) <| lt (sL h o (i32 i).toNatClampNeg (i64 v)) k) = k (wW h (updI (Wm h) i v)) := by
  have e := ww_s (φ := Wm h) M i0 i1 (v := v) k
  rwa [wW_self] at e
theorem ww_r0 {β : Type} {h : HP} (M : MS h) {i v : Int} (i0 : 0 ≤ i) (i1 : i < 2880) (k : HP → Option β) : (lt (hR h 709 983) fun v0 => oc v0 fun o => gd (isO h o 23) <| gd (inb (i32 i) (hln h o)) <| gd (inb (i32 i) (hln h o)) <| lt (sL h o (i32 i).toNatClampNeg (hL h o (i32 i).toNatClampNeg + i64 v)) k) = k (wW h (updI (Wm h) i (Wm h i + v))) := by
  have e := ww_r (φ := Wm h) M i0 i1 (v := v) k
  rwa [wW_self] at e
end
section
variable {b : Int → Int} {n : Int} {was : Nat} {g g' : HP} {j : Nat} {F : Int → Int} {S : List TS} {LL : List Int}
theorem MBz_w (n0 : 0 ≤ n) (n1 : n ≤ 1200) (B : MBz b n j S LL) : S.length ≤ 400 ∧ LL.length ≤ 480 := by
  have t := tS_n (b := b) n0 j
  obtain ⟨b1, b2, b3⟩ := B
  omega
theorem setc_T {node fr sz : Int} (h0 : 0 ≤ node) (h1 : node < 32) (tr : TR F) : TR (setc F node fr sz) := TR_E (F := F) ⟨fun m a c => setc_lo h0 h1 (Or.inl (by omega)), setc_lo h0 h1 (Or.inr (by omega)), fun i i0 i1 => setc_lo h0 h1 (Or.inr (by omega))⟩ tr
theorem setc_S {node fr sz : Int} (h0 : 0 ≤ node) (h1 : node < 32) (sg : SGT F) (f0 : 0 ≤ fr) (s0 : 0 ≤ sz) (s1 : fr + sz ≤ 12000) : SGT (setc F node fr sz) := by
  intro m a c d
  rw [setc_lo h0 h1 (Or.inl (by omega))] at d
  unfold SG
  by_cases q : m = node
  · rw [q, setc_fr, setc_sz]; exact ⟨f0, s0, s1⟩
  · unfold setc
    rw [updI_ne (by omega), updI_ne (by omega), updI_ne (by omega), updI_ne (by omega)]
    exact sg m a c d
theorem pif_w {node : Int} (n0 : 0 ≤ n) (n1 : n ≤ 1200) (wb : (was : Int) ≤ 10300) (B : MBz b n j S LL) (h0 : 0 ≤ node) (h1 : node < 32) (tr : TR F) (sg : SGT F) (ok : (pif (tkn b n) was node j F S LL).1 = true) : ((pif (tkn b n) was node j F S LL).2.2.2.1.length ≤ 400 ∧ (pif (tkn b n) was node j F S LL).2.2.2.2.length ≤ 480) ∧ TR (pif (tkn b n) was node j F S LL).2.2.1 ∧ SGT (pif (tkn b n) was node j F S LL).2.2.1 := by
  unfold pif at ok ⊢
  by_cases tk : tkk (tkn b n j) = 6
  · rw [if_pos tk] at ok ⊢
    have ap := ap_dis (b := b) n0 (ow := node) 6 (j + 1) S
    change AP b n (j + 1) S (pcond (tkn b n) node (j + 1) S) at ap
    have ap5 := ap5_dis (b := b) n0 (ow := node) 6 (j + 1) S
    change AQ5 b n (j + 1) (pcond (tkn b n) node (j + 1) S) at ap5
    obtain ⟨b1, b2, b3⟩ := MBz_1 n0 B (by omega)
    generalize pcond (tkn b n) node (j + 1) S = PD at *
    cases okP : PD.1 with
    | false => simp only [okP] at ok; cases ok
    | true =>
      simp only [okP]
      obtain ⟨⟨a1, a0⟩, a2, -, a4, a5, a6, a7, a8, a9⟩ := ap okP
      have a10 := ap5 okP 0 0 (Or.inl rfl) (Or.inl rfl)
      have t := tS_n (b := b) n0 PD.2.1
      have a2' := a2 b1
      rw [List.length_append]
      refine ⟨⟨by omega, by omega⟩, setc_T h0 h1 tr, setc_S h0 h1 sg (by omega) (by omega) (by omega)⟩
  · rw [if_neg tk]
    exact ⟨MBz_w n0 n1 B, tr, sg⟩
/-! after a failure nothing more is read -/
theorem z107 (M : MS g) (z : hI g 721 983 = i32 0) (O : OV (Wm g)) {v1 v2 v3 v4 s0 : Int32} : jX11_readField_107 983 v1 v2 v3 v4 s0 g = some g := by
  unfold jX11_readField_107
  rw [M.o, gd_tt, begins_z M z O, bn_s, M.o, gd_tt, z, i32_z, if_pos rfl]
theorem z71 (M : MS g) (z : hI g 721 983 = i32 0) (O : OV (Wm g)) {v1 v2 v3 s0 : Int32} : jX11_readField_71 983 v1 v2 v3 s0 g = some g := by
  unfold jX11_readField_71
  obtain ⟨x, ex⟩ := number_z M z (lo := s0) (hi := i32 9999)
  obtain ⟨y, ey⟩ := number_z M z (lo := i32 2) (hi := i32 9)
  by_cases c : v3 = 0
  · rw [if_pos c, M.o, gd_tt, ex, bn2_s, z107 M z O]
  rw [if_neg c]
  by_cases d : v3 = i32 1
  · rw [if_pos d, M.o, gd_tt, ey, bn2_s, z107 M z O]
  · rw [if_neg d, z107 M z O]
theorem z52 (M : MS g) (z : hI g 721 983 = i32 0) (O : OV (Wm g)) {v1 v2 v3 : Int32} : (if v3 = 0 then (gd (isO g 983 11) <| bn2 (fX11_number 983 (i32 0) (i32 9999) g) fun v106 h107 => jX11_readField_71 983 v1 v2 v3 v106 h107) else jX11_readField_71 983 v1 v2 v3 (i32 0) g) = some g := by
  obtain ⟨x, ex⟩ := number_z M z (lo := i32 0) (hi := i32 9999)
  by_cases c : v3 = 0
  · rw [if_pos c, M.o, gd_tt, ex, bn2_s, z71 M z O]
  · rw [if_neg c, z71 M z O]
theorem rIf_z (M : MS g) (z : hI g 721 983 = i32 0) {v : Int32} : fX11_readIf 983 v g = some g := by
  unfold fX11_readIf
  rw [M.o, gd_tt, isWord_z M z, bn_s, if_neg (by decide)]
theorem SGT_w {G : Int → Int} (sg : SGT F) (e : ∀ k, 0 ≤ k → (k < 32 ∨ (192 ≤ k ∧ k < 256)) → G k = F k) : SGT G := by
  intro m a c d
  rw [e m a (by omega)] at d
  unfold SG
  rw [e (192 + m) (by omega) (by omega), e (224 + m) (by omega) (by omega)]
  exact sg m a c d
theorem TR_w {G : Int → Int} (tr : TR F) (e : ∀ k, 0 ≤ k → (k < 32 ∨ (256 ≤ k ∧ k ≤ 288)) → G k = F k) : TR G := TR_E (F := F) ⟨fun m a c => e m a (by omega), e 288 (by omega) (by omega), fun i i0 i1 => e (256 + i) (by omega) (by have := tr.ov.2.1; omega)⟩ tr
/-- a width that was not right is written all the same -/
theorem wr_bad {g0 : HP} {er node : Int} {v : Int32} (z : BdM g er was) (h0 : 0 ≤ node) (h1 : node < 32) (e0 : hR g0 709 983 = some 987) : ∃ g', (oc (hR g0 709 983) fun o130 =>
  gd (isO g o130 23) <|
  gd (inb ((i32 160) + i32 node) (hln g o130)) <|
  lt (sL g o130 ((i32 160) + i32 node).toNatClampNeg (v.toInt64)) fun h134 =>
  gd (isO h134 983 11) <|
  bn (fX11_readIf 983 (i32 node) h134) fun h137 =>
  gd (isO h137 983 11) <|
  bn (fX11_isHere 983 (i32 59) h137) fun v140 =>
  bn (fX11_takes 983 v140 h137) fun h142 =>
  some h142) = some g' ∧ BdM g' er was ∧ FrM was g g' := by
  obtain ⟨M, z1, z2, z3, z4, z5, z6⟩ := z
  obtain ⟨a, a0, a1, rfl⟩ := i32_ex v
  rw [e0, ← M.r_world, i32_add, i32_64 a0 a1, ww_s0 M (by omega) (by omega)]
  have M' := wW_ms M (updI (Wm g) (160 + node) a)
  have z' : hI (wW g (updI (Wm g) (160 + node) a)) 721 983 = i32 0 := by rw [wW_I]; exact z1
  have rw' : ∀ k, 0 ≤ k → Wm (wW g (updI (Wm g) (160 + node) a)) k = updI (Wm g) (160 + node) a k := fun k k0 => wW_all (R64_upd (R64_Wm g) (by omega)) k0
  rw [M'.o, gd_tt, rIf_z M' z', bn_s, M'.o, gd_tt, isHere_z M' z', bn_s, takes_z M' z', bn_s]
  refine ⟨_, rfl, ⟨M', z', by rw [wW_I]; exact z2, by rw [wW_I]; exact z3, by rw [wW_I]; exact z4, ?_, ?_⟩, (wW_mo _).w (by decide), fun i _ => by unfold wW; rw [wL_A], fun k hk => ?_⟩
  · exact TR_w z5 (fun k k0 k1 => by rw [rw' k k0, updI_ne (by omega)])
  · exact SGT_w z6 (fun k k0 k1 => by rw [rw' k k0, updI_ne (by omega)])
  · rw [rw' k (by omega), updI_ne (by omega)]
theorem BdM.mo {l : List Nat} {er : Int} (z : BdM g er was) (p : Mo l g g') (q : (l.contains 721 || l.contains 706 || l.contains 726 || l.contains 714 || l.contains 987) = false) : BdM g' er was := by
  simp only [Bool.or_eq_false_iff] at q
  obtain ⟨⟨⟨⟨q1, q2⟩, q3⟩, q4⟩, q5⟩ := q
  obtain ⟨M, z1, z2, z3, z4, z5, z6⟩ := z
  have e := Mo_Fm p q5 0
  rw [Fm0, Fm0] at e
  exact ⟨p.ms M, by rw [p.I q1]; exact z1, by rw [p.I q2]; exact z2, by rw [p.I q3]; exact z3, by rw [p.I q4]; exact z4, by rw [e]; exact z5, by rw [e]; exact z6⟩
/-- the model reads a field from its name on -/
theorem mfldT {ins pl srt lo hi : Int} (n0 : 0 ≤ n) (n1 : n ≤ 1200) (M : MN g b n j F S LL was) (wb : (was : Int) ≤ 10300) (B : MBz b n j S LL) (t : TF F) (sg : SGT F) (gk : grok F ins) (P : PL F ins pl) (hp : hI g 731 983 = i32 pl) (m1 : F 289 < 24) (s0 : 0 ≤ srt) (s1 : srt ≤ 2) (l0 : 0 ≤ lo) (l1 : lo < 100000) (u0 : 0 ≤ hi) (u1 : hi < 100000) : ∃ g', jX11_readField_107 983 (i32 ins) (i32 (F 289)) (i32 srt) (i32 lo) (i32 hi) g = some g' ∧ ZoM b n was g (pfldT (tkn b n) was pl ins srt lo hi j F S LL) (pl + 1) g' := by
  obtain ⟨tr, nms, de, gv⟩ := id t
  have h0 : 0 ≤ F 289 := gv.1
  have h1 : F 289 < 32 := by omega
  have m32 : F 288 < 32 := gv.m (n := 0) (Or.inl m1)
  obtain ⟨p0, p1, -⟩ := id P
  have E := M.2.2.2
  have C := M.1.ms
  have nab : F (F 289) = -1 := by
    by_cases z : F (F 289) = -1
    · exact z
    · have := gv.2.2.2.2.2 _ h0 h1 z; omega
  have O : OV (Wm g) := EqT_OV (E.T tr.ov) tr.ov
  have insr : -2 ≤ ins ∧ ins < 32 := by rcases gk with h | ⟨h2, h3, h4⟩ <;> omega
  have Bw := MBz_w n0 n1 B
  unfold jX11_readField_107 pfldT
  rw [C.o, gd_tt]
  rcases begins_s n0 n1 M.1 O (node := F 289) (grp := ins) (srt := srt) hp p0 (by rw [E 288 (by omega)]; exact p1) (by rw [E 288 (by omega)]; exact m32) h0 h1 insr.1 insr.2 s0 (by omega) with ⟨a1, a2, gb, b1, b2, b3, b4, b5⟩ | ⟨a1, gb, b1, b2, b3, b4⟩
  rotate_left
  · rw [b1, bn_s, b2.ms C |>.o, gd_tt, b3, i32_z, if_pos rfl, if_neg (fun z => a1 (by rw [E.nm tr.ov]; exact nmOk_t.mp z))]
    exact ⟨gb, rfl, FrM.mo b2 (by decide) (by decide) (by decide), fun z => (by cases z), fun _ => bad_of M wb Bw tr sg b2 rfl b3 b4⟩
  have a2' : fnm F (tkv (tkn b n j)) < 0 := by rw [← E.nm tr.ov]; exact a2
  have Cb := b3.ms
  have nv := ((tk_val (b := b) n0 j).2.1 (Or.inl a1)).1
  have Eb : Enn (Wm gb) (addF F pl (F 289) ins srt (tkv (tkn b n j))) := fun k k0 => (b5 k k0).trans (E.add p0 k k0)
  have e289 : Wm gb 289 = F 289 := by rw [Eb 289 (by omega), addF_gt h0 h1 p1 m32 (by omega)]
  rw [b1, bn_s, Cb.o, gd_tt, b3.fn, i32_z, if_neg i32_1n0, if_pos (nmOk_t.mpr ⟨a1, a2'⟩), ww_r0 Cb (by omega) (by omega), e289]
  simp only [i32_add, i32_64 (show (-2147483648 : Int) ≤ lo by omega) (show lo < 2147483648 by omega), i32_64 (show (-2147483648 : Int) ≤ hi by omega) (show hi < 2147483648 by omega)]
  rw [ww_s Cb (by omega) (by omega), ww_s Cb (by omega) (by omega)]
  obtain ⟨g4, e4⟩ : ∃ g4, g4 = wW gb (updI (updI (updI (Wm gb) 289 (F 289 + 1)) (96 + F 289) lo) (128 + F 289) hi) := ⟨_, rfl⟩
  obtain ⟨F4, eF⟩ : ∃ F4, F4 = updI (updI (updI (addF F pl (F 289) ins srt (tkv (tkn b n j))) 289 (F 289 + 1)) (96 + F 289) lo) (128 + F 289) hi := ⟨_, rfl⟩
  rw [← e4]
  have E4 : Enn (Wm g4) F4 := by
    intro k k0
    rw [e4, wW_all (R64_upd (R64_upd (R64_upd (R64_Wm gb) (by omega)) (by omega)) (by omega)) k0, eF]
    exact (((Eb.upd _ _).upd _ _).upd _ _) k k0
  have q4 : Mo [987] gb g4 := by rw [e4]; exact wW_mo _
  have fb : Mo LM g g4 := (b2.w (by decide)).t (q4.w (by decide))
  have M4 : MN g4 b n (j + 1) F4 S LL was := ⟨b3.mo q4 (by decide), (M.2.1.mo b2 (by decide)).mo q4 (by decide), (M.2.2.1.mo b2 (by decide)).mo q4 (by decide), E4⟩
  have hp4 : hI g4 731 983 = i32 (pl + 1) := by rw [e4, wW_I]; exact b4
  have F4at : ∀ x, x ≠ 289 → x ≠ 96 + F 289 → x ≠ 128 + F 289 → F4 x = addF F pl (F 289) ins srt (tkv (tkn b n j)) x := fun x x1 x2 x3 => by rw [eF, updI_ne x3, updI_ne x2, updI_ne x1]
  have fr4 : FrM was g g4 := by
    refine ⟨fb, fun i _ => by rw [q4.A (by decide), b2.A (by decide)], fun k hk => ?_⟩
    rw [E4 k (by omega), F4at k (by omega) (by omega) (by omega), addF_gt h0 h1 p1 m32 (by omega), E k (by omega)]
  obtain ⟨tTF, -⟩ := TF_add (srt := srt) (nm := tkv (tkn b n j)) t (updI F4 160 0) (node := F 289) (ins := ins) (p := pl) (Or.inl ⟨rfl, m1, by rw [updI_ne (by omega), eF, updI_ne (by omega), updI_ne (by omega), updI_at rfl], by rw [updI_ne (by omega), F4at _ (by omega) (by omega) (by omega), addF_gt h0 h1 p1 m32 (by omega)]⟩) gk P nv a2' (fun k k0 k1 k2 => by rw [updI_ne (by omega), F4at k (by omega) (by omega) (by omega)])
  have tr4 : TR F4 := TR_w tTF.1 (fun k k0 k1 => by rw [updI_ne (by omega)])
  have sg4 : SGT F4 := by
    intro m a c d
    rw [F4at m (by omega) (by omega) (by omega), addF_n p0 h0 h1 c] at d
    unfold SG
    rw [F4at _ (by omega) (by omega) (by omega), F4at _ (by omega) (by omega) (by omega), addF_lo p0 h0 h1 (by omega), addF_lo p0 h0 h1 (by omega)]
    by_cases q : m = F 289
    · rw [if_neg (by omega), if_neg (by omega), if_neg (by omega), if_pos (by omega), if_neg (by omega), if_neg (by omega), if_neg (by omega), if_pos (by omega)]
      omega
    · rw [if_neg q] at d
      rw [if_neg (by omega), if_neg (by omega), if_neg (by omega), if_neg (by omega), if_neg (by omega), if_neg (by omega), if_neg (by omega), if_neg (by omega)]
      exact sg m a c d
  have B1 : MBz b n (j + 1) S LL := MBz_1 n0 B (by show tK b n j ≠ 0; omega)
  have w3 : fX11_isWord 983 (i64 24416904) g4 = some (decide (tkk (tkn b n (j + 1)) = 7)) := isW n0 M4.1 3 (by decide)
  rw [w3, bn_s]
  by_cases c1 : tkk (tkn b n (j + 1)) = 7
  rotate_left
  · obtain ⟨g5, t1, t2, t3, t4⟩ := takes_f M4.1
    have bd := bad_of M4 wb Bw tr4 sg4 t2 rfl t3 t4
    obtain ⟨v, ev⟩ := number_z bd.1 t3 (lo := i32 1) (hi := i32 10)
    obtain ⟨g6, x1, x2, x3⟩ := wr_bad (g0 := g5) (v := v) bd h0 h1 bd.1.r_world
    rw [i32_add] at x1
    rw [decide_eq_false c1, t1, bn_s, bd.1.o, gd_tt, ev, bn2_s, x1, if_neg c1]
    exact ⟨g6, rfl, (fr4.t (FrM.mo t2 (by decide) (by decide) (by decide))).t x3, fun z => (by cases z), fun _ => x2⟩
  obtain ⟨g5, t1, t2, t3⟩ := takes_t n0 n1 M4.1
  have M5 := M4.mo t2 (by decide) t3
  have fr5 := fr4.t (FrM.mo t2 (by decide) (by decide) (by decide))
  have B2 := MBz_1 n0 B1 (by omega)
  rw [decide_eq_true c1, t1, bn_s, t3.ms.o, gd_tt, if_pos c1]
  rcases number_s n0 n1 M5.1 (lo := 1) (hi := 10) (by omega) (by omega) (by omega) (by omega) with ⟨d1, d2, d3, g6, k1, k2, k3⟩ | ⟨d1, v, g6, k1, k2, k3, k4⟩
  rotate_left
  · have bd := bad_of M5 wb Bw tr4 sg4 k2 rfl k3 k4
    obtain ⟨g7, x1, x2, x3⟩ := wr_bad (g0 := g5) (v := v) bd h0 h1 t3.ms.r_world
    rw [i32_add] at x1
    rw [k1, bn2_s, x1, if_neg (fun z => d1 (pin_t.mp z))]
    exact ⟨g7, rfl, (fr5.t (FrM.mo k2 (by decide) (by decide) (by decide))).t x3, fun z => (by cases z), fun _ => x2⟩
  have d1 : tkk (tkn b n (j + 2)) = 3 := d1
  have d2 : 1 ≤ tkv (tkn b n (j + 2)) := d2
  have d3 : tkv (tkn b n (j + 2)) ≤ 10 := d3
  have k3 : MQt g6 b n (j + 3) := k3
  have M6 : MN g6 b n (j + 3) F4 S LL was := M5.mo k2 (by decide) k3
  have fr6 := fr5.t (FrM.mo k2 (by decide) (by decide) (by decide))
  have B3 : MBz b n (j + 3) S LL := MBz_1 n0 B2 (by show tkk (tkn b n (j + 2)) ≠ 0; omega)
  have k1' : fX11_number 983 (i32 1) (i32 10) g5 = some (i32 (tkv (tkn b n (j + 2))), g6) := k1
  rw [k1', bn2_s, show hR g5 709 983 = hR g6 709 983 by rw [t3.ms.r_world, k3.ms.r_world], i32_64 (by omega) (by omega), ww_s0 k3.ms (by omega) (by omega), if_pos (pin_t.mpr ⟨d1, d2, d3⟩)]
  obtain ⟨g7, e7⟩ : ∃ g7, g7 = wW g6 (updI (Wm g6) (160 + F 289) (tkv (tkn b n (j + 2)))) := ⟨_, rfl⟩
  obtain ⟨F7, eF7⟩ : ∃ F7, F7 = fldF F pl ins srt (tkv (tkn b n j)) lo hi (tkv (tkn b n (j + 2))) := ⟨_, rfl⟩
  have eF7' : F7 = updI F4 (160 + F 289) (tkv (tkn b n (j + 2))) := by rw [eF7, eF]; rfl
  have E7 : Enn (Wm g7) F7 := by
    intro k k0
    rw [e7, wW_all (R64_upd (R64_Wm g6) (by omega)) k0, eF7']
    exact (M6.2.2.2.upd _ _) k k0
  have q7 : Mo [987] g6 g7 := by rw [e7]; exact wW_mo _
  have M7 : MN g7 b n (j + 3) F7 S LL was := M6.w E7 q7 (Or.inl rfl)
  have fr7 : FrM was g g7 := by
    refine fr6.t ⟨q7.w (by decide), fun i _ => by rw [q7.A (by decide)], fun k hk => ?_⟩
    rw [E7 k (by omega), eF7', updI_ne (by omega), M6.2.2.2 k (by omega)]
  have hp7 : hI g7 731 983 = i32 (pl + 1) := by rw [e7, wW_I, k2.I (by decide), t2.I (by decide)]; exact hp4
  have tr7 : TR F7 := TR_w tr4 (fun k k0 k1 => by rw [eF7', updI_ne (by omega)])
  have sg7 : SGT F7 := SGT_w sg4 (fun k k0 k1 => by rw [eF7', updI_ne (by omega)])
  rw [← e7, ← eF7, M7.1.ms.o, gd_tt]
  obtain ⟨g8, y1, y2⟩ := mif n0 n1 M7 wb B3 h0 h1 tr7 sg7 hp7
  obtain ⟨o8, c8, y3, g9, y4, y5⟩ := mpend n0 n1 (k := 59) (by omega) (by omega) wb y2 (fun ok => pif_w n0 n1 wb B3 h0 h1 tr7 sg7 ok)
  rw [y1, bn_s, o8, gd_tt, y3, bn_s, y4, bn_s]
  exact ⟨g9, rfl, y5.pre fr7⟩
end
