/-! THE MODEL RESOLVES ITS TESTS -/
theorem EqT_r (F : Int → Int) : EqT F F := ⟨fun _ _ _ => rfl, rfl, fun _ _ _ => rfl⟩
theorem NE_congr {F : Int → Int} {R R' : Int → Int32} (T : TV F) (h : ∀ n, 0 ≤ n → n < 32 → F n ≠ -1 → R n = R' n) : NE F R = NE F R' := EqT_NE (EqT_r F) T.av h T
theorem RlL_none {L : List Int32} (h : ∀ t ∈ L, tT t = false) : RlL L = i32 0 := by
  have key : ∀ (L : List Int32) (c : Int32), (∀ t ∈ L, tT t = false) → L.foldl (fun c t => if tT t = true then c ||| (i32 1 <<< (tF t &&& 31)) else c) c = c := by
    intro L
    induction L with
    | nil => intro c _; rfl
    | cons t L ih =>
      intro c hL
      rw [List.foldl_cons, if_neg (by rw [hL t List.mem_cons_self]; decide)]
      exact ih c (fun u hu => hL u (List.mem_cons_of_mem _ hu))
  exact key L _ h
section
variable {n : Int} {F : Int → Int} {S : List TS} {LL : List Int} {was : Nat} {old : Int → Bool}
/-- the pool, with the fields of the first i tests -/
def PLr (g : HP) (was : Nat) (F : Int → Int) (S : List TS) (LL : List Int) (i : Nat) : Prop := ∀ (q : Nat) (e : Int), LL[q]? = some e → if 4 ≤ e then ∃ x, S[(e - 4).toNat]? = some x ∧ hA g 990 (was + q) = (if (e - 4).toNat < i then i32 (tcd (fnm F x.1) x.2.2.2.1 x.2.2.2.2) else i32 (tcd 0 x.2.2.2.1 x.2.2.2.2)) ∧ hA g 995 (e - 4).toNat = i32 ((was + q : Nat) : Int) else hA g 990 (was + q) = i32 e
theorem PLr_0 {g : HP} (P : PLm g was S LL) : PLr g was F S LL 0 := by
  intro q e h
  have := P.2 q e h
  unfold PLi at this
  by_cases c : 4 ≤ e
  · rw [if_pos c] at this ⊢
    obtain ⟨x, x1, x2, x3⟩ := this
    exact ⟨x, x1, by rw [if_neg (by omega)]; exact x2, x3⟩
  · rw [if_neg c] at this ⊢; exact this
/-- what resolving needs to know of the tests -/
def SetM (g : HP) (F : Int → Int) (S : List TS) (LL : List Int) (was : Nat) : Prop := MS g ∧ SDm g S ∧ Enn (Wm g) F ∧ TR F ∧ S.length ≤ 400 ∧ LL.length ≤ 480 ∧ (was : Int) ≤ 10300 ∧ ∀ (k : Nat) (x : TS), S[k]? = some x → (4 + (k : Int)) ∈ LL ∧ tsOk n x.2.2.1 x ∧ 0 ≤ x.2.2.1 ∧ x.2.2.1 < 32 ∧ F x.2.2.1 ≠ -1
theorem SDm.m3 {g g' : HP} (D : SDm g S) (p : Mo [990, 721, 706] g g') : SDm g' S := D.mo p (by decide)
theorem mres1 {g0 : HP} (D : SetM (n := n) g0 F S LL was) {K : Nat → HP → Option HP} : ∀ (k m i : Nat) (g : HP), i + k = S.length → k + 1 < m → Mo [990, 721, 706] g0 g → hI g 721 983 = i32 1 → PLr g was F S LL i → (∀ p : Nat, p < was → hA g 990 p = hA g0 990 p) →
  (∀ e, pnames F (S.drop i) = some e → ∃ g', lX11_resolves_2 K m 983 (i32 i) g = K 983 g' ∧ Mo [990, 721, 706] g0 g' ∧ hI g' 721 983 = i32 0 ∧ hI g' 706 983 = i32 e ∧ ∀ p : Nat, p < was → hA g' 990 p = hA g0 990 p) ∧
  (pnames F (S.drop i) = none → ∃ g', lX11_resolves_2 K m 983 (i32 i) g = K 983 g' ∧ Mo [990, 721, 706] g0 g' ∧ hI g' 721 983 = i32 1 ∧ hI g' 706 983 = hI g 706 983 ∧ PLr g' was F S LL S.length ∧ ∀ p : Nat, p < was → hA g' 990 p = hA g0 990 p) := by
  obtain ⟨M0, d1, d2, d3, d4, d5, d6, d7⟩ := D
  intro k
  induction k with
  | zero =>
    intro m i g e hm p hf hP hw
    obtain ⟨m, rfl⟩ : ∃ x, m = x + 1 := ⟨m - 1, by omega⟩
    have M := p.ms M0
    have el : S.drop i = [] := List.drop_eq_nil_of_le (by omega)
    have h726 : hI g 726 983 = i32 S.length := by rw [p.I (by decide)]; exact d1.1
    have step : lX11_resolves_2 K (m + 1) 983 (i32 i) g = K 983 g := by
      rw [elX11_resolves_2]; unfold bX11_resolves_2
      rw [M.o, gd_tt, h726, if_pos (by rw [i32_le (by omega) (by omega) (by omega) (by omega)]; omega)]
    rw [el]
    refine ⟨fun e h => (by cases h), fun _ => ⟨g, step, p, hf, rfl, ?_, hw⟩⟩
    have : i = S.length := by omega
    rw [← this]; exact hP
  | succ k ih =>
    intro m i g e hm p hf hP hw
    obtain ⟨m, rfl⟩ : ∃ x, m = x + 1 := ⟨m - 1, by omega⟩
    have M := p.ms M0
    have hi : i < S.length := by omega
    obtain ⟨x, hx⟩ : ∃ x, S[i]? = some x := ⟨_, List.getElem?_eq_getElem hi⟩
    have h726 : hI g 726 983 = i32 S.length := by rw [p.I (by decide)]; exact d1.1
    have sd := (d1.m3 p).2 i x hx
    have En : Enn (Wm g) F := by
      have := Mo_Fm p (by decide) 0
      rw [Fm0, Fm0] at this
      rw [this]; exact d2
    obtain ⟨w1, w2, w3, w4, w5⟩ := d7 i x hx
    unfold tsOk at w2
    have fr := fnm_rng (w := x.1) d3.ov
    have nv := w2.1
    have nvr : 0 < x.1 ∧ x.1 < 1099511627776 := ⟨nv.1, nv.2.1⟩
    have O : OV (Wm g) := EqT_OV (En.T d3.ov) d3.ov
    have nn := nodeNamed_s M (fo := 0) (w := x.1) (by omega) (by omega) (by omega) (by omega) (by rw [Fm0]; exact O)
    rw [Fm0, En.nm d3.ov] at nn
    obtain ⟨q, hq⟩ := List.getElem?_of_mem w1
    have hq1 := (List.getElem?_eq_some_iff.mp hq).1
    have pl := hP q _ hq
    rw [if_pos (by omega), show (4 + (i : Int) - 4).toNat = i by omega] at pl
    obtain ⟨y, y1, y2, y3⟩ := pl
    rw [hx] at y1; cases y1
    rw [if_neg (by omega)] at y2
    rw [drop_cons hx]
    simp only [pnames]
    have fail : ¬ (0 ≤ fnm F x.1 ∧ fnm F x.1 < 24) → lX11_resolves_2 K (m + 1) 983 (i32 i) g = jX11_resolves_40 (fun v0 v1 h => lX11_resolves_2 K m v0 v1 h) 983 (i32 i) g := by
      intro c
      rw [elX11_resolves_2]; unfold bX11_resolves_2
      rw [M.o, gd_tt, h726, if_neg (by rw [i32_le (by omega) (by omega) (by omega) (by omega)]; omega), hf, i32_z, if_neg i32_1n0, M.r_saidName, oc_s, M.o_saidName, gd_tt, M.n_saidName, i32_inb (by omega) (by omega) (by omega), gd_tt, i32_cn (by omega) (by omega), Int.toNat_natCast, sd.1, nn, bn_s]
      by_cases c2 : fnm F x.1 < 0
      · rw [if_pos (by rw [i32_lt (by omega) (by omega) (by omega) (by omega)]; exact c2)]
      · rw [if_neg (by rw [i32_lt (by omega) (by omega) (by omega) (by omega)]; exact c2), isField_s (by omega) (by omega), bn_s, decide_eq_false (by omega), if_neg (by decide)]
    by_cases c : 0 ≤ fnm F x.1 ∧ fnm F x.1 < 24
    rotate_left
    · rw [if_neg c]
      refine ⟨fun e' he => ?_, fun he => by cases he⟩
      cases he
      obtain ⟨m, rfl⟩ : ∃ x, m = x + 1 := ⟨m - 1, by omega⟩
      obtain ⟨g2, e2⟩ : ∃ g2, g2 = sI (sI g 721 983 (i32 0)) 706 983 (i32 x.2.1) := ⟨_, rfl⟩
      have q2 : Mo [990, 721, 706] g g2 := by rw [e2]; exact (Mo_I (by decide) _).t (Mo_I (by decide) _)
      have M2 := q2.ms M
      have M1 : MS (sI g 721 983 (i32 0)) := M.sk (sk_sI rfl)
      have z2 : hI g2 721 983 = i32 0 := by rw [e2, rII, if_neg (by omega), rII, if_pos ⟨rfl, rfl⟩]
      refine ⟨g2, ?_, p.t q2, z2, by rw [e2, rII, if_pos ⟨rfl, rfl⟩], fun r hr => by rw [e2]; exact hw r hr⟩
      rw [fail c]
      unfold jX11_resolves_40 jX11_resolves_75
      rw [M.o, gd_tt, lt_e, M1.r_saidAt, oc_s, M1.o_saidAt, gd_tt, M1.n_saidAt, i32_inb (by omega) (by omega) (by omega), gd_tt, i32_cn (by omega) (by omega), Int.toNat_natCast, rAI, sd.2.1, lt_e, ← e2, i32_add, lt_e]
      show lX11_resolves_2 K (m + 1) 983 (i32 ((i : Int) + 1)) g2 = K 983 g2
      rw [elX11_resolves_2]; unfold bX11_resolves_2
      rw [M2.o, gd_tt]
      by_cases c3 : hI g2 726 983 ≤ i32 ((i : Int) + 1)
      · rw [if_pos c3]
      · rw [if_neg c3, z2, i32_z, if_pos rfl]
    rw [if_pos c]
    have pr := fnm_pr d3 c.1
    obtain ⟨g2, e2⟩ : ∃ g2, g2 = sA g 990 (was + q) (i32 (tcd (fnm F x.1) x.2.2.2.1 x.2.2.2.2)) := ⟨_, rfl⟩
    have q2 : Mo [990, 721, 706] g g2 := by rw [e2]; exact Mo_A (by decide) _ _
    have go : lX11_resolves_2 K (m + 1) 983 (i32 i) g = lX11_resolves_2 K m 983 (i32 ((i + 1 : Nat) : Int)) g2 := by
      rw [elX11_resolves_2]; unfold bX11_resolves_2
      rw [M.o, gd_tt, h726, if_neg (by rw [i32_le (by omega) (by omega) (by omega) (by omega)]; omega), hf, i32_z, if_neg i32_1n0, M.r_saidName, oc_s, M.o_saidName, gd_tt, M.n_saidName, i32_inb (by omega) (by omega) (by omega), gd_tt, i32_cn (by omega) (by omega), Int.toNat_natCast, sd.1, nn, bn_s, if_neg (by rw [i32_lt (by omega) (by omega) (by omega) (by omega)]; omega), isField_s (by omega) (by omega), bn_s, decide_eq_true (by omega), if_pos rfl, M.r_saidIn, oc_s, M.o_saidIn, gd_tt, M.n_saidIn, i32_inb (by omega) (by omega) (by omega), gd_tt, y3, lt_e, M.r_pool, lt_e, oc_s, M.o_pool, gd_tt, M.n_pool, i32_inb (by omega) (by omega) (by omega), gd_tt, gd_tt, i32_cn (by omega) (by omega), Int.toNat_natCast, y2, tok_or c.1 (by omega) w2.2.2.2.2.1 w2.2.2.2.2.2.1 w2.2.2.2.2.2.2.1 w2.2.2.2.2.2.2.2, lt_e, ← e2]
      unfold jX11_resolves_75
      rw [i32_add, lt_e]
      rfl
    rw [go]
    have r990 : ∀ r, hA g2 990 r = if r = was + q then i32 (tcd (fnm F x.1) x.2.2.2.1 x.2.2.2.2) else hA g 990 r := by
      intro r
      rw [e2, rAA]
      by_cases h : r = was + q
      · rw [if_pos ⟨rfl, h⟩, if_pos h]
      · rw [if_neg (fun z => h z.2), if_neg h]
    have r995 : hA g2 995 = hA g 995 := by
      funext r
      rw [e2, rAA, if_neg (by omega)]
    obtain ⟨r1, r2⟩ := ih m (i + 1) g2 (by omega) (by omega) (p.t q2) (by rw [e2, rIA]; exact hf) (by
      intro r e' he
      have h0 := hP r e' he
      by_cases c4 : 4 ≤ e'
      · rw [if_pos c4] at h0 ⊢
        obtain ⟨y, y1', y2', y3'⟩ := h0
        refine ⟨y, y1', ?_, by rw [r995]; exact y3'⟩
        rw [r990]
        by_cases c5 : (e' - 4).toNat = i
        · have hyx : y = x := by rw [c5, hx] at y1'; exact (Option.some.inj y1').symm
          rw [c5, y3, i32_eq (by omega) (by omega) (by have := (List.getElem?_eq_some_iff.mp he).1; omega) (by have := (List.getElem?_eq_some_iff.mp he).1; omega)] at y3'
          rw [if_pos (by omega), if_pos (by omega), hyx]
        · have hr : r ≠ q := by
            intro z
            rw [z, hq] at he
            have := Option.some.inj he
            omega
          rw [if_neg (by omega), y2']
          by_cases c6 : (e' - 4).toNat < i
          · rw [if_pos c6, if_pos (by omega)]
          · rw [if_neg c6, if_neg (by omega)]
      · rw [if_neg c4] at h0 ⊢
        have hr : r ≠ q := by
          intro z
          rw [z, hq] at he
          have := Option.some.inj he
          omega
        rw [r990, if_neg (by omega)]; exact h0) (fun r hr => by rw [r990, if_neg (by omega)]; exact hw r hr)
    refine ⟨r1, fun he => ?_⟩
    obtain ⟨g', z1, z2, z3, z4, z5, z6⟩ := r2 he
    exact ⟨g', z1, z2, z3, by rw [z4, e2, rIA], z5, z6⟩
/-! the needs, those that are read left out -/
theorem mres83 {h : HP} (M : MS h) {K : Nat → HP → Option HP} : ∀ (k m : Nat) (i : Int) (φ : Nat → Int32), 0 ≤ i → i + k = 24 → k < m → lX11_resolves_83 K m 983 (i32 i) (wA h 991 φ) = K 983 (wA h 991 (zer i φ)) := by
  intro k
  induction k with
  | zero =>
    intro m i φ i0 e hm
    obtain ⟨m, rfl⟩ : ∃ x, m = x + 1 := ⟨m - 1, by omega⟩
    rw [elX11_resolves_83]; unfold bX11_resolves_83
    rw [if_pos (by rw [i32_le (by omega) (by omega) (by omega) (by omega)]; omega)]
    congr 2
    funext j
    unfold zer
    rw [if_neg (by omega)]
  | succ k ih =>
    intro m i φ i0 e hm
    obtain ⟨m, rfl⟩ : ∃ x, m = x + 1 := ⟨m - 1, by omega⟩
    have M' : MS (wA h 991 φ) := M.sk (wA_sk _ _ _)
    rw [elX11_resolves_83]; unfold bX11_resolves_83
    rw [if_neg (by rw [i32_le (by omega) (by omega) (by omega) (by omega)]; omega), M'.o, gd_tt, M'.r_needs, oc_s, M'.o_needs, gd_tt, M'.n_needs, i32_inb (by omega) (by omega) (by omega), gd_tt, i32_cn (by omega) (by omega), sA_wA, lt_e, i32_add, lt_e]
    refine (ih m (i + 1) _ (by omega) (by omega) (by omega)).trans ?_
    congr 2
    funext j
    unfold zer
    rw [up1_e]
    by_cases c : i + 1 ≤ j ∧ (j : Int) < 24
    · rw [if_pos c, if_pos (show i ≤ j ∧ (j : Int) < 24 from ⟨by omega, c.2⟩)]
    · rw [if_neg c]
      by_cases d : j = i.toNat
      · rw [if_pos d, if_pos (show i ≤ j ∧ (j : Int) < 24 from ⟨by omega, by omega⟩)]
      · rw [if_neg d, if_neg (by omega)]
/-- whether a test of a node was read -/
def rdB (h : HP) (s : Nat) (x : Int) : Bool := anyf (fun k => decide (hA h 994 k.toNat = i32 x)) s 0
theorem isReadL_s {h : HP} (M : MS h) {s : Nat} (hs : hI h 726 983 = i32 s) (s4 : s ≤ 400) {x : Int} : ∀ (k m : Nat) (i : Int), 0 ≤ i → i + k = s → k < m → lX11_isRead_2 h m 983 (i32 x) (i32 i) = some (anyf (fun k => decide (hA h 994 k.toNat = i32 x)) k i) := by
  intro k
  induction k with
  | zero =>
    intro m i i0 e hm
    obtain ⟨m, rfl⟩ : ∃ x, m = x + 1 := ⟨m - 1, by omega⟩
    rw [elX11_isRead_2]; unfold bX11_isRead_2
    rw [M.o, gd_tt, hs, if_pos (by rw [i32_le (by omega) (by omega) (by omega) (by omega)]; omega)]
    rfl
  | succ k ih =>
    intro m i i0 e hm
    obtain ⟨m, rfl⟩ : ∃ x, m = x + 1 := ⟨m - 1, by omega⟩
    rw [elX11_isRead_2]; unfold bX11_isRead_2
    rw [M.o, gd_tt, hs, if_neg (by rw [i32_le (by omega) (by omega) (by omega) (by omega)]; omega), M.r_saidNode, oc_s, M.o_saidNode, gd_tt, M.n_saidNode, i32_inb (by omega) (by omega) (by omega), gd_tt, i32_cn (by omega) (by omega)]
    simp only [anyf]
    by_cases c : hA h 994 i.toNat = i32 x
    · rw [if_pos c, if_pos (decide_eq_true c)]
    · rw [if_neg c, if_neg (by rw [decide_eq_true_eq]; exact c), i32_add, lt_e]
      exact ih m (i + 1) (by omega) (by omega) (by omega)
theorem isRead_s {h : HP} (M : MS h) {s : Nat} (hs : hI h 726 983 = i32 s) (s4 : s ≤ 400) {x : Int} : fX11_isRead 983 (i32 x) h = some (rdB h s x) := by
  unfold fX11_isRead rdB
  exact isReadL_s M hs s4 s FU 0 (by omega) (by omega) (by have : FU = 1000000 := rfl; omega)
theorem upN_0 {G : Int → Int} {x lo : Int} {φ : Nat → Int32} : upN G x (i32 0) lo φ = φ := by
  funext j
  unfold upN
  by_cases c : lo ≤ j ∧ (j : Int) < 24 ∧ G j ≠ -1 ∧ isin G 9 j x = true
  · rw [if_pos c, or_z]
  · rw [if_neg c]
theorem mres104 {h : HP} (M : MS h) (tr : TR (Wm h)) (sg : SGT (Wm h)) {s : Nat} (hs : hI h 726 983 = i32 s) (s4 : s ≤ 400) {K : Nat → HP → Option HP} : ∀ (k m : Nat) (i : Int) (φ : Nat → Int32), 0 ≤ i → i + k = Wm h 288 → k < m → lX11_resolves_104 K m 983 (i32 i) (wA h 991 φ) = K 983 (wA h 991 (lay (Wm h) (fun n => if rdB h s n = true then i32 0 else Rm (Wm h) (Pt h) n) (-3) k i φ)) := by
  have o1 := tr.ov.1
  have o2 := tr.ov.2.1
  intro k
  induction k with
  | zero =>
    intro m i φ i0 e hm
    obtain ⟨m, rfl⟩ : ∃ x, m = x + 1 := ⟨m - 1, by omega⟩
    have M' : MS (wA h 991 φ) := M.sk (wA_sk _ _ _)
    rw [elX11_resolves_104]; unfold bX11_resolves_104
    rw [M'.o, gd_tt, many_s M' (by omega) (by omega), bn_s, Fm_wA, Fm0, if_pos (by rw [i32_le (by omega) (by omega) (by omega) (by omega)]; omega)]
    rfl
  | succ k ih =>
    intro m i φ i0 e hm
    obtain ⟨m, rfl⟩ : ∃ x, m = x + 1 := ⟨m - 1, by omega⟩
    have M' : MS (wA h 991 φ) := M.sk (wA_sk _ _ _)
    have o := tr.ov.2.2 i i0 (by omega)
    have np := tr.op i i0 (by omega)
    have ir := isRead_s M' (s := s) (x := Wm h (256 + i)) (by rw [wA_I]; exact hs) s4
    have er : rdB (wA h 991 φ) s (Wm h (256 + i)) = rdB h s (Wm h (256 + i)) := by
      unfold rdB
      rw [wA_A2 _ _ _ (by decide)]
    rw [er] at ir
    have as := asked_s M' (fo := 0) (x := Wm h (256 + i)) (by omega) (by omega) o.1 o.2 (by rw [Fm_wA, Fm0]; exact sg _ o.1 o.2 np)
    have ep : Pt (wA h 991 φ) = Pt h := rfl
    rw [Fm_wA, Fm0, ep] at as
    have nd := needed_s M (x := Wm h (256 + i)) (s := Rm (Wm h) (Pt h) (Wm h (256 + i))) (by omega) (by omega) (by rw [Fm0]; exact tr.av) (by rw [Fm0]; exact tr.ce) φ
    rw [Fm0] at nd
    rw [elX11_resolves_104]; unfold bX11_resolves_104
    rw [M'.o, gd_tt, many_s M' (by omega) (by omega), bn_s, Fm_wA, Fm0, if_neg (by rw [i32_le (by omega) (by omega) (by omega) (by omega)]; omega), ordered_s M' (by omega) (by omega) i0 (by omega), bn_s, Fm_wA, Fm0, ir, bn_s]
    unfold jX11_resolves_139
    have n3 : ¬ Wm h (256 + i) = -3 := by omega
    simp only [lay]
    by_cases c : rdB h s (Wm h (256 + i)) = true
    · rw [if_pos c, if_neg n3, if_pos c, upN_0, i32_add, lt_e]
      exact ih m (i + 1) φ (by omega) (by omega) (by omega)
    · rw [if_neg c, as, bn_s, nd, bn_s, i32_add, lt_e, if_neg n3, if_neg c]
      exact ih m (i + 1) _ (by omega) (by omega) (by omega)
end
