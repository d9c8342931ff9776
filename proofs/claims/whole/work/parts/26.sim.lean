section
variable {b : Int → Int} {n : Int} {was : Nat} {node fr : Int}
/-- a piece of a condition, read by the model from g on: where it leads -/
def SimT (b : Int → Int) (n : Int) (was : Nat) (node fr : Int) (q : Nat) (pt : Nat → List TS → PR) : Prop := ∀ (N f j : Nat) (S : List TS) (W LL : List Int) (g : HP), MCs g b n was j S W LL → MB b n was j S W LL → nst W = 6 - q → (W.length : Int) ≤ 3 * (6 - q) + 2 → q + 2 ≤ f → 3000 ≤ N + j →
  ((pt j S).1 = true → ∃ N' m g', 3000 ≤ N' + (pt j S).2.1 ∧ FU ≤ m + (pt j S).2.1 ∧ aA N f (i32 node) (i32 fr) g = cBx N' m (i32 node) (i32 fr) g' ∧ Mo lcC g g' ∧ (∀ i : Nat, i < was → hA g' 990 i = hA g 990 i) ∧ MCs g' b n was (pt j S).2.1 (pt j S).2.2.1 (stl 3 W).1 (LL ++ (pt j S).2.2.2 ++ (stl 3 W).2)) ∧
  ((pt j S).1 = false → ∃ gf, aA N f (i32 node) (i32 fr) g = some gf ∧ FF was g gf node fr (was + LL.length) (tS b n (pt j S).2.1))
/-- a chain of tests, or of chains: some operators still wait -/
def SimX (b : Int → Int) (n : Int) (was : Nat) (node fr : Int) (q : Nat) (r sl : Int) (okX : List Int → Prop) (nk : Int → Prop) (pt : Nat → List TS → PR) : Prop := ∀ (N f j : Nat) (S : List TS) (W LL : List Int) (g : HP), MCs g b n was j S W LL → MB b n was j S W LL → nst W = 6 - q → (W.length : Int) ≤ 3 * (6 - q) + sl → TopL r W → q + 2 ≤ f → 3000 ≤ N + j →
  ((pt j S).1 = true → ∃ N' m g' X LL', okX X ∧ LL.length ≤ LL'.length ∧ LL' ++ X.reverse = LL ++ (pt j S).2.2.2 ∧ nk (tK b n (pt j S).2.1) ∧ 3000 ≤ N' + (pt j S).2.1 ∧ FU ≤ m + (pt j S).2.1 ∧ aA N f (i32 node) (i32 fr) g = cBx N' m (i32 node) (i32 fr) g' ∧ Mo lcC g g' ∧ (∀ i : Nat, i < was → hA g' 990 i = hA g 990 i) ∧ MCs g' b n was (pt j S).2.1 (pt j S).2.2.1 (W ++ X) LL') ∧
  ((pt j S).1 = false → ∃ gf, aA N f (i32 node) (i32 fr) g = some gf ∧ FF was g gf node fr (was + LL.length) (tS b n (pt j S).2.1))
theorem bB_id {g : HP} {N m j : Nat} {S : List TS} {W LL : List Int} (P : MCs g b n was j S W LL) (w6 : W.length ≤ 600) (pb : (was : Int) + LL.length + W.length ≤ 12000) (t : TopL 3 W) : ∃ g', bBx N m (i32 node) (i32 fr) g = cBx N m (i32 node) (i32 fr) g' ∧ Mo lcC g g' ∧ MCs g' b n was j S W LL ∧ ∀ i : Nat, i < was → hA g' 990 i = hA g 990 i := by
  obtain ⟨g', e, m1, P', q⟩ := settles_id (r := 3) (by decide) (by decide) P w6 pb t
  refine ⟨g', ?_, m1.w (by decide), P', q⟩
  unfold bBx
  rw [e]; rfl
/-- the bounds behind a piece -/
theorem MB_of {j j2 : Nat} {S S2 : List TS} {L : List Int} {W LL : List Int} {P : PR} (B : MB b n was j S W LL) (a : AP b n j S P) (ok : P.1 = true) : (P.2.1 : Int) ≤ tS b n P.2.1 ∧ 4 * (P.2.2.1.length : Int) ≤ tS b n P.2.1 + 3 ∧ (isw (tK b n P.2.1) → 4 * (P.2.2.1.length : Int) ≤ tS b n P.2.1 + 2) ∧ (LL ++ P.2.2.2).length + W.length ≤ P.2.1 := by
  obtain ⟨b1, b2, b3, b4⟩ := B
  obtain ⟨a1, a2, a3, a4, a5, a6, a7, a8, a9⟩ := a ok
  refine ⟨a2 b2, by omega, fun z => by have := a7 z; omega, by rw [List.length_append]; omega⟩
theorem stl3_n4 (W : List Int) : ∀ w ∈ (stl 3 W).2, w = 3 := by
  induction W with
  | nil => intro w hw; cases hw
  | cons u W ih =>
    intro w hw
    simp only [stl] at hw
    split at hw
    · rename_i c
      rcases List.mem_append.mp hw with hw | hw
      · exact ih w hw
      · rw [List.mem_singleton] at hw
        subst hw
        have := c.2
        unfold rnk at this
        split at this
        · assumption
        · split at this
          · omega
          · split at this <;> omega
    · exact ih w hw
theorem settles3 {g : HP} {j : Nat} {S : List TS} {W LL : List Int} (P : MCs g b n was j S W LL) (w6 : W.length ≤ 600) (pb : (was : Int) + LL.length + W.length ≤ 12000) : ∃ g', fX11_settles 983 (i32 3) g = some g' ∧ Mo lcC g g' ∧ MCs g' b n was j S (stl 3 W).1 (LL ++ (stl 3 W).2) ∧ ∀ i : Nat, i < was → hA g' 990 i = hA g 990 i := by
  obtain ⟨g', e, m, P', q⟩ := settles_m (r := 3) (by decide) (by decide) P w6 pb (fun w hw => by have := stl3_n4 W w hw; omega)
  exact ⟨g', e, m.w (by decide), P', q⟩
theorem simT_name {q N f j : Nat} {S : List TS} {W LL : List Int} {g : HP} (n0 : 0 ≤ n) (n1 : n ≤ 1200) (h0 : 0 ≤ node) (h1 : node < 32) (f0 : 0 ≤ fr) (f1 : fr ≤ 12000) (P : MCs g b n was j S W LL) (B : MB b n was j S W LL) (wl : W.length ≤ 100) (hf : 2 ≤ f) (hN : 3000 ≤ N + j) : (tK b n j = 2 → ((pname (tkn b n) node j S).1 = true → ∃ N' m g', 3000 ≤ N' + (pname (tkn b n) node j S).2.1 ∧ FU ≤ m + (pname (tkn b n) node j S).2.1 ∧ aA N f (i32 node) (i32 fr) g = cBx N' m (i32 node) (i32 fr) g' ∧ Mo lcC g g' ∧ (∀ i : Nat, i < was → hA g' 990 i = hA g 990 i) ∧ MCs g' b n was (pname (tkn b n) node j S).2.1 (pname (tkn b n) node j S).2.2.1 (stl 3 W).1 (LL ++ (pname (tkn b n) node j S).2.2.2 ++ (stl 3 W).2)) ∧
  ((pname (tkn b n) node j S).1 = false → ∃ gf, aA N f (i32 node) (i32 fr) g = some gf ∧ FF was g gf node fr (was + LL.length) (tS b n (pname (tkn b n) node j S).2.1))) ∧ (tK b n j ≠ 2 → tK b n j ≠ 13 → tK b n j ≠ 40 → ∃ gf, aA N f (i32 node) (i32 fr) g = some gf ∧ FF was g gf node fr (was + LL.length) (tS b n j)) := by
  obtain ⟨f, rfl⟩ : ∃ x, f = x + 1 := ⟨f - 1, by omega⟩
  have sn := tS_n (b := b) n0 j
  have B' := B
  obtain ⟨b1, b2, b3, b4⟩ := B'
  obtain ⟨N', rfl⟩ : ∃ x, N = x + 1 := ⟨N - 1, by omega⟩
  have FUe : FU = 999999 + 1 := rfl
  refine ⟨fun h => ?_, fun h h13 h40 => ?_⟩
  · have e := rt_end (f := f) (node := node) n0 P (by omega) (by omega)
    obtain ⟨g1, e1, m1, q1, r⟩ := KT_name (node := node) n0 n1 P B (by omega) h
    have ap := ap_name n0 (ow := node) S h
    refine ⟨fun ok => ?_, fun ok => ?_⟩
    · rcases r with ⟨_, P1⟩ | ⟨z, _⟩
      · have aj := (ap ok).1
        have b5 := (MB_of (j2 := 0) (S2 := []) (L := []) B ap ok).2.2.2
        have b6 := (MB_of (j2 := 0) (S2 := []) (L := []) B ap ok).1
        have sn2 := tS_n (b := b) n0 (pname (tkn b n) node j S).2.1
        obtain ⟨g2, e2, m2, P2, q2⟩ := settles3 P1 (by omega) (by omega)
        refine ⟨N' + 1, FU, g2, by omega, by omega, ?_, m1.t m2, fun i hi => (q2 i hi).trans (q1 i hi), P2⟩
        unfold aA bBx
        rw [e, e1]
        simp only [bn_s, P1.1.ms.o, gd_tt, e2]
      · rw [ok] at z; cases z
    · rcases r with ⟨z, _⟩ | ⟨_, F1, f6, f7⟩
      · rw [ok] at z; cases z
      · obtain ⟨gf, e2, fe⟩ := bB_F (N := N') (m := 999999) F1 h0 h1 f0 f1
        refine ⟨gf, ?_, FF_of (s := S.length + 1) fe m1 f6 f7 (by omega) (by omega) (by omega) q1⟩
        unfold aA
        rw [e, e1]
        simp only [bn_s, F1.1.o, gd_tt]
        exact e2
  · have e := rt_end (f := f) (node := node) n0 P h13 h40
    obtain ⟨g1, e1, m1, F1, f6, f7, q1⟩ := KT_no (node := node) n0 P B n1 (by omega) h
    obtain ⟨gf, e2, fe⟩ := bB_F (N := N') (m := 999999) F1 h0 h1 f0 f1
    refine ⟨gf, ?_, FF_of (s := S.length) fe m1 f6 (f7.trans P.2.1.1) (by omega) (Int.le_refl _) (by omega) q1⟩
    unfold aA
    rw [e, e1]
    simp only [bn_s, F1.1.o, gd_tt]
    exact e2
def okC (X : List Int) : Prop := X = [] ∨ X = [1]
def okD (X : List Int) : Prop := X = [] ∨ X = [1] ∨ X = [2] ∨ X = [2, 1]
theorem simC_tail {q : Nat} {pt : Nat → List TS → PR} (n0 : 0 ≤ n) (n1 : n ≤ 1200) (q6 : q ≤ 6) (sim : SimT b n was node fr q pt) (hp : ∀ j S, AP b n j S (pt j S)) {W : List Int} (hn : nst W = 6 - q) (wl : (W.length : Int) ≤ 3 * (6 - q) + 1) (tp : TopL 2 W) (w1 : (was : Int) ≤ 10300) : ∀ (k i j : Nat) (S : List TS) (L LL LL' X : List Int) (N m : Nat) (g : HP), k + i = 1200 → 2 * i ≤ j → okC X → LL.length ≤ LL'.length → LL' ++ X.reverse = LL ++ L → MCs g b n was j S (W ++ X) LL' → (j : Int) ≤ tS b n j → 4 * (S.length : Int) ≤ tS b n j + 3 → (isw (tK b n j) → 4 * (S.length : Int) ≤ tS b n j + 2) → (LL ++ L).length + W.length ≤ j → 3000 ≤ N + j → FU ≤ m + j →
  ((ptail (tkn b n) pt 12 1 k j S L).1 = true → ∃ N' m' g' X' LL2, okC X' ∧ LL.length ≤ LL2.length ∧ LL2 ++ X'.reverse = LL ++ (ptail (tkn b n) pt 12 1 k j S L).2.2.2 ∧ tK b n (ptail (tkn b n) pt 12 1 k j S L).2.1 ≠ 12 ∧ 3000 ≤ N' + (ptail (tkn b n) pt 12 1 k j S L).2.1 ∧ FU ≤ m' + (ptail (tkn b n) pt 12 1 k j S L).2.1 ∧ cBx N m (i32 node) (i32 fr) g = cBx N' m' (i32 node) (i32 fr) g' ∧ Mo lcC g g' ∧ (∀ i : Nat, i < was → hA g' 990 i = hA g 990 i) ∧ MCs g' b n was (ptail (tkn b n) pt 12 1 k j S L).2.1 (ptail (tkn b n) pt 12 1 k j S L).2.2.1 (W ++ X') LL2) ∧
  ((ptail (tkn b n) pt 12 1 k j S L).1 = false → ∃ gf, cBx N m (i32 node) (i32 fr) g = some gf ∧ FF was g gf node fr (was + LL'.length) (tS b n (ptail (tkn b n) pt 12 1 k j S L).2.1)) := by
  intro k
  induction k with
  | zero =>
    intro i j S L LL LL' X N m g ki ij ox lll eq P jb s3 s2 ll hN hm
    have sn := tS_n (b := b) n0 j
    omega
  | succ k ih =>
    intro i j S L LL LL' X N m g ki ij ox lll eq P jb s3 s2 ll hN hm
    have sn := tS_n (b := b) n0 j
    have FUe : FU = 1000000 := rfl
    have xl : X.length ≤ 1 := by rcases ox with ox | ox <;> (subst ox; decide)
    have ll' : LL'.length + X.length = LL.length + L.length := by
      have := congrArg List.length eq
      simp at this; omega
    simp only [List.length_append] at ll
    simp only [ptail]
    by_cases c : tkk (tkn b n j) = 12
    · rw [if_pos c]
      have s2' := s2 (Or.inr (by unfold tK; omega))
      have hs : stl 2 (W ++ X) = (W, X.reverse) := by
        rcases ox with ox | ox
        · subst ox; rw [List.append_nil]; exact stl_top tp
        · subst ox; rw [stl_snoc, if_pos (by decide), stl_top tp]; rfl
      obtain ⟨N, rfl⟩ : ∃ x, N = x + 1 := ⟨N - 1, by omega⟩
      obtain ⟨g1, e1, m1, q1, P1⟩ := KC_op (node := node) (fr := fr) (N := N) (w := 1) (r := 2) n0 n1 (Or.inl ⟨c, rfl, rfl⟩) P (by simp; omega) (by simp; omega) hs (by rcases ox with ox | ox <;> (subst ox; simp))
      have e0 := cB_out (N := N + 1) (m := m) (node := node) (fr := fr) n0 P (by omega) (by simp; omega) (Or.inl (by unfold tK; omega))
      have iw : isw (tK b n j) := Or.inr (by unfold tK; omega)
      have wd := (tS_w n0 iw).1
      rw [(kw_len (b := b) n0 (j := j)).2.1 c] at wd
      have B1 : MB b n was (j + 1) S (W ++ [1]) (LL' ++ X.reverse) := ⟨w1, by omega, by omega, by simp; omega⟩
      have st := sim N FU (j + 1) S (W ++ [1]) (LL' ++ X.reverse) g1 P1 B1 (by rw [nst_app, nst_one, if_neg (by decide)]; omega) (by simp; omega) (by omega) (by omega)
      have ap := hp (j + 1) S
      cases ok : (pt (j + 1) S).1 with
      | false =>
        refine ⟨fun z => by simp at z, fun _ => ?_⟩
        obtain ⟨gf, e2, ff⟩ := st.2 ok
        refine ⟨gf, by rw [e0, e1, e2], FF_t ff m1 (by simp; omega) q1⟩
      | true =>
        obtain ⟨N2, m2, g2, x1, x2, e2, m2', q2, P2⟩ := st.1 ok
        obtain ⟨c1, c2, c3, c4⟩ := MB_of (j2 := 0) (S2 := []) (L := []) B1 ap ok
        have sn2 := tS_n (b := b) n0 (pt (j + 1) S).2.1
        simp only [List.length_append, List.length_singleton, List.length_reverse] at c4
        rw [stl_top (Top_one (r := 3) (w := 1) (W := W) (by decide)), List.append_nil] at P2
        have aj := (ap ok).1
        have go := ih (i + 1) (pt (j + 1) S).2.1 (pt (j + 1) S).2.2.1 (L ++ ((pt (j + 1) S).2.2.2 ++ [1])) LL (LL' ++ X.reverse ++ (pt (j + 1) S).2.2.2) [1] N2 m2 g2 (by omega) (by omega) (Or.inr rfl) (by simp; omega) (by rw [eq]; simp) P2 c1 c2 c3 (by simp; omega) x1 x2
        have ec : cBx (N + 1) m (i32 node) (i32 fr) g = cBx N2 m2 (i32 node) (i32 fr) g2 := by rw [e0, e1, e2]
        have mm : Mo lcC g g2 := m1.t m2'
        have qq : ∀ i : Nat, i < was → hA g2 990 i = hA g 990 i := fun i hi => by rw [q2 i hi, q1 i hi]
        refine ⟨fun okk => ?_, fun okk => ?_⟩
        · obtain ⟨N', m', g', X', LL2, y1, y0, y2, y3, y4, y5, y6, y7, y8, y9⟩ := go.1 okk
          exact ⟨N', m', g', X', LL2, y1, y0, y2, y3, y4, y5, ec.trans y6, mm.t y7, fun i hi => (y8 i hi).trans (qq i hi), y9⟩
        · obtain ⟨gf, y1, y2⟩ := go.2 okk
          exact ⟨gf, ec.trans y1, FF_t y2 mm (by simp; omega) qq⟩
    · rw [if_neg c]
      refine ⟨fun _ => ⟨N, m, g, X, LL', ox, lll, eq, c, hN, hm, rfl, Mo.r, fun _ _ => rfl, P⟩, fun z => by cases z⟩
end
section
variable {b : Int → Int} {n : Int} {was : Nat} {node fr : Int}
theorem simC {q : Nat} {pt : Nat → List TS → PR} (n0 : 0 ≤ n) (n1 : n ≤ 1200) (q6 : q ≤ 6) (sim : SimT b n was node fr q pt) (hp : ∀ j S, AP b n j S (pt j S)) : SimX b n was node fr q 2 1 okC (fun k => k ≠ 12) (pcon (tkn b n) pt) := by
  intro N f j S W LL g P B hn wl tp hf hN
  have sn := tS_n (b := b) n0 j
  have FUe : FU = 1000000 := rfl
  have st := sim N f j S W LL g P B hn (by omega) hf hN
  have ap := hp j S
  unfold pcon pch
  cases ok : (pt j S).1 with
  | false =>
    refine ⟨fun z => by simp at z, fun _ => st.2 ok⟩
  | true =>
    obtain ⟨N2, m2, g2, x1, x2, e2, m2', q2, P2⟩ := st.1 ok
    obtain ⟨c1, c2, c3, c4⟩ := MB_of (j2 := 0) (S2 := []) (L := []) B ap ok
    have sn2 := tS_n (b := b) n0 (pt j S).2.1
    have B' := B
    obtain ⟨b1, b2, b3, b4⟩ := B'
    simp only [List.length_append] at c4
    rw [stl_top (Top_up (r' := 3) tp (by decide)), List.append_nil] at P2
    have go := simC_tail n0 n1 q6 sim hp hn wl tp b1 1200 0 (pt j S).2.1 (pt j S).2.2.1 (pt j S).2.2.2 LL (LL ++ (pt j S).2.2.2) [] N2 m2 g2 (by decide) (by omega) (Or.inl rfl) (by simp) (by simp) (by rw [List.append_nil]; exact P2) c1 c2 c3 (by simp; omega) x1 x2
    have ec : aA N f (i32 node) (i32 fr) g = cBx N2 m2 (i32 node) (i32 fr) g2 := e2
    have mm : Mo lcC g g2 := m2'
    have qq : ∀ i : Nat, i < was → hA g2 990 i = hA g 990 i := fun i hi => q2 i hi
    refine ⟨fun okk => ?_, fun okk => ?_⟩
    · obtain ⟨N', m', g', X', LL2, y1, y0, y2, y3, y4, y5, y6, y7, y8, y9⟩ := go.1 okk
      exact ⟨N', m', g', X', LL2, y1, y0, y2, y3, y4, y5, ec.trans y6, mm.t y7, fun i hi => (y8 i hi).trans (qq i hi), y9⟩
    · obtain ⟨gf, y1, y2⟩ := go.2 okk
      exact ⟨gf, ec.trans y1, FF_t y2 mm (by simp; omega) qq⟩
theorem stl1_D {W X : List Int} (tp : TopL 1 W) (h : okD X) : stl 1 (W ++ X) = (W, X.reverse) := by
  rcases h with h | h | h | h
  · subst h; rw [List.append_nil]; exact stl_top tp
  · subst h; rw [stl_snoc, if_pos (by decide), stl_top tp]; rfl
  · subst h; rw [stl_snoc, if_pos (by decide), stl_top tp]; rfl
  · subst h
    rw [show W ++ [2, 1] = (W ++ [2]) ++ [1] by simp, stl_snoc, if_pos (by decide), stl_snoc, if_pos (by decide), stl_top tp]; rfl
theorem okD_4 {X : List Int} (h : okD X) : X.length ≤ 2 ∧ (∀ w ∈ X, w ≠ 4) ∧ nst X = 0 ∧ prs X = 0 := by
  rcases h with h | h | h | h <;> (subst h; decide)
theorem simD_tail {q : Nat} {pc : Nat → List TS → PR} (n0 : 0 ≤ n) (n1 : n ≤ 1200) (q6 : q ≤ 6) (sim : SimX b n was node fr q 2 1 okC (fun k => k ≠ 12) pc) (hp : ∀ j S, AP b n j S (pc j S)) {W : List Int} (hn : nst W = 6 - q) (wl : (W.length : Int) ≤ 3 * (6 - q)) (tp : TopL 1 W) (w1 : (was : Int) ≤ 10300) : ∀ (k i j : Nat) (S : List TS) (L LL LL' X : List Int) (N m : Nat) (g : HP), k + i = 1200 → 2 * i ≤ j → okD X → LL.length ≤ LL'.length → LL' ++ X.reverse = LL ++ L → tK b n j ≠ 12 → MCs g b n was j S (W ++ X) LL' → (j : Int) ≤ tS b n j → 4 * (S.length : Int) ≤ tS b n j + 3 → (isw (tK b n j) → 4 * (S.length : Int) ≤ tS b n j + 2) → (LL ++ L).length + W.length ≤ j → 3000 ≤ N + j → FU ≤ m + j →
  ((ptail (tkn b n) pc 11 2 k j S L).1 = true → ∃ N' m' g' X' LL2, okD X' ∧ LL.length ≤ LL2.length ∧ LL2 ++ X'.reverse = LL ++ (ptail (tkn b n) pc 11 2 k j S L).2.2.2 ∧ (tK b n (ptail (tkn b n) pc 11 2 k j S L).2.1 ≠ 12 ∧ tK b n (ptail (tkn b n) pc 11 2 k j S L).2.1 ≠ 11) ∧ 3000 ≤ N' + (ptail (tkn b n) pc 11 2 k j S L).2.1 ∧ FU ≤ m' + (ptail (tkn b n) pc 11 2 k j S L).2.1 ∧ cBx N m (i32 node) (i32 fr) g = cBx N' m' (i32 node) (i32 fr) g' ∧ Mo lcC g g' ∧ (∀ i : Nat, i < was → hA g' 990 i = hA g 990 i) ∧ MCs g' b n was (ptail (tkn b n) pc 11 2 k j S L).2.1 (ptail (tkn b n) pc 11 2 k j S L).2.2.1 (W ++ X') LL2) ∧
  ((ptail (tkn b n) pc 11 2 k j S L).1 = false → ∃ gf, cBx N m (i32 node) (i32 fr) g = some gf ∧ FF was g gf node fr (was + LL'.length) (tS b n (ptail (tkn b n) pc 11 2 k j S L).2.1)) := by
  intro k
  induction k with
  | zero =>
    intro i j S L LL LL' X N m g ki ij ox lll eq n12 P jb s3 s2 ll hN hm
    have sn := tS_n (b := b) n0 j
    omega
  | succ k ih =>
    intro i j S L LL LL' X N m g ki ij ox lll eq n12 P jb s3 s2 ll hN hm
    have sn := tS_n (b := b) n0 j
    have FUe : FU = 1000000 := rfl
    obtain ⟨xl, x4, xn, xp⟩ := okD_4 ox
    have ll' : LL'.length + X.length = LL.length + L.length := by
      have := congrArg List.length eq
      simp at this; omega
    simp only [List.length_append] at ll
    simp only [ptail]
    by_cases c : tkk (tkn b n j) = 11
    · rw [if_pos c]
      have s2' := s2 (Or.inr (by unfold tK; omega))
      have hs := stl1_D tp ox
      obtain ⟨N, rfl⟩ : ∃ x, N = x + 1 := ⟨N - 1, by omega⟩
      obtain ⟨g1, e1, m1, q1, P1⟩ := KC_op (node := node) (fr := fr) (N := N) (w := 2) (r := 1) n0 n1 (Or.inr ⟨c, rfl, rfl⟩) P (by simp; omega) (by simp; omega) hs x4
      have e0 := cB_out (N := N + 1) (m := m) (node := node) (fr := fr) n0 P (by omega) (by simp; omega) (Or.inl (by unfold tK; omega))
      have iw : isw (tK b n j) := Or.inr (by unfold tK; omega)
      have wd := (tS_w n0 iw).1
      rw [(kw_len (b := b) n0 (j := j)).1 c] at wd
      have B1 : MB b n was (j + 1) S (W ++ [2]) (LL' ++ X.reverse) := ⟨w1, by omega, by omega, by simp; omega⟩
      have st := sim N FU (j + 1) S (W ++ [2]) (LL' ++ X.reverse) g1 P1 B1 (by rw [nst_app, nst_one, if_neg (by decide)]; omega) (by simp; omega) (Top_one (by decide)) (by omega) (by omega)
      have ap := hp (j + 1) S
      cases ok : (pc (j + 1) S).1 with
      | false =>
        refine ⟨fun z => by simp at z, fun _ => ?_⟩
        obtain ⟨gf, e2, ff⟩ := st.2 ok
        refine ⟨gf, by rw [e0, e1, e2], FF_t ff m1 (by simp; omega) q1⟩
      | true =>
        obtain ⟨N2, m2, g2, X2, LL2, z1, z0, z2, z3, x1, x2, e2, m2', q2, P2⟩ := st.1 ok
        obtain ⟨c1, c2, c3, c4⟩ := MB_of (j2 := 0) (S2 := []) (L := []) B1 ap ok
        have sn2 := tS_n (b := b) n0 (pc (j + 1) S).2.1
        simp only [List.length_append, List.length_singleton, List.length_reverse] at c4
        have aj := (ap ok).1
        have oD : okD (2 :: X2) := by
          rcases z1 with z1 | z1 <;> subst z1
          · exact Or.inr (Or.inr (Or.inl rfl))
          · exact Or.inr (Or.inr (Or.inr rfl))
        have eqq : LL2 ++ (2 :: X2).reverse = LL ++ (L ++ ((pc (j + 1) S).2.2.2 ++ [2])) := by
          rw [List.reverse_cons, ← List.append_assoc, z2, eq]; simp
        have go := ih (i + 1) (pc (j + 1) S).2.1 (pc (j + 1) S).2.2.1 (L ++ ((pc (j + 1) S).2.2.2 ++ [2])) LL LL2 (2 :: X2) N2 m2 g2 (by omega) (by omega) oD (by simp at z0; omega) eqq z3 (by rw [show W ++ 2 :: X2 = W ++ [2] ++ X2 by simp]; exact P2) c1 c2 c3 (by simp; omega) x1 x2
        have ec : cBx (N + 1) m (i32 node) (i32 fr) g = cBx N2 m2 (i32 node) (i32 fr) g2 := by rw [e0, e1, e2]
        have mm : Mo lcC g g2 := m1.t m2'
        have qq : ∀ i : Nat, i < was → hA g2 990 i = hA g 990 i := fun i hi => by rw [q2 i hi, q1 i hi]
        have l2 : LL2.length + X2.length = LL'.length + X.length + (pc (j + 1) S).2.2.2.length := by
          have := congrArg List.length z2
          simp at this; omega
        have xl2 : X2.length ≤ 1 := by rcases z1 with z1 | z1 <;> (subst z1; decide)
        refine ⟨fun okk => ?_, fun okk => ?_⟩
        · obtain ⟨N', m', g', X', LL3, y1, y0, y2, y3, y4, y5, y6, y7, y8, y9⟩ := go.1 okk
          exact ⟨N', m', g', X', LL3, y1, y0, y2, y3, y4, y5, ec.trans y6, mm.t y7, fun i hi => (y8 i hi).trans (qq i hi), y9⟩
        · obtain ⟨gf, y1, y2⟩ := go.2 okk
          exact ⟨gf, ec.trans y1, FF_t y2 mm (by omega) qq⟩
    · rw [if_neg c]
      refine ⟨fun _ => ⟨N, m, g, X, LL', ox, lll, eq, ⟨n12, c⟩, hN, hm, rfl, Mo.r, fun _ _ => rfl, P⟩, fun z => by cases z⟩
end
