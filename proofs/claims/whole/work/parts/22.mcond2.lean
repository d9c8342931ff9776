/-! what waits -/
def WS (g : HP) (W : List Int) : Prop := hI g 728 983 = i32 W.length ∧ ∀ (k : Nat) (w : Int), W[k]? = some w → hA g 996 k = i32 w ∧ 1 ≤ w ∧ w ≤ 4
def rnk (w : Int) : Int := if w = 3 then 3 else if w = 1 then 2 else if w = 2 then 1 else 0
def nst (W : List Int) : Int := (W.filter fun w => w == 3 || w == 4).length
def prs (W : List Int) : Int := (W.filter fun w => w == 4).length
theorem nst_app (W X : List Int) : nst (W ++ X) = nst W + nst X := by unfold nst; rw [List.filter_append, List.length_append]; omega
theorem prs_app (W X : List Int) : prs (W ++ X) = prs W + prs X := by unfold prs; rw [List.filter_append, List.length_append]; omega
theorem rankOf_s {g : HP} {w : Int} (w0 : 0 ≤ w) (w1 : w < 100) : fX11_rankOf (i32 w) g = some (i32 (rnk w)) := by
  unfold fX11_rankOf rnk
  simp (disch := omega) only [i32_eq]
  by_cases c : w = 3
  · rw [if_pos c, if_pos c]
  rw [if_neg c, if_neg c]
  by_cases c : w = 1
  · rw [if_pos c, if_pos c]
  rw [if_neg c, if_neg c]
  by_cases c : w = 2
  · rw [if_pos c, if_pos c]
  rw [if_neg c, if_neg c]
theorem emits_s {g : HP} (M : MS g) {p : Int} (hp : hI g 714 983 = i32 p) (p0 : 0 ≤ p) (p1 : p < 12000) (t : Int32) : ∃ g', fX11_emits 983 t g = some g' ∧ Mo [714, 990] g g' ∧ hI g' 714 983 = i32 (p + 1) ∧ hA g' 990 p.toNat = t ∧ ∀ i, i ≠ p.toNat → hA g' 990 i = hA g 990 i := by
  unfold fX11_emits
  simp (disch := omega) only [M.o, M.r_pool, M.o_pool, M.n_pool, gd_tt, oc_s, hp, i32_inb, i32_cn, lt_e, rIA, i32_add]
  refine ⟨_, rfl, (Mo_A (by decide) _ _).t (Mo_I (by decide) _), by rw [rII, if_pos ⟨rfl, rfl⟩], ?_, fun i hi => ?_⟩
  · rw [rAI, rAA, if_pos ⟨rfl, rfl⟩]
  · rw [rAI, rAA, if_neg (fun z => hi z.2)]
/-- the parts that one waiting list puts out when it is settled -/
def stl (r : Int) : List Int → List Int × List Int
  | [] => ([], [])
  | w :: W => if (stl r W).1 = [] ∧ r ≤ rnk w then ([], (stl r W).2 ++ [w]) else (w :: (stl r W).1, (stl r W).2)
theorem stl_snoc (r : Int) (W : List Int) (w : Int) : stl r (W ++ [w]) = if r ≤ rnk w then ((stl r W).1, w :: (stl r W).2) else (W ++ [w], []) := by
  induction W with
  | nil =>
    simp only [List.nil_append, stl, List.nil_append, true_and]
  | cons u W ih =>
    rw [List.cons_append]
    simp only [stl]
    rw [ih]
    by_cases c : r ≤ rnk w
    · rw [if_pos c, if_pos c]
      split <;> rfl
    · rw [if_neg c, if_neg c, if_neg (by simp)]
theorem stl_len (r : Int) (W : List Int) : (stl r W).1.length + (stl r W).2.length = W.length := by
  induction W with
  | nil => rfl
  | cons w W ih =>
    simp only [stl]
    split
    · rename_i c
      rw [c.1] at ih
      simp at ih ⊢; omega
    · simp; omega
theorem stl_pre (r : Int) (W : List Int) : ∃ X, W = (stl r W).1 ++ X ∧ (stl r W).2 = X.reverse := by
  induction W with
  | nil => exact ⟨[], rfl, rfl⟩
  | cons w W ih =>
    obtain ⟨X, e1, e2⟩ := ih
    simp only [stl]
    split
    · rename_i c
      rw [c.1] at e1
      refine ⟨w :: W, rfl, ?_⟩
      rw [e2, List.reverse_cons]
      rw [e1]; rfl
    · exact ⟨X, by rw [List.cons_append, ← e1], e2⟩
def lsS : List Nat := [714, 990, 728, 729]
/-- settling: parts of the waiting list go behind the pool -/
theorem settles_s {r : Int} (r0 : 0 ≤ r) (r1 : r ≤ 3) (r2 : 1 ≤ r) : ∀ (W : List Int) (m : Nat) (g : HP) (p nz : Int), MS g → WS g W → W.length < m → W.length ≤ 600 → hI g 714 983 = i32 p → 0 ≤ p → p + W.length ≤ 12000 → hI g 729 983 = i32 nz → ∃ g', lX11_settles_0 m 983 (i32 r) g = some g' ∧ Mo lsS g g' ∧ WS g' (stl r W).1 ∧ hI g' 714 983 = i32 (p + (stl r W).2.length) ∧ hI g' 729 983 = i32 (nz - ((stl r W).2.filter fun w => w == 3).length) ∧ (∀ i : Nat, (i : Int) < p → hA g' 990 i = hA g 990 i) ∧ ∀ (k : Nat) (w : Int), (stl r W).2[k]? = some w → hA g' 990 (p.toNat + k) = i32 w := by
  intro W
  generalize hl : W.length = len
  induction len generalizing W with
  | zero =>
    intro m g p nz M S hm _ hp p0 p1 hz
    have e : W = [] := List.length_eq_zero_iff.mp hl
    subst e
    obtain ⟨m, rfl⟩ : ∃ x, m = x + 1 := ⟨m - 1, by omega⟩
    rw [elX11_settles_0]; unfold bX11_settles_0
    simp only [M.o, gd_tt, S.1, i32_z]
    rw [if_pos (by simp)]
    exact ⟨g, rfl, Mo.r, S, by simp [stl, hp], by simp [stl, hz], fun _ _ => rfl, fun k w z => by simp [stl] at z⟩
  | succ len ih =>
    intro m g p nz M S hm hl6 hp p0 p1 hz
    obtain ⟨m, rfl⟩ : ∃ x, m = x + 1 := ⟨m - 1, by omega⟩
    obtain ⟨V, w, rfl⟩ : ∃ V w, W = V ++ [w] := by
      have ne : W ≠ [] := fun z => by rw [z] at hl; cases hl
      exact ⟨W.dropLast, W.getLast ne, (List.dropLast_concat_getLast ne).symm⟩
    have hv : V.length = len := by simp at hl; exact hl
    have sw := S.2 V.length w (by simp)
    have s1 : hI g 728 983 = i32 ((V.length : Int) + 1) := by have := S.1; simpa using this
    rw [elX11_settles_0]; unfold bX11_settles_0
    simp (disch := omega) only [M.o, gd_tt, s1, i32_z, i32_le, i32_sub, M.r_waiting, M.o_waiting, M.n_waiting, oc_s, i32_inb, i32_cn]
    rw [if_neg (by omega)]
    rw [show ((V.length : Int) + 1 - 1).toNat = V.length by omega, sw.1]
    have rr : 0 ≤ rnk w ∧ rnk w ≤ 3 := by unfold rnk; repeat (first | (split; · omega) | omega)
    simp (disch := omega) only [rankOf_s, bn_s, i32_lt]
    rw [stl_snoc]
    by_cases c : rnk w < r
    · rw [if_pos c, if_neg (by omega)]
      exact ⟨g, rfl, Mo.r, S, by simp [hp], by simp [hz], fun _ _ => rfl, fun k w z => by simp at z⟩
    · rw [if_neg c, if_pos (by omega)]
      have ev : ((V.length : Int) + 1 - 1) = V.length := by omega
      rw [ev]
      have M2 : MS (sI g 728 983 (i32 V.length)) := M.sk (sk_sI rfl)
      have M3 : ∀ v, MS (sI (sI g 728 983 (i32 V.length)) 729 983 v) := fun v => M2.sk (sk_sI rfl)
      unfold jX11_settles_58
      simp (disch := omega) only [lt_e, M2.o, M2.r_waiting, M2.o_waiting, M2.n_waiting, (M3 _).o, (M3 _).r_waiting, (M3 _).o_waiting, (M3 _).n_waiting, gd_tt, oc_s, rII, and_true, if_true, i32_inb, i32_cn, rAI, Int.toNat_natCast, sw.1, i32_eq, Nat.reduceEqDiff, if_false, hz, bI_tt, bI_ff, i32_sub]
      have key : ∀ (d : Int), (d = if w = 3 then 1 else 0) → ∃ g', (bn (fX11_emits 983 (i32 w) (sI (sI g 728 983 (i32 V.length)) 729 983 (i32 (nz - d)))) fun h109 => lX11_settles_0 m 983 (i32 r) h109) = some g' ∧ Mo lsS g g' ∧ WS g' (stl r V).1 ∧ hI g' 714 983 = i32 (p + (w :: (stl r V).2).length) ∧ hI g' 729 983 = i32 (nz - ((w :: (stl r V).2).filter fun w => w == 3).length) ∧ (∀ i : Nat, (i : Int) < p → hA g' 990 i = hA g 990 i) ∧ ∀ (k : Nat) (u : Int), (w :: (stl r V).2)[k]? = some u → hA g' 990 (p.toNat + k) = i32 u := by
        intro d hd
        have q0 : Mo lsS g (sI (sI g 728 983 (i32 V.length)) 729 983 (i32 (nz - d))) := (Mo_I (by decide) _).t (Mo_I (by decide) _)
        obtain ⟨g2, e2, q2, a1, a2, a3⟩ := emits_s (M3 (i32 (nz - d))) (p := p) (by rw [rII, if_neg (by decide), rII, if_neg (by decide)]; exact hp) p0 (by simp at p1; omega) (i32 w)
        have S2 : WS g2 V := by
          refine ⟨?_, fun k u hk => ?_⟩
          · rw [q2.I rfl, rII, if_neg (by decide), rII, if_pos ⟨rfl, rfl⟩]
          · have hk' : (V ++ [w])[k]? = some u := by
              rw [List.getElem?_append_left]
              · exact hk
              · exact (List.getElem?_eq_some_iff.mp hk).1
            have := S.2 k u hk'
            rw [q2.A rfl]; exact this
        obtain ⟨g3, e3, q3, b1, b2, b3, b4, b5⟩ := ih V hv m g2 (p + 1) (nz - d) (q2.ms (M3 _)) S2 (by omega) (by omega) a1 (by omega) (by simp at p1; omega) (by rw [q2.I rfl, rII, if_pos ⟨rfl, rfl⟩])
        rw [e2]; simp only [bn_s]
        refine ⟨g3, e3, (q0.t (q2.w (by decide))).t q3, b1, ?_, ?_, fun i hi => ?_, fun k u hk => ?_⟩
        · rw [b2, List.length_cons]; congr 1; omega
        · rw [b3, List.filter_cons]
          congr 1
          by_cases w3 : w = 3
          · rw [if_pos (by simp [w3])]; rw [if_pos w3] at hd; simp; omega
          · rw [if_neg (by simp [w3])]; rw [if_neg w3] at hd; omega
        · rw [b4 i (by omega), a3 i (by omega)]; rfl
        · cases k with
          | zero =>
            simp at hk
            subst hk
            rw [Nat.add_zero, b4 p.toNat (by omega)]; exact a2
          | succ k =>
            simp at hk
            have := b5 k u hk
            rw [show p.toNat + (k + 1) = (p + 1).toNat + k by omega]; exact this
      by_cases w3 : w = 3
      · rw [if_pos w3]
        exact key 1 (by rw [if_pos w3])
      · rw [if_neg w3]
        exact key 0 (by rw [if_neg w3])
theorem waitsFor_s {g : HP} {W : List Int} (M : MS g) (S : WS g W) (l : W.length < 600) {w : Int} (w0 : 1 ≤ w) (w1 : w ≤ 4) : ∃ g', fX11_waitsFor 983 (i32 w) g = some g' ∧ Mo [728, 996] g g' ∧ WS g' (W ++ [w]) := by
  unfold fX11_waitsFor
  simp (disch := omega) only [M.o, M.r_waiting, M.o_waiting, M.n_waiting, gd_tt, oc_s, S.1, i32_inb, i32_cn, lt_e, rIA, i32_add, Int.toNat_natCast]
  refine ⟨_, rfl, (Mo_A (by decide) _ _).t (Mo_I (by decide) _), ?_, fun k u hk => ?_⟩
  · rw [rII, if_pos ⟨rfl, rfl⟩]; simp
  · rw [rAI, rAA]
    by_cases c : k = W.length
    · subst c; simp at hk; subst hk; rw [if_pos ⟨rfl, rfl⟩]; exact ⟨rfl, w0, w1⟩
    · rw [if_neg (fun z => c z.2)]
      apply S.2 k u
      rw [List.getElem?_append_left] at hk
      · exact hk
      · apply Classical.byContradiction
        intro z
        rw [List.getElem?_append_right (by omega), List.getElem?_eq_none (by simp; omega)] at hk
        cases hk
/-! HOW LONG A CONDITION CAN BE -/
def isw (k : Int) : Prop := k = 2 ∨ (4 ≤ k ∧ k ≤ 13)
theorem ltr_nd {c : Int} (h : ltr c = true) : wht c = false := by
  simp only [ltr, decide_eq_true_eq] at h
  unfold wht
  rw [decide_eq_false_iff_not]; omega
section
variable {b : Int → Int} {n : Int}
theorem tk_word (n0 : 0 ≤ n) {j : Nat} (w : isw (tkk (tkn b n j))) : tke (tkn b n j) - tks (tkn b n j) = nl (tkv (tkn b n j)) ∧ ltr (b (tks (tkn b n j))) = true ∧ (tke (tkn b n j) = n ∨ ltr (b (tke (tkn b n j))) = false) := by
  have tS := tkn_S b n j
  have r := tkn_rng (b := b) n0 j
  generalize tks (tkn b n j) = s at *
  rw [tS] at r w ⊢
  clear tS
  have lt : s < n := by
    have t0 := tokS_ge (b := b) (show s ≤ n by omega)
    unfold isw at w
    omega
  rcases tokS_case (b := b) lt with ⟨c, e, er, es, en, al, q⟩ | ⟨c, e, es, en, al, q⟩ | ⟨c, q⟩ | ⟨c, q⟩
  · rcases q with ⟨q1, q⟩ | ⟨q1, q⟩
    · rw [q] at w; unfold isw at w; simp only [tkk] at w; omega
    · rw [q]
      have hl : ∀ i, s ≤ i → i < s + ((e - s).toNat : Nat) → ltr (b i) = true := fun i i0 i1 => al i i0 (by omega)
      obtain ⟨k, hk⟩ : ∃ k, (e - s).toNat = k + 1 := ⟨(e - s).toNat - 1, by omega⟩
      have nv := wv_NV (b := b) (s := s) (k := (e - s).toNat) (by omega) (by omega) hl
      have re := run_end (q := ltr) (b := b) (n := n) (n - s).toNat s (by omega) (by omega)
      rw [← er] at re
      simp only [tkv, tke]
      refine ⟨?_, al s (Int.le_refl _) es, re⟩
      rw [hk] at hl ⊢
      have lo := wv_lo k hl (by omega)
      have hi : wv b s (k + 1) < 32 ^ (k + 1) := by
        have : ∀ j : Nat, j ≤ k + 1 → 0 ≤ wv b s j ∧ wv b s j < 32 ^ j := by
          intro j
          induction j with
          | zero => intro _; exact ⟨Int.le_refl _, by simp only [wv, Int.pow_zero]; decide⟩
          | succ j ih =>
            intro hj
            obtain ⟨a1, a2⟩ := ih (by omega)
            have l := hl (s + j) (by omega) (by omega)
            simp only [ltr, decide_eq_true_eq] at l
            simp only [wv]
            have e : (32 : Int) ^ (j + 1) = 32 * 32 ^ j := by rw [Int.pow_succ]; omega
            omega
        exact (this (k + 1) (Nat.le_refl _)).2
      rw [nl_of (by omega) lo hi]; omega
  · rcases q with ⟨q1, q⟩ | ⟨q1, q⟩
    · rw [q] at w; unfold isw at w; simp only [tkk] at w; omega
    · rw [q] at w; unfold isw at w; simp only [tkk] at w; omega
  · rw [q] at w
    unfold isw at w
    simp only [tkk] at w
    exfalso
    by_cases y : sgn (b s) = true
    · rw [if_pos y] at w; simp only [sgn, decide_eq_true_eq] at y; omega
    · rw [if_neg y] at w; omega
  · rw [q] at w; unfold isw at w; simp only [tkk] at w; omega
def tS (b : Int → Int) (n : Int) (j : Nat) : Int := tks (tkn b n j)
def tK (b : Int → Int) (n : Int) (j : Nat) : Int := tkk (tkn b n j)
theorem tS_1 (n0 : 0 ≤ n) {j : Nat} (h : tK b n j ≠ 0) : tS b n j + 1 ≤ tS b n (j + 1) := by
  have r := tkn_rng (b := b) n0 j
  have r2 := tkn_rng (b := b) n0 (j + 1)
  have : pos b n (j + 1) = tke (tkn b n j) := rfl
  unfold tK at h
  unfold tS
  have := r.2.2.2.2.2 h
  omega
theorem tS_w (n0 : 0 ≤ n) {j : Nat} (h : isw (tK b n j)) : tS b n j + nl (tkv (tkn b n j)) ≤ tS b n (j + 1) ∧ (isw (tK b n (j + 1)) → tS b n j + nl (tkv (tkn b n j)) + 1 ≤ tS b n (j + 1)) := by
  have r := tkn_rng (b := b) n0 j
  have r2 := tkn_rng (b := b) n0 (j + 1)
  have p : pos b n (j + 1) = tke (tkn b n j) := rfl
  obtain ⟨w1, w2, w3⟩ := tk_word n0 h
  unfold tS
  refine ⟨by omega, fun h2 => ?_⟩
  obtain ⟨v1, v2, v3⟩ := tk_word n0 h2
  have ne : tke (tkn b n j) ≠ tks (tkn b n (j + 1)) := by
    intro z
    rcases w3 with w3 | w3
    · have : tkk (tkn b n (j + 1)) = 0 := r2.2.2.2.2.1.mpr (by omega)
      unfold isw tK at h2
      omega
    · rw [z] at w3; rw [w3] at v2; cases v2
  omega
theorem tS_n (n0 : 0 ≤ n) (j : Nat) : 0 ≤ tS b n j ∧ tS b n j ≤ n := by
  have r := tkn_rng (b := b) n0 j
  have p := pos_le (b := b) n0 j
  unfold tS; omega
theorem kw_len (n0 : 0 ≤ n) {j : Nat} : (tK b n j = 11 → nl (tkv (tkn b n j)) = 2) ∧ (tK b n j = 12 → nl (tkv (tkn b n j)) = 3) ∧ (tK b n j = 13 → nl (tkv (tkn b n j)) = 3) := by
  have tv := tk_val (b := b) n0 j
  have ex : ∀ i : Nat, i < 10 → tK b n j = 4 + i → tkv (tkn b n j) = kws.getD i 0 := fun i hi h => by
    unfold tK at h
    have := tv.2.1 (Or.inr (by omega))
    apply kwk_inj i hi
    rw [this.2, h]
    have : ∀ i : Fin 10, kwk (kws.getD i.val 0) = 4 + (i.val : Int) := by decide +kernel
    exact (this ⟨i, hi⟩).symm
  refine ⟨fun h => ?_, fun h => ?_, fun h => ?_⟩
  · rw [ex 7 (by decide) h]; decide
  · rw [ex 8 (by decide) h]; decide
  · rw [ex 9 (by decide) h]; decide
/-- what a piece that is right takes of the text -/
def AP (b : Int → Int) (n : Int) (j : Nat) (S : List TS) (P : PR) : Prop :=
  P.1 = true → (j < P.2.1 ∧ 1 ≤ P.2.2.2.length) ∧ ((j : Int) ≤ tS b n j → (P.2.1 : Int) ≤ tS b n P.2.1) ∧ (∃ S2, P.2.2.1 = S ++ S2) ∧
    2 * (P.2.2.2.length : Int) + tS b n j ≤ tS b n P.2.1 + 1 ∧ (isw (tK b n P.2.1) → 2 * (P.2.2.2.length : Int) + tS b n j ≤ tS b n P.2.1) ∧
    4 * ((P.2.2.1.length : Int) - S.length) + tS b n j ≤ tS b n P.2.1 + 3 ∧ (isw (tK b n P.2.1) → 4 * ((P.2.2.1.length : Int) - S.length) + tS b n j ≤ tS b n P.2.1 + 2) ∧
    P.2.2.2.length + j ≤ P.2.1 ∧ ∀ e ∈ P.2.2.2, e = 1 ∨ e = 2 ∨ e = 3 ∨ (4 + (S.length : Int) ≤ e ∧ e < 4 + (P.2.2.1.length : Int))
theorem ap_name (n0 : 0 ≤ n) {ow : Int} {j : Nat} (S : List TS) (h : tK b n j = 2) : AP b n j S (pname (tkn b n) ow j S) := by
  have nv := (tk_val (b := b) n0 j).2.1 (Or.inl h)
  have l1 := nl_pos nv.1.1
  have w := tS_w n0 (Or.inl h)
  unfold AP pname
  by_cases c0 : sg (tkk (tkn b n (j + 1))) = 0
  · rw [if_pos c0]
    intro _
    refine ⟨⟨Nat.lt_succ_self j, Nat.le_refl 1⟩, fun z => ?_, ⟨_, rfl⟩, ?_, ?_, ?_, ?_, ?_, ?_⟩ <;> simp only [List.length_append, List.length_singleton, List.mem_singleton]
    · omega
    · omega
    · intro z; have := w.2 z; omega
    · omega
    · intro z; have := w.2 z; omega
    · omega
    · intro e he; omega
  · rw [if_neg c0]
    have k1 : tK b n (j + 1) ≠ 0 := fun z => c0 (by unfold tK at z; rw [z]; rfl)
    have s1 := tS_1 n0 k1
    by_cases c1 : tkk (tkn b n (j + 2)) = 3
    · rw [if_pos c1]
      have s2 := tS_1 (b := b) n0 (j := j + 2) (show tkk (tkn b n (j + 2)) ≠ 0 by omega)
      intro _
      rw [show j + 1 + 1 = j + 2 by omega] at s1
      rw [show j + 2 + 1 = j + 3 by omega] at s2
      refine ⟨⟨by show j < j + 3; omega, Nat.le_refl 1⟩, fun z => ?_, ⟨_, rfl⟩, ?_, ?_, ?_, ?_, ?_, ?_⟩ <;> simp only [List.length_append, List.length_singleton, List.mem_singleton]
      · show ((j + 3 : Nat) : Int) ≤ _; omega
      · omega
      · intro z; omega
      · omega
      · intro z; omega
      · omega
      · intro e he; omega
    · rw [if_neg c1]
      intro z; cases z
theorem ap_tail (n0 : 0 ≤ n) {pt : Nat → List TS → PR} {w op : Int} (hw : w = 12 ∧ op = 1 ∨ w = 11 ∧ op = 2) (hp : ∀ j S, AP b n j S (pt j S)) {j0 : Nat} {S0 : List TS} : ∀ (k j : Nat) (S : List TS) (L : List Int), AP b n j0 S0 (true, j, S, L) → AP b n j0 S0 (ptail (tkn b n) pt w op k j S L) := by
  intro k
  induction k with
  | zero => intro j S L a; exact a
  | succ k ih =>
    intro j S L a
    simp only [ptail]
    by_cases c : tkk (tkn b n j) = w
    · rw [if_pos c]
      cases ok : (pt (j + 1) S).1 with
      | false => intro z; cases z
      | true =>
        apply ih
        have q := hp (j + 1) S ok
        obtain ⟨a1, a2, ⟨S2, a3⟩, a4, a5, a6, a7, a8, a9⟩ := a rfl
        obtain ⟨q1, q2, ⟨S3, q3⟩, q4, q5, q6, q7, q8, q9⟩ := q
        have iw : isw (tK b n j) := by unfold isw tK; omega
        have kl := kw_len (b := b) n0 (j := j)
        have wl := (tS_w n0 iw).1
        have l2 : 2 ≤ nl (tkv (tkn b n j)) := by
          rcases hw with ⟨hw, _⟩ | ⟨hw, _⟩
          · rw [kl.2.1 (by unfold tK; omega)]; decide
          · rw [kl.1 (by unfold tK; omega)]; exact Nat.le_refl _
        have a5' := a5 iw
        have a7' := a7 iw
        simp only at a1 a2 a3 a4 a6 a8 a9 a5' a7'
        intro _
        simp only [List.length_append, List.length_singleton]
        generalize (pt (j + 1) S).2.1 = j2 at *
        generalize (pt (j + 1) S).2.2.2 = L2 at *
        generalize (pt (j + 1) S).2.2.1 = Sn at *
        subst a3
        subst q3
        simp only [List.length_append] at *
        refine ⟨by omega, fun z => q2 (by have := a2 z; omega), ⟨S2 ++ S3, by rw [List.append_assoc]⟩, by omega, fun z => by have := q5 z; omega, by omega, fun z => by have := q7 z; omega, by omega, fun e he => ?_⟩
        rcases List.mem_append.mp he with he | he
        · have := a9 e he; omega
        · rcases List.mem_append.mp he with he | he
          · have := q9 e he; omega
          · rw [List.mem_singleton] at he
            rcases hw with ⟨_, hw⟩ | ⟨_, hw⟩ <;> omega
    · rw [if_neg c]; exact a
theorem ap_ch (n0 : 0 ≤ n) {pt : Nat → List TS → PR} {w op : Int} (hw : w = 12 ∧ op = 1 ∨ w = 11 ∧ op = 2) (hp : ∀ j S, AP b n j S (pt j S)) : ∀ j S, AP b n j S (pch (tkn b n) pt w op j S) := by
  intro j S
  unfold pch
  cases ok : (pt j S).1 with
  | false => intro z; cases z
  | true => exact ap_tail n0 hw hp 1200 _ _ _ (fun _ => hp j S ok)
theorem ap_test (n0 : 0 ≤ n) {ow : Int} : ∀ (q j : Nat) (S : List TS), AP b n j S (ptest (tkn b n) ow q j S) := by
  intro q
  induction q with
  | zero =>
    intro j S
    unfold ptest
    by_cases c : tkk (tkn b n j) = 2
    · rw [if_pos c]; exact ap_name n0 S c
    · rw [if_neg c]; intro z; cases z
  | succ q ih =>
    intro j S
    unfold ptest
    by_cases c : tkk (tkn b n j) = 2
    · rw [if_pos c]; exact ap_name n0 S c
    rw [if_neg c]
    by_cases c2 : tkk (tkn b n j) = 13
    · rw [if_pos c2]
      cases ok : (ptest (tkn b n) ow q (j + 1) S).1 with
      | false => intro z; cases z
      | true =>
        obtain ⟨q1, q2, q3, q4, q5, q6, q7, q8, q9⟩ := ih (j + 1) S ok
        have iw : isw (tK b n j) := by unfold isw tK; omega
        have wl := (tS_w n0 iw).1
        rw [(kw_len (b := b) n0 (j := j)).2.2 c2] at wl
        intro _
        simp only [List.length_append, List.length_singleton]
        refine ⟨by omega, fun z => q2 (by omega), q3, by omega, fun z => by have := q5 z; omega, by omega, fun z => by have := q7 z; omega, by omega, fun e he => ?_⟩
        rcases List.mem_append.mp he with he | he
        · exact q9 e he
        · rw [List.mem_singleton] at he; omega
    rw [if_neg c2]
    by_cases c3 : tkk (tkn b n j) = 40
    · rw [if_pos c3]
      have hd : ∀ j S, AP b n j S (pdis (tkn b n) (ptest (tkn b n) ow q) j S) := ap_ch n0 (Or.inr ⟨rfl, rfl⟩) (ap_ch n0 (Or.inl ⟨rfl, rfl⟩) ih)
      cases ok : (pdis (tkn b n) (ptest (tkn b n) ow q) (j + 1) S).1 with
      | false => intro z; cases z
      | true =>
        obtain ⟨q1, q2, q3, q4, q5, q6, q7, q8, q9⟩ := hd (j + 1) S ok
        have s1 := tS_1 (b := b) n0 (j := j) (show tkk (tkn b n j) ≠ 0 by omega)
        show AP b n j S (if tkk (tkn b n (pdis (tkn b n) (ptest (tkn b n) ow q) (j + 1) S).2.1) = 41 then _ else _)
        by_cases c4 : tkk (tkn b n (pdis (tkn b n) (ptest (tkn b n) ow q) (j + 1) S).2.1) = 41
        · rw [if_pos c4]
          have s2 := tS_1 (b := b) n0 (j := (pdis (tkn b n) (ptest (tkn b n) ow q) (j + 1) S).2.1) (show tkk (tkn b n (pdis (tkn b n) (ptest (tkn b n) ow q) (j + 1) S).2.1) ≠ 0 by omega)
          intro _
          simp only
          generalize pdis (tkn b n) (ptest (tkn b n) ow q) (j + 1) S = PD at *
          refine ⟨by omega, fun z => ?_, q3, by omega, fun z => by omega, by omega, fun z => by omega, by omega, q9⟩
          have := q2 (by omega)
          omega
        · rw [if_neg c4]; intro z; cases z
    · rw [if_neg c3]; intro z; cases z
theorem ap_con (n0 : 0 ≤ n) {ow : Int} (q j : Nat) (S : List TS) : AP b n j S (pcon (tkn b n) (ptest (tkn b n) ow q) j S) := ap_ch n0 (Or.inl ⟨rfl, rfl⟩) (ap_test n0 q) j S
theorem ap_dis (n0 : 0 ≤ n) {ow : Int} (q j : Nat) (S : List TS) : AP b n j S (pdis (tkn b n) (ptest (tkn b n) ow q) j S) := ap_ch n0 (Or.inr ⟨rfl, rfl⟩) (ap_con n0 q) j S
end
