/-! CONDITIONS AS THE GRAMMAR READS THEM -/
/-- a test that was read: name, start, owner, sign (0 none, 1 =, 2 <, 3 >), number -/
abbrev TS : Type := Int × Int × Int × Int × Int
/-- what a piece of text gives: right?, the token behind it (or the wrong one), the tests so far, the parts behind their own -/
abbrev PR : Type := Bool × Nat × List TS × List Int
def sg (k : Int) : Int := if k = 61 then 1 else if k = 60 then 2 else if k = 62 then 3 else 0
section
variable (T : Nat → TK) (ow : Int)
def pname (j : Nat) (S : List TS) : PR :=
  if sg (tkk (T (j + 1))) = 0 then (true, j + 1, S ++ [(tkv (T j), tks (T j), ow, 0, 0)], [4 + (S.length : Int)])
  else if tkk (T (j + 2)) = 3 then (true, j + 3, S ++ [(tkv (T j), tks (T j), ow, sg (tkk (T (j + 1))), tkv (T (j + 2)))], [4 + (S.length : Int)])
  else (false, j + 2, S, [])
/-- op: 1 and, 2 or; w: its token -/
def ptail (pt : Nat → List TS → PR) (w op : Int) : Nat → Nat → List TS → List Int → PR
  | 0, j, S, L => (true, j, S, L)
  | k + 1, j, S, L => if tkk (T j) = w then
      (match (pt (j + 1) S).1 with
        | true => ptail pt w op k (pt (j + 1) S).2.1 (pt (j + 1) S).2.2.1 (L ++ ((pt (j + 1) S).2.2.2 ++ [op]))
        | false => (false, (pt (j + 1) S).2.1, S, []))
      else (true, j, S, L)
def pch (pt : Nat → List TS → PR) (w op : Int) (j : Nat) (S : List TS) : PR :=
  match (pt j S).1 with
  | true => ptail T pt w op 1200 (pt j S).2.1 (pt j S).2.2.1 (pt j S).2.2.2
  | false => (false, (pt j S).2.1, S, [])
def pcon (pt : Nat → List TS → PR) : Nat → List TS → PR := pch T pt 12 1
def pdis (pt : Nat → List TS → PR) : Nat → List TS → PR := pch T (pcon T pt) 11 2
def ptest : Nat → Nat → List TS → PR
  | 0, j, S => if tkk (T j) = 2 then pname T ow j S else (false, j, S, [])
  | q + 1, j, S => if tkk (T j) = 2 then pname T ow j S
      else if tkk (T j) = 13 then
        (match (ptest q (j + 1) S).1 with
          | true => (true, (ptest q (j + 1) S).2.1, (ptest q (j + 1) S).2.2.1, (ptest q (j + 1) S).2.2.2 ++ [3])
          | false => (false, (ptest q (j + 1) S).2.1, S, []))
      else if tkk (T j) = 40 then
        (match (pdis T (ptest q) (j + 1) S).1 with
          | true => if tkk (T (pdis T (ptest q) (j + 1) S).2.1) = 41 then (true, (pdis T (ptest q) (j + 1) S).2.1 + 1, (pdis T (ptest q) (j + 1) S).2.2.1, (pdis T (ptest q) (j + 1) S).2.2.2) else (false, (pdis T (ptest q) (j + 1) S).2.1, S, [])
          | false => (false, (pdis T (ptest q) (j + 1) S).2.1, S, []))
      else (false, j, S, [])
def pcond : Nat → List TS → PR := pdis T (ptest T ow 6)
end
/-! CONDITIONS AS OBJECTS -/
section
variable {α : Type}
/-- a chain of parts -/
def Chn (h : HP) (R : Nat → Nat → Nat → List α → Prop) (hi : Nat) : Nat → Option Nat → List (Nat × List α) → Prop
  | _, r, [] => r = none
  | lo, r, p :: Q => ∃ l m, r = some p.1 ∧ lo ≤ l ∧ l ≤ p.1 ∧ p.1 < m ∧ m ≤ hi ∧ R l m p.1 p.2 ∧ Chn h R hi m (hR h 386 p.1) Q
def fl (o : α) (Q : List (Nat × List α)) : List α := (Q.map fun p => p.2 ++ [o]).flatten
def IsT (h : HP) (lf : Nat → α → Prop) (op : Nat → α) : Nat → Nat → Nat → Nat → List α → Prop
  | 0, _, _, _, _ => False
  | d + 1, lo, hi, t, L => lo ≤ t ∧ t < hi ∧ isO h t 6 = true ∧
      ((hI h 384 t = i32 2 ∧ ∃ e, L = [e] ∧ lf t e) ∨
       (hI h 384 t = i32 13 ∧ ∃ f L', hR h 385 t = some f ∧ hR h 386 f = none ∧ IsT h lf op d lo t f L' ∧ L = L' ++ [op 3]) ∨
       (∃ o, ((o = 1 ∧ hI h 384 t = i32 12) ∨ (o = 2 ∧ hI h 384 t = i32 11)) ∧ ∃ f L0 Q, hR h 385 t = some f ∧ IsT h lf op d lo t f L0 ∧ Q ≠ [] ∧ Chn h (IsT h lf op d) hi (t + 1) (hR h 386 f) Q ∧ L = L0 ++ fl (op o) Q))
theorem Chn_mono {h g : HP} {R R' : Nat → Nat → Nat → List α → Prop} {hi hi' : Nat} (hh : hi ≤ hi') : ∀ (Q : List (Nat × List α)) (lo : Nat) (r : Option Nat), (∀ lo2 m t L, lo ≤ lo2 → m ≤ hi → R lo2 m t L → R' lo2 m t L) → (∀ x, lo ≤ x → x < hi → hR g 386 x = hR h 386 x) → Chn h R hi lo r Q → Chn g R' hi' lo r Q := by
  intro Q
  induction Q with
  | nil => intro lo r _ _ c; exact c
  | cons p Q ih =>
    intro lo r a b c
    obtain ⟨l, m, c1, c2, c3, c4, c5, c6, c7⟩ := c
    refine ⟨l, m, c1, c2, c3, c4, by omega, a l m _ _ c2 c5 c6, ?_⟩
    rw [b p.1 (by omega) (by omega)]
    exact ih m _ (fun lo2 m2 t L h1 => a lo2 m2 t L (by omega)) (fun x h1 h2 => b x (by omega) h2) c7
theorem IsT_fr {h g : HP} {lf lf' : Nat → α → Prop} {op : Nat → α} : ∀ (d lo hi t : Nat) (L : List α), IsT h lf op d lo hi t L → (∀ x, lo ≤ x → x < hi → isO h x 6 = true → isO g x 6 = true ∧ hI g 384 x = hI h 384 x ∧ hR g 385 x = hR h 385 x ∧ ∀ e, lf x e → lf' x e) → (∀ x, lo ≤ x → x < hi → x ≠ t → hR g 386 x = hR h 386 x) → IsT g lf' op d lo hi t L := by
  intro d
  induction d with
  | zero => intro lo hi t L z; exact z.elim
  | succ d ih =>
    intro lo hi t L z s n
    obtain ⟨z1, z2, z3, z4⟩ := z
    obtain ⟨s1, s2, s3, s4⟩ := s t z1 z2 z3
    refine ⟨z1, z2, s1, ?_⟩
    rcases z4 with ⟨a1, e, a2, a3⟩ | ⟨a1, f, L', a2, a3, a4, a5⟩ | ⟨o, a1, f, L0, Q, a2, a3, a4, a5, a6⟩
    · exact Or.inl ⟨s2.trans a1, e, a2, s4 e a3⟩
    · right; left
      have ft : lo ≤ f ∧ f < t := by
        cases d with
        | zero => exact a4.elim
        | succ d => exact ⟨a4.1, a4.2.1⟩
      refine ⟨s2.trans a1, f, L', s3.trans a2, (n f (by omega) (by omega) (by omega)).trans a3, ?_, a5⟩
      exact ih lo t f L' a4 (fun x x0 x1 => s x x0 (by omega)) (fun x x0 x1 x2 => n x x0 (by omega) (by omega))
    · right; right
      have ft : lo ≤ f ∧ f < t := by
        cases d with
        | zero => exact a3.elim
        | succ d => exact ⟨a3.1, a3.2.1⟩
      refine ⟨o, by rw [s2]; exact a1, f, L0, Q, s3.trans a2, ih lo t f L0 a3 (fun x x0 x1 => s x x0 (by omega)) (fun x x0 x1 x2 => n x x0 (by omega) (by omega)), a4, ?_, a6⟩
      rw [n f (by omega) (by omega) (by omega)]
      refine Chn_mono (Nat.le_refl _) Q (t + 1) _ (fun lo2 m t2 L2 h1 h2 h3 => ?_) (fun x x0 x1 => n x (by omega) x1 (by omega)) a5
      exact ih lo2 m t2 L2 h3 (fun x x0 x1 => s x (by omega) (by omega)) (fun x x0 x1 x2 => n x (by omega) (by omega) (by omega))
theorem IsT_up {h : HP} {lf : Nat → α → Prop} {op : Nat → α} : ∀ (d lo hi t : Nat) (L : List α) (d' lo' hi' : Nat), d ≤ d' → lo' ≤ lo → hi ≤ hi' → IsT h lf op d lo hi t L → IsT h lf op d' lo' hi' t L := by
  intro d
  induction d with
  | zero => intro lo hi t L d' lo' hi' _ _ _ z; exact z.elim
  | succ d ih =>
    intro lo hi t L d' lo' hi' hd hl hh z
    obtain ⟨d', rfl⟩ : ∃ e, d' = e + 1 := ⟨d' - 1, by omega⟩
    obtain ⟨z1, z2, z3, z4⟩ := z
    refine ⟨by omega, by omega, z3, ?_⟩
    rcases z4 with ⟨a1, e, a2, a3⟩ | ⟨a1, f, L', a2, a3, a4, a5⟩ | ⟨o, a1, f, L0, Q, a2, a3, a4, a5, a6⟩
    · exact Or.inl ⟨a1, e, a2, a3⟩
    · exact Or.inr (Or.inl ⟨a1, f, L', a2, a3, ih lo t f L' d' lo' t (by omega) hl (Nat.le_refl _) a4, a5⟩)
    · refine Or.inr (Or.inr ⟨o, a1, f, L0, Q, a2, ih lo t f L0 d' lo' t (by omega) hl (Nat.le_refl _) a3, a4, ?_, a6⟩)
      exact Chn_mono hh Q (t + 1) _ (fun lo2 m t2 L2 _ _ h3 => ih lo2 m t2 L2 d' lo2 m (by omega) (Nat.le_refl _) (Nat.le_refl _) h3) (fun _ _ _ => rfl) a5
theorem IsT_b {h : HP} {lf : Nat → α → Prop} {op : Nat → α} {d lo hi t : Nat} {L : List α} (z : IsT h lf op d lo hi t L) : lo ≤ t ∧ t < hi ∧ isO h t 6 = true := by
  cases d with
  | zero => exact z.elim
  | succ d => exact ⟨z.1, z.2.1, z.2.2.1⟩
theorem fl_app (o : α) (Q P : List (Nat × List α)) : fl o (Q ++ P) = fl o Q ++ fl o P := by
  unfold fl; rw [List.map_append, List.flatten_append]
theorem fl_one (o : α) (t : Nat) (L : List α) : fl o [(t, L)] = L ++ [o] := by
  unfold fl; simp
/-- the last term of a chain that begins behind f -/
def lst (f : Nat) : List (Nat × List α) → Nat
  | [] => f
  | p :: Q => lst p.1 Q
theorem lst_app (f : Nat) (Q : List (Nat × List α)) (t : Nat) (L : List α) : lst f (Q ++ [(t, L)]) = t := by
  induction Q generalizing f with
  | nil => rfl
  | cons p Q ih => exact ih p.1
theorem lst_rng {h : HP} {R : Nat → Nat → Nat → List α → Prop} {hi : Nat} : ∀ (Q : List (Nat × List α)) (lo f : Nat), f < lo → lo ≤ hi → Chn h R hi lo (hR h 386 f) Q → lst f Q < hi ∧ (lst f Q = f ∨ lo ≤ lst f Q) := by
  intro Q
  induction Q with
  | nil => intro lo f a b _; exact ⟨by simp only [lst]; omega, Or.inl rfl⟩
  | cons p Q ih =>
    intro lo f a b c
    obtain ⟨l, m, c1, c2, c3, c4, c5, c6, c7⟩ := c
    obtain ⟨i1, i2⟩ := ih m p.1 c4 c5 c7
    refine ⟨i1, Or.inr ?_⟩
    show lo ≤ lst p.1 Q
    rcases i2 with i2 | i2 <;> omega
/-- a chain grows at its end -/
theorem Chn_app {h g : HP} {R R' : Nat → Nat → Nat → List α → Prop} {hi hi' t : Nat} {L : List α} (hh : hi ≤ hi') (tb : hi ≤ t ∧ t < hi') (c : R' hi hi' t L) (e : hR g 386 t = none) : ∀ (Q : List (Nat × List α)) (lo : Nat) (f : Nat), f < lo → lo ≤ hi → (∀ l m x L, lo ≤ l → m ≤ hi → (x = lst f Q ∨ m ≤ lst f Q ∨ lst f Q < l) → R l m x L → R' l m x L) → (∀ x, (x = f ∨ lo ≤ x) → x < hi → x ≠ lst f Q → hR g 386 x = hR h 386 x) → hR g 386 (lst f Q) = some t → Chn h R hi lo (hR h 386 f) Q → Chn g R' hi' lo (hR g 386 f) (Q ++ [(t, L)]) := by
  intro Q
  induction Q with
  | nil =>
    intro lo f fl lh a b k z
    exact ⟨hi, hi', k, lh, tb.1, tb.2, Nat.le_refl _, c, e⟩
  | cons p Q ih =>
    intro lo f fl lh a b k z
    obtain ⟨l, m, c1, c2, c3, c4, c5, c6, c7⟩ := z
    have ls := lst_rng Q m p.1 c4 c5 c7
    have el : lst f (p :: Q) = lst p.1 Q := rfl
    rw [el] at a b k
    have fn : f ≠ lst p.1 Q := by
      rcases ls.2 with w | w <;> omega
    refine ⟨l, m, ?_, c2, c3, c4, by omega, a l m _ _ c2 c5 ?_ c6, ?_⟩
    · rw [b f (Or.inl rfl) (by omega) fn]; exact c1
    · rcases ls.2 with w | w
      · exact Or.inl w.symm
      · exact Or.inr (Or.inl w)
    · exact ih m p.1 c4 c5 (fun l2 m2 x L2 h1 => a l2 m2 x L2 (by omega)) (fun x h1 => b x (by omega)) k c7
/-- the last of a chain has none behind it -/
theorem lst_none {h : HP} {R : Nat → Nat → Nat → List α → Prop} {hi : Nat} : ∀ (Q : List (Nat × List α)) (lo f : Nat), Chn h R hi lo (hR h 386 f) Q → hR h 386 (lst f Q) = none := by
  intro Q
  induction Q with
  | nil => intro lo f c; exact c
  | cons p Q ih =>
    intro lo f c
    obtain ⟨l, m, c1, c2, c3, c4, c5, c6, c7⟩ := c
    exact ih m p.1 c7
end

/-! THE CLASS READS A CONDITION -/
def lpP : List Nat := [448, 449, 450, 451, 192, 196, 1105, 1106, 1107, 1108]
theorem sz_le {h : HP} (S : CS h) {x : Nat} (hx : x ≤ 114) : x < hsz h := Nat.lt_of_le_of_lt hx (isO_lt S.o_writer)
section
variable {g g' : HP} {b : Int → Int} {n : Int} {c m : Nat} {l : List Nat}
theorem CTk.co (S : CS g) (T : CTk g b n c) (p : Co m l g g') (q : (l.contains 452 || l.contains 453 || l.contains 1100 || l.contains 1101 || l.contains 1103 || l.contains 5099) = false) : CTk g' b n c := by
  simp only [Bool.or_eq_false_iff] at q
  obtain ⟨⟨⟨⟨⟨q1, q2⟩, q3⟩, q4⟩, q5⟩, q6⟩ := q
  obtain ⟨a1, a2, a3, a4, a5⟩ := T
  refine ⟨a1, ?_, ?_, fun j hj => ?_, a5⟩
  · rw [p.I (sz_le S (by decide)) q1 q6]; exact a2
  · rw [p.I (sz_le S (by decide)) q2 q6]; exact a3
  · rw [p.A (sz_le S (by decide)) q3, p.A (sz_le S (by decide)) q4, p.L (sz_le S (by decide)) q5]; exact a4 j hj
theorem CTt.co (S : CS g) {j : Nat} (T : CTt g b n j) (p : Co m l g g') (q : (l.contains 448 || l.contains 449 || l.contains 450 || l.contains 451 || l.contains 5099) = false) : CTt g' b n j := by
  simp only [Bool.or_eq_false_iff] at q
  obtain ⟨⟨⟨⟨q1, q2⟩, q3⟩, q4⟩, q6⟩ := q
  obtain ⟨a1, a2, a3, a4⟩ := T
  refine ⟨?_, ?_, ?_, fun u v => ?_⟩
  · rw [p.I (sz_le S (by decide)) q4 q6]; exact a1
  · rw [p.I (sz_le S (by decide)) q1 q6]; exact a2
  · rw [p.I (sz_le S (by decide)) q2 q6]; exact a3
  · rw [p.J (sz_le S (by decide)) q3 q6]; exact a4 u v
end
def sby (s : Int) : Int := if s = 1 then 61 else if s = 2 then 60 else if s = 3 then 62 else 0
/-- the table of the tests that were read -/
def Tbl (g : HP) (S : List TS) (ts : Nat → Nat) : Prop := ∀ (k : Nat) (x : TS), S[k]? = some x → hQ g 105 k = some (ts k) ∧ 1008 ≤ ts k ∧ isO g (ts k) 6 = true ∧ hI g 384 (ts k) = i32 2 ∧ hI g 388 (ts k) = i32 (sby x.2.2.2.1) ∧ hI g 389 (ts k) = i32 x.2.2.2.2 ∧ hL g 106 k = i64 (lft x.1) ∧ hA g 107 k = i32 x.2.1 ∧ hA g 108 k = i32 x.2.2.1
/-- the class stands at a token of the text -/
def CQ (g : HP) (b : Int → Int) (n : Int) (c j : Nat) : Prop := CS g ∧ (1008 ≤ hsz g ∧ hI g 192 62 = i32 (-2)) ∧ CTk g b n c ∧ CTt g b n j
def CP (g : HP) (b : Int → Int) (n : Int) (c j : Nat) (S : List TS) (ts : Nat → Nat) : Prop := CQ g b n c j ∧ S.length ≤ j ∧ hI g 196 62 = i32 S.length ∧ Tbl g S ts
section
variable {g g' : HP} {b : Int → Int} {n : Int} {c j m : Nat} {S : List TS} {ts : Nat → Nat} {l : List Nat}
theorem Tbl.co (C : CS g) (T : Tbl g S ts) (p : Co m l g g') (q : (l.contains 384 || l.contains 388 || l.contains 389 || l.contains 1105 || l.contains 1106 || l.contains 1107 || l.contains 1108) = false) (q2 : ∀ x, 1008 ≤ x → l.contains (5000 + x) = false) : Tbl g' S ts := by
  simp only [Bool.or_eq_false_iff] at q
  obtain ⟨⟨⟨⟨⟨⟨r1, r2⟩, r3⟩, r4⟩, r5⟩, r6⟩, r7⟩ := q
  intro k x hk
  obtain ⟨a1, a2, a3, a4, a5, a6, a7, a8, a9⟩ := T k x hk
  have z := isO_lt a3
  have w := q2 _ a2
  refine ⟨?_, a2, isO_sk p.sk a3, ?_, ?_, ?_, ?_, ?_, ?_⟩
  · rw [p.Q (sz_le C (by decide)) r4]; exact a1
  · rw [p.I z r1 w]; exact a4
  · rw [p.I z r2 w]; exact a5
  · rw [p.I z r3 w]; exact a6
  · rw [p.L (sz_le C (by decide)) r5]; exact a7
  · rw [p.A (sz_le C (by decide)) r6]; exact a8
  · rw [p.A (sz_le C (by decide)) r7]; exact a9
theorem CQ.cs (P : CQ g b n c j) : CS g := P.1
theorem CQ.sz (P : CQ g b n c j) : 1008 ≤ hsz g := P.2.1.1
theorem CQ.er (P : CQ g b n c j) : hI g 192 62 = i32 (-2) := P.2.1.2
theorem CQ.k (P : CQ g b n c j) : hI g 448 99 = i32 (tkk (tkn b n j)) := P.2.2.2.2.1
theorem CQ.s (P : CQ g b n c j) : hI g 449 99 = i32 (tks (tkn b n j)) := P.2.2.2.2.2.1
theorem CQ.v (P : CQ g b n c j) (h : tkk (tkn b n j) ≠ 1) (h2 : tkk (tkn b n j) ≠ 0) : hJ g 450 99 = i64 (cvt (tkn b n j)) := P.2.2.2.2.2.2 h h2
/-- a step of the tokens -/
theorem CQ.step (n0 : 0 ≤ n) (n1 : n ≤ 1200) (P : CQ g b n c j) (j1 : j < 90000) : ∃ g', fX7_step 99 g = some g' ∧ Co 0 [448, 449, 450, 451] g g' ∧ CQ g' b n c (j + 1) := by
  obtain ⟨p1, p2, p3, p4⟩ := P
  obtain ⟨g', e, q, t⟩ := step_s p1 n0 n1 p3 (j := j) (by omega) (by omega) p4.1
  rw [show ((j : Int) + 1).toNat = j + 1 by omega] at t
  exact ⟨g', e, q, p1.sk q.sk, ⟨Nat.le_trans p2.1 q.sk.1, by rw [q.I (sz_le p1 (by decide)) (by decide) (by decide)]; exact p2.2⟩, p3.co p1 q (by decide), t⟩
theorem tk_nb {x : Nat} (h : 1008 ≤ x) : ([448, 449, 450, 451] : List Nat).contains (5000 + x) = false := by simp; omega
theorem CP.mv (P : CP g b n c j S ts) (q : Co 0 [448, 449, 450, 451] g g') (Q : CQ g' b n c (j + 1)) : CP g' b n c (j + 1) S ts :=
  ⟨Q, by have := P.2.1; omega, by rw [q.I (sz_le P.1.cs (by decide)) (by decide) (by decide)]; exact P.2.2.1, P.2.2.2.co P.1.cs q (by decide) (fun x hx => tk_nb hx)⟩
theorem CP.le (P : CP g b n c j S ts) : S.length ≤ j := P.2.1
theorem CP.ln (P : CP g b n c j S ts) : hI g 196 62 = i32 S.length := P.2.2.1
/-- where a token stands, the number of tokens that went ahead is bounded -/
theorem CQ.jn (P : CQ g b n c j) (n0 : 0 ≤ n) (h : tkk (tkn b n j) ≠ 0) : j < c ∧ (c : Int) ≤ n := by
  have t := P.2.2.1
  refine ⟨?_, t.1⟩
  apply Classical.byContradiction
  intro z
  have e := tkn_end n0 t.2.2.2.2 (j - c)
  rw [show c + (j - c) = j by omega] at e
  exact h e.1
/-- what a failure tells -/
theorem fail_s (P : CQ g b n c j) : ∃ g', fX3_fail 62 g = some (false, g') ∧ Co 0 [192] g g' ∧ hI g' 192 62 = i32 (tks (tkn b n j)) := by
  unfold fX3_fail
  simp only [P.cs.o_parser, P.cs.r_tokens, P.cs.o_tokens, gd_tt, oc_s, lt_e]
  exact ⟨_, rfl, Co_I (by decide) _, by rw [rII, if_pos ⟨rfl, rfl⟩]; exact P.s⟩
theorem CQ.co (P : CQ g b n c j) (p : Co m l g g') (q : (l.contains 452 || l.contains 453 || l.contains 1100 || l.contains 1101 || l.contains 1103 || l.contains 5099 || l.contains 448 || l.contains 449 || l.contains 450 || l.contains 451 || l.contains 192 || l.contains 5062) = false) : CQ g' b n c j := by
  simp only [Bool.or_eq_false_iff] at q
  obtain ⟨p1, p2, p3, p4⟩ := P
  obtain ⟨⟨q, q7⟩, q8⟩ := q
  exact ⟨p1.sk p.sk, ⟨Nat.le_trans p2.1 p.sk.1, by rw [p.I (sz_le p1 (by decide)) q7 q8]; exact p2.2⟩, p3.co p1 p (by simp only [Bool.or_eq_false_iff]; exact q.1.1.1.1), p4.co p1 p (by simp only [Bool.or_eq_false_iff]; exact ⟨⟨⟨⟨q.1.1.1.2, q.1.1.2⟩, q.1.2⟩, q.2⟩, q.1.1.1.1.2⟩)⟩
theorem CP.co (P : CP g b n c j S ts) (p : Co m l g g') (q : (l.contains 452 || l.contains 453 || l.contains 1100 || l.contains 1101 || l.contains 1103 || l.contains 5099 || l.contains 448 || l.contains 449 || l.contains 450 || l.contains 451 || l.contains 192 || l.contains 5062) = false) (r : (l.contains 196 || l.contains 5062 || l.contains 384 || l.contains 388 || l.contains 389 || l.contains 1105 || l.contains 1106 || l.contains 1107 || l.contains 1108) = false) (q2 : ∀ x, 1008 ≤ x → l.contains (5000 + x) = false) : CP g' b n c j S ts := by
  simp only [Bool.or_eq_false_iff] at r
  obtain ⟨p1, p5, p6, p7⟩ := P
  refine ⟨p1.co p q, p5, ?_, p7.co p1.cs p (by simp only [Bool.or_eq_false_iff]; exact ⟨⟨⟨⟨⟨⟨r.1.1.1.1.1.1.2, r.1.1.1.1.1.2⟩, r.1.1.1.1.2⟩, r.1.1.1.2⟩, r.1.1.2⟩, r.1.2⟩, r.2⟩) q2⟩
  rw [p.I (sz_le p1.cs (by decide)) r.1.1.1.1.1.1.1.1 r.1.1.1.1.1.1.1.2]; exact p6
end
/-- what stays where fresh cells are written -/
theorem Co.fr {m : Nat} {l : List Nat} {h g g' : HP} (p : Co m l h g) (s1 : Sk g g') (s2 : hsz g' = hsz g) (s3 : hsl g' = hsl g) (w : ∀ x, x < hsz h → (∀ f, hI g' f x = hI g f x ∧ hJ g' f x = hJ g f x ∧ hR g' f x = hR g f x) ∧ hA g' x = hA g x ∧ hL g' x = hL g x ∧ hQ g' x = hQ g x) : Co m l h g' := by
  obtain ⟨p1, p2, p3, p4, p5⟩ := p
  refine ⟨p1.trans s1, by omega, by omega, fun x hx f a b => ?_, fun x hx a => ?_⟩
  · obtain ⟨u, _⟩ := w x hx
    obtain ⟨u1, u2, u3⟩ := u f
    obtain ⟨v1, v2, v3⟩ := p4 x hx f a b
    exact ⟨u1.trans v1, u2.trans v2, u3.trans v3⟩
  · obtain ⟨_, u1, u2, u3⟩ := w x hx
    obtain ⟨v1, v2, v3⟩ := p5 x hx a
    exact ⟨u1.trans v1, u2.trans v2, u3.trans v3⟩
theorem Co.fI {m : Nat} {l : List Nat} {h g : HP} (p : Co m l h g) {f a : Nat} (ha : hsz h ≤ a) (v : Int32) : Co m l h (sI g f a v) :=
  p.fr (sk_sI rfl) rfl rfl fun x hx => ⟨fun u => ⟨by rw [rII, if_neg (by omega)], rfl, rfl⟩, rfl, rfl, rfl⟩
theorem Co.fR {m : Nat} {l : List Nat} {h g : HP} (p : Co m l h g) {f a : Nat} (ha : hsz h ≤ a) (w : f = 135 ∨ f = 385 ∨ f = 386) (v : Option Nat) : Co m l h (sR g f a v) :=
  p.fr (sk_sR rfl w) rfl rfl fun x hx => ⟨fun u => ⟨rfl, rfl, by rw [rRR, if_neg (by omega)]⟩, rfl, rfl, rfl⟩

theorem tk_val {b : Int → Int} {n : Int} (n0 : 0 ≤ n) (j : Nat) : (tkk (tkn b n j) = 3 → 0 ≤ tkv (tkn b n j) ∧ tkv (tkn b n j) ≤ 9999) ∧ ((tkk (tkn b n j) = 2 ∨ (4 ≤ tkk (tkn b n j) ∧ tkk (tkn b n j) ≤ 13)) → NV (tkv (tkn b n j)) ∧ kwk (tkv (tkn b n j)) = tkk (tkn b n j)) ∧ (tkk (tkn b n j) = 0 ∨ tkk (tkn b n j) = 1 ∨ tkk (tkn b n j) = 2 ∨ tkk (tkn b n j) = 3 ∨ (4 ≤ tkk (tkn b n j) ∧ tkk (tkn b n j) ≤ 13) ∨ (13 < tkk (tkn b n j) ∧ tkk (tkn b n j) < 128 ∧ tkv (tkn b n j) = tkk (tkn b n j))) := by
  have tS := tkn_S b n j
  have r := tkn_rng (b := b) n0 j
  generalize tks (tkn b n j) = s at *
  rw [tS] at r ⊢
  clear tS
  by_cases lt : s < n
  · rcases tokS_case (b := b) lt with ⟨c, e, _, es, en, al, q⟩ | ⟨c, e, es, en, al, q⟩ | ⟨c, q⟩ | ⟨c, q⟩
    · rcases q with ⟨q1, q⟩ | ⟨q1, q⟩
      · rw [q]
        exact ⟨fun z => absurd z (by simp only [tkk]; omega), fun z => absurd z (by simp only [tkk]; omega), Or.inr (Or.inl rfl)⟩
      · have nv := wv_NV (b := b) (s := s) (k := (e - s).toNat) (by omega) (by omega) (fun i i0 i1 => al i i0 (by omega))
        have kr := kwk_rng (wv b s (e - s).toNat)
        rw [q]
        exact ⟨fun z => absurd z (by simp only [tkk]; omega), fun _ => ⟨nv, rfl⟩, by simp only [tkk]; omega⟩
    · rcases q with ⟨q1, q⟩ | ⟨q1, q⟩
      · rw [q]
        exact ⟨fun z => absurd z (by simp only [tkk]; omega), fun z => absurd z (by simp only [tkk]; omega), Or.inr (Or.inl rfl)⟩
      · have dr := dv_rng (b := b) (s := s) (e - s).toNat (fun i i0 i1 => al i i0 (by omega)) (by omega)
        have p := p10_le (show (e - s).toNat ≤ 4 by omega)
        rw [q]
        exact ⟨fun _ => ⟨dr.1, by simp only [tkv]; omega⟩, fun z => absurd z (by simp only [tkk]; omega), Or.inr (Or.inr (Or.inr (Or.inl rfl)))⟩
    · rw [q]
      by_cases w : sgn (b s) = true
      · rw [if_pos w]
        simp only [sgn, decide_eq_true_eq] at w
        exact ⟨fun z => absurd z (by simp only [tkk]; omega), fun z => absurd z (by simp only [tkk]; omega), Or.inr (Or.inr (Or.inr (Or.inr (Or.inr ⟨by simp only [tkk]; omega, by simp only [tkk]; omega, rfl⟩))))⟩
      · rw [if_neg w]
        exact ⟨fun z => absurd z (by simp only [tkk]; omega), fun z => absurd z (by simp only [tkk]; omega), Or.inr (Or.inl rfl)⟩
    · rw [q]
      exact ⟨fun z => absurd z (by simp only [tkk]; omega), fun z => absurd z (by simp only [tkk]; omega), Or.inr (Or.inl rfl)⟩
  · have : tokS b n s = (0, s, 0, s) := by unfold tokS; rw [if_pos (by omega)]
    rw [this]
    exact ⟨fun z => absurd z (by simp only [tkk]; omega), fun z => absurd z (by simp only [tkk]; omega), Or.inl rfl⟩
/-- an INT is taken, or the token is wrong -/
theorem ctakeInt {g : HP} {b : Int → Int} {n : Int} {c j : Nat} (n0 : 0 ≤ n) (n1 : n ≤ 1200) (P : CQ g b n c j) (j1 : j < 90000) {lo hi : Int} (l0 : 0 ≤ lo) (l1 : lo < 100000) (h0 : 0 ≤ hi) (h1 : hi < 100000) : (tkk (tkn b n j) = 3 ∧ lo ≤ tkv (tkn b n j) ∧ tkv (tkn b n j) ≤ hi ∧ ∃ g', fX3_takeInt 62 (i32 lo) (i32 hi) g = some (i32 (tkv (tkn b n j)), g') ∧ Co 0 [448, 449, 450, 451] g g' ∧ CQ g' b n c (j + 1)) ∨ (¬ (tkk (tkn b n j) = 3 ∧ lo ≤ tkv (tkn b n j) ∧ tkv (tkn b n j) ≤ hi) ∧ ∃ g', fX3_takeInt 62 (i32 lo) (i32 hi) g = some (i32 (-1), g') ∧ Co 0 [192] g g' ∧ hI g' 192 62 = i32 (tks (tkn b n j))) := by
  have tv := tk_val (b := b) n0 j
  obtain ⟨gf, f1, f2, f3⟩ := fail_s P
  obtain ⟨gs, s1, s2, s3⟩ := P.step n0 n1 j1
  have tr : 0 ≤ tkk (tkn b n j) ∧ tkk (tkn b n j) < 128 := by omega
  unfold fX3_takeInt jX3_takeInt_33
  simp (disch := omega) only [P.cs.o_parser, P.cs.r_tokens, P.cs.o_tokens, gd_tt, oc_s, lt_e, P.k, i32_eq, f1, bn2_s, i32_64]
  by_cases c3 : tkk (tkn b n j) = 3
  · rw [if_pos c3]
    have v := P.v (by omega) (by omega)
    have ev : cvt (tkn b n j) = tkv (tkn b n j) := by unfold cvt; rw [if_neg (by omega)]
    have vr := tv.1 c3
    rw [ev] at v
    simp (disch := omega) only [v, i64_lt, i64_le, i64_32, s1, bn_s]
    by_cases c4 : tkv (tkn b n j) < lo
    · rw [if_pos c4]
      exact Or.inr ⟨by omega, gf, rfl, f2, f3⟩
    · rw [if_neg c4]
      by_cases c5 : tkv (tkn b n j) ≤ hi
      · rw [if_pos c5]
        exact Or.inl ⟨c3, by omega, c5, gs, rfl, s2, s3⟩
      · rw [if_neg c5]
        exact Or.inr ⟨by omega, gf, rfl, f2, f3⟩
  · rw [if_neg c3]
    exact Or.inr ⟨by omega, gf, rfl, f2, f3⟩
/-- a token is taken, or wrong -/
theorem ctake {g : HP} {b : Int → Int} {n : Int} {c j : Nat} (n0 : 0 ≤ n) (n1 : n ≤ 1200) (P : CQ g b n c j) (j1 : j < 90000) {k : Int} (k0 : 0 ≤ k) (k1 : k < 128) : (tkk (tkn b n j) = k ∧ ∃ g', fX3_take 62 (i32 k) g = some (true, g') ∧ Co 0 [448, 449, 450, 451] g g' ∧ CQ g' b n c (j + 1)) ∨ (tkk (tkn b n j) ≠ k ∧ ∃ g', fX3_take 62 (i32 k) g = some (false, g') ∧ Co 0 [192] g g' ∧ hI g' 192 62 = i32 (tks (tkn b n j))) := by
  have tv := tk_val (b := b) n0 j
  obtain ⟨gf, f1, f2, f3⟩ := fail_s P
  obtain ⟨gs, s1, s2, s3⟩ := P.step n0 n1 j1
  have tr : 0 ≤ tkk (tkn b n j) ∧ tkk (tkn b n j) < 128 := by omega
  unfold fX3_take
  simp (disch := omega) only [P.cs.o_parser, P.cs.r_tokens, P.cs.o_tokens, gd_tt, oc_s, P.k, i32_eq, f1, s1, bn_s, bn2_s]
  by_cases c3 : tkk (tkn b n j) = k
  · rw [if_pos c3]; exact Or.inl ⟨c3, gs, rfl, s2, s3⟩
  · rw [if_neg c3]; exact Or.inr ⟨c3, gf, rfl, f2, f3⟩
/-- a leaf is the term of a test of the table -/
def lfT (ts : Nat → Nat) (m : Nat) (t : Nat) (e : Int) : Prop := ∃ k : Nat, k < m ∧ e = 4 + (k : Int) ∧ ts k = t
def opI (o : Nat) : Int := (o : Int)
/-- what reading a piece gives -/
def PoT (b : Int → Int) (n : Int) (c : Nat) (dq : Nat) (g : HP) (j : Nat) (S : List TS) (ts : Nat → Nat) (P : PR) (r : Option Nat) (g' : HP) : Prop :=
  j ≤ P.2.1 ∧ Co (P.2.1 - j) lpP g g' ∧ (P.1 = true → (j < P.2.1 ∧ P.2.1 ≤ c) ∧ ∃ t ts', r = some t ∧ CP g' b n c P.2.1 P.2.2.1 ts' ∧ (∀ k, k < S.length → ts' k = ts k) ∧ S.length ≤ P.2.2.1.length ∧ IsT g' (lfT ts' P.2.2.1.length) opI dq (hsz g) (hsz g') t P.2.2.2 ∧ hR g' 386 t = none) ∧ (P.1 = false → r = none ∧ hI g' 192 62 = i32 (tks (tkn b n P.2.1)))

