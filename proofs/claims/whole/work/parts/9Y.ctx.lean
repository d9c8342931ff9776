/-! THE TEXT OF A CONDITION -/
section
variable {F : Int → Int}
/-- a test, with a space ahead of each of its tokens -/
def tsT (F : Int → Int) (e : Int32) : List Int := (32 :: nmT (F (32 + dcF e))) ++ (if dcS e = 0 then [] else 32 :: sby (dcS e) :: 32 :: dgT (dcV e))
def prn (t : List Int) : List Int := [32, 40] ++ t ++ [32, 41]
/-- in parentheses where they are needed: 1 in an and, 2 behind a not -/
def wrp (wh : Int) (p : List Int × Int) : List Int := if (wh = 2 ∧ (p.2 = 1 ∨ p.2 = 2)) ∨ (wh = 1 ∧ p.2 = 2) then prn p.1 else p.1
/-- two parts joined: 1 and, 2 or -/
def jnT (o : Nat) (a b : List Int × Int) : List Int × Int := (wrp (if o = 1 then 1 else 0) a ++ ((32 :: nmT (if o = 1 then 1476 else 498)) ++ wrp (if o = 1 then 1 else 0) b), o)
def ngT (a : List Int × Int) : List Int × Int := ((32 :: nmT 14836) ++ wrp 2 a, 3)
def stT (F : Int → Int) (st : List (List Int × Int)) (t : Int32) : List (List Int × Int) := if tT t = true then (tsT F t, 0) :: st else if t = i32 3 then (match st with | a :: r => ngT a :: r | [] => []) else (match st with | b :: a :: r => jnT (if t = i32 1 then 1 else 2) a b :: r | l => l)
def rpT (F : Int → Int) (L : List Int32) (st : List (List Int × Int)) : List (List Int × Int) := L.foldl (stT F) st
def txc (F : Int → Int) (L : List Int32) : List Int × Int := (rpT F L []).headD ([], 0)
theorem rpT_app (L L' : List Int32) (st : List (List Int × Int)) : rpT F (L ++ L') st = rpT F L' (rpT F L st) := by unfold rpT; exact List.foldl_append
theorem rpT_one (t : Int32) (st : List (List Int × Int)) : rpT F [t] st = stT F st t := rfl
theorem stT_op {o : Nat} (ho : o = 1 ∨ o = 2) (a b : List Int × Int) (st : List (List Int × Int)) : stT F (b :: a :: st) (opM o) = jnT o a b :: st := by
  rcases ho with rfl | rfl
  · unfold stT
    rw [if_neg (by decide), if_neg (by decide)]
    show jnT (if opM 1 = i32 1 then 1 else 2) a b :: st = _
    rw [if_pos (by decide)]
  · unfold stT
    rw [if_neg (by decide), if_neg (by decide)]
    show jnT (if opM 2 = i32 1 then 1 else 2) a b :: st = _
    rw [if_neg (by decide)]
theorem stT_not (a : List Int × Int) (st : List (List Int × Int)) : stT F (a :: st) (opM 3) = ngT a :: st := by
  unfold stT
  rw [if_neg (by decide), if_pos (by decide)]
theorem txc_of {L : List Int32} {b : List Int × Int} (e : ∀ st, rpT F L st = b :: st) : txc F L = b := by unfold txc; rw [e]; rfl
/-- the parts behind the first -/
def tlT (o : Nat) : List (List Int × Int) → List Int
  | [] => []
  | b :: bs => ((32 :: nmT (if o = 1 then 1476 else 498)) ++ wrp (if o = 1 then 1 else 0) b) ++ tlT o bs
theorem wrp_own {o : Nat} (ho : o = 1 ∨ o = 2) (t : List Int) : wrp (if o = 1 then 1 else 0) (t, (o : Int)) = t := by
  unfold wrp
  rw [if_neg]
  rcases ho with rfl | rfl
  · rw [if_pos rfl]; simp
  · rw [if_neg (by decide)]; simp
theorem fold_jn {o : Nat} (ho : o = 1 ∨ o = 2) : ∀ (bs : List (List Int × Int)) (t : List Int), bs.foldl (jnT o) (t, (o : Int)) = (t ++ tlT o bs, (o : Int)) := by
  intro bs
  induction bs with
  | nil => intro t; simp only [List.foldl_nil, tlT, List.append_nil]
  | cons b bs ih =>
    intro t
    rw [List.foldl_cons]
    show List.foldl (jnT o) (jnT o (t, (o : Int)) b) bs = _
    have e : jnT o (t, (o : Int)) b = (t ++ ((32 :: nmT (if o = 1 then 1476 else 498)) ++ wrp (if o = 1 then 1 else 0) b), (o : Int)) := by
      unfold jnT
      rw [wrp_own ho]
    rw [e, ih]
    simp only [tlT]
    rw [List.append_assoc]
theorem fold_jn0 {o : Nat} (ho : o = 1 ∨ o = 2) (a : List Int × Int) {bs : List (List Int × Int)} (nb : bs ≠ []) : bs.foldl (jnT o) a = (wrp (if o = 1 then 1 else 0) a ++ tlT o bs, (o : Int)) := by
  cases bs with
  | nil => exact absurd rfl nb
  | cons b bs =>
    rw [List.foldl_cons]
    have e : jnT o a b = (wrp (if o = 1 then 1 else 0) a ++ ((32 :: nmT (if o = 1 then 1476 else 498)) ++ wrp (if o = 1 then 1 else 0) b), (o : Int)) := rfl
    rw [e, fold_jn ho]
    simp only [tlT]
    rw [List.append_assoc]
def knd (s : Int) : Int := if s = 0 then 2 else if s = 1 then 12 else if s = 2 then 11 else 13
theorem rpT_chn {h : HP} {lf : Nat → Int32 → Prop} {d hi o : Nat} (ho : o = 1 ∨ o = 2) (ih : ∀ (lo hi t : Nat) (L : List Int32), IsT h lf opM d lo hi t L → ∀ st, rpT F L st = txc F L :: st) : ∀ (Q : List (Nat × List Int32)) (lo : Nat) (r : Option Nat), Chn h (IsT h lf opM d) hi lo r Q → ∀ a st, rpT F (fl (opM o) Q) (a :: st) = ((Q.map fun p => txc F p.2).foldl (jnT o) a) :: st := by
  intro Q
  induction Q with
  | nil => intro _ _ _ a st; rfl
  | cons p Q ihq =>
    intro lo r c a st
    obtain ⟨l, m, c1, c2, c3, c4, c5, c6, c7⟩ := c
    rw [fl_cons, rpT_app, rpT_app, ih _ _ _ _ c6, rpT_one, stT_op ho, ihq m _ c7]
    rfl
theorem IsT_txc {h : HP} {lf : Nat → Int32 → Prop} (hlf : ∀ t e, lf t e → tT e = true) : ∀ (d lo hi t : Nat) (L : List Int32), IsT h lf opM d lo hi t L → (∀ st, rpT F L st = txc F L :: st) ∧ hI h 384 t = i32 (knd (txc F L).2) ∧ 0 ≤ (txc F L).2 ∧ (txc F L).2 ≤ 3 := by
  intro d
  induction d with
  | zero => intro lo hi t L z; exact z.elim
  | succ d ih =>
    intro lo hi t L z
    obtain ⟨z1, z2, z3, z4⟩ := z
    have key : ∃ b, (∀ st, rpT F L st = b :: st) ∧ hI h 384 t = i32 (knd b.2) ∧ 0 ≤ b.2 ∧ b.2 ≤ 3 := by
      rcases z4 with ⟨k, e, rfl, w⟩ | ⟨k, f, L', _, _, w, rfl⟩ | ⟨o, ho, f, L0, Q, _, w, nq, c, rfl⟩
      · exact ⟨(tsT F e, 0), fun st => by rw [rpT_one]; unfold stT; rw [if_pos (hlf _ _ w)], k, Int.le_refl 0, by show (0 : Int) ≤ 3; omega⟩
      · exact ⟨ngT (txc F L'), fun st => by rw [rpT_app, (ih _ _ _ _ w).1, rpT_one, stT_not], k, by show (0 : Int) ≤ 3; omega, Int.le_refl 3⟩
      · have ho' : o = 1 ∨ o = 2 := by rcases ho with x | x; exact Or.inl x.1; exact Or.inr x.1
        have nm : (Q.map fun p => txc F p.2) ≠ [] := fun z => nq (List.map_eq_nil_iff.mp z)
        refine ⟨(Q.map fun p => txc F p.2).foldl (jnT o) (txc F L0), fun st => by rw [rpT_app, (ih _ _ _ _ w).1, rpT_chn ho' (fun a b c d e => (ih a b c d e).1) Q _ _ c], ?_, ?_, ?_⟩
        · rw [fold_jn0 ho' _ nm]
          rcases ho with x | x
          · rw [x.2, x.1]; rfl
          · rw [x.2, x.1]; rfl
        · rw [fold_jn0 ho' _ nm]
          show 0 ≤ (o : Int)
          omega
        · rw [fold_jn0 ho' _ nm]
          show (o : Int) ≤ 3
          omega
    obtain ⟨b, e, r⟩ := key
    rw [txc_of e]; exact ⟨e, r⟩
theorem wrp_len (wh : Int) (p : List Int × Int) : (wrp wh p).length ≤ p.1.length + 4 := by
  unfold wrp
  split
  · unfold prn; simp only [List.length_append, List.length_cons, List.length_nil]; omega
  · omega
theorem kwl : (nmT 14836).length = 3 ∧ (nmT 1476).length = 3 ∧ (nmT 498).length = 2 := by decide +kernel
theorem kw3 (o : Nat) : (nmT (if o = 1 then 1476 else 498)).length ≤ 3 := by
  have := kwl.2
  by_cases c : o = 1
  · rw [if_pos c]; omega
  · rw [if_neg c]; omega
theorem tsT_len (e : Int32) : (tsT F e).length ≤ 20 := by
  unfold tsT
  have a := nl_le (F (32 + dcF e))
  have b := dgn_4 (dcV e)
  rw [List.length_append, List.length_cons, nmT_len]
  split
  · simp only [List.length_nil]; omega
  · simp only [List.length_cons, dgT_len]; omega
/-- all entries of the stack of texts are short -/
theorem rpT_len : ∀ (L : List Int32) (st : List (List Int × Int)), ((rpT F L st).map fun p => p.1.length).sum ≤ (st.map fun p => p.1.length).sum + 20 * L.length := by
  intro L
  induction L with
  | nil => intro st; exact Nat.le_refl _
  | cons t L ih =>
    intro st
    have a := ih (stT F st t)
    have e : rpT F (t :: L) st = rpT F L (stT F st t) := rfl
    have s : ((stT F st t).map fun p => p.1.length).sum ≤ (st.map fun p => p.1.length).sum + 20 := by
      unfold stT
      by_cases c : tT t = true
      · rw [if_pos c, List.map_cons, List.sum_cons]
        have := tsT_len (F := F) t
        show (tsT F t).length + _ ≤ _
        omega
      · rw [if_neg c]
        by_cases c3 : t = i32 3
        · rw [if_pos c3]
          match st with
          | [] => simp
          | x :: r =>
            simp only [List.map_cons, List.sum_cons]
            have e1 : (ngT x).1.length ≤ x.1.length + 8 := by
              unfold ngT
              simp only [List.length_append, List.length_cons]
              have := wrp_len 2 x
              have := kwl.1
              omega
            omega
        · rw [if_neg c3]
          match st with
          | [] => simp
          | [x] => simp
          | y :: x :: r =>
            simp only [List.map_cons, List.sum_cons]
            have e1 : (jnT (if t = i32 1 then 1 else 2) x y).1.length ≤ x.1.length + y.1.length + 12 := by
              unfold jnT
              simp only [List.length_append, List.length_cons]
              have := wrp_len (if (if t = i32 1 then 1 else 2) = 1 then 1 else 0) x
              have := wrp_len (if (if t = i32 1 then 1 else 2) = 1 then 1 else 0) y
              have q := kw3 (if t = i32 1 then 1 else 2)
              omega
            omega
    rw [e, List.length_cons]
    omega
theorem txc_len {L : List Int32} (e : ∀ st, rpT F L st = txc F L :: st) : (txc F L).1.length ≤ 20 * L.length := by
  have a := rpT_len (F := F) L []
  rw [e [], List.map_cons, List.map_nil, List.sum_cons, List.sum_nil] at a
  omega
end

