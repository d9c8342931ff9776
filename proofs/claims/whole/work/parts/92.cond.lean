/-! WHAT A CONDITION SAYS -/
/-- a test by what is in force -/
def tsb (φ : Int → Int) (f s v : Int) : Bool := decide (0 ≤ φ f) && (if s = 0 then decide (φ f ≠ 0) else if s = 1 then decide (φ f = v) else if s = 2 then decide (φ f < v) else decide (v < φ f))
def dcF (t : Int32) : Int := t.toInt / 32 % 32
def dcS (t : Int32) : Int := t.toInt / 8 % 4
def dcV (t : Int32) : Int := t.toInt / 1024
def tkB (φ : Int → Int) (t : Int32) : Bool := tsb φ (dcF t) (dcS t) (dcV t)
def opb (o : Nat) (a b : Bool) : Bool := if o = 1 then a && b else a || b
/-- one token on the stack of values -/
def stp (φ : Int → Int) (st : List Bool) (t : Int32) : List Bool := if tT t = true then tkB φ t :: st else if t = i32 3 then (match st with | a :: r => (!a) :: r | [] => []) else (match st with | b :: a :: r => (if t = i32 1 then a && b else a || b) :: r | l => l)
def rpn (φ : Int → Int) (L : List Int32) (st : List Bool) : List Bool := L.foldl (stp φ) st
def rv (φ : Int → Int) (L : List Int32) : Bool := (rpn φ L []).headD true
section
variable {h g : HP} {φ : Int → Int}
theorem rpn_app (L L' : List Int32) (st : List Bool) : rpn φ (L ++ L') st = rpn φ L' (rpn φ L st) := by unfold rpn; exact List.foldl_append
theorem rpn_one (t : Int32) (st : List Bool) : rpn φ [t] st = stp φ st t := rfl
theorem dec_tcd {f s v : Int} (f0 : 0 ≤ f) (f1 : f < 24) (s0 : 0 ≤ s) (s1 : s ≤ 3) (v0 : 0 ≤ v) (v1 : v ≤ 9999) : dcF (i32 (tcd f s v)) = f ∧ dcS (i32 (tcd f s v)) = s ∧ dcV (i32 (tcd f s v)) = v := by
  have e : (i32 (tcd f s v)).toInt = 8 * s + 32 * f + 1024 * v := i32_toInt (by unfold tcd; omega) (by unfold tcd; omega)
  unfold dcF dcS dcV
  rw [e]
  refine ⟨?_, ?_, ?_⟩ <;> omega
theorem stp_op {o : Nat} (ho : o = 1 ∨ o = 2) (a b : Bool) (st : List Bool) : stp φ (b :: a :: st) (opM o) = opb o a b :: st := by
  rcases ho with rfl | rfl
  · unfold stp opb
    rw [if_neg (by decide), if_neg (by decide), if_pos rfl]
    show (if opM 1 = i32 1 then a && b else a || b) :: st = _
    rw [if_pos (by decide)]
  · unfold stp opb
    rw [if_neg (by decide), if_neg (by decide), if_neg (by decide)]
    show (if opM 2 = i32 1 then a && b else a || b) :: st = _
    rw [if_neg (by decide)]
theorem stp_not (a : Bool) (st : List Bool) : stp φ (a :: st) (opM 3) = (!a) :: st := by
  unfold stp
  rw [if_neg (by decide), if_pos (by decide)]
theorem rv_of {L : List Int32} {b : Bool} (e : ∀ st, rpn φ L st = b :: st) : rv φ L = b := by unfold rv; rw [e]; rfl
theorem Chn_len {α : Type} {R : Nat → Nat → Nat → List α → Prop} {hi : Nat} : ∀ (Q : List (Nat × List α)) (lo : Nat) (r : Option Nat), Chn h R hi lo r Q → Q = [] ∨ lo + Q.length ≤ hi := by
  intro Q
  induction Q with
  | nil => intro _ _ _; exact Or.inl rfl
  | cons p Q ih =>
    intro lo r c
    obtain ⟨l, m, c1, c2, c3, c4, c5, c6, c7⟩ := c
    right
    rw [List.length_cons]
    rcases ih m _ c7 with w | w
    · rw [w]; simp; omega
    · omega
theorem fl_cons {α : Type} (o : α) (p : Nat × List α) (Q : List (Nat × List α)) : fl o (p :: Q) = p.2 ++ [o] ++ fl o Q := by unfold fl; rw [List.map_cons, List.flatten_cons]
theorem IsT_rpn {lf : Nat → Int32 → Prop} (hlf : ∀ t e, lf t e → tT e = true) : ∀ (d lo hi t : Nat) (L : List Int32), IsT h lf opM d lo hi t L → ∀ st, rpn φ L st = rv φ L :: st := by
  intro d
  induction d with
  | zero => intro lo hi t L z; exact z.elim
  | succ d ih =>
    intro lo hi t L z
    obtain ⟨z1, z2, z3, z4⟩ := z
    have key : ∃ b, ∀ st, rpn φ L st = b :: st := by
      rcases z4 with ⟨_, e, rfl, w⟩ | ⟨_, f, L', _, _, w, rfl⟩ | ⟨o, ho, f, L0, Q, _, w, _, c, rfl⟩
      · refine ⟨tkB φ e, fun st => ?_⟩
        rw [rpn_one]; unfold stp; rw [if_pos (hlf _ _ w)]
      · refine ⟨!(rv φ L'), fun st => ?_⟩
        rw [rpn_app, ih _ _ _ _ w, rpn_one, stp_not]
      · have ho' : o = 1 ∨ o = 2 := by rcases ho with x | x; exact Or.inl x.1; exact Or.inr x.1
        have ch : ∀ (Q : List (Nat × List Int32)) (lo : Nat) (r : Option Nat), Chn h (IsT h lf opM d) hi lo r Q → ∀ b st, rpn φ (fl (opM o) Q) (b :: st) = (Q.foldl (fun b p => opb o b (rv φ p.2)) b) :: st := by
          intro Q
          induction Q with
          | nil => intro _ _ _ b st; rfl
          | cons p Q ihq =>
            intro lo r c b st
            obtain ⟨l, m, c1, c2, c3, c4, c5, c6, c7⟩ := c
            rw [fl_cons, rpn_app, rpn_app, ih _ _ _ _ c6, rpn_one, stp_op ho', ihq m _ c7]
            rfl
        exact ⟨Q.foldl (fun b p => opb o b (rv φ p.2)) (rv φ L0), fun st => by rw [rpn_app, ih _ _ _ _ w, ch Q _ _ c]⟩
    obtain ⟨b, e⟩ := key
    rw [rv_of e]; exact e
/-- the parts of a chain: the value at which it ends, or the other -/
def rsv (e : Bool) : List Bool → Bool
  | [] => !e
  | b :: bs => if b = e then e else rsv e bs
theorem rsv_or : ∀ (bs : List Bool) (b : Bool), bs.foldl (fun a c => opb 2 a c) b = rsv true (b :: bs) := by
  intro bs
  induction bs with
  | nil => intro b; cases b <;> rfl
  | cons c bs ih =>
    intro b
    rw [List.foldl_cons, ih]
    cases b <;> cases c <;> rfl
theorem rsv_and : ∀ (bs : List Bool) (b : Bool), bs.foldl (fun a c => opb 1 a c) b = rsv false (b :: bs) := by
  intro bs
  induction bs with
  | nil => intro b; cases b <;> rfl
  | cons c bs ih =>
    intro b
    rw [List.foldl_cons, ih]
    cases b <;> cases c <;> rfl
/-- the forces that the view of the class holds -/
def VW (g : HP) (φ : Int → Int) : Prop := (∀ f, 0 ≤ f → f < 24 → hA g 110 f.toNat = i32 (φ f)) ∧ ∀ f, 0 ≤ f → f < 24 → -2 ≤ φ f ∧ φ f ≤ 9999
theorem cforce (C : CS g) (v : VW g φ) {f : Int} (f0 : 0 ≤ f) (f1 : f < 24) : fX8_force 109 (i32 f) g = some (i32 (φ f)) := by
  unfold fX8_force
  rw [if_neg (by rw [i32_z, i32_lt (by omega) (by omega) (by omega) (by omega)]; omega), if_neg (by rw [i32_le (by omega) (by omega) (by omega) (by omega)]; omega), C.o_view, gd_tt, C.r_forces, oc_s, C.o_forces, gd_tt, C.n_forces, i32_inb f0 (by omega) (by omega), gd_tt, i32_cn f0 (by omega), v.1 f f0 f1]
theorem cpasses (C : CS g) (v : VW g φ) {t : Nat} {e : Int32} (o : isO g t 6 = true) (lf : lfM g t e) : fX8_passes 109 (some t) g = some (tkB φ e) := by
  obtain ⟨f, s, n, f0, f1, s0, s1, n0, n1, rfl, i1, i2, i3⟩ := lf
  obtain ⟨d1, d2, d3⟩ := dec_tcd f0 f1 s0 s1 n0 n1
  have r := v.2 f f0 f1
  unfold tkB
  rw [d1, d2, d3]
  unfold fX8_passes
  rw [oc_s, o, gd_tt, C.o_view, gd_tt, i1, cforce C v f0 f1, bn_s, i2, i3]
  by_cases c : 0 ≤ φ f
  · rw [if_pos (by rw [i32_z, i32_le (by omega) (by omega) (by omega) (by omega)]; exact c), lt_e]
    rcases (show s = 0 ∨ s = 1 ∨ s = 2 ∨ s = 3 by omega) with q | q | q | q
    · rw [q, show tsb φ f 0 n = (decide (0 ≤ φ f) && decide (φ f ≠ 0)) from rfl, decide_eq_true c, Bool.true_and, show sby 0 = 0 from rfl, if_neg (by decide), if_neg (by decide), if_neg (by decide)]
      by_cases w : φ f = 0
      · rw [if_pos (by rw [w]; rfl), decide_eq_false (fun z => z w)]
      · rw [if_neg (by rw [i32_z, i32_eq (by omega) (by omega) (by omega) (by omega)]; exact w), decide_eq_true w]
    · rw [q, show tsb φ f 1 n = (decide (0 ≤ φ f) && decide (φ f = n)) from rfl, decide_eq_true c, Bool.true_and, show sby 1 = 61 from rfl, if_neg (by decide), if_pos rfl]
      by_cases w : φ f = n
      · rw [if_pos (by rw [w]), decide_eq_true w]
      · rw [if_neg (by rw [i32_eq (by omega) (by omega) (by omega) (by omega)]; exact w), decide_eq_false w]
    · rw [q, show tsb φ f 2 n = (decide (0 ≤ φ f) && decide (φ f < n)) from rfl, decide_eq_true c, Bool.true_and, show sby 2 = 60 from rfl, if_pos rfl]
      by_cases w : φ f < n
      · rw [if_neg (by rw [i32_le (by omega) (by omega) (by omega) (by omega)]; omega), decide_eq_true w]
      · rw [if_pos (by rw [i32_le (by omega) (by omega) (by omega) (by omega)]; omega), decide_eq_false w]
    · rw [q, show tsb φ f 3 n = (decide (0 ≤ φ f) && decide (n < φ f)) from rfl, decide_eq_true c, Bool.true_and, show sby 3 = 62 from rfl, if_neg (by decide), if_neg (by decide), if_pos rfl]
      by_cases w : n < φ f
      · rw [if_neg (by rw [i32_le (by omega) (by omega) (by omega) (by omega)]; omega), decide_eq_true w]
      · rw [if_pos (by rw [i32_le (by omega) (by omega) (by omega) (by omega)]; omega), decide_eq_false w]
  · rw [if_neg (by rw [i32_z, i32_le (by omega) (by omega) (by omega) (by omega)]; exact c)]
    unfold tsb
    rw [decide_eq_false c, Bool.false_and]
/-- the class says whether a condition holds -/
theorem cholds (C : CS g) (v : VW g φ) (hlf : ∀ t e, lfM g t e → tT e = true) : ∀ (d m lo hi t : Nat) (L : List Int32) (l : Int), IsT g (lfM g) opM d lo hi t L → hi ≤ 900000 → d ≤ m → 0 ≤ l → l + d ≤ 40 → RX8_holds m (some 109) (some t) (i32 l) g = some (rv φ L) := by
  intro d
  induction d with
  | zero => intro m lo hi t L l z; exact z.elim
  | succ d ih =>
    intro m lo hi t L l z hh dm l0 l1
    have R := IsT_rpn (φ := φ) hlf (d + 1) lo hi t L z
    obtain ⟨z1, z2, z3, z4⟩ := z
    obtain ⟨m, rfl⟩ : ∃ q, m = q + 1 := ⟨m - 1, by omega⟩
    show FX8_holds (RX8_holds m) (some 109) (some t) (i32 l) g = _
    unfold FX8_holds
    rw [on_sm, if_pos (by rw [i32_le (by omega) (by omega) (by omega) (by omega)]; omega), z3, gd_tt]
    rcases z4 with ⟨k, e, rfl, w⟩ | ⟨k, f, L', r1, r2, w, rfl⟩ | ⟨o, ho, f, L0, Q, r1, w, nq, c, rfl⟩
    · have e1 : rv φ [e] = tkB φ e := rv_of (fun st => by rw [rpn_one]; unfold stp; rw [if_pos (hlf _ _ w)])
      rw [k, if_neg (by decide), if_pos rfl, oc_s, C.o_view, gd_tt, cpasses C v z3 w, bn_s, e1]
    · have w' := ih m lo t f L' (l + 1) w (by omega) (by omega) (by omega) (by omega)
      have e1 : rv φ (L' ++ [opM 3]) = !(rv φ L') := rv_of (fun st => by rw [rpn_app, IsT_rpn hlf _ _ _ _ _ w, rpn_one, stp_not])
      rw [k, if_pos rfl, r1, i32_add, w', bn_s, e1]
      cases rv φ L'
      · rw [if_neg (by decide)]; rfl
      · rw [if_pos rfl]; rfl
    · have w' := ih m lo t f L0 (l + 1) w (by omega) (by omega) (by omega) (by omega)
      -- the parts behind the first
      have loop : ∀ (e : Bool) (Q : List (Nat × List Int32)) (lo : Nat) (r : Option Nat) (n : Nat), Chn g (IsT g (lfM g) opM d) hi lo r Q → Q.length < n → lX8_holds_76 (RX8_holds m) g (fun w105 => if w105 = true then some false else some true) n (some 109) (i32 l) e r = some (rsv e (Q.map fun p => rv φ p.2)) := by
        intro e Q
        induction Q with
        | nil =>
          intro lo r n c hn
          obtain ⟨n, rfl⟩ : ∃ q, n = q + 1 := ⟨n - 1, by simp at hn; omega⟩
          have c' : r = none := c
          rw [elX8_holds_76]; unfold bX8_holds_76
          rw [c', on_nn]
          cases e <;> rfl
        | cons p Q ihq =>
          intro lo r n c hn
          obtain ⟨n, rfl⟩ : ∃ q, n = q + 1 := ⟨n - 1, by simp at hn; omega⟩
          obtain ⟨a, b, c1, c2, c3, c4, c5, c6, c7⟩ := c
          rw [elX8_holds_76]; unfold bX8_holds_76
          have c6' := c6
          have op : isO g p.1 6 = true := by
            cases d with
            | zero => exact c6'.elim
            | succ d => exact c6'.2.2.1
          rw [c1, on_sm, i32_add, ih m a b p.1 p.2 (l + 1) c6 (by omega) (by omega) (by omega) (by omega), bn_s]
          rw [List.map_cons]
          simp only [rsv]
          by_cases y : rv φ p.2 = e
          · rw [if_pos (by rw [y]), if_pos y]
          · rw [if_neg (by
              intro z
              apply y
              cases h1 : rv φ p.2 <;> cases e <;> first | rfl | (rw [h1] at z; exact absurd z (by decide))), if_neg y, op, gd_tt, lt_e]
            exact ihq b _ n c7 (by simp at hn; omega)
      have len := Chn_len Q _ _ c
      have fQ : lX8_holds_76 (RX8_holds m) g (fun w105 => if w105 = true then some false else some true) FU (some 109) (i32 l) (decide (o = 2)) (some f) = some (rsv (decide (o = 2)) (rv φ L0 :: Q.map fun p => rv φ p.2)) := by
        have of : isO g f 6 = true := by
          cases d with
          | zero => exact w.elim
          | succ d => exact w.2.2.1
        rw [show FU = 999999 + 1 from rfl, elX8_holds_76]; unfold bX8_holds_76
        rw [on_sm, i32_add, w', bn_s]
        simp only [rsv]
        by_cases y : rv φ L0 = decide (o = 2)
        · rw [if_pos (by rw [y]), if_pos y]
        · rw [if_neg (by
            intro z
            apply y
            cases h1 : rv φ L0 <;> cases h2 : decide (o = 2) <;> first | rfl | (rw [h1, h2] at z; exact absurd z (by decide))), if_neg y, of, gd_tt, lt_e]
          refine loop _ Q _ _ _ c ?_
          rcases len with q | q
          · exact absurd q nq
          · omega
      have val : rv φ (L0 ++ fl (opM o) Q) = rsv (decide (o = 2)) (rv φ L0 :: Q.map fun p => rv φ p.2) := by
        have fold : ∀ b, Q.foldl (fun b p => opb o b (rv φ p.2)) b = (Q.map fun p => rv φ p.2).foldl (fun a c => opb o a c) b := fun b => by rw [List.foldl_map]
        have ho' : o = 1 ∨ o = 2 := by rcases ho with x | x; exact Or.inl x.1; exact Or.inr x.1
        have ch : ∀ (Q : List (Nat × List Int32)) (lo : Nat) (r : Option Nat), Chn g (IsT g (lfM g) opM d) hi lo r Q → ∀ b st, rpn φ (fl (opM o) Q) (b :: st) = (Q.foldl (fun b p => opb o b (rv φ p.2)) b) :: st := by
          intro Q
          induction Q with
          | nil => intro _ _ _ b st; rfl
          | cons p Q ihq =>
            intro lo r c b st
            obtain ⟨l, m, c1, c2, c3, c4, c5, c6, c7⟩ := c
            rw [fl_cons, rpn_app, rpn_app, IsT_rpn hlf _ _ _ _ _ c6, rpn_one, stp_op ho', ihq m _ c7]
            rfl
        rw [rv_of (b := Q.foldl (fun b p => opb o b (rv φ p.2)) (rv φ L0)) (fun st => by rw [rpn_app, IsT_rpn hlf _ _ _ _ _ w, ch Q _ _ c]), fold]
        rcases ho' with x | x
        · rw [x]; exact rsv_and _ _
        · rw [x]; exact rsv_or _ _
      rcases ho with ⟨x, k⟩ | ⟨x, k⟩
      · rw [k, if_neg (by decide), if_neg (by decide), if_neg (by decide)]
        unfold jX8_holds_69
        rw [oc_s, z3, gd_tt, r1, lt_e, val]
        rw [show decide (o = 2) = false from decide_eq_false (by omega)] at fQ ⊢
        exact fQ
      · rw [k, if_neg (by decide), if_neg (by decide), if_pos rfl]
        unfold jX8_holds_69
        rw [oc_s, z3, gd_tt, r1, lt_e, val]
        rw [show decide (o = 2) = true from decide_eq_true x] at fQ ⊢
        exact fQ
end

