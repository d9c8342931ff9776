/-! WHAT IS SHOWN -/
section
variable {F : Int → Int} {Cn : Int → List Int32} {A φ ψ : Int → Int}
/-- all conditions of a chain -/
def sho (F : Int → Int) (c : Int → Bool) : Nat → Int → Bool
  | 0, _ => true
  | k + 1, n => if 0 ≤ n then c n && sho F c k (F n) else true
def cnd (φ : Int → Int) (Cn : Int → List Int32) (n : Int) : Bool := rv φ (Cn n)
/-- what is in force of a field -/
def fvl (F A : Int → Int) (s : Bool) (f : Int) : Int := if s = true ∧ A f ≠ -2 ∧ F (96 + f) ≤ A f ∧ A f ≤ F (128 + f) then A f else -2
/-- all forces fit together -/
def SOL (F : Int → Int) (Cn : Int → List Int32) (A φ : Int → Int) : Prop := ∀ f, 0 ≤ f → f < 24 → (F f ≠ -1 → φ f = fvl F A (sho F (cnd φ Cn) 9 f) f) ∧ (F f = -1 → φ f = -2)
theorem stp_congr {t : Int32} (h : tT t = true → φ (dcF t) = ψ (dcF t)) (st : List Bool) : stp φ st t = stp ψ st t := by
  unfold stp
  by_cases c : tT t = true
  · rw [if_pos c, if_pos c]
    unfold tkB tsb
    rw [h c]
  · rw [if_neg c, if_neg c]
theorem rpn_congr : ∀ (L : List Int32) (st : List Bool), (∀ t ∈ L, tT t = true → φ (dcF t) = ψ (dcF t)) → rpn φ L st = rpn ψ L st := by
  intro L
  induction L with
  | nil => intro st _; rfl
  | cons t L ih =>
    intro st h
    show rpn φ L (stp φ st t) = rpn ψ L (stp ψ st t)
    rw [stp_congr (h t (List.mem_cons_self)) st]
    exact ih _ (fun u hu => h u (List.mem_cons_of_mem _ hu))
theorem sho_congr {c c' : Int → Bool} : ∀ (k : Nat) (n : Int), (∀ m, 0 ≤ m → isin F k n m = true → c m = c' m) → sho F c k n = sho F c' k n := by
  intro k
  induction k with
  | zero => intro n _; rfl
  | succ k ih =>
    intro n h
    simp only [sho]
    by_cases n0 : 0 ≤ n
    · rw [if_pos n0, if_pos n0, h n n0 (by simp only [isin]; rw [if_neg (by omega)]; exact beq_self_eq_true n)]
      rw [ih (F n) (fun m m0 hm => h m m0 (by
        simp only [isin]
        by_cases q : n = m
        · rw [if_neg (by omega), q]; exact beq_self_eq_true m
        · rw [if_pos ⟨n0, q⟩]; exact hm))]
    · rw [if_neg n0, if_neg n0]
/-- what a field's conditions say is told by the fields it needs -/
theorem shoN (t : TR F) (tk : ∀ n, 0 ≤ n → n < 32 → F n ≠ -1 → ∀ u ∈ Cn n, tkOk F u) {f : Int} (f0 : 0 ≤ f) (f1 : f < 24) (p : F f ≠ -1) (h : ∀ g, 0 ≤ g → g < 24 → bt (NE F (fun n => RlL (Cn n)) f) g = true → φ g = ψ g) : sho F (cnd φ Cn) 9 f = sho F (cnd ψ Cn) 9 f := by
  refine sho_congr 9 f fun m m0 hm => ?_
  have th := isin_there t.tv m0 9 f (Or.inr ⟨f0, by omega, p⟩) hm
  unfold cnd rv
  rw [rpn_congr (Cn m) [] (fun u hu ut => ?_)]
  have tks := tk m m0 th.1 th.2
  rcases tks u hu with ⟨f', s, v, b1, b2, b3, b4, b5, b6, b7, rfl⟩ | q | q | q
  · obtain ⟨d1, _, _⟩ := dec_tcd b1 b2 b4 b5 b6 b7
    rw [d1]
    refine h f' b1 b2 ((NE_bt t.tv t.ce f0 f1 p).mpr ⟨m, m0, th.1, hm, ?_⟩)
    exact (RlL_bt (Cn m) (fun t ht => tk_bits (tks t ht)) b1 (by omega)).mpr ⟨_, hu, ut, tF_c b1 (by omega) b4 b5 b6 b7⟩
  · rw [q] at ut; exact absurd ut (by decide)
  · rw [q] at ut; exact absurd ut (by decide)
  · rw [q] at ut; exact absurd ut (by decide)
theorem NE_fld (t : TR F) (tk : ∀ n, 0 ≤ n → n < 32 → F n ≠ -1 → ∀ u ∈ Cn n, tkOk F u) {f g : Int} (g0 : 0 ≤ g) (g1 : g < 32) (e : bt (NE F (fun n => RlL (Cn n)) f) g = true) : g < 24 ∧ F g ≠ -1 := by
  by_cases c : 0 ≤ f ∧ f < 24 ∧ F f ≠ -1
  · obtain ⟨o, o0, o1, a1, z⟩ := (NE_bt t.tv t.ce c.1 c.2.1 c.2.2).mp e
    have th := isin_there t.tv o0 9 f (Or.inr ⟨c.1, by omega, c.2.2⟩) a1
    exact RlL_pr (tk o o0 o1 th.2) g0 g1 z
  · rw [NE_ab c, bt_0] at e; cases e
theorem nxt_sub {N : Int → Int32} {s : Int32} {f : Int} (h : nxt F N s f = true) : F f ≠ -1 ∧ bt s f = false ∧ ∀ g, 0 ≤ g → g < 32 → bt (N f) g = true → bt s g = true := by
  obtain ⟨a, b, c⟩ := of_decide_eq_true h
  refine ⟨a, b, fun g g0 g1 e => ?_⟩
  have z := (bt_eq0.mp c) g g0 g1
  rw [bt_and, bt_xor, e, bt_m1 g0 g1, Bool.true_and] at z
  cases w : bt s g with
  | true => rfl
  | false => rw [w] at z; cases z
/-- the forces are told by the form and the answers -/
theorem SOL_u {np : Nat} (w : FWf F Cn np) (a : SOL F Cn A φ) (b : SOL F Cn A ψ) : ∀ f, 0 ≤ f → f < 24 → φ f = ψ f := by
  obtain ⟨⟨t, _⟩, _, tk, ac, _⟩ := w
  intro f f0 f1
  by_cases p : F f = -1
  · rw [(a f f0 f1).2 p, (b f f0 f1).2 p]
  apply Classical.byContradiction
  intro ne
  obtain ⟨s, es⟩ : ∃ s, s = fmk (fun g => decide (φ g = ψ g)) 24 0 (i32 0) := ⟨_, rfl⟩
  have bs : ∀ g, 0 ≤ g → g < 24 → (bt s g = true ↔ φ g = ψ g) := fun g g0 g1 => by
    rw [es, fmk_bt g0 (by omega) 24 0 (i32 0) (by omega) (by omega), bt_0]
    constructor
    · rintro (z | z)
      · cases z
      · exact of_decide_eq_true z.2.2
    · intro z; exact Or.inr ⟨g0, by omega, decide_eq_true z⟩
  have lo := NE_lo t.tv t.ce (R := fun n => RlL (Cn n)) (fun n a b d => RlL_lo (tk n a b d))
  obtain ⟨g, g0, g1, gn⟩ := nx_ex (F := F) lo ac (fun f g g0 g1 e => NE_fld t tk g0 g1 e) (s := s) 24 f f0 f1 p (by
    cases z : bt s f with
    | false => rfl
    | true => exact absurd ((bs f f0 f1).mp z) ne) (by
    have := cb_rng (cl (NE F (fun n => RlL (Cn n))) 24 (NE F (fun n => RlL (Cn n)) f))
    omega)
  obtain ⟨n1, n2, n3⟩ := nxt_sub gn
  have e := shoN (φ := φ) (ψ := ψ) t tk g0 g1 n1 (fun o o0 o1 h => (bs o o0 o1).mp (n3 o o0 (by omega) h))
  have : φ g = ψ g := by rw [(a g g0 g1).1 n1, (b g g0 g1).1 n1, e]
  rw [(bs g g0 g1).mpr this] at n2
  cases n2
end

