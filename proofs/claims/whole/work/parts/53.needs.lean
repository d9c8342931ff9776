/-! READS OF THE NEEDS -/
theorem mskL {α : Type} {L : Nat → Int32 → Int32 → Option α} {b : Int32 → Option α} {p : Int → Bool} (hL : ∀ m c i, 0 ≤ i → i ≤ 24 → L (m + 1) c (i32 i) = if i < 24 then L m (if p i = true then c ||| (i32 1 <<< (i32 i &&& 31)) else c) (i32 (i + 1)) else b c) : ∀ (k n : Nat) (c : Int32) (i : Int), 0 ≤ i → i + k = 24 → k < n → L n c (i32 i) = b (fmk p k i c) := by
  intro k
  induction k with
  | zero =>
    intro n c i i0 ie hn
    obtain ⟨m, rfl⟩ : ∃ m, n = m + 1 := ⟨n - 1, by omega⟩
    rw [hL m c i i0 (by omega), if_neg (by omega)]
    rfl
  | succ k ih =>
    intro n c i i0 ie hn
    obtain ⟨m, rfl⟩ : ∃ m, n = m + 1 := ⟨n - 1, by omega⟩
    rw [hL m c i i0 (by omega), if_pos (by omega), ih m _ _ (by omega) (by omega) (by omega)]
    rfl
theorem or_0 (x : Int32) : x ||| i32 0 = x := bt_ext fun i _ _ => by rw [bt_or, bt_0, Bool.or_false]
/-- the needs of the fields of a form, and what they keep -/
def NX (h : HP) (F : Int → Int) : Int → Int32 := NE F (RX h F)
section
variable {h : HP} {k : Nat}
theorem NX_field {a np : Nat} {F : Int → Int} (x : FRx h a F np) {f g : Int} (g0 : 0 ≤ g) (g1 : g < 32) (e : bt (NX h F f) g = true) : g < 24 ∧ F g ≠ -1 := by
  have T := x.tr
  by_cases c : 0 ≤ f ∧ f < 24 ∧ F f ≠ -1
  · obtain ⟨o, o0, o1, a1, z⟩ := (NE_bt T.tv T.ce c.1 c.2.1 c.2.2).mp e
    have t := isin_there T.tv o0 9 f (Or.inr ⟨c.1, by omega, c.2.2⟩) a1
    have tk := x.tk o o0 o1 t.2
    obtain ⟨u, u1, u2, u3⟩ := (RlL_bt _ (fun t ht => tk_bits (tk t ht)) g0 g1).mp z
    rcases tk u u1 with ⟨f', s, v, b1, b2, b3, b4, b5, b6, b7, rfl⟩ | q | q | q
    · rw [tF_c b1 (by omega) b4 b5 b6 b7, i32_eq (by omega) (by omega) (by omega) (by omega)] at u3
      rw [← u3]; exact ⟨b2, b3⟩
    · rw [q] at u2; rw [show tT (i32 1) = false from by decide] at u2; cases u2
    · rw [q] at u2; rw [show tT (i32 2) = false from by decide] at u2; cases u2
    · rw [q] at u2; rw [show tT (i32 3) = false from by decide] at u2; cases u2
  · unfold NX at e
    rw [NE_ab c, bt_0] at e; cases e
/-- the model's needs of the draft are laid -/
theorem RR.lay (R : RR h k) (hk : k ≤ 512) : ∃ g, fX11_laysNeeds 983 (i32 (-2)) h = some g ∧ Mo [991] h g ∧ RR g k ∧ (∀ f, 0 ≤ f → f < 24 → hA g 991 f.toNat = NX h (Wm h) f) ∧ (∀ f, lo24 (Nm g f)) ∧ ∀ f, 0 ≤ f → f < 24 → Nm g f = NX h (Wm h) f := by
  obtain ⟨np, sr, hnp⟩ := R.sr
  obtain ⟨g, e1, e2, e3, e4, e5⟩ := mneeds R.M sr.x (by omega) R.n24
  exact ⟨g, e1, e2, RR_mo R (by decide) e3 e2, e4, e5, e4⟩
theorem Wm_mo {g : HP} {l : List Nat} (p : Mo l h g) (o : l.contains 987 = false) : Wm g = Wm h := by
  funext q; unfold Wm; rw [p.L o]
theorem rd_dependsOn (R : RR h k) (hk : k ≤ 512) (p : Int32) : ∃ r g, fX10_dependsOn 0 p h = some r ∧ fX11_dependsOn 983 p h = some (r, g) ∧ RR g k := by
  obtain ⟨f, h1, h2, rfl⟩ := i32_ex p
  obtain ⟨np, sr, hnp⟩ := R.sr
  have C := R.C
  have M := R.M
  have x := sr.x
  have A := C.st.d
  unfold fX10_dependsOn fX11_dependsOn
  rw [C.o, gd_tt, C.r_state, oc_s, C.o_state, gd_tt, C.st.rD, oc_s, A.o, gd_tt, x_findField A x h1 h2, bn_s, M.o, gd_tt, mIsDF M h1 h2, bn_s]
  by_cases c : 0 ≤ f ∧ f < 24 ∧ Wm h f ≠ -1
  · obtain ⟨g, e1, e2, e3, e4, _⟩ := R.lay hk
    have M' := M.sk e2.sk
    rw [if_pos c.2.1, fnx_y ⟨c.1, by omega, c.2.2⟩, on_sm, x_needs A x h1 h2, bn_s, decide_eq_true c, if_pos rfl, e1, bn_s, M'.o, gd_tt, M'.r_needs, oc_s, M'.o_needs, gd_tt, M'.n_needs, i32_inb c.1 (by omega) (by omega), gd_tt, i32_cn c.1 (by omega), e4 f c.1 c.2.1]
    exact ⟨_, g, rfl, rfl, e3⟩
  · rw [decide_eq_false c, if_neg (show ¬ (false = true) by decide)]
    by_cases d : f < 24
    · rw [if_pos d, fnx_n (fun z => c ⟨z.1, d, z.2.2⟩), on_nn]
      exact ⟨_, h, rfl, rfl, R⟩
    · rw [if_neg d, on_nn]
      exact ⟨_, h, rfl, rfl, R⟩
theorem rd_wouldRefuse (R : RR h k) (hk : k ≤ 512) (p q : Int32) : ∃ r g, fX10_wouldRefuse 0 p q h = some r ∧ fX11_wouldRefuse 983 p q h = some (r, g) ∧ RR g k := by
  obtain ⟨n, h1, h2, rfl⟩ := i32_ex p
  obtain ⟨f, h3, h4, rfl⟩ := i32_ex q
  obtain ⟨np, sr, hnp⟩ := R.sr
  have C := R.C
  have M := R.M
  have x := sr.x
  have A := C.st.d
  unfold fX10_wouldRefuse fX11_wouldRefuse
  rw [C.o, gd_tt, C.r_state, oc_s, C.o_state, gd_tt, lt_e, C.st.rD, oc_s, A.o, gd_tt, x_find A x h1 h2, bn_s, M.o, gd_tt, mIsNode M h1 h2, bn_s]
  by_cases c : 0 ≤ n ∧ n < 32 ∧ Wm h n ≠ -1
  rotate_left
  · rw [fnx_n c, on_nn, decide_eq_false c, if_neg (by decide)]
    exact ⟨_, h, rfl, rfl, R⟩
  rw [fnx_y c, on_sm, decide_eq_true c, if_pos rfl, x_findField A x h3 h4, bn_s, mIsDF M h3 h4, bn_s]
  by_cases d : 0 ≤ f ∧ f < 24 ∧ Wm h f ≠ -1
  · obtain ⟨g, e1, e2, e3, e4, e5, e6⟩ := R.lay hk
    have M' := M.sk e2.sk
    have eW := Wm_mo e2 (by decide)
    rw [if_pos d.2.1, fnx_y ⟨d.1, by omega, d.2.2⟩, on_sm, x_refuses A x (Or.inr ⟨c.1, by omega⟩) h3 h4, bn_s, decide_eq_true d, if_pos rfl, e1, bn_s, M'.o, gd_tt, circles_s M' e5 h1 h2 d.1 d.2.1 (by rw [Fm0, eW]; exact x.tr.av) (by rw [Fm0, eW]; exact x.tr.ce), bn_s, Fm0, eW, rch_congr (N' := NX h (Wm h)) e6 d.1 d.2.1]
    have ef : fmk (finM (Wm h) n) 24 0 (i32 0) = fmk (fin (Wm h) n) 24 0 (i32 0) := fmk_congr 24 0 _ fun j j0 _ => (fin_M c.1 j0).symm
    rw [ef]
    have ea : (rch (NX h (Wm h)) f &&& fmk (fin (Wm h) n) 24 0 (i32 0)) = (fmk (fin (Wm h) n) 24 0 (i32 0) &&& rch (NE (Wm h) (RX h (Wm h))) f) := bt_ext fun i _ _ => by rw [bt_and, bt_and, Bool.and_comm]; rfl
    rw [ea]
    refine ⟨_, g, ?_, rfl, e3⟩
    cases decide (fmk (fin (Wm h) n) 24 0 (i32 0) &&& rch (NE (Wm h) (RX h (Wm h))) f ≠ i32 0) with
    | true => exact if_pos rfl
    | false => exact if_neg (by decide)
  · rw [decide_eq_false d, if_neg (show ¬ (false = true) by decide)]
    by_cases e : f < 24
    · rw [if_pos e, fnx_n (fun z => d ⟨z.1, e, z.2.2⟩), on_nn]
      exact ⟨_, h, rfl, rfl, R⟩
    · rw [if_neg e, on_nn]
      exact ⟨_, h, rfl, rfl, R⟩
theorem rd_dependents (R : RR h k) (hk : k ≤ 512) (p : Int32) : ∃ r g, fX10_dependents 0 p h = some r ∧ fX11_dependents 983 p h = some (r, g) ∧ RR g k := by
  obtain ⟨f, h1, h2, rfl⟩ := i32_ex p
  obtain ⟨np, sr, hnp⟩ := R.sr
  have C := R.C
  have M := R.M
  have x := sr.x
  have A := C.st.d
  unfold fX10_dependents fX11_dependents
  rw [C.o, gd_tt, C.r_state, oc_s, C.o_state, gd_tt, C.st.rD, oc_s, A.o, gd_tt, x_findField A x h1 h2, bn_s, M.o, gd_tt, mIsDF M h1 h2, bn_s]
  by_cases c : 0 ≤ f ∧ f < 24 ∧ Wm h f ≠ -1
  rotate_left
  · rw [decide_eq_false c, if_neg (show ¬ (false = true) by decide)]
    by_cases d : f < 24
    · rw [if_pos d, fnx_n (fun z => c ⟨z.1, d, z.2.2⟩), on_nn]
      exact ⟨_, h, rfl, rfl, R⟩
    · rw [if_neg d, on_nn]
      exact ⟨_, h, rfl, rfl, R⟩
  obtain ⟨g, e1, e2, e3, e4, e5, e6⟩ := R.lay hk
  have M' := M.sk e2.sk
  have c1 := mskL (L := fun n c i => lX10_dependents_20 h n 0 (i32 f) c i) (b := fun c => some c) (p := fun i => bt (cl (NX h (Wm h)) 24 (NX h (Wm h) i)) f) (fun m c' i i0 i1 => by
    show lX10_dependents_20 h (m + 1) 0 (i32 f) c' (i32 i) = if i < 24 then lX10_dependents_20 h m 0 (i32 f) _ _ else _
    rw [elX10_dependents_20]; unfold bX10_dependents_20
    by_cases d : 24 ≤ i
    · rw [if_pos (by rw [i32_le (by omega) (by omega) (by omega) (by omega)]; exact d), if_neg (by omega)]
    rw [if_neg (by rw [i32_le (by omega) (by omega) (by omega) (by omega)]; exact d), if_pos (show i < 24 by omega), C.o, gd_tt, C.r_state, oc_s, C.o_state, gd_tt, C.st.rD, oc_s, A.o, gd_tt, x_all A x (by omega) (by omega), bn_s, chasBit h1 h2, bn_s]
    unfold jX10_dependents_50
    by_cases z : bt (cl (NX h (Wm h)) 24 (NX h (Wm h) i)) f = true
    · rw [if_pos z, if_pos (decide_eq_true ⟨c.1, by omega, z⟩), lt_e, lt_e, i32_add]
    · rw [if_neg z, if_neg (by rw [decide_eq_true_eq]; exact fun y => z y.2.2), lt_e, i32_add]) 24 FU (i32 0) 0 (by omega) (by omega) (by decide)
  have c2 := mskL (L := fun n c i => lX11_dependents_20 n 983 (i32 f) c i g) (b := fun c => some (c, g)) (p := fun i => decide (i ≠ f ∧ bt (rch (NX h (Wm h)) i) f = true)) (fun m c' i i0 i1 => by
    show lX11_dependents_20 (m + 1) 983 (i32 f) c' (i32 i) g = if i < 24 then lX11_dependents_20 m 983 (i32 f) _ _ g else _
    rw [elX11_dependents_20]; unfold bX11_dependents_20
    by_cases d : 24 ≤ i
    · rw [if_pos (by rw [i32_le (by omega) (by omega) (by omega) (by omega)]; exact d), if_neg (by omega)]
    rw [if_neg (by rw [i32_le (by omega) (by omega) (by omega) (by omega)]; exact d), if_pos (show i < 24 by omega)]
    unfold jX11_dependents_51 jX11_dependents_52
    by_cases y : i = f
    · rw [if_pos (by rw [y]), or_0, lt_e, lt_e, i32_add, if_neg (by rw [decide_eq_true_eq]; exact fun w => w.1 y)]
    rw [if_neg (by rw [i32_eq (by omega) (by omega) (by omega) (by omega)]; exact y), M'.o, gd_tt, reached_s M' e5 i0 (by omega), bn_s, cl_sng e5 i0 (by omega), rch_congr (N' := NX h (Wm h)) e6 i0 (by omega)]
    by_cases z : bt (rch (NX h (Wm h)) i) f = true
    · rw [if_pos (by rw [bt_in c.1 (by omega)]; exact z), lt_e, lt_e, i32_add, if_pos (decide_eq_true ⟨y, z⟩)]
    · rw [if_neg (by rw [bt_in c.1 (by omega)]; exact z), or_0, lt_e, lt_e, i32_add, if_neg (by rw [decide_eq_true_eq]; exact fun w => z w.2)]) 24 FU (i32 0) 0 (by omega) (by omega) (by decide)
  rw [if_pos c.2.1, fnx_y ⟨c.1, by omega, c.2.2⟩, on_sm, decide_eq_true c, if_pos rfl, e1, bn_s]
  refine ⟨_, g, c1, c2.trans ?_, e3⟩
  congr 2
  refine fmk_congr 24 0 _ fun i i0 i1 => ?_
  have ac := x.ac f c.1 c.2.1
  by_cases y : i = f
  · rw [decide_eq_false (fun w => w.1 y), y]; exact ac.symm
  · have e : bt (rch (NX h (Wm h)) i) f = bt (cl (NX h (Wm h)) 24 (NX h (Wm h) i)) f := by
      unfold rch
      rw [bt_or, if_pos ⟨i0, by omega⟩, bt_sh i0 (by omega) c.1 (by omega)]
      have : (f == i) = false := by rw [beq_eq_false_iff_ne]; exact fun w => y w.symm
      rw [this, Bool.false_or]
    rw [e]
    cases bt (cl (NX h (Wm h)) 24 (NX h (Wm h) i)) f with
    | true => exact decide_eq_true ⟨y, rfl⟩
    | false => exact decide_eq_false (fun w => by cases w.2)
theorem bt_m1 {i : Int} (i0 : 0 ≤ i) (i1 : i < 32) : bt (i32 (-1)) i = true := by
  have w : ∀ n : Fin 32, bt (i32 (-1)) (n.val : Int) = true := by decide +kernel
  have := w ⟨i.toNat, by omega⟩
  rwa [show ((i.toNat : Nat) : Int) = i by omega] at this
theorem cl_lo {N : Int → Int32} (k2 : ∀ f, lo24 (N f)) {s : Int32} (l : lo24 s) : lo24 (cl N 24 s) := by
  have hb : ∀ g, 0 ≤ g → g < 32 → (bt (fmk (fun _ => true) 24 0 (i32 0)) g = true ↔ g < 24) := fun g g0 g1 => by
    rw [fmk_bt g0 g1 24 0 (i32 0) (by omega) (by omega), bt_0]
    constructor
    · rintro (z | z)
      · cases z
      · omega
    · intro z; exact Or.inr ⟨g0, by omega, rfl⟩
  have lw : ∀ t, lo24 t → sub t (fmk (fun _ => true) 24 0 (i32 0)) := fun t lt i i0 i1 e => by
    rw [hb i i0 i1]
    apply Classical.byContradiction
    intro z
    rw [lt i (by omega) i1] at e; cases e
  have := cl_in k2 l (lw s l) (fun o _ _ _ => lw _ (k2 o))
  intro i i0 i1
  cases q : bt (cl N 24 s) i with
  | false => rfl
  | true => have := (hb i (by omega) i1).mp (this i (by omega) i1 q); omega
/-- while fields are left, one of them can come -/
theorem nx_ex {F : Int → Int} {N : Int → Int32} (k2 : ∀ f, lo24 (N f)) (ac : Acy N) (hN : ∀ f g, 0 ≤ g → g < 32 → bt (N f) g = true → g < 24 ∧ F g ≠ -1) {s : Int32} : ∀ (m : Nat) (g : Int), 0 ≤ g → g < 24 → F g ≠ -1 → bt s g = false → cb (cl N 24 (N g)) ≤ m → ∃ f, 0 ≤ f ∧ f < 24 ∧ nxt F N s f = true := by
  intro m
  induction m with
  | zero =>
    intro g g0 g1 p b hm
    by_cases c : N g &&& (s ^^^ i32 (-1)) = i32 0
    · exact ⟨g, g0, g1, decide_eq_true ⟨p, b, c⟩⟩
    exfalso
    apply c
    have z : cl N 24 (N g) = i32 0 := by
      apply Classical.byContradiction
      intro w
      have := cb_pos (cl_lo k2 (k2 g)) w
      omega
    have sb := (cl24 k2 (k2 g)).1
    rw [bt_eq0]
    intro i i0 i1
    rw [bt_and]
    cases q : bt (N g) i with
    | false => rfl
    | true => have := sb i i0 i1 q; rw [z, bt_0] at this; cases this
  | succ m ih =>
    intro g g0 g1 p b hm
    by_cases c : N g &&& (s ^^^ i32 (-1)) = i32 0
    · exact ⟨g, g0, g1, decide_eq_true ⟨p, b, c⟩⟩
    have ex : ∃ o, 0 ≤ o ∧ o < 32 ∧ bt (N g) o = true ∧ bt s o = false := by
      apply Classical.byContradiction
      intro w
      apply c
      rw [bt_eq0]
      intro i i0 i1
      rw [bt_and, bt_xor]
      cases q : bt (N g) i with
      | false => rfl
      | true =>
        have : bt s i = true := by
          cases y : bt s i with
          | true => rfl
          | false => exact absurd ⟨i, i0, i1, q, y⟩ w
        rw [this, bt_m1 i0 i1]
        rfl
    obtain ⟨o, o0, o1, q, y⟩ := ex
    obtain ⟨o2, po⟩ := hN g o o0 o1 q
    obtain ⟨a1, a2, _⟩ := cl24 k2 (k2 g)
    have ob := a1 o o0 o1 q
    have ss : sub (cl N 24 (N o)) (cl N 24 (N g)) := cl_in k2 (k2 o) (a2 o o0 o2 ob) a2
    have ne : cl N 24 (N g) ≠ cl N 24 (N o) := fun w => by
      have := ac o o0 o2
      rw [← w, ob] at this; cases this
    have := cb_grow ss (cl_lo k2 (k2 g)) ne
    exact ih o o0 o2 po y (by omega)
theorem nx_some {F : Int → Int} {N : Int → Int32} (k2 : ∀ f, lo24 (N f)) (ac : Acy N) (hN : ∀ f g, 0 ≤ g → g < 32 → bt (N f) g = true → g < 24 ∧ F g ≠ -1) {s : Int32} (h : cb s < cnt (fun n => decide (F n ≠ -1)) 24 0) : 0 ≤ fst (nxt F N s) (-2) 24 0 ∧ fst (nxt F N s) (-2) 24 0 < 24 ∧ nxt F N s (fst (nxt F N s) (-2) 24 0) = true ∧ ∀ j, 0 ≤ j → j < fst (nxt F N s) (-2) 24 0 → nxt F N s j = false := by
  rcases fst_spec (p := nxt F N s) (e := -2) 24 0 with ⟨_, z⟩ | ⟨z1, z2, z3, z4⟩
  · exfalso
    have ex : ∃ g, 0 ≤ g ∧ g < 24 ∧ F g ≠ -1 ∧ bt s g = false := by
      apply Classical.byContradiction
      intro w
      have := (cnt_lt (p := fun n => decide (F n ≠ -1)) (q := bt s) 24 0 (fun j a b e => by
        cases y : bt s j with
        | true => rfl
        | false => exact absurd ⟨j, a, by omega, of_decide_eq_true e, y⟩ w)).1
      unfold cb at h; omega
    obtain ⟨g, g0, g1, p, b⟩ := ex
    have r := cb_rng (cl N 24 (N g))
    obtain ⟨f, f0, f1, e⟩ := nx_ex k2 ac hN 24 g g0 g1 p b (by omega)
    rw [z f f0 (by omega)] at e; cases e
  · exact ⟨z1, by omega, z3, z4⟩
theorem nx_none {F : Int → Int} {N : Int → Int32} {s : Int32} (hs : ∀ f, 0 ≤ f → f < 24 → bt s f = true → F f ≠ -1) (h : cb s = cnt (fun n => decide (F n ≠ -1)) 24 0) : fst (nxt F N s) (-2) 24 0 = -2 := by
  rcases fst_spec (p := nxt F N s) (e := -2) 24 0 with ⟨z, _⟩ | ⟨z1, z2, z3, _⟩
  · exact z
  · exfalso
    have w := of_decide_eq_true z3
    have := (cnt_lt (p := bt s) (q := fun n => decide (F n ≠ -1)) 24 0 (fun j a b e => decide_eq_true (hs j a (by omega) e))).2 ⟨_, z1, z2, w.2.1, decide_eq_true w.1⟩
    unfold cb at h; omega
theorem cb_add {s : Int32} {f : Int} (f0 : 0 ≤ f) (f1 : f < 24) (b : bt s f = false) : cb (s ||| (i32 1 <<< (i32 f &&& 31))) = cb s + 1 := by
  have e := cnt_ins (bt s) f 24 0 b
  rw [if_pos (by omega)] at e
  unfold cb
  rw [← e]
  refine cnt_congr 24 0 fun j j0 j1 => ?_
  rw [bt_or, bt_sh f0 (by omega) j0 (by omega)]
  congr 1
/-- the model's search for the next field -/
theorem mnext {g : HP} {F : Int → Int} {N : Int → Int32} (M : MS g) (eF : Wm g = F) (eN : ∀ f, 0 ≤ f → f < 24 → hA g 991 f.toNat = N f) {s : Int32} {f : Int} (hf : f < 24) (hp : nxt F N s f = true) (lo : ∀ j, 0 ≤ j → j < f → nxt F N s j = false) {k67 : Nat → Int32 → Int32 → Int32 → Int32 → HP → Option (Int32 × HP)} {p v : Int32} : ∀ (d n : Nat) (i : Int), 0 ≤ i → i + d = f → d < n → lX11_inOrder_27 k67 n 983 p s v (i32 i) g = k67 983 p s v (i32 f) g := by
  intro d
  induction d with
  | zero =>
    intro n i i0 hi hn
    obtain ⟨m, rfl⟩ : ∃ m, n = m + 1 := ⟨n - 1, by omega⟩
    obtain rfl : i = f := by omega
    have w := of_decide_eq_true hp
    rw [elX11_inOrder_27]; unfold bX11_inOrder_27
    rw [M.o, gd_tt, has_s M (by omega) (by omega) (by omega) (by omega), bn_s, Fm0, eF, if_pos (decide_eq_true ⟨i0, by omega, w.1⟩), if_neg (by rw [bt_in i0 (by omega), w.2.1]; exact fun z => by cases z), M.r_needs, oc_s, M.o_needs, gd_tt, M.n_needs, i32_inb i0 (by omega) (by omega), gd_tt, i32_cn i0 (by omega), eN i i0 hf, i32_z, if_pos w.2.2]
  | succ d ih =>
    intro n i i0 hi hn
    obtain ⟨m, rfl⟩ : ∃ m, n = m + 1 := ⟨n - 1, by omega⟩
    have w := of_decide_eq_false (lo i i0 (by omega))
    rw [elX11_inOrder_27]; unfold bX11_inOrder_27
    have j61 : jX11_inOrder_61 (fun v0 v1 v2 v3 v4 h => lX11_inOrder_27 k67 m v0 v1 v2 v3 v4 h) 983 p s v (i32 i) g = k67 983 p s v (i32 f) g := by
      unfold jX11_inOrder_61
      rw [lt_e, i32_add]
      exact ih m (i + 1) (by omega) (by omega) (by omega)
    rw [M.o, gd_tt, has_s M (by omega) (by omega) (by omega) (by omega), bn_s, Fm0, eF]
    by_cases c : F i ≠ -1
    · rw [if_pos (decide_eq_true ⟨i0, by omega, c⟩)]
      cases b : bt s i with
      | true => rw [if_pos (by rw [bt_in i0 (by omega)]; exact b), j61]
      | false =>
        rw [if_neg (by rw [bt_in i0 (by omega), b]; exact fun z => by cases z), M.r_needs, oc_s, M.o_needs, gd_tt, M.n_needs, i32_inb i0 (by omega) (by omega), gd_tt, i32_cn i0 (by omega), eN i i0 (by omega), i32_z, if_neg (fun z => w ⟨c, b, z⟩), j61]
    · rw [if_neg (by rw [decide_eq_true_eq]; exact fun z => c z.2.2), j61]
theorem rd_inOrder (R : RR h k) (hk : k ≤ 512) (p : Int32) : ∃ r g, fX10_inOrder 0 p h = some r ∧ fX11_inOrder 983 p h = some (r, g) ∧ RR g k := by
  obtain ⟨q, h1, h2, rfl⟩ := i32_ex p
  obtain ⟨np, sr, hnp⟩ := R.sr
  have C := R.C
  have M := R.M
  have x := sr.x
  have A := C.st.d
  unfold fX10_inOrder fX11_inOrder
  rw [i32_z]
  by_cases c : 0 ≤ q
  rotate_left
  · rw [if_neg (by rw [i32_le (by omega) (by omega) (by omega) (by omega)]; exact c), if_neg (by rw [i32_le (by omega) (by omega) (by omega) (by omega)]; exact c)]
    exact ⟨_, h, rfl, rfl, R⟩
  rw [if_pos (by rw [i32_le (by omega) (by omega) (by omega) (by omega)]; exact c), if_pos (by rw [i32_le (by omega) (by omega) (by omega) (by omega)]; exact c)]
  obtain ⟨g, e1, e2, e3, e4, e5, e6⟩ := R.lay hk
  have M' := M.sk e2.sk
  have eW := Wm_mo e2 (by decide)
  have kN : ∀ f, lo24 (NX h (Wm h) f) := x.loN
  have fm := fieldMany_s M'
  rw [eW] at fm
  have fl := cnt_rng (fun n => decide (Wm h n ≠ -1)) 24 0
  have key : ∀ (d n n' : Nat) (s : Int32) (f0 : Int32) (v : Int), 0 ≤ v → v + d = cnt (fun n => decide (Wm h n ≠ -1)) 24 0 → cb s = v → (∀ f, 0 ≤ f → f < 24 → bt s f = true → Wm h f ≠ -1) → v ≤ q → d < n → d < n' → ∃ r, lX10_inOrder_14 h n 0 (i32 q) s f0 (i32 v) = some r ∧ lX11_inOrder_16 n' 983 (i32 q) s (i32 v) g = some (r, g) := by
    intro d
    induction d with
    | zero =>
      intro n n' s f0 v v0 hv hs hf hq hn hn'
      obtain ⟨m, rfl⟩ : ∃ m, n = m + 1 := ⟨n - 1, by omega⟩
      obtain ⟨m', rfl⟩ : ∃ m, n' = m + 1 := ⟨n' - 1, by omega⟩
      have nn := nx_none (N := NX h (Wm h)) hf (by omega)
      refine ⟨i32 (-2), ?_, ?_⟩
      · rw [elX10_inOrder_14]; unfold bX10_inOrder_14
        rw [if_neg (by rw [i32_lt (by omega) (by omega) (by omega) (by omega)]; omega), if_neg (by rw [i32_lt (by omega) (by omega) (by omega) (by omega)]; omega), C.o, gd_tt, C.r_state, oc_s, C.o_state, gd_tt, C.st.rD, oc_s, A.o, gd_tt, x_next A x, bn_s]
        show (if 0 ≤ i32 (fst (nxt (Wm h) (NX h (Wm h)) s) (-2) 24 0) then _ else _) = _
        rw [nn, if_neg (by decide)]
      · rw [elX11_inOrder_16]; unfold bX11_inOrder_16
        rw [M'.o, gd_tt, fm, bn_s, if_pos (by rw [i32_le (by omega) (by omega) (by omega) (by omega)]; omega)]
    | succ d ih =>
      intro n n' s f0 v v0 hv hs hf hq hn hn'
      obtain ⟨m, rfl⟩ : ∃ m, n = m + 1 := ⟨n - 1, by omega⟩
      obtain ⟨m', rfl⟩ : ∃ m, n' = m + 1 := ⟨n' - 1, by omega⟩
      obtain ⟨t0, t1, t2, t3⟩ := nx_some (F := Wm h) kN x.ac (fun f g g0 g1 e => NX_field x g0 g1 e) (s := s) (by omega)
      obtain ⟨f, ef⟩ : ∃ f, f = fst (nxt (Wm h) (NX h (Wm h)) s) (-2) 24 0 := ⟨_, rfl⟩
      rw [← ef] at t0 t1 t2 t3
      have ef' : fst (nxt (Wm h) (NE (Wm h) (RX h (Wm h))) s) (-2) 24 0 = f := ef.symm
      have w := of_decide_eq_true t2
      rw [elX10_inOrder_14, elX11_inOrder_16]; unfold bX10_inOrder_14 bX11_inOrder_16
      rw [if_neg (by rw [i32_lt (by omega) (by omega) (by omega) (by omega)]; omega), if_neg (by rw [i32_lt (by omega) (by omega) (by omega) (by omega)]; omega), C.o, gd_tt, C.r_state, oc_s, C.o_state, gd_tt, C.st.rD, oc_s, A.o, gd_tt, x_next A x, bn_s, ef', i32_z, if_pos (by rw [i32_le (by omega) (by omega) (by omega) (by omega)]; exact t0), lt_e, lt_e, i32_add, M'.o, gd_tt, fm, bn_s, if_neg (by rw [i32_le (by omega) (by omega) (by omega) (by omega)]; omega), mnext M' eW e4 t1 t2 t3 f.toNat FU 0 (by omega) (by omega) (by have : FU = 1000000 := rfl; omega)]
      have hf' : ∀ f', 0 ≤ f' → f' < 24 → bt (s ||| (i32 1 <<< (i32 f &&& 31))) f' = true → Wm h f' ≠ -1 := fun f' a b e => by
        rw [bt_or, bt_sh t0 (by omega) a (by omega), Bool.or_eq_true] at e
        rcases e with y | y
        · exact hf f' a b y
        · rw [beq_iff_eq] at y; rw [y]; exact w.1
      by_cases z : v = q
      · have st : lX10_inOrder_14 h m 0 (i32 q) (s ||| (i32 1 <<< (i32 f &&& 31))) (i32 f) (i32 (v + 1)) = some (i32 f) := by
          obtain ⟨m2, rfl⟩ : ∃ m2, m = m2 + 1 := ⟨m - 1, by omega⟩
          rw [elX10_inOrder_14]; unfold bX10_inOrder_14
          rw [if_pos (by rw [i32_lt (by omega) (by omega) (by omega) (by omega)]; omega)]
        refine ⟨i32 f, st, ?_⟩
        show (if i32 v = i32 q then some (i32 f, g) else _) = _
        rw [if_pos (by rw [z])]
      · obtain ⟨r, r1, r2⟩ := ih m m' (s ||| (i32 1 <<< (i32 f &&& 31))) (i32 f) (v + 1) (by omega) (by omega) (by rw [cb_add t0 t1 w.2.1]; omega) hf' (by omega) (by omega) (by omega)
        refine ⟨r, r1, ?_⟩
        show (if i32 v = i32 q then some (i32 f, g) else lt (s ||| (i32 1 <<< (i32 f &&& 31))) fun v110 => lt (i32 v + i32 1) fun v111 => lX11_inOrder_16 m' 983 (i32 q) v110 v111 g) = _
        rw [if_neg (by rw [i32_eq (by omega) (by omega) (by omega) (by omega)]; exact z), lt_e, lt_e, i32_add]
        exact r2
  have z0 : cb (i32 0) = 0 := by decide +kernel
  obtain ⟨r, r1, r2⟩ := key (cnt (fun n => decide (Wm h n ≠ -1)) 24 0).toNat FU FU (i32 0) (i32 (-2)) 0 (by omega) (by omega) z0 (fun f _ _ e => by rw [bt_0] at e; cases e) c (by have : FU = 1000000 := rfl; omega) (by have : FU = 1000000 := rfl; omega)
  refine ⟨r, g, r1, ?_, e3⟩
  rw [M.o, gd_tt, e1, bn_s]
  exact r2
end
