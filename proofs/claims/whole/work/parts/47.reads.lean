/-! READING A FORM OF THE CLASS BY THE MODEL'S NUMBERS -/
def fnx (F : Int → Int) (a : Nat) (i : Int) : Option Nat := if 0 ≤ i ∧ i < 32 ∧ F i ≠ -1 then some (a + 4 + i.toNat) else none
/-- what a node's condition asks for -/
def RX (h : HP) (F : Int → Int) (n : Int) : Int32 := RlL (sgm (Pt h) F n)
section
variable {h : HP} {a np : Nat} {F : Int → Int}
theorem FRx.tr (r : FRx h a F np) : TR F := r.2.1.1.1
theorem FRx.nm (r : FRx h a F np) : NMs F := r.2.1.1.2.1
theorem FRx.gv (r : FRx h a F np) : GV F := r.2.1.1.2.2.2
theorem FRx.kd (r : FRx h a F np) : KD F := r.2.1.2.1
theorem FRx.tk (r : FRx h a F np) : ∀ n, 0 ≤ n → n < 32 → F n ≠ -1 → ∀ t ∈ sgm (Pt h) F n, tkOk F t := r.2.1.2.2.1
theorem FRx.ac (r : FRx h a F np) : Acy (NE F (RX h F)) := r.2.1.2.2.2.1
theorem FRx.sg (r : FRx h a F np) : ∀ n, 0 ≤ n → n < 32 → F n ≠ -1 → 0 ≤ F (192 + n) ∧ 0 ≤ F (224 + n) ∧ F (192 + n) + F (224 + n) ≤ np := fun n a b c => by have := r.2.1.2.2.2.2 n a b c; omega
theorem FRx.s6 (r : FRx h a F np) {n : Int} (a : 0 ≤ n) (b : n < 32) (c : F n ≠ -1) : F (224 + n) ≤ 480 := (r.2.1.2.2.2.2 n a b c).2.2.2
theorem FRx.fb (r : FRx h a F np) : FRb h a F := r.1.1
theorem FRx.E (r : FRx h a F np) : EqT (Fc h a) F := (FRb_tree r.1.1 r.tr.tv r.tr.ov).1
theorem FRx.G (r : FRx h a F np) : GC h a := (FRb_tree r.1.1 r.tr.tv r.tr.ov).2
theorem FRx.nd (r : FRx h a F np) {n : Int} (n0 : 0 ≤ n) (n1 : n < 32) (p : F n ≠ -1) : hI h 128 (a + 4 + n.toNat) = i32 1 ∧ NDc h (a + 4 + n.toNat) F n := by
  rcases r.1.1.2.2.2.2 n n0 n1 with x | x
  · exact absurd x.1 p
  · exact x.2
theorem FRx.cd (r : FRx h a F np) {n : Int} (n0 : 0 ≤ n) (n1 : n < 32) (p : F n ≠ -1) : CND h (hsz h) (lfM h) opM (a + 4 + n.toNat) (sgm (Pt h) F n) (tcL (sgm (Pt h) F n)) (RlL (sgm (Pt h) F n)) := r.1.2 n n0 n1 p
theorem FRx.rf (r : FRx h a F np) {n : Int} (n0 : 0 ≤ n) (n1 : n < 32) (p : F n ≠ -1) : Rfc h a n = RX h F n := (r.cd n0 n1 p).2.2
theorem FRx.eN (r : FRx h a F np) : NE (Fc h a) (Rfc h a) = NE F (RX h F) := EqT_NE r.E r.tr.av (fun n a b c => r.rf a b c) r.tr.tv
theorem FRx.lo (r : FRx h a F np) : ∀ n, 0 ≤ n → n < 32 → F n ≠ -1 → lo24 (RX h F n) := by
  intro n n0 n1 p i i0 i1
  unfold RX
  cases w : bt (RlL (sgm (Pt h) F n)) i with
  | false => rfl
  | true =>
    obtain ⟨t1, u1, u2, u3⟩ := (RlL_bt _ (fun t ht => tk_bits (r.tk n n0 n1 p t ht)) (by omega) i1).mp w
    obtain ⟨f, f0, f1, f2⟩ := tk_bits (r.tk n n0 n1 p t1 u1) u2
    rw [f2, i32_eq (by omega) (by omega) (by omega) (by omega)] at u3
    omega
theorem FRx.loN (r : FRx h a F np) : ∀ f, lo24 (NE F (RX h F) f) := NE_lo r.tr.tv r.tr.ce r.lo

/-- the class's methods on a form -/
theorem x_find (A : FormAt h a) (r : FRx h a F np) {i : Int} (h1 : -2147483648 ≤ i) (h2 : i < 2147483648) : fX0_find a (i32 i) h = some (fnx F a i) := by
  rw [cfind A h1 h2]
  congr 1
  unfold fno fnx
  by_cases c : 0 ≤ i ∧ i < 32
  · rw [r.E.1 i c.1 c.2]
  · rw [if_neg (fun z => c ⟨z.1, z.2.1⟩), if_neg (fun z => c ⟨z.1, z.2.1⟩)]
theorem x_findField (A : FormAt h a) (r : FRx h a F np) {i : Int} (h1 : -2147483648 ≤ i) (h2 : i < 2147483648) : fX0_findField a (i32 i) h = some (if i < 24 then fnx F a i else none) := by
  have e := x_find A r h1 h2
  rw [cfind A h1 h2] at e
  rw [cfindField A h1 h2, Option.some.inj e]
theorem fnx_y {i : Int} (c : 0 ≤ i ∧ i < 32 ∧ F i ≠ -1) : fnx F a i = some (a + 4 + i.toNat) := if_pos c
theorem fnx_n {i : Int} (c : ¬ (0 ≤ i ∧ i < 32 ∧ F i ≠ -1)) : fnx F a i = none := if_neg c
theorem x_needs (A : FormAt h a) (r : FRx h a F np) {f : Int} (h1 : -2147483648 ≤ f) (h2 : f < 2147483648) : fX0_needs a (i32 f) h = some (NE F (RX h F) f) := by
  rw [cneeds A (EqT_TV r.E r.tr.tv) r.G h1 h2, r.eN]
theorem x_all (A : FormAt h a) (r : FRx h a F np) {f : Int} (h1 : -2147483648 ≤ f) (h2 : f < 2147483648) : fX0_allNeeds a (i32 f) h = some (cl (NE F (RX h F)) 24 (NE F (RX h F) f)) := by
  rw [call A (EqT_TV r.E r.tr.tv) r.G h1 h2, r.eN]
theorem x_refuses (A : FormAt h a) (r : FRx h a F np) {x f : Int} (hx : x = -2 ∨ (0 ≤ x ∧ x < 2147483648)) (h1 : -2147483648 ≤ f) (h2 : f < 2147483648) : fX0_refuses a (i32 x) (i32 f) h = some (decide (fmk (fin F x) 24 0 (i32 0) &&& rch (NE F (RX h F)) f ≠ i32 0)) := by
  rw [crefuses A (EqT_TV r.E r.tr.tv) r.G (EqT_CE r.E r.tr.av r.tr.ce) hx h1 h2, r.eN, EqT_fmk r.E r.tr.av]
theorem x_next (A : FormAt h a) (r : FRx h a F np) {s : Int32} : fX0_nextField a s h = some (i32 (fst (nxt F (NE F (RX h F)) s) (-2) 24 0)) := by
  rw [cnext A (EqT_TV r.E r.tr.tv) r.G, r.eN]
  congr 2
  apply fst_congr
  intro j j0 j1
  unfold nxt
  rw [r.E.1 j j0 (by omega)]
theorem x_fields (A : FormAt h a) (r : FRx h a F np) {x : Int} (hx : x = -2 ∨ (0 ≤ x ∧ x < 2147483648)) : fX0_fieldsOf a (i32 x) h = some (fmk (fin F x) 24 0 (i32 0)) := by
  rw [cfields A (EqT_TV r.E r.tr.tv) r.G (EqT_CE r.E r.tr.av r.tr.ce) hx, EqT_fmk r.E r.tr.av]
theorem x_name (A : FormAt h a) (r : FRx h a F np) {w : Int} (hw : NV w) : fX0_findName a (i64 (lft w)) h = some (i32 (fnm F w)) := by
  have n := FRb_name r.fb r.tr.tv r.tr.ov
  exact cname_s A n.1 r.tr.ov r.tr.op r.tr.po r.nm n.2 hw
theorem x_at (A : FormAt h a) (r : FRx h a F np) {i : Int} (h1 : -2147483648 ≤ i) (h2 : i < 2147483648) : fX0_at a (i32 i) h = some (i32 (if 0 ≤ i ∧ i < F 288 then F (256 + i) else -2)) := by
  rw [cat A (EqT_OV r.E r.tr.ov) h1 h2, r.E.2.1]
  congr 2
  by_cases c : 0 ≤ i ∧ i < F 288
  · rw [if_pos c, if_pos c, r.E.2.2 i c.1 c.2]
  · rw [if_neg c, if_neg c]
theorem gno_ok {g : Int} (T : TV F) {n : Int} (n0 : 0 ≤ n) (n1 : n < 32) (p : F n ≠ -1) (e : g = cgr (F n)) : gno g = F n := by
  rw [e]
  rcases T.grp n0 n1 p with z | z
  · exact gno_cgr (Or.inl z)
  · exact gno_cgr (Or.inr ⟨z.1, z.2.1⟩)
theorem x_level (A : FormAt h a) (r : FRx h a F np) {n : Int} (n0 : 0 ≤ n) (n1 : n < 32) (p : F n ≠ -1) : fX0_levelOf a (i32 (cgr (F n))) h = some (i32 (dpt F 8 (F n))) := by
  have T := r.tr.tv
  have V := r.tr.av
  have t := T.grp n0 n1 p
  have cr := cgr_rng (t.imp id fun z => ⟨z.1, z.2.1⟩)
  have eg := gno_ok T n0 n1 p rfl
  have e := clevelOf A (EqT_TV r.E T) r.G (g := cgr (F n)) (by omega) (by omega) (by
    rw [eg]
    rcases t with z | z
    · exact Or.inl z
    · right; rw [r.E.1 _ (by omega) z.2.1]; exact z.2.2) (by
    rw [eg]
    rcases t with z | z
    · exact Or.inl (by omega)
    · exact EqT_ends r.E V 8 _ z.2.1 (r.tr.ce _ (by omega) z.2.1))
  rw [e, eg, EqT_dpt r.E V 8 _ (V n n0 n1).2]
theorem x_index (A : FormAt h a) (r : FRx h a F np) {x j : Int} (x0 : 0 ≤ x) (x1 : x < 32) (j0 : 0 ≤ j) (j1 : j < F 288) (e : F (256 + j) = x) : fX0_indexOf a (i32 x) h = some (i32 (cnt (son F (F x)) j.toNat 0)) := by
  have o2 := r.tr.ov.2.1
  have E := r.E
  have u : ∀ q, 0 ≤ q → q < j → Fc h a (256 + q) ≠ x := fun q q0 q1 z => by
    rw [E.2.2 q q0 (by omega)] at z
    have := r.tr.dd q j q0 (by omega) j0 j1 (z.trans e.symm)
    omega
  rw [cindex A (EqT_TV E r.tr.tv) r.G (EqT_OV E r.tr.ov) (EqT_OP E r.tr.ov r.tr.op) x0 x1 j0 (by rw [E.2.1]; exact j1) (by rw [E.2.2 j j0 j1]; exact e) u, E.1 x x0 x1]
  congr 2
  apply cnt_congr
  intro q q0 q1
  exact EqT_son E r.tr.ov q0 (by omega)
theorem x_list (A : FormAt h a) (r : FRx h a F np) {g : Int} (hg : g = -2 ∨ (0 ≤ g ∧ g < 8)) : fX0_listSize a (i32 g) h = some (i32 (cnt (son F (gno g)) (F 288).toNat 0)) := by
  have E := r.E
  rw [clist A (EqT_TV E r.tr.tv) r.G (EqT_OV E r.tr.ov) (EqT_OP E r.tr.ov r.tr.op) hg, E.2.1]
  congr 2
  apply cnt_congr
  intro q q0 q1
  exact EqT_son E r.tr.ov q0 (by have := r.tr.ov.1; omega)
theorem x_conds (A : FormAt h a) (r : FRx h a F np) : fX0_conditions a h = some (i32 (cnt (fun n => decide (F n ≠ -1 ∧ 0 < F (224 + n))) 32 0)) := by
  rw [cconds A]
  congr 2
  apply cnt_congr
  intro n n0 n1
  rw [r.E.1 n n0 (by omega)]
  by_cases p : F n ≠ -1
  · have c := (r.cd n0 (by omega) p).1
    have g := r.sg n n0 (by omega) p
    have l : (sgm (Pt h) F n).length = (F (224 + n)).toNat := by unfold sgm; rw [List.length_map, List.length_range]
    rcases c with ⟨c1, c2⟩ | ⟨c1, t, c2, c3⟩
    · rw [c1] at l
      simp only [List.length_nil] at l
      rw [decide_eq_false (fun z => z.2 c2), decide_eq_false (by omega)]
    · have : (sgm (Pt h) F n).length ≠ 0 := fun z => c1 (List.eq_nil_of_length_eq_zero z)
      rw [decide_eq_true ⟨p, by rw [c2]; exact fun z => by cases z⟩, decide_eq_true ⟨p, by omega⟩]
  · rw [decide_eq_false (fun z => p z.1), decide_eq_false (fun z => p z.1)]
end
/-! the model's draft -/
section
variable {h : HP} {k : Nat}
theorem RR.C (r : RR h k) : CS h := r.1
theorem RR.M (r : RR h k) : MS h := r.2.1
theorem RR.n24 (r : RR h k) : N24 h := r.2.2.2.1
theorem RR.sr (r : RR h k) : ∃ np, SR h 2 (Wm h) np ∧ (np : Int) ≤ 20 * k := by
  obtain ⟨C, M, K, n, s, er, np, T, a, b, c, d, f, g, _⟩ := r
  exact ⟨np, g, by omega⟩
theorem SR.x {np : Nat} {W : Int → Int} {a : Nat} (s : SR h a W np) : FRx h (a + 1) W np := by
  have := s.1
  rwa [Wf_0] at this
theorem mF {F : Int → Int} {a np : Nat} (r : FRx h a F np) : AV F ∧ OV F ∧ CE F := ⟨r.tr.av, r.tr.ov, r.tr.ce⟩
theorem mIsNode (M : MS h) {i : Int} (h1 : -2147483648 ≤ i) (h2 : i < 2147483648) : fX11_isNode 983 (i32 i) h = some (decide (0 ≤ i ∧ i < 32 ∧ Wm h i ≠ -1)) := by rw [isNode_s M h1 h2, Fm0]
theorem mIsDF (M : MS h) {i : Int} (h1 : -2147483648 ≤ i) (h2 : i < 2147483648) : fX11_isDraftField 983 (i32 i) h = some (decide (0 ≤ i ∧ i < 24 ∧ Wm h i ≠ -1)) := by
  unfold fX11_isDraftField
  rw [M.o, gd_tt, mIsNode M h1 h2, bn_s, isField_s h1 h2, bn_s]
  by_cases c : 0 ≤ i ∧ i < 32 ∧ Wm h i ≠ -1
  · rw [if_pos (decide_eq_true c)]
    by_cases d : i < 24
    · rw [if_pos (decide_eq_true d), decide_eq_true ⟨c.1, d, c.2.2⟩]
    · rw [if_neg (by rw [decide_eq_true_eq]; exact d), decide_eq_false (fun z => d z.2.1)]
  · rw [if_neg (by rw [decide_eq_true_eq]; exact c), decide_eq_false (fun z => c ⟨z.1, by omega, z.2.2⟩)]
/-- the needs of the draft's fields -/
theorem mneeds {np a : Nat} (M : MS h) (x : FRx h a (Wm h) np) (hnp : np ≤ 12000) (n24 : N24 h) : ∃ g, fX11_laysNeeds 983 (i32 (-2)) h = some g ∧ Mo [991] h g ∧ N24 g ∧ (∀ f, 0 ≤ f → f < 24 → hA g 991 f.toNat = NE (Wm h) (RX h (Wm h)) f) ∧ ∀ f, lo24 (Nm g f) := by
  have tr := x.tr
  have sg : SGs (Wm h) := fun i i0 i1 => by
    have o := tr.ov.2.2 i i0 i1
    have := x.sg _ o.1 o.2 (tr.op i i0 i1)
    exact ⟨this.1, this.2.1, by omega⟩
  have e := lays_s M (wo := -2) (by omega) (by omega) (by rw [Fm0]; exact tr.av) (by rw [Fm0]; exact tr.ov) (by rw [Fm0]; exact tr.ce) (by rw [Fm0]; exact sg)
  rw [Fm0] at e
  have eR : Rm (Wm h) (Pt h) = RX h (Wm h) := by funext n; exact sgm_Rm _ _ _
  rw [eR] at e
  have hN : ∀ f, 0 ≤ f → f < 24 → lays (Wm h) (RX h (Wm h)) (-2) (hA h 991) f.toNat = NE (Wm h) (RX h (Wm h)) f := fun f f0 f1 => lays_NE (by omega) tr.tv tr.ov tr.ce tr.po f0 f1
  refine ⟨_, e, Mo_wA (by decide) _, n24.w (fun j hj => lays_hi hj) rfl, fun f f0 f1 => ?_, fun f => ?_⟩
  · rw [wA_A]; exact hN f f0 f1
  · unfold Nm
    rw [wA_A]
    by_cases z : f.toNat < 24
    · have := hN (f.toNat : Int) (by omega) (by omega)
      rw [Int.toNat_natCast] at this
      rw [this]; exact x.loN _
    · rw [lays_hi (by omega), n24.1 _ (by omega)]
      intro i _ _; exact bt_0 i
end
