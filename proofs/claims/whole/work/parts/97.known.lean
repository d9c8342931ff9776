/-! THE MODEL LAYS WHAT IS SHOWN -/
def updB (k : Int → Bool) (n : Int) (b : Bool) : Int → Bool := fun j => if j = n then b else k j
def phi (A : Int → Int) (fd : Int → Bool) (f : Int) : Int := if fd f = true then A f else -2
def L4 : List Nat := [998, 999, 1000, 1001]
section
variable {h g : HP} {F A : Int → Int} {Cn : Int → List Int32} {kn sn fd : Int → Bool} {fo sh : Int}
theorem updB_at {n j : Int} {b : Bool} (h : j = n) : updB kn n b j = b := by unfold updB; rw [if_pos h]
theorem updB_ne {n j : Int} {b : Bool} (h : j ≠ n) : updB kn n b j = kn j := by unfold updB; rw [if_neg h]
/-- the form that the model looks at -/
def FMs (h : HP) (F A : Int → Int) (Cn : Int → List Int32) (fo sh : Int) : Prop := MS h ∧ (0 ≤ fo ∧ fo ≤ 2588) ∧ (0 ≤ sh ∧ sh < 10) ∧ Fm h fo = F ∧ (∀ n, sgm (Pt h) F n = Cn n) ∧ (∀ n, 0 ≤ n → n < 32 → F n ≠ -1 → SG F n ∧ (Cn n = [] ∨ GLt 15 (Cn n))) ∧ (∀ f, 0 ≤ f → f < 24 → Wm h (2630 + 25 * sh + 1 + f) = A f ∧ (A f = -2 ∨ (0 ≤ A f ∧ A f ≤ 9999)))
theorem FMs.mo (m : FMs h F A Cn fo sh) (p : Mo L4 h g) : FMs g F A Cn fo sh := by
  obtain ⟨M, i2, i3, i4, i5, i6, i7⟩ := m
  have eW : Wm g = Wm h := by funext q; unfold Wm; rw [p.L (by decide)]
  have eP : Pt g = Pt h := by funext q; unfold Pt; rw [p.A (by decide)]
  exact ⟨p.ms M, i2, i3, by rw [← i4]; funext q; unfold Fm; rw [eW], fun n => by rw [eP]; exact i5 n, i6, fun f f0 f1 => by rw [eW]; exact i7 f f0 f1⟩
/-- what the model knows -/
def LSa (g : HP) (kn sn fd : Int → Bool) : Prop := (∀ n, 0 ≤ n → n < 32 → hA g 998 n.toNat = bI (kn n) ∧ hA g 999 n.toNat = bI (sn n)) ∧ ∀ f, 0 ≤ f → f < 24 → hA g 1000 f.toNat = bI (fd f)
def LSk (F A : Int → Int) (Cn : Int → List Int32) (kn sn fd : Int → Bool) : Prop :=
  (∀ n, 0 ≤ n → n < 32 → kn n = true → F n ≠ -1 ∧ (F n = -2 ∨ kn (F n) = true) ∧ ∀ f, 0 ≤ f → f < 24 → bt (RlL (Cn n)) f = true → kn f = true) ∧
  (∀ n, 0 ≤ n → n < 32 → (kn n = true → sn n = sho F (cnd (phi A fd) Cn) 9 n) ∧ (kn n = false → sn n = false)) ∧
  (∀ f, 0 ≤ f → f < 24 → (kn f = true → phi A fd f = fvl F A (sho F (cnd (phi A fd) Cn) 9 f) f) ∧ (kn f = false → fd f = false)) ∧
  ∀ f, 0 ≤ f → f < 24 → fd f = true → 0 ≤ A f ∧ A f ≤ 9999
theorem sho_ends {c : Int → Bool} : ∀ {k m : Nat} {n : Int}, ends F k n → k ≤ m → sho F c m n = sho F c k n := by
  intro k
  induction k with
  | zero =>
    intro m n e _
    have e' : n < 0 := e
    cases m with
    | zero => rfl
    | succ m => simp only [sho]; rw [if_neg (by omega)]
  | succ k ih =>
    intro m n e hm
    cases m with
    | zero => omega
    | succ m =>
      simp only [sho]
      by_cases n0 : 0 ≤ n
      · rw [if_pos n0, if_pos n0]
        rcases e with e | e
        · omega
        · rw [ih e (by omega)]
      · rw [if_neg n0, if_neg n0]
theorem kn_up (t : TR F) (k : LSk F A Cn kn sn fd) : ∀ (j : Nat) (n c : Int), 0 ≤ n → n < 32 → kn n = true → 0 ≤ c → isin F j n c = true → c < 32 ∧ kn c = true := by
  intro j
  induction j with
  | zero =>
    intro n c n0 n1 hn c0 hc
    simp only [isin, beq_iff_eq] at hc
    rw [← hc]; exact ⟨n1, hn⟩
  | succ j ih =>
    intro n c n0 n1 hn c0 hc
    simp only [isin] at hc
    by_cases q : n = c
    · rw [← q]; exact ⟨n1, hn⟩
    · rw [if_pos ⟨n0, q⟩] at hc
      obtain ⟨p, par, _⟩ := k.1 n n0 n1 hn
      rcases par with z | z
      · exfalso
        rw [z] at hc
        cases j with
        | zero => simp only [isin, beq_iff_eq] at hc; omega
        | succ j => simp only [isin] at hc; rw [if_neg (by omega)] at hc; rw [beq_iff_eq] at hc; omega
      · rcases t.tv.grp n0 n1 p with w | ⟨w1, w2, w3⟩
        · exfalso
          rw [w] at hc
          cases j with
          | zero => simp only [isin, beq_iff_eq] at hc; omega
          | succ j => simp only [isin] at hc; rw [if_neg (by omega)] at hc; rw [beq_iff_eq] at hc; omega
        · exact ih (F n) c (by omega) w2 z c0 hc
/-- a node that is not known is asked by none that is -/
theorem kn_say (t : TR F) (tk : ∀ n, 0 ≤ n → n < 32 → F n ≠ -1 → ∀ u ∈ Cn n, tkOk F u) (k : LSk F A Cn kn sn fd) {φ ψ : Int → Int} (e : ∀ f, 0 ≤ f → f < 24 → kn f = true → φ f = ψ f) {m : Int} (m0 : 0 ≤ m) (m1 : m < 32) (ask : ∀ f, 0 ≤ f → f < 24 → bt (RlL (Cn m)) f = true → kn f = true) (p : F m ≠ -1) : cnd φ Cn m = cnd ψ Cn m := by
  unfold cnd rv
  rw [rpn_congr (Cn m) [] (fun u hu ut => ?_)]
  have tks := tk m m0 m1 p
  rcases tks u hu with ⟨f', s, v, b1, b2, b3, b4, b5, b6, b7, rfl⟩ | q | q | q
  · obtain ⟨d1, _, _⟩ := dec_tcd b1 b2 b4 b5 b6 b7
    rw [d1]
    refine e f' b1 b2 (ask f' b1 b2 ?_)
    exact (RlL_bt (Cn m) (fun t ht => tk_bits (tks t ht)) b1 (by omega)).mpr ⟨_, hu, ut, tF_c b1 (by omega) b4 b5 b6 b7⟩
  · rw [q] at ut; exact absurd ut (by decide)
  · rw [q] at ut; exact absurd ut (by decide)
  · rw [q] at ut; exact absurd ut (by decide)
theorem kn_sho (t : TR F) (tk : ∀ n, 0 ≤ n → n < 32 → F n ≠ -1 → ∀ u ∈ Cn n, tkOk F u) (k : LSk F A Cn kn sn fd) {φ ψ : Int → Int} (e : ∀ f, 0 ≤ f → f < 24 → kn f = true → φ f = ψ f) {n : Int} (n0 : 0 ≤ n) (n1 : n < 32) (hn : kn n = true) : sho F (cnd φ Cn) 9 n = sho F (cnd ψ Cn) 9 n := by
  refine sho_congr 9 n fun m m0 hm => ?_
  obtain ⟨m1, km⟩ := kn_up t k 9 n m n0 n1 hn m0 hm
  obtain ⟨p, _, ask⟩ := k.1 m m0 m1 km
  exact kn_say t tk k e m0 m1 ask p
/-- one more node is known -/
theorem LSk_step (t : TR F) (tk : ∀ n, 0 ≤ n → n < 32 → F n ≠ -1 → ∀ u ∈ Cn n, tkOk F u) (kd : KD F) (an : ∀ f, 0 ≤ f → f < 24 → A f = -2 ∨ (0 ≤ A f ∧ A f ≤ 9999)) (k : LSk F A Cn kn sn fd) {n : Int} (n0 : 0 ≤ n) (n1 : n < 32) (p : F n ≠ -1) (un : kn n = false) (par : F n = -2 ∨ kn (F n) = true) (ask : ∀ f, 0 ≤ f → f < 24 → bt (RlL (Cn n)) f = true → kn f = true) (sv : Bool) (esv : sv = ((decide (F n < 0) || sn (F n)) && rv (phi A fd) (Cn n))) (fv : Bool) (efv : n < 24 → fv = (sv && decide (F (96 + n) ≤ A n ∧ A n ≤ F (128 + n)))) : LSk F A Cn (updB kn n true) (updB sn n sv) (if n < 24 then updB fd n fv else fd) := by
  obtain ⟨k1, k2, k3, k4⟩ := id k
  obtain ⟨fd', efd⟩ : ∃ fd', fd' = (if n < 24 then updB fd n fv else fd) := ⟨_, rfl⟩
  rw [← efd]
  have fdn : ∀ f, f ≠ n → fd' f = fd f := fun f hf => by
    rw [efd]
    by_cases c : n < 24
    · rw [if_pos c, updB_ne hf]
    · rw [if_neg c]
  have fdn' : n < 24 → fd' n = fv := fun c => by rw [efd, if_pos c, updB_at rfl]
  have φn : ∀ f, f ≠ n → phi A fd' f = phi A fd f := fun f hf => by unfold phi; rw [fdn f hf]
  have ne : ∀ f, kn f = true → f ≠ n := fun f hf z => by rw [z, un] at hf; cases hf
  have e : ∀ f, 0 ≤ f → f < 24 → kn f = true → phi A fd' f = phi A fd f := fun f _ _ hf => φn f (ne f hf)
  -- the node itself
  have av := t.av n n0 n1
  have same : sv = sho F (cnd (phi A fd') Cn) 9 n := by
    have st : sho F (cnd (phi A fd') Cn) 9 n = (cnd (phi A fd') Cn n && sho F (cnd (phi A fd') Cn) 8 (F n)) := by
      show (if 0 ≤ n then _ else _) = _
      rw [if_pos n0]
    rw [st, kn_say t tk k e n0 n1 ask p, esv, Bool.and_comm]
    congr 1
    rcases t.tv.grp n0 n1 p with z | ⟨z1, z2, z3⟩
    · rw [z]; rfl
    · have kp : kn (F n) = true := by rcases par with w | w; omega; exact w
      rw [decide_eq_false (by omega), Bool.false_or, (k2 (F n) (by omega) z2).1 kp, ← sho_ends (t.ce (F n) (by omega) z2) (show 8 ≤ 9 by omega), kn_sho t tk k e (by omega) z2 kp]
  have fvs : n < 24 → phi A fd' n = fvl F A sv n := fun c => by
    have kdn := (kd n n0 n1 p).1 c
    unfold phi fvl
    rw [fdn' c, efv c]
    by_cases w : sv = true ∧ F (96 + n) ≤ A n ∧ A n ≤ F (128 + n)
    · rw [if_pos (by rw [w.1, decide_eq_true w.2]; rfl), if_pos ⟨w.1, by omega, w.2⟩]
    · rw [if_neg (fun y => ?_), if_neg (fun y => w ⟨y.1, y.2.2⟩)]
      rw [Bool.and_eq_true, decide_eq_true_eq] at y
      exact w y
  refine ⟨fun m m0 m1 hm => ?_, fun m m0 m1 => ⟨fun hm => ?_, fun hm => ?_⟩, fun f f0 f1 => ⟨fun hf => ?_, fun hf => ?_⟩, fun f f0 f1 hf => ?_⟩
  · by_cases c : m = n
    · rw [c]
      refine ⟨p, par.imp id fun w => ?_, fun f f0 f1 hf => ?_⟩
      · rw [updB_ne (ne _ w)]; exact w
      · have := ask f f0 f1 hf
        rw [updB_ne (ne _ this)]; exact this
    · rw [updB_ne c] at hm
      obtain ⟨a1, a2, a3⟩ := k1 m m0 m1 hm
      refine ⟨a1, a2.imp id fun w => ?_, fun f f0 f1 hf => ?_⟩
      · rw [updB_ne (ne _ w)]; exact w
      · have := a3 f f0 f1 hf
        rw [updB_ne (ne _ this)]; exact this
  · by_cases c : m = n
    · rw [c, updB_at rfl]; exact same
    · rw [updB_ne c] at hm ⊢
      rw [(k2 m m0 m1).1 hm, kn_sho t tk k e m0 m1 hm]
  · have c : m ≠ n := fun z => by rw [updB_at z] at hm; cases hm
    rw [updB_ne c] at hm ⊢
    exact (k2 m m0 m1).2 hm
  · by_cases c : f = n
    · have f24 : n < 24 := by omega
      rw [c, fvs f24, ← same]
    · rw [updB_ne c] at hf
      rw [φn f c, (k3 f f0 f1).1 hf, kn_sho t tk k e f0 (by omega) hf]
  · have c : f ≠ n := fun z => by rw [updB_at z] at hf; cases hf
    rw [updB_ne c] at hf
    rw [fdn f c]; exact (k3 f f0 f1).2 hf
  · by_cases c : f = n
    · have f24 : n < 24 := by omega
      rw [c, fdn' f24, efv f24, Bool.and_eq_true, decide_eq_true_eq] at hf
      have kdn := (kd n n0 n1 p).1 f24
      have := an n n0 f24
      rw [c]; omega
    · rw [fdn f c] at hf; exact k4 f f0 f1 hf
/-- when no node can be added all are known -/
theorem kn_all {np : Nat} (w : FWf F Cn np) (k : LSk F A Cn kn sn fd) (st : ∀ n, 0 ≤ n → n < 32 → F n ≠ -1 → kn n = true ∨ (0 ≤ F n ∧ kn (F n) = false) ∨ ∃ f, 0 ≤ f ∧ f < 24 ∧ bt (RlL (Cn n)) f = true ∧ kn f = false) : ∀ n, 0 ≤ n → n < 32 → F n ≠ -1 → kn n = true := by
  obtain ⟨⟨t, _⟩, _, tk, ac, _⟩ := w
  have lo := NE_lo t.tv t.ce (R := fun n => RlL (Cn n)) (fun n a b d => RlL_lo (tk n a b d))
  -- the fields
  have flds : ∀ f, 0 ≤ f → f < 24 → F f ≠ -1 → kn f = true := by
    intro f f0 f1 p
    apply Classical.byContradiction
    intro ne
    obtain ⟨s, es⟩ : ∃ s, s = fmk kn 24 0 (i32 0) := ⟨_, rfl⟩
    have bs : ∀ g, 0 ≤ g → g < 24 → (bt s g = true ↔ kn g = true) := fun g g0 g1 => by
      rw [es, fmk_bt g0 (by omega) 24 0 (i32 0) (by omega) (by omega), bt_0]
      constructor
      · rintro (z | z)
        · cases z
        · exact z.2.2
      · intro z; exact Or.inr ⟨g0, by omega, z⟩
    obtain ⟨g, g0, g1, gn⟩ := nx_ex (F := F) lo ac (fun f g g0 g1 e => NE_fld t tk g0 g1 e) (s := s) 24 f f0 f1 p (by
      cases z : bt s f with
      | false => rfl
      | true => exact absurd ((bs f f0 f1).mp z) ne) (by
      have := cb_rng (cl (NE F (fun n => RlL (Cn n))) 24 (NE F (fun n => RlL (Cn n)) f))
      omega)
    obtain ⟨n1, n2, n3⟩ := nxt_sub gn
    have up : ∀ (j : Nat) (c : Int), 0 ≤ c → ends F j c → isin F 9 g c = true → kn c = true := by
      intro j
      induction j with
      | zero => intro c c0 e _; have e' : c < 0 := e; omega
      | succ j ih =>
        intro c c0 e hc
        obtain ⟨c1, cp⟩ := isin_there t.tv c0 9 g (Or.inr ⟨g0, by omega, n1⟩) hc
        rcases st c c0 c1 cp with z | ⟨z1, z2⟩ | ⟨o, o0, o1, z1, z2⟩
        · exact z
        · exfalso
          have pc : isin F 9 g (F c) = true := by
            rw [isin_ch z1 (t.ce.ends (by omega))]
            exact inch_tr ((isin_ch c0 (t.ce.ends (by omega))).mp hc) (inch_par c0)
          rcases e with e | e
          · omega
          · rw [ih (F c) z1 e pc] at z2; cases z2
        · exfalso
          have no : bt (NE F (fun n => RlL (Cn n)) g) o = true := (NE_bt t.tv t.ce g0 g1 n1).mpr ⟨c, c0, c1, hc, z1⟩
          have := (bs o o0 o1).mp (n3 o o0 (by omega) no)
          rw [this] at z2; cases z2
    have := up 9 g g0 (t.ce.ends (by omega)) (by rw [isin_ch g0 (t.ce.ends (by omega))]; exact inch_rfl)
    rw [(bs g g0 g1).mpr this] at n2; cases n2
  have all : ∀ (j : Nat) (c : Int), 0 ≤ c → c < 32 → F c ≠ -1 → ends F j c → kn c = true := by
    intro j
    induction j with
    | zero => intro c c0 _ _ e; have e' : c < 0 := e; omega
    | succ j ih =>
      intro c c0 c1 cp e
      rcases st c c0 c1 cp with z | ⟨z1, z2⟩ | ⟨o, o0, o1, z1, z2⟩
      · exact z
      · exfalso
        rcases t.tv.grp c0 c1 cp with w | ⟨w1, w2, w3⟩
        · omega
        · rcases e with e | e
          · omega
          · rw [ih (F c) z1 w2 w3 e] at z2; cases z2
      · exfalso
        have q := (RlL_pr (tk c c0 c1 cp) o0 (by omega) z1).2
        rw [flds o o0 o1 q] at z2; cases z2
  exact fun n n0 n1 p => all 8 n n0 n1 p (t.ce n n0 n1)
end

