/-! THE CLASS READS THE CONDITION OF A NODE -/
theorem lpP_x {x : Nat} (h : x < 983 ∨ 1008 ≤ x) (h2 : x ≠ 0) : lpP.contains (5000 + x) = false := by simp [lpP]; omega
theorem ccond_s {g : HP} {b : Int → Int} {n : Int} {c j : Nat} {S : List TS} {ts : Nat → Nat} {ow : Int} (n0 : 0 ≤ n) (n1 : n ≤ 1200) (P : CP g b n c j S ts) {tg : Nat} (ot : isO g tg 2 = true) (tl : tg < 983) (t62 : tg ≠ 62) (t99 : tg ≠ 99) : ∃ ok g', fX3_condition 62 (i32 ow) (some tg) g = some (ok, g') ∧ ok = (pcond (tkn b n) ow j S).1 ∧ j ≤ (pcond (tkn b n) ow j S).2.1 ∧ Co ((pcond (tkn b n) ow j S).2.1 - j) (195 :: (5000 + tg) :: lpP) g g' ∧ (∀ f, 128 ≤ f → f < 138 → f ≠ 136 → hI g' f tg = hI g f tg) ∧ hJ g' 129 tg = hJ g 129 tg ∧ ((pcond (tkn b n) ow j S).1 = true → (j < (pcond (tkn b n) ow j S).2.1 ∧ (pcond (tkn b n) ow j S).2.1 ≤ c) ∧ ∃ t ts', hR g' 135 tg = some t ∧ hI g' 136 tg = i32 ((pcond (tkn b n) ow j S).2.2.1.length - S.length) ∧ CP g' b n c (pcond (tkn b n) ow j S).2.1 (pcond (tkn b n) ow j S).2.2.1 ts' ∧ (∀ k, k < S.length → ts' k = ts k) ∧ S.length ≤ (pcond (tkn b n) ow j S).2.2.1.length ∧ IsT g' (lfT ts' (pcond (tkn b n) ow j S).2.2.1.length) opI 15 (hsz g) (hsz g') t (pcond (tkn b n) ow j S).2.2.2) ∧ ((pcond (tkn b n) ow j S).1 = false → hI g' 192 62 = i32 (tks (tkn b n (pcond (tkn b n) ow j S).2.1))) := by
  obtain ⟨g3, e3⟩ : ∃ g3, g3 = sI g 195 62 (i32 ow) := ⟨_, rfl⟩
  have q3 : Co 0 [195] g g3 := by rw [e3]; exact Co_I (Or.inl (by decide)) _
  have P3 : CP g3 b n c j S ts := P.co q3 (by decide) (by decide) (fun x hx => by simp; omega)
  have ho : hI g3 195 62 = i32 ow := by rw [e3, rII, if_pos ⟨rfl, rfl⟩]
  obtain ⟨r, g6, e6, p1, p2, p3, p4⟩ := cdis_s n0 n1 g3 j S ts P3 ho
  generalize pcond (tkn b n) ow j S = PD at p1 p2 p3 p4 ⊢
  have tz : tg < hsz g := isO_lt ot
  have ot6 : isO g6 tg 2 = true := isO_sk p2.sk (isO_sk q3.sk ot)
  obtain ⟨g10, e10⟩ : ∃ g10, g10 = sR g6 135 tg r := ⟨_, rfl⟩
  have C3 := P3.1.cs
  have C6 : CS g6 := C3.sk p2.sk
  have C10 : CS g10 := by rw [e10]; exact C6.sk (sk_sR rfl (Or.inl rfl))
  have hz3 : hsz g3 = hsz g := by rw [e3, rsI]
  have q03 : Co 0 (195 :: (5000 + tg) :: lpP) g g3 := by rw [e3]; exact Co_I (Or.inl (by simp)) _
  have lw : lsub lpP (195 :: (5000 + tg) :: lpP) = true := by
    unfold lsub
    rw [List.all_eq_true]
    intro x hx
    simp [hx]
  have q06 : Co (PD.2.1 - j) (195 :: (5000 + tg) :: lpP) g g6 := by
    have := q03.t (p2.w lw)
    rwa [Nat.zero_add] at this
  have iI : ∀ f, lpP.contains f = false → f ≠ 195 → hI g6 f tg = hI g f tg := fun f h1 h2 => by
    rw [p2.I (by omega) h1 (lpP_x (Or.inl tl) (fun z => by
      have := isO_tg ot
      have := isO_tg P.1.cs.o
      rw [z] at *; omega)), e3, rII, if_neg (fun z => h2 z.1)]
  have tg0 : tg ≠ 0 := fun z => by
    have h1 := isO_tg ot
    have h2 := isO_tg P.1.cs.o
    rw [z] at h1; omega
  have h196 : hI g10 196 62 = hI g6 196 62 := by rw [e10, rIR]
  unfold fX3_condition
  rw [P.1.cs.o_parser, gd_tt, P.ln, lt_e, lt_e, ← e3, e6, bn2_s, oc_s, ot6, gd_tt, lt_e, ← e10, C10.o_parser, gd_tt, lt_e]
  have r135 : ∀ v, hR (sI g10 136 tg v) 135 tg = r := fun v => by rw [rRI, e10, rRR, if_pos ⟨rfl, rfl⟩]
  rw [r135]
  have fin : ∀ v : Int32, Co (PD.2.1 - j) (195 :: (5000 + tg) :: lpP) g (sI g10 136 tg v) ∧ (∀ f, 128 ≤ f → f < 138 → f ≠ 136 → hI (sI g10 136 tg v) f tg = hI g f tg) ∧ hJ (sI g10 136 tg v) 129 tg = hJ g 129 tg := by
    intro v
    refine ⟨?_, fun f h1 h2 h3 => ?_, ?_⟩
    · rw [e10]
      exact (q06.t0 (Co_R (Or.inr (by simp)) (Or.inl rfl) _)).t0 (Co_I (Or.inr (by simp)) _)
    · rw [rII, if_neg (fun z => h3 z.1), e10, rIR]
      exact iI f (by simp [lpP]; omega) (by omega)
    · rw [rJI, e10, rJR, p2.J (by omega) (by decide) (lpP_x (Or.inl tl) tg0), e3, rJI]
  cases ok : PD.1 with
  | false =>
    obtain ⟨r1, r2⟩ := p4 ok
    subst r1
    rw [on_nn]
    obtain ⟨f1, f2, f3⟩ := fin (hI g10 196 62 - i32 S.length)
    refine ⟨_, _, rfl, rfl, p1, f1, f2, f3, fun z => (by cases z), fun _ => ?_⟩
    rw [rII, if_neg (fun z => absurd z.1 (by decide)), e10, rIR]; exact r2
  | true =>
    obtain ⟨x1, t, ts', x2, x3, x4, x5, x6, x7⟩ := p3 ok
    subst x2
    rw [on_sm]
    obtain ⟨f1, f2, f3⟩ := fin (hI g10 196 62 - i32 S.length)
    have q10 : Co 0 [135, 136] g6 (sI g10 136 tg (hI g10 196 62 - i32 S.length)) := by rw [e10]; exact (Co_R (Or.inl (by decide)) (Or.inl rfl) _).t0 (Co_I (Or.inl (by decide)) _)
    refine ⟨_, _, rfl, rfl, p1, f1, f2, f3, fun _ => ⟨x1, t, ts', r135 _, ?_, x3.co q10 (by decide) (by decide) (fun x hx => by simp; omega), x4, x5, ?_⟩, fun z => by cases z⟩
    · rw [rII, if_pos ⟨rfl, rfl⟩, h196, x3.ln, i32_sub]
    · have hz : hsz (sI g10 136 tg (hI g10 196 62 - i32 S.length)) = hsz g6 := by rw [e10]; rfl
      rw [hz, ← hz3]
      exact IsT_fr _ _ _ _ _ x6 (fun x x0 x1 ox => ⟨isO_sk q10.sk ox, q10.I x1 (by decide) (by simp; omega), q10.R x1 (by decide) (by simp; omega), fun e h => h⟩) (fun x x0 x1 _ => q10.R x1 (by decide) (by simp; omega))
/-! A NODE BY ITS NAME -/
def nmd (F : Int → Int) (w : Int) : Nat → Int → Int
  | 0, _ => -2
  | k + 1, i => if F (32 + F (256 + i)) = w then F (256 + i) else nmd F w k (i + 1)
def fnm (F : Int → Int) (w : Int) : Int := nmd F w (F 288).toNat 0
/-- the names of what is there: words, no two the same -/
def NMs (F : Int → Int) : Prop := (∀ n, 0 ≤ n → n < 32 → F n ≠ -1 → NV (F (32 + n))) ∧ ∀ n m, 0 ≤ n → n < 32 → 0 ≤ m → m < 32 → F n ≠ -1 → F m ≠ -1 → F (32 + n) = F (32 + m) → n = m
theorem nmd_spec {F : Int → Int} {w : Int} : ∀ (k : Nat) (i : Int), (nmd F w k i = -2 ∧ ∀ q, i ≤ q → q < i + k → F (32 + F (256 + q)) ≠ w) ∨ ∃ q, i ≤ q ∧ q < i + k ∧ nmd F w k i = F (256 + q) ∧ F (32 + F (256 + q)) = w := by
  intro k
  induction k with
  | zero => intro i; exact Or.inl ⟨rfl, fun q a b => by omega⟩
  | succ k ih =>
    intro i
    simp only [nmd]
    by_cases c : F (32 + F (256 + i)) = w
    · rw [if_pos c]; exact Or.inr ⟨i, by omega, by omega, rfl, c⟩
    · rw [if_neg c]
      rcases ih (i + 1) with ⟨a, b⟩ | ⟨q, q0, q1, a, b⟩
      · refine Or.inl ⟨a, fun q q0 q1 => ?_⟩
        by_cases e : q = i
        · rw [e]; exact c
        · exact b q (by omega) (by omega)
      · exact Or.inr ⟨q, by omega, by omega, a, b⟩
theorem fnm_spec {F : Int → Int} {w : Int} (O : OV F) : (fnm F w = -2 ∧ ∀ q, 0 ≤ q → q < F 288 → F (32 + F (256 + q)) ≠ w) ∨ ∃ q, 0 ≤ q ∧ q < F 288 ∧ fnm F w = F (256 + q) ∧ F (32 + F (256 + q)) = w := by
  have o1 := O.1
  rcases nmd_spec (F := F) (w := w) (F 288).toNat 0 with ⟨a, b⟩ | ⟨q, q0, q1, a, b⟩
  · exact Or.inl ⟨a, fun q q0 q1 => b q q0 (by omega)⟩
  · exact Or.inr ⟨q, q0, by omega, a, b⟩
theorem fst_nmd {F : Int → Int} {w : Int} {p : Int → Bool} (O : OV F) (P : OP F) (Q : PO F) (N : NMs F) (hp : ∀ n, 0 ≤ n → n < 32 → (p n = true ↔ (F n ≠ -1 ∧ F (32 + n) = w))) : fst p (-2) 32 0 = fnm F w := by
  rcases fst_spec (p := p) (e := -2) 32 0 with ⟨h1, h2⟩ | ⟨h1, h2, h3, h4⟩
  · rw [h1]
    rcases fnm_spec (F := F) (w := w) O with ⟨a, b⟩ | ⟨q, q0, q1, a, b⟩
    · exact a.symm
    · have o := O.2.2 q q0 q1
      have := (hp _ o.1 o.2).mpr ⟨P q q0 q1, b⟩
      rw [h2 _ o.1 (by omega)] at this
      cases this
  · obtain ⟨g1, g2⟩ := (hp _ h1 (by omega)).mp h3
    rcases fnm_spec (F := F) (w := w) O with ⟨a, b⟩ | ⟨q, q0, q1, a, b⟩
    · obtain ⟨i, i0, i1, e⟩ := Q _ h1 (by omega) g1
      exact absurd (by rw [e]; exact g2) (b i i0 i1)
    · have o := O.2.2 q q0 q1
      rw [a]
      exact N.2 _ _ h1 (by omega) o.1 o.2 g1 (P q q0 q1) (g2.trans b.symm)
theorem nodeNamedL_s {h : HP} (M : MS h) {fo w : Int} (h0 : 0 ≤ fo) (h1 : fo ≤ 2588) (w0 : -9223372036854775808 ≤ w) (w1 : w < 9223372036854775808) (O : OV (Fm h fo)) : ∀ (k n : Nat) (i : Int), 0 ≤ i → i + k = Fm h fo 288 → k < n → lX11_nodeNamed_3 h n 983 (i32 fo) (i64 w) (i32 i) = some (i32 (nmd (Fm h fo) w k i)) := by
  intro k
  have o1 := O.1
  have o2 := O.2.1
  induction k with
  | zero =>
    intro n i i0 e hn
    obtain ⟨m, rfl⟩ : ∃ m, n = m + 1 := ⟨n - 1, by omega⟩
    rw [elX11_nodeNamed_3]; unfold bX11_nodeNamed_3
    have c : i32 (Fm h fo 288) ≤ i32 i := by rw [i32_le (by omega) (by omega) (by omega) (by omega)]; omega
    rw [M.o, gd_tt, many_s M h0 h1, bn_s, if_pos c]; rfl
  | succ k ih =>
    intro n i i0 e hn
    obtain ⟨m, rfl⟩ : ∃ m, n = m + 1 := ⟨n - 1, by omega⟩
    have o := O.2.2 i i0 (by omega)
    rw [elX11_nodeNamed_3]; unfold bX11_nodeNamed_3
    have c : ¬ i32 (Fm h fo 288) ≤ i32 i := by rw [i32_le (by omega) (by omega) (by omega) (by omega)]; omega
    rw [M.o, gd_tt, many_s M h0 h1, bn_s, if_neg c, ordered_s M h0 h1 i0 (by omega), bn_s, M.r_world, oc_s, M.o_world, gd_tt, M.n_world, i32_add, i32_add, i32_inb (by omega) (by omega) (by omega), gd_tt, i32_cn (by omega) (by omega)]
    have er : hL h 987 (fo + 32 + Fm h fo (256 + i)).toNat = i64 (Fm h fo (32 + Fm h fo (256 + i))) := by
      rw [Wm_e]; congr 1
      unfold Fm; congr 1; omega
    have rg : -9223372036854775808 ≤ Fm h fo (32 + Fm h fo (256 + i)) ∧ Fm h fo (32 + Fm h fo (256 + i)) < 9223372036854775808 := i64_rng _
    rw [er]
    simp only [nmd]
    by_cases d : Fm h fo (32 + Fm h fo (256 + i)) = w
    · rw [if_pos (by rw [d]), if_pos d]
    · rw [if_neg (by rw [i64_eq rg.1 rg.2 w0 w1]; exact d), if_neg d, i32_add, lt_e]
      exact ih m (i + 1) (by omega) (by omega) (by omega)
theorem nodeNamed_s {h : HP} (M : MS h) {fo w : Int} (h0 : 0 ≤ fo) (h1 : fo ≤ 2588) (w0 : -9223372036854775808 ≤ w) (w1 : w < 9223372036854775808) (O : OV (Fm h fo)) : fX11_nodeNamed 983 (i32 fo) (i64 w) h = some (i32 (fnm (Fm h fo) w)) := by
  have o1 := O.1
  have o2 := O.2.1
  unfold fX11_nodeNamed fnm
  exact nodeNamedL_s M h0 h1 w0 w1 O (Fm h fo 288).toNat FU 0 (by decide) (by omega) (by have : FU = 1000000 := rfl; omega)
/-- the class finds the same -/
theorem cname_s {h : HP} {a : Nat} (S : FormAt h a) {F : Int → Int} {w : Int} (E : EqT (Fc h a) F) (O : OV F) (P : OP F) (Q : PO F) (N : NMs F) (nm : ∀ n, 0 ≤ n → n < 32 → F n ≠ -1 → hJ h 129 (a + 4 + n.toNat) = i64 (lft (F (32 + n)))) (hw : NV w) : fX0_findName a (i64 (lft w)) h = some (i32 (fnm F w)) := by
  rw [cname S]
  congr 2
  apply fst_nmd O P Q N
  intro n n0 n1
  rw [decide_eq_true_eq, E.1 n n0 n1]
  constructor
  · rintro ⟨c, d⟩
    refine ⟨c, ?_⟩
    rw [nm n n0 n1 c] at d
    have v := N.1 n n0 n1 c
    have r1 := lft_rng v
    have r2 := lft_rng hw
    rw [i64_eq (by omega) (by omega) (by omega) (by omega)] at d
    exact lft_inj v hw d
  · rintro ⟨c, d⟩
    refine ⟨c, ?_⟩
    rw [nm n n0 n1 c, d]
theorem fnm_rng {F : Int → Int} {w : Int} (O : OV F) : fnm F w = -2 ∨ (0 ≤ fnm F w ∧ fnm F w < 32) := by
  rcases fnm_spec (w := w) O with ⟨a, _⟩ | ⟨q, q0, q1, a, _⟩
  · exact Or.inl a
  · have o := O.2.2 q q0 q1
    right; rw [a]; exact o
/-- names of a form of the class -/
def FNm (g : HP) (a : Nat) (F : Int → Int) : Prop := EqT (Fc g a) F ∧ ∀ n, 0 ≤ n → n < 32 → F n ≠ -1 → hJ g 129 (a + 4 + n.toNat) = i64 (lft (F (32 + n)))
theorem ctakeName {g : HP} {b : Int → Int} {n : Int} {c j : Nat} {F : Int → Int} (n0 : 0 ≤ n) (n1 : n ≤ 1200) (P : CQ g b n c j) (j1 : j < 90000) (R : FNm g 63 F) (O : OV F) (OPf : OP F) (Q : PO F) (N : NMs F) : (tK b n j = 2 ∧ fnm F (tkv (tkn b n j)) < 0 ∧ ∃ g', fX3_takeNewName 62 g = some (i64 (lft (tkv (tkn b n j))), g') ∧ Co 0 [448, 449, 450, 451] g g' ∧ CQ g' b n c (j + 1)) ∨ (¬ (tK b n j = 2 ∧ fnm F (tkv (tkn b n j)) < 0) ∧ ∃ g', fX3_takeNewName 62 g = some (i64 0, g') ∧ Co 0 [192] g g' ∧ hI g' 192 62 = i32 (tks (tkn b n j))) := by
  have tv := tk_val (b := b) n0 j
  obtain ⟨gf, f1, f2, f3⟩ := fail_s P
  obtain ⟨gs, s1, s2, s3⟩ := P.step n0 n1 j1
  have tr : 0 ≤ tkk (tkn b n j) ∧ tkk (tkn b n j) < 128 := by omega
  have bad : jX3_takeNewName_30 62 g = some (i64 0, gf) := by
    unfold jX3_takeNewName_30
    rw [P.cs.o_parser, gd_tt, f1, bn2_s]
  unfold fX3_takeNewName
  rw [P.cs.o_parser, gd_tt, P.cs.r_tokens, oc_s, P.cs.o_tokens, gd_tt, lt_e, P.k]
  by_cases c2 : tkk (tkn b n j) = 2
  · have nv := (tv.2.1 (Or.inl c2)).1
    have v := P.v (by omega) (by omega)
    have ev : cvt (tkn b n j) = lft (tkv (tkn b n j)) := by unfold cvt; rw [if_pos (Or.inl c2)]
    rw [ev] at v
    have fr := fnm_rng (w := tkv (tkn b n j)) O
    rw [if_pos (by rw [c2]), P.cs.r_pform, oc_s, P.cs.o_pform, gd_tt, v, cname_s P.cs.sf R.1 O OPf Q N R.2 nv, bn_s]
    by_cases c3 : fnm F (tkv (tkn b n j)) < 0
    · rw [if_pos (by rw [i32_z, i32_lt (by omega) (by omega) (by omega) (by omega)]; exact c3), s1, bn_s]
      exact Or.inl ⟨c2, c3, gs, rfl, s2, s3⟩
    · rw [if_neg (by rw [i32_z, i32_lt (by omega) (by omega) (by omega) (by omega)]; exact c3), bad]
      exact Or.inr ⟨fun z => c3 z.2, gf, rfl, f2, f3⟩
  · rw [if_neg (by rw [i32_eq (by omega) (by omega) (by omega) (by omega)]; exact c2), bad]
    exact Or.inr ⟨fun z => c2 z.1, gf, rfl, f2, f3⟩
/-! THE MODEL'S WORLD WRITTEN -/
def updI (φ : Int → Int) (i v : Int) : Int → Int := fun k => if k = i then v else φ k
def wW (h : HP) (φ : Int → Int) : HP := wL h 987 (fun i => i64 (φ (i : Int)))
theorem wW_self (h : HP) : wW h (Wm h) = h := by
  unfold wW
  have e : (fun i : Nat => i64 (Wm h (i : Int))) = hL h 987 := by
    funext i; unfold Wm; rw [i64_eta]; rfl
  rw [e, wL_self]
theorem wW_wW (h : HP) (φ ψ : Int → Int) : wW (wW h φ) ψ = wW h ψ := wL_wL _ _ _ _
theorem wW_L {h : HP} {φ : Int → Int} {i : Int} (i0 : 0 ≤ i) : hL (wW h φ) 987 i.toNat = i64 (φ i) := by
  unfold wW; rw [wL_L]
  show i64 (φ ((i.toNat : Nat) : Int)) = _
  rw [Int.toNat_of_nonneg i0]
theorem sL_wW {h : HP} {φ : Int → Int} {i v : Int} (i0 : 0 ≤ i) : sL (wW h φ) 987 i.toNat (i64 v) = wW h (updI φ i v) := by
  unfold wW
  rw [sL_wL]
  congr 1
  funext k
  unfold up1 updI
  by_cases c : k = i.toNat
  · rw [if_pos c, if_pos (by omega)]
  · rw [if_neg c, if_neg (by omega)]
theorem wW_Wm {h : HP} {φ : Int → Int} {i : Int} (i0 : 0 ≤ i) (r : -9223372036854775808 ≤ φ i ∧ φ i < 9223372036854775808) : Wm (wW h φ) i = φ i := by
  unfold Wm; rw [wW_L i0]; exact i64_toInt r.1 r.2
theorem wW_ms {h : HP} (M : MS h) (φ : Int → Int) : MS (wW h φ) := M.sk (wL_sk _ _ _)
theorem wW_mo {h : HP} (φ : Int → Int) : Mo [987] h (wW h φ) := Mo_wL (by decide) _
theorem wW_I {h : HP} (φ : Int → Int) : hI (wW h φ) = hI h := rfl
/-- the order makes room at a place -/
def shf (φ : Int → Int) (p i : Int) : Int → Int := fun k => if 256 + p < k ∧ k ≤ 256 + i then φ (k - 1) else φ k
theorem beginsL_s {h : HP} (M : MS h) {p : Int} (hp : hI h 731 983 = i32 p) (p0 : 0 ≤ p) (p1 : p ≤ 32) {K : Nat → Int32 → Int32 → Int32 → Int64 → HP → Option HP} {v1 v2 v3 : Int32} {v4 : Int64} : ∀ (k m : Nat) (i : Int) (φ : Int → Int), i = p + k → i ≤ 32 → k < m → lX11_begins_48 K m 983 v1 v2 v3 v4 (i32 i) (wW h φ) = K 983 v1 v2 v3 v4 (wW h (shf φ p i)) := by
  intro k
  induction k with
  | zero =>
    intro m i φ e i1 hm
    obtain ⟨m, rfl⟩ : ∃ x, m = x + 1 := ⟨m - 1, by omega⟩
    have M' := wW_ms M φ
    rw [elX11_begins_48]; unfold bX11_begins_48
    have c : i32 i ≤ i32 p := by rw [i32_le (by omega) (by omega) (by omega) (by omega)]; omega
    rw [M'.o, gd_tt, wW_I, hp, if_pos c]
    congr 2
    funext q
    unfold shf
    rw [if_neg (by omega)]
  | succ k ih =>
    intro m i φ e i1 hm
    obtain ⟨m, rfl⟩ : ∃ x, m = x + 1 := ⟨m - 1, by omega⟩
    have M' := wW_ms M φ
    rw [elX11_begins_48]; unfold bX11_begins_48
    have c : ¬ i32 i ≤ i32 p := by rw [i32_le (by omega) (by omega) (by omega) (by omega)]; omega
    rw [M'.o, gd_tt, wW_I, hp, if_neg c, M'.r_world, oc_s, M'.o_world, gd_tt, M'.n_world, i32_add, i32_sub, i32_inb (by omega) (by omega) (by omega), gd_tt, i32_inb (by omega) (by omega) (by omega), gd_tt, i32_cn (by omega) (by omega), i32_cn (by omega) (by omega), wW_L (by omega), sL_wW (by omega), lt_e, i32_add, lt_e]
    rw [show i + -1 = i - 1 by omega]
    refine (ih m (i - 1) (updI φ (256 + i) (φ (256 + i - 1))) (by omega) (by omega) (by omega)).trans ?_
    congr 2
    funext q
    unfold shf updI
    by_cases c1 : 256 + p < q ∧ q ≤ 256 + (i - 1)
    · rw [if_pos c1, if_neg (show ¬ q - 1 = 256 + i by omega), if_pos (show 256 + p < q ∧ q ≤ 256 + i from ⟨c1.1, by omega⟩)]
    · rw [if_neg c1]
      by_cases c2 : q = 256 + i
      · rw [if_pos c2, if_pos (show 256 + p < q ∧ q ≤ 256 + i from ⟨by omega, by omega⟩), c2]
      · rw [if_neg c2, if_neg (by omega)]
theorem sI_wW (h : HP) (φ : Int → Int) (f a : Nat) (v : Int32) : sI (wW h φ) f a v = wW (sI h f a v) φ := rfl
/-- a node that is new, at a place of the order -/
def addF (φ : Int → Int) (p node grp srt nm : Int) : Int → Int := updI (updI (updI (updI (updI (updI (updI (updI (updI (updI (shf φ p (φ 288)) (256 + p) node) 288 (φ 288 + 1)) node grp) (32 + node) nm) (64 + node) srt) (96 + node) 0) (128 + node) 0) (160 + node) 0) (192 + node) 0) (224 + node) 0
theorem begins_w {g : HP} (M : MS g) {p node grp srt nm : Int} (hp : hI g 731 983 = i32 p) (p0 : 0 ≤ p) (p1 : p ≤ Wm g 288) (m1 : Wm g 288 < 32) (n0 : 0 ≤ node) (n1 : node < 32) (g0 : -2 ≤ grp) (g1 : grp < 32) (s0 : 0 ≤ srt) (s1 : srt < 4) : ∃ g', (lX11_begins_48 (fun w107 w108 w109 w110 w111 h112 =>
    gd (isO h112 w107 11) <|
    oc (hR h112 709 w107) fun o114 =>
    gd (isO h112 o114 23) <|
    gd (inb ((i32 256) + (hI h112 731 w107)) (hln h112 o114)) <|
    lt (sL h112 o114 ((i32 256) + (hI h112 731 w107)).toNatClampNeg (w108.toInt64)) fun h118 =>
    lt (sI h118 731 w107 ((hI h118 731 w107) + (i32 1))) fun h119 =>
    lt ((hR h119 709 w107)) fun v120 =>
    oc v120 fun o121 =>
    gd (isO h119 o121 23) <|
    gd (inb (i32 288) (hln h119 o121)) <|
    gd (inb (i32 288) (hln h119 o121)) <|
    lt (sL h119 o121 (i32 288).toNatClampNeg ((hL h119 o121 (i32 288).toNatClampNeg) + (i64 1))) fun h126 =>
    oc (hR h126 709 w107) fun o127 =>
    gd (isO h126 o127 23) <|
    gd (inb ((i32 0) + w108) (hln h126 o127)) <|
    lt (sL h126 o127 ((i32 0) + w108).toNatClampNeg (w109.toInt64)) fun h131 =>
    some h131) FU 983 (i32 node) (i32 grp) (i32 srt) (i64 nm) (i32 (Wm g 288)) g) = some g' ∧ Mo [731, 987] g g' ∧ hI g' 731 983 = i32 (p + 1) := by
  have e := beginsL_s M hp p0 (by omega) (K := fun w107 w108 w109 w110 w111 h112 =>
    gd (isO h112 w107 11) <|
    oc (hR h112 709 w107) fun o114 =>
    gd (isO h112 o114 23) <|
    gd (inb ((i32 256) + (hI h112 731 w107)) (hln h112 o114)) <|
    lt (sL h112 o114 ((i32 256) + (hI h112 731 w107)).toNatClampNeg (w108.toInt64)) fun h118 =>
    lt (sI h118 731 w107 ((hI h118 731 w107) + (i32 1))) fun h119 =>
    lt ((hR h119 709 w107)) fun v120 =>
    oc v120 fun o121 =>
    gd (isO h119 o121 23) <|
    gd (inb (i32 288) (hln h119 o121)) <|
    gd (inb (i32 288) (hln h119 o121)) <|
    lt (sL h119 o121 (i32 288).toNatClampNeg ((hL h119 o121 (i32 288).toNatClampNeg) + (i64 1))) fun h126 =>
    oc (hR h126 709 w107) fun o127 =>
    gd (isO h126 o127 23) <|
    gd (inb ((i32 0) + w108) (hln h126 o127)) <|
    lt (sL h126 o127 ((i32 0) + w108).toNatClampNeg (w109.toInt64)) fun h131 =>
    some h131) (v1 := i32 node) (v2 := i32 grp) (v3 := i32 srt) (v4 := i64 nm) (Wm g 288 - p).toNat FU (Wm g 288) (Wm g) (by omega) (by omega) (by have : FU = 1000000 := rfl; omega)
  rw [wW_self] at e
  rw [e]
  have M1 := wW_ms M (shf (Wm g) p (Wm g 288))
  rw [M1.o, gd_tt, M1.r_world, oc_s, M1.o_world, gd_tt, M1.n_world, wW_I, hp, i32_add, i32_inb (by omega) (by omega) (by omega), gd_tt, i32_cn (by omega) (by omega), i32_64 (by omega) (by omega), sL_wW (by omega), lt_e, wW_I, hp, i32_add, lt_e, sI_wW, lt_e]
  have M2 : MS (sI g 731 983 (i32 (p + 1))) := M.sk (sk_sI rfl)
  have M3 := wW_ms M2 (updI (shf (Wm g) p (Wm g 288)) (256 + p) node)
  rw [M3.r_world, oc_s, M3.o_world, gd_tt, M3.n_world, i32_inb (by omega) (by omega) (by omega), gd_tt, gd_tt, i32_cn (by omega) (by omega), wW_L (by omega), i64_add, sL_wW (by omega), lt_e]
  have M4 := fun φ => wW_ms M2 φ
  rw [(M4 _).r_world, oc_s, (M4 _).o_world, gd_tt, (M4 _).n_world, i32_add, i32_inb (by omega) (by omega) (by omega), gd_tt, i32_cn (by omega) (by omega), i32_64 (by omega) (by omega), sL_wW (by omega), lt_e]
  refine ⟨_, rfl, ((Mo_I (by decide) _).t ((wW_mo _).w (by decide))), ?_⟩
  rw [wW_I, rII, if_pos ⟨rfl, rfl⟩]
