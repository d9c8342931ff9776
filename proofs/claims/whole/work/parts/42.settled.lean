/-! THE FORM OF THE CLASS, SETTLED -/
def FRc (g : HP) (a : Nat) (F : Int → Int) (C : Int → List Int32) : Prop := FRb g a F ∧ ∀ n, 0 ≤ n → n < 32 → F n ≠ -1 → CND g (hsz g) (lfM g) opM (a + 4 + n.toNat) (C n) (tcL (C n)) (RlL (C n))
def Cnw (F : Int → Int) (S : List TS) (LL : List Int) (was : Nat) (C0 : Int → List Int32) (old : Int → Bool) (n : Int) : List Int32 := if old n = true then C0 n else (seg F LL was n).map (rsl F S)
/-- a token of a condition of a form -/
def tkOk (F : Int → Int) (t : Int32) : Prop := (∃ f s v : Int, 0 ≤ f ∧ f < 24 ∧ F f ≠ -1 ∧ 0 ≤ s ∧ s ≤ 3 ∧ 0 ≤ v ∧ v ≤ 9999 ∧ t = i32 (tcd f s v)) ∨ t = i32 1 ∨ t = i32 2 ∨ t = i32 3
def R0 (C0 : Int → List Int32) (old : Int → Bool) (n : Int) : Int32 := if old n = true then RlL (C0 n) else i32 0
section
variable {n : Int} {F : Int → Int} {S : List TS} {LL : List Int} {was : Nat} {C0 : Int → List Int32} {old : Int → Bool}
theorem rsl_t {k : Nat} {x : TS} (h : S[k]? = some x) : rsl F S (4 + (k : Int)) = i32 (tcd (fnm F x.1) x.2.2.2.1 x.2.2.2.2) := by
  unfold rsl
  rw [if_pos (by omega), show (4 + (k : Int) - 4).toNat = k by omega, h]
theorem rsl_o {e : Int} (h : e < 4) : rsl F S e = i32 e := by unfold rsl; rw [if_neg (by omega)]
theorem fnm_pr (tr : TR F) {w : Int} (h : 0 ≤ fnm F w) : F (fnm F w) ≠ -1 := by
  rcases fnm_spec (w := w) tr.ov with ⟨a, _⟩ | ⟨q, q0, q1, a, _⟩
  · omega
  · rw [a]; exact tr.op q q0 q1
/-- what stands in a new stretch -/
theorem seg_case (tr : TR F) (o : OWN n F S LL was old) (pn : ∀ x ∈ S, 0 ≤ fnm F x.1 ∧ fnm F x.1 < 24) {m : Int} (m0 : 0 ≤ m) (m1 : m < 32) (mp : F m ≠ -1) (mo : old m = false) {e : Int} (he : e ∈ seg F LL was m) : (1 ≤ e ∧ e ≤ 3 ∧ rsl F S e = i32 e) ∨ ∃ (k : Nat) (x : TS), e = 4 + (k : Int) ∧ S[k]? = some x ∧ x.2.2.1 = m ∧ rsl F S e = i32 (tcd (fnm F x.1) x.2.2.2.1 x.2.2.2.2) ∧ (0 ≤ fnm F x.1 ∧ fnm F x.1 < 24 ∧ F (fnm F x.1) ≠ -1) ∧ (0 ≤ x.2.2.2.1 ∧ x.2.2.2.1 ≤ 3) ∧ 0 ≤ x.2.2.2.2 ∧ x.2.2.2.2 ≤ 9999 := by
  rcases o.1 m m0 m1 mp mo e he with h | ⟨k, x, h1, h2, h3⟩
  · exact Or.inl ⟨h.1, h.2, rsl_o (by omega)⟩
  · have p := pn x (List.mem_of_getElem? h2)
    have t := (o.2 k x h2).1
    unfold tsOk at t
    refine Or.inr ⟨k, x, h1, h2, h3, by rw [h1]; exact rsl_t h2, ⟨p.1, p.2, fnm_pr tr p.1⟩, ⟨t.2.2.2.2.1, t.2.2.2.2.2.1⟩, t.2.2.2.2.2.2.1, t.2.2.2.2.2.2.2⟩
theorem Cnw_tk (tr : TR F) (o : OWN n F S LL was old) (pn : ∀ x ∈ S, 0 ≤ fnm F x.1 ∧ fnm F x.1 < 24) (old0 : ∀ m, old m = true → ∀ t ∈ C0 m, tkOk F t) {m : Int} (m0 : 0 ≤ m) (m1 : m < 32) (mp : F m ≠ -1) : ∀ t ∈ Cnw F S LL was C0 old m, tkOk F t := by
  intro t ht
  unfold Cnw at ht
  by_cases q : old m = true
  · rw [if_pos q] at ht; exact old0 m q t ht
  · rw [if_neg q] at ht
    obtain ⟨e, he, rfl⟩ := List.mem_map.mp ht
    rcases seg_case tr o pn m0 m1 mp (by simpa using q) he with ⟨h1, h2, h3⟩ | ⟨k, x, h1, h2, h3, h4, h5, h6, h7⟩
    · rw [h3]
      rcases (show e = 1 ∨ e = 2 ∨ e = 3 by omega) with z | z | z
      · exact Or.inr (Or.inl (by rw [z]))
      · exact Or.inr (Or.inr (Or.inl (by rw [z])))
      · exact Or.inr (Or.inr (Or.inr (by rw [z])))
    · exact Or.inl ⟨_, _, _, h5.1, h5.2.1, h5.2.2, h6.1, h6.2, h7.1, h7.2, h4⟩
/-- tokens and their fields -/
theorem tk_bits {t : Int32} (h : tkOk F t) : tT t = true → ∃ f : Int, 0 ≤ f ∧ f < 24 ∧ tF t = i32 f := by
  intro q
  rcases h with ⟨f, s, v, a1, a2, a3, a4, a5, a6, a7, rfl⟩ | h | h | h
  · exact ⟨f, a1, a2, tF_c a1 (by omega) a4 a5 a6 a7⟩
  · rw [h, tT_op (by omega) (by omega)] at q; cases q
  · rw [h, tT_op (by omega) (by omega)] at q; cases q
  · rw [h, tT_op (by omega) (by omega)] at q; cases q
theorem RlL_new (tr : TR F) (o : OWN n F S LL was old) (pn : ∀ x ∈ S, 0 ≤ fnm F x.1 ∧ fnm F x.1 < 24) {m : Int} (m0 : 0 ≤ m) (m1 : m < 32) (mp : F m ≠ -1) : Rfin F S (R0 C0 old) m = RlL (Cnw F S LL was C0 old m) := by
  cases q : old m with
  | true =>
    have e : Rfin F S (R0 C0 old) m = R0 C0 old m := by
      apply bt_ext
      intro i i0 i1
      rw [Bool.eq_iff_iff, Rfin_bt i0 i1 S _ _ pn]
      constructor
      · rintro (a | ⟨x, x1, x2, x3⟩)
        · exact a
        · obtain ⟨k, hk⟩ := List.getElem?_of_mem x1
          have := (o.2 k x hk).2.2.2.2.1
          rw [x2, q] at this; cases this
      · exact Or.inl
    rw [e]; unfold R0 Cnw; rw [if_pos q, if_pos q]
  | false =>
    have tk := Cnw_tk (C0 := fun _ => []) (m := m) tr o pn (fun _ _ t ht => by cases ht) m0 m1 mp
    unfold Cnw at tk ⊢
    rw [if_neg (by rw [q]; decide)] at tk ⊢
    apply bt_ext
    intro i i0 i1
    rw [Bool.eq_iff_iff, Rfin_bt i0 i1 S _ _ pn, RlL_bt _ (fun t ht => tk_bits (tk t ht)) i0 i1]
    unfold R0
    rw [if_neg (by rw [q]; decide), bt_0]
    constructor
    · rintro (a | ⟨x, x1, x2, x3⟩)
      · cases a
      · obtain ⟨k, hk⟩ := List.getElem?_of_mem x1
        have ow := o.2 k x hk
        rw [x2] at ow
        have p := pn x x1
        have t := ow.1
        unfold tsOk at t
        refine ⟨rsl F S (4 + (k : Int)), List.mem_map.mpr ⟨_, ow.2.2.2.2.2, rfl⟩, ?_, ?_⟩
        · rw [rsl_t hk]; exact tT_c p.1 (by omega) t.2.2.2.2.1 t.2.2.2.2.2.1 t.2.2.2.2.2.2.1 t.2.2.2.2.2.2.2
        · rw [rsl_t hk, tF_c p.1 (by omega) t.2.2.2.2.1 t.2.2.2.2.2.1 t.2.2.2.2.2.2.1 t.2.2.2.2.2.2.2, x3]
    · rintro ⟨t, t1, t2, t3⟩
      obtain ⟨e, he, rfl⟩ := List.mem_map.mp t1
      rcases seg_case tr o pn m0 m1 mp q he with ⟨h1, h2, h3⟩ | ⟨k, x, h1, h2, h3, h4, h5, h6, h7⟩
      · rw [h3, tT_op h1 h2] at t2; cases t2
      · rw [h4, tF_c h5.1 (by omega) h6.1 h6.2 h7.1 h7.2, i32_eq (by omega) (by omega) (by omega) (by omega)] at t3
        exact Or.inr ⟨x, List.mem_of_getElem? h2, h3, t3⟩
theorem tc_new (tr : TR F) (o : OWN n F S LL was old) (pn : ∀ x ∈ S, 0 ≤ fnm F x.1 ∧ fnm F x.1 < 24) {m : Int} (m0 : 0 ≤ m) (m1 : m < 32) (mp : F m ≠ -1) (mo : old m = false) : tcL ((seg F LL was m).map (rsl F S)) = tcI (seg F LL was m) := by
  have key : ∀ L : List Int, (∀ e ∈ L, tT (rsl F S e) = ist e) → ((L.map (rsl F S)).filter tT).length = (L.filter ist).length := by
    intro L
    induction L with
    | nil => intro _; rfl
    | cons e L ih =>
      intro h
      have he := h e List.mem_cons_self
      have hl := ih (fun x hx => h x (List.mem_cons_of_mem _ hx))
      rw [List.map_cons]
      by_cases q : ist e = true
      · rw [List.filter_cons_of_pos (by rw [he]; exact q), List.filter_cons_of_pos q, List.length_cons, List.length_cons, hl]
      · rw [List.filter_cons_of_neg (by rw [he]; exact q), List.filter_cons_of_neg q, hl]
  unfold tcL tcI
  rw [key]
  intro e he
  rcases seg_case tr o pn m0 m1 mp mo he with ⟨h1, h2, h3⟩ | ⟨k, x, h1, h2, h3, h4, h5, h6, h7⟩
  · rw [h3, tT_op h1 h2]
    unfold ist
    rw [decide_eq_false (by omega)]
  · rw [h4, tT_c h5.1 (by omega) h6.1 h6.2 h7.1 h7.2]
    unfold ist
    rw [decide_eq_true (by omega)]
/-- what the class holds when it has settled -/
theorem csettled {g0 g' : HP} {ts : Nat → Nat} {z0 : Nat} (R : RPc g0 F S LL ts was C0 old z0) (T : Tbl g0 S ts) (tr : TR F) (o : OWN n F S LL was old) (pn : ∀ x ∈ S, 0 ≤ fnm F x.1 ∧ fnm F x.1 < 24) (p : SI (Wst z0) g0 g') (h387 : ∀ (q : Nat) (x : TS), S[q]? = some x → hI g' 387 (ts q) = i32 (fnm F x.1)) (h137 : ∀ m, 0 ≤ m → m < 32 → F m ≠ -1 → hI g' 137 (63 + 4 + m.toNat) = Rfin F S (R0 C0 old) m) : FRc g' 63 F (Cnw F S LL was C0 old) := by
  obtain ⟨rb, rc, rz⟩ := R
  refine ⟨FRb_SI rb p, fun m m0 m1 mp => ?_⟩
  have e136 : hI g' 136 (63 + 4 + m.toNat) = hI g0 136 (63 + 4 + m.toNat) := p.I (by unfold Wst; omega)
  have e137 := h137 m m0 m1 mp
  rw [RlL_new tr o pn m0 m1 mp] at e137
  obtain ⟨u, v⟩ := rc m m0 m1 mp
  unfold CND
  rw [e136, e137, p.R, p.sz]
  cases q : old m with
  | true =>
    obtain ⟨u1, u2, u3⟩ := u q
    have eC : Cnw F S LL was C0 old m = C0 m := by unfold Cnw; rw [if_pos q]
    rw [eC]
    refine ⟨?_, u2, rfl⟩
    rcases u1 with h | ⟨h, t, h1, h2⟩
    · exact Or.inl h
    · refine Or.inr ⟨h, t, h1, IsT_up 15 1008 z0 t _ 15 1008 (hsz g0) (Nat.le_refl _) (Nat.le_refl _) rz.1 (IsT_fr 15 1008 z0 t _ h2 (fun x x0 x1 ox => ⟨by rw [p.o]; exact ox, p.I (by unfold Wst; omega), by rw [p.R], ?_⟩) (fun x x0 x1 _ => by rw [p.R]))⟩
      rintro e ⟨f, s, w, a1, a2, a3, a4, a5, a6, a7, a8, a9, a10⟩
      exact ⟨f, s, w, a1, a2, a3, a4, a5, a6, a7, by rw [p.I (by unfold Wst; omega)]; exact a8, by rw [p.I (by unfold Wst; omega)]; exact a9, by rw [p.I (by unfold Wst; omega)]; exact a10⟩
  | false =>
    obtain ⟨u1, u2, u3⟩ := v q
    have eC : Cnw F S LL was C0 old m = (seg F LL was m).map (rsl F S) := by unfold Cnw; rw [if_neg (by rw [q]; decide)]
    rw [eC, tc_new tr o pn m0 m1 mp q]
    refine ⟨?_, u2, rfl⟩
    rcases u1 with ⟨h, h1⟩ | ⟨h, t, h1, h2⟩
    · exact Or.inl ⟨by rw [h]; rfl, h1⟩
    · refine Or.inr ⟨fun z => h (List.map_eq_nil_iff.mp z), t, h1, ?_⟩
      have h3 : IsT g' (lfT ts S.length) opI 15 1008 (hsz g0) t (seg F LL was m) := IsT_fr 15 1008 (hsz g0) t _ h2 (fun x x0 x1 ox => ⟨by rw [p.o]; exact ox, p.I (by unfold Wst; omega), by rw [p.R], fun e h => h⟩) (fun x x0 x1 _ => by rw [p.R])
      refine IsT_map (f := rsl F S) (fun o' ho => ?_) 15 1008 _ t _ h3 (fun t' e t0 t1 he hl => ?_)
      · unfold opM opI
        rw [rsl_o (by omega)]
      · obtain ⟨k, k1, k2, k3⟩ := hl
        obtain ⟨x, hx⟩ : ∃ x, S[k]? = some x := ⟨_, List.getElem?_eq_getElem k1⟩
        have tb := T k x hx
        have ow := (o.2 k x hx).1
        unfold tsOk at ow
        have px := pn x (List.mem_of_getElem? hx)
        rw [k3] at tb
        refine ⟨fnm F x.1, x.2.2.2.1, x.2.2.2.2, px.1, px.2, ow.2.2.2.2.1, ow.2.2.2.2.2.1, ow.2.2.2.2.2.2.1, ow.2.2.2.2.2.2.2, by rw [k2]; exact rsl_t hx, ?_, ?_, ?_⟩
        · have := h387 k x hx
          rw [k3] at this; exact this
        · rw [p.I (by unfold Wst; omega)]; exact tb.2.2.2.2.1
        · rw [p.I (by unfold Wst; omega)]; exact tb.2.2.2.2.2.1
end
/-! NO FIELD DEPENDS ON ITSELF -/
def Acy (N : Int → Int32) : Prop := ∀ f, 0 ≤ f → f < 24 → bt (cl N 24 (N f)) f = false
theorem cl_in {N : Int → Int32} (k : ∀ f, lo24 (N f)) {s x : Int32} (l : lo24 s) (h : sub s x) (c : closed N x) : sub (cl N 24 s) x := (cl24 k l).2.2 x h c
theorem acy_mono {N N' : Int → Int32} (k : ∀ f, lo24 (N f)) (k' : ∀ f, lo24 (N' f)) (h : ∀ f, 0 ≤ f → f < 24 → sub (N' f) (N f)) (a : Acy N) : Acy N' := by
  intro f f0 f1
  obtain ⟨c1, c2, c3⟩ := cl24 k (k f)
  have s : sub (cl N' 24 (N' f)) (cl N 24 (N f)) := cl_in k' (k' f) (fun i i0 i1 hi => c1 i i0 i1 (h f f0 f1 i i0 i1 hi)) (fun o o0 o1 ho i i0 i1 hi => c2 o o0 o1 ho i i0 i1 (h o o0 o1 i i0 i1 hi))
  cases q : bt (cl N' 24 (N' f)) f with
  | false => rfl
  | true =>
    have := s f f0 (by omega) q
    rw [a f f0 f1] at this; cases this
theorem acy_add {N N' : Int → Int32} (k : ∀ f, lo24 (N f)) (k' : ∀ f, lo24 (N' f)) {x : Int} (x0 : 0 ≤ x) (x1 : x < 24) {O : Int → Bool} (h : ∀ j, 0 ≤ j → j < 24 → ∀ g, 0 ≤ g → g < 32 → (bt (N' j) g = true ↔ (bt (N j) g = true ∨ (O j = true ∧ g = x)))) (dis : ∀ j, 0 ≤ j → j < 24 → O j = true → bt (rch N x) j = false) (a : Acy N) : Acy N' := by
  intro f f0 f1
  have er := cl_sng k x0 x1
  obtain ⟨r1, r2, r3⟩ := cl24 k (sng_lo x0 x1)
  rw [er] at r1 r2 r3
  have xr : bt (rch N x) x = true := r1 x x0 (by omega) (by rw [sng_bt x0 x1 x0 (by omega)]; simp)
  obtain ⟨c1, c2, c3⟩ := cl24 k (k f)
  have s : sub (cl N' 24 (N' f)) (cl N 24 (N f) ||| rch N x) := by
    refine cl_in k' (k' f) (fun i i0 i1 hi => ?_) (fun o o0 o1 ho i i0 i1 hi => ?_)
    · rw [bt_or, Bool.or_eq_true]
      rcases (h f f0 f1 i i0 i1).mp hi with z | ⟨_, z⟩
      · exact Or.inl (c1 i i0 i1 z)
      · rw [z]; exact Or.inr xr
    · rw [bt_or, Bool.or_eq_true] at ho ⊢
      rcases (h o o0 o1 i i0 i1).mp hi with z | ⟨_, z⟩
      · rcases ho with w | w
        · exact Or.inl (c2 o o0 o1 w i i0 i1 z)
        · exact Or.inr (r2 o o0 o1 w i i0 i1 z)
      · rw [z]; exact Or.inr xr
  cases q : bt (cl N' 24 (N' f)) f with
  | false => rfl
  | true =>
    exfalso
    have t := s f f0 (by omega) q
    rw [bt_or, Bool.or_eq_true, a f f0 f1] at t
    have fr : bt (rch N x) f = true := t.resolve_left (by decide)
    have sub1 : sub (cl N 24 (N f)) (rch N x) := cl_in k (k f) (r2 f f0 f1 fr) r2
    have nO : ∀ j, 0 ≤ j → j < 24 → bt (rch N x) j = true → ∀ g, 0 ≤ g → g < 32 → bt (N' j) g = true → bt (N j) g = true := by
      intro j j0 j1 hj g g0 g1 hg
      rcases (h j j0 j1 g g0 g1).mp hg with z | ⟨z, _⟩
      · exact z
      · rw [dis j j0 j1 z] at hj; cases hj
    have s2 : sub (cl N' 24 (N' f)) (cl N 24 (N f)) := by
      refine cl_in k' (k' f) (fun i i0 i1 hi => c1 i i0 i1 (nO f f0 f1 fr i i0 i1 hi)) (fun o o0 o1 ho i i0 i1 hi => ?_)
      exact c2 o o0 o1 ho i i0 i1 (nO o o0 o1 (sub1 o o0 (by omega) ho) i i0 i1 hi)
    have := s2 f f0 (by omega) q
    rw [a f f0 f1] at this; cases this
theorem NE_bt {F : Int → Int} {R : Int → Int32} (T : TV F) (C : CE F) {f g : Int} (f0 : 0 ≤ f) (f1 : f < 24) (p : F f ≠ -1) : bt (NE F R f) g = true ↔ ∃ c, 0 ≤ c ∧ c < 32 ∧ isin F 9 f c = true ∧ bt (R c) g = true := by
  unfold NE
  rw [if_pos ⟨f0, f1, p⟩]
  exact nds_bt T.av 9 f (by omega) (C.ends (by omega))
theorem NE_ab {F : Int → Int} {R : Int → Int32} {f : Int} (h : ¬ (0 ≤ f ∧ f < 24 ∧ F f ≠ -1)) : NE F R f = i32 0 := by unfold NE; rw [if_neg h]
theorem NE_lo {F : Int → Int} {R : Int → Int32} (T : TV F) (C : CE F) (h : ∀ n, 0 ≤ n → n < 32 → F n ≠ -1 → lo24 (R n)) : ∀ f, lo24 (NE F R f) := by
  intro f i i0 i1
  by_cases c : 0 ≤ f ∧ f < 24 ∧ F f ≠ -1
  · cases q : bt (NE F R f) i with
    | false => rfl
    | true =>
      obtain ⟨o, o0, o1, a, z⟩ := (NE_bt T C c.1 c.2.1 c.2.2).mp q
      have t := isin_there T o0 9 f (Or.inr ⟨c.1, by omega, c.2.2⟩) a
      rw [h o o0 o1 t.2 i i0 i1] at z; cases z
  · rw [NE_ab c]; exact bt_0 i
theorem NE_add {F : Int → Int} {R : Int → Int32} (T : TV F) (C : CE F) {o x : Int} (o0 : 0 ≤ o) (o1 : o < 32) (x0 : 0 ≤ x) (x1 : x < 24) {j : Int} (j0 : 0 ≤ j) (j1 : j < 24) {g : Int} (g0 : 0 ≤ g) (g1 : g < 32) : bt (NE F (addR R o x) j) g = true ↔ (bt (NE F R j) g = true ∨ (fin F o j = true ∧ g = x)) := by
  by_cases p : F j ≠ -1
  · rw [NE_bt T C j0 j1 p, NE_bt T C j0 j1 p, fin_M o0 j0]
    have hf : finM F o j = true ↔ isin F 9 j o = true := by
      unfold finM
      rw [decide_eq_true_eq]
      exact ⟨fun z => z.2, fun z => ⟨p, z⟩⟩
    rw [hf]
    unfold addR
    constructor
    · rintro ⟨c, c0, c1, a, z⟩
      by_cases q : c = o
      · rw [if_pos q, bt_or, Bool.or_eq_true, sng_bt x0 x1 g0 g1] at z
        rcases z with z | z
        · exact Or.inl ⟨c, c0, c1, a, z⟩
        · exact Or.inr ⟨by rw [← q]; exact a, by simpa using z⟩
      · rw [if_neg q] at z
        exact Or.inl ⟨c, c0, c1, a, z⟩
    · rintro (⟨c, c0, c1, a, z⟩ | ⟨a, z⟩)
      · refine ⟨c, c0, c1, a, ?_⟩
        by_cases q : c = o
        · rw [if_pos q, bt_or, z]; rfl
        · rw [if_neg q]; exact z
      · refine ⟨o, o0, o1, a, ?_⟩
        rw [if_pos rfl, bt_or, sng_bt x0 x1 g0 g1, z]
        simp
  · have e : ¬ (0 ≤ j ∧ j < 24 ∧ F j ≠ -1) := fun z => p z.2.2
    rw [NE_ab e, NE_ab e, bt_0]
    have : ¬ fin F o j = true := by
      unfold fin
      rw [decide_eq_true_eq]
      exact fun z => p z.1
    constructor
    · intro z; cases z
    · rintro (z | ⟨z, _⟩)
      · cases z
      · exact absurd z this
theorem addR_lo {R : Int → Int32} {o x : Int} (x0 : 0 ≤ x) (x1 : x < 24) {n : Int} (h : lo24 (R n)) : lo24 (addR R o x n) := by
  unfold addR
  by_cases q : n = o
  · rw [if_pos q]
    intro i i0 i1
    rw [bt_or, h i i0 i1, sng_lo x0 x1 i i0 i1]; rfl
  · rw [if_neg q]; exact h
theorem pcirc_acy {F : Int → Int} (T : TV F) (C : CE F) : ∀ (S : List TS) (R : Int → Int32), (∀ n, 0 ≤ n → n < 32 → F n ≠ -1 → lo24 (R n)) → (∀ x ∈ S, (0 ≤ fnm F x.1 ∧ fnm F x.1 < 24) ∧ 0 ≤ x.2.2.1 ∧ x.2.2.1 < 32) → pcirc F S R = none → Acy (NE F R) → Acy (NE F (Rfin F S R)) := by
  intro S
  induction S with
  | nil => intro R _ _ _ a; exact a
  | cons y S ih =>
    intro R lo h pc a
    obtain ⟨y1, y2, y3⟩ := h y List.mem_cons_self
    simp only [pcirc] at pc
    by_cases c : fmk (fin F y.2.2.1) 24 0 (i32 0) &&& rch (NE F R) (fnm F y.1) ≠ i32 0
    · rw [if_pos c] at pc; cases pc
    · rw [if_neg c] at pc
      have c' : fmk (fin F y.2.2.1) 24 0 (i32 0) &&& rch (NE F R) (fnm F y.1) = i32 0 := Classical.byContradiction fun z => c z
      have lo' : ∀ n, 0 ≤ n → n < 32 → F n ≠ -1 → lo24 (addR R y.2.2.1 (fnm F y.1) n) := fun n n0 n1 np => addR_lo y1.1 y1.2 (lo n n0 n1 np)
      refine ih (addR R y.2.2.1 (fnm F y.1)) lo' (fun x hx => h x (List.mem_cons_of_mem _ hx)) pc ?_
      refine acy_add (NE_lo T C lo) (NE_lo T C lo') y1.1 y1.2 (O := fin F y.2.2.1) (fun j j0 j1 g g0 g1 => NE_add T C y2 y3 y1.1 y1.2 j0 j1 g0 g1) (fun j j0 j1 hO => ?_) a
      have z := bt_eq0.mp c' j j0 (by omega)
      rw [bt_and] at z
      have m : bt (fmk (fin F y.2.2.1) 24 0 (i32 0)) j = true := (fmk_bt j0 (by omega) 24 0 (i32 0) (by omega) (by omega)).mpr (Or.inr ⟨j0, by omega, hO⟩)
      rw [m] at z
      simpa using z
