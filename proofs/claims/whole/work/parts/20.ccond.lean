theorem ptail_n {T : Nat → TK} {pt : Nat → List TS → PR} {w op : Int} {j k : Nat} {S : List TS} {L : List Int} (h : ¬ tkk (T j) = w) : ptail T pt w op (k + 1) j S L = (true, j, S, L) := by
  simp only [ptail]; rw [if_neg h]
theorem cconjunctionL {rF : Nat → Int32 → HP → Option (Option Nat × HP)} {nest : Int32} {b : Int → Int} {n : Int} {c : Nat} {ow : Int} {dq : Nat} {pt : Nat → List TS → PR} (n0 : 0 ≤ n) (n1 : n ≤ 1200) (hF : ∀ (g : HP) (j : Nat) (S : List TS) (ts : Nat → Nat), CP g b n c j S ts → hI g 195 62 = i32 ow → ∃ r g', rF 62 nest g = some (r, g') ∧ PoT b n c dq g j S ts (pt j S) r g') {g0 : HP} {j0 f a : Nat} {S0 : List TS} {ts0 : Nat → Nat} {L0 : List Int} (C0 : CS g0) (z0 : 1008 ≤ hsz g0) : ∀ (k m i j M : Nat) (S : List TS) (ts : Nat → Nat) (Q : List (Nat × List Int)) (g : HP), k + i = 1200 → k < m → Co M lpP g0 g → M ≤ j - j0 + (if Q = [] then 1 else 0) → (j0 < j ∧ j ≤ c) → CP g b n c j S ts → hI g 195 62 = i32 ow → (∀ k, k < S0.length → ts k = ts0 k) → S0.length ≤ S.length → a < hsz g → hsz g0 ≤ f → f < a → IsT g (lfT ts S.length) opI dq (hsz g0) a f L0 → isO g a 6 = true → hI g 384 a = i32 12 → hR g 385 a = some f → hR g 386 a = none → Chn g (IsT g (lfT ts S.length) opI dq) (hsz g) (a + 1) (hR g 386 f) Q → (Q = [] → tkk (tkn b n j) = 12 ∧ i = 0) → ∃ r g', lX3_conjunction_45 rF m 62 nest a (some (lst f Q)) (i32 i) g = some (r, g') ∧ PoT b n c (dq + 1) g0 j0 S0 ts0 (ptail (tkn b n) pt 12 1 k j S (L0 ++ fl (opI 1) Q)) r g' := by
  intro k
  have fin : ∀ (j M : Nat) (S : List TS) (ts : Nat → Nat) (Q : List (Nat × List Int)) (g : HP), Q ≠ [] → Co M lpP g0 g → M ≤ j - j0 + (if Q = [] then 1 else 0) → (j0 < j ∧ j ≤ c) → CP g b n c j S ts → (∀ k, k < S0.length → ts k = ts0 k) → S0.length ≤ S.length → a < hsz g → hsz g0 ≤ f → f < a → IsT g (lfT ts S.length) opI dq (hsz g0) a f L0 → isO g a 6 = true → hI g 384 a = i32 12 → hR g 385 a = some f → hR g 386 a = none → Chn g (IsT g (lfT ts S.length) opI dq) (hsz g) (a + 1) (hR g 386 f) Q → PoT b n c (dq + 1) g0 j0 S0 ts0 (true, j, S, L0 ++ fl (opI 1) Q) (some a) g := by
    intro j M S ts Q g qn q M1 jj P tsE sE ah f0 fa I0 oa a1 a2 a3 ch
    rw [if_neg qn] at M1
    refine ⟨Nat.le_of_lt jj.1, q.up (by show M ≤ j - j0; omega), fun _ => ⟨jj, a, ts, rfl, P, tsE, sE, ⟨by omega, ah, oa, Or.inr (Or.inr ⟨1, Or.inl ⟨rfl, a1⟩, f, L0, Q, a2, I0, qn, ch, rfl⟩)⟩, a3⟩, fun z => by cases z⟩
  induction k with
  | zero =>
    intro m i j M S ts Q g ki km q M1 jj P ho tsE sE ah f0 fa I0 oa a1 a2 a3 ch qi
    obtain ⟨m, rfl⟩ : ∃ x, m = x + 1 := ⟨m - 1, by omega⟩
    have qn : Q ≠ [] := fun z => by have := (qi z).2; omega
    rw [elX3_conjunction_45]; unfold bX3_conjunction_45
    simp (disch := omega) only [i32_le]
    rw [if_pos (by omega)]
    exact ⟨_, _, rfl, fin j M S ts Q g qn q M1 jj P tsE sE ah f0 fa I0 oa a1 a2 a3 ch⟩
  | succ k ih =>
    intro m i j M S ts Q g ki km q M1 jj P ho tsE sE ah f0 fa I0 oa a1 a2 a3 ch qi
    obtain ⟨m, rfl⟩ : ∃ x, m = x + 1 := ⟨m - 1, by omega⟩
    have tv := tk_val (b := b) n0 j
    have tr : 0 ≤ tkk (tkn b n j) ∧ tkk (tkn b n j) < 128 := by omega
    rw [elX3_conjunction_45]; unfold bX3_conjunction_45
    simp (disch := omega) only [i32_le, P.1.cs.o_parser, P.1.cs.r_tokens, P.1.cs.o_tokens, gd_tt, oc_s, P.1.k, i32_eq]
    rw [if_neg (by omega)]
    simp only [ptail]
    by_cases w : tkk (tkn b n j) = 12
    · rw [if_pos w, if_pos w]
      obtain ⟨jc, cn⟩ := P.1.jn n0 (by omega)
      obtain ⟨g1, e1, q1, Q1⟩ := P.1.step n0 n1 (by omega)
      have P1 := P.mv q1 Q1
      have ho1 : hI g1 195 62 = i32 ow := by rw [q1.I (sz_le P.1.cs (by decide)) (by decide) (by decide)]; exact ho
      obtain ⟨r, g2, e2, p1, p2, p3, p4⟩ := hF g1 (j + 1) S ts P1 ho1
      have hz1 : hsz g1 = hsz g := Nat.le_antisymm q1.2.1 q1.sk.1
      have lr := lst_rng Q (a + 1) f (by omega) (by omega) ch
      have ll : hsz g0 ≤ lst f Q ∧ lst f Q < hsz g := by
        rcases lr.2 with z | z <;> omega
      have ol : isO g (lst f Q) 6 = true ∨ True := Or.inr trivial
      have C1 := Q1.cs
      have c02 : Co (M + ((pt (j + 1) S).2.1 - (j + 1))) lpP g0 g2 := (q.t0 (q1.w (by decide))).t p2
      have olst : ∀ (Q : List (Nat × List Int)) (lo : Nat) (f : Nat), isO g f 6 = true → Chn g (IsT g (lfT ts S.length) opI dq) (hsz g) lo (hR g 386 f) Q → isO g (lst f Q) 6 = true := by
        intro Q
        induction Q with
        | nil => intro lo f o _; exact o
        | cons p Q ih2 =>
          intro lo f o z
          obtain ⟨l, m, c1, c2, c3, c4, c5, c6, c7⟩ := z
          exact ih2 m p.1 (IsT_b c6).2.2 c7
      have og := olst Q (a + 1) f (IsT_b I0).2.2 ch
      have og2 : isO g2 (lst f Q) 6 = true := isO_sk p2.sk (isO_sk q1.sk og)
      simp only [e1, bn_s, C1.o_parser, gd_tt, e2, bn2_s, oc_s, og2, lt_e, rRR, and_self, if_true]
      cases ok : (pt (j + 1) S).1 with
      | false =>
        obtain ⟨r1, r2⟩ := p4 ok
        subst r1
        simp only [on_nn]
        refine ⟨_, _, rfl, by show j0 ≤ (pt (j + 1) S).2.1; omega, ?_, fun z => (by cases z), fun _ => ⟨rfl, ?_⟩⟩
        · refine ((c02.fR (f := 386) (a := lst f Q) ll.1 (Or.inr (Or.inr rfl)) none).up ?_)
          show M + ((pt (j + 1) S).2.1 - (j + 1)) ≤ (pt (j + 1) S).2.1 - j0
          split at M1 <;> omega
        · rw [rIR]; exact r2
      | true =>
        obtain ⟨x1, t2, ts2, x2, x3, x4, x5, x6, x7⟩ := p3 ok
        subst x2
        obtain ⟨g3, e3⟩ : ∃ g3, g3 = sR g2 386 (lst f Q) (some t2) := ⟨_, rfl⟩
        have q3 : Co 0 [386] g2 g3 := by rw [e3]; exact Co_R (Or.inl (by decide)) (Or.inr (Or.inr rfl)) _
        have P3 : CP g3 b n c (pt (j + 1) S).2.1 (pt (j + 1) S).2.2.1 ts2 := x3.co q3 (by decide) (by decide) (fun x hx => by simp; omega)
        have hz3 : hsz g3 = hsz g2 := by rw [e3, rsR]
        have tb := IsT_b x6
        have lfm : ∀ x e, lfT ts S.length x e → lfT ts2 (pt (j + 1) S).2.2.1.length x e := fun x e ⟨k, k1, k2, k3⟩ => ⟨k, by omega, k2, (x4 k k1).trans k3⟩
        have same : ∀ x, hsz g0 ≤ x → x < hsz g → isO g x 6 = true → isO g3 x 6 = true ∧ hI g3 384 x = hI g 384 x ∧ hR g3 385 x = hR g 385 x ∧ ∀ e, lfT ts S.length x e → lfT ts2 (pt (j + 1) S).2.2.1.length x e := fun x x0 x1 ox => by
          refine ⟨isO_sk q3.sk (isO_sk p2.sk (isO_sk q1.sk ox)), ?_, ?_, lfm x⟩
          · rw [e3, rIR, p2.I (by omega) (by decide) (by simp [lpP]; omega), q1.I x1 (by decide) (tk_nb (by omega))]
          · rw [e3, rRR, if_neg (fun z => absurd z.1 (by decide)), p2.R (by omega) (by decide) (by simp [lpP]; omega), q1.R x1 (by decide) (tk_nb (by omega))]
        have nxs : ∀ x, hsz g0 ≤ x → x < hsz g → x ≠ lst f Q → hR g3 386 x = hR g 386 x := fun x x0 x1 x2 => by
          rw [e3, rRR, if_neg (fun z => x2 z.2), p2.R (by omega) (by decide) (by simp [lpP]; omega), q1.R x1 (by decide) (tk_nb (by omega))]
        have ho3 : hI g3 195 62 = i32 ow := by rw [e3, rIR, p2.I (sz_le C1 (by decide)) (by decide) (by decide)]; exact ho1
        have so2 := IsT_fr (g := g3) (lf' := lfT ts2 (pt (j + 1) S).2.2.1.length) _ _ _ _ _ x6 (fun x x0 x1 ox => ⟨isO_sk q3.sk ox, by rw [e3, rIR], by rw [e3, rRR, if_neg (fun z => absurd z.1 (by decide))], fun e h => h⟩) (fun x x0 x1 x2 => by rw [e3, rRR, if_neg (fun z => by omega)])
        have I3 := IsT_fr (g := g3) (lf' := lfT ts2 (pt (j + 1) S).2.2.1.length) _ _ _ _ _ I0 (fun x x0 x1 => same x x0 (by omega)) (fun x x0 x1 x2 => nxs x x0 (by omega) (by rcases lr.2 with z | z <;> omega))
        have sa := same a (by omega) ah oa
        have ch3 : Chn g3 (IsT g3 (lfT ts2 (pt (j + 1) S).2.2.1.length) opI dq) (hsz g3) (a + 1) (hR g3 386 f) (Q ++ [(t2, (pt (j + 1) S).2.2.2)]) := by
          refine Chn_app (h := g) (R := IsT g (lfT ts S.length) opI dq) (hi := hsz g) (by rw [hz3, ← hz1]; exact p2.sk.1) (by rw [hz3, ← hz1]; exact ⟨tb.1, tb.2.1⟩) (by rw [hz3, ← hz1]; exact so2) ?_ Q (a + 1) f (by omega) (by omega) (fun l m x L h1 h2 h3 h4 => ?_) (fun x h1 h2 h3 => nxs x (by omega) h2 h3) (by rw [e3, rRR, if_pos ⟨rfl, rfl⟩]) ch
          · rw [e3, rRR, if_neg (fun z => by omega)]; exact x7
          · exact IsT_fr (g := g3) _ _ _ _ _ h4 (fun y y0 y1 => same y (by omega) (by omega)) (fun y y0 y1 y2 => nxs y (by omega) (by omega) (by omega))
        have go := ih m (i + 1) (pt (j + 1) S).2.1 (M + ((pt (j + 1) S).2.1 - (j + 1))) (pt (j + 1) S).2.2.1 ts2 (Q ++ [(t2, (pt (j + 1) S).2.2.2)]) g3 (by omega) (by omega) (by rw [e3]; exact c02.fR ll.1 (Or.inr (Or.inr rfl)) _) (by rw [if_neg (by simp)]; split at M1 <;> omega) ⟨by omega, x1.2⟩ P3 ho3 (fun k hk => (x4 k (by omega)).trans (tsE k hk)) (by omega) (by rw [hz3]; have := p2.sk.1; omega) f0 fa I3 sa.1 (sa.2.1.trans a1) (sa.2.2.1.trans a2) ((nxs a (by omega) ah (by rcases lr.2 with z | z <;> omega)).trans a3) ch3 (fun z => by simp at z)
        rw [lst_app, fl_app, fl_one, ← List.append_assoc] at go
        simp only [on_sm, i32_add, ← e3]
        exact go
    · rw [if_neg w, if_neg w]
      have qn : Q ≠ [] := fun z => w (qi z).1
      exact ⟨_, _, rfl, fin j M S ts Q g qn q M1 jj P tsE sE ah f0 fa I0 oa a1 a2 a3 ch⟩
theorem cconjunction {rF : Nat → Int32 → HP → Option (Option Nat × HP)} {nest : Int32} {b : Int → Int} {n : Int} {c : Nat} {ow : Int} {dq : Nat} {pt : Nat → List TS → PR} (n0 : 0 ≤ n) (n1 : n ≤ 1200) (hF : ∀ (g : HP) (j : Nat) (S : List TS) (ts : Nat → Nat), CP g b n c j S ts → hI g 195 62 = i32 ow → ∃ r g', rF 62 nest g = some (r, g') ∧ PoT b n c dq g j S ts (pt j S) r g') (g : HP) (j : Nat) (S : List TS) (ts : Nat → Nat) (P : CP g b n c j S ts) (ho : hI g 195 62 = i32 ow) : ∃ r g', FX3_conjunction rF 62 nest g = some (r, g') ∧ PoT b n c (dq + 1) g j S ts (pch (tkn b n) pt 12 1 j S) r g' := by
  obtain ⟨r, g4, e4, p1, p2, p3, p4⟩ := hF g j S ts P ho
  unfold FX3_conjunction pch
  simp only [P.1.cs.o_parser, gd_tt, e4, bn2_s]
  cases ok : (pt j S).1 with
  | false =>
    obtain ⟨r1, r2⟩ := p4 ok
    subst r1
    simp only [on_nn]
    exact ⟨_, _, rfl, p1, p2, fun z => (by cases z), fun _ => ⟨rfl, r2⟩⟩
  | true =>
    obtain ⟨x1, f, ts4, x2, P4, x4, x5, x6, x7⟩ := p3 ok
    subst x2
    have C4 := P4.1.cs
    have tv := tk_val (b := b) n0 (pt j S).2.1
    have tr : 0 ≤ tkk (tkn b n (pt j S).2.1) ∧ tkk (tkn b n (pt j S).2.1) < 128 := by omega
    simp (disch := omega) only [on_sm, C4.o_parser, C4.r_tokens, C4.o_tokens, gd_tt, oc_s, P4.1.k, i32_eq]
    by_cases w : tkk (tkn b n (pt j S).2.1) = 12
    · rw [if_pos w]
      obtain ⟨a, ha⟩ : ∃ a, a = hsz g4 := ⟨_, rfl⟩
      obtain ⟨g16, e16⟩ : ∃ g16, g16 = sR (sI (sI (nw g4 6 0 6) 387 a (i32 (-2))) 384 a (i32 12)) 385 a (some f) := ⟨_, rfl⟩
      have q16 : Co 1 [] g4 g16 := by rw [e16]; exact (((Co_N 6).fI (by omega) _).fI (by omega) _).fR (by omega) (Or.inr (Or.inl rfl)) _
      have oN : isO (nw g4 6 0 6) a 6 = true := isO_new ha.symm rfl
      have o1 : ∀ v, isO (sI (nw g4 6 0 6) 387 a v) a 6 = true := fun _ => oN
      have o2 : ∀ v w, isO (sI (sI (nw g4 6 0 6) 387 a v) 384 a w) a 6 = true := fun _ _ => oN
      have P16 : CP g16 b n c (pt j S).2.1 (pt j S).2.2.1 ts4 := P4.co q16 (by decide) (by decide) (fun x _ => rfl)
      unfold fX6_init
      simp only [lt_e, ← ha, oN, o1, o2, gd_tt, bn_s, ← e16]
      have tb := IsT_b x6
      have z16 : hsz g16 = a + 1 := by rw [e16, rsR, rsI, rsI, rsN, ha]
      have C16 : Co ((pt j S).2.1 - j + 1) lpP g g16 := p2.t (q16.w (by decide))
      have ho16 : hI g16 195 62 = i32 ow := by rw [C16.I (sz_le P.1.cs (by decide)) (by decide) (by decide)]; exact ho
      have rr : ∀ f' x, x ≠ a → hR g16 f' x = hR g4 f' x := fun f' x hx => by
        rw [e16, rRR, if_neg (fun z => hx z.2)]
        show hR (nw g4 6 0 6) f' x = _
        rw [rRN, if_neg (by omega)]
      have I16 := IsT_fr (g := g16) (lf' := lfT ts4 (pt j S).2.2.1.length) _ _ _ _ _ x6 (fun x x0 x1 ox => ⟨isO_sk q16.sk ox, q16.I x1 rfl rfl, rr 385 x (by omega), fun e h => h⟩) (fun x x0 x1 _ => rr 386 x (by omega))
      rw [← ha] at I16 tb
      have go := cconjunctionL n0 n1 hF (g0 := g) (j0 := j) (f := f) (a := a) (S0 := S) (ts0 := ts) (L0 := (pt j S).2.2.2) P.1.cs P.1.sz 1200 FU 0 (pt j S).2.1 ((pt j S).2.1 - j + 1) (pt j S).2.2.1 ts4 [] g16 (by decide) (by decide) C16 (by rw [if_pos rfl]; exact Nat.le_refl _) x1 P16 ho16 x4 x5 (by omega) tb.1 tb.2.1 I16 (by rw [e16]; exact oN) (by rw [e16, rIR, rII, if_pos ⟨rfl, rfl⟩]) (by rw [e16, rRR, if_pos ⟨rfl, rfl⟩]) (by rw [e16, rRR, if_neg (fun z => absurd z.1 (by decide))]; show hR (nw g4 6 0 6) 386 a = none; rw [rRN, if_pos ha]) (by show hR g16 386 f = none; rw [rr 386 f (by omega)]; exact x7) (fun _ => ⟨w, rfl⟩)
      rw [show (pt j S).2.2.2 ++ fl (opI 1) [] = (pt j S).2.2.2 from List.append_nil _] at go
      exact go
    · rw [if_neg w]
      have pe : ptail (tkn b n) pt 12 1 1200 (pt j S).2.1 (pt j S).2.2.1 (pt j S).2.2.2 = (true, (pt j S).2.1, (pt j S).2.2.1, (pt j S).2.2.2) := by
        exact ptail_n (k := 1199) w
      show ∃ r g', _ ∧ PoT b n c (dq + 1) g j S ts (ptail (tkn b n) pt 12 1 1200 (pt j S).2.1 (pt j S).2.2.1 (pt j S).2.2.2) r g'
      rw [pe]
      exact ⟨_, _, rfl, p1, p2, fun _ => ⟨x1, f, ts4, rfl, P4, x4, x5, IsT_up _ _ _ _ _ (dq + 1) _ _ (Nat.le_succ _) (Nat.le_refl _) (Nat.le_refl _) x6, x7⟩, fun z => by cases z⟩
theorem cdisjunctionL {rF : Nat → Int32 → HP → Option (Option Nat × HP)} {nest : Int32} {b : Int → Int} {n : Int} {c : Nat} {ow : Int} {dq : Nat} {pt : Nat → List TS → PR} (n0 : 0 ≤ n) (n1 : n ≤ 1200) (hF : ∀ (g : HP) (j : Nat) (S : List TS) (ts : Nat → Nat), CP g b n c j S ts → hI g 195 62 = i32 ow → ∃ r g', rF 62 nest g = some (r, g') ∧ PoT b n c dq g j S ts (pt j S) r g') {g0 : HP} {j0 f a : Nat} {S0 : List TS} {ts0 : Nat → Nat} {L0 : List Int} (C0 : CS g0) (z0 : 1008 ≤ hsz g0) : ∀ (k m i j M : Nat) (S : List TS) (ts : Nat → Nat) (Q : List (Nat × List Int)) (g : HP), k + i = 1200 → k < m → Co M lpP g0 g → M ≤ j - j0 + (if Q = [] then 1 else 0) → (j0 < j ∧ j ≤ c) → CP g b n c j S ts → hI g 195 62 = i32 ow → (∀ k, k < S0.length → ts k = ts0 k) → S0.length ≤ S.length → a < hsz g → hsz g0 ≤ f → f < a → IsT g (lfT ts S.length) opI dq (hsz g0) a f L0 → isO g a 6 = true → hI g 384 a = i32 11 → hR g 385 a = some f → hR g 386 a = none → Chn g (IsT g (lfT ts S.length) opI dq) (hsz g) (a + 1) (hR g 386 f) Q → (Q = [] → tkk (tkn b n j) = 11 ∧ i = 0) → ∃ r g', lX3_disjunction_45 rF m 62 nest a (some (lst f Q)) (i32 i) g = some (r, g') ∧ PoT b n c (dq + 1) g0 j0 S0 ts0 (ptail (tkn b n) pt 11 2 k j S (L0 ++ fl (opI 2) Q)) r g' := by
  intro k
  have fin : ∀ (j M : Nat) (S : List TS) (ts : Nat → Nat) (Q : List (Nat × List Int)) (g : HP), Q ≠ [] → Co M lpP g0 g → M ≤ j - j0 + (if Q = [] then 1 else 0) → (j0 < j ∧ j ≤ c) → CP g b n c j S ts → (∀ k, k < S0.length → ts k = ts0 k) → S0.length ≤ S.length → a < hsz g → hsz g0 ≤ f → f < a → IsT g (lfT ts S.length) opI dq (hsz g0) a f L0 → isO g a 6 = true → hI g 384 a = i32 11 → hR g 385 a = some f → hR g 386 a = none → Chn g (IsT g (lfT ts S.length) opI dq) (hsz g) (a + 1) (hR g 386 f) Q → PoT b n c (dq + 1) g0 j0 S0 ts0 (true, j, S, L0 ++ fl (opI 2) Q) (some a) g := by
    intro j M S ts Q g qn q M1 jj P tsE sE ah f0 fa I0 oa a1 a2 a3 ch
    rw [if_neg qn] at M1
    refine ⟨Nat.le_of_lt jj.1, q.up (by show M ≤ j - j0; omega), fun _ => ⟨jj, a, ts, rfl, P, tsE, sE, ⟨by omega, ah, oa, Or.inr (Or.inr ⟨2, Or.inr ⟨rfl, a1⟩, f, L0, Q, a2, I0, qn, ch, rfl⟩)⟩, a3⟩, fun z => by cases z⟩
  induction k with
  | zero =>
    intro m i j M S ts Q g ki km q M1 jj P ho tsE sE ah f0 fa I0 oa a1 a2 a3 ch qi
    obtain ⟨m, rfl⟩ : ∃ x, m = x + 1 := ⟨m - 1, by omega⟩
    have qn : Q ≠ [] := fun z => by have := (qi z).2; omega
    rw [elX3_disjunction_45]; unfold bX3_disjunction_45
    simp (disch := omega) only [i32_le]
    rw [if_pos (by omega)]
    exact ⟨_, _, rfl, fin j M S ts Q g qn q M1 jj P tsE sE ah f0 fa I0 oa a1 a2 a3 ch⟩
  | succ k ih =>
    intro m i j M S ts Q g ki km q M1 jj P ho tsE sE ah f0 fa I0 oa a1 a2 a3 ch qi
    obtain ⟨m, rfl⟩ : ∃ x, m = x + 1 := ⟨m - 1, by omega⟩
    have tv := tk_val (b := b) n0 j
    have tr : 0 ≤ tkk (tkn b n j) ∧ tkk (tkn b n j) < 128 := by omega
    rw [elX3_disjunction_45]; unfold bX3_disjunction_45
    simp (disch := omega) only [i32_le, P.1.cs.o_parser, P.1.cs.r_tokens, P.1.cs.o_tokens, gd_tt, oc_s, P.1.k, i32_eq]
    rw [if_neg (by omega)]
    simp only [ptail]
    by_cases w : tkk (tkn b n j) = 11
    · rw [if_pos w, if_pos w]
      obtain ⟨jc, cn⟩ := P.1.jn n0 (by omega)
      obtain ⟨g1, e1, q1, Q1⟩ := P.1.step n0 n1 (by omega)
      have P1 := P.mv q1 Q1
      have ho1 : hI g1 195 62 = i32 ow := by rw [q1.I (sz_le P.1.cs (by decide)) (by decide) (by decide)]; exact ho
      obtain ⟨r, g2, e2, p1, p2, p3, p4⟩ := hF g1 (j + 1) S ts P1 ho1
      have hz1 : hsz g1 = hsz g := Nat.le_antisymm q1.2.1 q1.sk.1
      have lr := lst_rng Q (a + 1) f (by omega) (by omega) ch
      have ll : hsz g0 ≤ lst f Q ∧ lst f Q < hsz g := by
        rcases lr.2 with z | z <;> omega
      have ol : isO g (lst f Q) 6 = true ∨ True := Or.inr trivial
      have C1 := Q1.cs
      have c02 : Co (M + ((pt (j + 1) S).2.1 - (j + 1))) lpP g0 g2 := (q.t0 (q1.w (by decide))).t p2
      have olst : ∀ (Q : List (Nat × List Int)) (lo : Nat) (f : Nat), isO g f 6 = true → Chn g (IsT g (lfT ts S.length) opI dq) (hsz g) lo (hR g 386 f) Q → isO g (lst f Q) 6 = true := by
        intro Q
        induction Q with
        | nil => intro lo f o _; exact o
        | cons p Q ih2 =>
          intro lo f o z
          obtain ⟨l, m, c1, c2, c3, c4, c5, c6, c7⟩ := z
          exact ih2 m p.1 (IsT_b c6).2.2 c7
      have og := olst Q (a + 1) f (IsT_b I0).2.2 ch
      have og2 : isO g2 (lst f Q) 6 = true := isO_sk p2.sk (isO_sk q1.sk og)
      simp only [e1, bn_s, C1.o_parser, gd_tt, e2, bn2_s, oc_s, og2, lt_e, rRR, and_self, if_true]
      cases ok : (pt (j + 1) S).1 with
      | false =>
        obtain ⟨r1, r2⟩ := p4 ok
        subst r1
        simp only [on_nn]
        refine ⟨_, _, rfl, by show j0 ≤ (pt (j + 1) S).2.1; omega, ?_, fun z => (by cases z), fun _ => ⟨rfl, ?_⟩⟩
        · refine ((c02.fR (f := 386) (a := lst f Q) ll.1 (Or.inr (Or.inr rfl)) none).up ?_)
          show M + ((pt (j + 1) S).2.1 - (j + 1)) ≤ (pt (j + 1) S).2.1 - j0
          split at M1 <;> omega
        · rw [rIR]; exact r2
      | true =>
        obtain ⟨x1, t2, ts2, x2, x3, x4, x5, x6, x7⟩ := p3 ok
        subst x2
        obtain ⟨g3, e3⟩ : ∃ g3, g3 = sR g2 386 (lst f Q) (some t2) := ⟨_, rfl⟩
        have q3 : Co 0 [386] g2 g3 := by rw [e3]; exact Co_R (Or.inl (by decide)) (Or.inr (Or.inr rfl)) _
        have P3 : CP g3 b n c (pt (j + 1) S).2.1 (pt (j + 1) S).2.2.1 ts2 := x3.co q3 (by decide) (by decide) (fun x hx => by simp; omega)
        have hz3 : hsz g3 = hsz g2 := by rw [e3, rsR]
        have tb := IsT_b x6
        have lfm : ∀ x e, lfT ts S.length x e → lfT ts2 (pt (j + 1) S).2.2.1.length x e := fun x e ⟨k, k1, k2, k3⟩ => ⟨k, by omega, k2, (x4 k k1).trans k3⟩
        have same : ∀ x, hsz g0 ≤ x → x < hsz g → isO g x 6 = true → isO g3 x 6 = true ∧ hI g3 384 x = hI g 384 x ∧ hR g3 385 x = hR g 385 x ∧ ∀ e, lfT ts S.length x e → lfT ts2 (pt (j + 1) S).2.2.1.length x e := fun x x0 x1 ox => by
          refine ⟨isO_sk q3.sk (isO_sk p2.sk (isO_sk q1.sk ox)), ?_, ?_, lfm x⟩
          · rw [e3, rIR, p2.I (by omega) (by decide) (by simp [lpP]; omega), q1.I x1 (by decide) (tk_nb (by omega))]
          · rw [e3, rRR, if_neg (fun z => absurd z.1 (by decide)), p2.R (by omega) (by decide) (by simp [lpP]; omega), q1.R x1 (by decide) (tk_nb (by omega))]
        have nxs : ∀ x, hsz g0 ≤ x → x < hsz g → x ≠ lst f Q → hR g3 386 x = hR g 386 x := fun x x0 x1 x2 => by
          rw [e3, rRR, if_neg (fun z => x2 z.2), p2.R (by omega) (by decide) (by simp [lpP]; omega), q1.R x1 (by decide) (tk_nb (by omega))]
        have ho3 : hI g3 195 62 = i32 ow := by rw [e3, rIR, p2.I (sz_le C1 (by decide)) (by decide) (by decide)]; exact ho1
        have so2 := IsT_fr (g := g3) (lf' := lfT ts2 (pt (j + 1) S).2.2.1.length) _ _ _ _ _ x6 (fun x x0 x1 ox => ⟨isO_sk q3.sk ox, by rw [e3, rIR], by rw [e3, rRR, if_neg (fun z => absurd z.1 (by decide))], fun e h => h⟩) (fun x x0 x1 x2 => by rw [e3, rRR, if_neg (fun z => by omega)])
        have I3 := IsT_fr (g := g3) (lf' := lfT ts2 (pt (j + 1) S).2.2.1.length) _ _ _ _ _ I0 (fun x x0 x1 => same x x0 (by omega)) (fun x x0 x1 x2 => nxs x x0 (by omega) (by rcases lr.2 with z | z <;> omega))
        have sa := same a (by omega) ah oa
        have ch3 : Chn g3 (IsT g3 (lfT ts2 (pt (j + 1) S).2.2.1.length) opI dq) (hsz g3) (a + 1) (hR g3 386 f) (Q ++ [(t2, (pt (j + 1) S).2.2.2)]) := by
          refine Chn_app (h := g) (R := IsT g (lfT ts S.length) opI dq) (hi := hsz g) (by rw [hz3, ← hz1]; exact p2.sk.1) (by rw [hz3, ← hz1]; exact ⟨tb.1, tb.2.1⟩) (by rw [hz3, ← hz1]; exact so2) ?_ Q (a + 1) f (by omega) (by omega) (fun l m x L h1 h2 h3 h4 => ?_) (fun x h1 h2 h3 => nxs x (by omega) h2 h3) (by rw [e3, rRR, if_pos ⟨rfl, rfl⟩]) ch
          · rw [e3, rRR, if_neg (fun z => by omega)]; exact x7
          · exact IsT_fr (g := g3) _ _ _ _ _ h4 (fun y y0 y1 => same y (by omega) (by omega)) (fun y y0 y1 y2 => nxs y (by omega) (by omega) (by omega))
        have go := ih m (i + 1) (pt (j + 1) S).2.1 (M + ((pt (j + 1) S).2.1 - (j + 1))) (pt (j + 1) S).2.2.1 ts2 (Q ++ [(t2, (pt (j + 1) S).2.2.2)]) g3 (by omega) (by omega) (by rw [e3]; exact c02.fR ll.1 (Or.inr (Or.inr rfl)) _) (by rw [if_neg (by simp)]; split at M1 <;> omega) ⟨by omega, x1.2⟩ P3 ho3 (fun k hk => (x4 k (by omega)).trans (tsE k hk)) (by omega) (by rw [hz3]; have := p2.sk.1; omega) f0 fa I3 sa.1 (sa.2.1.trans a1) (sa.2.2.1.trans a2) ((nxs a (by omega) ah (by rcases lr.2 with z | z <;> omega)).trans a3) ch3 (fun z => by simp at z)
        rw [lst_app, fl_app, fl_one, ← List.append_assoc] at go
        simp only [on_sm, i32_add, ← e3]
        exact go
    · rw [if_neg w, if_neg w]
      have qn : Q ≠ [] := fun z => w (qi z).1
      exact ⟨_, _, rfl, fin j M S ts Q g qn q M1 jj P tsE sE ah f0 fa I0 oa a1 a2 a3 ch⟩
theorem cdisjunction {rF : Nat → Int32 → HP → Option (Option Nat × HP)} {nest : Int32} {b : Int → Int} {n : Int} {c : Nat} {ow : Int} {dq : Nat} {pt : Nat → List TS → PR} (n0 : 0 ≤ n) (n1 : n ≤ 1200) (hF : ∀ (g : HP) (j : Nat) (S : List TS) (ts : Nat → Nat), CP g b n c j S ts → hI g 195 62 = i32 ow → ∃ r g', rF 62 nest g = some (r, g') ∧ PoT b n c dq g j S ts (pt j S) r g') (g : HP) (j : Nat) (S : List TS) (ts : Nat → Nat) (P : CP g b n c j S ts) (ho : hI g 195 62 = i32 ow) : ∃ r g', FX3_disjunction rF 62 nest g = some (r, g') ∧ PoT b n c (dq + 1) g j S ts (pch (tkn b n) pt 11 2 j S) r g' := by
  obtain ⟨r, g4, e4, p1, p2, p3, p4⟩ := hF g j S ts P ho
  unfold FX3_disjunction pch
  simp only [P.1.cs.o_parser, gd_tt, e4, bn2_s]
  cases ok : (pt j S).1 with
  | false =>
    obtain ⟨r1, r2⟩ := p4 ok
    subst r1
    simp only [on_nn]
    exact ⟨_, _, rfl, p1, p2, fun z => (by cases z), fun _ => ⟨rfl, r2⟩⟩
  | true =>
    obtain ⟨x1, f, ts4, x2, P4, x4, x5, x6, x7⟩ := p3 ok
    subst x2
    have C4 := P4.1.cs
    have tv := tk_val (b := b) n0 (pt j S).2.1
    have tr : 0 ≤ tkk (tkn b n (pt j S).2.1) ∧ tkk (tkn b n (pt j S).2.1) < 128 := by omega
    simp (disch := omega) only [on_sm, C4.o_parser, C4.r_tokens, C4.o_tokens, gd_tt, oc_s, P4.1.k, i32_eq]
    by_cases w : tkk (tkn b n (pt j S).2.1) = 11
    · rw [if_pos w]
      obtain ⟨a, ha⟩ : ∃ a, a = hsz g4 := ⟨_, rfl⟩
      obtain ⟨g16, e16⟩ : ∃ g16, g16 = sR (sI (sI (nw g4 6 0 6) 387 a (i32 (-2))) 384 a (i32 11)) 385 a (some f) := ⟨_, rfl⟩
      have q16 : Co 1 [] g4 g16 := by rw [e16]; exact (((Co_N 6).fI (by omega) _).fI (by omega) _).fR (by omega) (Or.inr (Or.inl rfl)) _
      have oN : isO (nw g4 6 0 6) a 6 = true := isO_new ha.symm rfl
      have o1 : ∀ v, isO (sI (nw g4 6 0 6) 387 a v) a 6 = true := fun _ => oN
      have o2 : ∀ v w, isO (sI (sI (nw g4 6 0 6) 387 a v) 384 a w) a 6 = true := fun _ _ => oN
      have P16 : CP g16 b n c (pt j S).2.1 (pt j S).2.2.1 ts4 := P4.co q16 (by decide) (by decide) (fun x _ => rfl)
      unfold fX6_init
      simp only [lt_e, ← ha, oN, o1, o2, gd_tt, bn_s, ← e16]
      have tb := IsT_b x6
      have z16 : hsz g16 = a + 1 := by rw [e16, rsR, rsI, rsI, rsN, ha]
      have C16 : Co ((pt j S).2.1 - j + 1) lpP g g16 := p2.t (q16.w (by decide))
      have ho16 : hI g16 195 62 = i32 ow := by rw [C16.I (sz_le P.1.cs (by decide)) (by decide) (by decide)]; exact ho
      have rr : ∀ f' x, x ≠ a → hR g16 f' x = hR g4 f' x := fun f' x hx => by
        rw [e16, rRR, if_neg (fun z => hx z.2)]
        show hR (nw g4 6 0 6) f' x = _
        rw [rRN, if_neg (by omega)]
      have I16 := IsT_fr (g := g16) (lf' := lfT ts4 (pt j S).2.2.1.length) _ _ _ _ _ x6 (fun x x0 x1 ox => ⟨isO_sk q16.sk ox, q16.I x1 rfl rfl, rr 385 x (by omega), fun e h => h⟩) (fun x x0 x1 _ => rr 386 x (by omega))
      rw [← ha] at I16 tb
      have go := cdisjunctionL n0 n1 hF (g0 := g) (j0 := j) (f := f) (a := a) (S0 := S) (ts0 := ts) (L0 := (pt j S).2.2.2) P.1.cs P.1.sz 1200 FU 0 (pt j S).2.1 ((pt j S).2.1 - j + 1) (pt j S).2.2.1 ts4 [] g16 (by decide) (by decide) C16 (by rw [if_pos rfl]; exact Nat.le_refl _) x1 P16 ho16 x4 x5 (by omega) tb.1 tb.2.1 I16 (by rw [e16]; exact oN) (by rw [e16, rIR, rII, if_pos ⟨rfl, rfl⟩]) (by rw [e16, rRR, if_pos ⟨rfl, rfl⟩]) (by rw [e16, rRR, if_neg (fun z => absurd z.1 (by decide))]; show hR (nw g4 6 0 6) 386 a = none; rw [rRN, if_pos ha]) (by show hR g16 386 f = none; rw [rr 386 f (by omega)]; exact x7) (fun _ => ⟨w, rfl⟩)
      rw [show (pt j S).2.2.2 ++ fl (opI 2) [] = (pt j S).2.2.2 from List.append_nil _] at go
      exact go
    · rw [if_neg w]
      have pe : ptail (tkn b n) pt 11 2 1200 (pt j S).2.1 (pt j S).2.2.1 (pt j S).2.2.2 = (true, (pt j S).2.1, (pt j S).2.2.1, (pt j S).2.2.2) := by
        exact ptail_n (k := 1199) w
      show ∃ r g', _ ∧ PoT b n c (dq + 1) g j S ts (ptail (tkn b n) pt 11 2 1200 (pt j S).2.1 (pt j S).2.2.1 (pt j S).2.2.2) r g'
      rw [pe]
      exact ⟨_, _, rfl, p1, p2, fun _ => ⟨x1, f, ts4, rfl, P4, x4, x5, IsT_up _ _ _ _ _ (dq + 1) _ _ (Nat.le_succ _) (Nat.le_refl _) (Nat.le_refl _) x6, x7⟩, fun z => by cases z⟩
