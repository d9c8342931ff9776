theorem ptail_n {T : Nat → TK} {pt : Nat → List TS → PR} {w op : Int} {j k : Nat} {S : List TS} {L : List Int} (h : ¬ tkk (T j) = w) : ptail T pt w op (k + 1) j S L = (true, j, S, L) := by
  simp only [ptail]; rw [if_neg h]
theorem cconjunctionL {rF : Nat → Int32 → HP → Option (Option Nat × HP)} {nest : Int32} {b : Int → Int} {n : Int} {c : Nat} {ow : Int} {dq : Nat} {pt : Nat → List TS → PR} (n0 : 0 ≤ n) (n1 : n ≤ 1200) (hF : ∀ (g : HP) (j : Nat) (S : List TS) (ts : Nat → Nat), CP g b n c j S ts → hI g 195 62 = i32 ow → ∃ r g', rF 62 nest g = some (r, g') ∧ PoT b n c dq g j S ts (pt j S) r g') {g0 : HP} {j0 f a : Nat} {S0 : List TS} {ts0 : Nat → Nat} {L0 : List Int} (C0 : CS g0) (z0 : 1008 ≤ hsz g0) : ∀ (k m i j M : Nat) (S : List TS) (ts : Nat → Nat) (Q : List (Nat × List Int)) (g : HP), k + i = 1200 → k < m → Co M lpP g0 g → M ≤ j - j0 + (if Q = [] then 1 else 0) → (j0 < j ∧ j ≤ c) → CP g b n c j S ts → hI g 195 62 = i32 ow → (∀ k, k < S0.length → ts k = ts0 k) → S0.length ≤ S.length → a < hsz g → hsz g0 ≤ f → f < a → IsT g (lfT ts S.length) opI dq (hsz g0) a f L0 → isO g a 6 = true → hI g 384 a = i32 12 → hR g 385 a = some f → hR g 386 a = none → Chn g (IsT g (lfT ts S.length) opI dq) (hsz g) (a + 1) (hR g 386 f) Q → (Q = [] → tkk (tkn b n j) = 12 ∧ i = 0) → ∃ r g', lX3_conjunction_45 rF m 62 nest a (some (lst f Q)) (i32 i) g = some (r, g') ∧ PoT b n c (dq + 1) g0 j0 S0 ts0 (ptail (tkn b n) pt 12 1 k j S (L0 ++ fl (opI 1) Q)) r g' := by
  intro k
  have fin : ∀ (j M : Nat) (S : List TS) (ts : Nat → Nat) (Q : List (Nat × List Int)) (g : HP), Q ≠ [] → Co M lpP g0 g → M ≤ j - j0 + (if Q = [] then 1 else 0) → (j0 < j ∧ j ≤ c) → CP g b n c j S ts → (∀ k, k < S0.length → ts k = ts0 k) → S0.length ≤ S.length → a < hsz g → hsz g0 ≤ f → f < a → IsT g (lfT ts S.length) opI dq (hsz g0) a f L0 → isO g a 6 = true → hI g 384 a = i32 12 → hR g 385 a = some f → hR g 386 a = none → Chn g (IsT g (lfT ts S.length) opI dq) (hsz g) (a + 1) (hR g 386 f) Q → PoT b n c (dq + 1) g0 j0 S0 ts0 (true, j, S, L0 ++ fl (opI 1) Q) (some a) g := by
    intro j M S ts Q g qn q M1 jj P tsE sE ah f0 fa I0 oa a1 a2 a3 ch
    rw [if_neg qn] at M1
    refine ⟨Nat.le_of_lt jj.1, q.up (by show M ≤ j - j0; omega), fun _ => ⟨jj, a, ts, rfl, P, tsE, sE, ⟨by omega, ah, oa, Or.inr (Or.inr ⟨1, Or.inl ⟨rfl, a1⟩, f, L0, Q, a2, I0, qn, ch, rfl⟩)⟩, a3⟩, fun z => by cases z⟩
  induction k with
  | zero =>
    intro m i j M S ts Q g ki km q M1 jj P ho tsE sE ah f0 fa I0 oa a1 a2 a3 ch qi
    obtain ⟨m, rfl⟩ : ∃ x, m = x + 1 := ⟨m - 1, by omega⟩
    have qn : Q ≠ [] := fun z => by have := (qi z).2; omega
    rw [elX3_conjunction_45]; unfold bX3_conjunction_45
    simp (disch := omega) only [i32_le]
    rw [if_pos (by omega)]
    exact ⟨_, _, rfl, fin j M S ts Q g qn q M1 jj P tsE sE ah f0 fa I0 oa a1 a2 a3 ch⟩
  | succ k ih =>
    intro m i j M S ts Q g ki km q M1 jj P ho tsE sE ah f0 fa I0 oa a1 a2 a3 ch qi
    obtain ⟨m, rfl⟩ : ∃ x, m = x + 1 := ⟨m - 1, by omega⟩
    have tv := tk_val (b := b) n0 j
    have tr : 0 ≤ tkk (tkn b n j) ∧ tkk (tkn b n j) < 128 := by omega
    rw [elX3_conjunction_45]; unfold bX3_conjunction_45
    simp (disch := omega) only [i32_le, P.1.cs.o_parser, P.1.cs.r_tokens, P.1.cs.o_tokens, gd_tt, oc_s, P.1.k, i32_eq]
    rw [if_neg (by omega)]
    simp only [ptail]
    by_cases w : tkk (tkn b n j) = 12
    · rw [if_pos w, if_pos w]
      obtain ⟨jc, cn⟩ := P.1.jn n0 (by omega)
      obtain ⟨g1, e1, q1, Q1⟩ := P.1.step n0 n1 (by omega)
      have P1 := P.mv q1 Q1
      have ho1 : hI g1 195 62 = i32 ow := by rw [q1.I (sz_le P.1.cs (by decide)) (by decide) (by decide)]; exact ho
      obtain ⟨r, g2, e2, p1, p2, p3, p4⟩ := hF g1 (j + 1) S ts P1 ho1
      have hz1 : hsz g1 = hsz g := Nat.le_antisymm q1.2.1 q1.sk.1
      have lr := lst_rng Q (a + 1) f (by omega) (by omega) ch
      have ll : hsz g0 ≤ lst f Q ∧ lst f Q < hsz g := by
        rcases lr.2 with z | z <;> omega
      have ol : isO g (lst f Q) 6 = true ∨ True := Or.inr trivial
      have C1 := Q1.cs
      have c02 : Co (M + ((pt (j + 1) S).2.1 - (j + 1))) lpP g0 g2 := (q.t0 (q1.w (by decide))).t p2
      have olst : ∀ (Q : List (Nat × List Int)) (lo : Nat) (f : Nat), isO g f 6 = true → Chn g (IsT g (lfT ts S.length) opI dq) (hsz g) lo (hR g 386 f) Q → isO g (lst f Q) 6 = true := by
        intro Q
        induction Q with
        | nil => intro lo f o _; exact o
        | cons p Q ih2 =>
          intro lo f o z
          obtain ⟨l, m, c1, c2, c3, c4, c5, c6, c7⟩ := z
          exact ih2 m p.1 (IsT_b c6).2.2 c7
      have og := olst Q (a + 1) f (IsT_b I0).2.2 ch
      have og2 : isO g2 (lst f Q) 6 = true := isO_sk p2.sk (isO_sk q1.sk og)
      simp only [e1, bn_s, C1.o_parser, gd_tt, e2, bn2_s, oc_s, og2, lt_e, rRR, and_self, if_true]
      cases ok : (pt (j + 1) S).1 with
      | false =>
        obtain ⟨r1, r2⟩ := p4 ok
        subst r1
        simp only [on_nn]
        refine ⟨_, _, rfl, by show j0 ≤ (pt (j + 1) S).2.1; omega, ?_, fun z => (by cases z), fun _ => ⟨rfl, ?_⟩⟩
        · refine ((c02.fR (f := 386) (a := lst f Q) ll.1 (Or.inr (Or.inr rfl)) none).up ?_)
          show M + ((pt (j + 1) S).2.1 - (j + 1)) ≤ (pt (j + 1) S).2.1 - j0
          split at M1 <;> omega
        · rw [rIR]; exact r2
      | true =>
        obtain ⟨x1, t2, ts2, x2, x3, x4, x5, x6, x7⟩ := p3 ok
        subst x2
        obtain ⟨g3, e3⟩ : ∃ g3, g3 = sR g2 386 (lst f Q) (some t2) := ⟨_, rfl⟩
        have q3 : Co 0 [386] g2 g3 := by rw [e3]; exact Co_R (Or.inl (by decide)) (Or.inr (Or.inr rfl)) _
        have P3 : CP g3 b n c (pt (j + 1) S).2.1 (pt (j + 1) S).2.2.1 ts2 := x3.co q3 (by decide) (by decide) (fun x hx => by simp; omega)
        have hz3 : hsz g3 = hsz g2 := by rw [e3, rsR]
        have tb := IsT_b x6
        have lfm : ∀ x e, lfT ts S.length x e → lfT ts2 (pt (j + 1) S).2.2.1.length x e := fun x e ⟨k, k1, k2, k3⟩ => ⟨k, by omega, k2, (x4 k k1).trans k3⟩
        have same : ∀ x, hsz g0 ≤ x → x < hsz g → isO g x 6 = true → isO g3 x 6 = true ∧ hI g3 384 x = hI g 384 x ∧ hR g3 385 x = hR g 385 x ∧ ∀ e, lfT ts S.length x e → lfT ts2 (pt (j + 1) S).2.2.1.length x e := fun x x0 x1 ox => by
          refine ⟨isO_sk q3.sk (isO_sk p2.sk (isO_sk q1.sk ox)), ?_, ?_, lfm x⟩
          · rw [e3, rIR, p2.I (by omega) (by decide) (by simp [lpP]; omega), q1.I x1 (by decide) (tk_nb (by omega))]
          · rw [e3, rRR, if_neg (fun z => absurd z.1 (by decide)), p2.R (by omega) (by decide) (by simp [lpP]; omega), q1.R x1 (by decide) (tk_nb (by omega))]
        have nxs : ∀ x, hsz g0 ≤ x → x < hsz g → x ≠ lst f Q → hR g3 386 x = hR g 386 x := fun x x0 x1 x2 => by
          rw [e3, rRR, if_neg (fun z => x2 z.2), p2.R (by omega) (by decide) (by simp [lpP]; omega), q1.R x1 (by decide) (tk_nb (by omega))]
        have ho3 : hI g3 195 62 = i32 ow := by rw [e3, rIR, p2.I (sz_le C1 (by decide)) (by decide) (by decide)]; exact ho1
        have so2 := IsT_fr (g := g3) (lf' := lfT ts2 (pt (j + 1) S).2.2.1.length) _ _ _ _ _ x6 (fun x x0 x1 ox => ⟨isO_sk q3.sk ox, by rw [e3, rIR], by rw [e3, rRR, if_neg (fun z => absurd z.1 (by decide))], fun e h => h⟩) (fun x x0 x1 x2 => by rw [e3, rRR, if_neg (fun z => by omega)])
        have I3 := IsT_fr (g := g3) (lf' := lfT ts2 (pt (j + 1) S).2.2.1.length) _ _ _ _ _ I0 (fun x x0 x1 => same x x0 (by omega)) (fun x x0 x1 x2 => nxs x x0 (by omega) (by rcases lr.2 with z | z <;> omega))
        have sa := same a (by omega) ah oa
        have ch3 : Chn g3 (IsT g3 (lfT ts2 (pt (j + 1) S).2.2.1.length) opI dq) (hsz g3) (a + 1) (hR g3 386 f) (Q ++ [(t2, (pt (j + 1) S).2.2.2)]) := by
          refine Chn_app (h := g) (R := IsT g (lfT ts S.length) opI dq) (hi := hsz g) (by rw [hz3, ← hz1]; exact p2.sk.1) (by rw [hz3, ← hz1]; exact ⟨tb.1, tb.2.1⟩) (by rw [hz3, ← hz1]; exact so2) ?_ Q (a + 1) f (by omega) (by omega) (fun l m x L h1 h2 h3 h4 => ?_) (fun x h1 h2 h3 => nxs x (by omega) h2 h3) (by rw [e3, rRR, if_pos ⟨rfl, rfl⟩]) ch
          · rw [e3, rRR, if_neg (fun z => by omega)]; exact x7
          · exact IsT_fr (g := g3) _ _ _ _ _ h4 (fun y y0 y1 => same y (by omega) (by omega)) (fun y y0 y1 y2 => nxs y (by omega) (by omega) (by omega))
        have go := ih m (i + 1) (pt (j + 1) S).2.1 (M + ((pt (j + 1) S).2.1 - (j + 1))) (pt (j + 1) S).2.2.1 ts2 (Q ++ [(t2, (pt (j + 1) S).2.2.2)]) g3 (by omega) (by omega) (by rw [e3]; exact c02.fR ll.1 (Or.inr (Or.inr rfl)) _) (by rw [if_neg (by simp)]; split at M1 <;> omega) ⟨by omega, x1.2⟩ P3 ho3 (fun k hk => (x4 k (by omega)).trans (tsE k hk)) (by omega) (by rw [hz3]; have := p2.sk.1; omega) f0 fa I3 sa.1 (sa.2.1.trans a1) (sa.2.2.1.trans a2) ((nxs a (by omega) ah (by rcases lr.2 with z | z <;> omega)).trans a3) ch3 (fun z => by simp at z)
        rw [lst_app, fl_app, fl_one, ← List.append_assoc] at go
        simp only [on_sm, i32_add, ← e3]
        exact go
    · rw [if_neg w, if_neg w]
      have qn : Q ≠ [] := fun z => w (qi z).1
      exact ⟨_, _, rfl, fin j M S ts Q g qn q M1 jj P tsE sE ah f0 fa I0 oa a1 a2 a3 ch⟩
theorem cconjunction {rF : Nat → Int32 → HP → Option (Option Nat × HP)} {nest : Int32} {b : Int → Int} {n : Int} {c : Nat} {ow : Int} {dq : Nat} {pt : Nat → List TS → PR} (n0 : 0 ≤ n) (n1 : n ≤ 1200) (hF : ∀ (g : HP) (j : Nat) (S : List TS) (ts : Nat → Nat), CP g b n c j S ts → hI g 195 62 = i32 ow → ∃ r g', rF 62 nest g = some (r, g') ∧ PoT b n c dq g j S ts (pt j S) r g') (g : HP) (j : Nat) (S : List TS) (ts : Nat → Nat) (P : CP g b n c j S ts) (ho : hI g 195 62 = i32 ow) : ∃ r g', FX3_conjunction rF 62 nest g = some (r, g') ∧ PoT b n c (dq + 1) g j S ts (pch (tkn b n) pt 12 1 j S) r g' := by
  obtain ⟨r, g4, e4, p1, p2, p3, p4⟩ := hF g j S ts P ho
  unfold FX3_conjunction pch
  simp only [P.1.cs.o_parser, gd_tt, e4, bn2_s]
  cases ok : (pt j S).1 with
  | false =>
    obtain ⟨r1, r2⟩ := p4 ok
    subst r1
    simp only [on_nn]
    exact ⟨_, _, rfl, p1, p2, fun z => (by cases z), fun _ => ⟨rfl, r2⟩⟩
  | true =>
    obtain ⟨x1, f, ts4, x2, P4, x4, x5, x6, x7⟩ := p3 ok
    subst x2
    have C4 := P4.1.cs
    have tv := tk_val (b := b) n0 (pt j S).2.1
    have tr : 0 ≤ tkk (tkn b n (pt j S).2.1) ∧ tkk (tkn b n (pt j S).2.1) < 128 := by omega
    simp (disch := omega) only [on_sm, C4.o_parser, C4.r_tokens, C4.o_tokens, gd_tt, oc_s, P4.1.k, i32_eq]
    by_cases w : tkk (tkn b n (pt j S).2.1) = 12
    · rw [if_pos w]
      obtain ⟨a, ha⟩ : ∃ a, a = hsz g4 := ⟨_, rfl⟩
      obtain ⟨g16, e16⟩ : ∃ g16, g16 = sR (sI (sI (nw g4 6 0 6) 387 a (i32 (-2))) 384 a (i32 12)) 385 a (some f) := ⟨_, rfl⟩
      have q16 : Co 1 [] g4 g16 := by rw [e16]; exact (((Co_N 6).fI (by omega) _).fI (by omega) _).fR (by omega) (Or.inr (Or.inl rfl)) _
      have oN : isO (nw g4 6 0 6) a 6 = true := isO_new ha.symm rfl
      have o1 : ∀ v, isO (sI (nw g4 6 0 6) 387 a v) a 6 = true := fun _ => oN
      have o2 : ∀ v w, isO (sI (sI (nw g4 6 0 6) 387 a v) 384 a w) a 6 = true := fun _ _ => oN
      have P16 : CP g16 b n c (pt j S).2.1 (pt j S).2.2.1 ts4 := P4.co q16 (by decide) (by decide) (fun x _ => rfl)
      unfold fX6_init
      simp only [lt_e, ← ha, oN, o1, o2, gd_tt, bn_s, ← e16]
      have tb := IsT_b x6
      have z16 : hsz g16 = a + 1 := by rw [e16, rsR, rsI, rsI, rsN, ha]
      have C16 : Co ((pt j S).2.1 - j + 1) lpP g g16 := p2.t (q16.w (by decide))
      have ho16 : hI g16 195 62 = i32 ow := by rw [C16.I (sz_le P.1.cs (by decide)) (by decide) (by decide)]; exact ho
      have rr : ∀ f' x, x ≠ a → hR g16 f' x = hR g4 f' x := fun f' x hx => by
        rw [e16, rRR, if_neg (fun z => hx z.2)]
        show hR (nw g4 6 0 6) f' x = _
        rw [rRN, if_neg (by omega)]
      have I16 := IsT_fr (g := g16) (lf' := lfT ts4 (pt j S).2.2.1.length) _ _ _ _ _ x6 (fun x x0 x1 ox => ⟨isO_sk q16.sk ox, q16.I x1 rfl rfl, rr 385 x (by omega), fun e h => h⟩) (fun x x0 x1 _ => rr 386 x (by omega))
      rw [← ha] at I16 tb
      have go := cconjunctionL n0 n1 hF (g0 := g) (j0 := j) (f := f) (a := a) (S0 := S) (ts0 := ts) (L0 := (pt j S).2.2.2) P.1.cs P.1.sz 1200 FU 0 (pt j S).2.1 ((pt j S).2.1 - j + 1) (pt j S).2.2.1 ts4 [] g16 (by decide) (by decide) C16 (by rw [if_pos rfl]; exact Nat.le_refl _) x1 P16 ho16 x4 x5 (by omega) tb.1 tb.2.1 I16 (by rw [e16]; exact oN) (by rw [e16, rIR, rII, if_pos ⟨rfl, rfl⟩]) (by rw [e16, rRR, if_pos ⟨rfl, rfl⟩]) (by rw [e16, rRR, if_neg (fun z => absurd z.1 (by decide))]; show hR (nw g4 6 0 6) 386 a = none; rw [rRN, if_pos ha]) (by show hR g16 386 f = none; rw [rr 386 f (by omega)]; exact x7) (fun _ => ⟨w, rfl⟩)
      rw [show (pt j S).2.2.2 ++ fl (opI 1) [] = (pt j S).2.2.2 from List.append_nil _] at go
      exact go
    · rw [if_neg w]
      have pe : ptail (tkn b n) pt 12 1 1200 (pt j S).2.1 (pt j S).2.2.1 (pt j S).2.2.2 = (true, (pt j S).2.1, (pt j S).2.2.1, (pt j S).2.2.2) := by
        exact ptail_n (k := 1199) w
      show ∃ r g', _ ∧ PoT b n c (dq + 1) g j S ts (ptail (tkn b n) pt 12 1 1200 (pt j S).2.1 (pt j S).2.2.1 (pt j S).2.2.2) r g'
      rw [pe]
      exact ⟨_, _, rfl, p1, p2, fun _ => ⟨x1, f, ts4, rfl, P4, x4, x5, IsT_up _ _ _ _ _ (dq + 1) _ _ (Nat.le_succ _) (Nat.le_refl _) (Nat.le_refl _) x6, x7⟩, fun z => by cases z⟩
theorem cdisjunctionL {rF : Nat → Int32 → HP → Option (Option Nat × HP)} {nest : Int32} {b : Int → Int} {n : Int} {c : Nat} {ow : Int} {dq : Nat} {pt : Nat → List TS → PR} (n0 : 0 ≤ n) (n1 : n ≤ 1200) (hF : ∀ (g : HP) (j : Nat) (S : List TS) (ts : Nat → Nat), CP g b n c j S ts → hI g 195 62 = i32 ow → ∃ r g', rF 62 nest g = some (r, g') ∧ PoT b n c dq g j S ts (pt j S) r g') {g0 : HP} {j0 f a : Nat} {S0 : List TS} {ts0 : Nat → Nat} {L0 : List Int} (C0 : CS g0) (z0 : 1008 ≤ hsz g0) : ∀ (k m i j M : Nat) (S : List TS) (ts : Nat → Nat) (Q : List (Nat × List Int)) (g : HP), k + i = 1200 → k < m → Co M lpP g0 g → M ≤ j - j0 + (if Q = [] then 1 else 0) → (j0 < j ∧ j ≤ c) → CP g b n c j S ts → hI g 195 62 = i32 ow → (∀ k, k < S0.length → ts k = ts0 k) → S0.length ≤ S.length → a < hsz g → hsz g0 ≤ f → f < a → IsT g (lfT ts S.length) opI dq (hsz g0) a f L0 → isO g a 6 = true → hI g 384 a = i32 11 → hR g 385 a = some f → hR g 386 a = none → Chn g (IsT g (lfT ts S.length) opI dq) (hsz g) (a + 1) (hR g 386 f) Q → (Q = [] → tkk (tkn b n j) = 11 ∧ i = 0) → ∃ r g', lX3_disjunction_45 rF m 62 nest a (some (lst f Q)) (i32 i) g = some (r, g') ∧ PoT b n c (dq + 1) g0 j0 S0 ts0 (ptail (tkn b n) pt 11 2 k j S (L0 ++ fl (opI 2) Q)) r g' := by
  intro k
  have fin : ∀ (j M : Nat) (S : List TS) (ts : Nat → Nat) (Q : List (Nat × List Int)) (g : HP), Q ≠ [] → Co M lpP g0 g → M ≤ j - j0 + (if Q = [] then 1 else 0) → (j0 < j ∧ j ≤ c) → CP g b n c j S ts → (∀ k, k < S0.length → ts k = ts0 k) → S0.length ≤ S.length → a < hsz g → hsz g0 ≤ f → f < a → IsT g (lfT ts S.length) opI dq (hsz g0) a f L0 → isO g a 6 = true → hI g 384 a = i32 11 → hR g 385 a = some f → hR g 386 a = none → Chn g (IsT g (lfT ts S.length) opI dq) (hsz g) (a + 1) (hR g 386 f) Q → PoT b n c (dq + 1) g0 j0 S0 ts0 (true, j, S, L0 ++ fl (opI 2) Q) (some a) g := by
    intro j M S ts Q g qn q M1 jj P tsE sE ah f0 fa I0 oa a1 a2 a3 ch
    rw [if_neg qn] at M1
    refine ⟨Nat.le_of_lt jj.1, q.up (by show M ≤ j - j0; omega), fun _ => ⟨jj, a, ts, rfl, P, tsE, sE, ⟨by omega, ah, oa, Or.inr (Or.inr ⟨2, Or.inr ⟨rfl, a1⟩, f, L0, Q, a2, I0, qn, ch, rfl⟩)⟩, a3⟩, fun z => by cases z⟩
  induction k with
  | zero =>
    intro m i j M S ts Q g ki km q M1 jj P ho tsE sE ah f0 fa I0 oa a1 a2 a3 ch qi
    obtain ⟨m, rfl⟩ : ∃ x, m = x + 1 := ⟨m - 1, by omega⟩
    have qn : Q ≠ [] := fun z => by have := (qi z).2; omega
    rw [elX3_disjunction_45]; unfold bX3_disjunction_45
    simp (disch := omega) only [i32_le]
    rw [if_pos (by omega)]
    exact ⟨_, _, rfl, fin j M S ts Q g qn q M1 jj P tsE sE ah f0 fa I0 oa a1 a2 a3 ch⟩
  | succ k ih =>
    intro m i j M S ts Q g ki km q M1 jj P ho tsE sE ah f0 fa I0 oa a1 a2 a3 ch qi
    obtain ⟨m, rfl⟩ : ∃ x, m = x + 1 := ⟨m - 1, by omega⟩
    have tv := tk_val (b := b) n0 j
    have tr : 0 ≤ tkk (tkn b n j) ∧ tkk (tkn b n j) < 128 := by omega
    rw [elX3_disjunction_45]; unfold bX3_disjunction_45
    simp (disch := omega) only [i32_le, P.1.cs.o_parser, P.1.cs.r_tokens, P.1.cs.o_tokens, gd_tt, oc_s, P.1.k, i32_eq]
    rw [if_neg (by omega)]
    simp only [ptail]
    by_cases w : tkk (tkn b n j) = 11
    · rw [if_pos w, if_pos w]
      obtain ⟨jc, cn⟩ := P.1.jn n0 (by omega)
      obtain ⟨g1, e1, q1, Q1⟩ := P.1.step n0 n1 (by omega)
      have P1 := P.mv q1 Q1
      have ho1 : hI g1 195 62 = i32 ow := by rw [q1.I (sz_le P.1.cs (by decide)) (by decide) (by decide)]; exact ho
      obtain ⟨r, g2, e2, p1, p2, p3, p4⟩ := hF g1 (j + 1) S ts P1 ho1
      have hz1 : hsz g1 = hsz g := Nat.le_antisymm q1.2.1 q1.sk.1
      have lr := lst_rng Q (a + 1) f (by omega) (by omega) ch
      have ll : hsz g0 ≤ lst f Q ∧ lst f Q < hsz g := by
        rcases lr.2 with z | z <;> omega
      have ol : isO g (lst f Q) 6 = true ∨ True := Or.inr trivial
      have C1 := Q1.cs
      have c02 : Co (M + ((pt (j + 1) S).2.1 - (j + 1))) lpP g0 g2 := (q.t0 (q1.w (by decide))).t p2
      have olst : ∀ (Q : List (Nat × List Int)) (lo : Nat) (f : Nat), isO g f 6 = true → Chn g (IsT g (lfT ts S.length) opI dq) (hsz g) lo (hR g 386 f) Q → isO g (lst f Q) 6 = true := by
        intro Q
        induction Q with
        | nil => intro lo f o _; exact o
        | cons p Q ih2 =>
          intro lo f o z
          obtain ⟨l, m, c1, c2, c3, c4, c5, c6, c7⟩ := z
          exact ih2 m p.1 (IsT_b c6).2.2 c7
      have og := olst Q (a + 1) f (IsT_b I0).2.2 ch
      have og2 : isO g2 (lst f Q) 6 = true := isO_sk p2.sk (isO_sk q1.sk og)
      simp only [e1, bn_s, C1.o_parser, gd_tt, e2, bn2_s, oc_s, og2, lt_e, rRR, and_self, if_true]
      cases ok : (pt (j + 1) S).1 with
      | false =>
        obtain ⟨r1, r2⟩ := p4 ok
        subst r1
        simp only [on_nn]
        refine ⟨_, _, rfl, by show j0 ≤ (pt (j + 1) S).2.1; omega, ?_, fun z => (by cases z), fun _ => ⟨rfl, ?_⟩⟩
        · refine ((c02.fR (f := 386) (a := lst f Q) ll.1 (Or.inr (Or.inr rfl)) none).up ?_)
          show M + ((pt (j + 1) S).2.1 - (j + 1)) ≤ (pt (j + 1) S).2.1 - j0
          split at M1 <;> omega
        · rw [rIR]; exact r2
      | true =>
        obtain ⟨x1, t2, ts2, x2, x3, x4, x5, x6, x7⟩ := p3 ok
        subst x2
        obtain ⟨g3, e3⟩ : ∃ g3, g3 = sR g2 386 (lst f Q) (some t2) := ⟨_, rfl⟩
        have q3 : Co 0 [386] g2 g3 := by rw [e3]; exact Co_R (Or.inl (by decide)) (Or.inr (Or.inr rfl)) _
        have P3 : CP g3 b n c (pt (j + 1) S).2.1 (pt (j + 1) S).2.2.1 ts2 := x3.co q3 (by decide) (by decide) (fun x hx => by simp; omega)
        have hz3 : hsz g3 = hsz g2 := by rw [e3, rsR]
        have tb := IsT_b x6
        have lfm : ∀ x e, lfT ts S.length x e → lfT ts2 (pt (j + 1) S).2.2.1.length x e := fun x e ⟨k, k1, k2, k3⟩ => ⟨k, by omega, k2, (x4 k k1).trans k3⟩
        have same : ∀ x, hsz g0 ≤ x → x < hsz g → isO g x 6 = true → isO g3 x 6 = true ∧ hI g3 384 x = hI g 384 x ∧ hR g3 385 x = hR g 385 x ∧ ∀ e, lfT ts S.length x e → lfT ts2 (pt (j + 1) S).2.2.1.length x e := fun x x0 x1 ox => by
          refine ⟨isO_sk q3.sk (isO_sk p2.sk (isO_sk q1.sk ox)), ?_, ?_, lfm x⟩
          · rw [e3, rIR, p2.I (by omega) (by decide) (by simp [lpP]; omega), q1.I x1 (by decide) (tk_nb (by omega))]
          · rw [e3, rRR, if_neg (fun z => absurd z.1 (by decide)), p2.R (by omega) (by decide) (by simp [lpP]; omega), q1.R x1 (by decide) (tk_nb (by omega))]
        have nxs : ∀ x, hsz g0 ≤ x → x < hsz g → x ≠ lst f Q → hR g3 386 x = hR g 386 x := fun x x0 x1 x2 => by
          rw [e3, rRR, if_neg (fun z => x2 z.2), p2.R (by omega) (by decide) (by simp [lpP]; omega), q1.R x1 (by decide) (tk_nb (by omega))]
        have ho3 : hI g3 195 62 = i32 ow := by rw [e3, rIR, p2.I (sz_le C1 (by decide)) (by decide) (by decide)]; exact ho1
        have so2 := IsT_fr (g := g3) (lf' := lfT ts2 (pt (j + 1) S).2.2.1.length) _ _ _ _ _ x6 (fun x x0 x1 ox => ⟨isO_sk q3.sk ox, by rw [e3, rIR], by rw [e3, rRR, if_neg (fun z => absurd z.1 (by decide))], fun e h => h⟩) (fun x x0 x1 x2 => by rw [e3, rRR, if_neg (fun z => by omega)])
        have I3 := IsT_fr (g := g3) (lf' := lfT ts2 (pt (j + 1) S).2.2.1.length) _ _ _ _ _ I0 (fun x x0 x1 => same x x0 (by omega)) (fun x x0 x1 x2 => nxs x x0 (by omega) (by rcases lr.2 with z | z <;> omega))
        have sa := same a (by omega) ah oa
        have ch3 : Chn g3 (IsT g3 (lfT ts2 (pt (j + 1) S).2.2.1.length) opI dq) (hsz g3) (a + 1) (hR g3 386 f) (Q ++ [(t2, (pt (j + 1) S).2.2.2)]) := by
          refine Chn_app (h := g) (R := IsT g (lfT ts S.length) opI dq) (hi := hsz g) (by rw [hz3, ← hz1]; exact p2.sk.1) (by rw [hz3, ← hz1]; exact ⟨tb.1, tb.2.1⟩) (by rw [hz3, ← hz1]; exact so2) ?_ Q (a + 1) f (by omega) (by omega) (fun l m x L h1 h2 h3 h4 => ?_) (fun x h1 h2 h3 => nxs x (by omega) h2 h3) (by rw [e3, rRR, if_pos ⟨rfl, rfl⟩]) ch
          · rw [e3, rRR, if_neg (fun z => by omega)]; exact x7
          · exact IsT_fr (g := g3) _ _ _ _ _ h4 (fun y y0 y1 => same y (by omega) (by omega)) (fun y y0 y1 y2 => nxs y (by omega) (by omega) (by omega))
        have go := ih m (i + 1) (pt (j + 1) S).2.1 (M + ((pt (j + 1) S).2.1 - (j + 1))) (pt (j + 1) S).2.2.1 ts2 (Q ++ [(t2, (pt (j + 1) S).2.2.2)]) g3 (by omega) (by omega) (by rw [e3]; exact c02.fR ll.1 (Or.inr (Or.inr rfl)) _) (by rw [if_neg (by simp)]; split at M1 <;> omega) ⟨by omega, x1.2⟩ P3 ho3 (fun k hk => (x4 k (by omega)).trans (tsE k hk)) (by omega) (by rw [hz3]; have := p2.sk.1; omega) f0 fa I3 sa.1 (sa.2.1.trans a1) (sa.2.2.1.trans a2) ((nxs a (by omega) ah (by rcases lr.2 with z | z <;> omega)).trans a3) ch3 (fun z => by simp at z)
        rw [lst_app, fl_app, fl_one, ← List.append_assoc] at go
        simp only [on_sm, i32_add, ← e3]
        exact go
    · rw [if_neg w, if_neg w]
      have qn : Q ≠ [] := fun z => w (qi z).1
      exact ⟨_, _, rfl, fin j M S ts Q g qn q M1 jj P tsE sE ah f0 fa I0 oa a1 a2 a3 ch⟩
theorem cdisjunction {rF : Nat → Int32 → HP → Option (Option Nat × HP)} {nest : Int32} {b : Int → Int} {n : Int} {c : Nat} {ow : Int} {dq : Nat} {pt : Nat → List TS → PR} (n0 : 0 ≤ n) (n1 : n ≤ 1200) (hF : ∀ (g : HP) (j : Nat) (S : List TS) (ts : Nat → Nat), CP g b n c j S ts → hI g 195 62 = i32 ow → ∃ r g', rF 62 nest g = some (r, g') ∧ PoT b n c dq g j S ts (pt j S) r g') (g : HP) (j : Nat) (S : List TS) (ts : Nat → Nat) (P : CP g b n c j S ts) (ho : hI g 195 62 = i32 ow) : ∃ r g', FX3_disjunction rF 62 nest g = some (r, g') ∧ PoT b n c (dq + 1) g j S ts (pch (tkn b n) pt 11 2 j S) r g' := by
  obtain ⟨r, g4, e4, p1, p2, p3, p4⟩ := hF g j S ts P ho
  unfold FX3_disjunction pch
  simp only [P.1.cs.o_parser, gd_tt, e4, bn2_s]
  cases ok : (pt j S).1 with
  | false =>
    obtain ⟨r1, r2⟩ := p4 ok
    subst r1
    simp only [on_nn]
    exact ⟨_, _, rfl, p1, p2, fun z => (by cases z), fun _ => ⟨rfl, r2⟩⟩
  | true =>
    obtain ⟨x1, f, ts4, x2, P4, x4, x5, x6, x7⟩ := p3 ok
    subst x2
    have C4 := P4.1.cs
    have tv := tk_val (b := b) n0 (pt j S).2.1
    have tr : 0 ≤ tkk (tkn b n (pt j S).2.1) ∧ tkk (tkn b n (pt j S).2.1) < 128 := by omega
    simp (disch := omega) only [on_sm, C4.o_parser, C4.r_tokens, C4.o_tokens, gd_tt, oc_s, P4.1.k, i32_eq]
    by_cases w : tkk (tkn b n (pt j S).2.1) = 11
    · rw [if_pos w]
      obtain ⟨a, ha⟩ : ∃ a, a = hsz g4 := ⟨_, rfl⟩
      obtain ⟨g16, e16⟩ : ∃ g16, g16 = sR (sI (sI (nw g4 6 0 6) 387 a (i32 (-2))) 384 a (i32 11)) 385 a (some f) := ⟨_, rfl⟩
      have q16 : Co 1 [] g4 g16 := by rw [e16]; exact (((Co_N 6).fI (by omega) _).fI (by omega) _).fR (by omega) (Or.inr (Or.inl rfl)) _
      have oN : isO (nw g4 6 0 6) a 6 = true := isO_new ha.symm rfl
      have o1 : ∀ v, isO (sI (nw g4 6 0 6) 387 a v) a 6 = true := fun _ => oN
      have o2 : ∀ v w, isO (sI (sI (nw g4 6 0 6) 387 a v) 384 a w) a 6 = true := fun _ _ => oN
      have P16 : CP g16 b n c (pt j S).2.1 (pt j S).2.2.1 ts4 := P4.co q16 (by decide) (by decide) (fun x _ => rfl)
      unfold fX6_init
      simp only [lt_e, ← ha, oN, o1, o2, gd_tt, bn_s, ← e16]
      have tb := IsT_b x6
      have z16 : hsz g16 = a + 1 := by rw [e16, rsR, rsI, rsI, rsN, ha]
      have C16 : Co ((pt j S).2.1 - j + 1) lpP g g16 := p2.t (q16.w (by decide))
      have ho16 : hI g16 195 62 = i32 ow := by rw [C16.I (sz_le P.1.cs (by decide)) (by decide) (by decide)]; exact ho
      have rr : ∀ f' x, x ≠ a → hR g16 f' x = hR g4 f' x := fun f' x hx => by
        rw [e16, rRR, if_neg (fun z => hx z.2)]
        show hR (nw g4 6 0 6) f' x = _
        rw [rRN, if_neg (by omega)]
      have I16 := IsT_fr (g := g16) (lf' := lfT ts4 (pt j S).2.2.1.length) _ _ _ _ _ x6 (fun x x0 x1 ox => ⟨isO_sk q16.sk ox, q16.I x1 rfl rfl, rr 385 x (by omega), fun e h => h⟩) (fun x x0 x1 _ => rr 386 x (by omega))
      rw [← ha] at I16 tb
      have go := cdisjunctionL n0 n1 hF (g0 := g) (j0 := j) (f := f) (a := a) (S0 := S) (ts0 := ts) (L0 := (pt j S).2.2.2) P.1.cs P.1.sz 1200 FU 0 (pt j S).2.1 ((pt j S).2.1 - j + 1) (pt j S).2.2.1 ts4 [] g16 (by decide) (by decide) C16 (by rw [if_pos rfl]; exact Nat.le_refl _) x1 P16 ho16 x4 x5 (by omega) tb.1 tb.2.1 I16 (by rw [e16]; exact oN) (by rw [e16, rIR, rII, if_pos ⟨rfl, rfl⟩]) (by rw [e16, rRR, if_pos ⟨rfl, rfl⟩]) (by rw [e16, rRR, if_neg (fun z => absurd z.1 (by decide))]; show hR (nw g4 6 0 6) 386 a = none; rw [rRN, if_pos ha]) (by show hR g16 386 f = none; rw [rr 386 f (by omega)]; exact x7) (fun _ => ⟨w, rfl⟩)
      rw [show (pt j S).2.2.2 ++ fl (opI 2) [] = (pt j S).2.2.2 from List.append_nil _] at go
      exact go
    · rw [if_neg w]
      have pe : ptail (tkn b n) pt 11 2 1200 (pt j S).2.1 (pt j S).2.2.1 (pt j S).2.2.2 = (true, (pt j S).2.1, (pt j S).2.2.1, (pt j S).2.2.2) := by
        exact ptail_n (k := 1199) w
      show ∃ r g', _ ∧ PoT b n c (dq + 1) g j S ts (ptail (tkn b n) pt 11 2 1200 (pt j S).2.1 (pt j S).2.2.1 (pt j S).2.2.2) r g'
      rw [pe]
      exact ⟨_, _, rfl, p1, p2, fun _ => ⟨x1, f, ts4, rfl, P4, x4, x5, IsT_up _ _ _ _ _ (dq + 1) _ _ (Nat.le_succ _) (Nat.le_refl _) (Nat.le_refl _) x6, x7⟩, fun z => by cases z⟩
theorem PoT_up {b : Int → Int} {n : Int} {c dq dq' : Nat} {g : HP} {j : Nat} {S : List TS} {ts : Nat → Nat} {P : PR} {r : Option Nat} {g' : HP} (h : dq ≤ dq') (p : PoT b n c dq g j S ts P r g') : PoT b n c dq' g j S ts P r g' := by
  obtain ⟨p1, p2, p3, p4⟩ := p
  refine ⟨p1, p2, fun ok => ?_, p4⟩
  obtain ⟨x1, t, ts', x2, x3, x4, x5, x6, x7⟩ := p3 ok
  exact ⟨x1, t, ts', x2, x3, x4, x5, IsT_up _ _ _ _ _ _ _ _ h (Nat.le_refl _) (Nat.le_refl _) x6, x7⟩
theorem cnegation {rF : Nat → Int32 → HP → Option (Option Nat × HP)} {nest : Int32} {b : Int → Int} {n : Int} {c : Nat} {ow : Int} {dq : Nat} {pt : Nat → List TS → PR} (hF : ∀ (g : HP) (j : Nat) (S : List TS) (ts : Nat → Nat), CP g b n c j S ts → hI g 195 62 = i32 ow → ∃ r g', rF 62 nest g = some (r, g') ∧ PoT b n c dq g j S ts (pt j S) r g') (g : HP) (j : Nat) (S : List TS) (ts : Nat → Nat) (P : CP g b n c j S ts) (ho : hI g 195 62 = i32 ow) : ∃ r g', FX3_negation rF 62 nest g = some (r, g') ∧ j ≤ (pt j S).2.1 ∧ Co ((pt j S).2.1 - j + 1) lpP g g' ∧ ((pt j S).1 = true → (j < (pt j S).2.1 ∧ (pt j S).2.1 ≤ c) ∧ ∃ t ts', r = some t ∧ CP g' b n c (pt j S).2.1 (pt j S).2.2.1 ts' ∧ (∀ k, k < S.length → ts' k = ts k) ∧ S.length ≤ (pt j S).2.2.1.length ∧ IsT g' (lfT ts' (pt j S).2.2.1.length) opI (dq + 1) (hsz g) (hsz g') t ((pt j S).2.2.2 ++ [3]) ∧ hR g' 386 t = none) ∧ ((pt j S).1 = false → r = none ∧ hI g' 192 62 = i32 (tks (tkn b n (pt j S).2.1))) := by
  obtain ⟨r, g4, e4, p1, p2, p3, p4⟩ := hF g j S ts P ho
  unfold FX3_negation
  simp only [P.1.cs.o_parser, gd_tt, e4, bn2_s]
  cases ok : (pt j S).1 with
  | false =>
    obtain ⟨r1, r2⟩ := p4 ok
    subst r1
    simp only [on_nn]
    exact ⟨_, _, rfl, p1, p2.up (Nat.le_succ _), fun z => (by cases z), fun _ => ⟨rfl, r2⟩⟩
  | true =>
    obtain ⟨x1, f, ts4, x2, P4, x4, x5, x6, x7⟩ := p3 ok
    subst x2
    obtain ⟨a, ha⟩ : ∃ a, a = hsz g4 := ⟨_, rfl⟩
    obtain ⟨g16, e16⟩ : ∃ g16, g16 = sR (sI (sI (nw g4 6 0 6) 387 a (i32 (-2))) 384 a (i32 13)) 385 a (some f) := ⟨_, rfl⟩
    have q16 : Co 1 [] g4 g16 := by rw [e16]; exact (((Co_N 6).fI (by omega) _).fI (by omega) _).fR (by omega) (Or.inr (Or.inl rfl)) _
    have oN : isO (nw g4 6 0 6) a 6 = true := isO_new ha.symm rfl
    have o1 : ∀ v, isO (sI (nw g4 6 0 6) 387 a v) a 6 = true := fun _ => oN
    have o2 : ∀ v w, isO (sI (sI (nw g4 6 0 6) 387 a v) 384 a w) a 6 = true := fun _ _ => oN
    have P16 : CP g16 b n c (pt j S).2.1 (pt j S).2.2.1 ts4 := P4.co q16 (by decide) (by decide) (fun x _ => rfl)
    unfold fX6_init
    simp only [on_sm, lt_e, ← ha, oN, o1, o2, gd_tt, bn_s, ← e16]
    have tb := IsT_b x6
    have z16 : hsz g16 = a + 1 := by rw [e16, rsR, rsI, rsI, rsN, ha]
    have C16 : Co ((pt j S).2.1 - j + 1) lpP g g16 := p2.t (q16.w (by decide))
    have rr : ∀ f' x, x ≠ a → hR g16 f' x = hR g4 f' x := fun f' x hx => by
      rw [e16, rRR, if_neg (fun z => hx z.2)]
      show hR (nw g4 6 0 6) f' x = _
      rw [rRN, if_neg (by omega)]
    have I16 := IsT_fr (g := g16) (lf' := lfT ts4 (pt j S).2.2.1.length) _ _ _ _ _ x6 (fun x x0 x1 ox => ⟨isO_sk q16.sk ox, q16.I x1 rfl rfl, rr 385 x (by omega), fun e h => h⟩) (fun x x0 x1 _ => rr 386 x (by omega))
    rw [← ha] at I16 tb
    refine ⟨_, _, rfl, p1, C16, fun _ => ⟨x1, a, ts4, rfl, P16, x4, x5, ⟨by omega, by omega, by rw [e16]; exact oN, Or.inr (Or.inl ⟨by rw [e16, rIR, rII, if_pos ⟨rfl, rfl⟩], f, _, by rw [e16, rRR, if_pos ⟨rfl, rfl⟩], (rr 386 f (by omega)).trans x7, I16, rfl⟩)⟩, ?_⟩, fun z => by cases z⟩
    rw [e16, rRR, if_neg (fun z => absurd z.1 (by decide))]; show hR (nw g4 6 0 6) 386 a = none; rw [rRN, if_pos ha]
theorem ctest_all {b : Int → Int} {n : Int} {c : Nat} {ow : Int} (n0 : 0 ≤ n) (n1 : n ≤ 1200) : ∀ (q d : Nat), q ≤ 6 → 3 * q + 1 ≤ d → ∀ (g : HP) (j : Nat) (S : List TS) (ts : Nat → Nat), CP g b n c j S ts → hI g 195 62 = i32 ow → ∃ r g', (RX3_disjunction d).2.2.1 62 (i32 (6 - q)) g = some (r, g') ∧ PoT b n c (2 * q + 1) g j S ts (ptest (tkn b n) ow q j S) r g' := by
  intro q
  induction q with
  | zero =>
    intro d _ hd g j S ts P ho
    obtain ⟨d, rfl⟩ : ∃ e, d = e + 1 := ⟨d - 1, by omega⟩
    have tv := tk_val (b := b) n0 j
    have tr : 0 ≤ tkk (tkn b n j) ∧ tkk (tkn b n j) < 128 := by omega
    obtain ⟨gf, f1, f2, f3⟩ := fail_s P.1
    show ∃ r g', FX3_test ((RX3_disjunction d).1) ((RX3_disjunction d).2.2.2) 62 (i32 (6 - (0 : Nat))) g = some (r, g') ∧ _
    unfold FX3_test jX3_test_30 jX3_test_36
    simp (disch := omega) only [P.1.cs.o_parser, P.1.cs.r_tokens, P.1.cs.o_tokens, gd_tt, oc_s, lt_e, P.1.k, i32_eq, i32_lt, f1, bn2_s]
    unfold ptest
    by_cases w : tkk (tkn b n j) = 2
    · rw [if_pos w, if_pos w]
      obtain ⟨r, g', e, p⟩ := cnameTest n0 n1 P w ho
      simp only [e, bn2_s]
      exact ⟨r, g', rfl, p⟩
    · rw [if_neg w, if_neg w]
      have res : ∃ r g', some ((none : Option Nat), gf) = some (r, g') ∧ PoT b n c (2 * 0 + 1) g j S ts (false, j, S, []) r g' := ⟨_, _, rfl, Nat.le_refl _, (f2.w (by decide)).up (Nat.zero_le _), fun z => (by cases z), fun _ => ⟨rfl, f3⟩⟩
      by_cases w2 : tkk (tkn b n j) = 13
      · rw [if_pos w2, if_neg (by omega)]; exact res
      · rw [if_neg w2]
        by_cases w3 : tkk (tkn b n j) = 40
        · rw [if_pos w3, if_neg (by omega)]; exact res
        · rw [if_neg w3]; exact res
  | succ q ih =>
    intro d hq hd g j S ts P ho
    obtain ⟨d, rfl⟩ : ∃ e, d = e + 3 := ⟨d - 3, by omega⟩
    have tv := tk_val (b := b) n0 j
    have tr : 0 ≤ tkk (tkn b n j) ∧ tkk (tkn b n j) < 128 := by omega
    obtain ⟨gf, f1, f2, f3⟩ := fail_s P.1
    have hT : ∀ (e : Nat), d ≤ e → ∀ (g : HP) (j : Nat) (S : List TS) (ts : Nat → Nat), CP g b n c j S ts → hI g 195 62 = i32 ow → ∃ r g', (RX3_disjunction e).2.2.1 62 (i32 (6 - q)) g = some (r, g') ∧ PoT b n c (2 * q + 1) g j S ts (ptest (tkn b n) ow q j S) r g' := fun e he => ih e (by omega) (by omega)
    have hC := cconjunction n0 n1 (hT d (Nat.le_refl _))
    have hD := cdisjunction n0 n1 (rF := (RX3_disjunction (d + 1)).2.1) (nest := i32 (6 - q)) (ow := ow) (c := c) (pt := pcon (tkn b n) (ptest (tkn b n) ow q)) hC
    have hN := cnegation (hT (d + 1) (Nat.le_succ _))
    show ∃ r g', FX3_test ((RX3_disjunction (d + 2)).1) ((RX3_disjunction (d + 2)).2.2.2) 62 (i32 (6 - (q + 1 : Nat))) g = some (r, g') ∧ _
    have e1 : (RX3_disjunction (d + 2)).1 = FX3_disjunction ((RX3_disjunction (d + 1)).2.1) := rfl
    have e2 : (RX3_disjunction (d + 2)).2.2.2 = FX3_negation ((RX3_disjunction (d + 1)).2.2.1) := rfl
    rw [e1, e2]
    clear e1 e2
    have en : (6 - ((q + 1 : Nat) : Int)) + 1 = 6 - (q : Int) := by omega
    unfold FX3_test jX3_test_30 jX3_test_36
    simp (disch := omega) only [P.1.cs.o_parser, P.1.cs.r_tokens, P.1.cs.o_tokens, gd_tt, oc_s, lt_e, P.1.k, i32_eq, i32_lt, f1, bn2_s, i32_add, en]
    unfold ptest
    by_cases w : tkk (tkn b n j) = 2
    · rw [if_pos w, if_pos w]
      obtain ⟨r, g', e, p⟩ := cnameTest n0 n1 P w ho
      simp only [e, bn2_s]
      exact ⟨r, g', rfl, PoT_up (by omega) p⟩
    rw [if_neg w, if_neg w]
    by_cases w2 : tkk (tkn b n j) = 13
    · obtain ⟨jc, cn⟩ := P.1.jn n0 (by omega)
      obtain ⟨g1, e1, q1, Q1⟩ := P.1.step n0 n1 (by omega)
      have P1 := P.mv q1 Q1
      have ho1 : hI g1 195 62 = i32 ow := by rw [q1.I (sz_le P.1.cs (by decide)) (by decide) (by decide)]; exact ho
      obtain ⟨r, g2, e2, p1, p2, p3, p4⟩ := hN g1 (j + 1) S ts P1 ho1
      rw [if_pos w2, if_pos (by omega), if_pos w2]
      simp only [e1, bn_s, Q1.cs.o_parser, gd_tt, e2, bn2_s]
      rw [if_pos w2]
      have hz1 : hsz g1 = hsz g := Nat.le_antisymm q1.2.1 q1.sk.1
      have c02 : Co 0 lpP g g1 := q1.w (by decide)
      cases ok : (ptest (tkn b n) ow q (j + 1) S).1 with
      | false =>
        obtain ⟨r1, r2⟩ := p4 ok
        refine ⟨r, g2, rfl, by show j ≤ (ptest (tkn b n) ow q (j + 1) S).2.1; omega, ?_, fun z => (by cases z), fun _ => ⟨r1, r2⟩⟩
        exact (c02.t p2).up (by show 0 + ((ptest (tkn b n) ow q (j + 1) S).2.1 - (j + 1) + 1) ≤ (ptest (tkn b n) ow q (j + 1) S).2.1 - j; omega)
      | true =>
        obtain ⟨x1, t, ts4, x2, P4, x4, x5, x6, x7⟩ := p3 ok
        refine ⟨r, g2, rfl, by show j ≤ (ptest (tkn b n) ow q (j + 1) S).2.1; omega, ?_, fun _ => ⟨⟨by show j < (ptest (tkn b n) ow q (j + 1) S).2.1; omega, x1.2⟩, t, ts4, x2, P4, x4, x5, ?_, x7⟩, fun z => by cases z⟩
        · exact (c02.t p2).up (by show 0 + ((ptest (tkn b n) ow q (j + 1) S).2.1 - (j + 1) + 1) ≤ (ptest (tkn b n) ow q (j + 1) S).2.1 - j; omega)
        · rw [hz1] at x6
          exact IsT_up _ _ _ _ _ _ _ _ (by omega) (Nat.le_refl _) (Nat.le_refl _) x6
    rw [if_neg w2, if_neg w2]
    by_cases w3 : tkk (tkn b n j) = 40
    · obtain ⟨jc, cn⟩ := P.1.jn n0 (by omega)
      obtain ⟨g1, e1, q1, Q1⟩ := P.1.step n0 n1 (by omega)
      have P1 := P.mv q1 Q1
      have ho1 : hI g1 195 62 = i32 ow := by rw [q1.I (sz_le P.1.cs (by decide)) (by decide) (by decide)]; exact ho
      obtain ⟨r, g2, e2, p1, p2, p3, p4⟩ := hD g1 (j + 1) S ts P1 ho1
      have hz1 : hsz g1 = hsz g := Nat.le_antisymm q1.2.1 q1.sk.1
      have c02 : Co 0 lpP g g1 := q1.w (by decide)
      rw [if_pos w3, if_pos (by omega), if_pos w3]
      simp only [e1, bn_s, Q1.cs.o_parser, gd_tt, e2, bn2_s]
      rw [if_neg w2]
      show ∃ r g', _ ∧ PoT b n c (2 * (q + 1) + 1) g j S ts (match (pdis (tkn b n) (ptest (tkn b n) ow q) (j + 1) S).1 with
          | true => if tkk (tkn b n (pdis (tkn b n) (ptest (tkn b n) ow q) (j + 1) S).2.1) = 41 then (true, (pdis (tkn b n) (ptest (tkn b n) ow q) (j + 1) S).2.1 + 1, (pdis (tkn b n) (ptest (tkn b n) ow q) (j + 1) S).2.2.1, (pdis (tkn b n) (ptest (tkn b n) ow q) (j + 1) S).2.2.2) else (false, (pdis (tkn b n) (ptest (tkn b n) ow q) (j + 1) S).2.1, S, [])
          | false => (false, (pdis (tkn b n) (ptest (tkn b n) ow q) (j + 1) S).2.1, S, [])) r g'
      have ed : pch (tkn b n) (pcon (tkn b n) (ptest (tkn b n) ow q)) 11 2 (j + 1) S = pdis (tkn b n) (ptest (tkn b n) ow q) (j + 1) S := rfl
      rw [ed] at p1 p2 p3 p4
      generalize pdis (tkn b n) (ptest (tkn b n) ow q) (j + 1) S = PD at p1 p2 p3 p4 ⊢
      cases ok : PD.1 with
      | false =>
        obtain ⟨r1, r2⟩ := p4 ok
        subst r1
        simp only [on_nn]
        refine ⟨_, _, rfl, by show j ≤ PD.2.1; omega, ?_, fun z => (by cases z), fun _ => ⟨rfl, r2⟩⟩
        exact (c02.t p2).up (by show 0 + (PD.2.1 - (j + 1)) ≤ PD.2.1 - j; omega)
      | true =>
        obtain ⟨x1, t, ts4, x2, P4, x4, x5, x6, x7⟩ := p3 ok
        subst x2
        have jc4 : PD.2.1 < 90000 := by
          have := x1.2
          omega
        simp only [on_sm, P4.1.cs.o_parser, gd_tt]
        have c04 : Co (PD.2.1 - j) lpP g g2 := (c02.t p2).up (by omega)
        rcases ctake n0 n1 P4.1 jc4 (k := 41) (by decide) (by decide) with ⟨k1, g5, e5, q5, Q5⟩ | ⟨k1, g5, e5, q5, er⟩
        · simp only [e5, bn2_s, if_true]
          rw [if_pos k1]
          have hz5 : hsz g5 = hsz g2 := Nat.le_antisymm q5.2.1 q5.sk.1
          have tb := IsT_b x6
          refine ⟨_, _, rfl, by show j ≤ PD.2.1 + 1; omega, ?_, fun _ => ⟨⟨by show j < PD.2.1 + 1; omega, (P4.1.jn n0 (by omega)).1⟩, t, ts4, rfl, P4.mv q5 Q5, x4, x5, ?_, ?_⟩, fun z => by cases z⟩
          · exact (c04.t0 (q5.w (by decide))).up (by show PD.2.1 - j ≤ PD.2.1 + 1 - j; omega)
          · rw [hz5]
            rw [hz1] at x6
            have sz0 := P.1.sz
            refine IsT_up _ _ _ _ _ _ _ _ (by omega) (Nat.le_refl _) (Nat.le_refl _) (IsT_fr (g := g5) (lf' := lfT ts4 PD.2.2.1.length) _ _ _ _ _ x6 (fun x x0 x1 ox => ⟨isO_sk q5.sk ox, q5.I x1 (by decide) (tk_nb (by omega)), q5.R x1 (by decide) (tk_nb (by omega)), fun e h => h⟩) (fun x x0 x1 _ => q5.R x1 (by decide) (tk_nb (by omega))))
          · rw [q5.R tb.2.1 (by decide) (tk_nb (by have := P.1.sz; omega))]; exact x7
        · simp only [e5, bn2_s]
          rw [if_neg k1]
          rw [if_neg (by decide)]
          refine ⟨_, _, rfl, by show j ≤ PD.2.1; omega, c04.t0 (q5.w (by decide)), fun z => (by cases z), fun _ => ⟨rfl, er⟩⟩
    · rw [if_neg w3, if_neg w3]
      exact ⟨_, _, rfl, Nat.le_refl _, (f2.w (by decide)).up (Nat.zero_le _), fun z => (by cases z), fun _ => ⟨rfl, f3⟩⟩
theorem cdis_s {b : Int → Int} {n : Int} {c : Nat} {ow : Int} (n0 : 0 ≤ n) (n1 : n ≤ 1200) (g : HP) (j : Nat) (S : List TS) (ts : Nat → Nat) (P : CP g b n c j S ts) (ho : hI g 195 62 = i32 ow) : ∃ r g', fX3_disjunction 62 (i32 0) g = some (r, g') ∧ PoT b n c 15 g j S ts (pcond (tkn b n) ow j S) r g' := by
  have hT := ctest_all (b := b) (c := c) (ow := ow) n0 n1 6 62 (Nat.le_refl _) (by decide)
  have hC := cconjunction n0 n1 hT
  exact cdisjunction n0 n1 (rF := (RX3_disjunction 63).2.1) (nest := i32 (6 - (6 : Nat))) (ow := ow) (c := c) (pt := pcon (tkn b n) (ptest (tkn b n) ow 6)) hC g j S ts P ho
