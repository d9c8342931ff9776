/-! THE CLASS TELLS A CONDITION -/
section
variable {h g : HP} {a np : Nat} {F : Int → Int} {w : Int} {T : List Int}
theorem sby_r {s : Int} (s0 : 0 ≤ s) (s1 : s ≤ 3) : 0 ≤ sby s ∧ sby s ≤ 62 ∧ (sby s = 0 ↔ s = 0) := by
  rcases (show s = 0 ∨ s = 1 ∨ s = 2 ∨ s = 3 by omega) with rfl | rfl | rfl | rfl <;> decide
/-- a test -/
theorem ctest (r0 : FRx h a F np) (S0 : FormAt h a) (C0 : CS h) (ha : a + 36 ≤ 114 ∨ 115 ≤ a) (wo : wok w) {t : Nat} {e : Int32} (t0 : 1008 ≤ t) (ot : isO h t 6 = true) (lf : lfM h t e) (tk : tkOk F e) (q : So So8 h g) (W : WC g w T true) (l : T.length + 20 ≤ 900000) : ∃ g', fX9_putTest 114 (some a) (some t) g = some g' ∧ So So8 h g' ∧ WC g' w (T ++ tsT F e) true := by
  obtain ⟨f, s, v, f0, f1, s0, s1, v0, v1, rfl, i1, i2, i3⟩ := lf
  obtain ⟨d1, d2, d3⟩ := dec_tcd f0 f1 s0 s1 v0 v1
  have Fp : F f ≠ -1 := by
    rcases tk with ⟨f', s', v', f0', f1', fp, s0', s1', v0', v1', e⟩ | z | z | z
    · obtain ⟨d1', _, _⟩ := dec_tcd f0' f1' s0' s1' v0' v1'
      rw [← e, d1] at d1'
      rw [d1']; exact fp
    · have := tT_c f0 (by omega) s0 s1 v0 v1; rw [z] at this; exact absurd this (by decide)
    · have := tT_c f0 (by omega) s0 s1 v0 v1; rw [z] at this; exact absurd this (by decide)
    · have := tT_c f0 (by omega) s0 s1 v0 v1; rw [z] at this; exact absurd this (by decide)
  have Cg := C0.sk q.1
  have Sg := S0.sk q.1
  have rg := FRx_7' r0 ha q
  have st := q.2.2 t (fun z => by unfold So8 at z; omega)
  have og := isO_sk q.1 ot
  have nv := r0.nm.1 f f0 (by omega) Fp
  have fi := x_find Sg rg (i := f) (by omega) (by omega)
  rw [fnx_y ⟨f0, by omega, Fp⟩] at fi
  have nd := (r0.nd f0 (by omega) Fp).2
  have l8 := nl_le (F (32 + f))
  obtain ⟨g1, a1, a2, a3⟩ := cspace Cg W (by omega) wo
  rw [show spT true = [32] from rfl] at a3
  have q1 := q.t a2
  have C1 := C0.sk q1.1
  have sf := q1.2.2 (a + 4 + f.toNat) (fun z => by unfold So8 at z; omega)
  obtain ⟨g2, b1, b2, b3⟩ := cputName C1 a3 nv (by rw [List.length_append, List.length_singleton]; omega) wo
  have q2 := q1.t b2
  have C2 := C0.sk q2.1
  have st2 := q2.2.2 t (fun z => by unfold So8 at z; omega)
  have sb := sby_r s0 s1
  have eT : tsT F (i32 (tcd f s v)) = ([32] ++ nmT (F (32 + f))) ++ (if s = 0 then [] else 32 :: sby s :: 32 :: dgT v) := by
    unfold tsT
    rw [d1, d2, d3]; rfl
  unfold fX9_putTest jX9_putTest_26
  rw [oc_s, og, gd_tt, oc_s, Sg.o, gd_tt, st.1, i1, fi, bn_s, Cg.o_writer, gd_tt, a1, bn_s, on_sm, isO_sk q1.1 (S0.on (show f.toNat < 32 by omega)), gd_tt, C1.o_writer, gd_tt, sf.2.1, nd.2.1, b1, bn_s, oc_s, isO_sk q2.1 ot, gd_tt, st2.1, i2, eT]
  rw [List.append_assoc] at b3
  by_cases z : s = 0
  · rw [if_pos (by rw [z]; rfl), if_pos z, List.append_nil]
    exact ⟨g2, rfl, q2, b3⟩
  · obtain ⟨g3, c1, c2, c3⟩ := csign C2 b3 (by simp only [List.length_append, List.length_singleton, nmT_len]; omega) wo (sby s)
    have q3 := q2.t c2
    have C3 := C0.sk q3.1
    have st3 := q3.2.2 t (fun z => by unfold So8 at z; omega)
    obtain ⟨g4, d1', d2', d3'⟩ := cnumber C3 c3 (by simp only [List.length_append, List.length_singleton, List.length_cons, nmT_len, spT, if_true, List.length_nil]; omega) wo v0 v1
    refine ⟨g4, ?_, q3.t d2', ?_⟩
    · rw [if_neg (by rw [i32_z, i32_eq (by omega) (by omega) (by omega) (by omega)]; omega), C2.o_writer, gd_tt, c1, bn_s, isO_sk q3.1 ot, gd_tt, C3.o_writer, gd_tt, st3.1, i3, d1', bn_s]
    · rw [if_neg z]
      rw [show spT true = [32] from rfl, List.append_assoc, List.append_assoc] at d3'
      rw [List.append_assoc]
      exact d3'
/-- a part, in parentheses where they are needed -/
theorem cpart {R : Option Nat → Option Nat → Option Nat → Int32 → HP → Option HP} {K : Option Nat → Option Nat → Option Nat → Int32 → Option Nat → HP → Option HP} (C0 : CS h) (wo : wok w) {t p : Nat} {l wh s : Int} {X : List Int} (t0 : 1008 ≤ t) (p0 : 1008 ≤ p) (ot : isO h t 6 = true) (op : isO h p 6 = true) (hk : (wh = 2 ∧ hI h 384 t = i32 13) ∨ (wh = 1 ∧ hI h 384 t = i32 12) ∨ (wh = 0 ∧ hI h 384 t = i32 11)) (hp : hI h 384 p = i32 (knd s)) (s0 : 0 ≤ s) (s1 : s ≤ 3) (rec : ∀ (g : HP) (T' : List Int), So So8 h g → WC g w T' true → T'.length ≤ T.length + 2 → ∃ g', R (some 114) (some a) (some p) (i32 (l + 1)) g = some g' ∧ So So8 h g' ∧ WC g' w (T' ++ X) true) (q : So So8 h g) (W : WC g w T true) (le : T.length + X.length + 4 ≤ 900000) : ∃ g', jX9_putTerm_69 R K (some 114) (some a) (some t) (i32 l) (some p) g = K (some 114) (some a) (some t) (i32 l) (hR h 386 p) g' ∧ So So8 h g' ∧ WC g' w (T ++ wrp wh (X, s)) true := by
  have st := q.2.2 t (fun z => by unfold So8 at z; omega)
  have sp := q.2.2 p (fun z => by unfold So8 at z; omega)
  have og := isO_sk q.1 ot
  have opg := isO_sk q.1 op
  have Cg := C0.sk q.1
  have e146 : ∀ g', So So8 h g' → jX9_putTerm_146 R K (some 114) (some a) (some t) (i32 l) (some p) g' = K (some 114) (some a) (some t) (i32 l) (hR h 386 p) g' := fun g' q' => by
    have sp' := q'.2.2 p (fun z => by unfold So8 at z; omega)
    unfold jX9_putTerm_146
    rw [oc_s, isO_sk q'.1 op, gd_tt, sp'.2.2.1, lt_e]
  have e111 : ∃ g', jX9_putTerm_111 R K (some 114) (some a) (some t) (i32 l) (some p) g = K (some 114) (some a) (some t) (i32 l) (hR h 386 p) g' ∧ So So8 h g' ∧ WC g' w (T ++ X) true := by
    obtain ⟨g1, a1, a2, a3⟩ := rec g T q W (by omega)
    refine ⟨g1, ?_, a2, a3⟩
    unfold jX9_putTerm_111 jX9_putTerm_112 jX9_putTerm_125
    rw [if_neg (by decide), i32_add, a1, bn_s, if_neg (by decide)]
    exact e146 g1 a2
  have e107 : ∃ g', jX9_putTerm_107 R K (some 114) (some a) (some t) (i32 l) (some p) g = K (some 114) (some a) (some t) (i32 l) (hR h 386 p) g' ∧ So So8 h g' ∧ WC g' w (T ++ prn X) true := by
    obtain ⟨g1, a1, a2, a3⟩ := csign Cg W (by omega) wo 40
    rw [show spT true = [32] from rfl] at a3
    have q1 := q.t a2
    obtain ⟨g2, b1, b2, b3⟩ := rec g1 _ q1 a3 (by simp only [List.length_append, List.length_singleton]; omega)
    have C2 := C0.sk b2.1
    obtain ⟨g3, c1, c2, c3⟩ := csign C2 b3 (by simp only [List.length_append, List.length_singleton]; omega) wo 41
    rw [show spT true = [32] from rfl] at c3
    refine ⟨g3, ?_, b2.t c2, ?_⟩
    · unfold jX9_putTerm_107 jX9_putTerm_112 jX9_putTerm_125
      rw [if_pos rfl, oc_s, Cg.o_writer, gd_tt, a1, bn_s, i32_add, b1, bn_s, if_pos rfl, oc_s, C2.o_writer, gd_tt, c1, bn_s]
      exact e146 g3 (b2.t c2)
    · unfold prn
      rw [List.append_assoc, List.append_assoc] at c3
      rw [List.append_assoc]
      exact c3
  have ks : (i32 (knd s) = i32 12 ↔ s = 1) ∧ (i32 (knd s) = i32 11 ↔ s = 2) := by
    rcases (show s = 0 ∨ s = 1 ∨ s = 2 ∨ s = 3 by omega) with rfl | rfl | rfl | rfl <;> decide
  have w1 : (wh = 2 ∧ (s = 1 ∨ s = 2)) ∨ (wh = 1 ∧ s = 2) → wrp wh (X, s) = prn X := fun z => by unfold wrp; rw [if_pos z]
  have w2 : ¬ ((wh = 2 ∧ (s = 1 ∨ s = 2)) ∨ (wh = 1 ∧ s = 2)) → wrp wh (X, s) = X := fun z => by unfold wrp; rw [if_neg z]
  unfold jX9_putTerm_69 jX9_putTerm_88
  rw [oc_s, og, gd_tt, st.1, oc_s, opg, gd_tt, sp.1, hp, oc_s, og, gd_tt, st.1, oc_s, opg, gd_tt, sp.1, hp]
  rcases hk with ⟨k1, k2⟩ | ⟨k1, k2⟩ | ⟨k1, k2⟩
  · rw [k2, if_pos rfl]
    by_cases c1 : s = 1
    · rw [if_pos (ks.1.mpr c1), w1 (Or.inl ⟨k1, Or.inl c1⟩)]
      exact e107
    · rw [if_neg (fun z => c1 (ks.1.mp z)), if_neg (by decide)]
      by_cases c2 : s = 2
      · rw [if_pos (ks.2.mpr c2), w1 (Or.inl ⟨k1, Or.inr c2⟩)]
        exact e107
      · rw [if_neg (fun z => c2 (ks.2.mp z)), w2 (by omega)]
        exact e111
  · rw [k2, if_neg (by decide), if_neg (by decide)]
    by_cases c2 : s = 2
    · rw [if_pos (ks.2.mpr c2), w1 (Or.inr ⟨k1, c2⟩)]
      exact e107
    · rw [if_neg (fun z => c2 (ks.2.mp z)), w2 (by omega)]
      exact e111
  · rw [k2, if_neg (by decide), if_pos rfl, w2 (by omega)]
    exact e111
theorem tsum {L0 : List Int32} {o : Int32} {Q : List (Nat × List Int32)} : (L0 ++ fl o Q).length = L0.length + (Q.map fun p => p.2.length + 1).sum := by
  rw [List.length_append]
  congr 1
  induction Q with
  | nil => rfl
  | cons p Q ih =>
    rw [fl_cons, List.length_append, List.length_append, List.length_singleton, ih, List.map_cons, List.sum_cons]
theorem IsT_ne {lf : Nat → Int32 → Prop} {d lo hi t : Nat} {L : List Int32} (z : IsT h lf opM d lo hi t L) : 1 ≤ L.length := by
  cases d with
  | zero => exact z.elim
  | succ d =>
    rcases z.2.2.2 with ⟨_, e, rfl, _⟩ | ⟨_, f, L', _, _, _, rfl⟩ | ⟨o, _, f, L0, Q, _, _, nq, _, rfl⟩
    · exact Nat.le_refl 1
    · rw [List.length_append, List.length_singleton]; omega
    · rw [tsum]
      cases Q with
      | nil => exact absurd rfl nq
      | cons p Q => rw [List.map_cons, List.sum_cons]; omega
/-- the class tells a condition -/
theorem cterm (r0 : FRx h a F np) (S0 : FormAt h a) (C0 : CS h) (ha : a + 36 ≤ 114 ∨ 115 ≤ a) (wo : wok w) (hlf : ∀ t e, lfM h t e → tT e = true) : ∀ (d m lo hi t : Nat) (L : List Int32) (l : Int) (g : HP) (T : List Int), IsT h (lfM h) opM d lo hi t L → 1008 ≤ lo → hi ≤ hsz h → hi ≤ 900000 → d ≤ m → 0 ≤ l → l + d ≤ 40 → (∀ e ∈ L, tkOk F e) → So So8 h g → WC g w T true → T.length + 24 * L.length ≤ 800000 → ∃ g', RX9_putTerm m (some 114) (some a) (some t) (i32 l) g = some g' ∧ So So8 h g' ∧ WC g' w (T ++ (txc F L).1) true := by
  intro d
  induction d with
  | zero => intro m lo hi t L l g T z; exact z.elim
  | succ d ih =>
    intro m lo hi t L l g T z lo8 hhz hh dm l0 l1 tk q W le
    have R := IsT_txc (F := F) hlf (d + 1) lo hi t L z
    obtain ⟨z1, z2, z3, z4⟩ := z
    obtain ⟨m, rfl⟩ : ∃ q, m = q + 1 := ⟨m - 1, by omega⟩
    show ∃ g', FX9_putTerm (RX9_putTerm m) (some 114) (some a) (some t) (i32 l) g = some g' ∧ _
    unfold FX9_putTerm
    have st := q.2.2 t (fun z => by unfold So8 at z; omega)
    have og := isO_sk q.1 z3
    have Cg := C0.sk q.1
    rw [on_sm, if_pos (by rw [i32_le (by omega) (by omega) (by omega) (by omega)]; omega), og, gd_tt, st.1]
    rcases z4 with ⟨k, e, rfl, wf⟩ | ⟨k, f, L', r1, r2, wf, rfl⟩ | ⟨o, ho, f, L0, Q, r1, wf, nq, c, rfl⟩
    · have e1 : txc F [e] = (tsT F e, 0) := txc_of (fun st => by rw [rpT_one]; unfold stT; rw [if_pos (hlf _ _ wf)])
      obtain ⟨g1, a1, a2, a3⟩ := ctest r0 S0 C0 ha wo (by omega) z3 wf (tk e (List.mem_singleton.mpr rfl)) q W (by simp only [List.length_singleton] at le; omega)
      refine ⟨g1, ?_, a2, by rw [e1]; exact a3⟩
      rw [k, if_pos rfl, oc_s, Cg.o_writer, gd_tt, a1, bn_s]
    · have wft := IsT_txc (F := F) hlf _ _ _ _ _ wf
      have bf := IsT_b wf
      have e1 : txc F (L' ++ [opM 3]) = ngT (txc F L') := txc_of (fun st => by rw [rpT_app, wft.1, rpT_one, stT_not])
      rw [List.length_append, List.length_singleton] at le
      have tk' : ∀ e ∈ L', tkOk F e := fun e he => tk e (List.mem_append_left _ he)
      obtain ⟨g1, a1, a2, a3⟩ := ckeyword Cg W (by omega) wo (k := 9) (by omega)
      rw [show spT true = [32] from rfl, show kwv 9 = 14836 from rfl] at a3
      have q1 := q.t a2
      have st1 := q1.2.2 t (fun z => by unfold So8 at z; omega)
      have kl := kwl.1
      have sl := txc_len wft.1
      obtain ⟨g2, b1, b2, b3⟩ := cpart (a := a) (R := RX9_putTerm m) (K := fun v0 v1 v2 v3 v4 h => lX9_putTerm_47 (RX9_putTerm m) 999999 v0 v1 v2 v3 v4 h) C0 wo (l := l) (wh := 2) (X := (txc F L').1) (s := (txc F L').2) (by omega) (by omega) z3 bf.2.2 (Or.inl ⟨rfl, k⟩) wft.2.1 wft.2.2.1 wft.2.2.2 (fun g T' qq WW ll => ih m lo t f L' (l + 1) g T' wf lo8 (by omega) (by omega) (by omega) (by omega) (by omega) tk' qq WW (by simp only [List.length_append, List.length_singleton] at ll; omega)) q1 a3 (by simp only [List.length_append, List.length_singleton]; omega)
      refine ⟨g2, ?_, b2, ?_⟩
      · rw [k, if_neg (by decide), if_pos rfl, oc_s, Cg.o_writer, gd_tt]
        rw [show i32 (4 + ((9 : Nat) : Int)) = i32 13 from rfl] at a1
        rw [a1, bn_s]
        unfold jX9_putTerm_41
        rw [oc_s, isO_sk q1.1 z3, gd_tt, st1.2.2.1, r1, lt_e, show FU = 999999 + 1 from rfl, elX9_putTerm_47]; unfold bX9_putTerm_47
        have hz1 : hsz g1 = hsz h := by unfold hsz; rw [q1.2.1]
        have rl : rlt (some f) (hsz g1) = true := by unfold rlt; rw [hz1]; exact decide_eq_true (show f < hsz h by omega)
        rw [on_sm, oc_s, isO_sk q1.1 z3, gd_tt, rl, gd_tt, st1.2.2.1, r1, rl, gd_tt, if_pos rfl]
        rw [b1, r2, show (999999 : Nat) = 999998 + 1 from rfl, elX9_putTerm_47]; unfold bX9_putTerm_47
        rw [on_nn]
      · rw [e1]
        unfold ngT
        rw [List.append_assoc, List.append_assoc] at b3
        show WC g2 w (T ++ ((32 :: nmT 14836) ++ wrp 2 (txc F L'))) true
        exact b3
    · have ho' : o = 1 ∨ o = 2 := by rcases ho with x | x; exact Or.inl x.1; exact Or.inr x.1
      have nm : (Q.map fun p => txc F p.2) ≠ [] := fun z => nq (List.map_eq_nil_iff.mp z)
      have wft := IsT_txc (F := F) hlf _ _ _ _ _ wf
      have bf := IsT_b wf
      have e1 : txc F (L0 ++ fl (opM o) Q) = (wrp (if o = 1 then 1 else 0) (txc F L0) ++ tlT o (Q.map fun p => txc F p.2), (o : Int)) := by
        rw [← fold_jn0 ho' _ nm]
        exact txc_of (fun st => by rw [rpT_app, wft.1, rpT_chn ho' (fun a b c e z => (IsT_txc (F := F) hlf d a b c e z).1) Q _ _ c])
      rw [tsum] at le
      have tk0 : ∀ e ∈ L0, tkOk F e := fun e he => tk e (List.mem_append_left _ he)
      have tkQ : ∀ p ∈ Q, ∀ e ∈ p.2, tkOk F e := fun p hp e he => tk e (List.mem_append_right _ (by
        unfold fl
        exact List.mem_flatten.mpr ⟨p.2 ++ [opM o], List.mem_map.mpr ⟨p, hp, rfl⟩, List.mem_append_left _ he⟩))
      have hk : ((if o = 1 then (1 : Int) else 0) = 2 ∧ hI h 384 t = i32 13) ∨ ((if o = 1 then (1 : Int) else 0) = 1 ∧ hI h 384 t = i32 12) ∨ ((if o = 1 then (1 : Int) else 0) = 0 ∧ hI h 384 t = i32 11) := by
        rcases ho with x | x
        · right; left; rw [if_pos x.1]; exact ⟨rfl, x.2⟩
        · right; right; rw [if_neg (by omega)]; exact ⟨rfl, x.2⟩
      have kwo : ∃ kk : Nat, kk < 10 ∧ hI h 384 t = i32 (4 + (kk : Int)) ∧ kwv kk = (if o = 1 then 1476 else 498) ∧ (nmT (kwv kk)).length ≤ 3 := by
        have kl := kwl.2
        rcases ho with x | x
        · exact ⟨8, by omega, x.2, by rw [if_pos x.1]; rfl, by rw [show kwv 8 = 1476 from rfl]; omega⟩
        · exact ⟨7, by omega, x.2, by rw [if_neg (by omega)]; rfl, by rw [show kwv 7 = 498 from rfl]; omega⟩
      obtain ⟨kk, kk1, kk2, kk3, kk4⟩ := kwo
      have len := Chn_len Q _ _ c
      have rlx : ∀ (g : HP) (x : Nat), So So8 h g → x < hsz h → rlt (some x) (hsz g) = true := fun g x qq hx => by
        unfold rlt hsz
        rw [qq.2.1]; exact decide_eq_true hx
      have loop : ∀ (Q : List (Nat × List Int32)) (lo' : Nat) (r : Option Nat) (n : Nat) (g : HP) (T : List Int), Chn h (IsT h (lfM h) opM d) hi lo' r Q → t < lo' → (∀ p ∈ Q, ∀ e ∈ p.2, tkOk F e) → Q.length < n → So So8 h g → WC g w T true → T.length + 24 * (Q.map fun p => p.2.length + 1).sum ≤ 800000 → ∃ g', lX9_putTerm_47 (RX9_putTerm m) n (some 114) (some a) (some t) (i32 l) r g = some g' ∧ So So8 h g' ∧ WC g' w (T ++ tlT o (Q.map fun p => txc F p.2)) true := by
        intro Q
        induction Q with
        | nil =>
          intro lo' r n g T c _ _ hn q W _
          obtain ⟨n, rfl⟩ : ∃ x, n = x + 1 := ⟨n - 1, by simp at hn; omega⟩
          have c' : r = none := c
          refine ⟨g, ?_, q, ?_⟩
          · rw [elX9_putTerm_47]; unfold bX9_putTerm_47
            rw [c', on_nn]
          · simp only [List.map_nil, tlT, List.append_nil]; exact W
        | cons p Q ihq =>
          intro lo' r n g T c tl tkQ hn q W le
          obtain ⟨n, rfl⟩ : ∃ x, n = x + 1 := ⟨n - 1, by simp at hn; omega⟩
          obtain ⟨l', m', c1, c2, c3, c4, c5, c6, c7⟩ := c
          rw [List.map_cons, List.sum_cons] at le
          have c6t := IsT_txc (F := F) hlf _ _ _ _ _ c6
          have bp := IsT_b c6
          have sl := txc_len c6t.1
          have Cg := C0.sk q.1
          have st := q.2.2 t (fun z => by unfold So8 at z; omega)
          obtain ⟨g1, a1, a2, a3⟩ := ckeyword Cg W (by omega) wo kk1
          rw [show spT true = [32] from rfl] at a3
          have q1 := q.t a2
          obtain ⟨g2, b1, b2, b3⟩ := cpart (a := a) (R := RX9_putTerm m) (K := fun v0 v1 v2 v3 v4 h => lX9_putTerm_47 (RX9_putTerm m) n v0 v1 v2 v3 v4 h) C0 wo (l := l) (wh := if o = 1 then 1 else 0) (X := (txc F p.2).1) (s := (txc F p.2).2) (by omega) (by omega) z3 bp.2.2 hk c6t.2.1 c6t.2.2.1 c6t.2.2.2 (fun g T' qq WW ll => ih m l' m' p.1 p.2 (l + 1) g T' c6 (by omega) (by omega) (by omega) (by omega) (by omega) (by omega) (tkQ p List.mem_cons_self) qq WW (by simp only [List.length_append, List.length_singleton] at ll; omega)) q1 a3 (by simp only [List.length_append, List.length_singleton]; omega)
          have wl := wrp_len (if o = 1 then 1 else 0) ((txc F p.2).1, (txc F p.2).2)
          simp only at wl
          obtain ⟨g3, d1, d2, d3⟩ := ihq m' _ n g2 _ c7 (by omega) (fun p' hp' => tkQ p' (List.mem_cons_of_mem _ hp')) (by simp at hn; omega) b2 b3 (by simp only [List.length_append, List.length_singleton]; omega)
          refine ⟨g3, ?_, d2, ?_⟩
          · rw [elX9_putTerm_47]; unfold bX9_putTerm_47
            rw [c1, on_sm, oc_s, isO_sk q.1 z3, gd_tt, rlx g p.1 q (by omega), gd_tt, st.2.2.1, r1, rlx g f q (by omega), gd_tt, if_neg (show ¬ some p.1 = some f from fun z => by have := Option.some.inj z; omega), oc_s, Cg.o_writer, gd_tt, st.1, kk2, a1, bn_s]
            exact b1.trans d1
          · simp only [List.map_cons, tlT]
            rw [kk3] at d3
            rw [List.append_assoc, List.append_assoc, List.append_assoc] at d3
            rw [List.append_assoc]
            exact d3
      have sl := txc_len wft.1
      have n0 := IsT_ne wf
      have qn : 1 ≤ (Q.map fun p => p.2.length + 1).sum := by
        cases Q with
        | nil => exact absurd rfl nq
        | cons p Q => rw [List.map_cons, List.sum_cons]; omega
      obtain ⟨g2, b1, b2, b3⟩ := cpart (a := a) (R := RX9_putTerm m) (K := fun v0 v1 v2 v3 v4 h => lX9_putTerm_47 (RX9_putTerm m) 999999 v0 v1 v2 v3 v4 h) C0 wo (l := l) (wh := if o = 1 then 1 else 0) (X := (txc F L0).1) (s := (txc F L0).2) (by omega) (by omega) z3 bf.2.2 hk wft.2.1 wft.2.2.1 wft.2.2.2 (fun g T' qq WW ll => ih m lo t f L0 (l + 1) g T' wf lo8 (by omega) (by omega) (by omega) (by omega) (by omega) tk0 qq WW (by omega)) q W (by omega)
      have wl := wrp_len (if o = 1 then 1 else 0) ((txc F L0).1, (txc F L0).2)
      simp only at wl
      obtain ⟨g3, d1, d2, d3⟩ := loop Q (t + 1) _ 999999 g2 _ c (by omega) tkQ (by rcases len with y | y; exact absurd y nq; omega) b2 b3 (by rw [List.length_append]; omega)
      refine ⟨g3, ?_, d2, ?_⟩
      · have ng : ¬ hI h 384 t = i32 2 ∧ ¬ hI h 384 t = i32 13 := by
          rcases ho with x | x
          · rw [x.2]; decide
          · rw [x.2]; decide
        rw [if_neg ng.1, if_neg ng.2]
        unfold jX9_putTerm_41
        rw [oc_s, og, gd_tt, st.2.2.1, r1, lt_e, show FU = 999999 + 1 from rfl, elX9_putTerm_47]; unfold bX9_putTerm_47
        rw [on_sm, oc_s, og, gd_tt, rlx g f q (by omega), gd_tt, st.2.2.1, r1, rlx g f q (by omega), gd_tt, if_pos rfl]
        exact b1.trans d1
      · rw [e1]
        rw [List.append_assoc] at d3
        exact d3
end

