/-! A CALL THAT KEEPS THE OLD STATE AND WRITES A NEW ONE -/
def Sst (x : Nat) : Prop := (2 ≤ x ∧ x < 60) ∨ (115 ≤ x ∧ x < 403)
section
variable {h : HP} {k : Nat}
/-- what the class has done before it writes -/
def CR (h g1 : HP) (u p : Nat) : Prop := So (fun x => x = 0 ∨ inS (403 + 58 * p) x) h g1 ∧ StateEq g1 (403 + 58 * p) h 2 ∧ hI g1 646 0 = i32 (u10 u : Nat) ∧ hI g1 647 0 = i32 ((p + 1) % 10 : Nat) ∧ ∀ f, f ≠ 646 → f ≠ 647 → hI g1 f 0 = hI h f 0
/-- what the model has done before it writes -/
def MR (g2 g3 : HP) (u : Nat) : Prop := So (fun x => x = 983 ∨ x = 989) g2 g3 ∧ hI g3 712 983 = i32 (u10 u : Nat) ∧ (∀ f, f ≠ 712 → hI g3 f 983 = hI g2 f 983) ∧ (∀ j i, j + 1 < u10 u → i < 2880 → hL g3 989 (2880 * j + i) = hL g2 989 (2880 * (if u = 10 then j + 1 else j) + i)) ∧ ∀ i, i < 2880 → hL g3 989 (2880 * (u10 u - 1) + i) = hL g2 987 i
def UP (h : HP) (u p : Nat) : Prop := u ≤ 10 ∧ p < 10 ∧ hI h 646 0 = i32 u ∧ hI h 647 0 = i32 p ∧ hI h 712 983 = i32 u
theorem RR.up (R : RR h k) : ∃ u p, UP h u p := by
  obtain ⟨C, M, K, n, s, er, np, T, a, b, c, d, f, g, ⟨u, p, p1, p2, p3, p4, p5, _⟩⟩ := R
  exact ⟨u, p, p1, p2, p3, p4, p5⟩
theorem RR.rem (R : RR h k) {u p : Nat} (U : UP h u p) : ∃ g, fX10_remember 0 h = some g ∧ CR h g u p := by
  obtain ⟨np, sr, _⟩ := R.sr
  obtain ⟨g, a, b⟩ := crem R.C U.1 U.2.1 U.2.2.1 U.2.2.2.1 sr.x.1.1.isB
  exact ⟨g, a, b⟩
theorem MS.keep {g2 : HP} (M : MS g2) {u : Nat} (hu : u ≤ 10) (e : hI g2 712 983 = i32 u) : ∃ g3, fX11_keeps 983 g2 = some g3 ∧ MR g2 g3 u := by
  obtain ⟨g, a, b⟩ := mkeeps M hu e
  exact ⟨g, a, b⟩
theorem CR.sm {g1 : HP} {u p : Nat} (c : CR h g1 u p) {x : Nat} (hx : x ≠ 0) (n : x < 403 ∨ 983 ≤ x) (hp : p < 10) : Sm h g1 x := c.1.2.2 x (fun z => by rcases z with z | z; exact hx z; have := z.1; have := z.2; omega)
theorem MR.sm {g2 g3 : HP} {u : Nat} (c : MR g2 g3 u) {x : Nat} (a : x ≠ 983) (b : x ≠ 989) : Sm g2 g3 x := c.1.2.2 x (fun z => by rcases z with z | z; exact a z; exact b z)
theorem RR_rem {u p : Nat} {g1 g2 g3 g4 : HP} (R : RR h k) (U : UP h u p) (c : CR h g1 u p) (w : So Sst g1 g2) (m : MR g2 g3 u) (v : So (fun x => x = 987) g3 g4) (rev : ∀ r : Nat, (r : Int) < Wm h 2628 → FormEq g2 (115 + 36 * r) g1 (115 + 36 * r)) (mo : Wm h 2628 ≤ Wm g4 2628) (sr : ∀ np : Nat, np ≤ 20 * k → SR h 2 (Wm h) np → SR g4 2 (Wm g4) np) : RR g4 (k + 1) := by
  obtain ⟨hu, hp, e6, e7, e12⟩ := U
  have sm1 : ∀ x, x ≠ 0 → (x < 403 ∨ 983 ≤ x) → Sm h g1 x := fun x a b => c.sm a b hp
  have sm2 : ∀ x, ¬ Sst x → Sm g1 g2 x := fun x a => w.2.2 x a
  have sm3 : ∀ x, x ≠ 983 → x ≠ 989 → Sm g2 g3 x := fun x a b => m.sm a b
  have sm4 : ∀ x, x ≠ 987 → Sm g3 g4 x := fun x a => v.2.2 x a
  have nS : ∀ x, (x < 2 ∨ (60 ≤ x ∧ x < 115) ∨ 403 ≤ x) → ¬ Sst x := fun x a z => by rcases z with z | z <;> omega
  have smA : ∀ x, x ≠ 0 → x < 403 ∨ 983 ≤ x → (x < 2 ∨ (60 ≤ x ∧ x < 115) ∨ 403 ≤ x) → x ≠ 983 → x ≠ 989 → x ≠ 987 → Sm h g4 x := fun x a b c d e f => (sm1 x a b).t ((sm2 x (nS x c)).t ((sm3 x d e).t (sm4 x f)))
  have eA : ∀ x, x ≠ 0 → x < 403 ∨ 983 ≤ x → (x < 2 ∨ (60 ≤ x ∧ x < 115) ∨ 403 ≤ x) → x ≠ 983 → x ≠ 989 → x ≠ 987 → hA g4 x = hA h x := fun x a b c d e f => funext (smA x a b c d e f).2.2.2.1
  have i0 : ∀ f, f ≠ 646 → f ≠ 647 → hI g4 f 0 = hI h f 0 := fun f a b => by rw [(sm4 0 (by decide)).1, (sm3 0 (by decide) (by decide)).1, (sm2 0 (nS 0 (by omega))).1, c.2.2.2.2 f a b]
  have iM : ∀ f, f ≠ 712 → hI g4 f 983 = hI h f 983 := fun f a => by rw [(sm4 983 (by decide)).1, m.2.2.1 f a, (sm2 983 (nS 983 (by omega))).1, (sm1 983 (by omega) (by omega)).1]
  have e985 := eA 985 (by omega) (by omega) (by omega) (by omega) (by omega) (by omega)
  have e990 := eA 990 (by omega) (by omega) (by omega) (by omega) (by omega) (by omega)
  have sk : Sk h g4 := c.1.1.trans (w.1.trans (m.1.1.trans v.1))
  have hz : g4.1 = h.1 := by rw [v.2.1, m.1.2.1, w.2.1, c.1.2.1]
  have ts : TS2 h g4 := TS2_So (S := fun x => x < 1008) ((c.1.w (fun x z => by rcases z with z | z; omega; have := z.2; omega)).t ((w.w (fun x z => by rcases z with z | z <;> omega)).t ((m.1.w (fun x z => by rcases z with z | z <;> omega)).t (v.w (fun x z => by omega))))) (fun x z => z)
  refine RR_wr R sk hz (funext (smA 104 (by omega) (by omega) (by omega) (by omega) (by omega) (by omega)).2.2.2.2.1) (R.n24.e (eA 991 (by omega) (by omega) (by omega) (by omega) (by omega) (by omega)) (eA 999 (by omega) (by omega) (by omega) (by omega) (by omega) (by omega))) e985 (eA 1 (by omega) (by omega) (by omega) (by omega) (by omega) (by omega)) (eA 984 (by omega) (by omega) (by omega) (by omega) (by omega) (by omega)) (i0 641 (by omega) (by omega)) (iM 705 (by omega)) (iM 714 (by omega)) ?_ (fun np hnp P s => sr np hnp s) (fun np hnp P s => ?_)
  · rw [i0 642 (by omega) (by omega), iM 706 (by omega)]; exact R.2.2.2.2.2.1
  · refine PastR_rem P s (fun u' p' hu' hp' f6 f7 f12 => ?_) ts (fun q _ => by rw [e990]) e985 (fun r hr => ?_) mo (Nat.le_refl _)
    · obtain rfl : u' = u := by rw [e6, i32_eq (by omega) (by omega) (by omega) (by omega)] at f6; omega
      obtain rfl : p' = p := by rw [e7, i32_eq (by omega) (by omega) (by omega) (by omega)] at f7; omega
      refine Rem_mk (c := g1) (m := g2) c.1 c.2.1 c.2.2.1 c.2.2.2.1 hp (fun x hx f _ => (sm2 x (nS x (by omega))).1 f) (fun x x0 x1 => sm2 x (nS x (by omega))) ?_ ?_ ?_ (fun j i hj hi => ?_) (fun i hi => ?_) (fun x hx => (sm3 x (by omega) (by omega)).t (sm4 x (by omega)))
      · exact funext ((sm1 987 (by omega) (by omega)).t (sm2 987 (nS _ (by omega)))).2.2.2.2.1
      · exact funext ((sm1 989 (by omega) (by omega)).t (sm2 989 (nS _ (by omega)))).2.2.2.2.1
      · rw [(sm4 983 (by decide)).1]; exact m.2.1
      · rw [(sm4 989 (by decide)).2.2.2.2.1]; exact m.2.2.2.1 j i hj hi
      · rw [(sm4 989 (by decide)).2.2.2.2.1]; exact m.2.2.2.2 i hi
    · have hs := s.2.1.2
      have q1 : FormEq g4 (115 + 36 * r) g2 (115 + 36 * r) := FormEq_sm (fun x hx => (sm3 x (by have := hx.2; omega) (by have := hx.2; omega)).t (sm4 x (by have := hx.2; omega)))
      have q2 : FormEq g1 (115 + 36 * r) h (115 + 36 * r) := FormEq_sm (fun x hx => sm1 x (by have := hx.1; omega) (by have := hx.2; omega))
      exact q1.t ((rev r hr).t q2)
/-- a state whose draft is another -/
theorem SR_draft {g : HP} {W W' : Int → Int} {a np np' : Nat} (r : SR h a W np) (d : FRx g (a + 1) (Wf W' 0) np') (e1 : hI g 321 a = hI h 321 a) (e2 : hI g 322 a = hI h 322 a) (es : ∀ i : Nat, i < 10 → SheetEq g (a + 38 + 2 * i) h (a + 38 + 2 * i)) (er : ∀ r : Nat, r < 8 → FormEq g (115 + 36 * r) h (115 + 36 * r)) (ew : ∀ q, 292 ≤ q → q < 2880 → W' q = W q) (ts : TS2 h g) (pl : PlS np h g) (e5 : hA g 985 = hA h 985) (hn : np ≤ np') : SR g a W' np' := by
  obtain ⟨r1, r2, r3, r4, r5⟩ := r
  refine ⟨d, by rw [e1, ew 2628 (by omega) (by omega)]; exact r2, by rw [e2, ew 2629 (by omega) (by omega)]; exact r3, fun q hq => ?_, fun q hq => ?_⟩
  · rw [ew 2628 (by omega) (by omega)] at hq
    refine FRx_F (FRx_eq (r4 q hq) (er q (by omega)) ts pl e5 hn) (fun j j0 j1 => ?_)
    exact ew _ (by omega) (by omega)
  · rw [ew 2629 (by omega) (by omega)] at hq
    obtain ⟨s1, s2, s3, s4⟩ := r5 q hq
    have hb : (q : Int) < 10 := by omega
    have e := es q (by omega)
    refine ⟨by rw [e.1, ew _ (by omega) (by omega)]; exact s1, by rw [ew _ (by omega) (by omega)]; exact s2, by rw [ew _ (by omega) (by omega), ew 2628 (by omega) (by omega)]; exact s3, fun f f0 f1 => ?_⟩
    rw [e.2 f.toNat (by omega), ew _ (by omega) (by omega)]
    exact s4 f f0 f1
/-- what a node is made of is another, the tree and the conditions stand -/
theorem FRx_set {g : HP} {a np : Nat} {F F' : Int → Int} (r : FRx h a F np) (hE : ∀ j, 0 ≤ j → j < 292 → ¬ (32 ≤ j ∧ j < 192) → F' j = F j) (nm : NMs F') (kd : KD F') (i1 : ∀ f, f < 6 → hI g f a = hI h f a) (i2 : ∀ i : Nat, i < 32 → hA g (a + 1) i = hA h (a + 1) i) (i3 : ∀ i : Nat, i < 32 → hI g 128 (a + 4 + i) = hI h 128 (a + 4 + i) ∧ hI g 134 (a + 4 + i) = hI h 134 (a + 4 + i) ∧ hR g 135 (a + 4 + i) = hR h 135 (a + 4 + i) ∧ hI g 136 (a + 4 + i) = hI h 136 (a + 4 + i) ∧ hI g 137 (a + 4 + i) = hI h 137 (a + 4 + i)) (i4 : ∀ n, 0 ≤ n → n < 32 → F n ≠ -1 → hJ g 129 (a + 4 + n.toNat) = i64 (lft (F' (32 + n))) ∧ hI g 130 (a + 4 + n.toNat) = i32 (F' (64 + n)) ∧ hI g 131 (a + 4 + n.toNat) = i32 (F' (96 + n)) ∧ hI g 132 (a + 4 + n.toNat) = i32 (F' (128 + n)) ∧ hI g 133 (a + 4 + n.toNat) = i32 (F' (160 + n))) (ts : TS2 h g) (pl : PlS np h g) (e5 : hA g 985 = hA h 985) : FRx g a F' np := by
  have tr := r.tr
  have o := tr.ov
  have E : EqT F' F := ⟨fun n a b => hE n a (by omega) (by omega), hE 288 (by omega) (by omega) (by omega), fun i i0 i1 => hE (256 + i) (by omega) (by have := o.2.1; omega) (by omega)⟩
  have en : ∀ n, 0 ≤ n → n < 32 → F n ≠ -1 → F' n = F n := fun n a b _ => hE n a (by omega) (by omega)
  obtain ⟨⟨⟨r3, r4, r5, ro, rn⟩, rc⟩, ⟨⟨_, _, de, gv⟩, _, tk, ac, sg⟩, z0, z1, z2⟩ := r
  have es : ∀ n, 0 ≤ n → n < 32 → F n ≠ -1 → sgm (Pt g) F' n = sgm (Pt h) F n := fun n a b c => by
    rw [sgm_E (P := Pt g) (F := F) (hE _ (by omega) (by omega) (by omega)) (hE _ (by omega) (by omega) (by omega))]
    exact sgm_np pl (by have := sg n a b c; omega)
  refine ⟨⟨⟨by rw [i1 3 (by omega), hE 289 (by omega) (by omega) (by omega)]; exact r3, by rw [i1 4 (by omega), hE 290 (by omega) (by omega) (by omega)]; exact r4, by rw [i1 5 (by omega), hE 288 (by omega) (by omega) (by omega)]; exact r5, fun i i0 i1' => ?_, fun n h0 h1 => ?_⟩, fun n h0 h1 h2 => ?_⟩, ⟨⟨TR_E E tr, nm, fun n a b c => ?_, ?_⟩, kd, fun n a b c t ht => ?_, ?_, fun n a b c => ?_⟩, by rw [i1 0 (by omega), e5]; exact z0, by rw [i1 1 (by omega), e5]; exact z1, by rw [i1 2 (by omega), e5]; exact z2⟩
  · rw [hE 288 (by omega) (by omega) (by omega)] at i1'
    rw [i2 i.toNat (by have := o.2.1; omega), hE (256 + i) (by omega) (by have := o.2.1; omega) (by omega)]
    exact ro i i0 i1'
  · have en' := hE n h0 (by omega) (by omega)
    obtain ⟨j1, j2, j3, j4, j5⟩ := i3 n.toNat (by omega)
    rw [en', j1]
    rcases rn n h0 h1 with q | ⟨q1, q2, q3⟩
    · exact Or.inl q
    · refine Or.inr ⟨q1, q2, ?_⟩
      unfold NDc
      rw [j2, en']
      exact ⟨q3.1, i4 n h0 h1 q1⟩
  · rw [hE n h0 (by omega) (by omega)] at h2
    obtain ⟨j1, j2, j3, j4, j5⟩ := i3 n.toNat (by omega)
    rw [es n h0 h1 h2]
    exact CND_ts (rc n h0 h1 h2) ts (Nat.le_refl _) ts.1 j3 j4 j5
  · rw [hE n a (by omega) (by omega)] at c ⊢
    have th := thr_par tr.tv a b c
    obtain ⟨u1, u2⟩ := de n a b c
    exact ⟨ends_congr tr.tv en 4 _ th u1, fun h => ends_congr tr.tv en 3 _ th (u2 h)⟩
  · obtain ⟨u1, u2, u3, u4, u5, u6⟩ := gv
    have e289 := hE 289 (by omega) (by omega) (by omega)
    have e290 := hE 290 (by omega) (by omega) (by omega)
    refine ⟨by rw [e289]; exact u1, by rw [e289]; exact u2, by rw [e290]; exact u3, by rw [e290]; exact u4, by rw [hE 288 (by omega) (by omega) (by omega), e289, e290]; exact u5, fun n a b c => ?_⟩
    rw [hE n a (by omega) (by omega)] at c
    rw [e289, e290]
    exact u6 n a b c
  · rw [hE n a (by omega) (by omega)] at c
    rw [es n a b c] at ht
    rcases tk n a b c t ht with ⟨f, s, v, f0, f1, f2, q⟩ | q
    · exact Or.inl ⟨f, s, v, f0, f1, by rw [hE f f0 (by omega) (by omega)]; exact f2, q⟩
    · exact Or.inr q
  · rw [EqT_NE E tr.av (R := fun n => RlL (sgm (Pt g) F' n)) (S := fun n => RlL (sgm (Pt h) F n)) (fun n a b c => by show RlL (sgm (Pt g) F' n) = RlL (sgm (Pt h) F n); rw [es n a b c]) tr.tv]
    exact ac
  · rw [hE n a (by omega) (by omega)] at c
    rw [hE (192 + n) (by omega) (by omega) (by omega), hE (224 + n) (by omega) (by omega) (by omega)]
    exact sg n a b c
end
