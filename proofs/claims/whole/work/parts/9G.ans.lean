/-! ANSWER -/
section
variable {h g g' : HP} {np : Nat} {k : Nat}
theorem RC_wr2 {g1 g2 ga gb gc : HP} {u p : Nat} {l l' : List Nat} (r : RC g np) (U : UP g u p) (c : CR g g1 u p) (w : So (fun x => Sst x ∨ So9 x) g1 g2) (wr : ∀ x, 115 ≤ x → Sm g1 g2 x) (m : Mo l g2 ga) (o : (l.contains 712 || l.contains 985 || l.contains 989) = false) (e7 : hL ga 987 = hL g2 987) (kp : MR ga gb u) (m' : Mo l' gb gc) (o' : (l'.contains 712 || l'.contains 985 || l'.contains 989) = false) (v : So (fun x => x = 987) gc g') (pl : PlS np g g') (n24 : N24 g') (mo : Wm g 2628 ≤ Wm g' 2628) (s' : SR g' 2 (Wm g') np) : RC g' np := by
  simp only [Bool.or_eq_false_iff] at o o'
  obtain ⟨C, M, K, _, ⟨s1, s2, s3, sz⟩, dz, s, P⟩ := r
  obtain ⟨hu, hp, e6, e7', e12⟩ := U
  have nS : ∀ x, (x < 2 ∨ (60 ≤ x ∧ x < 109) ∨ (111 ≤ x ∧ x < 115)) → Sm g1 g2 x := fun x a => w.2.2 x (fun z => by
    unfold So9 at z
    rcases z with z | z
    · rcases z with z | z <;> omega
    · omega)
  have sm1 : ∀ x, x ≠ 0 → (x < 403 ∨ 983 ≤ x) → Sm g g1 x := fun x a b => c.sm a b hp
  have sma : ∀ x, x < 983 → Sm g2 ga x := fun x a => m.sm a
  have smb : ∀ x, x ≠ 983 → x ≠ 989 → Sm ga gb x := fun x a b => kp.sm a b
  have smv : ∀ x, x ≠ 987 → Sm gc g' x := fun x a => v.2.2 x a
  have smc : ∀ x, x < 983 → Sm gb gc x := fun x a => m'.sm a
  have smL : ∀ x, x < 983 → Sm g2 g' x := fun x a => (sma x a).t ((smb x (by omega) (by omega)).t ((smc x a).t (smv x (by omega))))
  have e985 : hA g' 985 = hA g 985 := (funext (smv 985 (by omega)).2.2.2.1 : hA g' 985 = hA gc 985).trans ((m'.A o'.1.2).trans ((funext (smb 985 (by omega) (by omega)).2.2.2.1 : hA gb 985 = hA ga 985).trans ((m.A o.1.2).trans (funext ((sm1 985 (by omega) (by omega)).t (wr 985 (by omega))).2.2.2.1))))
  have sk : Sk g g' := c.1.1.trans (w.1.trans (m.sk.trans (kp.1.1.trans (m'.sk.trans v.1))))
  have hz : hsz g' = hsz g := by unfold hsz; rw [v.2.1, m'.1, kp.1.2.1, m.1, w.2.1, c.1.2.1]
  have ts : TS2 g g' := (TS2_So ((c.1.w (T := fun x => x < 1008) (fun x z => by rcases z with z | z; omega; have := z.2; omega)).t (w.w (fun x z => by
    unfold So9 at z
    rcases z with z | z
    · rcases z with z | z <;> omega
    · omega))) (fun x z => z)).t ((TS2_mo m).t ((TS2_So (S := fun x => x < 1008) (kp.1.w (fun x z => by rcases z with z | z <;> omega)) (fun x z => z)).t ((TS2_mo m').t (TS2_So (S := fun x => x < 1008) (v.w (fun x z => by omega)) (fun x z => z)))))
  have rv : ∀ r : Nat, r < 8 → FormEq g' (115 + 36 * r) g (115 + 36 * r) := fun r hr => FormEq_sm (fun x hx => ((sm1 x (by have := hx.1; omega) (by have := hx.2; omega)).t (wr x (by have := hx.1; omega))).t (smL x (by have := hx.2; omega)))
  refine ⟨C.sk sk, M.sk sk, fun i hi => ?_, n24, ⟨s1, s2, s3, by rw [e985]; exact sz⟩, by rw [hz]; exact dz, s', ?_⟩
  · rw [(((sm1 104 (by omega) (by omega)).t (nS 104 (by omega))).t (smL 104 (by omega))).2.2.2.2.1]; exact K i hi
  · refine PastR_rem P s (fun u' p' hu' hp' f6 f7 f12 => ?_) ts pl e985 (fun r hr => rv r (by have := s.2.1.2; omega)) mo (Nat.le_refl _)
    obtain rfl : u' = u := by rw [e6, i32_eq (by omega) (by omega) (by omega) (by omega)] at f6; omega
    obtain rfl : p' = p := by rw [e7', i32_eq (by omega) (by omega) (by omega) (by omega)] at f7; omega
    refine Rem_mk (c := g1) (m := ga) c.1 c.2.1 c.2.2.1 c.2.2.2.1 hp (fun x hx f _ => ?_) (fun x x0 x1 => (wr x (by omega)).t (sma x x1)) ?_ ?_ ?_ (fun j i hj hi => ?_) (fun i hi => ?_) (fun x hx => (smb x (by omega) (by omega)).t ((smc x (by omega)).t (smv x (by omega))))
    · rcases hx with hx | hx
      · rw [hx]; exact ((nS 0 (by omega)).t (sma 0 (by omega))).1 f
      · exact ((wr x (by omega)).t (sma x (by omega))).1 f
    · rw [e7]; exact funext ((sm1 987 (by omega) (by omega)).t (wr 987 (by omega))).2.2.2.2.1
    · rw [m.L o.2]; exact funext ((sm1 989 (by omega) (by omega)).t (wr 989 (by omega))).2.2.2.2.1
    · rw [(smv 983 (by decide)).1, m'.I o'.1.1]; exact kp.2.1
    · rw [(smv 989 (by decide)).2.2.2.2.1, m'.L o'.2]; exact kp.2.2.2.1 j i hj hi
    · rw [(smv 989 (by decide)).2.2.2.2.1, m'.L o'.2]; exact kp.2.2.2.2 i hi
theorem mans110 {K : Nat → Int32 → Int32 → Int32 → Int32 → HP → Option (Int32 × HP)} {w1 w2 w3 w4 : Int32} : ∀ (j n : Nat) (i : Int) (f : HP), i + j = 32 → 0 ≤ i → j < n → MS f → ∃ g, lX11_answer_110 K n 983 w1 w2 w3 w4 (i32 i) f = K 983 w1 w2 w3 w4 g ∧ Mo [1002] f g ∧ (∀ q, i ≤ q → q < 32 → hA g 1002 q.toNat = (hA f 999 q.toNat &&& 1)) ∧ ∀ q : Nat, (q : Int) < i → hA g 1002 q = hA f 1002 q := by
  intro j
  induction j with
  | zero =>
    intro n i f e i0 hn M
    obtain ⟨n, rfl⟩ : ∃ x, n = x + 1 := ⟨n - 1, by omega⟩
    refine ⟨f, ?_, Mo.r, fun q a b => by omega, fun q _ => rfl⟩
    rw [elX11_answer_110]; unfold bX11_answer_110
    rw [if_pos (by rw [i32_le (by omega) (by omega) (by omega) (by omega)]; omega)]
  | succ j ih =>
    intro n i f e i0 hn M
    obtain ⟨n, rfl⟩ : ∃ x, n = x + 1 := ⟨n - 1, by omega⟩
    obtain ⟨f1, e1⟩ : ∃ f1, f1 = sA f 1002 i.toNat (hA f 999 i.toNat &&& 1) := ⟨_, rfl⟩
    have p1 : Mo [1002] f f1 := by rw [e1]; exact Mo_A (by decide) _ _
    obtain ⟨g, a1, a2, a3, a4⟩ := ih n (i + 1) f1 (by omega) (by omega) (by omega) (p1.ms M)
    refine ⟨g, ?_, p1.t a2, fun q q0 q1 => ?_, fun q hq => ?_⟩
    · rw [elX11_answer_110]; unfold bX11_answer_110
      rw [if_neg (by rw [i32_le (by omega) (by omega) (by omega) (by omega)]; omega), M.o, gd_tt, M.r_shown, oc_s, M.o_shown, gd_tt, M.n_shown, i32_inb i0 (by omega) (by omega), gd_tt, M.r_before, oc_s, M.o_before, gd_tt, M.n_before, i32_inb i0 (by omega) (by omega), gd_tt, i32_cn i0 (by omega), ← e1, lt_e, lt_e, i32_add]
      exact a1
    · by_cases y : q = i
      · have := a4 i.toNat (by omega)
        rw [y, this, e1, rAA, if_pos ⟨rfl, rfl⟩]
      · rw [a3 q (by omega) q1, p1.A (by decide)]
    · rw [a4 q (by omega), e1, rAA, if_neg (fun z => by omega)]
theorem mans169 {p q : Int → Bool} (M : MS g) (h1 : ∀ i, 0 ≤ i → i < 32 → hA g 1002 i.toNat = bI (p i)) (h2 : ∀ i, 0 ≤ i → i < 32 → hA g 999 i.toNat = bI (q i)) : ∀ (j n : Nat) (c i : Int), i + j = 32 → 0 ≤ i → j < n → lX11_answer_169 n 983 (i32 c) (i32 i) g = some (i32 (c + cnt (fun i => p i ^^ q i) j i), g) := by
  intro j
  induction j with
  | zero =>
    intro n c i e i0 hn
    obtain ⟨n, rfl⟩ : ∃ x, n = x + 1 := ⟨n - 1, by omega⟩
    rw [elX11_answer_169]; unfold bX11_answer_169
    rw [if_pos (by rw [i32_le (by omega) (by omega) (by omega) (by omega)]; omega)]
    simp only [cnt, Int.add_zero]
  | succ j ih =>
    intro n c i e i0 hn
    obtain ⟨n, rfl⟩ : ∃ x, n = x + 1 := ⟨n - 1, by omega⟩
    have nx : ∀ b : Bool, jX11_answer_200 (fun v0 v5 v6 h => lX11_answer_169 n v0 v5 v6 h) 983 (i32 i) b (i32 c) g = lX11_answer_169 n 983 (i32 c + bI b) (i32 (i + 1)) g := fun b => by
      unfold jX11_answer_200
      rw [lt_e, lt_e, i32_add]
    rw [elX11_answer_169]; unfold bX11_answer_169
    rw [if_neg (by rw [i32_le (by omega) (by omega) (by omega) (by omega)]; omega), M.o, gd_tt, M.r_before, oc_s, M.o_before, gd_tt, M.n_before, i32_inb i0 (by omega) (by omega), gd_tt, M.r_shown, oc_s, M.o_shown, gd_tt, M.n_shown, i32_inb i0 (by omega) (by omega), gd_tt, i32_cn i0 (by omega), h1 i i0 (by omega), h2 i i0 (by omega), nx, nx]
    simp only [cnt]
    by_cases d : p i = q i
    · have x : (p i ^^ q i) = false := by rw [d]; cases q i <;> rfl
      rw [if_pos (by rw [d]), if_neg (show ¬ (p i ^^ q i) = true by rw [x]; decide), bI_ff, i32_add, ih n _ (i + 1) (by omega) (by omega) (by omega), Int.zero_add, Int.add_zero]
    · have x : (p i ^^ q i) = true := by
        cases a : p i <;> cases b : q i <;> first | rfl | (rw [a, b] at d; exact absurd rfl d)
      have nb : ¬ bI (p i) = bI (q i) := fun z => by
        cases a : p i <;> cases b : q i <;> rw [a, b] at z d <;> first | exact d rfl | exact absurd z (by decide)
      rw [if_neg nb, if_pos (show (p i ^^ q i) = true from x), bI_tt, i32_add, ih n _ (i + 1) (by omega) (by omega) (by omega), Int.add_assoc]
end

