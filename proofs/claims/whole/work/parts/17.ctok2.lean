/-! WORDS: what tells two names apart -/
def NV (w : Int) : Prop := 0 < w ∧ w < 1099511627776 ∧ ∀ i : Nat, i < nl w → w / 32 ^ i % 32 ≠ 0
theorem nl_pos {w : Int} (h : 0 < w) : 1 ≤ nl w := by
  unfold nl; rw [if_neg (by omega)]
  repeat (first | (split; · omega) | omega)
theorem NV.m {w : Int} (h : NV w) : w % 32 ≠ 0 := by
  have := h.2.2 0 (nl_pos h.1)
  simpa using this
theorem lft_inj {u w : Int} (hu : NV u) (hw : NV w) (e : lft u = lft w) : u = w := by
  have key : ∀ (u w : Int) (a b : Nat), u % 32 ≠ 0 → a < b → u * 32 ^ a = w * 32 ^ b → False := by
    intro u w a b hu ab e
    obtain ⟨d, rfl⟩ : ∃ d, b = a + (d + 1) := ⟨b - a - 1, by omega⟩
    rw [Int.pow_add, Int.mul_comm (32 ^ a), ← Int.mul_assoc] at e
    have p : (32 : Int) ^ a ≠ 0 := Int.ne_of_gt (Int.pow_pos (by decide))
    have e2 := Int.eq_of_mul_eq_mul_right p e
    rw [Int.pow_succ, ← Int.mul_assoc] at e2
    omega
  unfold lft at e
  rcases Nat.lt_trichotomy (8 - nl u) (8 - nl w) with c | c | c
  · exact (key u w _ _ hu.m c e).elim
  · rw [c] at e
    exact Int.eq_of_mul_eq_mul_right (Int.ne_of_gt (Int.pow_pos (by decide))) e
  · exact (key w u _ _ hw.m c e.symm).elim
theorem lft_rng {w : Int} (h : NV w) : 0 < lft w ∧ lft w < 1099511627776 := by
  obtain ⟨h1, h2, _⟩ := h
  have hp : (0 : Int) < 32 ^ (8 - nl w) := Int.pow_pos (by decide)
  refine ⟨Int.mul_pos h1 hp, ?_⟩
  unfold lft nl
  rw [if_neg (by omega)]
  by_cases c1 : w < 32
  · rw [if_pos c1]; simp only [Nat.reduceSub, Int.reducePow]; omega
  rw [if_neg c1]
  by_cases c2 : w < 1024
  · rw [if_pos c2]; simp only [Nat.reduceSub, Int.reducePow]; omega
  rw [if_neg c2]
  by_cases c3 : w < 32768
  · rw [if_pos c3]; simp only [Nat.reduceSub, Int.reducePow]; omega
  rw [if_neg c3]
  by_cases c4 : w < 1048576
  · rw [if_pos c4]; simp only [Nat.reduceSub, Int.reducePow]; omega
  rw [if_neg c4]
  by_cases c5 : w < 33554432
  · rw [if_pos c5]; simp only [Nat.reduceSub, Int.reducePow]; omega
  rw [if_neg c5]
  by_cases c6 : w < 1073741824
  · rw [if_pos c6]; simp only [Nat.reduceSub, Int.reducePow]; omega
  rw [if_neg c6]
  by_cases c7 : w < 34359738368
  · rw [if_pos c7]; simp only [Nat.reduceSub, Int.reducePow]; omega
  rw [if_neg c7]; simp only [Nat.reduceSub, Int.reducePow]; omega
/-- digits of a word -/
theorem wv_dig {b : Int → Int} {s : Int} : ∀ (k : Nat), (∀ i, s ≤ i → i < s + k → ltr (b i) = true) → ∀ i : Nat, i < k → wv b s k / 32 ^ i % 32 = b (s + ((k - 1 - i : Nat) : Int)) - 96 := by
  intro k
  induction k with
  | zero => intro _ i hi; omega
  | succ k ih =>
    intro hl i hi
    have l := hl (s + k) (by omega) (by omega)
    simp only [ltr, decide_eq_true_eq] at l
    simp only [wv]
    cases i with
    | zero =>
      rw [show k + 1 - 1 - 0 = k by omega]
      simp only [Int.pow_zero, Int.ediv_one]; omega
    | succ i =>
      have a := ih (fun i i0 i1 => hl i i0 (by omega)) i (by omega)
      have dd : ∀ x : Int, x / (32 * 32 ^ i) = x / 32 / 32 ^ i := fun x => by
        rw [Int.ediv_ediv, if_neg (by omega), Int.sub_zero]
      rw [show k + 1 - 1 - (i + 1) = k - 1 - i by omega, ← a, Int.pow_succ, Int.mul_comm (32 ^ i), dd]
      congr 2
      omega
theorem wv_NV {b : Int → Int} {s : Int} {k : Nat} (k0 : 0 < k) (h8 : k ≤ 8) (hl : ∀ i, s ≤ i → i < s + k → ltr (b i) = true) : NV (wv b s k) := by
  obtain ⟨k, rfl⟩ : ∃ j, k = j + 1 := ⟨k - 1, by omega⟩
  have a := wv_lo k hl (by omega)
  have c : wv b s (k + 1) < 32 ^ (k + 1) := by
    have : ∀ j : Nat, j ≤ k + 1 → 0 ≤ wv b s j ∧ wv b s j < 32 ^ j := by
      intro j
      induction j with
      | zero => intro _; exact ⟨Int.le_refl _, by simp only [wv, Int.pow_zero]; decide⟩
      | succ j ih =>
        intro hj
        obtain ⟨a1, a2⟩ := ih (by omega)
        have l := hl (s + j) (by omega) (by omega)
        simp only [ltr, decide_eq_true_eq] at l
        simp only [wv]
        have e : (32 : Int) ^ (j + 1) = 32 * 32 ^ j := by rw [Int.pow_succ]; omega
        omega
    exact (this (k + 1) (Nat.le_refl _)).2
  have p : (0 : Int) < 32 ^ k := Int.pow_pos (by decide)
  have q := p32_le (show k + 1 ≤ 8 by omega)
  refine ⟨by omega, by omega, fun i hi => ?_⟩
  rw [nl_of (by omega) a c] at hi
  rw [wv_dig (k + 1) hl i hi]
  have l := hl (s + ((k + 1 - 1 - i : Nat) : Int)) (by omega) (by omega)
  simp only [ltr, decide_eq_true_eq] at l
  omega
/-- the keywords' numbers, in their order -/
def kws : List Int := [212557, 7945904, 294, 24416904, 492210354, 109552741, 26398159, 498, 1476, 14836]
def KW (h : HP) : Prop := ∀ i : Nat, i < 10 → hL h 104 i = i64 (lft (kws.getD i 0))
theorem kws_NV : ∀ i : Nat, i < 10 → NV (kws.getD i 0) := by
  intro i hi
  have : ∀ i : Fin 10, 0 < kws.getD i.val 0 ∧ kws.getD i.val 0 < 1099511627776 ∧ ∀ j : Fin 9, j.val < nl (kws.getD i.val 0) → kws.getD i.val 0 / 32 ^ j.val % 32 ≠ 0 := by decide +kernel
  obtain ⟨a, b, c⟩ := this ⟨i, hi⟩
  exact ⟨a, b, fun j hj => c ⟨j, by have := nl_le (kws.getD i 0); omega⟩ hj⟩
theorem cwordL {h : HP} (S : CS h) (W : KW h) {w : Int} (hw : NV w) : ∀ (k n i : Nat), i + k = 10 → k < n → lX7_wordOf_2 h n 99 (i64 (lft w)) (i32 i) = some (i32 (fst (fun j => decide (kws.getD j.toNat 0 = w)) (-2) k i + 4)) := by
  intro k
  induction k with
  | zero =>
    intro n i e hn
    obtain ⟨m, rfl⟩ : ∃ m, n = m + 1 := ⟨n - 1, by omega⟩
    rw [elX7_wordOf_2]; unfold bX7_wordOf_2
    simp (disch := omega) only [i32_le]
    rw [if_pos (by omega)]; rfl
  | succ k ih =>
    intro n i e hn
    obtain ⟨m, rfl⟩ : ∃ m, n = m + 1 := ⟨n - 1, by omega⟩
    have r1 := lft_rng hw
    have r2 := lft_rng (kws_NV i (by omega))
    rw [elX7_wordOf_2]; unfold bX7_wordOf_2
    simp (disch := omega) only [i32_le, S.o_tokens, S.r_keys, S.o_keys, S.n_keys, gd_tt, oc_s, i32_inb, i32_cn, Int.toNat_natCast, W i (show i < 10 by omega), i64_eq, lt_e, i32_add]
    rw [if_neg (by omega)]
    simp only [fst]
    by_cases c : kws.getD i 0 = w
    · rw [if_pos (by rw [c]), if_pos (by simpa using c)]
      congr 2
      omega
    · rw [if_neg (fun z => c (lft_inj (kws_NV i (by omega)) hw z)), if_neg (by simpa using c)]
      have := ih m (i + 1) (by omega) (by omega)
      rw [show ((i : Int) + 1) = ((i + 1 : Nat) : Int) by omega]
      exact this
theorem kwk_fst (w : Int) : kwk w = fst (fun j => decide (kws.getD j.toNat 0 = w)) (-2) 10 0 + 4 := by
  unfold kwk
  simp only [fst, kws]
  by_cases c1 : w = 212557
  · subst c1; decide
  by_cases c2 : w = 7945904
  · subst c2; decide
  by_cases c3 : w = 294
  · subst c3; decide
  by_cases c4 : w = 24416904
  · subst c4; decide
  by_cases c5 : w = 492210354
  · subst c5; decide
  by_cases c6 : w = 109552741
  · subst c6; decide
  by_cases c7 : w = 26398159
  · subst c7; decide
  by_cases c8 : w = 498
  · subst c8; decide
  by_cases c9 : w = 1476
  · subst c9; decide
  by_cases c10 : w = 14836
  · subst c10; decide
  simp [c1, c2, c3, c4, c5, c6, c7, c8, c9, c10, Ne.symm c1, Ne.symm c2, Ne.symm c3, Ne.symm c4, Ne.symm c5, Ne.symm c6, Ne.symm c7, Ne.symm c8, Ne.symm c9, Ne.symm c10]
theorem cword {h : HP} (S : CS h) (W : KW h) {w : Int} (hw : NV w) : fX7_wordOf 99 (i64 (lft w)) h = some (i32 (kwk w)) := by
  unfold fX7_wordOf
  have := cwordL S W hw 10 FU 0 (by decide) (by decide)
  rw [kwk_fst]
  rw [show ((0 : Nat) : Int) = 0 from rfl] at this
  rw [this]
theorem ciskey {h : HP} (S : CS h) (W : KW h) {w : Int} (hw : NV w) : fX3_isKeyword 62 (i64 (lft w)) h = some (decide (kwk w ≠ 2)) := by
  unfold fX3_isKeyword
  have kr := kwk_rng w
  simp (disch := omega) only [S.o_parser, S.r_tokens, S.o_tokens, gd_tt, oc_s, cword S W hw, bn_s, i32_eq]
  by_cases c : kwk w = 2
  · rw [if_pos c]; simp [c]
  · rw [if_neg c]; simp [c]
/-! THE CLASS'S TOKENS ARE READY -/
/-- what the class holds of a token's content -/
def cvt (t : TK) : Int := if tkk t = 2 ∨ (4 ≤ tkk t ∧ tkk t ≤ 13) then lft (tkv t) else tkv t
def CTk (h : HP) (b : Int → Int) (n : Int) (c : Nat) : Prop := (c : Int) ≤ n ∧ hI h 452 99 = i32 c ∧ hI h 453 99 = i32 n ∧ (∀ j, j < c → tkk (tkn b n j) ≠ 0 ∧ hA h 100 j = i32 (tkk (tkn b n j)) ∧ hA h 101 j = i32 (tks (tkn b n j)) ∧ (tkk (tkn b n j) ≠ 1 → hL h 103 j = i64 (cvt (tkn b n j)))) ∧ tkk (tkn b n c) = 0
/-- the class stands at a token -/
def CTt (h : HP) (b : Int → Int) (n : Int) (j : Nat) : Prop := hI h 451 99 = i32 j ∧ hI h 448 99 = i32 (tkk (tkn b n j)) ∧ hI h 449 99 = i32 (tks (tkn b n j)) ∧ (tkk (tkn b n j) ≠ 1 → tkk (tkn b n j) ≠ 0 → hJ h 450 99 = i64 (cvt (tkn b n j)))
theorem tkn_end {b : Int → Int} {n : Int} (n0 : 0 ≤ n) {c : Nat} (e : tkk (tkn b n c) = 0) : ∀ d, tkk (tkn b n (c + d)) = 0 ∧ tks (tkn b n (c + d)) = n := by
  intro d
  induction d with
  | zero =>
    have r := tkn_rng (b := b) n0 c
    exact ⟨e, r.2.2.2.2.1.mp e⟩
  | succ d ih =>
    have r := tkn_rng (b := b) n0 (c + d)
    have r2 := tkn_rng (b := b) n0 (c + (d + 1))
    have p : pos b n (c + (d + 1)) = tke (tkn b n (c + d)) := rfl
    have : tks (tkn b n (c + (d + 1))) = n := by omega
    exact ⟨r2.2.2.2.2.1.mpr this, this⟩
theorem step_s {h : HP} {b : Int → Int} {n : Int} (S : CS h) (n0 : 0 ≤ n) (n1 : n ≤ 1200) {c : Nat} (T : CTk h b n c) {j : Int} (j0 : -1 ≤ j) (j1 : j < 100000) (hj : hI h 451 99 = i32 j) : ∃ g, fX7_step 99 h = some g ∧ Co 0 [448, 449, 450, 451] h g ∧ CTt g b n (j + 1).toNat := by
  obtain ⟨cn, t2, t3, t4, t5⟩ := T
  obtain ⟨k, hk⟩ : ∃ k : Nat, (k : Int) = j + 1 := ⟨(j + 1).toNat, by omega⟩
  rw [show (j + 1).toNat = k by omega]
  have S1 : CS (sI h 451 99 (i32 k)) := S.sk (sk_sI rfl)
  have rl : ∀ v : Int32, CS (sI (sI h 451 99 (i32 k)) 448 99 v) := fun v => S1.sk (sk_sI rfl)
  have rm : ∀ v w : Int32, CS (sI (sI (sI h 451 99 (i32 k)) 448 99 v) 449 99 w) := fun v w => (rl v).sk (sk_sI rfl)
  have fin : ∀ (v w : Int32) (x : Int64), v = i32 (tkk (tkn b n k)) → w = i32 (tks (tkn b n k)) → (tkk (tkn b n k) ≠ 1 → tkk (tkn b n k) ≠ 0 → x = i64 (cvt (tkn b n k))) → ∃ g, some (sJ (sI (sI (sI h 451 99 (i32 k)) 448 99 v) 449 99 w) 450 99 x) = some g ∧ Co 0 [448, 449, 450, 451] h g ∧ CTt g b n k := by
    intro v w x e1 e2 e3
    refine ⟨_, rfl, (((Co_I (by decide) _).t (Co_I (by decide) _)).t (Co_I (by decide) _)).t (Co_J (by decide) _), ?_, ?_, ?_, ?_⟩
    · simp [rIJ, rII]
    · simp [rIJ, rII, e1]
    · simp [rIJ, rII, e2]
    · intro a1 a2; rw [rJJ, if_pos ⟨rfl, rfl⟩]; exact e3 a1 a2
  have n451 : hI (sI h 451 99 (i32 k)) 451 99 = i32 k := by rw [rII, if_pos ⟨rfl, rfl⟩]
  have n452 : hI (sI h 451 99 (i32 k)) 452 99 = i32 c := by rw [rII, if_neg (by decide)]; exact t2
  have r453 : ∀ v, hI (sI (sI h 451 99 (i32 k)) 448 99 v) 453 99 = i32 n := fun v => by rw [rII, if_neg (by decide), rII, if_neg (by decide)]; exact t3
  have r451 : ∀ v, hI (sI (sI h 451 99 (i32 k)) 448 99 v) 451 99 = i32 k := fun v => by rw [rII, if_neg (by decide)]; exact n451
  have s451 : ∀ v w, hI (sI (sI (sI h 451 99 (i32 k)) 448 99 v) 449 99 w) 451 99 = i32 k := fun v w => by rw [rII, if_neg (by decide)]; exact r451 v
  have k0 : ¬ i32 k < 0 := by rw [i32_z, i32_lt (by omega) (by omega) (by omega) (by omega)]; omega
  unfold fX7_step
  rw [S.o_tokens, gd_tt, hj, i32_add, ← hk, lt_e, n451, n452, if_neg k0]
  by_cases c2 : (c : Int) ≤ k
  · rw [if_pos (by rw [i32_le (by omega) (by omega) (by omega) (by omega)]; exact c2)]
    unfold jX7_step_42 jX7_step_43 jX7_step_62 jX7_step_86 jX7_step_107
    rw [if_neg (by decide)]
    simp only [S1.o_tokens, gd_tt, lt_e, Bool.false_eq_true, if_false, (rl _).o_tokens, (rm _ _).o_tokens, r453]
    obtain ⟨e1, e2⟩ := tkn_end n0 t5 (k - c)
    rw [show c + (k - c) = k by omega] at e1 e2
    exact fin _ _ _ (by rw [e1]) (by rw [e2]) (fun _ z => absurd e1 z)
  · obtain ⟨a1, a2, a3, a4⟩ := t4 k (by omega)
    rw [if_neg (by rw [i32_le (by omega) (by omega) (by omega) (by omega)]; exact c2), if_neg (by rw [i32_le (by omega) (by omega) (by omega) (by omega)]; omega)]
    unfold jX7_step_43 jX7_step_62 jX7_step_86 jX7_step_107
    rw [if_pos rfl]
    simp (disch := omega) only [n451, S1.o_tokens, S1.r_kinds, S1.o_kinds, S1.n_kinds, gd_tt, oc_s, i32_inb, i32_cn, Int.toNat_natCast, rAI, rLI, a2, a3, lt_e, if_true, (rl _).o_tokens, (rl _).r_starts, (rl _).o_starts, (rl _).n_starts, r451, (rm _ _).o_tokens, (rm _ _).r_vals, (rm _ _).o_vals, (rm _ _).n_vals, s451]
    exact fin _ _ _ rfl rfl (fun z _ => a4 z)
theorem tokS_case {b : Int → Int} {n s : Int} (h : s < n) : (srt (b s) = 1 ∧ ∃ e, e = run ltr b n (n - s).toNat s ∧ s < e ∧ e ≤ n ∧ (∀ i, s ≤ i → i < e → ltr (b i) = true) ∧ ((8 < e - s ∧ tokS b n s = (1, s, 0, e)) ∨ (e - s ≤ 8 ∧ tokS b n s = (kwk (wv b s (e - s).toNat), s, wv b s (e - s).toNat, e)))) ∨ (srt (b s) = 2 ∧ ∃ e, s < e ∧ e ≤ n ∧ (∀ i, s ≤ i → i < e → dgt (b i) = true) ∧ ((4 < e - s ∧ tokS b n s = (1, s, 0, e)) ∨ (e - s ≤ 4 ∧ tokS b n s = (3, s, dv b s (e - s).toNat, e)))) ∨ (srt (b s) = 3 ∧ tokS b n s = (if sgn (b s) = true then b s else 1, s, b s, s + 1)) ∨ (srt (b s) = 0 ∧ tokS b n s = (1, s, b s, s + 1)) := by
  have sr := srt_rng (b s)
  rcases (show srt (b s) = 0 ∨ srt (b s) = 1 ∨ srt (b s) = 2 ∨ srt (b s) = 3 by omega) with c | c | c | c
  · right; right; right
    refine ⟨c, ?_⟩
    have w := srt_0.mp c
    simp only [wht, decide_eq_true_eq] at w
    unfold tokS
    rw [if_neg (by omega), if_neg (by simp only [ltr, decide_eq_true_eq]; omega), if_neg (by simp only [dgt, decide_eq_true_eq]; omega), if_neg (by simp only [sgn, decide_eq_true_eq]; omega)]
  · left
    have l := srt_1.mp c
    refine ⟨c, _, rfl, ?_⟩
    have r := run_rng (q := ltr) (b := b) (n := n) (n - s).toNat s (by omega)
    have r1 := run_one (q := ltr) (b := b) h l
    refine ⟨by omega, r.2.1, r.2.2, ?_⟩
    unfold tokS
    rw [if_neg (by omega), if_pos l]
    by_cases q : 8 < run ltr b n (n - s).toNat s - s
    · left; rw [if_pos q]; exact ⟨q, rfl⟩
    · right; rw [if_neg q]; exact ⟨by omega, rfl⟩
  · right; left
    have l := srt_2.mp c
    have nl : ¬ ltr (b s) = true := fun z => by have := srt_1.mpr z; omega
    refine ⟨c, run dgt b n (n - s).toNat s, ?_⟩
    have r := run_rng (q := dgt) (b := b) (n := n) (n - s).toNat s (by omega)
    have r1 := run_one (q := dgt) (b := b) h l
    refine ⟨by omega, r.2.1, r.2.2, ?_⟩
    unfold tokS
    rw [if_neg (by omega), if_neg nl, if_pos l]
    by_cases q : 4 < run dgt b n (n - s).toNat s - s
    · left; rw [if_pos q]; exact ⟨q, rfl⟩
    · right; rw [if_neg q]; exact ⟨by omega, rfl⟩
  · right; right; left
    exact ⟨c, sgn_e h c⟩
section
variable {h : HP} {b : Int → Int} {n : Int}
theorem tkn_S (b : Int → Int) (n : Int) (j : Nat) : tkn b n j = tokS b n (tks (tkn b n j)) := by
  rw [tkn_e]
  show tokS b n (lxs b n (pos b n j)) = tokS b n (tks (tokS b n (lxs b n (pos b n j))))
  congr 1
  have : ∀ s : Int, tks (tokS b n s) = s := by
    intro s
    unfold tokS
    repeat (first | rfl | split)
  rw [this]
theorem kindOf_s (S : CS h) (W : KW h) (tb : ∀ i, 0 ≤ i → i < n → -128 ≤ b i ∧ b i < 128) (n0 : 0 ≤ n) (n1 : n ≤ 1200) {j : Nat} (D : Dn h b n j) : fX7_kindOf 99 (hA h 100 j) (hA h 102 j) (hL h 103 j) h = some (i32 (tkk (tkn b n j))) ∧ (tkk (tkn b n j) ≠ 1 → hL h 103 j = i64 (cvt (tkn b n j))) := by
  obtain ⟨d0, e1, e2, e3, e4, e5⟩ := D
  have tr := tkn_rng (b := b) n0 j
  have p0 := (pos_le (b := b) n0 j).1
  have lenp : ¬ (tke (tkn b n j) - tks (tkn b n j)).toNat = 0 := by have := tr.2.2.2.2.2 d0; omega
  have e4 : hL h 103 j = i64 (cvl b (srt (b (tks (tkn b n j)))) (tks (tkn b n j)) (tke (tkn b n j) - tks (tkn b n j)).toNat) := by
    rcases e4 with z | z
    · exact absurd z lenp
    · exact z
  have lt : tks (tkn b n j) < n := by
    have := tr.2.2.2.2.1
    omega
  rw [e1, e3, e4]
  clear e1 e2 e3 e4 e5
  have tS := tkn_S b n j
  generalize hs : tks (tkn b n j) = s at *
  have s0 : 0 ≤ s := by omega
  rw [tS] at d0 tr lenp ⊢
  clear hs tS
  have tbs := tb s s0 lt
  unfold fX7_kindOf jX7_kindOf_101 jX7_kindOf_106
  have t32 : ∀ x : Int, (if true = true then some (i64 x).toInt32 else some (i32 1)) = some (i32 x) := fun x => by rw [if_pos rfl, i64_32]
  have nx : ∀ x : Int, 0 ≤ x → x < 200 → b s ≠ x → ¬ (i64 (b s) = i64 x) := fun x x0 x1 h => by rw [i64_eq (by omega) (by omega) (by omega) (by omega)]; exact h
  rcases tokS_case (b := b) lt with ⟨c, e, _, es, en, al, q⟩ | ⟨c, e, es, en, al, q⟩ | ⟨c, q⟩ | ⟨c, q⟩
  · rw [c, if_pos rfl]
    rcases q with ⟨q1, q⟩ | ⟨q1, q⟩
    · rw [q, if_neg (by rw [i32_le (by simp only [tke]; omega) (by simp only [tke]; omega) (by omega) (by omega)]; simp only [tke]; omega)]
      exact ⟨rfl, fun z => absurd rfl z⟩
    · rw [q]
      have hl : ∀ i, s ≤ i → i < s + ((e - s).toNat : Nat) → ltr (b i) = true := fun i i0 i1 => al i i0 (by omega)
      have ew : (tke (kwk (wv b s (e - s).toNat), s, wv b s (e - s).toNat, e) - s).toNat = (e - s).toNat := rfl
      have lw := lp_lft (b := b) (s := s) (k := (e - s).toNat) (by omega) (by omega) hl (fun i i0 i1 => tb i (by omega) (by omega))
      have nv := wv_NV (b := b) (s := s) (k := (e - s).toNat) (by omega) (by omega) hl
      rw [ew]
      have ev : cvl b 1 s (e - s).toNat = lft (wv b s (e - s).toNat) := by
        unfold cvl; rw [if_pos rfl, show min (e - s).toNat 8 = (e - s).toNat by omega]; exact lw
      have kr := kwk_rng (wv b s (e - s).toNat)
      rw [ev, if_pos (by rw [i32_le (by omega) (by omega) (by omega) (by omega)]; omega), S.o_tokens, gd_tt, cword S W nv, bn_s]
      refine ⟨rfl, fun _ => ?_⟩
      unfold cvt
      rw [if_pos (by simp only [tkk]; omega)]; rfl
  · rw [c, if_neg (by decide), if_pos rfl]
    rcases q with ⟨q1, q⟩ | ⟨q1, q⟩
    · rw [q, if_neg (by rw [i32_le (by simp only [tke]; omega) (by simp only [tke]; omega) (by omega) (by omega)]; simp only [tke]; omega)]
      exact ⟨rfl, fun z => absurd rfl z⟩
    · rw [q]
      have ew : (tke ((3 : Int), s, dv b s (e - s).toNat, e) - s).toNat = (e - s).toNat := rfl
      rw [ew, if_pos (by rw [i32_le (by omega) (by omega) (by omega) (by omega)]; omega)]
      refine ⟨rfl, fun _ => ?_⟩
      unfold cvt cvl
      rw [if_neg (by decide), if_pos rfl, if_neg (by simp only [tkk]; omega), show min (e - s).toNat 4 = (e - s).toNat by omega]; rfl
  · rw [c, q, if_neg (by decide), if_neg (by decide)]
    have ev : ∀ len, cvl b 3 s len = b s := fun len => by unfold cvl; rw [if_neg (by decide), if_neg (by decide)]
    rw [ev]
    have q13 : sgn (b s) = true → 13 < b s := by intro z; simp only [sgn, decide_eq_true_eq] at z; omega
    refine ⟨?_, fun _ => ?_⟩
    · show _ = some (i32 (if sgn (b s) = true then b s else 1))
      by_cases w : sgn (b s) = true
      · rw [if_pos w, t32]
        simp only [sgn, decide_eq_true_eq] at w
        by_cases c1 : b s = 59
        · rw [if_pos (by rw [c1])]
        rw [if_neg (nx _ (by decide) (by decide) c1)]
        by_cases c1 : b s = 123
        · rw [if_pos (by rw [c1])]
        rw [if_neg (nx _ (by decide) (by decide) c1)]
        by_cases c1 : b s = 125
        · rw [if_pos (by rw [c1])]
        rw [if_neg (nx _ (by decide) (by decide) c1)]
        by_cases c1 : b s = 40
        · rw [if_pos (by rw [c1])]
        rw [if_neg (nx _ (by decide) (by decide) c1)]
        by_cases c1 : b s = 41
        · rw [if_pos (by rw [c1])]
        rw [if_neg (nx _ (by decide) (by decide) c1)]
        by_cases c1 : b s = 61
        · rw [if_pos (by rw [c1])]
        rw [if_neg (nx _ (by decide) (by decide) c1)]
        by_cases c1 : b s = 60
        · rw [if_pos (by rw [c1])]
        rw [if_neg (nx _ (by decide) (by decide) c1), if_pos (by rw [show b s = 62 by omega])]
      · rw [if_neg w]
        simp only [sgn, decide_eq_true_eq] at w
        rw [if_neg (nx _ (by decide) (by decide) (by omega)), if_neg (nx _ (by decide) (by decide) (by omega)), if_neg (nx _ (by decide) (by decide) (by omega)), if_neg (nx _ (by decide) (by decide) (by omega)), if_neg (nx _ (by decide) (by decide) (by omega)), if_neg (nx _ (by decide) (by decide) (by omega)), if_neg (nx _ (by decide) (by decide) (by omega)), if_neg (nx _ (by decide) (by decide) (by omega)), if_neg (by decide)]
    · unfold cvt
      rw [if_neg]
      · rfl
      · show ¬ ((if sgn (b s) = true then b s else 1) = 2 ∨ (4 ≤ (if sgn (b s) = true then b s else 1) ∧ (if sgn (b s) = true then b s else 1) ≤ 13))
        by_cases w : sgn (b s) = true
        · rw [if_pos w]; have := q13 w; omega
        · rw [if_neg w]; omega
  · rw [c, q, if_neg (by decide), if_neg (by decide)]
    have ev : ∀ len, cvl b 0 s len = b s := fun len => by unfold cvl; rw [if_neg (by decide), if_neg (by decide)]
    rw [ev]
    have w := srt_0.mp c
    simp only [wht, decide_eq_true_eq] at w
    rw [if_neg (nx _ (by decide) (by decide) (by omega)), if_neg (nx _ (by decide) (by decide) (by omega)), if_neg (nx _ (by decide) (by decide) (by omega)), if_neg (nx _ (by decide) (by decide) (by omega)), if_neg (nx _ (by decide) (by decide) (by omega)), if_neg (nx _ (by decide) (by decide) (by omega)), if_neg (nx _ (by decide) (by decide) (by omega)), if_neg (nx _ (by decide) (by decide) (by omega)), if_neg (by decide)]
    exact ⟨rfl, fun z => absurd rfl z⟩
theorem kindsL (S : CS h) (W : KW h) (tb : ∀ i, 0 ≤ i → i < n → -128 ≤ b i ∧ b i < 128) (n0 : 0 ≤ n) (n1 : n ≤ 1200) {c : Nat} (cn : (c : Int) ≤ n) {K : Nat → HP → Option HP} : ∀ (k m i : Nat) (g : HP), i + k = c → k < m → Co 0 LX h g → hI g 452 99 = i32 c → hI g 453 99 = i32 n → (∀ j, j < i → tkk (tkn b n j) ≠ 0 ∧ hA g 100 j = i32 (tkk (tkn b n j)) ∧ hA g 101 j = i32 (tks (tkn b n j)) ∧ (tkk (tkn b n j) ≠ 1 → hL g 103 j = i64 (cvt (tkn b n j)))) → (∀ j, i ≤ j → j < c → Dn g b n j) → ∃ g2, lX7_read_95 K m 99 (i32 i) g = K 99 g2 ∧ Co 0 LX h g2 ∧ hI g2 452 99 = i32 c ∧ hI g2 453 99 = i32 n ∧ ∀ j, j < c → tkk (tkn b n j) ≠ 0 ∧ hA g2 100 j = i32 (tkk (tkn b n j)) ∧ hA g2 101 j = i32 (tks (tkn b n j)) ∧ (tkk (tkn b n j) ≠ 1 → hL g2 103 j = i64 (cvt (tkn b n j))) := by
  intro k
  induction k with
  | zero =>
    intro m i g e hm q hc hn d1 d2
    obtain ⟨m, rfl⟩ : ∃ j, m = j + 1 := ⟨m - 1, by omega⟩
    have S' := S.sk q.sk
    rw [elX7_read_95]; unfold bX7_read_95
    simp (disch := omega) only [S'.o_tokens, gd_tt, hc, i32_le]
    rw [if_pos (by omega)]
    exact ⟨g, rfl, q, hc, hn, fun j hj => d1 j (by omega)⟩
  | succ k ih =>
    intro m i g e hm q hc hn d1 d2
    obtain ⟨m, rfl⟩ : ∃ j, m = j + 1 := ⟨m - 1, by omega⟩
    have S' := S.sk q.sk
    have W' : KW g := fun i hi => by rw [q.L (Nat.lt_of_le_of_lt (show 104 ≤ 114 by decide) (isO_lt S.o_writer)) (by decide)]; exact W i hi
    have D := d2 i (Nat.le_refl _) (by omega)
    obtain ⟨k1, k2⟩ := kindOf_s S' W' tb n0 n1 D
    rw [elX7_read_95]; unfold bX7_read_95
    rw [S'.o_tokens, gd_tt, hc, if_neg (by rw [i32_le (by omega) (by omega) (by omega) (by omega)]; omega), if_neg (by rw [i32_le (by omega) (by omega) (by omega) (by omega)]; omega)]
    simp (disch := omega) only [S'.r_kinds, S'.o_kinds, S'.n_kinds, S'.r_tsizes, S'.o_tsizes, S'.n_tsizes, S'.r_vals, S'.o_vals, S'.n_vals, oc_s, gd_tt, i32_inb, i32_cn, Int.toNat_natCast, k1, bn_s, lt_e, i32_add]
    rw [show ((i : Int) + 1) = ((i + 1 : Nat) : Int) by omega]
    refine ih m (i + 1) _ (by omega) (by omega) (q.t0 (Co_A (by decide) _ _)) hc hn (fun j hj => ?_) (fun j j0 j1 => ?_)
    · by_cases w : j = i
      · subst w
        refine ⟨D.1, ?_, ?_, ?_⟩
        · rw [rAA, if_pos ⟨rfl, rfl⟩]
        · rw [rAA, if_neg (fun z => absurd z.1 (by decide))]; exact D.2.2.1
        · rw [rLA]; exact k2
      · obtain ⟨a1, a2, a3, a4⟩ := d1 j (by omega)
        refine ⟨a1, ?_, ?_, ?_⟩
        · rw [rAA, if_neg (fun z => w z.2)]; exact a2
        · rw [rAA, if_neg (fun z => absurd z.1 (by decide))]; exact a3
        · rw [rLA]; exact a4
    · have d := d2 j (by omega) j1
      refine ⟨d.1, Ent_mv d.2 ⟨?_, ?_, ?_, rfl⟩⟩
      · rw [rAA, if_neg (by omega)]
      · rw [rAA, if_neg (fun z => absurd z.1 (by decide))]
      · rw [rAA, if_neg (fun z => absurd z.1 (by decide))]
theorem cread (S : CS h) (W : KW h) (tb : TB h 1 b n) (n0 : 0 ≤ n) (n1 : n ≤ 1200) : ∃ g, ∃ c, fX7_read 99 (some 1) (i32 n) h = some g ∧ Co 0 LX h g ∧ CTk g b n c ∧ CTt g b n 0 := by
  have tb' : ∀ i, 0 ≤ i → i < n → -128 ≤ b i ∧ b i < 128 := fun i i0 i1 => (tb i i0 i1).2
  unfold fX7_read
  simp only [S.o_tokens, gd_tt, lt_e]
  have q2 : Co 0 LX h (sI (sI h 452 99 (i32 0)) 453 99 (i32 n)) := (Co_I (by decide) _).t0 (Co_I (by decide) _)
  obtain ⟨g, c, e, q, a1, a2, a3⟩ := readL S tb n0 n1 (K := fun w4 h5 => _) n.toNat FU 0 0 0 _ q2 (by simp [rII]) (by simp [rII]) (Or.inl ⟨⟨fun j hj => by omega, by omega, n0, Int.le_refl _, fun i i0 i1 => by simp only [pos] at i0; omega⟩, Or.inl rfl⟩) (Int.le_refl _) (by omega) (by have : FU = 1000000 := rfl; omega)
  rw [e]; clear e
  obtain ⟨d1, cn, _, d4, d5⟩ := a3
  obtain ⟨g7, e, q7, f1, f2, f3⟩ := kindsL S W tb' n0 n1 cn (K := fun w6 h7 => _) c FU 0 g (by omega) (by have : FU = 1000000 := rfl; omega) q a1 a2 (fun j hj => by omega) (fun j _ hj => d1 j hj)
  rw [show ((0 : Nat) : Int) = 0 from rfl] at e
  rw [e]; clear e
  have S7 := S.sk q7.sk
  have ec : tkk (tkn b n c) = 0 := by
    have r := tkn_rng (b := b) n0 c
    rw [r.2.2.2.2.1]
    have pl := pos_le (b := b) n0 c
    have : lxs b n (pos b n c) = n := lxs_u d4 (Int.le_refl _) d5 (Or.inl rfl)
    rw [tkn_e]
    show tks (tokS b n (lxs b n (pos b n c))) = n
    rw [this]
    exact (tokS_ge (Int.le_refl n)).2.2.1
  have T9 : CTk (sI g7 451 99 (i32 (-1))) b n c := ⟨cn, by rw [rII, if_neg (by decide)]; exact f1, by rw [rII, if_neg (by decide)]; exact f2, f3, ec⟩
  have S9 : CS (sI g7 451 99 (i32 (-1))) := S7.sk (sk_sI rfl)
  obtain ⟨g11, e, q11, t11⟩ := step_s S9 n0 n1 T9 (j := -1) (by decide) (by decide) (by rw [rII, if_pos ⟨rfl, rfl⟩])
  simp only [S7.o_tokens, gd_tt, lt_e, e, bn_s]
  have sz : 99 < hsz (sI g7 451 99 (i32 (-1))) := isO_lt S9.o_tokens
  have sz0 := isO_lt S9.o_kinds
  have sz1 := isO_lt S9.o_starts
  have sz3 := isO_lt S9.o_vals
  refine ⟨g11, c, rfl, (q7.t0 (Co_I (by decide) _)).t0 (q11.w (by decide)), ?_, t11⟩
  obtain ⟨u1, u2, u3, u4, u5⟩ := T9
  refine ⟨u1, ?_, ?_, fun j hj => ?_, u5⟩
  · rw [q11.I sz (by decide) (by decide)]; exact u2
  · rw [q11.I sz (by decide) (by decide)]; exact u3
  · rw [q11.A sz0 (by decide), q11.A sz1 (by decide), q11.L sz3 (by decide)]; exact u4 j hj
end
