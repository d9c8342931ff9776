theorem wb_tb (n : Nat) : (lN n).toBitVec = BitVec.ofNat 64 n := rfl
theorem wb_inj {a b : Int64} (h : a.toBitVec = b.toBitVec) : a = b := Int64.toBitVec_inj.mp h
theorem wb_tn {n : Nat} (h : n < 2 ^ 64) : (lN n).toBitVec.toNat = n := by rw [wb_tb, BitVec.toNat_ofNat, Nat.mod_eq_of_lt h]
theorem wb_of (x : Int64) : ∃ n, n < 2 ^ 64 ∧ x = lN n := ⟨x.toBitVec.toNat, x.toBitVec.isLt, wb_inj (by rw [wb_tb]; simp)⟩
theorem wb_of32 (x : Int32) : ∃ n, n < 2 ^ 32 ∧ x = nI n := ⟨x.toBitVec.toNat, x.toBitVec.isLt, Int32.toBitVec_inj.mp (by show _ = BitVec.ofNat 32 _; simp)⟩
theorem wb_c : ∀ k, k < 64 → ((nI k).toInt64 &&& 63) = lN k := by decide +kernel
theorem wb_cu : ∀ k, k < 64 → ((nI k).toInt64.toUInt64 &&& Int64.toUInt64 63) = UInt64.ofNat k := by decide +kernel
theorem wb_sm : ∀ k, k < 64 → (BitVec.ofNat 64 k).smod 64 = BitVec.ofNat 64 k := by decide +kernel
theorem wb_pw {a b : Nat} (h : a ≤ b) : 2 ^ b = 2 ^ a * 2 ^ (b - a) := by rw [← Nat.pow_add]; congr 1; omega
theorem wb_lt2 {a b : Nat} (h : a < b) : 2 ^ a < 2 ^ b := Nat.pow_lt_pow_right (by decide) h
theorem wb_mod (n : Nat) : lN n = lN (n % 2 ^ 64) := wb_inj (by rw [wb_tb, wb_tb]; apply BitVec.eq_of_toNat_eq; rw [BitVec.toNat_ofNat, BitVec.toNat_ofNat, Nat.mod_mod])
theorem wb_shr {n k : Nat} (hn : n < 2 ^ 64) (hk : k < 64) : ((lN n).toUInt64 >>> ((nI k).toInt64.toUInt64 &&& Int64.toUInt64 63)).toInt64 = lN (n / 2 ^ k) := by
  rw [wb_cu k hk]
  apply wb_inj
  apply BitVec.eq_of_toNat_eq
  show ((lN n).toUInt64 >>> UInt64.ofNat k).toNat = (BitVec.ofNat 64 _).toNat
  have h1 : (UInt64.ofNat k).toNat = k := by
    show (BitVec.ofNat 64 k).toNat = k
    rw [BitVec.toNat_ofNat, Nat.mod_eq_of_lt (by omega)]
  have h2 : (lN n).toUInt64.toNat = n := wb_tn hn
  rw [UInt64.toNat_shiftRight, h1, h2, Nat.mod_eq_of_lt hk, Nat.shiftRight_eq_div_pow, BitVec.toNat_ofNat, Nat.mod_eq_of_lt (Nat.lt_of_le_of_lt (Nat.div_le_self _ _) hn)]
theorem wb_shl (n : Nat) {k : Nat} (hk : k < 64) : lN n <<< ((nI k).toInt64 &&& 63) = lN (n * 2 ^ k) := by
  rw [wb_c k hk]
  apply wb_inj
  rw [Int64.toBitVec_shiftLeft, wb_tb, wb_tb, wb_tb, wb_sm k hk]
  apply BitVec.eq_of_toNat_eq
  rw [BitVec.shiftLeft_eq', BitVec.toNat_shiftLeft, BitVec.toNat_ofNat, BitVec.toNat_ofNat, BitVec.toNat_ofNat, Nat.mod_eq_of_lt (show k < 2 ^ 64 by omega), Nat.shiftLeft_eq, Nat.mul_mod, Nat.mod_mod, ← Nat.mul_mod]
theorem wb_and {a b : Nat} (ha : a < 2 ^ 64) (hb : b < 2 ^ 64) : lN a &&& lN b = lN (a &&& b) := by
  apply wb_inj
  rw [Int64.toBitVec_and, wb_tb, wb_tb, wb_tb]
  apply BitVec.eq_of_toNat_eq
  rw [BitVec.toNat_and, BitVec.toNat_ofNat, BitVec.toNat_ofNat, BitVec.toNat_ofNat, Nat.mod_eq_of_lt ha, Nat.mod_eq_of_lt hb, Nat.mod_eq_of_lt (Nat.and_lt_two_pow _ hb)]
theorem wb_or {a b : Nat} (ha : a < 2 ^ 64) (hb : b < 2 ^ 64) : lN a ||| lN b = lN (a ||| b) := by
  apply wb_inj
  rw [Int64.toBitVec_or, wb_tb, wb_tb, wb_tb]
  apply BitVec.eq_of_toNat_eq
  rw [BitVec.toNat_or, BitVec.toNat_ofNat, BitVec.toNat_ofNat, BitVec.toNat_ofNat, Nat.mod_eq_of_lt ha, Nat.mod_eq_of_lt hb, Nat.mod_eq_of_lt (Nat.or_lt_two_pow ha hb)]
theorem wb_mask {n k : Nat} (hn : n < 2 ^ 64) (hk : k < 64) : lN n &&& lN (2 ^ k - 1) = lN (n % 2 ^ k) := by
  rw [wb_and hn (by have := wb_lt2 hk; omega), Nat.and_two_pow_sub_one_eq_mod]
theorem wb_a1 {n : Nat} (hn : n < 2 ^ 64) : lN n &&& 1 = lN (n % 2) := wb_mask (k := 1) hn (by decide)
theorem wb_bit {n k : Nat} (hn : n < 2 ^ 64) (hk : k < 64) : ((lN n).toUInt64 >>> ((nI k).toInt64.toUInt64 &&& Int64.toUInt64 63)).toInt64 &&& 1 = lN (n / 2 ^ k % 2) := by
  rw [wb_shr hn hk, wb_a1 (Nat.lt_of_le_of_lt (Nat.div_le_self _ _) hn)]
theorem fb_andL (a b : Nat) : lN a &&& lN b = lN (a &&& b) := by
  apply Int64.toBitVec_inj.1
  show BitVec.ofNat 64 a &&& BitVec.ofNat 64 b = BitVec.ofNat 64 (a &&& b)
  apply BitVec.eq_of_getLsbD_eq
  intro i hi
  simp [hi]
theorem fb_orL (a b : Nat) : lN a ||| lN b = lN (a ||| b) := by
  apply Int64.toBitVec_inj.1
  show BitVec.ofNat 64 a ||| BitVec.ofNat 64 b = BitVec.ofNat 64 (a ||| b)
  apply BitVec.eq_of_getLsbD_eq
  intro i hi
  simp [hi]
theorem fb_xorL (a b : Nat) : lN a ^^^ lN b = lN (a ^^^ b) := by
  apply Int64.toBitVec_inj.1
  show BitVec.ofNat 64 a ^^^ BitVec.ofNat 64 b = BitVec.ofNat 64 (a ^^^ b)
  apply BitVec.eq_of_getLsbD_eq
  intro i hi
  simp [hi]
theorem fb_xorI (a b : Nat) : nI a ^^^ nI b = nI (a ^^^ b) := by
  apply Int32.toBitVec_inj.1
  show BitVec.ofNat 32 a ^^^ BitVec.ofNat 32 b = BitVec.ofNat 32 (a ^^^ b)
  apply BitVec.eq_of_getLsbD_eq
  intro i hi
  simp [hi]
theorem fb_maskL (n k : Nat) : lN n &&& lN (2 ^ k - 1) = lN (n % 2 ^ k) := by rw [fb_andL, Nat.and_two_pow_sub_one_eq_mod]
theorem fb_or_sumL {a k : Nat} (b : Nat) (h : a < 2 ^ k) : lN (2 ^ k * b) ||| lN a = lN (2 ^ k * b + a) := by rw [fb_orL, Nat.two_pow_add_eq_or_of_lt h]
theorem fb_lN_inj {a b : Nat} (ha : a < 2 ^ 63) (hb : b < 2 ^ 63) : lN a = lN b ↔ a = b := by
  constructor
  · intro h
    have h1 : (BitVec.ofNat 64 a).toNat = (BitVec.ofNat 64 b).toNat := congrArg (fun x : Int64 => x.toBitVec.toNat) h
    rw [BitVec.toNat_ofNat, BitVec.toNat_ofNat, Nat.mod_eq_of_lt (by omega), Nat.mod_eq_of_lt (by omega)] at h1
    exact h1
  · rintro rfl; rfl
/-! FRAMES OF THE MODEL: l holds the fields of the object 983 and the arrays that may change -/
def Mo (l : List Nat) (h g : HP) : Prop := g.1 = h.1 ∧ htg g = htg h ∧ hln g = hln h ∧ hR g = hR h ∧ hQ g = hQ h ∧ (∀ f x, (x = 983 → f ∉ l) → hI g f x = hI h f x) ∧ (∀ f x, (x = 983 → f ∉ l) → hJ g f x = hJ h f x) ∧ (∀ x, (x < 983 ∨ x ∉ l) → hA g x = hA h x) ∧ ∀ x, (x < 983 ∨ x ∉ l) → hL g x = hL h x
theorem Mo.r {l : List Nat} {h : HP} : Mo l h h := ⟨rfl, rfl, rfl, rfl, rfl, fun _ _ _ => rfl, fun _ _ _ => rfl, fun _ _ => rfl, fun _ _ => rfl⟩
theorem Mo.t {l : List Nat} {h g k : HP} (p : Mo l h g) (q : Mo l g k) : Mo l h k := ⟨q.1.trans p.1, q.2.1.trans p.2.1, q.2.2.1.trans p.2.2.1, q.2.2.2.1.trans p.2.2.2.1, q.2.2.2.2.1.trans p.2.2.2.2.1, fun f x n => (q.2.2.2.2.2.1 f x n).trans (p.2.2.2.2.2.1 f x n), fun f x n => (q.2.2.2.2.2.2.1 f x n).trans (p.2.2.2.2.2.2.1 f x n), fun x n => (q.2.2.2.2.2.2.2.1 x n).trans (p.2.2.2.2.2.2.2.1 x n), fun x n => (q.2.2.2.2.2.2.2.2 x n).trans (p.2.2.2.2.2.2.2.2 x n)⟩
def lsub (l m : List Nat) : Bool := l.all fun x => m.contains x
theorem lsub_m {l m : List Nat} (s : lsub l m = true) {x : Nat} (h : x ∈ l) : x ∈ m := by
  unfold lsub at s
  rw [List.all_eq_true] at s
  have := s x h
  simpa using this
theorem Mo.w {l m : List Nat} {h g : HP} (p : Mo l h g) (s : lsub l m = true) : Mo m h g := ⟨p.1, p.2.1, p.2.2.1, p.2.2.2.1, p.2.2.2.2.1, fun f x n => p.2.2.2.2.2.1 f x (fun e z => n e (lsub_m s z)), fun f x n => p.2.2.2.2.2.2.1 f x (fun e z => n e (lsub_m s z)), fun x n => p.2.2.2.2.2.2.2.1 x (n.imp id fun w z => w (lsub_m s z)), fun x n => p.2.2.2.2.2.2.2.2 x (n.imp id fun w z => w (lsub_m s z))⟩
section
variable {l : List Nat} {h g : HP}
theorem Mo_I {f : Nat} (m : f ∈ l) (v : Int32) : Mo l h (sI h f 983 v) := ⟨rfl, rfl, rfl, rfl, rfl, fun u x n => by rw [rII, if_neg (fun z => n z.2 (by rw [z.1]; exact m))], fun _ _ _ => rfl, fun _ _ => rfl, fun _ _ => rfl⟩
theorem Mo_J {f : Nat} (m : f ∈ l) (v : Int64) : Mo l h (sJ h f 983 v) := ⟨rfl, rfl, rfl, rfl, rfl, fun _ _ _ => rfl, fun u x n => by rw [rJJ, if_neg (fun z => n z.2 (by rw [z.1]; exact m))], fun _ _ => rfl, fun _ _ => rfl⟩
theorem Mo_wA {a : Nat} (m : a ∈ l) (φ : Nat → Int32) (hb : 983 ≤ a := by decide) : Mo l h (wA h a φ) := ⟨rfl, rfl, rfl, rfl, rfl, fun _ _ _ => rfl, fun _ _ _ => rfl, fun x n => wA_A2 h a φ (fun z => n.elim (fun w => by omega) fun w => w (by rw [z]; exact m)), fun _ _ => rfl⟩
theorem Mo_wL {a : Nat} (m : a ∈ l) (φ : Nat → Int64) (hb : 983 ≤ a := by decide) : Mo l h (wL h a φ) := ⟨rfl, rfl, rfl, rfl, rfl, fun _ _ _ => rfl, fun _ _ _ => rfl, fun _ _ => rfl, fun x n => wL_L2 h a φ (fun z => n.elim (fun w => by omega) fun w => w (by rw [z]; exact m))⟩
theorem Mo_A {a : Nat} (m : a ∈ l) (i : Nat) (v : Int32) (hb : 983 ≤ a := by decide) : Mo l h (sA h a i v) := by rw [sA_w]; exact Mo_wA m _ hb
theorem Mo_L {a : Nat} (m : a ∈ l) (i : Nat) (v : Int64) (hb : 983 ≤ a := by decide) : Mo l h (sL h a i v) := by rw [sL_w]; exact Mo_wL m _ hb
theorem Mo.sk (p : Mo l h g) : Sk h g := by
  obtain ⟨p1, p2, p3, p4, p5, -⟩ := p
  refine ⟨?_, fun a ha => ⟨by rw [p2], by rw [p3], fun _ i => by rw [p5], fun f _ _ _ => by rw [p4]⟩⟩
  show h.1.1 ≤ g.1.1
  rw [p1]; exact Nat.le_refl _
theorem Mo.ms (p : Mo l h g) (M : MS h) : MS g := M.sk p.sk
theorem Mo.I (p : Mo l h g) {f : Nat} (n : l.contains f = false) : hI g f 983 = hI h f 983 := p.2.2.2.2.2.1 f 983 fun _ z => by simp at n; exact n z
theorem Mo.J (p : Mo l h g) {f : Nat} (n : l.contains f = false) : hJ g f 983 = hJ h f 983 := p.2.2.2.2.2.2.1 f 983 fun _ z => by simp at n; exact n z
theorem Mo.Ix (p : Mo l h g) {f x : Nat} (n : x ≠ 983) : hI g f x = hI h f x := p.2.2.2.2.2.1 f x fun z => absurd z n
theorem Mo.Jx (p : Mo l h g) {f x : Nat} (n : x ≠ 983) : hJ g f x = hJ h f x := p.2.2.2.2.2.2.1 f x fun z => absurd z n
theorem Mo.A (p : Mo l h g) {x : Nat} (n : l.contains x = false) : hA g x = hA h x := p.2.2.2.2.2.2.2.1 x (Or.inr fun z => by simp at n; exact n z)
theorem Mo.L (p : Mo l h g) {x : Nat} (n : l.contains x = false) : hL g x = hL h x := p.2.2.2.2.2.2.2.2 x (Or.inr fun z => by simp at n; exact n z)
theorem Mo.Ac (p : Mo l h g) {x : Nat} (n : x < 983) : hA g x = hA h x := p.2.2.2.2.2.2.2.1 x (Or.inl n)
theorem Mo.Lc (p : Mo l h g) {x : Nat} (n : x < 983) : hL g x = hL h x := p.2.2.2.2.2.2.2.2 x (Or.inl n)
theorem Mo.R (p : Mo l h g) : hR g = hR h := p.2.2.2.1
theorem Mo.Q (p : Mo l h g) : hQ g = hQ h := p.2.2.2.2.1
theorem Mo_Fm (p : Mo l h g) (n : l.contains 987 = false) (fo : Int) : Fm g fo = Fm h fo := by
  funext k; unfold Fm Wm; rw [p.L n]
theorem Mo_Pt (p : Mo l h g) (n : l.contains 990 = false) : Pt g = Pt h := by
  funext k; unfold Pt; rw [p.A n]
end
/-! TOKENS -/
def wht (c : Int) : Bool := decide (c = 32 ∨ c = 10)
def ltr (c : Int) : Bool := decide (97 ≤ c ∧ c ≤ 122)
def dgt (c : Int) : Bool := decide (48 ≤ c ∧ c ≤ 57)
def sgn (c : Int) : Bool := decide (c = 59 ∨ c = 123 ∨ c = 125 ∨ c = 40 ∨ c = 41 ∨ c = 61 ∨ c = 60 ∨ c = 62)
def run (q : Int → Bool) (b : Int → Int) (n : Int) : Nat → Int → Int
  | 0, p => p
  | k + 1, p => if p < n ∧ q (b p) = true then run q b n k (p + 1) else p
def wv (b : Int → Int) (s : Int) : Nat → Int
  | 0 => 0
  | k + 1 => 32 * wv b s k + b (s + k) - 96
def dv (b : Int → Int) (s : Int) : Nat → Int
  | 0 => 0
  | k + 1 => 10 * dv b s k + b (s + k) - 48
/-- the keyword's token; 2: a name -/
def kwk (w : Int) : Int :=
  if w = 212557 then 4 else if w = 7945904 then 5 else if w = 294 then 6 else if w = 24416904 then 7 else if w = 492210354 then 8 else if w = 109552741 then 9 else if w = 26398159 then 10 else if w = 498 then 11 else if w = 1476 then 12 else if w = 14836 then 13 else 2
abbrev TK : Type := Int × Int × Int × Int
def tkk (t : TK) : Int := t.1
def tks (t : TK) : Int := t.2.1
def tkv (t : TK) : Int := t.2.2.1
def tke (t : TK) : Int := t.2.2.2
def lxs (b : Int → Int) (n p : Int) : Int := run wht b n (n - p).toNat p
def tokS (b : Int → Int) (n s : Int) : TK :=
  if n ≤ s then (0, s, 0, s)
  else if ltr (b s) = true then
    (if 8 < run ltr b n (n - s).toNat s - s then (1, s, 0, run ltr b n (n - s).toNat s)
     else (kwk (wv b s (run ltr b n (n - s).toNat s - s).toNat), s, wv b s (run ltr b n (n - s).toNat s - s).toNat, run ltr b n (n - s).toNat s))
  else if dgt (b s) = true then
    (if 4 < run dgt b n (n - s).toNat s - s then (1, s, 0, run dgt b n (n - s).toNat s)
     else (3, s, dv b s (run dgt b n (n - s).toNat s - s).toNat, run dgt b n (n - s).toNat s))
  else if sgn (b s) = true then (b s, s, b s, s + 1)
  else (1, s, b s, s + 1)
def tok (b : Int → Int) (n p : Int) : TK := tokS b n (lxs b n p)
def tkn (b : Int → Int) (n : Int) : Nat → TK
  | 0 => tok b n 0
  | j + 1 => tok b n (tke (tkn b n j))
theorem run_rng {q : Int → Bool} {b : Int → Int} {n : Int} : ∀ (k : Nat) (p : Int), p ≤ n → p ≤ run q b n k p ∧ run q b n k p ≤ n ∧ (∀ i, p ≤ i → i < run q b n k p → q (b i) = true) := by
  intro k
  induction k with
  | zero => intro p hp; exact ⟨Int.le_refl _, hp, fun i a b => by simp only [run] at b; omega⟩
  | succ k ih =>
    intro p hp
    simp only [run]
    by_cases c : p < n ∧ q (b p) = true
    · rw [if_pos c]
      obtain ⟨a1, a2, a3⟩ := ih (p + 1) (by omega)
      refine ⟨by omega, a2, fun i i0 i1 => ?_⟩
      by_cases e : i = p
      · rw [e]; exact c.2
      · exact a3 i (by omega) i1
    · rw [if_neg c]; exact ⟨Int.le_refl _, hp, fun i a b => by omega⟩
theorem run_end {q : Int → Bool} {b : Int → Int} {n : Int} : ∀ (k : Nat) (p : Int), p ≤ n → n ≤ p + k → run q b n k p = n ∨ q (b (run q b n k p)) = false := by
  intro k
  induction k with
  | zero => intro p hp hk; left; simp only [run]; omega
  | succ k ih =>
    intro p hp hk
    simp only [run]
    by_cases c : p < n ∧ q (b p) = true
    · rw [if_pos c]; exact ih (p + 1) (by omega) (by omega)
    · rw [if_neg c]
      by_cases e : p = n
      · exact Or.inl e
      · right
        cases h : q (b p) with
        | false => rfl
        | true => exact absurd ⟨by omega, h⟩ c
/-- it runs further than its start where the start is of the kind -/
theorem run_one {q : Int → Bool} {b : Int → Int} {n p : Int} (hp : p < n) (h : q (b p) = true) : p + 1 ≤ run q b n (n - p).toNat p := by
  obtain ⟨k, hk⟩ : ∃ k, (n - p).toNat = k + 1 := ⟨(n - p).toNat - 1, by omega⟩
  rw [hk]; simp only [run]; rw [if_pos ⟨hp, h⟩]
  exact (run_rng k (p + 1) (by omega)).1
theorem run_u {q : Int → Bool} {b : Int → Int} {n : Int} : ∀ (k : Nat) (p e : Int), p ≤ e → e ≤ n → e ≤ p + k → (∀ i, p ≤ i → i < e → q (b i) = true) → (e = n ∨ q (b e) = false) → run q b n k p = e := by
  intro k
  induction k with
  | zero => intro p e a1 a2 a3 _ _; simp only [run]; omega
  | succ k ih =>
    intro p e a1 a2 a3 a4 a5
    simp only [run]
    by_cases c : p = e
    · subst c
      rw [if_neg]
      rintro ⟨c1, c2⟩
      rcases a5 with a5 | a5
      · omega
      · rw [a5] at c2; cases c2
    · rw [if_pos ⟨by omega, a4 p (Int.le_refl _) (by omega)⟩]
      exact ih (p + 1) e (by omega) a2 (by omega) (fun i i0 i1 => a4 i (by omega) i1) a5
/-! THE MODEL'S TOKENS -/
def TB (h : HP) (a : Nat) (b : Int → Int) (n : Int) : Prop := ∀ i, 0 ≤ i → i < n → hA h a i.toNat = i32 (b i) ∧ -128 ≤ b i ∧ b i < 128
def mkk (k : Int) : Int := if k = 0 then 0 else if k = 1 then 5 else if k = 2 then 1 else if k = 3 then 3 else if k ≤ 13 then 2 else 4
/-- the model stands at a token -/
def MT (h : HP) (t : TK) : Prop := hI h 716 983 = i32 (tke t) ∧ hI h 717 983 = i32 (tks t) ∧ hI h 718 983 = i32 (mkk (tkk t)) ∧ ((tkk t = 3 ∨ 13 < tkk t) → hI h 719 983 = i32 (tkv t)) ∧ ((tkk t = 2 ∨ (4 ≤ tkk t ∧ tkk t ≤ 13)) → hJ h 720 983 = i64 (tkv t))
theorem isKeyword_s {h : HP} {w : Int} (w0 : 0 ≤ w) (w1 : w < 9223372036854775808) : fX11_isKeyword (i64 w) h = some (decide (kwk w ≠ 2)) := by
  unfold fX11_isKeyword kwk
  simp (disch := omega) only [i64_eq]
  by_cases c1 : w = 212557
  · simp [c1]
  by_cases c2 : w = 7945904
  · simp [c2]
  by_cases c3 : w = 294
  · simp [c3]
  by_cases c4 : w = 24416904
  · simp [c4]
  by_cases c5 : w = 492210354
  · simp [c5]
  by_cases c6 : w = 109552741
  · simp [c6]
  by_cases c7 : w = 26398159
  · simp [c7]
  by_cases c8 : w = 498
  · simp [c8]
  by_cases c9 : w = 1476
  · simp [c9]
  by_cases c10 : w = 14836
  · simp [c10]
  simp [c1, c2, c3, c4, c5, c6, c7, c8, c9, c10]
theorem kwk_rng (w : Int) : kwk w = 2 ∨ (4 ≤ kwk w ∧ kwk w ≤ 13) := by
  unfold kwk
  repeat (first | (split; · right; omega) | (left; rfl))
theorem isSign_s {h : HP} {c : Int} (w0 : -128 ≤ c) (w1 : c < 128) : fX11_isSign (i32 c) h = some (sgn c) := by
  unfold fX11_isSign sgn
  simp (disch := omega) only [i32_eq]
  by_cases c1 : c = 59
  · simp [c1]
  by_cases c2 : c = 123
  · simp [c2]
  by_cases c3 : c = 125
  · simp [c3]
  by_cases c4 : c = 40
  · simp [c4]
  by_cases c5 : c = 41
  · simp [c5]
  by_cases c6 : c = 61
  · simp [c6]
  by_cases c7 : c = 60
  · simp [c7]
  by_cases c8 : c = 62
  · simp [c8]
  simp [c1, c2, c3, c4, c5, c6, c7, c8]
section
variable {h : HP} {b : Int → Int} {n : Int}
theorem TB.mo {a : Nat} {l : List Nat} {g : HP} (t : TB h a b n) (p : Mo l h g) (c : l.contains a = false) : TB g a b n := fun i i0 i1 => by rw [p.A c]; exact t i i0 i1
theorem isAt_s (M : MS h) (hn : hI h 705 983 = i32 n) (tb : TB h 984 b n) (n0 : 0 ≤ n) (n1 : n ≤ 1200) {p x y : Int} (hp : hI h 716 983 = i32 p) (p0 : 0 ≤ p) (p1 : p ≤ n) (x0 : -128 ≤ x) (x1 : x < 128) (y0 : -128 ≤ y) (y1 : y < 128) : fX11_isAt 983 (i32 x) (i32 y) h = some (decide (p < n ∧ x ≤ b p ∧ b p ≤ y)) := by
  unfold fX11_isAt
  simp (disch := omega) only [M.o, gd_tt, hn, hp, i32_le]
  by_cases c : n ≤ p
  · rw [if_pos c]; simp; omega
  · rw [if_neg c]
    obtain ⟨e, e0, e1⟩ := tb p p0 (by omega)
    simp (disch := omega) only [M.r_tape, M.o_tape, M.n_tape, gd_tt, oc_s, i32_inb, i32_cn, e, i32_lt]
    by_cases d : b p < x
    · rw [if_pos d]; simp; omega
    · rw [if_neg d]
      by_cases d2 : y < b p
      · rw [if_pos d2]; simp; omega
      · rw [if_neg d2]; simp; omega
theorem next0_s (M : MS h) (hn : hI h 705 983 = i32 n) (tb : TB h 984 b n) (n0 : 0 ≤ n) (n1 : n ≤ 1200) {K : Nat → HP → Option HP} : ∀ (k m : Nat) (p : Int) (g : HP), Mo [716] h g → hI g 716 983 = i32 p → 0 ≤ p → p ≤ n → n ≤ p + k → k < m → ∃ g2, lX11_next_0 K m 983 g = K 983 g2 ∧ Mo [716] h g2 ∧ hI g2 716 983 = i32 (run wht b n k p) := by
  intro k
  induction k with
  | zero =>
    intro m p g q hp p0 p1 pk hm
    obtain ⟨m, rfl⟩ : ∃ j, m = j + 1 := ⟨m - 1, by omega⟩
    rw [elX11_next_0]; unfold bX11_next_0
    simp (disch := omega) only [(q.ms M).o, gd_tt, q.I (f := 705) rfl, hn, hp, i32_le]
    rw [if_pos (by omega)]
    exact ⟨g, rfl, q, hp⟩
  | succ k ih =>
    intro m p g q hp p0 p1 pk hm
    obtain ⟨m, rfl⟩ : ∃ j, m = j + 1 := ⟨m - 1, by omega⟩
    have M' := q.ms M
    rw [elX11_next_0]; unfold bX11_next_0 jX11_next_39
    simp (disch := omega) only [M'.o, gd_tt, q.I (f := 705) rfl, hn, hp, i32_le]
    by_cases c : n ≤ p
    · rw [if_pos c]
      refine ⟨g, rfl, q, ?_⟩
      simp only [run]; rw [if_neg (by omega)]; exact hp
    · rw [if_neg c]
      obtain ⟨e, e0, e1⟩ := tb p p0 (by omega)
      simp (disch := omega) only [M'.r_tape, M'.o_tape, M'.n_tape, gd_tt, oc_s, i32_inb, i32_cn, q.A (x := 984) rfl, e, i32_eq, lt_e, i32_add]
      have go := ih m (p + 1) (sI g 716 983 (i32 (p + 1))) (q.t (Mo_I (by decide) _)) (by rw [rII, if_pos ⟨rfl, rfl⟩]) (by omega) (by omega) (by omega) (by omega)
      simp only [run]
      by_cases d : b p = 32
      · rw [if_pos d, if_pos ⟨by omega, by simp [wht, d]⟩]; exact go
      · rw [if_neg d]
        by_cases d2 : b p = 10
        · rw [if_pos d2, if_pos ⟨by omega, by simp [wht, d2]⟩]; exact go
        · rw [if_neg d2, if_neg (by simp [wht, d, d2])]
          exact ⟨g, rfl, q, hp⟩
theorem wv_rng (tb : ∀ i, 0 ≤ i → i < n → -128 ≤ b i ∧ b i < 128) {s : Int} : ∀ k : Nat, (∀ i, s ≤ i → i < s + k → ltr (b i) = true) → k ≤ 8 → 0 ≤ wv b s k ∧ wv b s k < 32 ^ k := by
  intro k
  induction k with
  | zero => intro _ _; exact ⟨Int.le_refl _, by simp only [wv, dv, Int.pow_zero]; decide⟩
  | succ k ih =>
    intro hl hk
    obtain ⟨a1, a2⟩ := ih (fun i i0 i1 => hl i i0 (by omega)) (by omega)
    have l := hl (s + k) (by omega) (by omega)
    simp only [ltr, decide_eq_true_eq] at l
    simp only [wv]
    have e : (32 : Int) ^ (k + 1) = 32 * 32 ^ k := by rw [Int.pow_succ]; omega
    omega
theorem p32_le {k : Nat} (h : k ≤ 8) : (32 : Int) ^ k ≤ 1099511627776 := by
  rcases (show k = 0 ∨ k = 1 ∨ k = 2 ∨ k = 3 ∨ k = 4 ∨ k = 5 ∨ k = 6 ∨ k = 7 ∨ k = 8 by omega) with rfl | rfl | rfl | rfl | rfl | rfl | rfl | rfl | rfl <;> decide
theorem dv_rng {s : Int} : ∀ k : Nat, (∀ i, s ≤ i → i < s + k → dgt (b i) = true) → k ≤ 4 → 0 ≤ dv b s k ∧ dv b s k < 10 ^ k := by
  intro k
  induction k with
  | zero => intro _ _; exact ⟨Int.le_refl _, by simp only [wv, dv, Int.pow_zero]; decide⟩
  | succ k ih =>
    intro hl hk
    obtain ⟨a1, a2⟩ := ih (fun i i0 i1 => hl i i0 (by omega)) (by omega)
    have l := hl (s + k) (by omega) (by omega)
    simp only [dgt, decide_eq_true_eq] at l
    simp only [dv]
    have e : (10 : Int) ^ (k + 1) = 10 * 10 ^ k := by rw [Int.pow_succ]; omega
    omega
theorem p10_le {k : Nat} (h : k ≤ 4) : (10 : Int) ^ k ≤ 10000 := by
  rcases (show k = 0 ∨ k = 1 ∨ k = 2 ∨ k = 3 ∨ k = 4 by omega) with rfl | rfl | rfl | rfl | rfl <;> decide
theorem next100_s (M : MS h) (hn : hI h 705 983 = i32 n) (tb : TB h 984 b n) (n0 : 0 ≤ n) (n1 : n ≤ 1200) {s : Int} (hs : hI h 717 983 = i32 s) (s0 : 0 ≤ s) {K : Nat → HP → Option HP} : ∀ (k m c : Nat) (g : HP), Mo [716, 720] h g → hI g 716 983 = i32 (s + c) → (c ≤ 8 → hJ g 720 983 = i64 (wv b s c)) → s + c ≤ n → n ≤ s + c + k → k < m → (∀ i, s ≤ i → i < s + c → ltr (b i) = true) → ∃ g2, lX11_next_100 K m 983 g = K 983 g2 ∧ Mo [716, 720] h g2 ∧ hI g2 716 983 = i32 (run ltr b n k (s + c)) ∧ (run ltr b n k (s + c) - s ≤ 8 → hJ g2 720 983 = i64 (wv b s (run ltr b n k (s + c) - s).toNat)) ∧ ∀ i, s ≤ i → i < run ltr b n k (s + c) → ltr (b i) = true := by
  intro k
  induction k with
  | zero =>
    intro m c g q hp hw p1 pk hm al
    obtain ⟨m, rfl⟩ : ∃ j, m = j + 1 := ⟨m - 1, by omega⟩
    have M' := q.ms M
    rw [elX11_next_100]; unfold bX11_next_100
    simp only [M'.o, gd_tt, isAt_s M' ((q.I rfl).trans hn) (tb.mo q rfl) n0 n1 hp (by omega) p1 (show (-128 : Int) ≤ 97 by decide) (by decide) (show (-128 : Int) ≤ 122 by decide) (by decide), bn_s]
    rw [if_neg (by simp; omega)]
    simp only [run]
    exact ⟨g, rfl, q, hp, fun z => by rw [show (s + (c : Int) - s).toNat = c by omega]; exact hw (by omega), al⟩
  | succ k ih =>
    intro m c g q hp hw p1 pk hm al
    obtain ⟨m, rfl⟩ : ∃ j, m = j + 1 := ⟨m - 1, by omega⟩
    have M' := q.ms M
    rw [elX11_next_100]; unfold bX11_next_100 jX11_next_153
    simp only [M'.o, gd_tt, isAt_s M' ((q.I rfl).trans hn) (tb.mo q rfl) n0 n1 hp (by omega) p1 (show (-128 : Int) ≤ 97 by decide) (by decide) (show (-128 : Int) ≤ 122 by decide) (by decide), bn_s]
    simp only [run]
    by_cases c1 : s + c < n ∧ ltr (b (s + c)) = true
    · obtain ⟨e, e0, e1⟩ := tb (s + c) (by omega) c1.1
      have l := c1.2
      simp only [ltr, decide_eq_true_eq] at l
      rw [if_pos (by simp; omega), if_pos c1]
      simp (disch := omega) only [hp, q.I (f := 717) rfl, hs, i32_sub, i32_le, i32_inb, i32_cn, M'.r_tape, M'.o_tape, M'.n_tape, gd_tt, oc_s, q.A (x := 984) rfl, e, i32_64, lt_e, roJ, M'.o, rIJ, i32_add]
      have al' : ∀ i, s ≤ i → i < s + (c + 1 : Nat) → ltr (b i) = true := fun i i0 i1 => by
        by_cases w : i < s + c
        · exact al i i0 w
        · rw [show i = s + c by omega]; exact c1.2
      have go : ∀ v : Int64, (c + 1 ≤ 8 → v = i64 (wv b s (c + 1))) → _ := fun v hv => ih m (c + 1) (sI (sJ g 720 983 v) 716 983 (i32 (s + c + 1))) ((q.t (Mo_J (by decide) _)).t (Mo_I (by decide) _)) (by rw [rII, if_pos ⟨rfl, rfl⟩]; congr 1; omega) (fun z => by rw [rJI, rJJ, if_pos ⟨rfl, rfl⟩]; exact hv z) (by omega) (by omega) (by omega) al'
      rw [show s + ((c + 1 : Nat) : Int) = s + c + 1 by omega] at go
      by_cases d : 8 ≤ s + c - s
      · rw [if_pos d]; exact go _ (fun z => by omega)
      · rw [if_neg d]
        refine go _ (fun z => ?_)
        rw [hw (by omega), i64_mul, i64_add, i64_sub]
        simp only [wv]
    · rw [if_neg (by simp only [ltr, decide_eq_true_eq] at c1 ⊢; omega), if_neg c1]
      exact ⟨g, rfl, q, hp, fun z => by rw [show (s + (c : Int) - s).toNat = c by omega]; exact hw (by omega), al⟩
theorem next220_s (M : MS h) (hn : hI h 705 983 = i32 n) (tb : TB h 984 b n) (n0 : 0 ≤ n) (n1 : n ≤ 1200) {s : Int} (hs : hI h 717 983 = i32 s) (s0 : 0 ≤ s) {K : Nat → HP → Option HP} : ∀ (k m c : Nat) (g : HP), Mo [716, 719] h g → hI g 716 983 = i32 (s + c) → (c ≤ 4 → hI g 719 983 = i32 (dv b s c)) → s + c ≤ n → n ≤ s + c + k → k < m → (∀ i, s ≤ i → i < s + c → dgt (b i) = true) → ∃ g2, lX11_next_220 K m 983 g = K 983 g2 ∧ Mo [716, 719] h g2 ∧ hI g2 716 983 = i32 (run dgt b n k (s + c)) ∧ (run dgt b n k (s + c) - s ≤ 4 → hI g2 719 983 = i32 (dv b s (run dgt b n k (s + c) - s).toNat)) ∧ ∀ i, s ≤ i → i < run dgt b n k (s + c) → dgt (b i) = true := by
  intro k
  induction k with
  | zero =>
    intro m c g q hp hw p1 pk hm al
    obtain ⟨m, rfl⟩ : ∃ j, m = j + 1 := ⟨m - 1, by omega⟩
    have M' := q.ms M
    rw [elX11_next_220]; unfold bX11_next_220
    simp only [M'.o, gd_tt, isAt_s M' ((q.I rfl).trans hn) (tb.mo q rfl) n0 n1 hp (by omega) p1 (show (-128 : Int) ≤ 48 by decide) (by decide) (show (-128 : Int) ≤ 57 by decide) (by decide), bn_s]
    rw [if_neg (by simp; omega)]
    simp only [run]
    exact ⟨g, rfl, q, hp, fun z => by rw [show (s + (c : Int) - s).toNat = c by omega]; exact hw (by omega), al⟩
  | succ k ih =>
    intro m c g q hp hw p1 pk hm al
    obtain ⟨m, rfl⟩ : ∃ j, m = j + 1 := ⟨m - 1, by omega⟩
    have M' := q.ms M
    rw [elX11_next_220]; unfold bX11_next_220 jX11_next_272
    simp only [M'.o, gd_tt, isAt_s M' ((q.I rfl).trans hn) (tb.mo q rfl) n0 n1 hp (by omega) p1 (show (-128 : Int) ≤ 48 by decide) (by decide) (show (-128 : Int) ≤ 57 by decide) (by decide), bn_s]
    simp only [run]
    by_cases c1 : s + c < n ∧ dgt (b (s + c)) = true
    · obtain ⟨e, e0, e1⟩ := tb (s + c) (by omega) c1.1
      have l := c1.2
      simp only [dgt, decide_eq_true_eq] at l
      rw [if_pos (by simp; omega), if_pos c1]
      simp (disch := omega) only [hp, q.I (f := 717) rfl, hs, i32_sub, i32_le, i32_inb, i32_cn, M'.r_tape, M'.o_tape, M'.n_tape, gd_tt, oc_s, q.A (x := 984) rfl, e, lt_e, roI, M'.o]
      have al' : ∀ i, s ≤ i → i < s + (c + 1 : Nat) → dgt (b i) = true := fun i i0 i1 => by
        by_cases w : i < s + c
        · exact al i i0 w
        · rw [show i = s + c by omega]; exact c1.2
      have go : ∀ v : Int32, (c + 1 ≤ 4 → v = i32 (dv b s (c + 1))) → ∃ g2, lX11_next_220 K m 983 (sI (sI g 719 983 v) 716 983 (hI (sI g 719 983 v) 716 983 + i32 1)) = K 983 g2 ∧ _ := fun v hv => ih m (c + 1) (sI (sI g 719 983 v) 716 983 (hI (sI g 719 983 v) 716 983 + i32 1)) ((q.t (Mo_I (by decide) _)).t (Mo_I (by decide) _)) (by rw [rII, if_pos ⟨rfl, rfl⟩, rII, if_neg (by decide), hp, i32_add]; congr 1; omega) (fun z => by rw [rII, if_neg (by decide), rII, if_pos ⟨rfl, rfl⟩]; exact hv z) (by omega) (by omega) (by omega) al'
      rw [show s + ((c + 1 : Nat) : Int) = s + c + 1 by omega] at go
      by_cases d : 4 ≤ s + c - s
      · rw [if_pos d]; exact go _ (fun z => by omega)
      · rw [if_neg d]
        refine go _ (fun z => ?_)
        rw [hw (by omega), i32_mul, i32_add, i32_sub]
        simp only [dv]
    · rw [if_neg (by simp only [dgt, decide_eq_true_eq] at c1 ⊢; omega), if_neg c1]
      exact ⟨g, rfl, q, hp, fun z => by rw [show (s + (c : Int) - s).toNat = c by omega]; exact hw (by omega), al⟩
end
theorem tokS_ge {b : Int → Int} {n s : Int} (h : s ≤ n) : s ≤ tke (tokS b n s) ∧ tke (tokS b n s) ≤ n ∧ tks (tokS b n s) = s ∧ (tkk (tokS b n s) = 0 ↔ s = n) ∧ (s < n → s + 1 ≤ tke (tokS b n s)) := by
  unfold tokS
  by_cases c1 : n ≤ s
  · rw [if_pos c1]; refine ⟨?_, ?_, ?_, ?_, ?_⟩ <;> simp only [tke, tks, tkk, true_iff, false_iff] <;> omega
  rw [if_neg c1]
  by_cases c2 : ltr (b s) = true
  · rw [if_pos c2]
    have r := run_rng (q := ltr) (b := b) (n - s).toNat s h
    have r1 := run_one (q := ltr) (b := b) (show s < n by omega) c2
    by_cases c3 : 8 < run ltr b n (n - s).toNat s - s
    · rw [if_pos c3]; refine ⟨?_, ?_, ?_, ?_, ?_⟩ <;> simp only [tke, tks, tkk, true_iff, false_iff] <;> omega
    · rw [if_neg c3]
      have kr := kwk_rng (wv b s (run ltr b n (n - s).toNat s - s).toNat)
      refine ⟨?_, ?_, ?_, ?_, ?_⟩ <;> simp only [tke, tks, tkk, true_iff, false_iff] <;> omega
  rw [if_neg c2]
  by_cases c3 : dgt (b s) = true
  · rw [if_pos c3]
    have r := run_rng (q := dgt) (b := b) (n - s).toNat s h
    have r1 := run_one (q := dgt) (b := b) (show s < n by omega) c3
    by_cases c4 : 4 < run dgt b n (n - s).toNat s - s
    · rw [if_pos c4]; refine ⟨?_, ?_, ?_, ?_, ?_⟩ <;> simp only [tke, tks, tkk, true_iff, false_iff] <;> omega
    · rw [if_neg c4]; refine ⟨?_, ?_, ?_, ?_, ?_⟩ <;> simp only [tke, tks, tkk, true_iff, false_iff] <;> omega
  rw [if_neg c3]
  by_cases c4 : sgn (b s) = true
  · rw [if_pos c4]
    simp only [sgn, decide_eq_true_eq] at c4
    refine ⟨?_, ?_, ?_, ?_, ?_⟩ <;> simp only [tke, tks, tkk, true_iff, false_iff] <;> omega
  · rw [if_neg c4]; refine ⟨?_, ?_, ?_, ?_, ?_⟩ <;> simp only [tke, tks, tkk, true_iff, false_iff] <;> omega
section
variable {h : HP} {b : Int → Int} {n : Int}
theorem next_s (M : MS h) (hn : hI h 705 983 = i32 n) (tb : TB h 984 b n) (n0 : 0 ≤ n) (n1 : n ≤ 1200) {p : Int} (hp : hI h 716 983 = i32 p) (p0 : 0 ≤ p) (p1 : p ≤ n) : ∃ g, fX11_next 983 h = some g ∧ Mo [716, 717, 718, 719, 720] h g ∧ MT g (tok b n p) := by
  have tb' : ∀ i, 0 ≤ i → i < n → -128 ≤ b i ∧ b i < 128 := fun i i0 i1 => (tb i i0 i1).2
  unfold fX11_next
  obtain ⟨g1, e1, q1, w1⟩ := next0_s M hn tb n0 n1 (K := fun w1 h2 => _) (n - p).toNat FU p h Mo.r hp p0 p1 (by omega) (by have : FU = 1000000 := rfl; omega)
  rw [e1]; clear e1
  have sr := run_rng (q := wht) (b := b) (n - p).toNat p p1
  show ∃ g, _ ∧ _ ∧ MT g (tokS b n (lxs b n p))
  have es : lxs b n p = run wht b n (n - p).toNat p := rfl
  generalize hs : run wht b n (n - p).toNat p = s at *
  rw [es]; clear es hs
  have q1' : Mo [716, 717, 718, 719, 720] h g1 := q1.w (by decide)
  have M1 := q1.ms M
  obtain ⟨g6, e6⟩ : ∃ g6, g6 = sJ (sI (sI g1 717 983 (hI g1 716 983)) 719 983 (i32 0)) 720 983 (i64 0) := ⟨_, rfl⟩
  have q6 : Mo [716, 717, 718, 719, 720] h g6 := by
    rw [e6]; exact ((q1'.t (Mo_I (by decide) _)).t (Mo_I (by decide) _)).t (Mo_J (by decide) _)
  have M6 := q6.ms M
  have f716 : hI g6 716 983 = i32 s := by rw [e6, rIJ, rII, if_neg (by decide), rII, if_neg (by decide)]; exact w1
  have f717 : hI g6 717 983 = i32 s := by rw [e6, rIJ, rII, if_neg (by decide), rII, if_pos ⟨rfl, rfl⟩]; exact w1
  have f719 : hI g6 719 983 = i32 0 := by rw [e6, rIJ, rII, if_pos ⟨rfl, rfl⟩]
  have f720 : hJ g6 720 983 = i64 0 := by rw [e6, rJJ, if_pos ⟨rfl, rfl⟩]
  have f705 : hI g6 705 983 = i32 n := (q6.I rfl).trans hn
  have tb6 := tb.mo q6 rfl
  simp only [M1.o, gd_tt, lt_e]
  rw [← e6]
  simp (disch := omega) only [f716, f705, i32_eq]
  have fin : ∀ (g7 : HP) (k v e : Int), Mo [716, 717, 718, 719, 720] h g7 → hI g7 716 983 = i32 e → hI g7 717 983 = i32 s → (∀ x : Int32, (k = 3 ∨ 13 < k) → hI g7 719 983 = i32 v) → (∀ x : Int32, (k = 2 ∨ (4 ≤ k ∧ k ≤ 13)) → hJ g7 720 983 = i64 v) → Mo [716, 717, 718, 719, 720] h (sI g7 718 983 (i32 (mkk k))) ∧ MT (sI g7 718 983 (i32 (mkk k))) (k, s, v, e) := by
    intro g7 k v e q7 a1 a2 a3 a4
    refine ⟨q7.t (Mo_I (by decide) _), ?_, ?_, ?_, ?_, ?_⟩
    · rw [rII, if_neg (by decide)]; exact a1
    · rw [rII, if_neg (by decide)]; exact a2
    · rw [rII, if_pos ⟨rfl, rfl⟩]; rfl
    · intro z; rw [rII, if_neg (by decide)]; exact a3 0 z
    · intro z; rw [rJI]; exact a4 0 z
  unfold tokS
  by_cases c1 : s = n
  · rw [if_pos c1, if_pos (by omega)]
    obtain ⟨r1, r2⟩ := fin g6 0 0 s q6 f716 f717 (fun _ z => by omega) (fun _ z => by omega)
    exact ⟨_, rfl, r1, r2⟩
  rw [if_neg c1, if_neg (by omega)]
  simp only [isAt_s M6 f705 tb6 n0 n1 f716 (show 0 ≤ s by omega) (by omega) (show (-128 : Int) ≤ 97 by decide) (by decide) (show (-128 : Int) ≤ 122 by decide) (by decide), isAt_s M6 f705 tb6 n0 n1 f716 (show 0 ≤ s by omega) (by omega) (show (-128 : Int) ≤ 48 by decide) (by decide) (show (-128 : Int) ≤ 57 by decide) (by decide), bn_s]
  by_cases c2 : ltr (b s) = true
  · rw [if_pos (by simp only [ltr, decide_eq_true_eq] at c2 ⊢; omega), if_pos c2]
    obtain ⟨g8, e8, q8, a1, a2, a3⟩ := next100_s M6 f705 tb6 n0 n1 f717 (show 0 ≤ s by omega) (K := fun w1 h2 => _) (n - s).toNat FU 0 g6 Mo.r (by rw [f716]; simp) (fun _ => f720) (by omega) (by omega) (by have : FU = 1000000 := rfl; omega) (fun i i0 i1 => by omega)
    rw [e8]; clear e8
    rw [show s + ((0 : Nat) : Int) = s by omega] at a1 a2 a3
    have r := run_rng (q := ltr) (b := b) (n := n) (n - s).toNat s (by omega)
    generalize run ltr b n (n - s).toNat s = e at *
    have M8 := q8.ms M6
    have q8' : Mo [716, 717, 718, 719, 720] h g8 := q6.t (q8.w (by decide))
    have b717 : hI g8 717 983 = i32 s := (q8.I rfl).trans f717
    unfold jX11_next_203
    simp (disch := omega) only [M8.o, gd_tt, a1, b717, i32_sub, i32_le, lt_e]
    by_cases c3 : 8 < e - s
    · rw [if_neg (by omega), if_pos c3]
      obtain ⟨r1, r2⟩ := fin g8 1 0 e q8' a1 b717 (fun _ z => by omega) (fun _ z => by omega)
      exact ⟨_, rfl, r1, r2⟩
    · rw [if_pos (by omega), if_neg c3]
      have ww := wv_rng tb' (e - s).toNat (fun i i0 i1 => a3 i i0 (by omega)) (by omega)
      have w2 := p32_le (show (e - s).toNat ≤ 8 by omega)
      simp only [a2 (by omega), isKeyword_s ww.1 (by omega), bn_s]
      have kr := kwk_rng (wv b s (e - s).toNat)
      obtain ⟨r1, r2⟩ := fin g8 (kwk (wv b s (e - s).toNat)) (wv b s (e - s).toNat) e q8' a1 b717 (fun _ z => by omega) (fun _ z => a2 (by omega))
      by_cases c4 : kwk (wv b s (e - s).toNat) = 2
      · rw [if_neg (by simp [c4])]
        refine ⟨_, rfl, ?_, ?_⟩
        · rw [c4] at r1; exact r1
        · rw [c4] at r2 ⊢; exact r2
      · rw [if_pos (by simp [c4])]
        have em : mkk (kwk (wv b s (e - s).toNat)) = 2 := by unfold mkk; rw [if_neg (by omega), if_neg (by omega), if_neg (by omega), if_neg (by omega), if_pos (by omega)]
        rw [em] at r1 r2
        exact ⟨_, rfl, r1, r2⟩
  rw [if_neg (by simp only [ltr, decide_eq_true_eq] at c2 ⊢; omega), if_neg c2]
  by_cases c3 : dgt (b s) = true
  · rw [if_pos (by simp only [dgt, decide_eq_true_eq] at c3 ⊢; omega), if_pos c3]
    obtain ⟨g8, e8, q8, a1, a2, a3⟩ := next220_s M6 f705 tb6 n0 n1 f717 (show 0 ≤ s by omega) (K := fun w1 h2 => _) (n - s).toNat FU 0 g6 Mo.r (by rw [f716]; simp) (fun _ => f719) (by omega) (by omega) (by have : FU = 1000000 := rfl; omega) (fun i i0 i1 => by omega)
    rw [e8]; clear e8
    rw [show s + ((0 : Nat) : Int) = s by omega] at a1 a2 a3
    have r := run_rng (q := dgt) (b := b) (n := n) (n - s).toNat s (by omega)
    generalize run dgt b n (n - s).toNat s = e at *
    have M8 := q8.ms M6
    have q8' : Mo [716, 717, 718, 719, 720] h g8 := q6.t (q8.w (by decide))
    have b717 : hI g8 717 983 = i32 s := (q8.I rfl).trans f717
    unfold jX11_next_307
    simp (disch := omega) only [M8.o, gd_tt, a1, b717, i32_sub, i32_le, lt_e]
    by_cases c4 : 4 < e - s
    · rw [if_neg (by omega), if_pos c4]
      obtain ⟨r1, r2⟩ := fin g8 1 0 e q8' a1 b717 (fun _ z => by omega) (fun _ z => by omega)
      exact ⟨_, rfl, r1, r2⟩
    · rw [if_pos (by omega), if_neg c4]
      obtain ⟨r1, r2⟩ := fin g8 3 (dv b s (e - s).toNat) e q8' a1 b717 (fun _ z => a2 (by omega)) (fun _ z => by omega)
      exact ⟨_, rfl, r1, r2⟩
  rw [if_neg (by simp only [dgt, decide_eq_true_eq] at c3 ⊢; omega), if_neg c3]
  obtain ⟨e, e0, e1⟩ := tb6 s (by omega) (by omega)
  have M9 : MS (sI g6 719 983 (i32 (b s))) := M6.sk (sk_sI rfl)
  have M10 : ∀ v, MS (sI (sI g6 719 983 (i32 (b s))) 718 983 v) := fun v => M9.sk (sk_sI rfl)
  have r719 : hI (sI g6 719 983 (i32 (b s))) 719 983 = i32 (b s) := by rw [rII, if_pos ⟨rfl, rfl⟩]
  have r716 : ∀ v, hI (sI (sI g6 719 983 (i32 (b s))) 718 983 v) 716 983 = i32 s := fun v => by rw [rII, if_neg (by decide), rII, if_neg (by decide)]; exact f716
  unfold jX11_next_342
  simp (disch := omega) only [M6.r_tape, M6.o_tape, M6.n_tape, gd_tt, oc_s, i32_inb, i32_cn, e, lt_e, r719, isSign_s e0 e1, bn_s, M9.o, (M10 _).o, r716, f716, i32_add]
  have a9 : ∀ k : Int, (13 < k ∨ k = 1) → ∃ g, sI (sI (sI g6 719 983 (i32 (b s))) 718 983 (i32 (mkk k))) 716 983 (i32 (s + 1)) = g ∧ Mo [716, 717, 718, 719, 720] h g ∧ MT g (k, s, b s, s + 1) := by
    intro k hk
    refine ⟨_, rfl, ((q6.t (Mo_I (by decide) _)).t (Mo_I (by decide) _)).t (Mo_I (by decide) _), ?_, ?_, ?_, ?_, ?_⟩
    · simp only [rII]; rfl
    · simp [rII, f717, tks]
    · simp [rII, tkk]
    · intro _; simp [rII, tkv]
    · intro z; simp only [tkk] at z; omega
  by_cases c4 : sgn (b s) = true
  · rw [if_pos c4, if_pos c4]
    have kr : 13 < b s := by simp only [sgn, decide_eq_true_eq] at c4; omega
    obtain ⟨g, r0, r1, r2⟩ := a9 (b s) (Or.inl kr)
    have em : mkk (b s) = 4 := by unfold mkk; rw [if_neg (by omega), if_neg (by omega), if_neg (by omega), if_neg (by omega), if_neg (by omega)]
    rw [em] at r0
    exact ⟨g, by rw [← r0], r1, r2⟩
  · rw [if_neg c4, if_neg c4]
    obtain ⟨g, r0, r1, r2⟩ := a9 1 (Or.inr rfl)
    exact ⟨g, by rw [← r0]; rfl, r1, r2⟩
end
/-! NAMES: a word in base 32, and the class's way to hold it -/
def nl (w : Int) : Nat := if w ≤ 0 then 0 else if w < 32 then 1 else if w < 1024 then 2 else if w < 32768 then 3 else if w < 1048576 then 4 else if w < 33554432 then 5 else if w < 1073741824 then 6 else if w < 34359738368 then 7 else 8
def lft (w : Int) : Int := w * 32 ^ (8 - nl w)
theorem nl_le (w : Int) : nl w ≤ 8 := by
  unfold nl
  repeat (first | (split; · omega) | omega)
theorem nl_of {w : Int} {k : Nat} (h8 : k < 8) (h1 : 32 ^ k ≤ w) (h2 : w < 32 ^ (k + 1)) : nl w = k + 1 := by
  unfold nl
  rcases (show k = 0 ∨ k = 1 ∨ k = 2 ∨ k = 3 ∨ k = 4 ∨ k = 5 ∨ k = 6 ∨ k = 7 by omega) with rfl | rfl | rfl | rfl | rfl | rfl | rfl | rfl <;> simp only [Int.reducePow, Nat.reduceAdd] at h1 h2 <;> repeat (first | rw [if_neg (by omega)] | rw [if_pos (by omega)])
theorem lft_of {w : Int} {k : Nat} (h8 : k < 8) (h1 : 32 ^ k ≤ w) (h2 : w < 32 ^ (k + 1)) : lft w = w * 32 ^ (7 - k) := by
  unfold lft; rw [nl_of h8 h1 h2, show 8 - (k + 1) = 7 - k by omega]
/-- the lowest and the highest number with so many letters -/
theorem wv_lo {b : Int → Int} {s : Int} : ∀ k : Nat, (∀ i, s ≤ i → i < s + (k + 1 : Nat) → ltr (b i) = true) → k < 8 → 32 ^ k ≤ wv b s (k + 1) := by
  intro k
  induction k with
  | zero =>
    intro hl _
    have l := hl s (by omega) (by omega)
    simp only [ltr, decide_eq_true_eq] at l
    simp only [wv]
    rw [show s + ((0 : Nat) : Int) = s by omega]
    simp only [Int.pow_zero]; omega
  | succ k ih =>
    intro hl hk
    have a := ih (fun i i0 i1 => hl i i0 (by omega)) (by omega)
    have l := hl (s + (k + 1 : Nat)) (by omega) (by omega)
    simp only [ltr, decide_eq_true_eq] at l
    have e : (32 : Int) ^ (k + 1) = 32 * 32 ^ k := by rw [Int.pow_succ]; omega
    show _ ≤ 32 * wv b s (k + 1) + b (s + (k + 1 : Nat)) - 96
    omega
theorem i64_lN (n : Nat) : i64 (n : Int) = lN n := Int64.ofInt_eq_ofNat
theorem i64_nn {a : Int} (h : 0 ≤ a) : i64 a = lN a.toNat := by
  have : a = (a.toNat : Int) := by omega
  rw [this]; exact i64_lN _
theorem i32_nI {a : Int} (h : 0 ≤ a) : i32 a = nI a.toNat := by
  have : a = (a.toNat : Int) := by omega
  rw [this]; exact Int32.ofInt_eq_ofNat
/-- a letter goes behind those that stand -/
theorem or_step {A d s : Int} (A0 : 0 ≤ A) (d0 : 0 ≤ d) (d1 : d < 32) (s0 : 0 ≤ s) (s1 : s < 60) {q : Int} (hA : A = 2 ^ (s.toNat + 5) * q) : i64 A ||| (i64 d <<< ((i32 s).toInt64 &&& 63)) = i64 (A + d * 2 ^ s.toNat) := by
  have p0 : (0 : Int) < 2 ^ (s.toNat + 5) := Int.pow_pos (by decide)
  have q0 : 0 ≤ q := by
    apply Classical.byContradiction
    intro z
    have : 2 ^ (s.toNat + 5) * q < 0 := Int.mul_neg_of_pos_of_neg p0 (by omega)
    omega
  rw [i64_nn d0, i32_nI s0, wb_shl _ (by omega), i64_nn A0]
  have eA : A.toNat = 2 ^ (s.toNat + 5) * q.toNat := by
    rw [hA]
    have : ((2 ^ (s.toNat + 5) * q.toNat : Nat) : Int) = 2 ^ (s.toNat + 5) * q := by
      rw [Int.natCast_mul, Int.toNat_of_nonneg q0]; rfl
    rw [← this]; rfl
  have lt : d.toNat * 2 ^ s.toNat < 2 ^ (s.toNat + 5) := by
    rw [Nat.pow_add, Nat.mul_comm (2 ^ s.toNat)]
    exact Nat.mul_lt_mul_of_pos_right (by omega) (Nat.pow_pos (by decide))
  rw [eA, fb_or_sumL _ lt, ← eA]
  have e2 : ((A.toNat + d.toNat * 2 ^ s.toNat : Nat) : Int) = A + d * 2 ^ s.toNat := by
    rw [Int.natCast_add, Int.natCast_mul, Int.toNat_of_nonneg A0, Int.toNat_of_nonneg d0]; rfl
  rw [← e2]; exact (i64_lN _).symm
/-- what the class holds of a word's first letters -/
def lp (b : Int → Int) (s : Int) (k : Nat) : Int := wv b s k * 32 ^ (8 - k)
theorem p2_32 {k : Nat} (h : k < 8) : (2 : Int) ^ (35 - 5 * k) = 32 ^ (7 - k) ∧ (2 : Int) ^ (35 - 5 * k + 5) = 32 ^ (8 - k) := by
  rcases (show k = 0 ∨ k = 1 ∨ k = 2 ∨ k = 3 ∨ k = 4 ∨ k = 5 ∨ k = 6 ∨ k = 7 by omega) with rfl | rfl | rfl | rfl | rfl | rfl | rfl | rfl <;> decide
theorem lp_step {b : Int → Int} {s : Int} {k : Nat} (h : k < 8) (w0 : 0 ≤ wv b s k) (l : ltr (b (s + k)) = true) : i64 (lp b s k) ||| (i64 (b (s + k) - 97 + 1) <<< ((i32 (35 - 5 * k)).toInt64 &&& 63)) = i64 (lp b s (k + 1)) := by
  simp only [ltr, decide_eq_true_eq] at l
  obtain ⟨e1, e2⟩ := p2_32 h
  have es : (35 - 5 * (k : Int)).toNat = 35 - 5 * k := by omega
  have p0 : (0 : Int) ≤ 32 ^ (8 - k) := Int.le_of_lt (Int.pow_pos (by decide))
  rw [or_step (A := lp b s k) (d := b (s + k) - 97 + 1) (s := 35 - 5 * (k : Int)) (q := wv b s k) (Int.mul_nonneg w0 p0) (by omega) (by omega) (by omega) (by omega) (by rw [es, e2, lp, Int.mul_comm])]
  congr 1
  rw [es, e1]
  unfold lp
  simp only [wv]
  rw [show 8 - (k + 1) = 7 - k by omega, show (8 - k) = (7 - k) + 1 by omega, Int.pow_succ]
  generalize (32 : Int) ^ (7 - k) = P
  generalize wv b s k = W
  generalize b (s + k) = B
  have r1 : W * (P * 32) = (32 * W) * P := by
    rw [Int.mul_comm P 32, ← Int.mul_assoc, Int.mul_comm W 32]
  rw [r1, ← Int.add_mul]
  congr 1; omega
theorem lp_lft {b : Int → Int} {s : Int} {k : Nat} (k0 : 0 < k) (h : k ≤ 8) (hl : ∀ i, s ≤ i → i < s + k → ltr (b i) = true) (tb : ∀ i, s ≤ i → i < s + k → -128 ≤ b i ∧ b i < 128) : lp b s k = lft (wv b s k) := by
  obtain ⟨k, rfl⟩ : ∃ j, k = j + 1 := ⟨k - 1, by omega⟩
  have a := wv_lo k hl (by omega)
  have c : wv b s (k + 1) < 32 ^ (k + 1) := by
    clear a
    have : ∀ j : Nat, j ≤ k + 1 → 0 ≤ wv b s j ∧ wv b s j < 32 ^ j := by
      intro j
      induction j with
      | zero => intro _; exact ⟨Int.le_refl _, by simp only [wv, Int.pow_zero]; decide⟩
      | succ j ih =>
        intro hj
        obtain ⟨a1, a2⟩ := ih (by omega)
        have l := hl (s + j) (by omega) (by omega)
        simp only [ltr, decide_eq_true_eq] at l
        simp only [wv]
        have e : (32 : Int) ^ (j + 1) = 32 * 32 ^ j := by rw [Int.pow_succ]; omega
        omega
    exact (this (k + 1) (Nat.le_refl _)).2
  rw [lft_of (by omega) a c]
  unfold lp; rw [show 8 - (k + 1) = 7 - k by omega]
