/-! FRAMES OF THE CLASS: l holds fields (at any object), 1000 + an array, 5000 + an object; at most n new terms -/
def Co (n : Nat) (l : List Nat) (h g : HP) : Prop := Sk h g ∧ hsz g ≤ hsz h + n ∧ hsl g ≤ hsl h + 6 * n ∧ (∀ x, x < hsz h → ∀ f, f ∉ l → (5000 + x ∉ l ∨ f < 3) → hI g f x = hI h f x ∧ hJ g f x = hJ h f x ∧ hR g f x = hR h f x) ∧ ∀ x, x < hsz h → 1000 + x ∉ l → hA g x = hA h x ∧ hL g x = hL h x ∧ hQ g x = hQ h x
theorem Co.r {l : List Nat} {h : HP} : Co 0 l h h := ⟨Sk.rfl', Nat.le_refl _, Nat.le_refl _, fun _ _ _ _ _ => ⟨rfl, rfl, rfl⟩, fun _ _ _ => ⟨rfl, rfl, rfl⟩⟩
theorem Co.t {n m : Nat} {l : List Nat} {h g k : HP} (p : Co n l h g) (q : Co m l g k) : Co (n + m) l h k := by
  obtain ⟨p1, p2, p3, p4, p5⟩ := p
  obtain ⟨q1, q2, q3, q4, q5⟩ := q
  refine ⟨p1.trans q1, by omega, by omega, fun x hx f a b => ?_, fun x hx a => ?_⟩
  · have hx' : x < hsz g := Nat.lt_of_lt_of_le hx p1.1
    obtain ⟨u1, u2, u3⟩ := p4 x hx f a b
    obtain ⟨v1, v2, v3⟩ := q4 x hx' f a b
    exact ⟨v1.trans u1, v2.trans u2, v3.trans u3⟩
  · have hx' : x < hsz g := Nat.lt_of_lt_of_le hx p1.1
    obtain ⟨u1, u2, u3⟩ := p5 x hx a
    obtain ⟨v1, v2, v3⟩ := q5 x hx' a
    exact ⟨v1.trans u1, v2.trans u2, v3.trans u3⟩
theorem Co.t0 {n : Nat} {l : List Nat} {h g k : HP} (p : Co n l h g) (q : Co 0 l g k) : Co n l h k := p.t q
theorem Co.w {n : Nat} {l m : List Nat} {h g : HP} (p : Co n l h g) (s : lsub l m = true) : Co n m h g := by
  obtain ⟨p1, p2, p3, p4, p5⟩ := p
  exact ⟨p1, p2, p3, fun x hx f a b => p4 x hx f (fun z => a (lsub_m s z)) (b.imp (fun b z => b (lsub_m s z)) id), fun x hx a => p5 x hx (fun z => a (lsub_m s z))⟩
theorem Co.up {n m : Nat} {l : List Nat} {h g : HP} (p : Co n l h g) (q : n ≤ m) : Co m l h g := by
  obtain ⟨p1, p2, p3, p4, p5⟩ := p
  exact ⟨p1, by omega, by omega, p4, p5⟩
section
variable {l : List Nat} {h g : HP} {n : Nat}
theorem Co_m {l : List Nat} {f a u x : Nat} (m : f ∈ l ∨ (5000 + a ∈ l ∧ 3 ≤ f)) (n1 : u ∉ l) (n2 : 5000 + x ∉ l ∨ u < 3) (z : u = f ∧ x = a) : False := by
  obtain ⟨z1, z2⟩ := z
  subst z1; subst z2
  rcases m with m | m
  · exact n1 m
  · rcases n2 with n2 | n2
    · exact n2 m.1
    · have := m.2; omega
theorem Co_I {f a : Nat} (m : f ∈ l ∨ (5000 + a ∈ l ∧ 3 ≤ f)) (v : Int32) : Co 0 l h (sI h f a v) := ⟨sk_sI rfl, Nat.le_refl _, Nat.le_refl _, fun x _ u n1 n2 => ⟨by rw [rII, if_neg (fun z => Co_m m n1 n2 z)], rfl, rfl⟩, fun _ _ _ => ⟨rfl, rfl, rfl⟩⟩
theorem Co_J {f a : Nat} (m : f ∈ l ∨ (5000 + a ∈ l ∧ 3 ≤ f)) (v : Int64) : Co 0 l h (sJ h f a v) := ⟨sk_sJ rfl, Nat.le_refl _, Nat.le_refl _, fun x _ u n1 n2 => ⟨rfl, by rw [rJJ, if_neg (fun z => Co_m m n1 n2 z)], rfl⟩, fun _ _ _ => ⟨rfl, rfl, rfl⟩⟩
theorem Co_R {f a : Nat} (m : f ∈ l ∨ (5000 + a ∈ l ∧ 3 ≤ f)) (w : f = 135 ∨ f = 385 ∨ f = 386) (v : Option Nat) : Co 0 l h (sR h f a v) := ⟨sk_sR rfl w, Nat.le_refl _, Nat.le_refl _, fun x _ u n1 n2 => ⟨rfl, rfl, by rw [rRR, if_neg (fun z => Co_m m n1 n2 z)]⟩, fun _ _ _ => ⟨rfl, rfl, rfl⟩⟩
theorem Co_A {a : Nat} (m : 1000 + a ∈ l) (i : Nat) (v : Int32) : Co 0 l h (sA h a i v) := ⟨sk_sA rfl, Nat.le_refl _, Nat.le_refl _, fun _ _ _ _ _ => ⟨rfl, rfl, rfl⟩, fun x _ n1 => ⟨by rw [sA_w]; exact wA_A2 _ _ _ (fun z => n1 (z ▸ m)), rfl, rfl⟩⟩
theorem Co_L {a : Nat} (m : 1000 + a ∈ l) (i : Nat) (v : Int64) : Co 0 l h (sL h a i v) := ⟨sk_sL rfl, Nat.le_refl _, Nat.le_refl _, fun _ _ _ _ _ => ⟨rfl, rfl, rfl⟩, fun x _ n1 => ⟨rfl, by rw [sL_w]; exact wL_L2 _ _ _ (fun z => n1 (z ▸ m)), rfl⟩⟩
theorem Co_Q {a : Nat} (m : 1000 + a ∈ l) (w : isO h a 36 = true) (i : Nat) (v : Option Nat) : Co 0 l h (sQ h a i v) := ⟨sk_sQ rfl w, Nat.le_refl _, Nat.le_refl _, fun _ _ _ _ _ => ⟨rfl, rfl, rfl⟩, fun x _ n1 => ⟨rfl, rfl, by funext j; rw [rQQ, if_neg (fun z => n1 (by rw [z.1]; exact m))]⟩⟩
theorem Co_N (t : Nat) : Co 1 l h (nw h t 0 6) := ⟨sk_nw rfl, Nat.le_refl _, Nat.le_refl _, fun x hx f _ _ => ⟨by rw [rIN, if_neg (by omega)], by rw [rJN, if_neg (by omega)], by rw [rRN, if_neg (by omega)]⟩, fun x hx _ => ⟨by funext i; rw [rAN, if_neg (by omega)], by funext i; rw [rLN, if_neg (by omega)], by funext i; rw [rQN, if_neg (by omega)]⟩⟩
theorem Co.sk (p : Co n l h g) : Sk h g := p.1
theorem Co.I (p : Co n l h g) {f x : Nat} (hx : x < hsz h) (m : l.contains f = false) (m2 : l.contains (5000 + x) = false) : hI g f x = hI h f x := (p.2.2.2.1 x hx f (by simpa using m) (Or.inl (by simpa using m2))).1
theorem Co.J (p : Co n l h g) {f x : Nat} (hx : x < hsz h) (m : l.contains f = false) (m2 : l.contains (5000 + x) = false) : hJ g f x = hJ h f x := (p.2.2.2.1 x hx f (by simpa using m) (Or.inl (by simpa using m2))).2.1
theorem Co.R (p : Co n l h g) {f x : Nat} (hx : x < hsz h) (m : l.contains f = false) (m2 : l.contains (5000 + x) = false) : hR g f x = hR h f x := (p.2.2.2.1 x hx f (by simpa using m) (Or.inl (by simpa using m2))).2.2
theorem Co.I3 (p : Co n l h g) {f x : Nat} (hx : x < hsz h) (m : l.contains f = false) (f3 : f < 3) : hI g f x = hI h f x := (p.2.2.2.1 x hx f (by simpa using m) (Or.inr f3)).1
theorem Co.A (p : Co n l h g) {x : Nat} (hx : x < hsz h) (m : l.contains (1000 + x) = false) : hA g x = hA h x := (p.2.2.2.2 x hx (by simpa using m)).1
theorem Co.L (p : Co n l h g) {x : Nat} (hx : x < hsz h) (m : l.contains (1000 + x) = false) : hL g x = hL h x := (p.2.2.2.2 x hx (by simpa using m)).2.1
theorem Co.Q (p : Co n l h g) {x : Nat} (hx : x < hsz h) (m : l.contains (1000 + x) = false) : hQ g x = hQ h x := (p.2.2.2.2 x hx (by simpa using m)).2.2
end
/-! THE CLASS'S TOKENS -/
def srt (c : Int) : Int := if wht c = true then 0 else if ltr c = true then 1 else if dgt c = true then 2 else 3
theorem srt_rng (c : Int) : 0 ≤ srt c ∧ srt c ≤ 3 := by unfold srt; repeat (first | (split; · omega) | omega)
theorem csort_s {h : HP} {c : Int} (c0 : -128 ≤ c) (c1 : c < 128) : fX7_sortOf (i32 c) h = some (i32 (srt c)) := by
  unfold fX7_sortOf jX7_sortOf_28 srt wht ltr dgt
  simp (disch := omega) only [i32_eq, i32_lt, decide_eq_true_eq]
  by_cases e1 : c = 32
  · rw [if_pos e1, if_pos (by omega)]
  rw [if_neg e1]
  by_cases e2 : c = 10
  · rw [if_pos e2, if_pos (by omega)]
  rw [if_neg e2, if_neg (show ¬ (c = 32 ∨ c = 10) by omega)]
  by_cases e3 : c < 97
  · rw [if_pos e3, if_neg (show ¬ (97 ≤ c ∧ c ≤ 122) by omega)]
    by_cases e4 : c < 48
    · rw [if_pos e4, if_neg (by omega)]
    · rw [if_neg e4]
      by_cases e5 : 57 < c
      · rw [if_pos e5, if_neg (by omega)]
      · rw [if_neg e5, if_pos (by omega)]
  · rw [if_neg e3]
    by_cases e4 : 122 < c
    · rw [if_pos e4, if_neg (by omega), if_pos (by omega), if_neg (by omega)] <;> first | omega | (rw [if_neg (by omega)])
    · rw [if_neg e4, if_pos (by omega)]
def cvl (b : Int → Int) (t s : Int) (len : Nat) : Int := if t = 1 then lp b s (min len 8) else if t = 2 then dv b s (min len 4) else b s
def Ent (g : HP) (b : Int → Int) (j : Nat) (t s : Int) (len : Nat) : Prop := hA g 100 j = i32 t ∧ hA g 101 j = i32 s ∧ hA g 102 j = i32 len ∧ (len = 0 ∨ hL g 103 j = i64 (cvl b t s len)) ∧ (len = 0 → hL g 103 j = i64 0)
def LX : List Nat := [448, 449, 450, 451, 452, 453, 1100, 1101, 1102, 1103]
section
variable {h : HP} {b : Int → Int} {n : Int}
theorem begin_s (S : CS h) {c : Nat} (hc : hI h 452 99 = i32 c) (c1 : c < 1200) {t s : Int} : ∃ g, fX7_beginToken 99 (i32 s) (i32 t) h = some g ∧ Co 0 LX h g ∧ hI g 452 99 = i32 (c + 1) ∧ (∀ f, f ≠ 452 → hI g f 99 = hI h f 99) ∧ Ent g b c t s 0 ∧ ∀ j, j ≠ c → hA g 100 j = hA h 100 j ∧ hA g 101 j = hA h 101 j ∧ hA g 102 j = hA h 102 j ∧ hL g 103 j = hL h 103 j := by
  obtain ⟨h1, e1⟩ : ∃ h1, h1 = sA h 100 c (i32 t) := ⟨_, rfl⟩
  obtain ⟨h2, e2⟩ : ∃ h2, h2 = sA h1 101 c (i32 s) := ⟨_, rfl⟩
  obtain ⟨h3, e3⟩ : ∃ h3, h3 = sA h2 102 c (i32 0) := ⟨_, rfl⟩
  obtain ⟨h4, e4⟩ : ∃ h4, h4 = sL h3 103 c (i64 0) := ⟨_, rfl⟩
  have S1 : CS h1 := by rw [e1]; exact S.sk (sk_sA rfl)
  have S2 : CS h2 := by rw [e2]; exact S1.sk (sk_sA rfl)
  have S3 : CS h3 := by rw [e3]; exact S2.sk (sk_sA rfl)
  have c1' : hI h1 452 99 = i32 c := by rw [e1]; exact hc
  have c2' : hI h2 452 99 = i32 c := by rw [e2]; exact c1'
  have c3' : hI h3 452 99 = i32 c := by rw [e3]; exact c2'
  have c4' : hI h4 452 99 = i32 c := by rw [e4]; exact c3'
  unfold fX7_beginToken
  simp (disch := omega) only [S.o_tokens, gd_tt, hc, i32_z, i32_lt, i32_le]
  rw [if_neg (by omega), if_neg (by omega)]
  simp (disch := omega) only [S.r_kinds, S.o_kinds, S.n_kinds, oc_s, gd_tt, i32_inb, i32_cn, lt_e, Int.toNat_natCast, ← e1, S1.r_starts, S1.o_starts, S1.n_starts, c1', ← e2, S2.r_tsizes, S2.o_tsizes, S2.n_tsizes, c2', ← e3, S3.r_vals, S3.o_vals, S3.n_vals, c3', ← e4, c4', i32_add]
  refine ⟨_, rfl, ?_, ?_, ?_, ?_, ?_⟩
  · rw [e4, e3, e2, e1]
    exact ((((Co_A (by decide) _ _).t (Co_A (by decide) _ _)).t (Co_A (by decide) _ _)).t (Co_L (by decide) _ _)).t (Co_I (by decide) _)
  · rw [rII, if_pos ⟨rfl, rfl⟩]
  · intro f hf; rw [rII, if_neg (fun z => hf z.1), e4, e3, e2, e1]; rfl
  · rw [e4, e3, e2, e1]
    refine ⟨?_, ?_, ?_, Or.inl rfl, fun _ => ?_⟩ <;> simp [rAA, rAL, rAI, rLL, rLI, rLA]
  · intro j hj
    rw [e4, e3, e2, e1]
    refine ⟨?_, ?_, ?_, ?_⟩ <;> simp [rAA, rAL, rAI, rLL, rLI, rLA, hj]
theorem extend_s (S : CS h) {c : Nat} (hc : hI h 452 99 = i32 (c + 1)) (c1 : c < 1200) {t s : Int} {len : Nat} (t1 : 1 ≤ t) (t3 : t ≤ 3) (ht : srt (b (s + len)) = t) (e : Ent h b c t s len) (l1 : (len : Int) < 1200) (l3 : t = 3 → len = 0) (w0 : t = 1 → len ≤ 8 → 0 ≤ wv b s len) (rb : -128 ≤ b (s + len) ∧ b (s + len) < 128) : ∃ g, fX7_extend 99 (i32 (b (s + len))) h = some g ∧ Co 0 LX h g ∧ (∀ f, hI g f 99 = hI h f 99) ∧ Ent g b c t s (len + 1) ∧ ∀ j, j ≠ c → hA g 100 j = hA h 100 j ∧ hA g 101 j = hA h 101 j ∧ hA g 102 j = hA h 102 j ∧ hL g 103 j = hL h 103 j := by
  obtain ⟨a1, a2, a3, a4, a5⟩ := e
  have SL : ∀ v, CS (sL h 103 c v) := fun v => S.sk (sk_sL rfl)
  unfold fX7_extend jX7_extend_87 jX7_extend_126
  simp only [S.o_tokens, gd_tt, hc]
  simp only [i32_z]
  rw [i32_sub, show ((c : Int) + 1 - 1) = c by omega, lt_e]
  simp (disch := omega) only [i32_lt]
  rw [if_neg (by omega), if_pos (by omega)]
  simp (disch := omega) only [S.r_kinds, S.o_kinds, S.n_kinds, S.r_tsizes, S.o_tsizes, S.n_tsizes, S.r_vals, S.o_vals, S.n_vals, oc_s, gd_tt, i32_inb]
  rw [lt_e]
  simp (disch := omega) only [i32_cn, Int.toNat_natCast, a1, a3, i32_eq, i32_le]
  have key : ∀ v : Int64, v = i64 (cvl b t s (len + 1)) → ∃ g, some (sA (sL h 103 c v) 102 c (i32 (len + 1))) = some g ∧ Co 0 LX h g ∧ (∀ f, hI g f 99 = hI h f 99) ∧ Ent g b c t s (len + 1) ∧ ∀ j, j ≠ c → hA g 100 j = hA h 100 j ∧ hA g 101 j = hA h 101 j ∧ hA g 102 j = hA h 102 j ∧ hL g 103 j = hL h 103 j := by
    intro v hv
    refine ⟨_, rfl, (Co_L (by decide) _ _).t (Co_A (by decide) _ _), fun f => rfl, ⟨by simp [rAA, rAL, a1], by simp [rAA, rAL, a2], by simp [rAA, rAL], Or.inr (by simp [rLA, rLL, hv]), fun z => by omega⟩, fun j hj => ⟨by simp [rAA, rAL, hj], by simp [rAA, rAL, hj], by simp [rAA, rAL, hj], by simp [rLA, rLL, hj]⟩⟩
  have key2 : cvl b t s len = cvl b t s (len + 1) → 0 < len → ∃ g, some (sA h 102 c (i32 (len + 1))) = some g ∧ Co 0 LX h g ∧ (∀ f, hI g f 99 = hI h f 99) ∧ Ent g b c t s (len + 1) ∧ ∀ j, j ≠ c → hA g 100 j = hA h 100 j ∧ hA g 101 j = hA h 101 j ∧ hA g 102 j = hA h 102 j ∧ hL g 103 j = hL h 103 j := by
    intro ev l0
    have a4' : hL h 103 c = i64 (cvl b t s len) := by rcases a4 with z | z; omega; exact z
    refine ⟨_, rfl, Co_A (by decide) _ _, fun f => rfl, ⟨by simp [rAA, a1], by simp [rAA, a2], by simp [rAA], Or.inr (by rw [rLA, a4', ev]), fun z => by omega⟩, fun j hj => ⟨by simp [rAA, hj], by simp [rAA, hj], by simp [rAA, hj], by rw [rLA]⟩⟩
  by_cases c3 : t = 3
  · rw [if_pos c3]
    have l0 := l3 c3
    subst l0
    simp (disch := omega) only [lt_e, (SL _).o_tokens, (SL _).r_tsizes, (SL _).o_tsizes, (SL _).n_tsizes, gd_tt, oc_s, i32_inb, i32_add]
    rw [i32_64 (by omega) (by omega)]
    exact key _ (by unfold cvl; rw [if_neg (by omega), if_neg (by omega)]; simp)
  rw [if_neg c3]
  by_cases c2 : t = 2
  · rw [if_pos c2]
    by_cases c4 : 4 ≤ (len : Int)
    · rw [if_pos c4, if_neg (by omega)]
      simp only [lt_e, i32_add]
      apply key2 _ (by omega)
      have ec : ∀ m, cvl b t s m = dv b s (min m 4) := fun m => by unfold cvl; rw [if_neg (by omega), if_pos c2]
      rw [ec, ec, show min len 4 = 4 by omega, show min (len + 1) 4 = 4 by omega]
    · rw [if_neg c4, i32_sub, i32_64 (by omega) (by omega)]
      simp (disch := omega) only [lt_e, (SL _).o_tokens, (SL _).r_tsizes, (SL _).o_tsizes, (SL _).n_tsizes, gd_tt, oc_s, i32_inb, i32_add]
      apply key
      have ev : hL h 103 c = i64 (dv b s len) := by
        rcases a4 with z | z
        · rw [a5 z, z]; rfl
        · rw [z]; unfold cvl; rw [if_neg (by omega), if_pos c2, show min len 4 = len by omega]
      rw [ev, i64_mul, i64_add]
      unfold cvl; rw [if_neg (by omega), if_pos c2, show min (len + 1) 4 = len + 1 by omega]
      simp only [dv]; congr 1; rw [Int.mul_comm]; omega
  · have c1' : t = 1 := by omega
    rw [if_neg c2, if_pos c1']
    by_cases c4 : 8 ≤ (len : Int)
    · rw [if_pos c4]
      simp only [lt_e, i32_add]
      apply key2 _ (by omega)
      have ec : ∀ m, cvl b t s m = lp b s (min m 8) := fun m => by unfold cvl; rw [if_pos c1']
      rw [ec, ec, show min len 8 = 8 by omega, show min (len + 1) 8 = 8 by omega]
    · rw [if_neg c4, lt_e, oc_s, S.o_vals, gd_tt, S.n_vals, i32_inb (by omega) (by omega) (by omega), gd_tt, gd_tt, i32_sub, i32_add, i32_64 (by omega) (by omega), i32_mul, i32_sub]
      simp (disch := omega) only [lt_e, (SL _).o_tokens, (SL _).r_tsizes, (SL _).o_tsizes, (SL _).n_tsizes, gd_tt, oc_s, i32_inb, i32_add]
      apply key
      have ev : hL h 103 c = i64 (lp b s len) := by
        rcases a4 with z | z
        · rw [a5 z, z]; unfold lp; simp [wv]
        · rw [z]; unfold cvl; rw [if_pos c1', show min len 8 = len by omega]
      have l : ltr (b (s + len)) = true := by
        unfold srt at ht
        cases q : ltr (b (s + len)) with
        | true => rfl
        | false => rw [q] at ht; simp at ht; split at ht; omega; split at ht <;> omega
      rw [ev, lp_step (by omega) (w0 c1' (by omega)) l]
      unfold cvl; rw [if_pos c1', show min (len + 1) 8 = len + 1 by omega]
end

theorem srt_0 {c : Int} : srt c = 0 ↔ wht c = true := by
  unfold srt
  by_cases e : wht c = true
  · simp [e]
  · rw [if_neg e]
    constructor
    · intro z; exfalso; split at z; omega; split at z <;> omega
    · intro z; exact absurd z e
theorem srt_1 {c : Int} : srt c = 1 ↔ ltr c = true := by
  unfold srt wht ltr dgt
  simp only [decide_eq_true_eq]
  by_cases e : c = 32 ∨ c = 10
  · rw [if_pos e]; omega
  · rw [if_neg e]
    by_cases e2 : 97 ≤ c ∧ c ≤ 122
    · rw [if_pos e2]; omega
    · rw [if_neg e2]; constructor
      · intro z; split at z <;> omega
      · intro z; exact absurd z e2
theorem srt_2 {c : Int} : srt c = 2 ↔ dgt c = true := by
  unfold srt wht ltr dgt
  simp only [decide_eq_true_eq]
  by_cases e : c = 32 ∨ c = 10
  · rw [if_pos e]; omega
  · rw [if_neg e]
    by_cases e2 : 97 ≤ c ∧ c ≤ 122
    · rw [if_pos e2]; omega
    · rw [if_neg e2]; constructor
      · intro z; split at z <;> omega
      · intro z; rw [if_pos z]
def pos (b : Int → Int) (n : Int) : Nat → Int
  | 0 => 0
  | j + 1 => tke (tkn b n j)
theorem tkn_e (b : Int → Int) (n : Int) (j : Nat) : tkn b n j = tok b n (pos b n j) := by cases j <;> rfl
theorem lxs_rng {b : Int → Int} {n p : Int} (h : p ≤ n) : p ≤ lxs b n p ∧ lxs b n p ≤ n := by
  have := run_rng (q := wht) (b := b) (n - p).toNat p h
  exact ⟨this.1, this.2.1⟩
theorem pos_le {b : Int → Int} {n : Int} (n0 : 0 ≤ n) : ∀ j, 0 ≤ pos b n j ∧ pos b n j ≤ n := by
  intro j
  induction j with
  | zero => exact ⟨Int.le_refl _, n0⟩
  | succ j ih =>
    show 0 ≤ tke (tkn b n j) ∧ tke (tkn b n j) ≤ n
    rw [tkn_e]
    have l := lxs_rng (b := b) ih.2
    have t := tokS_ge (b := b) l.2
    have : tok b n (pos b n j) = tokS b n (lxs b n (pos b n j)) := rfl
    rw [this]; omega
theorem tkn_rng {b : Int → Int} {n : Int} (n0 : 0 ≤ n) (j : Nat) : pos b n j ≤ tks (tkn b n j) ∧ tks (tkn b n j) ≤ n ∧ tks (tkn b n j) ≤ tke (tkn b n j) ∧ tke (tkn b n j) ≤ n ∧ (tkk (tkn b n j) = 0 ↔ tks (tkn b n j) = n) ∧ (tkk (tkn b n j) ≠ 0 → tks (tkn b n j) + 1 ≤ tke (tkn b n j)) := by
  have p := pos_le (b := b) n0 j
  have l := lxs_rng (b := b) p.2
  have t := tokS_ge (b := b) l.2
  rw [tkn_e]
  have : tok b n (pos b n j) = tokS b n (lxs b n (pos b n j)) := rfl
  rw [this]
  refine ⟨by omega, by omega, by omega, by omega, by omega, fun z => ?_⟩
  have : lxs b n (pos b n j) < n := by
    have := t.2.2.2.1
    omega
  have := t.2.2.2.2 this
  omega
def Dn (g : HP) (b : Int → Int) (n : Int) (j : Nat) : Prop := tkk (tkn b n j) ≠ 0 ∧ Ent g b j (srt (b (tks (tkn b n j)))) (tks (tkn b n j)) (tke (tkn b n j) - tks (tkn b n j)).toNat
def Cld (g : HP) (b : Int → Int) (n : Int) (c : Nat) (p : Int) : Prop := (∀ j, j < c → Dn g b n j) ∧ (c : Int) ≤ p ∧ p ≤ n ∧ pos b n c ≤ p ∧ ∀ i, pos b n c ≤ i → i < p → wht (b i) = true
def Opn (g : HP) (b : Int → Int) (n : Int) (c : Nat) (p t : Int) : Prop := (∀ j, j < c → Dn g b n j) ∧ (t = 1 ∨ t = 2) ∧ p ≤ n ∧ ∃ s : Int, ∃ len : Nat, p = s + len ∧ 0 < len ∧ (c : Int) ≤ s ∧ pos b n c ≤ s ∧ (∀ i, pos b n c ≤ i → i < s → wht (b i) = true) ∧ (∀ i, s ≤ i → i < p → srt (b i) = t) ∧ Ent g b c t s len
theorem lxs_u {b : Int → Int} {n p s : Int} (h0 : p ≤ s) (h1 : s ≤ n) (hw : ∀ i, p ≤ i → i < s → wht (b i) = true) (hs : s = n ∨ wht (b s) = false) : lxs b n p = s := by
  unfold lxs
  exact run_u _ p s h0 h1 (by omega) hw hs
theorem close_s {g : HP} {b : Int → Int} {n : Int} {c : Nat} {p t : Int} (o : Opn g b n c p t) (e : p = n ∨ srt (b p) ≠ t) : Cld g b n (c + 1) p := by
  obtain ⟨o1, o2, o3, s, len, rfl, l0, cs, ps, hw, ht, en⟩ := o
  have ts := ht s (by omega) (by omega)
  have nw : wht (b s) = false := by
    cases z : wht (b s) with
    | false => rfl
    | true => rw [srt_0.mpr z] at ts; omega
  have ls := lxs_u ps (show s ≤ n by omega) hw (Or.inr nw)
  have tk : tkn b n c = tokS b n s := by rw [tkn_e]; show tokS b n (lxs b n _) = _; rw [ls]
  have tg := tokS_ge (b := b) (show s ≤ n by omega)
  have te : tke (tokS b n s) = s + len := by
    unfold tokS
    rw [if_neg (by omega)]
    rcases o2 with o2 | o2
    · have lt := srt_1.mp (ts.trans o2)
      rw [if_pos lt]
      have r : run ltr b n (n - s).toNat s = s + len := by
        refine run_u _ s (s + len) (by omega) o3 (by omega) (fun i i0 i1 => srt_1.mp ((ht i i0 i1).trans o2)) ?_
        rcases e with e | e
        · exact Or.inl e
        · right
          cases z : ltr (b (s + len)) with
          | false => rfl
          | true => exact absurd ((srt_1.mpr z).trans o2.symm) e
      rw [r]; split <;> rfl
    · have lt := srt_2.mp (ts.trans o2)
      have nl : ¬ ltr (b s) = true := fun z => by have := srt_1.mpr z; omega
      rw [if_neg nl, if_pos lt]
      have r : run dgt b n (n - s).toNat s = s + len := by
        refine run_u _ s (s + len) (by omega) o3 (by omega) (fun i i0 i1 => srt_2.mp ((ht i i0 i1).trans o2)) ?_
        rcases e with e | e
        · exact Or.inl e
        · right
          cases z : dgt (b (s + len)) with
          | false => rfl
          | true => exact absurd ((srt_2.mpr z).trans o2.symm) e
      rw [r]; split <;> rfl
  refine ⟨fun j hj => ?_, by omega, o3, ?_, fun i i0 i1 => ?_⟩
  · by_cases q : j < c
    · exact o1 j q
    · have : j = c := by omega
      subst this
      unfold Dn
      rw [tk, te, tg.2.2.1]
      refine ⟨?_, ?_⟩
      · rw [ne_eq, tg.2.2.2.1]; omega
      · rw [ts, show (s + (len : Int) - s).toNat = len by omega]; exact en
  · show tke (tkn b n c) ≤ _
    rw [tk, te]; omega
  · have : pos b n (c + 1) = s + len := by show tke (tkn b n c) = _; rw [tk, te]
    omega
theorem Ent_mv {g k : HP} {b : Int → Int} {j : Nat} {t s : Int} {len : Nat} (e : Ent g b j t s len) (m : hA k 100 j = hA g 100 j ∧ hA k 101 j = hA g 101 j ∧ hA k 102 j = hA g 102 j ∧ hL k 103 j = hL g 103 j) : Ent k b j t s len := by
  unfold Ent at *
  rw [m.1, m.2.1, m.2.2.1, m.2.2.2]; exact e
theorem sgn_e {b : Int → Int} {n s : Int} (hs : s < n) (h : srt (b s) = 3) : tokS b n s = (if sgn (b s) = true then b s else 1, s, b s, s + 1) := by
  unfold tokS
  have nl : ¬ ltr (b s) = true := fun z => by have := srt_1.mpr z; omega
  have nd : ¬ dgt (b s) = true := fun z => by have := srt_2.mpr z; omega
  rw [if_neg (by omega), if_neg nl, if_neg nd]
  split <;> rfl
section
variable {h : HP} {b : Int → Int} {n : Int}
theorem wv_nn {s : Int} : ∀ len : Nat, (∀ i, s ≤ i → i < s + len → ltr (b i) = true) → 0 ≤ wv b s len := by
  intro len
  induction len with
  | zero => intro _; exact Int.le_refl _
  | succ len ih =>
    intro hl
    have a := ih (fun i i0 i1 => hl i i0 (by omega))
    have l := hl (s + len) (by omega) (by omega)
    simp only [ltr, decide_eq_true_eq] at l
    simp only [wv]; omega
theorem readL (S : CS h) (tb : TB h 1 b n) (n0 : 0 ≤ n) (n1 : n ≤ 1200) {K : Nat → HP → Option HP} : ∀ (k m : Nat) (c : Nat) (p bf : Int) (g : HP), Co 0 LX h g → hI g 452 99 = i32 c → hI g 453 99 = i32 n → ((Cld g b n c p ∧ (bf = 0 ∨ bf = 3)) ∨ (∃ c', c = c' + 1 ∧ Opn g b n c' p bf)) → 0 ≤ p → n ≤ p + k → k < m → ∃ g2, ∃ c2 : Nat, lX7_read_15 K m 99 (some 1) (i32 n) (i32 bf) (i32 p) g = K 99 g2 ∧ Co 0 LX h g2 ∧ hI g2 452 99 = i32 c2 ∧ hI g2 453 99 = i32 n ∧ Cld g2 b n c2 n := by
  intro k
  have sz : ∀ x : Nat, x ≤ 114 → x < hsz h := fun x hx => Nat.lt_of_le_of_lt hx (isO_lt S.o_writer)
  have pn : ∀ (c : Nat) (p bf : Int) (g : HP), ((Cld g b n c p ∧ (bf = 0 ∨ bf = 3)) ∨ (∃ c', c = c' + 1 ∧ Opn g b n c' p bf)) → p ≤ n := by
    rintro c p bf g (⟨q, _⟩ | ⟨c', _, q⟩)
    · exact q.2.2.1
    · exact q.2.2.1
  have toC : ∀ (c : Nat) (p bf : Int) (g : HP), ((Cld g b n c p ∧ (bf = 0 ∨ bf = 3)) ∨ (∃ c', c = c' + 1 ∧ Opn g b n c' p bf)) → (p = n ∨ srt (b p) ≠ bf ∨ srt (b p) = 0 ∨ srt (b p) = 3) → Cld g b n c p := by
    rintro c p bf g (⟨q, _⟩ | ⟨c', rfl, q⟩) w
    · exact q
    · refine close_s q ?_
      rcases w with w | w | w | w
      · exact Or.inl w
      · exact Or.inr w
      · right; have := q.2.1; omega
      · right; have := q.2.1; omega
  induction k with
  | zero =>
    intro m c p bf g q hc hn st p0 pk hm
    obtain ⟨m, rfl⟩ : ∃ j, m = j + 1 := ⟨m - 1, by omega⟩
    have := pn c p bf g st
    rw [elX7_read_15]; unfold bX7_read_15
    simp (disch := omega) only [i32_le]
    rw [if_pos (by omega)]
    have e : p = n := by omega
    exact ⟨g, c, rfl, q, hc, hn, e ▸ toC c p bf g st (Or.inl e)⟩
  | succ k ih =>
    intro m c p bf g q hc hn st p0 pk hm
    obtain ⟨m, rfl⟩ : ∃ j, m = j + 1 := ⟨m - 1, by omega⟩
    have pl := pn c p bf g st
    by_cases e : p = n
    · rw [elX7_read_15]; unfold bX7_read_15
      simp (disch := omega) only [i32_le]
      rw [if_pos (by omega)]
      exact ⟨g, c, rfl, q, hc, hn, e ▸ toC c p bf g st (Or.inl e)⟩
    have S' := S.sk q.sk
    obtain ⟨t1, t2, t3⟩ := tb p p0 (by omega)
    have hb : hA g 1 p.toNat = i32 (b p) := by rw [q.A (sz 1 (by omega)) (by decide)]; exact t1
    have sr := srt_rng (b p)
    have bfr : 0 ≤ bf ∧ bf ≤ 3 := by
      rcases st with ⟨_, z⟩ | ⟨_, _, z⟩
      · omega
      · have := z.2.1; omega
    rw [elX7_read_15]; unfold bX7_read_15 jX7_read_62 jX7_read_70 jX7_read_83
    have k1 : ¬ i32 n ≤ i32 p := by rw [i32_le (by omega) (by omega) (by omega) (by omega)]; omega
    have k2 : ¬ i32 ((1200 : Nat) : Int) ≤ i32 p := by rw [i32_le (by omega) (by omega) (by omega) (by omega)]; omega
    have k3 : ¬ i32 1200 ≤ i32 p := k2
    rw [if_neg k1, oc_s, S'.o_tape, gd_tt, S'.n_tape, i32_nat, if_neg k2, if_neg k3, i32_inb (by omega) (by omega) (by omega), gd_tt, i32_cn (by omega) (by omega), hb, csort_s t2 t3, bn_s]
    -- a token begins here
    have fresh : srt (b p) ≠ 0 → (srt (b p) ≠ bf ∨ srt (b p) = 3) → ∃ g2, ∃ c2 : Nat, (bn (fX7_beginToken 99 (i32 p) (i32 (srt (b p))) g) fun h103 => if srt (b p) = 0 then lX7_read_15 K m 99 (some 1) (i32 n) (i32 (srt (b p))) (i32 (p + 1)) h103 else gd (isO h103 1 21) (gd (inb (i32 p) (hln h103 1)) (gd (isO h103 99 7) (bn (fX7_extend 99 (hA h103 1 p.toNat) h103) fun h107 => lX7_read_15 K m 99 (some 1) (i32 n) (i32 (srt (b p))) (i32 (p + 1)) h107)))) = K 99 g2 ∧ Co 0 LX h g2 ∧ hI g2 452 99 = i32 c2 ∧ hI g2 453 99 = i32 n ∧ Cld g2 b n c2 n := by
      intro z0 z1
      obtain ⟨d1, d2, d3, d4, d5⟩ := toC c p bf g st (by omega)
      obtain ⟨g3, e3, q3, c3, f3, n3, o3⟩ := begin_s (b := b) S' hc (by omega) (t := srt (b p)) (s := p)
      have S3 := S'.sk q3.sk
      have q3' : Co 0 LX h g3 := q.t0 q3
      have ex := extend_s (b := b) S3 (c := c) c3 (by omega) (t := srt (b p)) (s := p) (len := 0) (by omega) sr.2 (by rw [show p + ((0 : Nat) : Int) = p by omega]) n3 (by decide) (fun _ => rfl) (fun _ _ => Int.le_refl _) (by rw [show p + ((0 : Nat) : Int) = p by omega]; exact ⟨t2, t3⟩)
      rw [show p + ((0 : Nat) : Int) = p by omega] at ex
      obtain ⟨g4, e4, q4, f4, n4, o4⟩ := ex
      have hb3 : hA g3 1 p.toNat = i32 (b p) := by rw [q3'.A (sz 1 (by omega)) (by decide)]; exact t1
      simp (disch := omega) only [e3, bn_s, S3.o_tape, S3.n_tape, gd_tt, i32_inb, S3.o_tokens, hb3, e4]
      rw [if_neg z0]
      have q4' : Co 0 LX h g4 := q3'.t0 q4
      have old : ∀ j, j < c → Dn g4 b n j := fun j hj => by
        obtain ⟨y1, y2⟩ := d1 j hj
        have a := o3 j (by omega)
        have a' := o4 j (by omega)
        exact ⟨y1, Ent_mv (Ent_mv y2 a) a'⟩
      have hc4 : hI g4 452 99 = i32 ((c + 1 : Nat) : Int) := by rw [f4, c3]; rfl
      have hn4 : hI g4 453 99 = i32 n := by rw [f4, f3 453 (by decide)]; exact hn
      refine ih m (c + 1) (p + 1) (srt (b p)) g4 q4' hc4 hn4 ?_ (by omega) (by omega) (by omega)
      have nw : wht (b p) = false := by
        cases y : wht (b p) with
        | false => rfl
        | true => exact absurd (srt_0.mpr y) z0
      by_cases z3 : srt (b p) = 3
      · left
        refine ⟨?_, Or.inr z3⟩
        have ls := lxs_u d4 (show p ≤ n by omega) d5 (Or.inr nw)
        have tk : tkn b n c = (if sgn (b p) = true then b p else 1, p, b p, p + 1) := by
          rw [tkn_e]; show tokS b n (lxs b n _) = _; rw [ls]; exact sgn_e (by omega) z3
        have te : pos b n (c + 1) = p + 1 := by show tke (tkn b n c) = _; rw [tk]; rfl
        refine ⟨fun j hj => ?_, by omega, by omega, by omega, fun i i0 i1 => by omega⟩
        by_cases y : j < c
        · exact old j y
        · have : j = c := by omega
          subst this
          unfold Dn
          rw [tk]
          refine ⟨?_, ?_⟩
          · show (if sgn (b p) = true then b p else 1) ≠ 0
            split
            · rename_i y2; simp only [sgn, decide_eq_true_eq] at y2; omega
            · decide
          · show Ent g4 b j (srt (b p)) p (p + 1 - p).toNat
            rw [show (p + 1 - p).toNat = 0 + 1 by omega]; exact n4
      · right
        refine ⟨c, rfl, old, by omega, by omega, p, 1, rfl, by decide, by omega, d4, d5, fun i i0 i1 => by rw [show i = p by omega], n4⟩
    by_cases z3 : srt (b p) = 3
    · rw [if_pos (by rw [z3])]
      simp (disch := omega) only [i32_eq, i32_z, lt_e, i32_add, S'.o_tokens, gd_tt, oc_s]
      exact fresh (by omega) (Or.inr z3)
    rw [if_neg (by rw [i32_eq (by omega) (by omega) (by omega) (by omega)]; exact z3)]
    by_cases z0 : srt (b p) = 0
    · rw [if_pos (by rw [z0]; rfl), if_pos (by rw [z0]; rfl), i32_add, lt_e]
      obtain ⟨d1, d2, d3, d4, d5⟩ := toC c p bf g st (by omega)
      refine ih m c (p + 1) (srt (b p)) g q hc hn (Or.inl ⟨⟨d1, by omega, by omega, by omega, fun i i0 i1 => ?_⟩, Or.inl z0⟩) (by omega) (by omega) (by omega)
      by_cases y : i = p
      · rw [y]; exact srt_0.mp z0
      · exact d5 i i0 (by omega)
    have kz0 : ¬ i32 (srt (b p)) = 0 := by rw [i32_z, i32_eq (by omega) (by omega) (by omega) (by omega)]; exact z0
    rw [if_neg kz0]
    by_cases zb : srt (b p) = bf
    · rw [if_pos (by rw [zb]), if_neg kz0]
      rcases st with ⟨_, z⟩ | ⟨c', rfl, o1, o2, o3, s, len, rfl, l0, cs, ps, hw, ht, en⟩
      · omega
      have htp : ∀ i, s ≤ i → i < s + len + 1 → srt (b i) = bf := fun i i0 i1 => by
        by_cases y : i = s + len
        · rw [y]; exact zb
        · exact ht i i0 (by omega)
      obtain ⟨g4, e4, q4, f4, n4, o4⟩ := extend_s (b := b) S' (c := c') hc (by omega) (t := bf) (s := s) (len := len) (by omega) (by omega) zb en (by omega) (fun y => by omega) (fun y _ => wv_nn len (fun i i0 i1 => srt_1.mp ((ht i i0 i1).trans y))) ⟨t2, t3⟩
      simp (disch := omega) only [oc_s, S'.o_tape, S'.n_tape, S'.o_tokens, gd_tt, i32_inb, i32_cn, hb, e4, bn_s, lt_e, i32_add]
      refine ih m (c' + 1) (s + len + 1) (srt (b (s + len))) g4 (q.t0 q4) (by rw [f4]; exact hc) (by rw [f4]; exact hn) ?_ (by omega) (by omega) (by omega)
      right
      refine ⟨c', rfl, fun j hj => ?_, by omega, by omega, s, len + 1, by omega, by omega, cs, ps, hw, fun i i0 i1 => (htp i i0 i1).trans zb.symm, by rw [zb]; exact n4⟩
      obtain ⟨y1, y2⟩ := o1 j hj
      exact ⟨y1, Ent_mv y2 (o4 j (by omega))⟩
    · rw [if_neg (by rw [i32_eq (by omega) (by omega) (by omega) (by omega)]; exact zb)]
      simp (disch := omega) only [i32_eq, i32_z, lt_e, i32_add, S'.o_tokens, gd_tt, oc_s]
      exact fresh z0 (Or.inl zb)
end

