theorem cnameTest {g : HP} {b : Int → Int} {n : Int} {c j : Nat} {S : List TS} {ts : Nat → Nat} {ow : Int} (n0 : 0 ≤ n) (n1 : n ≤ 1200) (P : CP g b n c j S ts) (tk : tkk (tkn b n j) = 2) (ho : hI g 195 62 = i32 ow) : ∃ r g', fX3_nameTest 62 g = some (r, g') ∧ PoT b n c 1 g j S ts (pname (tkn b n) ow j S) r g' := by
  obtain ⟨jc, cn⟩ := P.1.jn n0 (by omega)
  have sl := P.le
  have ln := P.ln
  have v := P.1.v (by omega) (by omega)
  have ev : cvt (tkn b n j) = lft (tkv (tkn b n j)) := by unfold cvt; rw [if_pos (Or.inl tk)]
  rw [ev] at v
  obtain ⟨a, ha⟩ : ∃ a, a = hsz g := ⟨_, rfl⟩
  have a0 : 1008 ≤ a := by have := P.1.sz; omega
  obtain ⟨g5, e5⟩ : ∃ g5, g5 = sI (sI (nw g 6 0 6) 387 a (i32 (-2))) 384 a (i32 2) := ⟨_, rfl⟩
  have q5 : Co 1 lpP g g5 := by rw [e5]; exact ((Co_N 6).fI (by omega) _).fI (by omega) _
  have C5 := P.1.cs.sk q5.sk
  have oa5 : isO g5 a 6 = true := by rw [e5, roI, roI]; exact isO_new ha.symm rfl
  have z0 : hsz g5 = a + 1 := by rw [e5, rsI, rsI, rsN, ha]
  obtain ⟨g34, e34⟩ : ∃ g34, g34 = sI (sA (sA (sL (sQ g5 105 S.length (some a)) 106 S.length (i64 (lft (tkv (tkn b n j))))) 107 S.length (i32 (tks (tkn b n j)))) 108 S.length (i32 ow)) 196 62 (i32 (S.length + 1)) := ⟨_, rfl⟩
  have q34 : Co 0 lpP g5 g34 := by
    rw [e34]; exact ((((Co_Q (by decide) C5.o_terms _ _).t (Co_L (by decide) _ _)).t (Co_A (by decide) _ _)).t (Co_A (by decide) _ _)).t (Co_I (by decide) _)
  have Q34 : Co 1 lpP g g34 := q5.t q34
  have C34 := C5.sk q34.sk
  have F : ∀ f, hI g34 f a = hI g5 f a ∧ hR g34 f a = hR g5 f a := fun f => by
    rw [e34, rII, if_neg (by omega), rIA, rIA, rIL, rIQ, rRI, rRA, rRA, rRL, rRQ]
    exact ⟨rfl, rfl⟩
  have a384 : hI g34 384 a = i32 2 := by rw [(F _).1, e5, rII, if_pos ⟨rfl, rfl⟩]
  have a388 : hI g34 388 a = 0 := by rw [(F _).1, e5, rII, if_neg (fun z => absurd z.1 (by decide)), rII, if_neg (fun z => absurd z.1 (by decide)), rIN, if_pos ha]
  have a389 : hI g34 389 a = 0 := by rw [(F _).1, e5, rII, if_neg (fun z => absurd z.1 (by decide)), rII, if_neg (fun z => absurd z.1 (by decide)), rIN, if_pos ha]
  have a386 : hR g34 386 a = none := by rw [(F _).2, e5, rRI, rRI, rRN, if_pos ha]
  have oa34 : isO g34 a 6 = true := isO_sk q34.sk oa5
  have z34 : hsz g34 = a + 1 := by rw [e34]; exact z0
  have sz := fun {x} (hx : x ≤ 114) => sz_le P.1.cs (x := x) hx
  have t105 : ∀ k, hQ g34 105 k = if k = S.length then some a else hQ g 105 k := fun k => by
    rw [e34, rQI, rQA, rQA, rQL, rQQ]
    by_cases w : k = S.length
    · rw [if_pos ⟨rfl, w⟩, if_pos w]
    · rw [if_neg (fun z => w z.2), if_neg w, e5, rQI, rQI, rQN, if_neg (by have := sz (x := 105) (by decide); omega)]
  have t106 : ∀ k, hL g34 106 k = if k = S.length then i64 (lft (tkv (tkn b n j))) else hL g 106 k := fun k => by
    rw [e34, rLI, rLA, rLA, rLL]
    by_cases w : k = S.length
    · rw [if_pos ⟨rfl, w⟩, if_pos w]
    · rw [if_neg (fun z => w z.2), if_neg w, rLQ, e5, rLI, rLI, rLN, if_neg (by have := sz (x := 106) (by decide); omega)]
  have t107 : ∀ k, hA g34 107 k = if k = S.length then i32 (tks (tkn b n j)) else hA g 107 k := fun k => by
    rw [e34, rAI, rAA, if_neg (fun z => absurd z.1 (by decide)), rAA]
    by_cases w : k = S.length
    · rw [if_pos ⟨rfl, w⟩, if_pos w]
    · rw [if_neg (fun z => w z.2), if_neg w, rAL, rAQ, e5, rAI, rAI, rAN, if_neg (by have := sz (x := 107) (by decide); omega)]
  have t108 : ∀ k, hA g34 108 k = if k = S.length then i32 ow else hA g 108 k := fun k => by
    rw [e34, rAI, rAA]
    by_cases w : k = S.length
    · rw [if_pos ⟨rfl, w⟩, if_pos w]
    · rw [if_neg (fun z => w z.2), if_neg w, rAA, if_neg (fun z => absurd z.1 (by decide)), rAL, rAQ, e5, rAI, rAI, rAN, if_neg (by have := sz (x := 108) (by decide); omega)]
  -- the table with the new test, once its sign and number stand
  have tab : ∀ (g' : HP) (s v : Int), Sk g34 g' → (∀ x, 1008 ≤ x → x < a → ∀ f, (f = 384 ∨ f = 388 ∨ f = 389) → hI g' f x = hI g34 f x) → (∀ k, hQ g' 105 k = hQ g34 105 k ∧ hL g' 106 k = hL g34 106 k ∧ hA g' 107 k = hA g34 107 k ∧ hA g' 108 k = hA g34 108 k) → hI g' 384 a = i32 2 → hI g' 388 a = i32 (sby s) → hI g' 389 a = i32 v → Tbl g' (S ++ [(tkv (tkn b n j), tks (tkn b n j), ow, s, v)]) (up1 ts S.length a) := by
    intro g' s v sk i4 i5 i6 i7 i8 k x hk
    obtain ⟨i51, i52, i53, i54⟩ := i5 k
    rw [t105] at i51; rw [t106] at i52; rw [t107] at i53; rw [t108] at i54
    by_cases w : k = S.length
    · subst w
      rw [List.getElem?_append_right (Nat.le_refl _)] at hk
      simp at hk
      subst hk
      simp only [if_pos] at i51 i52 i53 i54
      refine ⟨?_, ?_, ?_, ?_, ?_, ?_, ?_, ?_, ?_⟩ <;> simp only [up1, if_pos]
      · rw [i51]
      · simpa using a0
      · simpa using isO_sk sk oa34
      · simpa using i6
      · simpa using i7
      · simpa using i8
      · exact i52
      · exact i53
      · exact i54
    · rw [if_neg w] at i51 i52 i53 i54
      have hk' : S[k]? = some x := by
        rw [List.getElem?_append_left] at hk
        · exact hk
        · apply Classical.byContradiction
          intro z
          rw [List.getElem?_append_right (by omega)] at hk
          rw [List.getElem?_eq_none (by simp; omega)] at hk
          cases hk
      obtain ⟨b1, b2, b3, b4, b5, b6, b7, b8, b9⟩ := P.2.2.2 k x hk'
      have tl := isO_lt b3
      have eI : ∀ f, (f = 384 ∨ f = 388 ∨ f = 389) → hI g' f (ts k) = hI g f (ts k) := fun f hf => by
        rw [i4 (ts k) b2 (by omega) f hf]
        exact Q34.I tl (by simp [lpP]; omega) (by simp [lpP]; omega)
      have eu : up1 ts S.length a k = ts k := by unfold up1; rw [if_neg w]
      rw [eu]
      refine ⟨i51.trans b1, b2, isO_sk sk (isO_sk Q34.sk b3), ?_, ?_, ?_, i52.trans b7, i53.trans b8, i54.trans b9⟩
      · rw [eI _ (by decide)]; exact b4
      · rw [eI _ (by decide)]; exact b5
      · rw [eI _ (by decide)]; exact b6
  have oN : isO (nw g 6 0 6) a 6 = true := isO_new ha.symm rfl
  have I5 : ∀ f x, x < a → hI g5 f x = hI g f x := fun f x hx => by
    rw [e5, rII, if_neg (by omega), rII, if_neg (by omega), rIN, if_neg (by omega)]
  have J5 : ∀ f x, x < a → hJ g5 f x = hJ g f x := fun f x hx => by
    rw [e5, rJI, rJI, rJN, if_neg (by omega)]
  have s99 : (99 : Nat) < a := by omega
  have s62 : (62 : Nat) < a := by omega
  have T34 : CTk g34 b n c := (P.1.2.2.1.co P.1.cs Q34 (by decide))
  have t34 : CTt g34 b n j := by
    obtain ⟨u1, u2, u3, u4⟩ := P.1.2.2.2
    have w : ∀ f, f ≠ 196 → hI g34 f 99 = hI g f 99 := fun f hf => by
      rw [e34, rII, if_neg (by omega), rIA, rIA, rIL, rIQ]
      exact I5 f 99 s99
    refine ⟨by rw [w _ (by decide)]; exact u1, by rw [w _ (by decide)]; exact u2, by rw [w _ (by decide)]; exact u3, fun x y => ?_⟩
    rw [e34, rJI, rJA, rJA, rJL, rJQ, J5 _ _ s99]; exact u4 x y
  obtain ⟨g39, e39, q39, t39⟩ := step_s C34 n0 n1 T34 (j := j) (by omega) (by omega) t34.1
  rw [show ((j : Int) + 1).toNat = j + 1 by omega] at t39
  have C39 := C34.sk q39.sk
  have T39 : CTk g39 b n c := T34.co C34 q39 (by decide)
  have Q39 : Co 1 lpP g g39 := Q34.t0 (q39.w (by decide))
  have oa39 : isO g39 a 6 = true := isO_sk q39.sk oa34
  have al34 : a < hsz g34 := by omega
  have z39 : hsz g39 = a + 1 := by
    have := q39.2.1
    have := q39.sk.1
    omega
  have o2 : isO (sI (nw g 6 0 6) 387 a (i32 (-2))) a 6 = true := oN
  unfold fX3_nameTest fX6_init
  rw [P.1.cs.o_parser, gd_tt, ln, if_neg (by rw [i32_z, i32_lt (by omega) (by omega) (by omega) (by omega)]; omega), if_pos (by rw [i32_lt (by omega) (by omega) (by omega) (by omega)]; omega), ← ha, lt_e, lt_e, oN, gd_tt, lt_e, lt_e, ← e5, bn_s]
  simp (disch := omega) only [C5.o_parser, C5.r_terms, C5.o_terms, C5.n_terms, oa5, gd_tt, oc_s, I5 _ _ s62, ln, i32_inb, i32_cn, Int.toNat_natCast]
  obtain ⟨k1, f1⟩ : ∃ k1, k1 = sQ g5 105 S.length (some a) := ⟨_, rfl⟩
  obtain ⟨k2, f2⟩ : ∃ k2, k2 = sL k1 106 S.length (i64 (lft (tkv (tkn b n j)))) := ⟨_, rfl⟩
  obtain ⟨k3, f3⟩ : ∃ k3, k3 = sA k2 107 S.length (i32 (tks (tkn b n j))) := ⟨_, rfl⟩
  obtain ⟨k4, f4⟩ : ∃ k4, k4 = sA k3 108 S.length (i32 ow) := ⟨_, rfl⟩
  have K1 : CS k1 := by rw [f1]; exact C5.sk (sk_sQ rfl C5.o_terms)
  have K2 : CS k2 := by rw [f2]; exact K1.sk (sk_sL rfl)
  have K3 : CS k3 := by rw [f3]; exact K2.sk (sk_sA rfl)
  have K4 : CS k4 := by rw [f4]; exact K3.sk (sk_sA rfl)
  have I1 : hI k1 = hI g5 := by rw [f1]; rfl
  have J1 : hJ k1 = hJ g5 := by rw [f1]; rfl
  have I2 : hI k2 = hI g5 := by rw [f2, rIL, I1]
  have I3 : hI k3 = hI g5 := by rw [f3, rIA, I2]
  have I4 : hI k4 = hI g5 := by rw [f4, rIA, I3]
  have E34 : sI k4 196 62 (i32 ((S.length : Int) + 1)) = g34 := by rw [e34, f4, f3, f2, f1]
  rw [lt_e, ← f1]
  simp (disch := omega) only [K1.r_tokens, K1.o_tokens, K1.r_tnames, K1.o_tnames, K1.n_tnames, gd_tt, oc_s, I1, J1, J5 _ _ s99, v, I5 _ _ s62, ln, i32_inb, i32_cn, Int.toNat_natCast]
  rw [lt_e, ← f2]
  simp (disch := omega) only [K2.r_tokens, K2.o_tokens, K2.r_tstarts, K2.o_tstarts, K2.n_tstarts, gd_tt, oc_s, I2, I5 _ _ s99, P.1.s, I5 _ _ s62, ln, i32_inb, i32_cn, Int.toNat_natCast]
  rw [lt_e, ← f3]
  simp (disch := omega) only [K3.r_towners, K3.o_towners, K3.n_towners, gd_tt, oc_s, I3, I5 _ _ s62, ho, ln, i32_inb, i32_cn, Int.toNat_natCast]
  rw [lt_e, ← f4]
  simp (disch := omega) only [I4, I5 _ _ s62, ln, i32_add]
  rw [lt_e, E34]
  simp only [C34.r_tokens, C34.o_tokens, gd_tt, oc_s, e39, bn_s, C39.o_parser, C39.r_tokens, C39.o_tokens, t39.2.1]
  rw [lt_e]
  -- the table at the end, with neither sign nor number
  have tv := tk_val (b := b) n0 (j + 1)
  have tr : 0 ≤ tkk (tkn b n (j + 1)) ∧ tkk (tkn b n (j + 1)) < 128 := by omega
  simp (disch := omega) only [i32_eq]
  have I39 : ∀ f, hI g39 f a = if f = 448 ∨ f = 449 ∨ f = 450 ∨ f = 451 then hI g39 f a else hI g34 f a := fun f => by
    by_cases w : f = 448 ∨ f = 449 ∨ f = 450 ∨ f = 451
    · rw [if_pos w]
    · rw [if_neg w]; exact q39.I al34 (by simp; omega) (by simp; omega)
  have lenS : ∀ x : TS, (S ++ [x]).length = S.length + 1 := fun x => by simp
  have er39 : hI g39 192 62 = i32 (-2) := by
    rw [q39.I (sz_le C34 (by decide)) (by decide) (by decide), e34, rII, if_neg (by omega), rIA, rIA, rIL, rIQ, e5, rII, if_neg (by omega), rII, if_neg (by omega), rIN, if_neg (by have := sz (x := 62) (by decide); omega)]
    exact P.1.er
  have i196 : ∀ {g' : HP} {m : Nat} {l : List Nat}, Co m l g34 g' → l.contains 196 = false → l.contains 5062 = false → hI g' 196 62 = i32 ((S.length + 1 : Nat) : Int) := fun q w1 w2 => by
    rw [q.I (by omega) w1 w2, e34, rII, if_pos ⟨rfl, rfl⟩]; rfl
  by_cases c0 : sg (tkk (tkn b n (j + 1))) = 0
  · have n61 : ¬ tkk (tkn b n (j + 1)) = 61 := fun z => by rw [z] at c0; exact absurd c0 (by decide)
    have n60 : ¬ tkk (tkn b n (j + 1)) = 60 := fun z => by rw [z] at c0; exact absurd c0 (by decide)
    have n62 : ¬ tkk (tkn b n (j + 1)) = 62 := fun z => by rw [z] at c0; exact absurd c0 (by decide)
    rw [if_neg n61, if_neg n60, if_neg n62]
    unfold jX3_nameTest_155 pname
    have b384 : hI g39 384 a = i32 2 := by rw [I39, if_neg (by decide)]; exact a384
    have b388 : hI g39 388 a = 0 := by rw [I39, if_neg (by decide)]; exact a388
    have b389 : hI g39 389 a = 0 := by rw [I39, if_neg (by decide)]; exact a389
    rw [if_pos c0]
    simp only [oa39, gd_tt, b389]
    rw [if_pos (by decide)]
    refine ⟨_, _, rfl, Nat.le_succ j, ?_, fun _ => ⟨⟨Nat.lt_succ_self j, by show j + 1 ≤ c; omega⟩, a, up1 ts S.length a, rfl, ?_, fun k hk => ?_, ?_, ?_, ?_⟩, fun z => by cases z⟩
    · show Co (j + 1 - j) lpP g g39
      rw [show j + 1 - j = 1 by omega]; exact Q39
    · refine ⟨⟨C39, ⟨by omega, er39⟩, T39, t39⟩, ?_, ?_, ?_⟩
      · show (S ++ _).length ≤ j + 1
        rw [lenS]; omega
      · show hI g39 196 62 = i32 ((S ++ _).length : Int)
        rw [lenS]; exact i196 q39 (by decide) (by decide)
      · refine tab g39 0 0 q39.sk (fun x hx hx2 f hf => ?_) (fun k => ?_) b384 b388 b389
        · exact q39.I (by omega) (by simp; omega) (tk_nb hx)
        · exact ⟨by rw [q39.Q (by omega) (by decide)], by rw [q39.L (by omega) (by decide)], by rw [q39.A (by omega) (by decide)], by rw [q39.A (by omega) (by decide)]⟩
    · unfold up1; rw [if_neg (by omega)]
    · show S.length ≤ (S ++ _).length
      rw [lenS]; omega
    · refine ⟨by omega, by omega, oa39, Or.inl ⟨b384, _, rfl, ?_⟩⟩
      refine ⟨S.length, ?_, rfl, ?_⟩
      · show S.length < (S ++ _).length
        rw [lenS]; omega
      · unfold up1; rw [if_pos rfl]
    · rw [q39.R al34 (by decide) (by simp; omega)]; exact a386
  · have br : ∀ (K : Int), tkk (tkn b n (j + 1)) = K → (K = 61 ∨ K = 60 ∨ K = 62) → ∃ r g', jX3_nameTest_131 62 a (i32 K) g39 = some (r, g') ∧ PoT b n c 1 g j S ts (pname (tkn b n) ow j S) r g' := by
      intro K hK hk
      have Q1 : CQ g39 b n c (j + 1) := ⟨C39, ⟨by omega, er39⟩, T39, t39⟩
      obtain ⟨g106, e106, q106, Q2⟩ := Q1.step n0 n1 (by omega)
      have oa106 : isO g106 a 6 = true := isO_sk q106.sk oa39
      obtain ⟨g108, e108⟩ : ∃ g108, g108 = sI g106 388 a (i32 K) := ⟨_, rfl⟩
      have q108 : Co 0 [5000 + a] g106 g108 := by rw [e108]; exact Co_I (Or.inr (by simp)) _
      have Q3 : CQ g108 b n c (j + 2) := Q2.co q108 (by simp; omega)
      have Q106 : Co 1 lpP g g106 := Q39.t0 (q106.w (by decide))
      have Q108 : Co 1 lpP g g108 := by rw [e108]; exact Q106.fI (by omega) _
      have oa108 : isO g108 a 6 = true := isO_sk q108.sk oa106
      have al106 : a < hsz g39 := by omega
      have al108 : a < hsz g108 := isO_lt oa108
      have z108 : hsz g108 = a + 1 := by
        have := q106.2.1
        have := q106.sk.1
        rw [e108, rsI]; omega
      have c0' : sg (tkk (tkn b n (j + 1))) ≠ 0 := c0
      have sbK : sby (sg K) = K := by rcases hk with rfl | rfl | rfl <;> rfl
      have b384 : hI g108 384 a = i32 2 := by rw [e108, rII, if_neg (fun z => absurd z.1 (by decide)), q106.I al106 (by decide) (tk_nb a0), I39, if_neg (by decide)]; exact a384
      have b388 : hI g108 388 a = i32 K := by rw [e108, rII, if_pos ⟨rfl, rfl⟩]
      have b386 : hR g108 386 a = none := by rw [e108, rRI, q106.R al106 (by decide) (tk_nb a0), q39.R al34 (by decide) (tk_nb a0)]; exact a386
      have st : ∀ x, 1008 ≤ x → x < a → ∀ f, (f = 384 ∨ f = 388 ∨ f = 389) → hI g108 f x = hI g34 f x := fun x hx hx2 f hf => by
        rw [e108, rII, if_neg (by omega), q106.I (by omega) (by simp; omega) (tk_nb hx), q39.I (by omega) (by simp; omega) (tk_nb hx)]
      have st2 : ∀ k, hQ g108 105 k = hQ g34 105 k ∧ hL g108 106 k = hL g34 106 k ∧ hA g108 107 k = hA g34 107 k ∧ hA g108 108 k = hA g34 108 k := fun k => by
        rw [e108]
        refine ⟨?_, ?_, ?_, ?_⟩
        · show hQ g106 105 k = _; rw [q106.Q (by omega) (by decide), q39.Q (by omega) (by decide)]
        · show hL g106 106 k = _; rw [q106.L (by omega) (by decide), q39.L (by omega) (by decide)]
        · show hA g106 107 k = _; rw [q106.A (by omega) (by decide), q39.A (by omega) (by decide)]
        · show hA g106 108 k = _; rw [q106.A (by omega) (by decide), q39.A (by omega) (by decide)]
      unfold jX3_nameTest_131 jX3_nameTest_155
      simp only [C39.o_parser, C39.r_tokens, C39.o_tokens, gd_tt, oc_s, e106, bn_s, oa106, lt_e, ← e108, Q3.cs.o_parser]
      have tv2 := tk_val (b := b) n0 (j + 2)
      rcases ctakeInt n0 n1 Q3 (by omega) (lo := 0) (hi := 9999) (by decide) (by decide) (by decide) (by decide) with ⟨k1, k2, k3, g112, e112, q112, Q4⟩ | ⟨k1, g112, e112, q112, er⟩
      · have oa112 : isO g112 a 6 = true := isO_sk q112.sk oa108
        obtain ⟨g114, e114⟩ : ∃ g114, g114 = sI g112 389 a (i32 (tkv (tkn b n (j + 2)))) := ⟨_, rfl⟩
        have q114 : Co 0 [5000 + a] g112 g114 := by rw [e114]; exact Co_I (Or.inr (by simp)) _
        have oa114 : isO g114 a 6 = true := isO_sk q114.sk oa112
        have i389 : hI g114 389 a = i32 (tkv (tkn b n (j + 2))) := by rw [e114, rII, if_pos ⟨rfl, rfl⟩]
        simp (disch := omega) only [e112, bn2_s, oa112, gd_tt, lt_e, ← e114, oa114, i389, i32_z, i32_le]
        rw [if_pos (by omega)]
        have pe : pname (tkn b n) ow j S = (true, j + 3, S ++ [(tkv (tkn b n j), tks (tkn b n j), ow, sg (tkk (tkn b n (j + 1))), tkv (tkn b n (j + 2)))], [4 + (S.length : Int)]) := by
          unfold pname; rw [if_neg c0', if_pos k1]
        rw [pe]
        have Q112 : Co 1 lpP g g112 := Q108.t0 (q112.w (by decide))
        have Q114 : Co 1 lpP g g114 := by rw [e114]; exact Q112.fI (by omega) _
        have al112 : a < hsz g112 := isO_lt oa112
        refine ⟨_, _, rfl, by show j ≤ j + 3; omega, ?_, fun _ => ⟨⟨by show j < j + 3; omega, by show j + 3 ≤ c; have := (Q3.jn n0 (by omega)).1; omega⟩, a, up1 ts S.length a, rfl, ?_, fun k hk => ?_, ?_, ?_, ?_⟩, fun z => by cases z⟩
        · exact Q114.up (by show 1 ≤ j + 3 - j; omega)
        · refine ⟨Q4.co q114 (by simp; omega), ?_, ?_, ?_⟩
          · show (S ++ _).length ≤ j + 3
            rw [lenS]; omega
          · show hI g114 196 62 = i32 ((S ++ _).length : Int)
            rw [lenS, e114, rII, if_neg (by omega), q112.I (by omega) (by decide) (by decide), e108, rII, if_neg (by omega), q106.I (by omega) (by decide) (by decide)]
            exact i196 q39 (by decide) (by decide)
          · refine tab g114 (sg (tkk (tkn b n (j + 1)))) (tkv (tkn b n (j + 2))) ((((q39.sk.trans q106.sk).trans q108.sk).trans q112.sk).trans q114.sk) (fun x hx hx2 f hf => ?_) (fun k => ?_) ?_ ?_ i389
            · rw [e114, rII, if_neg (by omega), q112.I (by omega) (by simp; omega) (tk_nb hx)]; exact st x hx hx2 f hf
            · obtain ⟨w1, w2, w3, w4⟩ := st2 k
              rw [e114]
              refine ⟨?_, ?_, ?_, ?_⟩
              · show hQ g112 105 k = _; rw [q112.Q (by omega) (by decide)]; exact w1
              · show hL g112 106 k = _; rw [q112.L (by omega) (by decide)]; exact w2
              · show hA g112 107 k = _; rw [q112.A (by omega) (by decide)]; exact w3
              · show hA g112 108 k = _; rw [q112.A (by omega) (by decide)]; exact w4
            · rw [e114, rII, if_neg (fun z => absurd z.1 (by decide)), q112.I al108 (by decide) (tk_nb a0)]; exact b384
            · rw [e114, rII, if_neg (fun z => absurd z.1 (by decide)), q112.I al108 (by decide) (tk_nb a0), b388, hK, sbK]
        · unfold up1; rw [if_neg (by omega)]
        · show S.length ≤ (S ++ _).length
          rw [lenS]; omega
        · refine ⟨by omega, isO_lt oa114, oa114, Or.inl ⟨?_, _, rfl, S.length, ?_, rfl, ?_⟩⟩
          · rw [e114, rII, if_neg (fun z => absurd z.1 (by decide)), q112.I al108 (by decide) (tk_nb a0)]; exact b384
          · show S.length < (S ++ _).length
            rw [lenS]; omega
          · unfold up1; rw [if_pos rfl]
        · rw [e114, rRI, q112.R al108 (by decide) (tk_nb a0)]; exact b386
      · have oa112 : isO g112 a 6 = true := isO_sk q112.sk oa108
        obtain ⟨g114, e114⟩ : ∃ g114, g114 = sI g112 389 a (i32 (-1)) := ⟨_, rfl⟩
        have oa114 : isO g114 a 6 = true := by rw [e114]; exact oa112
        have i389 : hI g114 389 a = i32 (-1) := by rw [e114, rII, if_pos ⟨rfl, rfl⟩]
        simp (disch := omega) only [e112, bn2_s, oa112, gd_tt, lt_e, ← e114, oa114, i389, i32_z, i32_le]
        rw [if_neg (by decide)]
        have pe : pname (tkn b n) ow j S = (false, j + 2, S, []) := by
          unfold pname; rw [if_neg c0', if_neg (fun z => k1 ⟨z, (tv2.1 z).1, (tv2.1 z).2⟩)]
        rw [pe]
        have Q114 : Co 1 lpP g g114 := by rw [e114]; exact (Q108.t0 (q112.w (by decide))).fI (by omega) _
        refine ⟨_, _, rfl, by show j ≤ j + 2; omega, Q114.up (by show 1 ≤ j + 2 - j; omega), fun z => (by cases z), fun _ => ⟨rfl, ?_⟩⟩
        rw [e114, rII, if_neg (fun z => absurd z.1 (by decide))]; exact er
    by_cases d1 : tkk (tkn b n (j + 1)) = 61
    · rw [if_pos d1, d1]; exact br 61 d1 (Or.inl rfl)
    · rw [if_neg d1]
      by_cases d2 : tkk (tkn b n (j + 1)) = 60
      · rw [if_pos d2, d2]; exact br 60 d2 (Or.inr (Or.inl rfl))
      · rw [if_neg d2]
        by_cases d3 : tkk (tkn b n (j + 1)) = 62
        · rw [if_pos d3, d3]; exact br 62 d3 (Or.inr (Or.inr rfl))
        · exfalso; apply c0; unfold sg; rw [if_neg d1, if_neg d2, if_neg d3]

