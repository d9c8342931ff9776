/-! A TEXT IS NEVER READ BEHIND ITS END -/
section
variable {T : Nat → TK} {c : Nat}
def Tend (T : Nat → TK) (c : Nat) : Prop := ∀ j, c ≤ j → tkk (T j) = 0
theorem Tend.s (e : Tend T c) {j : Nat} (h : tkk (T j) ≠ 0) : j + 1 ≤ c := by
  by_cases w : c ≤ j
  · exact absurd (e j w) h
  · omega
theorem le_name (e : Tend T c) {ow : Int} {j : Nat} (S : List TS) (h : tkk (T j) = 2) : (pname T ow j S).2.1 ≤ c := by
  have a := e.s (j := j) (by omega)
  unfold pname
  by_cases c0 : sg (tkk (T (j + 1))) = 0
  · rw [if_pos c0]; exact a
  · rw [if_neg c0]
    have a1 : tkk (T (j + 1)) ≠ 0 := fun z => c0 (by rw [z]; rfl)
    have a2 := e.s a1
    by_cases c1 : tkk (T (j + 2)) = 3
    · rw [if_pos c1]; exact e.s (by omega)
    · rw [if_neg c1]; exact a2
theorem le_tail (e : Tend T c) {pt : Nat → List TS → PR} {w op : Int} (w0 : w ≠ 0) (hp : ∀ j S, j ≤ c → (pt j S).2.1 ≤ c) : ∀ (k j : Nat) (S : List TS) (L : List Int), j ≤ c → (ptail T pt w op k j S L).2.1 ≤ c := by
  intro k
  induction k with
  | zero => intro j S L a; exact a
  | succ k ih =>
    intro j S L a
    simp only [ptail]
    by_cases z : tkk (T j) = w
    · rw [if_pos z]
      have q := hp (j + 1) S (e.s (by rw [z]; exact w0))
      cases ok : (pt (j + 1) S).1 with
      | false => exact q
      | true => exact ih _ _ _ q
    · rw [if_neg z]; exact a
theorem le_ch (e : Tend T c) {pt : Nat → List TS → PR} {w op : Int} (w0 : w ≠ 0) (hp : ∀ j S, j ≤ c → (pt j S).2.1 ≤ c) : ∀ j S, j ≤ c → (pch T pt w op j S).2.1 ≤ c := by
  intro j S a
  unfold pch
  have q := hp j S a
  cases ok : (pt j S).1 with
  | false => exact q
  | true => exact le_tail e w0 hp _ _ _ _ q
theorem le_test (e : Tend T c) {ow : Int} : ∀ (q j : Nat) (S : List TS), j ≤ c → (ptest T ow q j S).2.1 ≤ c := by
  intro q
  induction q with
  | zero =>
    intro j S a
    unfold ptest
    by_cases c0 : tkk (T j) = 2
    · rw [if_pos c0]; exact le_name e S c0
    · rw [if_neg c0]; exact a
  | succ q ih =>
    intro j S a
    unfold ptest
    by_cases c0 : tkk (T j) = 2
    · rw [if_pos c0]; exact le_name e S c0
    rw [if_neg c0]
    by_cases c2 : tkk (T j) = 13
    · rw [if_pos c2]
      have r := ih (j + 1) S (e.s (by omega))
      cases ok : (ptest T ow q (j + 1) S).1 with
      | false => exact r
      | true => exact r
    rw [if_neg c2]
    by_cases c3 : tkk (T j) = 40
    · rw [if_pos c3]
      have r : (pdis T (ptest T ow q) (j + 1) S).2.1 ≤ c := le_ch e (by omega) (le_ch e (by omega) ih) (j + 1) S (e.s (by omega))
      cases ok : (pdis T (ptest T ow q) (j + 1) S).1 with
      | false => exact r
      | true =>
        show (if tkk (T (pdis T (ptest T ow q) (j + 1) S).2.1) = 41 then _ else _ : PR).2.1 ≤ c
        by_cases c4 : tkk (T (pdis T (ptest T ow q) (j + 1) S).2.1) = 41
        · rw [if_pos c4]; exact e.s (by omega)
        · rw [if_neg c4]; exact r
    · rw [if_neg c3]; exact a
theorem le_cond (e : Tend T c) {ow : Int} (j : Nat) (S : List TS) (a : j ≤ c) : (pcond T ow j S).2.1 ≤ c := le_ch e (by omega) (le_ch e (by omega) (le_test e 6)) j S a
theorem le_if (e : Tend T c) {was : Nat} {node : Int} {j : Nat} {F : Int → Int} {S : List TS} {LL : List Int} (a : j ≤ c) : (pif T was node j F S LL).2.1 ≤ c := by
  unfold pif
  by_cases z : tkk (T j) = 6
  · rw [if_pos z]
    have r := le_cond e (ow := node) (j + 1) S (e.s (by omega))
    cases ok : (pcond T node (j + 1) S).1 with
    | false => exact r
    | true => exact r
  · rw [if_neg z]; exact a
theorem le_end (e : Tend T c) {k : Int} {Z : ZR} (k0 : k ≠ 0) (a : Z.2.1 ≤ c) : (pend T k Z).2.1 ≤ c := by
  unfold pend
  by_cases z : Z.1 = true
  · rw [if_pos z]
    by_cases z2 : tkk (T Z.2.1) = k
    · rw [if_pos z2]; exact e.s (by rw [z2]; exact k0)
    · rw [if_neg z2]; exact a
  · rw [if_neg z]; exact a
theorem le_pin (e : Tend T c) {j : Nat} {lo hi : Int} (h : pin (T j) lo hi = true) : j + 1 ≤ c := e.s (by have := (pin_t.mp h).1; omega)
theorem le_num (e : Tend T c) {srt : Int} {j : Nat} (a : j ≤ c) : (pnum T srt j).2.1 ≤ c := by
  unfold pnum
  by_cases s0 : srt = 0
  · rw [if_pos s0]
    by_cases z : pin (T j) 0 9999 = true
    · rw [if_pos z]
      by_cases z2 : pin (T (j + 1)) (tkv (T j)) 9999 = true
      · rw [if_pos z2]; exact le_pin e z2
      · rw [if_neg z2]; exact le_pin e z
    · rw [if_neg z]; exact a
  rw [if_neg s0]
  by_cases s1 : srt = 1
  · rw [if_pos s1]
    by_cases z : pin (T j) 2 9 = true
    · rw [if_pos z]; exact le_pin e z
    · rw [if_neg z]; exact a
  · rw [if_neg s1]; exact a
theorem le_fldT (e : Tend T c) {was : Nat} {p ins srt lo hi : Int} {j : Nat} {F : Int → Int} {S : List TS} {LL : List Int} (a : j ≤ c) : (pfldT T was p ins srt lo hi j F S LL).2.1 ≤ c := by
  unfold pfldT
  by_cases z : nmOk F (T j) = true
  · rw [if_pos z]
    have a1 := e.s (j := j) (by have := (nmOk_t.mp z).1; omega)
    by_cases z2 : tkk (T (j + 1)) = 7
    · rw [if_pos z2]
      have a2 := e.s (j := j + 1) (by omega)
      by_cases z3 : pin (T (j + 2)) 1 10 = true
      · rw [if_pos z3]; exact le_end e (by omega) (le_if e (le_pin e z3))
      · rw [if_neg z3]; exact a2
    · rw [if_neg z2]; exact a1
  · rw [if_neg z]; exact a
theorem le_fld (e : Tend T c) {was : Nat} {p ins : Int} {j : Nat} {F : Int → Int} {S : List TS} {LL : List Int} (k8 : tkk (T j) ≠ 0) : (pfld T was p ins j F S LL).2.1 ≤ c := by
  have a := e.s k8
  unfold pfld
  by_cases z : F 289 < 24
  · rw [if_pos z]
    have r := le_num e (srt := tkk (T j) - 8) a
    cases ok : (pnum T (tkk (T j) - 8) (j + 1)).1 with
    | false => exact r
    | true => exact le_fldT e r
  · rw [if_neg z]; exact Nat.le_of_succ_le a
theorem le_grp (e : Tend T c) {was : Nat} {p ins : Int} {j : Nat} {F : Int → Int} {S : List TS} {LL : List Int} (k5 : tkk (T j) ≠ 0) : (pgrp T was p ins j F S LL).2.1 ≤ c := by
  have a := e.s k5
  unfold pgrp
  by_cases z : F 290 < 8 ∧ (ins < 0 ∨ dpt F 8 ins < 4)
  · rw [if_pos z]
    by_cases z2 : nmOk F (T (j + 1)) = true
    · rw [if_pos z2]; exact le_end e (by omega) (le_if e (e.s (j := j + 1) (by have := (nmOk_t.mp z2).1; omega)))
    · rw [if_neg z2]; exact a
  · rw [if_neg z]; exact Nat.le_of_succ_le a
theorem le_nod (e : Tend T c) {was : Nat} : ∀ (k : Nat) (p ins : Int) (op j : Nat) (F : Int → Int) (S : List TS) (LL : List Int), j ≤ c → (pnod T was k p ins op j F S LL).2.1 ≤ c := by
  intro k
  induction k with
  | zero => intro p ins op j F S LL a; exact a
  | succ k ih =>
    intro p ins op j F S LL a
    by_cases c8 : 8 ≤ tkk (T j) ∧ tkk (T j) ≤ 10
    · have r := le_fld e (was := was) (p := p) (ins := ins) (F := F) (S := S) (LL := LL) (j := j) (by omega)
      cases ok : (pfld T was p ins j F S LL).1 with
      | true => rw [pn_fld c8 ok]; exact ih _ _ _ _ _ _ _ r
      | false => rw [pn_fld0 c8 ok]; exact r
    by_cases c5 : tkk (T j) = 5
    · have r := le_grp e (was := was) (p := p) (ins := ins) (F := F) (S := S) (LL := LL) (j := j) (by omega)
      cases ok : (pgrp T was p ins j F S LL).1 with
      | true => rw [pn_grp c5 ok]; exact ih _ _ _ _ _ _ _ r
      | false => rw [pn_grp0 c5 ok]; exact r
    by_cases c9 : tkk (T j) = 125 ∧ op ≠ 0
    · rw [pn_close c9]; exact ih _ _ _ _ _ _ _ (e.s (by omega))
    · rw [pn_end c8 c5 c9]; exact a
end

/-! STRETCHES OF THE POOL -/
section
variable {b : Int → Int} {n : Int} {was : Nat} {j : Nat} {F F0 : Int → Int} {S : List TS} {LL : List Int} {old : Int → Bool}
def SGJ (F : Int → Int) (was : Nat) (LL : List Int) : Prop := ∀ n, 0 ≤ n → n < 32 → F n ≠ -1 → 0 ≤ F (192 + n) ∧ 0 ≤ F (224 + n) ∧ F (192 + n) + F (224 + n) ≤ was + LL.length
theorem sgj_new {G : Int → Int} {pl node ins srt nm : Int} (sg : SGJ F was LL) (p0 : 0 ≤ pl) (h0 : 0 ≤ node) (h1 : node < 32) (e : ∀ k, 0 ≤ k → (k < 32 ∨ (192 ≤ k ∧ k < 256)) → G k = addF F pl node ins srt nm k) : SGJ G was LL := by
  intro m a c d
  rw [e m a (by omega), addF_n p0 h0 h1 c] at d
  rw [e _ (by omega) (by omega), e _ (by omega) (by omega), addF_lo p0 h0 h1 (by omega), addF_lo p0 h0 h1 (by omega)]
  by_cases q : m = node
  · rw [if_neg (by omega), if_neg (by omega), if_neg (by omega), if_pos (by omega), if_neg (by omega), if_neg (by omega), if_neg (by omega), if_pos (by omega)]
    omega
  · rw [if_neg q] at d
    rw [if_neg (by omega), if_neg (by omega), if_neg (by omega), if_neg (by omega), if_neg (by omega), if_neg (by omega), if_neg (by omega), if_neg (by omega)]
    exact sg m a c d
theorem sgj_if {T : Nat → TK} {node : Int} (h0 : 0 ≤ node) (h1 : node < 32) (sg : SGJ F was LL) (ok : (pif T was node j F S LL).1 = true) : SGJ (pif T was node j F S LL).2.2.1 was (pif T was node j F S LL).2.2.2.2 := by
  unfold pif at ok ⊢
  by_cases z : tkk (T j) = 6
  · rw [if_pos z] at ok ⊢
    cases okP : (pcond T node (j + 1) S).1 with
    | false => simp only [okP] at ok; cases ok
    | true =>
      intro m a c d
      change setc F node (was + LL.length) (pcond T node (j + 1) S).2.2.2.length m ≠ -1 at d
      show 0 ≤ setc F node (was + LL.length) (pcond T node (j + 1) S).2.2.2.length (192 + m) ∧ 0 ≤ setc F node (was + LL.length) (pcond T node (j + 1) S).2.2.2.length (224 + m) ∧ setc F node (was + LL.length) (pcond T node (j + 1) S).2.2.2.length (192 + m) + setc F node (was + LL.length) (pcond T node (j + 1) S).2.2.2.length (224 + m) ≤ was + ((LL ++ (pcond T node (j + 1) S).2.2.2).length : Nat)
      rw [List.length_append]
      rw [setc_lo h0 h1 (Or.inl (by omega))] at d
      by_cases q : m = node
      · rw [q, setc_fr, setc_sz]; omega
      · have o := sg m a c d
        have e1 : setc F node (was + LL.length) (pcond T node (j + 1) S).2.2.2.length (192 + m) = F (192 + m) := by
          unfold setc; rw [updI_ne (by omega), updI_ne (by omega)]
        have e2 : setc F node (was + LL.length) (pcond T node (j + 1) S).2.2.2.length (224 + m) = F (224 + m) := by
          unfold setc; rw [updI_ne (by omega), updI_ne (by omega)]
        rw [e1, e2]; omega
  · rw [if_neg z]; exact sg
theorem sgj_fld {ins pl : Int} (n0 : 0 ≤ n) (t : TF F) (P : PL F ins pl) (sg : SGJ F was LL) (ok : (pfld (tkn b n) was pl ins j F S LL).1 = true) : SGJ (pfld (tkn b n) was pl ins j F S LL).2.2.1 was (pfld (tkn b n) was pl ins j F S LL).2.2.2.2 := by
  have p0 := P.1
  have gv := t.2.2.2
  unfold pfld at ok ⊢
  by_cases m1 : F 289 < 24
  rotate_left
  · rw [if_neg m1] at ok; cases ok
  rw [if_pos m1] at ok ⊢
  have h0 : 0 ≤ F 289 := gv.1
  have h1 : F 289 < 32 := by omega
  cases okN : (pnum (tkn b n) (tkk (tkn b n j) - 8) (j + 1)).1 with
  | false => simp only [okN] at ok; cases ok
  | true =>
    simp only [okN] at ok ⊢
    generalize pnum (tkn b n) (tkk (tkn b n j) - 8) (j + 1) = PN at *
    generalize tkk (tkn b n j) - 8 = srt at *
    unfold pfldT at ok ⊢
    by_cases c1 : nmOk F (tkn b n PN.2.1) = true
    rotate_left
    · rw [if_neg c1] at ok; cases ok
    rw [if_pos c1] at ok ⊢
    by_cases c2 : tkk (tkn b n (PN.2.1 + 1)) = 7
    rotate_left
    · rw [if_neg c2] at ok; cases ok
    rw [if_pos c2] at ok ⊢
    by_cases c3 : pin (tkn b n (PN.2.1 + 2)) 1 10 = true
    rotate_left
    · rw [if_neg c3] at ok; cases ok
    rw [if_pos c3] at ok ⊢
    rw [pend_F]
    exact sgj_if h0 h1 (sgj_new sg p0 h0 h1 (fun k k0 k1 => fldF_at (by omega) (by omega) (by omega) (by omega))) (pend_1 ok)
theorem sgj_grp {ins pl : Int} (t : TF F) (P : PL F ins pl) (sg : SGJ F was LL) (ok : (pgrp (tkn b n) was pl ins j F S LL).1 = true) : SGJ (pgrp (tkn b n) was pl ins j F S LL).2.2.1 was (pgrp (tkn b n) was pl ins j F S LL).2.2.2.2 := by
  have p0 := P.1
  have gv := t.2.2.2
  unfold pgrp at ok ⊢
  by_cases m1 : F 290 < 8 ∧ (ins < 0 ∨ dpt F 8 ins < 4)
  rotate_left
  · rw [if_neg m1] at ok; cases ok
  rw [if_pos m1] at ok ⊢
  have h00 : 0 ≤ F 290 := gv.2.2.1
  by_cases c1 : nmOk F (tkn b n (j + 1)) = true
  rotate_left
  · rw [if_neg c1] at ok; cases ok
  rw [if_pos c1] at ok ⊢
  rw [pend_F]
  exact sgj_if (by omega) (by omega) (sgj_new sg p0 (by omega) (by omega) (fun k k0 k1 => grpF_at (by omega))) (pend_1 ok)
theorem sgj_nod (n0 : 0 ≤ n) : ∀ (k : Nat) (op j : Nat) (pl ins : Int) (F : Int → Int) (S : List TS) (LL : List Int), NI b n was old F0 j F S LL → PLs F op ins pl → grok F ins → (∀ i, i < op → 0 ≤ up F i ins) → SGJ F was LL → (pnod (tkn b n) was k pl ins op j F S LL).1 = true → SGJ (pnod (tkn b n) was k pl ins op j F S LL).2.2.1 was (pnod (tkn b n) was k pl ins op j F S LL).2.2.2.2 := by
  intro k
  induction k with
  | zero => intro op j pl ins F S LL _ _ _ _ _ ok; cases ok
  | succ k ih =>
    intro op j pl ins F S LL N P gk io sg ok
    have T := N.1.1.tv
    by_cases c1 : 8 ≤ tkk (tkn b n j) ∧ tkk (tkn b n j) ≤ 10
    · cases okP : (pfld (tkn b n) was pl ins j F S LL).1 with
      | false => rw [pn_fld0 c1 okP] at ok; rw [ok] at okP; cases okP
      | true =>
        rw [pn_fld c1 okP] at ok ⊢
        obtain ⟨r1, r2, r3, r4⟩ := ni_fld n0 N P gk c1.1 c1.2 okP
        obtain ⟨i1, i2⟩ := INS_mv T gk ⟨rfl, io⟩ r4
        exact ih op _ _ _ _ _ _ r2 r3 i2 i1.2 (sgj_fld n0 N.1 (P 0 (by omega)) sg okP) ok
    by_cases c2 : tkk (tkn b n j) = 5
    · cases okP : (pgrp (tkn b n) was pl ins j F S LL).1 with
      | false => rw [pn_grp0 c2 okP] at ok; rw [ok] at okP; cases okP
      | true =>
        rw [pn_grp c2 okP] at ok ⊢
        obtain ⟨r1, r2, r3, r4, r5, r6, r7⟩ := ni_grp n0 N P gk c2 okP
        obtain ⟨i1, i2⟩ := INS_mv T gk ⟨rfl, io⟩ r4
        refine ih (op + 1) _ _ _ _ _ _ r2 r3 (Or.inr ⟨by omega, by omega, ?_⟩) (fun i hi => ?_) (sgj_grp N.1 (P 0 (by omega)) sg okP) ok
        · rw [r5]
          rcases gk with g | ⟨g1, g2, g3⟩ <;> omega
        · cases i with
          | zero => show 0 ≤ 24 + F 290; omega
          | succ i =>
            show 0 ≤ (if 0 ≤ 24 + F 290 then up _ i _ else _)
            rw [if_pos (by omega), r5]
            exact i1.2 i (by omega)
    by_cases c3 : tkk (tkn b n j) = 125 ∧ op ≠ 0
    · rw [pn_close c3] at ok ⊢
      obtain ⟨o, rfl⟩ : ∃ o, op = o + 1 := ⟨op - 1, by omega⟩
      have h0 := io 0 (by omega)
      change 0 ≤ ins at h0
      have upS : ∀ i, up F (i + 1) ins = up F i (F ins) := fun i => by
        show (if 0 ≤ ins then up F i (F ins) else ins) = _
        rw [if_pos h0]
      refine ih (o + 1 - 1) (j + 1) pl (F ins) F S LL ⟨N.1, N.2.1, N.2.2.1, N.2.2.2.1, MBz_1 n0 N.2.2.2.2.1 (by omega), N.2.2.2.2.2⟩ (fun i hi => ?_) ?_ (fun i hi => ?_) sg ok
      · rw [← upS]; exact P (i + 1) (by omega)
      · rcases gk with g | ⟨g1, g2, g3⟩
        · omega
        · rcases T.grp (by omega) g2 g3 with h | h
          · exact Or.inl h
          · exact Or.inr h
      · rw [← upS]; exact io (i + 1) (by omega)
    rw [pn_end c1 c2 c3]
    exact sg
end
/-! A NEW FORM IS STILL FREE OF CIRCLES -/
theorem acy_base {N N' : Int → Int32} {P : Int → Bool} (k : ∀ f, lo24 (N f)) (k' : ∀ f, lo24 (N' f)) (h1 : ∀ f, 0 ≤ f → f < 24 → P f = true → sub (N' f) (N f)) (h2 : ∀ f, 0 ≤ f → f < 24 → P f = false → ∀ g, 0 ≤ g → g < 24 → bt (N' f) g = true → P g = true) (h3 : ∀ f, 0 ≤ f → f < 24 → ∀ g, 0 ≤ g → g < 24 → bt (N f) g = true → P g = true) (a : Acy N) : Acy N' := by
  obtain ⟨x, ex⟩ : ∃ x, x = fmk P 24 0 (i32 0) := ⟨_, rfl⟩
  have xb : ∀ g, 0 ≤ g → g < 32 → (bt x g = true ↔ (g < 24 ∧ P g = true)) := fun g g0 g1 => by
    rw [ex, fmk_bt g0 g1 24 0 _ (by omega) (by omega), bt_0]
    constructor
    · rintro (z | z)
      · cases z
      · exact ⟨by omega, z.2.2⟩
    · rintro ⟨z, w⟩; exact Or.inr ⟨g0, by omega, w⟩
  have lo' : ∀ f g, 0 ≤ g → g < 32 → bt (N' f) g = true → g < 24 := fun f g g0 g1 z => by
    by_cases w : g < 24
    · exact w
    · rw [k' f g (by omega) g1] at z; cases z
  have lo : ∀ f g, 0 ≤ g → g < 32 → bt (N f) g = true → g < 24 := fun f g g0 g1 z => by
    by_cases w : g < 24
    · exact w
    · rw [k f g (by omega) g1] at z; cases z
  have hx : ∀ f, 0 ≤ f → f < 24 → sub (N' f) x := fun f f0 f1 g g0 g1 z => by
    have g2 := lo' f g g0 g1 z
    rw [xb g g0 g1]
    refine ⟨g2, ?_⟩
    cases w : P f with
    | true => exact h3 f f0 f1 g g0 g2 (h1 f f0 f1 w g g0 g1 z)
    | false => exact h2 f f0 f1 w g g0 g2 z
  have hy : ∀ f, 0 ≤ f → f < 24 → sub (N f) x := fun f f0 f1 g g0 g1 z => (xb g g0 g1).mpr ⟨lo f g g0 g1 z, h3 f f0 f1 g g0 (lo f g g0 g1 z) z⟩
  intro f f0 f1
  cases q : bt (cl N' 24 (N' f)) f with
  | false => rfl
  | true =>
    exfalso
    have s := cl_in k' (k' f) (hx f f0 f1) (fun o o0 o1 _ => hx o o0 o1) f f0 (by omega) q
    have pf := ((xb f f0 (by omega)).mp s).2
    obtain ⟨c1, c2, c3⟩ := cl24 k (k f)
    have yx : sub (cl N 24 (N f)) x := cl_in k (k f) (hy f f0 f1) (fun o o0 o1 _ => hy o o0 o1)
    have s2 : sub (cl N' 24 (N' f)) (cl N 24 (N f)) := by
      refine cl_in k' (k' f) (fun i i0 i1 hi => c1 i i0 i1 (h1 f f0 f1 pf i i0 i1 hi)) (fun o o0 o1 ho i i0 i1 hi => ?_)
      have po := ((xb o o0 (by omega)).mp (yx o o0 (by omega) ho)).2
      exact c2 o o0 o1 ho i i0 i1 (h1 o o0 o1 po i i0 i1 hi)
    have := s2 f f0 (by omega) q
    rw [a f f0 f1] at this; cases this
theorem RlL_pr {F : Int → Int} {L : List Int32} (h : ∀ t ∈ L, tkOk F t) {g : Int} (g0 : 0 ≤ g) (g1 : g < 32) (z : bt (RlL L) g = true) : g < 24 ∧ F g ≠ -1 := by
  obtain ⟨t, t1, t2, t3⟩ := (RlL_bt L (fun t ht => tk_bits (h t ht)) g0 g1).mp z
  rcases h t t1 with ⟨f, s, v, a1, a2, a3, a4, a5, a6, a7, rfl⟩ | e | e | e
  · rw [tF_c a1 (by omega) a4 a5 a6 a7, i32_eq (by omega) (by omega) (by omega) (by omega)] at t3
    rw [← t3]; exact ⟨a2, a3⟩
  · rw [e, tT_op (by omega) (by omega)] at t2; cases t2
  · rw [e, tT_op (by omega) (by omega)] at t2; cases t2
  · rw [e, tT_op (by omega) (by omega)] at t2; cases t2
theorem RlL_lo {F : Int → Int} {L : List Int32} (h : ∀ t ∈ L, tkOk F t) : lo24 (RlL L) := fun i i0 i1 => by
  cases w : bt (RlL L) i with
  | false => rfl
  | true => have := (RlL_pr h (by omega) i1 w).1; omega
theorem R0_lo {F : Int → Int} {C : Int → List Int32} {old : Int → Bool} (tk : ∀ n, old n = true → ∀ t ∈ C n, tkOk F t) (n : Int) : lo24 (R0 C old n) := by
  unfold R0
  by_cases o : old n = true
  · rw [if_pos o]; exact RlL_lo (tk n o)
  · rw [if_neg o]; intro i _ _; exact bt_0 i
theorem acy_form {F G : Int → Int} {C : Int → List Int32} {old : Int → Bool} (tF : TR F) (tG : TR G) (e : ∀ n, 0 ≤ n → n < 32 → F n ≠ -1 → G n = F n) (ho : ∀ n, old n = true → 0 ≤ n ∧ n < 32 ∧ F n ≠ -1) (tk : ∀ n, 0 ≤ n → n < 32 → F n ≠ -1 → ∀ t ∈ C n, tkOk F t) (a : Acy (NE F (fun n => RlL (C n)))) : Acy (NE G (R0 C old)) := by
  have tk' : ∀ n, old n = true → ∀ t ∈ C n, tkOk F t := fun n hn => tk n (ho n hn).1 (ho n hn).2.1 (ho n hn).2.2
  have r0 : ∀ c g, bt (R0 C old c) g = true → old c = true ∧ bt (RlL (C c)) g = true := fun c g z => by
    unfold R0 at z
    by_cases o : old c = true
    · rw [if_pos o] at z; exact ⟨o, z⟩
    · rw [if_neg o, bt_0] at z; cases z
  refine acy_base (P := fun f => decide (F f ≠ -1)) (NE_lo tF.tv tF.ce (fun n n0 n1 p => RlL_lo (tk n n0 n1 p))) (NE_lo tG.tv tG.ce (fun n n0 n1 p => R0_lo tk' n)) (fun f f0 f1 pf g g0 g1 z => ?_) (fun f f0 f1 pf g g0 g1 z => ?_) (fun f f0 f1 g g0 g1 z => ?_) a
  · have p : F f ≠ -1 := of_decide_eq_true pf
    obtain ⟨c, c0, c1, c2, c3⟩ := (NE_bt tG.tv tG.ce f0 f1 (by rw [e f f0 (by omega) p]; exact p)).mp z
    obtain ⟨o, w⟩ := r0 c g c3
    refine (NE_bt tF.tv tF.ce f0 f1 p).mpr ⟨c, c0, c1, ?_, w⟩
    rw [← isin_congr tF.tv e 9 f (Or.inr ⟨f0, by omega, p⟩)]; exact c2
  · by_cases p : G f = -1
    · rw [NE_ab (fun y => y.2.2 p), bt_0] at z; cases z
    · obtain ⟨c, c0, c1, c2, c3⟩ := (NE_bt tG.tv tG.ce f0 f1 p).mp z
      obtain ⟨o, w⟩ := r0 c g c3
      exact decide_eq_true (RlL_pr (tk' c o) g0 (by omega) w).2
  · by_cases p : F f = -1
    · rw [NE_ab (fun y => y.2.2 p), bt_0] at z; cases z
    · obtain ⟨c, c0, c1, c2, c3⟩ := (NE_bt tF.tv tF.ce f0 f1 p).mp z
      have t := isin_there tF.tv c0 9 f (Or.inr ⟨f0, by omega, p⟩) c2
      exact decide_eq_true (RlL_pr (tk c c0 c1 t.2) g0 (by omega) c3).2
/-- what holds of a form when it has been read -/
def NJ (n : Int) (was : Nat) (old : Int → Bool) (F0 F : Int → Int) (S : List TS) (LL : List Int) : Prop := TF F ∧ KD F ∧ CV F LL was old ∧ OWN n F S LL was old ∧ (S.length ≤ 400 ∧ LL.length ≤ 480) ∧ (∀ m, old m = true → 0 ≤ m ∧ m < 32 ∧ F m ≠ -1) ∧ ∀ m, old m = true → ∀ q : Nat, q < 8 → F (32 * q + m) = F0 (32 * q + m)
theorem NI.j {b : Int → Int} {n : Int} {was : Nat} {old : Int → Bool} {F0 F : Int → Int} {j : Nat} {S : List TS} {LL : List Int} (n0 : 0 ≤ n) (n1 : n ≤ 1200) (N : NI b n was old F0 j F S LL) : NJ n was old F0 F S LL := ⟨N.1, N.2.1, N.2.2.1, N.2.2.2.1, MBz_w n0 n1 N.2.2.2.2.1, N.2.2.2.2.2.1, N.2.2.2.2.2.2⟩
/-- a form as it was read is well made -/
theorem fwf_new {n : Int} {was : Nat} {old : Int → Bool} {Fb F G : Int → Int} {C : Int → List Int32} {S : List TS} {LL : List Int} {np : Nat} (N : NJ n was old Fb G S LL) (w : FWf F C np) (e : ∀ m, 0 ≤ m → m < 32 → F m ≠ -1 → G m = F m) (ho : ∀ m, old m = true → 0 ≤ m ∧ m < 32 ∧ F m ≠ -1) (pr : pres G S (R0 C old) = none) (sj : SGJ G was LL) (eo : ∀ m, old m = true → G (224 + m) = F (224 + m)) : FWf G (Cnw G S LL was C old) (was + LL.length) := by
  have tG := N.1.1
  have pn : pnames G S = none ∧ pcirc G S (R0 C old) = none := by
    unfold pres at pr
    cases h : pnames G S with
    | some x => simp only [h] at pr; cases pr
    | none => simp only [h] at pr; exact ⟨rfl, pr⟩
  have ok := pnames_ok S pn.1
  have tkG : ∀ m, old m = true → ∀ t ∈ C m, tkOk G t := fun m hm t ht => by
    obtain ⟨m0, m1, mp⟩ := ho m hm
    rcases w.2.2.1 m m0 m1 mp t ht with ⟨f, s, v, a1, a2, a3, r⟩ | r
    · exact Or.inl ⟨f, s, v, a1, a2, by rw [e f a1 (by omega) a3]; exact a3, r⟩
    · exact Or.inr r
  refine ⟨N.1, N.2.1, fun m m0 m1 mp => Cnw_tk tG N.2.2.2.1 ok tkG m0 m1 mp, ?_, fun m m0 m1 mp => by
    have q := sj m m0 m1 mp
    have b6 := N.2.2.2.2.1.2
    have s6 : G (224 + m) ≤ 480 := by
      cases o : old m with
      | true =>
        have ho' := ho m o
        have := w.2.2.2.2 m ho'.1 ho'.2.1 ho'.2.2
        rw [eo m o]; omega
      | false =>
        have := N.2.2.1 m m0 m1 mp o
        omega
    omega⟩
  have base := acy_form w.1.1 tG e ho w.2.2.1 w.2.2.2.1
  have r := pcirc_acy tG.tv tG.ce S (R0 C old) (fun m _ _ _ => R0_lo tkG m) (fun x hx => by
    obtain ⟨q, hq⟩ := List.getElem?_of_mem hx
    have o := N.2.2.2.1.2 q x hq
    exact ⟨ok x hx, o.2.1, o.2.2.1⟩) pn.2 base
  rw [NE_congr tG.tv (fun m m0 m1 mp => RlL_new tG N.2.2.2.1 ok m0 m1 mp)] at r
  exact r

