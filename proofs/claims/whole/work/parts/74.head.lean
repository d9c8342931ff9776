/-! LOAD: the head of a text -/
section
variable {b : Int → Int} {n : Int} {was : Nat} {F0 : Int → Int} {old : Int → Bool}
/-- what every piece keeps holds in the end -/
theorem nod_ind (n0 : 0 ≤ n) {Q : (Int → Int) → Prop} (hf : ∀ (j : Nat) (pl ins : Int) (F : Int → Int) (S : List TS) (LL : List Int), TF F → PL F ins pl → Q F → (pfld (tkn b n) was pl ins j F S LL).1 = true → Q (pfld (tkn b n) was pl ins j F S LL).2.2.1) (hg : ∀ (j : Nat) (pl ins : Int) (F : Int → Int) (S : List TS) (LL : List Int), TF F → PL F ins pl → Q F → (pgrp (tkn b n) was pl ins j F S LL).1 = true → Q (pgrp (tkn b n) was pl ins j F S LL).2.2.1) : ∀ (k : Nat) (op j : Nat) (pl ins : Int) (F : Int → Int) (S : List TS) (LL : List Int), NI b n was old F0 j F S LL → PLs F op ins pl → grok F ins → (∀ i, i < op → 0 ≤ up F i ins) → Q F → (pnod (tkn b n) was k pl ins op j F S LL).1 = true → Q (pnod (tkn b n) was k pl ins op j F S LL).2.2.1 := by
  intro k
  induction k with
  | zero => intro op j pl ins F S LL _ _ _ _ _ ok; cases ok
  | succ k ih =>
    intro op j pl ins F S LL N P gk io sg ok
    have T := N.1.1.tv
    by_cases c1 : 8 ≤ tkk (tkn b n j) ∧ tkk (tkn b n j) ≤ 10
    · cases okP : (pfld (tkn b n) was pl ins j F S LL).1 with
      | false => rw [pn_fld0 c1 okP] at ok; rw [ok] at okP; cases okP
      | true =>
        rw [pn_fld c1 okP] at ok ⊢
        obtain ⟨r1, r2, r3, r4⟩ := ni_fld n0 N P gk c1.1 c1.2 okP
        obtain ⟨i1, i2⟩ := INS_mv T gk ⟨rfl, io⟩ r4
        exact ih op _ _ _ _ _ _ r2 r3 i2 i1.2 (hf _ _ _ _ _ _ N.1 (P 0 (by omega)) sg okP) ok
    by_cases c2 : tkk (tkn b n j) = 5
    · cases okP : (pgrp (tkn b n) was pl ins j F S LL).1 with
      | false => rw [pn_grp0 c2 okP] at ok; rw [ok] at okP; cases okP
      | true =>
        rw [pn_grp c2 okP] at ok ⊢
        obtain ⟨r1, r2, r3, r4, r5, r6, r7⟩ := ni_grp n0 N P gk c2 okP
        obtain ⟨i1, i2⟩ := INS_mv T gk ⟨rfl, io⟩ r4
        refine ih (op + 1) _ _ _ _ _ _ r2 r3 (Or.inr ⟨by omega, by omega, ?_⟩) (fun i hi => ?_) (hg _ _ _ _ _ _ N.1 (P 0 (by omega)) sg okP) ok
        · rw [r5]
          rcases gk with g | ⟨g1, g2, g3⟩ <;> omega
        · cases i with
          | zero => show 0 ≤ 24 + F 290; omega
          | succ i =>
            show 0 ≤ (if 0 ≤ 24 + F 290 then up _ i _ else _)
            rw [if_pos (by omega), r5]
            exact i1.2 i (by omega)
    by_cases c3 : tkk (tkn b n j) = 125 ∧ op ≠ 0
    · rw [pn_close c3] at ok ⊢
      obtain ⟨o, rfl⟩ : ∃ o, op = o + 1 := ⟨op - 1, by omega⟩
      have h0 := io 0 (by omega)
      change 0 ≤ ins at h0
      have upS : ∀ i, up F (i + 1) ins = up F i (F ins) := fun i => by
        show (if 0 ≤ ins then up F i (F ins) else ins) = _
        rw [if_pos h0]
      refine ih (o + 1 - 1) (j + 1) pl (F ins) F S LL ⟨N.1, N.2.1, N.2.2.1, N.2.2.2.1, MBz_1 n0 N.2.2.2.2.1 (by omega), N.2.2.2.2.2⟩ (fun i hi => ?_) ?_ (fun i hi => ?_) sg ok
      · rw [← upS]; exact P (i + 1) (by omega)
      · rcases gk with g | ⟨g1, g2, g3⟩
        · omega
        · rcases T.grp (by omega) g2 g3 with h | h
          · exact Or.inl h
          · exact Or.inr h
      · rw [← upS]; exact io (i + 1) (by omega)
    rw [pn_end c1 c2 c3]
    exact sg
/-- where there is no condition, there is no stretch -/
def SGZ (F : Int → Int) : Prop := ∀ m, 0 ≤ m → m < 32 → F m ≠ -1 → F (224 + m) = 0 → F (192 + m) = 0
variable {F : Int → Int} {S : List TS} {LL : List Int} {j : Nat}
theorem sgz_new {G : Int → Int} {pl node ins srt nm : Int} (sg : SGZ F) (p0 : 0 ≤ pl) (h0 : 0 ≤ node) (h1 : node < 32) (e : ∀ k, 0 ≤ k → (k < 32 ∨ (192 ≤ k ∧ k < 256)) → G k = addF F pl node ins srt nm k) : SGZ G := by
  intro m a c d
  rw [e m a (by omega), addF_n p0 h0 h1 c] at d
  rw [e _ (by omega) (by omega), e _ (by omega) (by omega), addF_lo p0 h0 h1 (by omega), addF_lo p0 h0 h1 (by omega)]
  by_cases q : m = node
  · intro _
    rw [if_neg (by omega), if_neg (by omega), if_neg (by omega), if_pos (by omega)]
  · rw [if_neg q] at d
    rw [if_neg (by omega), if_neg (by omega), if_neg (by omega), if_neg (by omega), if_neg (by omega), if_neg (by omega), if_neg (by omega), if_neg (by omega)]
    exact sg m a c d
theorem sgz_if (n0 : 0 ≤ n) {node : Int} (h0 : 0 ≤ node) (h1 : node < 32) (sg : SGZ F) (ok : (pif (tkn b n) was node j F S LL).1 = true) : SGZ (pif (tkn b n) was node j F S LL).2.2.1 := by
  unfold pif at ok ⊢
  by_cases z : tkk (tkn b n j) = 6
  · rw [if_pos z] at ok ⊢
    have ap := ap_dis (b := b) n0 (ow := node) 6 (j + 1) S
    change AP b n (j + 1) S (pcond (tkn b n) node (j + 1) S) at ap
    cases okP : (pcond (tkn b n) node (j + 1) S).1 with
    | false => simp only [okP] at ok; cases ok
    | true =>
      have a0 := (ap okP).1.2
      intro m a c d
      change setc F node (was + LL.length) (pcond (tkn b n) node (j + 1) S).2.2.2.length m ≠ -1 at d
      show setc F node (was + LL.length) (pcond (tkn b n) node (j + 1) S).2.2.2.length (224 + m) = 0 → setc F node (was + LL.length) (pcond (tkn b n) node (j + 1) S).2.2.2.length (192 + m) = 0
      rw [setc_lo h0 h1 (Or.inl (by omega))] at d
      by_cases q : m = node
      · rw [q, setc_fr, setc_sz]; omega
      · have e1 : setc F node (was + LL.length) (pcond (tkn b n) node (j + 1) S).2.2.2.length (192 + m) = F (192 + m) := by
          unfold setc; rw [updI_ne (by omega), updI_ne (by omega)]
        have e2 : setc F node (was + LL.length) (pcond (tkn b n) node (j + 1) S).2.2.2.length (224 + m) = F (224 + m) := by
          unfold setc; rw [updI_ne (by omega), updI_ne (by omega)]
        rw [e1, e2]; exact sg m a c d
  · rw [if_neg z]; exact sg
theorem sgz_fld {ins pl : Int} (n0 : 0 ≤ n) (t : TF F) (P : PL F ins pl) (sg : SGZ F) (ok : (pfld (tkn b n) was pl ins j F S LL).1 = true) : SGZ (pfld (tkn b n) was pl ins j F S LL).2.2.1 := by
  have p0 := P.1
  have gv := t.2.2.2
  unfold pfld at ok ⊢
  by_cases m1 : F 289 < 24
  rotate_left
  · rw [if_neg m1] at ok; cases ok
  rw [if_pos m1] at ok ⊢
  have h0 : 0 ≤ F 289 := gv.1
  have h1 : F 289 < 32 := by omega
  cases okN : (pnum (tkn b n) (tkk (tkn b n j) - 8) (j + 1)).1 with
  | false => simp only [okN] at ok; cases ok
  | true =>
    simp only [okN] at ok ⊢
    generalize pnum (tkn b n) (tkk (tkn b n j) - 8) (j + 1) = PN at *
    generalize tkk (tkn b n j) - 8 = srt at *
    unfold pfldT at ok ⊢
    by_cases c1 : nmOk F (tkn b n PN.2.1) = true
    rotate_left
    · rw [if_neg c1] at ok; cases ok
    rw [if_pos c1] at ok ⊢
    by_cases c2 : tkk (tkn b n (PN.2.1 + 1)) = 7
    rotate_left
    · rw [if_neg c2] at ok; cases ok
    rw [if_pos c2] at ok ⊢
    by_cases c3 : pin (tkn b n (PN.2.1 + 2)) 1 10 = true
    rotate_left
    · rw [if_neg c3] at ok; cases ok
    rw [if_pos c3] at ok ⊢
    rw [pend_F]
    exact sgz_if n0 h0 h1 (sgz_new sg p0 h0 h1 (fun k k0 k1 => fldF_at (by omega) (by omega) (by omega) (by omega))) (pend_1 ok)
theorem sgz_grp {ins pl : Int} (n0 : 0 ≤ n) (t : TF F) (P : PL F ins pl) (sg : SGZ F) (ok : (pgrp (tkn b n) was pl ins j F S LL).1 = true) : SGZ (pgrp (tkn b n) was pl ins j F S LL).2.2.1 := by
  have p0 := P.1
  have gv := t.2.2.2
  unfold pgrp at ok ⊢
  by_cases m1 : F 290 < 8 ∧ (ins < 0 ∨ dpt F 8 ins < 4)
  rotate_left
  · rw [if_neg m1] at ok; cases ok
  rw [if_pos m1] at ok ⊢
  have h00 : 0 ≤ F 290 := gv.2.2.1
  by_cases c1 : nmOk F (tkn b n (j + 1)) = true
  rotate_left
  · rw [if_neg c1] at ok; cases ok
  rw [if_pos c1] at ok ⊢
  rw [pend_F]
  exact sgz_if n0 (by omega) (by omega) (sgz_new sg p0 (by omega) (by omega) (fun k k0 k1 => grpF_at (by omega))) (pend_1 ok)
end
/-- the form with no nodes -/
def emp (W : Int → Int) : Int → Int := fun k => if k < 32 then -1 else if k < 292 then 0 else W k
theorem emp_0 {W : Int → Int} {k : Int} (h : k < 32) : emp W k = -1 := if_pos h
theorem emp_1 {W : Int → Int} {k : Int} (h : 32 ≤ k) (h2 : k < 292) : emp W k = 0 := by unfold emp; rw [if_neg (by omega), if_pos h2]
theorem emp_2 {W : Int → Int} {k : Int} (h : 292 ≤ k) : emp W k = W k := by unfold emp; rw [if_neg (by omega), if_neg (by omega)]
theorem emp_T (W : Int → Int) : TF (emp W) ∧ KD (emp W) := by
  have z8 : emp W 288 = 0 := emp_1 (by omega) (by omega)
  have nn : ∀ m, m < 32 → ¬ emp W m ≠ -1 := fun m h z => z (emp_0 h)
  refine ⟨⟨⟨⟨by rw [z8]; exact Int.le_refl _, by rw [z8]; decide, fun i i0 i1 => by rw [z8] at i1; omega⟩, fun i i0 i1 => by rw [z8] at i1; omega, fun m a c d => absurd d (nn m c), fun i j i0 i1 => by rw [z8] at i1; omega, fun m a c => Or.inl (emp_0 c), fun m a c => ?_, fun q q0 q1 => by rw [z8] at q1; omega⟩, ⟨fun m a c d => absurd d (nn m c), fun m l a c _ _ d => absurd d (nn m c)⟩, fun m a c d => absurd d (nn m c), ?_⟩, fun m a c d => absurd d (nn m c)⟩
  · right
    show ends (emp W) 7 (emp W m)
    rw [emp_0 c]
    exact Or.inl (by decide)
  · have z9 : emp W 289 = 0 := emp_1 (by omega) (by omega)
    have z10 : emp W 290 = 0 := emp_1 (by omega) (by omega)
    exact ⟨by rw [z9]; exact Int.le_refl _, by rw [z9]; decide, by rw [z10]; exact Int.le_refl _, by rw [z10]; decide, by rw [z8, z9, z10]; decide, fun m a c d => absurd d (nn m c)⟩
theorem emp_W (W : Int → Int) : FWf (emp W) (fun _ => []) 0 := by
  obtain ⟨a, c⟩ := emp_T W
  have nn : ∀ m, m < 32 → ¬ emp W m ≠ -1 := fun m h z => z (emp_0 h)
  refine ⟨a, c, fun m x y z => absurd z (nn m y), fun f f0 f1 => ?_, fun m x y z => absurd z (nn m y)⟩
  have nz : ∀ f, NE (emp W) (fun _ => RlL []) f = i32 0 := fun f => NE_ab (fun z => nn f (by omega) z.2.2)
  have lo : ∀ f, lo24 (NE (emp W) (fun _ => RlL []) f) := fun f => by rw [nz]; intro i _ _; exact bt_0 i
  have s := cl_in lo (lo f) (x := i32 0) (by rw [nz]; intro i _ _ h; exact h) (fun o _ _ ho => by rw [bt_0] at ho; cases ho)
  cases q : bt (cl (NE (emp W) (fun _ => RlL [])) 24 (NE (emp W) (fun _ => RlL []) f)) f with
  | false => rfl
  | true => have := s f f0 (by omega) q; rw [bt_0] at this; cases this
/-- how the head is read: right?, the token behind, or the wrong one -/
def phd (T : Nat → TK) : Bool × Nat :=
  if tkk (T 0) = 4 then (if pin (T 1) 14 60 = true then (if pin (T 2) 14 60 = true then (if pin (T 3) 1 60 = true then (if tkk (T 4) = 59 then (true, 5) else (false, 4)) else (false, 3)) else (false, 2)) else (false, 1)) else (false, 0)
theorem phd_le {T : Nat → TK} {c : Nat} (e : Tend T c) : (phd T).2 ≤ c := by
  unfold phd
  by_cases c0 : tkk (T 0) = 4
  · rw [if_pos c0]
    have a0 := e.s (j := 0) (by omega)
    by_cases c1 : pin (T 1) 14 60 = true
    · rw [if_pos c1]
      have a1 := le_pin e c1
      by_cases c2 : pin (T 2) 14 60 = true
      · rw [if_pos c2]
        have a2 := le_pin e c2
        by_cases c3 : pin (T 3) 1 60 = true
        · rw [if_pos c3]
          have a3 := le_pin e c3
          by_cases c4 : tkk (T 4) = 59
          · rw [if_pos c4]; exact e.s (by omega)
          · rw [if_neg c4]; exact a3
        · rw [if_neg c3]; exact a2
      · rw [if_neg c2]; exact a1
    · rw [if_neg c1]; exact a0
  · rw [if_neg c0]; exact Nat.zero_le _
/-- frames of the head -/
def HF (g g' : HP) : Prop := Kq g g' ∧ TS2 g g' ∧ hsz g' = hsz g ∧ hsl g' ≤ hsl g
section
variable {g g' k : HP} {b : Int → Int} {n : Int} {c j : Nat} {l : List Nat}
theorem HF.t (p : HF g g') (q : HF g' k) : HF g k := ⟨p.1.t q.1, p.2.1.t q.2.1, q.2.2.1.trans p.2.2.1, Nat.le_trans q.2.2.2 p.2.2.2⟩
theorem HF_co (p : Co 0 l g g') (o : okS l = true) (z : 1008 ≤ hsz g) : HF g g' := ⟨Kq_co p o z, TS2_co p (okS_T o), by have := p.2.1; have := p.sk.1; omega, by have := p.2.2.1; omega⟩
theorem HF_So (p : So (inF 63) g g') : HF g g' := ⟨Kq_So p, TS2_So (p.w (T := fun y => y < 1008) (fun y z => by have := z.2; omega)) (fun y z => z), by unfold hsz; rw [p.2.1], by unfold hsl; rw [p.2.1]; exact Nat.le_refl _⟩
end

