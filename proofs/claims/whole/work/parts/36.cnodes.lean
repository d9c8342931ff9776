section
variable {b : Int → Int} {n : Int} {F F0 : Int → Int} {S : List TS} {LL : List Int} {was : Nat} {old : Int → Bool} {j : Nat} {ins pl : Int} {op : Nat}
theorem ni_fld (n0 : 0 ≤ n) (N : NI b n was old F0 j F S LL) (P : PLs F op ins pl) (gk : grok F ins) (k8 : 8 ≤ tkk (tkn b n j)) (k10 : tkk (tkn b n j) ≤ 10) (ok : (pfld (tkn b n) was pl ins j F S LL).1 = true) :
  j < (pfld (tkn b n) was pl ins j F S LL).2.1 ∧ NI b n was old F0 (pfld (tkn b n) was pl ins j F S LL).2.1 (pfld (tkn b n) was pl ins j F S LL).2.2.1 (pfld (tkn b n) was pl ins j F S LL).2.2.2.1 (pfld (tkn b n) was pl ins j F S LL).2.2.2.2 ∧ PLs (pfld (tkn b n) was pl ins j F S LL).2.2.1 op ins (pl + 1) ∧ ∀ m, 0 ≤ m → m < 32 → F m ≠ -1 → (pfld (tkn b n) was pl ins j F S LL).2.2.1 m = F m := by
  have B := N.2.2.2.2.1
  have gv := N.1.2.2.2
  have p0 := (P 0 (by omega)).1
  have p1 := (P 0 (by omega)).2.1
  unfold pfld at ok ⊢
  by_cases m1 : F 289 < 24
  rotate_left
  · rw [if_neg m1] at ok; cases ok
  rw [if_pos m1] at ok ⊢
  have h0 : 0 ≤ F 289 := gv.1
  have h1 : F 289 < 32 := by omega
  have m32 : F 288 < 32 := gv.m (n := 0) (Or.inl m1)
  cases okN : (pnum (tkn b n) (tkk (tkn b n j) - 8) (j + 1)).1 with
  | false => simp only [okN] at ok; cases ok
  | true =>
    simp only [okN] at ok ⊢
    obtain ⟨nk, nb⟩ := pnum_ok (n := n) (b := b) (by omega) (by omega) okN
    obtain ⟨nj, B1⟩ := nb S LL n0 rfl (MBz_1 n0 B (by omega))
    generalize pnum (tkn b n) (tkk (tkn b n j) - 8) (j + 1) = PN at *
    generalize tkk (tkn b n j) - 8 = srt at *
    unfold pfldT at ok ⊢
    by_cases c1 : nmOk F (tkn b n PN.2.1) = true
    rotate_left
    · rw [if_neg c1] at ok; cases ok
    rw [if_pos c1] at ok ⊢
    by_cases c2 : tkk (tkn b n (PN.2.1 + 1)) = 7
    rotate_left
    · rw [if_neg c2] at ok; cases ok
    rw [if_pos c2] at ok ⊢
    by_cases c3 : pin (tkn b n (PN.2.1 + 2)) 1 10 = true
    rotate_left
    · rw [if_neg c3] at ok; cases ok
    rw [if_pos c3] at ok ⊢
    have d1 := nmOk_t.mp c1
    have d3 := pin_t.mp c3
    have B4 : MBz b n (PN.2.1 + 3) S LL := MBz_1 n0 (MBz_1 n0 (MBz_1 n0 B1 (by omega)) (by omega)) (by show tkk (tkn b n (PN.2.1 + 2)) ≠ 0; omega)
    have nv := ((tk_val (b := b) n0 PN.2.1).2.1 (Or.inl d1.1)).1
    have g9 : fldF F pl ins srt (tkv (tkn b n PN.2.1)) PN.2.2.1 PN.2.2.2 (tkv (tkn b n (PN.2.1 + 2))) 289 = F 289 + 1 := by
      unfold fldF; rw [updI_ne (by omega), updI_ne (by omega), updI_ne (by omega), updI_at rfl]
    have g10 : fldF F pl ins srt (tkv (tkn b n PN.2.1)) PN.2.2.1 PN.2.2.2 (tkv (tkn b n (PN.2.1 + 2))) 290 = F 290 := by
      unfold fldF; rw [updI_ne (by omega), updI_ne (by omega), updI_ne (by omega), updI_ne (by omega), addF_gt h0 h1 p1 m32 (by omega)]
    have gl : fldF F pl ins srt (tkv (tkn b n PN.2.1)) PN.2.2.1 PN.2.2.2 (tkv (tkn b n (PN.2.1 + 2))) (96 + F 289) = PN.2.2.1 := by
      unfold fldF; rw [updI_ne (by omega), updI_ne (by omega), updI_at rfl]
    have gh : fldF F pl ins srt (tkv (tkn b n PN.2.1)) PN.2.2.1 PN.2.2.2 (tkv (tkn b n (PN.2.1 + 2))) (128 + F 289) = PN.2.2.2 := by
      unfold fldF; rw [updI_ne (by omega), updI_at rfl]
    have gw : fldF F pl ins srt (tkv (tkn b n PN.2.1)) PN.2.2.1 PN.2.2.2 (tkv (tkn b n (PN.2.1 + 2))) (160 + F 289) = tkv (tkn b n (PN.2.1 + 2)) := by
      unfold fldF; rw [updI_at rfl]
    have gk2 : fldF F pl ins srt (tkv (tkn b n PN.2.1)) PN.2.2.1 PN.2.2.2 (tkv (tkn b n (PN.2.1 + 2))) (64 + F 289) = srt := by
      rw [fldF_at (by omega) (by omega) (by omega) (by omega), addF_lo p0 h0 h1 (by omega), if_neg (by omega), if_neg (by omega), if_pos rfl]
    have gz : fldF F pl ins srt (tkv (tkn b n PN.2.1)) PN.2.2.1 PN.2.2.2 (tkv (tkn b n (PN.2.1 + 2))) (224 + F 289) = 0 := by
      rw [fldF_at (by omega) (by omega) (by omega) (by omega), addF_lo p0 h0 h1 (by omega), if_neg (by omega), if_neg (by omega), if_neg (by omega), if_pos (by omega)]
    have hG : ∀ x, 0 ≤ x → x ≤ 288 → (x < 64 ∨ 256 ≤ x) → fldF F pl ins srt (tkv (tkn b n PN.2.1)) PN.2.2.1 PN.2.2.2 (tkv (tkn b n (PN.2.1 + 2))) x = addF F pl (F 289) ins srt (tkv (tkn b n PN.2.1)) x := fun x x0 x1 x2 => fldF_at (by omega) (by omega) (by omega) (by omega)
    obtain ⟨r1, r2, r3, -, r4, nab⟩ := ni_pend (node := F 289) (srt := srt) (nm := tkv (tkn b n PN.2.1)) n0 N P gk h0 h1 (fldF F pl ins srt (tkv (tkn b n PN.2.1)) PN.2.2.1 PN.2.2.2 (tkv (tkn b n (PN.2.1 + 2)))) (Or.inl ⟨rfl, m1, g9, g10⟩) nv d1.2 hG (fun x x0 x1 x2 x3 x4 x5 x6 x7 => by rw [fldF_at (by omega) x3 x4 x5, addF_lo p0 h0 h1 x1, if_neg (by omega), if_neg (by omega), if_neg x2, if_neg (by omega)]) gz (by
      unfold kdOk
      rw [gl, gh, gw, gk2]
      refine ⟨fun _ => ⟨?_, d3.2.1, d3.2.2⟩, fun z => by omega⟩
      rcases nk with h | h | h
      · exact Or.inl h
      · exact Or.inr (Or.inl h)
      · exact Or.inr (Or.inr h)) B4 (k := 59) (by omega) ok (by omega)
    refine ⟨r1, r2, r3, fun m a c d => ?_⟩
    rw [r4 m a (Or.inl (by omega)), hG m a (by omega) (by omega), addF_n p0 h0 h1 c, if_neg (fun z => d (by rw [z]; exact nab))]
theorem ni_grp (n0 : 0 ≤ n) (N : NI b n was old F0 j F S LL) (P : PLs F op ins pl) (gk : grok F ins) (k5 : tkk (tkn b n j) = 5) (ok : (pgrp (tkn b n) was pl ins j F S LL).1 = true) :
  j < (pgrp (tkn b n) was pl ins j F S LL).2.1 ∧ NI b n was old F0 (pgrp (tkn b n) was pl ins j F S LL).2.1 (pgrp (tkn b n) was pl ins j F S LL).2.2.1 (pgrp (tkn b n) was pl ins j F S LL).2.2.2.1 (pgrp (tkn b n) was pl ins j F S LL).2.2.2.2 ∧ PLs (pgrp (tkn b n) was pl ins j F S LL).2.2.1 (op + 1) (24 + F 290) (pl + 1) ∧ (∀ m, 0 ≤ m → m < 32 → F m ≠ -1 → (pgrp (tkn b n) was pl ins j F S LL).2.2.1 m = F m) ∧ (pgrp (tkn b n) was pl ins j F S LL).2.2.1 (24 + F 290) = ins ∧ 0 ≤ F 290 ∧ F 290 < 8 := by
  have B := N.2.2.2.2.1
  have gv := N.1.2.2.2
  have tr := N.1.1
  have p0 := (P 0 (by omega)).1
  have p1 := (P 0 (by omega)).2.1
  unfold pgrp at ok ⊢
  by_cases m1 : F 290 < 8 ∧ (ins < 0 ∨ dpt F 8 ins < 4)
  rotate_left
  · rw [if_neg m1] at ok; cases ok
  rw [if_pos m1] at ok ⊢
  have h00 : 0 ≤ F 290 := gv.2.2.1
  have h0 : 0 ≤ 24 + F 290 := by omega
  have h1 : 24 + F 290 < 32 := by omega
  have m32 : F 288 < 32 := gv.m (n := 0) (Or.inr m1.1)
  by_cases c1 : nmOk F (tkn b n (j + 1)) = true
  rotate_left
  · rw [if_neg c1] at ok; cases ok
  rw [if_pos c1] at ok ⊢
  have d1 := nmOk_t.mp c1
  have B4 : MBz b n (j + 2) S LL := MBz_1 n0 (MBz_1 n0 B (by omega)) (by omega)
  have nv := ((tk_val (b := b) n0 (j + 1)).2.1 (Or.inl d1.1)).1
  have e3 : ends F 3 ins := by
    rcases gk with h | ⟨h2, h3, h4⟩
    · exact Or.inl (by omega)
    · rcases m1.2 with m | m
      · omega
      · exact ends_dpt 8 3 ins (tr.ce ins (by omega) h3) (by omega)
  have g10 : grpF F pl ins (tkv (tkn b n (j + 1))) 290 = F 290 + 1 := by unfold grpF; rw [updI_at rfl]
  have g9 : grpF F pl ins (tkv (tkn b n (j + 1))) 289 = F 289 := by rw [grpF_at (by omega), addF_gt h0 h1 p1 m32 (by omega)]
  have hG : ∀ x, 0 ≤ x → x ≤ 288 → (x < 64 ∨ 256 ≤ x) → grpF F pl ins (tkv (tkn b n (j + 1))) x = addF F pl (24 + F 290) ins 3 (tkv (tkn b n (j + 1))) x := fun x x0 x1 x2 => grpF_at (by omega)
  have lo : ∀ x, 64 ≤ x → x < 256 → grpF F pl ins (tkv (tkn b n (j + 1))) x = if x = 64 + (24 + F 290) then 3 else if x = 96 + (24 + F 290) ∨ x = 128 + (24 + F 290) ∨ x = 160 + (24 + F 290) ∨ x = 192 + (24 + F 290) ∨ x = 224 + (24 + F 290) then 0 else F x := by
    intro x x0 x1
    rw [grpF_at (by omega), addF_lo p0 h0 h1 x1, if_neg (by omega), if_neg (by omega)]
  obtain ⟨r1, r2, -, r3, r4, nab⟩ := ni_pend (node := 24 + F 290) (srt := 3) (nm := tkv (tkn b n (j + 1))) n0 N P gk h0 h1 (grpF F pl ins (tkv (tkn b n (j + 1)))) (Or.inr ⟨rfl, m1.1, g10, g9, e3⟩) nv d1.2 hG (fun x x0 x1 x2 x3 x4 x5 x6 x7 => by rw [lo x x0 x1, if_neg x2, if_neg (by omega)]) (by rw [lo _ (by omega) (by omega), if_neg (by omega), if_pos (by omega)]) (by
    unfold kdOk
    rw [lo _ (by omega) (by omega), lo _ (by omega) (by omega), lo _ (by omega) (by omega), lo _ (by omega) (by omega)]
    refine ⟨fun z => by omega, fun z => ⟨?_, ?_, ?_, ?_⟩⟩
    · rw [if_pos rfl]
    · rw [if_neg (by omega), if_pos (by omega)]
    · rw [if_neg (by omega), if_pos (by omega)]
    · rw [if_neg (by omega), if_pos (by omega)]) B4 (k := 123) (by omega) ok (by omega)
  refine ⟨r1, r2, r3 (by omega), fun m a c d => ?_, ?_, h00, m1.1⟩
  · rw [r4 m a (Or.inl (by omega)), hG m a (by omega) (by omega), addF_n p0 h0 h1 c, if_neg (fun z => d (by rw [z]; exact nab))]
  · rw [r4 _ h0 (Or.inl (by omega)), hG _ h0 (by omega) (by omega), addF_n p0 h0 h1 h1, if_pos rfl]
/-- the groups that are open, down to where the reading began -/
def INS (F : Int → Int) (op : Nat) (ins start : Int) : Prop := up F op ins = start ∧ ∀ i, i < op → 0 ≤ up F i ins
theorem INS_mv {G : Int → Int} (T : TV F) (gk : grok F ins) {start : Int} (i : INS F op ins start) (e : ∀ m, 0 ≤ m → m < 32 → F m ≠ -1 → G m = F m) : INS G op ins start ∧ grok G ins := by
  refine ⟨⟨?_, fun q hq => ?_⟩, ?_⟩
  · rw [(up_congr T e op ins (grok_thr gk)).1]; exact i.1
  · rw [(up_congr T e q ins (grok_thr gk)).1]; exact i.2 q hq
  · rcases gk with h | ⟨h1, h2, h3⟩
    · exact Or.inl h
    · exact Or.inr ⟨h1, h2, by rw [e ins (by omega) h2 h3]; exact h3⟩
theorem INS_ne (t : TR F) (gk : grok F ins) {start : Int} (i : INS F op ins start) : ins = start ↔ op = 0 := by
  obtain ⟨i1, i2⟩ := i
  constructor
  · intro e
    cases op with
    | zero => rfl
    | succ k =>
      exfalso
      have h := i2 0 (by omega)
      change 0 ≤ ins at h
      have i1' := i1
      have n32 : ins < 32 := by rcases gk with g | ⟨_, g, _⟩ <;> omega
      have d1 := dpt_up (F := F) (k + 1) 8 ins (by rw [i1]; omega)
      rw [dpt_8 (t.ce ins h n32) (8 + (k + 1)) (by omega), i1, ← e] at d1
      omega
  · intro e
    subst e
    exact i1

theorem ni_nod (n0 : 0 ≤ n) : ∀ (k : Nat) (op j : Nat) (pl ins : Int) (F : Int → Int) (S : List TS) (LL : List Int), NI b n was old F0 j F S LL → PLs F op ins pl → grok F ins → (∀ i, i < op → 0 ≤ up F i ins) → (pnod (tkn b n) was k pl ins op j F S LL).1 = true → NI b n was old F0 (pnod (tkn b n) was k pl ins op j F S LL).2.1 (pnod (tkn b n) was k pl ins op j F S LL).2.2.1 (pnod (tkn b n) was k pl ins op j F S LL).2.2.2.1 (pnod (tkn b n) was k pl ins op j F S LL).2.2.2.2 ∧ tkk (tkn b n (pnod (tkn b n) was k pl ins op j F S LL).2.1) = 0 := by
  intro k
  induction k with
  | zero => intro op j pl ins F S LL _ _ _ _ ok; cases ok
  | succ k ih =>
    intro op j pl ins F S LL N P gk io ok
    have T := N.1.1.tv
    unfold pnod at ok ⊢
    by_cases c1 : 8 ≤ tkk (tkn b n j) ∧ tkk (tkn b n j) ≤ 10
    · rw [if_pos c1] at ok ⊢
      cases okP : (pfld (tkn b n) was pl ins j F S LL).1 with
      | false => simp only [okP] at ok; cases ok
      | true =>
        simp only [okP] at ok ⊢
        obtain ⟨r1, r2, r3, r4⟩ := ni_fld n0 N P gk c1.1 c1.2 okP
        obtain ⟨i1, i2⟩ := INS_mv T gk ⟨rfl, io⟩ r4
        exact ih op _ _ _ _ _ _ r2 r3 i2 i1.2 ok
    rw [if_neg c1] at ok ⊢
    by_cases c2 : tkk (tkn b n j) = 5
    · rw [if_pos c2] at ok ⊢
      cases okP : (pgrp (tkn b n) was pl ins j F S LL).1 with
      | false => simp only [okP] at ok; cases ok
      | true =>
        simp only [okP] at ok ⊢
        obtain ⟨r1, r2, r3, r4, r5, r6, r7⟩ := ni_grp n0 N P gk c2 okP
        obtain ⟨i1, i2⟩ := INS_mv T gk ⟨rfl, io⟩ r4
        refine ih (op + 1) _ _ _ _ _ _ r2 r3 (Or.inr ⟨by omega, by omega, ?_⟩) (fun i hi => ?_) ok
        · rw [r5]
          rcases gk with g | ⟨g1, g2, g3⟩ <;> omega
        · cases i with
          | zero => show 0 ≤ 24 + F 290; omega
          | succ i =>
            show 0 ≤ (if 0 ≤ 24 + F 290 then up _ i _ else _)
            rw [if_pos (by omega), r5]
            exact i1.2 i (by omega)
    rw [if_neg c2] at ok ⊢
    by_cases c3 : tkk (tkn b n j) = 125 ∧ op ≠ 0
    · rw [if_pos c3] at ok ⊢
      obtain ⟨o, rfl⟩ : ∃ o, op = o + 1 := ⟨op - 1, by omega⟩
      have h0 := io 0 (by omega)
      change 0 ≤ ins at h0
      have upS : ∀ i, up F (i + 1) ins = up F i (F ins) := fun i => by
        show (if 0 ≤ ins then up F i (F ins) else ins) = _
        rw [if_pos h0]
      refine ih (o + 1 - 1) (j + 1) pl (F ins) F S LL ⟨N.1, N.2.1, N.2.2.1, N.2.2.2.1, MBz_1 n0 N.2.2.2.2.1 (by omega), N.2.2.2.2.2⟩ (fun i hi => ?_) ?_ (fun i hi => ?_) ok
      · rw [← upS]; exact P (i + 1) (by omega)
      · rcases gk with g | ⟨g1, g2, g3⟩
        · omega
        · rcases T.grp (by omega) g2 g3 with h | h
          · exact Or.inl h
          · exact Or.inr h
      · rw [← upS]; exact io (i + 1) (by omega)
    rw [if_neg c3] at ok ⊢
    rw [decide_eq_true_eq] at ok
    exact ⟨N, ok.1⟩
end
/-! the steps of the reading -/
section
variable {T : Nat → TK} {was : Nat} {F : Int → Int} {S : List TS} {LL : List Int} {j k : Nat} {ins pl : Int} {op : Nat}
theorem pn_fld (c8 : 8 ≤ tkk (T j) ∧ tkk (T j) ≤ 10) (ok : (pfld T was pl ins j F S LL).1 = true) : pnod T was (k + 1) pl ins op j F S LL = pnod T was k (pl + 1) ins op (pfld T was pl ins j F S LL).2.1 (pfld T was pl ins j F S LL).2.2.1 (pfld T was pl ins j F S LL).2.2.2.1 (pfld T was pl ins j F S LL).2.2.2.2 := by
  show (if 8 ≤ tkk (T j) ∧ tkk (T j) ≤ 10 then _ else _) = _
  rw [if_pos c8]
  simp only [ok]
theorem pn_fld0 (c8 : 8 ≤ tkk (T j) ∧ tkk (T j) ≤ 10) (ok : (pfld T was pl ins j F S LL).1 = false) : pnod T was (k + 1) pl ins op j F S LL = pfld T was pl ins j F S LL := by
  show (if 8 ≤ tkk (T j) ∧ tkk (T j) ≤ 10 then _ else _) = _
  rw [if_pos c8]
  simp only [ok]
theorem pn_grp (c5 : tkk (T j) = 5) (ok : (pgrp T was pl ins j F S LL).1 = true) : pnod T was (k + 1) pl ins op j F S LL = pnod T was k (pl + 1) (24 + F 290) (op + 1) (pgrp T was pl ins j F S LL).2.1 (pgrp T was pl ins j F S LL).2.2.1 (pgrp T was pl ins j F S LL).2.2.2.1 (pgrp T was pl ins j F S LL).2.2.2.2 := by
  show (if 8 ≤ tkk (T j) ∧ tkk (T j) ≤ 10 then _ else if tkk (T j) = 5 then _ else _) = _
  rw [if_neg (by omega), if_pos c5]
  simp only [ok]
theorem pn_grp0 (c5 : tkk (T j) = 5) (ok : (pgrp T was pl ins j F S LL).1 = false) : pnod T was (k + 1) pl ins op j F S LL = pgrp T was pl ins j F S LL := by
  show (if 8 ≤ tkk (T j) ∧ tkk (T j) ≤ 10 then _ else if tkk (T j) = 5 then _ else _) = _
  rw [if_neg (by omega), if_pos c5]
  simp only [ok]
theorem pn_close (c9 : tkk (T j) = 125 ∧ op ≠ 0) : pnod T was (k + 1) pl ins op j F S LL = pnod T was k pl (F ins) (op - 1) (j + 1) F S LL := by
  show (if 8 ≤ tkk (T j) ∧ tkk (T j) ≤ 10 then _ else if tkk (T j) = 5 then _ else if tkk (T j) = 125 ∧ op ≠ 0 then _ else _) = _
  rw [if_neg (by omega), if_neg (by omega), if_pos c9]
theorem pn_end (c8 : ¬ (8 ≤ tkk (T j) ∧ tkk (T j) ≤ 10)) (c5 : tkk (T j) ≠ 5) (c9 : ¬ (tkk (T j) = 125 ∧ op ≠ 0)) : pnod T was (k + 1) pl ins op j F S LL = (decide (tkk (T j) = 0 ∧ op = 0), j, F, S, LL) := by
  show (if 8 ≤ tkk (T j) ∧ tkk (T j) ≤ 10 then _ else if tkk (T j) = 5 then _ else if tkk (T j) = 125 ∧ op ≠ 0 then _ else _) = _
  rw [if_neg c8, if_neg c5, if_neg c9]
end
/-! THE CLASS READS NODES -/
def kfl : Nat → HP → Option (Bool × HP) := fun w1 h2 =>
    gd (isO h2 w1 3) <|
    bn2 (fX3_fail w1 h2) fun v5 h6 =>
    some (v5, h6)
theorem kfl_s {g gf : HP} (o : isO g 62 3 = true) (e : fX3_fail 62 g = some (false, gf)) : kfl 62 g = some (false, gf) := by
  unfold kfl
  rw [o, gd_tt, e, bn2_s]

section
variable {b : Int → Int} {n : Int} {c : Nat} {was : Nat} {C0 : Int → List Int32} {old : Int → Bool} {z0 : Nat} {F0 : Int → Int} {start : Int}
theorem cnodesL (n0 : 0 ≤ n) (n1 : n ≤ 1200) : ∀ (k m step op j : Nat) (pl ins : Int) (F : Int → Int) (S : List TS) (LL : List Int) (ts : Nat → Nat) (g : HP), k + step = 1201 → k < m → step ≤ j → j ≤ c → CP g b n c j S ts → RPc g F S LL ts was C0 old z0 → NI b n was old F0 j F S LL → PLs F op ins pl → grok F ins → INS F op ins start → ∃ ok g', lX3_readNodes_4 kfl kfl m 62 (i32 (cgr start)) (i32 (cgr ins)) (i32 step) g = some (ok, g') ∧ ok = (pnod (tkn b n) was k pl ins op j F S LL).1 ∧ ZoC b n c was C0 old z0 g j (pnod (tkn b n) was k pl ins op j F S LL) g' := by
  intro k
  induction k with
  | zero =>
    intro m step op j pl ins F S LL ts g e hm sj jc P
    have := P.1.2.2.1.1
    omega
  | succ k ih =>
    intro m step op j pl ins F S LL ts g e hm sj jc P R N PL gk iv
    obtain ⟨m, rfl⟩ : ∃ x, m = x + 1 := ⟨m - 1, by omega⟩
    have tr := N.1.1
    have C := P.1.cs
    have cn := P.1.2.2.1.1
    have tv := tk_val (b := b) n0 j
    have hold := N.2.2.2.2.2.1
    have kr : 0 ≤ tkk (tkn b n j) ∧ tkk (tkn b n j) < 128 := by omega
    obtain ⟨oE1, oE2, oE3⟩ := LF_F0 (l := [192]) (Or.inr rfl)
    obtain ⟨oS1, oS2, oS3⟩ := LF_F0 (l := [448, 449, 450, 451]) (Or.inl rfl)
    have ci : -2 ≤ cgr ins ∧ cgr ins < 8 := cgr_rng (by rcases gk with h | ⟨h1, h2, h3⟩ <;> omega)
    have sv : start = -2 ∨ (24 ≤ start ∧ start < 32) := by
      rcases up_val tr.tv op ins (grok_thr gk) with h | h | h
      · rw [← iv.1, h]; rcases gk with g | ⟨g1, g2, _⟩
        · exact Or.inl g
        · exact Or.inr ⟨g1, g2⟩
      · rw [← iv.1]; exact Or.inl h
      · rw [← iv.1]; exact Or.inr ⟨h.1, h.2.1⟩
    have iv2 : ins = -2 ∨ (24 ≤ ins ∧ ins < 32) := by
      rcases gk with g | ⟨g1, g2, _⟩
      · exact Or.inl g
      · exact Or.inr ⟨g1, g2⟩
    have cs := cgr_rng sv
    have ceq : (i32 (cgr ins) = i32 (cgr start)) = (op = 0) := by
      rw [i32_eq (by omega) (by omega) (by omega) (by omega)]
      apply propext
      rw [cgr_inj iv2 sv]
      exact INS_ne tr gk iv
    obtain ⟨gf, f1, f2, f3⟩ := fail_s P.1
    have badZ : ∀ F S LL, ZoC b n c was C0 old z0 g j (false, j, F, S, LL) gf := fun F S LL => ZoC_bad (Nat.le_refl _) (by show Co (j - j) LF g gf; rw [Nat.sub_self]; exact f2.w oE3) rfl f3
    rw [elX3_readNodes_4]; unfold bX3_readNodes_4
    rw [if_neg (by rw [i32_lt (by omega) (by omega) (by omega) (by omega)]; omega), C.o_parser, gd_tt, C.r_tokens, oc_s, C.o_tokens, gd_tt, lt_e, P.1.k]
    have e0 : (i32 (tkk (tkn b n j)) = 0) = (tkk (tkn b n j) = 0) := by rw [i32_z, i32_eq (by omega) (by omega) (by omega) (by omega)]
    have bad74 : ∀ k4, tkk (tkn b n j) ≠ 125 ∨ op = 0 → jX3_readNodes_74 k4 kfl 62 (i32 (cgr start)) (i32 (cgr ins)) (i32 step) (i32 (tkk (tkn b n j))) g = some (false, gf) := by
      intro k4 h
      unfold jX3_readNodes_74
      by_cases c : tkk (tkn b n j) = 125
      · rw [if_pos (by rw [c]), if_pos (by rw [ceq]; exact h.resolve_left (fun z => z c)), kfl_s C.o_parser f1]
      · rw [if_neg (by rw [i32_eq (by omega) (by omega) (by omega) (by omega)]; exact c), kfl_s C.o_parser f1]
    by_cases c0 : tkk (tkn b n j) = 0
    · rw [if_pos (by rw [e0]; exact c0), pn_end (by omega) (by omega) (by omega)]
      by_cases c1 : op = 0
      · rw [if_pos (by rw [ceq]; exact c1)]
        refine ⟨true, g, rfl, ?_, Nat.le_refl _, by show Co (j - j) LF g g; rw [Nat.sub_self]; exact Co.r, fun _ => ⟨⟨Nat.le_refl _, jc⟩, ts, P, R⟩, fun z => ?_⟩
        · show true = decide (tkk (tkn b n j) = 0 ∧ op = 0)
          rw [decide_eq_true ⟨c0, c1⟩]
        · change decide (tkk (tkn b n j) = 0 ∧ op = 0) = false at z
          rw [decide_eq_true ⟨c0, c1⟩] at z; cases z
      · have dc : decide (tkk (tkn b n j) = 0 ∧ op = 0) = false := decide_eq_false (fun z => c1 z.2)
        rw [if_neg (by rw [ceq]; exact c1), dc]
        unfold jX3_readNodes_32
        rw [if_neg (by rw [i32_eq (by omega) (by omega) (by omega) (by omega)]; omega), if_pos (by rw [i32_lt (by omega) (by omega) (by omega) (by omega)]; omega), bad74 _ (Or.inl (by omega))]
        exact ⟨false, gf, rfl, rfl, badZ _ _ _⟩
    rw [if_neg (by rw [e0]; exact c0)]
    unfold jX3_readNodes_32
    by_cases c5 : tkk (tkn b n j) = 5
    · rw [if_pos (by rw [c5]), C.o_parser, gd_tt]
      obtain ⟨v, g1, a1, a2, a3, a4⟩ := cgroup n0 n1 P R N.2.2.1 N.1 gk (PL 0 (by omega)) hold c5
      have a1' : fX3_groupHead 62 (i32 (cgr ins)) g = some (v, g1) := a1
      rw [a1', bn2_s]
      cases okP : (pgrp (tkn b n) was pl ins j F S LL).1 with
      | false =>
        rw [a3 okP, if_neg (by decide), pn_grp0 c5 okP]
        exact ⟨false, g1, rfl, okP.symm, a4⟩
      | true =>
        obtain ⟨r1, r2, r3, r4, r5, r6, r7⟩ := ni_grp n0 N PL gk c5 okP
        obtain ⟨i1, i2⟩ := INS_mv tr.tv gk iv r4
        obtain ⟨z1, z2, z3, -⟩ := id a4
        obtain ⟨⟨z4, z5⟩, ts', P', R'⟩ := z3 okP
        rw [a2 okP, if_pos (by rw [i32_z, i32_le (by omega) (by omega) (by omega) (by omega)]; omega)]
        unfold jX3_readNodes_126
        rw [i32_add, lt_e]
        have ec : cgr (24 + F 290) = F 290 := by unfold cgr; rw [if_neg (by omega)]; omega
        have gk2 : grok (pgrp (tkn b n) was pl ins j F S LL).2.2.1 (24 + F 290) := Or.inr ⟨by omega, by omega, by rw [r5]; rcases gk with g | ⟨g1, g2, g3⟩ <;> omega⟩
        have iv3 : INS (pgrp (tkn b n) was pl ins j F S LL).2.2.1 (op + 1) (24 + F 290) start := by
          have us : ∀ i, up (pgrp (tkn b n) was pl ins j F S LL).2.2.1 (i + 1) (24 + F 290) = up (pgrp (tkn b n) was pl ins j F S LL).2.2.1 i ins := fun i => by
            show (if 0 ≤ 24 + F 290 then up _ i _ else _) = _
            rw [if_pos (by omega), r5]
          refine ⟨by rw [us]; exact i1.1, fun i hi => ?_⟩
          cases i with
          | zero => show 0 ≤ 24 + F 290; omega
          | succ i => rw [us]; exact i1.2 i (by omega)
        obtain ⟨ok, g', y1, y2, y3⟩ := ih m (step + 1) (op + 1) _ (pl + 1) (24 + F 290) _ _ _ ts' g1 (by omega) (by omega) (by omega) z5 P' R' r2 r3 gk2 iv3
        rw [ec] at y1
        rw [pn_grp c5 okP]
        exact ⟨ok, g', y1, y2, ZoC_pre y3 z2 (by omega)⟩
    rw [if_neg (by rw [i32_eq (by omega) (by omega) (by omega) (by omega)]; exact c5)]
    by_cases c8 : 8 ≤ tkk (tkn b n j) ∧ tkk (tkn b n j) ≤ 10
    · rw [if_neg (by rw [i32_lt (by omega) (by omega) (by omega) (by omega)]; omega), if_neg (by rw [i32_lt (by omega) (by omega) (by omega) (by omega)]; omega), C.o_parser, gd_tt]
      obtain ⟨ok, g1, a1, a2, a4⟩ := cfield n0 n1 P R N.2.2.1 N.1 gk (PL 0 (by omega)) hold c8.1 c8.2
      have a1' : fX3_field 62 (i32 (cgr ins)) g = some (ok, g1) := a1
      rw [a1', bn2_s, a2]
      cases okP : (pfld (tkn b n) was pl ins j F S LL).1 with
      | false =>
        rw [if_neg (by decide), pn_fld0 c8 okP]
        exact ⟨false, g1, rfl, okP.symm, a4⟩
      | true =>
        obtain ⟨r1, r2, r3, r4⟩ := ni_fld n0 N PL gk c8.1 c8.2 okP
        obtain ⟨i1, i2⟩ := INS_mv tr.tv gk iv r4
        obtain ⟨z1, z2, z3, -⟩ := id a4
        obtain ⟨⟨z4, z5⟩, ts', P', R'⟩ := z3 okP
        rw [if_pos rfl]
        unfold jX3_readNodes_126
        rw [i32_add, lt_e]
        obtain ⟨ok, g', y1, y2, y3⟩ := ih m (step + 1) op _ (pl + 1) ins _ _ _ ts' g1 (by omega) (by omega) (by omega) z5 P' R' r2 r3 i2 i1
        rw [pn_fld c8 okP]
        exact ⟨ok, g', y1, y2, ZoC_pre y3 z2 (by omega)⟩
    have to74 : ∀ k4 K, (if i32 (tkk (tkn b n j)) < i32 8 then jX3_readNodes_74 k4 K 62 (i32 (cgr start)) (i32 (cgr ins)) (i32 step) (i32 (tkk (tkn b n j))) g else if i32 10 < i32 (tkk (tkn b n j)) then jX3_readNodes_74 k4 K 62 (i32 (cgr start)) (i32 (cgr ins)) (i32 step) (i32 (tkk (tkn b n j))) g else gd (isO g 62 3) (bn2 (fX3_field 62 (i32 (cgr ins)) g) fun v103 h104 => if v103 = true then jX3_readNodes_126 k4 62 (i32 (cgr start)) (i32 (cgr ins)) (i32 step) h104 else some (false, h104))) = jX3_readNodes_74 k4 K 62 (i32 (cgr start)) (i32 (cgr ins)) (i32 step) (i32 (tkk (tkn b n j))) g := by
      intro k4 K
      by_cases q : tkk (tkn b n j) < 8
      · rw [if_pos (by rw [i32_lt (by omega) (by omega) (by omega) (by omega)]; exact q)]
      · rw [if_neg (by rw [i32_lt (by omega) (by omega) (by omega) (by omega)]; exact q), if_pos (by rw [i32_lt (by omega) (by omega) (by omega) (by omega)]; omega)]
    rw [to74]
    by_cases c9 : tkk (tkn b n j) = 125 ∧ op ≠ 0
    · rw [pn_close c9]
      obtain ⟨o, rfl⟩ : ∃ o, op = o + 1 := ⟨op - 1, by omega⟩
      have h0 := iv.2 0 (by omega)
      change 0 ≤ ins at h0
      have gi := gk.resolve_left (by omega)
      have ip := gi.2.2
      have upS : ∀ i, up F (i + 1) ins = up F i (F ins) := fun i => by
        show (if 0 ≤ ins then up F i (F ins) else ins) = _
        rw [if_pos h0]
      have jn := P.1.jn n0 (by omega)
      obtain ⟨g1, s1, s2, s3⟩ := P.1.step n0 n1 (by omega)
      have P1 := P.mv s2 s3
      have R1 := RPs_co R C (Or.inl rfl) s2
      obtain ⟨E, G⟩ := FRb_tree R.1 tr.tv tr.ov
      have gi32 : ins.toNat < 32 := by omega
      have eg : gno (cgr ins) = ins := gno_cgr iv2
      unfold jX3_readNodes_74
      rw [if_pos (by rw [c9.1]), if_neg (by rw [ceq]; omega), C.o_parser, gd_tt, C.r_pform, oc_s, C.o_pform, gd_tt, cfindGroup C.sf (by omega) (by omega), bn_s, eg, fno_y h0 gi.2.1 (by rw [E.1 ins h0 gi.2.1]; exact ip), on_sm, C.sf.on gi32, gd_tt, G ins h0 gi.2.1 (by rw [E.1 ins h0 gi.2.1]; exact ip), E.1 ins h0 gi.2.1]
      unfold jX3_readNodes_110
      rw [C.o_parser, gd_tt, C.r_tokens, oc_s, C.o_tokens, gd_tt, s1, bn_s]
      unfold jX3_readNodes_126
      rw [i32_add, lt_e]
      obtain ⟨ok, g', y1, y2, y3⟩ := ih m (step + 1) o (j + 1) pl (F ins) F S LL ts g1 (by omega) (by omega) (by omega) (by omega) P1 R1 ⟨N.1, N.2.1, N.2.2.1, N.2.2.2.1, MBz_1 n0 N.2.2.2.2.1 (by omega), N.2.2.2.2.2⟩ (fun i hi => by rw [← upS]; exact PL (i + 1) (by omega)) (by
        rcases tr.tv.grp h0 gi.2.1 ip with h | h
        · exact Or.inl h
        · exact Or.inr h) ⟨by rw [← upS]; exact iv.1, fun i hi => by rw [← upS]; exact iv.2 (i + 1) (by omega)⟩
      exact ⟨ok, g', y1, y2, ZoC_pre y3 (s2.w oS3) (by omega)⟩
    · have dc : decide (tkk (tkn b n j) = 0 ∧ op = 0) = false := decide_eq_false (fun z => c0 z.1)
      rw [pn_end c8 c5 c9, dc, bad74 _ (by omega)]
      exact ⟨false, gf, rfl, rfl, badZ _ _ _⟩
end
