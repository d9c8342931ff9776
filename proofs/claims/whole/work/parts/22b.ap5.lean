/-! HOW FEW BYTES A CONDITION TAKES -/
section
variable {b : Int → Int} {n : Int}
def AQ5 (b : Int → Int) (n : Int) (j : Nat) (P : PR) : Prop :=
  P.1 = true → ∀ x y : Int, (x = 0 ∨ (x = 2 ∧ ¬ isw (tK b n j))) → (y = 0 ∨ (y = 2 ∧ isw (tK b n P.2.1))) → 5 * (P.2.2.2.length : Int) + 2 * tS b n j + x + y ≤ 2 * tS b n P.2.1 + 3
theorem ap5_name (n0 : 0 ≤ n) {ow : Int} {j : Nat} (S : List TS) (h : tK b n j = 2) : AQ5 b n j (pname (tkn b n) ow j S) := by
  have nv := (tk_val (b := b) n0 j).2.1 (Or.inl h)
  have l1 := nl_pos nv.1.1
  have w := tS_w n0 (Or.inl h)
  have iw : isw (tK b n j) := Or.inl h
  unfold AQ5 pname
  by_cases c0 : sg (tkk (tkn b n (j + 1))) = 0
  · rw [if_pos c0]
    intro _ x y hx hy
    have x0 : x = 0 := by
      rcases hx with hx | hx
      · exact hx
      · exact absurd iw hx.2
    simp only [List.length_singleton]
    rcases hy with hy | hy
    · omega
    · have := w.2 hy.2; omega
  · rw [if_neg c0]
    have k1 : tK b n (j + 1) ≠ 0 := fun z => c0 (by unfold tK at z; rw [z]; rfl)
    have s1 := tS_1 n0 k1
    by_cases c1 : tkk (tkn b n (j + 2)) = 3
    · rw [if_pos c1]
      have s2 := tS_1 (b := b) n0 (j := j + 2) (show tkk (tkn b n (j + 2)) ≠ 0 by omega)
      intro _ x y hx hy
      have x0 : x = 0 := by
        rcases hx with hx | hx
        · exact hx
        · exact absurd iw hx.2
      rw [show j + 1 + 1 = j + 2 by omega] at s1
      rw [show j + 2 + 1 = j + 3 by omega] at s2
      simp only [List.length_singleton]
      rcases hy with hy | hy <;> omega
    · rw [if_neg c1]
      intro z; cases z
theorem ap5_tail (n0 : 0 ≤ n) {pt : Nat → List TS → PR} {w op : Int} (hw : w = 12 ∧ op = 1 ∨ w = 11 ∧ op = 2) (hp : ∀ j S, AQ5 b n j (pt j S)) {j0 : Nat} : ∀ (k j : Nat) (S : List TS) (L : List Int), AQ5 b n j0 (true, j, S, L) → AQ5 b n j0 (ptail (tkn b n) pt w op k j S L) := by
  intro k
  induction k with
  | zero => intro j S L a; exact a
  | succ k ih =>
    intro j S L a
    simp only [ptail]
    by_cases c : tkk (tkn b n j) = w
    · rw [if_pos c]
      cases ok : (pt (j + 1) S).1 with
      | false => intro z; cases z
      | true =>
        apply ih
        have q := hp (j + 1) S ok
        have iw : isw (tK b n j) := by unfold isw tK; omega
        have kl := kw_len (b := b) n0 (j := j)
        have wl := tS_w n0 iw
        have l2 : 2 ≤ nl (tkv (tkn b n j)) := by
          rcases hw with ⟨hw, _⟩ | ⟨hw, _⟩
          · rw [kl.2.1 (by unfold tK; omega)]; decide
          · rw [kl.1 (by unfold tK; omega)]; exact Nat.le_refl _
        intro _ x y hx hy
        have A := a rfl x 2 hx (Or.inr ⟨rfl, iw⟩)
        simp only [List.length_append, List.length_singleton] at A ⊢
        by_cases iw2 : isw (tK b n (j + 1))
        · have Q := q 0 y (Or.inl rfl) hy
          have := wl.2 iw2
          omega
        · have Q := q 2 y (Or.inr ⟨rfl, iw2⟩) hy
          have := wl.1
          omega
    · rw [if_neg c]; exact a
theorem ap5_ch (n0 : 0 ≤ n) {pt : Nat → List TS → PR} {w op : Int} (hw : w = 12 ∧ op = 1 ∨ w = 11 ∧ op = 2) (hp : ∀ j S, AQ5 b n j (pt j S)) : ∀ j S, AQ5 b n j (pch (tkn b n) pt w op j S) := by
  intro j S
  unfold pch
  cases ok : (pt j S).1 with
  | false => intro z; cases z
  | true => exact ap5_tail n0 hw hp 1200 _ _ _ (fun _ => hp j S ok)
theorem ap5_test (n0 : 0 ≤ n) {ow : Int} : ∀ (q j : Nat) (S : List TS), AQ5 b n j (ptest (tkn b n) ow q j S) := by
  intro q
  induction q with
  | zero =>
    intro j S
    unfold ptest
    by_cases c : tkk (tkn b n j) = 2
    · rw [if_pos c]; exact ap5_name n0 S c
    · rw [if_neg c]; intro z; cases z
  | succ q ih =>
    intro j S
    unfold ptest
    by_cases c : tkk (tkn b n j) = 2
    · rw [if_pos c]; exact ap5_name n0 S c
    rw [if_neg c]
    by_cases c2 : tkk (tkn b n j) = 13
    · rw [if_pos c2]
      cases ok : (ptest (tkn b n) ow q (j + 1) S).1 with
      | false => intro z; cases z
      | true =>
        have q := ih (j + 1) S ok
        have iw : isw (tK b n j) := by unfold isw tK; omega
        have wl := (tS_w n0 iw).1
        rw [(kw_len (b := b) n0 (j := j)).2.2 c2] at wl
        intro _ x y hx hy
        have x0 : x = 0 := by
          rcases hx with hx | hx
          · exact hx
          · exact absurd iw hx.2
        have Q := q 0 y (Or.inl rfl) hy
        simp only [List.length_append, List.length_singleton]
        omega
    rw [if_neg c2]
    by_cases c3 : tkk (tkn b n j) = 40
    · rw [if_pos c3]
      have hd : ∀ j S, AQ5 b n j (pdis (tkn b n) (ptest (tkn b n) ow q) j S) := ap5_ch n0 (Or.inr ⟨rfl, rfl⟩) (ap5_ch n0 (Or.inl ⟨rfl, rfl⟩) ih)
      cases ok : (pdis (tkn b n) (ptest (tkn b n) ow q) (j + 1) S).1 with
      | false => intro z; cases z
      | true =>
        have q' := hd (j + 1) S ok
        have s1 := tS_1 (b := b) n0 (j := j) (show tkk (tkn b n j) ≠ 0 by omega)
        show AQ5 b n j (if tkk (tkn b n (pdis (tkn b n) (ptest (tkn b n) ow q) (j + 1) S).2.1) = 41 then _ else _)
        by_cases c4 : tkk (tkn b n (pdis (tkn b n) (ptest (tkn b n) ow q) (j + 1) S).2.1) = 41
        · rw [if_pos c4]
          have s2 := tS_1 (b := b) n0 (j := (pdis (tkn b n) (ptest (tkn b n) ow q) (j + 1) S).2.1) (show tkk (tkn b n (pdis (tkn b n) (ptest (tkn b n) ow q) (j + 1) S).2.1) ≠ 0 by omega)
          intro _ x y hx hy
          have Q := q' 0 0 (Or.inl rfl) (Or.inl rfl)
          simp only
          generalize pdis (tkn b n) (ptest (tkn b n) ow q) (j + 1) S = PD at *
          omega
        · rw [if_neg c4]; intro z; cases z
    · rw [if_neg c3]; intro z; cases z
theorem ap5_dis (n0 : 0 ≤ n) {ow : Int} (q j : Nat) (S : List TS) : AQ5 b n j (pdis (tkn b n) (ptest (tkn b n) ow q) j S) := ap5_ch n0 (Or.inr ⟨rfl, rfl⟩) (ap5_ch n0 (Or.inl ⟨rfl, rfl⟩) (ap5_test n0 q)) j S
end
