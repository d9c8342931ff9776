section
variable {F : Int → Int} {s : LYt}
/-- what is not placed has no row and no column -/
def LYp (s : LYt) : Prop := 0 ≤ lyR s ∧ ∀ n, (lyX s n = -2 ∧ lyY s n = -2) ∨ 0 ≤ lyX s n
theorem LYp_BR (p : LYp s) (c : Int) : LYp (lBR c s) := by
  refine ⟨?_, p.2⟩
  show 0 ≤ (if lyT s = true then lyR s + 1 else lyR s)
  have := p.1
  split <;> omega
theorem LYp_UP (p : LYp s) (b : Bool) : LYp (lUP b s) := by
  refine ⟨?_, p.2⟩
  show 0 ≤ (if b = true then lyR s + 1 else lyR s)
  have := p.1
  split <;> omega
theorem LYp_CO (p : LYp s) (w : Int) : LYp (lCO w s) := p
theorem LYp_ST (p : LYp s) (n : Int) : LYp (lST n s) := by
  refine ⟨p.1, fun m => ?_⟩
  show (updI (lyX s) n (lyR s) m = -2 ∧ updI (lyY s) n (lyC s) m = -2) ∨ 0 ≤ updI (lyX s) n (lyR s) m
  by_cases c : m = n
  · rw [updI_at c]; exact Or.inr p.1
  · rw [updI_ne c, updI_ne c]; exact p.2 m
theorem LYp_ND (p : LYp s) {ap : Int → Bool} {cols pg m : Int} : LYp (lND F ap cols pg m s) := by
  unfold lND
  by_cases c : 24 ≤ m
  · rw [if_pos c]
    exact LYp_BR (LYp_ST (LYp_UP (LYp_BR p _) _) _) _
  · rw [if_neg c]
    unfold lFD
    split
    · exact LYp_CO (LYp_ST (LYp_BR p _) _) _
    · exact LYp_CO (LYp_ST p _) _
theorem lay9_p {sh ap : Int → Bool} {cols pg : Int} : ∀ (k : Nat) (i l : Int) (s : LYt), LYp s → LYp (lay9 F sh ap cols pg k i l s) := by
  intro k
  induction k with
  | zero => intro i l s p; exact p
  | succ k ih =>
    intro i l s p
    simp only [lay9]
    by_cases c : sh (F (256 + i)) = true
    · rw [if_pos c]
      refine ih _ _ _ (LYp_ND ?_)
      split
      · exact LYp_BR p _
      · exact p
    · rw [if_neg c]; exact ih _ _ _ p
theorem ly0_p : LYp ly0 := ⟨Int.le_refl _, fun _ => Or.inl ⟨rfl, rfl⟩⟩
end

