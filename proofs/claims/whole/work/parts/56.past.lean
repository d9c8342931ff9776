/-! THE PAST AFTER A CALL THAT WRITES -/
/-- what a call has kept: the class's state of before in its ring, the model's world of before behind the others -/
def Rem (h g : HP) (u p : Nat) : Prop := hI g 646 0 = i32 (u10 u : Nat) ∧ hI g 647 0 = i32 ((p + 1) % 10 : Nat) ∧ hI g 712 983 = i32 (u10 u : Nat) ∧ StateEq g (403 + 58 * p) h 2 ∧ (∀ x, 403 ≤ x → x < 983 → ¬ inS (403 + 58 * p) x → Sm h g x) ∧ (∀ j, j + 1 < u10 u → EW (Un g j) (Un h (if u = 10 then j + 1 else j))) ∧ EW (Un g (u10 u - 1)) (Wm h)
section
variable {h g : HP}
theorem SR_eq' {a a' : Nat} {W : Int → Int} {np np' : Nat} (r : SR h a W np) (e : StateEq g a' h a) (ts : TS2 h g) (pl : PlS np h g) (e5 : hA g 985 = hA h 985) (hn : np ≤ np') (er : ∀ r : Nat, (r : Int) < W 2628 → FormEq g (115 + 36 * r) h (115 + 36 * r)) : SR g a' W np' := by
  obtain ⟨r1, r2, r3, r4, r5⟩ := r
  obtain ⟨e1, e2, e3, e4⟩ := e
  exact ⟨FRx_eq r1 e1 ts pl e5 hn, by rw [e2]; exact r2, by rw [e3]; exact r3, fun q hq => FRx_eq (r4 q hq) (er q hq) ts pl e5 hn, fun q hq => SheetEq_ShR (r5 q hq) (e4 q (by omega))⟩
theorem PastR_rem {np np' : Nat} (P : PastR h np) (sr : SR h 2 (Wm h) np) (rem : ∀ u p : Nat, u ≤ 10 → p < 10 → hI h 646 0 = i32 u → hI h 647 0 = i32 p → hI h 712 983 = i32 u → Rem h g u p) (ts : TS2 h g) (pl : PlS np h g) (e5 : hA g 985 = hA h 985) (er : ∀ r : Nat, (r : Int) < Wm h 2628 → FormEq g (115 + 36 * r) h (115 + 36 * r)) (mo : Wm h 2628 ≤ Wm g 2628) (hn : np ≤ np') : PastR g np' := by
  obtain ⟨u, p, hu, hp, p3, p4, p5, ⟨pm1, pm2⟩, p6⟩ := P
  obtain ⟨q1, q2, q3, q4, q5, q6, q7⟩ := rem u p hu hp p3 p4 p5
  have mono : ∀ d j, j + d + 1 = u → Un h j 2628 ≤ Wm h 2628 := by
    intro d
    induction d with
    | zero => intro j hj; have := pm2 (by omega); rw [show u - 1 = j by omega] at this; exact this
    | succ d ih => intro j hj; exact Int.le_trans (pm1 j (by omega)) (ih (j + 1) (by omega))
  have eU : ∀ j, j + 1 < u10 u → Un g j 2628 = Un h (if u = 10 then j + 1 else j) 2628 := fun j hj => q6 j hj 2628 (by omega) (by omega)
  have u10c : u10 u = if u = 10 then 10 else u + 1 := rfl
  have old : ∀ j, j < u → (u = 10 → 0 < j) → SR g (403 + 58 * psl u p j) (Un h j) np' := fun j hj h0 => by
    have hq : psl u p j < 10 := Nat.mod_lt _ (by omega)
    have ne : psl u p j ≠ p := by
      unfold psl
      by_cases c : u = 10
      · have := h0 c; omega
      · omega
    refine SR_eq' (p6 j hj) (StateEq_sm fun x hx => q5 x (by have := hx.1; omega) (by have := hx.2; omega) (fun z => by have := hx.1; have := hx.2; have := z.1; have := z.2; omega)) ts pl e5 hn (fun r hr => er r ?_)
    have := mono (u - 1 - j) j (by omega)
    omega
  refine ⟨u10 u, (p + 1) % 10, by rw [u10c]; split <;> omega, Nat.mod_lt _ (by omega), q1, q2, q3, ⟨fun j hj => ?_, fun _ => ?_⟩, fun j hj => ?_⟩
  · rw [eU j (by omega)]
    by_cases c : j + 2 < u10 u
    · rw [eU (j + 1) (by omega)]
      rw [u10c] at c
      by_cases d : u = 10
      · rw [if_pos d] at c
        rw [if_pos d, if_pos d]; exact pm1 (j + 1) (by omega)
      · rw [if_neg d] at c
        rw [if_neg d, if_neg d]; exact pm1 j (by omega)
    · have e1 : Un g (j + 1) 2628 = Wm h 2628 := by
        have y := q7 2628 (by omega) (by omega)
        rw [show u10 u - 1 = j + 1 by omega] at y
        exact y
      rw [e1]
      rw [u10c] at c hj
      by_cases d : u = 10
      · rw [if_pos d] at c hj
        rw [if_pos d]
        exact mono 0 (j + 1) (by omega)
      · rw [if_neg d] at c hj
        rw [if_neg d]
        exact mono 0 j (by omega)
  · rw [q7 2628 (by omega) (by omega)]; exact mo
  · by_cases c : j + 1 < u10 u
    · refine SR_W ?_ (q6 j c)
      rw [u10c] at c
      by_cases d : u = 10
      · rw [if_pos d] at c
        rw [if_pos d]
        have e : psl (u10 u) ((p + 1) % 10) j = psl u p (j + 1) := by unfold psl u10; rw [if_pos d]; omega
        rw [e]
        exact old (j + 1) (by omega) (fun _ => by omega)
      · rw [if_neg d] at c
        rw [if_neg d]
        have e : psl (u10 u) ((p + 1) % 10) j = psl u p j := by unfold psl u10; rw [if_neg d]; omega
        rw [e]
        exact old j (by omega) (fun z => absurd z d)
    · have ej : j = u10 u - 1 := by omega
      have e : psl (u10 u) ((p + 1) % 10) j = p := by
        rw [ej]
        unfold psl u10
        split <;> omega
      rw [e, ej]
      exact SR_W (SR_eq' sr q4 ts pl e5 hn er) q7
/-- the parts of Rem put together -/
theorem Rem_mk {c m : HP} {u p : Nat} (a1 : So (fun x => x = 0 ∨ inS (403 + 58 * p) x) h c) (a2 : StateEq c (403 + 58 * p) h 2) (a3 : hI c 646 0 = i32 (u10 u : Nat)) (a4 : hI c 647 0 = i32 ((p + 1) % 10 : Nat)) (hp : p < 10) (d1 : ∀ x, x = 0 ∨ (403 ≤ x ∧ x < 983) → ∀ f, x ≠ 0 ∨ f = 646 ∨ f = 647 → hI m f x = hI c f x) (d2 : ∀ x, 403 ≤ x → x < 983 → Sm c m x) (d3 : hL m 987 = hL h 987) (d4 : hL m 989 = hL h 989) (b1 : hI g 712 983 = i32 (u10 u : Nat)) (b2 : ∀ j i, j + 1 < u10 u → i < 2880 → hL g 989 (2880 * j + i) = hL m 989 (2880 * (if u = 10 then j + 1 else j) + i)) (b3 : ∀ i, i < 2880 → hL g 989 (2880 * (u10 u - 1) + i) = hL m 987 i) (e1 : ∀ x, x = 0 ∨ (403 ≤ x ∧ x < 983) → Sm m g x) : Rem h g u p := by
  have s : ∀ x, 403 ≤ x → x < 983 → Sm c g x := fun x x0 x1 => (d2 x x0 x1).t (e1 x (Or.inr ⟨x0, x1⟩))
  refine ⟨?_, ?_, b1, ?_, fun x x0 x1 n => ?_, fun j hj i i0 i1 => ?_, fun i i0 i1 => ?_⟩
  · rw [(e1 0 (Or.inl rfl)).1, d1 0 (Or.inl rfl) 646 (Or.inr (Or.inl rfl))]; exact a3
  · rw [(e1 0 (Or.inl rfl)).1, d1 0 (Or.inl rfl) 647 (Or.inr (Or.inr rfl))]; exact a4
  · have q := StateEq_sm (h := c) (g := g) (a := 403 + 58 * p) (fun x hx => s x (by have := hx.1; omega) (by have := hx.2; omega))
    exact ⟨⟨fun f hf => (q.1.1 f hf).trans (a2.1.1 f hf), fun i hi => ⟨(q.1.2 i hi).1.trans (a2.1.2 i hi).1, (a2.1.2 i hi).2.sm (s _ (by omega) (by omega))⟩⟩, q.2.1.trans a2.2.1, q.2.2.1.trans a2.2.2.1, fun i hi => ⟨(q.2.2.2 i hi).1.trans (a2.2.2.2 i hi).1, fun j hj => ((q.2.2.2 i hi).2 j hj).trans ((a2.2.2.2 i hi).2 j hj)⟩⟩
  · exact (a1.2.2 x (fun z => by rcases z with z | z; omega; exact n z)).t (s x x0 x1)
  · unfold Un
    rw [b2 j i.toNat hj (by omega), d4]
  · unfold Un Wm
    rw [b3 i.toNat (by omega), d3]
end
