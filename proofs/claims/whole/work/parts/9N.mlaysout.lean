section
variable {h g : HP} {F : Int → Int}
theorem mlays22 {K : Nat → Bool → Int32 → HP → Option HP} {pr : Bool} {fo : Int32} : ∀ (k n : Nat) (i : Int) (f : HP), i + k = 32 → 0 ≤ i → k < n → MS f → ∃ g, lX11_laysOut_22 K n 983 pr fo (i32 i) f = K 983 pr fo g ∧ Mo L7 f g ∧ (∀ t, hI g t 983 = hI f t 983) ∧ (∀ q, i ≤ q → q < 32 → hA g 1003 q.toNat = i32 (-2)) ∧ ∀ q : Nat, (q : Int) < i → hA g 1003 q = hA f 1003 q := by
  intro k
  induction k with
  | zero =>
    intro n i f e i0 hn M
    obtain ⟨n, rfl⟩ : ∃ x, n = x + 1 := ⟨n - 1, by omega⟩
    refine ⟨f, ?_, Mo.r, fun _ => rfl, fun q a b => by omega, fun q _ => rfl⟩
    rw [elX11_laysOut_22]; unfold bX11_laysOut_22
    rw [if_pos (by rw [i32_le (by omega) (by omega) (by omega) (by omega)]; omega)]
  | succ k ih =>
    intro n i f e i0 hn M
    obtain ⟨n, rfl⟩ : ∃ x, n = x + 1 := ⟨n - 1, by omega⟩
    obtain ⟨f1, e1⟩ : ∃ f1, f1 = sA f 1003 i.toNat (i32 (-2)) := ⟨_, rfl⟩
    have p1 : Mo L7 f f1 := by rw [e1]; exact Mo_A (by decide) _ _
    obtain ⟨g, a1, a2, a3, a4, a5⟩ := ih n (i + 1) f1 (by omega) (by omega) (by omega) (p1.ms M)
    refine ⟨g, ?_, p1.t a2, fun t => by rw [a3, e1, rIA], fun q q0 q1 => ?_, fun q hq => ?_⟩
    · rw [elX11_laysOut_22]; unfold bX11_laysOut_22
      rw [if_neg (by rw [i32_le (by omega) (by omega) (by omega) (by omega)]; omega), M.o, gd_tt, M.r_rowOf, oc_s, M.o_rowOf, gd_tt, M.n_rowOf, i32_inb i0 (by omega) (by omega), gd_tt, i32_cn i0 (by omega), ← e1, lt_e, lt_e, i32_add]
      exact a1
    · by_cases y : q = i
      · have := a5 i.toNat (by omega)
        rw [y, this, e1, rAA, if_pos ⟨rfl, rfl⟩]
      · exact a4 q (by omega) q1
    · rw [a5 q (by omega), e1, rAA, if_neg (fun z => by omega)]
/-- the model lays a form out -/
theorem mlaysOut (M : MS h) {fo cols pg : Int} (h0 : 0 ≤ fo) (h1 : fo ≤ 2588) (eF : Fm h fo = F) (t : TR F) (de : DE F) (kd : KD F) (sg : ∀ m, 0 ≤ m → m < 32 → F m ≠ -1 → 0 ≤ F (224 + m) ∧ F (224 + m) ≤ 12000) (pr : Bool) (c0 : 0 ≤ cols) (c1 : cols ≤ 60) (p0 : 0 ≤ pg) (p1 : pg ≤ 60) (hc : hA h 985 (if pr = true then 1 else 0) = i32 cols) (hpg : pr = true → hA h 985 2 = i32 pg) (hpg' : pr = false → pg = 0) {ap sh : Int → Bool} (hap : ∀ m, 0 ≤ m → m < 24 → F m ≠ -1 → ap m = (pr && decide (0 < F (224 + m)))) (hb : ∀ j : Nat, j < 32 → isB (hA h 999 j) = true) (hsh : ∀ m, 0 ≤ m → m < 32 → F m ≠ -1 → (pr || z2b (hA h 999 m.toNat)) = sh m) (up : ∀ m, 0 ≤ m → m < 32 → F m ≠ -1 → sh m = true → 0 ≤ F m → sh (F m) = true) : ∃ g, fX11_laysOut 983 pr (i32 fo) h = some g ∧ Mo L7 h g ∧ LYm g (lay9 F sh ap cols pg (F 288).toNat 0 0 ly0) := by
  obtain ⟨g1, e1⟩ : ∃ g1, g1 = sI (sI (sI (sI h 740 983 (i32 0)) 741 983 (i32 0)) 742 983 (i32 0)) 743 983 (i32 0) := ⟨_, rfl⟩
  have q1 : Mo L7 h g1 := by
    rw [e1]
    exact (Mo_I (by decide) _).t ((Mo_I (by decide) _).t ((Mo_I (by decide) _).t (Mo_I (by decide) _)))
  have M1 := q1.ms M
  obtain ⟨g2, a2, q2, i2, r2, _⟩ := mlays22 (pr := pr) (fo := i32 fo) (K := fun w6 w7 w8 h9 => lX11_laysOut_47 FU w6 w7 w8 (i32 0) (i32 0) h9) 32 FU 0 g1 (by omega) (by omega) (by decide) M1
  have o1 := t.ov.1
  have o2 := t.ov.2.1
  have i740 : hI g1 740 983 = i32 0 := by rw [e1, rII, if_neg (by omega), rII, if_neg (by omega), rII, if_neg (by omega), rII, if_pos ⟨rfl, rfl⟩]
  have i741 : hI g1 741 983 = i32 0 := by rw [e1, rII, if_neg (by omega), rII, if_neg (by omega), rII, if_pos ⟨rfl, rfl⟩]
  have i742 : hI g1 742 983 = i32 0 := by rw [e1, rII, if_neg (by omega), rII, if_pos ⟨rfl, rfl⟩]
  have i743 : hI g1 743 983 = i32 0 := by rw [e1, rII, if_pos ⟨rfl, rfl⟩]
  have ly : LYm g2 ly0 := ⟨by rw [i2, i743]; rfl, by rw [i2, i740]; rfl, by rw [i2, i741]; rfl, by rw [i2, i742]; rfl, fun n n0 n1 => ⟨r2 n n0 n1, fun z => absurd rfl z⟩⟩
  have b0 : LYb ly0 0 := ⟨Int.le_refl _, Int.le_refl _, Int.le_refl _, (by decide : (0 : Int) ≤ 20 + 11 * 0)⟩
  obtain ⟨g, a3, q3, r3⟩ := mlaysL M h0 h1 eF t de kd sg pr c0 c1 p0 p1 hc hpg hpg' hap hb hsh up (F 288).toNat FU 0 0 g2 ly0 (by omega) (by omega) (by have : FU = 1000000 := rfl; omega) (q1.t q2) ly b0 (by omega) (by omega) (fun c _ _ _ z _ => by omega)
  refine ⟨g, ?_, q3, r3⟩
  unfold fX11_laysOut
  rw [M.o, gd_tt, lt_e, lt_e, lt_e, lt_e, ← e1]
  exact a2.trans a3
end

