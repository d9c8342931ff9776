/-! WHAT IS KEPT FOR UNDO -/
theorem fmod_c {a : Int} (h0 : -1 ≤ a) (h1 : a ≤ 10) (h : HP) : fJ9_floorMod_7cf53 (i32 a) (i32 10) h = some (i32 ((a + 10) % 10)) := by
  have w : ∀ n : Fin 12, (gd (nz (i32 10)) <| lt ((i32 ((n.val : Int) - 1) - i32 ((n.val : Int) - 1) / i32 10 * i32 10)) fun v2 => if 0 ≤ (i32 ((n.val : Int) - 1) ^^^ i32 10) then some v2 else if v2 = 0 then some v2 else some (v2 + i32 10)) = some (i32 (((n.val : Int) - 1 + 10) % 10)) := by decide +kernel
  have := w ⟨(a + 1).toNat, by omega⟩
  simp only at this
  rw [show (((a + 1).toNat : Nat) : Int) - 1 = a by omega] at this
  exact this
theorem min_c {a : Int} (h0 : 0 ≤ a) (h1 : a ≤ 11) (h : HP) : fJ9_min_7cf53 (i32 a) (i32 10) h = some (i32 (if 10 < a then 10 else a)) := by
  unfold fJ9_min_7cf53
  by_cases c : 10 < a
  · rw [if_pos (by rw [i32_lt (by omega) (by omega) (by omega) (by omega)]; exact c), if_pos c]
  · rw [if_neg (by rw [i32_lt (by omega) (by omega) (by omega) (by omega)]; exact c), if_neg c]
def u10 (u : Nat) : Nat := if u = 10 then 10 else u + 1
section
variable {h : HP}
theorem FRb.isB {a : Nat} {F : Int → Int} (r : FRb h a F) : ∀ i : Nat, i < 32 → isB (hI h 128 (a + 4 + i)) = true := fun i hi => by
  have := r.2.2.2.2 (i : Int) (by omega) (by omega)
  rw [show ((i : Int)).toNat = i from rfl] at this
  rcases this with z | z
  · rw [z.2]; rfl
  · rw [z.2.1]; rfl
theorem crem (C : CS h) {u p : Nat} (hu : u ≤ 10) (hp : p < 10) (e6 : hI h 646 0 = i32 u) (e7 : hI h 647 0 = i32 p) (bb : ∀ i : Nat, i < 32 → isB (hI h 128 (2 + 1 + 4 + i)) = true) : ∃ g, fX10_remember 0 h = some g ∧ So (fun x => x = 0 ∨ inS (403 + 58 * p) x) h g ∧ StateEq g (403 + 58 * p) h 2 ∧ hI g 646 0 = i32 (u10 u : Nat) ∧ hI g 647 0 = i32 ((p + 1) % 10 : Nat) ∧ ∀ f, f ≠ 646 → f ≠ 647 → hI g f 0 = hI h f 0 := by
  obtain ⟨g1, a1, a2, a3⟩ := copyState (C.past hp) C.st (Or.inr (by omega)) bb
  have C1 : CS g1 := C.sk a2.1
  have n0 : ∀ f, hI g1 f 0 = hI h f 0 := fun f => (a2.2.2 0 (fun z => by have := z.1; omega)).1 f
  obtain ⟨g2, e2⟩ : ∃ g2, g2 = sI g1 647 0 (i32 ((p + 1) % 10 : Nat)) := ⟨_, rfl⟩
  obtain ⟨g3, e3⟩ : ∃ g3, g3 = sI g2 646 0 (i32 (u10 u : Nat)) := ⟨_, rfl⟩
  have r2 : ∀ f x, hI g2 f x = if f = 647 ∧ x = 0 then i32 ((p + 1) % 10 : Nat) else hI g1 f x := fun f x => by rw [e2, rII]
  have r3 : ∀ f x, hI g3 f x = if f = 646 ∧ x = 0 then i32 (u10 u : Nat) else hI g2 f x := fun f x => by rw [e3, rII]
  have p2 : So (fun x => x = 0 ∨ inS (403 + 58 * p) x) g1 g2 := by rw [e2]; exact So_I (Or.inl rfl) _ _
  have p3 : So (fun x => x = 0 ∨ inS (403 + 58 * p) x) g2 g3 := by rw [e3]; exact So_I (Or.inl rfl) _ _
  refine ⟨g3, ?_, ((a2.w (fun x z => Or.inr z)).t p2).t p3, ?_, ?_, ?_, fun f f1 f2 => ?_⟩
  · unfold fX10_remember
    rw [C.o, gd_tt, e7, if_neg (by rw [i32_z, i32_lt (by omega) (by omega) (by omega) (by omega)]; omega), if_neg (by rw [i32_le (by omega) (by omega) (by omega) (by omega)]; omega), C.r_past, oc_s, C.o_past, gd_tt, C.n_past, i32_inb (by omega) (by omega) (by omega), gd_tt, i32_cn (by omega) (by omega), show ((p : Int)).toNat = p from rfl, C.q_past hp, on_sm, gd_tt, (C.past hp).o, gd_tt, C.r_state, a1, bn_s, C1.o, gd_tt, n0 647, e7, i32_add, fmod_c (by omega) (by omega), bn_s, show ((p : Int) + 1 + 10) % 10 = ((p + 1) % 10 : Nat) by omega, ← e2, lt_e, r2, if_neg (by omega), n0 646, e6, i32_add, min_c (by omega) (by omega), bn_s, show (if 10 < (u : Int) + 1 then 10 else (u : Int) + 1) = (u10 u : Nat) by unfold u10; split <;> split <;> omega, ← e3, lt_e]
  · have s23 : ∀ x, inS (403 + 58 * p) x → Sm g1 g3 x := fun x hx => by
      have := hx.1
      rw [e3, e2]
      exact (Sm_I (by omega) _ _).t (Sm_I (by omega) _ _)
    have q := StateEq_sm s23
    exact ⟨⟨fun f hf => (q.1.1 f hf).trans (a3.1.1 f hf), fun i hi => ⟨(q.1.2 i hi).1.trans (a3.1.2 i hi).1, (a3.1.2 i hi).2.sm (s23 _ ⟨by omega, by omega⟩)⟩⟩, q.2.1.trans a3.2.1, q.2.2.1.trans a3.2.2.1, fun i hi => ⟨(q.2.2.2 i hi).1.trans (a3.2.2.2 i hi).1, fun j hj => ((q.2.2.2 i hi).2 j hj).trans ((a3.2.2.2 i hi).2 j hj)⟩⟩
  · rw [r3, if_pos ⟨rfl, rfl⟩]
  · rw [r3, if_neg (by omega), r2, if_pos ⟨rfl, rfl⟩]
  · rw [r3, if_neg (fun z => f1 z.1), r2, if_neg (fun z => f2 z.1), n0]
/-- the worlds that the model keeps move down -/
theorem mshift {K : Nat → HP → Option HP} {B : Nat} (hB : B = 2880) : ∀ (d n : Nat) (w : Nat) (f : HP), w + d = 25920 → d < n → MS f → ∃ g, lX11_keeps_13 K n 983 (i32 ((w : Int) + B)) f = K 983 g ∧ So (fun x => x = 989) f g ∧ ∀ i, hL g 989 i = if w ≤ i ∧ i < 25920 then hL f 989 (i + B) else hL f 989 i := by
  intro d
  induction d with
  | zero =>
    intro n w f hv hn M
    obtain ⟨m, rfl⟩ : ∃ m, n = m + 1 := ⟨n - 1, by omega⟩
    refine ⟨f, ?_, So.r, fun i => by rw [if_neg (by omega)]⟩
    rw [elX11_keeps_13]; unfold bX11_keeps_13
    rw [if_pos (by rw [i32_le (by omega) (by omega) (by omega) (by omega)]; omega)]
  | succ d ih =>
    intro n w f hv hn M
    obtain ⟨m, rfl⟩ : ∃ m, n = m + 1 := ⟨n - 1, by omega⟩
    obtain ⟨f1, e1⟩ : ∃ f1, f1 = sL f 989 w (hL f 989 (w + B)) := ⟨_, rfl⟩
    have p1 : So (fun x => x = 989) f f1 := by rw [e1]; exact So_L (S := fun x => x = 989) rfl _ _
    obtain ⟨g, a1, a2, a3⟩ := ih m (w + 1) f1 (by omega) (by omega) (M.sk p1.1)
    have r1 : ∀ i, i ≠ w → hL f1 989 i = hL f 989 i := fun i hi => by rw [e1, rLL, if_neg (fun z => hi z.2)]
    have r0 : hL f1 989 w = hL f 989 (w + B) := by rw [e1, rLL, if_pos ⟨rfl, rfl⟩]
    refine ⟨g, ?_, p1.t a2, fun i => ?_⟩
    · rw [elX11_keeps_13]; unfold bX11_keeps_13
      rw [if_neg (by rw [i32_le (by omega) (by omega) (by omega) (by omega)]; omega), M.o, gd_tt, M.r_undone, oc_s, M.o_undone, gd_tt, M.n_undone, i32_inb (by omega) (by omega) (by omega), gd_tt, i32_sub, i32_inb (by omega) (by omega) (by omega), gd_tt, i32_cn (by omega) (by omega), i32_cn (by omega) (by omega), show ((w : Int) + B - 2880).toNat = w by omega, show ((w : Int) + B).toNat = w + B by omega, ← e1, lt_e, lt_e, i32_add, show (w : Int) + B + 1 = ((w + 1 : Nat) : Int) + B by omega]
      exact a1
    · have ra := r1 (i + B)
      rw [a3 i]
      by_cases c : w + 1 ≤ i ∧ i < 25920
      · rw [if_pos c, if_pos ⟨by omega, c.2⟩, ra (by omega)]
      · rw [if_neg c]
        by_cases y : i = w
        · rw [y, r0, if_pos ⟨by omega, by omega⟩]
        · rw [r1 i y, if_neg (fun z => c ⟨by omega, z.2⟩)]
theorem mstore {K : Nat → HP → Option HP} {u : Nat} (hu : u < 10) : ∀ (d n : Nat) (v : Nat) (f : HP), v + d = 2880 → d < n → MS f → hI f 712 983 = i32 u → ∃ g, lX11_keeps_54 K n 983 (i32 (v : Int)) f = K 983 g ∧ So (fun x => x = 989) f g ∧ (∀ i, v ≤ i → i < 2880 → hL g 989 (2880 * u + i) = hL f 987 i) ∧ ∀ i, (i < 2880 * u + v ∨ 2880 * u + 2880 ≤ i) → hL g 989 i = hL f 989 i := by
  intro d
  induction d with
  | zero =>
    intro n v f hv hn M e
    obtain ⟨m, rfl⟩ : ∃ m, n = m + 1 := ⟨n - 1, by omega⟩
    refine ⟨f, ?_, So.r, fun i _ _ => (by omega), fun i _ => rfl⟩
    rw [elX11_keeps_54]; unfold bX11_keeps_54
    rw [if_pos (by rw [i32_le (by omega) (by omega) (by omega) (by omega)]; omega)]
  | succ d ih =>
    intro n v f hv hn M e
    obtain ⟨m, rfl⟩ : ∃ m, n = m + 1 := ⟨n - 1, by omega⟩
    obtain ⟨f1, e1⟩ : ∃ f1, f1 = sL f 989 (2880 * u + v) (hL f 987 v) := ⟨_, rfl⟩
    have p1 : So (fun x => x = 989) f f1 := by rw [e1]; exact So_L (S := fun x => x = 989) rfl _ _
    obtain ⟨g, a1, a2, a3, a4⟩ := ih m (v + 1) f1 (by omega) (by omega) (M.sk p1.1) (by rw [(p1.2.2 983 (by decide)).1]; exact e)
    have r1 : ∀ x i, hL f1 x i = if x = 989 ∧ i = 2880 * u + v then hL f 987 v else hL f x i := fun x i => by rw [e1, rLL]
    refine ⟨g, ?_, p1.t a2, fun i i0 i1 => ?_, fun i hi => ?_⟩
    · rw [elX11_keeps_54]; unfold bX11_keeps_54
      rw [if_neg (by rw [i32_le (by omega) (by omega) (by omega) (by omega)]; omega), M.o, gd_tt, M.r_world, oc_s, M.o_world, gd_tt, M.n_world, i32_inb (by omega) (by omega) (by omega), gd_tt, M.r_undone, oc_s, M.o_undone, gd_tt, M.n_undone, e, i32_mul, i32_add, i32_inb (by omega) (by omega) (by omega), gd_tt, i32_cn (by omega) (by omega), i32_cn (by omega) (by omega), show (2880 * (u : Int) + (v : Int)).toNat = 2880 * u + v by omega, show ((v : Int)).toNat = v from rfl, ← e1, lt_e, lt_e, i32_add]
      exact a1
    · by_cases y : i = v
      · rw [y, a4 _ (Or.inl (by omega)), r1, if_pos ⟨rfl, rfl⟩]
      · rw [a3 i (by omega) i1, r1, if_neg (by omega)]
    · rw [a4 i (by omega), r1, if_neg (by omega)]
theorem mkeeps (M : MS h) {u : Nat} (hu : u ≤ 10) (e : hI h 712 983 = i32 u) : ∃ g, fX11_keeps 983 h = some g ∧ So (fun x => x = 983 ∨ x = 989) h g ∧ hI g 712 983 = i32 (u10 u : Nat) ∧ (∀ f, f ≠ 712 → hI g f 983 = hI h f 983) ∧ (∀ j i, j + 1 < u10 u → i < 2880 → hL g 989 (2880 * j + i) = hL h 989 (2880 * (if u = 10 then j + 1 else j) + i)) ∧ ∀ i, i < 2880 → hL g 989 (2880 * (u10 u - 1) + i) = hL h 987 i := by
  have key : ∀ (f : HP) (w : Nat), w < 10 → MS f → hI f 712 983 = i32 w → ∃ g, jX11_keeps_52 983 f = some g ∧ So (fun x => x = 983 ∨ x = 989) f g ∧ hI g 712 983 = i32 (w + 1 : Nat) ∧ (∀ f', f' ≠ 712 → hI g f' 983 = hI f f' 983) ∧ (∀ i, i < 2880 * w → hL g 989 i = hL f 989 i) ∧ ∀ i, i < 2880 → hL g 989 (2880 * w + i) = hL f 987 i := by
    intro f w hw Mf ef
    obtain ⟨g1, a1, a2, a3, a4⟩ := mstore (K := fun w101 h102 => gd (isO h102 w101 11) <| lt (sI h102 712 w101 ((hI h102 712 w101) + (i32 1))) fun h104 => some h104) hw 2880 FU 0 f (by omega) (by decide) Mf ef
    have e1 : hI g1 712 983 = i32 w := by rw [(a2.2.2 983 (by decide)).1]; exact ef
    refine ⟨sI g1 712 983 (i32 (w + 1 : Nat)), ?_, (a2.w (fun x z => Or.inr z)).t (So_I (Or.inl rfl) _ _), by rw [rII, if_pos ⟨rfl, rfl⟩], fun f' hf => by rw [rII, if_neg (fun z => hf z.1), (a2.2.2 983 (by decide)).1], fun i hi => by rw [rLI]; exact a4 i (Or.inl (by omega)), fun i hi => by rw [rLI]; exact a3 i (by omega) hi⟩
    unfold jX11_keeps_52
    refine a1.trans ?_
    show (gd (isO g1 983 11) <| lt (sI g1 712 983 ((hI g1 712 983) + (i32 1))) fun h104 => some h104) = _
    rw [(Mf.sk a2.1).o, gd_tt, e1, i32_add, lt_e]
    rfl
  unfold fX11_keeps
  rw [M.o, gd_tt, e]
  by_cases c : u = 10
  · subst c
    rw [if_pos (show i32 ((10 : Nat) : Int) = i32 10 from rfl)]
    obtain ⟨g1, a1, a2, a3⟩ := mshift (K := fun w2 h3 => gd (isO h3 w2 11) <| lt (sI h3 712 w2 ((hI h3 712 w2) - (i32 1))) fun h5 => jX11_keeps_52 w2 h5) (B := 2880) rfl 25920 FU 0 h (by omega) (by decide) M
    have M1 := M.sk a2.1
    have e1 : hI g1 712 983 = i32 10 := by rw [(a2.2.2 983 (by decide)).1]; exact e
    obtain ⟨g2, e2⟩ : ∃ g2, g2 = sI g1 712 983 (i32 (9 : Nat)) := ⟨_, rfl⟩
    have p2 : So (fun x => x = 983 ∨ x = 989) g1 g2 := by rw [e2]; exact So_I (Or.inl rfl) _ _
    obtain ⟨g3, b1, b2, b3, b4, b5, b6⟩ := key g2 9 (by decide) (M1.sk p2.1) (by rw [e2, rII, if_pos ⟨rfl, rfl⟩])
    have l2 : hL g2 = hL g1 := by rw [e2, rLI]
    refine ⟨g3, ?_, ((a2.w (fun x z => Or.inr z)).t p2).t b2, b3, fun f hf => ?_, fun j i hj hi => ?_, fun i hi => ?_⟩
    · refine Eq.trans a1 ?_
      show (gd (isO g1 983 11) <| lt (sI g1 712 983 ((hI g1 712 983) - (i32 1))) fun h5 => jX11_keeps_52 983 h5) = _
      rw [M1.o, gd_tt, e1, i32_sub, lt_e]
      rw [e2] at b1
      exact b1
    · rw [b4 f hf, e2, rII, if_neg (fun z => hf z.1), (a2.2.2 983 (by decide)).1]
    · have hj' : j + 1 < 10 := hj
      rw [b5 _ (by omega), l2, a3, if_pos (by omega), if_pos rfl]
      congr 1; omega
    · have q := b6 i hi
      rw [l2, (funext (a2.2.2 987 (by decide)).2.2.2.2.1 : hL g1 987 = hL h 987)] at q
      exact q
  · rw [if_neg (by rw [i32_eq (by omega) (by omega) (by omega) (by omega)]; omega)]
    obtain ⟨g3, b1, b2, b3, b4, b5, b6⟩ := key h u (by omega) M e
    have eu : u10 u = u + 1 := if_neg c
    refine ⟨g3, b1, b2, by rw [eu]; exact b3, b4, fun j i hj hi => ?_, fun i hi => ?_⟩
    · rw [eu] at hj
      rw [if_neg c]
      exact b5 _ (by omega)
    · rw [eu, Nat.add_sub_cancel]
      exact b6 i hi
end
