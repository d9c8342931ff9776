/-! THE MODEL TELLS A CONDITION -/
section
variable {h g : HP} {F : Int → Int} {w : Int} {T : List Int}
def LQ : List Nat := [744, 746, 752, 1006, 1007]
theorem l8Q : lsub L8 LQ = true := by decide
theorem lQ9 : lsub LQ L9 = true := by decide
theorem msay1 (M : MS g) (W : WM g w T 1000000) (wo : wok w) (l : T.length + 1 ≤ 1000000) (c : Int) : ∃ g', fX11_says 983 (i32 c) g = some g' ∧ Mo L8 g g' ∧ WM g' w (T ++ [c]) 1000000 := by
  obtain ⟨g1, a1, a2, a3⟩ := msay M W (Nat.le_refl _) wo c
  rw [List.take_of_length_le (by rw [List.length_append, List.length_singleton]; omega)] at a3
  exact ⟨g1, a1, a2, a3⟩
theorem mword1 (M : MS g) (W : WM g w T 1000000) (wo : wok w) {nm : Int} (n0 : 0 < nm) (n1 : nm < 1099511627776) (l : T.length + 8 ≤ 1000000) : ∃ g', fX11_saysWord 983 (i64 nm) g = some g' ∧ Mo L8 g g' ∧ WM g' w (T ++ nmT nm) 1000000 := by
  obtain ⟨g1, a1, a2, a3⟩ := msayWord M W (Nat.le_refl _) wo n0 n1
  have l8 := nl_le nm
  rw [List.take_of_length_le (by rw [List.length_append, nmT_len]; omega)] at a3
  exact ⟨g1, a1, a2, a3⟩
theorem mnum1 (M : MS g) (W : WM g w T 1000000) (wo : wok w) {v : Int} (v0 : 0 ≤ v) (v1 : v ≤ 9999) (l : T.length + 4 ≤ 1000000) : ∃ g', fX11_saysNumber 983 (i32 v) g = some g' ∧ Mo L8 g g' ∧ WM g' w (T ++ dgT v) 1000000 := by
  obtain ⟨g1, a1, a2, a3⟩ := msayNumber M W (Nat.le_refl _) wo v0 v1
  have d4 := dgn_4 v
  rw [List.take_of_length_le (by rw [List.length_append, dgT_len]; omega)] at a3
  exact ⟨g1, a1, a2, a3⟩
/-- a test -/
theorem mtest (M : MS g) (eW : Wm g = F) (nm : NMs F) (W : WM g w T 1000000) (wo : wok w) {f s v : Int} (f0 : 0 ≤ f) (f1 : f < 24) (s0 : 0 ≤ s) (s1 : s ≤ 3) (v0 : 0 ≤ v) (v1 : v ≤ 9999) (fp : F f ≠ -1) (l : T.length + 20 ≤ 1000000) : ∃ g', fX11_saysTest 983 (i32 (tcd f s v)) g = some g' ∧ Mo L8 g g' ∧ WM g' w (T ++ tsT F (i32 (tcd f s v))) 1000000 := by
  obtain ⟨d1, d2, d3⟩ := dec_tcd f0 f1 s0 s1 v0 v1
  have nv := nm.1 f f0 (by omega) fp
  have l8 := nl_le (F (32 + f))
  obtain ⟨g1, a1, a2, a3⟩ := msay1 M W wo (by omega) 32
  have M1 := a2.ms M
  have eW1 : Wm g1 = F := by rw [← eW]; funext j; unfold Wm; rw [a2.L (by decide)]
  have ef : fX11_fieldOf (i32 (tcd f s v)) g1 = some (i32 f) := by
    have := tF_c f0 (show f < 32 by omega) s0 s1 v0 v1
    unfold tF at this
    unfold fX11_fieldOf
    rw [this]
  obtain ⟨g2, b1, b2, b3⟩ := mword1 M1 a3 wo nv.1 nv.2.1 (by rw [List.length_append, List.length_singleton]; omega)
  have M2 := b2.ms M1
  have q2 := a2.t b2
  have eT : tsT F (i32 (tcd f s v)) = ([32] ++ nmT (F (32 + f))) ++ (if s = 0 then [] else 32 :: sby s :: 32 :: dgT v) := by
    unfold tsT
    rw [d1, d2, d3]; rfl
  rw [List.append_assoc] at b3
  unfold fX11_saysTest
  rw [M.o, gd_tt, a1, bn_s, M1.o, gd_tt, ef, bn_s, M1.r_world, oc_s, M1.o_world, gd_tt, M1.n_world, i32_add, i32_inb (by omega) (by omega) (by omega), gd_tt, i32_cn (by omega) (by omega), Wm_e, eW1, b1, bn_s, tS_c f0 (by omega) s0 s1 v0 v1, lt_e, eT]
  by_cases z : s = 0
  · rw [if_pos (by rw [z]; rfl), if_pos z, List.append_nil]
    exact ⟨g2, rfl, q2, b3⟩
  · have len : (T ++ ([32] ++ nmT (F (32 + f)))).length = T.length + (1 + nl (F (32 + f))) := by rw [List.length_append, List.length_append, List.length_singleton, nmT_len]
    obtain ⟨g3, c1, c2, c3⟩ := msay1 M2 b3 wo (by rw [len]; omega) 32
    have M3 := c2.ms M2
    obtain ⟨g4, x1, x2, x3⟩ := msay1 M3 c3 wo (by rw [List.length_append, len, List.length_singleton]; omega) (sby s)
    have M4 := x2.ms M3
    obtain ⟨g5, y1, y2, y3⟩ := msay1 M4 x3 wo (by simp only [List.length_append, List.length_singleton, nmT_len]; omega) 32
    have M5 := y2.ms M4
    obtain ⟨g6, u1, u2, u3⟩ := mnum1 M5 y3 wo v0 v1 (by simp only [List.length_append, List.length_singleton, nmT_len]; omega)
    have e61 : jX11_saysTest_61 983 (i32 (tcd f s v)) (i32 (sby s)) 983 g3 = some g6 := by
      unfold jX11_saysTest_61
      rw [M3.o, gd_tt, x1, bn_s, M4.o, gd_tt, y1, bn_s, M5.o, gd_tt, tV_c f0 (by omega) s0 s1 v0 v1, u1, bn_s]
    refine ⟨g6, ?_, q2.t (c2.t (x2.t (y2.t u2))), ?_⟩
    · rw [if_neg (by rw [i32_z, i32_eq (by omega) (by omega) (by omega) (by omega)]; omega), M2.o, gd_tt, c1, bn_s, ← e61]
      rcases (show s = 1 ∨ s = 2 ∨ s = 3 by omega) with rfl | rfl | rfl
      · rw [if_pos rfl]; rfl
      · rw [if_neg (by decide), if_pos rfl]; rfl
      · rw [if_neg (by decide), if_neg (by decide)]; rfl
    · rw [if_neg z]
      rw [List.append_assoc, List.append_assoc, List.append_assoc] at u3
      rw [← List.append_assoc]
      exact u3
/-- the model plans something -/
theorem mplans (M : MS g) {s : Nat} (hs : hI g 752 983 = i32 (s : Int)) (s6 : s < 600) (a b : Int32) : ∃ g', fX11_plans 983 a b g = some g' ∧ Mo LQ g g' ∧ hI g' 752 983 = i32 ((s + 1 : Nat) : Int) ∧ hA g' 1006 s = a ∧ hA g' 1007 s = b ∧ (∀ j, j ≠ s → hA g' 1006 j = hA g 1006 j ∧ hA g' 1007 j = hA g 1007 j) ∧ ∀ T, WM g w T 1000000 → WM g' w T 1000000 := by
  obtain ⟨g1, e1⟩ : ∃ g1, g1 = sA g 1006 s a := ⟨_, rfl⟩
  obtain ⟨g2, e2⟩ : ∃ g2, g2 = sA g1 1007 s b := ⟨_, rfl⟩
  obtain ⟨g3, e3⟩ : ∃ g3, g3 = sI g2 752 983 (i32 ((s : Int) + 1)) := ⟨_, rfl⟩
  have p1 : Mo LQ g g1 := by rw [e1]; exact Mo_A (by decide) _ _
  have p2 : Mo LQ g1 g2 := by rw [e2]; exact Mo_A (by decide) _ _
  have p3 : Mo LQ g2 g3 := by rw [e3]; exact Mo_I (by decide) _
  have M1 := p1.ms M
  have h1 : hI g1 752 983 = i32 (s : Int) := by rw [e1, rIA]; exact hs
  have h2 : hI g2 752 983 = i32 (s : Int) := by rw [e2, rIA]; exact h1
  have r6 : ∀ j, hA g3 1006 j = if j = s then a else hA g 1006 j := fun j => by
    rw [e3, rAI, e2, rAA, if_neg (by omega), e1, rAA]
    by_cases c : j = s
    · rw [if_pos ⟨rfl, c⟩, if_pos c]
    · rw [if_neg (fun z => c z.2), if_neg c]
  have r7 : ∀ j, hA g3 1007 j = if j = s then b else hA g 1007 j := fun j => by
    rw [e3, rAI, e2, rAA]
    by_cases c : j = s
    · rw [if_pos ⟨rfl, c⟩, if_pos c]
    · rw [if_neg (fun z => c z.2), if_neg c, e1, rAA, if_neg (by omega)]
  refine ⟨g3, ?_, p1.t (p2.t p3), by rw [e3, rII, if_pos ⟨rfl, rfl⟩]; rfl, by rw [r6, if_pos rfl], by rw [r7, if_pos rfl], fun j hj => ⟨by rw [r6, if_neg hj], by rw [r7, if_neg hj]⟩, fun T W => ?_⟩
  · unfold fX11_plans
    rw [M.o, gd_tt, M.r_todo, oc_s, M.o_todo, gd_tt, hs, M.n_todo, i32_inb (by omega) (by omega) (by omega), gd_tt, i32_cn (by omega) (by omega), Int.toNat_natCast, ← e1, lt_e, M1.r_within, oc_s, M1.o_within, gd_tt, h1, M1.n_within, i32_inb (by omega) (by omega) (by omega), gd_tt, i32_cn (by omega) (by omega), Int.toNat_natCast, ← e2, lt_e, h2, i32_add, ← e3, lt_e]
  · obtain ⟨u1, u2, u3, u4, u5⟩ := W
    exact ⟨by rw [e3, rII, if_neg (by omega), e2, rIA, e1, rIA]; exact u1, by rw [e3, rII, if_neg (by omega), e2, rIA, e1, rIA]; exact u2, by rw [e3, rII, if_neg (by omega), e2, rIA, e1, rIA]; exact u3, by rw [e3, rII, if_neg (by omega), e2, rIA, e1, rIA]; exact u4, u5⟩
/-- an entry is taken off -/
theorem mpop (M : MS g) {fr s : Nat} (hs : hI g 752 983 = i32 ((s + 1 : Nat) : Int)) (s6 : s < 600) (m : Nat) {x : Int32} (hx : hA g 1006 s = x) : ∃ g1, g1 = sI g 752 983 (i32 (s : Int)) ∧ Mo LQ g g1 ∧ hI g1 752 983 = i32 (s : Int) ∧ (∀ j, hA g1 1006 j = hA g 1006 j ∧ hA g1 1007 j = hA g 1007 j) ∧ (∀ T, WM g w T 1000000 → WM g1 w T 1000000) ∧ lX11_saysCondition_113 (m + 1) 983 (i32 (fr : Int)) g = (if 0 ≤ x then (gd (inb ((i32 (fr : Int)) + x) 12000) <| bn (fX11_saysPart 983 (hA g1 990 ((i32 (fr : Int)) + x).toNatClampNeg) x (hA g1 1007 s) g1) fun h117 => lX11_saysCondition_113 m 983 (i32 (fr : Int)) h117) else bn (fX11_says 983 (i32 32) g1) fun h119 => if x = (i32 (-3)) then (gd (isO h119 983 11) <| bn (fX11_says 983 (i32 41) h119) fun h122 => lX11_saysCondition_113 m 983 (i32 (fr : Int)) h122) else if x = (i32 (-1)) then (gd (isO h119 983 11) <| bn (fX11_saysWord 983 (i64 498) h119) fun h103 => lX11_saysCondition_113 m 983 (i32 (fr : Int)) h103) else (gd (isO h119 983 11) <| bn (fX11_saysWord 983 (i64 1476) h119) fun h103 => lX11_saysCondition_113 m 983 (i32 (fr : Int)) h103)) := by
  obtain ⟨g1, e1⟩ : ∃ g1, g1 = sI g 752 983 (i32 (s : Int)) := ⟨_, rfl⟩
  have p1 : Mo LQ g g1 := by rw [e1]; exact Mo_I (by decide) _
  have M1 := p1.ms M
  have h1 : hI g1 752 983 = i32 (s : Int) := by rw [e1, rII, if_pos ⟨rfl, rfl⟩]
  have hx1 : hA g1 1006 s = x := by rw [e1, rAI]; exact hx
  refine ⟨g1, e1, p1, h1, fun j => ⟨by rw [e1, rAI], by rw [e1, rAI]⟩, fun T W => ?_, ?_⟩
  · obtain ⟨u1, u2, u3, u4, u5⟩ := W
    exact ⟨by rw [e1, rII, if_neg (by omega)]; exact u1, by rw [e1, rII, if_neg (by omega)]; exact u2, by rw [e1, rII, if_neg (by omega)]; exact u3, by rw [e1, rII, if_neg (by omega)]; exact u4, u5⟩
  · rw [elX11_saysCondition_113]; unfold bX11_saysCondition_113 jX11_saysCondition_214 jX11_saysCondition_184 jX11_saysCondition_214
    rw [M.o, gd_tt, hs, if_neg (by rw [i32_z, i32_le (by omega) (by omega) (by omega) (by omega)]; omega), i32_sub, show ((s + 1 : Nat) : Int) - 1 = (s : Int) by omega, ← e1, lt_e, M1.r_todo, oc_s, M1.o_todo, gd_tt, h1, M1.n_todo, i32_inb (by omega) (by omega) (by omega), gd_tt, i32_cn (by omega) (by omega), Int.toNat_natCast, hx1, lt_e, M1.r_pool, oc_s, M1.o_pool, gd_tt, M1.n_pool, M1.r_within, oc_s, M1.o_within, gd_tt, M1.n_within, i32_inb (by omega) (by omega) (by omega), gd_tt]
end

