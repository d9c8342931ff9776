theorem fdv_c : ∀ a b : Fin 25, 0 < b.val → nn32 (FP.fdiv (FP.i2f (i32 (a.val : Int))) (FP.i2f (i32 (b.val : Int)))) = true := by decide +kernel
section
variable {h g : HP} {k : Nat}
theorem cnt_32 {p q : Int → Bool} (h1 : ∀ i, 0 ≤ i → i < 24 → p i = q i) (h2 : ∀ i, 24 ≤ i → i < 32 → p i = false) : cnt p 32 0 = cnt q 24 0 := by
  rw [show (32 : Nat) = 24 + 8 from rfl, cnt_add, cnt_ff 8 _ (fun j a b => h2 j (by omega) (by omega)), Int.add_zero]
  exact cnt_congr 24 0 fun j a b => h1 j a (by omega)
theorem rd_completeness (R : RR h k) (hk : k ≤ 512) (q1 : Int32) : ∃ o g g', fX10_completeness 0 q1 h = some (o, g) ∧ fX11_completeness 983 q1 g = some (o, g') ∧ RR g' (k + 1) ∧ nn32 o = true := by
  obtain ⟨s, h1, h2, rfl⟩ := i32_ex q1
  obtain ⟨np, sr, hnp⟩ := R.sr
  have C := R.C
  have M := R.M
  have w2 := sr.2.2.1.2
  have R' := RR_up R (show k ≤ k + 1 by omega)
  obtain ⟨a1, a2⟩ := clookAt R h1 h2
  by_cases cs : 0 ≤ s ∧ s < Wm h 2629
  rotate_left
  · refine ⟨3212836864, h, h, ?_, ?_, R', by decide +kernel⟩
    · unfold fX10_completeness
      rw [C.o, gd_tt, a1 cs, bn2_s, if_neg (by decide)]
    · unfold fX11_completeness
      rw [M.o, gd_tt, isSheet_s M w2 h1 h2, bn_s, decide_eq_false cs, if_neg (by decide)]
  obtain ⟨r, e1, e2, _⟩ := cformOf R (s := s.toNat) (by omega)
  have es : ((s.toNat : Nat) : Int) = s := by omega
  obtain ⟨S, φ, f1, f2, both⟩ := look_base R hk (s := s.toNat) (r := r) (by omega) e2
  obtain ⟨⟨g, x1, x2, x3, x4, x5, x6⟩, _⟩ := both h R rfl rfl
  obtain ⟨_, ⟨g', z1, z2, z3, z4, z5⟩⟩ := both g x3 (Wm_9 x2) (Pt_9 x2)
  have Cg := x3.C
  have Mg := x3.M
  have M' := z3.M
  rw [es] at e1 z1
  have eW := Wm_9 x2
  have cA : cnt (bt (hI g 512 109 &&& i32 16777215)) 32 0 = cnt S 24 0 := cnt_32 (fun i i0 i1 => by
    rw [bt_and, bt_24 i0 (by omega), decide_eq_true i1, Bool.and_true, Bool.eq_iff_iff]
    exact x4 i i0 (by omega)) (fun i i0 i1 => by rw [bt_and, bt_24 (by omega) i1, decide_eq_false (by omega), Bool.and_false])
  have cB : cnt (bt (hI g 513 109)) 32 0 = cnt (fun f => decide (0 ≤ φ f)) 24 0 := cnt_32 (fun i i0 i1 => by
    rw [Bool.eq_iff_iff, x5 i i0 (by omega), decide_eq_true_eq]
    exact ⟨fun z => z.2, fun z => ⟨i1, z⟩⟩) (fun i i0 i1 => by
    cases w : bt (hI g 513 109) i with
    | false => rfl
    | true => have := ((x5 i (by omega) i1).mp w).1; omega)
  obtain ⟨a, ea⟩ : ∃ a, a = cnt S 24 0 := ⟨_, rfl⟩
  obtain ⟨b, eb⟩ : ∃ b, b = cnt (fun f => decide (0 ≤ φ f)) 24 0 := ⟨_, rfl⟩
  have ra := cnt_rng S 24 0
  have rb := cnt_rng (fun f => decide (0 ≤ φ f)) 24 0
  rw [← ea] at ra cA
  rw [← eb] at rb cB
  have loop : ∀ (K : Int32 → Int32 → HP → Option (UInt32 × HP)) (j n : Nat) (c d i : Int), i + j = 24 → 0 ≤ i → j < n → lX11_completeness_29 K n 983 (i32 c) (i32 d) (i32 i) g' = K (i32 (c + cnt S j i)) (i32 (d + cnt (fun f => decide (0 ≤ φ f)) j i)) g' := by
    intro K j
    induction j with
    | zero =>
      intro n c d i e i0 hn
      obtain ⟨n, rfl⟩ : ∃ x, n = x + 1 := ⟨n - 1, by omega⟩
      rw [elX11_completeness_29]; unfold bX11_completeness_29
      rw [if_pos (by rw [i32_le (by omega) (by omega) (by omega) (by omega)]; omega)]
      simp only [cnt, Int.add_zero]
    | succ j ih =>
      intro n c d i e i0 hn
      obtain ⟨n, rfl⟩ : ∃ x, n = x + 1 := ⟨n - 1, by omega⟩
      have nx : ∀ (b1 b2 : Bool), jX11_completeness_70 (fun v0 v2 v3 v4 h => lX11_completeness_29 K n v0 v2 v3 v4 h) 983 (i32 c + bI b1) (i32 i) b2 (i32 d) g' = lX11_completeness_29 K n 983 (i32 c + bI b1) (i32 d + bI b2) (i32 (i + 1)) g' := fun b1 b2 => by
        unfold jX11_completeness_70
        rw [lt_e, lt_e, i32_add]
      have j52 : ∀ b1 : Bool, jX11_completeness_52 (fun v0 v2 v3 v4 h => lX11_completeness_29 K n v0 v2 v3 v4 h) 983 (i32 d) (i32 i) b1 (i32 c) g' = lX11_completeness_29 K n 983 (i32 c + bI b1) (i32 d + bI (decide (0 ≤ φ i))) (i32 (i + 1)) g' := fun b1 => by
        unfold jX11_completeness_52
        rw [lt_e, M'.o, gd_tt, M'.r_forced, oc_s, M'.o_forced, gd_tt, M'.n_forced, i32_inb i0 (by omega) (by omega), gd_tt, i32_cn i0 (by omega), z5 i i0 (by omega)]
        cases w : decide (0 ≤ φ i) with
        | false => rw [if_pos (show bI false = 0 from rfl), nx]
        | true => rw [if_neg (show ¬ bI true = 0 by decide), nx]
      have bs : ∀ (c : Int) (b : Bool), i32 c + bI b = i32 (c + if b = true then 1 else 0) := fun c b => by
        cases b with
        | false => rw [bI_ff, i32_add, if_neg (by decide)]
        | true => rw [bI_tt, i32_add, if_pos rfl]
      rw [elX11_completeness_29]; unfold bX11_completeness_29
      rw [if_neg (by rw [i32_le (by omega) (by omega) (by omega) (by omega)]; omega), M'.o, gd_tt, M'.r_shown, oc_s, M'.o_shown, gd_tt, M'.n_shown, i32_inb i0 (by omega) (by omega), gd_tt, i32_cn i0 (by omega), z4 i i0 (by omega)]
      simp only [cnt]
      have fin : lX11_completeness_29 K n 983 (i32 c + bI (S i)) (i32 d + bI (decide (0 ≤ φ i))) (i32 (i + 1)) g' = K (i32 (c + ((if S i = true then 1 else 0) + cnt S j (i + 1)))) (i32 (d + ((if decide (0 ≤ φ i) = true then 1 else 0) + cnt (fun f => decide (0 ≤ φ f)) j (i + 1)))) g' := by
        rw [bs, bs, ih n _ _ (i + 1) (by omega) (by omega) (by omega), Int.add_assoc, Int.add_assoc]
      rw [← fin]
      cases w : S i with
      | false => rw [if_pos (show bI false = 0 from rfl), j52]
      | true => rw [if_neg (show ¬ bI true = 0 by decide), j52]
  have zz : (i32 a = 0) ↔ a = 0 := by rw [i32_z, i32_eq (by omega) (by omega) (by omega) (by omega)]
  have hcl : fX10_completeness 0 (i32 s) h = if a = 0 then some (FP.fconst1, g) else gd (nn32 (FP.fdiv (FP.i2f (i32 b)) (FP.i2f (i32 a)))) <| some (FP.fdiv (FP.i2f (i32 b)) (FP.i2f (i32 a)), g) := by
    unfold fX10_completeness
    rw [C.o, gd_tt, a2 r cs.1 cs.2 e1, x1, bn_s, bn2_s, if_pos rfl, Cg.o, gd_tt, Cg.r_view, oc_s, Cg.o_view, gd_tt, bitCount_s, bn_s, cA]
    by_cases w : a = 0
    · rw [if_pos (zz.mpr w), if_pos w]
    · rw [if_neg (fun y => w (zz.mp y)), if_neg w, bitCount_s, bn_s, cB]
  have hml : fX11_completeness 983 (i32 s) g = if a = 0 then some (FP.fconst1, g') else gd (nn32 (FP.fdiv (FP.i2f (i32 b)) (FP.i2f (i32 a)))) <| some (FP.fdiv (FP.i2f (i32 b)) (FP.i2f (i32 a)), g') := by
    unfold fX11_completeness
    rw [Mg.o, gd_tt, isSheet_s Mg (by rw [eW]; exact w2) h1 h2, bn_s, eW, decide_eq_true cs, if_pos rfl, formBy_s Mg cs.1 (by omega), bn_s, eW, e1, z1, bn_s, loop _ 24 FU 0 0 0 (by omega) (by omega) (by decide), ← ea, ← eb, Int.zero_add, Int.zero_add]
    by_cases w : a = 0
    · rw [if_pos (zz.mpr w), if_pos w]
    · rw [if_neg (fun y => w (zz.mp y)), if_neg w]
  by_cases w : a = 0
  · exact ⟨FP.fconst1, g, g', by rw [hcl, if_pos w], by rw [hml, if_pos w], RR_up z3 (by omega), by decide +kernel⟩
  · have nn := fdv_c ⟨b.toNat, by omega⟩ ⟨a.toNat, by omega⟩ (show 0 < a.toNat by omega)
    have e3 : ((b.toNat : Nat) : Int) = b := by omega
    have e4 : ((a.toNat : Nat) : Int) = a := by omega
    simp only [e3, e4] at nn
    exact ⟨_, g, g', by rw [hcl, if_neg w, nn, gd_tt], by rw [hml, if_neg w, nn, gd_tt], RR_up z3 (by omega), nn⟩
end

