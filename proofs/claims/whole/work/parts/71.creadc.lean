/-! SETCONDITION, THE CLASS -/
section
variable {h g : HP} {b : Int → Int} {np T c : Nat} {F : Int → Int} {C0 : Int → List Int32} {z0 was : Nat} {n : Int} {ts : Nat → Nat}
theorem FRb_set {a : Nat} {node fr sz : Int} (h0 : 0 ≤ node) (h1 : node < 32) (m32 : F 288 ≤ 32) (r : FRb h a F) : FRb h a (setc F node fr sz) := by
  have lo : ∀ x, (x < 192 ∨ 256 ≤ x) → setc F node fr sz x = F x := fun x hx => setc_lo h0 h1 hx
  obtain ⟨r3, r4, r5, ro, rn⟩ := r
  refine ⟨by rw [lo 289 (by omega)]; exact r3, by rw [lo 290 (by omega)]; exact r4, by rw [lo 288 (by omega)]; exact r5, fun i i0 i1 => ?_, fun m m0 m1 => ?_⟩
  · rw [lo 288 (by omega)] at i1
    rw [lo (256 + i) (by omega)]; exact ro i i0 i1
  · unfold NDc
    rw [lo m (by omega), lo (32 + m) (by omega), lo (64 + m) (by omega), lo (96 + m) (by omega), lo (128 + m) (by omega), lo (160 + m) (by omega)]
    exact rn m m0 m1
theorem setc_Z {node : Int} {fr sz : Int} (h0 : 0 ≤ node) (h1 : node < 32) : setc F node fr sz (192 + node) = fr ∧ setc F node fr sz (224 + node) = sz := ⟨setc_fr, setc_sz⟩
theorem setc_oth {node m : Int} {fr sz : Int} (q : m ≠ node) (m0 : 0 ≤ m) (m1 : m < 32) (h0 : 0 ≤ node) (h1 : node < 32) : setc F node fr sz (192 + m) = F (192 + m) ∧ setc F node fr sz (224 + m) = F (224 + m) := by
  constructor
  · unfold setc; rw [updI_ne (by omega), updI_ne (by omega)]
  · unfold setc; rw [updI_ne (by omega), updI_ne (by omega)]
/-- the class reads the condition of a node of the scratch -/
theorem creadC {node : Int} (n0 : 0 ≤ n) (n1 : n ≤ 1200) (P : CP g b n c 0 [] ts) (te : Tend (tkn b n) c) (fb : FRb g 63 F) (t : TF F) (h0 : 0 ≤ node) (h1 : node < 32) (npr : F node ≠ -1) (cd : ∀ m, 0 ≤ m → m < 32 → F m ≠ -1 → m ≠ node → CND g z0 (lfM g) opM (63 + 4 + m.toNat) (C0 m) (tcL (C0 m)) (RlL (C0 m))) (hz : z0 = hsz g) : ∃ g', fX3_readCondition 62 (i32 node) (some (63 + 4 + node.toNat)) g = some ((pset (tkn b n) was node (setc F node 0 0)).1, g') ∧ Co (pset (tkn b n) was node (setc F node 0 0)).2.1 LF g g' ∧ ((pset (tkn b n) was node (setc F node 0 0)).1 = true → ∃ ts', (hI g' 196 62 = i32 (pset (tkn b n) was node (setc F node 0 0)).2.2.2.1.length ∧ Tbl g' (pset (tkn b n) was node (setc F node 0 0)).2.2.2.1 ts' ∧ hI g' 192 62 = i32 (-2)) ∧ RPc g' (pset (tkn b n) was node (setc F node 0 0)).2.2.1 (pset (tkn b n) was node (setc F node 0 0)).2.2.2.1 (pset (tkn b n) was node (setc F node 0 0)).2.2.2.2 ts' was C0 (oldC F node) z0) ∧ ((pset (tkn b n) was node (setc F node 0 0)).1 = false → hI g' 192 62 = i32 (tks (tkn b n (pset (tkn b n) was node (setc F node 0 0)).2.1))) := by
  obtain ⟨B, eB⟩ : ∃ B, B = 63 + 4 + node.toNat := ⟨_, rfl⟩
  have C := P.1.cs
  have S := C.sf
  have hi : node.toNat < 32 := by omega
  have oB : isO g B 2 = true := by rw [eB]; exact S.on hi
  have zB := isO_lt oB
  obtain ⟨g3, e3⟩ : ∃ g3, g3 = sI (sI (sR g 135 B none) 136 B (i32 0)) 137 B (i32 0) := ⟨_, rfl⟩
  have q3 : Co 0 [5000 + B] g g3 := by
    rw [e3]; exact ((Co_R (Or.inr ⟨by simp, by decide⟩) (Or.inl rfl) _).t0 (Co_I (Or.inr ⟨by simp, by decide⟩) _)).t0 (Co_I (Or.inr ⟨by simp, by decide⟩) _)
  have P3 : CP g3 b n c 0 [] ts := P.co q3 (by simp; omega) (by simp; omega) (fun x hx => by simp; omega)
  have C3 := P3.1.cs
  have i3 : ∀ f x, (x ≠ B ∨ (f ≠ 136 ∧ f ≠ 137)) → hI g3 f x = hI g f x := fun f x w => by rw [e3, rII, if_neg (by omega), rII, if_neg (by omega), rIR]
  have j3 : hJ g3 = hJ g := by rw [e3, rJI, rJI, rJR]
  have a3 : hA g3 = hA g := by rw [e3, rAI, rAI, rAR]
  obtain ⟨Fb, eF⟩ : ∃ Fb, Fb = setc F node 0 0 := ⟨_, rfl⟩
  have lo : ∀ x, (x < 192 ∨ 256 ≤ x) → Fb x = F x := fun x hx => by rw [eF]; exact setc_lo h0 h1 hx
  have z224 : Fb (224 + node) = 0 := by rw [eF]; exact (setc_Z h0 h1).2
  have fb3 : FRb g3 63 F := by
    obtain ⟨r3, r4, r5, ro, rn⟩ := fb
    refine ⟨by rw [i3 _ _ (by omega)]; exact r3, by rw [i3 _ _ (by omega)]; exact r4, by rw [i3 _ _ (by omega)]; exact r5, fun i i0 i1 => by rw [a3]; exact ro i i0 i1, fun m m0 m1 => ?_⟩
    unfold NDc
    rw [i3 128 _ (by omega), i3 134 _ (by omega), j3, i3 130 _ (by omega), i3 131 _ (by omega), i3 132 _ (by omega), i3 133 _ (by omega)]
    exact rn m m0 m1
  have R3 : RPc g3 Fb [] [] ts was C0 (oldC F node) z0 := by
    refine ⟨by rw [eF]; exact FRb_set h0 h1 t.1.ov.2.1 fb3, fun m m0 m1 mp => ⟨fun o => ?_, fun o => ?_⟩, ⟨by rw [hz]; exact q3.sk.1, fun k hk => by simp at hk⟩⟩
    · obtain ⟨⟨_, _, mq⟩, mn⟩ := oldC_t.mp o
      have hb := isO_lt (S.on (show m.toNat < 32 by omega))
      exact CND_co (cd m m0 m1 mq mn) (by omega) (Nat.le_refl _) q3 ⟨by simp; omega, fun x hx => by simp; omega⟩ (by unfold okN; simp; omega) hb (by simp; omega) (lfM_co q3 ⟨by simp; omega, fun x hx => by simp; omega⟩)
    · rw [lo m (by omega)] at mp
      have em := oldC_f m0 m1 mp o
      rw [em, seg_0 z224, ← eB]
      refine ⟨Or.inl ⟨rfl, ?_⟩, ?_, ?_⟩
      · rw [e3, rRI, rRI, rRR, if_pos ⟨rfl, rfl⟩]
      · rw [e3, rII, if_neg (by omega), rII, if_pos ⟨rfl, rfl⟩]; rfl
      · rw [e3, rII, if_pos ⟨rfl, rfl⟩]
  have qL : Co 0 LF g g3 := q3.w (by
    unfold lsub
    rw [List.all_eq_true]
    intro x hx
    rw [List.mem_singleton] at hx
    rw [hx, List.contains_eq_mem, eB]
    exact decide_eq_true (LF_nd hi))
  have tv := tk_val (b := b) n0 0
  have hk : (hI g3 448 99 = 0) = (tkk (tkn b n 0) = 0) := by rw [P3.1.k, i32_z, i32_eq (by omega) (by omega) (by omega) (by omega)]
  have pre : ∀ {β : Type} (x : Option (Bool × HP)), fX3_readCondition 62 (i32 node) (some B) g = x ↔ (if tkk (tkn b n 0) = 0 then some (true, g3) else bn2 (fX3_condition 62 (i32 node) (some B) g3) fun v12 h13 => if v12 = true then (gd (isO h13 62 3) <| bn2 (fX3_take 62 (i32 0) h13) fun v16 h17 => if v16 = true then some (true, h17) else some (false, h17)) else some (false, h13)) = x := by
    intro β x
    unfold fX3_readCondition
    rw [oc_s, oB, gd_tt, lt_e, lt_e, lt_e, ← e3, C3.o_parser, gd_tt, C3.r_tokens, oc_s, C3.o_tokens, gd_tt]
    by_cases k : tkk (tkn b n 0) = 0
    · rw [if_pos (by rw [hk]; exact k), if_pos k]
    · rw [if_neg (by rw [hk]; exact k), if_neg k]
  rw [← eB, ← eF]
  unfold pset
  by_cases k : tkk (tkn b n 0) = 0
  · rw [if_pos k]
    refine ⟨g3, (pre (β := Nat) _).mpr (by rw [if_pos k]), qL, fun _ => ⟨ts, ⟨P3.2.2.1, P3.2.2.2, P3.1.er⟩, R3⟩, fun z => by cases z⟩
  rw [if_neg k]
  have cv : CV Fb [] was (oldC F node) := fun m a c d e => by
    rw [lo m (by omega)] at d
    rw [oldC_f a c d e, z224]; exact ⟨Int.le_refl _, Or.inl rfl⟩
  obtain ⟨ok, g4, e4, eok, z1, z2, z3, z4⟩ := cpc n0 n1 P3 R3 cv h0 h1 (by rw [lo node (by omega)]; exact npr) oldC_n z224
  rw [← eB] at e4
  have pl := pcd_le te (was := was) (F := Fb) (S := []) (LL := []) (node := node) (j := 0) (by omega)
  obtain ⟨Z, eZ⟩ : ∃ Z, Z = pcd (tkn b n) was node 0 Fb [] [] := ⟨_, rfl⟩
  rw [← eZ] at eok z1 z2 z3 z4 pl ⊢
  have q4 : Co Z.2.1 LF g g4 := by
    have := qL.t z2
    exact this.up (by omega)
  by_cases okZ : Z.1 = true
  rotate_left
  · rw [if_neg okZ]
    have okF : Z.1 = false := by cases y : Z.1 with
      | true => exact absurd y okZ
      | false => rfl
    refine ⟨g4, (pre (β := Nat) _).mpr ?_, q4, fun z => absurd z okZ, z4⟩
    rw [if_neg k, e4, bn2_s, if_neg (by rw [eok]; exact okZ), okF]
  rw [if_pos okZ]
  obtain ⟨⟨_, zc⟩, ts', P4, R4⟩ := z3 okZ
  have C4 := P4.1.cs
  have tv4 := tk_val (b := b) n0 Z.2.1
  by_cases ke : tkk (tkn b n Z.2.1) = 0
  · have cn := P4.1.2.2.1.1
    obtain ⟨g5, s1, s2, s3⟩ := P4.1.step n0 n1 (by omega)
    have P5 := P4.mv s2 s3
    have R5 := RPs_co R4 C4 (Or.inl rfl) s2
    have s2L : Co 0 LF g4 g5 := s2.w (LF_F0 (Or.inl rfl)).2.2
    refine ⟨g5, (pre (β := Nat) _).mpr ?_, q4.t0 s2L, fun _ => ⟨ts', ⟨P5.2.2.1, P5.2.2.2, P5.1.er⟩, R5⟩, fun z => ?_⟩
    · rw [if_neg k, e4, bn2_s, if_pos (by rw [eok]; exact okZ), C4.o_parser, gd_tt]
      unfold fX3_take
      rw [C4.o_parser, gd_tt, C4.r_tokens, oc_s, C4.o_tokens, gd_tt, P4.1.k, if_pos (by rw [ke]), s1, bn_s, bn2_s, if_pos rfl]
      show _ = some (decide (tkk (tkn b n Z.2.1) = 0), g5)
      rw [decide_eq_true ke]
    · change decide (tkk (tkn b n Z.2.1) = 0) = false at z
      rw [decide_eq_true ke] at z; cases z
  · obtain ⟨g5, s1, s2, s3⟩ := fail_s P4.1
    have s2L : Co 0 LF g4 g5 := s2.w (LF_F0 (Or.inr rfl)).2.2
    refine ⟨g5, (pre (β := Nat) _).mpr ?_, q4.t0 s2L, fun z => ?_, fun _ => s3⟩
    · rw [if_neg k, e4, bn2_s, if_pos (by rw [eok]; exact okZ), C4.o_parser, gd_tt]
      unfold fX3_take
      rw [C4.o_parser, gd_tt, C4.r_tokens, oc_s, C4.o_tokens, gd_tt, P4.1.k, if_neg (by rw [i32_eq (by omega) (by omega) (by omega) (by omega)]; exact ke), s1, bn2_s, bn2_s, if_neg (by decide)]
      show _ = some (decide (tkk (tkn b n Z.2.1) = 0), g5)
      rw [decide_eq_false ke]
    · change decide (tkk (tkn b n Z.2.1) = 0) = true at z
      exact absurd (of_decide_eq_true z) ke
end

