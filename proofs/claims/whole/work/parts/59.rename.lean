/-! RENAME -/
section
variable {h : HP} {k : Nat}
theorem i64_ne0 {w : Int} (nv : NV w) : i64 w ≠ i64 0 := by
  have := nv.1
  have := nv.2.1
  intro z
  rw [i64_eq (by omega) (by omega) (by omega) (by omega)] at z
  omega
theorem rd_rename (R : RR h k) (p q : Int32) : ∃ r g g', fX10_rename 0 p q h = some (r, g) ∧ fX11_rename 983 p q g = some (r, g') ∧ RR g' (k + 1) := by
  obtain ⟨n, h1, h2, rfl⟩ := i32_ex p
  obtain ⟨np, sr, hnp⟩ := R.sr
  have C := R.C
  have M := R.M
  have K : KW h := R.2.2.1
  have x := sr.x
  have A := C.st.d
  have R' := RR_up R (show k ≤ k + 1 by omega)
  obtain ⟨w, m, c, o, ew⟩ := nameOf_both (p := q) h
  have mg : ∀ g, fX11_nameOf q g = some (i64 w) := fun g => by
    obtain ⟨w', m', _, _, ew'⟩ := nameOf_both (p := q) g
    rw [m', ew, ← ew']
  have hc : fX10_rename 0 (i32 n) q h = on (fnx (Wm h) (2 + 1) n) (some (false, h)) fun o12 => if i64 (lft w) = i64 0 then some (false, h) else bn (fX3_isKeyword 62 (i64 (lft w)) h) fun v18 => if v18 = true then some (false, h) else bn (fX0_findName (2 + 1) (i64 (lft w)) h) fun v20 => if v20 < 0 then bn (fX10_remember 0 h) fun h22 => gd (isO h22 o12 2) <| lt (sJ h22 129 o12 (i64 (lft w))) fun h24 => some (true, h24) else some (false, h) := by
    unfold fX10_rename
    rw [C.o, gd_tt, C.r_state, oc_s, C.o_state, gd_tt, C.st.rD, oc_s, A.o, gd_tt, x_find A x h1 h2, bn_s, c, bn_s]
    congr 1
    funext o12
    rw [C.r_parser, oc_s, C.o_parser, gd_tt]
  have hm : ∀ g : HP, MS g → Wm g = Wm h → fX11_rename 983 (i32 n) q g = if decide (0 ≤ n ∧ n < 32 ∧ Wm h n ≠ -1) = true then (if i64 w = i64 0 then some (false, g) else bn (fX11_isKeyword (i64 w) g) fun v7 => if v7 = true then some (false, g) else bn (fX11_nodeNamed 983 (i32 0) (i64 w) g) fun v9 => if v9 < 0 then bn (fX11_keeps 983 g) fun h11 => gd (isO h11 983 11) <| oc (hR h11 709 983) fun o13 => gd (isO h11 o13 23) <| gd (inb ((i32 32) + i32 n) (hln h11 o13)) <| lt (sL h11 o13 ((i32 32) + i32 n).toNatClampNeg (i64 w)) fun h17 => some (true, h17) else some (false, g)) else some (false, g) := fun g Mg eg => by
    unfold fX11_rename
    rw [mg g, bn_s, Mg.o, gd_tt, mIsNode Mg h1 h2, bn_s, eg]
  by_cases cn : 0 ≤ n ∧ n < 32 ∧ Wm h n ≠ -1
  rotate_left
  · refine ⟨false, h, h, ?_, ?_, R'⟩
    · rw [hc, fnx_n cn, on_nn]
    · rw [hm h M rfl, decide_eq_false cn, if_neg (by decide)]
  rcases o with rfl | nv
  · refine ⟨false, h, h, ?_, ?_, R'⟩
    · rw [hc, fnx_y cn, on_sm, if_pos (by unfold lft; rw [Int.zero_mul])]
    · rw [hm h M rfl, decide_eq_true cn, if_pos rfl, if_pos rfl]
  have nv0 := nv.1
  have nv1 := nv.2.1
  by_cases ck : kwk w ≠ 2
  · refine ⟨false, h, h, ?_, ?_, R'⟩
    · rw [hc, fnx_y cn, on_sm, if_neg (lft_nz nv), ciskey C K nv, bn_s, decide_eq_true ck, if_pos rfl]
    · rw [hm h M rfl, decide_eq_true cn, if_pos rfl, if_neg (i64_ne0 nv), isKeyword_s (by omega) (by omega), bn_s, decide_eq_true ck, if_pos rfl]
  have fr := fnm_rng (w := w) x.tr.ov
  have hN : ∀ g : HP, MS g → Wm g = Wm h → fX11_nodeNamed 983 (i32 0) (i64 w) g = some (i32 (fnm (Wm h) w)) := fun g Mg eg => by
    rw [nodeNamed_s Mg (by omega) (by omega) (by omega) (by omega) (by rw [Fm0, eg]; exact x.tr.ov), Fm0, eg]
  by_cases cf : fnm (Wm h) w < 0
  rotate_left
  · refine ⟨false, h, h, ?_, ?_, R'⟩
    · rw [hc, fnx_y cn, on_sm, if_neg (lft_nz nv), ciskey C K nv, bn_s, decide_eq_false ck, if_neg (by decide), x_name A x nv, bn_s, i32_z, if_neg (by rw [i32_lt (by omega) (by omega) (by omega) (by omega)]; exact cf)]
    · rw [hm h M rfl, decide_eq_true cn, if_pos rfl, if_neg (i64_ne0 nv), isKeyword_s (by omega) (by omega), bn_s, decide_eq_false ck, if_neg (by decide), hN h M rfl, bn_s, i32_z, if_neg (by rw [i32_lt (by omega) (by omega) (by omega) (by omega)]; exact cf)]
  obtain ⟨u, pp, U⟩ := R.up
  obtain ⟨g1, a1, c1⟩ := R.rem U
  have C1 : CS g1 := C.sk c1.1.1
  obtain ⟨g2, e2⟩ : ∃ g2, g2 = sJ g1 129 (2 + 1 + 4 + n.toNat) (i64 (lft w)) := ⟨_, rfl⟩
  have w2 : So Sst g1 g2 := by rw [e2]; exact So_J (Or.inl ⟨by omega, by omega⟩) _ _
  have M2 : MS g2 := M.sk (c1.1.1.trans w2.1)
  have smh : ∀ x, x ≠ 0 → (x < 403 ∨ 983 ≤ x) → Sm h g1 x := fun x a b => c1.sm a b U.2.1
  have i983 : ∀ f, hI g2 f 983 = hI h f 983 := fun f => by rw [e2]; exact (smh 983 (by omega) (by omega)).1 f
  obtain ⟨g3, a3, m3⟩ := M2.keep U.1 (by rw [i983]; exact U.2.2.2.2)
  have M3 : MS g3 := M2.sk m3.1.1
  obtain ⟨g4, e4⟩ : ∃ g4, g4 = sL g3 987 (32 + n).toNat (i64 w) := ⟨_, rfl⟩
  have v4 : So (fun x => x = 987) g3 g4 := by rw [e4]; exact So_L (S := fun x => x = 987) rfl _ _
  have l2 : hL g2 987 = hL h 987 := by rw [e2]; exact funext (smh 987 (by omega) (by omega)).2.2.2.2.1
  have W2 : Wm g2 = Wm h := by funext j; unfold Wm; rw [l2]
  have l3 : hL g3 987 = hL h 987 := (funext (m3.sm (x := 987) (by decide) (by decide)).2.2.2.2.1).trans l2
  have W4 : EW (Wm g4) (updI (Wm h) (32 + n) w) := fun j j0 j1 => by
    unfold Wm
    rw [e4, rLL]
    by_cases y : j = 32 + n
    · rw [if_pos ⟨rfl, by rw [y]⟩, updI_at y, i64_toInt (by omega) (by omega)]
    · rw [if_neg (fun z => y (by have := z.2; omega)), updI_ne y, l3]
  have sm4 : ∀ x, x ≠ 983 → x ≠ 989 → x ≠ 987 → Sm g2 g4 x := fun x a b c => (m3.sm a b).t (v4.2.2 x c)
  refine ⟨true, g2, g4, ?_, ?_, ?_⟩
  · rw [hc, fnx_y cn, on_sm, if_neg (lft_nz nv), ciskey C K nv, bn_s, decide_eq_false ck, if_neg (by decide), x_name A x nv, bn_s, i32_z, if_pos (by rw [i32_lt (by omega) (by omega) (by omega) (by omega)]; exact cf), a1, bn_s, C1.st.d.on (show n.toNat < 32 by omega), gd_tt, ← e2, lt_e]
  · rw [hm g2 M2 W2, decide_eq_true cn, if_pos rfl, if_neg (i64_ne0 nv), isKeyword_s (by omega) (by omega), bn_s, decide_eq_false ck, if_neg (by decide), hN g2 M2 W2, bn_s, i32_z, if_pos (by rw [i32_lt (by omega) (by omega) (by omega) (by omega)]; exact cf), a3, bn_s, M3.o, gd_tt, M3.r_world, oc_s, M3.o_world, gd_tt, M3.n_world, i32_add, i32_inb (by omega) (by omega) (by omega), gd_tt, i32_cn (by omega) (by omega), ← e4, lt_e]
  · refine RR_rem R U c1 w2 m3 v4 (fun r hr => FormEq_sm (fun x hx => by rw [e2]; exact Sm_J (by have := hx.1; omega) _ _)) (by rw [W4 2628 (by omega) (by omega), updI_ne (by omega)]; exact Int.le_refl _) (fun np' hnp' s => ?_)
    have x' := s.x
    have tr := x'.tr
    have hI4 : ∀ f x, 2 ≤ x → x < 403 → hI g4 f x = hI h f x := fun f x a b => by rw [(sm4 x (by omega) (by omega) (by omega)).1, e2, rIJ, (smh x (by omega) (by omega)).1]
    have hA4 : ∀ x, 2 ≤ x → x < 403 → hA g4 x = hA h x := fun x a b => by
      rw [(funext (sm4 x (by omega) (by omega) (by omega)).2.2.2.1 : hA g4 x = hA g2 x), e2, rAJ]
      exact funext (smh x (by omega) (by omega)).2.2.2.1
    have hR4 : ∀ f x, 2 ≤ x → x < 403 → hR g4 f x = hR h f x := fun f x a b => by rw [(sm4 x (by omega) (by omega) (by omega)).2.2.1, e2, rRJ, (smh x (by omega) (by omega)).2.2.1]
    have hJ4 : ∀ x, 2 ≤ x → x < 403 → hJ g4 129 x = if x = 2 + 1 + 4 + n.toNat then i64 (lft w) else hJ h 129 x := fun x a b => by
      rw [(sm4 x (by omega) (by omega) (by omega)).2.1, e2, rJJ]
      by_cases y : x = 2 + 1 + 4 + n.toNat
      · rw [if_pos ⟨rfl, y⟩, if_pos y]
      · rw [if_neg (fun z => y z.2), if_neg y, (smh x (by omega) (by omega)).2.1]
    have a985 : hA g4 985 = hA h 985 := by
      rw [(funext (sm4 985 (by omega) (by omega) (by omega)).2.2.2.1 : hA g4 985 = hA g2 985), e2, rAJ]
      exact funext (smh 985 (by omega) (by omega)).2.2.2.1
    have a990 : hA g4 990 = hA h 990 := by
      rw [(funext (sm4 990 (by omega) (by omega) (by omega)).2.2.2.1 : hA g4 990 = hA g2 990), e2, rAJ]
      exact funext (smh 990 (by omega) (by omega)).2.2.2.1
    have ts : TS2 h g4 := TS2_So (S := fun x => x < 1008) ((c1.1.w (fun x z => by rcases z with z | z; omega; have := z.2; have := U.2.1; omega)).t ((w2.w (fun x z => by rcases z with z | z <;> omega)).t ((m3.1.w (fun x z => by rcases z with z | z <;> omega)).t (v4.w (fun x z => by omega))))) (fun x z => z)
    have pl : PlS np' h g4 := fun q _ => by rw [a990]
    have nn := fnm_none tr.ov cf tr
    refine SR_W (SR_draft s ?_ (hI4 321 2 (by omega) (by omega)) (hI4 322 2 (by omega) (by omega)) (fun i hi => ⟨hI4 256 _ (by omega) (by omega), fun j _ => by rw [hA4 _ (by omega) (by omega)]⟩) (fun r hr => FormEq_sm (fun x hx => (smh x (by have := hx.1; omega) (by have := hx.2; omega)).t ((show Sm g1 g2 x by rw [e2]; exact Sm_J (by have := hx.1; omega) _ _).t (sm4 x (by have := hx.2; omega) (by have := hx.2; omega) (by have := hx.2; omega))))) (fun j j0 j1 => updI_ne (by omega)) ts pl a985 (Nat.le_refl _)) W4
    rw [Wf_0]
    show FRx g4 (2 + 1) (updI (Wm h) (32 + n) w) np'
    refine FRx_set x' (fun j j0 j1 jn => updI_ne (by omega)) ⟨fun m m0 m1 pm => ?_, fun m l m0 m1 l0 l1 pm pl' e => ?_⟩ (fun m m0 m1 pm => ?_) (fun f hf => hI4 f 3 (by omega) (by omega)) (fun i hi => by rw [hA4 _ (by omega) (by omega)]) (fun i hi => ⟨hI4 _ _ (by omega) (by omega), hI4 _ _ (by omega) (by omega), hR4 _ _ (by omega) (by omega), hI4 _ _ (by omega) (by omega), hI4 _ _ (by omega) (by omega)⟩) (fun m m0 m1 pm => ?_) ts pl a985
    · rw [updI_ne (by omega)] at pm
      by_cases y : m = n
      · rw [updI_at (by omega)]; exact nv
      · rw [updI_ne (by omega)]; exact x'.nm.1 m m0 m1 pm
    · rw [updI_ne (by omega)] at pm pl'
      by_cases y : m = n
      · by_cases y' : l = n
        · omega
        · rw [updI_at (by omega), updI_ne (by omega)] at e
          exact absurd e.symm (nn l l0 l1 pl')
      · by_cases y' : l = n
        · rw [updI_ne (by omega), updI_at (by omega)] at e
          exact absurd e (nn m m0 m1 pm)
        · rw [updI_ne (by omega), updI_ne (by omega)] at e
          exact x'.nm.2 m l m0 m1 l0 l1 pm pl' e
    · rw [updI_ne (by omega)] at pm
      have := x'.kd m m0 m1 pm
      unfold kdOk at this ⊢
      rw [updI_ne (by omega), updI_ne (by omega), updI_ne (by omega), updI_ne (by omega)]
      exact this
    · have nd := (x'.nd m0 m1 pm).2
      rw [hJ4 _ (by omega) (by omega), hI4 _ _ (by omega) (by omega), hI4 _ _ (by omega) (by omega), hI4 _ _ (by omega) (by omega), hI4 _ _ (by omega) (by omega), updI_ne (show 64 + m ≠ 32 + n by omega), updI_ne (show 96 + m ≠ 32 + n by omega), updI_ne (show 128 + m ≠ 32 + n by omega), updI_ne (show 160 + m ≠ 32 + n by omega)]
      refine ⟨?_, nd.2.2⟩
      by_cases y : m = n
      · rw [if_pos (by rw [y]), updI_at (by omega)]
      · rw [if_neg (by omega), updI_ne (by omega)]
        exact nd.2.1
end

