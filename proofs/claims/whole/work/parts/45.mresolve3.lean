theorem lay_hi {F : Int → Int} {R : Int → Int32} {wo : Int} {f : Nat} (hf : 24 ≤ f) : ∀ (k : Nat) (i : Int) (φ : Nat → Int32), lay F R wo k i φ f = φ f := by
  intro k
  induction k with
  | zero => intro i φ; rfl
  | succ k ih =>
    intro i φ
    simp only [lay]
    rw [ih]
    by_cases c : F (256 + i) = wo
    · rw [if_pos c]
    · rw [if_neg c]
      unfold upN
      rw [if_neg (by omega)]
theorem lays_hi {F : Int → Int} {R : Int → Int32} {wo : Int} {φ : Nat → Int32} {f : Nat} (hf : 24 ≤ f) : lays F R wo φ f = φ f := by
  unfold lays
  rw [lay_hi hf]
  unfold zer
  rw [if_neg (by omega)]
def kres : Nat → HP → Option HP := fun w1 h2 =>
    lX11_resolves_83 (fun w3 h4 =>
      lX11_resolves_104 (fun w5 h6 =>
        lX11_resolves_147 FU w5 (i32 0) h6) FU w3 (i32 0) h4) FU w1 (i32 0) h2
theorem kres_s {h : HP} (M : MS h) (tr : TR (Wm h)) (sg : SGT (Wm h)) {s : Nat} (hs : hI h 726 983 = i32 s) (s4 : s ≤ 400) : kres 983 h = lX11_resolves_147 FU 983 (i32 0) (wA h 991 (lays (Wm h) (fun n => if rdB h s n = true then i32 0 else Rm (Wm h) (Pt h) n) (-3) (hA h 991))) := by
  have fu : FU = 1000000 := rfl
  have o1 := tr.ov.1
  have o2 := tr.ov.2.1
  have e := mres83 M (K := fun w3 h4 => lX11_resolves_104 (fun w5 h6 => lX11_resolves_147 FU w5 (i32 0) h6) FU w3 (i32 0) h4) 24 FU 0 (hA h 991) (by omega) (by omega) (by omega)
  rw [wA_self] at e
  unfold kres
  rw [e]
  exact mres104 M tr sg hs s4 (Wm h 288).toNat FU 0 (zer 0 (hA h 991)) (by omega) (by omega) (by omega)
theorem end147 {h : HP} {m : Nat} (M : MS h) (z : hI h 721 983 = i32 0) : lX11_resolves_147 (m + 1) 983 (i32 0) h = some h := by
  rw [elX11_resolves_147]; unfold bX11_resolves_147
  rw [M.o, gd_tt]
  by_cases c3 : hI h 726 983 ≤ i32 0
  · rw [if_pos c3]
  · rw [if_neg c3, z, i32_z, if_pos rfl]
theorem FU_p : FU = 999999 + 1 := rfl
/-- after a failure -/
theorem kres_z {h : HP} (M : MS h) (tr : TR (Wm h)) (sg : SGT (Wm h)) {s : Nat} (hs : hI h 726 983 = i32 s) (s4 : s ≤ 400) (z : hI h 721 983 = i32 0) (n24 : N24 h) : ∃ g', kres 983 h = some g' ∧ Mo [991] h g' ∧ N24 g' := by
  rw [kres_s M tr sg hs s4, FU_p, end147 (M.sk (wA_sk _ _ _)) (by rw [wA_I]; exact z)]
  exact ⟨_, rfl, Mo_wA (by decide) _, n24.w (fun j hj => lays_hi hj) rfl⟩
theorem mresolve_z {h : HP} {er : Int} {was : Nat} (B : BdM h er was) (n24 : N24 h) : ∃ g', fX11_resolves 983 h = some g' ∧ Mo [991] h g' ∧ N24 g' := by
  obtain ⟨M, z1, z2, ⟨s, z3, s4⟩, z4, z5, z6⟩ := B
  have un : fX11_resolves 983 h = lX11_resolves_2 kres FU 983 (i32 0) h := rfl
  have st : lX11_resolves_2 kres (999999 + 1) 983 (i32 0) h = kres 983 h := by
    rw [elX11_resolves_2]; unfold bX11_resolves_2
    rw [M.o, gd_tt]
    by_cases c : hI h 726 983 ≤ i32 0
    · rw [if_pos c]
    · rw [if_neg c, z1, i32_z, if_pos rfl]
  rw [un, FU_p, st]
  exact kres_z M z5 z6 z3 s4 z1 n24
section
variable {b : Int → Int} {n : Int} {j : Nat} {F : Int → Int} {S : List TS} {LL : List Int} {was : Nat} {old : Int → Bool} {C0 : Int → List Int32}
theorem seg_LL {m : Int} {i : Nat} {e : Int} (h : (seg F LL was m)[i]? = some e) : LL[(F (192 + m) - was).toNat + i]? = some e := by
  unfold seg at h
  rw [List.getElem?_take] at h
  by_cases c : i < (F (224 + m)).toNat
  · rw [if_pos c, List.getElem?_drop] at h; exact h
  · rw [if_neg c] at h; cases h
theorem seg_mem {m : Int} {e : Int} (h : e ∈ seg F LL was m) : e ∈ LL := by
  obtain ⟨i, hi⟩ := List.getElem?_of_mem h
  exact List.mem_of_getElem? (seg_LL hi)
/-- a new stretch of the pool, resolved -/
theorem sgm_new {g : HP} (P : PLr g was F S LL S.length) (cv : CV F LL was old) {m : Int} (m0 : 0 ≤ m) (m1 : m < 32) (mp : F m ≠ -1) (mo : old m = false) : sgm (Pt g) F m = (seg F LL was m).map (rsl F S) := by
  obtain ⟨c0, c1⟩ := cv m m0 m1 mp mo
  rcases c1 with c1 | ⟨c1, c2⟩
  · rw [seg_0 c1]
    unfold sgm
    rw [c1]; rfl
  · apply List.ext_getElem?
    intro i
    unfold sgm
    rw [List.getElem?_map, List.getElem?_map]
    by_cases c : i < (F (224 + m)).toNat
    · rw [List.getElem?_range c]
      obtain ⟨e, he⟩ : ∃ e, (seg F LL was m)[i]? = some e := by
        refine ⟨_, List.getElem?_eq_getElem ?_⟩
        unfold seg
        rw [List.length_take, List.length_drop]
        omega
      rw [he]
      have hl := P _ e (seg_LL he)
      show some (Pt g (F (192 + m) + (i : Int))) = some (rsl F S e)
      congr 1
      have ep : Pt g (F (192 + m) + (i : Int)) = hA g 990 (was + ((F (192 + m) - was).toNat + i)) := by
        unfold Pt
        congr 1; omega
      rw [ep]
      by_cases e4 : 4 ≤ e
      · rw [if_pos e4] at hl
        obtain ⟨x, x1, x2, x3⟩ := hl
        have := (List.getElem?_eq_some_iff.mp x1).1
        rw [if_pos this] at x2
        rw [x2]
        unfold rsl
        rw [if_pos e4, x1]
      · rw [if_neg e4] at hl
        rw [hl, rsl_o (by omega)]
    · rw [List.getElem?_eq_none (by rw [List.length_range]; omega), List.getElem?_eq_none (by unfold seg; rw [List.length_take, List.length_drop]; omega)]
      rfl
theorem sgm_low {g g' : HP} {m : Int} (f0 : 0 ≤ F (192 + m)) (hl : F (192 + m) + F (224 + m) ≤ was) (h : ∀ p : Nat, p < was → hA g' 990 p = hA g 990 p) : sgm (Pt g') F m = sgm (Pt g) F m := by
  unfold sgm
  refine List.map_congr_left fun i hi => ?_
  have := List.mem_range.mp hi
  unfold Pt
  exact h _ (by omega)
theorem sgm_E {P : Int → Int32} {G : Int → Int} {m : Int} (h1 : G (192 + m) = F (192 + m)) (h2 : G (224 + m) = F (224 + m)) : sgm P G m = sgm P F m := by unfold sgm; rw [h1, h2]
theorem mresolve {g : HP} (M : MN g b n j F S LL was) (s4 : S.length ≤ 400) (l4 : LL.length ≤ 480) (wb : (was : Int) ≤ 10300) (t : TF F) (sg : SGT F) (o : OWN n F S LL was old) (cv : CV F LL was old) (n24 : N24 g) (hold : ∀ m, old m = true → 0 ≤ m ∧ m < 32 ∧ F m ≠ -1 ∧ F (192 + m) + F (224 + m) ≤ was) (hC : ∀ m, old m = true → C0 m = sgm (Pt g) F m) (tk0 : ∀ m, old m = true → ∀ t ∈ C0 m, tkOk F t) :
  (∀ e, pres F S (R0 C0 old) = some e → ∃ g', fX11_resolves 983 g = some g' ∧ Mo [991, 990, 721, 706] g g' ∧ hI g' 721 983 = i32 0 ∧ hI g' 706 983 = i32 e ∧ (∀ p : Nat, p < was → hA g' 990 p = hA g 990 p) ∧ N24 g') ∧
  (pres F S (R0 C0 old) = none → ∃ g', fX11_resolves 983 g = some g' ∧ Mo [991, 990, 721, 706] g g' ∧ hI g' 721 983 = i32 1 ∧ hI g' 706 983 = hI g 706 983 ∧ (∀ p : Nat, p < was → hA g' 990 p = hA g 990 p) ∧ N24 g' ∧ ∀ m, 0 ≤ m → m < 32 → F m ≠ -1 → sgm (Pt g') F m = Cnw F S LL was C0 old m) := by
  have tr := t.1
  have fu : FU = 1000000 := rfl
  have un : fX11_resolves 983 g = lX11_resolves_2 kres FU 983 (i32 ((0 : Nat) : Int)) g := rfl
  have D : SetM (n := n) g F S LL was := ⟨M.1.ms, M.2.1, M.2.2.2, tr, s4, l4, wb, fun k x h => by
    obtain ⟨a1, a2, a3, a4, a5, a6⟩ := o.2 k x h
    exact ⟨seg_mem a6, a1, a2, a3, a4⟩⟩
  obtain ⟨a1, a2⟩ := mres1 D (K := kres) S.length FU 0 g (by omega) (by omega) Mo.r M.1.fn (PLr_0 M.2.2.1) (fun _ _ => rfl)
  rw [← un] at a1 a2
  simp only [List.drop_zero] at a1 a2
  have base : ∀ g1, Mo [990, 721, 706] g g1 → MS g1 ∧ Enn (Wm g1) F ∧ TR (Wm g1) ∧ SGT (Wm g1) ∧ hI g1 726 983 = i32 S.length ∧ N24 g1 := by
    intro g1 p
    have e := Mo_Fm p (by decide) 0
    rw [Fm0, Fm0] at e
    have E : Enn (Wm g1) F := by rw [e]; exact M.2.2.2
    exact ⟨p.ms M.1.ms, E, TR_E (E.T tr.ov) tr, E.sg sg, by rw [p.I (by decide)]; exact M.2.1.1, n24.mo p (by decide) (by decide)⟩
  unfold pres
  cases hp : pnames F S with
  | some e =>
    refine ⟨fun e' he => ?_, fun he => by cases he⟩
    cases he
    obtain ⟨g1, y1, y2, y3, y4, y5⟩ := a1 e hp
    obtain ⟨z1, z2, z3, z4, z5, z6⟩ := base g1 y2
    obtain ⟨g', w1, w2, w3⟩ := kres_z z1 z3 z4 z5 s4 y3 z6
    rw [y1, w1]
    exact ⟨g', rfl, (y2.w (by decide)).t (w2.w (by decide)), by rw [w2.I (by decide)]; exact y3, by rw [w2.I (by decide)]; exact y4, fun p hp => by rw [w2.A (by decide)]; exact y5 p hp, w3⟩
  | none =>
    obtain ⟨g1, y1, y2, y3, y4, y5, y6⟩ := a2 hp
    obtain ⟨z1, z2, z3, z4, z5, z6⟩ := base g1 y2
    have pn := pnames_ok S hp
    obtain ⟨R', eR⟩ : ∃ R' : Int → Int32, R' = fun n => if rdB g1 S.length n = true then i32 0 else Rm (Wm g1) (Pt g1) n := ⟨_, rfl⟩
    obtain ⟨g2, e2⟩ : ∃ g2, g2 = wA g1 991 (lays (Wm g1) R' (-3) (hA g1 991)) := ⟨_, rfl⟩
    have k1 := kres_s z1 z3 z4 z5 s4
    rw [← eR, ← e2] at k1
    rw [y1, k1]
    have m12 : Mo [991] g1 g2 := by rw [e2]; exact Mo_wA (by decide) _
    have sd1 : SDm g1 S := M.2.1.mo y2 (by decide)
    -- whose tests were read
    have rd : ∀ m, 0 ≤ m → m < 32 → (rdB g1 S.length m = true ↔ ∃ (k : Nat) (x : TS), S[k]? = some x ∧ x.2.2.1 = m) := by
      intro m m0 m1
      unfold rdB
      rw [anyf_iff]
      constructor
      · rintro ⟨k, k0, k1, k2⟩
        obtain ⟨x, hx⟩ : ∃ x, S[k.toNat]? = some x := ⟨_, List.getElem?_eq_getElem (by omega)⟩
        have := sd1.2 _ x hx
        rw [decide_eq_true_eq, this.2.2] at k2
        have ow := o.2 _ x hx
        rw [i32_eq (by omega) (by omega) (by omega) (by omega)] at k2
        exact ⟨_, x, hx, k2⟩
      · rintro ⟨k, x, hx, hm⟩
        have hk := (List.getElem?_eq_some_iff.mp hx).1
        refine ⟨k, by omega, by omega, ?_⟩
        rw [decide_eq_true_eq, Int.toNat_natCast, (sd1.2 _ x hx).2.2, hm]
    have hR : ∀ m, 0 ≤ m → m < 32 → F m ≠ -1 → R' m = R0 C0 old m := by
      intro m m0 m1 mp
      rw [eR]
      show (if rdB g1 S.length m = true then i32 0 else Rm (Wm g1) (Pt g1) m) = R0 C0 old m
      have eW : sgm (Pt g1) (Wm g1) m = sgm (Pt g1) F m := sgm_E (z2 _ (by omega)) (z2 _ (by omega))
      cases q : old m with
      | true =>
        obtain ⟨h0, h1, h2, h3⟩ := hold m q
        have nr : ¬ rdB g1 S.length m = true := by
          rw [rd m m0 m1]
          rintro ⟨k, x, hx, hm⟩
          have := (o.2 k x hx).2.2.2.2.1
          rw [hm, q] at this; cases this
        unfold R0
        rw [if_neg nr, if_pos q, sgm_Rm, eW, hC m q, sgm_low (sg m m0 m1 mp).1 h3 y6]
      | false =>
        unfold R0
        rw [if_neg (show ¬ old m = true by rw [q]; decide)]
        by_cases r : rdB g1 S.length m = true
        · rw [if_pos r]
        · rw [if_neg r, sgm_Rm, eW, sgm_new y5 cv m0 m1 mp q]
          apply RlL_none
          intro tk htk
          obtain ⟨e, he, rfl⟩ := List.mem_map.mp htk
          rcases seg_case tr o pn m0 m1 mp q he with ⟨h1, h2, h3⟩ | ⟨k, x, h1, h2, h3, _⟩
          · rw [h3]; exact tT_op h1 h2
          · exact absurd ((rd m m0 m1).mpr ⟨k, x, h2, h3⟩) r
    have lo0 : ∀ q, 0 ≤ q → q < 32 → F q ≠ -1 → lo24 (R0 C0 old q) := by
      intro q q0 q1 qp i i0 i1
      unfold R0
      by_cases c : old q = true
      · rw [if_pos c]
        cases w : bt (RlL (C0 q)) i with
        | false => rfl
        | true =>
          obtain ⟨t1, u1, u2, u3⟩ := (RlL_bt _ (fun t ht => tk_bits (tk0 q c t ht)) (by omega) i1).mp w
          obtain ⟨f, f0, f1, f2⟩ := tk_bits (tk0 q c t1 u1) u2
          rw [f2, i32_eq (by omega) (by omega) (by omega) (by omega)] at u3
          omega
      · rw [if_neg c]; exact bt_0 i
    have D2 : SetM (n := n) g2 F S LL was := ⟨m12.ms z1, sd1.mo m12 (by decide), by
      have e := Mo_Fm m12 (by decide) 0
      rw [Fm0, Fm0] at e
      rw [e]; exact z2, D.2.2.2⟩
    have P2 : PLr g2 was F S LL S.length := by
      intro q e h
      have := y5 q e h
      rw [m12.A (by decide), m12.A (by decide)]
      exact this
    have E1 := z2.T tr.ov
    obtain ⟨r1, r2⟩ := mres147 D2 P2 pn S.length FU 0 (R0 C0 old) g2 (by omega) (by omega) Mo.r (by rw [m12.I (by decide)]; exact y3) (by
      intro j j0 j1
      rw [e2, wA_A, lays_NE (by omega) z3.tv z3.ov z3.ce z3.po j0 j1]
      rw [EqT_NE E1 tr.av (R := R') (S := R0 C0 old) hR tr.tv]) (by
      rw [e2]
      exact z6.w (fun j hj => lays_hi hj) rfl) lo0
    simp only [List.drop_zero] at r1 r2
    refine ⟨fun e he => ?_, fun he => ?_⟩
    · obtain ⟨g', w1, w2, w3, w4, w5⟩ := r1 e he
      exact ⟨g', w1, ((y2.w (by decide)).t (m12.w (by decide))).t (w2.w (by decide)), w3, w4, fun p hp => by rw [w2.A (by decide), m12.A (by decide)]; exact y6 p hp, w5⟩
    · obtain ⟨g', w1, w2, w3, w4, w5⟩ := r2 he
      refine ⟨g', w1, ((y2.w (by decide)).t (m12.w (by decide))).t (w2.w (by decide)), w3, by rw [w4, m12.I (by decide)]; exact y4, fun p hp => by rw [w2.A (by decide), m12.A (by decide)]; exact y6 p hp, w5, fun m m0 m1 mp => ?_⟩
      have e990 : hA g' 990 = hA g1 990 := by rw [w2.A (by decide), m12.A (by decide)]
      have eP : Pt g' = Pt g1 := by funext k; unfold Pt; rw [e990]
      rw [eP]
      cases q : old m with
      | true =>
        obtain ⟨h0, h1, h2, h3⟩ := hold m q
        unfold Cnw
        rw [if_pos q, hC m q, sgm_low (sg m m0 m1 mp).1 h3 y6]
      | false =>
        unfold Cnw
        rw [if_neg (show ¬ old m = true by rw [q]; decide), sgm_new y5 cv m0 m1 mp q]
end
