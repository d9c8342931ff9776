section
variable {h g : HP} {a b np : Nat} {F A φ : Int → Int}
theorem FRx_9 (r : FRx h a F np) (ha : a + 36 ≤ 109 ∨ 111 ≤ a) (ha' : a + 36 ≤ 983) (p : So So9 h g) : FRx g a F np ∧ cns g F = cns h F := by
  have nb : ∀ x, ¬ So9 x → Sm h g x := fun x hx => p.2.2 x hx
  have e990 : hA g 990 = hA h 990 := funext (nb 990 (fun z => by unfold So9 at z; omega)).2.2.2.1
  refine ⟨FRx_eq r (FormEq_sm (fun x hx => nb x (fun z => by unfold So9 at z; have := hx.1; have := hx.2; omega))) (TS2_So p (fun x z => by unfold So9 at z; omega)) (fun q _ => by rw [e990]) (funext (nb 985 (fun z => by unfold So9 at z; omega)).2.2.2.1) (Nat.le_refl _), ?_⟩
  have eP : Pt g = Pt h := by funext q; unfold Pt; rw [e990]
  unfold cns
  rw [eP]
theorem AQ_9 (q : AQ h b A) (hb : b + 2 ≤ 109 ∨ 111 ≤ b) (p : So So9 h g) : AQ g b A := by
  obtain ⟨S, an⟩ := q
  exact ⟨S.sk p.1, fun f f0 f1 => by rw [(p.2.2 (b + 1) (fun z => by unfold So9 at z; omega)).2.2.2.1]; exact an f f0 f1⟩
/-- the fields that have been looked at -/
def LKI (g : HP) (F A φ : Int → Int) (Cn : Int → List Int32) (s : Int32) (i : Int) : Prop :=
  (∀ f, 0 ≤ f → f < 32 → bt s f = true → f < 24 ∧ F f ≠ -1 ∧ ∀ o, 0 ≤ o → o < 32 → bt (NE F (fun n => RlL (Cn n)) f) o = true → bt s o = true) ∧
  (∀ f, 0 ≤ f → f < 24 → (bt s f = true → φ f = fvl F A (sho F (cnd φ Cn) 9 f) f) ∧ (bt s f = false → φ f = -2)) ∧
  (∀ f, 0 ≤ f → f < 32 → (bt (hI g 512 109) f = true ↔ (bt s f = true ∧ sho F (cnd φ Cn) 9 f = true))) ∧
  (∀ f, 0 ≤ f → f < 32 → (bt (hI g 513 109) f = true ↔ (bt s f = true ∧ 0 ≤ φ f))) ∧
  ∀ f, 0 ≤ f → f < 24 → F f ≠ -1 → bt s f = false → i ≤ cb s
theorem clook37 {K : Nat → Option Nat → HP → Option HP} (r0 : FRx h a F np) (S0 : FormAt h a) (C0 : CS h) (q0 : AQ h b A) (hz : hsz h ≤ 900000) (ha : a + 36 ≤ 109 ∨ 111 ≤ a) (ha' : a + 36 ≤ 983) (hb : b + 2 ≤ 109 ∨ 111 ≤ b) : ∀ (k n : Nat) (i : Int) (s : Int32) (g : HP) (φ : Int → Int), i + k = 24 → 0 ≤ i → k < n → So So9 h g → VW g φ → LKI g F A φ (cns h F) s i → ∃ g' φ' s', lX8_look_37 K n 109 (some a) (some b) s (i32 i) g = K 109 (some a) g' ∧ So So9 h g' ∧ VW g' φ' ∧ LKI g' F A φ' (cns h F) s' 24 := by
  have t := r0.tr
  have tk : ∀ n, 0 ≤ n → n < 32 → F n ≠ -1 → ∀ u ∈ cns h F n, tkOk F u := r0.tk
  have ac : Acy (NE F (fun n => RlL (cns h F n))) := r0.ac
  have lo := NE_lo t.tv t.ce (R := fun n => RlL (cns h F n)) (fun n a b d => RlL_lo (tk n a b d))
  intro k
  induction k with
  | zero =>
    intro n i s g φ e i0 hn p v I
    obtain ⟨n, rfl⟩ : ∃ x, n = x + 1 := ⟨n - 1, by omega⟩
    have ei : i = 24 := by omega
    rw [elX8_look_37]; unfold bX8_look_37
    rw [if_pos (by rw [i32_le (by omega) (by omega) (by omega) (by omega)]; omega)]
    exact ⟨g, φ, s, rfl, p, v, by rw [← ei]; exact I⟩
  | succ k ih =>
    intro n i s g φ e i0 hn p v I
    obtain ⟨n, rfl⟩ : ∃ x, n = x + 1 := ⟨n - 1, by omega⟩
    obtain ⟨rg, ecn⟩ := FRx_9 r0 ha ha' p
    have Sg := S0.sk p.1
    have Cg := C0.sk p.1
    have eN : NE F (RX g F) = NE F (fun n => RlL (cns h F n)) := by
      show NE F (fun n => RlL (cns g F n)) = _
      rw [ecn]
    obtain ⟨I1, I2, I3, I4, I5⟩ := I
    have nx := x_next Sg rg (s := s)
    rw [eN] at nx
    obtain ⟨f, ef⟩ : ∃ f, f = fst (nxt F (NE F (fun n => RlL (cns h F n))) s) (-2) 24 0 := ⟨_, rfl⟩
    have sp := fst_spec (p := nxt F (NE F (fun n => RlL (cns h F n))) s) (e := -2) 24 0
    rw [← ef] at nx sp
    rcases sp with ⟨z, none⟩ | ⟨f0, f1, fn, _⟩
    · -- no field is left
      obtain ⟨g', φ', s', w1, w2⟩ := ih n (i + 1) s g φ (by omega) (by omega) (by omega) p v ⟨I1, I2, I3, I4, fun o o0 o1 op ob => by
        obtain ⟨y, y0, y1, y2⟩ := nx_ex (F := F) lo ac (fun f g g0 g1 e => NE_fld t tk g0 g1 e) (s := s) 24 o o0 o1 op ob (by
          have := cb_rng (cl (NE F (fun n => RlL (cns h F n))) 24 (NE F (fun n => RlL (cns h F n)) o))
          omega)
        rw [none y y0 (by omega)] at y2; cases y2⟩
      refine ⟨g', φ', s', ?_, w2⟩
      rw [elX8_look_37]; unfold bX8_look_37
      rw [if_neg (by rw [i32_le (by omega) (by omega) (by omega) (by omega)]; omega), oc_s, Sg.o, gd_tt, nx, bn_s, if_pos (by rw [z, i32_z, i32_lt (by omega) (by omega) (by omega) (by omega)]; omega)]
      unfold jX8_look_71
      rw [lt_e, i32_add]
      exact w1
    · obtain ⟨fp, fb, fs⟩ := nxt_sub fn
      have f24 : f < 24 := by omega
      obtain ⟨sv, esv⟩ : ∃ sv, sv = sho F (cnd φ (cns g F)) 9 f := ⟨_, rfl⟩
      obtain ⟨g1, c1, p1, c2, c3, v1⟩ := clookF rg Sg Cg v (by have := p.2.1; unfold hsz at hz ⊢; rw [this]; exact hz) ha hb (AQ_9 q0 hb p) f0 f24 fp sv esv ((I2 f f0 f24).2 fb)
      rw [ecn] at esv
      obtain ⟨s1, es1⟩ : ∃ s1, s1 = s ||| (i32 1 <<< (i32 f &&& 31)) := ⟨_, rfl⟩
      have bs : ∀ j, 0 ≤ j → j < 32 → (bt s1 j = true ↔ (bt s j = true ∨ j = f)) := fun j j0 j1 => by
        rw [es1, bt_or, bt_sh f0 (by omega) j0 j1, Bool.or_eq_true, beq_iff_eq]
      obtain ⟨ψ, eψ⟩ : ∃ ψ, ψ = updI φ f (fvl F A sv f) := ⟨_, rfl⟩
      rw [← eψ] at v1
      have ψf : ψ f = fvl F A sv f := by rw [eψ, updI_at rfl]
      have ψn : ∀ j, j ≠ f → ψ j = φ j := fun j hj => by rw [eψ, updI_ne hj]
      -- the fields that have been looked at say what they said
      have keep : ∀ j, 0 ≤ j → j < 32 → bt s1 j = true → sho F (cnd ψ (cns h F)) 9 j = sho F (cnd φ (cns h F)) 9 j := fun j j0 j1 hj => by
        rcases (bs j j0 j1).mp hj with z | z
        · obtain ⟨u1, u2, u3⟩ := I1 j j0 j1 z
          refine shoN t tk j0 u1 u2 fun o o0 o1 ho => ψn o (fun y => ?_)
          have := u3 o o0 (by omega) ho
          rw [y, fb] at this; cases this
        · rw [z]
          refine shoN t tk f0 f24 fp fun o o0 o1 ho => ψn o (fun y => ?_)
          have := fs o o0 (by omega) ho
          rw [y, fb] at this; cases this
      have nf : ∀ j, 0 ≤ j → j < 32 → bt s j = true → j ≠ f := fun j _ _ hj y => by rw [y, fb] at hj; cases hj
      have I' : LKI g1 F A ψ (cns h F) s1 (i + 1) := by
        refine ⟨fun j j0 j1 hj => ?_, fun j j0 j1 => ⟨fun hj => ?_, fun hj => ?_⟩, fun j j0 j1 => ?_, fun j j0 j1 => ?_, fun j j0 j1 jp jb => ?_⟩
        · rcases (bs j j0 j1).mp hj with z | z
          · obtain ⟨u1, u2, u3⟩ := I1 j j0 j1 z
            exact ⟨u1, u2, fun o o0 o1 ho => (bs o o0 o1).mpr (Or.inl (u3 o o0 o1 ho))⟩
          · rw [z]
            exact ⟨f24, fp, fun o o0 o1 ho => (bs o o0 o1).mpr (Or.inl (fs o o0 o1 ho))⟩
        · rw [keep j j0 (by omega) hj]
          rcases (bs j j0 (by omega)).mp hj with z | z
          · rw [ψn j (nf j j0 (by omega) z)]; exact (I2 j j0 j1).1 z
          · rw [z, ψf, esv]
        · have hs : bt s j = false := by
            cases w : bt s j with
            | false => rfl
            | true => rw [(bs j j0 (by omega)).mpr (Or.inl w)] at hj; cases hj
          have hf : j ≠ f := fun y => by rw [(bs j j0 (by omega)).mpr (Or.inr y)] at hj; cases hj
          rw [ψn j hf]; exact (I2 j j0 j1).2 hs
        · have base : bt (hI g1 512 109) j = true ↔ (bt (hI g 512 109) j = true ∨ (j = f ∧ sv = true)) := by
            rw [c2]
            by_cases y : sv = true
            · rw [if_pos y, bt_or, bt_sh f0 (by omega) j0 j1, Bool.or_eq_true, beq_iff_eq]
              exact ⟨fun z => z.imp id fun w => ⟨w, y⟩, fun z => z.imp id fun w => w.1⟩
            · rw [if_neg y]
              exact ⟨fun z => Or.inl z, fun z => z.elim id fun w => absurd w.2 y⟩
          rw [base, I3 j j0 j1]
          constructor
          · rintro (⟨z1, z2⟩ | ⟨z1, z2⟩)
            · have hj := (bs j j0 j1).mpr (Or.inl z1)
              exact ⟨hj, by rw [keep j j0 j1 hj]; exact z2⟩
            · have hj := (bs j j0 j1).mpr (Or.inr z1)
              exact ⟨hj, by rw [keep j j0 j1 hj, z1, ← esv]; exact z2⟩
          · rintro ⟨z1, z2⟩
            rw [keep j j0 j1 z1] at z2
            rcases (bs j j0 j1).mp z1 with w | w
            · exact Or.inl ⟨w, z2⟩
            · rw [w, ← esv] at z2; exact Or.inr ⟨w, z2⟩
        · have base : bt (hI g1 513 109) j = true ↔ (bt (hI g 513 109) j = true ∨ (j = f ∧ 0 ≤ fvl F A sv f)) := by
            rw [c3]
            by_cases y : 0 ≤ fvl F A sv f
            · rw [if_pos y, bt_or, bt_sh f0 (by omega) j0 j1, Bool.or_eq_true, beq_iff_eq]
              exact ⟨fun z => z.imp id fun w => ⟨w, y⟩, fun z => z.imp id fun w => w.1⟩
            · rw [if_neg y]
              exact ⟨fun z => Or.inl z, fun z => z.elim id fun w => absurd w.2 y⟩
          rw [base, I4 j j0 j1]
          constructor
          · rintro (⟨z1, z2⟩ | ⟨z1, z2⟩)
            · exact ⟨(bs j j0 j1).mpr (Or.inl z1), by rw [ψn j (nf j j0 j1 z1)]; exact z2⟩
            · exact ⟨(bs j j0 j1).mpr (Or.inr z1), by rw [z1, ψf]; exact z2⟩
          · rintro ⟨z1, z2⟩
            rcases (bs j j0 j1).mp z1 with w | w
            · rw [ψn j (nf j j0 j1 w)] at z2; exact Or.inl ⟨w, z2⟩
            · rw [w, ψf] at z2; exact Or.inr ⟨w, z2⟩
        · have := I5 f f0 f24 fp fb
          rw [es1, cb_add f0 f24 fb]; omega
      obtain ⟨g', φ', s', w1, w2⟩ := ih n (i + 1) s1 g1 ψ (by omega) (by omega) (by omega) (p.t p1) v1 I'
      refine ⟨g', φ', s', ?_, w2⟩
      rw [elX8_look_37]; unfold bX8_look_37
      rw [if_neg (by rw [i32_le (by omega) (by omega) (by omega) (by omega)]; omega), oc_s, Sg.o, gd_tt, nx, bn_s, if_neg (by rw [i32_z, i32_lt (by omega) (by omega) (by omega) (by omega)]; omega), lt_e, Cg.o_view, gd_tt, c1, bn_s, ← es1]
      unfold jX8_look_71
      rw [lt_e, i32_add]
      exact w1
theorem clook81 (r0 : FRx h a F np) (S0 : FormAt h a) (C0 : CS h) (hz : hsz h ≤ 900000) (ha : a + 36 ≤ 109 ∨ 111 ≤ a) (ha' : a + 36 ≤ 983) : ∀ (k n : Nat) (i : Int) (g : HP), i + k = 32 → 24 ≤ i → k < n → So So9 h g → VW g φ → ∃ g', lX8_look_81 n 109 (some a) (i32 i) g = some g' ∧ So So9 h g' ∧ VW g' φ ∧ hI g' 513 109 = hI g 513 109 ∧ ∀ m, 0 ≤ m → m < 32 → (bt (hI g' 512 109) m = true ↔ (bt (hI g 512 109) m = true ∨ (i ≤ m ∧ F m ≠ -1 ∧ sho F (cnd φ (cns h F)) 9 m = true))) := by
  intro k
  induction k with
  | zero =>
    intro n i g e i0 hn p v
    obtain ⟨n, rfl⟩ : ∃ x, n = x + 1 := ⟨n - 1, by omega⟩
    rw [elX8_look_81]; unfold bX8_look_81
    rw [if_pos (by rw [i32_le (by omega) (by omega) (by omega) (by omega)]; omega)]
    exact ⟨g, rfl, p, v, rfl, fun m m0 m1 => ⟨fun z => Or.inl z, fun z => z.elim id fun w => by omega⟩⟩
  | succ k ih =>
    intro n i g e i0 hn p v
    obtain ⟨n, rfl⟩ : ∃ x, n = x + 1 := ⟨n - 1, by omega⟩
    obtain ⟨rg, ecn⟩ := FRx_9 r0 ha ha' p
    have Sg := S0.sk p.1
    have Cg := C0.sk p.1
    have vis := cvis rg Sg Cg v (by have := p.2.1; unfold hsz at hz ⊢; rw [this]; exact hz) (show 0 ≤ i by omega) (show i < 32 by omega)
    rw [ecn] at vis
    rw [elX8_look_81]; unfold bX8_look_81
    rw [if_neg (by rw [i32_le (by omega) (by omega) (by omega) (by omega)]; omega), Cg.o_view, gd_tt, vis, bn_s]
    unfold jX8_look_111
    by_cases y : (decide (F i ≠ -1) && sho F (cnd φ (cns h F)) 9 i) = true
    · obtain ⟨g1, e1⟩ : ∃ g1, g1 = sI g 512 109 (hI g 512 109 ||| (i32 1 <<< (i32 i &&& 31))) := ⟨_, rfl⟩
      have p1 : So So9 g g1 := by rw [e1]; exact So_I (S := So9) (Or.inl rfl) _ _
      obtain ⟨g', w1, w2, w3, w4, w5⟩ := ih n (i + 1) g1 (by omega) (by omega) (by omega) (p.t p1) ⟨fun j j0 j1 => by rw [e1, rAI]; exact v.1 j j0 j1, v.2⟩
      rw [if_pos y, ← e1, lt_e, lt_e, i32_add]
      refine ⟨g', w1, w2, w3, by rw [w4, e1, rII, if_neg (by omega)], fun m m0 m1 => ?_⟩
      rw [w5 m m0 m1, e1, rII, if_pos ⟨rfl, rfl⟩, bt_or, bt_sh (by omega) (by omega) m0 m1, Bool.or_eq_true, beq_iff_eq]
      rw [Bool.and_eq_true, decide_eq_true_eq] at y
      constructor
      · rintro ((z | z) | ⟨z1, z2⟩)
        · exact Or.inl z
        · exact Or.inr ⟨by omega, by rw [z]; exact y⟩
        · exact Or.inr ⟨by omega, z2⟩
      · rintro (z | ⟨z1, z2⟩)
        · exact Or.inl (Or.inl z)
        · by_cases w : m = i
          · exact Or.inl (Or.inr w)
          · exact Or.inr ⟨by omega, z2⟩
    · obtain ⟨g', w1, w2, w3, w4, w5⟩ := ih n (i + 1) g (by omega) (by omega) (by omega) p v
      rw [if_neg y, lt_e, i32_add]
      refine ⟨g', w1, w2, w3, w4, fun m m0 m1 => ?_⟩
      rw [w5 m m0 m1]
      rw [Bool.and_eq_true, decide_eq_true_eq] at y
      constructor
      · rintro (z | ⟨z1, z2⟩)
        · exact Or.inl z
        · exact Or.inr ⟨by omega, z2⟩
      · rintro (z | ⟨z1, z2⟩)
        · exact Or.inl z
        · by_cases w : m = i
          · rw [w] at z2; exact absurd z2 y
          · exact Or.inr ⟨by omega, z2⟩
theorem clook12 {K : Nat → Option Nat → Option Nat → HP → Option HP} (C0 : CS h) : ∀ (k n : Nat) (i : Int) (g : HP), i + k = 24 → 0 ≤ i → k < n → So So9 h g → ∃ g', lX8_look_12 K n 109 (some a) (some b) (i32 i) g = K 109 (some a) (some b) g' ∧ So So9 h g' ∧ (∀ f, hI g' f 109 = hI g f 109) ∧ (∀ j, i ≤ j → j < 24 → hA g' 110 j.toNat = i32 (-2)) ∧ ∀ j : Nat, (j : Int) < i → hA g' 110 j = hA g 110 j := by
  intro k
  induction k with
  | zero =>
    intro n i g e i0 hn p
    obtain ⟨n, rfl⟩ : ∃ x, n = x + 1 := ⟨n - 1, by omega⟩
    rw [elX8_look_12]; unfold bX8_look_12
    rw [if_pos (by rw [i32_le (by omega) (by omega) (by omega) (by omega)]; omega)]
    exact ⟨g, rfl, p, fun _ => rfl, fun j _ _ => by omega, fun _ _ => rfl⟩
  | succ k ih =>
    intro n i g e i0 hn p
    obtain ⟨n, rfl⟩ : ∃ x, n = x + 1 := ⟨n - 1, by omega⟩
    have Cg := C0.sk p.1
    obtain ⟨g1, e1⟩ : ∃ g1, g1 = sA g 110 i.toNat (i32 (-2)) := ⟨_, rfl⟩
    have p1 : So So9 g g1 := by rw [e1]; exact So_A (S := So9) (Or.inr rfl) _ _
    obtain ⟨g', w1, w2, w3, w4, w5⟩ := ih n (i + 1) g1 (by omega) (by omega) (by omega) (p.t p1)
    rw [elX8_look_12]; unfold bX8_look_12
    rw [if_neg (by rw [i32_le (by omega) (by omega) (by omega) (by omega)]; omega), Cg.o_view, gd_tt, Cg.r_forces, oc_s, Cg.o_forces, gd_tt, Cg.n_forces, i32_inb i0 (by omega) (by omega), gd_tt, i32_cn i0 (by omega), ← e1, lt_e, lt_e, i32_add]
    refine ⟨g', w1, w2, fun f => by rw [w3, e1, rIA], fun j j0 j1 => ?_, fun j hj => ?_⟩
    · by_cases y : j = i
      · have := w5 i.toNat (by omega)
        rw [y, this, e1, rAA, if_pos ⟨rfl, rfl⟩]
      · exact w4 j (by omega) j1
    · rw [w5 j (by omega), e1, rAA, if_neg (fun z => by omega)]
/-- the class looks at a form with the answers of a sheet -/
theorem clook (r0 : FRx h a F np) (S0 : FormAt h a) (C0 : CS h) (q0 : AQ h b A) (hz : hsz h ≤ 900000) (ha : a + 36 ≤ 109 ∨ 111 ≤ a) (ha' : a + 36 ≤ 983) (hb : b + 2 ≤ 109 ∨ 111 ≤ b) : ∃ g φ, fX8_look 109 (some a) (some b) h = some g ∧ So So9 h g ∧ VW g φ ∧ SOL F (cns h F) A φ ∧ (∀ m, 0 ≤ m → m < 32 → (bt (hI g 512 109) m = true ↔ (F m ≠ -1 ∧ sho F (cnd φ (cns h F)) 9 m = true))) ∧ ∀ m, 0 ≤ m → m < 32 → (bt (hI g 513 109) m = true ↔ (m < 24 ∧ 0 ≤ φ m)) := by
  obtain ⟨g1, e1⟩ : ∃ g1, g1 = sI h 512 109 (i32 0) := ⟨_, rfl⟩
  obtain ⟨g2, e2⟩ : ∃ g2, g2 = sI g1 513 109 (i32 0) := ⟨_, rfl⟩
  have p1 : So So9 h g1 := by rw [e1]; exact So_I (S := So9) (Or.inl rfl) _ _
  have p2 : So So9 h g2 := p1.t (by rw [e2]; exact So_I (S := So9) (Or.inl rfl) _ _)
  obtain ⟨g3, a3, p3, i3, f3, _⟩ := clook12 (a := a) (b := b) (K := fun w4 w5 w6 h7 => lX8_look_37 (fun w8 w9 h10 => lX8_look_81 FU w8 w9 (i32 24) h10) FU w4 w5 w6 (i32 0) (i32 0) h7) C0 24 FU 0 g2 (by omega) (by omega) (by decide) p2
  have v3 : VW g3 (fun _ => -2) := ⟨fun f f0 f1 => f3 f f0 f1, fun f _ _ => (by decide : (-2 : Int) ≤ -2 ∧ (-2 : Int) ≤ 9999)⟩
  have i512 : hI g3 512 109 = i32 0 := by rw [i3, e2, rII, if_neg (by omega), e1, rII, if_pos ⟨rfl, rfl⟩]
  have i513 : hI g3 513 109 = i32 0 := by rw [i3, e2, rII, if_pos ⟨rfl, rfl⟩]
  have nz : ∀ f, ¬ bt (i32 0) f = true := fun f z => by rw [bt_0] at z; cases z
  have I3 : LKI g3 F A (fun _ => -2) (cns h F) (i32 0) 0 := by
    refine ⟨fun f _ _ z => absurd z (nz f), fun f _ _ => ⟨fun z => absurd z (nz f), fun _ => rfl⟩, fun f _ _ => ?_, fun f _ _ => ?_, fun f _ _ _ _ => (cb_rng _).1⟩
    · rw [i512]; exact ⟨fun z => absurd z (nz f), fun z => absurd z.1 (nz f)⟩
    · rw [i513]; exact ⟨fun z => absurd z (nz f), fun z => absurd z.1 (nz f)⟩
  obtain ⟨g4, φ, s, a4, p4, v4, I1, I2, I3', I4, I5⟩ := clook37 (K := fun w8 w9 h10 => lX8_look_81 FU w8 w9 (i32 24) h10) r0 S0 C0 q0 hz ha ha' hb 24 FU 0 (i32 0) g3 _ (by omega) (by omega) (by decide) p3 v3 I3
  obtain ⟨g5, a5, p5, v5, j5, b5⟩ := clook81 r0 S0 C0 hz ha ha' 8 FU 24 g4 (by omega) (by omega) (by decide) p4 v4
  have all : ∀ f, 0 ≤ f → f < 24 → F f ≠ -1 → bt s f = true := fun f f0 f1 fp => by
    cases z : bt s f with
    | true => rfl
    | false =>
      have u1 := I5 f f0 f1 fp z
      have u2 := cb_add f0 f1 z
      have u3 := cb_rng (s ||| (i32 1 <<< (i32 f &&& 31)))
      omega
  refine ⟨g5, φ, ?_, p5, v5, fun f f0 f1 => ⟨fun fp => (I2 f f0 f1).1 (all f f0 f1 fp), fun fp => (I2 f f0 f1).2 ?_⟩, fun m m0 m1 => ?_, fun m m0 m1 => ?_⟩
  · unfold fX8_look
    rw [C0.o_view, gd_tt, ← e1, lt_e, ← e2, lt_e]
    refine Eq.trans a3 (Eq.trans a4 a5)
  · cases z : bt s f with
    | false => rfl
    | true => exact absurd fp (I1 f f0 (by omega) z).2.1
  · rw [b5 m m0 m1, I3' m m0 m1]
    constructor
    · rintro (⟨z1, z2⟩ | ⟨z1, z2⟩)
      · exact ⟨(I1 m m0 m1 z1).2.1, z2⟩
      · exact z2
    · rintro ⟨z1, z2⟩
      by_cases c : m < 24
      · exact Or.inl ⟨all m m0 c z1, z2⟩
      · exact Or.inr ⟨by omega, z1, z2⟩
  · rw [j5, I4 m m0 m1]
    constructor
    · rintro ⟨z1, z2⟩; exact ⟨(I1 m m0 m1 z1).1, z2⟩
    · rintro ⟨z1, z2⟩
      refine ⟨all m m0 z1 (fun y => ?_), z2⟩
      have hb' : bt s m = false := by
        cases w : bt s m with
        | false => rfl
        | true => exact absurd y (I1 m m0 m1 w).2.1
      have := (I2 m m0 z1).2 hb'
      omega
end

