theorem orl_congr {N N' : Int → Int32} {s : Int32} (h : ∀ o, 0 ≤ o → o < 24 → N o = N' o) : ∀ (k : Nat) (i : Int) (c : Int32), 0 ≤ i → i + k ≤ 24 → orl N s k i c = orl N' s k i c := by
  intro k
  induction k with
  | zero => intro i c _ _; rfl
  | succ k ih =>
    intro i c i0 i1
    simp only [orl]
    rw [h i i0 (by omega), ih (i + 1) _ (by omega) (by omega)]
theorem ste_congr {N N' : Int → Int32} (h : ∀ o, 0 ≤ o → o < 24 → N o = N' o) (s : Int32) : ste N s = ste N' s := orl_congr h 24 0 s (by omega) (by omega)
theorem cl_congr {N N' : Int → Int32} (h : ∀ o, 0 ≤ o → o < 24 → N o = N' o) : ∀ (k : Nat) (s : Int32), cl N k s = cl N' k s := by
  intro k
  induction k with
  | zero => intro s; rfl
  | succ k ih =>
    intro s
    simp only [cl]
    rw [ste_congr h s, ih]
theorem rch_congr {N N' : Int → Int32} (h : ∀ o, 0 ≤ o → o < 24 → N o = N' o) {f : Int} (f0 : 0 ≤ f) (f1 : f < 24) : rch N f = rch N' f := by
  unfold rch
  rw [h f f0 f1, cl_congr h]
def N24 (g : HP) : Prop := (∀ j : Nat, 24 ≤ j → hA g 991 j = i32 0) ∧ ∀ j : Nat, j < 32 → isB (hA g 999 j) = true
theorem N24.e {g g' : HP} (n : N24 g) (e : hA g' 991 = hA g 991) (f : hA g' 999 = hA g 999) : N24 g' := ⟨fun j hj => by rw [e]; exact n.1 j hj, fun j hj => by rw [f]; exact n.2 j hj⟩
theorem N24.mo {g g' : HP} {l : List Nat} (n : N24 g) (p : Mo l g g') (c : l.contains 991 = false) (d : l.contains 999 = false) : N24 g' := n.e (p.A c) (p.A d)
theorem N24.w {g gg : HP} (n : N24 g) {f : Nat → Int32} (h : ∀ j, 24 ≤ j → f j = hA g 991 j) (e : hA gg 999 = hA g 999) : N24 (wA gg 991 f) := ⟨fun j hj => by rw [wA_A, h j hj]; exact n.1 j hj, fun j hj => by show isB ((if 999 = 991 then f else hA gg 999) j) = true; rw [if_neg (by decide), e]; exact n.2 j hj⟩
theorem N24.l {g g' : HP} (n : N24 g) (e : hA g' 991 = hA g 991) {S : Int → Bool} (f : ∀ m, 0 ≤ m → m < 32 → hA g' 999 m.toNat = bI (S m)) : N24 g' := ⟨fun j hj => by rw [e]; exact n.1 j hj, fun j hj => by have z := f (j : Int) (by omega) (by omega); rw [Int.toNat_natCast] at z; rw [z]; exact isB_bI _⟩
section
variable {n : Int} {F : Int → Int} {S : List TS} {LL : List Int} {was : Nat} {old : Int → Bool}
theorem EqT_finM {G : Int → Int} (E : EqT G F) (V : AV F) {x : Int} (x0 : 0 ≤ x) : fmk (finM G x) 24 0 (i32 0) = fmk (fin F x) 24 0 (i32 0) := fmk_congr 24 0 _ (fun j j0 j1 => by rw [← fin_M x0 j0, EqT_fin E V j0 (by omega)])
theorem mres147 {h : HP} (D : SetM (n := n) h F S LL was) (P : PLr h was F S LL S.length) (pn : ∀ x ∈ S, 0 ≤ fnm F x.1 ∧ fnm F x.1 < 24) : ∀ (k m i : Nat) (R : Int → Int32) (g : HP), i + k = S.length → k + 1 < m → Mo [991, 721, 706] h g → hI g 721 983 = i32 1 → (∀ j, 0 ≤ j → j < 24 → hA g 991 j.toNat = NE F R j) → N24 g → (∀ q, 0 ≤ q → q < 32 → F q ≠ -1 → lo24 (R q)) →
  (∀ e, pcirc F (S.drop i) R = some e → ∃ g', lX11_resolves_147 m 983 (i32 i) g = some g' ∧ Mo [991, 721, 706] h g' ∧ hI g' 721 983 = i32 0 ∧ hI g' 706 983 = i32 e ∧ N24 g') ∧
  (pcirc F (S.drop i) R = none → ∃ g', lX11_resolves_147 m 983 (i32 i) g = some g' ∧ Mo [991, 721, 706] h g' ∧ hI g' 721 983 = i32 1 ∧ hI g' 706 983 = hI g 706 983 ∧ N24 g') := by
  obtain ⟨M0, d1, d2, d3, d4, d5, d6, d7⟩ := D
  intro k
  induction k with
  | zero =>
    intro m i R g e hm p hf hN h24 lo
    obtain ⟨m, rfl⟩ : ∃ x, m = x + 1 := ⟨m - 1, by omega⟩
    have M := p.ms M0
    have el : S.drop i = [] := List.drop_eq_nil_of_le (by omega)
    have h726 : hI g 726 983 = i32 S.length := by rw [p.I (by decide)]; exact d1.1
    have step : lX11_resolves_147 (m + 1) 983 (i32 i) g = some g := by
      rw [elX11_resolves_147]; unfold bX11_resolves_147
      rw [M.o, gd_tt, h726, if_pos (by rw [i32_le (by omega) (by omega) (by omega) (by omega)]; omega)]
    rw [el]
    exact ⟨fun e h => (by cases h), fun _ => ⟨g, step, p, hf, rfl, h24⟩⟩
  | succ k ih =>
    intro m i R g e hm p hf hN h24 lo
    obtain ⟨m, rfl⟩ : ∃ x, m = x + 1 := ⟨m - 1, by omega⟩
    have M := p.ms M0
    have hi : i < S.length := by omega
    obtain ⟨x, hx⟩ : ∃ x, S[i]? = some x := ⟨_, List.getElem?_eq_getElem hi⟩
    have h726 : hI g 726 983 = i32 S.length := by rw [p.I (by decide)]; exact d1.1
    have sd := d1.2 i x hx
    have En : Enn (Wm g) F := by
      have := Mo_Fm p (by decide) 0
      rw [Fm0, Fm0] at this
      rw [this]; exact d2
    obtain ⟨w1, w2, w3, w4, w5⟩ := d7 i x hx
    unfold tsOk at w2
    have c := pn x (List.mem_of_getElem? hx)
    have V := d3.av
    have E := En.T d3.ov
    obtain ⟨q, hq⟩ := List.getElem?_of_mem w1
    have hq1 := (List.getElem?_eq_some_iff.mp hq).1
    have pl := P q _ hq
    rw [if_pos (by omega), show (4 + (i : Int) - 4).toNat = i by omega] at pl
    obtain ⟨y, y1, y2, y3⟩ := pl
    rw [hx] at y1; cases y1
    rw [if_pos hi] at y2
    have loN := NE_lo d3.tv d3.ce lo
    have k2 : ∀ f, lo24 (Nm g f) := by
      intro f
      unfold Nm
      by_cases z : f.toNat < 24
      · have := hN (f.toNat : Int) (by omega) (by omega)
        rw [Int.toNat_natCast] at this
        rw [this]; exact loN _
      · rw [h24.1 f.toNat (by omega)]
        intro i' _ _; exact bt_0 i'
    have ci := circles_s M k2 (x := x.2.2.1) (f := fnm F x.1) (by omega) (by omega) c.1 c.2 (by rw [Fm0]; exact EqT_AV E V) (by rw [Fm0]; exact EqT_CE E V d3.ce)
    have er : rch (Nm g) (fnm F x.1) = rch (NE F R) (fnm F x.1) := rch_congr (fun o o0 o1 => by unfold Nm; exact hN o o0 o1) c.1 c.2
    rw [Fm0, EqT_finM E V w3, er] at ci
    have ci' : fX11_circles 983 (i32 x.2.2.1) (i32 (fnm F x.1)) g = some (decide (fmk (fin F x.2.2.1) 24 0 (i32 0) &&& rch (NE F R) (fnm F x.1) ≠ i32 0)) := by
      rw [ci]
      have : rch (NE F R) (fnm F x.1) &&& fmk (fin F x.2.2.1) 24 0 (i32 0) = fmk (fin F x.2.2.1) 24 0 (i32 0) &&& rch (NE F R) (fnm F x.1) := bt_ext (fun a a0 a1 => by rw [bt_and, bt_and, Bool.and_comm])
      rw [this]
    have ff : fX11_fieldOf (i32 (tcd (fnm F x.1) x.2.2.2.1 x.2.2.2.2)) g = some (i32 (fnm F x.1)) := by
      have := tF_c c.1 (show fnm F x.1 < 32 by omega) w2.2.2.2.2.1 w2.2.2.2.2.2.1 w2.2.2.2.2.2.2.1 w2.2.2.2.2.2.2.2
      unfold tF at this
      unfold fX11_fieldOf
      rw [this]
    -- the needs with this test
    have nd : ∀ gg : HP, Mo [991, 721, 706] g gg → hA gg 991 = hA g 991 → fX11_needed 983 (i32 x.2.2.1) ((i32 1) <<< (i32 (fnm F x.1) &&& 31)) gg = some (wA gg 991 (upN (Wm gg) x.2.2.1 (sng (fnm F x.1)) 0 (hA g 991))) ∧ Wm gg = Wm g := by
      intro gg pg eg
      have eW : Wm gg = Wm g := by
        have := Mo_Fm pg (by decide) 0
        rw [Fm0, Fm0] at this; exact this
      have := needed_s (pg.ms M) (x := x.2.2.1) (s := sng (fnm F x.1)) (by omega) (by omega) (by rw [Fm0, eW]; exact EqT_AV E V) (by rw [Fm0, eW]; exact EqT_CE E V d3.ce) (hA gg 991)
      rw [wA_self, Fm0, eg] at this
      exact ⟨this, eW⟩
    have j206 : ∀ gg : HP, Mo [991, 721, 706] g gg → hA gg 991 = hA g 991 → jX11_resolves_206 (fun v0 v1 h => lX11_resolves_147 m v0 v1 h) 983 (i32 i) (i32 (fnm F x.1)) gg = lX11_resolves_147 m 983 (i32 ((i + 1 : Nat) : Int)) (wA gg 991 (upN (Wm g) x.2.2.1 (sng (fnm F x.1)) 0 (hA g 991))) := by
      intro gg pg eg
      obtain ⟨n1, n2⟩ := nd gg pg eg
      have Mg := pg.ms M
      have sdn : hA gg 994 i = i32 x.2.2.1 := by rw [pg.A (by decide), p.A (by decide)]; exact sd.2.2
      unfold jX11_resolves_206
      rw [Mg.o, gd_tt, Mg.r_saidNode, oc_s, Mg.o_saidNode, gd_tt, Mg.n_saidNode, i32_inb (by omega) (by omega) (by omega), gd_tt, i32_cn (by omega) (by omega), Int.toNat_natCast, sdn, n1, bn_s, i32_add, lt_e, n2]
      rfl
    have pre : lX11_resolves_147 (m + 1) 983 (i32 i) g = if decide (fmk (fin F x.2.2.1) 24 0 (i32 0) &&& rch (NE F R) (fnm F x.1) ≠ i32 0) = true then jX11_resolves_206 (fun v0 v1 h => lX11_resolves_147 m v0 v1 h) 983 (i32 i) (i32 (fnm F x.1)) (sI (sI g 721 983 (i32 0)) 706 983 (i32 x.2.1)) else jX11_resolves_206 (fun v0 v1 h => lX11_resolves_147 m v0 v1 h) 983 (i32 i) (i32 (fnm F x.1)) g := by
      have M1 : MS (sI g 721 983 (i32 0)) := M.sk (sk_sI rfl)
      have sda : hA (sI g 721 983 (i32 0)) 993 i = i32 x.2.1 := by rw [rAI, p.A (by decide)]; exact sd.2.1
      have sdn : hA g 994 i = i32 x.2.2.1 := by rw [p.A (by decide)]; exact sd.2.2
      have s995 : hA g 995 i = i32 ((was + q : Nat) : Int) := by rw [p.A (by decide)]; exact y3
      have s990 : hA g 990 (was + q) = i32 (tcd (fnm F x.1) x.2.2.2.1 x.2.2.2.2) := by rw [p.A (by decide)]; exact y2
      rw [elX11_resolves_147]; unfold bX11_resolves_147
      rw [M.o, gd_tt, h726, if_neg (by rw [i32_le (by omega) (by omega) (by omega) (by omega)]; omega), hf, i32_z, if_neg i32_1n0, M.r_saidIn, oc_s, M.o_saidIn, gd_tt, M.n_saidIn, i32_inb (by omega) (by omega) (by omega), gd_tt, M.r_pool, oc_s, M.o_pool, gd_tt, M.n_pool, i32_cn (by omega) (by omega), Int.toNat_natCast, s995, i32_inb (by omega) (by omega) (by omega), gd_tt, i32_cn (by omega) (by omega), Int.toNat_natCast, s990, ff, bn_s, M.r_saidNode, oc_s, M.o_saidNode, gd_tt, M.n_saidNode, i32_inb (by omega) (by omega) (by omega), gd_tt, sdn, ci', bn_s, lt_e, M1.r_saidAt, oc_s, M1.o_saidAt, gd_tt, M1.n_saidAt, i32_inb (by omega) (by omega) (by omega), gd_tt, sda, lt_e]
    rw [drop_cons hx, pre]
    simp only [pcirc]
    have h24' : ∀ gg : HP, hA gg 999 = hA g 999 → N24 (wA gg 991 (upN (Wm g) x.2.2.1 (sng (fnm F x.1)) 0 (hA g 991))) := fun gg eg => h24.w (fun j hj => by
      unfold upN
      rw [if_neg (by omega)]) eg
    by_cases cc : fmk (fin F x.2.2.1) 24 0 (i32 0) &&& rch (NE F R) (fnm F x.1) ≠ i32 0
    · rw [if_pos (decide_eq_true cc)]
      have pg : Mo [991, 721, 706] g (sI (sI g 721 983 (i32 0)) 706 983 (i32 x.2.1)) := (Mo_I (by decide) _).t (Mo_I (by decide) _)
      rw [j206 _ pg rfl]
      obtain ⟨g2, e2⟩ : ∃ g2, g2 = wA (sI (sI g 721 983 (i32 0)) 706 983 (i32 x.2.1)) 991 (upN (Wm g) x.2.2.1 (sng (fnm F x.1)) 0 (hA g 991)) := ⟨_, rfl⟩
      have p2 : Mo [991, 721, 706] h g2 := by rw [e2]; exact (p.t pg).t (Mo_wA (by decide) _)
      have z2 : hI g2 721 983 = i32 0 := by rw [e2, wA_I, rII, if_neg (by omega), rII, if_pos ⟨rfl, rfl⟩]
      have z3 : hI g2 706 983 = i32 x.2.1 := by rw [e2, wA_I, rII, if_pos ⟨rfl, rfl⟩]
      have n2 : N24 g2 := by rw [e2]; exact h24' _ (by rw [rAI, rAI])
      rw [← e2, if_pos cc]
      obtain ⟨m, rfl⟩ : ∃ x, m = x + 1 := ⟨m - 1, by omega⟩
      have M2 := p2.ms M0
      have ex : lX11_resolves_147 (m + 1) 983 (i32 ((i + 1 : Nat) : Int)) g2 = some g2 := by
        rw [elX11_resolves_147]; unfold bX11_resolves_147
        rw [M2.o, gd_tt]
        by_cases c3 : hI g2 726 983 ≤ i32 ((i + 1 : Nat) : Int)
        · rw [if_pos c3]
        · rw [if_neg c3, z2, i32_z, if_pos rfl]
      exact ⟨fun e he => (by cases he; exact ⟨g2, ex, p2, z2, z3, n2⟩), fun he => by cases he⟩
    · rw [if_neg cc, if_neg (by rw [decide_eq_true_eq]; exact cc), j206 g Mo.r rfl]
      obtain ⟨g2, e2⟩ : ∃ g2, g2 = wA g 991 (upN (Wm g) x.2.2.1 (sng (fnm F x.1)) 0 (hA g 991)) := ⟨_, rfl⟩
      have p2 : Mo [991, 721, 706] h g2 := by rw [e2]; exact p.t (Mo_wA (by decide) _)
      rw [← e2]
      obtain ⟨r1, r2⟩ := ih m (i + 1) (addR R x.2.2.1 (fnm F x.1)) g2 (by omega) (by omega) p2 (by rw [e2, wA_I]; exact hf) (by
        intro j j0 j1
        rw [e2, wA_A]
        apply bt_ext
        intro a a0 a1
        rw [Bool.eq_iff_iff, NE_add d3.tv d3.ce w3 w4 c.1 c.2 j0 j1 a0 a1, fin_M w3 j0]
        have ej : ((j.toNat : Nat) : Int) = j := by omega
        unfold upN finM
        rw [ej, En j j0, decide_eq_true_eq]
        have ei : isin (Wm g) 9 j x.2.2.1 = isin F 9 j x.2.2.1 := EqT_isin E V 9 j (by omega)
        rw [ei]
        by_cases cn : F j ≠ -1 ∧ isin F 9 j x.2.2.1 = true
        · rw [if_pos ⟨j0, j1, cn.1, cn.2⟩, bt_or, Bool.or_eq_true, hN j j0 j1, sng_bt c.1 c.2 a0 a1]
          constructor
          · rintro (z | z)
            · exact Or.inl z
            · exact Or.inr ⟨cn, by simpa using z⟩
          · rintro (z | ⟨_, z⟩)
            · exact Or.inl z
            · exact Or.inr (by rw [z]; simp)
        · rw [if_neg (fun z => cn ⟨z.2.2.1, z.2.2.2⟩), hN j j0 j1]
          constructor
          · exact Or.inl
          · rintro (z | ⟨z, _⟩)
            · exact z
            · exact absurd z cn) (by rw [e2]; exact h24' _ rfl) (fun q q0 q1 qp => addR_lo c.1 c.2 (lo q q0 q1 qp))
      refine ⟨r1, fun he => ?_⟩
      obtain ⟨g', z1, z2, z3, z4, z5⟩ := r2 he
      exact ⟨g', z1, z2, z3, by rw [z4, e2, wA_I], z5⟩
end
