/-! LOAD: the model makes the new world -/
section
variable {g : HP} {np : Nat}
theorem mpackA {K : Nat → Int32 → HP → Option HP} {tot : Nat} (ht : tot ≤ 12000) : ∀ (d m i : Nat) (f : HP), i + d = tot → np ≤ i → d < m → MS f → hI f 714 983 = i32 tot → ∃ g, lX11_packs_2 K m 983 (i32 (np : Int)) (i32 (i : Int)) f = K 983 (i32 (np : Int)) g ∧ Mo [990] f g ∧ (∀ q, i ≤ q → q < tot → hA g 990 (q - np) = hA f 990 q) ∧ ∀ q, q < i - np → hA g 990 q = hA f 990 q := by
  intro d
  induction d with
  | zero =>
    intro m i f hi h1 hm M e
    obtain ⟨m, rfl⟩ : ∃ x, m = x + 1 := ⟨m - 1, by omega⟩
    refine ⟨f, ?_, Mo.r, fun q q0 q1 => by omega, fun q _ => rfl⟩
    rw [elX11_packs_2]; unfold bX11_packs_2
    rw [M.o, gd_tt, e, if_pos (by rw [i32_le (by omega) (by omega) (by omega) (by omega)]; omega)]
  | succ d ih =>
    intro m i f hi h1 hm M e
    obtain ⟨m, rfl⟩ : ∃ x, m = x + 1 := ⟨m - 1, by omega⟩
    obtain ⟨f1, e1⟩ : ∃ f1, f1 = sA f 990 (i - np) (hA f 990 i) := ⟨_, rfl⟩
    have p1 : Mo [990] f f1 := by rw [e1]; exact Mo_A (by decide) _ _
    have r1 : ∀ q, hA f1 990 q = if q = i - np then hA f 990 i else hA f 990 q := fun q => by
      rw [e1, rAA]
      by_cases y : q = i - np
      · rw [if_pos ⟨rfl, y⟩, if_pos y]
      · rw [if_neg (fun z => y z.2), if_neg y]
    obtain ⟨g, a1, a2, a3, a4⟩ := ih m (i + 1) f1 (by omega) (by omega) (by omega) (p1.ms M) (by rw [p1.I (by decide)]; exact e)
    refine ⟨g, ?_, p1.t a2, fun q q0 q1 => ?_, fun q hq => ?_⟩
    · rw [elX11_packs_2]; unfold bX11_packs_2
      rw [M.o, gd_tt, e, if_neg (by rw [i32_le (by omega) (by omega) (by omega) (by omega)]; omega), M.r_pool, oc_s, M.o_pool, gd_tt, M.n_pool, i32_inb (by omega) (by omega) (by omega), gd_tt, i32_sub, i32_inb (by omega) (by omega) (by omega), gd_tt, i32_cn (by omega) (by omega), i32_cn (by omega) (by omega), show ((i : Int) - (np : Int)).toNat = i - np by omega, show ((i : Int)).toNat = i from rfl, ← e1, lt_e, lt_e, i32_add]
      exact a1
    · by_cases y : q = i
      · rw [y, a4 _ (by omega), r1, if_pos rfl]
      · rw [a3 q (by omega) q1, r1]
        by_cases y2 : q = i - np
        · rw [if_pos y2]; congr 1; omega
        · rw [if_neg y2]
    · rw [a4 q (by omega), r1, if_neg (by omega)]
theorem mpackW : ∀ (d m v : Nat) (f : HP), v + d = 32 → d < m → MS f → (np : Int) ≤ 12000 → ∃ g, lX11_packs_42 m 983 (i32 (np : Int)) (i32 (v : Int)) f = some g ∧ Mo [987] f g ∧ (∀ q : Int, v ≤ q → q < 32 → (-100000 ≤ Wm f (192 + q) ∧ Wm f (192 + q) ≤ 100000) → Wm g (192 + q) = Wm f (192 + q) - if Wm f (224 + q) ≤ 0 then 0 else (np : Int)) ∧ ∀ q : Int, 0 ≤ q → (q < 192 + v ∨ 224 ≤ q) → Wm g q = Wm f q := by
  intro d
  induction d with
  | zero =>
    intro m v f hv hm M hn
    obtain ⟨m, rfl⟩ : ∃ x, m = x + 1 := ⟨m - 1, by omega⟩
    refine ⟨f, ?_, Mo.r, fun q q0 q1 => by omega, fun q _ _ => rfl⟩
    rw [elX11_packs_42]; unfold bX11_packs_42
    rw [if_pos (by rw [i32_le (by omega) (by omega) (by omega) (by omega)]; omega)]
  | succ d ih =>
    intro m v f hv hm M hn
    obtain ⟨m, rfl⟩ : ∃ x, m = x + 1 := ⟨m - 1, by omega⟩
    obtain ⟨s, es⟩ : ∃ s : Int, s = if Wm f (224 + (v : Int)) ≤ 0 then 0 else (np : Int) := ⟨_, rfl⟩
    have sr : 0 ≤ s ∧ s ≤ 12000 := by
      rw [es]
      by_cases y : Wm f (224 + (v : Int)) ≤ 0
      · rw [if_pos y]; omega
      · rw [if_neg y]; omega
    obtain ⟨f1, e1⟩ : ∃ f1, f1 = sL f 987 (192 + v) (i64 (Wm f (192 + (v : Int)) - s)) := ⟨_, rfl⟩
    have p1 : Mo [987] f f1 := by rw [e1]; exact Mo_L (by decide) _ _
    have r1 : ∀ q : Int, 0 ≤ q → q ≠ 192 + v → Wm f1 q = Wm f q := fun q q0 y => by
      rw [e1, Wm_set, if_neg (by omega)]
    obtain ⟨g, a1, a2, a3, a4⟩ := ih m (v + 1) f1 (by omega) (by omega) (p1.ms M) hn
    refine ⟨g, ?_, p1.t a2, fun q q0 q1 qb => ?_, fun q q0 q1 => ?_⟩
    · have w1 : hL f 987 (192 + v) = i64 (Wm f (192 + (v : Int))) := by
        have := Wm_e f (192 + (v : Int))
        rwa [show (192 + (v : Int)).toNat = 192 + v by omega] at this
      have w2 : hL f 987 (224 + v) = i64 (Wm f (224 + (v : Int))) := by
        have := Wm_e f (224 + (v : Int))
        rwa [show (224 + (v : Int)).toNat = 224 + v by omega] at this
      have rg : -9223372036854775808 ≤ Wm f (224 + (v : Int)) ∧ Wm f (224 + (v : Int)) < 9223372036854775808 := by
        unfold Wm
        exact ⟨Int64.le_toInt _, Int64.toInt_lt _⟩
      have j : ∀ s0 : Int64, s0 = i64 s → jX11_packs_80 (fun v0 v1 v2 h => lX11_packs_42 m v0 v1 v2 h) 983 (i32 (np : Int)) (i32 (v : Int)) s0 (i64 (Wm f (192 + (v : Int)))) (i32 (192 + (v : Int))) (some 987) f = some g := fun s0 hs => by
        unfold jX11_packs_80
        rw [oc_s, M.o_world, gd_tt, M.n_world, i32_inb (by omega) (by omega) (by omega), gd_tt, i32_cn (by omega) (by omega), show (192 + (v : Int)).toNat = 192 + v by omega, hs, show i64 (Wm f (192 + (v : Int))) - i64 s = i64 (Wm f (192 + (v : Int)) - s) from (Int64.ofInt_sub _ _).symm, ← e1, lt_e, lt_e, i32_add]
        exact a1
      rw [elX11_packs_42]; unfold bX11_packs_42
      rw [if_neg (by rw [i32_le (by omega) (by omega) (by omega) (by omega)]; omega), M.o, gd_tt, lt_e, lt_e, M.r_world, oc_s, M.o_world, gd_tt, M.n_world, i32_add, i32_inb (by omega) (by omega) (by omega), gd_tt, oc_s, M.o_world, gd_tt, M.n_world, i32_add, i32_inb (by omega) (by omega) (by omega), gd_tt, i32_cn (by omega) (by omega), i32_cn (by omega) (by omega), show (224 + (v : Int)).toNat = 224 + v by omega, show (192 + (v : Int)).toNat = 192 + v by omega, w1, w2]
      have le : (i64 (Wm f (224 + (v : Int))) ≤ i64 0) = (Wm f (224 + (v : Int)) ≤ 0) := by
        rw [Int64.le_iff_toInt_le, i64_toInt rg.1 rg.2, i64_toInt (by omega) (by omega)]
      by_cases y : Wm f (224 + (v : Int)) ≤ 0
      · rw [if_pos (by rw [le]; exact y)]
        exact j _ (by rw [es, if_pos y])
      · rw [if_neg (by rw [le]; exact y), i32_64 (by omega) (by omega)]
        exact j _ (by rw [es, if_neg y])
    · by_cases y : q = v
      · rw [y] at qb
        rw [y, a4 _ (by omega) (by omega), e1, Wm_set, if_pos (by omega), i64_toInt (by omega) (by omega), es]
      · have u1 := r1 (192 + q) (by omega) (by omega)
        have u2 := r1 (224 + q) (by omega) (by omega)
        rw [a3 q (by omega) q1 (by rw [u1]; exact qb), u1, u2]
    · rw [a4 q q0 (by omega), r1 q q0 (by omega)]
theorem msz {K : Nat → Int32 → HP → Option (Int32 × HP)} {v1 : Int32} : ∀ (d m i : Nat) (f : HP), i + d = 3 → d < m → MS f → ∃ g, lX11_load_142 K m 983 v1 (i32 (i : Int)) f = K 983 v1 g ∧ Mo [985] f g ∧ (∀ q, i ≤ q → q < 3 → hA g 985 q = hA f 986 q) ∧ ∀ q, q < i → hA g 985 q = hA f 985 q := by
  intro d
  induction d with
  | zero =>
    intro m i f hi hm M
    obtain ⟨m, rfl⟩ : ∃ x, m = x + 1 := ⟨m - 1, by omega⟩
    refine ⟨f, ?_, Mo.r, fun q q0 q1 => by omega, fun q _ => rfl⟩
    rw [elX11_load_142]; unfold bX11_load_142
    rw [if_pos (by rw [i32_le (by omega) (by omega) (by omega) (by omega)]; omega)]
  | succ d ih =>
    intro m i f hi hm M
    obtain ⟨m, rfl⟩ : ∃ x, m = x + 1 := ⟨m - 1, by omega⟩
    obtain ⟨f1, e1⟩ : ∃ f1, f1 = sA f 985 i (hA f 986 i) := ⟨_, rfl⟩
    have p1 : Mo [985] f f1 := by rw [e1]; exact Mo_A (by decide) _ _
    have r1 : ∀ q, hA f1 985 q = if q = i then hA f 986 i else hA f 985 q := fun q => by
      rw [e1, rAA]
      by_cases y : q = i
      · rw [if_pos ⟨rfl, y⟩, if_pos y]
      · rw [if_neg (fun z => y z.2), if_neg y]
    obtain ⟨g, a1, a2, a3, a4⟩ := ih m (i + 1) f1 (by omega) (by omega) (p1.ms M)
    refine ⟨g, ?_, p1.t a2, fun q q0 q1 => ?_, fun q hq => ?_⟩
    · rw [elX11_load_142]; unfold bX11_load_142
      rw [if_neg (by rw [i32_le (by omega) (by omega) (by omega) (by omega)]; omega), M.o, gd_tt, M.r_readSizes, oc_s, M.o_readSizes, gd_tt, M.n_readSizes, i32_inb (by omega) (by omega) (by omega), gd_tt, M.r_sizes, oc_s, M.o_sizes, gd_tt, M.n_sizes, i32_inb (by omega) (by omega) (by omega), gd_tt, i32_cn (by omega) (by omega), show ((i : Int)).toNat = i from rfl, ← e1, lt_e, lt_e, i32_add]
      exact a1
    · by_cases y : q = i
      · rw [y, a4 _ (by omega), r1, if_pos rfl]
      · rw [a3 q (by omega) q1, p1.A (by decide)]
    · rw [a4 q (by omega), r1, if_neg (by omega)]
theorem mclr {K : Nat → Int32 → HP → Option (Int32 × HP)} {v1 : Int32} {B : Nat} (hB : B = 2880) : ∀ (d m i : Nat) (f : HP), i + d = B → d < m → MS f → ∃ g, lX11_load_169 K m 983 v1 (i32 (i : Int)) f = K 983 v1 g ∧ Mo [987] f g ∧ (∀ q, i ≤ q → q < B → hL g 987 q = i64 0) ∧ ∀ q, q < i → hL g 987 q = hL f 987 q := by
  intro d
  induction d with
  | zero =>
    intro m i f hi hm M
    obtain ⟨m, rfl⟩ : ∃ x, m = x + 1 := ⟨m - 1, by omega⟩
    refine ⟨f, ?_, Mo.r, fun q q0 q1 => by omega, fun q _ => rfl⟩
    rw [elX11_load_169]; unfold bX11_load_169
    rw [if_pos (by rw [i32_le (by omega) (by omega) (by omega) (by omega)]; omega)]
  | succ d ih =>
    intro m i f hi hm M
    obtain ⟨m, rfl⟩ : ∃ x, m = x + 1 := ⟨m - 1, by omega⟩
    obtain ⟨f1, e1⟩ : ∃ f1, f1 = sL f 987 i (i64 0) := ⟨_, rfl⟩
    have p1 : Mo [987] f f1 := by rw [e1]; exact Mo_L (by decide) _ _
    have r1 : ∀ q, hL f1 987 q = if q = i then i64 0 else hL f 987 q := fun q => by
      rw [e1, rLL]
      by_cases y : q = i
      · rw [if_pos ⟨rfl, y⟩, if_pos y]
      · rw [if_neg (fun z => y z.2), if_neg y]
    obtain ⟨g, a1, a2, a3, a4⟩ := ih m (i + 1) f1 (by omega) (by omega) (p1.ms M)
    refine ⟨g, ?_, p1.t a2, fun q q0 q1 => ?_, fun q hq => ?_⟩
    · rw [elX11_load_169]; unfold bX11_load_169
      rw [if_neg (by rw [i32_le (by omega) (by omega) (by omega) (by omega)]; omega), M.o, gd_tt, M.r_world, oc_s, M.o_world, gd_tt, M.n_world, i32_inb (by omega) (by omega) (by omega), gd_tt, i32_cn (by omega) (by omega), show ((i : Int)).toNat = i from rfl, ← e1, lt_e, lt_e, i32_add]
      exact a1
    · by_cases y : q = i
      · rw [y, a4 _ (by omega), r1, if_pos rfl]
      · exact a3 q (by omega) q1
    · rw [a4 q (by omega), r1, if_neg (by omega)]
/-- a form whose stretches are packed -/
def Pkd (F G : Int → Int) (np : Nat) : Prop := (∀ q, 0 ≤ q → (q < 192 ∨ (224 ≤ q ∧ q < 292)) → G q = F q) ∧ ∀ m, 0 ≤ m → m < 32 → F m ≠ -1 → G (192 + m) = F (192 + m) - (if F (224 + m) ≤ 0 then 0 else (np : Int))
theorem FWf_pk {F G : Int → Int} {C : Int → List Int32} {ln : Nat} (w : FWf F C (np + ln)) (z : SGZ F) (c : ∀ m, 0 ≤ m → m < 32 → F m ≠ -1 → 0 < F (224 + m) → (np : Int) ≤ F (192 + m)) (pk : Pkd F G np) : FWf G C ln := by
  obtain ⟨⟨tr, nm, de, gv⟩, kd, tk, ac, sg⟩ := w
  obtain ⟨lo, hi⟩ := pk
  have E : EqT G F := ⟨fun n a b => lo n a (by omega), lo 288 (by omega) (by omega), fun i i0 i1 => lo (256 + i) (by omega) (by have := tr.ov.2.1; omega)⟩
  have en : ∀ n, 0 ≤ n → n < 32 → F n ≠ -1 → G n = F n := fun n a b _ => lo n a (by omega)
  refine ⟨⟨TR_E E tr, ⟨fun n a b c => ?_, fun n m a b a' b' c c' x => ?_⟩, fun n a b c => ?_, ?_⟩, fun n a b c => ?_, fun n a b c t ht => ?_, ?_, fun m a b d => ?_⟩
  · rw [lo n a (by omega)] at c; rw [lo (32 + n) (by omega) (by omega)]; exact nm.1 n a b c
  · rw [lo n a (by omega)] at c
    rw [lo m a' (by omega)] at c'
    rw [lo (32 + n) (by omega) (by omega), lo (32 + m) (by omega) (by omega)] at x
    exact nm.2 n m a b a' b' c c' x
  · rw [lo n a (by omega)] at c ⊢
    have th := thr_par tr.tv a b c
    obtain ⟨u1, u2⟩ := de n a b c
    exact ⟨ends_congr tr.tv en 4 _ th u1, fun h => ends_congr tr.tv en 3 _ th (u2 h)⟩
  · obtain ⟨u1, u2, u3, u4, u5, u6⟩ := gv
    refine ⟨by rw [lo 289 (by omega) (by omega)]; exact u1, by rw [lo 289 (by omega) (by omega)]; exact u2, by rw [lo 290 (by omega) (by omega)]; exact u3, by rw [lo 290 (by omega) (by omega)]; exact u4, by rw [lo 288 (by omega) (by omega), lo 289 (by omega) (by omega), lo 290 (by omega) (by omega)]; exact u5, fun n a b c => ?_⟩
    rw [lo n a (by omega)] at c
    rw [lo 289 (by omega) (by omega), lo 290 (by omega) (by omega)]
    exact u6 n a b c
  · rw [lo n a (by omega)] at c
    unfold kdOk
    rw [lo (64 + n) (by omega) (by omega), lo (96 + n) (by omega) (by omega), lo (128 + n) (by omega) (by omega), lo (160 + n) (by omega) (by omega)]
    exact kd n a b c
  · rw [lo n a (by omega)] at c
    rcases tk n a b c t ht with ⟨f, s, v, f0, f1, f2, r⟩ | h
    · exact Or.inl ⟨f, s, v, f0, f1, by rw [lo f f0 (by omega)]; exact f2, r⟩
    · exact Or.inr h
  · rw [EqT_NE E tr.av (R := fun n => RlL (C n)) (S := fun n => RlL (C n)) (fun _ _ _ _ => rfl) tr.tv]
    exact ac
  · rw [lo m a (by omega)] at d
    have s := sg m a b d
    have zz := z m a b d
    rw [lo (224 + m) (by omega) (by omega), hi m a b d]
    by_cases y : F (224 + m) ≤ 0
    · rw [if_pos y]
      have := zz (by omega)
      omega
    · rw [if_neg y]
      have := c m a b d (by omega)
      omega
theorem FRc_pk {h : HP} {a : Nat} {F G : Int → Int} {C : Int → List Int32} (r : FRc h a F C) (m32 : F 288 ≤ 32) (pk : Pkd F G np) : FRc h a G C := by
  obtain ⟨lo, _⟩ := pk
  obtain ⟨⟨r3, r4, r5, ro, rn⟩, rc⟩ := r
  refine ⟨⟨by rw [lo 289 (by omega) (by omega)]; exact r3, by rw [lo 290 (by omega) (by omega)]; exact r4, by rw [lo 288 (by omega) (by omega)]; exact r5, fun i i0 i1 => ?_, fun m m0 m1 => ?_⟩, fun m m0 m1 mp => ?_⟩
  · rw [lo 288 (by omega) (by omega)] at i1
    rw [lo (256 + i) (by omega) (by omega)]; exact ro i i0 i1
  · unfold NDc
    rw [lo m m0 (by omega), lo (32 + m) (by omega) (by omega), lo (64 + m) (by omega) (by omega), lo (96 + m) (by omega) (by omega), lo (128 + m) (by omega) (by omega), lo (160 + m) (by omega) (by omega)]
    exact rn m m0 m1
  · rw [lo m m0 (by omega)] at mp
    exact rc m m0 m1 mp
/-- the stretches, packed -/
theorem sgm_pk {P P' : Int → Int32} {F G : Int → Int} {ln : Nat} {m : Int} (m0 : 0 ≤ m) (m1 : m < 32) (mp : F m ≠ -1) (pk : Pkd F G np) (h : ∀ q : Int, (np : Int) ≤ q → q < np + ln → P' (q - np) = P q) (s : 0 < F (224 + m) → (np : Int) ≤ F (192 + m) ∧ F (192 + m) + F (224 + m) ≤ np + ln) : sgm P' G m = sgm P F m := by
  unfold sgm
  rw [pk.1 (224 + m) (by omega) (by omega), pk.2 m m0 m1 mp]
  by_cases y : F (224 + m) ≤ 0
  · rw [show (F (224 + m)).toNat = 0 by omega]; rfl
  · rw [if_neg y]
    apply List.map_congr_left
    intro i hi
    rw [List.mem_range] at hi
    obtain ⟨s1, s2⟩ := s (by omega)
    rw [show F (192 + m) - (np : Int) + (i : Int) = F (192 + m) + i - np by omega]
    exact h _ (by omega) (by omega)
end

