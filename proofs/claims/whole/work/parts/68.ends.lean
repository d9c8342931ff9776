/-! THE MODEL STARTS A TEXT, SWAPS, TAKES BACK -/
section
variable {g : HP} {b : Int → Int} {n : Int}
theorem mcpyL {K : Nat → HP → Option HP} : ∀ (d m v : Nat) (f : HP), v + d = 292 → d < m → MS f → ∃ g, lX11_startsText_2 K m 983 (i32 (v : Int)) f = K 983 g ∧ Mo [988] f g ∧ (∀ i, v ≤ i → i < 292 → hL g 988 i = hL f 987 i) ∧ ∀ i, i < v → hL g 988 i = hL f 988 i := by
  intro d
  induction d with
  | zero =>
    intro n v f hv hn M
    obtain ⟨m, rfl⟩ : ∃ m, n = m + 1 := ⟨n - 1, by omega⟩
    refine ⟨f, ?_, Mo.r, fun i _ _ => (by omega), fun i _ => rfl⟩
    rw [elX11_startsText_2]; unfold bX11_startsText_2
    rw [if_pos (by rw [i32_le (by omega) (by omega) (by omega) (by omega)]; omega)]
  | succ d ih =>
    intro n v f hv hn M
    obtain ⟨m, rfl⟩ : ∃ m, n = m + 1 := ⟨n - 1, by omega⟩
    obtain ⟨f1, e1⟩ : ∃ f1, f1 = sL f 988 v (hL f 987 v) := ⟨_, rfl⟩
    have p1 : Mo [988] f f1 := by rw [e1]; exact Mo_L (by decide) _ _
    obtain ⟨g, a1, a2, a3, a4⟩ := ih m (v + 1) f1 (by omega) (by omega) (p1.ms M)
    have r1 : ∀ x i, hL f1 x i = if x = 988 ∧ i = v then hL f 987 v else hL f x i := fun x i => by rw [e1, rLL]
    refine ⟨g, ?_, p1.t a2, fun i i0 i1 => ?_, fun i hi => ?_⟩
    · rw [elX11_startsText_2]; unfold bX11_startsText_2
      rw [if_neg (by rw [i32_le (by omega) (by omega) (by omega) (by omega)]; omega), M.o, gd_tt, M.r_world, oc_s, M.o_world, gd_tt, M.n_world, i32_inb (by omega) (by omega) (by omega), gd_tt, M.r_made, oc_s, M.o_made, gd_tt, M.n_made, i32_inb (by omega) (by omega) (by omega), gd_tt, i32_cn (by omega) (by omega), show ((v : Int)).toNat = v from rfl, ← e1, lt_e, lt_e, i32_add]
      exact a1
    · by_cases y : i = v
      · rw [y, a4 _ (by omega), r1, if_pos ⟨rfl, rfl⟩]
      · rw [a3 i (by omega) i1, r1, if_neg (by omega)]
    · rw [a4 i (by omega), r1, if_neg (by omega)]
theorem mmadeL : ∀ (d m v : Nat) (f : HP), v + d = 292 → d < m → MS f → ∃ g, lX11_takesMade_2 m 983 (i32 (v : Int)) f = some g ∧ So (fun x => x = 987) f g ∧ Mo [987] f g ∧ (∀ i, v ≤ i → i < 292 → hL g 987 i = hL f 988 i) ∧ ∀ i, (i < v ∨ 292 ≤ i) → hL g 987 i = hL f 987 i := by
  intro d
  induction d with
  | zero =>
    intro n v f hv hn M
    obtain ⟨m, rfl⟩ : ∃ m, n = m + 1 := ⟨n - 1, by omega⟩
    refine ⟨f, ?_, So.r, Mo.r, fun i _ _ => (by omega), fun i _ => rfl⟩
    rw [elX11_takesMade_2]; unfold bX11_takesMade_2
    rw [if_pos (by rw [i32_le (by omega) (by omega) (by omega) (by omega)]; omega)]
  | succ d ih =>
    intro n v f hv hn M
    obtain ⟨m, rfl⟩ : ∃ m, n = m + 1 := ⟨n - 1, by omega⟩
    obtain ⟨f1, e1⟩ : ∃ f1, f1 = sL f 987 v (hL f 988 v) := ⟨_, rfl⟩
    have p1 : Mo [987] f f1 := by rw [e1]; exact Mo_L (by decide) _ _
    have s1 : So (fun x => x = 987) f f1 := by rw [e1]; exact So_L (S := fun x => x = 987) rfl _ _
    obtain ⟨g, a1, a2, a2', a3, a4⟩ := ih m (v + 1) f1 (by omega) (by omega) (p1.ms M)
    have r1 : ∀ x i, hL f1 x i = if x = 987 ∧ i = v then hL f 988 v else hL f x i := fun x i => by rw [e1, rLL]
    refine ⟨g, ?_, s1.t a2, p1.t a2', fun i i0 i1 => ?_, fun i hi => ?_⟩
    · rw [elX11_takesMade_2]; unfold bX11_takesMade_2
      rw [if_neg (by rw [i32_le (by omega) (by omega) (by omega) (by omega)]; omega), M.o, gd_tt, M.r_made, oc_s, M.o_made, gd_tt, M.n_made, i32_inb (by omega) (by omega) (by omega), gd_tt, M.r_world, oc_s, M.o_world, gd_tt, M.n_world, i32_inb (by omega) (by omega) (by omega), gd_tt, i32_cn (by omega) (by omega), show ((v : Int)).toNat = v from rfl, ← e1, lt_e, lt_e, i32_add]
      exact a1
    · by_cases y : i = v
      · rw [y, a4 _ (by omega), r1, if_pos ⟨rfl, rfl⟩]
      · rw [a3 i (by omega) i1, r1, if_neg (by omega)]
    · rw [a4 i (by omega), r1, if_neg (by omega)]
theorem mmade (M : MS g) : ∃ g', fX11_takesMade 983 g = some g' ∧ So (fun x => x = 987) g g' ∧ Mo [987] g g' ∧ ∀ i, hL g' 987 i = if i < 292 then hL g 988 i else hL g 987 i := by
  obtain ⟨g', a1, a2, a3, a4, a5⟩ := mmadeL 292 FU 0 g (by omega) (by decide) M
  refine ⟨g', a1, a2, a3, fun i => ?_⟩
  by_cases c : i < 292
  · rw [if_pos c, a4 i (by omega) c]
  · rw [if_neg c, a5 i (by omega)]
theorem mswapL : ∀ (d m v : Nat) (f : HP), v + d = 292 → d < m → MS f → ∃ g, lX11_swaps_2 m 983 (i32 (v : Int)) f = some g ∧ Mo [987, 988] f g ∧ (∀ i, v ≤ i → i < 292 → hL g 987 i = hL f 988 i ∧ hL g 988 i = hL f 987 i) ∧ ∀ i, (i < v ∨ 292 ≤ i) → hL g 987 i = hL f 987 i ∧ hL g 988 i = hL f 988 i := by
  intro d
  induction d with
  | zero =>
    intro n v f hv hn M
    obtain ⟨m, rfl⟩ : ∃ m, n = m + 1 := ⟨n - 1, by omega⟩
    refine ⟨f, ?_, Mo.r, fun i _ _ => (by omega), fun i _ => ⟨rfl, rfl⟩⟩
    rw [elX11_swaps_2]; unfold bX11_swaps_2
    rw [if_pos (by rw [i32_le (by omega) (by omega) (by omega) (by omega)]; omega)]
  | succ d ih =>
    intro n v f hv hn M
    obtain ⟨m, rfl⟩ : ∃ m, n = m + 1 := ⟨n - 1, by omega⟩
    obtain ⟨f1, e1⟩ : ∃ f1, f1 = sL f 987 v (hL f 988 v) := ⟨_, rfl⟩
    obtain ⟨f2, e2⟩ : ∃ f2, f2 = sL f1 988 v (hL f 987 v) := ⟨_, rfl⟩
    have p1 : Mo [987, 988] f f1 := by rw [e1]; exact Mo_L (by decide) _ _
    have p2 : Mo [987, 988] f f2 := p1.t (by rw [e2]; exact Mo_L (by decide) _ _)
    have M1 := p1.ms M
    obtain ⟨g, a1, a2, a3, a4⟩ := ih m (v + 1) f2 (by omega) (by omega) (p2.ms M)
    have r2 : ∀ x i, hL f2 x i = if x = 988 ∧ i = v then hL f 987 v else if x = 987 ∧ i = v then hL f 988 v else hL f x i := fun x i => by rw [e2, rLL, e1, rLL]
    refine ⟨g, ?_, p2.t a2, fun i i0 i1 => ?_, fun i hi => ?_⟩
    · rw [elX11_swaps_2]; unfold bX11_swaps_2
      rw [if_neg (by rw [i32_le (by omega) (by omega) (by omega) (by omega)]; omega), M.o, gd_tt, M.r_world, oc_s, M.o_world, gd_tt, M.n_world, i32_inb (by omega) (by omega) (by omega), gd_tt, lt_e, M.r_made, oc_s, M.o_made, gd_tt, M.n_made, i32_inb (by omega) (by omega) (by omega), gd_tt, gd_tt, i32_cn (by omega) (by omega), show ((v : Int)).toNat = v from rfl, ← e1, lt_e, M1.r_made, oc_s, M1.o_made, gd_tt, M1.n_made, i32_inb (by omega) (by omega) (by omega), gd_tt, ← e2, lt_e, lt_e, i32_add]
      exact a1
    · by_cases y : i = v
      · rw [y, (a4 v (by omega)).1, (a4 v (by omega)).2, r2, r2, if_neg (by omega), if_pos ⟨rfl, rfl⟩, if_pos ⟨rfl, rfl⟩]
        exact ⟨rfl, rfl⟩
      · rw [(a3 i (by omega) i1).1, (a3 i (by omega) i1).2, r2, r2, if_neg (by omega), if_neg (by omega), if_neg (by omega), if_neg (by omega)]
        exact ⟨rfl, rfl⟩
    · rw [(a4 i (by omega)).1, (a4 i (by omega)).2, r2, r2, if_neg (by omega), if_neg (by omega), if_neg (by omega), if_neg (by omega)]
      exact ⟨rfl, rfl⟩
theorem mswap (M : MS g) : ∃ g', fX11_swaps 983 g = some g' ∧ Mo [987, 988] g g' ∧ ∀ i, (hL g' 987 i = if i < 292 then hL g 988 i else hL g 987 i) ∧ hL g' 988 i = if i < 292 then hL g 987 i else hL g 988 i := by
  obtain ⟨g', a1, a3, a4, a5⟩ := mswapL 292 FU 0 g (by omega) (by decide) M
  refine ⟨g', a1, a3, fun i => ?_⟩
  by_cases c : i < 292
  · rw [if_pos c, if_pos c]; exact a4 i (by omega) c
  · rw [if_neg c, if_neg c]; exact a5 i (by omega)
def LI : List Nat := 988 :: 986 :: 705 :: 991 :: LM
theorem mstart {np : Nat} (M : MS g) (h705 : hI g 705 983 = i32 n) (h714 : hI g 714 983 = i32 np) (tb : TB g 984 b n) (n0 : 0 ≤ n) (n1 : n ≤ 1200) : ∃ g', fX11_startsText 983 g = some g' ∧ Mo (988 :: lcC) g g' ∧ MN g' b n 0 (Wm g) [] [] np ∧ hA g' 990 = hA g 990 ∧ hL g' 987 = hL g 987 ∧ ∀ i, i < 292 → hL g' 988 i = hL g 987 i := by
  obtain ⟨g1, a1, p1, a3, _⟩ := mcpyL (K := fun w1 h2 => gd (isO h2 w1 11) <| lt (sI h2 706 w1 (i32 (-2))) fun h4 => lt (sI h4 721 w1 (i32 1)) fun h5 => lt (sI h5 726 w1 (i32 0)) fun h6 => lt (sI h6 716 w1 (i32 0)) fun h7 => bn (fX11_next w1 h7) fun h9 => some h9) 292 FU 0 g (by omega) (by decide) M
  have M1 := p1.ms M
  obtain ⟨g2, e2⟩ : ∃ g2, g2 = sI (sI (sI (sI g1 706 983 (i32 (-2))) 721 983 (i32 1)) 726 983 (i32 0)) 716 983 (i32 0) := ⟨_, rfl⟩
  have p2 : Mo [706, 721, 726, 716] g1 g2 := by
    rw [e2]; exact (((Mo_I (by decide) _).t (Mo_I (by decide) _)).t (Mo_I (by decide) _)).t (Mo_I (by decide) _)
  have M2 := p2.ms M1
  have tb2 : TB g2 984 b n := (tb.mo p1 (by decide)).mo p2 (by decide)
  obtain ⟨g3, a4, p3, t3⟩ := next_s M2 (by rw [p2.I (by decide), p1.I (by decide)]; exact h705) tb2 n0 n1 (p := 0) (by rw [e2, rII, if_pos ⟨rfl, rfl⟩]) (by omega) n0
  have q : Mo (988 :: lcC) g g3 := ((p1.w (by decide)).t (p2.w (by decide))).t (p3.w (by decide))
  have r2 : ∀ f, f ≠ 716 → f ≠ 717 → f ≠ 718 → f ≠ 719 → f ≠ 720 → hI g3 f 983 = hI g2 f 983 := fun f c1 c2 c3 c4 c5 => p3.I (by simp; omega)
  have L7 : hL g3 987 = hL g 987 := (p3.L (by decide)).trans ((p2.L (by decide)).trans (p1.L (by decide)))
  have eW : Wm g3 = Wm g := by funext j; unfold Wm; rw [L7]
  refine ⟨g3, ?_, q, ⟨⟨q.ms M, ?_, tb2.mo p3 (by decide), t3, ?_, ?_⟩, ⟨?_, fun k x hx => by simp at hx⟩, ⟨?_, fun i e he => by simp at he⟩, fun j _ => by rw [eW]⟩, (p3.A (by decide)).trans ((p2.A (by decide)).trans (p1.A (by decide))), L7, fun i hi => ?_⟩
  · refine Eq.trans a1 ?_
    show (gd (isO g1 983 11) <| lt (sI g1 706 983 (i32 (-2))) fun h4 => lt (sI h4 721 983 (i32 1)) fun h5 => lt (sI h5 726 983 (i32 0)) fun h6 => lt (sI h6 716 983 (i32 0)) fun h7 => bn (fX11_next 983 h7) fun h9 => some h9) = _
    rw [M1.o, gd_tt, lt_e, lt_e, lt_e, lt_e, ← e2, a4, bn_s]
  · rw [p3.I (by decide), p2.I (by decide), p1.I (by decide)]; exact h705
  · rw [r2 721 (by omega) (by omega) (by omega) (by omega) (by omega), e2, rII, if_neg (by omega), rII, if_neg (by omega), rII, if_pos ⟨rfl, rfl⟩]
  · rw [r2 706 (by omega) (by omega) (by omega) (by omega) (by omega), e2, rII, if_neg (by omega), rII, if_neg (by omega), rII, if_neg (by omega), rII, if_pos ⟨rfl, rfl⟩]
  · rw [r2 726 (by omega) (by omega) (by omega) (by omega) (by omega), e2, rII, if_neg (by omega), rII, if_pos ⟨rfl, rfl⟩]; rfl
  · rw [p3.I (by decide), p2.I (by decide), p1.I (by decide), h714]
    show i32 (np : Int) = i32 ((np : Int) + 0)
    rw [Int.add_zero]
  · rw [(funext fun j => by rw [p3.L (by decide)] : hL g3 988 = hL g2 988), (funext fun j => by rw [p2.L (by decide)] : hL g2 988 = hL g1 988), a3 i (by omega) hi]
end
/-! HOW A TEXT CALL ENDS -/
section
variable {h g4 g5 : HP} {np T k : Nat} {er : Int}
theorem hL_W {f f' : HP} {i : Nat} (e : Wm f (i : Int) = Wm f' (i : Int)) : hL f 987 i = hL f' 987 i := by
  have a := Wm_e f (i : Int)
  have c := Wm_e f' (i : Int)
  rw [Int.toNat_natCast] at a c
  rw [a, c, e]
theorem txt_fail (rc : RC h np) (kq : Kq h g4) (ts : TS2 h g4) (z1 : hsz g4 ≤ hsz h + T) (z2 : hsl g4 ≤ hsl h + 6 * T) (i641 : hI g4 641 0 = i32 0) (i642 : hI g4 642 0 = i32 er) (m : Mo LI g4 g5) (n24 : N24 g5) (a990 : ∀ i : Nat, i < np → hA g5 990 i = hA g4 990 i) (w292 : ∀ i : Nat, 292 ≤ i → hL g5 987 i = hL g4 987 i) (l988 : ∀ i, i < 292 → hL g5 988 i = hL g4 987 i) (i705 : hI g5 705 983 = i32 0) (i706 : hI g5 706 983 = i32 er) (b1 : np + T ≤ 20 * k) (b2 : hsz h + T ≤ 1008 + 20 * k) (b3 : hsl h + 6 * T ≤ 80000 + 120 * k) : ∃ g6, fX11_takesMade 983 g5 = some g6 ∧ MS g6 ∧ hI g6 721 983 = hI g5 721 983 ∧ RR (sI g6 714 983 (i32 np)) (k + 1) := by
  have r4 := RC_k rc kq ts
  have M4 := r4.2.1
  have M5 := m.ms M4
  obtain ⟨g6, a1, a2, a3, a4⟩ := mmade M5
  obtain ⟨g7, e7⟩ : ∃ g7, g7 = sI g6 714 983 (i32 np) := ⟨_, rfl⟩
  have p7 : Mo [714] g6 g7 := by rw [e7]; exact Mo_I (by decide) _
  have q : Mo LI g4 g7 := (m.t (a3.w (by decide))).t (p7.w (by decide))
  refine ⟨g6, a1, a3.ms M5, a3.I (by decide), ?_⟩
  rw [← e7]
  have l7 : hL g7 987 = hL g4 987 := by
    funext i
    rw [p7.L (by decide), a4 i]
    by_cases c : i < 292
    · rw [if_pos c]; exact l988 i c
    · rw [if_neg c]; exact w292 i (by omega)
  have r7 := RC_mo r4 q (by decide) (fun i hi => by rw [p7.A (by decide), a3.A (by decide)]; exact a990 i hi) ((n24.mo a3 (by decide) (by decide)).mo p7 (by decide) (by decide)) l7
  refine r7.rr (T := 0) ?_ (by rw [e7, rII, if_pos ⟨rfl, rfl⟩]) (Tape0 (by rw [q.Ix (by omega)]; exact i641) (by rw [p7.I (by decide), a3.I (by decide)]; exact i705)) (by omega) (by rw [q.hs]; omega) (by rw [q.hl]; omega)
  rw [q.Ix (by omega), i642, p7.I (by decide), a3.I (by decide), i706]
theorem txt_ok {g1 g2 : HP} {u p np' : Nat} {F : Int → Int} {Cn : Int → List Int32} (rc : RC h np) (kq : Kq h g4) (ts : TS2 h g4) (z1 : hsz g4 ≤ hsz h + T) (z2 : hsl g4 ≤ hsl h + 6 * T) (i641 : hI g4 641 0 = i32 0) (i642 : hI g4 642 0 = i32 (-2)) (U : UP g4 u p) (c : CR g4 g1 u p) (w : So (inF 3) g1 g2) (fe : FormEq g2 3 g1 63) (m : Mo LI g2 g5) (n24 : N24 g5) (a990 : ∀ i : Nat, i < np → hA g5 990 i = hA g2 990 i) (w292 : ∀ i : Nat, 292 ≤ i → hL g5 987 i = hL g2 987 i) (l988 : ∀ i, i < 292 → hL g5 988 i = hL g2 987 i) (i705 : hI g5 705 983 = i32 0) (i706 : hI g5 706 983 = i32 (-2)) (i714 : hI g5 714 983 = i32 np') (en : Enn (Wm g5) F) (sg : ∀ n, 0 ≤ n → n < 32 → F n ≠ -1 → sgm (Pt g5) F n = Cn n) (fc : FRc g4 63 F Cn) (fw : FWf F Cn np') (s0 : ∀ f, f < 3 → hI g4 f 63 = hA h 985 f) (hn : np ≤ np') (b1 : np' ≤ 20 * k) (b2 : hsz h + T ≤ 1008 + 20 * k) (b3 : hsl h + 6 * T ≤ 80000 + 120 * k) : ∃ ga gb g', fX11_swaps 983 g5 = some ga ∧ MS ga ∧ fX11_keeps 983 ga = some gb ∧ MS gb ∧ fX11_takesMade 983 gb = some g' ∧ MS g' ∧ RR g' (k + 1) ∧ E292 (Wm g') F ∧ (∀ n, 0 ≤ n → n < 32 → F n ≠ -1 → sgm (Pt g') F n = Cn n) := by
  have r4 := RC_k rc kq ts
  have sm1 : ∀ x, x ≠ 0 → (x < 403 ∨ 983 ≤ x) → Sm g4 g1 x := fun x a b => c.sm a b U.2.1
  have sm2 : ∀ x, (x < 3 ∨ 39 ≤ x) → Sm g1 g2 x := fun x a => w.2.2 x (fun z => by have := z.1; have := z.2; omega)
  have M2 : MS g2 := r4.2.1.sk (c.1.1.trans w.1)
  have M5 := m.ms M2
  obtain ⟨ga, a1, a2, a3⟩ := mswap M5
  have Ma := a2.ms M5
  have qa : Mo (987 :: LI) g2 ga := (m.w (by decide)).t (a2.w (by decide))
  have i712 : hI ga 712 983 = i32 u := by
    rw [qa.I (by decide), (sm2 983 (by omega)).1, (sm1 983 (by omega) (by omega)).1]; exact U.2.2.2.2
  obtain ⟨gb, d1, d2⟩ := Ma.keep U.1 i712
  have Mb : MS gb := Ma.sk d2.1.1
  obtain ⟨g', f1, f2, f3, f4⟩ := mmade Mb
  have la : hL ga 987 = hL g2 987 := by
    funext i
    rw [(a3 i).1]
    by_cases y : i < 292
    · rw [if_pos y]; exact l988 i y
    · rw [if_neg y]; exact w292 i (by omega)
  have smb : ∀ x, x ≠ 983 → x ≠ 989 → Sm ga gb x := fun x a b => d2.sm a b
  have lb : ∀ i, hL gb 988 i = hL ga 988 i := fun i => (smb 988 (by omega) (by omega)).2.2.2.2.1 i
  have lb7 : ∀ i, hL gb 987 i = hL ga 987 i := fun i => (smb 987 (by omega) (by omega)).2.2.2.2.1 i
  have eF : E292 (Wm g') F := fun q q0 q1 => by
    rw [← en q q0]
    unfold Wm
    rw [f4, if_pos (by omega), lb, (a3 _).2, if_pos (by omega)]
  have hi : ∀ q, 292 ≤ q → q < 2880 → Wm g' q = Wm g4 q := fun q q0 q1 => by
    unfold Wm
    rw [f4, if_neg (by omega), lb7, la, (sm2 987 (by omega)).2.2.2.2.1, (sm1 987 (by omega) (by omega)).2.2.2.2.1]
  have A990 : hA g' 990 = hA g5 990 := (f3.A (by decide)).trans ((funext (smb 990 (by omega) (by omega)).2.2.2.1 : hA gb 990 = hA ga 990).trans (a2.A (by decide)))
  have A991 : hA g' 991 = hA g5 991 := (f3.A (by decide)).trans ((funext (smb 991 (by omega) (by omega)).2.2.2.1 : hA gb 991 = hA ga 991).trans (a2.A (by decide)))
  have A999 : hA g' 999 = hA g5 999 := (f3.A (by decide)).trans ((funext (smb 999 (by omega) (by omega)).2.2.2.1 : hA gb 999 = hA ga 999).trans (a2.A (by decide)))
  have A985 : hA g' 985 = hA h 985 := (f3.A (by decide)).trans ((funext (smb 985 (by omega) (by omega)).2.2.2.1 : hA gb 985 = hA ga 985).trans ((qa.A (by decide)).trans ((funext ((sm1 985 (by omega) (by omega)).t (sm2 985 (by omega))).2.2.2.1).trans (kq.2.2.2.2.2.1 985 (by omega) (by omega)).1)))
  have sgf : ∀ n, 0 ≤ n → n < 32 → F n ≠ -1 → sgm (Pt g') F n = Cn n := fun n n0 n1 np => by
    have e : Pt g' = Pt g5 := by funext q; unfold Pt; rw [A990]
    rw [e]; exact sg n n0 n1 np
  have smF : ∀ x, x < 983 → Sm g2 g' x := fun x a => (qa.sm a).t ((smb x (by omega) (by omega)).t (f2.2.2 x (by omega)))
  have tsf : TS2 g4 g' := (TS2_So ((c.1.w (T := fun x => x < 1008) (fun x z => by rcases z with z | z; omega; have := z.2; have := U.2.1; omega)).t (w.w (fun x z => by have := z.2; omega))) (fun x z => z)).t ((TS2_mo qa).t (TS2_So (S := fun x => x < 1008) ((d2.1.w (fun x z => by rcases z with z | z <;> omega)).t (f2.w (fun x z => by omega))) (fun x z => z)))
  have fx : FRx g' 3 (Wm g') np' := by
    refine FRx_F (FRx_new fc fw ((FormEq_sm (fun x hx => smF x (by have := hx.2; omega))).t (fe.t (FormEq_sm (fun x hx => sm1 x (by have := hx.1; omega) (by have := hx.2; omega))))) tsf sgf ?_ ?_ ?_) eF
    · rw [A985]; exact s0 0 (by omega)
    · rw [A985]; exact s0 1 (by omega)
    · rw [A985]; exact s0 2 (by omega)
  have pl : PlS np g4 g' := fun i hi => by rw [A990, a990 i hi, (sm2 990 (by omega)).2.2.2.1, (sm1 990 (by omega) (by omega)).2.2.2.1]
  have r' := RC_wr r4 U c w qa (by decide) la d2 f2 pl (n24.e A991 A999) hn hi fx
  have i0 : ∀ f, f ≠ 646 → f ≠ 647 → hI g' f 0 = hI g4 f 0 := fun f x y => by rw [(smF 0 (by omega)).1, (sm2 0 (by omega)).1, c.2.2.2.2 f x y]
  have i983 : ∀ f, f ≠ 712 → f ∉ ([987, 988] : List Nat) → hI g' f 983 = hI g5 f 983 := fun f x y => by
    rw [(f2.2.2 983 (by decide)).1, d2.2.2.1 f x, a2.I (by rw [List.contains_eq_mem, decide_eq_false_iff_not]; exact y)]
  have hz : hsz g' = hsz g4 := by
    have e1 : hsz g1 = hsz g4 := by unfold hsz; rw [c.1.2.1]
    have e2 : hsz g2 = hsz g1 := by unfold hsz; rw [w.2.1]
    have e3 : hsz gb = hsz ga := by unfold hsz; rw [d2.1.2.1]
    rw [f3.hs, e3, qa.hs, e2, e1]
  have hl : hsl g' = hsl g4 := by
    have e1 : hsl g1 = hsl g4 := by unfold hsl; rw [c.1.2.1]
    have e2 : hsl g2 = hsl g1 := by unfold hsl; rw [w.2.1]
    have e3 : hsl gb = hsl ga := by unfold hsl; rw [d2.1.2.1]
    rw [f3.hl, e3, qa.hl, e2, e1]
  refine ⟨ga, gb, g', a1, Ma, d1, Mb, f1, f3.ms Mb, ?_, eF, sgf⟩
  refine r'.rr (T := 0) ?_ ?_ (Tape0 ?_ ?_) (by omega) (by rw [hz]; omega) (by rw [hl]; omega)
  · rw [i0 642 (by omega) (by omega), i642, i983 706 (by omega) (by decide), i706]
  · rw [i983 714 (by omega) (by decide)]; exact i714
  · rw [i0 641 (by omega) (by omega)]; exact i641
  · rw [i983 705 (by omega) (by decide)]; exact i705
end

