/-! A TEXT IS READ: what both sides do -/
def LSt : List Nat := 192 :: 195 :: 196 :: LX
section
variable {h g g' : HP} {b : Int → Int} {n : Int}
theorem cstart (S : CS h) (W : KW h) (z : 1008 ≤ hsz h) (tb : TB h 1 b n) (n0 : 0 ≤ n) (n1 : n ≤ 1200) (ts : Nat → Nat) : ∃ g c, fX3_start 62 (some 1) (i32 n) h = some g ∧ Co 0 LSt h g ∧ CP g b n c 0 [] ts ∧ Tend (tkn b n) c ∧ (c : Int) ≤ n := by
  obtain ⟨g1, c, e1, q1, k1, t1⟩ := cread S W tb n0 n1
  have S1 := S.sk q1.sk
  obtain ⟨g2, e2⟩ : ∃ g2, g2 = sI (sI (sI g1 192 62 (i32 (-2))) 195 62 (i32 (-2))) 196 62 (i32 0) := ⟨_, rfl⟩
  have q2 : Co 0 [192, 195, 196] g1 g2 := by rw [e2]; exact ((Co_I (Or.inl (by decide)) _).t0 (Co_I (Or.inl (by decide)) _)).t0 (Co_I (Or.inl (by decide)) _)
  refine ⟨g2, c, ?_, (q1.w (by decide)).t0 (q2.w (by decide)), ⟨⟨S1.sk q2.sk, ⟨Nat.le_trans z (Nat.le_trans q1.sk.1 q2.sk.1), ?_⟩, k1.co S1 q2 (by decide), t1.co S1 q2 (by decide)⟩, Nat.le_refl _, ?_, fun k x hx => by simp at hx⟩, fun j hj => ?_, k1.1⟩
  · unfold fX3_start
    rw [S.o_parser, gd_tt, S.r_tokens, oc_s, S.o_tokens, gd_tt, e1, bn_s, S1.o_parser, gd_tt, lt_e, lt_e, lt_e, ← e2]
  · rw [e2, rII, if_neg (by omega), rII, if_neg (by omega), rII, if_pos ⟨rfl, rfl⟩]
  · rw [e2, rII, if_pos ⟨rfl, rfl⟩]; rfl
  · have e := (tkn_end n0 k1.2.2.2.2 (j - c)).1
    rwa [show c + (j - c) = j by omega] at e
/-- where reading ends wrongly, if it does -/
def perr (T : Nat → TK) (R : Int → Int32) (Z : ZR) : Option Int := if Z.1 = true then pres Z.2.2.1 Z.2.2.2.1 R else some (tks (T Z.2.1))
theorem cflow {α : Type} {J : Bool → HP → Option α} {g2 : HP} {was : Nat} {C0 : Int → List Int32} {old : Int → Bool} {z0 : Nat} {Fb : Int → Int} {Z : ZR} (C2 : CS g2) (z3 : Z.1 = true → ∃ ts, (hI g2 196 62 = i32 Z.2.2.2.1.length ∧ Tbl g2 Z.2.2.2.1 ts ∧ hI g2 192 62 = i32 (-2)) ∧ RPc g2 Z.2.2.1 Z.2.2.2.1 Z.2.2.2.2 ts was C0 old z0) (z4 : Z.1 = false → hI g2 192 62 = i32 (tks (tkn b n Z.2.1))) (N : Z.1 = true → NJ n was old Fb Z.2.2.1 Z.2.2.2.1 Z.2.2.2.2) : ∃ ok g3, (if Z.1 = true then (gd (isO g2 0 10) <| oc (hR g2 648 0) fun o29 => gd (isO g2 o29 3) <| bn2 (fX3_settle o29 g2) fun v33 h34 => if v33 = true then J true h34 else J false h34) else J false g2) = J ok g3 ∧ SI (Wst z0) g2 g3 ∧ (∀ e, perr (tkn b n) (R0 C0 old) Z = some e → ok = false ∧ hI g3 192 62 = i32 e) ∧ (perr (tkn b n) (R0 C0 old) Z = none → ok = true ∧ hI g3 192 62 = i32 (-2) ∧ FRc g3 63 Z.2.2.1 (Cnw Z.2.2.1 Z.2.2.2.1 Z.2.2.2.2 was C0 old)) := by
  unfold perr
  cases ok : Z.1 with
  | false =>
    rw [if_neg (by decide), if_neg (by decide)]
    refine ⟨false, g2, rfl, SI.r, fun e he => ?_, fun he => by cases he⟩
    cases he
    exact ⟨rfl, z4 ok⟩
  | true =>
    rw [if_pos rfl, if_pos rfl]
    obtain ⟨ts, ⟨P1, P2, P3⟩, R⟩ := z3 ok
    have N := N ok
    have t := N.1
    have B := N.2.2.2.2.1
    have D : SetC g2 n Z.2.2.1 Z.2.2.2.1 ts z0 := ⟨C2, P1, by omega, P2, R.2.2, R.1, t.1, t.2.1, fun k x hx => by
      obtain ⟨a1, a2, a3, a4, a5, a6⟩ := N.2.2.2.1.2 k x hx
      exact ⟨a1.1, a2, a3, a4⟩⟩
    have hr : ∀ m, 0 ≤ m → m < 32 → Z.2.2.1 m ≠ -1 → hI g2 137 (63 + 4 + m.toNat) = R0 C0 old m := fun m m0 m1 mp => by
      obtain ⟨u, v⟩ := R.2.1 m m0 m1 mp
      unfold R0
      cases q : old m with
      | true => rw [if_pos rfl]; exact (u q).2.2
      | false => rw [if_neg (by decide)]; exact (v q).2.2
    obtain ⟨s1, s2⟩ := csettle D hr
    cases pe : pres Z.2.2.1 Z.2.2.2.1 (R0 C0 old) with
    | some e =>
      obtain ⟨g3, a1, a2, a3⟩ := s1 e pe
      refine ⟨false, g3, ?_, a3, fun e' he => ?_, fun he => by cases he⟩
      · rw [C2.o, gd_tt, C2.r_parser, oc_s, C2.o_parser, gd_tt, a1, bn2_s, if_neg (by decide)]
      · cases he; exact ⟨rfl, a2⟩
    | none =>
      obtain ⟨g3, a1, a2, a3, a4, a5⟩ := s2 pe
      refine ⟨true, g3, ?_, a2, fun e' he => (by cases he), fun _ => ⟨rfl, a5.trans P3, ?_⟩⟩
      · rw [C2.o, gd_tt, C2.r_parser, oc_s, C2.o_parser, gd_tt, a1, bn2_s, if_pos rfl]
      · have pn : pnames Z.2.2.1 Z.2.2.2.1 = none := by
          unfold pres at pe
          cases h : pnames Z.2.2.1 Z.2.2.2.1 with
          | some x => simp only [h] at pe; cases pe
          | none => rfl
        exact csettled R P2 t.1 N.2.2.2.1 (pnames_ok _ pn) a2 a3 a4
theorem TS2_SI' {z0 : Nat} (t : TS2 h g) (p : SI (Wst z0) g g') (z : hsz h ≤ z0) (z1 : 1008 ≤ hsz h) : TS2 h g' := ⟨by rw [p.sz]; exact t.1, fun x x0 x1 => by
  obtain ⟨a1, a2, a3, a4, a5, a6, a7⟩ := t.2 x x0 x1
  have hi : ∀ f, hI g' f x = hI g f x := fun f => p.I (fun w => by rcases w with w | w | w <;> omega)
  exact ⟨fun w => by rw [p.o]; exact a1 w, (hi 384).trans a2, (hi 387).trans a3, (hi 388).trans a4, (hi 389).trans a5, by rw [p.R]; exact a6, by rw [p.R]; exact a7⟩⟩
/-- the model has read and settles -/
theorem mflow {g1 g2 : HP} {was : Nat} {C0 : Int → List Int32} {old : Int → Bool} {Fb : Int → Int} {Z : ZR} (wb : (was : Int) ≤ 10300) (n24 : N24 g2) (z : FrM was g1 g2 ∧ (Z.1 = true → MN g2 b n Z.2.1 Z.2.2.1 Z.2.2.2.1 Z.2.2.2.2 was) ∧ (Z.1 = false → BdM g2 (tks (tkn b n Z.2.1)) was)) (N : Z.1 = true → NJ n was old Fb Z.2.2.1 Z.2.2.2.1 Z.2.2.2.2 ∧ SGJ Z.2.2.1 was Z.2.2.2.2) (hold : ∀ m, old m = true → Fb (192 + m) + Fb (224 + m) ≤ was ∧ 0 ≤ Fb (192 + m)) (hC : ∀ m, old m = true → C0 m = sgm (Pt g1) Fb m) (tk0 : ∀ m, old m = true → ∀ t ∈ C0 m, tkOk Fb t) (hp : ∀ m, 0 ≤ m → m < 32 → old m = false → Z.1 = true → Fb m ≠ -1 → Z.2.2.1 m = Fb m) : ∃ g3, fX11_resolves 983 g2 = some g3 ∧ FrM was g1 g2 ∧ Mo [991, 990, 721, 706] g2 g3 ∧ N24 g3 ∧ (∀ i : Nat, i < was → hA g3 990 i = hA g1 990 i) ∧ (∀ e, perr (tkn b n) (R0 C0 old) Z = some e → hI g3 721 983 = i32 0 ∧ hI g3 706 983 = i32 e) ∧ (perr (tkn b n) (R0 C0 old) Z = none → hI g3 721 983 = i32 1 ∧ hI g3 706 983 = i32 (-2) ∧ Enn (Wm g3) Z.2.2.1 ∧ hI g3 714 983 = i32 (was + Z.2.2.2.2.length) ∧ ∀ m, 0 ≤ m → m < 32 → Z.2.2.1 m ≠ -1 → sgm (Pt g3) Z.2.2.1 m = Cnw Z.2.2.1 Z.2.2.2.1 Z.2.2.2.2 was C0 old m) := by
  obtain ⟨fr, z3, z4⟩ := z
  unfold perr
  cases ok : Z.1 with
  | false =>
    rw [if_neg (by decide)]
    have B := z4 ok
    obtain ⟨g3, a1, a2, a3⟩ := mresolve_z B n24
    refine ⟨g3, a1, fr, a2.w (by decide), a3, fun i hi => ?_, fun e he => ?_, fun he => by cases he⟩
    · rw [a2.A (by decide)]; exact fr.2.1 i hi
    · cases he
      exact ⟨by rw [a2.I (by decide)]; exact B.2.1, by rw [a2.I (by decide)]; exact B.2.2.1⟩
  | true =>
    rw [if_pos rfl]
    have M := z3 ok
    obtain ⟨N, sj⟩ := N ok
    have t := N.1
    have B := N.2.2.2.2.1
    have sg : SGT Z.2.2.1 := fun m m0 m1 mp => by
      have := sj m m0 m1 mp
      exact ⟨this.1, this.2.1, by omega⟩
    have on := N.2.2.2.2.2.1
    have ov := N.2.2.2.2.2.2
    have r6 : ∀ m, old m = true → Z.2.2.1 (192 + m) = Fb (192 + m) := fun m hm => ov m hm 6 (by omega)
    have r7 : ∀ m, old m = true → Z.2.2.1 (224 + m) = Fb (224 + m) := fun m hm => ov m hm 7 (by omega)
    have r0 : ∀ m, old m = true → Z.2.2.1 m = Fb m := fun m hm => by
      have := ov m hm 0 (by omega)
      rwa [show (32 * ((0 : Nat) : Int) + m) = m by omega] at this
    have tkZ : ∀ m, old m = true → ∀ t ∈ C0 m, tkOk Z.2.2.1 t := fun m hm t ht => by
      rcases tk0 m hm t ht with ⟨f, s, v, a1, a2, a3, r⟩ | r
      · refine Or.inl ⟨f, s, v, a1, a2, ?_, r⟩
        cases q : old f with
        | true => rw [r0 f q]; exact a3
        | false => rw [hp f a1 (by omega) q ok a3]; exact a3
      · exact Or.inr r
    obtain ⟨s1, s2⟩ := mresolve M B.1 B.2 wb t sg N.2.2.2.1 N.2.2.1 n24 (fun m hm => by
      have o := on m hm
      exact ⟨o.1, o.2.1, o.2.2, by rw [r6 m hm, r7 m hm]; exact (hold m hm).1⟩) (C0 := C0) (fun m hm => by
      rw [hC m hm, sgm_E (P := Pt g2) (F := Fb) (r6 m hm) (r7 m hm)]
      exact (sgm_low (hold m hm).2 (hold m hm).1 fr.2.1).symm) tkZ
    cases pe : pres Z.2.2.1 Z.2.2.2.1 (R0 C0 old) with
    | some e =>
      obtain ⟨g3, a1, a2, a3, a4, a5, a6⟩ := s1 e pe
      refine ⟨g3, a1, fr, a2, a6, fun i hi => (a5 i hi).trans (fr.2.1 i hi), fun e' he => ?_, fun he => by cases he⟩
      cases he; exact ⟨a3, a4⟩
    | none =>
      obtain ⟨g3, a1, a2, a3, a4, a5, a6, a7⟩ := s2 pe
      refine ⟨g3, a1, fr, a2, a6, fun i hi => (a5 i hi).trans (fr.2.1 i hi), fun e' he => (by cases he), fun _ => ⟨a3, a4.trans M.1.er, ?_, ?_, a7⟩⟩
      · have e : Wm g3 = Wm g2 := by funext j; unfold Wm; rw [a2.L (by decide)]
        rw [e]; exact M.2.2.2
      · rw [a2.I (by decide)]; exact M.pool
end

