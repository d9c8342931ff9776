/-! INSERT, THE CLASS -/
theorem cgr_gno {p : Int} (h : p = -2 ∨ (0 ≤ p ∧ p < 8)) : cgr (gno p) = p := by
  rcases h with h | h
  · rw [h]; rfl
  · unfold cgr gno
    rw [if_pos h, if_neg (by omega)]; omega
theorem place_ex {F : Int → Int} (t : TR F) {ins : Int} (gk : grok F ins) : ∃ pl, PL F ins pl ∧ ∀ g : HP, MS g → Wm g = F → fX11_behind 983 (i32 0) (i32 ins) g = some (i32 pl) := by
  rcases gk with h | ⟨h1, h2, h3⟩
  · rw [h]
    refine ⟨F 288, ⟨t.ov.1, Int.le_refl _, fun _ => rfl, fun z => absurd rfl z⟩, fun g M e => ?_⟩
    rw [behindN_s M (by omega) (by omega) (by omega) (by omega), Fm0, e]
  · obtain ⟨j, j0, j1, e⟩ := t.po ins (by omega) h2 h3
    refine ⟨bhd F ins 33 (j + 1), bhd_PL t h1 j0 j1 e, fun g M ew => ?_⟩
    rw [behind_s M (by omega) (by omega) (by omega) h2 (by rw [Fm0, ew]; exact t.av) (by rw [Fm0, ew]; exact t.ov) (by rw [Fm0, ew]; exact t.ce) j0 (by rw [Fm0, ew]; exact j1) (by rw [Fm0, ew]; exact e) (fun q q0 q1 z => by
      rw [Fm0, ew] at z
      have := t.dd q j q0 (by omega) j0 j1 (z.trans e.symm)
      omega), Fm0, ew]
def oldF (F : Int → Int) (n : Int) : Bool := decide (0 ≤ n ∧ n < 32 ∧ F n ≠ -1)
theorem oldF_t {F : Int → Int} {n : Int} : oldF F n = true ↔ (0 ≤ n ∧ n < 32 ∧ F n ≠ -1) := by unfold oldF; rw [decide_eq_true_eq]
theorem oldF_f {F : Int → Int} {n : Int} (n0 : 0 ≤ n) (n1 : n < 32) (p : F n ≠ -1) : oldF F n ≠ false := fun z => by rw [oldF_t.mpr ⟨n0, n1, p⟩] at z; cases z
/-- a form as it is when reading begins -/
theorem ni_start {b : Int → Int} {n : Int} {was : Nat} {F : Int → Int} (n0 : 0 ≤ n) (t : TF F) (kd : KD F) : NI b n was (oldF F) F 0 F [] [] := by
  have st := tS_n (b := b) n0 0
  refine ⟨t, kd, fun m a c d e => absurd e (oldF_f a c d), ⟨fun m a c d e => absurd e (oldF_f a c d), fun k x hx => by simp at hx⟩, ⟨by omega, by simp; omega, by simp; omega⟩, fun m hm => oldF_t.mp hm, fun m _ q _ => rfl⟩
section
variable {h : HP} {np T : Nat} {b : Int → Int} {pl ins : Int}
theorem LSt_S : okS LSt = true := by decide
theorem LF_S : okS LF = true := by decide
theorem okF_LSt : okF LSt 63 := ⟨okS_N LSt_S, by decide, fun i hi => by simp [LSt, LX]; omega⟩
theorem cins {p : Int} (r : RC h np) (h641 : hI h 641 0 = i32 T) (T1 : T ≤ 1200) (tb : TB h 1 b T) (p1 : -2147483648 ≤ p) (p2 : p < 2147483648) (vp : p = -2 ∨ (0 ≤ p ∧ p < 8 ∧ Wm h (24 + p) ≠ -1)) (P : PL (Wm h) (gno p) pl) (gk : grok (Wm h) (gno p)) : ∃ ok g3, fX10_insert 0 (i32 p) h = jX10_insert_71 0 ok g3 ∧ (Kq h g3 ∧ TS2 h g3 ∧ hsz g3 ≤ hsz h + T ∧ hsl g3 ≤ hsl h + 6 * T) ∧ (∀ f, f < 3 → hI g3 f 63 = hI h f 3) ∧ (∀ e, perr (tkn b T) (R0 (sgm (Pt h) (Wm h)) (oldF (Wm h))) (pnod (tkn b T) np 1201 pl (gno p) 0 0 (Wm h) [] []) = some e → ok = false ∧ hI g3 192 62 = i32 e) ∧ (perr (tkn b T) (R0 (sgm (Pt h) (Wm h)) (oldF (Wm h))) (pnod (tkn b T) np 1201 pl (gno p) 0 0 (Wm h) [] []) = none → ok = true ∧ hI g3 192 62 = i32 (-2) ∧ FRc g3 63 (pnod (tkn b T) np 1201 pl (gno p) 0 0 (Wm h) [] []).2.2.1 (Cnw (pnod (tkn b T) np 1201 pl (gno p) 0 0 (Wm h) [] []).2.2.1 (pnod (tkn b T) np 1201 pl (gno p) 0 0 (Wm h) [] []).2.2.2.1 (pnod (tkn b T) np 1201 pl (gno p) 0 0 (Wm h) [] []).2.2.2.2 np (sgm (Pt h) (Wm h)) (oldF (Wm h)))) := by
  obtain ⟨C, M, K, n24, sz, d8, s, past⟩ := r
  have x := s.x
  have A : FormAt h (2 + 1) := C.st.d
  have pc : cgr (gno p) = p := cgr_gno (by omega)
  obtain ⟨F, eF⟩ : ∃ F, F = Wm h := ⟨_, rfl⟩
  rw [← eF] at x gk P vp ⊢
  have t := x.2.1.1
  have n0 : (0 : Int) ≤ (T : Int) := by omega
  have n1 : (T : Int) ≤ 1200 := by omega
  obtain ⟨g1, c1, q1, f1⟩ := copyForm C.sf A (Or.inr (by omega)) (fun i hi => x.fb.isB i hi)
  have k1 : Kq h g1 := Kq_So q1
  have C1 : CS g1 := C.sk q1.1
  have s1 : ∀ y, (y < 63 ∨ 99 ≤ y) → Sm h g1 y := fun y hy => q1.2.2 y (fun z => by have := z.1; have := z.2; omega)
  have z1 : hsz g1 = hsz h := by unfold hsz; rw [q1.2.1]
  have l1 : hsl g1 = hsl h := by unfold hsl; rw [q1.2.1]
  have ts1 : TS2 h g1 := TS2_So (q1.w (T := fun y => y < 1008) (fun y z => by have := z.2; omega)) (fun y z => z)
  have a990 : hA g1 990 = hA h 990 := funext (s1 990 (by omega)).2.2.2.1
  have x1 : FRx g1 63 F np := FRx_eq x f1 ts1 (fun q _ => by rw [a990]) (funext (s1 985 (by omega)).2.2.2.1) (Nat.le_refl _)
  have eP : Pt g1 = Pt h := by funext q; unfold Pt; rw [a990]
  obtain ⟨g2, c, c2, q2, P2, te, cn⟩ := cstart (b := b) (n := T) C1 (fun i hi => by rw [(s1 104 (by omega)).2.2.2.2.1]; exact K i hi) (by omega) (TB_e tb (funext (s1 1 (by omega)).2.2.2.1)) n0 n1 (fun _ => 0)
  have C2 : CS g2 := P2.1.cs
  have z2 : hsz g2 = hsz g1 := by have := q2.2.1; have := q2.sk.1; omega
  have R1 : RPc g1 F [] [] (fun _ => 0) np (sgm (Pt h) F) (oldF F) (hsz h) := by
    refine ⟨x1.1.1, fun m m0 m1 mp => ⟨fun _ => ?_, fun z => absurd z (oldF_f m0 m1 mp)⟩, ⟨by omega, fun k hk => by simp at hk⟩⟩
    have := x1.cd m0 m1 mp
    rw [eP, z1] at this
    exact this
  have R2 := RPc_co R1 C1.sf q2 (okS_T LSt_S) okF_LSt
  have N0 : NI b (T : Int) np (oldF F) F 0 F [] [] := ni_start n0 t x.kd
  have PS : PLs F 0 (gno p) pl := fun i hi => by
    have e : i = 0 := by omega
    rw [e]; exact P
  obtain ⟨ok2, g3, e3, eok, z3⟩ := cnodesL n0 n1 1201 FU 0 0 0 pl (gno p) F [] [] (fun _ => 0) g2 (by omega) (by decide) (by omega) (by omega) P2 R2 N0 PS gk (start := gno p) ⟨rfl, fun i hi => by omega⟩
  rw [pc] at e3
  obtain ⟨Z, eZ⟩ : ∃ Z, Z = pnod (tkn b (T : Int)) np 1201 pl (gno p) 0 0 F [] [] := ⟨_, rfl⟩
  have zl : Z.2.1 ≤ c := by rw [eZ]; exact le_nod te 1201 pl (gno p) 0 0 F [] [] (by omega)
  have zN : Z.1 = true → NI b (T : Int) np (oldF F) F Z.2.1 Z.2.2.1 Z.2.2.2.1 Z.2.2.2.2 := fun ok => by
    rw [eZ] at ok ⊢
    exact (ni_nod n0 1201 0 0 pl (gno p) F [] [] N0 PS gk (fun i hi => by omega) ok).1
  rw [← eZ] at z3 eok ⊢
  have q3 := z3.2.1
  have C3 : CS g3 := C2.sk q3.sk
  obtain ⟨ok, g4, e4, q4, w1, w2⟩ := cflow (J := jX10_insert_71 0) C3 (fun ok => by
    obtain ⟨_, ts, P, R⟩ := z3.2.2.1 ok
    exact ⟨ts, ⟨P.2.2.1, P.2.2.2, P.1.er⟩, R⟩) z3.2.2.2 (fun ok => (zN ok).j n0 n1)
  have ts3 : TS2 h g3 := (ts1.t (TS2_co q2 (okS_T LSt_S))).t (TS2_co q3 (okS_T LF_S))
  have k3 : Kq h g3 := (k1.t (Kq_co q2 LSt_S (by omega))).t (Kq_co q3 LF_S (by omega))
  refine ⟨ok, g4, ?_, ⟨k3.t (Kq_SI q4 d8), TS2_SI' ts3 q4 (Nat.le_refl _) d8, ?_, ?_⟩, fun f f3 => ?_, w1, w2⟩
  · unfold fX10_insert
    have i641 : hI g1 641 0 = i32 T := by rw [(s1 0 (by omega)).1]; exact h641
    rw [C.o, gd_tt, C.r_state, oc_s, C.o_state, gd_tt, C.st.rD, oc_s, A.o, gd_tt, ctakes A p1 p2, bn_s, if_pos (by
      rw [decide_eq_true_eq]
      rcases vp with v | ⟨v1, v2, v3⟩
      · exact Or.inl v
      · exact Or.inr ⟨v1, v2, by rw [x.E.1 _ (by omega) (by omega)]; exact v3⟩), C.r_scratch, oc_s, C.o_scratch, gd_tt, c1, bn_s, C1.o, gd_tt, C1.r_parser, oc_s, C1.o_parser, gd_tt, C1.r_tape, i641, c2, bn_s, C2.o, gd_tt, C2.r_parser, oc_s, C2.o_parser, gd_tt]
    have en : fX3_readNodes 62 (i32 p) g2 = some (ok2, g3) := e3
    rw [en, bn2_s, eok]
    exact e4
  · rw [q4.sz]
    have := q3.2.1
    omega
  · have e : hsl g4 = hsl g3 := by unfold hsl; rw [q4.1]
    have l2 := q2.2.2.1
    have l3 := q3.2.2.1
    rw [e]; omega
  · have nf : LF.contains f = false := by rcases (show f = 0 ∨ f = 1 ∨ f = 2 by omega) with e | e | e <;> rw [e] <;> decide
    have ns : LSt.contains f = false := by rcases (show f = 0 ∨ f = 1 ∨ f = 2 by omega) with e | e | e <;> rw [e] <;> decide
    rw [q4.I (fun w => by rcases w with w | w | w <;> omega), q3.I3 (by omega) nf f3, q2.I3 (by omega) ns f3, f1.1 f (by omega)]
end

