/-! MOVE -/
section
variable {F G H H' : Int → Int} {x p e ins to : Int}
theorem MVD.ov (m : MVD F G H x p e ins to) (t : TR F) (s : STR F x p e) (c : CUT F G x p e) (l : LG G ins to) : OV H := by
  have O := t.ov
  have o1 := O.1
  have o2 := O.2.1
  have e1 := m.2.2.1
  refine ⟨by omega, by omega, fun j j0 j1 => ?_⟩
  obtain ⟨w1, w2, w3⟩ := m.od c l s j0 (by omega)
  rw [w1]; exact O.2.2 _ w2 w3
theorem MVD.E (m : MVD F G H x p e ins to) (m' : MVD F G H' x p e ins to) : EqT H' H := by
  obtain ⟨a1, a2, a3, a4, a5, a6⟩ := m
  obtain ⟨c1, c2, c3, c4, c5, c6⟩ := m'
  refine ⟨fun n n0 n1 => ?_, by omega, fun i i0 i1 => ?_⟩
  · by_cases z : n = x
    · rw [z, a2, c2]
    · rw [a1 n n0 n1 z, c1 n n0 n1 z]
  · by_cases z : i < to
    · rw [a4 i i0 z, c4 i i0 z]
    · by_cases w : i < to + (e - p)
      · rw [a5 i (by omega) w, c5 i (by omega) w]
      · rw [a6 i (by omega) (by omega), c6 i (by omega) (by omega)]
theorem acy_any {N : Int → Int32} : anyf (fun f => bt (cl N 24 (N f)) f) 24 0 = false ↔ Acy N := by
  constructor
  · intro h f f0 f1
    cases z : bt (cl N 24 (N f)) f with
    | false => rfl
    | true =>
      have : anyf (fun f => bt (cl N 24 (N f)) f) 24 0 = true := anyf_iff 24 0 |>.mpr ⟨f, f0, by omega, z⟩
      rw [h] at this; cases this
  · intro a
    cases z : anyf (fun f => bt (cl N 24 (N f)) f) 24 0 with
    | false => rfl
    | true =>
      obtain ⟨f, f0, f1, w⟩ := (anyf_iff 24 0).mp z
      rw [a f f0 (by omega)] at w; cases w
end
section
variable {h g : HP} {k np T : Nat}
theorem rr_end (R : RR h k) (er : hI h 642 0 = hI h 706 983) {b : Int → Int} (h714 : hI h 714 983 = i32 np) (t1 : hI h 641 0 = i32 T) (t2 : hI h 705 983 = i32 T) (t3 : T ≤ 1200) (t4 : TB h 1 b T) (t5 : TB h 984 b T) (b1 : np + T ≤ 20 * k) (b2 : hsz h + T ≤ 1008 + 20 * k) (b3 : hsl h + 6 * T ≤ 80000 + 120 * k) (rc : RC g np) (i0 : ∀ f, f = 641 ∨ f = 642 → hI g f 0 = hI h f 0) (i3 : ∀ f, f = 705 ∨ f = 706 ∨ f = 714 → hI g f 983 = hI h f 983) (a1 : hA g 1 = hA h 1) (a4 : hA g 984 = hA h 984) (hz : g.1 = h.1) : RR g (k + 1) := by
  have z : hsz g = hsz h := by unfold hsz; rw [hz]
  have z' : hsl g = hsl h := by unfold hsl; rw [hz]
  exact RC.rr rc (T := T) (by rw [i0 642 (Or.inr rfl), i3 706 (Or.inr (Or.inl rfl))]; exact er) (by rw [i3 714 (Or.inr (Or.inr rfl))]; exact h714) ⟨b, by rw [i0 641 (Or.inl rfl)]; exact t1, by rw [i3 705 (Or.inl rfl)]; exact t2, t3, TB_e t4 a1, TB_e t5 a4⟩ (by omega) (by omega) (by omega)
/-- what the class has written aside -/
theorem mv_scr {F G : Int → Int} {x p e pp E gr y : Int} (rc : RC h np) (eF : F = Wm h) (s : STR F x p e) (x0 : 0 ≤ x) (x1 : x < 32) (xp : F x ≠ -1) (c : CUT F G x p e) (hg : gr = -2 ∨ (0 ≤ gr ∧ gr < 8)) (y1 : -2147483648 ≤ y) (y2 : y < 2147483648) (n : EN G (gno gr) pp E) (hi : INq F x (gno gr)) : ∃ g1 gT, fX0_copyFrom 63 (some 3) h = some g1 ∧ CS g1 ∧ fX0_transfer 63 (i32 x) (i32 gr) (i32 y) g1 = some gT ∧ So (inF 63) h gT ∧ (∀ f, f < 3 → hI gT f 63 = hI h f 3) ∧ ∀ H, MVD F G H x p e (gno gr) (nth (son G (gno gr)) y E (G 288).toNat 0 0) → (∀ q, 32 ≤ q → q < 292 → ¬ (256 ≤ q ∧ q < 289) → H q = F q) → FRc gT 63 H (sgm (Pt h) F) := by
  obtain ⟨C, M, K, n24, sz, d8, sr, past⟩ := rc
  have fx : FRx h 3 F np := by rw [eF]; exact sr.x
  have A : FormAt h (2 + 1) := C.st.d
  have t := fx.tr
  obtain ⟨g1, c1, q1, f1⟩ := copyForm C.sf A (Or.inr (by omega)) (fun i hi => fx.fb.isB i hi)
  have C1 : CS g1 := C.sk q1.1
  have s1 : ∀ y, (y < 63 ∨ 99 ≤ y) → Sm h g1 y := fun y hy => q1.2.2 y (fun z => by have := z.1; have := z.2; omega)
  have ts1 : TS2 h g1 := TS2_So (q1.w (T := fun y => y < 1008) (fun y z => by have := z.2; omega)) (fun y z => z)
  have a990 : hA g1 990 = hA h 990 := funext (s1 990 (by omega)).2.2.2.1
  have x1' : FRx g1 63 F np := FRx_eq fx f1 ts1 (fun q _ => by rw [a990]) (funext (s1 985 (by omega)).2.2.2.1) (Nat.le_refl _)
  have eP : Pt g1 = Pt h := by funext q; unfold Pt; rw [a990]
  obtain ⟨gT, c2, q2, fb, i5, nd⟩ := ctransfer C1.sf x1'.1.1 t s x0 x1 xp c hg y1 y2 n (fun g0 => by
    rcases hi with z | z
    · have : gno gr = 24 + gr := if_pos ⟨g0, by omega⟩
      omega
    · exact z.2)
  have ts2 : TS2 g1 gT := TS2_So (q2.w (T := fun y => y < 1008) (fun y z => by have := z.2; omega)) (fun y z => z)
  refine ⟨g1, gT, c1, C1, c2, q1.t q2, fun f hf => by rw [i5 f (by omega), f1.1 f (by omega)], fun H mv rows => ⟨fb H mv rows, fun m m0 m1 mp => ?_⟩⟩
  have fp := (mv.pr hi xp m0 m1).mp mp
  have cd := x1'.cd m0 m1 fp
  rw [eP] at cd
  obtain ⟨z1, z2, z3⟩ := nd m.toNat (by omega)
  exact CND_ts cd ts2 (Nat.le_refl _) ts2.1 (z3 135) (z1 136 (by omega)) (z1 137 (by omega))
end

