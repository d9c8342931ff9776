/-! A LAYOUT -/
/-- row, column, whether the row is taken, rows, rows and columns of nodes -/
def LYt : Type := Int × Int × Bool × Int × (Int → Int) × (Int → Int)
def lyR (s : LYt) : Int := s.1
def lyC (s : LYt) : Int := s.2.1
def lyT (s : LYt) : Bool := s.2.2.1
def lyM (s : LYt) : Int := s.2.2.2.1
def lyX (s : LYt) : Int → Int := s.2.2.2.2.1
def lyY (s : LYt) : Int → Int := s.2.2.2.2.2
def lBR (c : Int) (s : LYt) : LYt := (if lyT s = true then lyR s + 1 else lyR s, c, false, lyM s, lyX s, lyY s)
def lST (n : Int) (s : LYt) : LYt := (lyR s, lyC s, true, lyR s + 1, updI (lyX s) n (lyR s), updI (lyY s) n (lyC s))
def lUP (b : Bool) (s : LYt) : LYt := (if b = true then lyR s + 1 else lyR s, lyC s, lyT s, lyM s, lyX s, lyY s)
def lCO (w : Int) (s : LYt) : LYt := (lyR s, lyC s + w, lyT s, lyM s, lyX s, lyY s)
def lGR (n d pg : Int) (s : LYt) : LYt := lBR (d + 1) (lST n (lUP (decide (2 ≤ pg ∧ lyR (lBR d s) % pg = pg - 1)) (lBR d s)))
def lFD (n d w cols : Int) (ap : Bool) (s : LYt) : LYt := lCO (w + 1) (lST n (if ap = true ∨ cols < lyC s + w then lBR d s else s))
/-- one node that is shown -/
def lND (F : Int → Int) (ap : Int → Bool) (cols pg n : Int) (s : LYt) : LYt := if 24 ≤ n then lGR n (dpt F 8 (F n)) pg s else lFD n (dpt F 8 (F n)) (F (160 + n)) cols (ap n) s
def lLV (F : Int → Int) (n : Int) : Int := if 24 ≤ n then dpt F 8 (F n) + 1 else dpt F 8 (F n)
/-- all nodes from a place of the order on -/
def lay9 (F : Int → Int) (sh ap : Int → Bool) (cols pg : Int) : Nat → Int → Int → LYt → LYt
  | 0, _, _, s => s
  | k + 1, i, l, s => if sh (F (256 + i)) = true then lay9 F sh ap cols pg k (i + 1) (lLV F (F (256 + i))) (lND F ap cols pg (F (256 + i)) (if dpt F 8 (F (F (256 + i))) < l then lBR (dpt F 8 (F (F (256 + i)))) s else s)) else lay9 F sh ap cols pg k (i + 1) l s
def ly0 : LYt := (0, 0, false, 0, fun _ => -2, fun _ => -2)
/-- bounds -/
def LYb (s : LYt) (i : Int) : Prop := 0 ≤ lyR s ∧ lyR s ≤ 4 * i ∧ 0 ≤ lyC s ∧ lyC s ≤ 20 + 11 * i
theorem i32_dv {a b : Int} (a0 : 0 ≤ a) (a1 : a < 2147483648) (b0 : 0 < b) (b1 : b < 2147483648) : i32 a / i32 b = i32 (a / b) := by
  have e := Int32.ofInt_tdiv (a := a) (b := b) (by rw [show Int32.minValue.toInt = -2147483648 from rfl]; omega) (by rw [show Int32.maxValue.toInt = 2147483647 from rfl]; omega) (by rw [show Int32.minValue.toInt = -2147483648 from rfl]; omega) (by rw [show Int32.maxValue.toInt = 2147483647 from rfl]; omega)
  rw [Int.tdiv_eq_ediv_of_nonneg a0] at e
  exact e.symm
def So7 (x : Nat) : Prop := x = 111 ∨ x = 112 ∨ x = 113
section
variable {h g : HP} {s : LYt}
/-- the layout that the class holds -/
def LYr (h : HP) (s : LYt) : Prop := hI h 64 111 = i32 (lyM s) ∧ hI h 65 111 = i32 (lyR s) ∧ hI h 66 111 = i32 (lyC s) ∧ hI h 67 111 = bI (lyT s) ∧ ∀ n, 0 ≤ n → n < 32 → hA h 112 n.toNat = i32 (lyX s n) ∧ hA h 113 n.toNat = i32 (lyY s n)
theorem cBR (C : CS h) (r : LYr h s) (c : Int) : ∃ g, fX1_beginRow 111 (i32 c) h = some g ∧ So So7 h g ∧ LYr g (lBR c s) := by
  obtain ⟨r1, r2, r3, r4, r5⟩ := r
  unfold fX1_beginRow jX1_beginRow_22
  rw [C.o_layout, gd_tt, r4]
  by_cases t : lyT s = true
  · obtain ⟨g1, e1⟩ : ∃ g1, g1 = sI h 65 111 (i32 (lyR s + 1)) := ⟨_, rfl⟩
    obtain ⟨g2, e2⟩ : ∃ g2, g2 = sI g1 67 111 (i32 0) := ⟨_, rfl⟩
    obtain ⟨g3, e3⟩ : ∃ g3, g3 = sI g2 66 111 (i32 c) := ⟨_, rfl⟩
    have p1 : So So7 h g1 := by rw [e1]; exact So_I (S := So7) (Or.inl rfl) _ _
    have p2 : So So7 g1 g2 := by rw [e2]; exact So_I (S := So7) (Or.inl rfl) _ _
    have p3 : So So7 g2 g3 := by rw [e3]; exact So_I (S := So7) (Or.inl rfl) _ _
    have C2 := C.sk (p1.1.trans p2.1)
    have n0 : ¬ bI (lyT s) = 0 := by rw [t]; decide
    rw [if_neg n0, r2, i32_add, ← e1, lt_e, ← e2, lt_e, C2.o_layout, gd_tt, ← e3, lt_e]
    refine ⟨g3, rfl, p1.t (p2.t p3), ?_, ?_, ?_, ?_, fun n n0 n1 => ?_⟩
    · rw [e3, rII, if_neg (by omega), e2, rII, if_neg (by omega), e1, rII, if_neg (by omega)]; exact r1
    · rw [e3, rII, if_neg (by omega), e2, rII, if_neg (by omega), e1, rII, if_pos ⟨rfl, rfl⟩]
      show _ = i32 (if lyT s = true then lyR s + 1 else lyR s)
      rw [if_pos t]
    · rw [e3, rII, if_pos ⟨rfl, rfl⟩]; rfl
    · rw [e3, rII, if_neg (by omega), e2, rII, if_pos ⟨rfl, rfl⟩]; rfl
    · rw [e3, rAI, e2, rAI, e1, rAI]; exact r5 n n0 n1
  · obtain ⟨g3, e3⟩ : ∃ g3, g3 = sI h 66 111 (i32 c) := ⟨_, rfl⟩
    have p3 : So So7 h g3 := by rw [e3]; exact So_I (S := So7) (Or.inl rfl) _ _
    have t' : lyT s = false := by
      cases w : lyT s with
      | false => rfl
      | true => exact absurd w t
    have n0 : bI (lyT s) = 0 := by rw [t']; rfl
    rw [if_pos n0, gd_tt, ← e3, lt_e]
    refine ⟨g3, rfl, p3, ?_, ?_, ?_, ?_, fun n n0 n1 => ?_⟩
    · rw [e3, rII, if_neg (by omega)]; exact r1
    · rw [e3, rII, if_neg (by omega), r2]
      show _ = i32 (if lyT s = true then lyR s + 1 else lyR s)
      rw [if_neg t]
    · rw [e3, rII, if_pos ⟨rfl, rfl⟩]; rfl
    · rw [e3, rII, if_neg (by omega), r4, t']; rfl
    · rw [e3, rAI]; exact r5 n n0 n1
theorem cST (C : CS h) (r : LYr h s) {n : Int} (n0 : 0 ≤ n) (n1 : n < 32) : ∃ g, fX1_stand 111 (i32 n) h = some g ∧ So So7 h g ∧ LYr g (lST n s) := by
  obtain ⟨r1, r2, r3, r4, r5⟩ := r
  obtain ⟨g1, e1⟩ : ∃ g1, g1 = sA h 112 n.toNat (i32 (lyR s)) := ⟨_, rfl⟩
  obtain ⟨g2, e2⟩ : ∃ g2, g2 = sA g1 113 n.toNat (i32 (lyC s)) := ⟨_, rfl⟩
  obtain ⟨g3, e3⟩ : ∃ g3, g3 = sI g2 67 111 (i32 1) := ⟨_, rfl⟩
  obtain ⟨g4, e4⟩ : ∃ g4, g4 = sI g3 64 111 (i32 (lyR s + 1)) := ⟨_, rfl⟩
  have p1 : So So7 h g1 := by rw [e1]; exact So_A (S := So7) (Or.inr (Or.inl rfl)) _ _
  have p2 : So So7 g1 g2 := by rw [e2]; exact So_A (S := So7) (Or.inr (Or.inr rfl)) _ _
  have p3 : So So7 g2 g3 := by rw [e3]; exact So_I (S := So7) (Or.inl rfl) _ _
  have p4 : So So7 g3 g4 := by rw [e4]; exact So_I (S := So7) (Or.inl rfl) _ _
  have C1 := C.sk p1.1
  have C2 := C1.sk p2.1
  have i66 : hI g1 66 111 = i32 (lyC s) := by rw [e1, rIA]; exact r3
  have i65 : hI g3 65 111 = i32 (lyR s) := by rw [e3, rII, if_neg (by omega), e2, rIA, e1, rIA]; exact r2
  unfold fX1_stand jX1_stand_30
  rw [if_neg (by rw [i32_z, i32_lt (by omega) (by omega) (by omega) (by omega)]; omega), if_neg (by rw [i32_le (by omega) (by omega) (by omega) (by omega)]; omega), C.o_layout, gd_tt, C.r_nrows, oc_s, C.o_nrows, gd_tt, C.n_nrows, i32_inb n0 (by omega) (by omega), gd_tt, i32_cn n0 (by omega), r2, ← e1, lt_e, C1.r_ncols, oc_s, C1.o_ncols, gd_tt, C1.n_ncols, i32_inb n0 (by omega) (by omega), gd_tt, i66, ← e2, lt_e, C2.o_layout, gd_tt, ← e3, lt_e, i65, i32_add, ← e4, lt_e]
  refine ⟨g4, rfl, p1.t (p2.t (p3.t p4)), ?_, ?_, ?_, ?_, fun m m0 m1 => ?_⟩
  · rw [e4, rII, if_pos ⟨rfl, rfl⟩]; rfl
  · rw [e4, rII, if_neg (by omega), i65]; rfl
  · rw [e4, rII, if_neg (by omega), e3, rII, if_neg (by omega), e2, rIA, i66]; rfl
  · rw [e4, rII, if_neg (by omega), e3, rII, if_pos ⟨rfl, rfl⟩]; rfl
  · rw [e4, rAI, e3, rAI, e2, rAA, rAA, e1, rAA, rAA]
    show _ = i32 (updI (lyX s) n (lyR s) m) ∧ _ = i32 (updI (lyY s) n (lyC s) m)
    by_cases w : m = n
    · rw [updI_at w, updI_at w, if_neg (by omega), if_pos ⟨rfl, by rw [w]⟩, if_pos ⟨rfl, by rw [w]⟩]
      exact ⟨rfl, rfl⟩
    · rw [updI_ne w, updI_ne w, if_neg (by omega), if_neg (by omega), if_neg (by omega), if_neg (by omega)]
      exact r5 m m0 m1
theorem cGR (C : CS h) (r : LYr h s) {n d pg i : Int} (n0 : 0 ≤ n) (n1 : n < 32) (d0 : 0 ≤ d) (d1 : d ≤ 8) (pg0 : 0 ≤ pg) (pg1 : pg ≤ 60) (b : LYb s i) (i1 : i ≤ 40) : ∃ g, fX1_arrangeGroup 111 (i32 n) (i32 d) (i32 pg) h = some g ∧ So So7 h g ∧ LYr g (lGR n d pg s) := by
  obtain ⟨g1, a1, p1, r1⟩ := cBR C r d
  have C1 := C.sk p1.1
  have R := r1.2.1
  have hb : 0 ≤ lyR (lBR d s) ∧ lyR (lBR d s) ≤ 4 * i + 1 := by
    show 0 ≤ (if lyT s = true then lyR s + 1 else lyR s) ∧ (if lyT s = true then lyR s + 1 else lyR s) ≤ 4 * i + 1
    have := b.1
    have := b.2.1
    split <;> omega
  have fin : ∀ (g2 : HP) (u : Bool), CS g2 → So So7 h g2 → LYr g2 (lUP u (lBR d s)) → ∃ g, jX1_arrangeGroup_32 111 (i32 n) (i32 d) g2 = some g ∧ So So7 h g ∧ LYr g (lBR (d + 1) (lST n (lUP u (lBR d s)))) := fun g2 u C2 p2 r2 => by
    obtain ⟨g3, a3, p3, r3⟩ := cST C2 r2 n0 n1
    have C3 := C2.sk p3.1
    obtain ⟨g4, a4, p4, r4⟩ := cBR C3 r3 (d + 1)
    refine ⟨g4, ?_, p2.t (p3.t p4), r4⟩
    unfold jX1_arrangeGroup_32
    rw [C2.o_layout, gd_tt, a3, bn_s, C3.o_layout, gd_tt, i32_add, a4, bn_s]
  unfold fX1_arrangeGroup lGR
  rw [C.o_layout, gd_tt, a1, bn_s]
  by_cases c : 2 ≤ pg
  · have nzp : nz (i32 pg) = true := by
      unfold nz
      rw [decide_eq_true_eq, i32_z, i32_eq (by omega) (by omega) (by omega) (by omega)]
      omega
    have md : (i32 (lyR (lBR d s)) - i32 (lyR (lBR d s)) / i32 pg * i32 pg = i32 pg - i32 1) ↔ lyR (lBR d s) % pg = pg - 1 := by
      have dm := Int.emod_add_mul_ediv (lyR (lBR d s)) pg
      have m0 := Int.emod_nonneg (lyR (lBR d s)) (show pg ≠ 0 by omega)
      have m1 := Int.emod_lt_of_pos (lyR (lBR d s)) (show 0 < pg by omega)
      have cm : lyR (lBR d s) / pg * pg = pg * (lyR (lBR d s) / pg) := Int.mul_comm _ _
      rw [i32_dv hb.1 (by omega) (by omega) (by omega), i32_mul, i32_sub, i32_sub, cm, show lyR (lBR d s) - pg * (lyR (lBR d s) / pg) = lyR (lBR d s) % pg by omega, i32_eq (by omega) (by omega) (by omega) (by omega)]
    rw [if_neg (by rw [i32_lt (by omega) (by omega) (by omega) (by omega)]; omega), C1.o_layout, gd_tt, nzp, gd_tt, R, lt_e]
    by_cases e : lyR (lBR d s) % pg = pg - 1
    · rw [if_pos (md.mpr e), decide_eq_true ⟨c, e⟩]
      obtain ⟨g2, e2⟩ : ∃ g2, g2 = sI g1 65 111 (i32 (lyR (lBR d s) + 1)) := ⟨_, rfl⟩
      have p2 : So So7 g1 g2 := by rw [e2]; exact So_I (S := So7) (Or.inl rfl) _ _
      rw [i32_add, ← e2, lt_e]
      refine fin g2 true (C1.sk p2.1) (p1.t p2) ⟨?_, ?_, ?_, ?_, fun m m0 m1 => ?_⟩
      · rw [e2, rII, if_neg (by omega)]; exact r1.1
      · rw [e2, rII, if_pos ⟨rfl, rfl⟩]; rfl
      · rw [e2, rII, if_neg (by omega)]; exact r1.2.2.1
      · rw [e2, rII, if_neg (by omega)]; exact r1.2.2.2.1
      · rw [e2, rAI]; exact r1.2.2.2.2 m m0 m1
    · rw [if_neg (fun z => e (md.mp z)), decide_eq_false (fun z => e z.2)]
      exact fin g1 false C1 p1 r1
  · rw [if_pos (by rw [i32_lt (by omega) (by omega) (by omega) (by omega)]; omega), decide_eq_false (fun z => c z.1)]
    exact fin g1 false C1 p1 r1
end

