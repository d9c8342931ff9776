/-! APPEND AND TRUNCATE -/
def wby (v : Int32) (q : Nat) : Int32 := ((v >>> (i32 (24 - 8 * (q : Int)) &&& 31)).toInt8.toInt32).toInt8.toInt32
theorem wby_rng (v : Int32) (q : Nat) : -128 ≤ (wby v q).toInt ∧ (wby v q).toInt < 128 := by
  unfold wby
  rw [Int8.toInt_toInt32]
  exact ⟨Int8.le_toInt _, Int8.toInt_lt _⟩
/-- a word's four bytes behind T others -/
def apA (φ : Nat → Int32) (T : Nat) (v : Int32) (i : Nat) : Int32 := if T ≤ i ∧ i < T + 4 then wby v (i - T) else φ i
section
variable {h : HP}
theorem cput {S : Nat → Prop} (s0 : S 0) (s1 : S 1) (C : CS h) {T : Nat} (hT : hI h 641 0 = i32 T) (l : T + 4 ≤ 1200) (v : Int32) : ∃ g, fX10_putWord 0 v h = some g ∧ So S h g ∧ hI g 641 0 = i32 (T + 4 : Nat) ∧ (∀ f x, (f ≠ 641 ∨ x ≠ 0) → hI g f x = hI h f x) ∧ (∀ i, hA g 1 i = apA (hA h 1) T v i) ∧ ∀ x, x ≠ 1 → hA g x = hA h x := by
  have key : ∀ (d n : Nat) (q : Nat) (f : HP), q + d = 4 → d < n → CS f → hI f 641 0 = i32 (T + q : Nat) → ∃ g, lX10_putWord_3 n 0 v (i32 (24 - 8 * (q : Int))) f = some g ∧ So S f g ∧ hI g 641 0 = i32 (T + 4 : Nat) ∧ (∀ f' x, (f' ≠ 641 ∨ x ≠ 0) → hI g f' x = hI f f' x) ∧ (∀ i, hA g 1 i = if T + q ≤ i ∧ i < T + 4 then wby v (i - T) else hA f 1 i) ∧ ∀ x, x ≠ 1 → hA g x = hA f x := by
    intro d
    induction d with
    | zero =>
      intro n q f hq hn Cf ef
      obtain ⟨m, rfl⟩ : ∃ m, n = m + 1 := ⟨n - 1, by omega⟩
      obtain rfl : q = 4 := by omega
      refine ⟨f, ?_, So.r, ef, fun _ _ _ => rfl, fun i => by rw [if_neg (by omega)], fun _ _ => rfl⟩
      rw [elX10_putWord_3]; unfold bX10_putWord_3
      rw [if_pos (by decide)]
    | succ d ih =>
      intro n q f hq hn Cf ef
      obtain ⟨m, rfl⟩ : ∃ m, n = m + 1 := ⟨n - 1, by omega⟩
      obtain ⟨f1, e1⟩ : ∃ f1, f1 = sA f 1 (T + q) (wby v q) := ⟨_, rfl⟩
      obtain ⟨f2, e2⟩ : ∃ f2, f2 = sI f1 641 0 (i32 (T + (q + 1) : Nat)) := ⟨_, rfl⟩
      have i1 : hI f1 641 0 = i32 (T + q : Nat) := by rw [e1, rIA]; exact ef
      have p1 : So S f f1 := by rw [e1]; exact So_A s1 _ _
      have p2 : So S f1 f2 := by rw [e2]; exact So_I s0 _ _
      obtain ⟨g, a1, a2, a3, a4, a5, a6⟩ := ih m (q + 1) f2 (by omega) (by omega) (Cf.sk (p1.t p2).1) (by rw [e2, rII, if_pos ⟨rfl, rfl⟩])
      refine ⟨g, ?_, (p1.t p2).t a2, a3, fun f' x hx => ?_, fun i => ?_, fun x hx => ?_⟩
      · rw [elX10_putWord_3]; unfold bX10_putWord_3
        rw [if_neg (by rw [i32_z, i32_lt (by omega) (by omega) (by omega) (by omega)]; omega), Cf.o, gd_tt, ef, if_neg (by rw [i32_z, i32_lt (by omega) (by omega) (by omega) (by omega)]; omega), if_neg (by rw [i32_le (by omega) (by omega) (by omega) (by omega)]; omega), Cf.r_tape, oc_s, Cf.o_tape, gd_tt, Cf.n_tape, i32_inb (by omega) (by omega) (by omega), gd_tt, i32_cn (by omega) (by omega), show ((T + q : Nat) : Int).toNat = T + q from rfl, show ((v >>> (i32 (24 - 8 * (q : Int)) &&& 31)).toInt8.toInt32).toInt8.toInt32 = wby v q from rfl, ← e1, lt_e, i1, i32_add, show (((T + q : Nat) : Int) + 1) = (T + (q + 1) : Nat) by omega, ← e2, lt_e]
        unfold jX10_putWord_47
        rw [lt_e, i32_add, show 24 - 8 * (q : Int) + -8 = 24 - 8 * ((q + 1 : Nat) : Int) by omega]
        exact a1
      · rw [a4 f' x hx, e2, rII, if_neg (fun z => by rcases hx with y | y; exact y z.1; exact y z.2), e1, rIA]
      · rw [a5, e2, rAI, e1, rAA]
        by_cases c : T + (q + 1) ≤ i ∧ i < T + 4
        · rw [if_pos c, if_pos (by omega)]
        · rw [if_neg c]
          by_cases y : i = T + q
          · rw [if_pos ⟨rfl, y⟩, if_pos (by omega), y, Nat.add_sub_cancel_left]
          · rw [if_neg (fun z => y z.2), if_neg (by omega)]
      · rw [a6 x hx, e2, rAI]
        funext i
        rw [e1, rAA, if_neg (fun z => hx z.1)]
  obtain ⟨g, a1, a2, a3, a4, a5, a6⟩ := key 4 FU 0 h (by omega) (by decide) C hT
  exact ⟨g, a1, a2, a3, a4, a5, a6⟩
theorem mput {S : Nat → Prop} (s0 : S 983) (s1 : S 984) (M : MS h) {T : Nat} (hT : hI h 705 983 = i32 T) (l : T + 4 ≤ 1200) (v : Int32) : ∃ g, fX11_puts 983 v h = some g ∧ So S h g ∧ hI g 705 983 = i32 (T + 4 : Nat) ∧ (∀ f x, (f ≠ 705 ∨ x ≠ 983) → hI g f x = hI h f x) ∧ (∀ i, hA g 984 i = apA (hA h 984) T v i) ∧ ∀ x, x ≠ 984 → hA g x = hA h x := by
  have key : ∀ (d n : Nat) (q : Nat) (f : HP), q + d = 4 → d < n → MS f → hI f 705 983 = i32 (T + q : Nat) → ∃ g, lX11_puts_3 n 983 v (i32 (24 - 8 * (q : Int))) f = some g ∧ So S f g ∧ hI g 705 983 = i32 (T + 4 : Nat) ∧ (∀ f' x, (f' ≠ 705 ∨ x ≠ 983) → hI g f' x = hI f f' x) ∧ (∀ i, hA g 984 i = if T + q ≤ i ∧ i < T + 4 then wby v (i - T) else hA f 984 i) ∧ ∀ x, x ≠ 984 → hA g x = hA f x := by
    intro d
    induction d with
    | zero =>
      intro n q f hq hn Cf ef
      obtain ⟨m, rfl⟩ : ∃ m, n = m + 1 := ⟨n - 1, by omega⟩
      obtain rfl : q = 4 := by omega
      refine ⟨f, ?_, So.r, ef, fun _ _ _ => rfl, fun i => by rw [if_neg (by omega)], fun _ _ => rfl⟩
      rw [elX11_puts_3]; unfold bX11_puts_3
      rw [if_pos (by decide)]
    | succ d ih =>
      intro n q f hq hn Cf ef
      obtain ⟨m, rfl⟩ : ∃ m, n = m + 1 := ⟨n - 1, by omega⟩
      obtain ⟨f1, e1⟩ : ∃ f1, f1 = sA f 984 (T + q) (wby v q) := ⟨_, rfl⟩
      obtain ⟨f2, e2⟩ : ∃ f2, f2 = sI f1 705 983 (i32 (T + (q + 1) : Nat)) := ⟨_, rfl⟩
      have i1 : hI f1 705 983 = i32 (T + q : Nat) := by rw [e1, rIA]; exact ef
      have p1 : So S f f1 := by rw [e1]; exact So_A s1 _ _
      have p2 : So S f1 f2 := by rw [e2]; exact So_I s0 _ _
      obtain ⟨g, a1, a2, a3, a4, a5, a6⟩ := ih m (q + 1) f2 (by omega) (by omega) (Cf.sk (p1.t p2).1) (by rw [e2, rII, if_pos ⟨rfl, rfl⟩])
      refine ⟨g, ?_, (p1.t p2).t a2, a3, fun f' x hx => ?_, fun i => ?_, fun x hx => ?_⟩
      · rw [elX11_puts_3]; unfold bX11_puts_3
        rw [if_neg (by rw [i32_z, i32_lt (by omega) (by omega) (by omega) (by omega)]; omega), Cf.o, gd_tt, Cf.r_tape, oc_s, Cf.o_tape, gd_tt, ef, Cf.n_tape, i32_inb (by omega) (by omega) (by omega), gd_tt, i32_cn (by omega) (by omega), show ((T + q : Nat) : Int).toNat = T + q from rfl, show ((v >>> (i32 (24 - 8 * (q : Int)) &&& 31)).toInt8.toInt32).toInt8.toInt32 = wby v q from rfl, ← e1, lt_e, i1, i32_add, show (((T + q : Nat) : Int) + 1) = (T + (q + 1) : Nat) by omega, ← e2, lt_e, lt_e, i32_add, show 24 - 8 * (q : Int) + -8 = 24 - 8 * ((q + 1 : Nat) : Int) by omega]
        exact a1
      · rw [a4 f' x hx, e2, rII, if_neg (fun z => by rcases hx with y | y; exact y z.1; exact y z.2), e1, rIA]
      · rw [a5, e2, rAI, e1, rAA]
        by_cases c : T + (q + 1) ≤ i ∧ i < T + 4
        · rw [if_pos c, if_pos (by omega)]
        · rw [if_neg c]
          by_cases y : i = T + q
          · rw [if_pos ⟨rfl, y⟩, if_pos (by omega), y, Nat.add_sub_cancel_left]
          · rw [if_neg (fun z => y z.2), if_neg (by omega)]
      · rw [a6 x hx, e2, rAI]
        funext i
        rw [e1, rAA, if_neg (fun z => hx z.1)]
  obtain ⟨g, a1, a2, a3, a4, a5, a6⟩ := key 4 FU 0 h (by omega) (by decide) M hT
  exact ⟨g, a1, a2, a3, a4, a5, a6⟩
/-- the addresses of the two objects and their tapes -/
def S4 (x : Nat) : Prop := x = 0 ∨ x = 1 ∨ x = 983 ∨ x = 984
/-- the state stands, the tape is another -/
theorem RR_so {g : HP} {k k' T T' : Nat} (R : RR h k) (p : So S4 h g) (er : hI g 642 0 = hI g 706 983) (e714 : hI g 714 983 = hI h 714 983) (e712 : hI g 712 983 = hI h 712 983) (e646 : hI g 646 0 = hI h 646 0) (e647 : hI g 647 0 = hI h 647 0) (hT : hI h 641 0 = i32 T) (hl : T ≤ 1200) (t : TapeR g T') (c : T' + 20 * k ≤ T + 20 * k') (hk : k ≤ k') : RR g k' := by
  obtain ⟨C, M, K, n24, ⟨s1, s2, s3, sz⟩, _, np, T0, h714, ⟨b, t1, t2, t3, t4, t5⟩, b1, ⟨b2, b2'⟩, b3, sr, ⟨u, pp, p1, p2, p3, p4, p5, pm, p6⟩⟩ := R
  obtain rfl : T0 = T := by
    rw [hT, i32_eq (by omega) (by omega) (by omega) (by omega)] at t1
    omega
  have sm : ∀ x, x ≠ 0 → x ≠ 1 → x ≠ 983 → x ≠ 984 → Sm h g x := fun x a b c d => p.2.2 x (fun z => by rcases z with z | z | z | z <;> omega)
  have eA : ∀ x, x ≠ 0 → x ≠ 1 → x ≠ 983 → x ≠ 984 → hA g x = hA h x := fun x a b c d => by funext i; exact (sm x a b c d).2.2.2.1 i
  have eL : ∀ x, x ≠ 0 → x ≠ 1 → x ≠ 983 → x ≠ 984 → hL g x = hL h x := fun x a b c d => by funext i; exact (sm x a b c d).2.2.2.2.1 i
  have eW : Wm g = Wm h := by funext q; unfold Wm; rw [eL 987 (by omega) (by omega) (by omega) (by omega)]
  have eU : ∀ j, Un g j = Un h j := by intro j; funext q; unfold Un; rw [eL 989 (by omega) (by omega) (by omega) (by omega)]
  have ts := TS2_So p (fun x z => by rcases z with z | z | z | z <;> omega)
  have pl : PlS np h g := fun q _ => by rw [eA 990 (by omega) (by omega) (by omega) (by omega)]
  have e5 := eA 985 (by omega) (by omega) (by omega) (by omega)
  have hs : hsz g = hsz h := by unfold hsz; rw [p.2.1]
  have hl' : hsl g = hsl h := by unfold hsl; rw [p.2.1]
  have st : ∀ {a : Nat} {W : Int → Int}, 2 ≤ a → a + 58 ≤ 983 → SR h a W np → SR g a W np := fun a0 a1 r => SR_eq r (StateEq_sm (fun x hx => sm x (by have := hx.1; omega) (by have := hx.1; omega) (by have := hx.2; omega) (by have := hx.2; omega))) ts pl e5 (Nat.le_refl _) (fun q hq => FormEq_sm (fun x hx => sm x (by have := hx.1; omega) (by have := hx.1; omega) (by have := hx.2; omega) (by have := hx.2; omega)))
  refine ⟨C.sk p.1, M.sk p.1, fun i hi => ?_, n24.e (eA 991 (by omega) (by omega) (by omega) (by omega)) (eA 999 (by omega) (by omega) (by omega) (by omega)), ⟨s1, s2, s3, ?_⟩, er, np, T', by rw [e714]; exact h714, t, by omega, ⟨by omega, by omega⟩, by omega, ?_, ⟨u, pp, p1, p2, by rw [e646]; exact p3, by rw [e647]; exact p4, by rw [e712]; exact p5, by rw [eW, show Un g = Un h from funext eU]; exact pm, fun j hj => ?_⟩⟩
  · rw [eL 104 (by omega) (by omega) (by omega) (by omega)]; exact K i hi
  · rw [e5]; exact sz
  · rw [eW]; exact st (by omega) (by omega) sr
  · have hq : psl u pp j < 10 := Nat.mod_lt _ (by omega)
    rw [eU]; exact st (by omega) (by omega) (p6 j hj)
theorem rd_append {k : Nat} (R : RR h k) (w1 w2 w3 w4 w5 : Int32) : ∃ r g g', fX10_append 0 w1 w2 w3 w4 w5 h = some (r, g) ∧ fX11_append 983 w1 w2 w3 w4 w5 g = some (r, g') ∧ RR g' (k + 1) := by
  have R' := R
  obtain ⟨C, M, K, n24, _, er, np, T, h714, ⟨b, t1, t2, t3, t4, t5⟩, _⟩ := R'
  by_cases c : T + 20 ≤ 1200
  rotate_left
  · refine ⟨i32 (-1), h, h, ?_, ?_, RR_up R (by omega)⟩
    · unfold fX10_append
      rw [C.o, gd_tt, t1, i32_add, if_neg (by rw [i32_le (by omega) (by omega) (by omega) (by omega)]; omega)]
    · unfold fX11_append
      rw [M.o, gd_tt, t2, i32_add, if_neg (by rw [i32_le (by omega) (by omega) (by omega) (by omega)]; omega)]
  have s0 : S4 0 := Or.inl rfl
  have s1 : S4 1 := Or.inr (Or.inl rfl)
  have s2 : S4 983 := Or.inr (Or.inr (Or.inl rfl))
  have s3 : S4 984 := Or.inr (Or.inr (Or.inr rfl))
  obtain ⟨c1, x1, y1, z1, i1, a1, o1⟩ := cput s0 s1 C t1 (by omega) w1
  obtain ⟨c2, x2, y2, z2, i2, a2, o2⟩ := cput s0 s1 (C.sk y1.1) z1 (by omega) w2
  obtain ⟨c3, x3, y3, z3, i3, a3, o3⟩ := cput s0 s1 (C.sk (y1.t y2).1) z2 (by omega) w3
  obtain ⟨c4, x4, y4, z4, i4, a4, o4⟩ := cput s0 s1 (C.sk ((y1.t y2).t y3).1) z3 (by omega) w4
  obtain ⟨c5, x5, y5, z5, i5, a5, o5⟩ := cput s0 s1 (C.sk (((y1.t y2).t y3).t y4).1) z4 (by omega) w5
  have yc := ((((y1.t y2).t y3).t y4).t y5)
  have ic : ∀ f x, (f ≠ 641 ∨ x ≠ 0) → hI c5 f x = hI h f x := fun f x hx => by rw [i5 f x hx, i4 f x hx, i3 f x hx, i2 f x hx, i1 f x hx]
  have M5 : MS c5 := M.sk yc.1
  have t2' : hI c5 705 983 = i32 T := by rw [ic 705 983 (Or.inl (by omega))]; exact t2
  obtain ⟨d1, X1, Y1, Z1, I1, A1, O1⟩ := mput s2 s3 M5 t2' (by omega) w1
  obtain ⟨d2, X2, Y2, Z2, I2, A2, O2⟩ := mput s2 s3 (M5.sk Y1.1) Z1 (by omega) w2
  obtain ⟨d3, X3, Y3, Z3, I3, A3, O3⟩ := mput s2 s3 (M5.sk (Y1.t Y2).1) Z2 (by omega) w3
  obtain ⟨d4, X4, Y4, Z4, I4, A4, O4⟩ := mput s2 s3 (M5.sk ((Y1.t Y2).t Y3).1) Z3 (by omega) w4
  obtain ⟨d5, X5, Y5, Z5, I5, A5, O5⟩ := mput s2 s3 (M5.sk (((Y1.t Y2).t Y3).t Y4).1) Z4 (by omega) w5
  have yd := ((((Y1.t Y2).t Y3).t Y4).t Y5)
  have id5 : ∀ f x, (f ≠ 705 ∨ x ≠ 983) → hI d5 f x = hI c5 f x := fun f x hx => by rw [I5 f x hx, I4 f x hx, I3 f x hx, I2 f x hx, I1 f x hx]
  have od5 : ∀ x, x ≠ 984 → hA d5 x = hA c5 x := fun x hx => by rw [O5 x hx, O4 x hx, O3 x hx, O2 x hx, O1 x hx]
  have oc5 : ∀ x, x ≠ 1 → hA c5 x = hA h x := fun x hx => by rw [o5 x hx, o4 x hx, o3 x hx, o2 x hx, o1 x hx]
  have e1 : ∀ i, hA d5 1 i = apA (apA (apA (apA (apA (hA h 1) T w1) (T + 4) w2) (T + 4 + 4) w3) (T + 4 + 4 + 4) w4) (T + 4 + 4 + 4 + 4) w5 i := fun i => by
    rw [od5 1 (by omega), a5, show hA c4 1 = _ from funext a4, show hA c3 1 = _ from funext a3, show hA c2 1 = _ from funext a2, show hA c1 1 = _ from funext a1]
  have e2 : ∀ i, hA d5 984 i = apA (apA (apA (apA (apA (hA h 984) T w1) (T + 4) w2) (T + 4 + 4) w3) (T + 4 + 4 + 4) w4) (T + 4 + 4 + 4 + 4) w5 i := fun i => by
    rw [A5, show hA d4 984 = _ from funext A4, show hA d3 984 = _ from funext A3, show hA d2 984 = _ from funext A2, show hA d1 984 = _ from funext A1, oc5 984 (by omega)]
  have ap : ∀ (φ ψ : Nat → Int32) (U : Nat) (v : Int32) (i : Nat), (i < U → φ i = ψ i ∧ -128 ≤ (φ i).toInt ∧ (φ i).toInt < 128) → i < U + 4 → apA φ U v i = apA ψ U v i ∧ -128 ≤ (apA φ U v i).toInt ∧ (apA φ U v i).toInt < 128 := by
    intro φ ψ U v i hi hl
    unfold apA
    by_cases y : U ≤ i ∧ i < U + 4
    · rw [if_pos y, if_pos y]; exact ⟨rfl, wby_rng _ _⟩
    · rw [if_neg y, if_neg y]; exact hi (by omega)
  have e3 : ∀ i : Nat, i < T + 20 → hA d5 1 i = hA d5 984 i ∧ -128 ≤ (hA d5 1 i).toInt ∧ (hA d5 1 i).toInt < 128 := by
    intro i hi
    rw [e1, e2]
    refine ap _ _ _ _ _ (fun q1 => ap _ _ _ _ _ (fun q2 => ap _ _ _ _ _ (fun q3 => ap _ _ _ _ _ (fun q4 => ap _ _ _ _ _ (fun q5 => ?_) q4) q3) q2) q1) (by omega)
    have u4 := t4 i (by omega) (by omega)
    have u5 := t5 i (by omega) (by omega)
    rw [show ((i : Int)).toNat = i from rfl] at u4 u5
    rw [u4.1, u5.1, i32_toInt (by omega) (by omega)]
    exact ⟨rfl, u4.2⟩
  have z1' : hI d5 641 0 = i32 (T + 20 : Nat) := by rw [id5 641 0 (Or.inl (by omega))]; exact z5
  have Z5' : hI d5 705 983 = i32 (T + 20 : Nat) := Z5
  refine ⟨i32 (T + 20 : Nat), c5, d5, ?_, ?_, ?_⟩
  · unfold fX10_append
    rw [C.o, gd_tt, t1, i32_add, if_pos (by rw [i32_le (by omega) (by omega) (by omega) (by omega)]; omega), x1, bn_s, (C.sk y1.1).o, gd_tt, x2, bn_s, (C.sk (y1.t y2).1).o, gd_tt, x3, bn_s, (C.sk ((y1.t y2).t y3).1).o, gd_tt, x4, bn_s, (C.sk (((y1.t y2).t y3).t y4).1).o, gd_tt, x5, bn_s, (C.sk yc.1).o, gd_tt, z5]
  · unfold fX11_append
    rw [M5.o, gd_tt, t2', i32_add, if_pos (by rw [i32_le (by omega) (by omega) (by omega) (by omega)]; omega), X1, bn_s, (M5.sk Y1.1).o, gd_tt, X2, bn_s, (M5.sk (Y1.t Y2).1).o, gd_tt, X3, bn_s, (M5.sk ((Y1.t Y2).t Y3).1).o, gd_tt, X4, bn_s, (M5.sk (((Y1.t Y2).t Y3).t Y4).1).o, gd_tt, X5, bn_s, (M5.sk yd.1).o, gd_tt, Z5]
  · refine RR_so (T := T) (T' := T + 20) R (yc.t yd) ?_ ?_ ?_ ?_ ?_ t1 t3 ⟨fun i => (hA d5 1 i.toNat).toInt, z1', Z5', by omega, fun i i0 i1 => ?_, fun i i0 i1 => ?_⟩ (by omega) (by omega)
    · rw [id5 642 0 (Or.inl (by omega)), ic 642 0 (Or.inl (by omega)), id5 706 983 (Or.inl (by omega)), ic 706 983 (Or.inl (by omega))]; exact er
    · rw [id5 714 983 (Or.inl (by omega)), ic 714 983 (Or.inl (by omega))]
    · rw [id5 712 983 (Or.inl (by omega)), ic 712 983 (Or.inl (by omega))]
    · rw [id5 646 0 (Or.inl (by omega)), ic 646 0 (Or.inl (by omega))]
    · rw [id5 647 0 (Or.inl (by omega)), ic 647 0 (Or.inl (by omega))]
    · exact ⟨(i32_eta _).symm, (e3 i.toNat (by omega)).2⟩
    · have u := e3 i.toNat (by omega)
      exact ⟨by rw [← u.1]; exact (i32_eta _).symm, u.2⟩
theorem rd_truncate {k : Nat} (R : RR h k) (p : Int32) : ∃ r g g', fX10_truncate 0 p h = some (r, g) ∧ fX11_truncate 983 p g = some (r, g') ∧ RR g' (k + 1) := by
  obtain ⟨q, h1, h2, rfl⟩ := i32_ex p
  have R' := R
  obtain ⟨C, M, K, n24, _, er, np, T, h714, ⟨b, t1, t2, t3, t4, t5⟩, _⟩ := R'
  by_cases c : 0 ≤ q ∧ q ≤ T
  rotate_left
  · refine ⟨i32 (-1), h, h, ?_, ?_, RR_up R (by omega)⟩
    · unfold fX10_truncate
      rw [i32_z]
      by_cases c0 : q < 0
      · rw [if_pos (by rw [i32_lt (by omega) (by omega) (by omega) (by omega)]; exact c0)]
      · rw [if_neg (by rw [i32_lt (by omega) (by omega) (by omega) (by omega)]; exact c0), C.o, gd_tt, t1, if_neg (by rw [i32_le (by omega) (by omega) (by omega) (by omega)]; omega)]
    · unfold fX11_truncate
      rw [M.o, gd_tt, t2, in_s h1 h2 (by omega) (by omega) (by omega) (by omega), bn_s, decide_eq_false c, if_neg (by decide)]
  obtain ⟨g, eg⟩ : ∃ g, g = sI h 641 0 (i32 ((T : Int) - q)) := ⟨_, rfl⟩
  obtain ⟨g', eg'⟩ : ∃ g', g' = sI g 705 983 (i32 ((T : Int) - q)) := ⟨_, rfl⟩
  have p1 : So S4 h g := by rw [eg]; exact So_I (Or.inl rfl) _ _
  have p2 : So S4 g g' := by rw [eg']; exact So_I (Or.inr (Or.inr (Or.inl rfl))) _ _
  have M1 : MS g := M.sk p1.1
  have r1 : ∀ f x, hI g f x = if f = 641 ∧ x = 0 then i32 ((T : Int) - q) else hI h f x := fun f x => by rw [eg, rII]
  have r2 : ∀ f x, hI g' f x = if f = 705 ∧ x = 983 then i32 ((T : Int) - q) else hI g f x := fun f x => by rw [eg', rII]
  have t2' : hI g 705 983 = i32 T := by rw [r1, if_neg (by omega)]; exact t2
  have eA : hA g' = hA h := by rw [eg', rAI, eg, rAI]
  have eT : i32 ((T : Int) - q) = i32 ((T - q.toNat : Nat) : Int) := by congr 1; omega
  refine ⟨i32 ((T : Int) - q), g, g', ?_, ?_, ?_⟩
  · unfold fX10_truncate
    rw [i32_z, if_neg (by rw [i32_lt (by omega) (by omega) (by omega) (by omega)]; omega), C.o, gd_tt, t1, if_pos (by rw [i32_le (by omega) (by omega) (by omega) (by omega)]; omega), i32_sub, ← eg, lt_e, r1, if_pos ⟨rfl, rfl⟩]
  · unfold fX11_truncate
    rw [M1.o, gd_tt, t2', in_s h1 h2 (by omega) (by omega) (by omega) (by omega), bn_s, decide_eq_true c, if_pos rfl, i32_sub, ← eg', lt_e, r2, if_pos ⟨rfl, rfl⟩]
  · refine RR_so (T := T) (T' := T - q.toNat) R (p1.t p2) ?_ ?_ ?_ ?_ ?_ t1 t3 ⟨b, ?_, ?_, by omega, fun i i0 i1 => ?_, fun i i0 i1 => ?_⟩ (by omega) (by omega)
    · rw [r2, if_neg (by omega), r1, if_neg (by omega), r2, if_neg (by omega), r1, if_neg (by omega)]; exact er
    · rw [r2, if_neg (by omega), r1, if_neg (by omega)]
    · rw [r2, if_neg (by omega), r1, if_neg (by omega)]
    · rw [r2, if_neg (by omega), r1, if_neg (by omega)]
    · rw [r2, if_neg (by omega), r1, if_neg (by omega)]
    · rw [r2, if_neg (by omega), r1, if_pos ⟨rfl, rfl⟩]; exact eT
    · rw [r2, if_pos ⟨rfl, rfl⟩]; exact eT
    · rw [eA]; exact t4 i i0 (by omega)
    · rw [eA]; exact t5 i i0 (by omega)
end
