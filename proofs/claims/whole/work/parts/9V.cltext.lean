/-! THE CLASS TELLS A LAYOUT -/
section
variable {h g : HP} {a np : Nat} {F φ X Y : Int → Int} {bd : Int → List Int} {w : Int} {pr : Bool} {sp : Bool}
theorem FRx_7' (r : FRx h a F np) (ha : a + 36 ≤ 114 ∨ 115 ≤ a) (p : So So8 h g) : FRx g a F np := by
  have nb : ∀ x, ¬ So8 x → Sm h g x := fun x hx => p.2.2 x hx
  have e990 : hA g 990 = hA h 990 := funext (nb 990 (fun z => by unfold So8 at z; omega)).2.2.2.1
  exact FRx_eq r (FormEq_sm (fun x hx => nb x (fun z => by unfold So8 at z; have := hx.1; have := hx.2; omega))) (TS2_So p (fun x z => by unfold So8 at z; omega)) (fun q _ => by rw [e990]) (funext (nb 985 (fun z => by unfold So8 at z; omega)).2.2.2.1) (Nat.le_refl _)
theorem rep_1 (c : Int) (d : Nat) (L : List Int) : (L ++ [c]) ++ List.replicate d c = L ++ List.replicate (d + 1) c := by
  rw [List.append_assoc]; rfl
theorem txk_up {n r : Nat} : ∀ d : Nat, (∀ y : Nat, r < y → y < r + 1 + d → rtk F X Y bd (y : Int) n = []) → txk F X Y bd n (r + 1 + d) = txk F X Y bd n r ++ rtk F X Y bd (r : Int) n ++ List.replicate (d + 1) 10 := by
  intro d
  induction d with
  | zero => intro _; rfl
  | succ d ih =>
    intro e
    show txk F X Y bd n (r + 1 + d) ++ rtk F X Y bd ((r + 1 + d : Nat) : Int) n ++ [10] = _
    rw [ih (fun y a b => e y a (by omega)), e (r + 1 + d) (by omega) (by omega), List.append_nil, List.replicate_succ' (n := d + 1), List.append_assoc (_ ++ _) _ [10]]
/-- the class begins new lines -/
theorem cwl51 {L : LYt} {V : Option Nat} {K : Nat → Option Nat → Option Nat → Option Nat → Int32 → Int32 → Int32 → Int32 → Option Nat → HP → Option HP} (C : CS h) (y : LYr h L) {p : Int} (p0 : 0 ≤ p) (p1 : p < 32) (wo : wok w) {i : Int32} {nd : Option Nat} (x1 : lyX L p ≤ 1000) : ∀ (d n : Nat) (row col : Int) (g : HP) (T : List Int), row + d = lyX L p → 0 ≤ row → d < n → So So8 h g → WC g w T sp → T.length + d ≤ 1000000 → ∃ g', lX9_writeLayout_51 K n 114 (some a) (some 111) V (i32 row) (i32 col) i (i32 p) nd g = K 114 (some a) (some 111) V (i32 (lyX L p)) (i32 (if d = 0 then col else 0)) i (i32 p) nd g' ∧ So So8 h g' ∧ WC g' w (T ++ List.replicate d 10) sp := by
  intro d
  induction d with
  | zero =>
    intro n row col g T e r0 hn q W l
    obtain ⟨n, rfl⟩ : ∃ x, n = x + 1 := ⟨n - 1, by omega⟩
    have Cg := C.sk q.1
    have yg : LYr g L := ⟨by rw [(q.2.2 111 (by unfold So8; omega)).1]; exact y.1, by rw [(q.2.2 111 (by unfold So8; omega)).1]; exact y.2.1, by rw [(q.2.2 111 (by unfold So8; omega)).1]; exact y.2.2.1, by rw [(q.2.2 111 (by unfold So8; omega)).1]; exact y.2.2.2.1, fun n a b => by rw [(q.2.2 112 (by unfold So8; omega)).2.2.2.1, (q.2.2 113 (by unfold So8; omega)).2.2.2.1]; exact y.2.2.2.2 n a b⟩
    refine ⟨g, ?_, q, by rw [List.replicate_zero, List.append_nil]; exact W⟩
    rw [elX9_writeLayout_51]; unfold bX9_writeLayout_51
    rw [oc_s, Cg.o_layout, gd_tt, (rowOf_s Cg yg p0 p1).1, bn_s, if_pos (by rw [i32_le (by omega) (by omega) (by omega) (by omega)]; omega), if_pos rfl, show row = lyX L p by omega]
  | succ d ih =>
    intro n row col g T e r0 hn q W l
    obtain ⟨n, rfl⟩ : ∃ x, n = x + 1 := ⟨n - 1, by omega⟩
    have Cg := C.sk q.1
    have yg : LYr g L := ⟨by rw [(q.2.2 111 (by unfold So8; omega)).1]; exact y.1, by rw [(q.2.2 111 (by unfold So8; omega)).1]; exact y.2.1, by rw [(q.2.2 111 (by unfold So8; omega)).1]; exact y.2.2.1, by rw [(q.2.2 111 (by unfold So8; omega)).1]; exact y.2.2.2.1, fun n a b => by rw [(q.2.2 112 (by unfold So8; omega)).2.2.2.1, (q.2.2 113 (by unfold So8; omega)).2.2.2.1]; exact y.2.2.2.2 n a b⟩
    obtain ⟨g1, b1, b2, b3⟩ := cputc Cg W (by omega) wo 10
    obtain ⟨g2, c1, c2, c3⟩ := ih n (row + 1) 0 g1 _ (by omega) (by omega) (by omega) (q.t b2) b3 (by have := len_1 T 10; omega)
    refine ⟨g2, ?_, c2, by rw [rep_1] at c3; exact c3⟩
    rw [elX9_writeLayout_51]; unfold bX9_writeLayout_51
    rw [oc_s, Cg.o_layout, gd_tt, (rowOf_s Cg yg p0 p1).1, bn_s, if_neg (by rw [i32_le (by omega) (by omega) (by omega) (by omega)]; omega), Cg.o_writer, gd_tt, b1, bn_s, lt_e, i32_add, if_neg (by omega)]
    rw [ite_self] at c1
    exact c1
/-- the class goes to a column -/
theorem cwl77 {L : LYt} {V : Option Nat} {K : Nat → Option Nat → Option Nat → Option Nat → Int32 → Int32 → Int32 → Int32 → Option Nat → HP → Option HP} (C : CS h) (y : LYr h L) {p : Int} (p0 : 0 ≤ p) (p1 : p < 32) (wo : wok w) {i row : Int32} {nd : Option Nat} (x0 : -2 ≤ lyY L p) (x1 : lyY L p ≤ 1000) : ∀ (d n : Nat) (col : Int) (g : HP) (T : List Int), d = (lyY L p - col).toNat → 0 ≤ col → col ≤ 1000000 → d < n → So So8 h g → WC g w T sp → T.length + d ≤ 1000000 → ∃ g', lX9_writeLayout_77 K n 114 (some a) (some 111) V row (i32 col) i (i32 p) nd g = K 114 (some a) (some 111) V row (i32 (col + d)) i (i32 p) nd g' ∧ So So8 h g' ∧ WC g' w (T ++ List.replicate d 32) sp := by
  intro d
  induction d with
  | zero =>
    intro n col g T e r0 r1 hn q W l
    obtain ⟨n, rfl⟩ : ∃ x, n = x + 1 := ⟨n - 1, by omega⟩
    have Cg := C.sk q.1
    have yg : LYr g L := ⟨by rw [(q.2.2 111 (by unfold So8; omega)).1]; exact y.1, by rw [(q.2.2 111 (by unfold So8; omega)).1]; exact y.2.1, by rw [(q.2.2 111 (by unfold So8; omega)).1]; exact y.2.2.1, by rw [(q.2.2 111 (by unfold So8; omega)).1]; exact y.2.2.2.1, fun n a b => by rw [(q.2.2 112 (by unfold So8; omega)).2.2.2.1, (q.2.2 113 (by unfold So8; omega)).2.2.2.1]; exact y.2.2.2.2 n a b⟩
    refine ⟨g, ?_, q, by rw [List.replicate_zero, List.append_nil]; exact W⟩
    rw [elX9_writeLayout_77]; unfold bX9_writeLayout_77
    rw [oc_s, Cg.o_layout, gd_tt, (rowOf_s Cg yg p0 p1).2, bn_s, if_pos (by rw [i32_le (by omega) (by omega) (by omega) (by omega)]; omega), show col + ((0 : Nat) : Int) = col by omega]
  | succ d ih =>
    intro n col g T e r0 r1 hn q W l
    obtain ⟨n, rfl⟩ : ∃ x, n = x + 1 := ⟨n - 1, by omega⟩
    have Cg := C.sk q.1
    have yg : LYr g L := ⟨by rw [(q.2.2 111 (by unfold So8; omega)).1]; exact y.1, by rw [(q.2.2 111 (by unfold So8; omega)).1]; exact y.2.1, by rw [(q.2.2 111 (by unfold So8; omega)).1]; exact y.2.2.1, by rw [(q.2.2 111 (by unfold So8; omega)).1]; exact y.2.2.2.1, fun n a b => by rw [(q.2.2 112 (by unfold So8; omega)).2.2.2.1, (q.2.2 113 (by unfold So8; omega)).2.2.2.1]; exact y.2.2.2.2 n a b⟩
    obtain ⟨g1, b1, b2, b3⟩ := cputc Cg W (by omega) wo 32
    obtain ⟨g2, c1, c2, c3⟩ := ih n (col + 1) g1 _ (by omega) (by omega) (by omega) (by omega) (q.t b2) b3 (by have := len_1 T 32; omega)
    refine ⟨g2, ?_, c2, by rw [rep_1] at c3; exact c3⟩
    rw [elX9_writeLayout_77]; unfold bX9_writeLayout_77
    rw [oc_s, Cg.o_layout, gd_tt, (rowOf_s Cg yg p0 p1).2, bn_s, if_neg (by rw [i32_le (by omega) (by omega) (by omega) (by omega)]; omega), Cg.o_writer, gd_tt, b1, bn_s, lt_e, i32_add]
    rw [show col + 1 + (d : Int) = col + ((d + 1 : Nat) : Int) by omega] at c1
    exact c1
theorem bdy_len (kd : KD F) {p : Int} (p0 : 0 ≤ p) (p1 : p < 32) (pp : F p ≠ -1) : (bdy F φ pr p).length ≤ 10 := by
  unfold bdy
  by_cases c : 24 ≤ p
  · rw [if_pos c, List.length_cons, nmT_len]
    have := nl_le (F (32 + p))
    omega
  · rw [if_neg c, fdT_len]
    have := ((kd p p0 p1 pp).1 (by omega)).2
    omega
/-- what a layout's numbers must be -/
def TXo (F : Int → Int) (L : LYt) : Prop := TR F ∧ KD F ∧ NMs F ∧ LAYD F L
/-- the body of a node, only of nodes that are there -/
def bdz (F φ : Int → Int) (pr : Bool) (p : Int) : List Int := if 0 ≤ p ∧ p < 32 ∧ F p ≠ -1 then bdy F φ pr p else []
theorem bdz_len (kd : KD F) (p : Int) : (bdz F φ pr p).length ≤ 10 := by
  unfold bdz
  by_cases c : 0 ≤ p ∧ p < 32 ∧ F p ≠ -1
  · rw [if_pos c]; exact bdy_len kd c.1 c.2.1 c.2.2
  · rw [if_neg c]; decide
/-- the class tells a node -/
theorem cnodeT {L : LYt} {K : Nat → Option Nat → HP → Option HP} (r0 : FRx h a F np) (S0 : FormAt h a) (C0 : CS h) (ha : a + 36 ≤ 114 ∨ 115 ≤ a) (y : LYr h L) (vw : pr = false → VW h φ) (wo : wok w) {m : Nat} {i row col : Int} {p : Int} (p0 : 0 ≤ p) (p1 : p < 32) (pp : F p ≠ -1) {g : HP} {T : List Int} (q : So So8 h g) (W : WC g w T sp) (l : T.length + 10 ≤ 900000) (c0 : 0 ≤ col) (c1 : col ≤ 900000) : ∃ g', (gd (isO g 114 9) <| lt ((hI g 576 114)) fun v136 => oc (some (a + 4 + p.toNat)) fun o137 => gd (isO g o137 2) <| if (hI g 130 o137) = (i32 3) then (bn (fX9_put 114 (i32 35) g) fun h146 => gd (isO h146 o137 2) <| gd (isO h146 114 9) <| bn (fX9_putName 114 (hJ h146 129 o137) h146) fun h150 => jX9_writeLayout_154 (fun v0 v1 v2 v3 v4 v5 v6 h => lX9_writeLayout_9 K m v0 v1 v2 v3 v4 v5 v6 h) 114 (some a) (some 111) (if pr = true then none else some 109) (i32 row) (i32 col) (i32 i) v136 h150) else on (if pr = true then none else some 109) (jX9_writeLayout_151 (fun v0 v1 v2 v3 v4 v5 v6 h => lX9_writeLayout_9 K m v0 v1 v2 v3 v4 v5 v6 h) 114 (some a) (some 111) (if pr = true then none else some 109) (i32 row) (i32 col) (i32 i) v136 (i32 (-2)) (some (a + 4 + p.toNat)) 114 g) fun o140 => gd (isO g o140 8) <| bn (fX8_force o140 (i32 p) g) fun v144 => jX9_writeLayout_151 (fun v0 v1 v2 v3 v4 v5 v6 h => lX9_writeLayout_9 K m v0 v1 v2 v3 v4 v5 v6 h) 114 (some a) (some 111) (if pr = true then none else some 109) (i32 row) (i32 col) (i32 i) v136 v144 (some (a + 4 + p.toNat)) 114 g) = lX9_writeLayout_9 K m 114 (some a) (some 111) (if pr = true then none else some 109) (i32 row) (i32 (col + (bdz F φ pr p).length)) (i32 (i + 1)) g' ∧ So So8 h g' ∧ WC g' w (T ++ bdz F φ pr p) sp := by
  have ez : bdz F φ pr p = bdy F φ pr p := by unfold bdz; rw [if_pos ⟨p0, p1, pp⟩]
  rw [ez]
  have Cg := C0.sk q.1
  have nd := (r0.nd p0 p1 pp).2
  have ob : isO h (a + 4 + p.toNat) 2 = true := S0.on (show p.toNat < 32 by omega)
  have og : isO g (a + 4 + p.toNat) 2 = true := isO_sk q.1 ob
  have nb : a + 4 + p.toNat ≠ 114 := by omega
  have sn := q.2.2 (a + 4 + p.toNat) (fun z => nb z)
  have kd := r0.kd p p0 p1 pp
  have nv := r0.nm.1 p p0 p1 pp
  have e154 : ∀ (g2 : HP) (B : List Int), So So8 h g2 → WC g2 w (T ++ B) sp → B.length ≤ 10 → jX9_writeLayout_154 (fun v0 v1 v2 v3 v4 v5 v6 h => lX9_writeLayout_9 K m v0 v1 v2 v3 v4 v5 v6 h) 114 (some a) (some 111) (if pr = true then none else some 109) (i32 row) (i32 col) (i32 i) (i32 (T.length : Int)) g2 = lX9_writeLayout_9 K m 114 (some a) (some 111) (if pr = true then none else some 109) (i32 row) (i32 (col + B.length)) (i32 (i + 1)) g2 := fun g2 B q2 W2 lb => by
    unfold jX9_writeLayout_154 jX9_writeLayout_166
    rw [(C0.sk q2.1).o_writer, gd_tt, W2.2.1, i32_sub, i32_add, lt_e, lt_e, i32_add, show col + (((T ++ B).length : Int) - T.length) = col + B.length by rw [List.length_append]; omega]
  rw [Cg.o_writer, gd_tt, W.2.1, lt_e, oc_s, og, gd_tt, sn.1, nd.2.2.1]
  by_cases gq : 24 ≤ p
  · have k3 := (kd.2 gq).1
    have eb : bdy F φ pr p = 35 :: nmT (F (32 + p)) := by unfold bdy; rw [if_pos gq]
    have l8 := nl_le (F (32 + p))
    obtain ⟨g1, b1, b2, b3⟩ := cputc Cg W (by omega) wo 35
    have C1 := Cg.sk b2.1
    have q1 := q.t b2
    have sn1 := q1.2.2 (a + 4 + p.toNat) (fun z => nb z)
    obtain ⟨g2, d1, d2, d3⟩ := cputName C1 b3 nv (by have := len_1 T 35; omega) wo
    have W2 : WC g2 w (T ++ bdy F φ pr p) sp := by
      rw [eb]
      rw [List.append_assoc] at d3; exact d3
    refine ⟨g2, ?_, q1.t d2, W2⟩
    rw [k3, if_pos rfl, b1, bn_s, isO_sk q1.1 ob, gd_tt, C1.o_writer, gd_tt, sn1.2.1, nd.2.1, d1, bn_s]
    exact e154 g2 _ (q1.t d2) W2 (by rw [eb, List.length_cons, nmT_len]; omega)
  · have kf := kd.1 (by omega)
    have k3 : ¬ i32 (F (64 + p)) = i32 3 := by rw [i32_eq (by omega) (by omega) (by omega) (by omega)]; omega
    have eb : bdy F φ pr p = fdT (F (32 + p)) (if pr = true then -2 else φ p) (F (160 + p)) := by unfold bdy; rw [if_neg gq]
    have vr : -2 ≤ (if pr = true then -2 else φ p) ∧ (if pr = true then -2 else φ p) ≤ 9999 := by
      cases e : pr with
      | true => rw [if_pos rfl]; omega
      | false => rw [if_neg (by decide)]; exact (vw e).2 p p0 (by omega)
    obtain ⟨g2, d1, d2, d3⟩ := cputField Cg W (by omega) wo og nb (sn.2.1 129 |>.trans nd.2.1) nv ((sn.1 133).trans nd.2.2.2.2.2) (by omega) (by omega) vr.1 vr.2
    rw [← eb] at d3
    have e151 : jX9_writeLayout_151 (fun v0 v1 v2 v3 v4 v5 v6 h => lX9_writeLayout_9 K m v0 v1 v2 v3 v4 v5 v6 h) 114 (some a) (some 111) (if pr = true then none else some 109) (i32 row) (i32 col) (i32 i) (i32 (T.length : Int)) (i32 (if pr = true then -2 else φ p)) (some (a + 4 + p.toNat)) 114 g = lX9_writeLayout_9 K m 114 (some a) (some 111) (if pr = true then none else some 109) (i32 row) (i32 (col + (bdy F φ pr p).length)) (i32 (i + 1)) g2 := by
      unfold jX9_writeLayout_151
      rw [Cg.o_writer, gd_tt, d1, bn_s]
      exact e154 g2 _ (q.t d2) d3 (bdy_len r0.kd p0 p1 pp)
    refine ⟨g2, ?_, q.t d2, d3⟩
    rw [if_neg k3, ← e151]
    cases e : pr with
    | true => rw [if_pos rfl, on_nn, if_pos rfl]
    | false =>
      have vg : VW g φ := ⟨fun f a b => by rw [(q.2.2 110 (by unfold So8; omega)).2.2.2.1]; exact (vw e).1 f a b, (vw e).2⟩
      rw [if_neg (by decide), on_sm, Cg.o_view, gd_tt, force_s Cg vg (by omega) (by omega), bn_s, if_pos (show 0 ≤ p ∧ p < 24 by omega), if_neg (by decide)]
theorem cwlay {L : LYt} (r0 : FRx h a F np) (S0 : FormAt h a) (C0 : CS h) (ha : a + 36 ≤ 114 ∨ 115 ≤ a) (ld : LAYD F L) (y : LYr h L) (vw : pr = false → VW h φ) (wo : wok w) : ∀ (k m i r : Nat) (b : Bool) (g : HP), i + k = (F 288).toNat → k < m → So So8 h g → WC g w (txk F (lyX L) (lyY L) (bdz F φ pr) (F 288).toNat r ++ rtk F (lyX L) (lyY L) (bdz F φ pr) (r : Int) i) sp → chn F (lyX L) (lyM L) k (i : Int) (r : Int) b → r ≤ 128 → (b = false → r = 0) → (∀ z : Int, 0 ≤ z → ((r : Int) < z ∨ b = false) → rtk F (lyX L) (lyY L) (bdz F φ pr) z i = []) → ∃ g', lX9_writeLayout_9 (fun w1 w2 h3 => oc w2 fun o4 => gd (isO h3 o4 1) <| if (hI h3 64 o4) ≤ 0 then (some h3) else gd (isO h3 w1 9) <| bn (fX9_put w1 (i32 10) h3) fun h9 => some h9) m 114 (some a) (some 111) (if pr = true then none else some 109) (i32 (r : Int)) (i32 ((rtk F (lyX L) (lyY L) (bdz F φ pr) (r : Int) i).length : Int)) (i32 (i : Int)) g = some g' ∧ So So8 h g' ∧ WC g' w (txk F (lyX L) (lyY L) (bdz F φ pr) (F 288).toNat (lyM L).toNat) sp := by
  have t := r0.tr
  have O := t.ov
  have o2 := O.2.1
  have o1 := O.1
  obtain ⟨ln, lm0, lm1⟩ := laydn t r0.kd ld
  have hY : ∀ p, lyY L p ≤ 372 := fun p => by have := ln p; omega
  have hb : ∀ p, (bdz F φ pr p).length ≤ 10 := bdz_len r0.kd
  intro k
  induction k with
  | zero =>
    intro m i r b g e hm q W c r1 br em
    obtain ⟨m, rfl⟩ : ∃ x, m = x + 1 := ⟨m - 1, by omega⟩
    have Cg := C0.sk q.1
    have rg := FRx_7' r0 ha q
    have cM : lyM L = if b = true then (r : Int) + 1 else 0 := c
    have h64 : hI g 64 111 = i32 (lyM L) := by rw [(q.2.2 111 (by unfold So8; omega)).1]; exact y.1
    have head : ∀ rr, (if i32 (lyM L) ≤ 0 then some g else gd (isO g 114 9) <| bn (fX9_put 114 (i32 10) g) fun h9 => some h9) = rr → lX9_writeLayout_9 (fun w1 w2 h3 => oc w2 fun o4 => gd (isO h3 o4 1) <| if (hI h3 64 o4) ≤ 0 then (some h3) else gd (isO h3 w1 9) <| bn (fX9_put w1 (i32 10) h3) fun h9 => some h9) (m + 1) 114 (some a) (some 111) (if pr = true then none else some 109) (i32 (r : Int)) (i32 ((rtk F (lyX L) (lyY L) (bdz F φ pr) (r : Int) i).length : Int)) (i32 (i : Int)) g = rr := fun rr hrr => by
      rw [elX9_writeLayout_9]; unfold bX9_writeLayout_9
      rw [oc_s, (S0.sk q.1).o, gd_tt, rg.fb.2.2.1, if_pos (by rw [i32_le (by omega) (by omega) (by omega) (by omega)]; omega)]
      show (oc (some 111) fun o4 => gd (isO g o4 1) <| if (hI g 64 o4) ≤ 0 then some g else gd (isO g 114 9) <| bn (fX9_put 114 (i32 10) g) fun h9 => some h9) = rr
      rw [oc_s, Cg.o_layout, gd_tt, h64]
      exact hrr
    rw [i32_z] at head
    cases b with
    | false =>
      rw [if_neg (by decide)] at cM
      have r0' := br rfl
      subst r0'
      refine ⟨g, head _ (by rw [if_pos (by rw [cM, i32_le (by omega) (by omega) (by omega) (by omega)]; omega)]), q, ?_⟩
      rw [em ((0 : Nat) : Int) (by omega) (Or.inr rfl)] at W
      rw [cM]; exact W
    | true =>
      rw [if_pos rfl] at cM
      have tl := txk_len (F := F) (X := lyX L) (Y := lyY L) (bd := bdz F φ pr) (n := (F 288).toNat) (by omega) hY hb r
      have rl := rtk_len (F := F) (X := lyX L) (Y := lyY L) (bd := bdz F φ pr) (y := (r : Int)) hY hb i
      obtain ⟨g1, b1, b2, b3⟩ := cputc Cg W (by rw [List.length_append]; omega) wo 10
      refine ⟨g1, head _ (by rw [if_neg (by rw [i32_le (by omega) (by omega) (by omega) (by omega)]; omega), Cg.o_writer, gd_tt, b1, bn_s]), q.t b2, ?_⟩
      rw [cM, show ((r : Int) + 1).toNat = r + 1 by omega]
      have : i = (F 288).toNat := by omega
      rw [this] at b3
      exact b3
  | succ k ih =>
    intro m i r b g e hm q W c r1 br em
    obtain ⟨m, rfl⟩ : ∃ x, m = x + 1 := ⟨m - 1, by omega⟩
    have Cg := C0.sk q.1
    have Sg := S0.sk q.1
    have rg := FRx_7' r0 ha q
    have o := O.2.2 (i : Int) (by omega) (by omega)
    have pp := t.op (i : Int) (by omega) (by omega)
    obtain ⟨p, ep⟩ : ∃ p, p = F (256 + (i : Int)) := ⟨_, rfl⟩
    rw [← ep] at o pp
    have at' := x_at Sg rg (i := (i : Int)) (by omega) (by omega)
    rw [if_pos ⟨by omega, by omega⟩, ← ep] at at'
    have fi := x_find Sg rg (i := p) (by omega) (by omega)
    rw [fnx_y ⟨o.1, o.2, pp⟩] at fi
    have yg : LYr g L := ⟨by rw [(q.2.2 111 (by unfold So8; omega)).1]; exact y.1, by rw [(q.2.2 111 (by unfold So8; omega)).1]; exact y.2.1, by rw [(q.2.2 111 (by unfold So8; omega)).1]; exact y.2.2.1, by rw [(q.2.2 111 (by unfold So8; omega)).1]; exact y.2.2.2.1, fun n a b => by rw [(q.2.2 112 (by unfold So8; omega)).2.2.2.1, (q.2.2 113 (by unfold So8; omega)).2.2.2.1]; exact y.2.2.2.2 n a b⟩
    have rw' := (rowOf_s Cg yg o.1 o.2).1
    have lp := ln p
    simp only [chn] at c
    rw [← ep] at c
    have nxt : ∀ z, rtk F (lyX L) (lyY L) (bdz F φ pr) z (i + 1) = if lyX L p = z then rtk F (lyX L) (lyY L) (bdz F φ pr) z i ++ List.replicate (lyY L p - (rtk F (lyX L) (lyY L) (bdz F φ pr) z i).length).toNat 32 ++ bdz F φ pr p else rtk F (lyX L) (lyY L) (bdz F φ pr) z i := fun z => by simp only [rtk]; rw [← ep]
    rw [elX9_writeLayout_9]; unfold bX9_writeLayout_9
    rw [oc_s, Sg.o, gd_tt, rg.fb.2.2.1, if_neg (show ¬ i32 (F 288) ≤ i32 (i : Int) by rw [i32_le (by omega) (by omega) (by omega) (by omega)]; omega), at', bn_s, fi, bn_s, on_sm, oc_s, Cg.o_layout, gd_tt, rw', bn_s]
    by_cases z : lyX L p < 0
    · rw [if_pos z] at c
      rw [i32_z, if_neg (by rw [i32_le (by omega) (by omega) (by omega) (by omega)]; omega)]
      unfold jX9_writeLayout_166
      rw [lt_e, i32_add]
      have sm : ∀ u : Int, 0 ≤ u → rtk F (lyX L) (lyY L) (bdz F φ pr) u (i + 1) = rtk F (lyX L) (lyY L) (bdz F φ pr) u i := fun u u0 => by rw [nxt, if_neg (by omega)]
      obtain ⟨g', x1, x2, x3⟩ := ih m (i + 1) r b g (by omega) (by omega) q (by rw [sm _ (by omega)]; exact W) c r1 br (fun u u0 hu => by rw [sm u u0]; exact em u u0 hu)
      rw [sm _ (by omega)] at x1
      exact ⟨g', x1, x2, x3⟩
    · rw [if_neg z] at c
      obtain ⟨c1, c2⟩ := c
      obtain ⟨x, ex⟩ : ∃ x : Nat, lyX L p = (x : Int) := ⟨(lyX L p).toNat, by omega⟩
      rw [ex] at c1 c2
      rw [i32_z, if_pos (by rw [i32_le (by omega) (by omega) (by omega) (by omega)]; omega)]
      have tl := fun r => txk_len (F := F) (X := lyX L) (Y := lyY L) (bd := bdz F φ pr) (n := (F 288).toNat) (by omega) hY hb r
      have rl := fun (u : Int) (j : Nat) => rtk_len (F := F) (X := lyX L) (Y := lyY L) (bd := bdz F φ pr) (y := u) hY hb j
      -- the later nodes stand below
      have later : ∀ u : Int, 0 ≤ u → u < x → rtk F (lyX L) (lyY L) (bdz F φ pr) u (F 288).toNat = rtk F (lyX L) (lyY L) (bdz F φ pr) u i := fun u u0 u1 => by
        rw [show (F 288).toNat = i + (k + 1) by omega]
        refine rtk_same (k + 1) (fun j j0 j1 => ?_)
        by_cases ji : j = i
        · rw [ji, ← ep, ex]; omega
        · rcases chn_ge k _ _ _ c2 (by omega) (j : Int) (by omega) (by omega) with w | w <;> omega
      have rt1 := rl (r : Int) i
      have tt1 := tl r
      obtain ⟨g1, a1, a2, a3⟩ := cwl51 (a := a) (V := if pr = true then none else some 109) (K := fun w115 w116 w117 w118 w119 w120 w121 w122 w123 h124 => lX9_writeLayout_77 (fun w125 w126 w127 w128 w129 w130 w131 w132 w133 h134 => gd (isO h134 w125 9) <| lt ((hI h134 576 w125)) fun v136 => oc w133 fun o137 => gd (isO h134 o137 2) <| if (hI h134 130 o137) = (i32 3) then (bn (fX9_put w125 (i32 35) h134) fun h146 => gd (isO h146 o137 2) <| gd (isO h146 w125 9) <| bn (fX9_putName w125 (hJ h146 129 o137) h146) fun h150 => jX9_writeLayout_154 (fun v0 v1 v2 v3 v4 v5 v6 h => lX9_writeLayout_9 (fun w1 w2 h3 => oc w2 fun o4 => gd (isO h3 o4 1) <| if (hI h3 64 o4) ≤ i32 0 then (some h3) else gd (isO h3 w1 9) <| bn (fX9_put w1 (i32 10) h3) fun h9 => some h9) m v0 v1 v2 v3 v4 v5 v6 h) w125 w126 w127 w128 w129 w130 w131 v136 h150) else on w128 (jX9_writeLayout_151 (fun v0 v1 v2 v3 v4 v5 v6 h => lX9_writeLayout_9 (fun w1 w2 h3 => oc w2 fun o4 => gd (isO h3 o4 1) <| if (hI h3 64 o4) ≤ i32 0 then (some h3) else gd (isO h3 w1 9) <| bn (fX9_put w1 (i32 10) h3) fun h9 => some h9) m v0 v1 v2 v3 v4 v5 v6 h) w125 w126 w127 w128 w129 w130 w131 v136 (i32 (-2)) w133 w125 h134) fun o140 => gd (isO h134 o140 8) <| bn (fX8_force o140 w132 h134) fun v144 => jX9_writeLayout_151 (fun v0 v1 v2 v3 v4 v5 v6 h => lX9_writeLayout_9 (fun w1 w2 h3 => oc w2 fun o4 => gd (isO h3 o4 1) <| if (hI h3 64 o4) ≤ i32 0 then (some h3) else gd (isO h3 w1 9) <| bn (fX9_put w1 (i32 10) h3) fun h9 => some h9) m v0 v1 v2 v3 v4 v5 v6 h) w125 w126 w127 w128 w129 w130 w131 v136 v144 w133 w125 h134) FU w115 w116 w117 w118 w119 w120 w121 w122 w123 h124) (i := i32 (i : Int)) (nd := some (a + 4 + p.toNat)) C0 y o.1 o.2 wo (by omega) (x - r) FU (r : Int) ((rtk F (lyX L) (lyY L) (bdz F φ pr) (r : Int) i).length : Int) g _ (by omega) (by omega) (by have : FU = 1000000 := rfl; omega) q W (by rw [List.length_append]; omega)
      have W1 : WC g1 w (txk F (lyX L) (lyY L) (bdz F φ pr) (F 288).toNat x ++ rtk F (lyX L) (lyY L) (bdz F φ pr) (x : Int) i) sp ∧ (if x - r = 0 then ((rtk F (lyX L) (lyY L) (bdz F φ pr) (r : Int) i).length : Int) else 0) = ((rtk F (lyX L) (lyY L) (bdz F φ pr) (x : Int) i).length : Int) := by
        by_cases xr : x = r
        · rw [xr, Nat.sub_self, if_pos rfl]
          rw [xr, Nat.sub_self, List.replicate_zero, List.append_nil] at a3
          exact ⟨a3, rfl⟩
        · have ex0 : rtk F (lyX L) (lyY L) (bdz F φ pr) (x : Int) i = [] := em (x : Int) (by omega) (Or.inl (by omega))
          have up := txk_up (F := F) (X := lyX L) (Y := lyY L) (bd := bdz F φ pr) (n := (F 288).toNat) (r := r) (x - r - 1) (fun u u0 u1 => by rw [later (u : Int) (by omega) (by omega)]; exact em (u : Int) (by omega) (Or.inl (by omega)))
          rw [show r + 1 + (x - r - 1) = x by omega, show x - r - 1 + 1 = x - r by omega, later (r : Int) (by omega) (by omega)] at up
          rw [ex0, List.append_nil, up, if_neg (by omega)]
          exact ⟨a3, rfl⟩
      obtain ⟨W1, ecol⟩ := W1
      have rx := rl (x : Int) i
      have tx := tl x
      have q1 := a2
      obtain ⟨d, ed⟩ : ∃ d : Nat, d = (lyY L p - (rtk F (lyX L) (lyY L) (bdz F φ pr) (x : Int) i).length).toNat := ⟨_, rfl⟩
      have d4 : d ≤ 372 := by have := hY p; omega
      obtain ⟨g2, b1, b2, b3⟩ := cwl77 (a := a) (V := if pr = true then none else some 109) (K := fun w125 w126 w127 w128 w129 w130 w131 w132 w133 h134 => gd (isO h134 w125 9) <| lt ((hI h134 576 w125)) fun v136 => oc w133 fun o137 => gd (isO h134 o137 2) <| if (hI h134 130 o137) = (i32 3) then (bn (fX9_put w125 (i32 35) h134) fun h146 => gd (isO h146 o137 2) <| gd (isO h146 w125 9) <| bn (fX9_putName w125 (hJ h146 129 o137) h146) fun h150 => jX9_writeLayout_154 (fun v0 v1 v2 v3 v4 v5 v6 h => lX9_writeLayout_9 (fun w1 w2 h3 => oc w2 fun o4 => gd (isO h3 o4 1) <| if (hI h3 64 o4) ≤ i32 0 then (some h3) else gd (isO h3 w1 9) <| bn (fX9_put w1 (i32 10) h3) fun h9 => some h9) m v0 v1 v2 v3 v4 v5 v6 h) w125 w126 w127 w128 w129 w130 w131 v136 h150) else on w128 (jX9_writeLayout_151 (fun v0 v1 v2 v3 v4 v5 v6 h => lX9_writeLayout_9 (fun w1 w2 h3 => oc w2 fun o4 => gd (isO h3 o4 1) <| if (hI h3 64 o4) ≤ i32 0 then (some h3) else gd (isO h3 w1 9) <| bn (fX9_put w1 (i32 10) h3) fun h9 => some h9) m v0 v1 v2 v3 v4 v5 v6 h) w125 w126 w127 w128 w129 w130 w131 v136 (i32 (-2)) w133 w125 h134) fun o140 => gd (isO h134 o140 8) <| bn (fX8_force o140 w132 h134) fun v144 => jX9_writeLayout_151 (fun v0 v1 v2 v3 v4 v5 v6 h => lX9_writeLayout_9 (fun w1 w2 h3 => oc w2 fun o4 => gd (isO h3 o4 1) <| if (hI h3 64 o4) ≤ i32 0 then (some h3) else gd (isO h3 w1 9) <| bn (fX9_put w1 (i32 10) h3) fun h9 => some h9) m v0 v1 v2 v3 v4 v5 v6 h) w125 w126 w127 w128 w129 w130 w131 v136 v144 w133 w125 h134) (i := i32 (i : Int)) (row := i32 (x : Int)) (nd := some (a + 4 + p.toNat)) C0 y o.1 o.2 wo (by omega) (by have := hY p; omega) d FU ((rtk F (lyX L) (lyY L) (bdz F φ pr) (x : Int) i).length : Int) g1 _ ed (by omega) (by omega) (by have : FU = 1000000 := rfl; omega) q1 W1 (by rw [List.length_append]; omega)
      obtain ⟨g3, d1, d2, d3⟩ := cnodeT (K := fun w1 w2 h3 => oc w2 fun o4 => gd (isO h3 o4 1) <| if (hI h3 64 o4) ≤ i32 0 then (some h3) else gd (isO h3 w1 9) <| bn (fX9_put w1 (i32 10) h3) fun h9 => some h9) (np := np) (φ := φ) (pr := pr) r0 S0 C0 ha y vw wo (m := m) (i := (i : Int)) (row := (x : Int)) (col := ((rtk F (lyX L) (lyY L) (bdz F φ pr) (x : Int) i).length : Int) + d) o.1 o.2 pp b2 b3 (by rw [List.length_append, List.length_append, List.length_replicate]; omega) (by omega) (by omega)
      have rx1 : rtk F (lyX L) (lyY L) (bdz F φ pr) (x : Int) (i + 1) = rtk F (lyX L) (lyY L) (bdz F φ pr) (x : Int) i ++ List.replicate d 32 ++ bdz F φ pr p := by rw [nxt, if_pos ex, ed]
      have W3 : WC g3 w (txk F (lyX L) (lyY L) (bdz F φ pr) (F 288).toNat x ++ rtk F (lyX L) (lyY L) (bdz F φ pr) (x : Int) (i + 1)) sp := by
        rw [rx1]
        rw [List.append_assoc, List.append_assoc] at d3
        rw [List.append_assoc]; exact d3
      obtain ⟨g', x1, x2, x3⟩ := ih m (i + 1) x true g3 (by omega) (by omega) d2 W3 c2 (by omega) (fun z => by cases z) (fun u u0 hu => by
        have : (x : Int) < u := by
          rcases hu with w | w
          · exact w
          · cases w
        rw [nxt, if_neg (by omega)]
        exact em u u0 (Or.inl (by omega)))
      have el : ((rtk F (lyX L) (lyY L) (bdz F φ pr) (x : Int) (i + 1)).length : Int) = ((rtk F (lyX L) (lyY L) (bdz F φ pr) (x : Int) i).length : Int) + d + (bdz F φ pr p).length := by
        rw [rx1, List.length_append, List.length_append, List.length_replicate]; omega
      rw [el, show ((i + 1 : Nat) : Int) = (i : Int) + 1 by omega, i32_z] at x1
      rw [ecol, ex] at a1
      exact ⟨g', a1.trans (b1.trans (d1.trans x1)), x2, x3⟩
end

