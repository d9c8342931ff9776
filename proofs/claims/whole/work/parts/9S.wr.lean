/-! TEXTS: ONE SIGN -/
section
variable {h g : HP} {w c : Int} {L : List Int} {b : Bool} {cut : Nat}
/-- the byte that is asked for -/
def fd (L : List Int) (w : Int) : Int := if 0 ≤ w ∧ w < L.length then L.getD w.toNat 0 else -2
theorem fd_1 (L : List Int) (w c : Int) : fd (L ++ [c]) w = if (L.length : Int) = w then c else fd L w := by
  have e : ((L ++ [c]).length : Int) = L.length + 1 := by simp
  unfold fd
  rw [e]
  by_cases q : (L.length : Int) = w
  · rw [if_pos q, if_pos (by omega), show w.toNat = L.length by omega, List.getD_eq_getElem?_getD, List.getElem?_append_right (Nat.le_refl _), Nat.sub_self]
    rfl
  · rw [if_neg q]
    by_cases d : 0 ≤ w ∧ w < L.length
    · rw [if_pos d, if_pos (by omega), List.getD_eq_getElem?_getD, List.getD_eq_getElem?_getD, List.getElem?_append_left (by omega)]
    · rw [if_neg d, if_neg (by omega)]
theorem len_1 (L : List Int) (c : Int) : ((L ++ [c]).length : Int) = L.length + 1 := by simp
/-- what the class has written -/
def WC (h : HP) (w : Int) (L : List Int) (b : Bool) : Prop := hI h 578 114 = i32 w ∧ hI h 576 114 = i32 (L.length : Int) ∧ hI h 577 114 = i32 (fd L w) ∧ hI h 579 114 = bI b
/-- what the model has written -/
def WM (h : HP) (w : Int) (L : List Int) (cut : Nat) : Prop := hI h 745 983 = i32 w ∧ hI h 744 983 = i32 (L.length : Int) ∧ hI h 746 983 = i32 (fd L w) ∧ hI h 748 983 = i32 (cut : Int) ∧ L.length ≤ cut
def L8 : List Nat := [744, 746]
def L9 : List Nat := [744, 745, 746, 747, 748, 752, 1005, 1006, 1007]
def wok (w : Int) : Prop := -2147483648 ≤ w ∧ w < 2147483648
theorem cputc (C : CS h) (W : WC h w L b) (l : L.length ≤ 1000000) (wo : wok w) (c : Int) : ∃ g, fX9_put 114 (i32 c) h = some g ∧ So So8 h g ∧ WC g w (L ++ [c]) b := by
  obtain ⟨a1, a2, a3, a4⟩ := W
  obtain ⟨w0, w1⟩ := wo
  have fin : ∀ g1, So So8 h g1 → (∀ f, f ≠ 577 → hI g1 f 114 = hI h f 114) → hI g1 577 114 = i32 (fd (L ++ [c]) w) → ∃ g, jX9_put_16 114 g1 = some g ∧ So So8 h g ∧ WC g w (L ++ [c]) b := fun g1 p e e7 => by
    obtain ⟨g2, e2⟩ : ∃ g2, g2 = sI g1 576 114 (i32 ((L.length : Int) + 1)) := ⟨_, rfl⟩
    have p2 : So So8 g1 g2 := by rw [e2]; exact So_I (S := So8) rfl _ _
    refine ⟨g2, ?_, p.t p2, ?_, ?_, ?_, ?_⟩
    · unfold jX9_put_16
      rw [(C.sk p.1).o_writer, gd_tt, e 576 (by omega), a2, i32_add, ← e2, lt_e]
    · rw [e2, rII, if_neg (by omega), e 578 (by omega)]; exact a1
    · rw [e2, rII, if_pos ⟨rfl, rfl⟩, len_1]
    · rw [e2, rII, if_neg (by omega)]; exact e7
    · rw [e2, rII, if_neg (by omega), e 579 (by omega)]; exact a4
  unfold fX9_put
  rw [C.o_writer, gd_tt, a1, a2]
  by_cases q : (L.length : Int) = w
  · obtain ⟨g1, e1⟩ : ∃ g1, g1 = sI h 577 114 (i32 c) := ⟨_, rfl⟩
    have p1 : So So8 h g1 := by rw [e1]; exact So_I (S := So8) rfl _ _
    rw [if_pos (by rw [q]), ← e1, lt_e]
    exact fin g1 p1 (fun f hf => by rw [e1, rII, if_neg (fun z => hf z.1)]) (by rw [e1, rII, if_pos ⟨rfl, rfl⟩, fd_1, if_pos q])
  · rw [if_neg (by rw [i32_eq (by omega) (by omega) (by omega) (by omega)]; exact q)]
    exact fin h So.r (fun _ _ => rfl) (by rw [a3, fd_1, if_neg q])
theorem take_app (A B : List Int) (n : Nat) : (A.take n ++ B).take n = (A ++ B).take n := by
  rw [List.take_append, List.take_append, List.take_take, Nat.min_self, List.length_take]
  congr 2
  omega
theorem msay (M : MS h) (W : WM h w L cut) (l : cut ≤ 1000000) (wo : wok w) (c : Int) : ∃ g, fX11_says 983 (i32 c) h = some g ∧ Mo L8 h g ∧ WM g w ((L ++ [c]).take cut) cut := by
  obtain ⟨a1, a2, a3, a4, a5⟩ := W
  obtain ⟨w0, w1⟩ := wo
  unfold fX11_says jX11_says_31
  rw [M.o, gd_tt, a4, a2, a1]
  by_cases d : cut ≤ L.length
  · rw [if_pos (by rw [i32_le (by omega) (by omega) (by omega) (by omega)]; omega)]
    have e : (L ++ [c]).take cut = L := by
      rw [show cut = L.length by omega, List.take_left]
    rw [e]
    exact ⟨h, rfl, Mo.r, a1, a2, a3, a4, a5⟩
  · rw [if_neg (by rw [i32_le (by omega) (by omega) (by omega) (by omega)]; omega)]
    have e : (L ++ [c]).take cut = L ++ [c] := List.take_of_length_le (by simp; omega)
    rw [e, gd_tt, gd_tt]
    have fin : ∀ v, v = i32 (fd (L ++ [c]) w) → ∃ g, (lt (sI h 746 983 v) fun h102 => gd (isO h102 983 11) <| lt (sI h102 744 983 ((hI h102 744 983) + (i32 1))) fun h104 => some h104) = some g ∧ Mo L8 h g ∧ WM g w (L ++ [c]) cut := fun v ev => by
      obtain ⟨g1, e1⟩ : ∃ g1, g1 = sI h 746 983 v := ⟨_, rfl⟩
      obtain ⟨g2, e2⟩ : ∃ g2, g2 = sI g1 744 983 (i32 ((L.length : Int) + 1)) := ⟨_, rfl⟩
      have p1 : Mo L8 h g1 := by rw [e1]; exact Mo_I (by decide) _
      have p2 : Mo L8 g1 g2 := by rw [e2]; exact Mo_I (by decide) _
      refine ⟨g2, ?_, p1.t p2, ?_, ?_, ?_, ?_, ?_⟩
      · rw [← e1, lt_e, (p1.ms M).o, gd_tt, show hI g1 744 983 = i32 (L.length : Int) by rw [e1, rII, if_neg (by omega)]; exact a2, i32_add, ← e2, lt_e]
      · rw [e2, rII, if_neg (by omega), e1, rII, if_neg (by omega)]; exact a1
      · rw [e2, rII, if_pos ⟨rfl, rfl⟩, len_1]
      · rw [e2, rII, if_neg (by omega), e1, rII, if_pos ⟨rfl, rfl⟩]; exact ev
      · rw [e2, rII, if_neg (by omega), e1, rII, if_neg (by omega)]; exact a4
      · have := len_1 L c
        omega
    by_cases q : (L.length : Int) = w
    · rw [if_pos (by rw [q])]
      exact fin _ (by rw [fd_1, if_pos q])
    · rw [if_neg (by rw [i32_eq (by omega) (by omega) (by omega) (by omega)]; exact q)]
      exact fin _ (by rw [a3, fd_1, if_neg q])
/-- digits of a number, letters of a name: the last ones -/
def dgL (v : Int) : Nat → List Int
  | 0 => []
  | j + 1 => (48 + v / 10 ^ j % 10) :: dgL v j
def dgn (v : Int) : Nat := if v < 10 then 1 else if v < 100 then 2 else if v < 1000 then 3 else 4
def dgT (v : Int) : List Int := dgL v (dgn v)
def nmL (w : Int) : Nat → List Int
  | 0 => []
  | j + 1 => (96 + w / 32 ^ j % 32) :: nmL w j
def nmT (w : Int) : List Int := nmL w (nl w)
theorem dgL_len (v : Int) : ∀ n, (dgL v n).length = n := by
  intro n
  induction n with
  | zero => rfl
  | succ n ih => simp only [dgL, List.length_cons, ih]
theorem nmL_len (v : Int) : ∀ n, (nmL v n).length = n := by
  intro n
  induction n with
  | zero => rfl
  | succ n ih => simp only [nmL, List.length_cons, ih]
theorem dgn_4 (v : Int) : 1 ≤ dgn v ∧ dgn v ≤ 4 := by unfold dgn; split <;> (try split) <;> (try split) <;> omega
theorem dgT_len (v : Int) : (dgT v).length = dgn v := dgL_len v _
theorem nmT_len (v : Int) : (nmT v).length = nl v := nmL_len v _
theorem dgL_get (v : Int) : ∀ (n i : Nat), i < n → (dgL v n)[i]? = some (48 + v / 10 ^ (n - 1 - i) % 10) := by
  intro n
  induction n with
  | zero => intro i hi; omega
  | succ n ih =>
    intro i hi
    cases i with
    | zero => simp only [dgL, List.getElem?_cons_zero]; rfl
    | succ i =>
      simp only [dgL, List.getElem?_cons_succ]
      rw [ih i (by omega), show n + 1 - 1 - (i + 1) = n - 1 - i by omega]
theorem nmL_get (v : Int) : ∀ (n i : Nat), i < n → (nmL v n)[i]? = some (96 + v / 32 ^ (n - 1 - i) % 32) := by
  intro n
  induction n with
  | zero => intro i hi; omega
  | succ n ih =>
    intro i hi
    cases i with
    | zero => simp only [nmL, List.getElem?_cons_zero]; rfl
    | succ i =>
      simp only [nmL, List.getElem?_cons_succ]
      rw [ih i (by omega), show n + 1 - 1 - (i + 1) = n - 1 - i by omega]
theorem digits_s {v : Int} (v0 : 0 ≤ v) (v1 : v ≤ 9999) : fX9_digits (i32 v) h = some (i32 (dgn v : Int)) := by
  unfold fX9_digits dgn
  by_cases c1 : v < 10
  · rw [if_pos (by rw [i32_lt (by omega) (by omega) (by omega) (by omega)]; omega), if_pos (by rw [i32_lt (by omega) (by omega) (by omega) (by omega)]; omega), if_pos (by rw [i32_lt (by omega) (by omega) (by omega) (by omega)]; omega), if_pos c1]
    rfl
  by_cases c2 : v < 100
  · rw [if_pos (by rw [i32_lt (by omega) (by omega) (by omega) (by omega)]; omega), if_pos (by rw [i32_lt (by omega) (by omega) (by omega) (by omega)]; omega), if_neg (by rw [i32_lt (by omega) (by omega) (by omega) (by omega)]; omega), if_neg c1, if_pos c2]
    rfl
  by_cases c3 : v < 1000
  · rw [if_pos (by rw [i32_lt (by omega) (by omega) (by omega) (by omega)]; omega), if_neg (by rw [i32_lt (by omega) (by omega) (by omega) (by omega)]; omega), if_neg c1, if_neg c2, if_pos c3]
    rfl
  · rw [if_neg (by rw [i32_lt (by omega) (by omega) (by omega) (by omega)]; omega), if_neg c1, if_neg c2, if_neg c3]
    rfl
theorem nz10 : nz (i32 10) = true := by decide
theorem p10 {j : Nat} (hj : j ≤ 4) : (1 : Int) ≤ 10 ^ j ∧ (10 : Int) ^ j ≤ 10000 := by
  rcases (show j = 0 ∨ j = 1 ∨ j = 2 ∨ j = 3 ∨ j = 4 by omega) with rfl | rfl | rfl | rfl | rfl <;> decide
theorem md10 {x : Int} (x0 : 0 ≤ x) (x1 : x ≤ 100000) : i32 x - i32 x / i32 10 * i32 10 = i32 (x % 10) := by
  rw [i32_dv x0 (by omega) (by omega) (by omega), i32_mul, i32_sub]
  congr 1
  omega
theorem dv10 {v : Int} {j : Nat} : v / 10 ^ j / 10 = v / 10 ^ (j + 1) := by
  rw [Int.ediv_ediv_of_nonneg (Int.pow_nonneg (by decide)), Int.pow_succ]
theorem digit_s {v i : Int} (v0 : 0 ≤ v) (v1 : v ≤ 9999) (i0 : 0 ≤ i) (i1 : i < dgn v) : fX9_digit (i32 v) (i32 i) h = some (i32 (48 + v / 10 ^ (dgn v - 1 - i.toNat) % 10)) := by
  have d4 := dgn_4 v
  have key : ∀ (k n j : Nat), j + k = dgn v - 1 - i.toNat → k < n → lX9_digit_9 h n (i32 i) (i32 (v / 10 ^ j)) (i32 ((dgn v : Int) - 1 - j)) = some (i32 (48 + v / 10 ^ (dgn v - 1 - i.toNat) % 10)) := by
    intro k
    induction k with
    | zero =>
      intro n j e hn
      obtain ⟨n, rfl⟩ : ∃ x, n = x + 1 := ⟨n - 1, by omega⟩
      have q0 : 0 ≤ v / 10 ^ j := Int.ediv_nonneg v0 (Int.pow_nonneg (by decide))
      have q1 : v / 10 ^ j ≤ v := Int.ediv_le_self _ v0
      rw [elX9_digit_9]; unfold bX9_digit_9
      rw [if_pos (by rw [i32_le (by omega) (by omega) (by omega) (by omega)]; omega), nz10, gd_tt, md10 q0 (by omega), i32_add, show dgn v - 1 - i.toNat = j by omega]
    | succ k ih =>
      intro n j e hn
      obtain ⟨n, rfl⟩ : ∃ x, n = x + 1 := ⟨n - 1, by omega⟩
      have q0 : 0 ≤ v / 10 ^ j := Int.ediv_nonneg v0 (Int.pow_nonneg (by decide))
      have q1 : v / 10 ^ j ≤ v := Int.ediv_le_self _ v0
      rw [elX9_digit_9]; unfold bX9_digit_9
      rw [if_neg (by rw [i32_le (by omega) (by omega) (by omega) (by omega)]; omega), nz10, gd_tt, lt_e, lt_e, i32_dv q0 (by omega) (by omega) (by omega), dv10, i32_add]
      have := ih n (j + 1) (by omega) (by omega)
      rw [show (dgn v : Int) - 1 - ((j + 1 : Nat) : Int) = (dgn v : Int) - 1 - j + -1 by omega] at this
      exact this
  unfold fX9_digit
  rw [digits_s v0 v1, bn_s, i32_sub, lt_e]
  have := key (dgn v - 1 - i.toNat) FU 0 (by omega) (by have : FU = 1000000 := rfl; omega)
  rw [Int.pow_zero, Int.ediv_one, show ((0 : Nat) : Int) = 0 from rfl, Int.sub_zero] at this
  exact this
end

