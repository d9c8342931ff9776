/-! TEXTS: WORDS AND NUMBERS -/
section
variable {h g : HP} {w : Int} {L : List Int} {b : Bool} {cut : Nat}
def spT (b : Bool) : List Int := if b = true then [32] else []
theorem spT_1 (b : Bool) : (spT b).length ≤ 1 := by unfold spT; split <;> simp
theorem cputName (C : CS h) (W : WC h w L b) {nm : Int} (hw : NV nm) (l : L.length + 8 ≤ 1000000) (wo : wok w) : ∃ g, fX9_putName 114 (i64 (lft nm)) h = some g ∧ So So8 h g ∧ WC g w (L ++ nmT nm) b := by
  have l8 := nl_le nm
  have key : ∀ (r n : Nat) (i : Int) (g : HP) (L : List Int), i + r = nl nm → 0 ≤ i → r < n → CS g → WC g w L b → L.length + r ≤ 1000000 → ∃ g', lX9_putName_2 n 114 (i64 (lft nm)) (i32 i) g = some g' ∧ So So8 g g' ∧ WC g' w (L ++ nmL nm r) b := by
    intro r
    induction r with
    | zero =>
      intro n i g L e i0 hn C W l
      obtain ⟨n, rfl⟩ : ∃ x, n = x + 1 := ⟨n - 1, by omega⟩
      refine ⟨g, ?_, So.r, by simp only [nmL, List.append_nil]; exact W⟩
      rw [elX9_putName_2]; unfold bX9_putName_2
      by_cases c : 8 ≤ i
      · rw [if_pos (by rw [i32_le (by omega) (by omega) (by omega) (by omega)]; omega)]
      · rw [if_neg (by rw [i32_le (by omega) (by omega) (by omega) (by omega)]; omega), cletterOf_s hw (by omega) (by omega), bn_s, if_neg (show ¬ (0 ≤ i ∧ i < nl nm) by omega), if_pos (by decide)]
    | succ r ih =>
      intro n i g L e i0 hn C W l
      obtain ⟨n, rfl⟩ : ∃ x, n = x + 1 := ⟨n - 1, by omega⟩
      have lw : 0 ≤ ltw nm i ∧ ltw nm i < 32 := by unfold ltw; omega
      have ex : ltw nm i = nm / 32 ^ r % 32 := by unfold ltw; rw [show nl nm - 1 - i.toNat = r by omega]
      obtain ⟨g1, x1, x2, x3⟩ := cputc C W (by omega) wo (96 + ltw nm i)
      obtain ⟨g2, y1, y2, y3⟩ := ih n (i + 1) g1 _ (by omega) (by omega) (by omega) (C.sk x2.1) x3 (by have := len_1 L (96 + ltw nm i); omega)
      refine ⟨g2, ?_, x2.t y2, ?_⟩
      · rw [elX9_putName_2]; unfold bX9_putName_2
        rw [if_neg (by rw [i32_le (by omega) (by omega) (by omega) (by omega)]; omega), cletterOf_s hw (by omega) (by omega), bn_s, if_pos (show 0 ≤ i ∧ i < nl nm by omega), if_neg (by rw [i32_z, i32_lt (by omega) (by omega) (by omega) (by omega)]; omega), bn_s, C.o_writer, gd_tt, x1, bn_s, i32_add, lt_e]
        exact y1
      · rw [List.append_assoc, ex] at y3; exact y3
  exact key (nl nm) FU 0 h L (by omega) (by omega) (by have : FU = 1000000 := rfl; omega) C W (by omega)
theorem cspace (C : CS h) (W : WC h w L b) (l : L.length ≤ 1000000) (wo : wok w) : ∃ g, fX9_putSpace 114 h = some g ∧ So So8 h g ∧ WC g w (L ++ spT b) true := by
  have fin : ∀ (g1 : HP) (L1 : List Int), So So8 h g1 → WC g1 w L1 b → ∃ g, jX9_putSpace_13 114 g1 = some g ∧ So So8 h g ∧ WC g w L1 true := fun g1 L1 p W1 => by
    obtain ⟨a1, a2, a3, a4⟩ := W1
    obtain ⟨g2, e2⟩ : ∃ g2, g2 = sI g1 579 114 (i32 1) := ⟨_, rfl⟩
    have p2 : So So8 g1 g2 := by rw [e2]; exact So_I (S := So8) rfl _ _
    refine ⟨g2, ?_, p.t p2, ?_, ?_, ?_, ?_⟩
    · unfold jX9_putSpace_13
      rw [(C.sk p.1).o_writer, gd_tt, ← e2, lt_e]
    · rw [e2, rII, if_neg (by omega)]; exact a1
    · rw [e2, rII, if_neg (by omega)]; exact a2
    · rw [e2, rII, if_neg (by omega)]; exact a3
    · rw [e2, rII, if_pos ⟨rfl, rfl⟩]; rfl
  unfold fX9_putSpace spT
  rw [C.o_writer, gd_tt, W.2.2.2]
  cases b with
  | false =>
    rw [if_pos (by decide), if_neg (by decide), List.append_nil]
    exact fin h L So.r W
  | true =>
    obtain ⟨g1, x1, x2, x3⟩ := cputc C W l wo 32
    rw [if_neg (by decide), x1, bn_s, if_pos rfl]
    exact fin g1 _ x2 x3
theorem csign (C : CS h) (W : WC h w L b) (l : L.length + 1 ≤ 1000000) (wo : wok w) (c : Int) : ∃ g, fX9_putSign 114 (i32 c) h = some g ∧ So So8 h g ∧ WC g w (L ++ (spT b ++ [c])) true := by
  have s1 := spT_1 b
  obtain ⟨g1, x1, x2, x3⟩ := cspace C W (by omega) wo
  have C1 := C.sk x2.1
  obtain ⟨g2, y1, y2, y3⟩ := cputc C1 x3 (by rw [List.length_append]; omega) wo c
  refine ⟨g2, ?_, x2.t y2, by rw [← List.append_assoc]; exact y3⟩
  unfold fX9_putSign
  rw [C.o_writer, gd_tt, x1, bn_s, C1.o_writer, gd_tt, y1, bn_s]
theorem cmark (C : CS h) (W : WC h w L b) (l : L.length ≤ 1000000) (wo : wok w) (c : Int) : ∃ g, fX9_putMark 114 (i32 c) h = some g ∧ So So8 h g ∧ WC g w (L ++ [c]) false := by
  obtain ⟨g1, x1, x2, a1, a2, a3, a4⟩ := cputc C W l wo c
  have C1 := C.sk x2.1
  obtain ⟨g2, e2⟩ : ∃ g2, g2 = sI g1 579 114 (i32 0) := ⟨_, rfl⟩
  have p2 : So So8 g1 g2 := by rw [e2]; exact So_I (S := So8) rfl _ _
  refine ⟨g2, ?_, x2.t p2, ?_, ?_, ?_, ?_⟩
  · unfold fX9_putMark
    rw [C.o_writer, gd_tt, x1, bn_s, C1.o_writer, gd_tt, ← e2, lt_e]
  · rw [e2, rII, if_neg (by omega)]; exact a1
  · rw [e2, rII, if_neg (by omega)]; exact a2
  · rw [e2, rII, if_neg (by omega)]; exact a3
  · rw [e2, rII, if_pos ⟨rfl, rfl⟩]; rfl
theorem cnumber (C : CS h) (W : WC h w L b) (l : L.length + 5 ≤ 1000000) (wo : wok w) {v : Int} (v0 : 0 ≤ v) (v1 : v ≤ 9999) : ∃ g, fX9_putNumber 114 (i32 v) h = some g ∧ So So8 h g ∧ WC g w (L ++ (spT b ++ dgT v)) true := by
  have s1 := spT_1 b
  have d4 := dgn_4 v
  obtain ⟨g1, x1, x2, x3⟩ := cspace C W (by omega) wo
  have key : ∀ (r n : Nat) (i : Int) (g : HP) (L : List Int), i + r = dgn v → 0 ≤ i → r < n → CS g → WC g w L true → L.length + r ≤ 1000000 → ∃ g', lX9_putNumber_6 n 114 (i32 v) (i32 i) g = some g' ∧ So So8 g g' ∧ WC g' w (L ++ dgL v r) true := by
    intro r
    induction r with
    | zero =>
      intro n i g L e i0 hn C W l
      obtain ⟨n, rfl⟩ : ∃ x, n = x + 1 := ⟨n - 1, by omega⟩
      refine ⟨g, ?_, So.r, by simp only [dgL, List.append_nil]; exact W⟩
      rw [elX9_putNumber_6]; unfold bX9_putNumber_6
      rw [digits_s v0 v1, bn_s, if_pos (by rw [i32_le (by omega) (by omega) (by omega) (by omega)]; omega)]
    | succ r ih =>
      intro n i g L e i0 hn C W l
      obtain ⟨n, rfl⟩ : ∃ x, n = x + 1 := ⟨n - 1, by omega⟩
      have ex : dgn v - 1 - i.toNat = r := by omega
      obtain ⟨g1, x1, x2, x3⟩ := cputc C W (by omega) wo (48 + v / 10 ^ r % 10)
      obtain ⟨g2, y1, y2, y3⟩ := ih n (i + 1) g1 _ (by omega) (by omega) (by omega) (C.sk x2.1) x3 (by have := len_1 L (48 + v / 10 ^ r % 10); omega)
      refine ⟨g2, ?_, x2.t y2, ?_⟩
      · rw [elX9_putNumber_6]; unfold bX9_putNumber_6
        rw [digits_s v0 v1, bn_s, if_neg (by rw [i32_le (by omega) (by omega) (by omega) (by omega)]; omega), digit_s v0 v1 i0 (by omega), bn_s, C.o_writer, gd_tt, ex, x1, bn_s, i32_add, lt_e]
        exact y1
      · rw [List.append_assoc] at y3; exact y3
  obtain ⟨g2, y1, y2, y3⟩ := key (dgn v) FU 0 g1 _ (by omega) (by omega) (by have : FU = 1000000 := rfl; omega) (C.sk x2.1) x3 (by rw [List.length_append]; omega)
  refine ⟨g2, ?_, x2.t y2, by rw [← List.append_assoc]; exact y3⟩
  unfold fX9_putNumber
  rw [C.o_writer, gd_tt, x1, bn_s]
  exact y1
/-- keywords -/
def kwv (i : Nat) : Int := kws.getD i 0
def hp0 : HP := ((0, 0), fun _ => 0, fun _ => 0, fun _ _ => 0, fun _ _ => 0, fun _ _ => none, fun _ _ => 0, fun _ _ => 0, fun _ _ => none)
theorem kw_ch (i j : Nat) (hi : i < 10) (hj : j < nl (kwv i)) : fJ0_charAt_5068e i (i32 (j : Int)) h = some (i32 (96 + kwv i / 32 ^ (nl (kwv i) - 1 - j) % 32)) := by
  have e : fJ0_charAt_5068e i (i32 (j : Int)) h = fJ0_charAt_5068e i (i32 (j : Int)) hp0 := rfl
  rw [e]
  have l8 := nl_le (kwv i)
  have all : ∀ (i : Fin 10) (j : Fin 8), j.val < nl (kwv i.val) → fJ0_charAt_5068e i.val (i32 (j.val : Int)) hp0 = some (i32 (96 + kwv i.val / 32 ^ (nl (kwv i.val) - 1 - j.val) % 32)) := by decide +kernel
  exact all ⟨i, hi⟩ ⟨j, by omega⟩ hj
theorem kw_ln (i : Nat) (hi : i < 10) : fJ0_length_8abf5 i h = some (i32 (nl (kwv i) : Int)) := by
  have e : fJ0_length_8abf5 i h = fJ0_length_8abf5 i hp0 := rfl
  rw [e]
  have all : ∀ i : Fin 10, fJ0_length_8abf5 i.val hp0 = some (i32 (nl (kwv i.val) : Int)) := by decide +kernel
  exact all ⟨i, hi⟩
theorem kw_no (i : Nat) (hi : i < 10) : fX10_keyword (i32 (4 + (i : Int))) h = some i := by
  have e : fX10_keyword (i32 (4 + (i : Int))) h = fX10_keyword (i32 (4 + (i : Int))) hp0 := rfl
  rw [e]
  have all : ∀ i : Fin 10, fX10_keyword (i32 (4 + (i.val : Int))) hp0 = some i.val := by decide +kernel
  exact all ⟨i, hi⟩
theorem kwv_r (i : Nat) (hi : i < 10) : 0 < kwv i ∧ kwv i < 1099511627776 := by
  have all : ∀ i : Fin 10, 0 < kwv i.val ∧ kwv i.val < 1099511627776 := by decide +kernel
  exact all ⟨i, hi⟩
theorem ckeyword (C : CS h) (W : WC h w L b) (l : L.length + 9 ≤ 1000000) (wo : wok w) {k : Nat} (hk : k < 10) : ∃ g, fX9_putKeyword 114 (i32 (4 + (k : Int))) h = some g ∧ So So8 h g ∧ WC g w (L ++ (spT b ++ nmT (kwv k))) true := by
  have s1 := spT_1 b
  have l8 := nl_le (kwv k)
  obtain ⟨g1, x1, x2, x3⟩ := cspace C W (by omega) wo
  have lt11 : ltn k 11 = true := by unfold ltn; rw [decide_eq_true_eq]; omega
  have key : ∀ (r n i : Nat) (g : HP) (L : List Int), i + r = nl (kwv k) → r < n → CS g → WC g w L true → L.length + r ≤ 1000000 → ∃ g', lX9_putKeyword_11 n 114 k (i32 (i : Int)) g = some g' ∧ So So8 g g' ∧ WC g' w (L ++ nmL (kwv k) r) true := by
    intro r
    induction r with
    | zero =>
      intro n i g L e hn C W l
      obtain ⟨n, rfl⟩ : ∃ x, n = x + 1 := ⟨n - 1, by omega⟩
      refine ⟨g, ?_, So.r, by simp only [nmL, List.append_nil]; exact W⟩
      rw [elX9_putKeyword_11]; unfold bX9_putKeyword_11
      rw [lt11, gd_tt, kw_ln k hk, bn_s, if_pos (by rw [i32_le (by omega) (by omega) (by omega) (by omega)]; omega)]
    | succ r ih =>
      intro n i g L e hn C W l
      obtain ⟨n, rfl⟩ : ∃ x, n = x + 1 := ⟨n - 1, by omega⟩
      have ex : nl (kwv k) - 1 - i = r := by omega
      obtain ⟨g1, x1, x2, x3⟩ := cputc C W (by omega) wo (96 + kwv k / 32 ^ r % 32)
      obtain ⟨g2, y1, y2, y3⟩ := ih n (i + 1) g1 _ (by omega) (by omega) (C.sk x2.1) x3 (by have := len_1 L (96 + kwv k / 32 ^ r % 32); omega)
      refine ⟨g2, ?_, x2.t y2, ?_⟩
      · rw [elX9_putKeyword_11]; unfold bX9_putKeyword_11
        rw [lt11, gd_tt, kw_ln k hk, bn_s, if_neg (by rw [i32_le (by omega) (by omega) (by omega) (by omega)]; omega), gd_tt, kw_ch k i hk (by omega), bn_s, C.o_writer, gd_tt, ex, x1, bn_s, i32_add, lt_e]
        exact y1
      · rw [List.append_assoc] at y3; exact y3
  obtain ⟨g2, y1, y2, y3⟩ := key (nl (kwv k)) FU 0 g1 _ (by omega) (by have : FU = 1000000 := rfl; omega) (C.sk x2.1) x3 (by rw [List.length_append]; omega)
  refine ⟨g2, ?_, x2.t y2, by rw [← List.append_assoc]; exact y3⟩
  unfold fX9_putKeyword
  rw [kw_no k hk, bn_s, C.o_writer, gd_tt, x1, bn_s]
  exact y1
/-! the model's -/
theorem take_L (W : WM h w L cut) : (L ++ []).take cut = L := by rw [List.append_nil, List.take_of_length_le W.2.2.2.2]
theorem msayWord (M : MS h) (W : WM h w L cut) (l : cut ≤ 1000000) (wo : wok w) {nm : Int} (n0 : 0 < nm) (n1 : nm < 1099511627776) : ∃ g, fX11_saysWord 983 (i64 nm) h = some g ∧ Mo L8 h g ∧ WM g w ((L ++ nmT nm).take cut) cut := by
  have l8 := nl_le nm
  have key : ∀ (r n : Nat) (i : Int) (g : HP) (L : List Int), i + r = nl nm → 0 ≤ i → r < n → MS g → WM g w L cut → ∃ g', lX11_saysWord_2 n 983 (i64 nm) (i32 i) g = some g' ∧ Mo L8 g g' ∧ WM g' w ((L ++ nmL nm r).take cut) cut := by
    intro r
    induction r with
    | zero =>
      intro n i g L e i0 hn M W
      obtain ⟨n, rfl⟩ : ∃ x, n = x + 1 := ⟨n - 1, by omega⟩
      refine ⟨g, ?_, Mo.r, by simp only [nmL]; rw [take_L W]; exact W⟩
      rw [elX11_saysWord_2]; unfold bX11_saysWord_2
      rw [lengthOf_s n0 n1, bn_s, if_pos (by rw [i32_le (by omega) (by omega) (by omega) (by omega)]; omega)]
    | succ r ih =>
      intro n i g L e i0 hn M W
      obtain ⟨n, rfl⟩ : ∃ x, n = x + 1 := ⟨n - 1, by omega⟩
      have ex : ltw nm i = nm / 32 ^ r % 32 := by unfold ltw; rw [show nl nm - 1 - i.toNat = r by omega]
      obtain ⟨g1, x1, x2, x3⟩ := msay M W l wo (96 + ltw nm i)
      obtain ⟨g2, y1, y2, y3⟩ := ih n (i + 1) g1 _ (by omega) (by omega) (by omega) (x2.ms M) x3
      refine ⟨g2, ?_, x2.t y2, ?_⟩
      · rw [elX11_saysWord_2]; unfold bX11_saysWord_2
        rw [lengthOf_s n0 n1, bn_s, if_neg (by rw [i32_le (by omega) (by omega) (by omega) (by omega)]; omega), mletterOf_s n0 n1 i0 (by omega), bn_s, M.o, gd_tt, x1, bn_s, i32_add, lt_e]
        exact y1
      · rw [take_app, List.append_assoc, ex] at y3; exact y3
  exact key (nl nm) FU 0 h L (by omega) (by omega) (by have : FU = 1000000 := rfl; omega) M W
theorem dgn_b {v : Int} (v0 : 0 ≤ v) (v1 : v ≤ 9999) : v / 10 ^ (dgn v - 1) ≤ 9 ∧ ∀ j : Nat, j < dgn v - 1 → 9 < v / 10 ^ j := by
  have e0 : (10 : Int) ^ 0 = 1 := by decide
  have e1 : (10 : Int) ^ 1 = 10 := by decide
  have e2 : (10 : Int) ^ 2 = 100 := by decide
  have e3 : (10 : Int) ^ 3 = 1000 := by decide
  unfold dgn
  by_cases c1 : v < 10
  · rw [if_pos c1]
    exact ⟨by show v / 10 ^ 0 ≤ 9; rw [e0]; omega, fun j hj => by omega⟩
  by_cases c2 : v < 100
  · rw [if_neg c1, if_pos c2]
    refine ⟨by show v / 10 ^ 1 ≤ 9; rw [e1]; omega, fun j hj => ?_⟩
    obtain rfl : j = 0 := by omega
    rw [e0]; omega
  by_cases c3 : v < 1000
  · rw [if_neg c1, if_neg c2, if_pos c3]
    refine ⟨by show v / 10 ^ 2 ≤ 9; rw [e2]; omega, fun j hj => ?_⟩
    rcases (show j = 0 ∨ j = 1 by omega) with rfl | rfl
    · rw [e0]; omega
    · rw [e1]; omega
  · rw [if_neg c1, if_neg c2, if_neg c3]
    refine ⟨by show v / 10 ^ 3 ≤ 9; rw [e3]; omega, fun j hj => ?_⟩
    rcases (show j = 0 ∨ j = 1 ∨ j = 2 by omega) with rfl | rfl | rfl
    · rw [e0]; omega
    · rw [e1]; omega
    · rw [e2]; omega
def bvn : Nat → Int
  | 0 => 0
  | j + 1 => 10 ^ j
theorem msayNumber (M : MS h) (W : WM h w L cut) (l : cut ≤ 1000000) (wo : wok w) {v : Int} (v0 : 0 ≤ v) (v1 : v ≤ 9999) : ∃ g, fX11_saysNumber 983 (i32 v) h = some g ∧ Mo L8 h g ∧ WM g w ((L ++ dgT v).take cut) cut := by
  have d4 := dgn_4 v
  obtain ⟨b1, b2⟩ := dgn_b v0 v1
  have key : ∀ (r n : Nat) (g : HP) (L : List Int), r ≤ 4 → r < n → MS g → WM g w L cut → ∃ g', lX11_saysNumber_18 n 983 (i32 v) (i32 (bvn r)) g = some g' ∧ Mo L8 g g' ∧ WM g' w ((L ++ dgL v r).take cut) cut := by
    intro r
    induction r with
    | zero =>
      intro n g L r4 hn M W
      obtain ⟨n, rfl⟩ : ∃ x, n = x + 1 := ⟨n - 1, by omega⟩
      refine ⟨g, ?_, Mo.r, by simp only [dgL]; rw [take_L W]; exact W⟩
      rw [elX11_saysNumber_18]; unfold bX11_saysNumber_18
      rw [if_pos (by show i32 0 ≤ 0; decide)]
    | succ r ih =>
      intro n g L r4 hn M W
      obtain ⟨n, rfl⟩ : ∃ x, n = x + 1 := ⟨n - 1, by omega⟩
      have pr := p10 (show r ≤ 4 by omega)
      have q0 : 0 ≤ v / 10 ^ r := Int.ediv_nonneg v0 (by omega)
      have q1 : v / 10 ^ r ≤ v := Int.ediv_le_self _ v0
      have nzp : nz (i32 (10 ^ r)) = true := by
        unfold nz
        rw [decide_eq_true_eq, i32_z, i32_eq (by omega) (by omega) (by omega) (by omega)]
        omega
      have nx : (10 : Int) ^ r / 10 = bvn r := by
        cases r with
        | zero => decide
        | succ r =>
          show (10 : Int) ^ (r + 1) / 10 = 10 ^ r
          rw [Int.pow_succ]
          exact Int.mul_ediv_cancel _ (by decide)
      obtain ⟨g1, x1, x2, x3⟩ := msay M W l wo (48 + v / 10 ^ r % 10)
      obtain ⟨g2, y1, y2, y3⟩ := ih n g1 _ (by omega) (by omega) (x2.ms M) x3
      refine ⟨g2, ?_, x2.t y2, ?_⟩
      · rw [elX11_saysNumber_18]; unfold bX11_saysNumber_18
        rw [show bvn (r + 1) = 10 ^ r from rfl, if_neg (by rw [i32_z, i32_le (by omega) (by omega) (by omega) (by omega)]; omega), nzp, gd_tt, nz10, gd_tt, lt_e, M.o, gd_tt, i32_dv v0 (by omega) (by omega) (by omega), md10 q0 (by omega), i32_add, x1, bn_s, gd_tt, i32_dv (by omega) (by omega) (by omega) (by omega), lt_e, nx]
        exact y1
      · rw [take_app, List.append_assoc] at y3; exact y3
  have up : ∀ (k n j : Nat) (g : HP), j + k = dgn v - 1 → k < n → lX11_saysNumber_2 (fun w1 w2 w3 h4 => lX11_saysNumber_18 FU w1 w2 w3 h4) n 983 (i32 v) (i32 (10 ^ j)) g = lX11_saysNumber_18 FU 983 (i32 v) (i32 (10 ^ (dgn v - 1))) g := by
    intro k
    induction k with
    | zero =>
      intro n j g e hn
      obtain ⟨n, rfl⟩ : ∃ x, n = x + 1 := ⟨n - 1, by omega⟩
      have pr := p10 (show dgn v - 1 ≤ 4 by omega)
      have q0 : 0 ≤ v / 10 ^ (dgn v - 1) := Int.ediv_nonneg v0 (by omega)
      have nzp : nz (i32 (10 ^ (dgn v - 1))) = true := by
        unfold nz
        rw [decide_eq_true_eq, i32_z, i32_eq (by omega) (by omega) (by omega) (by omega)]
        omega
      rw [show j = dgn v - 1 by omega, elX11_saysNumber_2]; unfold bX11_saysNumber_2
      rw [nzp, gd_tt, i32_dv v0 (by omega) (by omega) (by omega), if_pos (by rw [i32_le (by omega) (by omega) (by omega) (by omega)]; exact b1)]
    | succ k ih =>
      intro n j g e hn
      obtain ⟨n, rfl⟩ : ∃ x, n = x + 1 := ⟨n - 1, by omega⟩
      have pr := p10 (show j ≤ 4 by omega)
      have q0 : 0 ≤ v / 10 ^ j := Int.ediv_nonneg v0 (by omega)
      have q1 : v / 10 ^ j ≤ v := Int.ediv_le_self _ v0
      have nzp : nz (i32 (10 ^ j)) = true := by
        unfold nz
        rw [decide_eq_true_eq, i32_z, i32_eq (by omega) (by omega) (by omega) (by omega)]
        omega
      have b3 := b2 j (by omega)
      rw [elX11_saysNumber_2]; unfold bX11_saysNumber_2
      rw [nzp, gd_tt, i32_dv v0 (by omega) (by omega) (by omega), if_neg (by rw [i32_le (by omega) (by omega) (by omega) (by omega)]; omega), i32_mul, lt_e, ← Int.pow_succ]
      exact ih n (j + 1) g (by omega) (by omega)
  unfold fX11_saysNumber
  have e1 := up (dgn v - 1) FU 0 h (by omega) (by have : FU = 1000000 := rfl; omega)
  rw [show ((10 : Int) ^ 0) = 1 by decide] at e1
  rw [e1]
  obtain ⟨g, x1, x2, x3⟩ := key (dgn v) FU h L (by omega) (by have : FU = 1000000 := rfl; omega) M W
  obtain ⟨d, hd⟩ : ∃ d, dgn v = d + 1 := ⟨dgn v - 1, by omega⟩
  refine ⟨g, ?_, x2, x3⟩
  rw [hd] at x1 ⊢
  exact x1
end

