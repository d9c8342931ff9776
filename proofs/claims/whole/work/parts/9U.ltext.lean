/-! THE TEXT OF A LAYOUT -/
section
variable {F X Y : Int → Int} {bd : Int → List Int} {M : Int}
/-- a row, as far as the nodes up to a place tell it -/
def rtk (F X Y : Int → Int) (bd : Int → List Int) (y : Int) : Nat → List Int
  | 0 => []
  | k + 1 => if X (F (256 + (k : Int))) = y then rtk F X Y bd y k ++ List.replicate (Y (F (256 + (k : Int))) - (rtk F X Y bd y k).length).toNat 32 ++ bd (F (256 + (k : Int))) else rtk F X Y bd y k
/-- rows with their ends -/
def txk (F X Y : Int → Int) (bd : Int → List Int) (n : Nat) : Nat → List Int
  | 0 => []
  | y + 1 => txk F X Y bd n y ++ rtk F X Y bd (y : Int) n ++ [10]
theorem rtk_len {y : Int} (hY : ∀ p, Y p ≤ 372) (hb : ∀ p, (bd p).length ≤ 10) : ∀ k : Nat, (rtk F X Y bd y k).length ≤ 372 + 10 * k := by
  intro k
  induction k with
  | zero => simp only [rtk, List.length_nil]; omega
  | succ k ih =>
    simp only [rtk]
    split
    · have a := hY (F (256 + (k : Int)))
      have b := hb (F (256 + (k : Int)))
      rw [List.length_append, List.length_append, List.length_replicate]
      omega
    · omega
theorem txk_len {n : Nat} (hn : n ≤ 32) (hY : ∀ p, Y p ≤ 372) (hb : ∀ p, (bd p).length ≤ 10) : ∀ y : Nat, (txk F X Y bd n y).length ≤ 700 * y := by
  intro y
  induction y with
  | zero => simp only [txk, List.length_nil]; omega
  | succ y ih =>
    have a := rtk_len (F := F) (X := X) (Y := Y) (bd := bd) (y := (y : Int)) hY hb n
    simp only [txk]
    rw [List.length_append, List.length_append, List.length_singleton]
    omega
/-- no later node stands in a row above -/
theorem chn_ge : ∀ (k : Nat) (i r : Int) (b : Bool), chn F X M k i r b → 0 ≤ i → ∀ j, i ≤ j → j < i + k → X (F (256 + j)) < 0 ∨ r ≤ X (F (256 + j)) := by
  intro k
  induction k with
  | zero => intro i r b _ i0 j j0 j1; omega
  | succ k ih =>
    intro i r b c i0 j j0 j1
    simp only [chn] at c
    by_cases e : j = i
    · rw [e]
      by_cases z : X (F (256 + i)) < 0
      · exact Or.inl z
      · rw [if_neg z] at c; exact Or.inr c.1
    · by_cases z : X (F (256 + i)) < 0
      · rw [if_pos z] at c
        exact ih _ _ _ c (by omega) j (by omega) (by omega)
      · rw [if_neg z] at c
        rcases ih _ _ _ c.2 (by omega) j (by omega) (by omega) with h | h
        · exact Or.inl h
        · right; omega
theorem rtk_same {y : Int} {i : Nat} : ∀ k : Nat, (∀ j : Nat, i ≤ j → j < i + k → X (F (256 + (j : Int))) ≠ y) → rtk F X Y bd y (i + k) = rtk F X Y bd y i := by
  intro k
  induction k with
  | zero => intro _; rfl
  | succ k ih =>
    intro h
    show rtk F X Y bd y (i + k + 1) = _
    simp only [rtk]
    rw [if_neg (h (i + k) (by omega) (by omega))]
    exact ih (fun j a b => h j a (by omega))
/-- what a field is told as -/
def fdX (nm v : Int) : List Int := nmT nm ++ (if 0 ≤ v then 61 :: dgT v else [])
def fdT (nm v wd : Int) : List Int := (fdX nm v ++ List.replicate wd.toNat 95).take wd.toNat
theorem fdT_len (nm v wd : Int) : (fdT nm v wd).length = wd.toNat := by
  unfold fdT
  rw [List.length_take, List.length_append, List.length_replicate]
  omega
def bdy (F φ : Int → Int) (pr : Bool) (p : Int) : List Int := if 24 ≤ p then 35 :: nmT (F (32 + p)) else fdT (F (32 + p)) (if pr = true then -2 else φ p) (F (160 + p))
end
section
variable {h g : HP} {w : Int} {L : List Int} {b : Bool}
theorem fdX_get {nm v : Int} (i : Nat) : fdX nm v = nmT nm ++ (if 0 ≤ v then 61 :: dgT v else []) := rfl
theorem get_last {A : List Int} {i : Nat} {x : Int} (e : A[i]? = some x) : A.drop i = x :: A.drop (i + 1) := by
  obtain ⟨h, hx⟩ := List.getElem?_eq_some_iff.mp e
  rw [List.drop_eq_getElem_cons h, hx]
/-- the class tells a field -/
theorem cputField (C : CS h) (W : WC h w L b) (l : L.length + 10 ≤ 1000000) (wo : wok w) {n : Nat} {nm v wd : Int} (on : isO h n 2 = true) (nn : n ≠ 114) (hJn : hJ h 129 n = i64 (lft nm)) (hw : NV nm) (hI3 : hI h 133 n = i32 wd) (w0 : 0 ≤ wd) (w1 : wd ≤ 10) (v0 : -2 ≤ v) (v1 : v ≤ 9999) : ∃ g, fX9_putField 114 (some n) (i32 v) h = some g ∧ So So8 h g ∧ WC g w (L ++ fdT nm v wd) b := by
  have l8 := nl_le nm
  have d4 := dgn_4 v
  have sg : ∀ (i : Nat) (x : Int), i < wd.toNat → (fdX nm v ++ List.replicate wd.toNat 95)[i]? = some x → (fdT nm v wd)[i]? = some x := fun i x hi e => by
    unfold fdT
    rw [List.getElem?_take, if_pos hi]; exact e
  have key : ∀ (r m i : Nat) (g : HP) (L : List Int), i + r = wd.toNat → r < m → So So8 h g → WC g w L b → L.length + r ≤ 1000000 → ∃ g', lX9_putField_11 m 114 (some n) (i32 v) (i32 (nl nm : Int)) (i32 (i : Int)) g = some g' ∧ So So8 h g' ∧ WC g' w (L ++ (fdT nm v wd).drop i) b := by
    intro r
    induction r with
    | zero =>
      intro m i g L e hm p W l
      obtain ⟨m, rfl⟩ : ∃ x, m = x + 1 := ⟨m - 1, by omega⟩
      have sn := p.2.2 n (fun z => nn z)
      refine ⟨g, ?_, p, by rw [List.drop_eq_nil_of_le (by rw [fdT_len]; omega), List.append_nil]; exact W⟩
      rw [elX9_putField_11]; unfold bX9_putField_11
      rw [oc_s, isO_sk p.1 on, gd_tt, sn.1, hI3, if_pos (by rw [i32_le (by omega) (by omega) (by omega) (by omega)]; omega)]
    | succ r ih =>
      intro m i g L e hm p W l
      obtain ⟨m, rfl⟩ : ∃ x, m = x + 1 := ⟨m - 1, by omega⟩
      have sn := p.2.2 n (fun z => nn z)
      have Cg := C.sk p.1
      have step : ∀ x : Int, (fdX nm v ++ List.replicate wd.toNat 95)[i]? = some x → ∃ g1 g2, fX9_put 114 (i32 x) g = some g1 ∧ lX9_putField_11 m 114 (some n) (i32 v) (i32 (nl nm : Int)) (i32 ((i : Int) + 1)) g1 = some g2 ∧ So So8 h g2 ∧ WC g2 w (L ++ (fdT nm v wd).drop i) b := fun x hx => by
        obtain ⟨g1, x1, x2, x3⟩ := cputc Cg W (by omega) wo x
        obtain ⟨g2, y1, y2, y3⟩ := ih m (i + 1) g1 _ (by omega) (by omega) (p.t x2) x3 (by have := len_1 L x; omega)
        refine ⟨g1, g2, x1, y1, y2, ?_⟩
        rw [get_last (sg i x (by omega) hx)]
        rw [List.append_assoc] at y3; exact y3
      have head : ∀ rr, (if i32 (nl nm : Int) ≤ i32 (i : Int) then (if i32 v < 0 then jX9_putField_61 (fun v0 v1 v2 v3 v4 h => lX9_putField_11 m v0 v1 v2 v3 v4 h) 114 (some n) (i32 v) (i32 (nl nm : Int)) (i32 (i : Int)) g else if i32 (i : Int) = i32 (nl nm : Int) then (bn (fX9_put 114 (i32 61) g) fun h106 => jX9_putField_101 (fun v0 v1 v2 v3 v4 h => lX9_putField_11 m v0 v1 v2 v3 v4 h) 114 (some n) (i32 v) (i32 (nl nm : Int)) (i32 (i : Int)) h106) else jX9_putField_61 (fun v0 v1 v2 v3 v4 h => lX9_putField_11 m v0 v1 v2 v3 v4 h) 114 (some n) (i32 v) (i32 (nl nm : Int)) (i32 (i : Int)) g) else bn (fX10_letterOf (i64 (lft nm)) (i32 (i : Int)) g) fun v108 => gd true <| bn (fX9_put 114 v108 g) fun h111 => jX9_putField_101 (fun v0 v1 v2 v3 v4 h => lX9_putField_11 m v0 v1 v2 v3 v4 h) 114 (some n) (i32 v) (i32 (nl nm : Int)) (i32 (i : Int)) h111) = rr → lX9_putField_11 (m + 1) 114 (some n) (i32 v) (i32 (nl nm : Int)) (i32 (i : Int)) g = rr := fun rr hrr => by
        rw [elX9_putField_11]; unfold bX9_putField_11
        rw [oc_s, isO_sk p.1 on, gd_tt, sn.1, hI3, if_neg (show ¬ i32 wd ≤ i32 (i : Int) by rw [i32_le (by omega) (by omega) (by omega) (by omega)]; omega), sn.2.1, hJn, Cg.o_writer, gd_tt]
        exact hrr
      have j101 : ∀ g1, jX9_putField_101 (fun v0 v1 v2 v3 v4 h => lX9_putField_11 m v0 v1 v2 v3 v4 h) 114 (some n) (i32 v) (i32 (nl nm : Int)) (i32 (i : Int)) g1 = lX9_putField_11 m 114 (some n) (i32 v) (i32 (nl nm : Int)) (i32 ((i : Int) + 1)) g1 := fun g1 => by
        unfold jX9_putField_101
        rw [lt_e, i32_add]
      have nln : (nmT nm).length = nl nm := nmT_len nm
      by_cases c1 : i < nl nm
      · -- a letter
        have lw : 0 ≤ ltw nm i ∧ ltw nm i < 32 := by unfold ltw; omega
        obtain ⟨g1, g2, x1, x2, x3, x4⟩ := step (96 + ltw nm i) (by
          unfold fdX
          rw [List.append_assoc, List.getElem?_append_left (by rw [nln]; exact c1)]
          unfold nmT ltw
          rw [nmL_get nm _ i c1]
          rfl)
        refine ⟨g2, head _ ?_, x3, x4⟩
        rw [if_neg (by rw [i32_le (by omega) (by omega) (by omega) (by omega)]; omega), cletterOf_s hw (by omega) (by omega), bn_s, if_pos (show 0 ≤ (i : Int) ∧ (i : Int) < nl nm by omega), gd_tt, x1, bn_s, j101]
        exact x2
      rw [show (0 : Int32) = i32 0 from i32_z] at head
      have under : (0 ≤ v → nl nm + 1 + dgn v ≤ i) → ∃ g', jX9_putField_95 (fun v0 v1 v2 v3 v4 h => lX9_putField_11 m v0 v1 v2 v3 v4 h) 114 (some n) (i32 v) (i32 (nl nm : Int)) (i32 (i : Int)) g = some g' ∧ So So8 h g' ∧ WC g' w (L ++ (fdT nm v wd).drop i) b := fun hv => by
        obtain ⟨g1, g2, x1, x2, x3, x4⟩ := step 95 (by
          have lx : (fdX nm v).length ≤ i := by
            unfold fdX
            rw [List.length_append, nln]
            by_cases v2 : 0 ≤ v
            · rw [if_pos v2, List.length_cons, dgT_len]; have := hv v2; omega
            · rw [if_neg v2, List.length_nil]; omega
          rw [List.getElem?_append_right lx, List.getElem?_replicate, if_pos (by omega)])
        refine ⟨g2, ?_, x3, x4⟩
        unfold jX9_putField_95
        rw [Cg.o_writer, gd_tt, x1, bn_s, j101]
        exact x2
      by_cases v2 : v < 0
      · obtain ⟨g', z1, z2, z3⟩ := under (fun z => by omega)
        refine ⟨g', head _ ?_, z2, z3⟩
        rw [if_pos (by rw [i32_le (by omega) (by omega) (by omega) (by omega)]; omega), if_pos (by rw [i32_lt (by omega) (by omega) (by omega) (by omega)]; omega)]
        unfold jX9_putField_61
        rw [i32_z, if_pos (by rw [i32_lt (by omega) (by omega) (by omega) (by omega)]; omega)]
        exact z1
      have ex : fdX nm v = nmT nm ++ (61 :: dgT v) := by unfold fdX; rw [if_pos (by omega)]
      by_cases c2 : i = nl nm
      · obtain ⟨g1, g2, x1, x2, x3, x4⟩ := step 61 (by
          rw [ex, List.append_assoc, List.getElem?_append_right (by omega), nln, c2, Nat.sub_self]
          rfl)
        refine ⟨g2, head _ ?_, x3, x4⟩
        rw [if_pos (by rw [i32_le (by omega) (by omega) (by omega) (by omega)]; omega), if_neg (by rw [i32_lt (by omega) (by omega) (by omega) (by omega)]; omega), if_pos (by rw [c2]), x1, bn_s, j101]
        exact x2
      have hd : ∀ g', jX9_putField_61 (fun v0 v1 v2 v3 v4 h => lX9_putField_11 m v0 v1 v2 v3 v4 h) 114 (some n) (i32 v) (i32 (nl nm : Int)) (i32 (i : Int)) g = some g' → lX9_putField_11 (m + 1) 114 (some n) (i32 v) (i32 (nl nm : Int)) (i32 (i : Int)) g = some g' := fun g' z => by
        refine head _ ?_
        rw [if_pos (by rw [i32_le (by omega) (by omega) (by omega) (by omega)]; omega), if_neg (by rw [i32_lt (by omega) (by omega) (by omega) (by omega)]; omega), if_neg (by rw [i32_eq (by omega) (by omega) (by omega) (by omega)]; omega)]
        exact z
      by_cases c3 : nl nm + 1 + dgn v ≤ i
      · obtain ⟨g', z1, z2, z3⟩ := under (fun _ => c3)
        refine ⟨g', hd _ ?_, z2, z3⟩
        unfold jX9_putField_61
        rw [i32_z, if_neg (by rw [i32_lt (by omega) (by omega) (by omega) (by omega)]; omega), digits_s (by omega) v1, bn_s, i32_sub, i32_sub, if_pos (by rw [i32_le (by omega) (by omega) (by omega) (by omega)]; omega)]
        exact z1
      · have kk : ((i : Int) - nl nm - 1).toNat = i - nl nm - 1 := by omega
        obtain ⟨g1, g2, x1, x2, x3, x4⟩ := step (48 + v / 10 ^ (dgn v - 1 - ((i : Int) - nl nm - 1).toNat) % 10) (by
          obtain ⟨q, hq⟩ : ∃ q, i - nl nm = q + 1 := ⟨i - nl nm - 1, by omega⟩
          rw [ex, List.append_assoc, List.getElem?_append_right (by omega), nln, hq, List.cons_append, List.getElem?_cons_succ, List.getElem?_append_left (by rw [dgT_len]; omega)]
          unfold dgT
          rw [dgL_get v _ q (by omega), show ((i : Int) - nl nm - 1).toNat = q by omega])
        refine ⟨g2, hd _ ?_, x3, x4⟩
        unfold jX9_putField_61
        rw [i32_z, if_neg (by rw [i32_lt (by omega) (by omega) (by omega) (by omega)]; omega), digits_s (by omega) v1, bn_s, i32_sub, i32_sub, if_neg (by rw [i32_le (by omega) (by omega) (by omega) (by omega)]; omega), digit_s (by omega) v1 (by omega) (by omega), bn_s, Cg.o_writer, gd_tt, x1, bn_s, j101]
        exact x2
  obtain ⟨g, x1, x2, x3⟩ := key wd.toNat FU 0 h L (by omega) (by have : FU = 1000000 := rfl; omega) So.r W (by omega)
  refine ⟨g, ?_, x2, by rw [List.drop_zero] at x3; exact x3⟩
  unfold fX9_putField
  rw [oc_s, on, gd_tt, hJn, nameLength_s hw, bn_s]
  exact x1
end

