/-! WHOLE ARRAYS -/
def wA (h : HP) (a : Nat) (φ : Nat → Int32) : HP := (h.1, htg h, hln h, hI h, hJ h, hR h, (fun b => if b = a then φ else hA h b), hL h, hQ h)
def wL (h : HP) (a : Nat) (φ : Nat → Int64) : HP := (h.1, htg h, hln h, hI h, hJ h, hR h, hA h, (fun b => if b = a then φ else hL h b), hQ h)
def up1 {α : Type} (φ : Nat → α) (i : Nat) (x : α) : Nat → α := fun j => if j = i then x else φ j
theorem wA_self (h : HP) (a : Nat) : wA h a (hA h a) = h := by
  have e : (fun b => if b = a then hA h a else hA h b) = hA h := by
    funext b; by_cases c : b = a
    · rw [if_pos c, c]
    · rw [if_neg c]
  unfold wA; rw [e]; rfl
theorem wL_self (h : HP) (a : Nat) : wL h a (hL h a) = h := by
  have e : (fun b => if b = a then hL h a else hL h b) = hL h := by
    funext b; by_cases c : b = a
    · rw [if_pos c, c]
    · rw [if_neg c]
  unfold wL; rw [e]; rfl
theorem sA_wA (h : HP) (a i : Nat) (φ : Nat → Int32) (x : Int32) : sA (wA h a φ) a i x = wA h a (up1 φ i x) := by
  have e : up2 (fun b => if b = a then φ else hA h b) a i x = (fun b => if b = a then up1 φ i x else hA h b) := by
    funext b j
    unfold up2 up1
    by_cases c : b = a
    · by_cases d : j = i <;> simp [c, d]
    · simp [c]
  show (h.1, htg h, hln h, hI h, hJ h, hR h, up2 (fun b => if b = a then φ else hA h b) a i x, hL h, hQ h) = _
  rw [e]; rfl
theorem sA_w (h : HP) (a i : Nat) (x : Int32) : sA h a i x = wA h a (up1 (hA h a) i x) := by
  have := sA_wA h a i (hA h a) x
  rwa [wA_self] at this
theorem sL_wL (h : HP) (a i : Nat) (φ : Nat → Int64) (x : Int64) : sL (wL h a φ) a i x = wL h a (up1 φ i x) := by
  have e : up2 (fun b => if b = a then φ else hL h b) a i x = (fun b => if b = a then up1 φ i x else hL h b) := by
    funext b j
    unfold up2 up1
    by_cases c : b = a
    · by_cases d : j = i <;> simp [c, d]
    · simp [c]
  show (h.1, htg h, hln h, hI h, hJ h, hR h, hA h, up2 (fun b => if b = a then φ else hL h b) a i x, hQ h) = _
  rw [e]; rfl
theorem sL_w (h : HP) (a i : Nat) (x : Int64) : sL h a i x = wL h a (up1 (hL h a) i x) := by
  have := sL_wL h a i (hL h a) x
  rwa [wL_self] at this
theorem wA_wA (h : HP) (a : Nat) (φ ψ : Nat → Int32) : wA (wA h a φ) a ψ = wA h a ψ := by
  have e : (fun b => if b = a then ψ else (fun b => if b = a then φ else hA h b) b) = (fun b => if b = a then ψ else hA h b) := by
    funext b; by_cases c : b = a <;> simp [c]
  show (h.1, htg h, hln h, hI h, hJ h, hR h, (fun b => if b = a then ψ else (fun b => if b = a then φ else hA h b) b), hL h, hQ h) = _
  rw [e]; rfl
theorem wL_wL (h : HP) (a : Nat) (φ ψ : Nat → Int64) : wL (wL h a φ) a ψ = wL h a ψ := by
  have e : (fun b => if b = a then ψ else (fun b => if b = a then φ else hL h b) b) = (fun b => if b = a then ψ else hL h b) := by
    funext b; by_cases c : b = a <;> simp [c]
  show (h.1, htg h, hln h, hI h, hJ h, hR h, hA h, (fun b => if b = a then ψ else (fun b => if b = a then φ else hL h b) b), hQ h) = _
  rw [e]; rfl
section
variable (h : HP) (a : Nat) (φ : Nat → Int32) (ψ : Nat → Int64)
theorem wA_A : hA (wA h a φ) a = φ := if_pos rfl
theorem wA_A2 {b : Nat} (n : b ≠ a) : hA (wA h a φ) b = hA h b := if_neg n
theorem wA_I : hI (wA h a φ) = hI h := rfl
theorem wA_J : hJ (wA h a φ) = hJ h := rfl
theorem wA_R : hR (wA h a φ) = hR h := rfl
theorem wA_L : hL (wA h a φ) = hL h := rfl
theorem wA_Q : hQ (wA h a φ) = hQ h := rfl
theorem wA_n : hln (wA h a φ) = hln h := rfl
theorem wA_o (b t : Nat) : isO (wA h a φ) b t = isO h b t := rfl
theorem wA_s : hsz (wA h a φ) = hsz h := rfl
theorem wL_L : hL (wL h a ψ) a = ψ := if_pos rfl
theorem wL_L2 {b : Nat} (n : b ≠ a) : hL (wL h a ψ) b = hL h b := if_neg n
theorem wL_I : hI (wL h a ψ) = hI h := rfl
theorem wL_J : hJ (wL h a ψ) = hJ h := rfl
theorem wL_R : hR (wL h a ψ) = hR h := rfl
theorem wL_A : hA (wL h a ψ) = hA h := rfl
theorem wL_Q : hQ (wL h a ψ) = hQ h := rfl
theorem wL_n : hln (wL h a ψ) = hln h := rfl
theorem wL_o (b t : Nat) : isO (wL h a ψ) b t = isO h b t := rfl
theorem wL_s : hsz (wL h a ψ) = hsz h := rfl
theorem wA_sk : Sk h (wA h a φ) := ⟨Nat.le_refl _, fun _ _ => ⟨rfl, rfl, fun _ _ => rfl, fun _ _ _ _ => rfl⟩⟩
theorem wL_sk : Sk h (wL h a ψ) := ⟨Nat.le_refl _, fun _ _ => ⟨rfl, rfl, fun _ _ => rfl, fun _ _ _ _ => rfl⟩⟩
theorem Fm_wA (fo : Int) : Fm (wA h a φ) fo = Fm h fo := rfl
theorem Wm_wA : Wm (wA h a φ) = Wm h := rfl
end
/-! CONDITIONS OF THE MODEL: tests and what they ask for -/
def Pt (h : HP) (k : Int) : Int32 := hA h 990 k.toNat
def tT (t : Int32) : Bool := decide (t &&& i32 7 = i32 0)
def tF (t : Int32) : Int32 := (t >>> (i32 5 &&& 31)) &&& i32 31
/-- a stretch of the pool -/
def SG (F : Int → Int) (n : Int) : Prop := 0 ≤ F (192 + n) ∧ 0 ≤ F (224 + n) ∧ F (192 + n) + F (224 + n) ≤ 12000
def aks (P : Int → Int32) (fr : Int) : Nat → Int → Int32 → Int32
  | 0, _, c => c
  | k + 1, i, c => aks P fr k (i + 1) (if tT (P (fr + i)) = true then c ||| (i32 1 <<< (tF (P (fr + i)) &&& 31)) else c)
def Rm (F : Int → Int) (P : Int → Int32) (n : Int) : Int32 := aks P (F (192 + n)) (F (224 + n)).toNat 0 (i32 0)
def nT (F : Int → Int) (P : Int → Int32) (n : Int) : Int := cnt (fun k => tT (P (F (192 + n) + k))) (F (224 + n)).toNat 0
theorem testsL_s {h : HP} (M : MS h) {fo x : Int} (h0 : 0 ≤ fo) (h1 : fo ≤ 2588) (x1 : 0 ≤ x) (x2 : x < 32) (G : SG (Fm h fo) x) : ∀ (k n : Nat) (c i : Int), 0 ≤ i → i + k = Fm h fo (224 + x) → k < n → lX11_tests_5 h n 983 (i32 fo) (i32 x) (i32 c) (i32 i) = some (i32 (c + cnt (fun k => tT (Pt h (Fm h fo (192 + x) + k))) k i)) := by
  intro k
  obtain ⟨g1, g2, g3⟩ := G
  induction k with
  | zero =>
    intro n c i i0 e hn
    obtain ⟨m, rfl⟩ : ∃ m, n = m + 1 := ⟨n - 1, by omega⟩
    rw [elX11_tests_5]; unfold bX11_tests_5
    simp (disch := omega) only [M.o, gd_tt, of_s M (show 0 ≤ fo + 224 + x by omega) (by omega), bn_s, i32_le]
    rw [if_pos (by omega)]; simp [cnt]
  | succ k ih =>
    intro n c i i0 e hn
    obtain ⟨m, rfl⟩ : ∃ m, n = m + 1 := ⟨n - 1, by omega⟩
    rw [elX11_tests_5]; unfold bX11_tests_5 jX11_tests_48 fX11_sortOf
    simp (disch := omega) only [M.o, gd_tt, of_s M (show 0 ≤ fo + 224 + x by omega) (by omega), of_s M (show 0 ≤ fo + 192 + x by omega) (by omega), bn_s, i32_le, M.r_pool, M.o_pool, M.n_pool, oc_s, i32_add, i32_inb, i32_cn, i32_z, lt_e]
    rw [if_neg (by omega)]
    simp only [cnt]
    by_cases c2 : hA h 990 (Fm h fo (192 + x) + i).toNat &&& i32 7 = i32 0
    · rw [if_pos c2, if_pos (by simp [tT, Pt, c2])]
      simp only [bI_tt, i32_add]
      rw [ih m _ _ (by omega) (by omega) (by omega), Int.add_assoc]
    · rw [if_neg c2, if_neg (by simp [tT, Pt, c2])]
      simp only [bI_ff, i32_add]
      rw [ih m _ _ (by omega) (by omega) (by omega), Int.add_assoc]
theorem tests_s {h : HP} (M : MS h) {fo x : Int} (h0 : 0 ≤ fo) (h1 : fo ≤ 2588) (x1 : 0 ≤ x) (x2 : x < 32) (G : SG (Fm h fo) x) : fX11_tests 983 (i32 fo) (i32 x) h = some (i32 (nT (Fm h fo) (Pt h) x)) := by
  unfold fX11_tests nT
  rw [testsL_s M h0 h1 x1 x2 G (Fm h fo (224 + x)).toNat FU 0 0 (by decide) (by have := G.2.1; omega) (by have := G.2.2; have := G.1; have : FU = 1000000 := rfl; omega), Int.zero_add]
theorem askedL_s {h : HP} (M : MS h) {fo x : Int} (h0 : 0 ≤ fo) (h1 : fo ≤ 2588) (x1 : 0 ≤ x) (x2 : x < 32) (G : SG (Fm h fo) x) : ∀ (k n : Nat) (c : Int32) (i : Int), 0 ≤ i → i + k = Fm h fo (224 + x) → k < n → lX11_asked_5 h n 983 (i32 fo) (i32 x) c (i32 i) = some (aks (Pt h) (Fm h fo (192 + x)) k i c) := by
  intro k
  obtain ⟨g1, g2, g3⟩ := G
  induction k with
  | zero =>
    intro n c i i0 e hn
    obtain ⟨m, rfl⟩ : ∃ m, n = m + 1 := ⟨n - 1, by omega⟩
    rw [elX11_asked_5]; unfold bX11_asked_5
    simp (disch := omega) only [M.o, gd_tt, of_s M (show 0 ≤ fo + 224 + x by omega) (by omega), bn_s, i32_le]
    rw [if_pos (by omega)]; rfl
  | succ k ih =>
    intro n c i i0 e hn
    obtain ⟨m, rfl⟩ : ∃ m, n = m + 1 := ⟨n - 1, by omega⟩
    rw [elX11_asked_5]; unfold bX11_asked_5 jX11_asked_58 fX11_sortOf fX11_fieldOf
    simp (disch := omega) only [M.o, gd_tt, of_s M (show 0 ≤ fo + 224 + x by omega) (by omega), of_s M (show 0 ≤ fo + 192 + x by omega) (by omega), bn_s, i32_le, M.r_pool, M.o_pool, M.n_pool, oc_s, i32_add, i32_inb, i32_cn, i32_z, lt_e]
    rw [if_neg (by omega)]
    simp only [aks]
    by_cases c2 : hA h 990 (Fm h fo (192 + x) + i).toNat &&& i32 7 = i32 0
    · rw [if_pos c2, if_pos (by simp [tT, Pt, c2]), ih m _ _ (by omega) (by omega) (by omega)]; rfl
    · rw [if_neg c2, if_neg (by simp [tT, Pt, c2]), or_z, ih m _ _ (by omega) (by omega) (by omega)]
theorem asked_s {h : HP} (M : MS h) {fo x : Int} (h0 : 0 ≤ fo) (h1 : fo ≤ 2588) (x1 : 0 ≤ x) (x2 : x < 32) (G : SG (Fm h fo) x) : fX11_asked 983 (i32 fo) (i32 x) h = some (Rm (Fm h fo) (Pt h) x) := by
  unfold fX11_asked Rm
  exact askedL_s M h0 h1 x1 x2 G (Fm h fo (224 + x)).toNat FU _ 0 (by decide) (by have := G.2.1; omega) (by have := G.2.2; have := G.1; have : FU = 1000000 := rfl; omega)
/-! what fields need, in the model -/
def upN (F : Int → Int) (x : Int) (s : Int32) (lo : Int) (φ : Nat → Int32) : Nat → Int32 := fun j => if lo ≤ j ∧ (j : Int) < 24 ∧ F j ≠ -1 ∧ isin F 9 j x = true then φ j ||| s else φ j
theorem neededL_s {h : HP} (M : MS h) {x : Int} {s : Int32} (x1 : -2147483648 ≤ x) (x2 : x < 2147483648) (V : AV (Fm h 0)) (C : CE (Fm h 0)) : ∀ (k n : Nat) (i : Int) (φ : Nat → Int32), 0 ≤ i → i + k = 24 → k < n → lX11_needed_2 n 983 (i32 x) s (i32 i) (wA h 991 φ) = some (wA h 991 (upN (Fm h 0) x s i φ)) := by
  intro k
  induction k with
  | zero =>
    intro n i φ i0 e hn
    obtain ⟨m, rfl⟩ : ∃ m, n = m + 1 := ⟨n - 1, by omega⟩
    rw [elX11_needed_2]; unfold bX11_needed_2
    simp (disch := omega) only [i32_le]
    rw [if_pos (by omega)]
    congr 2
    funext j; unfold upN; rw [if_neg (by omega)]
  | succ k ih =>
    intro n i φ i0 e hn
    obtain ⟨m, rfl⟩ : ∃ m, n = m + 1 := ⟨n - 1, by omega⟩
    have M' : MS (wA h 991 φ) := M.sk (wA_sk _ _ _)
    rw [elX11_needed_2]; unfold bX11_needed_2 jX11_needed_37
    simp (disch := omega) only [i32_le, M'.o, gd_tt, has_s M' (show (0 : Int) ≤ 0 by decide) (by decide) (show -2147483648 ≤ i by omega) (by omega), bn_s, isIn_s M' (show (0 : Int) ≤ 0 by decide) (by decide) x1 x2 V (show -2 ≤ i by omega) (by omega) (C.ends (show i < 32 by omega)), lt_e, i32_add, M'.r_needs, M'.o_needs, M'.n_needs, oc_s, i32_inb, i32_cn, wA_A, sA_wA, Fm_wA]
    rw [if_neg (by omega)]
    have fin : ∀ b : Bool, (b = true ↔ (Fm h 0 i ≠ -1 ∧ isin (Fm h 0) 9 i x = true)) → upN (Fm h 0) x s (i + 1) (if b = true then up1 φ i.toNat (φ i.toNat ||| s) else φ) = upN (Fm h 0) x s i φ := by
      intro b hb
      funext j
      by_cases q : (j : Int) = i
      · have q' : j = i.toNat := by omega
        unfold upN
        rw [if_neg (by omega)]
        by_cases w : b = true
        · rw [if_pos w, if_pos ⟨by omega, by omega, by rw [q]; exact (hb.mp w).1, by rw [q]; exact (hb.mp w).2⟩]
          unfold up1; rw [if_pos q', q']
        · rw [if_neg w, if_neg (fun z => w (hb.mpr (by rw [q] at z; exact ⟨z.2.2.1, z.2.2.2⟩)))]
      · have q' : j ≠ i.toNat := by omega
        have w : (if b = true then up1 φ i.toNat (φ i.toNat ||| s) else φ) j = φ j := by
          split
          · unfold up1; rw [if_neg q']
          · rfl
        unfold upN
        rw [w]
        by_cases r : i + 1 ≤ (j : Int) ∧ (j : Int) < 24 ∧ Fm h 0 j ≠ -1 ∧ isin (Fm h 0) 9 j x = true
        · rw [if_pos r, if_pos ⟨by omega, r.2⟩]
        · rw [if_neg r, if_neg (fun z => r ⟨by omega, z.2⟩)]
    by_cases p : Fm h 0 i = -1
    · rw [if_neg (by simp [p]), ih m (i + 1) φ (by omega) (by omega) (by omega)]
      rw [← fin false (by simp [p])]; rfl
    · rw [if_pos (by simp [p]; omega)]
      by_cases c : isin (Fm h 0) 9 i x = true
      · rw [if_pos c, ih m (i + 1) _ (by omega) (by omega) (by omega)]
        rw [← fin true (by simp [p, c])]; rfl
      · rw [if_neg c, ih m (i + 1) φ (by omega) (by omega) (by omega)]
        rw [← fin false (by simp [c])]; rfl
theorem needed_s {h : HP} (M : MS h) {x : Int} {s : Int32} (x1 : -2147483648 ≤ x) (x2 : x < 2147483648) (V : AV (Fm h 0)) (C : CE (Fm h 0)) (φ : Nat → Int32) : fX11_needed 983 (i32 x) s (wA h 991 φ) = some (wA h 991 (upN (Fm h 0) x s 0 φ)) := by
  unfold fX11_needed
  exact neededL_s M x1 x2 V C 24 FU 0 φ (by decide) (by decide) (by decide)
/-- the needs of fields, gathered over the order from a place on; without: the node that is left out -/
def lay (F : Int → Int) (R : Int → Int32) (wo : Int) : Nat → Int → (Nat → Int32) → (Nat → Int32)
  | 0, _, φ => φ
  | k + 1, i, φ => lay F R wo k (i + 1) (if F (256 + i) = wo then φ else upN F (F (256 + i)) (R (F (256 + i))) 0 φ)
def zer (lo : Int) (φ : Nat → Int32) : Nat → Int32 := fun j => if lo ≤ j ∧ (j : Int) < 24 then i32 0 else φ j
/-- all stretches of the pool that nodes of the order tell -/
def SGs (F : Int → Int) : Prop := ∀ i, 0 ≤ i → i < F 288 → SG F (F (256 + i))
theorem laysZ_s {h : HP} (M : MS h) {wo : Int32} {K : Nat → Int32 → HP → Option HP} : ∀ (k n : Nat) (i : Int) (φ : Nat → Int32), 0 ≤ i → i + k = 24 → k < n → lX11_laysNeeds_2 K n 983 wo (i32 i) (wA h 991 φ) = K 983 wo (wA h 991 (zer i φ)) := by
  intro k
  induction k with
  | zero =>
    intro n i φ i0 e hn
    obtain ⟨m, rfl⟩ : ∃ m, n = m + 1 := ⟨n - 1, by omega⟩
    rw [elX11_laysNeeds_2]; unfold bX11_laysNeeds_2
    simp (disch := omega) only [i32_le]
    rw [if_pos (by omega)]
    congr 2
    funext j; unfold zer; rw [if_neg (by omega)]
  | succ k ih =>
    intro n i φ i0 e hn
    obtain ⟨m, rfl⟩ : ∃ m, n = m + 1 := ⟨n - 1, by omega⟩
    have M' : MS (wA h 991 φ) := M.sk (wA_sk _ _ _)
    rw [elX11_laysNeeds_2]; unfold bX11_laysNeeds_2
    simp (disch := omega) only [i32_le, M'.o, gd_tt, M'.r_needs, M'.o_needs, M'.n_needs, oc_s, i32_inb, i32_cn, sA_wA, lt_e, i32_add]
    rw [if_neg (by omega), ih m (i + 1) _ (by omega) (by omega) (by omega)]
    congr 2
    funext j; unfold zer up1
    by_cases q : j = i.toNat
    · rw [if_neg (by omega), if_pos q, if_pos (by omega)]
    · rw [if_neg q]
      by_cases r : i ≤ (j : Int) ∧ (j : Int) < 24
      · rw [if_pos (by omega), if_pos r]
      · rw [if_neg (by omega), if_neg r]
theorem laysL_s {h : HP} (M : MS h) {wo : Int} (w1 : -2147483648 ≤ wo) (w2 : wo < 2147483648) (V : AV (Fm h 0)) (O : OV (Fm h 0)) (C : CE (Fm h 0)) (G : SGs (Fm h 0)) : ∀ (k n : Nat) (i : Int) (φ : Nat → Int32), 0 ≤ i → i + k = Fm h 0 288 → k < n → lX11_laysNeeds_23 n 983 (i32 wo) (i32 i) (wA h 991 φ) = some (wA h 991 (lay (Fm h 0) (Rm (Fm h 0) (Pt h)) wo k i φ)) := by
  intro k
  have o1 := O.1
  have o2 := O.2.1
  induction k with
  | zero =>
    intro n i φ i0 e hn
    obtain ⟨m, rfl⟩ : ∃ m, n = m + 1 := ⟨n - 1, by omega⟩
    have M' : MS (wA h 991 φ) := M.sk (wA_sk _ _ _)
    rw [elX11_laysNeeds_23]; unfold bX11_laysNeeds_23
    simp (disch := omega) only [M'.o, gd_tt, many_s M' (show (0 : Int) ≤ 0 by decide) (by decide), bn_s, Fm_wA, i32_le]
    rw [if_pos (by omega)]; rfl
  | succ k ih =>
    intro n i φ i0 e hn
    obtain ⟨m, rfl⟩ : ∃ m, n = m + 1 := ⟨n - 1, by omega⟩
    have M' : MS (wA h 991 φ) := M.sk (wA_sk _ _ _)
    have o := O.2.2 i i0 (by omega)
    have g := G i i0 (by omega)
    have ep : Pt (wA h 991 φ) = Pt h := rfl
    rw [elX11_laysNeeds_23]; unfold bX11_laysNeeds_23 jX11_laysNeeds_55
    simp (disch := omega) only [M'.o, gd_tt, many_s M' (show (0 : Int) ≤ 0 by decide) (by decide), bn_s, Fm_wA, i32_le, ordered_s M' (show (0 : Int) ≤ 0 by decide) (by decide) i0 (show i < 36 by omega), i32_eq, asked_s M' (show (0 : Int) ≤ 0 by decide) (by decide) o.1 o.2 g, needed_s M (show -2147483648 ≤ Fm h 0 (256 + i) by omega) (by omega) V C, lt_e, i32_add, ep]
    rw [if_neg (by omega)]
    simp only [lay]
    by_cases c : Fm h 0 (256 + i) = wo
    · rw [if_pos c, if_pos c, ih m (i + 1) φ (by omega) (by omega) (by omega)]
    · rw [if_neg c, if_neg c, ih m (i + 1) _ (by omega) (by omega) (by omega)]
/-- the needs as the model lays them -/
def lays (F : Int → Int) (R : Int → Int32) (wo : Int) (φ : Nat → Int32) : Nat → Int32 := lay F R wo (F 288).toNat 0 (zer 0 φ)
theorem lays_s {h : HP} (M : MS h) {wo : Int} (w1 : -2147483648 ≤ wo) (w2 : wo < 2147483648) (V : AV (Fm h 0)) (O : OV (Fm h 0)) (C : CE (Fm h 0)) (G : SGs (Fm h 0)) : fX11_laysNeeds 983 (i32 wo) h = some (wA h 991 (lays (Fm h 0) (Rm (Fm h 0) (Pt h)) wo (hA h 991))) := by
  unfold fX11_laysNeeds lays
  have o1 := O.1
  have o2 := O.2.1
  have e := laysZ_s M (wo := i32 wo) (K := fun w1 w2 h3 => lX11_laysNeeds_23 FU w1 w2 (i32 0) h3) 24 FU 0 (hA h 991) (by decide) (by decide) (by decide)
  rw [wA_self] at e
  rw [e]
  exact laysL_s M w1 w2 V O C G _ FU 0 _ (by decide) (by omega) (by have : FU = 1000000 := rfl; omega)
theorem lay_bt {F : Int → Int} {R : Int → Int32} {wo g : Int} {f : Nat} (hf : (f : Int) < 24) (p : F f ≠ -1) : ∀ (k : Nat) (i : Int) (φ : Nat → Int32), bt (lay F R wo k i φ f) g = true ↔ (bt (φ f) g = true ∨ ∃ j, i ≤ j ∧ j < i + k ∧ F (256 + j) ≠ wo ∧ isin F 9 f (F (256 + j)) = true ∧ bt (R (F (256 + j))) g = true) := by
  intro k
  induction k with
  | zero =>
    intro i φ
    simp only [lay]
    constructor
    · exact Or.inl
    · rintro (e | ⟨j, a, b, _⟩)
      · exact e
      · omega
  | succ k ih =>
    intro i φ
    simp only [lay]
    rw [ih]
    have step : bt ((if F (256 + i) = wo then φ else upN F (F (256 + i)) (R (F (256 + i))) 0 φ) f) g = true ↔ (bt (φ f) g = true ∨ (F (256 + i) ≠ wo ∧ isin F 9 f (F (256 + i)) = true ∧ bt (R (F (256 + i))) g = true)) := by
      by_cases c : F (256 + i) = wo
      · rw [if_pos c]; simp [c]
      · rw [if_neg c]
        unfold upN
        by_cases d : isin F 9 f (F (256 + i)) = true
        · rw [if_pos ⟨by omega, hf, p, d⟩, bt_or, Bool.or_eq_true]; simp [c, d]
        · rw [if_neg (fun z => d z.2.2.2)]; simp [d]
    rw [step]
    constructor
    · rintro ((e | e) | ⟨j, a, b, e⟩)
      · exact Or.inl e
      · exact Or.inr ⟨i, by omega, by omega, e⟩
      · exact Or.inr ⟨j, by omega, by omega, e⟩
    · rintro (e | ⟨j, a, b, e⟩)
      · exact Or.inl (Or.inl e)
      · by_cases q : j = i
        · subst q; exact Or.inl (Or.inr e)
        · exact Or.inr ⟨j, by omega, by omega, e⟩
theorem lay_abs {F : Int → Int} {R : Int → Int32} {wo : Int} {f : Nat} (p : F f = -1) : ∀ (k : Nat) (i : Int) (φ : Nat → Int32), lay F R wo k i φ f = φ f := by
  intro k
  induction k with
  | zero => intro i φ; rfl
  | succ k ih =>
    intro i φ
    simp only [lay]; rw [ih]
    split
    · rfl
    · unfold upN; rw [if_neg (fun z => z.2.2.1 p)]
theorem zer_0 (φ : Nat → Int32) {f : Nat} (hf : (f : Int) < 24) : zer 0 φ f = i32 0 := by
  unfold zer; rw [if_pos (by omega)]
/-! reached -/
def Nm (h : HP) (f : Int) : Int32 := hA h 991 f.toNat
theorem reachL2_s {h : HP} (M : MS h) {s : Int32} {K : Nat → Int32 → Int32 → Option Int32} : ∀ (k n : Nat) (i : Int) (c : Int32), 0 ≤ i → i + k = 24 → k < n → lX11_reached_16 h K n 983 c s (i32 i) = K 983 (orl (Nm h) s k i c) s := by
  intro k
  induction k with
  | zero =>
    intro n i c i0 e hn
    obtain ⟨m, rfl⟩ : ∃ m, n = m + 1 := ⟨n - 1, by omega⟩
    rw [elX11_reached_16]; unfold bX11_reached_16
    simp (disch := omega) only [i32_le]
    rw [if_pos (by omega)]; rfl
  | succ k ih =>
    intro n i c i0 e hn
    obtain ⟨m, rfl⟩ : ∃ m, n = m + 1 := ⟨n - 1, by omega⟩
    rw [elX11_reached_16]; unfold bX11_reached_16 jX11_reached_45
    simp (disch := omega) only [i32_le, M.o, gd_tt, M.r_needs, M.o_needs, M.n_needs, oc_s, i32_inb, i32_cn, lt_e, i32_add, bt_in]
    rw [if_neg (by omega)]
    simp only [orl]
    by_cases c2 : bt s i = true
    · rw [if_pos c2, if_pos c2, ih m (i + 1) _ (by omega) (by omega) (by omega)]; rfl
    · rw [if_neg c2, if_neg c2, or_z, ih m (i + 1) _ (by omega) (by omega) (by omega)]
theorem reachL_s {h : HP} (M : MS h) (k2 : ∀ f, lo24 (Nm h f)) : ∀ (k n : Nat) (s : Int32), lo24 s → 25 ≤ cb s + k → k + 1 < n → lX11_reached_6 h n 983 (ste (Nm h) s) s = some (cl (Nm h) k s) := by
  intro k
  induction k with
  | zero => intro n s l e; have := cb_rng s; omega
  | succ k ih =>
    intro n s l e hn
    obtain ⟨m, rfl⟩ : ∃ m, n = m + 1 := ⟨n - 1, by omega⟩
    rw [elX11_reached_6]; unfold bX11_reached_6
    simp only [cl]
    by_cases c : ste (Nm h) s = s
    · rw [if_pos c, if_pos c, c]
    · rw [if_neg c, if_neg c, reachL2_s M 24 FU 0 _ (by decide) (by decide) (by decide)]
      have g := cb_grow ste_sub (ste_lo l k2) c
      exact ih m (ste (Nm h) s) (ste_lo l k2) (by omega) (by omega)
def sng (f : Int) : Int32 := i32 1 <<< (i32 f &&& 31)
theorem sng_bt {f i : Int} (h0 : 0 ≤ f) (h1 : f < 24) (h2 : 0 ≤ i) (h3 : i < 32) : bt (sng f) i = (i == f) := bt_sh h0 (by omega) h2 h3
theorem sng_lo {f : Int} (h0 : 0 ≤ f) (h1 : f < 24) : lo24 (sng f) := fun i a b => by
  rw [sng_bt h0 h1 (by omega) b]; exact beq_eq_false_iff_ne.mpr (by omega)
theorem sng_nz {f : Int} (h0 : 0 ≤ f) (h1 : f < 24) : sng f ≠ i32 0 := fun e => by
  have := sng_bt h0 h1 h0 (by omega)
  rw [e, bt_0] at this; simp at this
theorem cb_pos {s : Int32} (l : lo24 s) (n : s ≠ i32 0) : 1 ≤ cb s := by
  have : cb (i32 0) + 1 ≤ cb s := cb_grow (fun i _ _ z => by rw [bt_0] at z; cases z) l n
  have := cb_rng (i32 0)
  omega
theorem reached_s {h : HP} (M : MS h) (k2 : ∀ f, lo24 (Nm h f)) {f : Int} (h0 : 0 ≤ f) (h1 : f < 24) : fX11_reached 983 (i32 f) h = some (cl (Nm h) 24 (sng f)) := by
  unfold fX11_reached
  simp only [lt_e]
  have n := sng_nz h0 h1
  have l := sng_lo h0 h1
  rw [show FU = 999999 + 1 from rfl, elX11_reached_6]; unfold bX11_reached_6
  show (if sng f = i32 0 then _ else lX11_reached_16 h (fun w101 w102 w103 => lX11_reached_6 h 999999 w101 w102 w103) FU 983 (sng f) (sng f) (i32 0)) = _
  rw [if_neg n, reachL2_s M 24 FU 0 _ (by decide) (by decide) (by decide)]
  exact reachL_s M k2 24 999999 (sng f) l (by have := cb_pos l n; omega) (by decide)
/-- reached is the field with the closure of its needs -/
theorem cl_sng {N : Int → Int32} (k2 : ∀ f, lo24 (N f)) {f : Int} (h0 : 0 ≤ f) (h1 : f < 24) : cl N 24 (sng f) = rch N f := by
  apply isCl_u (cl24 k2 (sng_lo h0 h1))
  unfold rch
  rw [if_pos ⟨h0, h1⟩]
  obtain ⟨a1, a2, a3⟩ := cl24 k2 (k2 f)
  refine ⟨fun i i0 i1 e => by rw [bt_or]; exact Bool.or_eq_true _ _ |>.mpr (Or.inl e), ?_, ?_⟩
  · intro o o0 o1 e i i0 i1 e2
    rw [bt_or, Bool.or_eq_true] at e ⊢
    right
    rcases e with e | e
    · have e3 := sng_bt h0 h1 o0 (show o < 32 by omega)
      unfold sng at e3
      rw [e3, beq_iff_eq] at e
      subst e
      exact a1 i i0 i1 e2
    · exact a2 o o0 o1 e i i0 i1 e2
  · intro x q1 q2 i i0 i1 e
    rw [bt_or, Bool.or_eq_true] at e
    rcases e with e | e
    · exact q1 i i0 i1 e
    · exact a3 x (q2 f h0 h1 (q1 f h0 (by omega) (by rw [sng_bt h0 h1 h0 (by omega)]; exact beq_self_eq_true f))) q2 i i0 i1 e
def finM (F : Int → Int) (x f : Int) : Bool := decide (F f ≠ -1 ∧ isin F 9 f x = true)
theorem fieldsInL_s {h : HP} (M : MS h) {x : Int} (x1 : -2147483648 ≤ x) (x2 : x < 2147483648) (V : AV (Fm h 0)) (C : CE (Fm h 0)) : ∀ (k n : Nat) (i : Int) (c : Int32), 0 ≤ i → i + k = 24 → k < n → lX11_fieldsIn_4 h n 983 (i32 x) c (i32 i) = some (fmk (finM (Fm h 0) x) k i c) := by
  intro k
  induction k with
  | zero =>
    intro n i c i0 e hn
    obtain ⟨m, rfl⟩ : ∃ m, n = m + 1 := ⟨n - 1, by omega⟩
    rw [elX11_fieldsIn_4]; unfold bX11_fieldsIn_4
    simp (disch := omega) only [i32_le]
    rw [if_pos (by omega)]; rfl
  | succ k ih =>
    intro n i c i0 e hn
    obtain ⟨m, rfl⟩ : ∃ m, n = m + 1 := ⟨n - 1, by omega⟩
    rw [elX11_fieldsIn_4]; unfold bX11_fieldsIn_4 jX11_fieldsIn_36 jX11_fieldsIn_37
    simp (disch := omega) only [i32_le, M.o, gd_tt, has_s M (show (0 : Int) ≤ 0 by decide) (by decide) (show -2147483648 ≤ i by omega) (by omega), bn_s, isIn_s M (show (0 : Int) ≤ 0 by decide) (by decide) x1 x2 V (show -2 ≤ i by omega) (by omega) (C.ends (show i < 32 by omega)), lt_e, i32_add]
    rw [if_neg (by omega)]
    simp only [fmk]
    by_cases p : Fm h 0 i = -1
    · rw [if_neg (by simp [p]), or_z, if_neg (by simp [finM, p]), ih m (i + 1) c (by omega) (by omega) (by omega)]
    · rw [if_pos (by simp [p]; omega)]
      by_cases c2 : isin (Fm h 0) 9 i x = true
      · rw [if_pos c2, if_pos (by simp [finM, p, c2]), ih m (i + 1) _ (by omega) (by omega) (by omega)]
      · rw [if_neg c2, or_z, if_neg (by simp [finM, c2]), ih m (i + 1) c (by omega) (by omega) (by omega)]
theorem fieldsIn_s {h : HP} (M : MS h) {x : Int} (x1 : -2147483648 ≤ x) (x2 : x < 2147483648) (V : AV (Fm h 0)) (C : CE (Fm h 0)) : fX11_fieldsIn 983 (i32 x) h = some (fmk (finM (Fm h 0) x) 24 0 (i32 0)) := by
  unfold fX11_fieldsIn
  exact fieldsInL_s M x1 x2 V C 24 FU 0 _ (by decide) (by decide) (by decide)
theorem circles_s {h : HP} (M : MS h) (k2 : ∀ f, lo24 (Nm h f)) {x f : Int} (x1 : -2147483648 ≤ x) (x2 : x < 2147483648) (h0 : 0 ≤ f) (h1 : f < 24) (V : AV (Fm h 0)) (C : CE (Fm h 0)) : fX11_circles 983 (i32 x) (i32 f) h = some (decide (rch (Nm h) f &&& fmk (finM (Fm h 0) x) 24 0 (i32 0) ≠ i32 0)) := by
  unfold fX11_circles
  simp only [M.o, gd_tt, reached_s M k2 h0 h1, bn_s, fieldsIn_s M x1 x2 V C, i32_z, ite_ne, cl_sng k2 h0 h1]
theorem soundL2_s {h : HP} (M : MS h) (k2 : ∀ f, lo24 (Nm h f)) {f : Int} (f0 : 0 ≤ f) (f1 : f < 24) {K : Nat → Int32 → Int32 → HP → Option (Bool × HP)} : ∀ (k n : Nat) (i : Int) (c : Int32), 0 ≤ i → i + k = 24 → k < n → lX11_isSound_18 K n 983 (i32 f) c (i32 i) h = K 983 (i32 f) (orl (rch (Nm h)) (Nm h f) k i c) h := by
  intro k
  induction k with
  | zero =>
    intro n i c i0 e hn
    obtain ⟨m, rfl⟩ : ∃ m, n = m + 1 := ⟨n - 1, by omega⟩
    rw [elX11_isSound_18]; unfold bX11_isSound_18
    simp (disch := omega) only [i32_le]
    rw [if_pos (by omega)]; rfl
  | succ k ih =>
    intro n i c i0 e hn
    obtain ⟨m, rfl⟩ : ∃ m, n = m + 1 := ⟨n - 1, by omega⟩
    rw [elX11_isSound_18]; unfold bX11_isSound_18 jX11_isSound_48
    simp (disch := omega) only [i32_le, M.o, gd_tt, M.r_needs, M.o_needs, M.n_needs, oc_s, i32_inb, i32_cn, lt_e, i32_add, bt_in, reached_s M k2 i0 (show i < 24 by omega), bn_s, cl_sng k2 i0 (show i < 24 by omega)]
    rw [if_neg (by omega)]
    simp only [orl]
    by_cases c2 : bt (hA h 991 f.toNat) i = true
    · rw [if_pos c2, if_pos (show bt (Nm h f) i = true from c2), ih m (i + 1) _ (by omega) (by omega) (by omega)]
    · rw [if_neg c2, if_neg (show ¬ bt (Nm h f) i = true from c2), or_z, ih m (i + 1) _ (by omega) (by omega) (by omega)]
theorem soundL_s {h : HP} (M : MS h) (k2 : ∀ f, lo24 (Nm h f)) : ∀ (k n : Nat) (i : Int), 0 ≤ i → i + k = 24 → k < n → lX11_isSound_8 n 983 (i32 i) h = some (!anyf (fun f => bt (orl (rch (Nm h)) (Nm h f) 24 0 (i32 0)) f) k i, h) := by
  intro k
  induction k with
  | zero =>
    intro n i i0 e hn
    obtain ⟨m, rfl⟩ : ∃ m, n = m + 1 := ⟨n - 1, by omega⟩
    rw [elX11_isSound_8]; unfold bX11_isSound_8
    simp (disch := omega) only [i32_le]
    rw [if_pos (by omega)]; rfl
  | succ k ih =>
    intro n i i0 e hn
    obtain ⟨m, rfl⟩ : ∃ m, n = m + 1 := ⟨n - 1, by omega⟩
    rw [elX11_isSound_8]; unfold bX11_isSound_8
    simp (disch := omega) only [i32_le, soundL2_s M k2 i0 (show i < 24 by omega) 24 FU 0 (i32 0) (by decide) (by decide) (by decide), bt_in, lt_e, i32_add]
    rw [if_neg (by omega)]
    simp only [anyf]
    by_cases c : bt (orl (rch (Nm h)) (Nm h i) 24 0 (i32 0)) i = true
    · rw [if_pos c, if_pos c]; rfl
    · rw [if_neg c, if_neg c, ih m (i + 1) (by omega) (by omega) (by omega)]
/-- the union of what the needs reach is the closure of the needs -/
theorem orl_rch {N : Int → Int32} (k2 : ∀ f, lo24 (N f)) {s : Int32} (l : lo24 s) : orl (rch N) s 24 0 (i32 0) = cl N 24 s := by
  obtain ⟨a1, a2, a3⟩ := cl24 k2 l
  apply sub_eq
  · intro i i0 i1 e
    rcases (orl_bt _ _ _).mp e with e | ⟨o, o0, o1, e1, e2⟩
    · rw [bt_0] at e; cases e
    · have o1 : o < 24 := by omega
      rw [← cl_sng k2 o0 o1] at e2
      have w := cl24 k2 (sng_lo o0 o1)
      refine w.2.2 _ ?_ a2 i i0 i1 e2
      intro j j0 j1 e3
      rw [sng_bt o0 o1 j0 j1, beq_iff_eq] at e3
      subst e3
      exact a1 j j0 j1 e1
  · apply a3
    · intro i i0 i1 e
      rw [orl_bt]
      right
      by_cases c : i < 24
      · refine ⟨i, i0, by omega, e, ?_⟩
        unfold rch; rw [if_pos ⟨i0, c⟩, bt_or, bt_sh i0 (by omega) i0 i1]; simp
      · rw [l i (by omega) i1] at e; cases e
    · intro o o0 o1 e i i0 i1 e2
      rw [orl_bt] at e ⊢
      rcases e with e | ⟨q, q0, q1, e1, e3⟩
      · rw [bt_0] at e; cases e
      · right
        refine ⟨q, q0, q1, e1, ?_⟩
        rw [← cl_sng k2 q0 (show q < 24 by omega)] at e3 ⊢
        exact (cl24 k2 (sng_lo q0 (show q < 24 by omega))).2.1 o o0 o1 e3 i i0 i1 e2
theorem isSound_s {h : HP} (M : MS h) (V : AV (Fm h 0)) (O : OV (Fm h 0)) (C : CE (Fm h 0)) (G : SGs (Fm h 0)) (g : HP) (eg : g = wA h 991 (lays (Fm h 0) (Rm (Fm h 0) (Pt h)) (-2) (hA h 991))) (k2 : ∀ f, lo24 (Nm g f)) : fX11_isSound 983 h = some (!anyf (fun f => bt (cl (Nm g) 24 (Nm g f)) f) 24 0, g) := by
  unfold fX11_isSound
  simp only [M.o, gd_tt, lays_s M (show (-2147483648 : Int) ≤ -2 by decide) (by decide) V O C G, bn_s]
  rw [← eg, soundL_s (M.sk (eg ▸ wA_sk _ _ _)) k2 24 FU 0 (by decide) (by decide) (by decide)]
  congr 3
  apply anyf_congr
  intro j _ _
  rw [orl_rch k2 (k2 j)]
/-! THE SAME TREE TOLD BY TWO -/
def EqT (G F : Int → Int) : Prop := (∀ n, 0 ≤ n → n < 32 → G n = F n) ∧ G 288 = F 288 ∧ ∀ i, 0 ≤ i → i < F 288 → G (256 + i) = F (256 + i)
theorem EqT_symm {G F : Int → Int} (E : EqT G F) : EqT F G := ⟨fun n a b => (E.1 n a b).symm, E.2.1.symm, fun i a b => (E.2.2 i a (by rw [← E.2.1]; exact b)).symm⟩
theorem EqT_AV {G F : Int → Int} (E : EqT G F) (V : AV F) : AV G := fun n a b => by rw [E.1 n a b]; exact V n a b
theorem EqT_OV {G F : Int → Int} (E : EqT G F) (O : OV F) : OV G := ⟨by rw [E.2.1]; exact O.1, by rw [E.2.1]; exact O.2.1, fun i a b => by rw [E.2.1] at b; rw [E.2.2 i a b]; exact O.2.2 i a b⟩
theorem EqT_TV {G F : Int → Int} (E : EqT G F) (T : TV F) : TV G := fun n a b => by
  rw [E.1 n a b]
  rcases T n a b with e | e | e
  · exact Or.inl e
  · exact Or.inr (Or.inl e)
  · exact Or.inr (Or.inr ⟨e.1, e.2.1, by rw [E.1 _ (by omega) e.2.1]; exact e.2.2⟩)
theorem EqT_OP {G F : Int → Int} (E : EqT G F) (O : OV F) (P : OP F) : OP G := fun i a b => by
  rw [E.2.1] at b
  have o := O.2.2 i a b
  rw [E.2.2 i a b, E.1 _ o.1 o.2]; exact P i a b
theorem EqT_ends {G F : Int → Int} (E : EqT G F) (V : AV F) : ∀ (k : Nat) (g : Int), g < 32 → ends F k g → ends G k g := by
  intro k
  induction k with
  | zero => intro g _ e; exact e
  | succ k ih =>
    intro g hg e
    rcases e with e | e
    · exact Or.inl e
    · by_cases c : 0 ≤ g
      · right; rw [E.1 g c hg]; exact ih _ (V g c hg).2 e
      · left; omega
theorem EqT_CE {G F : Int → Int} (E : EqT G F) (V : AV F) (C : CE F) : CE G := fun n a b => EqT_ends E V 8 n b (C n a b)
theorem EqT_dpt {G F : Int → Int} (E : EqT G F) (V : AV F) : ∀ (k : Nat) (g : Int), g < 32 → dpt G k g = dpt F k g := by
  intro k
  induction k with
  | zero => intro g _; rfl
  | succ k ih =>
    intro g hg
    simp only [dpt]
    by_cases c : 0 ≤ g
    · rw [if_pos c, if_pos c, E.1 g c hg, ih _ (V g c hg).2]
    · rw [if_neg c, if_neg c]
theorem EqT_isin {G F : Int → Int} (E : EqT G F) (V : AV F) {o : Int} : ∀ (k : Nat) (g : Int), g < 32 → isin G k g o = isin F k g o := by
  intro k
  induction k with
  | zero => intro g _; rfl
  | succ k ih =>
    intro g hg
    simp only [isin]
    by_cases c : 0 ≤ g ∧ g ≠ o
    · rw [if_pos c, if_pos c, E.1 g c.1 hg, ih _ (V g c.1 hg).2]
    · rw [if_neg c, if_neg c]
theorem EqT_son {G F : Int → Int} (E : EqT G F) (O : OV F) {g i : Int} (i0 : 0 ≤ i) (i1 : i < F 288) : son G g i = son F g i := by
  have o := O.2.2 i i0 i1
  unfold son; rw [E.2.2 i i0 i1, E.1 _ o.1 o.2]
theorem EqT_nds {G F : Int → Int} (E : EqT G F) (V : AV F) {R S : Int → Int32} (hR : ∀ n, 0 ≤ n → n < 32 → F n ≠ -1 → R n = S n) (T : TV F) : ∀ (k : Nat) (g : Int), (g = -2 ∨ (0 ≤ g ∧ g < 32 ∧ F g ≠ -1)) → nds G R k g = nds F S k g := by
  intro k
  induction k with
  | zero => intro g _; rfl
  | succ k ih =>
    intro g hg
    simp only [nds]
    rcases hg with hg | ⟨a, b, c⟩
    · rw [if_neg (by omega), if_neg (by omega)]
    · rw [if_pos a, if_pos a, hR g a b c, E.1 g a b, ih _ ((T.grp a b c).imp id fun z => ⟨by omega, z.2.1, z.2.2⟩)]
theorem EqT_NE {G F : Int → Int} (E : EqT G F) (V : AV F) {R S : Int → Int32} (hR : ∀ n, 0 ≤ n → n < 32 → F n ≠ -1 → R n = S n) (T : TV F) : NE G R = NE F S := by
  funext f
  unfold NE
  by_cases c : 0 ≤ f ∧ f < 24
  · rw [E.1 f c.1 (by omega)]
    by_cases d : F f = -1
    · rw [if_neg (fun z => z.2.2 d), if_neg (fun z => z.2.2 d)]
    · rw [if_pos ⟨c.1, c.2, d⟩, if_pos ⟨c.1, c.2, d⟩, EqT_nds E V hR T 9 f (Or.inr ⟨c.1, by omega, d⟩)]
  · rw [if_neg (fun z => c ⟨z.1, z.2.1⟩), if_neg (fun z => c ⟨z.1, z.2.1⟩)]
theorem EqT_fin {G F : Int → Int} (E : EqT G F) (V : AV F) {x f : Int} (f0 : 0 ≤ f) (f1 : f < 32) : fin G x f = fin F x f := by
  unfold fin
  rw [E.1 f f0 f1, EqT_isin E V 8 _ (V f f0 f1).2]
/-! fields of a node: the class's way and the model's -/
theorem isin_9 {F : Int → Int} {n x : Int} (n0 : 0 ≤ n) : isin F 9 n x = true ↔ (n = x ∨ isin F 8 (F n) x = true) := by
  show (if 0 ≤ n ∧ n ≠ x then isin F 8 (F n) x else n == x) = true ↔ _
  by_cases c : n = x
  · rw [if_neg (fun z => z.2 c)]; simp [c]
  · rw [if_pos ⟨n0, c⟩]; simp [c]
theorem fin_M {F : Int → Int} {x f : Int} (x0 : 0 ≤ x) (f0 : 0 ≤ f) : fin F x f = finM F x f := by
  unfold fin finM
  congr 1
  apply propext
  rw [isin_9 f0]
  constructor
  · rintro ⟨a, b⟩; exact ⟨a, by rcases b with b | b; omega; exact b⟩
  · rintro ⟨a, b⟩; exact ⟨a, Or.inr b⟩
/-- chains: what is in the chain of a node -/
theorem nds_bt {F : Int → Int} {R : Int → Int32} {g : Int} (V : AV F) : ∀ (k : Nat) (n : Int), n < 32 → ends F k n → (bt (nds F R k n) g = true ↔ ∃ c, 0 ≤ c ∧ c < 32 ∧ isin F k n c = true ∧ bt (R c) g = true) := by
  intro k
  induction k with
  | zero =>
    intro n hn e
    have e' : n < 0 := e
    simp only [nds, isin, bt_0]
    constructor
    · intro z; cases z
    · rintro ⟨c, c0, _, z, _⟩; rw [beq_iff_eq] at z; omega
  | succ k ih =>
    intro n hn e
    simp only [nds]
    by_cases c : 0 ≤ n
    · rw [if_pos c, bt_or, Bool.or_eq_true]
      rcases e with e | e
      · omega
      rw [ih _ (V n c hn).2 e]
      constructor
      · rintro (z | ⟨d, d0, d1, z, w⟩)
        · exact ⟨n, c, hn, by simp only [isin]; rw [if_neg (fun y => y.2 rfl)]; exact beq_self_eq_true n, z⟩
        · refine ⟨d, d0, d1, ?_, w⟩
          simp only [isin]
          by_cases q : n = d
          · rw [if_neg (fun y => y.2 q), q]; exact beq_self_eq_true d
          · rw [if_pos ⟨c, q⟩]; exact z
      · rintro ⟨d, d0, d1, z, w⟩
        simp only [isin] at z
        by_cases q : n = d
        · left; rw [q]; exact w
        · rw [if_pos ⟨c, q⟩] at z
          exact Or.inr ⟨d, d0, d1, z, w⟩
    · rw [if_neg c, bt_0]
      constructor
      · intro z; cases z
      · rintro ⟨d, d0, _, z, _⟩
        simp only [isin] at z
        rw [if_neg (by omega), beq_iff_eq] at z; omega
/-- all that is there is in the order -/
def PO (F : Int → Int) : Prop := ∀ n, 0 ≤ n → n < 32 → F n ≠ -1 → ∃ i, 0 ≤ i ∧ i < F 288 ∧ F (256 + i) = n
/-- what the chain of a node that is there holds is there -/
theorem isin_there {F : Int → Int} (T : TV F) {c : Int} (c0 : 0 ≤ c) : ∀ (k : Nat) (n : Int), (n = -2 ∨ (0 ≤ n ∧ n < 32 ∧ F n ≠ -1)) → isin F k n c = true → c < 32 ∧ F c ≠ -1 := by
  intro k
  induction k with
  | zero =>
    intro n hn z
    simp only [isin, beq_iff_eq] at z
    rcases hn with hn | hn
    · omega
    · subst z; exact hn.2
  | succ k ih =>
    intro n hn z
    simp only [isin] at z
    by_cases q : 0 ≤ n ∧ n ≠ c
    · rw [if_pos q] at z
      rcases hn with hn | hn
      · omega
      · exact ih _ ((T.grp hn.1 hn.2.1 hn.2.2).imp id fun w => ⟨by omega, w.2.1, w.2.2⟩) z
    · rw [if_neg q, beq_iff_eq] at z
      rcases hn with hn | hn
      · omega
      · subst z; exact hn.2
/-- the model's needs are those of the class -/
theorem lays_NE {F : Int → Int} {R : Int → Int32} {φ : Nat → Int32} {wo : Int} (hw : wo < 0) (T : TV F) (O : OV F) (C : CE F) (PO : PO F) {f : Int} (f0 : 0 ≤ f) (f1 : f < 24) : lays F R wo φ f.toNat = NE F R f := by
  have ef : ((f.toNat : Nat) : Int) = f := by omega
  unfold NE
  by_cases p : F f = -1
  · rw [if_neg (fun z => z.2.2 p)]
    unfold lays
    rw [lay_abs (by rw [ef]; exact p), zer_0 _ (by omega)]
  · rw [if_pos ⟨f0, f1, p⟩]
    apply bt_ext
    intro g g0 g1
    rw [Bool.eq_iff_iff]
    unfold lays
    rw [lay_bt (by omega) (by rw [ef]; exact p), zer_0 _ (by omega), bt_0, nds_bt T.av 9 f (by omega) (C.ends (by omega)), ef]
    constructor
    · rintro (z | ⟨j, j0, j1, _, z, w⟩)
      · cases z
      · have o := O.2.2 j j0 (by have := O.1; omega)
        exact ⟨_, o.1, o.2, z, w⟩
    · rintro ⟨c, c0, c1, z, w⟩
      have t := isin_there T c0 9 f (Or.inr ⟨f0, by omega, p⟩) z
      obtain ⟨i, i0, i1, e⟩ := PO c c0 c1 t.2
      exact Or.inr ⟨i, i0, by omega, by rw [e]; omega, by rw [e]; exact z, by rw [e]; exact w⟩
/-! THE ORDER GOES DOWN THE TREE -/
def up (F : Int → Int) : Nat → Int → Int
  | 0, n => n
  | j + 1, n => if 0 ≤ n then up F j (F n) else n
theorem up_neg {F : Int → Int} : ∀ (j : Nat) (n : Int), n < 0 → up F j n = n := by
  intro j n h
  cases j with
  | zero => rfl
  | succ j => simp only [up]; rw [if_neg (by omega)]
theorem up_add {F : Int → Int} : ∀ (i j : Nat) (n : Int), up F (i + j) n = up F j (up F i n) := by
  intro i
  induction i with
  | zero => intro j n; rw [Nat.zero_add]; rfl
  | succ i ih =>
    intro j n
    rw [show i + 1 + j = (i + j) + 1 by omega]
    simp only [up]
    by_cases c : 0 ≤ n
    · rw [if_pos c, if_pos c, ih]
    · rw [if_neg c, if_neg c, up_neg j n (by omega)]
theorem isin_up {F : Int → Int} {c : Int} (c0 : 0 ≤ c) : ∀ (k : Nat) (n : Int), isin F k n c = true ↔ ∃ j, j ≤ k ∧ up F j n = c := by
  intro k
  induction k with
  | zero =>
    intro n
    simp only [isin, beq_iff_eq]
    constructor
    · intro e; exact ⟨0, Nat.le_refl _, e⟩
    · rintro ⟨j, a, b⟩; rw [show j = 0 by omega] at b; exact b
  | succ k ih =>
    intro n
    simp only [isin]
    by_cases q : 0 ≤ n ∧ n ≠ c
    · rw [if_pos q, ih]
      constructor
      · rintro ⟨j, a, b⟩; exact ⟨j + 1, by omega, by simp only [up]; rw [if_pos q.1]; exact b⟩
      · rintro ⟨j, a, b⟩
        cases j with
        | zero => exact absurd b q.2
        | succ j => simp only [up] at b; rw [if_pos q.1] at b; exact ⟨j, by omega, b⟩
    · rw [if_neg q, beq_iff_eq]
      constructor
      · intro e; exact ⟨0, Nat.zero_le _, e⟩
      · rintro ⟨j, a, b⟩
        by_cases w : n = c
        · exact w
        · rw [up_neg j n (by omega)] at b; exact b
/-- an end is an end: more steps change nothing -/
theorem up_ends {F : Int → Int} : ∀ (k : Nat) (n : Int), ends F k n → up F k n < 0 := by
  intro k
  induction k with
  | zero => intro n e; exact e
  | succ k ih =>
    intro n e
    simp only [up]
    by_cases c : 0 ≤ n
    · rw [if_pos c]
      rcases e with e | e
      · omega
      · exact ih _ e
    · rw [if_neg c]; omega
/-- in the chain of n, without a bound -/
def inch (F : Int → Int) (n c : Int) : Prop := ∃ j, up F j n = c
theorem isin_ch {F : Int → Int} {n c : Int} (c0 : 0 ≤ c) (e : ends F 9 n) : isin F 9 n c = true ↔ inch F n c := by
  rw [isin_up c0]
  constructor
  · rintro ⟨j, _, b⟩; exact ⟨j, b⟩
  · rintro ⟨j, b⟩
    by_cases q : j ≤ 9
    · exact ⟨j, q, b⟩
    · exfalso
      have w := up_ends 9 n e
      have v := up_add (F := F) 9 (j - 9) n
      rw [show 9 + (j - 9) = j by omega, b, up_neg _ _ w] at v
      omega
theorem inch_tr {F : Int → Int} {n c d : Int} (h : inch F n c) (k : inch F c d) : inch F n d := by
  obtain ⟨i, e⟩ := h
  obtain ⟨j, f⟩ := k
  exact ⟨i + j, by rw [up_add, e, f]⟩
theorem inch_lin {F : Int → Int} {n c d : Int} (h : inch F n c) (k : inch F n d) : inch F c d ∨ inch F d c := by
  obtain ⟨i, e⟩ := h
  obtain ⟨j, f⟩ := k
  by_cases q : i ≤ j
  · left; exact ⟨j - i, by rw [← e, ← up_add, show i + (j - i) = j by omega, f]⟩
  · right; exact ⟨i - j, by rw [← f, ← up_add, show j + (i - j) = i by omega, e]⟩
theorem inch_par {F : Int → Int} {n : Int} (n0 : 0 ≤ n) : inch F n (F n) := ⟨1, by simp only [up]; rw [if_pos n0]⟩
theorem inch_rfl {F : Int → Int} {n : Int} : inch F n n := ⟨0, rfl⟩
theorem dpt_up {F : Int → Int} : ∀ (j k : Nat) (n : Int), 0 ≤ up F j n → dpt F (k + j) n = j + dpt F k (up F j n) := by
  intro j
  induction j with
  | zero => intro k n _; simp [up]
  | succ j ih =>
    intro k n h
    have c : 0 ≤ n := by
      apply Classical.byContradiction
      intro z; rw [up_neg _ _ (by omega)] at h; omega
    simp only [up] at h ⊢
    rw [if_pos c] at h ⊢
    rw [show k + (j + 1) = (k + j) + 1 by omega]
    simp only [dpt]
    rw [if_pos c, ih k (F n) h]
    omega
theorem dpt_8 {F : Int → Int} {n : Int} (e : ends F 8 n) (m : Nat) (hm : 8 ≤ m) : dpt F m n = dpt F 8 n := dpt_ends e hm
/-- levels along a chain -/
theorem lev_ch {F : Int → Int} (C : CE F) {n c : Int} (n1 : n < 32) (c0 : 0 ≤ c) (c1 : c < 32) (h : inch F n c) : ∃ j : Nat, up F j n = c ∧ dpt F 8 n = j + dpt F 8 c := by
  obtain ⟨j, e⟩ := h
  have en : ends F 8 n := by
    by_cases q : 0 ≤ n
    · exact C n q n1
    · exact Or.inl (by omega)
  refine ⟨j, e, ?_⟩
  have := dpt_up j 8 n (by rw [e]; exact c0)
  rw [e, dpt_8 en (8 + j) (by omega)] at this
  exact this
theorem dpt_par {F : Int → Int} (C : CE F) {n : Int} (n0 : 0 ≤ n) (n1 : n < 32) : dpt F 8 n = 1 + dpt F 8 (F n) := by
  have e := C n n0 n1
  have e2 : ends F 7 (F n) := by
    rcases e with e | e
    · omega
    · exact e
  have w : dpt F 8 n = 1 + dpt F 7 (F n) := by
    show (if 0 ≤ n then 1 + dpt F 7 (F n) else 0) = _
    rw [if_pos n0]
  rw [w, ← dpt_ends e2 (show 7 ≤ 8 by omega)]
/-- each node of the order is at the top, or in a group that its neighbour ahead is in, or is -/
def PRE (F : Int → Int) : Prop := ∀ q, 0 ≤ q → q < F 288 → F (F (256 + q)) = -2 ∨ (1 ≤ q ∧ inch F (F (256 + (q - 1))) (F (F (256 + q))))
/-- no node stands twice -/
def DO (F : Int → Int) : Prop := ∀ i j, 0 ≤ i → i < F 288 → 0 ≤ j → j < F 288 → F (256 + i) = F (256 + j) → i = j
/-- the tree of a form with its order -/
def TR (F : Int → Int) : Prop := OV F ∧ OP F ∧ PO F ∧ DO F ∧ TV F ∧ CE F ∧ PRE F
section
variable {F : Int → Int}
theorem TR.ov (t : TR F) : OV F := t.1
theorem TR.op (t : TR F) : OP F := t.2.1
theorem TR.po (t : TR F) : PO F := t.2.2.1
theorem TR.dd (t : TR F) : DO F := t.2.2.2.1
theorem TR.tv (t : TR F) : TV F := t.2.2.2.2.1
theorem TR.ce (t : TR F) : CE F := t.2.2.2.2.2.1
theorem TR.pre (t : TR F) : PRE F := t.2.2.2.2.2.2
theorem TR.av (t : TR F) : AV F := t.tv.av
end
/-- what a chain runs through is a node, or the top -/
theorem up_val {F : Int → Int} (T : TV F) : ∀ (j : Nat) (n : Int), (n = -2 ∨ (0 ≤ n ∧ n < 32 ∧ F n ≠ -1)) → (up F j n = n ∨ up F j n = -2 ∨ (24 ≤ up F j n ∧ up F j n < 32 ∧ F (up F j n) ≠ -1)) := by
  intro j
  induction j with
  | zero => intro n _; exact Or.inl rfl
  | succ j ih =>
    intro n hn
    simp only [up]
    rcases hn with hn | ⟨a, b, c⟩
    · rw [if_neg (by omega)]; exact Or.inl rfl
    · rw [if_pos a]
      have g := T.grp a b c
      rcases ih (F n) (g.imp id fun z => ⟨by omega, z.2.1, z.2.2⟩) with e | e
      · rw [e]; exact Or.inr g
      · exact Or.inr e
/-- behind what is in g, the next one is in g just if it is deeper -/
theorem lev_in {F : Int → Int} (t : OV F ∧ OP F ∧ TV F ∧ CE F ∧ PRE F) {g i : Int} (g0 : 0 ≤ g) (g1 : g < 32) (gp : F g ≠ -1) (i0 : 1 ≤ i) (i1 : i < F 288) (ng : F (256 + i) ≠ g) (pv : inch F (F (256 + (i - 1))) g) : (dpt F 8 (F g) < dpt F 8 (F (F (256 + i)))) ↔ inch F (F (256 + i)) g := by
  obtain ⟨O, P, T, C, Q⟩ := t
  have o := O.2.2 i (by omega) i1
  have p := P i (by omega) i1
  have gr := T.grp o.1 o.2 p
  have dg := dpt_par C g0 g1
  have dx := dpt_par C o.1 o.2
  constructor
  · intro lt
    rcases Q i (by omega) i1 with e | ⟨_, e⟩
    · rw [e] at lt
      have : dpt F 8 (-2) = 0 := rfl
      have := dpt_rng F 8 (F g)
      omega
    · have c0 : 0 ≤ F (F (256 + i)) ∧ F (F (256 + i)) < 32 := by
        rcases gr with z | z
        · rw [z] at lt
          have : dpt F 8 (-2) = 0 := rfl
          have := dpt_rng F 8 (F g)
          omega
        · omega
      rcases inch_lin e pv with w | w
      · exact inch_tr (inch_par o.1) w
      · obtain ⟨j, j1, j2⟩ := lev_ch C g1 c0.1 c0.2 w
        have dc := dpt_par C c0.1 c0.2
        by_cases q : j = 0
        · subst q
          have : g = F (F (256 + i)) := j1
          exact this ▸ inch_par o.1
        · omega
  · intro h
    obtain ⟨j, j1, j2⟩ := lev_ch C o.2 g0 g1 h
    have : j ≠ 0 := fun z => by subst z; exact ng j1
    omega
theorem eof_bhd {F : Int → Int} (t : OV F ∧ OP F ∧ TV F ∧ CE F ∧ PRE F) (D : DO F) {g p : Int} (g0 : 0 ≤ g) (g1 : g < 32) (gp : F g ≠ -1) (p0 : 0 ≤ p) (ep : F (256 + p) = g) : ∀ (k m : Nat) (i : Int), p < i → i + k = F 288 → k ≤ m → inch F (F (256 + (i - 1))) g → eof F (dpt F 8 (F g)) k i = bhd F g m i := by
  intro k
  induction k with
  | zero =>
    intro m i hi e hm _
    cases m with
    | zero => rfl
    | succ m => simp only [eof, bhd]; rw [if_pos (by omega)]
  | succ k ih =>
    intro m i hi e hm pv
    obtain ⟨m, rfl⟩ : ∃ q, m = q + 1 := ⟨m - 1, by omega⟩
    have o := t.1.2.2 i (by omega) (by omega)
    have ng : F (256 + i) ≠ g := fun z => by
      have := D i p (by omega) (by omega) p0 (by omega) (z.trans ep.symm)
      omega
    have w := lev_in t g0 g1 gp (show 1 ≤ i by omega) (by omega) ng pv
    have w2 := isin_ch g0 (t.2.2.2.1.ends o.2)
    simp only [eof, bhd]
    rw [if_neg (show ¬ F 288 ≤ i by omega)]
    by_cases c : inch F (F (256 + i)) g
    · rw [if_pos (w.mpr c), if_pos (w2.mpr c)]
      exact ih m (i + 1) (by omega) (by omega) (by omega) (by rw [show i + 1 - 1 = i by omega]; exact c)
    · rw [if_neg (fun z => c (w.mp z)), if_neg (fun z => c (w2.mp z))]
/-- what bhd is: the end of a stretch in g -/
theorem bhd_spec {F : Int → Int} (C : CE F) (O : OV F) {g : Int} (g0 : 0 ≤ g) : ∀ (k : Nat) (i : Int), 0 ≤ i → i ≤ F 288 → F 288 ≤ i + k → i ≤ bhd F g k i ∧ bhd F g k i ≤ F 288 ∧ (∀ q, i ≤ q → q < bhd F g k i → inch F (F (256 + q)) g) ∧ (bhd F g k i < F 288 → ¬ inch F (F (256 + bhd F g k i)) g) := by
  intro k
  induction k with
  | zero => intro i i0 i1 i2; simp only [bhd]; exact ⟨by omega, by omega, fun q a b => by omega, fun z => by omega⟩
  | succ k ih =>
    intro i i0 i1 i2
    simp only [bhd]
    by_cases c : F 288 ≤ i
    · rw [if_pos c]; exact ⟨by omega, by omega, fun q a b => by omega, fun z => by omega⟩
    · rw [if_neg c]
      have o := O.2.2 i i0 (by omega)
      have w2 := isin_ch g0 (C.ends o.2)
      by_cases d : isin F 9 (F (256 + i)) g = true
      · rw [if_pos d]
        obtain ⟨a1, a2, a3, a4⟩ := ih (i + 1) (by omega) (by omega) (by omega)
        refine ⟨by omega, a2, fun q b1 b2 => ?_, a4⟩
        by_cases z : q = i
        · rw [z]; exact w2.mp d
        · exact a3 q (by omega) b2
      · rw [if_neg d]
        exact ⟨by omega, by omega, fun q a b => by omega, fun _ z => d (w2.mpr z)⟩
/-- once out of a group, the order does not come back -/
theorem out_stays {F : Int → Int} (t : OV F ∧ OP F ∧ TV F ∧ CE F ∧ PRE F) (D : DO F) {g p : Int} (g0 : 0 ≤ g) (p0 : 0 ≤ p) (ep : F (256 + p) = g) {e : Int} (pe : p < e) (ne : e < F 288 → ¬ inch F (F (256 + e)) g) : ∀ (k : Nat) (q : Int), q = e + k → q < F 288 → ¬ inch F (F (256 + q)) g := by
  obtain ⟨O, P, T, C, Q⟩ := t
  intro k
  induction k with
  | zero => intro q hq hm; rw [show q = e by omega]; exact ne (by omega)
  | succ k ih =>
    intro q hq hm h
    have pv := ih (q - 1) (by omega) (by omega)
    have o := O.2.2 q (by omega) hm
    have ng : F (256 + q) ≠ g := fun z => by
      have := D q p (by omega) (by omega) p0 (by omega) (z.trans ep.symm)
      omega
    have par : inch F (F (F (256 + q))) g := by
      obtain ⟨j, e⟩ := h
      cases j with
      | zero => exact absurd e ng
      | succ j => simp only [up] at e; rw [if_pos o.1] at e; exact ⟨j, e⟩
    rcases Q q (by omega) hm with e | ⟨_, e⟩
    · rw [e] at par
      obtain ⟨j, w⟩ := par
      rw [up_neg _ _ (by decide)] at w; omega
    · exact pv (inch_tr e par)
/-! THE SHAPE OF THE CLASS -/
def SheetAt (h : HP) (a : Nat) : Prop := isO h a 4 = true ∧ hR h 257 a = some (a + 1) ∧ isO h (a + 1) 20 = true ∧ hln h (a + 1) = 24
theorem SheetAt.o {h : HP} {a : Nat} (S : SheetAt h a) : isO h a 4 = true := S.1
theorem SheetAt.rV {h : HP} {a : Nat} (S : SheetAt h a) : hR h 257 a = some (a + 1) := S.2.1
theorem SheetAt.oV {h : HP} {a : Nat} (S : SheetAt h a) : isO h (a + 1) 20 = true := S.2.2.1
theorem SheetAt.nV {h : HP} {a : Nat} (S : SheetAt h a) : hln h (a + 1) = 24 := S.2.2.2
theorem SheetAt.sk {h g : HP} {a : Nat} (S : SheetAt h a) (k : Sk h g) : SheetAt g a := ⟨isO_sk k S.o, hR_sk k S.o (by decide) S.rV, isO_sk k S.oV, hln_sk k S.oV S.nV⟩
def StateAt (h : HP) (a : Nat) : Prop := isO h a 5 = true ∧ hR h 320 a = some (a + 1) ∧ FormAt h (a + 1) ∧ hR h 323 a = some (a + 37) ∧ isO h (a + 37) 34 = true ∧ hln h (a + 37) = 10 ∧ ∀ i : Nat, i < 10 → hQ h (a + 37) i = some (a + 38 + 2 * i) ∧ SheetAt h (a + 38 + 2 * i)
theorem StateAt.o {h : HP} {a : Nat} (S : StateAt h a) : isO h a 5 = true := S.1
theorem StateAt.rD {h : HP} {a : Nat} (S : StateAt h a) : hR h 320 a = some (a + 1) := S.2.1
theorem StateAt.d {h : HP} {a : Nat} (S : StateAt h a) : FormAt h (a + 1) := S.2.2.1
theorem StateAt.rS {h : HP} {a : Nat} (S : StateAt h a) : hR h 323 a = some (a + 37) := S.2.2.2.1
theorem StateAt.oS {h : HP} {a : Nat} (S : StateAt h a) : isO h (a + 37) 34 = true := S.2.2.2.2.1
theorem StateAt.nS {h : HP} {a : Nat} (S : StateAt h a) : hln h (a + 37) = 10 := S.2.2.2.2.2.1
theorem StateAt.q {h : HP} {a : Nat} (S : StateAt h a) {i : Nat} (hi : i < 10) : hQ h (a + 37) i = some (a + 38 + 2 * i) := (S.2.2.2.2.2.2 i hi).1
theorem StateAt.sh {h : HP} {a : Nat} (S : StateAt h a) {i : Nat} (hi : i < 10) : SheetAt h (a + 38 + 2 * i) := (S.2.2.2.2.2.2 i hi).2
theorem StateAt.sk {h g : HP} {a : Nat} (S : StateAt h a) (k : Sk h g) : StateAt g a := ⟨isO_sk k S.o, hR_sk k S.o (by decide) S.rD, S.d.sk k, hR_sk k S.o (by decide) S.rS, isO_sk k S.oS, hln_sk k S.oS S.nS, fun _ hi => ⟨hQ_sk k S.oS (by decide) (S.q hi), (S.sh hi).sk k⟩⟩
def CS (h : HP) : Prop := isO h 0 10 = true ∧ (hR h 643 0 = some 2 ∧ isO h 2 5 = true) ∧ (hR h 648 0 = some 62 ∧ isO h 62 3 = true) ∧ (hR h 649 0 = some 63 ∧ isO h 63 0 = true) ∧ (hR h 650 0 = some 109 ∧ isO h 109 8 = true) ∧ (hR h 651 0 = some 111 ∧ isO h 111 1 = true) ∧ (hR h 652 0 = some 114 ∧ isO h 114 9 = true) ∧ (hR h 193 62 = some 63 ∧ isO h 63 0 = true) ∧ (hR h 194 62 = some 99 ∧ isO h 99 7 = true) ∧ (hR h 640 0 = some 1 ∧ isO h 1 21 = true ∧ hln h 1 = 1200) ∧ (hR h 644 0 = some 60 ∧ isO h 60 30 = true ∧ hln h 60 = 8) ∧ (hR h 645 0 = some 61 ∧ isO h 61 35 = true ∧ hln h 61 = 10) ∧ (hR h 197 62 = some 105 ∧ isO h 105 36 = true ∧ hln h 105 = 1200) ∧ (hR h 198 62 = some 106 ∧ isO h 106 23 = true ∧ hln h 106 = 1200) ∧ (hR h 199 62 = some 107 ∧ isO h 107 20 = true ∧ hln h 107 = 1200) ∧ (hR h 200 62 = some 108 ∧ isO h 108 20 = true ∧ hln h 108 = 1200) ∧ (hR h 454 99 = some 100 ∧ isO h 100 20 = true ∧ hln h 100 = 1200) ∧ (hR h 455 99 = some 101 ∧ isO h 101 20 = true ∧ hln h 101 = 1200) ∧ (hR h 456 99 = some 102 ∧ isO h 102 20 = true ∧ hln h 102 = 1200) ∧ (hR h 457 99 = some 103 ∧ isO h 103 23 = true ∧ hln h 103 = 1200) ∧ (hR h 458 99 = some 104 ∧ isO h 104 23 = true ∧ hln h 104 = 10) ∧ (hR h 514 109 = some 110 ∧ isO h 110 20 = true ∧ hln h 110 = 24) ∧ (hR h 68 111 = some 112 ∧ isO h 112 20 = true ∧ hln h 112 = 32) ∧ (hR h 69 111 = some 113 ∧ isO h 113 20 = true ∧ hln h 113 = 32) ∧ StateAt h 2 ∧ FormAt h 63 ∧ (∀ i : Nat, i < 8 → hQ h 60 i = some (115 + 36 * i) ∧ FormAt h (115 + 36 * i)) ∧ ∀ i : Nat, i < 10 → hQ h 61 i = some (403 + 58 * i) ∧ StateAt h (403 + 58 * i)
theorem CS.o {h : HP} (S : CS h) : isO h 0 10 = true := S.1
theorem CS.r_state {h : HP} (S : CS h) : hR h 643 0 = some 2 := S.2.1.1
theorem CS.o_state {h : HP} (S : CS h) : isO h 2 5 = true := S.2.1.2
theorem CS.r_parser {h : HP} (S : CS h) : hR h 648 0 = some 62 := S.2.2.1.1
theorem CS.o_parser {h : HP} (S : CS h) : isO h 62 3 = true := S.2.2.1.2
theorem CS.r_scratch {h : HP} (S : CS h) : hR h 649 0 = some 63 := S.2.2.2.1.1
theorem CS.o_scratch {h : HP} (S : CS h) : isO h 63 0 = true := S.2.2.2.1.2
theorem CS.r_view {h : HP} (S : CS h) : hR h 650 0 = some 109 := S.2.2.2.2.1.1
theorem CS.o_view {h : HP} (S : CS h) : isO h 109 8 = true := S.2.2.2.2.1.2
theorem CS.r_layout {h : HP} (S : CS h) : hR h 651 0 = some 111 := S.2.2.2.2.2.1.1
theorem CS.o_layout {h : HP} (S : CS h) : isO h 111 1 = true := S.2.2.2.2.2.1.2
theorem CS.r_writer {h : HP} (S : CS h) : hR h 652 0 = some 114 := S.2.2.2.2.2.2.1.1
theorem CS.o_writer {h : HP} (S : CS h) : isO h 114 9 = true := S.2.2.2.2.2.2.1.2
theorem CS.r_pform {h : HP} (S : CS h) : hR h 193 62 = some 63 := S.2.2.2.2.2.2.2.1.1
theorem CS.o_pform {h : HP} (S : CS h) : isO h 63 0 = true := S.2.2.2.2.2.2.2.1.2
theorem CS.r_tokens {h : HP} (S : CS h) : hR h 194 62 = some 99 := S.2.2.2.2.2.2.2.2.1.1
theorem CS.o_tokens {h : HP} (S : CS h) : isO h 99 7 = true := S.2.2.2.2.2.2.2.2.1.2
theorem CS.r_tape {h : HP} (S : CS h) : hR h 640 0 = some 1 := S.2.2.2.2.2.2.2.2.2.1.1
theorem CS.o_tape {h : HP} (S : CS h) : isO h 1 21 = true := S.2.2.2.2.2.2.2.2.2.1.2.1
theorem CS.n_tape {h : HP} (S : CS h) : hln h 1 = 1200 := S.2.2.2.2.2.2.2.2.2.1.2.2
theorem CS.r_revs {h : HP} (S : CS h) : hR h 644 0 = some 60 := S.2.2.2.2.2.2.2.2.2.2.1.1
theorem CS.o_revs {h : HP} (S : CS h) : isO h 60 30 = true := S.2.2.2.2.2.2.2.2.2.2.1.2.1
theorem CS.n_revs {h : HP} (S : CS h) : hln h 60 = 8 := S.2.2.2.2.2.2.2.2.2.2.1.2.2
theorem CS.r_past {h : HP} (S : CS h) : hR h 645 0 = some 61 := S.2.2.2.2.2.2.2.2.2.2.2.1.1
theorem CS.o_past {h : HP} (S : CS h) : isO h 61 35 = true := S.2.2.2.2.2.2.2.2.2.2.2.1.2.1
theorem CS.n_past {h : HP} (S : CS h) : hln h 61 = 10 := S.2.2.2.2.2.2.2.2.2.2.2.1.2.2
theorem CS.r_terms {h : HP} (S : CS h) : hR h 197 62 = some 105 := S.2.2.2.2.2.2.2.2.2.2.2.2.1.1
theorem CS.o_terms {h : HP} (S : CS h) : isO h 105 36 = true := S.2.2.2.2.2.2.2.2.2.2.2.2.1.2.1
theorem CS.n_terms {h : HP} (S : CS h) : hln h 105 = 1200 := S.2.2.2.2.2.2.2.2.2.2.2.2.1.2.2
theorem CS.r_tnames {h : HP} (S : CS h) : hR h 198 62 = some 106 := S.2.2.2.2.2.2.2.2.2.2.2.2.2.1.1
theorem CS.o_tnames {h : HP} (S : CS h) : isO h 106 23 = true := S.2.2.2.2.2.2.2.2.2.2.2.2.2.1.2.1
theorem CS.n_tnames {h : HP} (S : CS h) : hln h 106 = 1200 := S.2.2.2.2.2.2.2.2.2.2.2.2.2.1.2.2
theorem CS.r_tstarts {h : HP} (S : CS h) : hR h 199 62 = some 107 := S.2.2.2.2.2.2.2.2.2.2.2.2.2.2.1.1
theorem CS.o_tstarts {h : HP} (S : CS h) : isO h 107 20 = true := S.2.2.2.2.2.2.2.2.2.2.2.2.2.2.1.2.1
theorem CS.n_tstarts {h : HP} (S : CS h) : hln h 107 = 1200 := S.2.2.2.2.2.2.2.2.2.2.2.2.2.2.1.2.2
theorem CS.r_towners {h : HP} (S : CS h) : hR h 200 62 = some 108 := S.2.2.2.2.2.2.2.2.2.2.2.2.2.2.2.1.1
theorem CS.o_towners {h : HP} (S : CS h) : isO h 108 20 = true := S.2.2.2.2.2.2.2.2.2.2.2.2.2.2.2.1.2.1
theorem CS.n_towners {h : HP} (S : CS h) : hln h 108 = 1200 := S.2.2.2.2.2.2.2.2.2.2.2.2.2.2.2.1.2.2
theorem CS.r_kinds {h : HP} (S : CS h) : hR h 454 99 = some 100 := S.2.2.2.2.2.2.2.2.2.2.2.2.2.2.2.2.1.1
theorem CS.o_kinds {h : HP} (S : CS h) : isO h 100 20 = true := S.2.2.2.2.2.2.2.2.2.2.2.2.2.2.2.2.1.2.1
theorem CS.n_kinds {h : HP} (S : CS h) : hln h 100 = 1200 := S.2.2.2.2.2.2.2.2.2.2.2.2.2.2.2.2.1.2.2
theorem CS.r_starts {h : HP} (S : CS h) : hR h 455 99 = some 101 := S.2.2.2.2.2.2.2.2.2.2.2.2.2.2.2.2.2.1.1
theorem CS.o_starts {h : HP} (S : CS h) : isO h 101 20 = true := S.2.2.2.2.2.2.2.2.2.2.2.2.2.2.2.2.2.1.2.1
theorem CS.n_starts {h : HP} (S : CS h) : hln h 101 = 1200 := S.2.2.2.2.2.2.2.2.2.2.2.2.2.2.2.2.2.1.2.2
theorem CS.r_tsizes {h : HP} (S : CS h) : hR h 456 99 = some 102 := S.2.2.2.2.2.2.2.2.2.2.2.2.2.2.2.2.2.2.1.1
theorem CS.o_tsizes {h : HP} (S : CS h) : isO h 102 20 = true := S.2.2.2.2.2.2.2.2.2.2.2.2.2.2.2.2.2.2.1.2.1
theorem CS.n_tsizes {h : HP} (S : CS h) : hln h 102 = 1200 := S.2.2.2.2.2.2.2.2.2.2.2.2.2.2.2.2.2.2.1.2.2
theorem CS.r_vals {h : HP} (S : CS h) : hR h 457 99 = some 103 := S.2.2.2.2.2.2.2.2.2.2.2.2.2.2.2.2.2.2.2.1.1
theorem CS.o_vals {h : HP} (S : CS h) : isO h 103 23 = true := S.2.2.2.2.2.2.2.2.2.2.2.2.2.2.2.2.2.2.2.1.2.1
theorem CS.n_vals {h : HP} (S : CS h) : hln h 103 = 1200 := S.2.2.2.2.2.2.2.2.2.2.2.2.2.2.2.2.2.2.2.1.2.2
theorem CS.r_keys {h : HP} (S : CS h) : hR h 458 99 = some 104 := S.2.2.2.2.2.2.2.2.2.2.2.2.2.2.2.2.2.2.2.2.1.1
theorem CS.o_keys {h : HP} (S : CS h) : isO h 104 23 = true := S.2.2.2.2.2.2.2.2.2.2.2.2.2.2.2.2.2.2.2.2.1.2.1
theorem CS.n_keys {h : HP} (S : CS h) : hln h 104 = 10 := S.2.2.2.2.2.2.2.2.2.2.2.2.2.2.2.2.2.2.2.2.1.2.2
theorem CS.r_forces {h : HP} (S : CS h) : hR h 514 109 = some 110 := S.2.2.2.2.2.2.2.2.2.2.2.2.2.2.2.2.2.2.2.2.2.1.1
theorem CS.o_forces {h : HP} (S : CS h) : isO h 110 20 = true := S.2.2.2.2.2.2.2.2.2.2.2.2.2.2.2.2.2.2.2.2.2.1.2.1
theorem CS.n_forces {h : HP} (S : CS h) : hln h 110 = 24 := S.2.2.2.2.2.2.2.2.2.2.2.2.2.2.2.2.2.2.2.2.2.1.2.2
theorem CS.r_nrows {h : HP} (S : CS h) : hR h 68 111 = some 112 := S.2.2.2.2.2.2.2.2.2.2.2.2.2.2.2.2.2.2.2.2.2.2.1.1
theorem CS.o_nrows {h : HP} (S : CS h) : isO h 112 20 = true := S.2.2.2.2.2.2.2.2.2.2.2.2.2.2.2.2.2.2.2.2.2.2.1.2.1
theorem CS.n_nrows {h : HP} (S : CS h) : hln h 112 = 32 := S.2.2.2.2.2.2.2.2.2.2.2.2.2.2.2.2.2.2.2.2.2.2.1.2.2
theorem CS.r_ncols {h : HP} (S : CS h) : hR h 69 111 = some 113 := S.2.2.2.2.2.2.2.2.2.2.2.2.2.2.2.2.2.2.2.2.2.2.2.1.1
theorem CS.o_ncols {h : HP} (S : CS h) : isO h 113 20 = true := S.2.2.2.2.2.2.2.2.2.2.2.2.2.2.2.2.2.2.2.2.2.2.2.1.2.1
theorem CS.n_ncols {h : HP} (S : CS h) : hln h 113 = 32 := S.2.2.2.2.2.2.2.2.2.2.2.2.2.2.2.2.2.2.2.2.2.2.2.1.2.2
theorem CS.st {h : HP} (S : CS h) : StateAt h 2 := S.2.2.2.2.2.2.2.2.2.2.2.2.2.2.2.2.2.2.2.2.2.2.2.2.1
theorem CS.sf {h : HP} (S : CS h) : FormAt h 63 := S.2.2.2.2.2.2.2.2.2.2.2.2.2.2.2.2.2.2.2.2.2.2.2.2.2.1
theorem CS.q_rev {h : HP} (S : CS h) {i : Nat} (hi : i < 8) : hQ h 60 i = some (115 + 36 * i) := (S.2.2.2.2.2.2.2.2.2.2.2.2.2.2.2.2.2.2.2.2.2.2.2.2.2.2.1 i hi).1
theorem CS.rev {h : HP} (S : CS h) {i : Nat} (hi : i < 8) : FormAt h (115 + 36 * i) := (S.2.2.2.2.2.2.2.2.2.2.2.2.2.2.2.2.2.2.2.2.2.2.2.2.2.2.1 i hi).2
theorem CS.q_past {h : HP} (S : CS h) {i : Nat} (hi : i < 10) : hQ h 61 i = some (403 + 58 * i) := (S.2.2.2.2.2.2.2.2.2.2.2.2.2.2.2.2.2.2.2.2.2.2.2.2.2.2.2 i hi).1
theorem CS.past {h : HP} (S : CS h) {i : Nat} (hi : i < 10) : StateAt h (403 + 58 * i) := (S.2.2.2.2.2.2.2.2.2.2.2.2.2.2.2.2.2.2.2.2.2.2.2.2.2.2.2 i hi).2
theorem CS.sk {h g : HP} (S : CS h) (k : Sk h g) : CS g := ⟨isO_sk k S.o, ⟨hR_sk k S.o (by decide) S.r_state, isO_sk k S.o_state⟩, ⟨hR_sk k S.o (by decide) S.r_parser, isO_sk k S.o_parser⟩, ⟨hR_sk k S.o (by decide) S.r_scratch, isO_sk k S.o_scratch⟩, ⟨hR_sk k S.o (by decide) S.r_view, isO_sk k S.o_view⟩, ⟨hR_sk k S.o (by decide) S.r_layout, isO_sk k S.o_layout⟩, ⟨hR_sk k S.o (by decide) S.r_writer, isO_sk k S.o_writer⟩, ⟨hR_sk k S.o_parser (by decide) S.r_pform, isO_sk k S.o_pform⟩, ⟨hR_sk k S.o_parser (by decide) S.r_tokens, isO_sk k S.o_tokens⟩, ⟨hR_sk k S.o (by decide) S.r_tape, isO_sk k S.o_tape, hln_sk k S.o_tape S.n_tape⟩, ⟨hR_sk k S.o (by decide) S.r_revs, isO_sk k S.o_revs, hln_sk k S.o_revs S.n_revs⟩, ⟨hR_sk k S.o (by decide) S.r_past, isO_sk k S.o_past, hln_sk k S.o_past S.n_past⟩, ⟨hR_sk k S.o_parser (by decide) S.r_terms, isO_sk k S.o_terms, hln_sk k S.o_terms S.n_terms⟩, ⟨hR_sk k S.o_parser (by decide) S.r_tnames, isO_sk k S.o_tnames, hln_sk k S.o_tnames S.n_tnames⟩, ⟨hR_sk k S.o_parser (by decide) S.r_tstarts, isO_sk k S.o_tstarts, hln_sk k S.o_tstarts S.n_tstarts⟩, ⟨hR_sk k S.o_parser (by decide) S.r_towners, isO_sk k S.o_towners, hln_sk k S.o_towners S.n_towners⟩, ⟨hR_sk k S.o_tokens (by decide) S.r_kinds, isO_sk k S.o_kinds, hln_sk k S.o_kinds S.n_kinds⟩, ⟨hR_sk k S.o_tokens (by decide) S.r_starts, isO_sk k S.o_starts, hln_sk k S.o_starts S.n_starts⟩, ⟨hR_sk k S.o_tokens (by decide) S.r_tsizes, isO_sk k S.o_tsizes, hln_sk k S.o_tsizes S.n_tsizes⟩, ⟨hR_sk k S.o_tokens (by decide) S.r_vals, isO_sk k S.o_vals, hln_sk k S.o_vals S.n_vals⟩, ⟨hR_sk k S.o_tokens (by decide) S.r_keys, isO_sk k S.o_keys, hln_sk k S.o_keys S.n_keys⟩, ⟨hR_sk k S.o_view (by decide) S.r_forces, isO_sk k S.o_forces, hln_sk k S.o_forces S.n_forces⟩, ⟨hR_sk k S.o_layout (by decide) S.r_nrows, isO_sk k S.o_nrows, hln_sk k S.o_nrows S.n_nrows⟩, ⟨hR_sk k S.o_layout (by decide) S.r_ncols, isO_sk k S.o_ncols, hln_sk k S.o_ncols S.n_ncols⟩, S.st.sk k, S.sf.sk k, fun _ hi => ⟨hQ_sk k S.o_revs (by decide) (S.q_rev hi), (S.rev hi).sk k⟩, fun _ hi => ⟨hQ_sk k S.o_past (by decide) (S.q_past hi), (S.past hi).sk k⟩⟩
/-! WHAT STAYS -/
def Sm (h g : HP) (x : Nat) : Prop := (∀ f, hI g f x = hI h f x) ∧ (∀ f, hJ g f x = hJ h f x) ∧ (∀ f, hR g f x = hR h f x) ∧ (∀ i, hA g x i = hA h x i) ∧ (∀ i, hL g x i = hL h x i) ∧ ∀ i, hQ g x i = hQ h x i
theorem Sm.r {h : HP} {x : Nat} : Sm h h x := ⟨fun _ => rfl, fun _ => rfl, fun _ => rfl, fun _ => rfl, fun _ => rfl, fun _ => rfl⟩
theorem Sm.t {h g k : HP} {x : Nat} (p : Sm h g x) (q : Sm g k x) : Sm h k x := ⟨fun f => (q.1 f).trans (p.1 f), fun f => (q.2.1 f).trans (p.2.1 f), fun f => (q.2.2.1 f).trans (p.2.2.1 f), fun f => (q.2.2.2.1 f).trans (p.2.2.2.1 f), fun f => (q.2.2.2.2.1 f).trans (p.2.2.2.2.1 f), fun f => (q.2.2.2.2.2 f).trans (p.2.2.2.2.2 f)⟩
section
variable {h : HP} {a x : Nat}
theorem Sm_I (n : x ≠ a) (f : Nat) (v : Int32) : Sm h (sI h f a v) x := ⟨fun g => by rw [rII, if_neg (fun z => n z.2)], fun _ => rfl, fun _ => rfl, fun _ => rfl, fun _ => rfl, fun _ => rfl⟩
theorem Sm_J (n : x ≠ a) (f : Nat) (v : Int64) : Sm h (sJ h f a v) x := ⟨fun _ => rfl, fun g => by rw [rJJ, if_neg (fun z => n z.2)], fun _ => rfl, fun _ => rfl, fun _ => rfl, fun _ => rfl⟩
theorem Sm_R (n : x ≠ a) (f : Nat) (v : Option Nat) : Sm h (sR h f a v) x := ⟨fun _ => rfl, fun _ => rfl, fun g => by rw [rRR, if_neg (fun z => n z.2)], fun _ => rfl, fun _ => rfl, fun _ => rfl⟩
theorem Sm_A (n : x ≠ a) (i : Nat) (v : Int32) : Sm h (sA h a i v) x := ⟨fun _ => rfl, fun _ => rfl, fun _ => rfl, fun g => by rw [rAA, if_neg (fun z => n z.1)], fun _ => rfl, fun _ => rfl⟩
theorem Sm_L (n : x ≠ a) (i : Nat) (v : Int64) : Sm h (sL h a i v) x := ⟨fun _ => rfl, fun _ => rfl, fun _ => rfl, fun _ => rfl, fun g => by rw [rLL, if_neg (fun z => n z.1)], fun _ => rfl⟩
theorem Sm_Q (n : x ≠ a) (i : Nat) (v : Option Nat) : Sm h (sQ h a i v) x := ⟨fun _ => rfl, fun _ => rfl, fun _ => rfl, fun _ => rfl, fun _ => rfl, fun g => by rw [rQQ, if_neg (fun z => n z.1)]⟩
theorem Sm_wA (n : x ≠ a) (φ : Nat → Int32) : Sm h (wA h a φ) x := ⟨fun _ => rfl, fun _ => rfl, fun _ => rfl, fun g => by rw [wA_A2 h a φ n], fun _ => rfl, fun _ => rfl⟩
theorem Sm_wL (n : x ≠ a) (φ : Nat → Int64) : Sm h (wL h a φ) x := ⟨fun _ => rfl, fun _ => rfl, fun _ => rfl, fun _ => rfl, fun g => by rw [wL_L2 h a φ n], fun _ => rfl⟩
end
/-- what is written lies in S, and nothing is made -/
def So (S : Nat → Prop) (h g : HP) : Prop := Sk h g ∧ g.1 = h.1 ∧ ∀ x, ¬ S x → Sm h g x
theorem So.r {S : Nat → Prop} {h : HP} : So S h h := ⟨Sk.rfl', rfl, fun _ _ => Sm.r⟩
theorem So.t {S : Nat → Prop} {h g k : HP} (p : So S h g) (q : So S g k) : So S h k := ⟨p.1.trans q.1, q.2.1.trans p.2.1, fun x n => (p.2.2 x n).t (q.2.2 x n)⟩
theorem So.w {S T : Nat → Prop} {h g : HP} (p : So S h g) (w : ∀ x, S x → T x) : So T h g := ⟨p.1, p.2.1, fun x n => p.2.2 x fun z => n (w x z)⟩
theorem So_I {S : Nat → Prop} {h : HP} {a : Nat} (s : S a) (f : Nat) (v : Int32) : So S h (sI h f a v) := ⟨sk_sI rfl, rfl, fun x n => Sm_I (fun z => n (by rw [z]; exact s)) f v⟩
theorem So_J {S : Nat → Prop} {h : HP} {a : Nat} (s : S a) (f : Nat) (v : Int64) : So S h (sJ h f a v) := ⟨sk_sJ rfl, rfl, fun x n => Sm_J (fun z => n (by rw [z]; exact s)) f v⟩
theorem So_R {S : Nat → Prop} {h : HP} {a f : Nat} (s : S a) (w : f = 135 ∨ f = 385 ∨ f = 386) (v : Option Nat) : So S h (sR h f a v) := ⟨sk_sR rfl w, rfl, fun x n => Sm_R (fun z => n (by rw [z]; exact s)) f v⟩
theorem So_A {S : Nat → Prop} {h : HP} {a : Nat} (s : S a) (i : Nat) (v : Int32) : So S h (sA h a i v) := ⟨sk_sA rfl, rfl, fun x n => Sm_A (fun z => n (by rw [z]; exact s)) i v⟩
theorem So_L {S : Nat → Prop} {h : HP} {a : Nat} (s : S a) (i : Nat) (v : Int64) : So S h (sL h a i v) := ⟨sk_sL rfl, rfl, fun x n => Sm_L (fun z => n (by rw [z]; exact s)) i v⟩
theorem So_wA {S : Nat → Prop} {h : HP} {a : Nat} (s : S a) (φ : Nat → Int32) : So S h (wA h a φ) := ⟨wA_sk _ _ _, rfl, fun x n => Sm_wA (fun z => n (by rw [z]; exact s)) φ⟩
theorem So_wL {S : Nat → Prop} {h : HP} {a : Nat} (s : S a) (φ : Nat → Int64) : So S h (wL h a φ) := ⟨wL_sk _ _ _, rfl, fun x n => Sm_wL (fun z => n (by rw [z]; exact s)) φ⟩
/-! COPIES -/
def NodeEq (g : HP) (b : Nat) (h : HP) (c : Nat) : Prop := hI g 128 b = hI h 128 c ∧ hJ g 129 b = hJ h 129 c ∧ hI g 130 b = hI h 130 c ∧ hI g 131 b = hI h 131 c ∧ hI g 132 b = hI h 132 c ∧ hI g 133 b = hI h 133 c ∧ hI g 134 b = hI h 134 c ∧ hR g 135 b = hR h 135 c ∧ hI g 136 b = hI h 136 c ∧ hI g 137 b = hI h 137 c
theorem NodeEq.sm {g h k : HP} {b c : Nat} (e : NodeEq g b h c) (s : Sm g k b) : NodeEq k b h c := by
  obtain ⟨e1, e2, e3, e4, e5, e6, e7, e8, e9, e10⟩ := e
  exact ⟨(s.1 _).trans e1, (s.2.1 _).trans e2, (s.1 _).trans e3, (s.1 _).trans e4, (s.1 _).trans e5, (s.1 _).trans e6, (s.1 _).trans e7, (s.2.2.1 _).trans e8, (s.1 _).trans e9, (s.1 _).trans e10⟩
theorem NodeEq.src {g h k : HP} {b c : Nat} (e : NodeEq g b k c) (s : Sm h k c) : NodeEq g b h c := by
  obtain ⟨e1, e2, e3, e4, e5, e6, e7, e8, e9, e10⟩ := e
  exact ⟨e1.trans (s.1 _), e2.trans (s.2.1 _), e3.trans (s.1 _), e4.trans (s.1 _), e5.trans (s.1 _), e6.trans (s.1 _), e7.trans (s.1 _), e8.trans (s.2.2.1 _), e9.trans (s.1 _), e10.trans (s.1 _)⟩
/-- all fields of an object at once -/
def wO (h : HP) (b : Nat) (φ : Nat → Int32) (ψ : Nat → Int64) (ρ : Nat → Option Nat) : HP := (h.1, htg h, hln h, (fun f x => if x = b then φ f else hI h f x), (fun f x => if x = b then ψ f else hJ h f x), (fun f x => if x = b then ρ f else hR h f x), hA h, hL h, hQ h)
theorem wO_ex {h : HP} {b f : Nat} {v : Int32} : sI h f b v = wO h b (up1 (fun g => hI h g b) f v) (fun g => hJ h g b) (fun g => hR h g b) := by
  have e1 : up2 (hI h) f b v = (fun g x => if x = b then up1 (fun g => hI h g b) f v g else hI h g x) := by
    funext g x
    unfold up2 up1
    by_cases c : x = b
    · subst c; by_cases d : g = f <;> simp [d]
    · simp [c]
  have e2 : hJ h = (fun g x => if x = b then hJ h g b else hJ h g x) := by
    funext g x; by_cases c : x = b
    · rw [if_pos c, c]
    · rw [if_neg c]
  have e3 : hR h = (fun g x => if x = b then hR h g b else hR h g x) := by
    funext g x; by_cases c : x = b
    · rw [if_pos c, c]
    · rw [if_neg c]
  show (h.1, htg h, hln h, up2 (hI h) f b v, hJ h, hR h, hA h, hL h, hQ h) = _
  unfold wO
  rw [e1, ← e2, ← e3]
theorem wO_sI {h : HP} {b f : Nat} {φ : Nat → Int32} {ψ : Nat → Int64} {ρ : Nat → Option Nat} {v : Int32} : sI (wO h b φ ψ ρ) f b v = wO h b (up1 φ f v) ψ ρ := by
  have e1 : up2 (fun f x => if x = b then φ f else hI h f x) f b v = (fun g x => if x = b then up1 φ f v g else hI h g x) := by
    funext g x
    unfold up2 up1
    by_cases c : x = b
    · subst c; by_cases d : g = f <;> simp [d]
    · simp [c]
  show (h.1, htg h, hln h, up2 (fun f x => if x = b then φ f else hI h f x) f b v, _, _, hA h, hL h, hQ h) = _
  rw [e1]; rfl
theorem wO_sJ {h : HP} {b f : Nat} {φ : Nat → Int32} {ψ : Nat → Int64} {ρ : Nat → Option Nat} {v : Int64} : sJ (wO h b φ ψ ρ) f b v = wO h b φ (up1 ψ f v) ρ := by
  have e1 : up2 (fun f x => if x = b then ψ f else hJ h f x) f b v = (fun g x => if x = b then up1 ψ f v g else hJ h g x) := by
    funext g x
    unfold up2 up1
    by_cases c : x = b
    · subst c; by_cases d : g = f <;> simp [d]
    · simp [c]
  show (h.1, htg h, hln h, _, up2 (fun f x => if x = b then ψ f else hJ h f x) f b v, _, hA h, hL h, hQ h) = _
  rw [e1]; rfl
theorem wO_sR {h : HP} {b f : Nat} {φ : Nat → Int32} {ψ : Nat → Int64} {ρ : Nat → Option Nat} {v : Option Nat} : sR (wO h b φ ψ ρ) f b v = wO h b φ ψ (up1 ρ f v) := by
  have e1 : up2 (fun f x => if x = b then ρ f else hR h f x) f b v = (fun g x => if x = b then up1 ρ f v g else hR h g x) := by
    funext g x
    unfold up2 up1
    by_cases c : x = b
    · subst c; by_cases d : g = f <;> simp [d]
    · simp [c]
  show (h.1, htg h, hln h, _, _, up2 (fun f x => if x = b then ρ f else hR h f x) f b v, hA h, hL h, hQ h) = _
  rw [e1]; rfl
section
variable (h : HP) (b : Nat) (φ : Nat → Int32) (ψ : Nat → Int64) (ρ : Nat → Option Nat)
theorem wO_I (f : Nat) : hI (wO h b φ ψ ρ) f b = φ f := if_pos rfl
theorem wO_J (f : Nat) : hJ (wO h b φ ψ ρ) f b = ψ f := if_pos rfl
theorem wO_R (f : Nat) : hR (wO h b φ ψ ρ) f b = ρ f := if_pos rfl
theorem wO_I2 {x : Nat} (n : x ≠ b) (f : Nat) : hI (wO h b φ ψ ρ) f x = hI h f x := if_neg n
theorem wO_J2 {x : Nat} (n : x ≠ b) (f : Nat) : hJ (wO h b φ ψ ρ) f x = hJ h f x := if_neg n
theorem wO_R2 {x : Nat} (n : x ≠ b) (f : Nat) : hR (wO h b φ ψ ρ) f x = hR h f x := if_neg n
theorem wO_A : hA (wO h b φ ψ ρ) = hA h := rfl
theorem wO_L : hL (wO h b φ ψ ρ) = hL h := rfl
theorem wO_Q : hQ (wO h b φ ψ ρ) = hQ h := rfl
theorem wO_n : hln (wO h b φ ψ ρ) = hln h := rfl
theorem wO_o (x t : Nat) : isO (wO h b φ ψ ρ) x t = isO h x t := rfl
end
theorem So_wO {S : Nat → Prop} {h : HP} {b : Nat} {φ : Nat → Int32} {ψ : Nat → Int64} {ρ : Nat → Option Nat} (s : S b) (w : ∀ f, f ≠ 135 → f ≠ 385 → f ≠ 386 → ρ f = hR h f b) : So S h (wO h b φ ψ ρ) := by
  refine ⟨⟨Nat.le_refl _, fun x _ => ⟨rfl, rfl, fun _ _ => rfl, fun f a1 a2 a3 => ?_⟩⟩, rfl, fun x n => ?_⟩
  · show (if x = b then ρ f else hR h f x) = hR h f x
    by_cases c : x = b
    · rw [if_pos c, w f a1 a2 a3, c]
    · rw [if_neg c]
  · have c : x ≠ b := fun z => n (by rw [z]; exact s)
    exact ⟨fun f => if_neg c, fun f => if_neg c, fun f => if_neg c, fun _ => rfl, fun _ => rfl, fun _ => rfl⟩
theorem lt_to {α β : Type} {x y : α} {k : α → Option β} (e : x = y) : lt x k = k y := by rw [e]; rfl
theorem up1_e {α : Type} (φ : Nat → α) (i : Nat) (x : α) (j : Nat) : up1 φ i x j = if j = i then x else φ j := rfl
theorem copyNode {h : HP} {b c : Nat} (hb : isO h b 2 = true) (hc : isO h c 2 = true) (bb : isB (hI h 128 c) = true) (n : b ≠ c) : ∃ g, fX2_copyFrom b (some c) h = some g ∧ So (fun x => x = b) h g ∧ NodeEq g b h c := by
  have n' : c ≠ b := fun z => n z.symm
  unfold fX2_copyFrom
  simp only [oc_s, hb, hc, bb, gd_tt]
  rw [lt_to wO_ex]; simp only [wO_J2 _ _ _ _ _ n']
  rw [lt_to wO_sJ]; simp only [wO_I2 _ _ _ _ _ n']
  rw [lt_to wO_sI]; simp only [wO_I2 _ _ _ _ _ n']
  rw [lt_to wO_sI]; simp only [wO_I2 _ _ _ _ _ n']
  rw [lt_to wO_sI]; simp only [wO_I2 _ _ _ _ _ n']
  rw [lt_to wO_sI]; simp only [wO_I2 _ _ _ _ _ n']
  rw [lt_to wO_sI]; simp only [wO_R2 _ _ _ _ _ n']
  rw [lt_to wO_sR]; simp only [wO_I2 _ _ _ _ _ n']
  rw [lt_to wO_sI]; simp only [wO_I2 _ _ _ _ _ n']
  rw [lt_to wO_sI]
  refine ⟨_, rfl, So_wO rfl fun f a1 _ _ => ?_, ?_⟩
  · rw [up1_e, if_neg a1]
  · refine ⟨?_, ?_, ?_, ?_, ?_, ?_, ?_, ?_, ?_, ?_⟩ <;> simp [wO_I, wO_J, wO_R, up1_e]
def FormEq (g : HP) (a : Nat) (h : HP) (b : Nat) : Prop := (∀ f, f < 6 → hI g f a = hI h f b) ∧ ∀ i : Nat, i < 32 → hA g (a + 1) i = hA h (b + 1) i ∧ NodeEq g (a + 4 + i) h (b + 4 + i)
def inF (a x : Nat) : Prop := a ≤ x ∧ x < a + 36
theorem copyFormL {h : HP} {a b : Nat} (A : FormAt h a) (B : FormAt h b) (dj : a + 36 ≤ b ∨ b + 36 ≤ a) (bb : ∀ i : Nat, i < 32 → isB (hI h 128 (b + 4 + i)) = true) : ∀ (k n : Nat) (i : Nat) (g : HP), i + k = 32 → k < n → So (inF a) h g → (∀ j : Nat, j < i → hA g (a + 1) j = hA h (b + 1) j ∧ NodeEq g (a + 4 + j) h (b + 4 + j)) → (∀ f, f < 6 → hI g f a = hI h f b) → ∃ g2, lX0_copyFrom_50 n a (some b) (i32 i) g = some g2 ∧ So (inF a) h g2 ∧ FormEq g2 a h b := by
  intro k
  induction k with
  | zero =>
    intro n i g e hn s q q0
    obtain ⟨m, rfl⟩ : ∃ m, n = m + 1 := ⟨n - 1, by omega⟩
    rw [elX0_copyFrom_50]; unfold bX0_copyFrom_50
    simp (disch := omega) only [i32_le]
    rw [if_pos (by omega)]
    exact ⟨g, rfl, s, q0, fun j hj => q j (by omega)⟩
  | succ k ih =>
    intro n i g e hn s q q0
    obtain ⟨m, rfl⟩ : ∃ m, n = m + 1 := ⟨n - 1, by omega⟩
    have A' := A.sk s.1
    have B' := B.sk s.1
    have hi : i < 32 := by omega
    have A2 : FormAt (sA g (a + 1) i (hA g (b + 1) i)) a := A'.sk (sk_sA rfl)
    have B2 : FormAt (sA g (a + 1) i (hA g (b + 1) i)) b := B'.sk (sk_sA rfl)
    have s2 : So (inF a) h (sA g (a + 1) i (hA g (b + 1) i)) := s.t (So_A ⟨by omega, by omega⟩ _ _)
    have src : Sm h (sA g (a + 1) i (hA g (b + 1) i)) (b + 4 + i) := s2.2.2 _ (fun z => by unfold inF at z; omega)
    obtain ⟨g3, c1, c2, c3⟩ := copyNode (A2.on hi) (B2.on hi) (by rw [src.1]; exact bb i hi) (by omega)
    rw [elX0_copyFrom_50]; unfold bX0_copyFrom_50 jX0_copyFrom_101
    simp (disch := omega) only [i32_le, A'.o, B'.o, A'.rO, A'.oO, A'.nO, B'.rO, B'.oO, B'.nO, gd_tt, oc_s, i32_inb, i32_cn, lt_e, Int.toNat_natCast, A2.rN, A2.oN, A2.nN, A2.q hi, B2.rN, B2.oN, B2.nN, B2.q hi, on_sm, A2.on hi, c1, bn_s, i32_add]
    rw [if_neg (by omega)]
    have s3 : So (inF a) h g3 := s2.t (c2.w fun x hx => by unfold inF; omega)
    refine ih m (i + 1) g3 (by omega) (by omega) s3 (fun j hj => ?_) (fun f hf => ?_)
    · by_cases w : j = i
      · subst w
        have t := c2.2.2 (a + 1) (by omega)
        refine ⟨?_, c3.src src⟩
        rw [t.2.2.2.1, rAA, if_pos ⟨rfl, rfl⟩]
        exact (s.2.2 (b + 1) (fun z => by unfold inF at z; omega)).2.2.2.1 j
      · obtain ⟨q1, q2⟩ := q j (by omega)
        have t := c2.2.2 (a + 1) (by omega)
        refine ⟨?_, ?_⟩
        · rw [t.2.2.2.1, rAA, if_neg (fun z => w z.2), q1]
        · exact (q2.sm (Sm_A (by omega) _ _)).sm (c2.2.2 (a + 4 + j) (by omega))
    · rw [(c2.2.2 a (by omega)).1]; exact q0 f hf
theorem copyForm {h : HP} {a b : Nat} (A : FormAt h a) (B : FormAt h b) (dj : a + 36 ≤ b ∨ b + 36 ≤ a) (bb : ∀ i : Nat, i < 32 → isB (hI h 128 (b + 4 + i)) = true) : ∃ g, fX0_copyFrom a (some b) h = some g ∧ So (inF a) h g ∧ FormEq g a h b := by
  unfold fX0_copyFrom
  simp only [oc_s, A.o, B.o, gd_tt]
  have ia : inF a a := ⟨by omega, by omega⟩
  have n : b ≠ a := by omega
  rw [lt_to wO_ex]; simp only [wO_I2 _ _ _ _ _ n]
  rw [lt_to wO_sI]; simp only [wO_I2 _ _ _ _ _ n]
  rw [lt_to wO_sI]; simp only [wO_I2 _ _ _ _ _ n]
  rw [lt_to wO_sI]; simp only [wO_I2 _ _ _ _ _ n]
  rw [lt_to wO_sI]; simp only [wO_I2 _ _ _ _ _ n]
  rw [lt_to wO_sI]
  apply copyFormL A B dj bb 32 FU 0 _ (by omega) (by decide) (So_wO ia fun f _ _ _ => rfl) (fun j hj => by omega)
  intro f hf
  rw [wO_I]
  rcases (show f = 0 ∨ f = 1 ∨ f = 2 ∨ f = 3 ∨ f = 4 ∨ f = 5 by omega) with rfl | rfl | rfl | rfl | rfl | rfl <;> simp [up1_e]
def SheetEq (g : HP) (a : Nat) (h : HP) (b : Nat) : Prop := hI g 256 a = hI h 256 b ∧ ∀ i : Nat, i < 24 → hA g (a + 1) i = hA h (b + 1) i
theorem copySheetL {h : HP} {a b : Nat} (A : SheetAt h a) (B : SheetAt h b) (dj : a + 2 ≤ b ∨ b + 2 ≤ a) : ∀ (k n : Nat) (i : Nat) (g : HP), i + k = 24 → k < n → So (fun x => x = a ∨ x = a + 1) h g → (∀ j : Nat, j < i → hA g (a + 1) j = hA h (b + 1) j) → hI g 256 a = hI h 256 b → ∃ g2, lX4_copyFrom_10 n a (some b) (i32 i) g = some g2 ∧ So (fun x => x = a ∨ x = a + 1) h g2 ∧ SheetEq g2 a h b := by
  intro k
  induction k with
  | zero =>
    intro n i g e hn s q q0
    obtain ⟨m, rfl⟩ : ∃ m, n = m + 1 := ⟨n - 1, by omega⟩
    rw [elX4_copyFrom_10]; unfold bX4_copyFrom_10
    simp (disch := omega) only [i32_le]
    rw [if_pos (by omega)]
    exact ⟨g, rfl, s, q0, fun j hj => q j (by omega)⟩
  | succ k ih =>
    intro n i g e hn s q q0
    obtain ⟨m, rfl⟩ : ∃ m, n = m + 1 := ⟨n - 1, by omega⟩
    have A' := A.sk s.1
    have B' := B.sk s.1
    rw [elX4_copyFrom_10]; unfold bX4_copyFrom_10
    simp (disch := omega) only [i32_le, A'.o, B'.o, A'.rV, A'.oV, A'.nV, B'.rV, B'.oV, B'.nV, gd_tt, oc_s, i32_inb, i32_cn, lt_e, Int.toNat_natCast, i32_add]
    rw [if_neg (by omega)]
    refine ih m (i + 1) _ (by omega) (by omega) (s.t (So_A (Or.inr rfl) _ _)) (fun j hj => ?_) (by rw [rIA]; exact q0)
    rw [rAA]
    by_cases w : j = i
    · subst w; rw [if_pos ⟨rfl, rfl⟩]; exact (s.2.2 (b + 1) (by omega)).2.2.2.1 j
    · rw [if_neg (fun z => w z.2)]; exact q j (by omega)
theorem copySheet {h : HP} {a b : Nat} (A : SheetAt h a) (B : SheetAt h b) (dj : a + 2 ≤ b ∨ b + 2 ≤ a) : ∃ g, fX4_copyFrom a (some b) h = some g ∧ So (fun x => x = a ∨ x = a + 1) h g ∧ SheetEq g a h b := by
  unfold fX4_copyFrom
  simp only [oc_s, A.o, B.o, gd_tt, lt_e]
  exact copySheetL A B dj 24 FU 0 _ (by omega) (by decide) (So_I (Or.inl rfl) _ _) (fun j hj => by omega) (by simp [rII])
def StateEq (g : HP) (a : Nat) (h : HP) (b : Nat) : Prop := FormEq g (a + 1) h (b + 1) ∧ hI g 321 a = hI h 321 b ∧ hI g 322 a = hI h 322 b ∧ ∀ i : Nat, i < 10 → SheetEq g (a + 38 + 2 * i) h (b + 38 + 2 * i)
def inS (a x : Nat) : Prop := a ≤ x ∧ x < a + 58
theorem SheetEq.sm {g h k : HP} {b c : Nat} (e : SheetEq g b h c) (s : Sm g k b) (s1 : Sm g k (b + 1)) : SheetEq k b h c := ⟨(s.1 _).trans e.1, fun i hi => (s1.2.2.2.1 i).trans (e.2 i hi)⟩
theorem SheetEq.src {g h k : HP} {b c : Nat} (e : SheetEq g b k c) (s : Sm h k c) (s1 : Sm h k (c + 1)) : SheetEq g b h c := ⟨e.1.trans (s.1 _), fun i hi => (e.2 i hi).trans (s1.2.2.2.1 i)⟩
theorem FormEq.sm {g h k : HP} {b c : Nat} (e : FormEq g b h c) (s : ∀ x, inF b x → Sm g k x) : FormEq k b h c := ⟨fun f hf => ((s b ⟨by omega, by omega⟩).1 f).trans (e.1 f hf), fun i hi => ⟨((s (b + 1) ⟨by omega, by omega⟩).2.2.2.1 i).trans (e.2 i hi).1, (e.2 i hi).2.sm (s _ ⟨by omega, by omega⟩)⟩⟩
theorem copyStateL {h : HP} {a b : Nat} (A : StateAt h a) (B : StateAt h b) (dj : a + 58 ≤ b ∨ b + 58 ≤ a) : ∀ (k n : Nat) (i : Nat) (g : HP), i + k = 10 → k < n → So (inS a) h g → (∀ j : Nat, j < i → SheetEq g (a + 38 + 2 * j) h (b + 38 + 2 * j)) → FormEq g (a + 1) h (b + 1) → hI g 321 a = hI h 321 b → hI g 322 a = hI h 322 b → ∃ g2, lX5_copyFrom_29 n a (some b) (i32 i) g = some g2 ∧ So (inS a) h g2 ∧ StateEq g2 a h b := by
  intro k
  induction k with
  | zero =>
    intro n i g e hn s q q0 q1 q2
    obtain ⟨m, rfl⟩ : ∃ m, n = m + 1 := ⟨n - 1, by omega⟩
    rw [elX5_copyFrom_29]; unfold bX5_copyFrom_29
    simp (disch := omega) only [i32_le]
    rw [if_pos (by omega)]
    exact ⟨g, rfl, s, q0, q1, q2, fun j hj => q j (by omega)⟩
  | succ k ih =>
    intro n i g e hn s q q0 q1 q2
    obtain ⟨m, rfl⟩ : ∃ m, n = m + 1 := ⟨n - 1, by omega⟩
    have A' := A.sk s.1
    have B' := B.sk s.1
    have hi : i < 10 := by omega
    obtain ⟨g3, c1, c2, c3⟩ := copySheet (A'.sh hi) (B'.sh hi) (by omega)
    rw [elX5_copyFrom_29]; unfold bX5_copyFrom_29 jX5_copyFrom_68
    simp (disch := omega) only [i32_le, A'.o, B'.o, A'.rS, A'.oS, A'.nS, B'.rS, B'.oS, B'.nS, gd_tt, oc_s, i32_inb, i32_cn, lt_e, Int.toNat_natCast, A'.q hi, B'.q hi, on_sm, (A'.sh hi).o, c1, bn_s, i32_add]
    rw [if_neg (by omega)]
    have s3 : So (inS a) h g3 := s.t (c2.w fun x hx => by unfold inS; omega)
    have out : ∀ x, x < a + 38 + 2 * i ∨ a + 38 + 2 * i + 2 ≤ x → Sm g g3 x := fun x hx => c2.2.2 x (by omega)
    refine ih m (i + 1) g3 (by omega) (by omega) s3 (fun j hj => ?_) (q0.sm fun x hx => out x (by unfold inF at hx; omega)) ((out a (by omega)).1 _ |>.trans q1) ((out a (by omega)).1 _ |>.trans q2)
    by_cases w : j = i
    · subst w
      exact c3.src (s.2.2 _ (fun z => by unfold inS at z; omega)) (s.2.2 _ (fun z => by unfold inS at z; omega))
    · exact (q j (by omega)).sm (out _ (by omega)) (out _ (by omega))
theorem copyState {h : HP} {a b : Nat} (A : StateAt h a) (B : StateAt h b) (dj : a + 58 ≤ b ∨ b + 58 ≤ a) (bb : ∀ i : Nat, i < 32 → isB (hI h 128 (b + 1 + 4 + i)) = true) : ∃ g, fX5_copyFrom a (some b) h = some g ∧ So (inS a) h g ∧ StateEq g a h b := by
  obtain ⟨g1, c1, c2, c3⟩ := copyForm A.d B.d (by omega) bb
  have A' := A.sk c2.1
  have B' := B.sk c2.1
  unfold fX5_copyFrom
  simp only [A.o, B.o, gd_tt, oc_s, A.rD, B.rD, A.d.o, c1, bn_s, A'.o, B'.o, lt_e]
  have ia : inS a a := ⟨by omega, by omega⟩
  have s1 : So (inS a) h g1 := c2.w fun x hx => by unfold inF at hx; unfold inS; omega
  have sb := c2.2.2 b (fun z => by unfold inF at z; omega)
  have n : b ≠ a := by omega
  apply copyStateL A B dj 10 FU 0 _ (by omega) (by decide) ((s1.t (So_I ia _ _)).t (So_I ia _ _)) (fun j hj => by omega)
  · apply c3.sm
    intro x hx
    have : x ≠ a := by unfold inF at hx; omega
    exact (Sm_I this _ _).t (Sm_I this _ _)
  · simp [rII, sb.1]
  · simp [rII, n, sb.1]
