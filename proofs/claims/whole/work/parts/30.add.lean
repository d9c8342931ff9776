/-! THE MODEL MAKES ROOM FOR A NODE, whole -/
def R64 (φ : Int → Int) : Prop := ∀ k, -9223372036854775808 ≤ φ k ∧ φ k < 9223372036854775808
theorem R64_upd {φ : Int → Int} (r : R64 φ) {i v : Int} (h : -9223372036854775808 ≤ v ∧ v < 9223372036854775808) : R64 (updI φ i v) := by
  intro k
  unfold updI
  by_cases c : k = i
  · rw [if_pos c]; exact h
  · rw [if_neg c]; exact r k
theorem R64_shf {φ : Int → Int} (r : R64 φ) (p i : Int) : R64 (shf φ p i) := by
  intro k
  unfold shf
  by_cases c : 256 + p < k ∧ k ≤ 256 + i
  · rw [if_pos c]; exact r _
  · rw [if_neg c]; exact r k
theorem R64_Wm (h : HP) : R64 (Wm h) := fun _ => i64_rng _
theorem wW_all {h : HP} {φ : Int → Int} (r : R64 φ) {k : Int} (k0 : 0 ≤ k) : Wm (wW h φ) k = φ k := wW_Wm k0 (r k)
/-- a write into the world -/
theorem ww_s {β : Type} {h : HP} {φ : Int → Int} (M : MS h) {i v : Int} (i0 : 0 ≤ i) (i1 : i < 2880) (k : HP → Option β) : (oc (hR (wW h φ) 709 983) fun o => gd (isO (wW h φ) o 23) <| gd (inb (i32 i) (hln (wW h φ) o)) <| lt (sL (wW h φ) o (i32 i).toNatClampNeg (i64 v)) k) = k (wW h (updI φ i v)) := by
  have M' := wW_ms M φ
  rw [M'.r_world, oc_s, M'.o_world, gd_tt, M'.n_world, i32_inb i0 (by omega) (by omega), gd_tt, i32_cn i0 (by omega), sL_wW i0, lt_e]
/-- the same with what stands there -/
theorem ww_r {β : Type} {h : HP} {φ : Int → Int} (M : MS h) {i v : Int} (i0 : 0 ≤ i) (i1 : i < 2880) (k : HP → Option β) : (lt (hR (wW h φ) 709 983) fun v0 => oc v0 fun o => gd (isO (wW h φ) o 23) <| gd (inb (i32 i) (hln (wW h φ) o)) <| gd (inb (i32 i) (hln (wW h φ) o)) <| lt (sL (wW h φ) o (i32 i).toNatClampNeg (hL (wW h φ) o (i32 i).toNatClampNeg + i64 v)) k) = k (wW h (updI φ i (φ i + v))) := by
  have M' := wW_ms M φ
  rw [lt_e, M'.r_world, oc_s, M'.o_world, gd_tt, M'.n_world, i32_inb i0 (by omega) (by omega), gd_tt, gd_tt, i32_cn i0 (by omega), wW_L i0, i64_add, sL_wW i0, lt_e]

theorem Fm0 (h : HP) : Fm h 0 = Wm h := by funext k; unfold Fm; rw [Int.zero_add]
theorem beginsK {h : HP} (M : MS h) {p : Int} (hp : hI h 731 983 = i32 p) (p0 : 0 ≤ p) (p1 : p ≤ Wm h 288) (m1 : Wm h 288 ≤ 32) {K : Nat → Int32 → Int32 → Int32 → Int64 → HP → Option HP} {v1 v2 v3 : Int32} {v4 : Int64} : lX11_begins_48 K FU 983 v1 v2 v3 v4 (i32 (Wm h 288)) h = K 983 v1 v2 v3 v4 (wW h (shf (Wm h) p (Wm h 288))) := by
  have e := beginsL_s M hp p0 (by omega) (K := K) (v1 := v1) (v2 := v2) (v3 := v3) (v4 := v4) (Wm h 288 - p).toNat FU (Wm h 288) (Wm h) (by omega) m1 (by have : FU = 1000000 := rfl; omega)
  rwa [wW_self] at e
theorem begins30_t {g g1 : HP} (M0 : isO g 983 11 = true) (ht : fX11_takes 983 true g = some g1) (M : MS g1) (hf : hI g1 721 983 = i32 1) {p node grp srt nm : Int} (hp : hI g1 731 983 = i32 p) (p0 : 0 ≤ p) (p1 : p ≤ Wm g1 288) (m1 : Wm g1 288 < 32) (n0 : 0 ≤ node) (n1 : node < 32) (g0 : -2 ≤ grp) (gu : grp < 32) (s0 : 0 ≤ srt) (s1 : srt < 4) (nm0 : -9223372036854775808 ≤ nm ∧ nm < 9223372036854775808) : ∃ g', jX11_begins_30 983 (i32 node) (i32 grp) (i32 srt) (i64 nm) true 983 g = some g' ∧ Mo [731, 987] g1 g' ∧ hI g' 731 983 = i32 (p + 1) ∧ ∀ k, 0 ≤ k → Wm g' k = addF (Wm g1) p node grp srt nm k := by
  obtain ⟨φ1, e1⟩ : ∃ φ1, φ1 = shf (Wm g1) p (Wm g1 288) := ⟨_, rfl⟩
  have r1 : R64 φ1 := by rw [e1]; exact R64_shf (R64_Wm _) _ _
  have M2 : MS (sI g1 731 983 (i32 (p + 1))) := M.sk (sk_sI rfl)
  have e288 : updI φ1 (256 + p) node 288 + 1 = Wm g1 288 + 1 := by
    unfold updI
    rw [if_neg (by omega), e1]
    unfold shf
    rw [if_neg (by omega)]
  unfold jX11_begins_30
  rw [M0, gd_tt, ht, bn_s, M.o, gd_tt, hf, i32_z, if_neg i32_1n0, many_s M (by omega) (by omega), bn_s, Fm0, beginsK M hp p0 p1 (by omega), ← e1, (wW_ms M φ1).o, gd_tt, wW_I, hp]
  simp only [i32_add, Int.zero_add, i32_64 (show (-2147483648 : Int) ≤ node by omega) (show node < 2147483648 by omega), i32_64 (show (-2147483648 : Int) ≤ grp by omega) (show grp < 2147483648 by omega), i32_64 (show (-2147483648 : Int) ≤ srt by omega) (show srt < 2147483648 by omega)]
  rw [ww_s M (by omega) (by omega), wW_I, hp, i32_add, lt_e, sI_wW, ww_r M2 (by omega) (by omega), e288, ww_s M2 (by omega) (by omega), ww_s M2 (by omega) (by omega), ww_s M2 (by omega) (by omega), ww_s M2 (by omega) (by omega), ww_s M2 (by omega) (by omega), ww_s M2 (by omega) (by omega), ww_s M2 (by omega) (by omega), ww_s M2 (by omega) (by omega)]
  refine ⟨_, rfl, ((Mo_I (by decide) _).t ((wW_mo _).w (by decide))), ?_, fun k k0 => ?_⟩
  · rw [wW_I, rII, if_pos ⟨rfl, rfl⟩]
  · have r288 := R64_Wm g1 288
    rw [wW_all (R64_upd (R64_upd (R64_upd (R64_upd (R64_upd (R64_upd (R64_upd (R64_upd (R64_upd (R64_upd r1 (by omega)) (by omega)) (by omega)) nm0) (by omega)) (by omega)) (by omega)) (by omega)) (by omega)) (by omega)) k0, e1]
    rfl
theorem begins30_f {g g1 : HP} (M0 : isO g 983 11 = true) (ht : fX11_takes 983 false g = some g1) (M : MS g1) (hf : hI g1 721 983 = i32 0) {v1 v2 v3 : Int32} {v4 : Int64} : jX11_begins_30 983 v1 v2 v3 v4 false 983 g = some g1 := by
  unfold jX11_begins_30
  rw [M0, gd_tt, ht, bn_s, M.o, gd_tt, hf, i32_z, if_pos rfl]
theorem begins_s {g : HP} {b : Int → Int} {n : Int} {j : Nat} (z0 : 0 ≤ n) (z1 : n ≤ 1200) (P : MQt g b n j) (O : OV (Wm g)) {p node grp srt : Int} (hp : hI g 731 983 = i32 p) (p0 : 0 ≤ p) (p1 : p ≤ Wm g 288) (m1 : Wm g 288 < 32) (n0 : 0 ≤ node) (n1 : node < 32) (g0 : -2 ≤ grp) (gu : grp < 32) (s0 : 0 ≤ srt) (s1 : srt < 4) :
  (tK b n j = 2 ∧ fnm (Wm g) (tkv (tkn b n j)) < 0 ∧ ∃ g', fX11_begins 983 (i32 node) (i32 grp) (i32 srt) g = some g' ∧ Mo (731 :: 987 :: lnN) g g' ∧ MQt g' b n (j + 1) ∧ hI g' 731 983 = i32 (p + 1) ∧ ∀ k, 0 ≤ k → Wm g' k = addF (Wm g) p node grp srt (tkv (tkn b n j)) k) ∨
  (¬ (tK b n j = 2 ∧ fnm (Wm g) (tkv (tkn b n j)) < 0) ∧ ∃ g', fX11_begins 983 (i32 node) (i32 grp) (i32 srt) g = some g' ∧ Mo [721, 706] g g' ∧ hI g' 721 983 = i32 0 ∧ hI g' 706 983 = i32 (tks (tkn b n j))) := by
  have tv := tk_val (b := b) z0 j
  obtain ⟨gt, t1, t2, t3⟩ := takes_t z0 z1 P
  obtain ⟨gf, f1, f2, f3, f4⟩ := takes_f P
  have M := P.ms
  have bad : ∀ v4, jX11_begins_29 983 (i32 node) (i32 grp) (i32 srt) v4 983 g = some gf := fun v4 => by
    unfold jX11_begins_29
    exact begins30_f M.o f1 (f2.ms M) f3
  unfold fX11_begins
  rw [M.o, gd_tt, lt_e, P.kd]
  have mr := mkk_rng (tkk (tkn b n j))
  by_cases c2 : tK b n j = 2
  · have c2' : tkk (tkn b n j) = 2 := c2
    have nv := (tv.2.1 (Or.inl c2')).1
    have nvr : 0 < tkv (tkn b n j) ∧ tkv (tkn b n j) < 1099511627776 := ⟨nv.1, nv.2.1⟩
    have fr := fnm_rng (w := tkv (tkn b n j)) O
    have fe : Wm gt = Wm g := by rw [← Fm0, ← Fm0]; exact Mo_Fm t2 (by decide) 0
    rw [P.wd (Or.inl c2'), if_pos (by rw [c2']; rfl), nodeNamed_s M (by omega) (by omega) (by omega) (by omega) (by rw [Fm0]; exact O), bn_s, Fm0]
    by_cases c3 : fnm (Wm g) (tkv (tkn b n j)) < 0
    · rw [if_neg (by rw [i32_z, i32_le (by omega) (by omega) (by omega) (by omega)]; omega)]
      obtain ⟨g', x1, x2, x3, x4⟩ := begins30_t (node := node) (grp := grp) (srt := srt) (nm := tkv (tkn b n j)) M.o t1 t3.ms t3.fn (by rw [t2.I (by decide)]; exact hp) p0 (by rw [fe]; exact p1) (by rw [fe]; exact m1) n0 n1 g0 gu s0 s1 (by omega)
      refine Or.inl ⟨c2, c3, g', x1, (t2.w (by decide)).t (x2.w (by decide)), t3.mo x2 (by decide), x3, fun k k0 => ?_⟩
      rw [x4 k k0, fe]
    · rw [if_pos (by rw [i32_z, i32_le (by omega) (by omega) (by omega) (by omega)]; omega), bad]
      exact Or.inr ⟨fun z => c3 z.2, gf, rfl, f2, f3, f4⟩
  · rw [if_neg (by
      have k1 := mkk_1 (k := tkk (tkn b n j)) (by omega)
      rw [i32_eq (by omega) (by omega) (by omega) (by omega)]
      exact fun z => c2 (k1.mp z)), bad]
    exact Or.inr ⟨fun z => c2 z.1, gf, rfl, f2, f3, f4⟩
theorem begins_z {g : HP} (M : MS g) (z : hI g 721 983 = i32 0) {v1 v2 v3 : Int32} (O : OV (Wm g)) : fX11_begins 983 v1 v2 v3 g = some g := by
  have k : ∀ v4 s0, jX11_begins_30 983 v1 v2 v3 v4 s0 983 g = some g := fun v4 s0 => by
    unfold jX11_begins_30
    rw [M.o, gd_tt, takes_z M z, bn_s, M.o, gd_tt, z, i32_z, if_pos rfl]
  have k29 : ∀ v4, jX11_begins_29 983 v1 v2 v3 v4 983 g = some g := fun v4 => by unfold jX11_begins_29; exact k _ _
  unfold fX11_begins
  rw [M.o, gd_tt, lt_e]
  by_cases c : hI g 718 983 = i32 1
  · have e : hJ g 720 983 = i64 (hJ g 720 983).toInt := (i64_eta _).symm
    have r := i64_rng (hJ g 720 983)
    rw [if_pos c, e, nodeNamed_s M (by omega) (by omega) r.1 r.2 (by rw [Fm0]; exact O), bn_s]
    by_cases d : (0 : Int32) ≤ i32 (fnm (Fm g 0) (hJ g 720 983).toInt)
    · rw [if_pos d, k29]
    · rw [if_neg d, k]
  · rw [if_neg c, k29]

/-! A NODE IS ADDED: what stands where -/
section
variable {F : Int → Int} {p node grp srt nm : Int}
theorem updI_at {φ : Int → Int} {i v k : Int} (h : k = i) : updI φ i v k = v := by unfold updI; rw [if_pos h]
theorem updI_ne {φ : Int → Int} {i v k : Int} (h : k ≠ i) : updI φ i v k = φ k := by unfold updI; rw [if_neg h]
theorem shf_lo {φ : Int → Int} {p i k : Int} (h : k ≤ 256 + p) : shf φ p i k = φ k := by unfold shf; rw [if_neg (by omega)]
theorem shf_hi {φ : Int → Int} {p i k : Int} (h : 256 + i < k) : shf φ p i k = φ k := by unfold shf; rw [if_neg (by omega)]
theorem shf_in {φ : Int → Int} {p i k : Int} (h : 256 + p < k) (h2 : k ≤ 256 + i) : shf φ p i k = φ (k - 1) := by unfold shf; rw [if_pos ⟨h, h2⟩]
/-- below the order: only the node's own cells -/
theorem addF_lo (p0 : 0 ≤ p) (n0 : 0 ≤ node) (n1 : node < 32) {k : Int} (k1 : k < 256) : addF F p node grp srt nm k = if k = node then grp else if k = 32 + node then nm else if k = 64 + node then srt else if k = 96 + node ∨ k = 128 + node ∨ k = 160 + node ∨ k = 192 + node ∨ k = 224 + node then 0 else F k := by
  unfold addF
  by_cases c9 : k = 224 + node
  · rw [updI_at c9, if_neg (by omega), if_neg (by omega), if_neg (by omega), if_pos (by omega)]
  rw [updI_ne c9]
  by_cases c8 : k = 192 + node
  · rw [updI_at c8, if_neg (by omega), if_neg (by omega), if_neg (by omega), if_pos (by omega)]
  rw [updI_ne c8]
  by_cases c7 : k = 160 + node
  · rw [updI_at c7, if_neg (by omega), if_neg (by omega), if_neg (by omega), if_pos (by omega)]
  rw [updI_ne c7]
  by_cases c6 : k = 128 + node
  · rw [updI_at c6, if_neg (by omega), if_neg (by omega), if_neg (by omega), if_pos (by omega)]
  rw [updI_ne c6]
  by_cases c5 : k = 96 + node
  · rw [updI_at c5, if_neg (by omega), if_neg (by omega), if_neg (by omega), if_pos (by omega)]
  rw [updI_ne c5]
  by_cases c4 : k = 64 + node
  · rw [updI_at c4, if_neg (by omega), if_neg (by omega), if_pos c4]
  rw [updI_ne c4]
  by_cases c3 : k = 32 + node
  · rw [updI_at c3, if_neg (by omega), if_pos c3]
  rw [updI_ne c3]
  by_cases c2 : k = node
  · rw [updI_at c2, if_pos c2]
  rw [updI_ne c2, updI_ne (by omega), updI_ne (by omega), shf_lo (by omega), if_neg c2, if_neg c3, if_neg c4, if_neg (by omega)]
theorem addF_hi (n1 : node < 32) {k : Int} (k1 : 256 ≤ k) (n0 : 0 ≤ node) : addF F p node grp srt nm k = if k = 288 then F 288 + 1 else if k = 256 + p then node else shf F p (F 288) k := by
  unfold addF
  rw [updI_ne (by omega), updI_ne (by omega), updI_ne (by omega), updI_ne (by omega), updI_ne (by omega), updI_ne (by omega), updI_ne (by omega), updI_ne (by omega)]
  by_cases c : k = 288
  · rw [updI_at c, if_pos c]
  · rw [updI_ne c, if_neg c]
    by_cases d : k = 256 + p
    · rw [updI_at d, if_pos d]
    · rw [updI_ne d, if_neg d]
theorem addF_n (p0 : 0 ≤ p) (n0 : 0 ≤ node) (n1 : node < 32) {n : Int} (h1 : n < 32) : addF F p node grp srt nm n = if n = node then grp else F n := by
  rw [addF_lo p0 n0 n1 (by omega)]
  by_cases c : n = node
  · rw [if_pos c, if_pos c]
  · rw [if_neg c, if_neg c, if_neg (by omega), if_neg (by omega), if_neg (by omega)]
theorem addF_288 (n0 : 0 ≤ node) (n1 : node < 32) : addF F p node grp srt nm 288 = F 288 + 1 := by
  rw [addF_hi n1 (by omega) n0, if_pos rfl]
theorem addF_gt (n0 : 0 ≤ node) (n1 : node < 32) (p1 : p ≤ F 288) (m1 : F 288 < 32) {k : Int} (h : 289 ≤ k) : addF F p node grp srt nm k = F k := by
  rw [addF_hi n1 (by omega) n0, if_neg (by omega), if_neg (by omega), shf_hi (by omega)]
theorem addF_o1 (n0 : 0 ≤ node) (n1 : node < 32) (m1 : F 288 < 32) (p1 : p ≤ F 288) {i : Int} (i0 : 0 ≤ i) (h : i < p) : addF F p node grp srt nm (256 + i) = F (256 + i) := by
  rw [addF_hi n1 (by omega) n0, if_neg (by omega), if_neg (by omega), shf_lo (by omega)]
theorem addF_o2 (n0 : 0 ≤ node) (n1 : node < 32) (m1 : F 288 < 32) (p0 : 0 ≤ p) (p1 : p ≤ F 288) : addF F p node grp srt nm (256 + p) = node := by
  rw [addF_hi n1 (by omega) n0, if_neg (by omega), if_pos rfl]
theorem addF_o3 (n0 : 0 ≤ node) (n1 : node < 32) (m1 : F 288 < 32) (p0 : 0 ≤ p) {i : Int} (h : p < i) (h2 : i ≤ F 288) : addF F p node grp srt nm (256 + i) = F (256 + (i - 1)) := by
  rw [addF_hi n1 (by omega) n0, if_neg (by omega), if_neg (by omega), shf_in (by omega) (by omega)]
  congr 1; omega
end
/-! chains that do not meet what has changed -/
def thr (F : Int → Int) (n : Int) : Prop := n = -2 ∨ (0 ≤ n ∧ n < 32 ∧ F n ≠ -1)
theorem thr_par {F : Int → Int} (T : TV F) {n : Int} (n0 : 0 ≤ n) (n1 : n < 32) (p : F n ≠ -1) : thr F (F n) := by
  rcases T.grp n0 n1 p with h | ⟨h1, h2, h3⟩
  · exact Or.inl h
  · exact Or.inr ⟨by omega, h2, h3⟩
theorem up_congr {F G : Int → Int} (T : TV F) (e : ∀ n, 0 ≤ n → n < 32 → F n ≠ -1 → G n = F n) : ∀ (i : Nat) (n : Int), thr F n → up G i n = up F i n ∧ thr F (up F i n) := by
  intro i
  induction i with
  | zero => intro n h; exact ⟨rfl, h⟩
  | succ i ih =>
    intro n h
    simp only [up]
    rcases h with h | ⟨h0, h1, h2⟩
    · rw [if_neg (by omega), if_neg (by omega)]; exact ⟨rfl, Or.inl h⟩
    · rw [if_pos h0, if_pos h0, e n h0 h1 h2]
      exact ih _ (thr_par T h0 h1 h2)
theorem inch_congr {F G : Int → Int} (T : TV F) (e : ∀ n, 0 ≤ n → n < 32 → F n ≠ -1 → G n = F n) {n c : Int} (h : thr F n) : inch G n c ↔ inch F n c := by
  constructor
  · rintro ⟨j, x⟩; exact ⟨j, by rw [← (up_congr T e j n h).1]; exact x⟩
  · rintro ⟨j, x⟩; exact ⟨j, by rw [(up_congr T e j n h).1]; exact x⟩
theorem ends_congr {F G : Int → Int} (T : TV F) (e : ∀ n, 0 ≤ n → n < 32 → F n ≠ -1 → G n = F n) : ∀ (k : Nat) (n : Int), thr F n → ends F k n → ends G k n := by
  intro k
  induction k with
  | zero => intro n _ h; exact h
  | succ k ih =>
    intro n t h
    simp only [ends] at h ⊢
    rcases t with t | ⟨h0, h1, h2⟩
    · exact Or.inl (by omega)
    · rcases h with h | h
      · exact Or.inl h
      · right
        rw [e n h0 h1 h2]
        exact ih _ (thr_par T h0 h1 h2) h
theorem dpt_congr {F G : Int → Int} (T : TV F) (e : ∀ n, 0 ≤ n → n < 32 → F n ≠ -1 → G n = F n) : ∀ (k : Nat) (n : Int), thr F n → dpt G k n = dpt F k n := by
  intro k
  induction k with
  | zero => intro n _; rfl
  | succ k ih =>
    intro n t
    simp only [dpt]
    rcases t with t | ⟨h0, h1, h2⟩
    · rw [if_neg (by omega), if_neg (by omega)]
    · rw [if_pos h0, if_pos h0, e n h0 h1 h2, ih _ (thr_par T h0 h1 h2)]
theorem isin_congr {F G : Int → Int} (T : TV F) (e : ∀ n, 0 ≤ n → n < 32 → F n ≠ -1 → G n = F n) {o : Int} : ∀ (k : Nat) (n : Int), thr F n → isin G k n o = isin F k n o := by
  intro k
  induction k with
  | zero => intro n _; rfl
  | succ k ih =>
    intro n t
    simp only [isin]
    rcases t with t | ⟨h0, h1, h2⟩
    · rw [if_neg (by omega), if_neg (by omega)]
    · by_cases c : 0 ≤ n ∧ n ≠ o
      · rw [if_pos c, if_pos c, e n h0 h1 h2, ih _ (thr_par T h0 h1 h2)]
      · rw [if_neg c, if_neg c]
/-- the place behind all that is in a group (or in the form) -/
def PL (F : Int → Int) (g p : Int) : Prop := 0 ≤ p ∧ p ≤ F 288 ∧ (g = -2 → p = F 288) ∧ (g ≠ -2 → 1 ≤ p ∧ inch F (F (256 + (p - 1))) g ∧ (p < F 288 → ¬ inch F (F (256 + p)) g))
def grok (F : Int → Int) (g : Int) : Prop := g = -2 ∨ (24 ≤ g ∧ g < 32 ∧ F g ≠ -1)
theorem grok_thr {F : Int → Int} {g : Int} (h : grok F g) : thr F g := by
  rcases h with h | ⟨h1, h2, h3⟩
  · exact Or.inl h
  · exact Or.inr ⟨by omega, h2, h3⟩
section
variable {F : Int → Int} {p node grp srt nm : Int}
theorem addF_old (t : TR F) (p0 : 0 ≤ p) (n0 : 0 ≤ node) (n1 : node < 32) (nn : F node = -1) : ∀ n, 0 ≤ n → n < 32 → F n ≠ -1 → addF F p node grp srt nm n = F n := by
  intro n h0 h1 h2
  rw [addF_n p0 n0 n1 h1, if_neg (fun z => h2 (by rw [z]; exact nn))]
/-- the tree with a node more -/
theorem TR_add (t : TR F) (n0 : 0 ≤ node) (n1 : node < 32) (nn : F node = -1) (g : grok F grp) (ge : ends F 7 grp) (P : PL F grp p) (m1 : F 288 < 32) : TR (addF F p node grp srt nm) := by
  obtain ⟨p0, p1, p2, p3⟩ := P
  have old := addF_old (p := p) (grp := grp) (srt := srt) (nm := nm) t p0 n0 n1 nn
  have gn : grp ≠ node := by
    intro z
    rcases g with h | ⟨h1, h2, h3⟩
    · omega
    · rw [z] at h3; exact h3 nn
  have T := t.tv
  have O := t.ov
  have e288 := addF_288 (F := F) (p := p) (node := node) (grp := grp) (srt := srt) (nm := nm) n0 n1
  have o1 := fun (i : Int) => addF_o1 (F := F) (p := p) (node := node) (grp := grp) (srt := srt) (nm := nm) n0 n1 m1 p1 (i := i)
  have o2 := addF_o2 (F := F) (p := p) (node := node) (grp := grp) (srt := srt) (nm := nm) n0 n1 m1 p0 p1
  have o3 := fun (i : Int) => addF_o3 (F := F) (p := p) (node := node) (grp := grp) (srt := srt) (nm := nm) n0 n1 m1 p0 (i := i)
  have at_n := fun (n : Int) => addF_n (F := F) (p := p) (node := node) (grp := grp) (srt := srt) (nm := nm) p0 n0 n1 (n := n)
  generalize addF F p node grp srt nm = G at old e288 o1 o2 o3 at_n
  have gnode : G node = grp := by rw [at_n node n1, if_pos rfl]
  have ord : ∀ i, 0 ≤ i → i < F 288 + 1 → (i < p ∧ G (256 + i) = F (256 + i)) ∨ (i = p ∧ G (256 + i) = node) ∨ (p < i ∧ G (256 + i) = F (256 + (i - 1))) := by
    intro i i0 i1
    by_cases c : i < p
    · exact Or.inl ⟨c, o1 i i0 c⟩
    · by_cases d : i = p
      · exact Or.inr (Or.inl ⟨d, by rw [d]; exact o2⟩)
      · exact Or.inr (Or.inr ⟨by omega, o3 i (by omega) (by omega)⟩)
  have fn : ∀ i, 0 ≤ i → i < F 288 → F (256 + i) ≠ node := fun i i0 i1 z => t.op i i0 i1 (by rw [z]; exact nn)
  refine ⟨⟨by have := O.1; omega, by omega, fun i i0 i1 => ?_⟩, fun i i0 i1 => ?_, fun n h0 h1 h2 => ?_, fun i j i0 i1 j0 j1 e => ?_, fun n h0 h1 => ?_, fun n h0 h1 => ?_, fun q q0 q1 => ?_⟩
  · rcases ord i i0 (by omega) with ⟨c, e⟩ | ⟨c, e⟩ | ⟨c, e⟩
    · rw [e]; exact O.2.2 i i0 (by omega)
    · rw [e]; exact ⟨n0, n1⟩
    · rw [e]; exact O.2.2 (i - 1) (by omega) (by omega)
  · rcases ord i i0 (by omega) with ⟨c, e⟩ | ⟨c, e⟩ | ⟨c, e⟩
    · have o := O.2.2 i i0 (by omega)
      rw [e, old _ o.1 o.2 (t.op i i0 (by omega))]; exact t.op i i0 (by omega)
    · rw [e, gnode]
      rcases g with h | ⟨h1, h2, h3⟩ <;> omega
    · have o := O.2.2 (i - 1) (by omega) (by omega)
      rw [e, old _ o.1 o.2 (t.op (i - 1) (by omega) (by omega))]; exact t.op (i - 1) (by omega) (by omega)
  · by_cases c : n = node
    · exact ⟨p, p0, by omega, by rw [c]; exact o2⟩
    · have h3 : F n ≠ -1 := by rw [at_n n h1, if_neg c] at h2; exact h2
      obtain ⟨i, i0, i1, e⟩ := t.po n h0 h1 h3
      by_cases d : i < p
      · exact ⟨i, i0, by omega, by rw [o1 i i0 d]; exact e⟩
      · exact ⟨i + 1, by omega, by omega, by rw [o3 (i + 1) (by omega) (by omega), show i + 1 - 1 = i by omega]; exact e⟩
  · rcases ord i i0 (by omega) with ⟨c, x⟩ | ⟨c, x⟩ | ⟨c, x⟩ <;> rcases ord j j0 (by omega) with ⟨d, y⟩ | ⟨d, y⟩ | ⟨d, y⟩ <;> rw [x, y] at e
    · exact t.dd i j i0 (by omega) j0 (by omega) e
    · exact absurd e (fn i i0 (by omega))
    · have := t.dd i (j - 1) i0 (by omega) (by omega) (by omega) e; omega
    · exact absurd e.symm (fn j j0 (by omega))
    · omega
    · exact absurd e.symm (fn (j - 1) (by omega) (by omega))
    · have := t.dd (i - 1) j (by omega) (by omega) j0 (by omega) e; omega
    · exact absurd e (fn (i - 1) (by omega) (by omega))
    · have := t.dd (i - 1) (j - 1) (by omega) (by omega) (by omega) (by omega) e; omega
  · by_cases c : n = node
    · rw [c, gnode]
      rcases g with h | ⟨h1, h2, h3⟩
      · exact Or.inr (Or.inl h)
      · exact Or.inr (Or.inr ⟨h1, h2, by rw [old grp (by omega) h2 h3]; exact h3⟩)
    · rw [at_n n h1, if_neg c]
      rcases T n h0 h1 with h | h | ⟨h2, h3, h4⟩
      · exact Or.inl h
      · exact Or.inr (Or.inl h)
      · exact Or.inr (Or.inr ⟨h2, h3, by rw [old _ (by omega) h3 h4]; exact h4⟩)
  · by_cases c : n = node
    · rw [c]
      show node < 0 ∨ ends G 7 (G node)
      right; rw [gnode]
      exact ends_congr T old 7 grp (grok_thr g) ge
    · by_cases d : F n = -1
      · show n < 0 ∨ ends G 7 (G n)
        right
        rw [at_n n h1, if_neg c, d]
        exact Or.inl (by omega)
      · exact ends_congr T old 8 n (Or.inr ⟨h0, h1, d⟩) (t.ce n h0 h1)
  · have thrO : ∀ i, 0 ≤ i → i < F 288 → thr F (F (256 + i)) := fun i i0 i1 => Or.inr ⟨(O.2.2 i i0 i1).1, (O.2.2 i i0 i1).2, t.op i i0 i1⟩
    rcases ord q q0 (by omega) with ⟨c, x⟩ | ⟨c, x⟩ | ⟨c, x⟩
    · have o := O.2.2 q q0 (by omega)
      rw [x, old _ o.1 o.2 (t.op q q0 (by omega))]
      rcases t.pre q q0 (by omega) with h | ⟨h, k⟩
      · exact Or.inl h
      · refine Or.inr ⟨h, ?_⟩
        rw [o1 (q - 1) (by omega) (by omega)]
        exact (inch_congr T old (thrO (q - 1) (by omega) (by omega))).mpr k
    · rw [x, gnode]
      by_cases d : grp = -2
      · exact Or.inl d
      · obtain ⟨k1, k2, k3⟩ := p3 d
        refine Or.inr ⟨by omega, ?_⟩
        rw [c, o1 (p - 1) (by omega) (by omega)]
        exact (inch_congr T old (thrO (p - 1) (by omega) (by omega))).mpr k2
    · have o := O.2.2 (q - 1) (by omega) (by omega)
      rw [x, old _ o.1 o.2 (t.op (q - 1) (by omega) (by omega))]
      rcases t.pre (q - 1) (by omega) (by omega) with h | ⟨h, k⟩
      · exact Or.inl h
      · refine Or.inr ⟨by omega, ?_⟩
        by_cases d : q = p + 1
        · rw [show q - 1 = p by omega] at k ⊢
          rw [o2]
          by_cases gd : grp = -2
          · have := p2 gd; omega
          · obtain ⟨k1, k2, k3⟩ := p3 gd
            have k3 := k3 (by omega)
            have px : 0 ≤ F (256 + p) := (O.2.2 p p0 (by omega)).1
            rcases inch_lin k2 k with l | l
            · have l2 : inch G grp (F (F (256 + p))) := (inch_congr T old (grok_thr g)).mpr l
              have l3 : inch G node grp := by
                have := inch_par (F := G) n0
                rwa [gnode] at this
              exact inch_tr l3 l2
            · exact absurd (inch_tr (inch_par px) l) k3
        · rw [o3 (q - 1) (by omega) (by omega)]
          exact (inch_congr T old (thrO (q - 1 - 1) (by omega) (by omega))).mpr k
/-- what is behind a group around stays behind it -/
theorem PL_add (t : TR F) (n0 : 0 ≤ node) (n1 : node < 32) (nn : F node = -1) (g : grok F grp) (m1 : F 288 < 32) {c : Int} (gc : grok F c) (ic : inch F grp c) (P : PL F c p) : PL (addF F p node grp srt nm) c (p + 1) := by
  obtain ⟨p0, p1, p2, p3⟩ := P
  have old := addF_old (p := p) (grp := grp) (srt := srt) (nm := nm) t p0 n0 n1 nn
  have T := t.tv
  have O := t.ov
  have e288 := addF_288 (F := F) (p := p) (node := node) (grp := grp) (srt := srt) (nm := nm) n0 n1
  have o2 := addF_o2 (F := F) (p := p) (node := node) (grp := grp) (srt := srt) (nm := nm) n0 n1 m1 p0 p1
  have o3 := fun (i : Int) => addF_o3 (F := F) (p := p) (node := node) (grp := grp) (srt := srt) (nm := nm) n0 n1 m1 p0 (i := i)
  have at_n := fun (n : Int) => addF_n (F := F) (p := p) (node := node) (grp := grp) (srt := srt) (nm := nm) p0 n0 n1 (n := n)
  generalize addF F p node grp srt nm = G at old e288 o2 o3 at_n
  have gnode : G node = grp := by rw [at_n node n1, if_pos rfl]
  refine ⟨by omega, by omega, fun z => ?_, fun z => ⟨by omega, ?_, fun l => ?_⟩⟩
  · have := p2 z; omega
  · rw [show p + 1 - 1 = p by omega, o2]
    have l3 : inch G node grp := by
      have := inch_par (F := G) n0
      rwa [gnode] at this
    exact inch_tr l3 ((inch_congr T old (grok_thr g)).mpr ic)
  · rw [o3 (p + 1) (by omega) (by omega), show p + 1 - 1 = p by omega]
    have o := O.2.2 p p0 (by omega)
    intro k
    exact (p3 z).2.2 (by omega) ((inch_congr T old (Or.inr ⟨o.1, o.2, t.op p p0 (by omega)⟩)).mp k)
/-- behind a group that is new and empty -/
theorem PL_new (t : TR F) (n0 : 24 ≤ node) (n1 : node < 32) (nn : F node = -1) (m1 : F 288 < 32) (p0 : 0 ≤ p) (p1 : p ≤ F 288) : PL (addF F p node grp srt nm) node (p + 1) := by
  have n00 : 0 ≤ node := by omega
  have old := addF_old (p := p) (grp := grp) (srt := srt) (nm := nm) t p0 n00 n1 nn
  have T := t.tv
  have O := t.ov
  have e288 := addF_288 (F := F) (p := p) (node := node) (grp := grp) (srt := srt) (nm := nm) n00 n1
  have o2 := addF_o2 (F := F) (p := p) (node := node) (grp := grp) (srt := srt) (nm := nm) n00 n1 m1 p0 p1
  have o3 := fun (i : Int) => addF_o3 (F := F) (p := p) (node := node) (grp := grp) (srt := srt) (nm := nm) n00 n1 m1 p0 (i := i)
  generalize addF F p node grp srt nm = G at old e288 o2 o3
  refine ⟨by omega, by omega, fun z => by omega, fun z => ⟨by omega, ?_, fun l => ?_⟩⟩
  · rw [show p + 1 - 1 = p by omega, o2]; exact inch_rfl
  · rw [o3 (p + 1) (by omega) (by omega), show p + 1 - 1 = p by omega]
    have o := O.2.2 p p0 (by omega)
    have th : thr F (F (256 + p)) := Or.inr ⟨o.1, o.2, t.op p p0 (by omega)⟩
    rintro ⟨j, e⟩
    obtain ⟨e1, e2⟩ := up_congr T old j _ th
    rw [e1] at e
    rw [e] at e2
    rcases e2 with h | ⟨h, h2, h3⟩
    · omega
    · exact h3 nn
end

/-! THE CLASS ADDS A NODE -/
theorem inch_step {F : Int → Int} {n c : Int} (h : inch F n c) (n0 : 0 ≤ n) : n = c ∨ inch F (F n) c := by
  obtain ⟨j, e⟩ := h
  cases j with
  | zero => exact Or.inl e
  | succ j =>
    simp only [up] at e
    rw [if_pos n0] at e
    exact Or.inr ⟨j, e⟩
theorem inch_neg {F : Int → Int} {n c : Int} (h : inch F n c) (n0 : n < 0) : n = c := by
  obtain ⟨j, e⟩ := h
  rw [up_neg j n n0] at e
  exact e
/-- what is in a node stands behind it -/
theorem in_from {F : Int → Int} (t : TR F) {g q : Int} (g0 : 0 ≤ g) (q0 : 0 ≤ q) (q1 : q < F 288) (eq : F (256 + q) = g) : ∀ (i : Nat), (i : Int) < F 288 → inch F (F (256 + (i : Int))) g → q ≤ i := by
  intro i
  induction i with
  | zero =>
    intro h k
    have o := (t.ov).2.2 ((0 : Nat) : Int) (by omega) h
    rcases inch_step k o.1 with c | c
    · have := t.dd ((0 : Nat) : Int) q (by omega) h q0 q1 (by rw [c, eq]); omega
    · rcases t.pre ((0 : Nat) : Int) (by omega) h with d | d
      · rw [d] at c; have := inch_neg c (by omega); omega
      · omega
  | succ i ih =>
    intro h k
    have o := (t.ov).2.2 ((i + 1 : Nat) : Int) (by omega) h
    rcases inch_step k o.1 with c | c
    · have := t.dd ((i + 1 : Nat) : Int) q (by omega) h q0 q1 (by rw [c, eq]); omega
    · rcases t.pre ((i + 1 : Nat) : Int) (by omega) h with d | ⟨_, d⟩
      · rw [d] at c; have := inch_neg c (by omega); omega
      · rw [show ((i + 1 : Nat) : Int) - 1 = (i : Int) by omega] at d
        have := ih (by omega) (inch_tr d c)
        omega
theorem PL_bhd {F : Int → Int} (t : TR F) {g p q : Int} (g0 : 24 ≤ g) (q0 : 0 ≤ q) (q1 : q < F 288) (eq : F (256 + q) = g) (P : PL F g p) : bhd F g 33 (q + 1) = p := by
  have o2 := t.ov.2.1
  obtain ⟨e0, e1, e2, e3⟩ := bhd_spec t.ce t.ov (by omega : 0 ≤ g) 33 (q + 1) (by omega) (by omega) (by omega)
  obtain ⟨p0, p1, -, p3⟩ := P
  obtain ⟨p4, p5, p6⟩ := p3 (by omega)
  generalize bhd F g 33 (q + 1) = e at e0 e1 e2 e3
  have hq : q ≤ p - 1 := by
    have := in_from t (by omega) q0 q1 eq (p - 1).toNat (by omega) (by rw [Int.toNat_of_nonneg (by omega)]; exact p5)
    omega
  by_cases c : e < p
  · exact absurd p5 (out_stays ⟨t.ov, t.op, t.tv, t.ce, t.pre⟩ t.dd (by omega) q0 eq (by omega) e3 (p - 1 - e).toNat (p - 1) (by omega) (by omega))
  · by_cases d : p < e
    · exact absurd (e2 p (by omega) d) (p6 (by omega))
    · omega
theorem bhd_PL {F : Int → Int} (t : TR F) {g q : Int} (g0 : 24 ≤ g) (q0 : 0 ≤ q) (q1 : q < F 288) (eq : F (256 + q) = g) : PL F g (bhd F g 33 (q + 1)) := by
  have o2 := t.ov.2.1
  obtain ⟨e0, e1, e2, e3⟩ := bhd_spec t.ce t.ov (by omega : 0 ≤ g) 33 (q + 1) (by omega) (by omega) (by omega)
  refine ⟨by omega, e1, fun z => by omega, fun z => ⟨by omega, ?_, e3⟩⟩
  by_cases c : bhd F g 33 (q + 1) = q + 1
  · rw [c, show q + 1 - 1 = q by omega, eq]; exact inch_rfl
  · exact e2 _ (by omega) (by omega)
/-- the class's end of a group is its place behind -/
theorem cendP {h : HP} {a : Nat} (S : FormAt h a) {F : Int → Int} (E : EqT (Fc h a) F) (G : GC h a) (t : TR F) {g p : Int} (g0 : 24 ≤ g) (g1 : g < 32) (gp : F g ≠ -1) (P : PL F g p) : fX0_endOf a (i32 g) h = some (i32 p) := by
  have V := t.av
  have T' := EqT_TV E t.tv
  have O' := EqT_OV E t.ov
  have P' := EqT_OP E t.ov t.op
  have C' := EqT_CE E V t.ce
  obtain ⟨q, q0, q1, eq⟩ := t.po g (by omega) g1 gp
  have e288 : Fc h a 288 = F 288 := E.2.1
  have oe : ∀ i, 0 ≤ i → i < F 288 → Fc h a (256 + i) = F (256 + i) := E.2.2
  have lo : ∀ n, 0 ≤ n → n < 32 → Fc h a n = F n := E.1
  rw [cend S T' G O' P' C' (by omega) g1 q0 (by rw [e288]; exact q1) (by rw [oe q q0 q1]; exact eq) (fun i i0 i1 z => by
    rw [oe i i0 (by omega)] at z
    have := t.dd i q i0 (by omega) q0 q1 (z.trans eq.symm)
    omega)]
  have hl : ∀ (k : Nat) (i : Int), 0 ≤ i → i + k = F 288 → eof (Fc h a) (dpt (Fc h a) 8 (Fc h a g)) k i = eof F (dpt F 8 (F g)) k i := by
    have d0 : dpt (Fc h a) 8 (Fc h a g) = dpt F 8 (F g) := by
      rw [lo g (by omega) g1]
      exact EqT_dpt E V 8 (F g) (by have := V g (by omega) g1; omega)
    rw [d0]
    intro k
    induction k with
    | zero => intro i _ _; rfl
    | succ k ih =>
      intro i i0 i1
      have o := t.ov.2.2 i i0 (by omega)
      have v := V _ o.1 o.2
      simp only [eof]
      rw [oe i i0 (by omega), lo _ o.1 o.2, EqT_dpt E V 8 _ v.2, ih (i + 1) (by omega) (by omega)]
  rw [e288, hl (F 288 - (q + 1)).toNat (q + 1) (by omega) (by omega), eof_bhd ⟨t.ov, t.op, t.tv, t.ce, t.pre⟩ t.dd (by omega) g1 gp q0 eq _ 33 (q + 1) (by omega) (by omega) (by have := t.ov.2.1; omega) (by rw [show q + 1 - 1 = q by omega, eq]; exact inch_rfl), PL_bhd t g0 q0 q1 eq P]
/-! whole arrays, in the class's frame -/
theorem Co_wA {l : List Nat} {h : HP} {a : Nat} (m : 1000 + a ∈ l) (φ : Nat → Int32) : Co 0 l h (wA h a φ) := ⟨wA_sk _ _ _, Nat.le_refl _, Nat.le_refl _, fun _ _ _ _ _ => ⟨rfl, rfl, rfl⟩, fun x _ n1 => ⟨wA_A2 _ _ _ (fun z => n1 (z ▸ m)), rfl, rfl⟩⟩
theorem Co_wL {l : List Nat} {h : HP} {a : Nat} (m : 1000 + a ∈ l) (φ : Nat → Int64) : Co 0 l h (wL h a φ) := ⟨wL_sk _ _ _, Nat.le_refl _, Nat.le_refl _, fun _ _ _ _ _ => ⟨rfl, rfl, rfl⟩, fun x _ n1 => ⟨rfl, wL_L2 _ _ _ (fun z => n1 (z ▸ m)), rfl⟩⟩
theorem Co_wO {l : List Nat} {h : HP} {b : Nat} {φ : Nat → Int32} {ψ : Nat → Int64} {ρ : Nat → Option Nat} (m : 5000 + b ∈ l) (w : ∀ f, f ≠ 135 → f ≠ 385 → f ≠ 386 → ρ f = hR h f b) (w3 : ∀ f, f < 3 → φ f = hI h f b ∧ ψ f = hJ h f b) : Co 0 l h (wO h b φ ψ ρ) := by
  have s := So_wO (S := fun x => x = b) (φ := φ) (ψ := ψ) rfl w
  refine ⟨s.1, Nat.le_refl _, Nat.le_refl _, fun x _ f _ n => ?_, fun x _ _ => ⟨rfl, rfl, rfl⟩⟩
  by_cases c : x = b
  · rcases n with n | n
    · exact absurd m (by rw [← c]; exact n)
    · rw [c]
      exact ⟨by rw [wO_I]; exact (w3 f n).1, by rw [wO_J]; exact (w3 f n).2, by rw [wO_R]; exact w f (by omega) (by omega) (by omega)⟩
  · exact ⟨wO_I2 _ _ _ _ _ c f, wO_J2 _ _ _ _ _ c f, wO_R2 _ _ _ _ _ c f⟩
theorem at_raw {h : HP} {a : Nat} (S : FormAt h a) {m i : Int} (hm : hI h 5 a = i32 m) (m1 : m ≤ 32) (i0 : 0 ≤ i) (i1 : i < m) : fX0_at a (i32 i) h = some (hA h (a + 1) i.toNat) := by
  unfold fX0_at
  rw [if_neg (by rw [i32_z, i32_lt (by omega) (by omega) (by omega) (by omega)]; omega), S.o, gd_tt, hm, if_neg (by rw [i32_le (by omega) (by omega) (by omega) (by omega)]; omega), if_neg (by rw [i32_le (by omega) (by omega) (by omega) (by omega)]; omega), S.rO, oc_s, S.oO, gd_tt, S.nO, i32_inb i0 (by omega) (by omega), gd_tt, i32_cn i0 (by omega)]
theorem put_raw {h : HP} {a : Nat} (S : FormAt h a) {i : Int} {v : Int32} {φ : Nat → Int32} (i0 : 0 ≤ i) (i1 : i < 32) : fX0_put a (i32 i) v (wA h (a + 1) φ) = some (wA h (a + 1) (up1 φ i.toNat v)) := by
  have S' : FormAt (wA h (a + 1) φ) a := S.sk (wA_sk _ _ _)
  unfold fX0_put
  rw [if_neg (by rw [i32_z, i32_lt (by omega) (by omega) (by omega) (by omega)]; omega), if_neg (by rw [i32_le (by omega) (by omega) (by omega) (by omega)]; omega), S'.o, gd_tt, S'.rO, oc_s, S'.oO, gd_tt, S'.nO, i32_inb i0 (by omega) (by omega), gd_tt, i32_cn i0 (by omega), sA_wA, lt_e]
def shN (φ : Nat → Int32) (p i : Int) : Nat → Int32 := fun j => if p < j ∧ (j : Int) ≤ i then φ (j - 1) else φ j
theorem caddL {h : HP} {a : Nat} (S : FormAt h a) {m p : Int} (hm : hI h 5 a = i32 m) (m1 : m < 32) (p0 : 0 ≤ p) {K : Nat → Int32 → Int32 → Int32 → HP → Option (Option Nat × HP)} {v1 v2 : Int32} : ∀ (k n : Nat) (i : Int) (φ : Nat → Int32), i = p + k → i ≤ m → k < n → lX0_add_65 K n a v1 v2 (i32 p) (i32 i) (wA h (a + 1) φ) = K a v1 v2 (i32 p) (wA h (a + 1) (shN φ p i)) := by
  intro k
  induction k with
  | zero =>
    intro n i φ e i1 hn
    obtain ⟨n, rfl⟩ : ∃ x, n = x + 1 := ⟨n - 1, by omega⟩
    rw [elX0_add_65]; unfold bX0_add_65
    rw [if_pos (by rw [i32_le (by omega) (by omega) (by omega) (by omega)]; omega)]
    congr 2
    funext j
    unfold shN
    rw [if_neg (by omega)]
  | succ k ih =>
    intro n i φ e i1 hn
    obtain ⟨n, rfl⟩ : ∃ x, n = x + 1 := ⟨n - 1, by omega⟩
    have S' : FormAt (wA h (a + 1) φ) a := S.sk (wA_sk _ _ _)
    rw [elX0_add_65]; unfold bX0_add_65
    rw [if_neg (by rw [i32_le (by omega) (by omega) (by omega) (by omega)]; omega), S'.o, gd_tt, i32_sub, at_raw S' (m := m) hm (by omega) (by omega) (by omega), bn_s, put_raw S (by omega) (by omega), bn_s, i32_add, lt_e, wA_A]
    rw [show i + -1 = i - 1 by omega]
    refine (ih n (i - 1) _ (by omega) (by omega) (by omega)).trans ?_
    congr 2
    funext j
    unfold shN
    rw [up1_e, up1_e]
    by_cases c1 : p < j ∧ (j : Int) ≤ i - 1
    · rw [if_pos c1, if_neg (by omega), if_pos (show p < j ∧ (j : Int) ≤ i from ⟨c1.1, by omega⟩)]
    · rw [if_neg c1]
      by_cases c2 : j = i.toNat
      · rw [if_pos c2, if_pos (show p < j ∧ (j : Int) ≤ i from ⟨by omega, by omega⟩), c2]
        congr 1; omega
      · rw [if_neg c2, if_neg (by omega)]
theorem clearNode {h : HP} {b : Nat} (hb : isO h b 2 = true) : ∃ φ ψ ρ, fX2_clear b h = some (wO h b φ ψ ρ) ∧ (φ 128 = i32 0 ∧ φ 130 = i32 0 ∧ φ 131 = i32 0 ∧ φ 132 = i32 0 ∧ φ 133 = i32 0 ∧ φ 134 = i32 (-2) ∧ φ 136 = i32 0 ∧ φ 137 = i32 0) ∧ ψ 129 = i64 0 ∧ ρ 135 = none ∧ (∀ f, f ≠ 135 → ρ f = hR h f b) ∧ ∀ f, f < 3 → φ f = hI h f b ∧ ψ f = hJ h f b := by
  unfold fX2_clear
  rw [hb, gd_tt, lt_to wO_ex, lt_to wO_sJ, lt_to wO_sI, lt_to wO_sI, lt_to wO_sI, lt_to wO_sI, lt_to wO_sI, lt_to wO_sR, lt_to wO_sI, lt_to wO_sI]
  refine ⟨_, _, _, rfl, ?_, ?_, ?_, fun f hf => ?_, fun f hf => ?_⟩
  · refine ⟨?_, ?_, ?_, ?_, ?_, ?_, ?_, ?_⟩ <;> simp [up1_e]
  · simp [up1_e]
  · simp [up1_e]
  · rw [up1_e, if_neg hf]
  · have n1 : f ≠ 128 := by omega
    have n2 : f ≠ 130 := by omega
    have n3 : f ≠ 131 := by omega
    have n4 : f ≠ 132 := by omega
    have n5 : f ≠ 133 := by omega
    have n6 : f ≠ 134 := by omega
    have n7 : f ≠ 136 := by omega
    have n8 : f ≠ 137 := by omega
    have n9 : f ≠ 129 := by omega
    refine ⟨?_, ?_⟩ <;> simp [up1_e, n1, n2, n3, n4, n5, n6, n7, n8, n9]
/-- a node that is there and empty -/
def Fresh (g : HP) (b : Nat) (gr : Int) : Prop := (hI g 128 b = i32 1 ∧ hI g 130 b = i32 0 ∧ hI g 131 b = i32 0 ∧ hI g 132 b = i32 0 ∧ hI g 133 b = i32 0 ∧ hI g 134 b = i32 gr ∧ hI g 136 b = i32 0 ∧ hI g 137 b = i32 0) ∧ hJ g 129 b = i64 0 ∧ hR g 135 b = none
theorem cadd {h : HP} {a : Nat} (S : FormAt h a) {F : Int → Int} (E : EqT (Fc h a) F) (G : GC h a) (t : TR F) {node grp p : Int} (n0 : 0 ≤ node) (n1 : node < 32) (m1 : F 288 < 32) (gk : grok F grp) (P : PL F grp p) :
  ∃ g', fX0_add a (i32 node) (i32 (cgr grp)) h = some (some (a + 4 + node.toNat), g') ∧ Co 0 [1000 + (a + 1), 5000 + a, 5000 + (a + 4 + node.toNat)] h g' ∧ (∀ f, f ≠ 5 → hI g' f a = hI h f a) ∧ hI g' 5 a = i32 (F 288 + 1) ∧ hA g' (a + 1) = up1 (shN (hA h (a + 1)) p (F 288)) p.toNat (i32 node) ∧ Fresh g' (a + 4 + node.toNat) (cgr grp) := by
  have o1 := t.ov.1
  have hm : hI h 5 a = i32 (F 288) := by rw [Fc_mne, E.2.1]
  have hi : node.toNat < 32 := by omega
  have fu : FU = 1000000 := rfl
  obtain ⟨p0, p1, p2, p3⟩ := id P
  have tail : ∃ g', jX0_add_58 a (i32 node) (i32 (cgr grp)) (i32 p) h = some (some (a + 4 + node.toNat), g') ∧ Co 0 [1000 + (a + 1), 5000 + a, 5000 + (a + 4 + node.toNat)] h g' ∧ (∀ f, f ≠ 5 → hI g' f a = hI h f a) ∧ hI g' 5 a = i32 (F 288 + 1) ∧ hA g' (a + 1) = up1 (shN (hA h (a + 1)) p (F 288)) p.toNat (i32 node) ∧ Fresh g' (a + 4 + node.toNat) (cgr grp) := by
    have e := fun K => caddL S hm m1 p0 (K := K) (v1 := i32 node) (v2 := i32 (cgr grp)) (F 288 - p).toNat FU (F 288) (hA h (a + 1)) (by omega) (by omega) (by omega)
    simp only [wA_self] at e
    unfold jX0_add_58
    rw [S.o, gd_tt, lt_e, hm, e]
    obtain ⟨φ, ep⟩ : ∃ φ, φ = up1 (shN (hA h (a + 1)) p (F 288)) p.toNat (i32 node) := ⟨_, rfl⟩
    have S1 := fun φ => S.sk (wA_sk h (a + 1) φ)
    obtain ⟨h2, e2⟩ : ∃ h2, h2 = sI (wA h (a + 1) φ) 5 a (i32 (F 288 + 1)) := ⟨_, rfl⟩
    have q2 : Co 0 [1000 + (a + 1), 5000 + a, 5000 + (a + 4 + node.toNat)] h h2 := by
      rw [e2]
      exact (Co_wA (by simp) _).t (Co_I (Or.inr (by simp)) _)
    have S2 : FormAt h2 a := S.sk q2.sk
    have sz : a + 4 + node.toNat < hsz h2 := isO_lt (S2.on hi)
    rw [(S1 _).o, gd_tt, put_raw S p0 (by omega), bn_s, ← ep, (S1 _).o, gd_tt, wA_I, hm, i32_add, lt_e, ← e2, S2.rN, oc_s, S2.oN, gd_tt, S2.nN, i32_inb n0 (by omega) (by omega), gd_tt, i32_cn n0 (by omega), S2.q hi, lt_e, oc_s, S2.on hi, gd_tt]
    obtain ⟨α, β, γ, c1, c2, c3, c4, c5, c6⟩ := clearNode (S2.on hi)
    rw [c1, bn_s, wO_o, S2.on hi, gd_tt, lt_to wO_sI, lt_to wO_sI]
    have na : a ≠ a + 4 + node.toNat := by omega
    refine ⟨_, rfl, q2.t0 (Co_wO (by simp) (fun f f1 _ _ => c5 f f1) (fun f f3 => ⟨by rw [up1_e, if_neg (by omega), up1_e, if_neg (by omega)]; exact (c6 f f3).1, (c6 f f3).2⟩)), fun f hf => ?_, ?_, ?_, ?_, ?_, ?_⟩
    · rw [wO_I2 _ _ _ _ _ na, e2, rII, if_neg (fun z => hf z.1), wA_I]
    · rw [wO_I2 _ _ _ _ _ na, e2, rII, if_pos ⟨rfl, rfl⟩]
    · rw [wO_A, e2, rAI, wA_A, ep]
    · simp only [wO_I]
      refine ⟨?_, ?_, ?_, ?_, ?_, ?_, ?_, ?_⟩ <;> simp [up1_e, c2]
    · rw [wO_J]; exact c3
    · rw [wO_R]; exact c4
  unfold fX0_add
  rw [if_neg (by rw [i32_z, i32_lt (by omega) (by omega) (by omega) (by omega)]; omega), if_neg (by rw [i32_le (by omega) (by omega) (by omega) (by omega)]; omega), S.o, gd_tt, S.rN, oc_s, S.oN, gd_tt, S.nN, i32_inb n0 (by omega) (by omega), gd_tt, i32_cn n0 (by omega), S.q hi, on_sm, hm, if_neg (by rw [i32_z, i32_lt (by omega) (by omega) (by omega) (by omega)]; omega), if_pos (by rw [i32_lt (by omega) (by omega) (by omega) (by omega)]; omega)]
  rcases gk with gk | ⟨g0, g1, gp⟩
  · have ec : cgr grp = -2 := by unfold cgr; rw [if_pos (by omega)]
    have ep := p2 gk
    rw [if_pos (by rw [ec])]
    have e2 : i32 (F 288) = i32 p := by rw [ep]
    rw [e2]
    exact tail
  · have ec : cgr grp = grp - 24 := by unfold cgr; rw [if_neg (by omega)]
    rw [if_neg (by rw [i32_eq (by omega) (by omega) (by omega) (by omega)]; omega), i32_add, show 24 + cgr grp = grp by omega, cendP S E G t g0 g1 gp P, bn_s]
    exact tail

