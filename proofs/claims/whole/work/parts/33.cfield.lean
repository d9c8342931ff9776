/-! THE CLASS READS A FIELD, A GROUP'S HEAD -/
theorem LF_F0 {l : List Nat} (h : l = [448, 449, 450, 451] ∨ l = [192]) : okT l ∧ okF l 63 ∧ lsub l LF = true := by
  rcases h with h | h <;> rw [h] <;> exact ⟨⟨by decide +kernel, fun x hx => by simp; omega⟩, ⟨by unfold okN; decide +kernel, by decide +kernel, fun i hi => by simp; omega⟩, by decide +kernel⟩
section
variable {g : HP} {b : Int → Int} {n : Int} {c j : Nat} {F : Int → Int} {S : List TS} {LL : List Int} {ts : Nat → Nat} {was : Nat} {C0 : Int → List Int32} {old : Int → Bool} {z0 : Nat}
theorem Co.seq {n m q : Nat} {l : List Nat} {h g k : HP} (p : Co n l h g) (r : Co m l g k) (e : n + m ≤ q) : Co q l h k := (p.t r).up e
/-- a token behind a piece -/
theorem cpend {k : Int} (n0 : 0 ≤ n) (n1 : n ≤ 1200) (k0 : 0 < k) (k1 : k < 128) {Z : ZR} {g2 : HP} (h : ZoC b n c was C0 old z0 g j Z g2) (ok : Z.1 = true) : isO g2 62 3 = true ∧ ∃ ok2 g3, fX3_take 62 (i32 k) g2 = some (ok2, g3) ∧ ok2 = (pend (tkn b n) k Z).1 ∧ ZoC b n c was C0 old z0 g j (pend (tkn b n) k Z) g3 := by
  obtain ⟨h1, h2, h3, h4⟩ := h
  obtain ⟨⟨x1, x2⟩, ts', P, R⟩ := h3 ok
  have cn := P.1.2.2.1.1
  refine ⟨P.1.cs.o_parser, ?_⟩
  unfold pend
  rw [if_pos ok]
  rcases ctake n0 n1 P.1 (j := Z.2.1) (by omega) (by omega) k1 with ⟨c1, g3, e1, e2, e3⟩ | ⟨c1, g3, e1, e2, e3⟩
  · have jn := P.1.jn n0 (by omega)
    obtain ⟨o1, o2, o3⟩ := LF_F0 (l := [448, 449, 450, 451]) (Or.inl rfl)
    rw [if_pos c1]
    refine ⟨true, g3, e1, rfl, by show j ≤ Z.2.1 + 1; omega, h2.seq (e2.w o3) (by show Z.2.1 - j + 0 ≤ Z.2.1 + 1 - j; omega), fun _ => ⟨⟨by show j ≤ Z.2.1 + 1; omega, by show Z.2.1 + 1 ≤ c; omega⟩, ts', P.mv e2 e3, RPc_co R P.1.cs.sf e2 o1 o2⟩, fun z => (by cases z)⟩
  · obtain ⟨o1, o2, o3⟩ := LF_F0 (l := [192]) (Or.inr rfl)
    rw [if_neg c1]
    exact ⟨false, g3, e1, rfl, h1, h2.seq (e2.w o3) (by show Z.2.1 - j + 0 ≤ Z.2.1 - j; omega), fun z => (by cases z), fun _ => e3⟩
theorem cpe {node k : Int} (n0 : 0 ≤ n) (n1 : n ≤ 1200) (k0 : 0 < k) (k1 : k < 128) (P : CP g b n c j S ts) (jc : j ≤ c) (R : RPc g F S LL ts was C0 old z0) (cv : CV F LL was old) (h0 : 0 ≤ node) (h1 : node < 32) (np : F node ≠ -1) (no : old node = false) (nz : F (224 + node) = 0) :
  (tkk (tkn b n j) = 6 → ∃ g1 ok g2, fX7_step 99 g = some g1 ∧ isO g1 62 3 = true ∧ fX3_condition 62 (i32 node) (some (63 + 4 + node.toNat)) g1 = some (ok, g2) ∧ (ok = true → isO g2 62 3 = true ∧ ∃ ok2 g3, fX3_take 62 (i32 k) g2 = some (ok2, g3) ∧ ok2 = (pend (tkn b n) k (pif (tkn b n) was node j F S LL)).1 ∧ ZoC b n c was C0 old z0 g j (pend (tkn b n) k (pif (tkn b n) was node j F S LL)) g3) ∧ (ok = false → (pend (tkn b n) k (pif (tkn b n) was node j F S LL)).1 = false ∧ ZoC b n c was C0 old z0 g j (pend (tkn b n) k (pif (tkn b n) was node j F S LL)) g2)) ∧
  (tkk (tkn b n j) ≠ 6 → ∃ ok2 g3, fX3_take 62 (i32 k) g = some (ok2, g3) ∧ ok2 = (pend (tkn b n) k (pif (tkn b n) was node j F S LL)).1 ∧ ZoC b n c was C0 old z0 g j (pend (tkn b n) k (pif (tkn b n) was node j F S LL)) g3) := by
  constructor
  · intro tk
    obtain ⟨g1, ok, g2, a1, a2, a3, a4, a5⟩ := cpif n0 n1 P R cv h0 h1 np no nz tk
    refine ⟨g1, ok, g2, a1, a2, a3, fun z => ?_, fun z => ?_⟩
    · exact cpend n0 n1 k0 k1 a5 (by rw [← a4]; exact z)
    · rw [z] at a4
      have e : pend (tkn b n) k (pif (tkn b n) was node j F S LL) = pif (tkn b n) was node j F S LL := by
        unfold pend; rw [if_neg (by rw [← a4]; decide)]
      rw [e]
      exact ⟨a4.symm, a5⟩
  · intro tk
    have e : pif (tkn b n) was node j F S LL = (true, j, F, S, LL) := by unfold pif; rw [if_neg tk]
    rw [e]
    have z : ZoC b n c was C0 old z0 g j (true, j, F, S, LL) g := ⟨Nat.le_refl _, by show Co (j - j) LF g g; rw [Nat.sub_self]; exact Co.r, fun _ => ⟨⟨Nat.le_refl _, jc⟩, ts, P, R⟩, fun z => (by cases z)⟩
    exact (cpend n0 n1 k0 k1 z rfl).2
theorem ZoC_pre {g0 : HP} {j0 m : Nat} {Z : ZR} {g2 : HP} (z : ZoC b n c was C0 old z0 g j Z g2) (p : Co m LF g0 g) (h : j0 + m ≤ j) : ZoC b n c was C0 old z0 g0 j0 Z g2 := by
  obtain ⟨h1, h2, h3, h4⟩ := z
  refine ⟨by omega, p.seq h2 (by omega), fun ok => ?_, h4⟩
  obtain ⟨⟨x1, x2⟩, r⟩ := h3 ok
  exact ⟨⟨by omega, x2⟩, r⟩
theorem ZoC_bad {Z : ZR} {g2 : HP} (h1 : j ≤ Z.2.1) (p : Co (Z.2.1 - j) LF g g2) (h2 : Z.1 = false) (h3 : hI g2 192 62 = i32 (tks (tkn b n Z.2.1))) : ZoC b n c was C0 old z0 g j Z g2 := ⟨h1, p, fun z => (by rw [h2] at z; cases z), fun _ => h3⟩
theorem CP_LN {g' : HP} {i : Nat} (P : CP g b n c j S ts) (p : Co 0 [1000 + (63 + 1), 5000 + 63, 5000 + (63 + 4 + i)] g g') (hi : i < 32) : CP g' b n c j S ts := P.co p (by simp; omega) (by simp; omega) (fun x hx => by simp; omega)
theorem lft_nz {w : Int} (h : NV w) : i64 (lft w) ≠ i64 0 := by
  have r := lft_rng h
  intro z
  rw [i64_eq (by omega) (by omega) (by omega) (by omega)] at z
  omega
/-- the name of a new field, its width, its condition -/
def cft (v1 v2 v3 s0 v103 : Int32) (h104 : HP) : Option (Bool × HP) :=
  gd (isO h104 62 3) <|
  bn2 (fX3_takeNewName 62 h104) fun v107 h108 =>
  if v107 = (i64 0) then (
    jX3_field_104 62 v2 v3 s0 v103 v107 (none : Option Nat) h108
    ) else
  gd (isO h108 62 3) <|
  oc (hR h108 193 62) fun o110 =>
  gd (isO h108 o110 0) <|
  bn2 (fX0_add o110 v2 v1 h108) fun v114 h115 =>
  jX3_field_104 62 v2 v3 s0 v103 v107 v114 h115
theorem LN3_LF {i : Nat} (hi : i < 32) : lsub [1000 + (63 + 1), 5000 + 63, 5000 + (63 + 4 + i)] LF = true := by
  apply lsub_of
  intro x hx
  simp only [List.mem_cons, List.not_mem_nil, or_false] at hx
  rcases hx with h | h | h
  · rw [h]; decide +kernel
  · rw [h]; decide +kernel
  · rw [h]; exact LF_nd hi
theorem lsub_LN {l : List Nat} {i : Nat} (h : l = [448, 449, 450, 451] ∨ l = [1000 + (63 + 1), 5000 + 63, 5000 + (63 + 4 + i)]) : lsub l (LN i) = true := by
  apply lsub_of
  rcases h with h | h <;> rw [h] <;> intro x hx <;> simp only [LN, List.mem_cons, List.not_mem_nil, or_false] at hx ⊢ <;> omega
theorem okLN {i : Nat} (hi : i < 32) : okT (LN i) ∧ okN (LN i) ∧ ∀ m : Nat, m < 32 → m ≠ i → (LN i).contains (5000 + (63 + 4 + m)) = false := by
  refine ⟨⟨?_, fun x hx => LN_not (by omega) (by omega) (by omega) (by omega)⟩, ?_, fun m h1 h2 => LN_not (by omega) (by omega) (by omega) (by omega)⟩
  · rw [LN_not (by omega) (by omega) (by omega) (by omega), LN_not (by omega) (by omega) (by omega) (by omega), LN_not (by omega) (by omega) (by omega) (by omega), LN_not (by omega) (by omega) (by omega) (by omega), LN_not (by omega) (by omega) (by omega) (by omega), LN_not (by omega) (by omega) (by omega) (by omega)]
    rfl
  · unfold okN
    rw [LN_not (by omega) (by omega) (by omega) (by omega), LN_not (by omega) (by omega) (by omega) (by omega), LN_not (by omega) (by omega) (by omega) (by omega), LN_not (by omega) (by omega) (by omega) (by omega), LN_not (by omega) (by omega) (by omega) (by omega), LN_not (by omega) (by omega) (by omega) (by omega), LN_not (by omega) (by omega) (by omega) (by omega), LN_not (by omega) (by omega) (by omega) (by omega), LN_not (by omega) (by omega) (by omega) (by omega), LN_not (by omega) (by omega) (by omega) (by omega)]
    rfl
theorem pin_t {t : TK} {lo hi : Int} : pin t lo hi = true ↔ (tkk t = 3 ∧ lo ≤ tkv t ∧ tkv t ≤ hi) := by unfold pin; rw [decide_eq_true_eq]
theorem nmOk_t {t : TK} : nmOk F t = true ↔ (tkk t = 2 ∧ fnm F (tkv t) < 0) := by unfold nmOk; rw [decide_eq_true_eq]
theorem fldF_at {p ins srt nm lo hi w x : Int} (h : x ≠ 289) (h1 : x ≠ 96 + F 289) (h2 : x ≠ 128 + F 289) (h3 : x ≠ 160 + F 289) : fldF F p ins srt nm lo hi w x = addF F p (F 289) ins srt nm x := by
  unfold fldF
  rw [updI_ne h3, updI_ne h2, updI_ne h1, updI_ne h]
theorem cv_new (cv : CV F LL was old) (G : Int → Int) {node : Int} (h0 : 0 ≤ node) (h1 : node < 32) (hG : ∀ x, 0 ≤ x → x < 32 → x ≠ node → G x = F x) (hG2 : ∀ x, 192 ≤ x → x < 256 → x ≠ 192 + node → x ≠ 224 + node → G x = F x) (hz : G (224 + node) = 0) : CV G LL was old := by
  intro n a c d e
  by_cases q : n = node
  · rw [q, hz]; exact ⟨Int.le_refl _, Or.inl rfl⟩
  · rw [hG n a c q] at d
    rw [hG2 (192 + n) (by omega) (by omega) (by omega) (by omega), hG2 (224 + n) (by omega) (by omega) (by omega) (by omega)]
    exact cv n a c d e
theorem tk6 {g : HP} {b : Int → Int} {n : Int} {c j : Nat} (n0 : 0 ≤ n) (P : CQ g b n c j) {k : Int} (k0 : 0 ≤ k) (k1 : k < 200) : (hI g 448 99 = i32 k) ↔ tkk (tkn b n j) = k := by
  have tv := tk_val (b := b) n0 j
  rw [P.k, i32_eq (by omega) (by omega) (by omega) (by omega)]
theorem cfldT (n0 : 0 ≤ n) (n1 : n ≤ 1200) (P : CP g b n c j S ts) (jc : j ≤ c) (R : RPc g F S LL ts was C0 old z0) (cv : CV F LL was old) (t : TF F) {ins pl srt lo hi : Int} (gk : grok F ins) (PLx : PL F ins pl) (m1 : F 289 < 24) (no : old (F 289) = false) (s0 : 0 ≤ srt) (s1 : srt ≤ 2) : ∃ ok g', cft (i32 (cgr ins)) (i32 (F 289)) (i32 srt) (i32 lo) (i32 hi) g = some (ok, g') ∧ ok = (pfldT (tkn b n) was pl ins srt lo hi j F S LL).1 ∧ ZoC b n c was C0 old z0 g j (pfldT (tkn b n) was pl ins srt lo hi j F S LL) g' := by
  obtain ⟨tr, nms, de, gv⟩ := id t
  have O := tr.ov
  have gv' := gv
  obtain ⟨v1, v2, v3, v4, v5, v6⟩ := gv'
  have h0 : 0 ≤ F 289 := v1
  have h1 : F 289 < 32 := by omega
  have hi32 : (F 289).toNat < 32 := by omega
  have c3 := P.1.2.2.1.1
  have m32 : F 288 < 32 := gv.m (n := 0) (Or.inl m1)
  have tgn : ∀ f : Nat, (63 : Nat) ≠ 63 + 4 + (F 289).toNat := fun _ => by omega
  have t62 : (62 : Nat) ≠ 63 + 4 + (F 289).toNat := by omega
  have t99 : (99 : Nat) ≠ 63 + 4 + (F 289).toNat := by omega
  unfold cft pfldT
  rw [P.1.cs.o_parser, gd_tt]
  obtain ⟨oS1, oS2, oS3⟩ := LF_F0 (l := [448, 449, 450, 451]) (Or.inl rfl)
  obtain ⟨oE1, oE2, oE3⟩ := LF_F0 (l := [192]) (Or.inr rfl)
  have l3 := LN3_LF hi32
  rcases ctakeName n0 n1 P.1 (by omega) (FRb_name R.1 tr.tv O) O tr.op tr.po nms with ⟨a1, a2, g1, e1, e2, e3⟩ | ⟨a1, g1, e1, e2, e3⟩
  rotate_left
  · rw [e1, bn2_s, if_pos rfl, if_neg (fun z => a1 (nmOk_t.mp z))]
    unfold jX3_field_104
    rw [on_nn]
    exact ⟨false, g1, rfl, rfl, ZoC_bad (Nat.le_refl _) (by show Co (j - j) LF g g1; rw [Nat.sub_self]; exact e2.w oE3) rfl e3⟩
  have nv := ((tk_val (b := b) n0 j).2.1 (Or.inl a1)).1
  have P1 := P.mv e2 e3
  have R1 := RPc_co R P.1.cs.sf e2 oS1 oS2
  have j1 := P.1.jn n0 (by show tK b n j ≠ 0; omega)
  obtain ⟨E1, G1⟩ := FRb_tree R1.1 tr.tv O
  obtain ⟨g4, b1, b2, b3, b4, b5, b6⟩ := cadd P1.1.cs.sf E1 G1 tr h0 h1 m32 gk PLx
  rw [e1, bn2_s, if_neg (lft_nz nv), if_pos (nmOk_t.mpr ⟨a1, a2⟩), P1.1.cs.o_parser, gd_tt, P1.1.cs.r_pform, oc_s, P1.1.cs.o_pform, gd_tt, b1, bn2_s]
  have P4 := CP_LN P1 b2 hi32
  have C4 := P4.1.cs
  have ot4 := C4.sf.on hi32
  obtain ⟨g5, e5⟩ : ∃ g5, g5 = sI (sI (sI (sJ (sI g4 3 63 (i32 (F 289 + 1))) 129 (63 + 4 + (F 289).toNat) (i64 (lft (tkv (tkn b n j))))) 130 (63 + 4 + (F 289).toNat) (i32 srt)) 131 (63 + 4 + (F 289).toNat) (i32 lo)) 132 (63 + 4 + (F 289).toNat) (i32 hi) := ⟨_, rfl⟩
  have q45 : Co 0 [1000 + (63 + 1), 5000 + 63, 5000 + (63 + 4 + (F 289).toNat)] g4 g5 := by
    rw [e5]
    exact ((((Co_I (Or.inr (by simp)) _).t (Co_J (Or.inr (by simp)) _)).t (Co_I (Or.inr (by simp)) _)).t (Co_I (Or.inr (by simp)) _)).t (Co_I (Or.inr (by simp)) _)
  have r5 : ∀ f x, hI g5 f x = if f = 132 ∧ x = 63 + 4 + (F 289).toNat then i32 hi else if f = 131 ∧ x = 63 + 4 + (F 289).toNat then i32 lo else if f = 130 ∧ x = 63 + 4 + (F 289).toNat then i32 srt else if f = 3 ∧ x = 63 then i32 (F 289 + 1) else hI g4 f x := fun f x => by rw [e5, rII, rII, rII, rIJ, rII]
  have r5J : hJ g5 129 (63 + 4 + (F 289).toNat) = i64 (lft (tkv (tkn b n j))) := by rw [e5, rJI, rJI, rJI, rJJ, if_pos ⟨rfl, rfl⟩]
  have r5R : hR g5 = hR g4 := by rw [e5, rRI, rRI, rRI, rRJ, rRI]
  have r5A : hA g5 = hA g4 := by rw [e5, rAI, rAI, rAI, rAJ, rAI]
  have P5 := CP_LN P4 q45 hi32
  unfold jX3_field_104
  rw [on_sm, C4.o_parser, gd_tt, C4.r_pform, oc_s, C4.o_pform, gd_tt, i32_add, lt_e, roI, ot4, gd_tt, lt_e, lt_e, lt_e, lt_e, ← e5]
  have f05 : Co 0 LF g g5 := ((e2.w oS3).t (b2.w l3)).t (q45.w l3)
  rcases ctake n0 n1 P5.1 (k := 7) (by omega) (by omega) (by omega) with ⟨c1, g6, e6, f6, k6⟩ | ⟨c1, g6, e6, f6, k6⟩
  rotate_left
  · rw [e6, bn2_s, if_neg (by decide), if_neg c1]
    exact ⟨false, g6, rfl, rfl, ZoC_bad (by show j ≤ j + 1; omega) ((f05.t (f6.w oE3)).up (by omega)) rfl k6⟩
  have P6 := P5.mv f6 k6
  have j2 := P5.1.jn n0 (by omega)
  rw [e6, bn2_s, if_pos rfl, if_pos c1, P6.1.cs.o_parser, gd_tt]
  have f06 := f05.t (f6.w oS3)
  rcases ctakeInt n0 n1 P6.1 (by omega) (lo := 1) (hi := 10) (by omega) (by omega) (by omega) (by omega) with ⟨d1, d2, d3, g7, e7, f7, k7⟩ | ⟨d1, g7, e7, f7, k7⟩
  rotate_left
  · have ot7 : isO g7 (63 + 4 + (F 289).toNat) 2 = true := isO_sk f7.sk (P6.1.cs.sf.on hi32)
    have r0 : hI (sI g7 133 (63 + 4 + (F 289).toNat) (i32 (-1))) 133 (63 + 4 + (F 289).toNat) = i32 (-1) := by rw [rII, if_pos ⟨rfl, rfl⟩]
    rw [e7, bn2_s, ot7, gd_tt, lt_e, r0, if_neg (by decide), if_neg (fun z => d1 (pin_t.mp z))]
    refine ⟨false, _, rfl, rfl, ZoC_bad (by show j ≤ j + 2; omega) ?_ rfl ?_⟩
    · exact ((f06.t (f7.w oE3)).t (Co_I (Or.inr ⟨LF_nd hi32, by decide⟩) _)).up (by omega)
    · rw [rII, if_neg (fun z => t62 z.2)]; exact k7
  have d1 : tkk (tkn b n (j + 2)) = 3 := d1
  have d2 : 1 ≤ tkv (tkn b n (j + 2)) := d2
  have d3 : tkv (tkn b n (j + 2)) ≤ 10 := d3
  have P7 : CP g7 b n c (j + 3) S ts := P6.mv f7 k7
  have j3 := P6.1.jn n0 (by omega)
  have ot7 : isO g7 (63 + 4 + (F 289).toNat) 2 = true := P7.1.cs.sf.on hi32
  obtain ⟨g8, e8⟩ : ∃ g8, g8 = sI g7 133 (63 + 4 + (F 289).toNat) (i32 (tkv (tkn b n (j + 2)))) := ⟨_, rfl⟩
  have q78 : Co 0 [1000 + (63 + 1), 5000 + 63, 5000 + (63 + 4 + (F 289).toNat)] g7 g8 := by rw [e8]; exact Co_I (Or.inr (by simp)) _
  have P8 := CP_LN P7 q78 hi32
  have r133 : hI g8 133 (63 + 4 + (F 289).toNat) = i32 (tkv (tkn b n (j + 2))) := by rw [e8, rII, if_pos ⟨rfl, rfl⟩]
  rw [e7, bn2_s, ot7, gd_tt, lt_e, ← e8, r133, if_pos (by rw [i32_z, i32_le (by omega) (by omega) (by omega) (by omega)]; omega), if_pos (pin_t.mpr ⟨d1, d2, d3⟩), P8.1.cs.o_parser, gd_tt, P8.1.cs.r_tokens, oc_s, P8.1.cs.o_tokens, gd_tt]
  have lS := lsub_LN (i := (F 289).toNat) (l := [448, 449, 450, 451]) (Or.inl rfl)
  have lN := lsub_LN (i := (F 289).toNat) (Or.inr rfl)
  have q18 : Co 0 (LN (F 289).toNat) g1 g8 := ((((b2.w lN).t (q45.w lN)).t (f6.w lS)).t (f7.w lS)).t (q78.w lN)
  have f08 : Co 0 LF g g8 := (f06.t (f7.w oS3)).t (q78.w l3)
  obtain ⟨oT, oN, oM⟩ := okLN hi32
  have nab : F (F 289) = -1 := by
    by_cases z : F (F 289) = -1
    · exact z
    · have := v6 _ h0 h1 z; omega
  have zz : ∀ x : Nat, x < 1008 → x < hsz g5 := fun x hx => by have := P5.1.sz; omega
  -- what is read behind the writes
  have rd : ∀ f x, x < 1008 → [448, 449, 450, 451].contains f = false → (f = 133 → x ≠ 63 + 4 + (F 289).toNat) → hI g8 f x = hI g5 f x := by
    intro f x hx hf h3
    rw [e8, rII, if_neg (fun z => h3 z.1 z.2), f7.I (by have := P6.1.sz; omega) hf (by simp; omega), f6.I (zz x hx) hf (by simp; omega)]
  have rdA : hA g8 64 = hA g4 64 := by
    rw [e8, rAI, f7.A (by have := P6.1.sz; omega) (by decide), f6.A (zz 64 (by omega)) (by decide), r5A]
  have a288 : addF F pl (F 289) ins srt (tkv (tkn b n j)) 288 = F 288 + 1 := addF_288 h0 h1
  obtain ⟨y1, y2, y3⟩ := b6
  have R8 : RPc g8 (fldF F pl ins srt (tkv (tkn b n j)) lo hi (tkv (tkn b n (j + 2)))) S LL ts was C0 old z0 := by
    refine RPc_new R1 P1.1.cs.sf t q18 oT oN h0 h1 nab no gk PLx m32 oM (srt := srt) (nm := tkv (tkn b n j)) (fun x x0 x1 => fldF_at (by omega) (by omega) (by omega) (by omega)) (fun x x0 x1 x2 x3 x4 x5 x6 x7 => ?_) ?_ ?_ ?_ ?_ ?_ ?_ ⟨?_, ?_, ?_, ?_, ?_, ?_⟩ ?_ ?_ ?_
    · rw [fldF_at (by omega) x3 x4 x5, addF_lo PLx.1 h0 h1 x1, if_neg (by omega), if_neg (by omega), if_neg x2, if_neg (by omega)]
    · rw [fldF_at (by omega) (by omega) (by omega) (by omega), addF_lo PLx.1 h0 h1 (by omega), if_neg (by omega), if_neg (by omega), if_neg (by omega), if_pos (by omega)]
    · rw [rd 3 63 (by omega) (by decide) (fun z => by omega)]
      have : fldF F pl ins srt (tkv (tkn b n j)) lo hi (tkv (tkn b n (j + 2))) 289 = F 289 + 1 := by
        unfold fldF; rw [updI_ne (by omega), updI_ne (by omega), updI_ne (by omega), updI_at rfl]
      rw [this, r5, if_neg (by omega), if_neg (by omega), if_neg (by omega), if_pos ⟨rfl, rfl⟩]
    · rw [rd 4 63 (by omega) (by decide) (fun z => by omega)]
      have : fldF F pl ins srt (tkv (tkn b n j)) lo hi (tkv (tkn b n (j + 2))) 290 = F 290 := by
        unfold fldF; rw [updI_ne (by omega), updI_ne (by omega), updI_ne (by omega), updI_ne (by omega), addF_gt h0 h1 PLx.2.1 m32 (by omega)]
      rw [this, r5, if_neg (by omega), if_neg (by omega), if_neg (by omega), if_neg (by omega), b3 4 (by omega)]
      exact R1.1.2.1
    · rw [rd 5 63 (by omega) (by decide) (fun z => by omega), r5, if_neg (by omega), if_neg (by omega), if_neg (by omega), if_neg (by omega)]
      exact b4
    · rw [rdA]; exact b5
    · rw [rd 128 _ (by omega) (by decide) (fun z => by omega), r5, if_neg (by omega), if_neg (by omega), if_neg (by omega), if_neg (by omega)]
      exact y1.1
    · rw [rd 134 _ (by omega) (by decide) (fun z => by omega), r5, fldF_at (by omega) (by omega) (by omega) (by omega), addF_n PLx.1 h0 h1 h1, if_pos rfl, if_neg (by omega), if_neg (by omega), if_neg (by omega), if_neg (by omega)]
      exact y1.2.2.2.2.2.1
    · rw [fldF_at (by omega) (by omega) (by omega) (by omega), addF_lo PLx.1 h0 h1 (by omega), if_neg (by omega), if_pos rfl, e8, rJI, f7.J (by have := P6.1.sz; omega) (by decide) (by simp; omega), f6.J (zz _ (by omega)) (by decide) (by simp; omega), r5J]
    · rw [rd 130 _ (by omega) (by decide) (fun z => by omega), r5, fldF_at (by omega) (by omega) (by omega) (by omega), addF_lo PLx.1 h0 h1 (by omega), if_neg (by omega), if_neg (by omega), if_pos (show 130 = 130 ∧ _ from ⟨rfl, rfl⟩), if_neg (by omega), if_neg (by omega), if_pos rfl]
    · rw [rd 131 _ (by omega) (by decide) (fun z => by omega)]
      have : fldF F pl ins srt (tkv (tkn b n j)) lo hi (tkv (tkn b n (j + 2))) (96 + F 289) = lo := by
        unfold fldF; rw [updI_ne (by omega), updI_ne (by omega), updI_at rfl]
      rw [this, r5, if_neg (by omega), if_pos ⟨rfl, rfl⟩]
    · rw [rd 132 _ (by omega) (by decide) (fun z => by omega)]
      have : fldF F pl ins srt (tkv (tkn b n j)) lo hi (tkv (tkn b n (j + 2))) (128 + F 289) = hi := by
        unfold fldF; rw [updI_ne (by omega), updI_at rfl]
      rw [this, r5, if_pos ⟨rfl, rfl⟩]
    · rw [r133]
      have : fldF F pl ins srt (tkv (tkn b n j)) lo hi (tkv (tkn b n (j + 2))) (160 + F 289) = tkv (tkn b n (j + 2)) := by
        unfold fldF; rw [updI_at rfl]
      rw [this]
    · rw [e8, rRI, f7.R (by have := P6.1.sz; omega) (by decide) (by simp; omega), f6.R (zz _ (by omega)) (by decide) (by simp; omega), r5R]
      exact y3
    · rw [rd 136 _ (by omega) (by decide) (fun z => by omega), r5, if_neg (by omega), if_neg (by omega), if_neg (by omega), if_neg (by omega)]
      exact y1.2.2.2.2.2.2.1
    · rw [rd 137 _ (by omega) (by decide) (fun z => by omega), r5, if_neg (by omega), if_neg (by omega), if_neg (by omega), if_neg (by omega)]
      exact y1.2.2.2.2.2.2.2
  have gnz : fldF F pl ins srt (tkv (tkn b n j)) lo hi (tkv (tkn b n (j + 2))) (224 + F 289) = 0 := by
    rw [fldF_at (by omega) (by omega) (by omega) (by omega), addF_lo PLx.1 h0 h1 (by omega), if_neg (by omega), if_neg (by omega), if_neg (by omega), if_pos (by omega)]
  have cv8 : CV (fldF F pl ins srt (tkv (tkn b n j)) lo hi (tkv (tkn b n (j + 2)))) LL was old := by
    refine cv_new cv _ (node := F 289) h0 h1 (fun x x0 x1 x2 => ?_) (fun x x0 x1 x2 x3 => ?_) gnz
    · rw [fldF_at (by omega) (by omega) (by omega) (by omega), addF_n PLx.1 h0 h1 x1, if_neg x2]
    · rw [fldF_at (by omega) (by omega) (by omega) (by omega), addF_lo PLx.1 h0 h1 x1, if_neg (by omega), if_neg (by omega), if_neg (by omega), if_neg (by omega)]
  have npr : fldF F pl ins srt (tkv (tkn b n j)) lo hi (tkv (tkn b n (j + 2))) (F 289) ≠ -1 := by
    rw [fldF_at (by omega) (by omega) (by omega) (by omega), addF_n PLx.1 h0 h1 h1, if_pos rfl]
    rcases gk with h | ⟨h2, h3, h4⟩ <;> omega
  obtain ⟨w1, w2⟩ := cpe (node := F 289) (k := 59) n0 n1 (by omega) (by omega) P8 (by omega) R8 cv8 h0 h1 npr no gnz
  by_cases tk : tkk (tkn b n (j + 3)) = 6
  · obtain ⟨k1, ok, k2, z1, z2, z3, z4, z5⟩ := w1 tk
    rw [if_pos ((tk6 n0 P8.1 (by omega) (by omega)).mpr tk), z1, bn_s, z2, gd_tt, z3, bn2_s]
    cases ok with
    | true =>
      obtain ⟨u1, ok2, k3, u2, u3, u4⟩ := z4 rfl
      rw [if_pos rfl]
      unfold jX3_field_214
      rw [u1, gd_tt, u2, bn2_s]
      exact ⟨ok2, k3, rfl, u3, ZoC_pre u4 f08 (by omega)⟩
    | false =>
      obtain ⟨u1, u2⟩ := z5 rfl
      rw [if_neg (by decide)]
      exact ⟨false, k2, rfl, u1.symm, ZoC_pre u2 f08 (by omega)⟩
  · obtain ⟨ok2, k3, u2, u3, u4⟩ := w2 tk
    rw [if_neg (fun z => tk ((tk6 n0 P8.1 (by omega) (by omega)).mp z))]
    unfold jX3_field_214
    rw [P8.1.cs.o_parser, gd_tt, u2, bn2_s]
    exact ⟨ok2, k3, rfl, u3, ZoC_pre u4 f08 (by omega)⟩
end

