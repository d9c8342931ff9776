/-! TOKENS OF CONDITIONS -/
theorem nI_or (a b : Nat) : nI a ||| nI b = nI (a ||| b) := by
  apply Int32.toBitVec_inj.1
  show BitVec.ofNat 32 a ||| BitVec.ofNat 32 b = BitVec.ofNat 32 (a ||| b)
  apply BitVec.eq_of_getLsbD_eq
  intro i hi
  simp [hi]
theorem or_small : ∀ s, s < 4 → ∀ f, f < 32 → 8 * s ||| 32 * f = 8 * s + 32 * f := by decide +kernel
section
variable {f s v : Int}
theorem tcd_n (f0 : 0 ≤ f) (s0 : 0 ≤ s) (v0 : 0 ≤ v) : i32 (tcd f s v) = nI (1024 * v.toNat + 32 * f.toNat + 8 * s.toNat) := by
  rw [i32_nI (by unfold tcd; omega)]
  congr 1
  unfold tcd
  omega
theorem tF_c (f0 : 0 ≤ f) (f1 : f < 32) (s0 : 0 ≤ s) (s1 : s ≤ 3) (v0 : 0 ≤ v) (v1 : v ≤ 9999) : tF (i32 (tcd f s v)) = i32 f := by
  unfold tF
  rw [tcd_n f0 s0 v0, pk_shrN (by omega) _ 5 (by decide), pk_andN (by omega) 5 (by decide), i32_nI f0]
  congr 1
  omega
theorem tS_c (f0 : 0 ≤ f) (f1 : f < 32) (s0 : 0 ≤ s) (s1 : s ≤ 3) (v0 : 0 ≤ v) (v1 : v ≤ 9999) : (i32 (tcd f s v) >>> (i32 3 &&& 31)) &&& i32 3 = i32 s := by
  rw [tcd_n f0 s0 v0, pk_shrN (by omega) _ 3 (by decide), pk_andN (by omega) 2 (by decide), i32_nI s0]
  congr 1
  omega
theorem tV_c (f0 : 0 ≤ f) (f1 : f < 32) (s0 : 0 ≤ s) (s1 : s ≤ 3) (v0 : 0 ≤ v) (v1 : v ≤ 9999) : i32 (tcd f s v) >>> (i32 10 &&& 31) = i32 v := by
  rw [tcd_n f0 s0 v0, pk_shrN (by omega) _ 10 (by decide), i32_nI v0]
  congr 1
  omega
theorem sort_c (f0 : 0 ≤ f) (f1 : f < 32) (s0 : 0 ≤ s) (s1 : s ≤ 3) (v0 : 0 ≤ v) (v1 : v ≤ 9999) : i32 (tcd f s v) &&& i32 7 = i32 0 := by
  rw [tcd_n f0 s0 v0, pk_andN (by omega) 3 (by decide), i32_nI (by omega : (0 : Int) ≤ 0)]
  congr 1
  omega
theorem tT_c (f0 : 0 ≤ f) (f1 : f < 32) (s0 : 0 ≤ s) (s1 : s ≤ 3) (v0 : 0 ≤ v) (v1 : v ≤ 9999) : tT (i32 (tcd f s v)) = true := by
  unfold tT
  rw [decide_eq_true_eq]
  exact sort_c f0 f1 s0 s1 v0 v1
/-- a field's number goes into a token -/
theorem tok_or (f0 : 0 ≤ f) (f1 : f < 32) (s0 : 0 ≤ s) (s1 : s ≤ 3) (v0 : 0 ≤ v) (v1 : v ≤ 9999) : i32 (tcd 0 s v) ||| (i32 f <<< (i32 5 &&& 31)) = i32 (tcd f s v) := by
  rw [tcd_n (by omega) s0 v0, tcd_n f0 s0 v0, i32_nI f0, pk_shlN _ 5 (by decide) (by omega), nI_or]
  congr 1
  have e1 : 1024 * v.toNat + 32 * (0 : Int).toNat + 8 * s.toNat = 2 ^ 10 * v.toNat ||| 8 * s.toNat := by
    rw [← Nat.two_pow_add_eq_or_of_lt (by omega)]
    show 1024 * v.toNat + 32 * 0 + _ = 1024 * v.toNat + _
    omega
  have e2 : f.toNat * 2 ^ 5 = 32 * f.toNat := by omega
  rw [e1, e2, Nat.or_assoc, or_small _ (by omega) _ (by omega), ← Nat.two_pow_add_eq_or_of_lt (by omega)]
  omega
end
theorem tT_op {e : Int} (h : 1 ≤ e) (h2 : e ≤ 3) : tT (i32 e) = false := by
  rcases (show e = 1 ∨ e = 2 ∨ e = 3 by omega) with q | q | q <;> rw [q] <;> decide
/-! lists of tokens -/
theorem RlL_bt (L : List Int32) {g : Int} (h : ∀ t ∈ L, tT t = true → ∃ f : Int, 0 ≤ f ∧ f < 24 ∧ tF t = i32 f) (g0 : 0 ≤ g) (g1 : g < 32) : bt (RlL L) g = true ↔ ∃ t ∈ L, tT t = true ∧ tF t = i32 g := by
  have key : ∀ (L : List Int32) (c : Int32), (∀ t ∈ L, tT t = true → ∃ f : Int, 0 ≤ f ∧ f < 24 ∧ tF t = i32 f) → (bt (L.foldl (fun c t => if tT t = true then c ||| (i32 1 <<< (tF t &&& 31)) else c) c) g = true ↔ (bt c g = true ∨ ∃ t ∈ L, tT t = true ∧ tF t = i32 g)) := by
    intro L
    induction L with
    | nil => intro c _; simp
    | cons t L ih =>
      intro c hL
      rw [List.foldl_cons, ih _ (fun u hu => hL u (List.mem_cons_of_mem _ hu))]
      by_cases q : tT t = true
      · obtain ⟨f, f0, f1, ef⟩ := hL t List.mem_cons_self q
        rw [if_pos q, bt_or, Bool.or_eq_true, ef, bt_sh f0 (by omega) g0 g1]
        constructor
        · rintro ((a | a) | ⟨u, u1, u2⟩)
          · exact Or.inl a
          · have : g = f := by simpa using a
            exact Or.inr ⟨t, List.mem_cons_self, q, by rw [ef, this]⟩
          · exact Or.inr ⟨u, List.mem_cons_of_mem _ u1, u2⟩
        · rintro (a | ⟨u, u1, u2, u3⟩)
          · exact Or.inl (Or.inl a)
          · rcases List.mem_cons.mp u1 with e | e
            · subst e
              rw [ef, i32_eq (by omega) (by omega) (by omega) (by omega)] at u3
              exact Or.inl (Or.inr (by rw [u3]; simp))
            · exact Or.inr ⟨u, e, u2, u3⟩
      · rw [if_neg q]
        constructor
        · rintro (a | ⟨u, u1, u2⟩)
          · exact Or.inl a
          · exact Or.inr ⟨u, List.mem_cons_of_mem _ u1, u2⟩
        · rintro (a | ⟨u, u1, u2, u3⟩)
          · exact Or.inl a
          · rcases List.mem_cons.mp u1 with e | e
            · subst e; exact absurd u2 q
            · exact Or.inr ⟨u, e, u2, u3⟩
  unfold RlL
  rw [key L _ h, bt_0]
  simp
/-- a stretch of the pool as a list -/
def sgm (P : Int → Int32) (F : Int → Int) (n : Int) : List Int32 := (List.range (F (224 + n)).toNat).map fun (i : Nat) => P (F (192 + n) + (i : Int))
theorem sgm_Rm (P : Int → Int32) (F : Int → Int) (n : Int) : Rm F P n = RlL (sgm P F n) := by
  have key : ∀ (k : Nat) (i : Nat) (c : Int32), aks P (F (192 + n)) k i c = ((List.range' i k).map fun (i : Nat) => P (F (192 + n) + (i : Int))).foldl (fun c t => if tT t = true then c ||| (i32 1 <<< (tF t &&& 31)) else c) c := by
    intro k
    induction k with
    | zero => intro i c; rfl
    | succ k ih =>
      intro i c
      rw [List.range'_succ, List.map_cons, List.foldl_cons]
      simp only [aks]
      have := ih (i + 1) (if tT (P (F (192 + n) + (i : Int))) = true then c ||| (i32 1 <<< (tF (P (F (192 + n) + (i : Int))) &&& 31)) else c)
      rw [← this]
      rfl
  unfold Rm RlL sgm
  rw [List.range_eq_range']
  exact key _ 0 _
theorem sgm_nT (P : Int → Int32) (F : Int → Int) (n : Int) : nT F P n = tcL (sgm P F n) := by
  have key : ∀ (k : Nat) (i : Nat), cnt (fun q => tT (P (F (192 + n) + q))) k i = ((((List.range' i k).map fun (i : Nat) => P (F (192 + n) + (i : Int))).filter tT).length : Int) := by
    intro k
    induction k with
    | zero => intro i; rfl
    | succ k ih =>
      intro i
      rw [List.range'_succ, List.map_cons]
      simp only [cnt]
      have e := ih (i + 1)
      rw [show ((i + 1 : Nat) : Int) = (i : Int) + 1 by omega] at e
      rw [e]
      by_cases q : tT (P (F (192 + n) + (i : Int))) = true
      · rw [if_pos q, List.filter_cons_of_pos q, List.length_cons]; omega
      · rw [if_neg q, List.filter_cons_of_neg q]; omega
  unfold nT tcL sgm
  rw [List.range_eq_range']
  exact key _ 0
/-! NAMES TURNED INTO FIELDS -/
def addR (R : Int → Int32) (o f : Int) : Int → Int32 := fun n => if n = o then R n ||| sng f else R n
def pnames (F : Int → Int) : List TS → Option Int
  | [] => none
  | x :: S => if 0 ≤ fnm F x.1 ∧ fnm F x.1 < 24 then pnames F S else some x.2.1
def pcirc (F : Int → Int) : List TS → (Int → Int32) → Option Int
  | [], _ => none
  | x :: S, R => if fmk (fin F x.2.2.1) 24 0 (i32 0) &&& rch (NE F R) (fnm F x.1) ≠ i32 0 then some x.2.1 else pcirc F S (addR R x.2.2.1 (fnm F x.1))
def pres (F : Int → Int) (S : List TS) (R : Int → Int32) : Option Int := match pnames F S with
  | some e => some e
  | none => pcirc F S R
def Rfin (F : Int → Int) (S : List TS) (R : Int → Int32) : Int → Int32 := S.foldl (fun R x => addR R x.2.2.1 (fnm F x.1)) R
def rsl (F : Int → Int) (S : List TS) (e : Int) : Int32 := if 4 ≤ e then (match S[(e - 4).toNat]? with
  | some x => i32 (tcd (fnm F x.1) x.2.2.2.1 x.2.2.2.2)
  | none => i32 0) else i32 e
theorem pnames_ok {F : Int → Int} : ∀ (S : List TS), pnames F S = none → ∀ x ∈ S, 0 ≤ fnm F x.1 ∧ fnm F x.1 < 24 := by
  intro S
  induction S with
  | nil => intro _ x hx; cases hx
  | cons y S ih =>
    intro h x hx
    simp only [pnames] at h
    by_cases c : 0 ≤ fnm F y.1 ∧ fnm F y.1 < 24
    · rw [if_pos c] at h
      rcases List.mem_cons.mp hx with e | e
      · rw [e]; exact c
      · exact ih h x e
    · rw [if_neg c] at h; cases h
theorem Rfin_bt {F : Int → Int} {g : Int} (g0 : 0 ≤ g) (g1 : g < 32) : ∀ (S : List TS) (R : Int → Int32) (n : Int), (∀ x ∈ S, 0 ≤ fnm F x.1 ∧ fnm F x.1 < 24) → (bt (Rfin F S R n) g = true ↔ (bt (R n) g = true ∨ ∃ x ∈ S, x.2.2.1 = n ∧ fnm F x.1 = g)) := by
  intro S
  induction S with
  | nil => intro R n _; simp [Rfin]
  | cons y S ih =>
    intro R n h
    have hy := h y List.mem_cons_self
    show bt (Rfin F S (addR R y.2.2.1 (fnm F y.1)) n) g = true ↔ _
    rw [ih _ _ (fun x hx => h x (List.mem_cons_of_mem _ hx))]
    unfold addR
    by_cases q : n = y.2.2.1
    · rw [if_pos q, bt_or, Bool.or_eq_true, sng_bt hy.1 hy.2 g0 g1]
      constructor
      · rintro ((a | a) | ⟨x, x1, x2, x3⟩)
        · exact Or.inl a
        · exact Or.inr ⟨y, List.mem_cons_self, q.symm, by have : g = fnm F y.1 := by simpa using a
                                                          exact this.symm⟩
        · exact Or.inr ⟨x, List.mem_cons_of_mem _ x1, x2, x3⟩
      · rintro (a | ⟨x, x1, x2, x3⟩)
        · exact Or.inl (Or.inl a)
        · rcases List.mem_cons.mp x1 with e | e
          · subst e; exact Or.inl (Or.inr (by rw [x3]; simp))
          · exact Or.inr ⟨x, e, x2, x3⟩
    · rw [if_neg q]
      constructor
      · rintro (a | ⟨x, x1, x2, x3⟩)
        · exact Or.inl a
        · exact Or.inr ⟨x, List.mem_cons_of_mem _ x1, x2, x3⟩
      · rintro (a | ⟨x, x1, x2, x3⟩)
        · exact Or.inl a
        · rcases List.mem_cons.mp x1 with e | e
          · subst e; exact absurd x2.symm q
          · exact Or.inr ⟨x, e, x2, x3⟩
/-! the same condition told by other parts -/
theorem fl_map {α β : Type} (f : α → β) (o : α) : ∀ Q : List (Nat × List α), (fl o Q).map f = fl (f o) (Q.map fun p => (p.1, p.2.map f)) := by
  intro Q
  induction Q with
  | nil => rfl
  | cons p Q ih =>
    have e : fl o (p :: Q) = (p.2 ++ [o]) ++ fl o Q := by simp [fl]
    have e2 : fl (f o) ((p :: Q).map fun p => (p.1, p.2.map f)) = (p.2.map f ++ [f o]) ++ fl (f o) (Q.map fun p => (p.1, p.2.map f)) := by simp [fl]
    rw [e, e2, List.map_append, List.map_append, ih]
    rfl
theorem IsT_map {α β : Type} {h : HP} {lf : Nat → α → Prop} {lf' : Nat → β → Prop} {op : Nat → α} {op' : Nat → β} {f : α → β} (hop : ∀ o, o = 1 ∨ o = 2 ∨ o = 3 → op' o = f (op o)) : ∀ (d lo hi t : Nat) (L : List α), IsT h lf op d lo hi t L → (∀ t e, lo ≤ t → t < hi → e ∈ L → lf t e → lf' t (f e)) → IsT h lf' op' d lo hi t (L.map f) := by
  intro d
  induction d with
  | zero => intro lo hi t L z; cases z
  | succ d ih =>
    intro lo hi t L z hl
    obtain ⟨z1, z2, z3, z4⟩ := z
    refine ⟨z1, z2, z3, ?_⟩
    rcases z4 with ⟨k, e, rfl, h2⟩ | ⟨k, c, L', k1, k2, h3, rfl⟩ | ⟨o, ho, c, L0, Q, k1, h3, k2, h4, rfl⟩
    · exact Or.inl ⟨k, f e, rfl, hl t e z1 z2 List.mem_cons_self h2⟩
    · refine Or.inr (Or.inl ⟨k, c, L'.map f, k1, k2, ih _ _ _ _ h3 (fun t' e a b m l => hl t' e a (by omega) (List.mem_append_left _ m) l), ?_⟩)
      rw [List.map_append, hop 3 (Or.inr (Or.inr rfl))]; rfl
    · refine Or.inr (Or.inr ⟨o, ho, c, L0.map f, Q.map fun p => (p.1, p.2.map f), k1, ih _ _ _ _ h3 (fun t' e a b m l => hl t' e a (by omega) (List.mem_append_left _ m) l), fun z => k2 (List.map_eq_nil_iff.mp z), ?_, ?_⟩)
      · have ch : ∀ (Q : List (Nat × List α)) (lo' : Nat) (r : Option Nat), t < lo' → (∀ p ∈ Q, ∀ e ∈ p.2, e ∈ L0 ++ fl (op o) Q ∨ ∃ Q', e ∈ fl (op o) Q') → (∀ t e, lo ≤ t → t < hi → (∃ p ∈ Q, e ∈ p.2) → lf t e → lf' t (f e)) → Chn h (IsT h lf op d) hi lo' r Q → Chn h (IsT h lf' op' d) hi lo' r (Q.map fun p => (p.1, p.2.map f)) := by
          intro Q
          induction Q with
          | nil => intro lo' r _ _ _ c; exact c
          | cons p Q ihQ =>
            intro lo' r hlo _ hq c
            obtain ⟨l, m, c0, c1, c2, c3, c4, c5, c6⟩ := c
            refine ⟨l, m, c0, c1, c2, c3, c4, ih _ _ _ _ c5 (fun t' e a b mm l2 => hq t' e (by omega) (by omega) ⟨p, List.mem_cons_self, mm⟩ l2), ?_⟩
            exact ihQ m _ (by omega) (fun p' hp' e he => Or.inr ⟨[p'], by simp [fl, he]⟩) (fun t' e a b ⟨p', q1, q2⟩ l2 => hq t' e a b ⟨p', List.mem_cons_of_mem _ q1, q2⟩ l2) c6
        refine ch Q (t + 1) _ (by omega) (fun p hp e he => Or.inr ⟨[p], by simp [fl, he]⟩) (fun t' e a b ⟨p, q1, q2⟩ l2 => hl t' e a b (List.mem_append_right _ ?_) l2) h4
        unfold fl
        rw [List.mem_flatten]
        exact ⟨p.2 ++ [op o], List.mem_map.mpr ⟨p, q1, rfl⟩, List.mem_append_left _ q2⟩
      · rw [List.map_append, fl_map, hop o (by omega)]
