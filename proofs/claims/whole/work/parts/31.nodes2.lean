/-! NODES AS THE GRAMMAR READS THEM -/
/-- right?, the token behind (or the wrong one), the form, the tests, the parts of conditions -/
abbrev ZR : Type := Bool × Nat × (Int → Int) × List TS × List Int
def pin (t : TK) (lo hi : Int) : Bool := decide (tkk t = 3 ∧ lo ≤ tkv t ∧ tkv t ≤ hi)
def setc (F : Int → Int) (node fr sz : Int) : Int → Int := updI (updI F (192 + node) fr) (224 + node) sz
section
variable (T : Nat → TK) (was : Nat)
def pif (node : Int) (j : Nat) (F : Int → Int) (S : List TS) (LL : List Int) : ZR :=
  if tkk (T j) = 6 then
    (match (pcond T node (j + 1) S).1 with
      | true => (true, (pcond T node (j + 1) S).2.1, setc F node (was + LL.length) (pcond T node (j + 1) S).2.2.2.length, (pcond T node (j + 1) S).2.2.1, LL ++ (pcond T node (j + 1) S).2.2.2)
      | false => (false, (pcond T node (j + 1) S).2.1, F, S, LL))
  else (true, j, F, S, LL)
/-- a piece, and a token behind it -/
def pend (k : Int) (z : ZR) : ZR := if z.1 = true then (if tkk (T z.2.1) = k then (true, z.2.1 + 1, z.2.2) else (false, z.2.1, z.2.2)) else z
/-- the numbers of a kind: right?, the token behind, lowest, highest -/
def pnum (srt : Int) (j : Nat) : Bool × Nat × Int × Int :=
  if srt = 0 then
    (if pin (T j) 0 9999 = true then (if pin (T (j + 1)) (tkv (T j)) 9999 = true then (true, j + 2, tkv (T j), tkv (T (j + 1))) else (false, j + 1, 0, 0)) else (false, j, 0, 0))
  else if srt = 1 then (if pin (T j) 2 9 = true then (true, j + 1, 0, tkv (T j) - 1) else (false, j, 0, 0))
  else (true, j, 0, 1)
def fldF (F : Int → Int) (p ins srt nm lo hi w : Int) : Int → Int := updI (updI (updI (updI (addF F p (F 289) ins srt nm) 289 (F 289 + 1)) (96 + F 289) lo) (128 + F 289) hi) (160 + F 289) w
def grpF (F : Int → Int) (p ins nm : Int) : Int → Int := updI (addF F p (24 + F 290) ins 3 nm) 290 (F 290 + 1)
def nmOk (F : Int → Int) (t : TK) : Bool := decide (tkk t = 2 ∧ fnm F (tkv t) < 0)
def pfldT (p ins srt lo hi : Int) (j : Nat) (F : Int → Int) (S : List TS) (LL : List Int) : ZR :=
  if nmOk F (T j) = true then
    (if tkk (T (j + 1)) = 7 then
      (if pin (T (j + 2)) 1 10 = true then pend T 59 (pif T was (F 289) (j + 3) (fldF F p ins srt (tkv (T j)) lo hi (tkv (T (j + 2)))) S LL) else (false, j + 2, F, S, LL))
    else (false, j + 1, F, S, LL))
  else (false, j, F, S, LL)
def pfld (p ins : Int) (j : Nat) (F : Int → Int) (S : List TS) (LL : List Int) : ZR :=
  if F 289 < 24 then
    (match (pnum T (tkk (T j) - 8) (j + 1)).1 with
      | true => pfldT T was p ins (tkk (T j) - 8) (pnum T (tkk (T j) - 8) (j + 1)).2.2.1 (pnum T (tkk (T j) - 8) (j + 1)).2.2.2 (pnum T (tkk (T j) - 8) (j + 1)).2.1 F S LL
      | false => (false, (pnum T (tkk (T j) - 8) (j + 1)).2.1, F, S, LL))
  else (false, j, F, S, LL)
def pgrp (p ins : Int) (j : Nat) (F : Int → Int) (S : List TS) (LL : List Int) : ZR :=
  if F 290 < 8 ∧ (ins < 0 ∨ dpt F 8 ins < 4) then
    (if nmOk F (T (j + 1)) = true then pend T 123 (pif T was (24 + F 290) (j + 2) (grpF F p ins (tkv (T (j + 1)))) S LL) else (false, j + 1, F, S, LL))
  else (false, j, F, S, LL)
def pnod : Nat → Int → Int → Nat → Nat → (Int → Int) → List TS → List Int → ZR
  | 0, _, _, _, j, F, S, LL => (false, j, F, S, LL)
  | k + 1, p, ins, op, j, F, S, LL =>
    if 8 ≤ tkk (T j) ∧ tkk (T j) ≤ 10 then
      (match (pfld T was p ins j F S LL).1 with
        | true => pnod k (p + 1) ins op (pfld T was p ins j F S LL).2.1 (pfld T was p ins j F S LL).2.2.1 (pfld T was p ins j F S LL).2.2.2.1 (pfld T was p ins j F S LL).2.2.2.2
        | false => pfld T was p ins j F S LL)
    else if tkk (T j) = 5 then
      (match (pgrp T was p ins j F S LL).1 with
        | true => pnod k (p + 1) (24 + F 290) (op + 1) (pgrp T was p ins j F S LL).2.1 (pgrp T was p ins j F S LL).2.2.1 (pgrp T was p ins j F S LL).2.2.2.1 (pgrp T was p ins j F S LL).2.2.2.2
        | false => pgrp T was p ins j F S LL)
    else if tkk (T j) = 125 ∧ op ≠ 0 then pnod k p (F ins) (op - 1) (j + 1) F S LL
    else (decide (tkk (T j) = 0 ∧ op = 0), j, F, S, LL)
end
/-! WHAT HOLDS OF A FORM WHILE IT IS READ -/
/-- depth, numbers given -/
def DE (F : Int → Int) : Prop := ∀ n, 0 ≤ n → n < 32 → F n ≠ -1 → ends F 4 (F n) ∧ (24 ≤ n → ends F 3 (F n))
def GV (F : Int → Int) : Prop := 0 ≤ F 289 ∧ F 289 ≤ 24 ∧ 0 ≤ F 290 ∧ F 290 ≤ 8 ∧ F 288 ≤ F 289 + F 290 ∧ ∀ n, 0 ≤ n → n < 32 → F n ≠ -1 → (n < 24 → n < F 289) ∧ (24 ≤ n → n - 24 < F 290)
/-- the kind of a node, its numbers -/
def kdOk (F : Int → Int) (n : Int) : Prop := (n < 24 → ((F (64 + n) = 0 ∧ 0 ≤ F (96 + n) ∧ F (96 + n) ≤ F (128 + n) ∧ F (128 + n) ≤ 9999) ∨ (F (64 + n) = 1 ∧ F (96 + n) = 0 ∧ 1 ≤ F (128 + n) ∧ F (128 + n) ≤ 8) ∨ (F (64 + n) = 2 ∧ F (96 + n) = 0 ∧ F (128 + n) = 1)) ∧ 1 ≤ F (160 + n) ∧ F (160 + n) ≤ 10) ∧ (24 ≤ n → F (64 + n) = 3 ∧ F (96 + n) = 0 ∧ F (128 + n) = 0 ∧ F (160 + n) = 0)
def KD (F : Int → Int) : Prop := ∀ n, 0 ≤ n → n < 32 → F n ≠ -1 → kdOk F n
/-- the tree, names, depth, numbers given -/
def TF (F : Int → Int) : Prop := TR F ∧ NMs F ∧ DE F ∧ GV F
def PLs (F : Int → Int) (op : Nat) (ins p : Int) : Prop := ∀ i, i ≤ op → PL F (up F i ins) p
theorem ends_dpt {F : Int → Int} : ∀ (m k : Nat) (g : Int), ends F m g → dpt F m g ≤ k → ends F k g := by
  intro m
  induction m with
  | zero =>
    intro k g h _
    cases k with
    | zero => exact h
    | succ k => exact Or.inl h
  | succ m ih =>
    intro k g h d
    simp only [dpt] at d
    by_cases c : 0 ≤ g
    · rw [if_pos c] at d
      have r := dpt_rng F m (F g)
      cases k with
      | zero => omega
      | succ k =>
        rcases h with h | h
        · exact Or.inl h
        · exact Or.inr (ih k _ h (by omega))
    · cases k with
      | zero => show g < 0; omega
      | succ k => exact Or.inl (by omega)
section
variable {F : Int → Int} {p ins srt nm : Int}
theorem fnm_none (O : OV F) (h : fnm F nm < 0) (t : TR F) : ∀ n, 0 ≤ n → n < 32 → F n ≠ -1 → F (32 + n) ≠ nm := by
  intro n h0 h1 h2 e
  obtain ⟨i, i0, i1, x⟩ := t.po n h0 h1 h2
  rcases fnm_spec (w := nm) O with ⟨_, b⟩ | ⟨q, q0, q1, a, _⟩
  · exact b i i0 i1 (by rw [x]; exact e)
  · have := O.2.2 q q0 q1; omega
theorem GV.m {n : Int} (g : GV F) (h : F 289 < 24 ∨ F 290 < 8) : F 288 < 32 := by
  obtain ⟨a, b, c, d, e, _⟩ := g; omega
/-- a node more: tree, names, depth, numbers -/
theorem TF_add (t : TF F) (G : Int → Int) {node : Int} (hn : (node = F 289 ∧ F 289 < 24 ∧ G 289 = F 289 + 1 ∧ G 290 = F 290) ∨ (node = 24 + F 290 ∧ F 290 < 8 ∧ G 290 = F 290 + 1 ∧ G 289 = F 289 ∧ ends F 3 ins)) (gk : grok F ins) (P : PL F ins p) (v : NV nm) (fr : fnm F nm < 0)
    (e : ∀ k, 0 ≤ k → k ≤ 288 → (k < 64 ∨ 256 ≤ k) → G k = addF F p node ins srt nm k) : TF G ∧ F node = -1 := by
  obtain ⟨tr, nn, de, gv⟩ := t
  have m1 : F 288 < 32 := gv.m (F := F) (n := 0) (by omega)
  obtain ⟨v1, v2, v3, v4, v5, v6⟩ := gv
  have n0 : 0 ≤ node := by omega
  have n1 : node < 32 := by omega
  have nab : F node = -1 := by
    by_cases c : F node = -1
    · exact c
    · have := v6 node n0 n1 c; omega
  have T := tr.tv
  have ge4 : ends F 4 ins := by
    rcases gk with h | ⟨h1, h2, h3⟩
    · exact Or.inl (by omega)
    · exact Or.inr ((de ins (by omega) h2 h3).2 h1)
  have t1 := TR_add (p := p) (srt := srt) (nm := nm) tr n0 n1 nab gk (ends_mono ge4 (by omega)) P m1
  have p0 := P.1
  have p1 := P.2.1
  have old0 := addF_old (p := p) (grp := ins) (srt := srt) (nm := nm) tr p0 n0 n1 nab
  have old : ∀ n, 0 ≤ n → n < 32 → F n ≠ -1 → G n = F n := fun n a b c => (e n a (by omega) (by omega)).trans (old0 n a b c)
  have gno : G node = ins := by rw [e node n0 (by omega) (by omega), addF_n p0 n0 n1 n1, if_pos rfl]
  have gat : ∀ n, 0 ≤ n → n < 32 → G n ≠ -1 → n = node ∨ (n ≠ node ∧ F n ≠ -1) := by
    intro n a b c
    by_cases d : n = node
    · exact Or.inl d
    · rw [e n a (by omega) (by omega), addF_n p0 n0 n1 b, if_neg d] at c
      exact Or.inr ⟨d, c⟩
  have gnm : ∀ n, 0 ≤ n → n < 32 → G (32 + n) = if n = node then nm else F (32 + n) := by
    intro n a b
    rw [e (32 + n) (by omega) (by omega) (by omega), addF_lo p0 n0 n1 (by omega), if_neg (by omega)]
    by_cases c : n = node
    · rw [if_pos (by omega), if_pos c]
    · rw [if_neg (by omega), if_neg (by omega), if_neg (by omega), if_neg c]
  have E : EqT G (addF F p node ins srt nm) := ⟨fun n a b => e n a (by omega) (by omega), e 288 (by omega) (by omega) (by omega), fun i i0 i1 => by
    have := t1.ov.2.1
    exact e (256 + i) (by omega) (by omega) (by omega)⟩
  have t2 : TR G := by
    have V := t1.av
    refine ⟨EqT_OV E t1.ov, EqT_OP E t1.ov t1.op, fun n a b c => ?_, fun i j i0 i1 j0 j1 x => ?_, EqT_TV E t1.tv, EqT_CE E V t1.ce, fun q q0 q1 => ?_⟩
    · rw [E.1 n a b] at c
      obtain ⟨i, i0, i1, x⟩ := t1.po n a b c
      exact ⟨i, i0, by rw [E.2.1]; exact i1, by rw [E.2.2 i i0 i1]; exact x⟩
    · rw [E.2.1] at i1 j1
      rw [E.2.2 i i0 i1, E.2.2 j j0 j1] at x
      exact t1.dd i j i0 i1 j0 j1 x
    · rw [E.2.1] at q1
      have o := t1.ov.2.2 q q0 q1
      rw [E.2.2 q q0 q1, E.1 _ o.1 o.2]
      rcases t1.pre q q0 q1 with h | ⟨h, k⟩
      · exact Or.inl h
      · refine Or.inr ⟨h, ?_⟩
        rw [E.2.2 (q - 1) (by omega) (by omega)]
        have o' := t1.ov.2.2 (q - 1) (by omega) (by omega)
        exact (inch_congr t1.tv (fun n a b _ => E.1 n a b) (Or.inr ⟨o'.1, o'.2, t1.op (q - 1) (by omega) (by omega)⟩)).mpr k
  have g288 : G 288 = F 288 + 1 := by rw [E.2.1, addF_288 n0 n1]
  have nofr := fnm_none tr.ov fr tr
  refine ⟨⟨t2, ⟨fun n a b c => ?_, fun n m a b a' b' c c' x => ?_⟩, fun n a b c => ?_, ?_⟩, nab⟩
  · rw [gnm n a b]
    rcases gat n a b c with d | ⟨d, d2⟩
    · rw [if_pos d]; exact v
    · rw [if_neg d]; exact nn.1 n a b d2
  · rw [gnm n a b, gnm m a' b'] at x
    rcases gat n a b c with d | ⟨d, d2⟩ <;> rcases gat m a' b' c' with f | ⟨f, f2⟩
    · rw [d, f]
    · rw [if_pos d, if_neg f] at x
      exact absurd x.symm (nofr m a' b' f2)
    · rw [if_neg d, if_pos f] at x
      exact absurd x (nofr n a b d2)
    · rw [if_neg d, if_neg f] at x
      exact nn.2 n m a b a' b' d2 f2 x
  · rcases gat n a b c with d | ⟨d, d2⟩
    · rw [d, gno]
      refine ⟨ends_congr T old 4 ins (grok_thr gk) ge4, fun h => ?_⟩
      rcases hn with h' | ⟨_, _, _, _, h3⟩
      · omega
      · exact ends_congr T old 3 ins (grok_thr gk) h3
    · rw [old n a b d2]
      have th := thr_par T a b d2
      exact ⟨ends_congr T old 4 _ th (de n a b d2).1, fun h => ends_congr T old 3 _ th ((de n a b d2).2 h)⟩
  · refine ⟨by omega, by omega, by omega, by omega, by omega, fun n a b c => ?_⟩
    rcases gat n a b c with d | ⟨d, d2⟩
    · omega
    · have := v6 n a b d2; omega
/-- the places behind the groups that are open -/
theorem PLs_add (t : TF F) (G : Int → Int) {node : Int} {op : Nat} (n0 : 0 ≤ node) (n1 : node < 32) (nab : F node = -1) (m1 : F 288 < 32) (gk : grok F ins) (P : PLs F op ins p) (e : ∀ k, 0 ≤ k → k ≤ 288 → (k < 64 ∨ 256 ≤ k) → G k = addF F p node ins srt nm k) : PLs G op ins (p + 1) ∧ (24 ≤ node → PLs G (op + 1) node (p + 1)) := by
  obtain ⟨tr, -⟩ := t
  have T := tr.tv
  have P0 := P 0 (by omega)
  have p0 := P0.1
  have p1 := P0.2.1
  have old0 := addF_old (p := p) (grp := ins) (srt := srt) (nm := nm) tr p0 n0 n1 nab
  have old : ∀ n, 0 ≤ n → n < 32 → F n ≠ -1 → G n = F n := fun n a b c => (e n a (by omega) (by omega)).trans (old0 n a b c)
  have gk' : ∀ i, grok F (up F i ins) := by
    intro i
    rcases up_val T i ins (grok_thr gk) with h | h | h
    · rw [h]; exact gk
    · exact Or.inl h
    · exact Or.inr h
  have mv : ∀ c, PL (addF F p node ins srt nm) c (p + 1) → (c = -2 ∨ thr F c ∨ c = node) → PL G c (p + 1) := by
    intro c h _
    obtain ⟨h0, h1, h2, h3⟩ := h
    have e288 : G 288 = addF F p node ins srt nm 288 := e 288 (by omega) (by omega) (by omega)
    have l288 := addF_288 (F := F) (p := p) (node := node) (grp := ins) (srt := srt) (nm := nm) n0 n1
    have inG : ∀ n, (thr F n ∨ n = node) → ∀ c, inch G n c ↔ inch (addF F p node ins srt nm) n c := by
      intro n hn c
      rcases hn with hn | hn
      · rw [inch_congr T old hn, inch_congr T old0 hn]
      · have q1 : G node = ins := by rw [e node n0 (by omega) (by omega), addF_n p0 n0 n1 n1, if_pos rfl]
        have q2 : addF F p node ins srt nm node = ins := by rw [addF_n p0 n0 n1 n1, if_pos rfl]
        have st : ∀ H : Int → Int, H node = ins → (inch H node c ↔ (node = c ∨ inch H ins c)) := by
          intro H hH
          constructor
          · intro x
            have := inch_step x n0
            rwa [hH] at this
          · rintro (x | x)
            · rw [x]; exact inch_rfl
            · have y := inch_par (F := H) n0
              rw [hH] at y
              exact inch_tr y x
        rw [hn, st G q1, st _ q2, inch_congr T old (grok_thr gk), inch_congr T old0 (grok_thr gk)]
    have ov : ∀ i, 0 ≤ i → i < F 288 + 1 → (thr F (addF F p node ins srt nm (256 + i)) ∨ addF F p node ins srt nm (256 + i) = node) ∧ G (256 + i) = addF F p node ins srt nm (256 + i) := by
      intro i i0 i1
      refine ⟨?_, e (256 + i) (by omega) (by omega) (by omega)⟩
      by_cases c1 : i < p
      · rw [addF_o1 n0 n1 m1 p1 i0 c1]
        have o := tr.ov.2.2 i i0 (by omega)
        exact Or.inl (Or.inr ⟨o.1, o.2, tr.op i i0 (by omega)⟩)
      · by_cases c2 : i = p
        · rw [c2, addF_o2 n0 n1 m1 p0 p1]; exact Or.inr rfl
        · rw [addF_o3 n0 n1 m1 p0 (by omega) (by omega)]
          have o := tr.ov.2.2 (i - 1) (by omega) (by omega)
          exact Or.inl (Or.inr ⟨o.1, o.2, tr.op (i - 1) (by omega) (by omega)⟩)
    refine ⟨h0, by rw [e288]; exact h1, fun z => by rw [e288]; exact h2 z, fun z => ?_⟩
    obtain ⟨a1, a2, a3⟩ := h3 z
    refine ⟨a1, ?_, fun l => ?_⟩
    · obtain ⟨u1, u2⟩ := ov (p + 1 - 1) (by omega) (by omega)
      rw [u2]; exact (inG _ u1 _).mpr a2
    · rw [e288] at l
      obtain ⟨u1, u2⟩ := ov (p + 1) (by omega) (by omega)
      rw [u2]; exact fun x => a3 l ((inG _ u1 _).mp x)
  have A : PLs G op ins (p + 1) := by
    intro i hi
    have u := up_congr T old i ins (grok_thr gk)
    rw [u.1]
    refine mv _ (PL_add tr n0 n1 nab gk m1 (gk' i) ⟨i, rfl⟩ (P i hi)) (Or.inr (Or.inl u.2))
  refine ⟨A, fun h24 i hi => ?_⟩
  cases i with
  | zero => exact mv node (PL_new tr h24 n1 nab m1 p0 p1) (Or.inr (Or.inr rfl))
  | succ i =>
    show PL G (if 0 ≤ node then up G i (G node) else node) (p + 1)
    rw [if_pos n0, e node n0 (by omega) (by omega), addF_n p0 n0 n1 n1, if_pos rfl]
    exact A i (by omega)
end
/-! THE TESTS OF A CONDITION, one by one -/
def ist (e : Int) : Bool := decide (4 ≤ e)
def idx (s m : Nat) : List Int := (List.range m).map fun k => 4 + ((s + k : Nat) : Int)
theorem idx_0 (s : Nat) : idx s 0 = [] := rfl
theorem idx_1 (s : Nat) : idx s 1 = [4 + (s : Int)] := rfl
theorem idx_app (s : Nat) : ∀ m m' : Nat, idx s m ++ idx (s + m) m' = idx s (m + m') := by
  intro m m'
  unfold idx
  rw [List.range_add, List.map_append, List.map_map]
  congr 1
  refine List.map_congr_left fun k _ => ?_
  show _ = 4 + ((s + (m + k) : Nat) : Int)
  rw [Nat.add_assoc]
theorem idx_len (s m : Nat) : (idx s m).length = m := by simp [idx]
theorem idx_mem {s m : Nat} {e : Int} : e ∈ idx s m ↔ ∃ k : Nat, s ≤ k ∧ k < s + m ∧ e = 4 + (k : Int) := by
  unfold idx
  rw [List.mem_map]
  constructor
  · rintro ⟨k, h, rfl⟩
    exact ⟨s + k, by omega, by have := List.mem_range.mp h; omega, rfl⟩
  · rintro ⟨k, h1, h2, rfl⟩
    exact ⟨k - s, List.mem_range.mpr (by omega), by rw [show s + (k - s) = k by omega]⟩
/-- a test that was read well -/
def tsOk (n ow : Int) (x : TS) : Prop := NV x.1 ∧ 0 ≤ x.2.1 ∧ x.2.1 ≤ n ∧ x.2.2.1 = ow ∧ 0 ≤ x.2.2.2.1 ∧ x.2.2.2.1 ≤ 3 ∧ 0 ≤ x.2.2.2.2 ∧ x.2.2.2.2 ≤ 9999
/-- a piece puts its tests behind, one after the other -/
def TP (n ow : Int) (S : List TS) (P : PR) : Prop := P.1 = true → ∃ S2, P.2.2.1 = S ++ S2 ∧ P.2.2.2.filter ist = idx S.length S2.length ∧ ∀ x ∈ S2, tsOk n ow x
theorem sg_rng (k : Int) : 0 ≤ sg k ∧ sg k ≤ 3 := by
  unfold sg
  by_cases a : k = 61
  · rw [if_pos a]; omega
  · rw [if_neg a]
    by_cases c : k = 60
    · rw [if_pos c]; omega
    · rw [if_neg c]
      by_cases d : k = 62
      · rw [if_pos d]; omega
      · rw [if_neg d]; omega
section
variable {b : Int → Int} {n : Int}
theorem tp_name (n0 : 0 ≤ n) {ow : Int} {j : Nat} (S : List TS) (h : tK b n j = 2) : TP n ow S (pname (tkn b n) ow j S) := by
  have nv := ((tk_val (b := b) n0 j).2.1 (Or.inl h)).1
  have st := tS_n (b := b) n0 j
  have st1 : 0 ≤ tks (tkn b n j) := st.1
  have st2 : tks (tkn b n j) ≤ n := st.2
  unfold TP pname
  by_cases c0 : sg (tkk (tkn b n (j + 1))) = 0
  · rw [if_pos c0]
    intro _
    refine ⟨_, rfl, ?_, fun x hx => ?_⟩
    · have l : ist (4 + (S.length : Int)) = true := by unfold ist; rw [decide_eq_true_eq]; omega
      show List.filter ist [4 + (S.length : Int)] = idx S.length 1
      rw [List.filter_cons_of_pos l, List.filter_nil, idx_1]
    · rw [List.mem_singleton] at hx
      rw [hx]
      exact ⟨nv, st1, st2, rfl, by show (0 : Int) ≤ 0; omega, by show (0 : Int) ≤ 3; omega, by show (0 : Int) ≤ 0; omega, by show (0 : Int) ≤ 9999; omega⟩
  · rw [if_neg c0]
    by_cases c1 : tkk (tkn b n (j + 2)) = 3
    · rw [if_pos c1]
      intro _
      have v := (tk_val (b := b) n0 (j + 2)).1 c1
      have s := sg_rng (tkk (tkn b n (j + 1)))
      refine ⟨_, rfl, ?_, fun x hx => ?_⟩
      · have l : ist (4 + (S.length : Int)) = true := by unfold ist; rw [decide_eq_true_eq]; omega
        show List.filter ist [4 + (S.length : Int)] = idx S.length 1
        rw [List.filter_cons_of_pos l, List.filter_nil, idx_1]
      · rw [List.mem_singleton] at hx
        rw [hx]
        exact ⟨nv, st1, st2, rfl, s.1, s.2, v.1, v.2⟩
    · rw [if_neg c1]
      intro z; cases z
theorem flt_op {op : Int} (h : op < 4) (L : List Int) : (L ++ [op]).filter ist = L.filter ist := by
  have l : ¬ ist op = true := by unfold ist; rw [decide_eq_true_eq]; omega
  rw [List.filter_append, List.filter_cons_of_neg l, List.filter_nil, List.append_nil]
theorem tp_tail {ow : Int} {pt : Nat → List TS → PR} {w op : Int} (hop : op < 4) (hp : ∀ j S, TP n ow S (pt j S)) {S0 : List TS} : ∀ (k j : Nat) (S : List TS) (L : List Int), TP n ow S0 (true, j, S, L) → TP n ow S0 (ptail (tkn b n) pt w op k j S L) := by
  intro k
  induction k with
  | zero => intro j S L a; exact a
  | succ k ih =>
    intro j S L a
    simp only [ptail]
    by_cases c : tkk (tkn b n j) = w
    · rw [if_pos c]
      cases ok : (pt (j + 1) S).1 with
      | false => intro z; cases z
      | true =>
        apply ih
        obtain ⟨S2, a1, a2, a3⟩ := a rfl
        obtain ⟨S3, q1, q2, q3⟩ := hp (j + 1) S ok
        simp only at a1 a2
        intro _
        refine ⟨S2 ++ S3, ?_, ?_, fun x hx => ?_⟩
        · show (pt (j + 1) S).2.2.1 = S0 ++ (S2 ++ S3)
          rw [q1, a1, List.append_assoc]
        · show List.filter ist (L ++ ((pt (j + 1) S).2.2.2 ++ [op])) = _
          rw [List.filter_append, flt_op hop, a2, q2, List.length_append, a1, List.length_append, idx_app]
        · rcases List.mem_append.mp hx with h | h
          · exact a3 x h
          · exact q3 x h
    · rw [if_neg c]; exact a
theorem tp_ch {ow : Int} {pt : Nat → List TS → PR} {w op : Int} (hop : op < 4) (hp : ∀ j S, TP n ow S (pt j S)) : ∀ j S, TP n ow S (pch (tkn b n) pt w op j S) := by
  intro j S
  unfold pch
  cases ok : (pt j S).1 with
  | false => intro z; cases z
  | true => exact tp_tail hop hp 1200 _ _ _ (fun _ => hp j S ok)
theorem tp_test (n0 : 0 ≤ n) {ow : Int} : ∀ (q j : Nat) (S : List TS), TP n ow S (ptest (tkn b n) ow q j S) := by
  intro q
  induction q with
  | zero =>
    intro j S
    unfold ptest
    by_cases c : tkk (tkn b n j) = 2
    · rw [if_pos c]; exact tp_name n0 S c
    · rw [if_neg c]; intro z; cases z
  | succ q ih =>
    intro j S
    unfold ptest
    by_cases c : tkk (tkn b n j) = 2
    · rw [if_pos c]; exact tp_name n0 S c
    rw [if_neg c]
    by_cases c2 : tkk (tkn b n j) = 13
    · rw [if_pos c2]
      cases ok : (ptest (tkn b n) ow q (j + 1) S).1 with
      | false => intro z; cases z
      | true =>
        obtain ⟨S2, q1, q2, q3⟩ := ih (j + 1) S ok
        intro _
        exact ⟨S2, q1, by rw [flt_op (by omega)]; exact q2, q3⟩
    rw [if_neg c2]
    by_cases c3 : tkk (tkn b n j) = 40
    · rw [if_pos c3]
      have hd : ∀ j S, TP n ow S (pdis (tkn b n) (ptest (tkn b n) ow q) j S) := tp_ch (by omega) (tp_ch (by omega) ih)
      cases ok : (pdis (tkn b n) (ptest (tkn b n) ow q) (j + 1) S).1 with
      | false => intro z; cases z
      | true =>
        obtain ⟨S2, q1, q2, q3⟩ := hd (j + 1) S ok
        show TP n ow S (if tkk (tkn b n (pdis (tkn b n) (ptest (tkn b n) ow q) (j + 1) S).2.1) = 41 then _ else _)
        by_cases c4 : tkk (tkn b n (pdis (tkn b n) (ptest (tkn b n) ow q) (j + 1) S).2.1) = 41
        · rw [if_pos c4]
          intro _
          exact ⟨S2, q1, q2, q3⟩
        · rw [if_neg c4]; intro z; cases z
    · rw [if_neg c3]; intro z; cases z
theorem tp_cond (n0 : 0 ≤ n) {ow : Int} (j : Nat) (S : List TS) : TP n ow S (pcond (tkn b n) ow j S) := tp_ch (by omega) (tp_ch (by omega) (tp_test n0 6)) j S
end
/-! leaves stand in rising order -/
def F2 {α : Type} (lf : Nat → α → Prop) : List Nat → List α → Prop
  | [], [] => True
  | a :: A, e :: E => lf a e ∧ F2 lf A E
  | _, _ => False
theorem F2_app {α : Type} {lf : Nat → α → Prop} : ∀ (A B : List Nat) (E D : List α), F2 lf A E → F2 lf B D → F2 lf (A ++ B) (E ++ D) := by
  intro A
  induction A with
  | nil =>
    intro B E D h k
    cases E with
    | nil => exact k
    | cons e E => cases h
  | cons a A ih =>
    intro B E D h k
    cases E with
    | nil => cases h
    | cons e E => exact ⟨h.1, ih B E D h.2 k⟩
theorem F2_get {α : Type} {lf : Nat → α → Prop} : ∀ (A : List Nat) (E : List α), F2 lf A E → A.length = E.length ∧ ∀ (i : Nat) (a : Nat) (e : α), A[i]? = some a → E[i]? = some e → lf a e := by
  intro A
  induction A with
  | nil =>
    intro E h
    cases E with
    | nil => exact ⟨rfl, fun i a e h => by cases h⟩
    | cons e E => cases h
  | cons a A ih =>
    intro E h
    cases E with
    | nil => cases h
    | cons e E =>
      obtain ⟨l, r⟩ := ih E h.2
      refine ⟨by rw [List.length_cons, List.length_cons, l], fun i x y hx hy => ?_⟩
      cases i with
      | zero =>
        rw [List.getElem?_cons_zero] at hx hy
        cases hx; cases hy; exact h.1
      | succ i =>
        rw [List.getElem?_cons_succ] at hx hy
        exact r i x y hx hy
section
variable {α : Type} {h : HP} {lf : Nat → α → Prop} {op : Nat → α} {tst : α → Bool}
def LvI (lf : Nat → α → Prop) (tst : α → Bool) (lo hi : Nat) (L : List α) : Prop := ∃ A : List Nat, A.Pairwise (· < ·) ∧ (∀ a ∈ A, lo ≤ a ∧ a < hi) ∧ F2 lf A (L.filter tst)
theorem LvI_app {lo mid hi : Nat} {L M : List α} (a : LvI lf tst lo mid L) (c : LvI lf tst mid hi M) (h1 : lo ≤ mid) (h2 : mid ≤ hi) : LvI lf tst lo hi (L ++ M) := by
  obtain ⟨A, a1, a2, a3⟩ := a
  obtain ⟨C, c1, c2, c3⟩ := c
  refine ⟨A ++ C, List.pairwise_append.mpr ⟨a1, c1, fun x hx y hy => ?_⟩, fun x hx => ?_, ?_⟩
  · have := a2 x hx; have := c2 y hy; omega
  · rcases List.mem_append.mp hx with q | q
    · have := a2 x q; omega
    · have := c2 x q; omega
  · rw [List.filter_append]; exact F2_app _ _ _ _ a3 c3
theorem LvI_op {lo hi : Nat} {L : List α} {o : Nat} (ho : tst (op o) = false) (a : LvI lf tst lo hi L) : LvI lf tst lo hi (L ++ [op o]) := by
  obtain ⟨A, a1, a2, a3⟩ := a
  refine ⟨A, a1, a2, ?_⟩
  rw [List.filter_append, List.filter_cons_of_neg (by rw [ho]; decide), List.filter_nil, List.append_nil]
  exact a3
theorem LvI_w {lo hi lo' hi' : Nat} {L : List α} (a : LvI lf tst lo hi L) (h1 : lo' ≤ lo) (h2 : hi ≤ hi') : LvI lf tst lo' hi' L := by
  obtain ⟨A, a1, a2, a3⟩ := a
  exact ⟨A, a1, fun x hx => by have := a2 x hx; omega, a3⟩
theorem leaf_inc (hop : ∀ o, o = 1 ∨ o = 2 ∨ o = 3 → tst (op o) = false) (hlf : ∀ t e, lf t e → tst e = true) : ∀ (d lo hi t : Nat) (L : List α), IsT h lf op d lo hi t L → LvI lf tst lo hi L := by
  intro d
  induction d with
  | zero => intro lo hi t L z; cases z
  | succ d ih =>
    intro lo hi t L z
    obtain ⟨z1, z2, z3, z4⟩ := z
    rcases z4 with ⟨_, e, rfl, h2⟩ | ⟨_, f, L', _, _, h3, rfl⟩ | ⟨o, ho, f, L0, Q, _, h3, _, h4, rfl⟩
    · refine ⟨[t], List.pairwise_singleton _ _, fun a ha => ?_, ?_⟩
      · rw [List.mem_singleton] at ha; rw [ha]; exact ⟨z1, z2⟩
      · rw [List.filter_cons_of_pos (hlf _ _ h2), List.filter_nil]; exact ⟨h2, trivial⟩
    · exact LvI_w (LvI_op (hop 3 (Or.inr (Or.inr rfl))) (ih _ _ _ _ h3)) (Nat.le_refl _) (Nat.le_of_lt z2)
    · have ho' : tst (op o) = false := hop o (by omega)
      have ch : ∀ (Q : List (Nat × List α)) (lo' : Nat) (r : Option Nat), lo' ≤ hi → Chn h (IsT h lf op d) hi lo' r Q → LvI lf tst lo' hi (fl (op o) Q) := by
        intro Q
        induction Q with
        | nil => intro lo' r _ _; exact ⟨[], List.Pairwise.nil, fun a ha => (by cases ha), trivial⟩
        | cons p Q ihQ =>
          intro lo' r hl c
          obtain ⟨l, m, _, c1, c2, c3, c4, c5, c6⟩ := c
          have e : fl (op o) (p :: Q) = (p.2 ++ [op o]) ++ fl (op o) Q := by simp [fl]
          rw [e]
          exact LvI_app (LvI_w (LvI_op ho' (ih _ _ _ _ c5)) c1 (Nat.le_refl _)) (ihQ m _ c4 c6) (by omega) c4
      exact LvI_app (ih _ _ _ _ h3) (LvI_w (ch Q (t + 1) _ (by omega) h4) (by omega) (Nat.le_refl _)) z1 (Nat.le_of_lt z2)
end
/-! CONDITIONS IN FORMS: what an object holds of one -/
/-- a leaf with what a token tells -/
def lfM (g : HP) (t : Nat) (e : Int32) : Prop := ∃ f s v : Int, 0 ≤ f ∧ f < 24 ∧ 0 ≤ s ∧ s ≤ 3 ∧ 0 ≤ v ∧ v ≤ 9999 ∧ e = i32 (tcd f s v) ∧ hI g 387 t = i32 f ∧ hI g 388 t = i32 (sby s) ∧ hI g 389 t = i32 v
def opM (o : Nat) : Int32 := i32 (o : Int)
def tcL (L : List Int32) : Int := ((L.filter tT).length : Int)
def tcI (L : List Int) : Int := ((L.filter ist).length : Int)
def RlL (L : List Int32) : Int32 := L.foldl (fun c t => if tT t = true then c ||| (i32 1 <<< (tF t &&& 31)) else c) (i32 0)
def CND {α : Type} (g : HP) (hi : Nat) (lf : Nat → α → Prop) (op : Nat → α) (b : Nat) (L : List α) (tc : Int) (rf : Int32) : Prop := ((L = [] ∧ hR g 135 b = none) ∨ (L ≠ [] ∧ ∃ t, hR g 135 b = some t ∧ IsT g lf op 15 1008 hi t L)) ∧ hI g 136 b = i32 tc ∧ hI g 137 b = rf
/-- a node's own numbers -/
def NDc (g : HP) (b : Nat) (F : Int → Int) (n : Int) : Prop := hI g 134 b = i32 (cgr (F n)) ∧ hJ g 129 b = i64 (lft (F (32 + n))) ∧ hI g 130 b = i32 (F (64 + n)) ∧ hI g 131 b = i32 (F (96 + n)) ∧ hI g 132 b = i32 (F (128 + n)) ∧ hI g 133 b = i32 (F (160 + n))
/-- a form of the class, told by numbers -/
def FRb (g : HP) (a : Nat) (F : Int → Int) : Prop := hI g 3 a = i32 (F 289) ∧ hI g 4 a = i32 (F 290) ∧ hI g 5 a = i32 (F 288) ∧ (∀ i, 0 ≤ i → i < F 288 → hA g (a + 1) i.toNat = i32 (F (256 + i))) ∧ ∀ n, 0 ≤ n → n < 32 → (F n = -1 ∧ hI g 128 (a + 4 + n.toNat) = i32 0) ∨ (F n ≠ -1 ∧ hI g 128 (a + 4 + n.toNat) = i32 1 ∧ NDc g (a + 4 + n.toNat) F n)
theorem cgr_rng2 {v : Int} (h : v = -2 ∨ (24 ≤ v ∧ v < 32)) : cgr v = if v < 0 then -2 else v - 24 := rfl
theorem FRb_tree {g : HP} {a : Nat} {F : Int → Int} (r : FRb g a F) (T : TV F) (O : OV F) : EqT (Fc g a) F ∧ GC g a := by
  obtain ⟨r3, r4, r5, ro, rn⟩ := r
  have o1 := O.1
  have o2 := O.2.1
  have e : ∀ n, 0 ≤ n → n < 32 → Fc g a n = F n := by
    intro n h0 h1
    rw [Fc_lo h1]
    rcases rn n h0 h1 with ⟨x, y⟩ | ⟨x, y, z⟩
    · rw [if_pos y, x]
    · have t := T.grp h0 h1 x
      rw [if_neg (by rw [y]; decide)]
      unfold cnI
      have z1 : hI g (128 + 6) (a + 4 + n.toNat) = i32 (cgr (F n)) := z.1
      have cr := cgr_rng (t.imp id fun z => ⟨z.1, z.2.1⟩)
      rw [z1, i32_toInt (by omega) (by omega)]
      unfold cgr at *
      by_cases c : F n < 0
      · rw [if_pos c, if_pos (by omega)]; omega
      · rw [if_neg c] at *
        rw [if_neg (by omega)]; omega
  refine ⟨⟨e, ?_, fun i i0 i1 => ?_⟩, fun n h0 h1 h2 => ?_⟩
  · rw [Fc_mn, r5, i32_toInt (by omega) (by omega)]
  · have o := O.2.2 i i0 i1
    rw [Fc_od i0 (by omega), ro i i0 i1, i32_toInt (by omega) (by omega)]
  · rw [e n h0 h1] at h2 ⊢
    rcases rn n h0 h1 with ⟨x, y⟩ | ⟨x, y, z⟩
    · exact absurd x h2
    · exact z.1
theorem FRb_name {g : HP} {a : Nat} {F : Int → Int} (r : FRb g a F) (T : TV F) (O : OV F) : FNm g a F := by
  refine ⟨(FRb_tree r T O).1, fun n h0 h1 h2 => ?_⟩
  rcases r.2.2.2.2 n h0 h1 with ⟨x, y⟩ | ⟨x, y, z⟩
  · exact absurd x h2
  · exact z.2.1
/-- frames that leave terms alone -/
def okT (l : List Nat) : Prop := (l.contains 384 || l.contains 385 || l.contains 386 || l.contains 387 || l.contains 388 || l.contains 389) = false ∧ ∀ x, 1008 ≤ x → l.contains (5000 + x) = false
section
variable {g g' : HP} {k : Nat} {l : List Nat}
theorem IsT_co {α : Type} {lf lf' : Nat → α → Prop} {op : Nat → α} (p : Co k l g g') (o : okT l) (hl : ∀ t e, 1008 ≤ t → t < hsz g → lf t e → lf' t e) {d t hi hi' : Nat} {L : List α} (hh : hi ≤ hsz g) (h2 : hi ≤ hi') (z : IsT g lf op d 1008 hi t L) : IsT g' lf' op d 1008 hi' t L := by
  obtain ⟨o1, o2⟩ := o
  simp only [Bool.or_eq_false_iff] at o1
  refine IsT_up d 1008 hi t L d 1008 hi' (Nat.le_refl _) (Nat.le_refl _) h2 ?_
  exact IsT_fr d 1008 hi t L z (fun x x0 x1 ox => ⟨isO_sk p.sk ox, p.I (Nat.lt_of_lt_of_le x1 hh) o1.1.1.1.1.1 (o2 x x0), p.R (Nat.lt_of_lt_of_le x1 hh) o1.1.1.1.1.2 (o2 x x0), fun e h => hl x e x0 (Nat.lt_of_lt_of_le x1 hh) h⟩) (fun x x0 x1 _ => p.R (Nat.lt_of_lt_of_le x1 hh) o1.1.1.1.2 (o2 x x0))
theorem lfM_co (p : Co k l g g') (o : okT l) : ∀ t e, 1008 ≤ t → t < hsz g → lfM g t e → lfM g' t e := by
  rintro t e t0 t1 ⟨f, s, v, a1, a2, a3, a4, a5, a6, a7, a8, a9, a10⟩
  obtain ⟨o1, o2⟩ := o
  simp only [Bool.or_eq_false_iff] at o1
  exact ⟨f, s, v, a1, a2, a3, a4, a5, a6, a7, by rw [p.I t1 o1.1.1.2 (o2 t t0)]; exact a8, by rw [p.I t1 o1.1.2 (o2 t t0)]; exact a9, by rw [p.I t1 o1.2 (o2 t t0)]; exact a10⟩
def okN (l : List Nat) : Prop := (l.contains 128 || l.contains 129 || l.contains 130 || l.contains 131 || l.contains 132 || l.contains 133 || l.contains 134 || l.contains 135 || l.contains 136 || l.contains 137) = false
theorem okN_I (o : okN l) (p : Co k l g g') {b : Nat} (hb : b < hsz g) (nb : l.contains (5000 + b) = false) : (∀ f, 128 ≤ f → f < 138 → hI g' f b = hI g f b ∧ hR g' f b = hR g f b) ∧ hJ g' 129 b = hJ g 129 b := by
  unfold okN at o
  simp only [Bool.or_eq_false_iff] at o
  obtain ⟨⟨⟨⟨⟨⟨⟨⟨⟨o1, o2⟩, o3⟩, o4⟩, o5⟩, o6⟩, o7⟩, o8⟩, o9⟩, o10⟩ := o
  refine ⟨fun f f0 f1 => ?_, p.J hb o2 nb⟩
  have c : l.contains f = false := by
    rcases (show f = 128 ∨ f = 129 ∨ f = 130 ∨ f = 131 ∨ f = 132 ∨ f = 133 ∨ f = 134 ∨ f = 135 ∨ f = 136 ∨ f = 137 by omega) with e | e | e | e | e | e | e | e | e | e <;> rw [e] <;> assumption
  exact ⟨p.I hb c nb, p.R hb c nb⟩
theorem CND_co {α : Type} {lf lf' : Nat → α → Prop} {op : Nat → α} {b : Nat} {L : List α} {tc : Int} {rf : Int32} {hi hi' : Nat} (c : CND g hi lf op b L tc rf) (hh : hi ≤ hsz g) (h2 : hi ≤ hi') (p : Co k l g g') (o : okT l) (on : okN l) (hb : b < hsz g) (nb : l.contains (5000 + b) = false) (hl : ∀ t e, 1008 ≤ t → t < hsz g → lf t e → lf' t e) : CND g' hi' lf' op b L tc rf := by
  obtain ⟨i, -⟩ := okN_I on p hb nb
  obtain ⟨c1, c2, c3⟩ := c
  refine ⟨?_, by rw [(i 136 (by omega) (by omega)).1]; exact c2, by rw [(i 137 (by omega) (by omega)).1]; exact c3⟩
  rw [(i 135 (by omega) (by omega)).2]
  rcases c1 with h | ⟨h, t, h1, h3⟩
  · exact Or.inl h
  · exact Or.inr ⟨h, t, h1, IsT_co p o hl hh h2 h3⟩
theorem NDc_co {b : Nat} {F : Int → Int} {n : Int} (c : NDc g b F n) (p : Co k l g g') (on : okN l) (hb : b < hsz g) (nb : l.contains (5000 + b) = false) : NDc g' b F n := by
  obtain ⟨i, j⟩ := okN_I on p hb nb
  obtain ⟨c1, c2, c3, c4, c5, c6⟩ := c
  exact ⟨by rw [(i 134 (by omega) (by omega)).1]; exact c1, by rw [j]; exact c2, by rw [(i 130 (by omega) (by omega)).1]; exact c3, by rw [(i 131 (by omega) (by omega)).1]; exact c4, by rw [(i 132 (by omega) (by omega)).1]; exact c5, by rw [(i 133 (by omega) (by omega)).1]; exact c6⟩
/-- frames that leave a form alone -/
def okF (l : List Nat) (a : Nat) : Prop := okN l ∧ (l.contains 0 || l.contains 1 || l.contains 2 || l.contains 3 || l.contains 4 || l.contains 5 || l.contains (5000 + a) || l.contains (1000 + (a + 1))) = false ∧ ∀ i, i < 32 → l.contains (5000 + (a + 4 + i)) = false
theorem FRb_co {a : Nat} {F : Int → Int} (r : FRb g a F) (S : FormAt g a) (p : Co k l g g') (o : okF l a) : FRb g' a F := by
  obtain ⟨on, o1, o2⟩ := o
  simp only [Bool.or_eq_false_iff] at o1
  obtain ⟨r3, r4, r5, ro, rn⟩ := r
  have za := isO_lt S.o
  have z1 := isO_lt S.oO
  refine ⟨by rw [p.I za o1.1.1.1.1.2 o1.1.2]; exact r3, by rw [p.I za o1.1.1.1.2 o1.1.2]; exact r4, by rw [p.I za o1.1.1.2 o1.1.2]; exact r5, fun i i0 i1 => by rw [p.A z1 o1.2]; exact ro i i0 i1, fun n h0 h1 => ?_⟩
  have hb := isO_lt (S.on (show n.toNat < 32 by omega))
  have nb := o2 n.toNat (by omega)
  obtain ⟨i, j⟩ := okN_I on p hb nb
  rw [(i 128 (by omega) (by omega)).1]
  rcases rn n h0 h1 with h | ⟨h, x, y⟩
  · exact Or.inl h
  · exact Or.inr ⟨h, x, NDc_co y p on hb nb⟩
end
