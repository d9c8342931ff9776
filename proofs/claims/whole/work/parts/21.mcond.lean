/-! THE MODEL READS A CONDITION: its small methods -/
def MQt (g : HP) (b : Int → Int) (n : Int) (j : Nat) : Prop := MS g ∧ hI g 705 983 = i32 n ∧ TB g 984 b n ∧ MT g (tkn b n j) ∧ (hI g 721 983 = i32 1 ∧ hI g 706 983 = i32 (-2))
def lnN : List Nat := [716, 717, 718, 719, 720]
section
variable {g g' : HP} {b : Int → Int} {n : Int} {j : Nat} {l : List Nat}
theorem MQt.ms (P : MQt g b n j) : MS g := P.1
theorem MQt.fn (P : MQt g b n j) : hI g 721 983 = i32 1 := P.2.2.2.2.1
theorem MQt.er (P : MQt g b n j) : hI g 706 983 = i32 (-2) := P.2.2.2.2.2
theorem MQt.st (P : MQt g b n j) : hI g 717 983 = i32 (tks (tkn b n j)) := P.2.2.2.1.2.1
theorem MQt.kd (P : MQt g b n j) : hI g 718 983 = i32 (mkk (tkk (tkn b n j))) := P.2.2.2.1.2.2.1
theorem MQt.vl (P : MQt g b n j) (h : tkk (tkn b n j) = 3 ∨ 13 < tkk (tkn b n j)) : hI g 719 983 = i32 (tkv (tkn b n j)) := P.2.2.2.1.2.2.2.1 h
theorem MQt.wd (P : MQt g b n j) (h : tkk (tkn b n j) = 2 ∨ (4 ≤ tkk (tkn b n j) ∧ tkk (tkn b n j) ≤ 13)) : hJ g 720 983 = i64 (tkv (tkn b n j)) := P.2.2.2.1.2.2.2.2 h
theorem MQt.mo (P : MQt g b n j) (p : Mo l g g') (q : (l.contains 705 || l.contains 984 || l.contains 716 || l.contains 717 || l.contains 718 || l.contains 719 || l.contains 720 || l.contains 721 || l.contains 706) = false) : MQt g' b n j := by
  simp only [Bool.or_eq_false_iff] at q
  obtain ⟨⟨⟨⟨⟨⟨⟨⟨q1, q2⟩, q3⟩, q4⟩, q5⟩, q6⟩, q7⟩, q8⟩, q9⟩ := q
  obtain ⟨a1, a2, a3, ⟨b1, b2, b3, b4, b5⟩, a5⟩ := P
  exact ⟨p.ms a1, (p.I q1).trans a2, a3.mo p q2, ⟨(p.I q3).trans b1, (p.I q4).trans b2, (p.I q5).trans b3, fun z => (p.I q6).trans (b4 z), fun z => (p.J q7).trans (b5 z)⟩, (p.I q8).trans a5.1, (p.I q9).trans a5.2⟩
theorem mkk_rng (k : Int) : 0 ≤ mkk k ∧ mkk k ≤ 5 := by
  unfold mkk; repeat (first | (split; · omega) | omega)
/-- on to the next token -/
theorem MQt.next (n0 : 0 ≤ n) (n1 : n ≤ 1200) (P : MQt g b n j) : ∃ g', fX11_next 983 g = some g' ∧ Mo lnN g g' ∧ MQt g' b n (j + 1) := by
  obtain ⟨a1, a2, a3, a4, a5⟩ := P
  have r := tkn_rng (b := b) n0 j
  have pl := pos_le (b := b) n0 j
  obtain ⟨g', e, q, t⟩ := next_s a1 a2 a3 n0 n1 a4.1 (by omega) (by omega)
  exact ⟨g', e, q, q.ms a1, (q.I rfl).trans a2, a3.mo q rfl, t, (q.I rfl).trans a5.1, (q.I rfl).trans a5.2⟩
theorem i32_1n0 : ¬ (i32 1 = i32 0) := by decide
theorem takes_t (n0 : 0 ≤ n) (n1 : n ≤ 1200) (P : MQt g b n j) : ∃ g', fX11_takes 983 true g = some g' ∧ Mo lnN g g' ∧ MQt g' b n (j + 1) := by
  obtain ⟨g', e, q, t⟩ := P.next n0 n1
  unfold fX11_takes jX11_takes_24
  simp only [P.ms.o, gd_tt, P.fn, i32_z, e, bn_s, if_true]
  rw [if_neg i32_1n0, if_neg i32_1n0]
  exact ⟨g', rfl, q, t⟩
/-- the token is wrong -/
theorem takes_f (P : MQt g b n j) : ∃ g', fX11_takes 983 false g = some g' ∧ Mo [721, 706] g g' ∧ hI g' 721 983 = i32 0 ∧ hI g' 706 983 = i32 (tks (tkn b n j)) := by
  have M2 : MS (sI (sI g 721 983 (i32 0)) 706 983 (i32 (tks (tkn b n j)))) := (P.ms.sk (sk_sI rfl)).sk (sk_sI rfl)
  have e1 : hI (sI g 721 983 (i32 0)) 717 983 = i32 (tks (tkn b n j)) := by rw [rII, if_neg (by decide)]; exact P.st
  have e2 : hI (sI (sI g 721 983 (i32 0)) 706 983 (i32 (tks (tkn b n j)))) 721 983 = i32 0 := by rw [rII, if_neg (by decide), rII, if_pos ⟨rfl, rfl⟩]
  unfold fX11_takes jX11_takes_24
  simp only [P.ms.o, gd_tt, P.fn, i32_z, lt_e, e1, M2.o, e2, if_true]
  rw [if_neg i32_1n0, if_neg (by decide)]
  exact ⟨_, rfl, (Mo_I (by decide) _).t (Mo_I (by decide) _), e2, by rw [rII, if_pos ⟨rfl, rfl⟩]⟩
theorem takes1_f (P : MQt g b n j) : ∃ g', fX11_takes1 983 false g = some g' ∧ Mo [721, 706] g g' ∧ hI g' 721 983 = i32 0 ∧ hI g' 706 983 = i32 (tks (tkn b n j)) := by
  have e1 : hI (sI g 721 983 (i32 0)) 717 983 = i32 (tks (tkn b n j)) := by rw [rII, if_neg (by decide)]; exact P.st
  unfold fX11_takes1
  simp only [P.ms.o, gd_tt, P.fn, i32_z, lt_e, e1]
  rw [if_neg i32_1n0, if_neg (by decide)]
  exact ⟨_, rfl, (Mo_I (by decide) _).t (Mo_I (by decide) _), by rw [rII, if_neg (by decide), rII, if_pos ⟨rfl, rfl⟩], by rw [rII, if_pos ⟨rfl, rfl⟩]⟩
theorem takes1_t (M : MS g) : fX11_takes1 983 true g = some g := by
  unfold fX11_takes1
  simp only [M.o, gd_tt, if_true]
  split <;> rfl
theorem takes_z (M : MS g) (z : hI g 721 983 = i32 0) (c : Bool) : fX11_takes 983 c g = some g := by
  unfold fX11_takes jX11_takes_24
  simp only [M.o, gd_tt, z, i32_z, if_true]
theorem takes1_z (M : MS g) (z : hI g 721 983 = i32 0) (c : Bool) : fX11_takes1 983 c g = some g := by
  unfold fX11_takes1
  simp only [M.o, gd_tt, z, i32_z, if_true]
theorem isWord_z (M : MS g) (z : hI g 721 983 = i32 0) (w : Int64) : fX11_isWord 983 w g = some false := by
  unfold fX11_isWord
  simp only [M.o, gd_tt, z, i32_z, if_true]
theorem isHere_z (M : MS g) (z : hI g 721 983 = i32 0) (w : Int32) : fX11_isHere 983 w g = some false := by
  unfold fX11_isHere
  simp only [M.o, gd_tt, z, i32_z, if_true]
/-- a keyword is told by its number -/
theorem isWord_s (n0 : 0 ≤ n) (P : MQt g b n j) {w : Int} (kw : 4 ≤ kwk w) (w0 : 0 ≤ w) (w1 : w < 1099511627776) (inj : ∀ v, kwk v = kwk w → v = w) : fX11_isWord 983 (i64 w) g = some (decide (tkk (tkn b n j) = kwk w)) := by
  have tv := tk_val (b := b) n0 j
  have mr := mkk_rng (tkk (tkn b n j))
  unfold fX11_isWord
  simp (disch := omega) only [P.ms.o, gd_tt, P.fn, i32_z, P.kd, i32_eq]
  rw [if_neg (by decide)]
  have kr := kwk_rng w
  by_cases c : 4 ≤ tkk (tkn b n j) ∧ tkk (tkn b n j) ≤ 13
  · have em : mkk (tkk (tkn b n j)) = 2 := by unfold mkk; rw [if_neg (by omega), if_neg (by omega), if_neg (by omega), if_neg (by omega), if_pos (by omega)]
    rw [if_pos em]
    obtain ⟨nv, ke⟩ := tv.2.1 (Or.inr c)
    have v1 := nv.1
    have v2 := nv.2.1
    simp (disch := omega) only [P.wd (Or.inr c), i64_eq]
    by_cases d : tkv (tkn b n j) = w
    · rw [if_pos d, ← ke, d]; simp
    · rw [if_neg d]
      have : ¬ tkk (tkn b n j) = kwk w := fun z => d (inj _ (ke.trans z))
      simp [this]
  · have em : mkk (tkk (tkn b n j)) ≠ 2 := by
      unfold mkk
      repeat (first | (split; · omega) | omega)
    rw [if_neg em]
    have : ¬ tkk (tkn b n j) = kwk w := by omega
    simp [this]
theorem isHere_s (n0 : 0 ≤ n) (P : MQt g b n j) {s : Int} (s0 : 13 < s) (s1 : s < 128) : fX11_isHere 983 (i32 s) g = some (decide (tkk (tkn b n j) = s)) := by
  have tv := tk_val (b := b) n0 j
  have mr := mkk_rng (tkk (tkn b n j))
  unfold fX11_isHere
  simp (disch := omega) only [P.ms.o, gd_tt, P.fn, i32_z, P.kd, i32_eq]
  rw [if_neg (by decide)]
  by_cases c : 13 < tkk (tkn b n j)
  · have em : mkk (tkk (tkn b n j)) = 4 := by unfold mkk; rw [if_neg (by omega), if_neg (by omega), if_neg (by omega), if_neg (by omega), if_neg (by omega)]
    rw [if_pos em]
    have ev : tkv (tkn b n j) = tkk (tkn b n j) := by omega
    have tr : tkk (tkn b n j) < 128 := by omega
    simp (disch := omega) only [P.vl (Or.inr c), ev, i32_eq]
    by_cases d : tkk (tkn b n j) = s
    · rw [if_pos d]; simp [d]
    · rw [if_neg d]; simp [d]
  · have em : mkk (tkk (tkn b n j)) ≠ 4 := by
      unfold mkk
      repeat (first | (split; · omega) | omega)
    rw [if_neg em]
    have : ¬ tkk (tkn b n j) = s := by omega
    simp [this]
theorem kwk_kws (i : Nat) (hi : i < 10) : kwk (kws.getD i 0) = 4 + i := by
  have : ∀ i : Fin 10, kwk (kws.getD i.val 0) = 4 + (i.val : Int) := by decide +kernel
  exact this ⟨i, hi⟩
theorem kwk_inj (i : Nat) (hi : i < 10) : ∀ v, kwk v = kwk (kws.getD i 0) → v = kws.getD i 0 := by
  intro v e
  rw [kwk_kws i hi] at e
  unfold kwk at e
  split at e
  · rename_i h; have : i = 0 := by omega
    subst this; exact h
  split at e
  · rename_i h; have : i = 1 := by omega
    subst this; exact h
  split at e
  · rename_i h; have : i = 2 := by omega
    subst this; exact h
  split at e
  · rename_i h; have : i = 3 := by omega
    subst this; exact h
  split at e
  · rename_i h; have : i = 4 := by omega
    subst this; exact h
  split at e
  · rename_i h; have : i = 5 := by omega
    subst this; exact h
  split at e
  · rename_i h; have : i = 6 := by omega
    subst this; exact h
  split at e
  · rename_i h; have : i = 7 := by omega
    subst this; exact h
  split at e
  · rename_i h; have : i = 8 := by omega
    subst this; exact h
  split at e
  · rename_i h; have : i = 9 := by omega
    subst this; exact h
  · omega
theorem isW (n0 : 0 ≤ n) (P : MQt g b n j) (i : Nat) (hi : i < 10) : fX11_isWord 983 (i64 (kws.getD i 0)) g = some (decide (tkk (tkn b n j) = 4 + i)) := by
  have r := kws_NV i hi
  have ke : kwk (kws.getD i 0) = 4 + i := by
    have : ∀ i : Fin 10, kwk (kws.getD i.val 0) = 4 + (i.val : Int) := by decide +kernel
    exact this ⟨i, hi⟩
  have r1 := r.1
  have r2 := r.2.1
  rw [isWord_s n0 P (by omega) (by omega) r2 (kwk_inj i hi), ke]
/-- a number in its range is taken, or the token is wrong -/
theorem number_s (n0 : 0 ≤ n) (n1 : n ≤ 1200) (P : MQt g b n j) {lo hi : Int} (l0 : 0 ≤ lo) (l1 : lo < 100000) (h0 : 0 ≤ hi) (h1 : hi < 100000) : (tkk (tkn b n j) = 3 ∧ lo ≤ tkv (tkn b n j) ∧ tkv (tkn b n j) ≤ hi ∧ ∃ g', fX11_number 983 (i32 lo) (i32 hi) g = some (i32 (tkv (tkn b n j)), g') ∧ Mo lnN g g' ∧ MQt g' b n (j + 1)) ∨ (¬ (tkk (tkn b n j) = 3 ∧ lo ≤ tkv (tkn b n j) ∧ tkv (tkn b n j) ≤ hi) ∧ ∃ v g', fX11_number 983 (i32 lo) (i32 hi) g = some (v, g') ∧ Mo [721, 706] g g' ∧ hI g' 721 983 = i32 0 ∧ hI g' 706 983 = i32 (tks (tkn b n j))) := by
  have tv := tk_val (b := b) n0 j
  have mr := mkk_rng (tkk (tkn b n j))
  obtain ⟨gs, s1, s2, s3⟩ := takes_t n0 n1 P
  obtain ⟨gf, f1, f2, f3, f4⟩ := takes_f P
  unfold fX11_number jX11_number_27 jX11_number_28
  simp (disch := omega) only [P.ms.o, gd_tt, lt_e, P.kd, i32_eq, s1, f1, bn_s]
  by_cases c : tkk (tkn b n j) = 3
  · have em : mkk (tkk (tkn b n j)) = 3 := by rw [c]; rfl
    have vr := tv.1 c
    rw [if_pos em]
    simp (disch := omega) only [P.vl (Or.inl c), in_s, bn_s]
    by_cases d : lo ≤ tkv (tkn b n j) ∧ tkv (tkn b n j) ≤ hi
    · rw [if_pos (by simpa using d)]
      exact Or.inl ⟨c, d.1, d.2, gs, rfl, s2, s3⟩
    · rw [if_neg (by simpa using d)]
      exact Or.inr ⟨fun z => d z.2, _, gf, rfl, f2, f3, f4⟩
  · have em : mkk (tkk (tkn b n j)) ≠ 3 := by
      unfold mkk
      repeat (first | (split; · omega) | omega)
    rw [if_neg em]
    exact Or.inr ⟨fun z => c z.1, _, gf, rfl, f2, f3, f4⟩
theorem number_z (M : MS g) (z : hI g 721 983 = i32 0) {lo hi : Int32} : ∃ v, fX11_number 983 lo hi g = some (v, g) := by
  unfold fX11_number jX11_number_27 jX11_number_28
  simp only [M.o, gd_tt, lt_e, takes_z M z, bn_s]
  by_cases c : hI g 718 983 = i32 3
  · rw [if_pos c]
    have e : ∃ d, fX11_in (hI g 719 983) lo hi g = some d := by
      unfold fX11_in
      split
      · exact ⟨_, rfl⟩
      · split <;> exact ⟨_, rfl⟩
    obtain ⟨d, e⟩ := e
    rw [e]
    simp only [bn_s]
    split <;> exact ⟨_, rfl⟩
  · rw [if_neg c]; exact ⟨_, rfl⟩
end

