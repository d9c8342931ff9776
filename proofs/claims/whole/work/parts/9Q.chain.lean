/-! THE ORDER OF A LAYOUT -/
section
variable {F : Int → Int} {s : LYt}
theorem lBR_X (c : Int) (s : LYt) : lyX (lBR c s) = lyX s ∧ lyY (lBR c s) = lyY s ∧ lyM (lBR c s) = lyM s ∧ lyC (lBR c s) = c ∧ lyR s ≤ lyR (lBR c s) ∧ lyR (lBR c s) ≤ lyR s + 1 := by
  refine ⟨rfl, rfl, rfl, rfl, ?_, ?_⟩
  · show lyR s ≤ (if lyT s = true then lyR s + 1 else lyR s)
    split <;> omega
  · show (if lyT s = true then lyR s + 1 else lyR s) ≤ lyR s + 1
    split <;> omega
/-- where a node comes to stand -/
theorem lND_x {ap : Int → Bool} {cols pg m : Int} (w0 : m < 24 → 0 ≤ F (160 + m) ∧ F (160 + m) ≤ 10) (c0 : 0 ≤ lyC s) : ∃ x y, lyX (lND F ap cols pg m s) = updI (lyX s) m x ∧ lyY (lND F ap cols pg m s) = updI (lyY s) m y ∧ lyM (lND F ap cols pg m s) = x + 1 ∧ lyR s ≤ x ∧ x ≤ lyR (lND F ap cols pg m s) ∧ lyR (lND F ap cols pg m s) ≤ lyR s + 3 ∧ 0 ≤ y ∧ (y ≤ 8 ∨ y ≤ lyC s) ∧ 0 ≤ lyC (lND F ap cols pg m s) ∧ lyC (lND F ap cols pg m s) ≤ y + 11 := by
  have rd := dpt_rng F 8 (F m)
  unfold lND
  by_cases c : 24 ≤ m
  · rw [if_pos c]
    obtain ⟨d, ed⟩ : ∃ d, d = dpt F 8 (F m) := ⟨_, rfl⟩
    rw [← ed] at rd ⊢
    obtain ⟨b1, b2, b3, b4, b5, b6⟩ := lBR_X d s
    obtain ⟨u, eu⟩ : ∃ u, u = decide (2 ≤ pg ∧ lyR (lBR d s) % pg = pg - 1) := ⟨_, rfl⟩
    have e : lGR m d pg s = lBR (d + 1) (lST m (lUP u (lBR d s))) := by rw [eu]; rfl
    obtain ⟨x, ex⟩ : ∃ x, x = lyR (lUP u (lBR d s)) := ⟨_, rfl⟩
    have x1 : lyR (lBR d s) ≤ x ∧ x ≤ lyR (lBR d s) + 1 := by
      rw [ex]
      show lyR (lBR d s) ≤ (if u = true then lyR (lBR d s) + 1 else lyR (lBR d s)) ∧ (if u = true then lyR (lBR d s) + 1 else lyR (lBR d s)) ≤ lyR (lBR d s) + 1
      split <;> omega
    have r1 : lyR (lBR (d + 1) (lST m (lUP u (lBR d s)))) = x + 1 := by rw [ex]; rfl
    rw [e]
    refine ⟨x, d, ?_, ?_, ?_, by omega, by omega, by omega, by omega, Or.inl (by omega), ?_, ?_⟩
    · rw [ex]; rfl
    · rfl
    · rw [ex]; rfl
    · show 0 ≤ d + 1
      omega
    · show d + 1 ≤ d + 11
      omega
  · rw [if_neg c]
    have w := w0 (by omega)
    obtain ⟨d, ed⟩ : ∃ d, d = dpt F 8 (F m) := ⟨_, rfl⟩
    rw [← ed] at rd ⊢
    have fin : ∀ s2 : LYt, lyX s2 = lyX s → lyY s2 = lyY s → lyR s ≤ lyR s2 → lyR s2 ≤ lyR s + 1 → 0 ≤ lyC s2 → (lyC s2 ≤ 8 ∨ lyC s2 ≤ lyC s) → ∃ x y, lyX (lCO (F (160 + m) + 1) (lST m s2)) = updI (lyX s) m x ∧ lyY (lCO (F (160 + m) + 1) (lST m s2)) = updI (lyY s) m y ∧ lyM (lCO (F (160 + m) + 1) (lST m s2)) = x + 1 ∧ lyR s ≤ x ∧ x ≤ lyR (lCO (F (160 + m) + 1) (lST m s2)) ∧ lyR (lCO (F (160 + m) + 1) (lST m s2)) ≤ lyR s + 3 ∧ 0 ≤ y ∧ (y ≤ 8 ∨ y ≤ lyC s) ∧ 0 ≤ lyC (lCO (F (160 + m) + 1) (lST m s2)) ∧ lyC (lCO (F (160 + m) + 1) (lST m s2)) ≤ y + 11 := fun s2 e1 e2 r1 r2 c1 c2 => by
      have er : lyR (lCO (F (160 + m) + 1) (lST m s2)) = lyR s2 := rfl
      have ecc : lyC (lCO (F (160 + m) + 1) (lST m s2)) = lyC s2 + (F (160 + m) + 1) := rfl
      refine ⟨lyR s2, lyC s2, ?_, ?_, rfl, r1, by omega, by omega, c1, c2, by omega, by omega⟩
      · rw [← e1]; rfl
      · rw [← e2]; rfl
    unfold lFD
    by_cases q : ap m = true ∨ cols < lyC s + F (160 + m)
    · rw [if_pos q]
      obtain ⟨b1, b2, b3, b4, b5, b6⟩ := lBR_X d s
      exact fin _ b1 b2 b5 b6 (by rw [b4]; omega) (Or.inl (by rw [b4]; omega))
    · rw [if_neg q]
      exact fin s rfl rfl (Int.le_refl _) (by omega) c0 (Or.inr (Int.le_refl _))
/-- bounds of a layout at a place -/
def LYq (F : Int → Int) (s : LYt) (i : Int) : Prop := (0 ≤ lyR s ∧ lyR s ≤ 4 * i) ∧ (0 ≤ lyC s ∧ lyC s ≤ 20 + 11 * i) ∧ (∀ n, (lyX s n = -2 ∧ lyY s n = -2) ∨ (0 ≤ lyX s n ∧ lyX s n ≤ lyR s ∧ 0 ≤ lyY s n ∧ lyY s n ≤ 20 + 11 * i)) ∧ ∀ j, i ≤ j → j < F 288 → lyX s (F (256 + j)) = -2
/-- the rows of the nodes, in their order -/
def chn (F X : Int → Int) (M : Int) : Nat → Int → Int → Bool → Prop
  | 0, _, r, b => M = if b = true then r + 1 else 0
  | k + 1, i, r, b => if X (F (256 + i)) < 0 then chn F X M k (i + 1) r b else r ≤ X (F (256 + i)) ∧ chn F X M k (i + 1) (X (F (256 + i))) true
theorem lay9_c (t : TR F) (kd : KD F) {sh ap : Int → Bool} {cols pg : Int} : ∀ (k : Nat) (i l : Int) (s : LYt) (r : Int) (b : Bool), i + k = F 288 → 0 ≤ i → LYq F s i → r ≤ lyR s → lyM s = (if b = true then r + 1 else 0) → LYq F (lay9 F sh ap cols pg k i l s) (F 288) ∧ (∀ j, 0 ≤ j → j < i → lyX (lay9 F sh ap cols pg k i l s) (F (256 + j)) = lyX s (F (256 + j)) ∧ lyY (lay9 F sh ap cols pg k i l s) (F (256 + j)) = lyY s (F (256 + j))) ∧ chn F (lyX (lay9 F sh ap cols pg k i l s)) (lyM (lay9 F sh ap cols pg k i l s)) k i r b := by
  have O := t.ov
  have o2 := O.2.1
  intro k
  induction k with
  | zero =>
    intro i l s r b e i0 q rr hM
    have : i = F 288 := by omega
    exact ⟨by rw [← this]; exact q, fun _ _ _ => ⟨rfl, rfl⟩, hM⟩
  | succ k ih =>
    intro i l s r b e i0 q rr hM
    have o := O.2.2 i i0 (by omega)
    have mp := t.op i i0 (by omega)
    obtain ⟨m, em⟩ : ∃ m, m = F (256 + i) := ⟨_, rfl⟩
    obtain ⟨⟨q1, q2⟩, ⟨q3, q4⟩, q5, q6⟩ := q
    obtain ⟨Z, eZ⟩ : ∃ Z, Z = lay9 F sh ap cols pg (k + 1) i l s := ⟨_, rfl⟩
    have e9 : Z = if sh m = true then lay9 F sh ap cols pg k (i + 1) (lLV F m) (lND F ap cols pg m (if dpt F 8 (F m) < l then lBR (dpt F 8 (F m)) s else s)) else lay9 F sh ap cols pg k (i + 1) l s := by rw [eZ, em]; rfl
    rw [← eZ]
    rw [← em] at o mp
    have sc : ∀ r', (if lyX Z m < 0 then chn F (lyX Z) (lyM Z) k (i + 1) r' b else r' ≤ lyX Z m ∧ chn F (lyX Z) (lyM Z) k (i + 1) (lyX Z m) true) → chn F (lyX Z) (lyM Z) (k + 1) i r' b := fun r' h => by rw [em] at h; exact h
    by_cases c : sh m = true
    · rw [if_pos c] at e9
      obtain ⟨s2, e2⟩ : ∃ s2, s2 = (if dpt F 8 (F m) < l then lBR (dpt F 8 (F m)) s else s) := ⟨_, rfl⟩
      rw [← e2] at e9
      have rd := dpt_rng F 8 (F m)
      have h2 : lyX s2 = lyX s ∧ lyY s2 = lyY s ∧ lyR s ≤ lyR s2 ∧ lyR s2 ≤ lyR s + 1 ∧ 0 ≤ lyC s2 ∧ lyC s2 ≤ 20 + 11 * i := by
        rw [e2]
        split
        · obtain ⟨b1, b2, b3, b4, b5, b6⟩ := lBR_X (dpt F 8 (F m)) s
          exact ⟨b1, b2, b5, b6, by rw [b4]; omega, by rw [b4]; omega⟩
        · exact ⟨rfl, rfl, Int.le_refl _, by omega, q3, q4⟩
      obtain ⟨x, y, x1, x2, x3, x4, x5, x6, x7, x8, x9, x10⟩ := lND_x (F := F) (s := s2) (ap := ap) (cols := cols) (pg := pg) (m := m) (fun z => by have := ((kd m o.1 o.2 mp).1 z).2; omega) h2.2.2.2.2.1
      obtain ⟨s3, e3⟩ : ∃ s3, s3 = lND F ap cols pg m s2 := ⟨_, rfl⟩
      rw [← e3] at x1 x2 x3 x5 x6 x9 x10 e9
      have dj : ∀ j, 0 ≤ j → j < F 288 → j ≠ i → F (256 + j) ≠ m := fun j j0 j1 jn z => jn (t.dd j i j0 j1 i0 (by omega) (z.trans em))
      have Q : LYq F s3 (i + 1) := by
        refine ⟨⟨by omega, by omega⟩, ⟨by omega, by omega⟩, fun n => ?_, fun j j0 j1 => ?_⟩
        · rw [x1, x2]
          by_cases w : n = m
          · rw [updI_at w, updI_at w]; right; omega
          · rw [updI_ne w, updI_ne w, h2.1, h2.2.1]
            rcases q5 n with z | z
            · exact Or.inl z
            · right; omega
        · rw [x1, updI_ne (dj j (by omega) j1 (by omega)), h2.1]
          exact q6 j (by omega) j1
      obtain ⟨r1, r2, r3⟩ := ih (i + 1) (lLV F m) s3 x true (by omega) (by omega) Q x5 (by rw [if_pos rfl]; exact x3)
      rw [← e9] at r1 r2 r3
      have at' := r2 i i0 (by omega)
      rw [← em, x1, updI_at rfl] at at'
      refine ⟨r1, fun j j0 j1 => ?_, sc r ?_⟩
      · have z := r2 j j0 (by omega)
        rw [x1, x2, updI_ne (dj j j0 (by omega) (by omega)), updI_ne (dj j j0 (by omega) (by omega)), h2.1, h2.2.1] at z
        exact z
      · rw [at'.1, if_neg (by omega)]
        exact ⟨by omega, r3⟩
    · rw [if_neg c] at e9
      obtain ⟨r1, r2, r3⟩ := ih (i + 1) l s r b (by omega) (by omega) ⟨⟨q1, by omega⟩, ⟨q3, by omega⟩, fun n => by
        rcases q5 n with z | z
        · exact Or.inl z
        · right; omega, fun j j0 j1 => q6 j (by omega) j1⟩ rr hM
      rw [← e9] at r1 r2 r3
      refine ⟨r1, fun j j0 j1 => r2 j j0 (by omega), sc r ?_⟩
      have at' := (r2 i i0 (by omega)).1
      have z := q6 i (Int.le_refl _) (by omega)
      rw [← em] at at' z
      rw [at', z, if_pos (by decide)]
      exact r3
theorem laydq (t : TR F) (kd : KD F) {L : LYt} (d : LAYD F L) : LYq F L (F 288) ∧ chn F (lyX L) (lyM L) (F 288).toNat 0 0 false := by
  obtain ⟨sh, ap, cols, pg, rfl⟩ := d
  have o1 := t.ov.1
  obtain ⟨a, _, b⟩ := lay9_c t kd (sh := sh) (ap := ap) (cols := cols) (pg := pg) (F 288).toNat 0 0 ly0 0 false (by omega) (by omega) ⟨⟨Int.le_refl _, (by decide : (0 : Int) ≤ 4 * 0)⟩, ⟨Int.le_refl _, (by decide : (0 : Int) ≤ 20 + 11 * 0)⟩, fun n => Or.inl ⟨rfl, rfl⟩, fun _ _ _ => rfl⟩ (Int.le_refl _) rfl
  exact ⟨a, b⟩
/-- as many rows as there can be -/
theorem chn_M {X : Int → Int} {M : Int} (B : Int) : ∀ (k : Nat) (i r : Int) (b : Bool), chn F X M k i r b → 0 ≤ r → r ≤ B → (∀ j, X j ≤ B) → 0 ≤ M ∧ M ≤ B + 1 := by
  intro k
  induction k with
  | zero =>
    intro i r b c r0 r1 x
    have e : M = if b = true then r + 1 else 0 := c
    rw [e]
    split <;> omega
  | succ k ih =>
    intro i r b c r0 r1 x
    simp only [chn] at c
    by_cases z : X (F (256 + i)) < 0
    · rw [if_pos z] at c
      exact ih _ _ _ c r0 r1 x
    · rw [if_neg z] at c
      exact ih _ _ _ c.2 (by omega) (x _) x
end

