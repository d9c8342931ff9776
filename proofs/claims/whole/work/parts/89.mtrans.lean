/-! MOVE, THE MODEL'S WORLD -/
section
variable {h g : HP} {x p e ins pp E : Int} {F G : Int → Int}
def cutF (F : Int → Int) (x p e : Int) (q : Int) : Int := if q < 32 then (if F q ≠ -1 ∧ isin F 9 q x = false then F q else -1) else if q < 256 + p then F q else if q = 288 then F 288 - (e - p) else F (q + (e - p))
theorem cut_ex (t : TR F) (x0 : 0 ≤ x) (s : STR F x p e) : CUT F (cutF F x p e) x p e := by
  obtain ⟨s1, s2, s3, _⟩ := s
  have o2 := t.ov.2.1
  refine ⟨fun n k => ?_, fun n n0 n1 k => ?_, ?_, fun i i0 i1 => ?_, fun i i0 i1 => ?_⟩
  · have c := isin_ch (F := F) (n := n) x0 (t.ce.ends k.2.1)
    have w : isin F 9 n x = false := by
      cases w : isin F 9 n x with
      | false => rfl
      | true => exact absurd (c.mp w) k.2.2.2
    unfold cutF
    rw [if_pos k.2.1, if_pos ⟨k.2.2.1, w⟩]
  · have c := isin_ch (F := F) (n := n) x0 (t.ce.ends n1)
    unfold cutF
    rw [if_pos n1, if_neg (fun z => k ⟨n0, n1, z.1, fun w => by rw [c.mpr w] at z; cases z.2⟩)]
  · unfold cutF
    rw [if_neg (by omega), if_neg (by omega), if_pos rfl]
  · unfold cutF
    rw [if_neg (by omega), if_pos (by omega)]
  · unfold cutF
    rw [if_neg (by omega), if_neg (by omega), if_neg (by omega)]
    congr 1; omega
theorem isin_ch8 {n c : Int} (c0 : 0 ≤ c) (e : ends F 8 n) : isin F 8 n c = true ↔ inch F n c := by
  rw [isin_up c0]
  constructor
  · rintro ⟨j, _, b⟩; exact ⟨j, b⟩
  · rintro ⟨j, b⟩
    by_cases q : j ≤ 8
    · exact ⟨j, q, b⟩
    · exfalso
      have w := up_ends 8 n e
      have v := up_add (F := F) 8 (j - 8) n
      rw [show 8 + (j - 8) = j by omega, b, up_neg _ _ w] at v
      omega
theorem ends_out {K : Int → Int} (hk : ∀ n, 0 ≤ n → n < 32 → n ≠ x → K n = F n) (hx : K x = -1) (A : AV F) : ∀ (k : Nat) (q : Int), q < 32 → ends F k q → ends K k q := by
  intro k
  induction k with
  | zero => intro q _ z; exact z
  | succ k ih =>
    intro q q1 z
    by_cases q0 : 0 ≤ q
    · rcases z with z | z
      · exact Or.inl z
      · right
        by_cases c : q = x
        · rw [c, hx]
          cases k with
          | zero => exact (by decide : (-1 : Int) < 0)
          | succ k => exact Or.inl (by decide)
        · rw [hk q q0 q1 c]
          exact ih _ (A q q0 q1).2 z
    · exact Or.inl (by omega)
theorem mcloseM {K : Nat → Int32 → HP → Option HP} {m d : Int} (d0 : 0 < d) (m1 : m ≤ 32) : ∀ (c n : Nat) (i : Int) (f : HP), i + d + c = m → 0 ≤ i → c < n → MS f → Wm f 288 = m → ∃ g, lX11_closes_2 K n 983 (i32 d) (i32 i) f = K 983 (i32 d) g ∧ Mo [987] f g ∧ (∀ q, i ≤ q → q < m - d → Wm g (256 + q) = Wm f (256 + q + d)) ∧ ∀ q, 0 ≤ q → (q < 256 + i ∨ 256 + m - d ≤ q) → Wm g q = Wm f q := by
  intro c
  induction c with
  | zero =>
    intro n i f hi i0 hn M e
    obtain ⟨n, rfl⟩ : ∃ x, n = x + 1 := ⟨n - 1, by omega⟩
    refine ⟨f, ?_, Mo.r, fun q _ _ => by omega, fun q _ _ => rfl⟩
    rw [elX11_closes_2]; unfold bX11_closes_2
    rw [M.o, gd_tt, many_s M (by omega) (by omega), bn_s, Fm0, e, i32_add, if_pos (by rw [i32_le (by omega) (by omega) (by omega) (by omega)]; omega)]
  | succ c ih =>
    intro n i f hi i0 hn M e
    obtain ⟨n, rfl⟩ : ∃ x, n = x + 1 := ⟨n - 1, by omega⟩
    obtain ⟨f1, e1⟩ : ∃ f1, f1 = sL f 987 (256 + i).toNat (hL f 987 (256 + i + d).toNat) := ⟨_, rfl⟩
    have p1 : Mo [987] f f1 := by rw [e1]; exact Mo_L (by decide) _ _
    have r1 : ∀ q, 0 ≤ q → Wm f1 q = if q = 256 + i then Wm f (256 + i + d) else Wm f q := fun q q0 => by
      rw [e1, Wm_set]
      by_cases y : q = 256 + i
      · rw [if_pos (by rw [y]), if_pos y]; rfl
      · rw [if_neg (by omega), if_neg y]
    obtain ⟨g, a1, a2, a3, a4⟩ := ih n (i + 1) f1 (by omega) (by omega) (by omega) (p1.ms M) (by rw [r1 288 (by omega), if_neg (by omega)]; exact e)
    refine ⟨g, ?_, p1.t a2, fun q q0 q1 => ?_, fun q q0 q1 => ?_⟩
    · rw [elX11_closes_2]; unfold bX11_closes_2
      rw [M.o, gd_tt, many_s M (by omega) (by omega), bn_s, Fm0, e, i32_add, if_neg (by rw [i32_le (by omega) (by omega) (by omega) (by omega)]; omega), M.r_world, oc_s, M.o_world, gd_tt, M.n_world, i32_add, i32_add, i32_inb (by omega) (by omega) (by omega), gd_tt, i32_inb (by omega) (by omega) (by omega), gd_tt, i32_cn (by omega) (by omega), i32_cn (by omega) (by omega), ← e1, lt_e, lt_e, i32_add]
      exact a1
    · by_cases y : q = i
      · rw [y, a4 _ (by omega) (by omega), r1 _ (by omega), if_pos rfl]
      · rw [a3 q (by omega) q1, r1 _ (by omega), if_neg (by omega)]
    · rw [a4 q q0 (by omega), r1 q q0, if_neg (by omega)]
theorem mclosesM {m d p : Int} (M : MS g) (e : Wm g 288 = m) (m1 : m ≤ 32) (d0 : 0 < d) (p0 : 0 ≤ p) (pd : p + d ≤ m) : ∃ g', fX11_closes 983 (i32 p) (i32 d) g = some g' ∧ Mo [987] g g' ∧ Wm g' 288 = m - d ∧ (∀ q, p ≤ q → q < m - d → Wm g' (256 + q) = Wm g (256 + (q + d))) ∧ ∀ q, 0 ≤ q → q ≠ 288 → (q < 256 + p ∨ 256 + m - d ≤ q) → Wm g' q = Wm g q := by
  obtain ⟨g1, a1, a2, a3, a4⟩ := mcloseM (K := fun w1 w2 h3 => gd (isO h3 w1 11) <| lt ((hR h3 709 w1)) fun v5 => oc v5 fun o6 => gd (isO h3 o6 23) <| gd (inb (i32 288) (hln h3 o6)) <| gd (inb (i32 288) (hln h3 o6)) <| lt (sL h3 o6 (i32 288).toNatClampNeg ((hL h3 o6 (i32 288).toNatClampNeg) - (w2.toInt64))) fun h11 => some h11) d0 m1 (m - d - p).toNat FU p g (by omega) p0 (by have : FU = 1000000 := rfl; omega) M e
  have M1 := a2.ms M
  obtain ⟨g2, e2⟩ : ∃ g2, g2 = sL g1 987 288 (i64 (m - d)) := ⟨_, rfl⟩
  have e288 : Wm g1 288 = m := by rw [a4 288 (by omega) (by omega)]; exact e
  refine ⟨g2, ?_, a2.t (by rw [e2]; exact Mo_L (by decide) _ _), ?_, fun q q0 q1 => ?_, fun q q0 q1 q2 => ?_⟩
  · unfold fX11_closes
    refine Eq.trans a1 ?_
    show (gd (isO g1 983 11) <| lt ((hR g1 709 983)) fun v5 => oc v5 fun o6 => gd (isO g1 o6 23) <| gd (inb (i32 288) (hln g1 o6)) <| gd (inb (i32 288) (hln g1 o6)) <| lt (sL g1 o6 (i32 288).toNatClampNeg ((hL g1 o6 (i32 288).toNatClampNeg) - ((i32 d).toInt64))) fun h11 => some h11) = _
    have w : hL g1 987 288 = i64 m := by rw [← e288]; exact Wm_e g1 288
    rw [M1.o, gd_tt, M1.r_world, lt_e, oc_s, M1.o_world, gd_tt, M1.n_world, i32_inb (by omega) (by omega) (by omega), gd_tt, gd_tt, i32_cn (by omega) (by omega), show ((288 : Int)).toNat = 288 from rfl, w, i32_64 (by omega) (by omega), i64_sub, ← e2, lt_e]
  · rw [e2, Wm_set, if_pos (by rfl), i64_toInt (by omega) (by omega)]
  · rw [e2, Wm_set, if_neg (by omega), a3 q q0 q1]; congr 1; omega
  · rw [e2, Wm_set, if_neg (by omega), a4 q q0 q2]
theorem lsub_r {l : List Nat} {h g : HP} (q : Mo [987] h g) : Mo [987, 988, 997] h g := q.w (by decide)
/-- the model moves the node, up to the question whether it may -/
theorem mtransfer {y : Int} (M : MS g) (eW : Wm g = F) (t : TR F) (s : STR F x p e) (x0 : 0 ≤ x) (x1 : x < 32) (xp : F x ≠ -1) (c : CUT F G x p e) (y1 : -2147483648 ≤ y) (y2 : y < 2147483648) (n : EN G ins pp E) (hi : INq F x ins) : ∃ gE, (∃ h159, gE = h159 ∧ lX11_move_134 (fun w104 w105 w106 w107 h108 =>
      gd (isO h108 w104 11) <|
      bn (fX11_placeOf w104 (i32 0) w105 h108) fun v111 =>
      bn (fX11_rest w104 w105 h108) fun v113 =>
      lt ((v113 - v111)) fun v114 =>
      lX11_move_183 (fun w115 w116 w117 w118 w119 w120 h121 =>
        gd (isO h121 w115 11) <|
        oc (hR h121 709 w115) fun o123 =>
        gd (isO h121 o123 23) <|
        gd (inb ((i32 0) + w116) (hln h121 o123)) <|
        lt (sL h121 o123 ((i32 0) + w116).toNatClampNeg (i64 (-1))) fun h127 =>
        bn (fX11_closes w115 w119 w120 h127) fun h129 =>
        gd (isO h129 w115 11) <|
        bn (fX11_placeFor w115 w118 w117 h129) fun v132 =>
        bn (fX11_many w115 (i32 0) h129) fun v134 =>
        lt ((v134 - (i32 1))) fun v135 =>
        lX11_move_250 (fun w136 w137 w138 w139 w140 h141 =>
          lX11_move_291 (fun w142 w143 w144 w145 h146 =>
            gd (isO h146 w142 11) <|
            lt ((hR h146 709 w142)) fun v148 =>
            oc v148 fun o149 =>
            gd (isO h146 o149 23) <|
            gd (inb (i32 288) (hln h146 o149)) <|
            gd (inb (i32 288) (hln h146 o149)) <|
            lt (sL h146 o149 (i32 288).toNatClampNeg ((hL h146 o149 (i32 288).toNatClampNeg) + (w145.toInt64))) fun h154 =>
            oc (hR h154 709 w142) fun o155 =>
            gd (isO h154 o155 23) <|
            gd (inb ((i32 0) + w143) (hln h154 o155)) <|
            lt (sL h154 o155 ((i32 0) + w143).toNatClampNeg (w144.toInt64)) fun h159 =>
            bn2 (fX11_isSound w142 h159) fun v161 h162 =>
            if v161 = true then (
              gd (isO h162 w142 11) <|
              bn (fX11_swaps w142 h162) fun h165 =>
              gd (isO h165 w142 11) <|
              bn (fX11_keeps w142 h165) fun h168 =>
              gd (isO h168 w142 11) <|
              bn (fX11_takesMade w142 h168) fun h171 =>
              some (true, h171)
              ) else
            gd (isO h162 w142 11) <|
            bn (fX11_takesMade w142 h162) fun h174 =>
            some (false, h174)) FU w136 w137 w138 w139 w140 (i32 0) h141) FU w115 w116 w118 w120 v132 v135 h129) FU w104 w105 w106 w107 v111 v114 (i32 0) h108) FU 983 (i32 x) (i32 y) (i32 ins) (i32 0) g = bn2 (fX11_isSound 983 h159) fun v161 h162 => if v161 = true then (gd (isO h162 983 11) <| bn (fX11_swaps 983 h162) fun h165 => gd (isO h165 983 11) <| bn (fX11_keeps 983 h165) fun h168 => gd (isO h168 983 11) <| bn (fX11_takesMade 983 h168) fun h171 => some (true, h171)) else gd (isO h162 983 11) <| bn (fX11_takesMade 983 h162) fun h174 => some (false, h174)) ∧ Mo [987, 988, 997] g gE ∧ (∀ i, i < 292 → hL gE 988 i = hL g 987 i) ∧ MVD F G (Wm gE) x p e ins (nth (son G ins) y E (G 288).toNat 0 0) ∧ ∀ q, 32 ≤ q → ¬ (256 ≤ q ∧ q < 289) → Wm gE q = F q := by
  have tG := TR_cut t s x0 x1 c
  have LGt := n.lg tG (y := y)
  obtain ⟨to, eto⟩ : ∃ to, to = nth (son G ins) y E (G 288).toNat 0 0 := ⟨_, rfl⟩
  rw [← eto] at LGt ⊢
  obtain ⟨l1, l2, _⟩ := LGt
  obtain ⟨s1, s2, s3, s4, s5⟩ := id s
  obtain ⟨c1, c2, c3, c4, c5⟩ := id c
  have O := t.ov
  have O2 := O.2.1
  have fu : FU = 1000000 := rfl
  obtain ⟨d, ed⟩ : ∃ d, d = e - p := ⟨_, rfl⟩
  have ib : -2 ≤ ins ∧ ins < 32 := by rcases n with z | z <;> omega
  obtain ⟨g1, a1, p1, b1, _⟩ := mcpyM (w1 := i32 x) (w3 := i32 y) (w4 := i32 ins) (K := fun w104 w105 w106 w107 h108 =>
      gd (isO h108 w104 11) <|
      bn (fX11_placeOf w104 (i32 0) w105 h108) fun v111 =>
      bn (fX11_rest w104 w105 h108) fun v113 =>
      lt ((v113 - v111)) fun v114 =>
      lX11_move_183 (fun w115 w116 w117 w118 w119 w120 h121 =>
        gd (isO h121 w115 11) <|
        oc (hR h121 709 w115) fun o123 =>
        gd (isO h121 o123 23) <|
        gd (inb ((i32 0) + w116) (hln h121 o123)) <|
        lt (sL h121 o123 ((i32 0) + w116).toNatClampNeg (i64 (-1))) fun h127 =>
        bn (fX11_closes w115 w119 w120 h127) fun h129 =>
        gd (isO h129 w115 11) <|
        bn (fX11_placeFor w115 w118 w117 h129) fun v132 =>
        bn (fX11_many w115 (i32 0) h129) fun v134 =>
        lt ((v134 - (i32 1))) fun v135 =>
        lX11_move_250 (fun w136 w137 w138 w139 w140 h141 =>
          lX11_move_291 (fun w142 w143 w144 w145 h146 =>
            gd (isO h146 w142 11) <|
            lt ((hR h146 709 w142)) fun v148 =>
            oc v148 fun o149 =>
            gd (isO h146 o149 23) <|
            gd (inb (i32 288) (hln h146 o149)) <|
            gd (inb (i32 288) (hln h146 o149)) <|
            lt (sL h146 o149 (i32 288).toNatClampNeg ((hL h146 o149 (i32 288).toNatClampNeg) + (w145.toInt64))) fun h154 =>
            oc (hR h154 709 w142) fun o155 =>
            gd (isO h154 o155 23) <|
            gd (inb ((i32 0) + w143) (hln h154 o155)) <|
            lt (sL h154 o155 ((i32 0) + w143).toNatClampNeg (w144.toInt64)) fun h159 =>
            bn2 (fX11_isSound w142 h159) fun v161 h162 =>
            if v161 = true then (
              gd (isO h162 w142 11) <|
              bn (fX11_swaps w142 h162) fun h165 =>
              gd (isO h165 w142 11) <|
              bn (fX11_keeps w142 h165) fun h168 =>
              gd (isO h168 w142 11) <|
              bn (fX11_takesMade w142 h168) fun h171 =>
              some (true, h171)
              ) else
            gd (isO h162 w142 11) <|
            bn (fX11_takesMade w142 h162) fun h174 =>
            some (false, h174)) FU w136 w137 w138 w139 w140 (i32 0) h141) FU w115 w116 w118 w120 v132 v135 h129) FU w104 w105 w106 w107 v111 v114 (i32 0) h108) 292 FU 0 g (by omega) (by decide) M
  have M1 := p1.ms M
  have eW1 : Wm g1 = F := by rw [← eW]; funext j; unfold Wm; rw [p1.L (by decide)]
  obtain ⟨g2, a2, p2, b2, _⟩ := mholdM (w1 := i32 x) (w3 := i32 y) (w4 := i32 ins) (p := p) (d := d) (m := F 288) (K := fun w115 w116 w117 w118 w119 w120 h121 =>
        gd (isO h121 w115 11) <|
        oc (hR h121 709 w115) fun o123 =>
        gd (isO h121 o123 23) <|
        gd (inb ((i32 0) + w116) (hln h121 o123)) <|
        lt (sL h121 o123 ((i32 0) + w116).toNatClampNeg (i64 (-1))) fun h127 =>
        bn (fX11_closes w115 w119 w120 h127) fun h129 =>
        gd (isO h129 w115 11) <|
        bn (fX11_placeFor w115 w118 w117 h129) fun v132 =>
        bn (fX11_many w115 (i32 0) h129) fun v134 =>
        lt ((v134 - (i32 1))) fun v135 =>
        lX11_move_250 (fun w136 w137 w138 w139 w140 h141 =>
          lX11_move_291 (fun w142 w143 w144 w145 h146 =>
            gd (isO h146 w142 11) <|
            lt ((hR h146 709 w142)) fun v148 =>
            oc v148 fun o149 =>
            gd (isO h146 o149 23) <|
            gd (inb (i32 288) (hln h146 o149)) <|
            gd (inb (i32 288) (hln h146 o149)) <|
            lt (sL h146 o149 (i32 288).toNatClampNeg ((hL h146 o149 (i32 288).toNatClampNeg) + (w145.toInt64))) fun h154 =>
            oc (hR h154 709 w142) fun o155 =>
            gd (isO h154 o155 23) <|
            gd (inb ((i32 0) + w143) (hln h154 o155)) <|
            lt (sL h154 o155 ((i32 0) + w143).toNatClampNeg (w144.toInt64)) fun h159 =>
            bn2 (fX11_isSound w142 h159) fun v161 h162 =>
            if v161 = true then (
              gd (isO h162 w142 11) <|
              bn (fX11_swaps w142 h162) fun h165 =>
              gd (isO h165 w142 11) <|
              bn (fX11_keeps w142 h165) fun h168 =>
              gd (isO h168 w142 11) <|
              bn (fX11_takesMade w142 h168) fun h171 =>
              some (true, h171)
              ) else
            gd (isO h162 w142 11) <|
            bn (fX11_takesMade w142 h162) fun h174 =>
            some (false, h174)) FU w136 w137 w138 w139 w140 (i32 0) h141) FU w115 w116 w118 w120 v132 v135 h129) s1 (by omega) O2 d.toNat FU 0 g1 (by omega) (by omega) (by omega) M1
  have M2 := p2.ms M1
  have eW2 : Wm g2 = F := by rw [← eW1]; funext j; unfold Wm; rw [p2.L (by decide)]
  -- the node is out
  obtain ⟨g3, e3⟩ : ∃ g3, g3 = sL g2 987 x.toNat (i64 (-1)) := ⟨_, rfl⟩
  have p3 : Mo [987] g2 g3 := by rw [e3]; exact Mo_L (by decide) _ _
  have M3 := p3.ms M2
  have r3 : ∀ q, 0 ≤ q → Wm g3 q = if q = x then -1 else F q := fun q q0 => by
    rw [e3, Wm_set]
    by_cases z : q = x
    · rw [if_pos (by rw [z]), if_pos z, i64_toInt (by omega) (by omega)]
    · rw [if_neg (by omega), if_neg z, eW2]
  obtain ⟨g4, a4, p4, q1, q2, q3⟩ := mclosesM (m := F 288) (d := d) (p := p) M3 (by rw [r3 288 (by omega), if_neg (by omega)]) O2 (by omega) s1 (by omega)
  have M4 := p4.ms M3
  have lo : ∀ q, 0 ≤ q → q < 32 → q ≠ x → Wm g4 q = F q := fun q a b z => by rw [q3 q a (by omega) (by omega), r3 q a, if_neg z]
  have hx : Wm g4 x = -1 := by rw [q3 x x0 (by omega) (by omega), r3 x x0, if_pos rfl]
  have kf : KF F G (Wm g4) x := by
    refine ⟨fun q k => lo q k.1 k.2.1 (fun z => k.2.2.2 (by rw [z]; exact inch_rfl)), by rw [q1]; omega, fun i i0 i1 => ?_⟩
    by_cases z : i < p
    · rw [q3 _ (by omega) (by omega) (by omega), r3 _ (by omega), if_neg (by omega), c4 i i0 z]
    · rw [q2 i (by omega) (by omega), r3 _ (by omega), if_neg (by omega), c5 i (by omega) (by omega), ed]
  have V4 : AV (Wm g4) := fun q a b => by
    by_cases z : q = x
    · rw [z, hx]; omega
    · rw [lo q a b z]; exact t.av q a b
  have C4 : CE (Wm g4) := fun q a b => ends_out lo hx t.av 8 q b (t.ce q a b)
  have pl := mplace M4 kf t.tv c tG V4 C4 (y := y) y1 y2 n
  rw [← eto] at pl
  have mn4 : Wm g4 288 = F 288 - d := q1
  obtain ⟨g5, a5, _, p5, b5, b5'⟩ := mshiftM (w1 := i32 x) (w4 := i32 ins) (m := F 288) (d := d) (to := to) (K := fun w136 w137 w138 w139 w140 h141 =>
          lX11_move_291 (fun w142 w143 w144 w145 h146 =>
            gd (isO h146 w142 11) <|
            lt ((hR h146 709 w142)) fun v148 =>
            oc v148 fun o149 =>
            gd (isO h146 o149 23) <|
            gd (inb (i32 288) (hln h146 o149)) <|
            gd (inb (i32 288) (hln h146 o149)) <|
            lt (sL h146 o149 (i32 288).toNatClampNeg ((hL h146 o149 (i32 288).toNatClampNeg) + (w145.toInt64))) fun h154 =>
            oc (hR h154 709 w142) fun o155 =>
            gd (isO h154 o155 23) <|
            gd (inb ((i32 0) + w143) (hln h154 o155)) <|
            lt (sL h154 o155 ((i32 0) + w143).toNatClampNeg (w144.toInt64)) fun h159 =>
            bn2 (fX11_isSound w142 h159) fun v161 h162 =>
            if v161 = true then (
              gd (isO h162 w142 11) <|
              bn (fX11_swaps w142 h162) fun h165 =>
              gd (isO h165 w142 11) <|
              bn (fX11_keeps w142 h165) fun h168 =>
              gd (isO h168 w142 11) <|
              bn (fX11_takesMade w142 h168) fun h171 =>
              some (true, h171)
              ) else
            gd (isO h162 w142 11) <|
            bn (fX11_takesMade w142 h162) fun h174 =>
            some (false, h174)) FU w136 w137 w138 w139 w140 (i32 0) h141) (by omega) l1 O2 (F 288 - d - to).toNat FU (F 288 - d - 1) g4 (by omega) (by omega) (by omega) M4
  have M5 := p5.ms M4
  have h997 : ∀ q, hA g5 997 q = hA g2 997 q := fun q => by rw [p5.A (by decide), p4.A (by decide), p3.A (by decide)]
  obtain ⟨g6, a6, _, p6, b6, b6'⟩ := mputM (w1 := i32 x) (w4 := i32 ins) (V := fun q => F (256 + (p + q))) (d := d) (to := to) (K := fun w142 w143 w144 w145 h146 =>
            gd (isO h146 w142 11) <|
            lt ((hR h146 709 w142)) fun v148 =>
            oc v148 fun o149 =>
            gd (isO h146 o149 23) <|
            gd (inb (i32 288) (hln h146 o149)) <|
            gd (inb (i32 288) (hln h146 o149)) <|
            lt (sL h146 o149 (i32 288).toNatClampNeg ((hL h146 o149 (i32 288).toNatClampNeg) + (w145.toInt64))) fun h154 =>
            oc (hR h154 709 w142) fun o155 =>
            gd (isO h154 o155 23) <|
            gd (inb ((i32 0) + w143) (hln h154 o155)) <|
            lt (sL h154 o155 ((i32 0) + w143).toNatClampNeg (w144.toInt64)) fun h159 =>
            bn2 (fX11_isSound w142 h159) fun v161 h162 =>
            if v161 = true then (
              gd (isO h162 w142 11) <|
              bn (fX11_swaps w142 h162) fun h165 =>
              gd (isO h165 w142 11) <|
              bn (fX11_keeps w142 h165) fun h168 =>
              gd (isO h168 w142 11) <|
              bn (fX11_takesMade w142 h168) fun h171 =>
              some (true, h171)
              ) else
            gd (isO h162 w142 11) <|
            bn (fX11_takesMade w142 h162) fun h174 =>
            some (false, h174)) l1 (by omega) (fun q a b => O.2.2 (p + q) (by omega) (by omega)) d.toNat FU 0 g5 (by omega) (by omega) (by omega) M5 (fun q a b => by rw [h997, b2 q a b, eW1])
  have M6 := p6.ms M5
  obtain ⟨g7, e7⟩ : ∃ g7, g7 = sL g6 987 288 (i64 (F 288)) := ⟨_, rfl⟩
  have p7 : Mo [987] g6 g7 := by rw [e7]; exact Mo_L (by decide) _ _
  have M7 := p7.ms M6
  obtain ⟨g8, e8⟩ : ∃ g8, g8 = sL g7 987 x.toNat (i64 ins) := ⟨_, rfl⟩
  have p8 : Mo [987] g7 g8 := by rw [e8]; exact Mo_L (by decide) _ _
  have w6 : Wm g6 288 = F 288 - d := by
    rw [b6' 288 (by omega) (by omega), b5' 288 (by omega) (by omega), mn4]
  have r8 : ∀ q, 0 ≤ q → Wm g8 q = if q = x then ins else if q = 288 then F 288 else Wm g6 q := fun q q0 => by
    rw [e8, Wm_set]
    by_cases z : q = x
    · rw [if_pos (by rw [z]), if_pos z, i64_toInt (by omega) (by omega)]
    · rw [if_neg (by omega), if_neg z, e7, Wm_set]
      by_cases w : q = 288
      · rw [if_pos (by rw [w]; rfl), if_pos w, i64_toInt (by omega) (by omega)]
      · rw [if_neg (by omega), if_neg w]
  refine ⟨g8, ⟨g8, rfl, ?_⟩, (p1.w (by decide)).t ((p2.w (by decide)).t ((p3.w (by decide)).t ((p4.w (by decide)).t ((p5.w (by decide)).t ((p6.w (by decide)).t ((p7.w (by decide)).t (p8.w (by decide)))))))), fun i hi => ?_, ⟨fun q a b z => ?_, ?_, ?_, fun i i0 i1 => ?_, fun i i0 i1 => ?_, fun i i0 i1 => ?_⟩, fun q q0 q1 => ?_⟩
  · refine Eq.trans a1 ?_
    show (gd (isO g1 983 11) <| bn (fX11_placeOf 983 (i32 0) (i32 x) g1) fun v111 => bn (fX11_rest 983 (i32 x) g1) fun v113 => lt ((v113 - v111)) fun v114 => lX11_move_183 _ FU 983 (i32 x) (i32 y) (i32 ins) v111 v114 (i32 0) g1) = _
    rw [M1.o, gd_tt, m_place M1 eW1 t x0 x1 s1 (by omega) s4, bn_s, m_rest M1 eW1 t s x0 x1, bn_s, i32_sub, ← ed, lt_e]
    refine Eq.trans a2 ?_
    show (gd (isO g2 983 11) <| oc (hR g2 709 983) fun o123 => gd (isO g2 o123 23) <| gd (inb ((i32 0) + i32 x) (hln g2 o123)) <| lt (sL g2 o123 ((i32 0) + i32 x).toNatClampNeg (i64 (-1))) fun h127 => bn (fX11_closes 983 (i32 p) (i32 d) h127) fun h129 => gd (isO h129 983 11) <| bn (fX11_placeFor 983 (i32 ins) (i32 y) h129) fun v132 => bn (fX11_many 983 (i32 0) h129) fun v134 => lt ((v134 - (i32 1))) fun v135 => lX11_move_250 _ FU 983 (i32 x) (i32 ins) (i32 d) v132 v135 h129) = _
    rw [M2.o, gd_tt, M2.r_world, oc_s, M2.o_world, gd_tt, M2.n_world, i32_add, Int.zero_add, i32_inb (by omega) (by omega) (by omega), gd_tt, i32_cn (by omega) (by omega), ← e3, lt_e, a4, bn_s, M4.o, gd_tt, pl, bn_s, many_s M4 (by omega) (by omega), bn_s, Fm0, mn4, i32_sub, lt_e]
    refine Eq.trans a5 ?_
    refine Eq.trans a6 ?_
    show (gd (isO g6 983 11) <| lt ((hR g6 709 983)) fun v148 => oc v148 fun o149 => gd (isO g6 o149 23) <| gd (inb (i32 288) (hln g6 o149)) <| gd (inb (i32 288) (hln g6 o149)) <| lt (sL g6 o149 (i32 288).toNatClampNeg ((hL g6 o149 (i32 288).toNatClampNeg) + ((i32 d).toInt64))) fun h154 => oc (hR h154 709 983) fun o155 => gd (isO h154 o155 23) <| gd (inb ((i32 0) + i32 x) (hln h154 o155)) <| lt (sL h154 o155 ((i32 0) + i32 x).toNatClampNeg ((i32 ins).toInt64)) fun h159 => _) = _
    have w : hL g6 987 288 = i64 (F 288 - d) := by rw [← w6]; exact Wm_e g6 288
    rw [M6.o, gd_tt, M6.r_world, lt_e, oc_s, M6.o_world, gd_tt, M6.n_world, i32_inb (by omega) (by omega) (by omega), gd_tt, gd_tt, i32_cn (by omega) (by omega), show ((288 : Int)).toNat = 288 from rfl, w, i32_64 (by omega) (by omega), i64_add, show F 288 - d + d = F 288 by omega, ← e7, lt_e, M7.r_world, oc_s, M7.o_world, gd_tt, M7.n_world, i32_add, Int.zero_add, i32_inb (by omega) (by omega) (by omega), gd_tt, i32_cn (by omega) (by omega), i32_64 (by omega) (by omega), ← e8, lt_e]
  · rw [p8.L (by decide), p7.L (by decide), p6.L (by decide), p5.L (by decide), p4.L (by decide), p3.L (by decide), p2.L (by decide)]
    exact b1 i (by omega) hi
  · rw [r8 q a, if_neg z, if_neg (by omega), b6' q a (by omega), b5' q a (by omega), lo q a b z]
  · rw [r8 x x0, if_pos rfl]
  · rw [r8 288 (by omega), if_neg (by omega), if_pos rfl]
  · rw [r8 _ (by omega), if_neg (by omega), if_neg (by omega), b6' _ (by omega) (by omega), b5' _ (by omega) (by omega)]
    exact kf.2.2 i i0 (by omega)
  · rw [← ed] at i1
    have v := b6 (i - to) (by omega) (by omega)
    rw [show to + (i - to) = i by omega] at v
    rw [r8 _ (by omega), if_neg (by omega), if_neg (by omega), v]
  · rw [← ed] at i0 ⊢
    rw [r8 _ (by omega), if_neg (by omega), if_neg (by omega), b6' _ (by omega) (by omega), b5 i (by omega) (by omega)]
    exact kf.2.2 _ (by omega) (by omega)
  · rw [r8 q (by omega), if_neg (by omega), if_neg (by omega), b6' q (by omega) (by omega), b5' q (by omega) (by omega), q3 q (by omega) (by omega) (by omega), r3 q (by omega), if_neg (by omega)]
end

