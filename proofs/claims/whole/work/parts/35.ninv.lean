/-! WHAT HOLDS WHILE NODES ARE READ -/
section
variable {b : Int → Int} {n : Int}
/-- places in the text, tests and parts so far -/
def MBz (b : Int → Int) (n : Int) (j : Nat) (S : List TS) (LL : List Int) : Prop := (j : Int) ≤ tS b n j ∧ 4 * (S.length : Int) ≤ tS b n j ∧ LL.length ≤ j ∧ 5 * (LL.length : Int) ≤ 2 * tS b n j
theorem MBz_1 {j : Nat} {S : List TS} {LL : List Int} (n0 : 0 ≤ n) (B : MBz b n j S LL) (h : tkk (tkn b n j) ≠ 0) : MBz b n (j + 1) S LL := by
  have s := tS_1 (b := b) n0 (j := j) h
  obtain ⟨b1, b2, b3⟩ := B
  exact ⟨by omega, by omega, by omega⟩
/-- tests belong to their nodes -/
def OWN (n : Int) (F : Int → Int) (S : List TS) (LL : List Int) (was : Nat) (old : Int → Bool) : Prop := (∀ m, 0 ≤ m → m < 32 → F m ≠ -1 → old m = false → ∀ e ∈ seg F LL was m, (1 ≤ e ∧ e ≤ 3) ∨ ∃ (k : Nat) (x : TS), e = 4 + (k : Int) ∧ S[k]? = some x ∧ x.2.2.1 = m) ∧ ∀ (k : Nat) (x : TS), S[k]? = some x → tsOk n x.2.2.1 x ∧ 0 ≤ x.2.2.1 ∧ x.2.2.1 < 32 ∧ F x.2.2.1 ≠ -1 ∧ old x.2.2.1 = false ∧ 4 + (k : Int) ∈ seg F LL was x.2.2.1
variable {F : Int → Int} {S : List TS} {LL : List Int} {was : Nat} {old : Int → Bool}
/-- a new node without a condition changes nothing of this -/
theorem own_new (o : OWN n F S LL was old) (G : Int → Int) {node : Int} (h0 : 0 ≤ node) (h1 : node < 32) (nab : F node = -1) (hG : ∀ x, 0 ≤ x → x < 32 → x ≠ node → G x = F x) (hG2 : ∀ x, 192 ≤ x → x < 256 → x ≠ 192 + node → x ≠ 224 + node → G x = F x) (hz : G (224 + node) = 0) : OWN n G S LL was old := by
  obtain ⟨o1, o2⟩ := o
  have sg : ∀ m, 0 ≤ m → m < 32 → m ≠ node → seg G LL was m = seg F LL was m := fun m a c d => seg_eq (hG2 _ (by omega) (by omega) (by omega) (by omega)) (hG2 _ (by omega) (by omega) (by omega) (by omega))
  refine ⟨fun m a c d e => ?_, fun k x h => ?_⟩
  · by_cases q : m = node
    · rw [q, seg_0 hz]; intro e he; cases he
    · rw [sg m a c q]
      rw [hG m a c q] at d
      exact o1 m a c d e
  · obtain ⟨h1, h2, h3, h4, h5, h6⟩ := o2 k x h
    have q : x.2.2.1 ≠ node := fun z => h4 (by rw [z]; exact nab)
    exact ⟨h1, h2, h3, by rw [hG _ h2 h3 q]; exact h4, h5, by rw [sg _ h2 h3 q]; exact h6⟩
/-- a node gets its condition -/
theorem pif_inv (n0 : 0 ≤ n) {j : Nat} {node : Int} (B : MBz b n j S LL) (cv : CV F LL was old) (o : OWN n F S LL was old) (h0 : 0 ≤ node) (h1 : node < 32) (np : F node ≠ -1) (no : old node = false) (nz : F (224 + node) = 0) {k : Int} (ok : (pend (tkn b n) k (pif (tkn b n) was node j F S LL)).1 = true) (k0 : k ≠ 0) :
  ∃ fr sz, (pend (tkn b n) k (pif (tkn b n) was node j F S LL)).2.2.1 = setc F node fr sz ∧ j < (pend (tkn b n) k (pif (tkn b n) was node j F S LL)).2.1 ∧ MBz b n (pend (tkn b n) k (pif (tkn b n) was node j F S LL)).2.1 (pend (tkn b n) k (pif (tkn b n) was node j F S LL)).2.2.2.1 (pend (tkn b n) k (pif (tkn b n) was node j F S LL)).2.2.2.2 ∧ CV (setc F node fr sz) (pend (tkn b n) k (pif (tkn b n) was node j F S LL)).2.2.2.2 was old ∧ OWN n (setc F node fr sz) (pend (tkn b n) k (pif (tkn b n) was node j F S LL)).2.2.2.1 (pend (tkn b n) k (pif (tkn b n) was node j F S LL)).2.2.2.2 was old := by
  have hp : ∀ Z : ZR, (pend (tkn b n) k Z).1 = true → Z.1 = true ∧ tkk (tkn b n Z.2.1) = k ∧ pend (tkn b n) k Z = (true, Z.2.1 + 1, Z.2.2) := by
    intro Z h
    unfold pend at h ⊢
    by_cases c : Z.1 = true
    · rw [if_pos c] at h ⊢
      by_cases d : tkk (tkn b n Z.2.1) = k
      · rw [if_pos d] at h ⊢; exact ⟨c, d, rfl⟩
      · rw [if_neg d] at h; cases h
    · rw [if_neg c] at h; exact absurd h c
  obtain ⟨z1, z2, z3⟩ := hp _ ok
  rw [z3]
  unfold pif at z1 z2 ⊢
  by_cases tk : tkk (tkn b n j) = 6
  · rw [if_pos tk] at z1 z2 ⊢
    have tp := tp_cond (b := b) n0 (ow := node) (j + 1) S
    have ap := ap_dis (b := b) n0 (ow := node) 6 (j + 1) S
    change AP b n (j + 1) S (pcond (tkn b n) node (j + 1) S) at ap
    have ap5 := ap5_dis (b := b) n0 (ow := node) 6 (j + 1) S
    change AQ5 b n (j + 1) (pcond (tkn b n) node (j + 1) S) at ap5
    generalize pcond (tkn b n) node (j + 1) S = PD at *
    cases okP : PD.1 with
    | false => rw [okP] at z1; cases z1
    | true =>
      simp only [okP] at z2 ⊢
      obtain ⟨S2, t1, t2, t3⟩ := tp okP
      obtain ⟨⟨a1, a0⟩, a2, -, a4, a5, a6, a7, a8, a9⟩ := ap okP
      have a10 := ap5 okP 0 0 (Or.inl rfl) (Or.inl rfl)
      have iw : isw (tK b n j) := by unfold isw tK; omega
      have w1 := (tS_w n0 iw).1
      have kk := (tk_val (b := b) n0 j).2.1 (Or.inr (by rw [tk]; exact ⟨by decide, by decide⟩))
      have e294 : tkv (tkn b n j) = 294 := kwk_inj 2 (by decide) _ (by rw [kk.2, tk, kwk_kws 2 (by decide)]; rfl)
      have w2 : nl (tkv (tkn b n j)) = 2 := by rw [e294]; decide
      have s2 := tS_1 (b := b) n0 (j := PD.2.1) (by show tkk (tkn b n PD.2.1) ≠ 0; rw [z2]; exact k0)
      obtain ⟨b1, b2, b3⟩ := B
      have L0 : ((was : Int) + LL.length - was).toNat = LL.length := by omega
      have sgn : seg (setc F node (was + LL.length) PD.2.2.2.length) (LL ++ PD.2.2.2) was node = PD.2.2.2 := by
        unfold seg
        rw [setc_fr, setc_sz, L0, List.drop_left, Int.toNat_natCast, List.take_length]
      have sgo : ∀ m, 0 ≤ m → m < 32 → m ≠ node → F m ≠ -1 → old m = false → seg (setc F node (was + LL.length) PD.2.2.2.length) (LL ++ PD.2.2.2) was m = seg F LL was m := by
        intro m m0 m1 m2 m3 m4
        obtain ⟨c1, c2⟩ := cv m m0 m1 m3 m4
        rw [seg_eq (F := F) (by unfold setc; rw [updI_ne (by omega), updI_ne (by omega)]) (by unfold setc; rw [updI_ne (by omega), updI_ne (by omega)])]
        exact seg_app c1 c2
      have lo : ∀ m, m < 32 → setc F node (was + LL.length) PD.2.2.2.length m = F m := fun m hm => setc_lo h0 h1 (Or.inl (by omega))
      refine ⟨was + LL.length, PD.2.2.2.length, rfl, by show j < PD.2.1 + 1; omega, ⟨?_, ?_, ?_⟩, fun m m0 m1 m2 m3 => ?_, fun m m0 m1 m2 m3 e he => ?_, fun q x h => ?_⟩
      · show ((PD.2.1 + 1 : Nat) : Int) ≤ tS b n (PD.2.1 + 1)
        have := a2 (by omega); omega
      · show 4 * (PD.2.2.1.length : Int) ≤ tS b n (PD.2.1 + 1)
        omega
      · show (LL ++ PD.2.2.2).length ≤ PD.2.1 + 1 ∧ 5 * ((LL ++ PD.2.2.2).length : Int) ≤ 2 * tS b n (PD.2.1 + 1)
        rw [List.length_append]
        exact ⟨by omega, by omega⟩
      · show 0 ≤ setc F node (was + LL.length) PD.2.2.2.length (224 + m) ∧ (_ ∨ (_ ∧ _ ≤ (was : Int) + (LL ++ PD.2.2.2).length))
        rw [List.length_append]
        rw [lo m m1] at m2
        by_cases q : m = node
        · unfold setc
          rw [q, updI_at rfl, updI_ne (by omega), updI_at rfl]
          omega
        · unfold setc
          rw [updI_ne (by omega), updI_ne (by omega), updI_ne (by omega), updI_ne (by omega)]
          have := cv m m0 m1 m2 m3
          omega
      · rw [lo m m1] at m2
        change e ∈ seg (setc F node (was + LL.length) PD.2.2.2.length) (LL ++ PD.2.2.2) was m at he
        show _ ∨ ∃ (k : Nat) (x : TS), e = 4 + (k : Int) ∧ PD.2.2.1[k]? = some x ∧ _
        by_cases q : m = node
        · rw [q, sgn] at he
          by_cases e4 : 4 ≤ e
          · have hm : e ∈ PD.2.2.2.filter ist := List.mem_filter.mpr ⟨he, by unfold ist; rw [decide_eq_true_eq]; exact e4⟩
            rw [t2] at hm
            obtain ⟨k, k1, k2, k3⟩ := idx_mem.mp hm
            right
            have hk : k < PD.2.2.1.length := by rw [t1, List.length_append]; omega
            obtain ⟨x, hx⟩ : ∃ x, PD.2.2.1[k]? = some x := ⟨_, List.getElem?_eq_getElem hk⟩
            refine ⟨k, x, k3, hx, ?_⟩
            rw [t1, List.getElem?_append_right k1] at hx
            rw [q]; exact (t3 _ (List.mem_of_getElem? hx)).2.2.2.1
          · have := a9 e he; omega
        · rw [sgo m m0 m1 q m2 m3] at he
          rcases o.1 m m0 m1 m2 m3 e he with h | ⟨k, x, h2, h3, h4⟩
          · exact Or.inl h
          · refine Or.inr ⟨k, x, h2, ?_, h4⟩
            have hk := (List.getElem?_eq_some_iff.mp h3).1
            rw [t1, List.getElem?_append_left hk]; exact h3
      · change PD.2.2.1[q]? = some x at h
        show _ ∧ _ ∧ _ ∧ _ ∧ _ ∧ 4 + (q : Int) ∈ seg (setc F node (was + LL.length) PD.2.2.2.length) (LL ++ PD.2.2.2) was x.2.2.1
        rw [t1] at h
        by_cases hq : q < S.length
        · rw [List.getElem?_append_left hq] at h
          obtain ⟨x1, x2, x3, x4, x5, x6⟩ := o.2 q x h
          have xn : x.2.2.1 ≠ node := by
            intro z
            rw [z, seg_0 nz] at x6
            cases x6
          exact ⟨x1, x2, x3, by rw [lo _ x3]; exact x4, x5, by rw [sgo _ x2 x3 xn x4 x5]; exact x6⟩
        · rw [List.getElem?_append_right (by omega)] at h
          have hx := List.mem_of_getElem? h
          have tk3 := t3 x hx
          have ow : x.2.2.1 = node := tk3.2.2.2.1
          rw [ow]
          refine ⟨tk3, h0, h1, by rw [lo _ h1]; exact np, no, ?_⟩
          rw [sgn]
          have hl := (List.getElem?_eq_some_iff.mp h).1
          have : (4 + (q : Int)) ∈ PD.2.2.2.filter ist := by
            rw [t2]
            exact idx_mem.mpr ⟨q, by omega, by omega, rfl⟩
          exact (List.mem_filter.mp this).1
  · rw [if_neg tk] at z2 ⊢
    have es : setc F node (F (192 + node)) (F (224 + node)) = F := by
      funext x
      unfold setc
      by_cases c1 : x = 224 + node
      · rw [updI_at c1, c1]
      · rw [updI_ne c1]
        by_cases c2 : x = 192 + node
        · rw [updI_at c2, c2]
        · rw [updI_ne c2]
    have z2' : tkk (tkn b n j) ≠ 0 := by
      change tkk (tkn b n j) = k at z2
      rw [z2]; exact k0
    refine ⟨F (192 + node), F (224 + node), es.symm, Nat.lt_succ_self j, MBz_1 n0 B z2', ?_⟩
    rw [es]
    exact ⟨cv, o⟩
/-- what holds of a form while it is read: its nodes' kinds, too -/
def NI (b : Int → Int) (n : Int) (was : Nat) (old : Int → Bool) (F0 : Int → Int) (j : Nat) (F : Int → Int) (S : List TS) (LL : List Int) : Prop := TF F ∧ KD F ∧ CV F LL was old ∧ OWN n F S LL was old ∧ MBz b n j S LL ∧ (∀ m, old m = true → 0 ≤ m ∧ m < 32 ∧ F m ≠ -1) ∧ ∀ m, old m = true → ∀ q : Nat, q < 8 → F (32 * q + m) = F0 (32 * q + m)
theorem pend_ok {T : Nat → TK} {k : Int} {Z : ZR} (h : (pend T k Z).1 = true) : Z.1 = true := by
  unfold pend at h
  by_cases c : Z.1 = true
  · exact c
  · rw [if_neg c] at h; exact h
theorem pnum_ok {T : Nat → TK} {srt : Int} {j : Nat} (s0 : 0 ≤ srt) (s1 : srt ≤ 2) (h : (pnum T srt j).1 = true) : ((srt = 0 ∧ 0 ≤ (pnum T srt j).2.2.1 ∧ (pnum T srt j).2.2.1 ≤ (pnum T srt j).2.2.2 ∧ (pnum T srt j).2.2.2 ≤ 9999) ∨ (srt = 1 ∧ (pnum T srt j).2.2.1 = 0 ∧ 1 ≤ (pnum T srt j).2.2.2 ∧ (pnum T srt j).2.2.2 ≤ 8) ∨ (srt = 2 ∧ (pnum T srt j).2.2.1 = 0 ∧ (pnum T srt j).2.2.2 = 1)) ∧ ∀ S LL, 0 ≤ n → T = tkn b n → MBz b n j S LL → j ≤ (pnum T srt j).2.1 ∧ MBz b n (pnum T srt j).2.1 S LL := by
  unfold pnum at h ⊢
  by_cases c0 : srt = 0
  · rw [if_pos c0] at h ⊢
    by_cases c1 : pin (T j) 0 9999 = true
    · rw [if_pos c1] at h ⊢
      by_cases c2 : pin (T (j + 1)) (tkv (T j)) 9999 = true
      · rw [if_pos c2]
        have d1 := pin_t.mp c1
        have d2 := pin_t.mp c2
        refine ⟨Or.inl ⟨c0, d1.2.1, d2.2.1, d2.2.2⟩, fun S LL n0 e B => ⟨by show j ≤ j + 2; omega, ?_⟩⟩
        subst e
        exact MBz_1 n0 (MBz_1 n0 B (by omega)) (by omega)
      · rw [if_neg c2] at h; cases h
    · rw [if_neg c1] at h; cases h
  · rw [if_neg c0] at h ⊢
    by_cases c1 : srt = 1
    · rw [if_pos c1] at h ⊢
      by_cases c2 : pin (T j) 2 9 = true
      · rw [if_pos c2]
        have d1 := pin_t.mp c2
        refine ⟨Or.inr (Or.inl ⟨c1, rfl, by show 1 ≤ tkv (T j) - 1; omega, by show tkv (T j) - 1 ≤ 8; omega⟩), fun S LL n0 e B => ⟨by show j ≤ j + 1; omega, ?_⟩⟩
        subst e
        exact MBz_1 n0 B (by omega)
      · rw [if_neg c2] at h; cases h
    · rw [if_neg c1] at h ⊢
      exact ⟨Or.inr (Or.inr ⟨by omega, rfl, rfl⟩), fun S LL n0 e B => ⟨Nat.le_refl _, B⟩⟩
variable {F0 : Int → Int} {j : Nat} {ins pl : Int} {op : Nat}
theorem no_of (hold : ∀ m, old m = true → 0 ≤ m ∧ m < 32 ∧ F m ≠ -1) {node : Int} (nab : F node = -1) : old node = false := by
  cases q : old node with
  | false => rfl
  | true => exact absurd nab (hold _ q).2.2
/-- a node was read, up to its last token -/
theorem ni_pend (n0 : 0 ≤ n) (N : NI b n was old F0 j F S LL) (P : PLs F op ins pl) (gk : grok F ins) {node srt nm : Int} (h0 : 0 ≤ node) (h1 : node < 32) (G : Int → Int) (hn : (node = F 289 ∧ F 289 < 24 ∧ G 289 = F 289 + 1 ∧ G 290 = F 290) ∨ (node = 24 + F 290 ∧ F 290 < 8 ∧ G 290 = F 290 + 1 ∧ G 289 = F 289 ∧ ends F 3 ins)) (v : NV nm) (fr : fnm F nm < 0)
    (hG : ∀ x, 0 ≤ x → x ≤ 288 → (x < 64 ∨ 256 ≤ x) → G x = addF F pl node ins srt nm x) (hG2 : ∀ x, 64 ≤ x → x < 256 → x ≠ 64 + node → x ≠ 96 + node → x ≠ 128 + node → x ≠ 160 + node → x ≠ 192 + node → x ≠ 224 + node → G x = F x) (hz : G (224 + node) = 0) (hk : kdOk G node) {jn : Nat} (B : MBz b n jn S LL) {k : Int} (k0 : k ≠ 0) (ok : (pend (tkn b n) k (pif (tkn b n) was node jn G S LL)).1 = true) (jj : j ≤ jn) :
  j < (pend (tkn b n) k (pif (tkn b n) was node jn G S LL)).2.1 ∧ NI b n was old F0 (pend (tkn b n) k (pif (tkn b n) was node jn G S LL)).2.1 (pend (tkn b n) k (pif (tkn b n) was node jn G S LL)).2.2.1 (pend (tkn b n) k (pif (tkn b n) was node jn G S LL)).2.2.2.1 (pend (tkn b n) k (pif (tkn b n) was node jn G S LL)).2.2.2.2 ∧ PLs (pend (tkn b n) k (pif (tkn b n) was node jn G S LL)).2.2.1 op ins (pl + 1) ∧ (24 ≤ node → PLs (pend (tkn b n) k (pif (tkn b n) was node jn G S LL)).2.2.1 (op + 1) node (pl + 1)) ∧ (∀ x, 0 ≤ x → (x < 192 ∨ 256 ≤ x) → (pend (tkn b n) k (pif (tkn b n) was node jn G S LL)).2.2.1 x = G x) ∧ F node = -1 := by
  obtain ⟨t, kd, cv, o, _, hold, he⟩ := N
  obtain ⟨t2, nab⟩ := TF_add t G hn gk (P 0 (by omega)) v fr hG
  have p0 := (P 0 (by omega)).1
  have p1 := (P 0 (by omega)).2.1
  have m1 : F 288 < 32 := t.2.2.2.m (n := 0) (by omega)
  obtain ⟨q1, q2⟩ := PLs_add t G h0 h1 nab m1 gk P hG
  have no := no_of hold nab
  have gne : ∀ x, 0 ≤ x → x < 32 → x ≠ node → G x = F x := fun x a c d => by rw [hG x a (by omega) (by omega), addF_n p0 h0 h1 c, if_neg d]
  have gnode : G node = ins := by rw [hG node h0 (by omega) (by omega), addF_n p0 h0 h1 h1, if_pos rfl]
  have np : G node ≠ -1 := by
    rw [gnode]
    rcases gk with h | ⟨h2, h3, h4⟩ <;> omega
  have hG3 : ∀ x, 192 ≤ x → x < 256 → x ≠ 192 + node → x ≠ 224 + node → G x = F x := fun x a c d e => hG2 x (by omega) c (by omega) (by omega) (by omega) (by omega) d e
  have cv2 := cv_new cv G h0 h1 gne hG3 hz
  have o2 := own_new o G h0 h1 nab gne hG3 hz
  obtain ⟨fr, sz, e1, e2, e3, e4, e5⟩ := pif_inv n0 B cv2 o2 h0 h1 np no hz ok k0
  generalize pend (tkn b n) k (pif (tkn b n) was node jn G S LL) = Z at *
  have lo : ∀ x, (x < 192 ∨ 256 ≤ x) → Z.2.2.1 x = G x := fun x hx => by rw [e1]; exact setc_lo h0 h1 hx
  have E : EqT Z.2.2.1 G := ⟨fun x a c => lo x (Or.inl (by omega)), lo 288 (by omega), fun i i0 i1 => lo (256 + i) (by omega)⟩
  have tr2 := t2.1
  have V2 := tr2.av
  have pr : ∀ m, m < 32 → Z.2.2.1 m = G m := fun m hm => lo m (Or.inl (by omega))
  have old2 : ∀ m, 0 ≤ m → m < 32 → G m ≠ -1 → Z.2.2.1 m = G m := fun m _ hm _ => pr m hm
  have ic : ∀ m, thr G m → ∀ c, inch Z.2.2.1 m c ↔ inch G m c := fun m hm c => inch_congr tr2.tv old2 hm
  have thO : ∀ i, 0 ≤ i → i < G 288 → thr G (G (256 + i)) := fun i i0 i1 => Or.inr ⟨(tr2.ov.2.2 i i0 i1).1, (tr2.ov.2.2 i i0 i1).2, tr2.op i i0 i1⟩
  have trZ : TR Z.2.2.1 := by
    refine ⟨EqT_OV E tr2.ov, EqT_OP E tr2.ov tr2.op, fun m a c d => ?_, fun i j i0 i1 j0 j1 x => ?_, EqT_TV E tr2.tv, EqT_CE E V2 tr2.ce, fun q q0 q1 => ?_⟩
    · rw [pr m c] at d
      obtain ⟨i, i0, i1, x⟩ := tr2.po m a c d
      exact ⟨i, i0, by rw [E.2.1]; exact i1, by rw [E.2.2 i i0 i1]; exact x⟩
    · rw [E.2.1] at i1 j1
      rw [E.2.2 i i0 i1, E.2.2 j j0 j1] at x
      exact tr2.dd i j i0 i1 j0 j1 x
    · rw [E.2.1] at q1
      have o' := tr2.ov.2.2 q q0 q1
      rw [E.2.2 q q0 q1, pr _ o'.2]
      rcases tr2.pre q q0 q1 with h | ⟨h, k⟩
      · exact Or.inl h
      · refine Or.inr ⟨h, ?_⟩
        rw [E.2.2 (q - 1) (by omega) (by omega)]
        exact (ic _ (thO (q - 1) (by omega) (by omega)) _).mpr k
  have PLm : ∀ c p, PL G c p → PL Z.2.2.1 c p := by
    intro c p h
    obtain ⟨a0, a1, a2, a3⟩ := h
    refine ⟨a0, by rw [E.2.1]; exact a1, fun z => by rw [E.2.1]; exact a2 z, fun z => ?_⟩
    obtain ⟨c1, c2, c3⟩ := a3 z
    refine ⟨c1, ?_, fun l => ?_⟩
    · rw [E.2.2 (p - 1) (by omega) (by omega)]; exact (ic _ (thO _ (by omega) (by omega)) _).mpr c2
    · rw [E.2.1] at l
      rw [E.2.2 p a0 l]
      exact fun x => c3 l ((ic _ (thO p a0 l) _).mp x)
  have upz : ∀ i m, thr G m → up Z.2.2.1 i m = up G i m := fun i m hm => (up_congr tr2.tv old2 i m hm).1
  have thi : thr G ins := by
    rcases gk with h | ⟨h2, h3, h4⟩
    · exact Or.inl h
    · refine Or.inr ⟨by omega, h3, ?_⟩
      rw [gne ins (by omega) h3 (fun z => h4 (by rw [z]; exact nab))]; exact h4
  refine ⟨by omega, ⟨⟨trZ, ⟨fun m a c d => ?_, fun m m' a c a' c' d d' x => ?_⟩, fun m a c d => ?_, ?_⟩, fun m a c d => ?_, ?_, ?_, e3, fun m hm => ?_, fun m hm q hq => ?_⟩, fun i hi => ?_, fun h24 i hi => ?_, fun x x0 hx => lo x hx, nab⟩
  · rw [lo (32 + m) (by omega)]; rw [pr m c] at d; exact t2.2.1.1 m a c d
  · rw [lo (32 + m) (by omega), lo (32 + m') (by omega)] at x
    rw [pr m c] at d
    rw [pr m' c'] at d'
    exact t2.2.1.2 m m' a c a' c' d d' x
  · rw [pr m c] at d ⊢
    have th := thr_par tr2.tv a c d
    obtain ⟨u1, u2⟩ := t2.2.2.1 m a c d
    exact ⟨ends_congr tr2.tv old2 4 _ th u1, fun h => ends_congr tr2.tv old2 3 _ th (u2 h)⟩
  · obtain ⟨u1, u2, u3, u4, u5, u6⟩ := t2.2.2.2
    refine ⟨by rw [lo 289 (by omega)]; exact u1, by rw [lo 289 (by omega)]; exact u2, by rw [lo 290 (by omega)]; exact u3, by rw [lo 290 (by omega)]; exact u4, by rw [lo 288 (by omega), lo 289 (by omega), lo 290 (by omega)]; exact u5, fun m a c d => ?_⟩
    rw [pr m c] at d
    rw [lo 289 (by omega), lo 290 (by omega)]
    exact u6 m a c d
  · rw [pr m c] at d
    unfold kdOk
    rw [lo (64 + m) (by omega), lo (96 + m) (by omega), lo (128 + m) (by omega), lo (160 + m) (by omega)]
    by_cases q : m = node
    · rw [q]; exact hk
    · rw [gne m a c q] at d
      have := kd m a c d
      unfold kdOk at this
      rw [hG2 (64 + m) (by omega) (by omega) (by omega) (by omega) (by omega) (by omega) (by omega) (by omega), hG2 (96 + m) (by omega) (by omega) (by omega) (by omega) (by omega) (by omega) (by omega) (by omega), hG2 (128 + m) (by omega) (by omega) (by omega) (by omega) (by omega) (by omega) (by omega) (by omega), hG2 (160 + m) (by omega) (by omega) (by omega) (by omega) (by omega) (by omega) (by omega) (by omega)]
      exact this
  · rw [e1]; exact e4
  · rw [e1]; exact e5
  · obtain ⟨a, c, d⟩ := hold m hm
    have q : m ≠ node := fun z => d (by rw [z]; exact nab)
    exact ⟨a, c, by rw [pr m c, gne m a c q]; exact d⟩
  · obtain ⟨a, c, d⟩ := hold m hm
    have q' : m ≠ node := fun z => d (by rw [z]; exact nab)
    rw [← he m hm q hq]
    have s : Z.2.2.1 (32 * q + m) = G (32 * q + m) := by
      rw [e1]
      unfold setc
      rw [updI_ne (by omega), updI_ne (by omega)]
    rw [s]
    by_cases q0 : q = 0
    · rw [q0]; show G (0 + m) = F (0 + m); rw [Int.zero_add]; exact gne m a c q'
    · by_cases q1 : q = 1
      · rw [q1]; show G (32 + m) = F (32 + m)
        rw [hG (32 + m) (by omega) (by omega) (by omega), addF_lo p0 h0 h1 (by omega), if_neg (by omega), if_neg (by omega), if_neg (by omega), if_neg (by omega)]
      · exact hG2 _ (by omega) (by omega) (by omega) (by omega) (by omega) (by omega) (by omega) (by omega)
  · rw [upz i ins thi]; exact PLm _ _ (q1 i hi)
  · have thn : thr G node := Or.inr ⟨h0, h1, np⟩
    rw [upz i node thn]; exact PLm _ _ (q2 h24 i hi)
end
