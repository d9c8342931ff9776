section
theorem sk_kf {g k : HP} (z : hsz g = 983) (p : Kf 983 983 983 0 g k) : Sk g k := ⟨p.1, fun a ha => by
  have hx : a < 983 := by omega
  obtain ⟨⟨a1, a2, a3, a4, a5⟩, a6⟩ := p.2 a hx (by omega)
  exact ⟨a1, a2, fun _ i => a5 i, fun f _ _ _ => (a6 f (by omega)).2.2⟩⟩
/-- what the two constructors make -/
theorem start_RR : ∃ g k, fX10_init 0 (nw hp0 10 0 13) = some g ∧ fX11_init 983 (nw g 11 0 49) = some k ∧ hsz g = 983 ∧ RR k 0 := by
  obtain ⟨g, a1, a2, a3, a4, a5, a6, a7, a8, a9, a10, a11, a12⟩ := class_new (h := nw hp0 10 0 13) rfl rfl (fun u => by rw [rIN]; exact if_pos rfl)
  have z0 : hsz (nw g 11 0 49) = 984 := by show hsz g + 1 = _; omega
  obtain ⟨k, b1, b2, b3, b4, b5, b6, ⟨b7, b8, b9⟩, b10, b11, b12, b13, b14, b15⟩ := model_new z0 (isO_new a2 rfl) (fun u => by rw [rIN, if_pos a2.symm])
  have p : Kf 983 983 983 0 g k := Kf.tr (kf_nw (h := g) (n := 983) (e := 983) (t := 983) (f := 0) (by omega)) b2 (by omega) (by omega) (by omega)
  have C : CS k := a4.sk (sk_kf a2 p)
  have fz : FZ k 3 := a6.kf p (by omega) (by omega) (by omega)
  have I : ∀ {u x v}, hI g u x = v → x < 983 → hI k u x = v := fun w hx => p.I w hx (by omega) (by omega)
  have s3 : hsl (nw g 11 0 49) = hsl g + 49 := rfl
  have s0 : hsl (nw hp0 10 0 13) = 13 := rfl
  have w1 : ∀ j : Int, j < 32 → Wm k j = -1 := fun j hj => by
    unfold Wm
    rw [b10 j.toNat (by omega)]; decide
  have w2 : ∀ j : Int, 32 ≤ j → Wm k j = 0 := fun j hj => by
    unfold Wm
    rw [b11 j.toNat (by omega)]; decide
  have f1 : ∀ j : Int, j < 32 → Wf (Wm k) 0 j = -1 := fun j hj => w1 _ (by omega)
  have f2 : ∀ j : Int, 32 ≤ j → Wf (Wm k) 0 j = 0 := fun j hj => w2 _ (by omega)
  have ef : emp (Wf (Wm k) 0) = Wf (Wm k) 0 := funext fun j => by
    by_cases c : j < 32
    · rw [emp_0 c, f1 j c]
    · by_cases d : j < 292
      · rw [emp_1 (by omega) d, f2 j (by omega)]
      · rw [emp_2 (by omega)]
  obtain ⟨z1, z2, z3, z4, z5, z6, z7⟩ := fz
  have e0 : (0 : Int32) = i32 0 := by decide
  refine ⟨g, k, a1, b1, a2, C, b5, fun i hi => p.L (a5 i hi) (by omega) (by omega), b6, ⟨40, 40, 20, b7, b8, b9, by omega, by omega, by omega⟩, ?_, 0, 0, b15.trans e0, ?_, by omega, by omega, by omega, ?_, ?_⟩
  · rw [I a8 (by omega), b13]
  · exact ⟨fun _ => 0, (I a7 (by omega)).trans e0, b12.trans e0, by omega, fun i i0 i1 => absurd i1 (by omega), fun i i0 i1 => absurd i1 (by omega)⟩
  · refine ⟨⟨⟨⟨?_, ?_, ?_, ?_, ?_⟩, fun n n0 n1 hn => absurd (f1 n n1) hn⟩, ?_, z1.trans b7.symm, z2.trans b8.symm, z3.trans b9.symm⟩, ⟨?_, ?_, ?_⟩, ⟨?_, ?_, ?_⟩, ?_, ?_⟩
    · rw [f2 289 (by omega)]; exact z4.trans e0
    · rw [f2 290 (by omega)]; exact z5.trans e0
    · rw [f2 288 (by omega)]; exact z6.trans e0
    · intro i i0 i1
      rw [f2 288 (by omega)] at i1; omega
    · intro n n0 n1
      exact Or.inl ⟨f1 n n1, (z7 n.toNat (by omega)).trans e0⟩
    · have w := emp_W (Wf (Wm k) 0)
      rw [ef] at w
      exact FWf_C w (fun n n0 n1 hn => absurd (f1 n n1) hn)
    · rw [w2 2628 (by omega)]; exact (I a11 (by omega)).trans e0
    · rw [w2 2628 (by omega)]; omega
    · rw [w2 2628 (by omega)]; omega
    · rw [w2 2629 (by omega)]; exact (I a12 (by omega)).trans e0
    · rw [w2 2629 (by omega)]; omega
    · rw [w2 2629 (by omega)]; omega
    · intro r hr
      rw [w2 2628 (by omega)] at hr; omega
    · intro s hs
      rw [w2 2629 (by omega)] at hs; omega
  · exact ⟨0, 0, by omega, by omega, (I a9 (by omega)).trans e0, (I a10 (by omega)).trans e0, b14.trans e0, ⟨fun j hj => by omega, fun h => by omega⟩, fun j hj => by omega⟩
/-! a float that is a number is a double that is a number -/
theorem enc64_fin (s : Bool) (c : Nat) (q : Int) (h1 : c < 9007199254740992) (h2 : -1074 ≤ q) (h3 : q ≤ 971) : FP.Core.encode FP.Core.b64 (.fin s c q) % 9223372036854775808 ≤ 9218868437227405312 := by
  have e : FP.Core.encode FP.Core.b64 (.fin s c q) = if c < 4503599627370496 then (s.toNat * 2048 + 0) * 4503599627370496 + c else (s.toNat * 2048 + ((q - (-1074)).toNat + 1)) * 4503599627370496 + (c - 4503599627370496) := rfl
  rw [e]
  have b : s.toNat ≤ 1 := by cases s <;> decide
  split <;> omega
theorem enc64_inf (s : Bool) : FP.Core.encode FP.Core.b64 (.inf s) % 9223372036854775808 ≤ 9218868437227405312 := by cases s <;> decide
theorem enc64_settle (s : Bool) (c : Nat) (q : Int) (h2 : -1074 ≤ q) : FP.Core.encode FP.Core.b64 (FP.Core.settle FP.Core.b64 s c q) % 9223372036854775808 ≤ 9218868437227405312 := by
  have bd : ∀ (c : Nat) (q : Int), c < 9007199254740992 → -1074 ≤ q → FP.Core.encode FP.Core.b64 (FP.Core.bound FP.Core.b64 s c q) % 9223372036854775808 ≤ 9218868437227405312 := fun c q h1 h2 => by
    have e : FP.Core.bound FP.Core.b64 s c q = if q ≤ 971 then .fin s c q else .inf s := rfl
    rw [e]
    by_cases h3 : q ≤ 971
    · rw [if_pos h3]; exact enc64_fin s c q h1 h2 h3
    · rw [if_neg h3]; exact enc64_inf s
  have e : FP.Core.settle FP.Core.b64 s c q = if c < 9007199254740992 then FP.Core.bound FP.Core.b64 s c q else FP.Core.bound FP.Core.b64 s 4503599627370496 (q + 1) := rfl
  rw [e]
  by_cases h1 : c < 9007199254740992
  · rw [if_pos h1]; exact bd c q h1 h2
  · rw [if_neg h1]; exact bd _ _ (by decide) (by omega)
theorem enc64_ratio (s : Bool) (a b : Nat) (e : Int) : FP.Core.encode FP.Core.b64 (FP.Core.roundRatio FP.Core.b64 s a b e) % 9223372036854775808 ≤ 9218868437227405312 := by
  unfold FP.Core.roundRatio
  by_cases c : a = 0
  · rw [if_pos c]; exact enc64_fin s 0 _ (by decide) (by decide) (by decide)
  · rw [if_neg c]
    unfold FP.Core.roundAt
    refine enc64_settle _ _ _ ?_
    unfold FP.Core.quantum
    exact Int.le_max_left _ _
theorem f2d_nn {x : UInt32} (h : nn32 x = true) : vf_n64 (FP.f2d x) := by
  have h1 : x.toNat % 2147483648 ≤ 2139095040 := by
    unfold nn32 at h
    rw [decide_eq_true_eq, UInt32.le_iff_toNat_le, UInt32.toNat_and] at h
    have e : x.toNat &&& (2 ^ 31 - 1) = x.toNat % 2 ^ 31 := Nat.and_two_pow_sub_one_eq_mod _ 31
    have h' : x.toNat &&& (2 ^ 31 - 1) ≤ 2139095040 := h
    omega
  have nd : FP.Core.decode FP.Core.b32 x.toNat ≠ .nan := by
    unfold FP.Core.decode
    by_cases c : FP.Core.fieldE FP.Core.b32 x.toNat = FP.Core.b32.exps - 1
    · rw [if_pos c]
      have c' : x.toNat / 8388608 % 256 = 255 := c
      rw [if_pos (show FP.Core.fieldT FP.Core.b32 x.toNat = 0 from (show x.toNat % 8388608 = 0 by omega))]
      exact fun z => by cases z
    · rw [if_neg c]
      split <;> exact fun z => by cases z
  have nn : FP.Core.fIsNaN x = false := decide_eq_false nd
  have e1 : FP.f2d x = UInt64.ofNat (FP.Core.encode FP.Core.b64 (FP.Core.round FP.Core.b64 (FP.Core.decode FP.Core.b32 x.toNat))) := by
    unfold FP.f2d; rw [nn]; rfl
  have k : ∀ D : FP.Core.Datum, D ≠ .nan → FP.Core.encode FP.Core.b64 (FP.Core.round FP.Core.b64 D) % 9223372036854775808 ≤ 9218868437227405312 := fun D hD => by
    cases D with
    | nan => exact absurd rfl hD
    | inf s => exact enc64_inf s
    | fin s c q => exact enc64_ratio s c 1 q
  have k2 := k _ nd
  rw [e1]
  unfold vf_n64
  rw [UInt64.le_iff_toNat_le, UInt64.toNat_and, UInt64.toNat_ofNat']
  show (_ % 2 ^ 64) &&& (2 ^ 63 - 1) ≤ 9218868437227405312
  rw [Nat.and_two_pow_sub_one_eq_mod]
  omega
end

