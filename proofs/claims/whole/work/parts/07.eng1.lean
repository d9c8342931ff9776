/-! THE PURE MACHINE, part 1: its heap, and the world of cells that it stands for -/
def cnm : Nat → String := fun k => match k with
  | 0 => RX0
  | 1 => RX1
  | 2 => RX2
  | 3 => RX3
  | 4 => RX4
  | 5 => RX5
  | 6 => RX6
  | 7 => RX7
  | 8 => RX8
  | 9 => RX9
  | 10 => RX10
  | 11 => RX11
  | 12 => RL
  | 13 => RJ6
  | 14 => RJ9
  | 15 => RJ0
  | 16 => RJ1
  | _ => RJ3
def tC : Nat → u_T := fun k => match k with
  | 0 => TX0
  | 1 => TX1
  | 2 => TX2
  | 3 => TX3
  | 4 => TX4
  | 5 => TX5
  | 6 => TX6
  | 7 => TX7
  | 8 => TX8
  | 9 => TX9
  | 10 => TX10
  | _ => TX11
def tyC : Nat → Nat → FieldType := fun k => match k with
  | 0 => tyX0
  | 1 => tyX1
  | 2 => tyX2
  | 3 => tyX3
  | 4 => tyX4
  | 5 => tyX5
  | 6 => tyX6
  | 7 => tyX7
  | 8 => tyX8
  | 9 => tyX9
  | 10 => tyX10
  | _ => tyX11
def nfC : Nat → Nat := fun k => match k with
  | 0 => 9
  | 1 => 6
  | 2 => 10
  | 3 => 9
  | 4 => 2
  | 5 => 4
  | 6 => 6
  | 7 => 11
  | 8 => 3
  | 9 => 4
  | 10 => 13
  | _ => 49
def pcls : List vw_C := [(RX0, TX0, 9), (RX1, TX1, 6), (RX2, TX2, 10), (RX3, TX3, 9), (RX4, TX4, 2), (RX5, TX5, 4), (RX6, TX6, 6), (RX7, TX7, 11), (RX8, TX8, 3), (RX9, TX9, 4), (RX10, TX10, 13), (RX11, TX11, 49)]
theorem pc_get {ci : Nat} (h : ci < 12) : pcls[ci]? = some (cnm ci, tC ci, nfC ci) := by
  rcases (show ci = 0 ∨ ci = 1 ∨ ci = 2 ∨ ci = 3 ∨ ci = 4 ∨ ci = 5 ∨ ci = 6 ∨ ci = 7 ∨ ci = 8 ∨ ci = 9 ∨ ci = 10 ∨ ci = 11 by omega) with rfl | rfl | rfl | rfl | rfl | rfl | rfl | rfl | rfl | rfl | rfl | rfl
  · rfl
  · rfl
  · rfl
  · rfl
  · rfl
  · rfl
  · rfl
  · rfl
  · rfl
  · rfl
  · rfl
  · rfl
theorem pc_ty {ci : Nat} (h : ci < 12) : ∀ k, k < nfC ci → parseFieldDescriptor (tC ci k).2.2.1 = some (tyC ci k) := by
  rcases (show ci = 0 ∨ ci = 1 ∨ ci = 2 ∨ ci = 3 ∨ ci = 4 ∨ ci = 5 ∨ ci = 6 ∨ ci = 7 ∨ ci = 8 ∨ ci = 9 ∨ ci = 10 ∨ ci = 11 by omega) with rfl | rfl | rfl | rfl | rfl | rfl | rfl | rfl | rfl | rfl | rfl | rfl
  · exact tyX0_ok
  · exact tyX1_ok
  · exact tyX2_ok
  · exact tyX3_ok
  · exact tyX4_ok
  · exact tyX5_ok
  · exact tyX6_ok
  · exact tyX7_ok
  · exact tyX8_ok
  · exact tyX9_ok
  · exact tyX10_ok
  · exact tyX11_ok
theorem pc_nm {ci : Nat} (h : ci < 12) : ∀ a, a < nfC ci → ∀ b, b < nfC ci → a ≠ b → (tC ci a).2.1 ≠ (tC ci b).2.1 := by
  rcases (show ci = 0 ∨ ci = 1 ∨ ci = 2 ∨ ci = 3 ∨ ci = 4 ∨ ci = 5 ∨ ci = 6 ∨ ci = 7 ∨ ci = 8 ∨ ci = 9 ∨ ci = 10 ∨ ci = 11 by omega) with rfl | rfl | rfl | rfl | rfl | rfl | rfl | rfl | rfl | rfl | rfl | rfl
  · exact nmX0
  · exact nmX1
  · exact nmX2
  · exact nmX3
  · exact nmX4
  · exact nmX5
  · exact nmX6
  · exact nmX7
  · exact nmX8
  · exact nmX9
  · exact nmX10
  · exact nmX11
/-- the words that hold of every warmed state -/
def PT : List Cond := lw_tbl.filter goodWord
theorem pt_in {y : Cond} (hy : y ∈ PT) {z : Cond} : GoodIn (z :: PT) (y :: PT) := by
  intro w hw
  have hm : w ∈ PT := by
    rcases List.mem_cons.mp hw with h | h
    · rw [h]; exact hy
    · exact h
  exact ⟨List.mem_cons_of_mem _ hm, good_of_word (List.mem_filter.mp hm).2⟩
theorem pt_of {w : Cond} {i : Nat} (h : lw_tbl[i]? = some w) (g : goodWord w = true) : w ∈ PT := List.mem_filter.mpr ⟨List.mem_of_getElem? h, g⟩
theorem lw_tab {w : Cond} {i : Nat} (h : tables_1[i]? = some w) : w ∈ lw_tbl := List.mem_append_right _ (List.mem_of_getElem? h)
theorem pt_tab {w : Cond} {i : Nat} (h : tables_1[i]? = some w) (g : goodWord w = true) : w ∈ PT := List.mem_filter.mpr ⟨lw_tab h, g⟩
theorem pt_sel {q : MethodName × Nat} {i : Nat} (h : lw_privs[i]? = some q) : Cond.selects q.1.cls q.1 q.1 ∈ PT := List.mem_filter.mpr ⟨List.mem_append_left _ (List.mem_map.mpr ⟨q, List.mem_of_getElem? h, rfl⟩), rfl⟩
theorem pt_oi1 : Cond.instanceMethod objectInit ∈ PT := pt_tab (i := 25) (by decide +kernel) rfl
theorem pt_oi2 : Cond.code objectInit ⟨#[0xb1]⟩ 1 none ∈ PT := pt_tab (i := 26) (by decide +kernel) rfl
theorem tyC_nof (ci : Nat) (h : ci < 12) : ∀ j, j < nfC ci → tyC ci j ≠ .float ∧ tyC ci j ≠ .double := by
  rcases (show ci = 0 ∨ ci = 1 ∨ ci = 2 ∨ ci = 3 ∨ ci = 4 ∨ ci = 5 ∨ ci = 6 ∨ ci = 7 ∨ ci = 8 ∨ ci = 9 ∨ ci = 10 ∨ ci = 11 by omega) with rfl | rfl | rfl | rfl | rfl | rfl | rfl | rfl | rfl | rfl | rfl | rfl
  · show ∀ j, j < 9 → tyX0 j ≠ .float ∧ tyX0 j ≠ .double; decide +kernel
  · show ∀ j, j < 6 → tyX1 j ≠ .float ∧ tyX1 j ≠ .double; decide +kernel
  · show ∀ j, j < 10 → tyX2 j ≠ .float ∧ tyX2 j ≠ .double; decide +kernel
  · show ∀ j, j < 9 → tyX3 j ≠ .float ∧ tyX3 j ≠ .double; decide +kernel
  · show ∀ j, j < 2 → tyX4 j ≠ .float ∧ tyX4 j ≠ .double; decide +kernel
  · show ∀ j, j < 4 → tyX5 j ≠ .float ∧ tyX5 j ≠ .double; decide +kernel
  · show ∀ j, j < 6 → tyX6 j ≠ .float ∧ tyX6 j ≠ .double; decide +kernel
  · show ∀ j, j < 11 → tyX7 j ≠ .float ∧ tyX7 j ≠ .double; decide +kernel
  · show ∀ j, j < 3 → tyX8 j ≠ .float ∧ tyX8 j ≠ .double; decide +kernel
  · show ∀ j, j < 4 → tyX9 j ≠ .float ∧ tyX9 j ≠ .double; decide +kernel
  · show ∀ j, j < 13 → tyX10 j ≠ .float ∧ tyX10 j ≠ .double; decide +kernel
  · show ∀ j, j < 49 → tyX11 j ≠ .float ∧ tyX11 j ≠ .double; decide +kernel
theorem pc_ws0 : ∀ w ∈ u_ws RX0 TX0 9, w ∈ PT := by decide +kernel
theorem pc_ws1 : ∀ w ∈ u_ws RX1 TX1 6, w ∈ PT := by decide +kernel
theorem pc_ws2 : ∀ w ∈ u_ws RX2 TX2 10, w ∈ PT := by decide +kernel
theorem pc_ws3 : ∀ w ∈ u_ws RX3 TX3 9, w ∈ PT := by decide +kernel
theorem pc_ws4 : ∀ w ∈ u_ws RX4 TX4 2, w ∈ PT := by decide +kernel
theorem pc_ws5 : ∀ w ∈ u_ws RX5 TX5 4, w ∈ PT := by decide +kernel
theorem pc_ws6 : ∀ w ∈ u_ws RX6 TX6 6, w ∈ PT := by decide +kernel
theorem pc_ws7 : ∀ w ∈ u_ws RX7 TX7 11, w ∈ PT := by decide +kernel
theorem pc_ws8 : ∀ w ∈ u_ws RX8 TX8 3, w ∈ PT := by decide +kernel
theorem pc_ws9 : ∀ w ∈ u_ws RX9 TX9 4, w ∈ PT := by decide +kernel
theorem pc_ws10 : ∀ w ∈ u_ws RX10 TX10 13, w ∈ PT := by decide +kernel
theorem pc_ws11 : ∀ w ∈ u_ws RX11 TX11 49, w ∈ PT := by decide +kernel
theorem pc_ws {ci : Nat} (h : ci < 12) : ∀ w ∈ u_ws (cnm ci) (tC ci) (nfC ci), w ∈ PT := by
  rcases (show ci = 0 ∨ ci = 1 ∨ ci = 2 ∨ ci = 3 ∨ ci = 4 ∨ ci = 5 ∨ ci = 6 ∨ ci = 7 ∨ ci = 8 ∨ ci = 9 ∨ ci = 10 ∨ ci = 11 by omega) with rfl | rfl | rfl | rfl | rfl | rfl | rfl | rfl | rfl | rfl | rfl | rfl
  · exact pc_ws0
  · exact pc_ws1
  · exact pc_ws2
  · exact pc_ws3
  · exact pc_ws4
  · exact pc_ws5
  · exact pc_ws6
  · exact pc_ws7
  · exact pc_ws8
  · exact pc_ws9
  · exact pc_ws10
  · exact pc_ws11
theorem pc_own {ci : Nat} (h : ci < 12) : ∀ k, (tC ci k).1 = cnm ci := by
  rcases (show ci = 0 ∨ ci = 1 ∨ ci = 2 ∨ ci = 3 ∨ ci = 4 ∨ ci = 5 ∨ ci = 6 ∨ ci = 7 ∨ ci = 8 ∨ ci = 9 ∨ ci = 10 ∨ ci = 11 by omega) with rfl | rfl | rfl | rfl | rfl | rfl | rfl | rfl | rfl | rfl | rfl | rfl
  · intro k; show (TX0 k).1 = RX0; unfold TX0; split <;> rfl
  · intro k; show (TX1 k).1 = RX1; unfold TX1; split <;> rfl
  · intro k; show (TX2 k).1 = RX2; unfold TX2; split <;> rfl
  · intro k; show (TX3 k).1 = RX3; unfold TX3; split <;> rfl
  · intro k; show (TX4 k).1 = RX4; unfold TX4; split <;> rfl
  · intro k; show (TX5 k).1 = RX5; unfold TX5; split <;> rfl
  · intro k; show (TX6 k).1 = RX6; unfold TX6; split <;> rfl
  · intro k; show (TX7 k).1 = RX7; unfold TX7; split <;> rfl
  · intro k; show (TX8 k).1 = RX8; unfold TX8; split <;> rfl
  · intro k; show (TX9 k).1 = RX9; unfold TX9; split <;> rfl
  · intro k; show (TX10 k).1 = RX10; unfold TX10; split <;> rfl
  · intro k; show (TX11 k).1 = RX11; unfold TX11; split <;> rfl
/-- array kinds by tag: 20 int, 21 byte, 22 boolean, 23 long, 30 + ci: of objects of class ci -/
def tyA : Nat → FieldType := fun t => match t with
  | 20 => .int
  | 21 => .byte
  | 22 => .boolean
  | 23 => .long
  | t => .object (cnm (t - 30))
-- the pure heap: (size, slots made), tag, length, int fields, long fields, reference fields, int cells, long cells, reference cells of arrays
abbrev HP : Type := (Nat × Nat) × (Nat → Nat) × (Nat → Nat) × (Nat → Nat → Int32) × (Nat → Nat → Int64) × (Nat → Nat → Option Nat) × (Nat → Nat → Int32) × (Nat → Nat → Int64) × (Nat → Nat → Option Nat)
def hsz (h : HP) : Nat := h.1.1
def hsl (h : HP) : Nat := h.1.2
def htg (h : HP) : Nat → Nat := h.2.1
def hln (h : HP) : Nat → Nat := h.2.2.1
def hI (h : HP) : Nat → Nat → Int32 := h.2.2.2.1
def hJ (h : HP) : Nat → Nat → Int64 := h.2.2.2.2.1
def hR (h : HP) : Nat → Nat → Option Nat := h.2.2.2.2.2.1
def hA (h : HP) : Nat → Nat → Int32 := h.2.2.2.2.2.2.1
def hL (h : HP) : Nat → Nat → Int64 := h.2.2.2.2.2.2.2.1
def hQ (h : HP) : Nat → Nat → Option Nat := h.2.2.2.2.2.2.2.2
def up2 {α : Type} (g : Nat → Nat → α) (f a : Nat) (x : α) : Nat → Nat → α := fun u v => if u = f ∧ v = a then x else g u v
theorem up2_s {α : Type} (g : Nat → Nat → α) (f a : Nat) (x : α) : up2 g f a x f a = x := by simp [up2]
theorem up2_n {α : Type} (g : Nat → Nat → α) {f a u v : Nat} (x : α) (h : ¬ (u = f ∧ v = a)) : up2 g f a x u v = g u v := by simp [up2, h]
def sI (h : HP) (f a : Nat) (x : Int32) : HP := (h.1, htg h, hln h, up2 (hI h) f a x, hJ h, hR h, hA h, hL h, hQ h)
def sJ (h : HP) (f a : Nat) (x : Int64) : HP := (h.1, htg h, hln h, hI h, up2 (hJ h) f a x, hR h, hA h, hL h, hQ h)
def sR (h : HP) (f a : Nat) (x : Option Nat) : HP := (h.1, htg h, hln h, hI h, hJ h, up2 (hR h) f a x, hA h, hL h, hQ h)
def sA (h : HP) (a i : Nat) (x : Int32) : HP := (h.1, htg h, hln h, hI h, hJ h, hR h, up2 (hA h) a i x, hL h, hQ h)
def sL (h : HP) (a i : Nat) (x : Int64) : HP := (h.1, htg h, hln h, hI h, hJ h, hR h, hA h, up2 (hL h) a i x, hQ h)
def sQ (h : HP) (a i : Nat) (x : Option Nat) : HP := (h.1, htg h, hln h, hI h, hJ h, hR h, hA h, hL h, up2 (hQ h) a i x)
/-- a new cell: tag, length, slots -/
def nw (h : HP) (t l n : Nat) : HP := ((hsz h + 1, hsl h + n), (fun a => if a = hsz h then t else htg h a), (fun a => if a = hsz h then l else hln h a), (fun f a => if a = hsz h then 0 else hI h f a), (fun f a => if a = hsz h then 0 else hJ h f a), (fun f a => if a = hsz h then none else hR h f a), (fun a i => if a = hsz h then 0 else hA h a i), (fun a i => if a = hsz h then 0 else hL h a i), (fun a i => if a = hsz h then none else hQ h a i))
/-- a cell of a kind is there -/
def isO (h : HP) (a t : Nat) : Bool := decide (a < hsz h) && (htg h a == t)
theorem isO_lt {h : HP} {a t : Nat} (q : isO h a t = true) : a < hsz h := by simp [isO] at q; exact q.1
theorem isO_tg {h : HP} {a t : Nat} (q : isO h a t = true) : htg h a = t := by simp [isO] at q; exact q.2
/-- an address of the pure machine in the real one: cells behind n0, strings and the script by ad -/
def cvA (n0 : Nat) (ad : Nat → Nat) (a : Nat) : Nat := if a < 4294967296 then n0 + a else ad (a - 4294967296)
def cv (n0 : Nat) (ad : Nat → Nat) (v : Value) : Value := match v with
  | .ref a => .ref (cvA n0 ad a)
  | v => v
theorem cv_cat (n0 : Nat) (ad : Nat → Nat) (v : Value) : (cv n0 ad v).category = v.category := by cases v <;> rfl
theorem cv_rf (n0 : Nat) (ad : Nat → Nat) (r : Option Nat) : cv n0 ad (va_rf r) = va_rf (r.map (cvA n0 ad)) := by cases r <;> rfl
theorem cvA_lt {n0 : Nat} {ad : Nat → Nat} {a : Nat} (h : a < 4294967296) : cvA n0 ad a = n0 + a := by simp [cvA, h]
def fval (n0 : Nat) (ad : Nat → Nat) (h : HP) (ty : FieldType) (f k : Nat) : Value := match ty with
  | .long => .long (hJ h f k)
  | .object _ => va_rf ((hR h f k).map (cvA n0 ad))
  | .array _ => va_rf ((hR h f k).map (cvA n0 ad))
  | _ => .int (hI h f k)
def aval (n0 : Nat) (ad : Nat → Nat) (h : HP) (ty : FieldType) (k : Nat) : vp_A := match ty with
  | .long => (hln h k, .inr (.inl (hL h k)))
  | .object _ => (hln h k, .inr (.inr (.inr (.inr (fun i => (hQ h k i).map (cvA n0 ad))))))
  | _ => (hln h k, .inl (hA h k))
def fvals (n0 : Nat) (ad : Nat → Nat) (h : HP) (ci k : Nat) : List Value := (List.range (nfC ci)).map fun j => fval n0 ad h (tyC ci j) (64 * ci + j) k
def cellE (n0 : Nat) (ad : Nat → Nat) (dA : Nat → ClassId) (h : HP) (k : Nat) : va_E :=
  if htg h k < 12 then .inr (htg h k, fvals n0 ad h (htg h k) k) else .inl (dA (htg h k), aval n0 ad h (tyA (htg h k)) k)
def wsH (n0 : Nat) (ad : Nat → Nat) (dA : Nat → ClassId) (h : HP) : va_W := (List.range (hsz h)).map fun k => (n0 + k, cellE n0 ad dA h k)
theorem wsH_len (n0 : Nat) (ad : Nat → Nat) (dA : Nat → ClassId) (h : HP) : (wsH n0 ad dA h).length = hsz h := by simp [wsH]
theorem wsH_at {n0 : Nat} {ad : Nat → Nat} {dA : Nat → ClassId} {h : HP} {k : Nat} (hk : k < hsz h) : (wsH n0 ad dA h)[k]? = some (n0 + k, cellE n0 ad dA h k) := by
  simp [wsH, hk]
theorem wsH_D {n0 : Nat} {ad : Nat → Nat} {dA : Nat → ClassId} {h : HP} {A : Nat → Prop} (hA : ∀ q, n0 ≤ q → A q) : va_D A (wsH n0 ad dA h) := by
  have key : ∀ (i : Nat) (p : Nat × va_E), (wsH n0 ad dA h)[i]? = some p → p.1 = n0 + i := by
    intro i p hp
    have hi : i < hsz h := by
      have := (List.getElem?_eq_some_iff.mp hp).1
      rwa [wsH_len] at this
    rw [wsH_at hi] at hp
    cases hp; rfl
  refine ⟨fun i j p q hp hq hpq => ?_, fun k q hq => ?_⟩
  · have h1 := key i p hp
    have h2 := key j q hq
    omega
  · rw [key k q hq]; exact hA _ (Nat.le_add_right _ _)
theorem cellE_o {n0 : Nat} {ad : Nat → Nat} {dA : Nat → ClassId} {h : HP} {k ci : Nat} (ht : htg h k = ci) (hc : ci < 12) : cellE n0 ad dA h k = .inr (ci, fvals n0 ad h ci k) := by
  unfold cellE; rw [ht, if_pos hc]
theorem cellE_a {n0 : Nat} {ad : Nat → Nat} {dA : Nat → ClassId} {h : HP} {k t : Nat} (ht : htg h k = t) (hc : ¬ t < 12) : cellE n0 ad dA h k = .inl (dA t, aval n0 ad h (tyA t) k) := by
  unfold cellE; rw [ht, if_neg hc]
theorem fvals_at {n0 : Nat} {ad : Nat → Nat} {h : HP} {ci k j : Nat} (hj : j < nfC ci) : (fvals n0 ad h ci k)[j]? = some (fval n0 ad h (tyC ci j) (64 * ci + j) k) := by
  simp [fvals, hj]
theorem fvals_len {n0 : Nat} {ad : Nat → Nat} {h : HP} {ci k : Nat} : (fvals n0 ad h ci k).length = nfC ci := by simp [fvals]
/-- a world with one cell changed -/
theorem wsH_set {n0 : Nat} {ad : Nat → Nat} {dA : Nat → ClassId} {h g : HP} {a : Nat} {e : va_E} (ha : a < hsz h) (hz : hsz g = hsz h) (he : cellE n0 ad dA g a = e) (ho : ∀ k, k ≠ a → cellE n0 ad dA g k = cellE n0 ad dA h k) : (wsH n0 ad dA h).set a (n0 + a, e) = wsH n0 ad dA g := by
  refine List.ext_getElem? fun i => ?_
  by_cases hi : i = a
  · subst hi
    rw [List.getElem?_set_self (by rw [wsH_len]; exact ha), wsH_at (by rw [hz]; exact ha), he]
  · rw [List.getElem?_set_ne (Ne.symm hi)]
    by_cases hl : i < hsz h
    · rw [wsH_at hl, wsH_at (by rw [hz]; exact hl), ho i hi]
    · rw [List.getElem?_eq_none (by rw [wsH_len]; omega), List.getElem?_eq_none (by rw [wsH_len]; omega)]
theorem fvals_set {n0 : Nat} {ad : Nat → Nat} {h g : HP} {ci a j : Nat} {v : Value} (hj : j < nfC ci) (hv : fval n0 ad g (tyC ci j) (64 * ci + j) a = v) (ho : ∀ i, i ≠ j → fval n0 ad g (tyC ci i) (64 * ci + i) a = fval n0 ad h (tyC ci i) (64 * ci + i) a) : (fvals n0 ad h ci a).set j v = fvals n0 ad g ci a := by
  refine List.ext_getElem? fun i => ?_
  by_cases hi : i = j
  · subst hi
    rw [List.getElem?_set_self (by rw [fvals_len]; exact hj), fvals_at hj, hv]
  · rw [List.getElem?_set_ne (Ne.symm hi)]
    by_cases hl : i < nfC ci
    · rw [fvals_at hl, fvals_at hl, ho i hi]
    · rw [List.getElem?_eq_none (by rw [fvals_len]; omega), List.getElem?_eq_none (by rw [fvals_len]; omega)]
theorem fvals_same {n0 : Nat} {ad : Nat → Nat} {h g : HP} {ci a : Nat} (ho : ∀ i, fval n0 ad g (tyC ci i) (64 * ci + i) a = fval n0 ad h (tyC ci i) (64 * ci + i) a) : fvals n0 ad g ci a = fvals n0 ad h ci a := by
  unfold fvals; exact List.map_congr_left fun i _ => ho i
abbrev PMe : Type := Nat × MethodName × ByteArray × Nat × Option FieldType
def mo (y : PMe) : Nat := y.1
def my (y : PMe) : MethodName := y.2.1
def mb (y : PMe) : ByteArray := y.2.2.1
def mL (y : PMe) : Nat := y.2.2.2.1
def mr (y : PMe) : Option FieldType := y.2.2.2.2
/-- what the tables say of a method -/
def okM (z : PMe) (n : Nat) : Prop := (my z).cls = cnm (mo z) ∧ ((my z).cls ≠ "java/lang/invoke/MethodHandle" ∧ (my z).cls ≠ "java/lang/invoke/VarHandle" ∧ (parseMethodDescriptor (my z).desc).map (fun d => d.parameters.length) = some n) ∧ mL z ≤ 25 ∧ plainFor (my z) = true ∧ Cond.code (my z) (mb z) (mL z) (mr z) ∈ PT ∧ Cond.initialized (my z).cls ∈ PT
