/-! THE START of the real machine -/
section
variable {s : State} {args : Array Value}
theorem inst_all : ∀ ci, ci < 12 → Cond.instantiable (cnm ci) (nfC ci) ∈ PT := by
  intro ci h
  rcases (show ci = 0 ∨ ci = 1 ∨ ci = 2 ∨ ci = 3 ∨ ci = 4 ∨ ci = 5 ∨ ci = 6 ∨ ci = 7 ∨ ci = 8 ∨ ci = 9 ∨ ci = 10 ∨ ci = 11 by omega) with rfl | rfl | rfl | rfl | rfl | rfl | rfl | rfl | rfl | rfl | rfl | rfl
  · exact pt_tab (i := 34) (by decide +kernel) rfl
  · exact pt_tab (i := 363) (by decide +kernel) rfl
  · exact pt_tab (i := 41) (by decide +kernel) rfl
  · exact pt_tab (i := 196) (by decide +kernel) rfl
  · exact pt_tab (i := 162) (by decide +kernel) rfl
  · exact pt_tab (i := 28) (by decide +kernel) rfl
  · exact pt_tab (i := 601) (by decide +kernel) rfl
  · exact pt_tab (i := 204) (by decide +kernel) rfl
  · exact pt_tab (i := 345) (by decide +kernel) rfl
  · exact pt_tab (i := 390) (by decide +kernel) rfl
  · exact pt_tab (i := 20) (by decide +kernel) rfl
  · exact pt_tab (i := 1144) (by decide +kernel) rfl
theorem pcls_lt {k : Nat} {q : vw_C} (h : pcls[k]? = some q) : k < 12 := (List.getElem?_eq_some_iff.mp h).1
/-- an array class of the tables: numbers -/
theorem arr_prim {ty : FieldType} (hts : (Cond.arrayClass ty).before args s = true) (nf : ∀ C, ty ≠ .object C) : ∃ cA, ArrOfT s cA ty ∧ va_RA s cA ty := by
  obtain ⟨c, k, comp, h1, h2, h3⟩ := Cond.arrayClass_spec hts
  refine ⟨c, fun n z => ⟨fun k h => (by cases h), k, h2, comp, h3⟩, ?_⟩
  · cases ty with
    | object C => exact absurd rfl (nf C)
    | _ => exact h1
/-- an array class of the tables: objects -/
theorem arr_obj {C : String} (hts : (Cond.arrayOver (.object C)).before args s = true) : ∃ cA, ArrOfT s cA (.object C) ∧ va_RA s cA (.object C) := by
  obtain ⟨comp, c, k, h1, h2, h3, h4, h5⟩ := Cond.arrayOver_spec hts
  exact ⟨c, fun N z => ⟨(fun k h => by cases h), k, h3, comp, h4⟩, k, comp, h3, h4, h1, h5⟩
theorem start_K (hts : ∀ w ∈ lw_tbl, w.before args s = true) : ∃ (dC : Nat → ClassId) (dI : Nat → Nat → Nat) (dA : Nat → ClassId), va_K (dC, dI) pcls (TYS dA) s := by
  have hPT : ∀ w ∈ PT, w.before args s = true := fun w hw => hts w (List.mem_filter.mp hw).1
  have hk : ∀ ci, ∃ q : ClassId × (Nat → Nat), ci < 12 → u_Kn s (cnm ci) (tC ci) (nfC ci) q.1 q.2 := by
    intro ci
    by_cases h : ci < 12
    · obtain ⟨cC, iS, w⟩ := u_known (C := cnm ci) (T := tC ci) (N := nfC ci) (n := nfC ci) hPT (pc_ws h) (hPT _ (inst_all ci h))
      exact ⟨(cC, iS), fun _ => w⟩
    · obtain ⟨cC, iS, w⟩ := u_known (C := cnm 0) (T := tC 0) (N := nfC 0) (n := nfC 0) hPT (pc_ws (by omega)) (hPT _ (inst_all 0 (by omega)))
      exact ⟨(cC, iS), fun z => absurd z h⟩
  obtain ⟨f, hf⟩ := Classical.axiomOfChoice hk
  obtain ⟨a0, p0⟩ := arr_prim (ty := .int) (hts _ (lw_tab (i := 112) (by decide +kernel))) (fun C z => by cases z)
  obtain ⟨a1, p1⟩ := arr_prim (ty := .byte) (hts _ (lw_tab (i := 111) (by decide +kernel))) (fun C z => by cases z)
  obtain ⟨a2, p2⟩ := arr_prim (ty := .boolean) (hts _ (lw_tab (i := 1302) (by decide +kernel))) (fun C z => by cases z)
  obtain ⟨a3, p3⟩ := arr_prim (ty := .long) (hts _ (lw_tab (i := 311) (by decide +kernel))) (fun C z => by cases z)
  obtain ⟨a4, p4⟩ := arr_obj (C := RX0) (hts _ (lw_tab (i := 193) (by decide +kernel)))
  obtain ⟨a5, p5⟩ := arr_obj (C := RX2) (hts _ (lw_tab (i := 40) (by decide +kernel)))
  obtain ⟨a6, p6⟩ := arr_obj (C := RX4) (hts _ (lw_tab (i := 161) (by decide +kernel)))
  obtain ⟨a7, p7⟩ := arr_obj (C := RX5) (hts _ (lw_tab (i := 194) (by decide +kernel)))
  obtain ⟨a8, p8⟩ := arr_obj (C := RX6) (hts _ (lw_tab (i := 313) (by decide +kernel)))
  refine ⟨fun c => (f c).1, fun c => (f c).2, fun t => if t = 20 then a0 else if t = 21 then a1 else if t = 22 then a2 else if t = 23 then a3 else if t = 30 then a4 else if t = 32 then a5 else if t = 34 then a6 else if t = 35 then a7 else a8, fun c q hq => ?_, fun k q hq => ?_⟩
  · have hc := pcls_lt hq
    rw [pc_get hc] at hq
    cases hq
    exact hf c hc
  · have hk : k < 9 := (List.getElem?_eq_some_iff.mp hq).1
    rcases (show k = 0 ∨ k = 1 ∨ k = 2 ∨ k = 3 ∨ k = 4 ∨ k = 5 ∨ k = 6 ∨ k = 7 ∨ k = 8 by omega) with rfl | rfl | rfl | rfl | rfl | rfl | rfl | rfl | rfl
    · cases hq; exact p0
    · cases hq; exact p1
    · cases hq; exact p2
    · cases hq; exact p3
    · cases hq; exact p4
    · cases hq; exact p5
    · cases hq; exact p6
    · cases hq; exact p7
    · cases hq; exact p8
theorem start_NB (hts : ∀ w ∈ lw_tbl, w.before args s = true) : NB s := ⟨fun a i x h hm => va_Nw.of rfl (hts _ hm), fun C hm => va_AO.of (hts _ hm)⟩
/-- addresses of the start -/
def adS (adK adV : Nat → Nat) (fm b : Nat) : Nat → Nat := fun k => if k < 11 then adK k else if k < 43 then adV (k - 32) else if k = 63 then fm else b
def tmS (i : Nat) : Term := .string "FormDesigner" (sIx i)
theorem start_Z {b : Nat} (hts : ∀ w ∈ lw_tbl, w.before args s = true) (hgv : (Cond.and given_1 narrow_1).before args s = true) : ∃ ad : Nat → Nat, ZSt s.heap.size ad s s.heap ∧ ad 64 = b := by
  have hs := flat_of_before _ hgv
  have hA : ∀ a : Nat, a < s.heap.size → ¬ s.heap.size ≤ a := fun a ha => Nat.not_le.mpr ha
  obtain ⟨adK, adV, h1, h2⟩ := vk_Sof (s := s) (args := args) (N := 11) (tm := tmS) (len := sLn) (byt := sBy) (A := fun q => s.heap.size ≤ q) (fun i hi => by
      have all : ∀ i : Fin 11, sLn.getD i.val 0 < 2 ^ 31 := by decide +kernel
      exact all ⟨i, hi⟩) (fun i hi => hs _ (by
      have all : ∀ i : Fin 11, Cond.exactly (tmS i.val) "java/lang/String" ∈ flatC (Cond.and given_1 narrow_1) := by decide +kernel
      exact all ⟨i, hi⟩)) (fun i hi => hs _ (by
      have all : ∀ i : Fin 11, Cond.eq (.field (tmS i.val) "java/lang/String" "coder" "B") (.int 0) ∈ flatC (Cond.and given_1 narrow_1) := by decide +kernel
      exact all ⟨i, hi⟩)) (fun i hi => hs _ (by
      have all : ∀ i : Fin 11, Cond.arrayOf (.field (tmS i.val) "java/lang/String" "value" "[B") .byte ∈ flatC (Cond.and given_1 narrow_1) := by decide +kernel
      exact all ⟨i, hi⟩)) (fun i hi => hs _ (by
      have all : ∀ i : Fin 11, Cond.eq (.length (.field (tmS i.val) "java/lang/String" "value" "[B")) (.int (Int32.ofNat (sLn.getD i.val 0))) ∈ flatC (Cond.and given_1 narrow_1) := by decide +kernel
      exact all ⟨i, hi⟩)) (fun i hi j hj => hs _ (by
      have l7 : ∀ i : Fin 11, sLn.getD i.val 0 ≤ 6 := by decide +kernel
      have all : ∀ (i : Fin 11) (j : Fin 6), j.val < sLn.getD i.val 0 → Cond.eq (.elem (.field (tmS i.val) "java/lang/String" "value" "[B") (.int (Int32.ofNat j.val))) (.int ((sBy.getD i.val []).getD j.val 0)) ∈ flatC (Cond.and given_1 narrow_1) := by decide +kernel
      exact all ⟨i, hi⟩ ⟨j, Nat.lt_of_lt_of_le hj (l7 ⟨i, hi⟩)⟩ hj)) (fun i j hi hj hij => by
      have all : ∀ (i j : Fin 11), i.val < j.val → Cond.not (Cond.eq (tmS i.val) (tmS j.val)) ∈ flatC (Cond.and given_1 narrow_1) := by decide +kernel
      rcases Nat.lt_or_ge i j with q | q
      · exact Or.inl (hs _ (all ⟨i, hi⟩ ⟨j, hj⟩ q))
      · exact Or.inr (hs _ (all ⟨j, hj⟩ ⟨i, hi⟩ (by show j < i; omega)))) hA
  have hc : va_Z "java/lang/String" "COMPACT_STRINGS" "Z" (.int 1) (fun q => s.heap.size ≤ q) s s.heap := va_Zof (args := args) (hts _ (lw_tab (i := 235) (by decide +kernel))) (hts _ (lw_tab (i := 8) (by decide +kernel))) (va_eqt (hs _ (by decide +kernel))) hA
  have hf : va_Zq "jdk/internal/util/Preconditions" "SIOOBE_FORMATTER" "Ljava/util/function/BiFunction;" (fun q => s.heap.size ≤ q) s s.heap := va_Zqof (args := args) (hts _ (lw_tab (i := 251) (by decide +kernel))) (hts _ (lw_tab (i := 10) (by decide +kernel))) (hs _ (by decide +kernel)) hA
  have key : ∀ fm : Nat, (va_Z "jdk/internal/util/Preconditions" "SIOOBE_FORMATTER" "Ljava/util/function/BiFunction;" .null (fun q => s.heap.size ≤ q) s s.heap ∨ va_Z "jdk/internal/util/Preconditions" "SIOOBE_FORMATTER" "Ljava/util/function/BiFunction;" (.ref fm) (fun q => s.heap.size ≤ q) s s.heap) → ZSt s.heap.size (adS adK adV fm b) s s.heap := fun fm hfm => by
    have e1 : ∀ i, i < 11 → adS adK adV fm b i = adK i := fun i hi => if_pos hi
    have e2 : ∀ i, i < 11 → adS adK adV fm b (32 + i) = adV i := fun i hi => by
      unfold adS; rw [if_neg (by omega), if_pos (by omega), Nat.add_sub_cancel_left]
    refine ⟨fun i hi => ?_, ⟨fun i hi => ?_, fun i j hi hj e => ?_⟩, hc, ?_⟩
    · rw [e1 i hi]
      have all : ∀ i : Fin 11, tables_1[212 + i.val]? = some (Cond.stringRef RX10 (sIx i.val) (sTx i.val)) := by decide +kernel
      exact vk_R.of (hts _ (lw_tab (all ⟨i, hi⟩))) (h2 i hi)
    · rw [e1 i hi]
      show _ ∧ _ ∧ va_OF "java/lang/String" "value" "[B" (.ref (adS adK adV fm b (32 + i))) (adK i) _ s s.heap ∧ va_T .byte (adS adK adV fm b (32 + i)) _ _ _ s s.heap
      rw [e2 i hi]
      exact h1.1 i hi
    · rw [e1 i hi, e1 j hj] at e
      exact h1.2 i j hi hj e
    · exact hfm
  rcases hf with hf | ⟨t, hf⟩
  · exact ⟨adS adK adV 0 b, key 0 (Or.inl hf), rfl⟩
  · exact ⟨adS adK adV t b, key t (Or.inr hf), rfl⟩
end

