/-! THE PURE MACHINE, part 4: its runs are the real machine's -/
theorem lv_args_cv (n0 : Nat) (ad : Nat → Nat) : ∀ (args : List Value) (i : Nat), lv_args i (args.map (cv n0 ad)) = (lv_args i args).map (fun q => (q.1, cv n0 ad q.2))
  | [], _ => rfl
  | v :: vs, i => by
    have hc := cv_cat n0 ad v
    simp only [List.map_cons, lv_args]
    rw [hc, lv_args_cv n0 ad vs]
theorem pick_cv (n0 : Nat) (ad : Nat → Nat) (lv : List (Nat × Value)) (ks : List Nat) : lv_pick (lv.map (fun q => (q.1, cv n0 ad q.2))) ks = (lv_pick lv ks).map (fun q => (q.1, cv n0 ad q.2)) := by
  unfold lv_pick
  rw [List.map_filterMap]
  congr 1
  funext k
  rw [List.getElem?_map]
theorem flt_cv (n0 : Nat) (ad : Nat → Nat) (f : Nat → Nat → Bool) (lv : List (Nat × Value)) : (lv.map (fun q => (q.1, cv n0 ad q.2))).filter (fun q => f q.1 q.2.category) = (lv.filter (fun q => f q.1 q.2.category)).map (fun q => (q.1, cv n0 ad q.2)) := by
  rw [List.filter_map]
  congr 1
  congr 1
  funext q
  simp only [Function.comp, cv_cat]
theorem sto_cv (n0 : Nat) (ad : Nat → Nat) (i : Nat) (v : Value) (lv : List (Nat × Value)) : (i, cv n0 ad v) :: (lv.map (fun q => (q.1, cv n0 ad q.2))).filter (fun q => !(q.1 == i) && !(q.1 + 1 == i && q.2.category == 2)) = (sto i v lv).map (fun q => (q.1, cv n0 ad q.2)) := by
  exact congrArg (List.cons (i, cv n0 ad v)) (flt_cv n0 ad (fun a b => !(a == i) && !(a + 1 == i && b == 2)) lv)
theorem stoL_cv (n0 : Nat) (ad : Nat → Nat) (i : Nat) (v : Value) (lv : List (Nat × Value)) : (i, cv n0 ad v) :: (lv.map (fun q => (q.1, cv n0 ad q.2))).filter (fun q => !(q.1 == i) && (!(q.1 == i + 1) && !(q.1 + 1 == i && q.2.category == 2))) = (stoL i v lv).map (fun q => (q.1, cv n0 ad q.2)) := by
  exact congrArg (List.cons (i, cv n0 ad v)) (flt_cv n0 ad (fun a b => !(a == i) && (!(a == i + 1) && !(a + 1 == i && b == 2))) lv)
theorem pw_map {n0 : Nat} {ad : Nat → Nat} {lv : List (Nat × Value)} {j i : Nat} {v : Value} (h : lv[j]? = some (i, v)) : (lv.map (fun q => (q.1, cv n0 ad q.2)))[j]? = some (i, cv n0 ad v) := by
  rw [List.getElem?_map, h]; rfl
theorem pw_at {n0 : Nat} {ad : Nat → Nat} {ls : Array Slot} {nL : Nat} {lv : List (Nat × Value)} {j i : Nat} {v : Value} (e : lv_has ls nL (lv.map (fun q => (q.1, cv n0 ad q.2)))) (h : lv[j]? = some (i, v)) : ls[i]? = some (.val (cv n0 ad v)) := lv_at e j (pw_map h)
theorem aval_q (n0 : Nat) (ad : Nat → Nat) (h : HP) {ci k : Nat} (hc : ci < 12) : aval n0 ad h (tyA (30 + ci)) k = (hln h k, .inr (.inr (.inr (.inr (fun i => (hQ h k i).map (cvA n0 ad)))))) := by
  rcases (show ci = 0 ∨ ci = 1 ∨ ci = 2 ∨ ci = 3 ∨ ci = 4 ∨ ci = 5 ∨ ci = 6 ∨ ci = 7 ∨ ci = 8 ∨ ci = 9 ∨ ci = 10 ∨ ci = 11 by omega) with rfl | rfl | rfl | rfl | rfl | rfl | rfl | rfl | rfl | rfl | rfl | rfl <;> rfl
theorem aval_same {n0 : Nat} {ad : Nat → Nat} {g h : HP} {ty : FieldType} {k : Nat} (h1 : hln g k = hln h k) (h2 : hA g k = hA h k) (h3 : hL g k = hL h k) (h4 : hQ g k = hQ h k) : aval n0 ad g ty k = aval n0 ad h ty k := by
  unfold aval; rw [h1, h2, h3, h4]
theorem aval_len (n0 : Nat) (ad : Nat → Nat) (h : HP) (ty : FieldType) (k : Nat) : Int32.ofNat (aval n0 ad h ty k).1 = Int32.ofNat (hln h k) := by unfold aval; split <;> rfl
theorem aval_new_i (n0 : Nat) (ad : Nat → Nat) (h : HP) (t N : Nat) (h1 : tyA t ≠ .long) (h2 : ∀ C, tyA t ≠ .object C) : aval n0 ad (nw h t N N) (tyA t) (hsz h) = (N, .inl (fun _ => 0)) := by
  unfold aval
  split
  · exact absurd (by assumption) h1
  · exact absurd (by assumption) (h2 _)
  · simp [hln, hA, nw]
theorem aval_new_l (n0 : Nat) (ad : Nat → Nat) (h : HP) (t N : Nat) (h1 : tyA t = .long) : aval n0 ad (nw h t N N) (tyA t) (hsz h) = (N, .inr (.inl (fun _ => 0))) := by
  rw [h1]; simp [aval, hln, hL, nw]
def TYS (dA : Nat → ClassId) : List (ClassId × FieldType) := [(dA 20, .int), (dA 21, .byte), (dA 22, .boolean), (dA 23, .long), (dA 30, .object RX0), (dA 32, .object RX2), (dA 34, .object RX4), (dA 35, .object RX5), (dA 36, .object RX6)]
def aoI (ci : Nat) : Nat := if ci = 0 then 4 else if ci = 2 then 5 else if ci = 4 then 6 else if ci = 5 then 7 else 8
theorem aoC_lt {ci : Nat} (hc : aoC ci) : ci < 12 := by
  rcases hc with rfl | rfl | rfl | rfl | rfl <;> decide
theorem tys_q (dA : Nat → ClassId) {ci : Nat} (hc : aoC ci) : (TYS dA)[aoI ci]? = some (dA (30 + ci), .object (cnm ci)) := by
  rcases hc with rfl | rfl | rfl | rfl | rfl <;> rfl
theorem tys_any (dA : Nat → ClassId) {t : Nat} (ht : (20 ≤ t ∧ t < 24) ∨ (30 ≤ t ∧ aoC (t - 30))) : ∃ k : Nat, (TYS dA)[k]? = some (dA t, tyA t) := by
  rcases ht with ht | ht
  · rcases (show t = 20 ∨ t = 21 ∨ t = 22 ∨ t = 23 by omega) with rfl | rfl | rfl | rfl
    · exact ⟨0, rfl⟩
    · exact ⟨1, rfl⟩
    · exact ⟨2, rfl⟩
    · exact ⟨3, rfl⟩
  · obtain ⟨ci, rfl⟩ : ∃ ci, t = 30 + ci := ⟨t - 30, by omega⟩
    have hc : aoC ci := by
      have := ht.2
      rw [Nat.add_sub_cancel_left] at this
      exact this
    refine ⟨aoI ci, ?_⟩
    rw [tys_q dA hc]
    rcases hc with rfl | rfl | rfl | rfl | rfl <;> rfl
theorem tys_name {D : va_G} {dA : Nat → ClassId} {s : State} (hK : va_K D pcls (TYS dA) s) {ci : Nat} (hc : aoC ci) : s.vm.findClass ("[" ++ (FieldType.object (cnm ci)).toString) = some (dA (30 + ci)) := by
  obtain ⟨-, kA, comp, h1, h2, h3, h4⟩ := hK.2 (aoI ci) _ (tys_q dA hc)
  exact h4
theorem fval_new (n0 : Nat) (ad : Nat → Nat) (h : HP) {ci j : Nat} (hc : ci < 12) (hj : j < nfC ci) : fval n0 ad (nw h ci 0 (nfC ci)) (tyC ci j) (64 * ci + j) (hsz h) = defaultValue (tyC ci j) := by
  have key : ∀ ty : FieldType, ty ≠ .float → ty ≠ .double → fval n0 ad (nw h ci 0 (nfC ci)) ty (64 * ci + j) (hsz h) = defaultValue ty := by
    intro ty h1 h2
    cases ty <;> simp [fval, hI, hJ, hR, nw, defaultValue, va_rf] at *
  have ht : tyC ci j ≠ .float ∧ tyC ci j ≠ .double := by
    have := tyC_nof ci hc j hj
    exact this
  exact key _ ht.1 ht.2
theorem wsH_nw {n0 : Nat} {ad : Nat → Nat} {dA : Nat → ClassId} {h : HP} {t l n : Nat} (hi : ∀ i : Nat, i < hsz h → i ≠ hsz h) : wsH n0 ad dA (nw h t l n) = wsH n0 ad dA h ++ [(n0 + hsz h, cellE n0 ad dA (nw h t l n) (hsz h))] := by
  unfold wsH
  rw [show hsz (nw h t l n) = hsz h + 1 from rfl, List.range_succ, List.map_append]
  congr 1
  refine List.map_congr_left fun k hk => ?_
  have hk' := hi k (List.mem_range.mp hk)
  refine congrArg (Prod.mk _) ?_
  have hz : htg (nw h t l n) k = htg h k := by simp [htg, nw, hk']
  unfold cellE
  rw [hz]
  split
  · congr 2
    refine fvals_same fun i => ?_
    unfold fval
    split <;> simp [hI, hJ, hR, nw, hk']
  · congr 2
    unfold aval
    split <;> simp [hln, hA, hL, hQ, nw, hk']
/-- what a state knows beside the tables' good words: nest links, arrays over classes -/
def NB (U : State) : Prop := (∀ (a : String) (i : Nat) (x : MethodName) (h : String), Cond.methodLinkNest a i x h ∈ lw_tbl → va_Nw (.methodLinkNest a i x h) U) ∧ ∀ C : String, Cond.arrayOver (.object C) ∈ lw_tbl → va_AO C U
theorem NB.warm {s U : State} (hW : s.WarmedH U.vm) (h : NB s) : NB U := ⟨fun a i x q hm => va_Nw.warmM hW (h.1 a i x q hm), fun C hm => va_AO.moved hW.alike (h.2 C hm)⟩
theorem NB.same {u U : State} (hv : u.vm = U.vm) (h : NB u) : NB U := ⟨fun a i x q hm => va_Nw.same rfl hv (h.1 a i x q hm), fun C hm => va_AO.moved (by rw [hv]; exact Vm.Alike.refl _) (h.2 C hm)⟩
/-- a fact about the state and the old heap that stays -/
def ZOK (n0 : Nat) (ZS : State → Heap → Prop) : Prop := (∀ (s U : State) (H : Heap), s.WarmedH U.vm → ZS s H → ZS U H) ∧ (∀ (u U : State) (H : Heap), u.vm = U.vm → ZS u H → ZS U H) ∧ ∀ (U : State) (H H1 : Heap), n0 ≤ H.size → (∀ a : Nat, a < n0 → H1[a]? = H[a]?) → ZS U H → ZS U H1
/-- the class's string constants, and the two statics of the JDK's, as the start has them -/
def ZSt (n0 : Nat) (ad : Nat → Nat) (U : State) (H : Heap) : Prop := (∀ i : Nat, i < 11 → vk_R RX10 (sIx i) (sTx i) (ad i) U) ∧ vk_S 11 sLn sBy ad (fun i => ad (32 + i)) (fun q => n0 ≤ q) U H ∧ va_Z "java/lang/String" "COMPACT_STRINGS" "Z" (.int 1) (fun q => n0 ≤ q) U H ∧ (va_Z "jdk/internal/util/Preconditions" "SIOOBE_FORMATTER" "Ljava/util/function/BiFunction;" .null (fun q => n0 ≤ q) U H ∨ va_Z "jdk/internal/util/Preconditions" "SIOOBE_FORMATTER" "Ljava/util/function/BiFunction;" (.ref (ad 63)) (fun q => n0 ≤ q) U H)
theorem ZSt_ok (n0 : Nat) (ad : Nat → Nat) : ZOK n0 (ZSt n0 ad) := by
  refine ⟨fun s U H hW h => ⟨fun i hi => (h.1 i hi).warm hW, h.2.1.moved hW.alike, h.2.2.1.moved hW.alike, h.2.2.2.imp (fun z => z.moved hW.alike) (fun z => z.moved hW.alike)⟩, fun u U H hv h => ?_, fun U H H1 hn hq h => ?_⟩
  · have ha : u.vm.Alike U.vm := by rw [hv]; exact Vm.Alike.refl _
    exact ⟨fun i hi => (h.1 i hi).same hv.symm, h.2.1.moved ha, h.2.2.1.moved ha, h.2.2.2.imp (fun z => z.moved ha) (fun z => z.moved ha)⟩
  · have hq' : ∀ a : Nat, a < H.size → ¬ n0 ≤ a → H1[a]? = H[a]? := fun a _ ha => hq a (Nat.not_le.mp ha)
    exact ⟨h.1, h.2.1.kept hq', h.2.2.1.kept hq', h.2.2.2.imp (fun z => z.kept hq') (fun z => z.kept hq')⟩
theorem cvA_big {n0 : Nat} {ad : Nat → Nat} {i : Nat} : cvA n0 ad (4294967296 + i) = ad i := by
  unfold cvA
  rw [if_neg (by omega), Nat.add_sub_cancel_left]
theorem Met.ofWF {l : Launch} {y : MethodName} {ws ws' : List Cond} {rm : Room} {Pc : Array Value → State → Prop} {Qc : Array Value → State → Outcome → State → Prop} {mc ms : Nat} {free : Addr → Prop} {cc : ByteArray} {maxL : Nat} {ret : Option FieldType}
    (hy : plainFor y = true) (hw : ws = Cond.code y cc maxL ret :: ws')
    (body : ∀ p e s m args below meth c s₁, BodyLoose p l y (headSpec ws rm) cc maxL ret e s m args below meth c s₁ → c.maxLocals = maxL → Pc args s →
      W p l e (headSpec ws rm).room s m args below meth c s.heap [] 0 0 (MQ below Qc args s mc ms free) (entryFrame m args maxL)) : Met l y ws rm Pc Qc mc ms free := by
  refine MetFree.of_bodySF (code := cc) (maxLocals := maxL) (ret := ret) hy ?_ ?_
  · intro args s m h hn
    obtain ⟨meth, c, h1, h2, h3, h4, h5, h6, -, -⟩ := Cond.code_spec hn (atoms_spec (ws := ws) h _ (by rw [hw]; exact List.mem_cons_self))
    exact ⟨meth, c, h1, h2, h3, h4, h5, h6⟩
  · intro p e s m args below meth c s₁ B hml hP _
    have hh0 : s₁.heap = s.heap := by rw [B.state]; rfl
    obtain ⟨t, a1, o, b1, b2, b3⟩ := body p e s m args below meth c s₁ B hml hP s₁ hh0 (Stand.of_body B)
    exact ⟨t, o, a1, b1, b2, ⟨b3.1, b3.2⟩⟩
section PMS
variable {p : Program} {l : Launch} {e : Env} {R : Room} {s : State} {m : MethodId} {args : Array Value} {below : List Frame} {meth : Method} {c : Code} {H : Heap} {locs : List Loc} {cells slots : Nat} {Q : State → Prop}
variable {cc : ByteArray} {pc : Nat} {ls : Array Slot} {rest : List Value}
theorem pm_ldcwF (hexec : p.tables.exec = Jvm.exec) (hb : c.code = cc) {own : String} {index : Nat} {v : UInt32} (hown : s.vm.findClass own = some m.cls) (hconst : (Jvm.Cond.constantFloat own index v).before args s = true) (hdg : decode cc pc = .ok (.ldc_w index, 3)) (k : W p l e R s m args below meth c H locs cells slots Q (F0 m (pc + 3) ls (.float v :: rest))) : W p l e R s m args below meth c H locs cells slots Q (F0 m pc ls rest) := by
  intro T hT X
  obtain ⟨t, a, b⟩ := k T hT X
  refine ⟨t, ?_, b⟩
  obtain ⟨k', cf, hk, hcf, hcp⟩ := Cond.constantFloat_spec hown hconst
  obtain ⟨k2, hk2, he⟩ := X.warmed.alike.2.2 _ _ hk
  jvm_step X.here [hexec, hb, hdg, ldc_w.wp_float (e := e) (s := T) (f := F0 m pc ls rest) X.here.top hk2 (by rw [he]; exact hcf) hcp]
  exact a
theorem pm_ldcS (hexec : p.tables.exec = Jvm.exec) (hb : c.code = cc) {own tx : String} {index q : Nat} (hown : s.vm.findClass own = some m.cls) (hZ : vk_R own index tx q s) (hdg : decode cc pc = .ok (.ldc_w index, 3)) (k : W p l e R s m args below meth c H locs cells slots Q (F0 m (pc + 3) ls (.ref q :: rest))) : W p l e R s m args below meth c H locs cells slots Q (F0 m pc ls rest) := by
  intro T hT X
  obtain ⟨t, a, b⟩ := k T hT X
  refine ⟨t, ?_, b⟩
  obtain ⟨k1, cf, i, a', hk, hcf, hcp, -, hr, hev'⟩ := Cond.stringRef_spec (args := #[]) (o := none) (idx := []) (first := s) hown hZ.1
  cases hZ.2.symm.trans hev'
  obtain ⟨k', hk', he⟩ := X.warmed.alike.2.2 _ _ hk
  have hr' : k'.resolved[index]? = some (some (.string q)) := by
    rcases X.warmed.entry hk hk' index with h | ⟨h, -⟩
    · rw [h]; exact hr
    · rw [hr] at h; cases h
  jvm_step X.here [hexec, hb, hdg, ldc_w.wp_string (e := e) (s := T) (f := F0 m pc ls rest) X.here.top hk' (by rw [he]; exact hcf) hcp hr']
  exact a
end PMS
/-- a method's start in the real machine, for a pure one -/
def pcX (n0 : Nat) (ad : Nat → Nat) (dC : Nat → ClassId) (dI : Nat → Nat → Nat) (dA : Nat → ClassId) (ZS : State → Heap → Prop) (As : List Value) (h : HP) : Array Value → State → Prop :=
  va_Pc (As.map (cv n0 ad)) (fun U => U.heap.size = n0 + hsz h ∧ va_P (dC, dI) pcls (wsH n0 ad dA h) U.heap ∧ va_K (dC, dI) pcls (TYS dA) U ∧ NB U ∧ ZS U U.heap)
def qcX (n0 : Nat) (ad : Nat → Nat) (dC : Nat → ClassId) (dI : Nat → Nat → Nat) (dA : Nat → ClassId) (r : Option Value) (h : HP) : Array Value → State → Outcome → State → Prop :=
  fun _ st oc t => oc = .returned (r.map (cv n0 ad)) ∧ t.heap.size = n0 + hsz h ∧ va_P (dC, dI) pcls (wsH n0 ad dA h) t.heap ∧ va_F (fun q => n0 ≤ q) st t
def rmD (d mc ms : Nat) : Room := { frames := d, cells := mc, slots := ms, locals := 48 * d }
theorem pcX_blind {n0 : Nat} {ad : Nat → Nat} {dC : Nat → ClassId} {dI : Nat → Nat → Nat} {dA : Nat → ClassId} {ZS : State → Heap → Prop} (hZ : ZOK n0 ZS) (As : List Value) (h : HP) : FrameBlind (pcX n0 ad dC dI dA ZS As h) := by
  intro a U g mk q
  obtain ⟨q0, q1, q2, q3, q4, q5⟩ := q
  exact ⟨q0, q1, q2, va_K.moved (u := U) (U := U.calling g mk a) (Vm.Alike.refl U.vm) q3, NB.same rfl q4, hZ.2.1 U _ _ rfl q5⟩
/-- what the real machine offers a method's run -/
def Cx (p : Program) (l : Launch) (e : Env) (R : Room) (s : State) (m : MethodId) (args : Array Value) (below : List Frame) (meth : Method) (c : Code) (y : PMe) (d n0 : Nat) (ad : Nat → Nat) (dC : Nat → ClassId) (dI : Nat → Nat → Nat) (dA : Nat → ClassId) (ZS : State → Heap → Prop) (h0 h1 : HP) : Prop :=
  p.tables.exec = Jvm.exec ∧ c.code = mb y ∧ c.maxLocals = mL y ∧ s.vm.findClass (cnm (mo y)) = some m.cls ∧ (∀ w ∈ PT, w.before args s = true) ∧ va_K (dC, dI) pcls (TYS dA) s ∧ hsz h1 ≤ 4294967296 ∧ meth.name = (my y).name ∧ (hsz h1 - hsz h0 ≤ R.cells ∧ hsl h1 - hsl h0 ≤ R.slots ∧ d + 1 ≤ R.frames ∧ 48 * (d + 1) ≤ R.locals) ∧ NB s ∧ ZS s s.heap ∧ ZOK n0 ZS ∧ s.heap.size = n0 + hsz h0
section
variable {p : Program} {l : Launch} {e : Env} {R : Room} {s : State} {m : MethodId} {args : Array Value} {below : List Frame} {meth : Method} {c : Code} {y : PMe} {d n0 : Nat} {ad : Nat → Nat} {dC : Nat → ClassId} {dI : Nat → Nat → Nat} {dA : Nat → ClassId} {ZS : State → Heap → Prop} {h0 h1 : HP} {Q : State → Prop}
theorem Cx.hx (X : Cx p l e R s m args below meth c y d n0 ad dC dI dA ZS h0 h1) : p.tables.exec = Jvm.exec := X.1
theorem Cx.hb (X : Cx p l e R s m args below meth c y d n0 ad dC dI dA ZS h0 h1) : c.code = mb y := X.2.1
theorem Cx.hml (X : Cx p l e R s m args below meth c y d n0 ad dC dI dA ZS h0 h1) : c.maxLocals = mL y := X.2.2.1
theorem Cx.hown (X : Cx p l e R s m args below meth c y d n0 ad dC dI dA ZS h0 h1) : s.vm.findClass (cnm (mo y)) = some m.cls := X.2.2.2.1
theorem Cx.hts (X : Cx p l e R s m args below meth c y d n0 ad dC dI dA ZS h0 h1) : ∀ w ∈ PT, w.before args s = true := X.2.2.2.2.1
theorem Cx.hK (X : Cx p l e R s m args below meth c y d n0 ad dC dI dA ZS h0 h1) : va_K (dC, dI) pcls (TYS dA) s := X.2.2.2.2.2.1
theorem Cx.hbig (X : Cx p l e R s m args below meth c y d n0 ad dC dI dA ZS h0 h1) : hsz h1 ≤ 4294967296 := X.2.2.2.2.2.2.1
theorem Cx.hnm (X : Cx p l e R s m args below meth c y d n0 ad dC dI dA ZS h0 h1) : meth.name = (my y).name := X.2.2.2.2.2.2.2.1
theorem Cx.hRc (X : Cx p l e R s m args below meth c y d n0 ad dC dI dA ZS h0 h1) : hsz h1 - hsz h0 ≤ R.cells := X.2.2.2.2.2.2.2.2.1.1
theorem Cx.hRs (X : Cx p l e R s m args below meth c y d n0 ad dC dI dA ZS h0 h1) : hsl h1 - hsl h0 ≤ R.slots := X.2.2.2.2.2.2.2.2.1.2.1
theorem Cx.hRf (X : Cx p l e R s m args below meth c y d n0 ad dC dI dA ZS h0 h1) : d + 1 ≤ R.frames := X.2.2.2.2.2.2.2.2.1.2.2.1
theorem Cx.hRl (X : Cx p l e R s m args below meth c y d n0 ad dC dI dA ZS h0 h1) : 48 * (d + 1) ≤ R.locals := X.2.2.2.2.2.2.2.2.1.2.2.2
theorem Cx.hNB (X : Cx p l e R s m args below meth c y d n0 ad dC dI dA ZS h0 h1) : NB s := X.2.2.2.2.2.2.2.2.2.1
theorem Cx.hZ (X : Cx p l e R s m args below meth c y d n0 ad dC dI dA ZS h0 h1) : ZS s s.heap := X.2.2.2.2.2.2.2.2.2.2.1
theorem Cx.hZO (X : Cx p l e R s m args below meth c y d n0 ad dC dI dA ZS h0 h1) : ZOK n0 ZS := X.2.2.2.2.2.2.2.2.2.2.2.1
theorem Cx.hS0 (X : Cx p l e R s m args below meth c y d n0 ad dC dI dA ZS h0 h1) : s.heap.size = n0 + hsz h0 := X.2.2.2.2.2.2.2.2.2.2.2.2
theorem Cx.hAO (X : Cx p l e R s m args below meth c y d n0 ad dC dI dA ZS h0 h1) {ci : Nat} (hc : ci < 12) (hv : Cond.arrayOver (.object (cnm ci)) ∈ lw_tbl) : (Cond.arrayOver (.object (cnm ci))).before args s = true := va_AO.use (X.hNB.2 _ hv)
/-- the pure machine's state as the real one's -/
def PW (p : Program) (l : Launch) (e : Env) (R : Room) (s : State) (m : MethodId) (args : Array Value) (below : List Frame) (meth : Method) (c : Code) (y : PMe) (n0 : Nat) (ad : Nat → Nat) (dC : Nat → ClassId) (dI : Nat → Nat → Nat) (dA : Nat → ClassId) (h0 h1 : HP) (Q : State → Prop) : PP := fun pc lv st h =>
  (hsz h ≤ hsz h1 ∧ hsl h ≤ hsl h1) ∧ (hsz h0 ≤ hsz h → hsl h0 ≤ hsl h → ∀ (H : Heap) (locs : List Loc) (ls : Array Slot), H.size = n0 + hsz h → va_P (dC, dI) pcls (wsH n0 ad dA h) H → va_S (fun q => n0 ≤ q) s.heap H locs → lv_has ls (mL y) (lv.map (fun q => (q.1, cv n0 ad q.2))) → W p l e R s m args below meth c H locs (hsz h - hsz h0) (hsl h - hsl h0) Q (F0 m pc ls (st.map (cv n0 ad))))

theorem pw_iload (X : Cx p l e R s m args below meth c y d n0 ad dC dI dA ZS h0 h1) : ru_iload y (PW p l e R s m args below meth c y n0 ad dC dI dA h0 h1 Q) := by
  intro pc lv st h i j x hd hj k
  exact ⟨k.1, fun b1 b2 H locs ls e1 e2 e3 e4 => lv_iload X.hx X.hb hd (pw_at e4 hj) (k.2 b1 b2 H locs ls e1 e2 e3 e4)⟩
theorem pw_lload (X : Cx p l e R s m args below meth c y d n0 ad dC dI dA ZS h0 h1) : ru_lload y (PW p l e R s m args below meth c y n0 ad dC dI dA h0 h1 Q) := by
  intro pc lv st h i j x hd hj k
  exact ⟨k.1, fun b1 b2 H locs ls e1 e2 e3 e4 => lv_lload X.hx X.hb hd (pw_at e4 hj) (k.2 b1 b2 H locs ls e1 e2 e3 e4)⟩
theorem pw_dload (X : Cx p l e R s m args below meth c y d n0 ad dC dI dA ZS h0 h1) : ru_dload y (PW p l e R s m args below meth c y n0 ad dC dI dA h0 h1 Q) := by
  intro pc lv st h i j x hd hj k
  exact ⟨k.1, fun b1 b2 H locs ls e1 e2 e3 e4 => lv_dload X.hx X.hb hd (pw_at e4 hj) (k.2 b1 b2 H locs ls e1 e2 e3 e4)⟩
theorem pw_iload_n (X : Cx p l e R s m args below meth c y d n0 ad dC dI dA ZS h0 h1) : ru_iload_n y (PW p l e R s m args below meth c y n0 ad dC dI dA h0 h1 Q) := by
  intro pc lv st h q i j x hd hi hj k
  exact ⟨k.1, fun b1 b2 H locs ls e1 e2 e3 e4 => lv_iload_n X.hx X.hb hd hi (pw_at e4 hj) (k.2 b1 b2 H locs ls e1 e2 e3 e4)⟩
theorem pw_lload_n (X : Cx p l e R s m args below meth c y d n0 ad dC dI dA ZS h0 h1) : ru_lload_n y (PW p l e R s m args below meth c y n0 ad dC dI dA h0 h1 Q) := by
  intro pc lv st h q i j x hd hi hj k
  exact ⟨k.1, fun b1 b2 H locs ls e1 e2 e3 e4 => lv_lload_n X.hx X.hb hd hi (pw_at e4 hj) (k.2 b1 b2 H locs ls e1 e2 e3 e4)⟩
theorem pw_dload_n (X : Cx p l e R s m args below meth c y d n0 ad dC dI dA ZS h0 h1) : ru_dload_n y (PW p l e R s m args below meth c y n0 ad dC dI dA h0 h1 Q) := by
  intro pc lv st h q i j x hd hi hj k
  exact ⟨k.1, fun b1 b2 H locs ls e1 e2 e3 e4 => lv_dload_n X.hx X.hb hd hi (pw_at e4 hj) (k.2 b1 b2 H locs ls e1 e2 e3 e4)⟩
theorem pw_aload (X : Cx p l e R s m args below meth c y d n0 ad dC dI dA ZS h0 h1) : ru_aload y (PW p l e R s m args below meth c y n0 ad dC dI dA h0 h1 Q) := by
  intro pc lv st h i j v hd hj hv k
  rcases hv with rfl | ⟨a, rfl⟩
  · exact ⟨k.1, fun b1 b2 H locs ls e1 e2 e3 e4 => lv_aloadN X.hx X.hb hd (pw_at e4 hj) (k.2 b1 b2 H locs ls e1 e2 e3 e4)⟩
  · exact ⟨k.1, fun b1 b2 H locs ls e1 e2 e3 e4 => lv_aload X.hx X.hb hd (pw_at e4 hj) (k.2 b1 b2 H locs ls e1 e2 e3 e4)⟩
theorem pw_aload_n (X : Cx p l e R s m args below meth c y d n0 ad dC dI dA ZS h0 h1) : ru_aload_n y (PW p l e R s m args below meth c y n0 ad dC dI dA h0 h1 Q) := by
  intro pc lv st h q i j v hd hi hj hv k
  rcases hv with rfl | ⟨a, rfl⟩
  · exact ⟨k.1, fun b1 b2 H locs ls e1 e2 e3 e4 => lv_aload_nN X.hx X.hb hd hi (pw_at e4 hj) (k.2 b1 b2 H locs ls e1 e2 e3 e4)⟩
  · exact ⟨k.1, fun b1 b2 H locs ls e1 e2 e3 e4 => lv_aload_n X.hx X.hb hd hi (pw_at e4 hj) (k.2 b1 b2 H locs ls e1 e2 e3 e4)⟩
theorem pw_istore (X : Cx p l e R s m args below meth c y d n0 ad dC dI dA ZS h0 h1) : ru_istore y (PW p l e R s m args below meth c y n0 ad dC dI dA h0 h1 Q) := by
  intro pc lv st h i x lv1 hd hn hl k
  subst hl
  exact ⟨k.1, fun b1 b2 H locs ls e1 e2 e3 e4 => lv_istore X.hx X.hb hd e4 hn (sto_cv n0 ad i (.int x) lv) (fun ls1 e5 => k.2 b1 b2 H locs ls1 e1 e2 e3 e5)⟩
theorem pw_lstore (X : Cx p l e R s m args below meth c y d n0 ad dC dI dA ZS h0 h1) : ru_lstore y (PW p l e R s m args below meth c y n0 ad dC dI dA h0 h1 Q) := by
  intro pc lv st h i x lv1 hd hn hl k
  subst hl
  exact ⟨k.1, fun b1 b2 H locs ls e1 e2 e3 e4 => lv_lstore X.hx X.hb hd e4 hn (stoL_cv n0 ad i (.long x) lv) (fun ls1 e5 => k.2 b1 b2 H locs ls1 e1 e2 e3 e5)⟩
theorem pw_dstore (X : Cx p l e R s m args below meth c y d n0 ad dC dI dA ZS h0 h1) : ru_dstore y (PW p l e R s m args below meth c y n0 ad dC dI dA h0 h1 Q) := by
  intro pc lv st h i x lv1 hd hn hl k
  subst hl
  exact ⟨k.1, fun b1 b2 H locs ls e1 e2 e3 e4 => lv_dstore X.hx X.hb hd e4 hn (stoL_cv n0 ad i (.double x) lv) (fun ls1 e5 => k.2 b1 b2 H locs ls1 e1 e2 e3 e5)⟩
theorem pw_istore_n (X : Cx p l e R s m args below meth c y d n0 ad dC dI dA ZS h0 h1) : ru_istore_n y (PW p l e R s m args below meth c y n0 ad dC dI dA h0 h1 Q) := by
  intro pc lv st h q i x lv1 hd hi hn hl k
  subst hl
  exact ⟨k.1, fun b1 b2 H locs ls e1 e2 e3 e4 => lv_istore_n X.hx X.hb hd hi e4 hn (sto_cv n0 ad i (.int x) lv) (fun ls1 e5 => k.2 b1 b2 H locs ls1 e1 e2 e3 e5)⟩
theorem pw_lstore_n (X : Cx p l e R s m args below meth c y d n0 ad dC dI dA ZS h0 h1) : ru_lstore_n y (PW p l e R s m args below meth c y n0 ad dC dI dA h0 h1 Q) := by
  intro pc lv st h q i x lv1 hd hi hn hl k
  subst hl
  exact ⟨k.1, fun b1 b2 H locs ls e1 e2 e3 e4 => lv_lstore_n X.hx X.hb hd hi e4 hn (stoL_cv n0 ad i (.long x) lv) (fun ls1 e5 => k.2 b1 b2 H locs ls1 e1 e2 e3 e5)⟩
theorem pw_dstore_n (X : Cx p l e R s m args below meth c y d n0 ad dC dI dA ZS h0 h1) : ru_dstore_n y (PW p l e R s m args below meth c y n0 ad dC dI dA h0 h1 Q) := by
  intro pc lv st h q i x lv1 hd hi hn hl k
  subst hl
  exact ⟨k.1, fun b1 b2 H locs ls e1 e2 e3 e4 => lv_dstore_n X.hx X.hb hd hi e4 hn (stoL_cv n0 ad i (.double x) lv) (fun ls1 e5 => k.2 b1 b2 H locs ls1 e1 e2 e3 e5)⟩
theorem pw_astore (X : Cx p l e R s m args below meth c y d n0 ad dC dI dA ZS h0 h1) : ru_astore y (PW p l e R s m args below meth c y n0 ad dC dI dA h0 h1 Q) := by
  intro pc lv st h i v lv1 hd hn hl hv k
  subst hl
  rcases hv with rfl | ⟨a, rfl⟩
  · exact ⟨k.1, fun b1 b2 H locs ls e1 e2 e3 e4 => lv_astoreN X.hx X.hb hd  e4 hn (sto_cv n0 ad i .null lv) (fun ls1 e5 => k.2 b1 b2 H locs ls1 e1 e2 e3 e5)⟩
  · exact ⟨k.1, fun b1 b2 H locs ls e1 e2 e3 e4 => lv_astore X.hx X.hb hd  e4 hn (sto_cv n0 ad i (.ref a) lv) (fun ls1 e5 => k.2 b1 b2 H locs ls1 e1 e2 e3 e5)⟩
theorem pw_astore_n (X : Cx p l e R s m args below meth c y d n0 ad dC dI dA ZS h0 h1) : ru_astore_n y (PW p l e R s m args below meth c y n0 ad dC dI dA h0 h1 Q) := by
  intro pc lv st h q i v lv1 hd hi hn hl hv k
  subst hl
  rcases hv with rfl | ⟨a, rfl⟩
  · exact ⟨k.1, fun b1 b2 H locs ls e1 e2 e3 e4 => lv_astore_nN X.hx X.hb hd hi e4 hn (sto_cv n0 ad i .null lv) (fun ls1 e5 => k.2 b1 b2 H locs ls1 e1 e2 e3 e5)⟩
  · exact ⟨k.1, fun b1 b2 H locs ls e1 e2 e3 e4 => lv_astore_n X.hx X.hb hd hi e4 hn (sto_cv n0 ad i (.ref a) lv) (fun ls1 e5 => k.2 b1 b2 H locs ls1 e1 e2 e3 e5)⟩
theorem pw_iinc (X : Cx p l e R s m args below meth c y d n0 ad dC dI dA ZS h0 h1) : ru_iinc y (PW p l e R s m args below meth c y n0 ad dC dI dA h0 h1 Q) := by
  intro pc lv st h i j n x v lv1 hd hj hv hn hl k
  subst hl
  exact ⟨k.1, fun b1 b2 H locs ls e1 e2 e3 e4 => lv_iinc (k := j) X.hx X.hb hd e4 (pw_map hj) hv hn (sto_cv n0 ad i (.int v) lv) (fun ls1 e5 => k.2 b1 b2 H locs ls1 e1 e2 e3 e5)⟩
theorem pw_iconst (X : Cx p l e R s m args below meth c y d n0 ad dC dI dA ZS h0 h1) : ru_iconst y (PW p l e R s m args below meth c y n0 ad dC dI dA h0 h1 Q) := by
  intro pc lv st h n v hd hv k
  exact ⟨k.1, fun b1 b2 H locs ls e1 e2 e3 e4 => lv_iconst X.hx X.hb hd hv (k.2 b1 b2 H locs ls e1 e2 e3 e4)⟩
theorem pw_bipush (X : Cx p l e R s m args below meth c y d n0 ad dC dI dA ZS h0 h1) : ru_bipush y (PW p l e R s m args below meth c y n0 ad dC dI dA h0 h1 Q) := by
  intro pc lv st h n v hd hv k
  exact ⟨k.1, fun b1 b2 H locs ls e1 e2 e3 e4 => lv_bipush X.hx X.hb hd hv (k.2 b1 b2 H locs ls e1 e2 e3 e4)⟩
theorem pw_sipush (X : Cx p l e R s m args below meth c y d n0 ad dC dI dA ZS h0 h1) : ru_sipush y (PW p l e R s m args below meth c y n0 ad dC dI dA h0 h1 Q) := by
  intro pc lv st h n v hd hv k
  exact ⟨k.1, fun b1 b2 H locs ls e1 e2 e3 e4 => lv_sipush X.hx X.hb hd hv (k.2 b1 b2 H locs ls e1 e2 e3 e4)⟩
theorem pw_lconst (X : Cx p l e R s m args below meth c y d n0 ad dC dI dA ZS h0 h1) : ru_lconst y (PW p l e R s m args below meth c y n0 ad dC dI dA h0 h1 Q) := by
  intro pc lv st h n v hd hv k
  exact ⟨k.1, fun b1 b2 H locs ls e1 e2 e3 e4 => lv_lconst X.hx X.hb hd hv (k.2 b1 b2 H locs ls e1 e2 e3 e4)⟩
theorem pw_anull (X : Cx p l e R s m args below meth c y d n0 ad dC dI dA ZS h0 h1) : ru_anull y (PW p l e R s m args below meth c y n0 ad dC dI dA h0 h1 Q) := by
  intro pc lv st h  hd k
  exact ⟨k.1, fun b1 b2 H locs ls e1 e2 e3 e4 => lv_null X.hx X.hb hd  (k.2 b1 b2 H locs ls e1 e2 e3 e4)⟩
theorem pw_fconst1 (X : Cx p l e R s m args below meth c y d n0 ad dC dI dA ZS h0 h1) : ru_fconst1 y (PW p l e R s m args below meth c y n0 ad dC dI dA h0 h1 Q) := by
  intro pc lv st h  hd k
  exact ⟨k.1, fun b1 b2 H locs ls e1 e2 e3 e4 => lv_fconst1 X.hx X.hb hd  (k.2 b1 b2 H locs ls e1 e2 e3 e4)⟩
theorem pw_ldc (X : Cx p l e R s m args below meth c y d n0 ad dC dI dA ZS h0 h1) : ru_ldc y (PW p l e R s m args below meth c y n0 ad dC dI dA h0 h1 Q) := by
  intro pc lv st h ix v hd hw k
  exact ⟨k.1, fun b1 b2 H locs ls e1 e2 e3 e4 => lv_ldc X.hx X.hb X.hown (X.hts _ hw) hd (k.2 b1 b2 H locs ls e1 e2 e3 e4)⟩
theorem pw_ldcw (X : Cx p l e R s m args below meth c y d n0 ad dC dI dA ZS h0 h1) : ru_ldcw y (PW p l e R s m args below meth c y n0 ad dC dI dA h0 h1 Q) := by
  intro pc lv st h ix v hd hw k
  exact ⟨k.1, fun b1 b2 H locs ls e1 e2 e3 e4 => lv_ldcw X.hx X.hb X.hown (X.hts _ hw) hd (k.2 b1 b2 H locs ls e1 e2 e3 e4)⟩
theorem pw_ldc2 (X : Cx p l e R s m args below meth c y d n0 ad dC dI dA ZS h0 h1) : ru_ldc2 y (PW p l e R s m args below meth c y n0 ad dC dI dA h0 h1 Q) := by
  intro pc lv st h ix v hd hw k
  exact ⟨k.1, fun b1 b2 H locs ls e1 e2 e3 e4 => lv_ldc2 X.hx X.hb X.hown (X.hts _ hw) hd (k.2 b1 b2 H locs ls e1 e2 e3 e4)⟩
theorem pw_iadd (X : Cx p l e R s m args below meth c y d n0 ad dC dI dA ZS h0 h1) : ru_iadd y (PW p l e R s m args below meth c y n0 ad dC dI dA h0 h1 Q) := by
  intro pc lv st h x z hd k
  exact ⟨k.1, fun b1 b2 H locs ls e1 e2 e3 e4 => lv_iadd X.hx X.hb hd  (k.2 b1 b2 H locs ls e1 e2 e3 e4)⟩
theorem pw_isub (X : Cx p l e R s m args below meth c y d n0 ad dC dI dA ZS h0 h1) : ru_isub y (PW p l e R s m args below meth c y n0 ad dC dI dA h0 h1 Q) := by
  intro pc lv st h x z hd k
  exact ⟨k.1, fun b1 b2 H locs ls e1 e2 e3 e4 => lv_isub X.hx X.hb hd  (k.2 b1 b2 H locs ls e1 e2 e3 e4)⟩
theorem pw_imul (X : Cx p l e R s m args below meth c y d n0 ad dC dI dA ZS h0 h1) : ru_imul y (PW p l e R s m args below meth c y n0 ad dC dI dA h0 h1 Q) := by
  intro pc lv st h x z hd k
  exact ⟨k.1, fun b1 b2 H locs ls e1 e2 e3 e4 => lv_imul X.hx X.hb hd  (k.2 b1 b2 H locs ls e1 e2 e3 e4)⟩
theorem pw_iand (X : Cx p l e R s m args below meth c y d n0 ad dC dI dA ZS h0 h1) : ru_iand y (PW p l e R s m args below meth c y n0 ad dC dI dA h0 h1 Q) := by
  intro pc lv st h x z hd k
  exact ⟨k.1, fun b1 b2 H locs ls e1 e2 e3 e4 => lv_iand X.hx X.hb hd  (k.2 b1 b2 H locs ls e1 e2 e3 e4)⟩
theorem pw_ior (X : Cx p l e R s m args below meth c y d n0 ad dC dI dA ZS h0 h1) : ru_ior y (PW p l e R s m args below meth c y n0 ad dC dI dA h0 h1 Q) := by
  intro pc lv st h x z hd k
  exact ⟨k.1, fun b1 b2 H locs ls e1 e2 e3 e4 => lv_ior X.hx X.hb hd  (k.2 b1 b2 H locs ls e1 e2 e3 e4)⟩
theorem pw_ixor (X : Cx p l e R s m args below meth c y d n0 ad dC dI dA ZS h0 h1) : ru_ixor y (PW p l e R s m args below meth c y n0 ad dC dI dA h0 h1 Q) := by
  intro pc lv st h x z hd k
  exact ⟨k.1, fun b1 b2 H locs ls e1 e2 e3 e4 => lv_ixor X.hx X.hb hd  (k.2 b1 b2 H locs ls e1 e2 e3 e4)⟩
theorem pw_ishl (X : Cx p l e R s m args below meth c y d n0 ad dC dI dA ZS h0 h1) : ru_ishl y (PW p l e R s m args below meth c y n0 ad dC dI dA h0 h1 Q) := by
  intro pc lv st h x z hd k
  exact ⟨k.1, fun b1 b2 H locs ls e1 e2 e3 e4 => lv_ishl X.hx X.hb hd  (k.2 b1 b2 H locs ls e1 e2 e3 e4)⟩
theorem pw_ishr (X : Cx p l e R s m args below meth c y d n0 ad dC dI dA ZS h0 h1) : ru_ishr y (PW p l e R s m args below meth c y n0 ad dC dI dA h0 h1 Q) := by
  intro pc lv st h x z hd k
  exact ⟨k.1, fun b1 b2 H locs ls e1 e2 e3 e4 => lv_ishr X.hx X.hb hd  (k.2 b1 b2 H locs ls e1 e2 e3 e4)⟩
theorem pw_ladd (X : Cx p l e R s m args below meth c y d n0 ad dC dI dA ZS h0 h1) : ru_ladd y (PW p l e R s m args below meth c y n0 ad dC dI dA h0 h1 Q) := by
  intro pc lv st h x z hd k
  exact ⟨k.1, fun b1 b2 H locs ls e1 e2 e3 e4 => lv_ladd X.hx X.hb hd  (k.2 b1 b2 H locs ls e1 e2 e3 e4)⟩
theorem pw_lsub (X : Cx p l e R s m args below meth c y d n0 ad dC dI dA ZS h0 h1) : ru_lsub y (PW p l e R s m args below meth c y n0 ad dC dI dA h0 h1 Q) := by
  intro pc lv st h x z hd k
  exact ⟨k.1, fun b1 b2 H locs ls e1 e2 e3 e4 => lv_lsub X.hx X.hb hd  (k.2 b1 b2 H locs ls e1 e2 e3 e4)⟩
theorem pw_lmul (X : Cx p l e R s m args below meth c y d n0 ad dC dI dA ZS h0 h1) : ru_lmul y (PW p l e R s m args below meth c y n0 ad dC dI dA h0 h1 Q) := by
  intro pc lv st h x z hd k
  exact ⟨k.1, fun b1 b2 H locs ls e1 e2 e3 e4 => lv_lmul X.hx X.hb hd  (k.2 b1 b2 H locs ls e1 e2 e3 e4)⟩
theorem pw_land (X : Cx p l e R s m args below meth c y d n0 ad dC dI dA ZS h0 h1) : ru_land y (PW p l e R s m args below meth c y n0 ad dC dI dA h0 h1 Q) := by
  intro pc lv st h x z hd k
  exact ⟨k.1, fun b1 b2 H locs ls e1 e2 e3 e4 => lv_land X.hx X.hb hd  (k.2 b1 b2 H locs ls e1 e2 e3 e4)⟩
theorem pw_lor (X : Cx p l e R s m args below meth c y d n0 ad dC dI dA ZS h0 h1) : ru_lor y (PW p l e R s m args below meth c y n0 ad dC dI dA h0 h1 Q) := by
  intro pc lv st h x z hd k
  exact ⟨k.1, fun b1 b2 H locs ls e1 e2 e3 e4 => lv_lor X.hx X.hb hd  (k.2 b1 b2 H locs ls e1 e2 e3 e4)⟩
theorem pw_iushr (X : Cx p l e R s m args below meth c y d n0 ad dC dI dA ZS h0 h1) : ru_iushr y (PW p l e R s m args below meth c y n0 ad dC dI dA h0 h1 Q) := by
  intro pc lv st h x z hd k
  exact ⟨k.1, fun b1 b2 H locs ls e1 e2 e3 e4 => lv_iushr X.hx X.hb hd rfl (k.2 b1 b2 H locs ls e1 e2 e3 e4)⟩
theorem pw_idiv (X : Cx p l e R s m args below meth c y d n0 ad dC dI dA ZS h0 h1) : ru_idiv y (PW p l e R s m args below meth c y n0 ad dC dI dA h0 h1 Q) := by
  intro pc lv st h x z hd hz k
  exact ⟨k.1, fun b1 b2 H locs ls e1 e2 e3 e4 => lv_idiv X.hx X.hb hd hz (k.2 b1 b2 H locs ls e1 e2 e3 e4)⟩
theorem pw_irem (X : Cx p l e R s m args below meth c y d n0 ad dC dI dA ZS h0 h1) : ru_irem y (PW p l e R s m args below meth c y n0 ad dC dI dA h0 h1 Q) := by
  intro pc lv st h x z hd hz k
  exact ⟨k.1, fun b1 b2 H locs ls e1 e2 e3 e4 => lv_irem X.hx X.hb hd hz (k.2 b1 b2 H locs ls e1 e2 e3 e4)⟩
theorem pw_lshl (X : Cx p l e R s m args below meth c y d n0 ad dC dI dA ZS h0 h1) : ru_lshl y (PW p l e R s m args below meth c y n0 ad dC dI dA h0 h1 Q) := by
  intro pc lv st h x z hd k
  exact ⟨k.1, fun b1 b2 H locs ls e1 e2 e3 e4 => lv_lshl X.hx X.hb hd rfl (k.2 b1 b2 H locs ls e1 e2 e3 e4)⟩
theorem pw_lshr (X : Cx p l e R s m args below meth c y d n0 ad dC dI dA ZS h0 h1) : ru_lshr y (PW p l e R s m args below meth c y n0 ad dC dI dA h0 h1 Q) := by
  intro pc lv st h x z hd k
  exact ⟨k.1, fun b1 b2 H locs ls e1 e2 e3 e4 => lv_lshr X.hx X.hb hd rfl (k.2 b1 b2 H locs ls e1 e2 e3 e4)⟩
theorem pw_lcmp (X : Cx p l e R s m args below meth c y d n0 ad dC dI dA ZS h0 h1) : ru_lcmp y (PW p l e R s m args below meth c y n0 ad dC dI dA h0 h1 Q) := by
  intro pc lv st h x z hd k
  exact ⟨k.1, fun b1 b2 H locs ls e1 e2 e3 e4 => W.lcmp X.hx X.hb hd  (k.2 b1 b2 H locs ls e1 e2 e3 e4)⟩
theorem pw_i2l (X : Cx p l e R s m args below meth c y d n0 ad dC dI dA ZS h0 h1) : ru_i2l y (PW p l e R s m args below meth c y n0 ad dC dI dA h0 h1 Q) := by
  intro pc lv st h x hd k
  exact ⟨k.1, fun b1 b2 H locs ls e1 e2 e3 e4 => lv_i2l X.hx X.hb hd rfl (k.2 b1 b2 H locs ls e1 e2 e3 e4)⟩
theorem pw_l2i (X : Cx p l e R s m args below meth c y d n0 ad dC dI dA ZS h0 h1) : ru_l2i y (PW p l e R s m args below meth c y n0 ad dC dI dA h0 h1 Q) := by
  intro pc lv st h x hd k
  exact ⟨k.1, fun b1 b2 H locs ls e1 e2 e3 e4 => lv_l2i X.hx X.hb hd rfl (k.2 b1 b2 H locs ls e1 e2 e3 e4)⟩
theorem pw_i2f (X : Cx p l e R s m args below meth c y d n0 ad dC dI dA ZS h0 h1) : ru_i2f y (PW p l e R s m args below meth c y n0 ad dC dI dA h0 h1 Q) := by
  intro pc lv st h x hd k
  exact ⟨k.1, fun b1 b2 H locs ls e1 e2 e3 e4 => lv_i2f X.hx X.hb hd  (k.2 b1 b2 H locs ls e1 e2 e3 e4)⟩
theorem pw_i2b (X : Cx p l e R s m args below meth c y d n0 ad dC dI dA ZS h0 h1) : ru_i2b y (PW p l e R s m args below meth c y n0 ad dC dI dA h0 h1 Q) := by
  intro pc lv st h x hd k
  exact ⟨k.1, fun b1 b2 H locs ls e1 e2 e3 e4 => lv_i2b X.hx X.hb hd rfl (k.2 b1 b2 H locs ls e1 e2 e3 e4)⟩
theorem pw_i2c (X : Cx p l e R s m args below meth c y d n0 ad dC dI dA ZS h0 h1) : ru_i2c y (PW p l e R s m args below meth c y n0 ad dC dI dA h0 h1 Q) := by
  intro pc lv st h x hd k
  exact ⟨k.1, fun b1 b2 H locs ls e1 e2 e3 e4 => lv_i2c X.hx X.hb hd rfl (k.2 b1 b2 H locs ls e1 e2 e3 e4)⟩
theorem pw_f2d (X : Cx p l e R s m args below meth c y d n0 ad dC dI dA ZS h0 h1) : ru_f2d y (PW p l e R s m args below meth c y n0 ad dC dI dA h0 h1 Q) := by
  intro pc lv st h x hd hz k
  exact ⟨k.1, fun b1 b2 H locs ls e1 e2 e3 e4 => lv_f2d X.hx X.hb hd hz (k.2 b1 b2 H locs ls e1 e2 e3 e4)⟩
theorem pw_fdiv (X : Cx p l e R s m args below meth c y d n0 ad dC dI dA ZS h0 h1) : ru_fdiv y (PW p l e R s m args below meth c y n0 ad dC dI dA h0 h1 Q) := by
  intro pc lv st h x z hd hz k
  exact ⟨k.1, fun b1 b2 H locs ls e1 e2 e3 e4 => lv_fdiv X.hx X.hb hd hz (k.2 b1 b2 H locs ls e1 e2 e3 e4)⟩
theorem pw_dcmp (X : Cx p l e R s m args below meth c y d n0 ad dC dI dA ZS h0 h1) : ru_dcmp y (PW p l e R s m args below meth c y n0 ad dC dI dA h0 h1 Q) := by
  intro pc lv st h x z op hd k
  exact ⟨k.1, fun b1 b2 H locs ls e1 e2 e3 e4 => lv_dcmp X.hx X.hb hd  (k.2 b1 b2 H locs ls e1 e2 e3 e4)⟩
theorem pw_dup (X : Cx p l e R s m args below meth c y d n0 ad dC dI dA ZS h0 h1) : ru_dup y (PW p l e R s m args below meth c y n0 ad dC dI dA h0 h1 Q) := by
  intro pc lv st h v hd hv k
  exact ⟨k.1, fun b1 b2 H locs ls e1 e2 e3 e4 => lv_dup X.hx X.hb hd ((cv_cat n0 ad v).trans hv) (k.2 b1 b2 H locs ls e1 e2 e3 e4)⟩
theorem pw_dup2_11 (X : Cx p l e R s m args below meth c y d n0 ad dC dI dA ZS h0 h1) : ru_dup2_11 y (PW p l e R s m args below meth c y n0 ad dC dI dA h0 h1 Q) := by
  intro pc lv st h v u hd hv hu k
  exact ⟨k.1, fun b1 b2 H locs ls e1 e2 e3 e4 => lv_dup2_11 X.hx X.hb hd ((cv_cat n0 ad v).trans hv) ((cv_cat n0 ad u).trans hu) (k.2 b1 b2 H locs ls e1 e2 e3 e4)⟩
theorem pw_dup2_2 (X : Cx p l e R s m args below meth c y d n0 ad dC dI dA ZS h0 h1) : ru_dup2_2 y (PW p l e R s m args below meth c y n0 ad dC dI dA h0 h1 Q) := by
  intro pc lv st h v hd hv k
  exact ⟨k.1, fun b1 b2 H locs ls e1 e2 e3 e4 => lv_dup2_2 X.hx X.hb hd ((cv_cat n0 ad v).trans hv) (k.2 b1 b2 H locs ls e1 e2 e3 e4)⟩
theorem pw_pop (X : Cx p l e R s m args below meth c y d n0 ad dC dI dA ZS h0 h1) : ru_pop y (PW p l e R s m args below meth c y n0 ad dC dI dA h0 h1 Q) := by
  intro pc lv st h v hd hv k
  exact ⟨k.1, fun b1 b2 H locs ls e1 e2 e3 e4 => lv_pop X.hx X.hb hd ((cv_cat n0 ad v).trans hv) (k.2 b1 b2 H locs ls e1 e2 e3 e4)⟩
theorem pw_goto (X : Cx p l e R s m args below meth c y d n0 ad dC dI dA ZS h0 h1) : ru_goto y (PW p l e R s m args below meth c y n0 ad dC dI dA h0 h1 Q) := by
  intro pc lv st h off tgt hd ht k
  exact ⟨k.1, fun b1 b2 H locs ls e1 e2 e3 e4 => lv_goto X.hx X.hb hd ht (k.2 b1 b2 H locs ls e1 e2 e3 e4)⟩
theorem pw_if_eq (X : Cx p l e R s m args below meth c y d n0 ad dC dI dA ZS h0 h1) : ru_if_eq y (PW p l e R s m args below meth c y n0 ad dC dI dA h0 h1 Q) := by
  intro pc lv st h x off tgt hd ht kt kf
  by_cases hq : x = 0
  · exact ⟨(kt hq).1, fun b1 b2 H locs ls e1 e2 e3 e4 => lv_if_eq X.hx X.hb hd ht (fun z => (kt z).2 b1 b2 H locs ls e1 e2 e3 e4) (fun z => (kf z).2 b1 b2 H locs ls e1 e2 e3 e4)⟩
  · have hz := kf (by first | exact hq | exact Decidable.not_not.mp hq | (intro z; exact hq z))
    exact ⟨hz.1, fun b1 b2 H locs ls e1 e2 e3 e4 => lv_if_eq X.hx X.hb hd ht (fun z => (kt z).2 b1 b2 H locs ls e1 e2 e3 e4) (fun z => (kf z).2 b1 b2 H locs ls e1 e2 e3 e4)⟩
theorem pw_if_ne (X : Cx p l e R s m args below meth c y d n0 ad dC dI dA ZS h0 h1) : ru_if_ne y (PW p l e R s m args below meth c y n0 ad dC dI dA h0 h1 Q) := by
  intro pc lv st h x off tgt hd ht kt kf
  by_cases hq : ¬ x = 0
  · exact ⟨(kt hq).1, fun b1 b2 H locs ls e1 e2 e3 e4 => lv_if_ne X.hx X.hb hd ht (fun z => (kt z).2 b1 b2 H locs ls e1 e2 e3 e4) (fun z => (kf z).2 b1 b2 H locs ls e1 e2 e3 e4)⟩
  · have hz := kf (by first | exact hq | exact Decidable.not_not.mp hq | (intro z; exact hq z))
    exact ⟨hz.1, fun b1 b2 H locs ls e1 e2 e3 e4 => lv_if_ne X.hx X.hb hd ht (fun z => (kt z).2 b1 b2 H locs ls e1 e2 e3 e4) (fun z => (kf z).2 b1 b2 H locs ls e1 e2 e3 e4)⟩
theorem pw_if_lt (X : Cx p l e R s m args below meth c y d n0 ad dC dI dA ZS h0 h1) : ru_if_lt y (PW p l e R s m args below meth c y n0 ad dC dI dA h0 h1 Q) := by
  intro pc lv st h x off tgt hd ht kt kf
  by_cases hq : x < 0
  · exact ⟨(kt hq).1, fun b1 b2 H locs ls e1 e2 e3 e4 => lv_if_lt X.hx X.hb hd ht (fun z => (kt z).2 b1 b2 H locs ls e1 e2 e3 e4) (fun z => (kf z).2 b1 b2 H locs ls e1 e2 e3 e4)⟩
  · have hz := kf (by first | exact hq | exact Decidable.not_not.mp hq | (intro z; exact hq z))
    exact ⟨hz.1, fun b1 b2 H locs ls e1 e2 e3 e4 => lv_if_lt X.hx X.hb hd ht (fun z => (kt z).2 b1 b2 H locs ls e1 e2 e3 e4) (fun z => (kf z).2 b1 b2 H locs ls e1 e2 e3 e4)⟩
theorem pw_if_ge (X : Cx p l e R s m args below meth c y d n0 ad dC dI dA ZS h0 h1) : ru_if_ge y (PW p l e R s m args below meth c y n0 ad dC dI dA h0 h1 Q) := by
  intro pc lv st h x off tgt hd ht kt kf
  by_cases hq : 0 ≤ x
  · exact ⟨(kt hq).1, fun b1 b2 H locs ls e1 e2 e3 e4 => lv_if_ge X.hx X.hb hd ht (fun z => (kt z).2 b1 b2 H locs ls e1 e2 e3 e4) (fun z => (kf z).2 b1 b2 H locs ls e1 e2 e3 e4)⟩
  · have hz := kf (by first | exact hq | exact Decidable.not_not.mp hq | (intro z; exact hq z))
    exact ⟨hz.1, fun b1 b2 H locs ls e1 e2 e3 e4 => lv_if_ge X.hx X.hb hd ht (fun z => (kt z).2 b1 b2 H locs ls e1 e2 e3 e4) (fun z => (kf z).2 b1 b2 H locs ls e1 e2 e3 e4)⟩
theorem pw_if_gt (X : Cx p l e R s m args below meth c y d n0 ad dC dI dA ZS h0 h1) : ru_if_gt y (PW p l e R s m args below meth c y n0 ad dC dI dA h0 h1 Q) := by
  intro pc lv st h x off tgt hd ht kt kf
  by_cases hq : 0 < x
  · exact ⟨(kt hq).1, fun b1 b2 H locs ls e1 e2 e3 e4 => lv_if_gt X.hx X.hb hd ht (fun z => (kt z).2 b1 b2 H locs ls e1 e2 e3 e4) (fun z => (kf z).2 b1 b2 H locs ls e1 e2 e3 e4)⟩
  · have hz := kf (by first | exact hq | exact Decidable.not_not.mp hq | (intro z; exact hq z))
    exact ⟨hz.1, fun b1 b2 H locs ls e1 e2 e3 e4 => lv_if_gt X.hx X.hb hd ht (fun z => (kt z).2 b1 b2 H locs ls e1 e2 e3 e4) (fun z => (kf z).2 b1 b2 H locs ls e1 e2 e3 e4)⟩
theorem pw_if_le (X : Cx p l e R s m args below meth c y d n0 ad dC dI dA ZS h0 h1) : ru_if_le y (PW p l e R s m args below meth c y n0 ad dC dI dA h0 h1 Q) := by
  intro pc lv st h x off tgt hd ht kt kf
  by_cases hq : x ≤ 0
  · exact ⟨(kt hq).1, fun b1 b2 H locs ls e1 e2 e3 e4 => lv_if_le X.hx X.hb hd ht (fun z => (kt z).2 b1 b2 H locs ls e1 e2 e3 e4) (fun z => (kf z).2 b1 b2 H locs ls e1 e2 e3 e4)⟩
  · have hz := kf (by first | exact hq | exact Decidable.not_not.mp hq | (intro z; exact hq z))
    exact ⟨hz.1, fun b1 b2 H locs ls e1 e2 e3 e4 => lv_if_le X.hx X.hb hd ht (fun z => (kt z).2 b1 b2 H locs ls e1 e2 e3 e4) (fun z => (kf z).2 b1 b2 H locs ls e1 e2 e3 e4)⟩
theorem pw_icmp_eq (X : Cx p l e R s m args below meth c y d n0 ad dC dI dA ZS h0 h1) : ru_icmp_eq y (PW p l e R s m args below meth c y n0 ad dC dI dA h0 h1 Q) := by
  intro pc lv st h x z off tgt hd ht kt kf
  by_cases hq : x = z
  · exact ⟨(kt hq).1, fun b1 b2 H locs ls e1 e2 e3 e4 => lv_icmp_eq X.hx X.hb hd ht (fun z => (kt z).2 b1 b2 H locs ls e1 e2 e3 e4) (fun z => (kf z).2 b1 b2 H locs ls e1 e2 e3 e4)⟩
  · have hz := kf (by first | exact hq | exact Decidable.not_not.mp hq | (intro z; exact hq z))
    exact ⟨hz.1, fun b1 b2 H locs ls e1 e2 e3 e4 => lv_icmp_eq X.hx X.hb hd ht (fun z => (kt z).2 b1 b2 H locs ls e1 e2 e3 e4) (fun z => (kf z).2 b1 b2 H locs ls e1 e2 e3 e4)⟩
theorem pw_icmp_ne (X : Cx p l e R s m args below meth c y d n0 ad dC dI dA ZS h0 h1) : ru_icmp_ne y (PW p l e R s m args below meth c y n0 ad dC dI dA h0 h1 Q) := by
  intro pc lv st h x z off tgt hd ht kt kf
  by_cases hq : ¬ x = z
  · exact ⟨(kt hq).1, fun b1 b2 H locs ls e1 e2 e3 e4 => lv_icmp_ne X.hx X.hb hd ht (fun z => (kt z).2 b1 b2 H locs ls e1 e2 e3 e4) (fun z => (kf z).2 b1 b2 H locs ls e1 e2 e3 e4)⟩
  · have hz := kf (by first | exact hq | exact Decidable.not_not.mp hq | (intro z; exact hq z))
    exact ⟨hz.1, fun b1 b2 H locs ls e1 e2 e3 e4 => lv_icmp_ne X.hx X.hb hd ht (fun z => (kt z).2 b1 b2 H locs ls e1 e2 e3 e4) (fun z => (kf z).2 b1 b2 H locs ls e1 e2 e3 e4)⟩
theorem pw_icmp_lt (X : Cx p l e R s m args below meth c y d n0 ad dC dI dA ZS h0 h1) : ru_icmp_lt y (PW p l e R s m args below meth c y n0 ad dC dI dA h0 h1 Q) := by
  intro pc lv st h x z off tgt hd ht kt kf
  by_cases hq : x < z
  · exact ⟨(kt hq).1, fun b1 b2 H locs ls e1 e2 e3 e4 => lv_icmp_lt X.hx X.hb hd ht (fun z => (kt z).2 b1 b2 H locs ls e1 e2 e3 e4) (fun z => (kf z).2 b1 b2 H locs ls e1 e2 e3 e4)⟩
  · have hz := kf (by first | exact hq | exact Decidable.not_not.mp hq | (intro z; exact hq z))
    exact ⟨hz.1, fun b1 b2 H locs ls e1 e2 e3 e4 => lv_icmp_lt X.hx X.hb hd ht (fun z => (kt z).2 b1 b2 H locs ls e1 e2 e3 e4) (fun z => (kf z).2 b1 b2 H locs ls e1 e2 e3 e4)⟩
theorem pw_icmp_ge (X : Cx p l e R s m args below meth c y d n0 ad dC dI dA ZS h0 h1) : ru_icmp_ge y (PW p l e R s m args below meth c y n0 ad dC dI dA h0 h1 Q) := by
  intro pc lv st h x z off tgt hd ht kt kf
  by_cases hq : z ≤ x
  · exact ⟨(kt hq).1, fun b1 b2 H locs ls e1 e2 e3 e4 => lv_icmp_ge X.hx X.hb hd ht (fun z => (kt z).2 b1 b2 H locs ls e1 e2 e3 e4) (fun z => (kf z).2 b1 b2 H locs ls e1 e2 e3 e4)⟩
  · have hz := kf (by first | exact hq | exact Decidable.not_not.mp hq | (intro z; exact hq z))
    exact ⟨hz.1, fun b1 b2 H locs ls e1 e2 e3 e4 => lv_icmp_ge X.hx X.hb hd ht (fun z => (kt z).2 b1 b2 H locs ls e1 e2 e3 e4) (fun z => (kf z).2 b1 b2 H locs ls e1 e2 e3 e4)⟩
theorem pw_icmp_gt (X : Cx p l e R s m args below meth c y d n0 ad dC dI dA ZS h0 h1) : ru_icmp_gt y (PW p l e R s m args below meth c y n0 ad dC dI dA h0 h1 Q) := by
  intro pc lv st h x z off tgt hd ht kt kf
  by_cases hq : z < x
  · exact ⟨(kt hq).1, fun b1 b2 H locs ls e1 e2 e3 e4 => lv_icmp_gt X.hx X.hb hd ht (fun z => (kt z).2 b1 b2 H locs ls e1 e2 e3 e4) (fun z => (kf z).2 b1 b2 H locs ls e1 e2 e3 e4)⟩
  · have hz := kf (by first | exact hq | exact Decidable.not_not.mp hq | (intro z; exact hq z))
    exact ⟨hz.1, fun b1 b2 H locs ls e1 e2 e3 e4 => lv_icmp_gt X.hx X.hb hd ht (fun z => (kt z).2 b1 b2 H locs ls e1 e2 e3 e4) (fun z => (kf z).2 b1 b2 H locs ls e1 e2 e3 e4)⟩
theorem pw_icmp_le (X : Cx p l e R s m args below meth c y d n0 ad dC dI dA ZS h0 h1) : ru_icmp_le y (PW p l e R s m args below meth c y n0 ad dC dI dA h0 h1 Q) := by
  intro pc lv st h x z off tgt hd ht kt kf
  by_cases hq : x ≤ z
  · exact ⟨(kt hq).1, fun b1 b2 H locs ls e1 e2 e3 e4 => lv_icmp_le X.hx X.hb hd ht (fun z => (kt z).2 b1 b2 H locs ls e1 e2 e3 e4) (fun z => (kf z).2 b1 b2 H locs ls e1 e2 e3 e4)⟩
  · have hz := kf (by first | exact hq | exact Decidable.not_not.mp hq | (intro z; exact hq z))
    exact ⟨hz.1, fun b1 b2 H locs ls e1 e2 e3 e4 => lv_icmp_le X.hx X.hb hd ht (fun z => (kt z).2 b1 b2 H locs ls e1 e2 e3 e4) (fun z => (kf z).2 b1 b2 H locs ls e1 e2 e3 e4)⟩
theorem pw_ifnull (X : Cx p l e R s m args below meth c y d n0 ad dC dI dA ZS h0 h1) : ru_ifnull y (PW p l e R s m args below meth c y n0 ad dC dI dA h0 h1 Q) := by
  intro pc lv st h r off tgt hd ht kt kf
  cases r with
  | none => exact ⟨(kt rfl).1, fun b1 b2 H locs ls e1 e2 e3 e4 => lv_ifnullN X.hx X.hb hd ht ((kt rfl).2 b1 b2 H locs ls e1 e2 e3 e4)⟩
  | some a => exact ⟨(kf a rfl).1, fun b1 b2 H locs ls e1 e2 e3 e4 => lv_ifnull X.hx X.hb hd ((kf a rfl).2 b1 b2 H locs ls e1 e2 e3 e4)⟩
theorem pw_ifnonnull (X : Cx p l e R s m args below meth c y d n0 ad dC dI dA ZS h0 h1) : ru_ifnonnull y (PW p l e R s m args below meth c y n0 ad dC dI dA h0 h1 Q) := by
  intro pc lv st h r off tgt hd ht kt kf
  cases r with
  | none => exact ⟨(kf rfl).1, fun b1 b2 H locs ls e1 e2 e3 e4 => lv_ifnonnullN X.hx X.hb hd ((kf rfl).2 b1 b2 H locs ls e1 e2 e3 e4)⟩
  | some a => exact ⟨(kt a rfl).1, fun b1 b2 H locs ls e1 e2 e3 e4 => lv_ifnonnull X.hx X.hb hd ht ((kt a rfl).2 b1 b2 H locs ls e1 e2 e3 e4)⟩
theorem pw_acmp_eq (X : Cx p l e R s m args below meth c y d n0 ad dC dI dA ZS h0 h1) : ru_acmp_eq y (PW p l e R s m args below meth c y n0 ad dC dI dA h0 h1 Q) := by
  intro pc lv st h r1 r2 off tgt hd ht g1 g2 kt kf
  have hk : hsz h ≤ hsz h1 := by
    by_cases hq : r1 = r2
    · exact (kt hq).1.1
    · exact (kf hq).1.1
  have hi : r1.map (cvA n0 ad) = r2.map (cvA n0 ad) ↔ r1 = r2 := by
    have hb := X.hbig
    cases r1 with
    | none => cases r2 <;> simp
    | some a => cases r2 with
      | none => simp
      | some b =>
        have q1 := g1 a rfl
        have q2 := g2 b rfl
        simp only [Option.map_some, Option.some.injEq]
        rw [cvA_lt (by omega), cvA_lt (by omega)]
        omega
  by_cases hq : r1 = r2
  · refine ⟨(kt hq).1, fun b1 b2 H locs ls e1 e2 e3 e4 => ?_⟩
    show W p l e R s m args below meth c H locs _ _ Q (F0 m pc ls (cv n0 ad (va_rf r2) :: cv n0 ad (va_rf r1) :: st.map (cv n0 ad)))
    rw [cv_rf, cv_rf]
    exact lv_acmp_eq X.hx X.hb hd ht (fun z => (kt hq).2 b1 b2 H locs ls e1 e2 e3 e4) (fun z => absurd (hi.mpr hq) z)
  · refine ⟨(kf hq).1, fun b1 b2 H locs ls e1 e2 e3 e4 => ?_⟩
    show W p l e R s m args below meth c H locs _ _ Q (F0 m pc ls (cv n0 ad (va_rf r2) :: cv n0 ad (va_rf r1) :: st.map (cv n0 ad)))
    rw [cv_rf, cv_rf]
    exact lv_acmp_eq X.hx X.hb hd ht (fun z => absurd (hi.mp z) hq) (fun z => (kf hq).2 b1 b2 H locs ls e1 e2 e3 e4)
theorem pw_tabIn (X : Cx p l e R s m args below meth c y d n0 ad dC dI dA ZS h0 h1) : ru_tabIn y (PW p l e R s m args below meth c y n0 ad dC dI dA h0 h1 Q) := by
  intro pc lv st h x dflt lo hi offs len off tgt hd h1 h2 ho ht k
  exact ⟨k.1, fun b1 b2 H locs ls e1 e2 e3 e4 => lv_tableIn X.hx X.hb hd h1 h2 ho ht (k.2 b1 b2 H locs ls e1 e2 e3 e4)⟩
theorem pw_tabOut (X : Cx p l e R s m args below meth c y d n0 ad dC dI dA ZS h0 h1) : ru_tabOut y (PW p l e R s m args below meth c y n0 ad dC dI dA h0 h1 Q) := by
  intro pc lv st h x dflt lo hi offs len tgt hd h1 ht k
  exact ⟨k.1, fun b1 b2 H locs ls e1 e2 e3 e4 => lv_tableOut X.hx X.hb hd h1 ht (k.2 b1 b2 H locs ls e1 e2 e3 e4)⟩
theorem pw_lookup (X : Cx p l e R s m args below meth c y d n0 ad dC dI dA ZS h0 h1) : ru_lookup y (PW p l e R s m args below meth c y n0 ad dC dI dA h0 h1 Q) := by
  intro pc lv st h x dflt ps len off tgt hd hp ho ht k
  exact ⟨k.1, fun b1 b2 H locs ls e1 e2 e3 e4 => lv_lookup X.hx X.hb hd hp ho ht (k.2 b1 b2 H locs ls e1 e2 e3 e4)⟩
theorem pw_getI (X : Cx p l e R s m args below meth c y d n0 ad dC dI dA ZS h0 h1) : ru_getI y (PW p l e R s m args below meth c y n0 ad dC dI dA h0 h1 Q) := by
  intro pc lv st h ix ci j a hd hc hj hw hty ho k
  refine ⟨k.1, fun b1 b2 H locs ls e1 e2 e3 e4 => ?_⟩
  have hal := isO_lt ho
  have hv : cv n0 ad (.int (hI h (64 * ci + j) a)) = fval n0 ad h (tyC ci j) (64 * ci + j) a := by rcases hty with hty | hty <;> simp [fval, hty, cv]
  show W p l e R s m args below meth c H locs _ _ Q (F0 m pc ls (.ref (cvA n0 ad a) :: st.map (cv n0 ad)))
  rw [cvA_lt (Nat.lt_of_lt_of_le hal (Nat.le_trans k.1.1 X.hbig))]
  refine va_get (D := (dC, dI)) (ci := ci) (v := cv n0 ad (.int (hI h (64 * ci + j) a))) (own := cnm (mo y)) X.hx X.hb X.hts (pc_ws hc) X.hown X.hK e2 a ((wsH_at hal).trans (by rw [cellE_o (isO_tg ho) hc])) (pc_get hc) j hj (X.hts _ hw) (fun x hx => by rw [pc_own hc] at hx; exact hx) (by rw [hv]; exact fvals_at hj) hd ?_
  exact k.2 b1 b2 H locs ls e1 e2 e3 e4
theorem pw_getJ (X : Cx p l e R s m args below meth c y d n0 ad dC dI dA ZS h0 h1) : ru_getJ y (PW p l e R s m args below meth c y n0 ad dC dI dA h0 h1 Q) := by
  intro pc lv st h ix ci j a hd hc hj hw hty ho k
  refine ⟨k.1, fun b1 b2 H locs ls e1 e2 e3 e4 => ?_⟩
  have hal := isO_lt ho
  have hv : cv n0 ad (.long (hJ h (64 * ci + j) a)) = fval n0 ad h (tyC ci j) (64 * ci + j) a := by simp [fval, hty, cv]
  show W p l e R s m args below meth c H locs _ _ Q (F0 m pc ls (.ref (cvA n0 ad a) :: st.map (cv n0 ad)))
  rw [cvA_lt (Nat.lt_of_lt_of_le hal (Nat.le_trans k.1.1 X.hbig))]
  refine va_get (D := (dC, dI)) (ci := ci) (v := cv n0 ad (.long (hJ h (64 * ci + j) a))) (own := cnm (mo y)) X.hx X.hb X.hts (pc_ws hc) X.hown X.hK e2 a ((wsH_at hal).trans (by rw [cellE_o (isO_tg ho) hc])) (pc_get hc) j hj (X.hts _ hw) (fun x hx => by rw [pc_own hc] at hx; exact hx) (by rw [hv]; exact fvals_at hj) hd ?_
  exact k.2 b1 b2 H locs ls e1 e2 e3 e4
theorem pw_getR (X : Cx p l e R s m args below meth c y d n0 ad dC dI dA ZS h0 h1) : ru_getR y (PW p l e R s m args below meth c y n0 ad dC dI dA h0 h1 Q) := by
  intro pc lv st h ix ci j a hd hc hj hw hty ho k
  refine ⟨k.1, fun b1 b2 H locs ls e1 e2 e3 e4 => ?_⟩
  have hal := isO_lt ho
  have hv : cv n0 ad (va_rf (hR h (64 * ci + j) a)) = fval n0 ad h (tyC ci j) (64 * ci + j) a := by rcases hty with ⟨C, hty⟩ | ⟨t, hty⟩ <;> simp [fval, hty, cv_rf]
  show W p l e R s m args below meth c H locs _ _ Q (F0 m pc ls (.ref (cvA n0 ad a) :: st.map (cv n0 ad)))
  rw [cvA_lt (Nat.lt_of_lt_of_le hal (Nat.le_trans k.1.1 X.hbig))]
  refine va_get (D := (dC, dI)) (ci := ci) (v := cv n0 ad (va_rf (hR h (64 * ci + j) a))) (own := cnm (mo y)) X.hx X.hb X.hts (pc_ws hc) X.hown X.hK e2 a ((wsH_at hal).trans (by rw [cellE_o (isO_tg ho) hc])) (pc_get hc) j hj (X.hts _ hw) (fun x hx => by rw [pc_own hc] at hx; exact hx) (by rw [hv]; exact fvals_at hj) hd ?_
  exact k.2 b1 b2 H locs ls e1 e2 e3 e4
theorem pw_putI (X : Cx p l e R s m args below meth c y d n0 ad dC dI dA ZS h0 h1) : ru_putI y (PW p l e R s m args below meth c y n0 ad dC dI dA h0 h1 Q) := by
  intro pc lv st h ix ci j a x hd hc hj hw hf hty ho k
  refine ⟨k.1, fun b1 b2 H locs ls e1 e2 e3 e4 => ?_⟩
  have hal := isO_lt ho
  have hn : narrow (tyC ci j) (.int x) = (.int x) ∧ fits (tyC ci j) (.int x) = true := by rcases hty with hty | ⟨hty, rfl | rfl⟩ <;> rw [hty] <;> exact ⟨rfl, rfl⟩
  show W p l e R s m args below meth c H locs _ _ Q (F0 m pc ls (cv n0 ad (.int x) :: .ref (cvA n0 ad a) :: st.map (cv n0 ad)))
  rw [cvA_lt (Nat.lt_of_lt_of_le hal (Nat.le_trans k.1.1 X.hbig))]
  refine pm_put (D := (dC, dI)) (ci := ci) (v := (.int x)) (ty := tyC ci j) (own := cnm (mo y)) X.hx X.hb X.hts (pc_ws hc) (tyC ci) (pc_ty hc) (pc_nm hc) X.hown X.hK e2 (wsH_D (fun _ q => q)) e3 a ((wsH_at hal).trans (by rw [cellE_o (isO_tg ho) hc])) (pc_get hc) j hj (X.hts _ hw) (fun x hx => by rw [pc_own hc] at hx; exact hx) (by rw [pc_own hc]; rw [X.hnm]; exact hf) (pc_ty hc j hj) hn.1 hn.2 (by rw [fvals_len]; exact hj) hd (fun H1 locs1 z1 z2 z3 => ?_)
  refine k.2 b1 b2 H1 locs1 ls (z1.trans e1) ?_ z3 e4
  rw [fvals_set (g := sI h (64 * ci + j) a x) hj (by rcases hty with hty | ⟨hty, -⟩ <;> simp [fval, hty, hI, sI, up2]) (fun i hi => by unfold fval; split <;> simp [hI, hJ, hR, sI, up2, hi]), wsH_set (g := sI h (64 * ci + j) a x) hal rfl (cellE_o (h := sI h (64 * ci + j) a x) (isO_tg ho) hc)] at z2
  · exact z2
  · intro q hq
    have hz : htg (sI h (64 * ci + j) a x) q = htg h q := rfl
    unfold cellE
    rw [hz]
    split
    · rw [fvals_same]; intro i; unfold fval; split <;> simp [hI, hJ, hR, sI, up2, hq]
    · rfl
theorem pw_putJ (X : Cx p l e R s m args below meth c y d n0 ad dC dI dA ZS h0 h1) : ru_putJ y (PW p l e R s m args below meth c y n0 ad dC dI dA h0 h1 Q) := by
  intro pc lv st h ix ci j a x hd hc hj hw hf hty ho k
  refine ⟨k.1, fun b1 b2 H locs ls e1 e2 e3 e4 => ?_⟩
  have hal := isO_lt ho
  have hn : narrow (tyC ci j) (.long x) = (.long x) ∧ fits (tyC ci j) (.long x) = true := by rw [hty]; exact ⟨rfl, rfl⟩
  show W p l e R s m args below meth c H locs _ _ Q (F0 m pc ls (cv n0 ad (.long x) :: .ref (cvA n0 ad a) :: st.map (cv n0 ad)))
  rw [cvA_lt (Nat.lt_of_lt_of_le hal (Nat.le_trans k.1.1 X.hbig))]
  refine pm_put (D := (dC, dI)) (ci := ci) (v := (.long x)) (ty := tyC ci j) (own := cnm (mo y)) X.hx X.hb X.hts (pc_ws hc) (tyC ci) (pc_ty hc) (pc_nm hc) X.hown X.hK e2 (wsH_D (fun _ q => q)) e3 a ((wsH_at hal).trans (by rw [cellE_o (isO_tg ho) hc])) (pc_get hc) j hj (X.hts _ hw) (fun x hx => by rw [pc_own hc] at hx; exact hx) (by rw [pc_own hc]; rw [X.hnm]; exact hf) (pc_ty hc j hj) hn.1 hn.2 (by rw [fvals_len]; exact hj) hd (fun H1 locs1 z1 z2 z3 => ?_)
  refine k.2 b1 b2 H1 locs1 ls (z1.trans e1) ?_ z3 e4
  rw [fvals_set (g := sJ h (64 * ci + j) a x) hj (by simp [fval, hty, hJ, sJ, up2]) (fun i hi => by unfold fval; split <;> simp [hI, hJ, hR, sJ, up2, hi]), wsH_set (g := sJ h (64 * ci + j) a x) hal rfl (cellE_o (h := sJ h (64 * ci + j) a x) (isO_tg ho) hc)] at z2
  · exact z2
  · intro q hq
    have hz : htg (sJ h (64 * ci + j) a x) q = htg h q := rfl
    unfold cellE
    rw [hz]
    split
    · rw [fvals_same]; intro i; unfold fval; split <;> simp [hI, hJ, hR, sJ, up2, hq]
    · rfl
theorem pw_putR (X : Cx p l e R s m args below meth c y d n0 ad dC dI dA ZS h0 h1) : ru_putR y (PW p l e R s m args below meth c y n0 ad dC dI dA h0 h1 Q) := by
  intro pc lv st h ix ci j a x hd hc hj hw hf hty ho k
  refine ⟨k.1, fun b1 b2 H locs ls e1 e2 e3 e4 => ?_⟩
  have hal := isO_lt ho
  have hn : narrow (tyC ci j) (va_rf (x.map (cvA n0 ad))) = (va_rf (x.map (cvA n0 ad))) ∧ fits (tyC ci j) (va_rf (x.map (cvA n0 ad))) = true := by rcases hty with ⟨C, hty⟩ | ⟨t, hty⟩ <;> rw [hty] <;> cases x <;> exact ⟨rfl, rfl⟩
  show W p l e R s m args below meth c H locs _ _ Q (F0 m pc ls (cv n0 ad (va_rf x) :: .ref (cvA n0 ad a) :: st.map (cv n0 ad)))
  rw [cvA_lt (Nat.lt_of_lt_of_le hal (Nat.le_trans k.1.1 X.hbig)), cv_rf]
  refine pm_put (D := (dC, dI)) (ci := ci) (v := (va_rf (x.map (cvA n0 ad)))) (ty := tyC ci j) (own := cnm (mo y)) X.hx X.hb X.hts (pc_ws hc) (tyC ci) (pc_ty hc) (pc_nm hc) X.hown X.hK e2 (wsH_D (fun _ q => q)) e3 a ((wsH_at hal).trans (by rw [cellE_o (isO_tg ho) hc])) (pc_get hc) j hj (X.hts _ hw) (fun x hx => by rw [pc_own hc] at hx; exact hx) (by rw [pc_own hc]; rw [X.hnm]; exact hf) (pc_ty hc j hj) hn.1 hn.2 (by rw [fvals_len]; exact hj) hd (fun H1 locs1 z1 z2 z3 => ?_)
  refine k.2 b1 b2 H1 locs1 ls (z1.trans e1) ?_ z3 e4
  rw [fvals_set (g := sR h (64 * ci + j) a x) hj (by rcases hty with ⟨C, hty⟩ | ⟨t, hty⟩ <;> simp [fval, hty, hR, sR, up2]) (fun i hi => by unfold fval; split <;> simp [hI, hJ, hR, sR, up2, hi]), wsH_set (g := sR h (64 * ci + j) a x) hal rfl (cellE_o (h := sR h (64 * ci + j) a x) (isO_tg ho) hc)] at z2
  · exact z2
  · intro q hq
    have hz : htg (sR h (64 * ci + j) a x) q = htg h q := rfl
    unfold cellE
    rw [hz]
    split
    · rw [fvals_same]; intro i; unfold fval; split <;> simp [hI, hJ, hR, sR, up2, hq]
    · rfl
theorem pw_iald (X : Cx p l e R s m args below meth c y d n0 ad dC dI dA ZS h0 h1) : ru_iald y (PW p l e R s m args below meth c y n0 ad dC dI dA h0 h1 Q) := by
  intro pc lv st h a i hd ho hin k
  refine ⟨k.1, fun b1 b2 H locs ls e1 e2 e3 e4 => ?_⟩
  have hal := isO_lt ho
  show W p l e R s m args below meth c H locs _ _ Q (F0 m pc ls (.int i :: .ref (cvA n0 ad a) :: st.map (cv n0 ad)))
  rw [cvA_lt (Nat.lt_of_lt_of_le hal (Nat.le_trans k.1.1 X.hbig))]
  exact va_iald (D := (dC, dI)) X.hx X.hb X.hK e2 a 0 (cA := dA 20) (n := hln h a) (f := hA h a) ((wsH_at hal).trans (by rw [cellE_a (isO_tg ho) (by decide)]; rfl)) rfl hin hd (k.2 b1 b2 H locs ls e1 e2 e3 e4)
theorem pw_bald (X : Cx p l e R s m args below meth c y d n0 ad dC dI dA ZS h0 h1) : ru_bald y (PW p l e R s m args below meth c y n0 ad dC dI dA h0 h1 Q) := by
  intro pc lv st h a i hd ho hin k
  refine ⟨k.1, fun b1 b2 H locs ls e1 e2 e3 e4 => ?_⟩
  have hal := isO_lt ho
  show W p l e R s m args below meth c H locs _ _ Q (F0 m pc ls (.int i :: .ref (cvA n0 ad a) :: st.map (cv n0 ad)))
  rw [cvA_lt (Nat.lt_of_lt_of_le hal (Nat.le_trans k.1.1 X.hbig))]
  exact va_bald (D := (dC, dI)) X.hx X.hb X.hK e2 a 1 (cA := dA 21) (n := hln h a) (f := hA h a) ((wsH_at hal).trans (by rw [cellE_a (isO_tg ho) (by decide)]; rfl)) rfl hin hd (k.2 b1 b2 H locs ls e1 e2 e3 e4)
theorem pw_zald (X : Cx p l e R s m args below meth c y d n0 ad dC dI dA ZS h0 h1) : ru_zald y (PW p l e R s m args below meth c y n0 ad dC dI dA h0 h1 Q) := by
  intro pc lv st h a i hd ho hin k
  refine ⟨k.1, fun b1 b2 H locs ls e1 e2 e3 e4 => ?_⟩
  have hal := isO_lt ho
  show W p l e R s m args below meth c H locs _ _ Q (F0 m pc ls (.int i :: .ref (cvA n0 ad a) :: st.map (cv n0 ad)))
  rw [cvA_lt (Nat.lt_of_lt_of_le hal (Nat.le_trans k.1.1 X.hbig))]
  exact va_zald (D := (dC, dI)) X.hx X.hb X.hK e2 a 2 (cA := dA 22) (n := hln h a) (f := hA h a) ((wsH_at hal).trans (by rw [cellE_a (isO_tg ho) (by decide)]; rfl)) rfl hin hd (k.2 b1 b2 H locs ls e1 e2 e3 e4)
theorem pw_lald (X : Cx p l e R s m args below meth c y d n0 ad dC dI dA ZS h0 h1) : ru_lald y (PW p l e R s m args below meth c y n0 ad dC dI dA h0 h1 Q) := by
  intro pc lv st h a i hd ho hin k
  refine ⟨k.1, fun b1 b2 H locs ls e1 e2 e3 e4 => ?_⟩
  have hal := isO_lt ho
  show W p l e R s m args below meth c H locs _ _ Q (F0 m pc ls (.int i :: .ref (cvA n0 ad a) :: st.map (cv n0 ad)))
  rw [cvA_lt (Nat.lt_of_lt_of_le hal (Nat.le_trans k.1.1 X.hbig))]
  exact va_lald (D := (dC, dI)) X.hx X.hb X.hK e2 a 3 (cA := dA 23) (n := hln h a) (f := hL h a) ((wsH_at hal).trans (by rw [cellE_a (isO_tg ho) (by decide)]; rfl)) rfl hin hd (k.2 b1 b2 H locs ls e1 e2 e3 e4)
theorem pw_aald (X : Cx p l e R s m args below meth c y d n0 ad dC dI dA ZS h0 h1) : ru_aald y (PW p l e R s m args below meth c y n0 ad dC dI dA h0 h1 Q) := by
  intro pc lv st h a ci i hd hao ho hin k
  have hc := aoC_lt hao
  refine ⟨k.1, fun b1 b2 H locs ls e1 e2 e3 e4 => ?_⟩
  have hal := isO_lt ho
  show W p l e R s m args below meth c H locs _ _ Q (F0 m pc ls (.int i :: .ref (cvA n0 ad a) :: st.map (cv n0 ad)))
  rw [cvA_lt (Nat.lt_of_lt_of_le hal (Nat.le_trans k.1.1 X.hbig))]
  refine va_aldq (D := (dC, dI)) X.hx X.hb X.hK e2 a (aoI ci) (cA := dA (30 + ci)) (C := cnm ci) (n := hln h a) (f := fun i => (hQ h a i).map (cvA n0 ad)) ((wsH_at hal).trans (by rw [cellE_a (isO_tg ho) (by omega), aval_q n0 ad h hc])) (tys_q dA hao) hin hd ?_
  have hk := k.2 b1 b2 H locs ls e1 e2 e3 e4
  rw [show (va_rf (hQ h a i.toNatClampNeg) :: st).map (cv n0 ad) = va_rf ((hQ h a i.toNatClampNeg).map (cvA n0 ad)) :: st.map (cv n0 ad) by rw [List.map_cons, cv_rf]] at hk
  exact hk
theorem pw_iast (X : Cx p l e R s m args below meth c y d n0 ad dC dI dA ZS h0 h1) : ru_iast y (PW p l e R s m args below meth c y n0 ad dC dI dA h0 h1 Q) := by
  intro pc lv st h a i x hd ho hin k
  refine ⟨k.1, fun b1 b2 H locs ls e1 e2 e3 e4 => ?_⟩
  have hal := isO_lt ho
  show W p l e R s m args below meth c H locs _ _ Q (F0 m pc ls (.int x :: .int i :: .ref (cvA n0 ad a) :: st.map (cv n0 ad)))
  rw [cvA_lt (Nat.lt_of_lt_of_le hal (Nat.le_trans k.1.1 X.hbig))]
  refine pm_iast (D := (dC, dI)) X.hx X.hb X.hK e2 (wsH_D (fun _ q => q)) e3 a 0 (cA := dA 20) (n := hln h a) (f := hA h a) ((wsH_at hal).trans (by rw [cellE_a (isO_tg ho) (by decide)]; rfl)) rfl hin hd (fun H1 locs1 z1 z2 z3 => ?_)
  refine k.2 b1 b2 H1 locs1 ls (z1.trans e1) ?_ z3 e4
  rw [wsH_set (g := sA h a i.toNatClampNeg x) hal rfl] at z2
  · exact z2
  · rw [cellE_a (h := sA h a i.toNatClampNeg x) (isO_tg ho) (by decide)]
    show Sum.inl (dA 20, (hln h a, _)) = Sum.inl (dA 20, (hln h a, _))
    congr 3
    show Sum.inl _ = Sum.inl _
    congr 1
    funext q
    simp [hA, sA, up2, upd]
  · intro q hq
    have hz : htg (sA h a i.toNatClampNeg x) q = htg h q := rfl
    unfold cellE
    rw [hz]
    split
    · rfl
    · exact congrArg (fun z => Sum.inl (dA (htg h q), z)) (aval_same rfl (by first | rfl | (funext j; simp [hA, sA, up2, hq])) (by first | rfl | (funext j; simp [hL, sA, up2, hq])) rfl)
theorem pw_bast (X : Cx p l e R s m args below meth c y d n0 ad dC dI dA ZS h0 h1) : ru_bast y (PW p l e R s m args below meth c y n0 ad dC dI dA h0 h1 Q) := by
  intro pc lv st h a i x hd ho hin k
  refine ⟨k.1, fun b1 b2 H locs ls e1 e2 e3 e4 => ?_⟩
  have hal := isO_lt ho
  show W p l e R s m args below meth c H locs _ _ Q (F0 m pc ls (.int x :: .int i :: .ref (cvA n0 ad a) :: st.map (cv n0 ad)))
  rw [cvA_lt (Nat.lt_of_lt_of_le hal (Nat.le_trans k.1.1 X.hbig))]
  refine pm_bast (D := (dC, dI)) X.hx X.hb X.hK e2 (wsH_D (fun _ q => q)) e3 a 1 (cA := dA 21) (n := hln h a) (f := hA h a) ((wsH_at hal).trans (by rw [cellE_a (isO_tg ho) (by decide)]; rfl)) rfl hin hd (fun H1 locs1 z1 z2 z3 => ?_)
  refine k.2 b1 b2 H1 locs1 ls (z1.trans e1) ?_ z3 e4
  rw [wsH_set (g := sA h a i.toNatClampNeg x.toInt8.toInt32) hal rfl] at z2
  · exact z2
  · rw [cellE_a (h := sA h a i.toNatClampNeg x.toInt8.toInt32) (isO_tg ho) (by decide)]
    show Sum.inl (dA 21, (hln h a, _)) = Sum.inl (dA 21, (hln h a, _))
    congr 3
    show Sum.inl _ = Sum.inl _
    congr 1
    funext q
    simp [hA, sA, up2, upd]
  · intro q hq
    have hz : htg (sA h a i.toNatClampNeg x.toInt8.toInt32) q = htg h q := rfl
    unfold cellE
    rw [hz]
    split
    · rfl
    · exact congrArg (fun z => Sum.inl (dA (htg h q), z)) (aval_same rfl (by first | rfl | (funext j; simp [hA, sA, up2, hq])) (by first | rfl | (funext j; simp [hL, sA, up2, hq])) rfl)
theorem pw_zast (X : Cx p l e R s m args below meth c y d n0 ad dC dI dA ZS h0 h1) : ru_zast y (PW p l e R s m args below meth c y n0 ad dC dI dA h0 h1 Q) := by
  intro pc lv st h a i x hd ho hin k
  refine ⟨k.1, fun b1 b2 H locs ls e1 e2 e3 e4 => ?_⟩
  have hal := isO_lt ho
  show W p l e R s m args below meth c H locs _ _ Q (F0 m pc ls (.int x :: .int i :: .ref (cvA n0 ad a) :: st.map (cv n0 ad)))
  rw [cvA_lt (Nat.lt_of_lt_of_le hal (Nat.le_trans k.1.1 X.hbig))]
  refine pm_zast (D := (dC, dI)) X.hx X.hb X.hK e2 (wsH_D (fun _ q => q)) e3 a 2 (cA := dA 22) (n := hln h a) (f := hA h a) ((wsH_at hal).trans (by rw [cellE_a (isO_tg ho) (by decide)]; rfl)) rfl hin hd (fun H1 locs1 z1 z2 z3 => ?_)
  refine k.2 b1 b2 H1 locs1 ls (z1.trans e1) ?_ z3 e4
  rw [wsH_set (g := sA h a i.toNatClampNeg (x &&& 1)) hal rfl] at z2
  · exact z2
  · rw [cellE_a (h := sA h a i.toNatClampNeg (x &&& 1)) (isO_tg ho) (by decide)]
    show Sum.inl (dA 22, (hln h a, _)) = Sum.inl (dA 22, (hln h a, _))
    congr 3
    show Sum.inl _ = Sum.inl _
    congr 1
    funext q
    simp [hA, sA, up2, upd]
  · intro q hq
    have hz : htg (sA h a i.toNatClampNeg (x &&& 1)) q = htg h q := rfl
    unfold cellE
    rw [hz]
    split
    · rfl
    · exact congrArg (fun z => Sum.inl (dA (htg h q), z)) (aval_same rfl (by first | rfl | (funext j; simp [hA, sA, up2, hq])) (by first | rfl | (funext j; simp [hL, sA, up2, hq])) rfl)
theorem pw_last (X : Cx p l e R s m args below meth c y d n0 ad dC dI dA ZS h0 h1) : ru_last y (PW p l e R s m args below meth c y n0 ad dC dI dA h0 h1 Q) := by
  intro pc lv st h a i x hd ho hin k
  refine ⟨k.1, fun b1 b2 H locs ls e1 e2 e3 e4 => ?_⟩
  have hal := isO_lt ho
  show W p l e R s m args below meth c H locs _ _ Q (F0 m pc ls (.long x :: .int i :: .ref (cvA n0 ad a) :: st.map (cv n0 ad)))
  rw [cvA_lt (Nat.lt_of_lt_of_le hal (Nat.le_trans k.1.1 X.hbig))]
  refine pm_last (D := (dC, dI)) X.hx X.hb X.hK e2 (wsH_D (fun _ q => q)) e3 a 3 (cA := dA 23) (n := hln h a) (f := hL h a) ((wsH_at hal).trans (by rw [cellE_a (isO_tg ho) (by decide)]; rfl)) rfl hin hd (fun H1 locs1 z1 z2 z3 => ?_)
  refine k.2 b1 b2 H1 locs1 ls (z1.trans e1) ?_ z3 e4
  rw [wsH_set (g := sL h a i.toNatClampNeg x) hal rfl] at z2
  · exact z2
  · rw [cellE_a (h := sL h a i.toNatClampNeg x) (isO_tg ho) (by decide)]
    show Sum.inl (dA 23, (hln h a, _)) = Sum.inl (dA 23, (hln h a, _))
    congr 3
    show Sum.inr _ = Sum.inr _
    congr 1; congr 1
    funext q
    simp [hL, sL, up2, vp_updL]
  · intro q hq
    have hz : htg (sL h a i.toNatClampNeg x) q = htg h q := rfl
    unfold cellE
    rw [hz]
    split
    · rfl
    · exact congrArg (fun z => Sum.inl (dA (htg h q), z)) (aval_same rfl (by first | rfl | (funext j; simp [hA, sL, up2, hq])) (by first | rfl | (funext j; simp [hL, sL, up2, hq])) rfl)
theorem pw_aast (X : Cx p l e R s m args below meth c y d n0 ad dC dI dA ZS h0 h1) : ru_aast y (PW p l e R s m args below meth c y n0 ad dC dI dA h0 h1 Q) := by
  intro pc lv st h a ci i b hd hao ho hb2 hin k
  have hc := aoC_lt hao
  refine ⟨k.1, fun b1 b2 H locs ls e1 e2 e3 e4 => ?_⟩
  have hal := isO_lt ho
  have hbl := isO_lt hb2
  show W p l e R s m args below meth c H locs _ _ Q (F0 m pc ls (.ref (cvA n0 ad b) :: .int i :: .ref (cvA n0 ad a) :: st.map (cv n0 ad)))
  rw [cvA_lt (Nat.lt_of_lt_of_le hal (Nat.le_trans k.1.1 X.hbig)), cvA_lt (Nat.lt_of_lt_of_le hbl (Nat.le_trans k.1.1 X.hbig))]
  refine pm_astq (D := (dC, dI)) (r := (cnm ci, tC ci, nfC ci)) X.hx X.hb X.hK e2 (wsH_D (fun _ q => q)) e3 a (aoI ci) b ci (cA := dA (30 + ci)) (n := hln h a) (f := fun i => (hQ h a i).map (cvA n0 ad)) ((wsH_at hal).trans (by rw [cellE_a (isO_tg ho) (by omega), aval_q n0 ad h hc])) (tys_q dA hao) ((wsH_at hbl).trans (by rw [cellE_o (isO_tg hb2) hc])) (pc_get hc) hin hd (fun H1 locs1 z1 z2 z3 => ?_)
  refine k.2 b1 b2 H1 locs1 ls (z1.trans e1) ?_ z3 e4
  rw [wsH_set (g := sQ h a i.toNatClampNeg (some b)) hal rfl] at z2
  · exact z2
  · rw [cellE_a (h := sQ h a i.toNatClampNeg (some b)) (isO_tg ho) (by omega), aval_q n0 ad _ hc]
    refine congrArg (fun f => Sum.inl (dA (30 + ci), (hln h a, Sum.inr (Sum.inr (Sum.inr (Sum.inr f)))))) (funext fun q => ?_)
    by_cases hq : q = i.toNatClampNeg
    · simp [hQ, sQ, up2, va_up, hq, cvA_lt (n0 := n0) (ad := ad) (Nat.lt_of_lt_of_le hbl (Nat.le_trans k.1.1 X.hbig))]
    · simp [hQ, sQ, up2, va_up, hq]
  · intro q hq
    have hz : htg (sQ h a i.toNatClampNeg (some b)) q = htg h q := rfl
    unfold cellE
    rw [hz]
    split
    · rfl
    · exact congrArg (fun z => Sum.inl (dA (htg h q), z)) (aval_same rfl rfl rfl (by funext j; simp [hQ, sQ, up2, hq]))
theorem pw_alen (X : Cx p l e R s m args below meth c y d n0 ad dC dI dA ZS h0 h1) : ru_alen y (PW p l e R s m args below meth c y n0 ad dC dI dA h0 h1 Q) := by
  intro pc lv st h a t hd ht ho k
  refine ⟨k.1, fun b1 b2 H locs ls e1 e2 e3 e4 => ?_⟩
  have hal := isO_lt ho
  show W p l e R s m args below meth c H locs _ _ Q (F0 m pc ls (.ref (cvA n0 ad a) :: st.map (cv n0 ad)))
  rw [cvA_lt (Nat.lt_of_lt_of_le hal (Nat.le_trans k.1.1 X.hbig))]
  obtain ⟨t0, ht0⟩ := tys_any dA ht
  exact va_alen (D := (dC, dI)) X.hx X.hb X.hK e2 a t0 (cA := dA t) (x := aval n0 ad h (tyA t) a) ((wsH_at hal).trans (by rw [cellE_a (isO_tg ho) (by rcases ht with ht | ht <;> omega)])) ht0 (by rw [aval_len]) hd (k.2 b1 b2 H locs ls e1 e2 e3 e4)
theorem pw_newI (X : Cx p l e R s m args below meth c y d n0 ad dC dI dA ZS h0 h1) : ru_newI y (PW p l e R s m args below meth c y n0 ad dC dI dA h0 h1 Q) := by
  intro pc lv st h n N hd hw hn hN hby k
  have hm : hsz h + 1 ≤ hsz h1 ∧ hsl h + N ≤ hsl h1 := k.1
  refine ⟨⟨by omega, by omega⟩, fun b1 b2 H locs ls e1 e2 e3 e4 => ?_⟩
  refine pm_newa (atype := .int) (a0 := (N, .inl (fun _ => 0))) (q := n0 + hsz h) (cA := dA 20) X.hx X.hb (X.hts _ hw) e2 e3 (fun _ => rfl) hn hN (by show N * 4 ≤ _; omega) (by have := X.hRc; omega) (by have := X.hRs; omega) hd e1 (X.hK.2 0 _ rfl).2 (fun H1 z1 z2 z3 => ?_)
  have hk := k.2 (show hsz h0 ≤ hsz h + 1 by omega) (show hsl h0 ≤ hsl h + N by omega) H1 locs ls (z1.trans (by show n0 + hsz h + 1 = n0 + (hsz h + 1); omega)) (by rw [wsH_nw (by intro i; omega)]; rw [cellE_a (t := 20) (by simp [htg, nw]) (by decide)]; rw [aval_new_i n0 ad h 20 N (by intro z; cases z) (by intro C z; cases z)]; exact z2) z3 e4
  rw [show (Value.ref (hsz h) :: st).map (cv n0 ad) = .ref (n0 + hsz h) :: st.map (cv n0 ad) by rw [List.map_cons]; show Value.ref (cvA n0 ad (hsz h)) :: _ = _; rw [cvA_lt (by have := X.hbig; omega)]] at hk
  rw [show hsz (nw h 20 N N) - hsz h0 = hsz h - hsz h0 + 1 by show hsz h + 1 - hsz h0 = _; omega, show hsl (nw h 20 N N) - hsl h0 = hsl h - hsl h0 + N by show hsl h + N - hsl h0 = _; omega] at hk
  exact hk
theorem pw_newB (X : Cx p l e R s m args below meth c y d n0 ad dC dI dA ZS h0 h1) : ru_newB y (PW p l e R s m args below meth c y n0 ad dC dI dA h0 h1 Q) := by
  intro pc lv st h n N hd hw hn hN hby k
  have hm : hsz h + 1 ≤ hsz h1 ∧ hsl h + N ≤ hsl h1 := k.1
  refine ⟨⟨by omega, by omega⟩, fun b1 b2 H locs ls e1 e2 e3 e4 => ?_⟩
  refine pm_newa (atype := .byte) (a0 := (N, .inl (fun _ => 0))) (q := n0 + hsz h) (cA := dA 21) X.hx X.hb (X.hts _ hw) e2 e3 (fun _ => rfl) hn hN (by show N * 1 ≤ _; omega) (by have := X.hRc; omega) (by have := X.hRs; omega) hd e1 (X.hK.2 1 _ rfl).2 (fun H1 z1 z2 z3 => ?_)
  have hk := k.2 (show hsz h0 ≤ hsz h + 1 by omega) (show hsl h0 ≤ hsl h + N by omega) H1 locs ls (z1.trans (by show n0 + hsz h + 1 = n0 + (hsz h + 1); omega)) (by rw [wsH_nw (by intro i; omega)]; rw [cellE_a (t := 21) (by simp [htg, nw]) (by decide)]; rw [aval_new_i n0 ad h 21 N (by intro z; cases z) (by intro C z; cases z)]; exact z2) z3 e4
  rw [show (Value.ref (hsz h) :: st).map (cv n0 ad) = .ref (n0 + hsz h) :: st.map (cv n0 ad) by rw [List.map_cons]; show Value.ref (cvA n0 ad (hsz h)) :: _ = _; rw [cvA_lt (by have := X.hbig; omega)]] at hk
  rw [show hsz (nw h 21 N N) - hsz h0 = hsz h - hsz h0 + 1 by show hsz h + 1 - hsz h0 = _; omega, show hsl (nw h 21 N N) - hsl h0 = hsl h - hsl h0 + N by show hsl h + N - hsl h0 = _; omega] at hk
  exact hk
theorem pw_newZ (X : Cx p l e R s m args below meth c y d n0 ad dC dI dA ZS h0 h1) : ru_newZ y (PW p l e R s m args below meth c y n0 ad dC dI dA h0 h1 Q) := by
  intro pc lv st h n N hd hw hn hN hby k
  have hm : hsz h + 1 ≤ hsz h1 ∧ hsl h + N ≤ hsl h1 := k.1
  refine ⟨⟨by omega, by omega⟩, fun b1 b2 H locs ls e1 e2 e3 e4 => ?_⟩
  refine pm_newa (atype := .boolean) (a0 := (N, .inl (fun _ => 0))) (q := n0 + hsz h) (cA := dA 22) X.hx X.hb (X.hts _ hw) e2 e3 (fun _ => rfl) hn hN (by show N * 1 ≤ _; omega) (by have := X.hRc; omega) (by have := X.hRs; omega) hd e1 (X.hK.2 2 _ rfl).2 (fun H1 z1 z2 z3 => ?_)
  have hk := k.2 (show hsz h0 ≤ hsz h + 1 by omega) (show hsl h0 ≤ hsl h + N by omega) H1 locs ls (z1.trans (by show n0 + hsz h + 1 = n0 + (hsz h + 1); omega)) (by rw [wsH_nw (by intro i; omega)]; rw [cellE_a (t := 22) (by simp [htg, nw]) (by decide)]; rw [aval_new_i n0 ad h 22 N (by intro z; cases z) (by intro C z; cases z)]; exact z2) z3 e4
  rw [show (Value.ref (hsz h) :: st).map (cv n0 ad) = .ref (n0 + hsz h) :: st.map (cv n0 ad) by rw [List.map_cons]; show Value.ref (cvA n0 ad (hsz h)) :: _ = _; rw [cvA_lt (by have := X.hbig; omega)]] at hk
  rw [show hsz (nw h 22 N N) - hsz h0 = hsz h - hsz h0 + 1 by show hsz h + 1 - hsz h0 = _; omega, show hsl (nw h 22 N N) - hsl h0 = hsl h - hsl h0 + N by show hsl h + N - hsl h0 = _; omega] at hk
  exact hk
theorem pw_newL (X : Cx p l e R s m args below meth c y d n0 ad dC dI dA ZS h0 h1) : ru_newL y (PW p l e R s m args below meth c y n0 ad dC dI dA h0 h1 Q) := by
  intro pc lv st h n N hd hw hn hN hby k
  have hm : hsz h + 1 ≤ hsz h1 ∧ hsl h + N ≤ hsl h1 := k.1
  refine ⟨⟨by omega, by omega⟩, fun b1 b2 H locs ls e1 e2 e3 e4 => ?_⟩
  refine pm_newa (atype := .long) (a0 := (N, .inr (.inl (fun _ => 0)))) (q := n0 + hsz h) (cA := dA 23) X.hx X.hb (X.hts _ hw) e2 e3 (fun _ => rfl) hn hN (by show N * 8 ≤ _; omega) (by have := X.hRc; omega) (by have := X.hRs; omega) hd e1 (X.hK.2 3 _ rfl).2 (fun H1 z1 z2 z3 => ?_)
  have hk := k.2 (show hsz h0 ≤ hsz h + 1 by omega) (show hsl h0 ≤ hsl h + N by omega) H1 locs ls (z1.trans (by show n0 + hsz h + 1 = n0 + (hsz h + 1); omega)) (by rw [wsH_nw (by intro i; omega)]; rw [cellE_a (t := 23) (by simp [htg, nw]) (by decide)]; rw [aval_new_l n0 ad h 23 N rfl]; exact z2) z3 e4
  rw [show (Value.ref (hsz h) :: st).map (cv n0 ad) = .ref (n0 + hsz h) :: st.map (cv n0 ad) by rw [List.map_cons]; show Value.ref (cvA n0 ad (hsz h)) :: _ = _; rw [cvA_lt (by have := X.hbig; omega)]] at hk
  rw [show hsz (nw h 23 N N) - hsz h0 = hsz h - hsz h0 + 1 by show hsz h + 1 - hsz h0 = _; omega, show hsl (nw h 23 N N) - hsl h0 = hsl h - hsl h0 + N by show hsl h + N - hsl h0 = _; omega] at hk
  exact hk
theorem pw_newQ (X : Cx p l e R s m args below meth c y d n0 ad dC dI dA ZS h0 h1) : ru_newQ y (PW p l e R s m args below meth c y n0 ad dC dI dA h0 h1 Q) := by
  intro pc lv st h ix ci n N hd hao hw hv hn hN hby k
  have hc := aoC_lt hao
  have hm : hsz h + 1 ≤ hsz h1 ∧ hsl h + N ≤ hsl h1 := k.1
  refine ⟨⟨by omega, by omega⟩, fun b1 b2 H locs ls e1 e2 e3 e4 => ?_⟩
  refine pm_newq (q := n0 + hsz h) (cA := dA (30 + ci)) (own := cnm (mo y)) (C := cnm ci) X.hx X.hb X.hown (X.hts _ hw) (X.hAO hc hv) e2 e3 hn hN (by omega) (by have := X.hRc; omega) (by have := X.hRs; omega) hd e1 (tys_name X.hK hao) (fun H1 z1 z2 z3 => ?_)
  have hk := k.2 (show hsz h0 ≤ hsz h + 1 by omega) (show hsl h0 ≤ hsl h + N by omega) H1 locs ls (z1.trans (by show n0 + hsz h + 1 = n0 + (hsz h + 1); omega)) (by rw [wsH_nw (by intro i; omega)]; rw [cellE_a (t := 30 + ci) (by simp [htg, nw]) (by omega), aval_q n0 ad _ hc]; rw [show (fun i => (hQ (nw h (30 + ci) N N) (hsz h) i).map (cvA n0 ad)) = fun _ => none by funext i; simp [hQ, nw], show hln (nw h (30 + ci) N N) (hsz h) = N by simp [hln, nw]]; exact z2) z3 e4
  rw [show (Value.ref (hsz h) :: st).map (cv n0 ad) = .ref (n0 + hsz h) :: st.map (cv n0 ad) by rw [List.map_cons]; show Value.ref (cvA n0 ad (hsz h)) :: _ = _; rw [cvA_lt (by have := X.hbig; omega)]] at hk
  rw [show hsz (nw h (30 + ci) N N) - hsz h0 = hsz h - hsz h0 + 1 by show hsz h + 1 - hsz h0 = _; omega, show hsl (nw h (30 + ci) N N) - hsl h0 = hsl h - hsl h0 + N by show hsl h + N - hsl h0 = _; omega] at hk
  exact hk
theorem pw_newO (X : Cx p l e R s m args below meth c y d n0 ad dC dI dA ZS h0 h1) : ru_newO y (PW p l e R s m args below meth c y n0 ad dC dI dA h0 h1 Q) := by
  intro pc lv st h ix ci hd hc hw hv hi k
  have hm : hsz h + 1 ≤ hsz h1 ∧ hsl h + nfC ci ≤ hsl h1 := k.1
  refine ⟨⟨by omega, by omega⟩, fun b1 b2 H locs ls e1 e2 e3 e4 => ?_⟩
  refine pm_new (D := (dC, dI)) (ci := ci) (q := n0 + hsz h) (fs := fvals n0 ad (nw h ci 0 (nfC ci)) ci (hsz h)) (own := cnm (mo y)) X.hx X.hb X.hts (pc_ws hc) (tyC ci) (pc_ty hc) X.hown (X.hts _ hw) (X.hts _ hv) (X.hts _ hi) X.hK e2 e3 (pc_get hc) (fun j hj => ?_) (by have := X.hRc; omega) (by have := X.hRs; omega) hd e1 (fun H1 z1 z2 z3 => ?_)
  · unfold vp_V
    rw [List.getD_eq_getElem?_getD, fvals_at hj]
    exact (fval_new n0 ad h hc hj).symm
  have hk := k.2 (show hsz h0 ≤ hsz h + 1 by omega) (show hsl h0 ≤ hsl h + nfC ci by omega) H1 locs ls (z1.trans (by show n0 + hsz h + 1 = n0 + (hsz h + 1); omega)) (by rw [wsH_nw (by intro i; omega)]; rw [cellE_o (ci := ci) (by simp [htg, nw]) hc]; exact z2) z3 e4
  rw [show (Value.ref (hsz h) :: st).map (cv n0 ad) = .ref (n0 + hsz h) :: st.map (cv n0 ad) by rw [List.map_cons]; show Value.ref (cvA n0 ad (hsz h)) :: _ = _; rw [cvA_lt (by have := X.hbig; omega)]] at hk
  rw [show hsz (nw h ci 0 (nfC ci)) - hsz h0 = hsz h - hsz h0 + 1 by show hsz h + 1 - hsz h0 = _; omega, show hsl (nw h ci 0 (nfC ci)) - hsl h0 = hsl h - hsl h0 + nfC ci by show hsl h + nfC ci - hsl h0 = _; omega] at hk
  exact hk
theorem pw_objI (X : Cx p l e R s m args below meth c y d n0 ad dC dI dA ZS h0 h1) : ru_objI y (PW p l e R s m args below meth c y n0 ad dC dI dA h0 h1 Q) := by
  intro pc lv st h ix a hd hw hz k
  refine ⟨k.1, fun b1 b2 H locs ls e1 e2 e3 e4 => ?_⟩
  refine W.objInit (rest := st.map (cv n0 ad)) (a := cvA n0 ad a) X.hx X.hb X.hown (X.hts _ hw) (X.hts _ pt_oi1) (X.hts _ pt_oi2) rfl (by rw [X.hml]; exact e4.1) rfl hd (by have := X.hRf; omega) ?_ ?_
  · have hRl := X.hRl
    show 2 * 0 + _ + 12 ≤ _
    rw [List.map_map, show ((fun v => Value.category v) ∘ cv n0 ad) = fun v => Value.category v from funext fun v => cv_cat n0 ad v]
    omega
  · exact W.eq (g2 := F0 m (pc + 3) ls (st.map (cv n0 ad))) rfl (k.2 b1 b2 H locs ls e1 e2 e3 e4)
theorem pw_ldcwF (X : Cx p l e R s m args below meth c y d n0 ad dC dI dA ZS h0 h1) : ru_ldcwF y (PW p l e R s m args below meth c y n0 ad dC dI dA h0 h1 Q) := by
  intro pc lv st h ix v hd hw k
  exact ⟨k.1, fun b1 b2 H locs ls e1 e2 e3 e4 => pm_ldcwF X.hx X.hb X.hown (X.hts _ hw) hd (k.2 b1 b2 H locs ls e1 e2 e3 e4)⟩
theorem pw_ldcS (X : Cx p l e R s m args below meth c y d n0 ad dC dI dA ZS h0 h1) (hZS : ∀ U H, ZS U H → ZSt n0 ad U H) : ru_ldcS y (PW p l e R s m args below meth c y n0 ad dC dI dA h0 h1 Q) := by
  intro pc lv st h i hd hi hy k
  refine ⟨k.1, fun b1 b2 H locs ls e1 e2 e3 e4 => ?_⟩
  have hk := k.2 b1 b2 H locs ls e1 e2 e3 e4
  rw [show (Value.ref (4294967296 + i) :: st).map (cv n0 ad) = .ref (ad i) :: st.map (cv n0 ad) by rw [List.map_cons]; show Value.ref (cvA n0 ad _) :: _ = _; rw [cvA_big]] at hk
  have hown := X.hown
  rw [hy] at hown
  exact pm_ldcS X.hx X.hb hown ((hZS _ _ X.hZ).1 i hi) hd hk
theorem pw_sVal (X : Cx p l e R s m args below meth c y d n0 ad dC dI dA ZS h0 h1) (hZS : ∀ U H, ZS U H → ZSt n0 ad U H) : ru_sVal y (PW p l e R s m args below meth c y n0 ad dC dI dA h0 h1 Q) := by
  intro pc lv st h ix i hd hi hw k
  refine ⟨k.1, fun b1 b2 H locs ls e1 e2 e3 e4 => ?_⟩
  have hk := k.2 b1 b2 H locs ls e1 e2 e3 e4
  rw [show ((.ref (4294967296 + (32 + i)) : Value) :: st).map (cv n0 ad) = .ref (ad (32 + i)) :: st.map (cv n0 ad) by rw [List.map_cons]; show Value.ref (cvA n0 ad _) :: _ = _; rw [cvA_big]] at hk
  show W p l e R s m args below meth c H locs _ _ Q (F0 m pc ls (.ref (cvA n0 ad (4294967296 + i)) :: st.map (cv n0 ad)))
  rw [cvA_big]
  exact vk_getf X.hx X.hb (((hZS _ _ X.hZ).2.1.1 i hi).2.2.1) e3 X.hown (X.hts _ hw) (fun _ z => z) hd hk
theorem pw_sCod (X : Cx p l e R s m args below meth c y d n0 ad dC dI dA ZS h0 h1) (hZS : ∀ U H, ZS U H → ZSt n0 ad U H) : ru_sCod y (PW p l e R s m args below meth c y n0 ad dC dI dA h0 h1 Q) := by
  intro pc lv st h ix i hd hi hw k
  refine ⟨k.1, fun b1 b2 H locs ls e1 e2 e3 e4 => ?_⟩
  have hk := k.2 b1 b2 H locs ls e1 e2 e3 e4
  rw [show ((.int 0 : Value) :: st).map (cv n0 ad) = .int 0 :: st.map (cv n0 ad) by rw [List.map_cons]; rfl] at hk
  show W p l e R s m args below meth c H locs _ _ Q (F0 m pc ls (.ref (cvA n0 ad (4294967296 + i)) :: st.map (cv n0 ad)))
  rw [cvA_big]
  exact vk_getf X.hx X.hb (((hZS _ _ X.hZ).2.1.1 i hi).2.1) e3 X.hown (X.hts _ hw) (fun _ z => z) hd hk
theorem pw_sAl (X : Cx p l e R s m args below meth c y d n0 ad dC dI dA ZS h0 h1) (hZS : ∀ U H, ZS U H → ZSt n0 ad U H) : ru_sAl y (PW p l e R s m args below meth c y n0 ad dC dI dA h0 h1 Q) := by
  intro pc lv st h i hd hi k
  refine ⟨k.1, fun b1 b2 H locs ls e1 e2 e3 e4 => ?_⟩
  have hk := k.2 b1 b2 H locs ls e1 e2 e3 e4
  show W p l e R s m args below meth c H locs _ _ Q (F0 m pc ls (.ref (cvA n0 ad (4294967296 + (32 + i))) :: st.map (cv n0 ad)))
  rw [cvA_big]
  obtain ⟨cell, q1, q2, q3, q4, q5, q6, q7⟩ := ((hZS _ _ X.hZ).2.1.1 i hi).2.2.2
  exact W.alen X.hx X.hb (by rw [e3.2.1 _ (Array.getElem?_eq_some_iff.mp q1).1 q7]; exact q1) q2 q5 rfl rfl hd hk
theorem pw_sAb (X : Cx p l e R s m args below meth c y d n0 ad dC dI dA ZS h0 h1) (hZS : ∀ U H, ZS U H → ZSt n0 ad U H) : ru_sAb y (PW p l e R s m args below meth c y n0 ad dC dI dA h0 h1 Q) := by
  intro pc lv st h i j hd hi hj k
  refine ⟨k.1, fun b1 b2 H locs ls e1 e2 e3 e4 => ?_⟩
  have hk := k.2 b1 b2 H locs ls e1 e2 e3 e4
  show W p l e R s m args below meth c H locs _ _ Q (F0 m pc ls (.int j :: .ref (cvA n0 ad (4294967296 + (32 + i))) :: st.map (cv n0 ad)))
  rw [cvA_big]
  obtain ⟨cell, q1, q2, q3, q4, q5, q6, q7⟩ := ((hZS _ _ X.hZ).2.1.1 i hi).2.2.2
  have hlt : j.toNatClampNeg < sLn.getD i 0 := Nat.not_le.mp fun q => hj (Or.inr q)
  exact W.bald X.hx X.hb (by rw [e3.2.1 _ (Array.getElem?_eq_some_iff.mp q1).1 q7]; exact q1) q2 q3 (fun q => q.elim (fun z => hj (Or.inl z)) (fun z => absurd z (Nat.not_le.mpr (Nat.lt_of_lt_of_le hlt q4)))) (q6 _ hlt) rfl rfl hd hk
theorem pw_sCS (X : Cx p l e R s m args below meth c y d n0 ad dC dI dA ZS h0 h1) (hZS : ∀ U H, ZS U H → ZSt n0 ad U H) : ru_sCS y (PW p l e R s m args below meth c y n0 ad dC dI dA h0 h1 Q) := by
  intro pc lv st h ix hd hw k
  exact ⟨k.1, fun b1 b2 H locs ls e1 e2 e3 e4 => va_gets X.hx X.hb (hZS _ _ X.hZ).2.2.1 e3 X.hown (X.hts _ hw) (fun _ z => z) hd (k.2 b1 b2 H locs ls e1 e2 e3 e4)⟩
theorem pw_sFM (X : Cx p l e R s m args below meth c y d n0 ad dC dI dA ZS h0 h1) (hZS : ∀ U H, ZS U H → ZSt n0 ad U H) : ru_sFM y (PW p l e R s m args below meth c y n0 ad dC dI dA h0 h1 Q) := by
  intro pc lv st h ix hd hw k
  refine ⟨(k none).1, fun b1 b2 H locs ls e1 e2 e3 e4 => ?_⟩
  rcases (hZS _ _ X.hZ).2.2.2 with hq | hq
  · exact va_gets X.hx X.hb hq e3 X.hown (X.hts _ hw) (fun _ z => z) hd ((k none).2 b1 b2 H locs ls e1 e2 e3 e4)
  · have hk := (k (some (4294967296 + 63))).2 b1 b2 H locs ls e1 e2 e3 e4
    rw [show (va_rf (some (4294967296 + 63)) :: st).map (cv n0 ad) = .ref (ad 63) :: st.map (cv n0 ad) by rw [List.map_cons]; show Value.ref (cvA n0 ad _) :: _ = _; rw [cvA_big]] at hk
    exact va_gets X.hx X.hb hq e3 X.hown (X.hts _ hw) (fun _ z => z) hd hk
theorem pw_weak (X : Cx p l e R s m args below meth c y d n0 ad dC dI dA ZS h0 h1) : ru_weak y (PW p l e R s m args below meth c y n0 ad dC dI dA h0 h1 Q) := by
  intro pc lv st h ks lv1 hl k
  exact ⟨k.1, fun b1 b2 H locs ls e1 e2 e3 e4 => k.2 b1 b2 H locs ls e1 e2 e3 (lv_sub e4 ks (by rw [← hl, pick_cv]))⟩
/-- callees whose runs are the real machine's -/
def CalOK (l : Launch) (d n0 : Nat) (ad : Nat → Nat) (dC : Nat → ClassId) (dI : Nat → Nat → Nat) (dA : Nat → ClassId) (ZS : State → Heap → Prop) (C : PCal) : Prop :=
  ∀ (z : PMe) (n : Nat) (As : List Value) (h : HP) (r : Option Value) (h2 : HP), C z As h r h2 → okM z n → (hsz h ≤ hsz h2 ∧ hsl h ≤ hsl h2) ∧ (hsz h2 ≤ 4294967296 → Met l (my z) (Cond.code (my z) (mb z) (mL z) (mr z) :: PT) (rmD d (hsz h2 - hsz h) (hsl h2 - hsl h)) (pcX n0 ad dC dI dA ZS As h) (qcX n0 ad dC dI dA r h2) (hsz h2 - hsz h) (hsl h2 - hsl h) (fun q => n0 ≤ q))
theorem pm_back (X : Cx p l e R s m args below meth c y d n0 ad dC dI dA ZS h0 h1) {pc : Nat} {lv : List (Nat × Value)} {rest st0 st1 : List Value} {r : Option Value} {h h2 : HP} {locs : List Loc} {H : Heap} {ls : Array Slot} {a : Array Value} (hr : va_Run p l e R s m args below meth c H locs (hsz h - hsz h0) (hsl h - hsl h0) (hsz h2 - hsz h) (hsl h2 - hsl h) (F0 m pc ls st0) (rest.map (cv n0 ad)) (qcX n0 ad dC dI dA r h2 a) (fun q => n0 ≤ q)) (hm : hsz h ≤ hsz h2 ∧ hsl h ≤ hsl h2) (b1 : hsz h0 ≤ hsz h) (b2 : hsl h0 ≤ hsl h) (e1 : H.size = n0 + hsz h) (e3 : va_S (fun q => n0 ≤ q) s.heap H locs) (e4 : lv_has ls (mL y) (lv.map (fun q => (q.1, cv n0 ad q.2)))) (hs1 : r.toList ++ rest = st1) (k : PW p l e R s m args below meth c y n0 ad dC dI dA h0 h1 Q (pc + 3) lv st1 h2) : W p l e R s m args below meth c H locs (hsz h - hsz h0) (hsl h - hsl h0) Q (F0 m pc ls st0) := by
  intro T hT X1
  obtain ⟨v, st₀, t, T', L, g0, X', hL, f1, f2, ⟨hv, hz, hP, hF⟩, st⟩ := hr T hT X1
  cases hv
  have hF' := hF
  obtain ⟨hF1, hF2⟩ := hF'
  rw [g0] at hF1 hF2
  have hk := k.2 (Nat.le_trans b1 hm.1) (Nat.le_trans b2 hm.2) T'.heap (locs ++ L) ls (by rw [f1]; exact hz) (by rw [f1]; exact hP) ⟨Nat.le_trans e3.1 (by rw [f1]; exact hF1), fun q q1 q2 => by rw [f1, hF2 q (Nat.lt_of_lt_of_le q1 e3.1) q2]; exact e3.2.1 q q1 q2, fun q hq => by
    rcases List.mem_append.mp hq with z | z
    · exact e3.2.2 q z
    · exact hL q z⟩ e4
  rw [show hsz h2 - hsz h0 = hsz h - hsz h0 + (hsz h2 - hsz h) by omega, show hsl h2 - hsl h0 = hsl h - hsl h0 + (hsl h2 - hsl h) by omega] at hk
  have hst : st1.map (cv n0 ad) = (r.map (cv n0 ad)).toList ++ rest.map (cv n0 ad) := by
    rw [← hs1, List.map_append]
    cases r <;> rfl
  rw [hst] at hk
  obtain ⟨t2, a1, a2⟩ := hk T' rfl X'
  exact ⟨t2, st t2 a1, a2⟩
theorem cats_cv (n0 : Nat) (ad : Nat → Nat) (rest : List Value) : ((rest.map (cv n0 ad)).map fun v => v.category) = rest.map fun v => v.category := by
  rw [List.map_map]
  exact congrArg (fun f => List.map f rest) (funext fun v => cv_cat n0 ad v)
theorem pw_room (X : Cx p l e R s m args below meth c y d n0 ad dC dI dA ZS h0 h1) {h h2 : HP} (hm : hsz h ≤ hsz h2 ∧ hsl h ≤ hsl h2) (hk : hsz h2 ≤ hsz h1 ∧ hsl h2 ≤ hsl h1) (b1 : hsz h0 ≤ hsz h) (b2 : hsl h0 ≤ hsl h) : hsz h - hsz h0 + (hsz h2 - hsz h) ≤ R.cells ∧ hsl h - hsl h0 + (hsl h2 - hsl h) ≤ R.slots := by
  have q1 := X.hRc
  have q2 := X.hRs
  constructor <;> omega
theorem pw_callB (X : Cx p l e R s m args below meth c y d n0 ad dC dI dA ZS h0 h1) {z : PMe} {n ix mc ms : Nat} (hm : okM z n) (hw : Cond.methodLink (cnm (mo y)) ix (my z) ∈ PT) : CallB R s args (cnm (mo y)) ix (my z) (mb z) (mL z) (mr z) (Cond.code (my z) (mb z) (mL z) (mr z) :: PT) (rmD d mc ms) mc ms n := by
  obtain ⟨q1, q2, q3, q4, q5, q6⟩ := hm
  refine callB_of (Ts := (Cond.code (my z) (mb z) (mL z) (mr z)) :: PT) n (fun w hw => ?_) (pt_in q5) rfl rfl rfl (X.hts _ q6) (X.hts _ hw) q2 ⟨X.hRf, ?_⟩
  · rcases List.mem_cons.mp hw with h | h
    · rw [h]; exact X.hts _ q5
    · exact X.hts _ h
  · have := X.hRl
    show 8 + (mL z + 11) + 48 * d ≤ R.locals
    omega
theorem pw_callN (X : Cx p l e R s m args below meth c y d n0 ad dC dI dA ZS h0 h1) {z : PMe} {n ix mc ms : Nat} {host : String} (hm : okM z n) (hw : Cond.methodLinkNest (cnm (mo y)) ix (my z) host ∈ lw_tbl) : va_CN R s args (cnm (mo y)) ix (my z) host (mb z) (mL z) (mr z) (Cond.code (my z) (mb z) (mL z) (mr z) :: PT) (rmD d mc ms) mc ms n := by
  obtain ⟨q1, q2, q3, q4, q5, q6⟩ := hm
  refine va_cnB (Ts := (Cond.code (my z) (mb z) (mL z) (mr z)) :: PT) n (fun w hw => ?_) (pt_in q5) rfl rfl rfl (X.hNB.1 _ _ _ _ hw) (X.hts _ q6) q2 ⟨X.hRf, ?_⟩
  · rcases List.mem_cons.mp hw with h | h
    · rw [h]; exact X.hts _ q5
    · exact X.hts _ h
  · have := X.hRl
    show 8 + (mL z + 11) + 48 * d ≤ R.locals
    omega
theorem pw_pre (X : Cx p l e R s m args below meth c y d n0 ad dC dI dA ZS h0 h1) {As : List Value} {h : HP} {H : Heap} {locs : List Loc} (e1 : H.size = n0 + hsz h) (e2 : va_P (dC, dI) pcls (wsH n0 ad dA h) H) (e3 : va_S (fun q => n0 ≤ q) s.heap H locs) : ∀ U : State, U.heap = H → s.WarmedH U.vm → pcX n0 ad dC dI dA ZS As h (As.map (cv n0 ad)).toArray U := by
  intro U hU hW
  refine ⟨rfl, by rw [hU]; exact e1, by rw [hU]; exact e2, va_K.moved hW.alike X.hK, NB.warm hW X.hNB, ?_⟩
  rw [hU]
  have hn : n0 ≤ s.heap.size := by have := X.hS0; omega
  exact X.hZO.2.2 U s.heap H hn (fun a ha => e3.2.1 a (Nat.lt_of_lt_of_le ha hn) (Nat.not_le.mpr ha)) (X.hZO.1 s U _ hW X.hZ)
theorem pw_recv (X : Cx p l e R s m args below meth c y d n0 ad dC dI dA ZS h0 h1) {h : HP} {H : Heap} {b n : Nat} {z : PMe} (hm : okM z n) (ho : isO h b (mo z) = true) (hz : mo z < 12) (hb : hsz h ≤ 4294967296) (e2 : va_P (dC, dI) pcls (wsH n0 ad dA h) H) : ∃ cell : Cell, H[cvA n0 ad b]? = some cell ∧ cell.vm.isStatics = false ∧ s.vm.findClass (my z).cls = some cell.cls := by
  have hal := isO_lt ho
  rw [cvA_lt (Nat.lt_of_lt_of_le hal hb)]
  have := va_recv (q0 := b) X.hK e2 (pc_get hz) ((wsH_at hal).trans (by rw [cellE_o (isO_tg ho) hz]))
  rw [hm.1]
  exact this
theorem arg_rev (n0 : Nat) (ad : Nat → Nat) (As rest : List Value) : (As.reverse ++ rest).map (cv n0 ad) = (As.map (cv n0 ad)).reverse ++ rest.map (cv n0 ad) := by
  rw [List.map_append, List.map_reverse]
theorem pw_callV (X : Cx p l e R s m args below meth c y d n0 ad dC dI dA ZS h0 h1) {C : PCal} (hC : CalOK l d n0 ad dC dI dA ZS C) : ru_callV C y (PW p l e R s m args below meth c y n0 ad dC dI dA h0 h1 Q) := by
  intro pc lv h st ix n b z As rest r st1 h2 hd hm hw hi hs hn hz hlt ho hst hc hs1 k
  obtain ⟨hmo, hMet⟩ := hC _ _ _ _ _ _ hc hm
  have hbig := X.hbig
  subst hst
  refine ⟨⟨Nat.le_trans hmo.1 k.1.1, Nat.le_trans hmo.2 k.1.2⟩, fun b1 b2 H locs ls e1 e2 e3 e4 => ?_⟩
  have hrun := va_runV (g := F0 m pc ls ((As.reverse ++ Value.ref b :: rest).map (cv n0 ad))) (locs := locs) (cells := hsz h - hsz h0) (slots := hsl h - hsl h0) (H := H) (below := below) (meth := meth) (e := e) (C := (my z).cls) (b := cvA n0 ad b) (As := As.map (cv n0 ad)) (rest := rest.map (cv n0 ad)) ⟨X.hx, X.hb, X.hml, X.hown, X.hts⟩ (hMet (Nat.le_trans k.1.1 hbig)) ⟨pw_callB X hm hw, X.hts _ hi, X.hts _ hs⟩ ⟨pcX_blind X.hZO _ _, pw_recv X hm ho hlt (Nat.le_trans (Nat.le_trans hmo.1 k.1.1) hbig) e2, pw_pre X (As := Value.ref b :: As) e1 e2 e3⟩ rfl (by rw [List.length_map]; exact hn) e4.1 (by rw [arg_rev]; rfl) (by rw [cats_cv]; show 2 * 0 + _ ≤ 8; omega) hd (pw_room X hmo k.1 b1 b2)
  exact pm_back X hrun hmo b1 b2 e1 e3 e4 hs1 k
theorem pw_callVN (X : Cx p l e R s m args below meth c y d n0 ad dC dI dA ZS h0 h1) {C : PCal} (hC : CalOK l d n0 ad dC dI dA ZS C) : ru_callVN C y (PW p l e R s m args below meth c y n0 ad dC dI dA h0 h1 Q) := by
  intro pc lv h st host ix n b z As rest r st1 h2 hd hm hw hi hs hn hz hlt ho hst hc hs1 k
  obtain ⟨hmo, hMet⟩ := hC _ _ _ _ _ _ hc hm
  have hbig := X.hbig
  subst hst
  refine ⟨⟨Nat.le_trans hmo.1 k.1.1, Nat.le_trans hmo.2 k.1.2⟩, fun b1 b2 H locs ls e1 e2 e3 e4 => ?_⟩
  have hrun := va_runVN (g := F0 m pc ls ((As.reverse ++ Value.ref b :: rest).map (cv n0 ad))) (locs := locs) (cells := hsz h - hsz h0) (slots := hsl h - hsl h0) (H := H) (below := below) (meth := meth) (e := e) (C := (my z).cls) (b := cvA n0 ad b) (As := As.map (cv n0 ad)) (rest := rest.map (cv n0 ad)) ⟨X.hx, X.hb, X.hml, X.hown, X.hts⟩ (hMet (Nat.le_trans k.1.1 hbig)) ⟨pw_callN X hm hw, X.hts _ hi, X.hts _ hs⟩ ⟨pcX_blind X.hZO _ _, pw_recv X hm ho hlt (Nat.le_trans (Nat.le_trans hmo.1 k.1.1) hbig) e2, pw_pre X (As := Value.ref b :: As) e1 e2 e3⟩ rfl (by rw [List.length_map]; exact hn) e4.1 (by rw [arg_rev]; rfl) (by rw [cats_cv]; show 2 * 0 + _ ≤ 8; omega) hd (pw_room X hmo k.1 b1 b2)
  exact pm_back X hrun hmo b1 b2 e1 e3 e4 hs1 k
theorem pw_callVS (X : Cx p l e R s m args below meth c y d n0 ad dC dI dA ZS h0 h1) (hZS : ∀ U H, ZS U H → ZSt n0 ad U H) {C : PCal} (hC : CalOK l d n0 ad dC dI dA ZS C) : ru_callVS C y (PW p l e R s m args below meth c y n0 ad dC dI dA h0 h1 Q) := by
  intro pc lv h st ix n i z As rest r st1 h2 hd hm hw hi hs hn hz hi11 hcl hst hc hs1 k
  obtain ⟨hmo, hMet⟩ := hC _ _ _ _ _ _ hc hm
  have hbig := X.hbig
  subst hst
  refine ⟨⟨Nat.le_trans hmo.1 k.1.1, Nat.le_trans hmo.2 k.1.2⟩, fun b1 b2 H locs ls e1 e2 e3 e4 => ?_⟩
  have hrun := va_runV (g := F0 m pc ls ((As.reverse ++ Value.ref (4294967296 + i) :: rest).map (cv n0 ad))) (locs := locs) (cells := hsz h - hsz h0) (slots := hsl h - hsl h0) (H := H) (below := below) (meth := meth) (e := e) (C := (my z).cls) (b := cvA n0 ad (4294967296 + i)) (As := As.map (cv n0 ad)) (rest := rest.map (cv n0 ad)) ⟨X.hx, X.hb, X.hml, X.hown, X.hts⟩ (hMet (Nat.le_trans k.1.1 hbig)) ⟨pw_callB X hm hw, X.hts _ hi, X.hts _ hs⟩ ⟨pcX_blind X.hZO _ _, (by rw [cvA_big, hcl]; exact vk_recv (hZS _ _ X.hZ).2.1 hi11 e3), pw_pre X (As := Value.ref (4294967296 + i) :: As) e1 e2 e3⟩ rfl (by rw [List.length_map]; exact hn) e4.1 (by rw [arg_rev]; rfl) (by rw [cats_cv]; show 2 * 0 + _ ≤ 8; omega) hd (pw_room X hmo k.1 b1 b2)
  exact pm_back X hrun hmo b1 b2 e1 e3 e4 hs1 k
theorem pw_callS (X : Cx p l e R s m args below meth c y d n0 ad dC dI dA ZS h0 h1) {C : PCal} (hC : CalOK l d n0 ad dC dI dA ZS C) : ru_callS C y (PW p l e R s m args below meth c y n0 ad dC dI dA h0 h1 Q) := by
  intro pc lv h st ix n z As rest r st1 h2 hd hm hw hi hn hz hst hc hs1 k
  obtain ⟨hmo, hMet⟩ := hC _ _ _ _ _ _ hc hm
  have hbig := X.hbig
  subst hst
  refine ⟨⟨Nat.le_trans hmo.1 k.1.1, Nat.le_trans hmo.2 k.1.2⟩, fun b1 b2 H locs ls e1 e2 e3 e4 => ?_⟩
  have hrun := va_runS (g := F0 m pc ls ((As.reverse ++ rest).map (cv n0 ad))) (locs := locs) (cells := hsz h - hsz h0) (slots := hsl h - hsl h0) (H := H) (below := below) (meth := meth) (e := e) (As := As.map (cv n0 ad)) (rest := rest.map (cv n0 ad)) ⟨X.hx, X.hb, X.hml, X.hown, X.hts⟩ (hMet (Nat.le_trans k.1.1 hbig)) ⟨pw_callB X hm hw, X.hts _ hi⟩ ⟨pcX_blind X.hZO _ _, pw_pre X (As := As) e1 e2 e3⟩ rfl (by rw [List.length_map]; exact hn) e4.1 (by rw [arg_rev]) (by rw [cats_cv]; show 2 * 0 + _ ≤ 8; omega) hd (pw_room X hmo k.1 b1 b2)
  exact pm_back X hrun hmo b1 b2 e1 e3 e4 hs1 k
theorem pw_callSN (X : Cx p l e R s m args below meth c y d n0 ad dC dI dA ZS h0 h1) {C : PCal} (hC : CalOK l d n0 ad dC dI dA ZS C) : ru_callSN C y (PW p l e R s m args below meth c y n0 ad dC dI dA h0 h1 Q) := by
  intro pc lv h st host ix n z As rest r st1 h2 hd hm hw hi hn hz hst hc hs1 k
  obtain ⟨hmo, hMet⟩ := hC _ _ _ _ _ _ hc hm
  have hbig := X.hbig
  subst hst
  refine ⟨⟨Nat.le_trans hmo.1 k.1.1, Nat.le_trans hmo.2 k.1.2⟩, fun b1 b2 H locs ls e1 e2 e3 e4 => ?_⟩
  have hrun := va_runSN (g := F0 m pc ls ((As.reverse ++ rest).map (cv n0 ad))) (locs := locs) (cells := hsz h - hsz h0) (slots := hsl h - hsl h0) (H := H) (below := below) (meth := meth) (e := e) (As := As.map (cv n0 ad)) (rest := rest.map (cv n0 ad)) ⟨X.hx, X.hb, X.hml, X.hown, X.hts⟩ (hMet (Nat.le_trans k.1.1 hbig)) ⟨pw_callN X hm hw, X.hts _ hi, trivial⟩ ⟨pcX_blind X.hZO _ _, pw_pre X (As := As) e1 e2 e3⟩ rfl (by rw [List.length_map]; exact hn) e4.1 (by rw [arg_rev]) (by rw [cats_cv]; show 2 * 0 + _ ≤ 8; omega) hd (pw_room X hmo k.1 b1 b2)
  exact pm_back X hrun hmo b1 b2 e1 e3 e4 hs1 k
theorem pw_callI (X : Cx p l e R s m args below meth c y d n0 ad dC dI dA ZS h0 h1) {C : PCal} (hC : CalOK l d n0 ad dC dI dA ZS C) : ru_callI C y (PW p l e R s m args below meth c y n0 ad dC dI dA h0 h1 Q) := by
  intro pc lv h st ix n b z As rest h2 hd hm hr hin hw hi hn hz hst hc k
  obtain ⟨hmo, hMet⟩ := hC _ _ _ _ _ _ hc hm
  have hbig := X.hbig
  subst hst
  refine ⟨⟨Nat.le_trans hmo.1 k.1.1, Nat.le_trans hmo.2 k.1.2⟩, fun b1 b2 H locs ls e1 e2 e3 e4 => ?_⟩
  have hM := hMet (Nat.le_trans k.1.1 hbig)
  have hB := pw_callB X (mc := hsz h2 - hsz h) (ms := hsl h2 - hsl h) hm hw
  rw [hr] at hM hB
  have hrun := va_runI (g := F0 m pc ls ((As.reverse ++ Value.ref b :: rest).map (cv n0 ad))) (locs := locs) (cells := hsz h - hsz h0) (slots := hsl h - hsl h0) (H := H) (below := below) (meth := meth) (e := e) (b := cvA n0 ad b) (As := As.map (cv n0 ad)) (rest := rest.map (cv n0 ad)) ⟨X.hx, X.hb, X.hml, X.hown, X.hts⟩ hM ⟨hB, hin, X.hts _ hi⟩ ⟨pcX_blind X.hZO _ _, pw_pre X (As := Value.ref b :: As) e1 e2 e3⟩ rfl (by rw [List.length_map]; exact hn) e4.1 (by rw [arg_rev]; rfl) (by rw [cats_cv]; show 2 * 0 + _ ≤ 8; omega) hd (pw_room X hmo k.1 b1 b2)
  exact pm_back X hrun hmo b1 b2 e1 e3 e4 rfl k
theorem pw_callIN (X : Cx p l e R s m args below meth c y d n0 ad dC dI dA ZS h0 h1) {C : PCal} (hC : CalOK l d n0 ad dC dI dA ZS C) : ru_callIN C y (PW p l e R s m args below meth c y n0 ad dC dI dA h0 h1 Q) := by
  intro pc lv h st host ix n b z As rest h2 hd hm hr hin hw hi hn hz hst hc k
  obtain ⟨hmo, hMet⟩ := hC _ _ _ _ _ _ hc hm
  have hbig := X.hbig
  subst hst
  refine ⟨⟨Nat.le_trans hmo.1 k.1.1, Nat.le_trans hmo.2 k.1.2⟩, fun b1 b2 H locs ls e1 e2 e3 e4 => ?_⟩
  have hM := hMet (Nat.le_trans k.1.1 hbig)
  have hB := pw_callN X (mc := hsz h2 - hsz h) (ms := hsl h2 - hsl h) hm hw
  rw [hr] at hM hB
  have hrun := va_runIN (g := F0 m pc ls ((As.reverse ++ Value.ref b :: rest).map (cv n0 ad))) (locs := locs) (cells := hsz h - hsz h0) (slots := hsl h - hsl h0) (H := H) (below := below) (meth := meth) (e := e) (b := cvA n0 ad b) (As := As.map (cv n0 ad)) (rest := rest.map (cv n0 ad)) ⟨X.hx, X.hb, X.hml, X.hown, X.hts⟩ hM ⟨hB, hin, X.hts _ hi⟩ ⟨pcX_blind X.hZO _ _, pw_pre X (As := Value.ref b :: As) e1 e2 e3⟩ rfl (by rw [List.length_map]; exact hn) e4.1 (by rw [arg_rev]; rfl) (by rw [cats_cv]; show 2 * 0 + _ ≤ 8; omega) hd (pw_room X hmo k.1 b1 b2)
  exact pm_back X hrun hmo b1 b2 e1 e3 e4 rfl k

theorem pw_CloB (X : Cx p l e R s m args below meth c y d n0 ad dC dI dA ZS h0 h1) (hZS : ∀ U H, ZS U H → ZSt n0 ad U H) {C : PCal} (hC : CalOK l d n0 ad dC dI dA ZS C) : CloB C y (PW p l e R s m args below meth c y n0 ad dC dI dA h0 h1 Q) :=
  ⟨pw_iload X, pw_lload X, pw_dload X, pw_iload_n X, pw_lload_n X, pw_dload_n X, pw_aload X, pw_aload_n X, pw_istore X, pw_lstore X, pw_dstore X, pw_istore_n X, pw_lstore_n X, pw_dstore_n X, pw_astore X, pw_astore_n X, pw_iinc X, pw_iconst X, pw_bipush X, pw_sipush X, pw_lconst X, pw_anull X, pw_fconst1 X, pw_ldc X, pw_ldcw X, pw_ldc2 X, pw_iadd X, pw_isub X, pw_imul X, pw_iand X, pw_ior X, pw_ixor X, pw_ishl X, pw_ishr X, pw_ladd X, pw_lsub X, pw_lmul X, pw_land X, pw_lor X, pw_iushr X, pw_idiv X, pw_irem X, pw_lshl X, pw_lshr X, pw_lcmp X, pw_i2l X, pw_l2i X, pw_i2f X, pw_i2b X, pw_i2c X, pw_f2d X, pw_fdiv X, pw_dcmp X, pw_dup X, pw_dup2_11 X, pw_dup2_2 X, pw_pop X, pw_goto X, pw_if_eq X, pw_if_ne X, pw_if_lt X, pw_if_ge X, pw_if_gt X, pw_if_le X, pw_icmp_eq X, pw_icmp_ne X, pw_icmp_lt X, pw_icmp_ge X, pw_icmp_gt X, pw_icmp_le X, pw_ifnull X, pw_ifnonnull X, pw_acmp_eq X, pw_tabIn X, pw_tabOut X, pw_lookup X, pw_getI X, pw_getJ X, pw_getR X, pw_putI X, pw_putJ X, pw_putR X, pw_iald X, pw_bald X, pw_zald X, pw_lald X, pw_aald X, pw_iast X, pw_bast X, pw_zast X, pw_last X, pw_aast X, pw_alen X, pw_newI X, pw_newB X, pw_newZ X, pw_newL X, pw_newQ X, pw_newO X, pw_objI X, pw_ldcwF X, pw_ldcS X hZS, pw_sVal X hZS, pw_sCod X hZS, pw_sAl X hZS, pw_sAb X hZS, pw_sCS X hZS, pw_sFM X hZS, pw_weak X, pw_callV X hC, pw_callVN X hC, pw_callS X hC, pw_callSN X hC, pw_callI X hC, pw_callIN X hC, pw_callVS X hZS hC⟩
theorem pw_CloR (X : Cx p l e R s m args below meth c y d n0 ad dC dI dA ZS h0 h1) (hr : meth.sig.returnType = mr y) (hlocks : meth.locks = false) {r : Option Value} {mc ms : Nat} (hmc : hsz h1 - hsz h0 = mc) (hms : hsl h1 - hsl h0 = ms) : CloR y (r, h1) (PW p l e R s m args below meth c y n0 ad dC dI dA h0 h1 (MQ below (qcX n0 ad dC dI dA r h1) args s mc ms (fun q => n0 ≤ q))) := by
  subst hmc
  subst hms
  refine ⟨?_, ?_, ?_, ?_, ?_⟩
  · intro pc lv h x ty hd hr2 hn ho
    cases ho
    exact ⟨⟨Nat.le_refl _, Nat.le_refl _⟩, fun b1 b2 H locs ls e1 e2 e3 e4 => W.zret (v := x) X.hx X.hb (hr.trans hr2) hn (fun t ht hW => ⟨rfl, by rw [ht]; exact e1, by rw [ht]; exact e2, e3.F ht⟩) e3.2.2 hd hlocks⟩
  · intro pc lv h x hd hr2 ho
    cases ho
    exact ⟨⟨Nat.le_refl _, Nat.le_refl _⟩, fun b1 b2 H locs ls e1 e2 e3 e4 => W.lret (v := x) X.hx X.hb (hr.trans hr2) (fun t ht hW => ⟨rfl, by rw [ht]; exact e1, by rw [ht]; exact e2, e3.F ht⟩) e3.2.2 hd hlocks⟩
  · intro pc lv h x hd hr2 ho
    cases ho
    exact ⟨⟨Nat.le_refl _, Nat.le_refl _⟩, fun b1 b2 H locs ls e1 e2 e3 e4 => W.fret (v := x) X.hx X.hb (hr.trans hr2) (fun t ht hW => ⟨rfl, by rw [ht]; exact e1, by rw [ht]; exact e2, e3.F ht⟩) e3.2.2 hd hlocks⟩
  · intro pc lv h x C hd hr2 ho
    cases ho
    refine ⟨⟨Nat.le_refl _, Nat.le_refl _⟩, fun b1 b2 H locs ls e1 e2 e3 e4 => ?_⟩
    show W p l e R s m args below meth c H locs _ _ _ (F0 m pc ls [cv n0 ad (va_rf x)])
    exact W.aret (v := cv n0 ad (va_rf x)) X.hx X.hb (hr.trans hr2) (Or.inl ⟨C, rfl⟩) (by rw [cv_rf]; exact va_rf_or _) (fun t ht hW => ⟨rfl, by rw [ht]; exact e1, by rw [ht]; exact e2, e3.F ht⟩) e3.2.2 hd hlocks
  · intro pc lv h hd hr2 ho
    cases ho
    exact ⟨⟨Nat.le_refl _, Nat.le_refl _⟩, fun b1 b2 H locs ls e1 e2 e3 e4 => W.vret X.hx X.hb (hr.trans hr2) (fun t ht hW => ⟨rfl, by rw [ht]; exact e1, by rw [ht]; exact e2, e3.F ht⟩) e3.2.2 hd hlocks⟩
end
/-- what a run leaves: no fewer cells -/
def PMono (h1 : HP) : PP := fun _ _ _ h => hsz h ≤ hsz h1 ∧ hsl h ≤ hsl h1
theorem mono_Clo {C : PCal} {y : PMe} {r : Option Value} {h1 : HP} (hC : ∀ (z : PMe) (n : Nat) (As : List Value) (h : HP) (r : Option Value) (h2 : HP), C z As h r h2 → okM z n → hsz h ≤ hsz h2 ∧ hsl h ≤ hsl h2) : Clo C y (r, h1) (PMono h1) := by
  refine ⟨⟨?_, ?_, ?_, ?_, ?_, ?_, ?_, ?_, ?_, ?_, ?_, ?_, ?_, ?_, ?_, ?_, ?_, ?_, ?_, ?_, ?_, ?_, ?_, ?_, ?_, ?_, ?_, ?_, ?_, ?_, ?_, ?_, ?_, ?_, ?_, ?_, ?_, ?_, ?_, ?_, ?_, ?_, ?_, ?_, ?_, ?_, ?_, ?_, ?_, ?_, ?_, ?_, ?_, ?_, ?_, ?_, ?_, ?_, ?_, ?_, ?_, ?_, ?_, ?_, ?_, ?_, ?_, ?_, ?_, ?_, ?_, ?_, ?_, ?_, ?_, ?_, ?_, ?_, ?_, ?_, ?_, ?_, ?_, ?_, ?_, ?_, ?_, ?_, ?_, ?_, ?_, ?_, ?_, ?_, ?_, ?_, ?_, ?_, ?_, ?_, ?_, ?_, ?_, ?_, ?_, ?_, ?_, ?_, ?_, ?_, ?_, ?_, ?_, ?_, ?_, ?_⟩, ⟨?_, ?_, ?_, ?_, ?_⟩⟩
  · intro pc lv st h; intro _ _ _ _ _ k; exact k
  · intro pc lv st h; intro _ _ _ _ _ k; exact k
  · intro pc lv st h; intro _ _ _ _ _ k; exact k
  · intro pc lv st h; intro _ _ _ _ _ _ _ k; exact k
  · intro pc lv st h; intro _ _ _ _ _ _ _ k; exact k
  · intro pc lv st h; intro _ _ _ _ _ _ _ k; exact k
  · intro pc lv st h; intro _ _ _ _ _ _ k; exact k
  · intro pc lv st h; intro _ _ _ _ _ _ _ _ k; exact k
  · intro pc lv st h; intro _ _ _ _ _ _ k; exact k
  · intro pc lv st h; intro _ _ _ _ _ _ k; exact k
  · intro pc lv st h; intro _ _ _ _ _ _ k; exact k
  · intro pc lv st h; intro _ _ _ _ _ _ _ _ k; exact k
  · intro pc lv st h; intro _ _ _ _ _ _ _ _ k; exact k
  · intro pc lv st h; intro _ _ _ _ _ _ _ _ k; exact k
  · intro pc lv st h; intro _ _ _ _ _ _ _ k; exact k
  · intro pc lv st h; intro _ _ _ _ _ _ _ _ _ k; exact k
  · intro pc lv st h; intro _ _ _ _ _ _ _ _ _ _ _ k; exact k
  · intro pc lv st h; intro _ _ _ _ k; exact k
  · intro pc lv st h; intro _ _ _ _ k; exact k
  · intro pc lv st h; intro _ _ _ _ k; exact k
  · intro pc lv st h; intro _ _ _ _ k; exact k
  · intro pc lv st h; intro _ k; exact k
  · intro pc lv st h; intro _ k; exact k
  · intro pc lv st h; intro _ _ _ _ k; exact k
  · intro pc lv st h; intro _ _ _ _ k; exact k
  · intro pc lv st h; intro _ _ _ _ k; exact k
  · intro pc lv st h; intro _ _ _ k; exact k
  · intro pc lv st h; intro _ _ _ k; exact k
  · intro pc lv st h; intro _ _ _ k; exact k
  · intro pc lv st h; intro _ _ _ k; exact k
  · intro pc lv st h; intro _ _ _ k; exact k
  · intro pc lv st h; intro _ _ _ k; exact k
  · intro pc lv st h; intro _ _ _ k; exact k
  · intro pc lv st h; intro _ _ _ k; exact k
  · intro pc lv st h; intro _ _ _ k; exact k
  · intro pc lv st h; intro _ _ _ k; exact k
  · intro pc lv st h; intro _ _ _ k; exact k
  · intro pc lv st h; intro _ _ _ k; exact k
  · intro pc lv st h; intro _ _ _ k; exact k
  · intro pc lv st h; intro _ _ _ k; exact k
  · intro pc lv st h; intro _ _ _ _ k; exact k
  · intro pc lv st h; intro _ _ _ _ k; exact k
  · intro pc lv st h; intro _ _ _ k; exact k
  · intro pc lv st h; intro _ _ _ k; exact k
  · intro pc lv st h; intro _ _ _ k; exact k
  · intro pc lv st h; intro _ _ k; exact k
  · intro pc lv st h; intro _ _ k; exact k
  · intro pc lv st h; intro _ _ k; exact k
  · intro pc lv st h; intro _ _ k; exact k
  · intro pc lv st h; intro _ _ k; exact k
  · intro pc lv st h; intro _ _ _ k; exact k
  · intro pc lv st h; intro _ _ _ _ k; exact k
  · intro pc lv st h; intro _ _ _ _ k; exact k
  · intro pc lv st h; intro _ _ _ k; exact k
  · intro pc lv st h; intro _ _ _ _ _ k; exact k
  · intro pc lv st h; intro _ _ _ k; exact k
  · intro pc lv st h; intro _ _ _ k; exact k
  · intro pc lv st h; intro _ _ _ _ k; exact k
  · intro pc lv st h x off tgt hd ht kt kf; exact (Decidable.em (x = 0)).elim kt (fun q => kf (by first | exact q | exact Decidable.not_not.mp q | (intro z; exact q z)))
  · intro pc lv st h x off tgt hd ht kt kf; exact (Decidable.em (¬ x = 0)).elim kt (fun q => kf (by first | exact q | exact Decidable.not_not.mp q | (intro z; exact q z)))
  · intro pc lv st h x off tgt hd ht kt kf; exact (Decidable.em (x < 0)).elim kt (fun q => kf (by first | exact q | exact Decidable.not_not.mp q | (intro z; exact q z)))
  · intro pc lv st h x off tgt hd ht kt kf; exact (Decidable.em (0 ≤ x)).elim kt (fun q => kf (by first | exact q | exact Decidable.not_not.mp q | (intro z; exact q z)))
  · intro pc lv st h x off tgt hd ht kt kf; exact (Decidable.em (0 < x)).elim kt (fun q => kf (by first | exact q | exact Decidable.not_not.mp q | (intro z; exact q z)))
  · intro pc lv st h x off tgt hd ht kt kf; exact (Decidable.em (x ≤ 0)).elim kt (fun q => kf (by first | exact q | exact Decidable.not_not.mp q | (intro z; exact q z)))
  · intro pc lv st h x z off tgt hd ht kt kf; exact (Decidable.em (x = z)).elim kt (fun q => kf (by first | exact q | exact Decidable.not_not.mp q | (intro z; exact q z)))
  · intro pc lv st h x z off tgt hd ht kt kf; exact (Decidable.em (¬ x = z)).elim kt (fun q => kf (by first | exact q | exact Decidable.not_not.mp q | (intro z; exact q z)))
  · intro pc lv st h x z off tgt hd ht kt kf; exact (Decidable.em (x < z)).elim kt (fun q => kf (by first | exact q | exact Decidable.not_not.mp q | (intro z; exact q z)))
  · intro pc lv st h x z off tgt hd ht kt kf; exact (Decidable.em (z ≤ x)).elim kt (fun q => kf (by first | exact q | exact Decidable.not_not.mp q | (intro z; exact q z)))
  · intro pc lv st h x z off tgt hd ht kt kf; exact (Decidable.em (z < x)).elim kt (fun q => kf (by first | exact q | exact Decidable.not_not.mp q | (intro z; exact q z)))
  · intro pc lv st h x z off tgt hd ht kt kf; exact (Decidable.em (x ≤ z)).elim kt (fun q => kf (by first | exact q | exact Decidable.not_not.mp q | (intro z; exact q z)))
  · intro pc lv st h r off tgt hd ht kt kf; cases r; exact kt rfl; exact kf _ rfl
  · intro pc lv st h r off tgt hd ht kt kf; cases r; exact kf rfl; exact kt _ rfl
  · intro pc lv st h r1 r2 off tgt hd ht g1 g2 kt kf; exact (Decidable.em (r1 = r2)).elim kt kf
  · intro pc lv st h; intro _ _ _ _ _ _ _ _ _ _ _ _ _ k; exact k
  · intro pc lv st h; intro _ _ _ _ _ _ _ _ _ _ k; exact k
  · intro pc lv st h; intro _ _ _ _ _ _ _ _ _ _ k; exact k
  · intro pc lv st h; intro _ _ _ _ _ _ _ _ _ _ k; exact k
  · intro pc lv st h; intro _ _ _ _ _ _ _ _ _ _ k; exact k
  · intro pc lv st h; intro _ _ _ _ _ _ _ _ _ _ k; exact k
  · intro pc lv st h; intro _ _ _ _ _ _ _ _ _ _ _ _ k; exact k
  · intro pc lv st h; intro _ _ _ _ _ _ _ _ _ _ _ _ k; exact k
  · intro pc lv st h; intro _ _ _ _ _ _ _ _ _ _ _ _ k; exact k
  · intro pc lv st h; intro _ _ _ _ _ k; exact k
  · intro pc lv st h; intro _ _ _ _ _ k; exact k
  · intro pc lv st h; intro _ _ _ _ _ k; exact k
  · intro pc lv st h; intro _ _ _ _ _ k; exact k
  · intro pc lv st h; intro _ _ _ _ _ _ _ k; exact k
  · intro pc lv st h; intro _ _ _ _ _ _ k; exact k
  · intro pc lv st h; intro _ _ _ _ _ _ k; exact k
  · intro pc lv st h; intro _ _ _ _ _ _ k; exact k
  · intro pc lv st h; intro _ _ _ _ _ _ k; exact k
  · intro pc lv st h; intro _ _ _ _ _ _ _ _ _ k; exact k
  · intro pc lv st h; intro _ _ _ _ _ k; exact k
  · intro pc lv st h; intro _ _ _ _ _ _ _ k; exact ⟨Nat.le_trans (Nat.le_add_right _ _) k.1, Nat.le_trans (Nat.le_add_right _ _) k.2⟩
  · intro pc lv st h; intro _ _ _ _ _ _ _ k; exact ⟨Nat.le_trans (Nat.le_add_right _ _) k.1, Nat.le_trans (Nat.le_add_right _ _) k.2⟩
  · intro pc lv st h; intro _ _ _ _ _ _ _ k; exact ⟨Nat.le_trans (Nat.le_add_right _ _) k.1, Nat.le_trans (Nat.le_add_right _ _) k.2⟩
  · intro pc lv st h; intro _ _ _ _ _ _ _ k; exact ⟨Nat.le_trans (Nat.le_add_right _ _) k.1, Nat.le_trans (Nat.le_add_right _ _) k.2⟩
  · intro pc lv st h; intro _ _ _ _ _ _ _ _ _ _ _ k; exact ⟨Nat.le_trans (Nat.le_add_right _ _) k.1, Nat.le_trans (Nat.le_add_right _ _) k.2⟩
  · intro pc lv st h; intro _ _ _ _ _ _ _ k; exact ⟨Nat.le_trans (Nat.le_add_right _ _) k.1, Nat.le_trans (Nat.le_add_right _ _) k.2⟩
  · intro pc lv st h; intro _ _ _ _ _ k; exact k
  · intro pc lv st h; intro _ _ _ _ k; exact k
  · intro pc lv st h; intro _ _ _ _ k; exact k
  · intro pc lv st h; intro _ _ _ _ _ k; exact k
  · intro pc lv st h; intro _ _ _ _ _ k; exact k
  · intro pc lv st h; intro _ _ _ k; exact k
  · intro pc lv st h; intro _ _ _ _ _ k; exact k
  · intro pc lv st h; intro _ _ _ k; exact k
  · intro pc lv st h ix hd hw k; exact k none
  · intro pc lv st h; intro _ _ _ k; exact k
  · intro pc lv h st ix n b z As rest r st1 h2 hd hm hw hi hs hn hz hlt ho hst hc hs1 k; have q := hC _ _ _ _ _ _ hc hm; exact ⟨Nat.le_trans q.1 k.1, Nat.le_trans q.2 k.2⟩
  · intro pc lv h st host ix n b z As rest r st1 h2 hd hm hw hi hs hn hz hlt ho hst hc hs1 k; have q := hC _ _ _ _ _ _ hc hm; exact ⟨Nat.le_trans q.1 k.1, Nat.le_trans q.2 k.2⟩
  · intro pc lv h st ix n z As rest r st1 h2 hd hm hw hi hn hz hst hc hs1 k; have q := hC _ _ _ _ _ _ hc hm; exact ⟨Nat.le_trans q.1 k.1, Nat.le_trans q.2 k.2⟩
  · intro pc lv h st host ix n z As rest r st1 h2 hd hm hw hi hn hz hst hc hs1 k; have q := hC _ _ _ _ _ _ hc hm; exact ⟨Nat.le_trans q.1 k.1, Nat.le_trans q.2 k.2⟩
  · intro pc lv h st ix n b z As rest h2 hd hm hr hin hw hi hn hz hst hc k; have q := hC _ _ _ _ _ _ hc hm; exact ⟨Nat.le_trans q.1 k.1, Nat.le_trans q.2 k.2⟩
  · intro pc lv h st host ix n b z As rest h2 hd hm hr hin hw hi hn hz hst hc k; have q := hC _ _ _ _ _ _ hc hm; exact ⟨Nat.le_trans q.1 k.1, Nat.le_trans q.2 k.2⟩
  · intro pc lv h st ix n i z As rest r st1 h2 hd hm hw hi hs hn hz hi11 hcl hst hc hs1 k; have q := hC _ _ _ _ _ _ hc hm; exact ⟨Nat.le_trans q.1 k.1, Nat.le_trans q.2 k.2⟩
  · intro pc lv h x ty hd hr2 hn ho; cases ho; exact ⟨Nat.le_refl _, Nat.le_refl _⟩
  · intro pc lv h x hd hr2 ho; cases ho; exact ⟨Nat.le_refl _, Nat.le_refl _⟩
  · intro pc lv h x hd hr2 ho; cases ho; exact ⟨Nat.le_refl _, Nat.le_refl _⟩
  · intro pc lv h x C hd hr2 ho; cases ho; exact ⟨Nat.le_refl _, Nat.le_refl _⟩
  · intro pc lv h hd hr2 ho; cases ho; exact ⟨Nat.le_refl _, Nat.le_refl _⟩
theorem lg_cv (n0 : Nat) (ad : Nat → Nat) : ∀ args : List Value, (lg_sl (args.map (cv n0 ad))).length = (lg_sl args).length
  | [] => rfl
  | v :: vs => by
    have ih := lg_cv n0 ad vs
    unfold lg_sl at ih ⊢
    rw [List.map_cons, List.flatMap_cons, List.flatMap_cons, List.length_append, List.length_append, ih, cv_cat]
    split <;> rfl
theorem ex_ok (l : Launch) {n0 : Nat} (ad : Nat → Nat) (dC : Nat → ClassId) (dI : Nat → Nat → Nat) (dA : Nat → ClassId) {ZS : State → Heap → Prop} (hZ : ZOK n0 ZS) (hZS : ∀ U H, ZS U H → ZSt n0 ad U H) : ∀ d : Nat, CalOK l d n0 ad dC dI dA ZS (Ex d)
  | 0 => fun _ _ _ _ _ _ h _ => h.elim
  | d + 1 => by
    have ih := ex_ok l ad dC dI dA hZ hZS d
    intro z n As h r h2 hE hm
    obtain ⟨hlen, hev⟩ := hE
    have hmono : hsz h ≤ hsz h2 ∧ hsl h ≤ hsl h2 := hev (PMono h2) (mono_Clo fun z' n' As' a' r' b' q hq => (ih z' n' As' a' r' b' q hq).1)
    refine ⟨hmono, fun hbig => ?_⟩
    refine Met.ofWF (cc := mb z) (maxL := mL z) (ret := mr z) hm.2.2.2.1 rfl ?_
    intro p e s m args below meth c s₁ B hml hv
    obtain ⟨rfl, q1, q2, q3, q4, q5⟩ := hv
    have hts0 := atoms_spec (ws := Cond.code (my z) (mb z) (mL z) (mr z) :: PT) B.pre
    have X : Cx p l e (headSpec (Cond.code (my z) (mb z) (mL z) (mr z) :: PT) (rmD (d + 1) (hsz h2 - hsz h) (hsl h2 - hsl h))).room s m (As.map (cv n0 ad)).toArray below meth c z d n0 ad dC dI dA ZS h h2 :=
      ⟨B.exec, B.bytes, hml, (by rw [← hm.1]; exact findClass_of_methodNamed B.named), (fun w hw => hts0 w (List.mem_cons_of_mem _ hw)), q3, hbig, (name_of_methodNamed B.named B.method).1, ⟨Nat.le_refl _, Nat.le_refl _, Nat.le_refl _, Nat.le_refl _⟩, q4, q5, hZ, q1⟩
    have K := hev (PW p l e _ s m _ below meth c z n0 ad dC dI dA h h2 (MQ below (qcX n0 ad dC dI dA r h2) (As.map (cv n0 ad)).toArray s (hsz h2 - hsz h) (hsl h2 - hsl h) (fun q => n0 ≤ q))) ⟨pw_CloB X hZS ih, pw_CloR X B.returns B.notSynchronized rfl rfl⟩
    have hl := lv_entry (As.map (cv n0 ad)) (n := mL z) (by rw [lg_cv]; exact hlen)
    rw [lv_args_cv] at hl
    have K2 := K.2 (Nat.le_refl _) (Nat.le_refl _) s.heap [] _ q1 q2 va_S.rf hl
    rw [Nat.sub_self, Nat.sub_self] at K2
    rw [lg_entry_eq]
    exact K2

