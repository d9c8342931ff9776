/-! THE LAW -/
section
def mLw (nm : String) : PMe := (12, ⟨RL, nm, "([I)Z"⟩, cL_law, 8, some .boolean)
/-- the script's address in the pure machine -/
def SCR : Nat := 4294967296 + 64
def lvs (i : Nat) : List (Nat × Value) := [(3, .int (Int32.ofNat i)), (2, .ref 983), (1, .ref 0), (0, .ref SCR)]
def LWld (xs : Nat → Int32) (L : Nat) (P : PP) : Prop := ∀ {pc : Nat} {lv : List (Nat × Value)} {st : List Value} {h : HP} (i : Nat), decode cL_law pc = .ok (.iaload, 1) → i < L → P (pc + 1) lv (.int (xs i) :: st) h → P pc lv (.int (Int32.ofNat i) :: .ref SCR :: st) h
def LWlen (L : Nat) (P : PP) : Prop := ∀ {pc : Nat} {lv : List (Nat × Value)} {st : List Value} {h : HP}, decode cL_law pc = .ok (.arraylength, 1) → P (pc + 1) lv (.int (Int32.ofNat L) :: st) h → P pc lv (.ref SCR :: st) h
def LWfin (P : PP) : Prop := ∀ {pc : Nat} {lv : List (Nat × Value)} {h : HP}, decode cL_law pc = .ok (.ireturn, 1) → hsz h ≤ 600000 → hsl h ≤ 7302250 → P pc lv [.int 1] h
def LW (nm : String) (xs : Nat → Int32) (L : Nat) (P : PP) : Prop := CloB (Ex 72) (mLw nm) P ∧ LWld xs L P ∧ LWlen L P ∧ LWfin P
theorem LW.B {nm : String} {xs : Nat → Int32} {L : Nat} {P : PP} (X : LW nm xs L P) : CloB (Ex 72) (mLw nm) P := X.1
theorem LW.ld {nm : String} {xs : Nat → Int32} {L : Nat} {P : PP} (X : LW nm xs L P) : LWld xs L P := X.2.1
theorem LW.len {nm : String} {xs : Nat → Int32} {L : Nat} {P : PP} (X : LW nm xs L P) : LWlen L P := X.2.2.1
theorem LW.fin {nm : String} {xs : Nat → Int32} {L : Nat} {P : PP} (X : LW nm xs L P) : LWfin P := X.2.2.2
variable {nm : String} {xs : Nat → Int32} {L : Nat} {P : PP} {lv : List (Nat × Value)} {st : List Value} {h : HP}
theorem LW.iload_n (X : LW nm xs L P) : ru_iload_n (mLw nm) P := X.B.2.2.2.1
theorem LW.aload_n (X : LW nm xs L P) : ru_aload_n (mLw nm) P := X.B.2.2.2.2.2.2.2.1
theorem LW.astore_n (X : LW nm xs L P) : ru_astore_n (mLw nm) P := X.B.2.2.2.2.2.2.2.2.2.2.2.2.2.2.2.1
theorem LW.istore_n (X : LW nm xs L P) : ru_istore_n (mLw nm) P := X.B.2.2.2.2.2.2.2.2.2.2.2.1
theorem LW.iconst (X : LW nm xs L P) : ru_iconst (mLw nm) P := X.B.2.2.2.2.2.2.2.2.2.2.2.2.2.2.2.2.2.1
theorem LW.bipush (X : LW nm xs L P) : ru_bipush (mLw nm) P := X.B.2.2.2.2.2.2.2.2.2.2.2.2.2.2.2.2.2.2.1
theorem LW.iadd (X : LW nm xs L P) : ru_iadd (mLw nm) P := X.B.2.2.2.2.2.2.2.2.2.2.2.2.2.2.2.2.2.2.2.2.2.2.2.2.2.2.1
theorem LW.isub (X : LW nm xs L P) : ru_isub (mLw nm) P := X.B.2.2.2.2.2.2.2.2.2.2.2.2.2.2.2.2.2.2.2.2.2.2.2.2.2.2.2.1
theorem LW.iand (X : LW nm xs L P) : ru_iand (mLw nm) P := X.B.2.2.2.2.2.2.2.2.2.2.2.2.2.2.2.2.2.2.2.2.2.2.2.2.2.2.2.2.2.1
theorem LW.icmp_gt (X : LW nm xs L P) : ru_icmp_gt (mLw nm) P := X.B.2.2.2.2.2.2.2.2.2.2.2.2.2.2.2.2.2.2.2.2.2.2.2.2.2.2.2.2.2.2.2.2.2.2.2.2.2.2.2.2.2.2.2.2.2.2.2.2.2.2.2.2.2.2.2.2.2.2.2.2.2.2.2.2.2.2.2.2.1
theorem LW.icmp_eq (X : LW nm xs L P) : ru_icmp_eq (mLw nm) P := X.B.2.2.2.2.2.2.2.2.2.2.2.2.2.2.2.2.2.2.2.2.2.2.2.2.2.2.2.2.2.2.2.2.2.2.2.2.2.2.2.2.2.2.2.2.2.2.2.2.2.2.2.2.2.2.2.2.2.2.2.2.2.2.2.2.1
theorem LW.goto (X : LW nm xs L P) : ru_goto (mLw nm) P := X.B.2.2.2.2.2.2.2.2.2.2.2.2.2.2.2.2.2.2.2.2.2.2.2.2.2.2.2.2.2.2.2.2.2.2.2.2.2.2.2.2.2.2.2.2.2.2.2.2.2.2.2.2.2.2.2.2.2.1
theorem LW.if_eq (X : LW nm xs L P) : ru_if_eq (mLw nm) P := X.B.2.2.2.2.2.2.2.2.2.2.2.2.2.2.2.2.2.2.2.2.2.2.2.2.2.2.2.2.2.2.2.2.2.2.2.2.2.2.2.2.2.2.2.2.2.2.2.2.2.2.2.2.2.2.2.2.2.2.1
theorem LW.if_ne (X : LW nm xs L P) : ru_if_ne (mLw nm) P := X.B.2.2.2.2.2.2.2.2.2.2.2.2.2.2.2.2.2.2.2.2.2.2.2.2.2.2.2.2.2.2.2.2.2.2.2.2.2.2.2.2.2.2.2.2.2.2.2.2.2.2.2.2.2.2.2.2.2.2.2.1
theorem LW.iinc (X : LW nm xs L P) : ru_iinc (mLw nm) P := X.B.2.2.2.2.2.2.2.2.2.2.2.2.2.2.2.2.1
theorem LW.tabIn (X : LW nm xs L P) : ru_tabIn (mLw nm) P := X.B.2.2.2.2.2.2.2.2.2.2.2.2.2.2.2.2.2.2.2.2.2.2.2.2.2.2.2.2.2.2.2.2.2.2.2.2.2.2.2.2.2.2.2.2.2.2.2.2.2.2.2.2.2.2.2.2.2.2.2.2.2.2.2.2.2.2.2.2.2.2.2.2.2.1
theorem LW.tabOut (X : LW nm xs L P) : ru_tabOut (mLw nm) P := X.B.2.2.2.2.2.2.2.2.2.2.2.2.2.2.2.2.2.2.2.2.2.2.2.2.2.2.2.2.2.2.2.2.2.2.2.2.2.2.2.2.2.2.2.2.2.2.2.2.2.2.2.2.2.2.2.2.2.2.2.2.2.2.2.2.2.2.2.2.2.2.2.2.2.2.1
theorem LW.f2d (X : LW nm xs L P) : ru_f2d (mLw nm) P := X.B.2.2.2.2.2.2.2.2.2.2.2.2.2.2.2.2.2.2.2.2.2.2.2.2.2.2.2.2.2.2.2.2.2.2.2.2.2.2.2.2.2.2.2.2.2.2.2.2.2.2.1
theorem LW.dstore (X : LW nm xs L P) : ru_dstore (mLw nm) P := X.B.2.2.2.2.2.2.2.2.2.2.1
theorem LW.dload (X : LW nm xs L P) : ru_dload (mLw nm) P := X.B.2.2.1
theorem LW.dcmp (X : LW nm xs L P) : ru_dcmp (mLw nm) P := X.B.2.2.2.2.2.2.2.2.2.2.2.2.2.2.2.2.2.2.2.2.2.2.2.2.2.2.2.2.2.2.2.2.2.2.2.2.2.2.2.2.2.2.2.2.2.2.2.2.2.2.2.2.1
theorem LW.dup (X : LW nm xs L P) : ru_dup (mLw nm) P := X.B.2.2.2.2.2.2.2.2.2.2.2.2.2.2.2.2.2.2.2.2.2.2.2.2.2.2.2.2.2.2.2.2.2.2.2.2.2.2.2.2.2.2.2.2.2.2.2.2.2.2.2.2.2.1
theorem LW.newO (X : LW nm xs L P) : ru_newO (mLw nm) P := X.B.2.2.2.2.2.2.2.2.2.2.2.2.2.2.2.2.2.2.2.2.2.2.2.2.2.2.2.2.2.2.2.2.2.2.2.2.2.2.2.2.2.2.2.2.2.2.2.2.2.2.2.2.2.2.2.2.2.2.2.2.2.2.2.2.2.2.2.2.2.2.2.2.2.2.2.2.2.2.2.2.2.2.2.2.2.2.2.2.2.2.2.2.2.2.2.2.2.2.1
theorem LW.weak (X : LW nm xs L P) : ru_weak (mLw nm) P := X.B.2.2.2.2.2.2.2.2.2.2.2.2.2.2.2.2.2.2.2.2.2.2.2.2.2.2.2.2.2.2.2.2.2.2.2.2.2.2.2.2.2.2.2.2.2.2.2.2.2.2.2.2.2.2.2.2.2.2.2.2.2.2.2.2.2.2.2.2.2.2.2.2.2.2.2.2.2.2.2.2.2.2.2.2.2.2.2.2.2.2.2.2.2.2.2.2.2.2.2.2.2.2.2.2.2.2.2.2.1
theorem LW.callV (X : LW nm xs L P) : ru_callV (Ex 72) (mLw nm) P := X.B.2.2.2.2.2.2.2.2.2.2.2.2.2.2.2.2.2.2.2.2.2.2.2.2.2.2.2.2.2.2.2.2.2.2.2.2.2.2.2.2.2.2.2.2.2.2.2.2.2.2.2.2.2.2.2.2.2.2.2.2.2.2.2.2.2.2.2.2.2.2.2.2.2.2.2.2.2.2.2.2.2.2.2.2.2.2.2.2.2.2.2.2.2.2.2.2.2.2.2.2.2.2.2.2.2.2.2.2.2.1
theorem LW.callI (X : LW nm xs L P) : ru_callI (Ex 72) (mLw nm) P := X.B.2.2.2.2.2.2.2.2.2.2.2.2.2.2.2.2.2.2.2.2.2.2.2.2.2.2.2.2.2.2.2.2.2.2.2.2.2.2.2.2.2.2.2.2.2.2.2.2.2.2.2.2.2.2.2.2.2.2.2.2.2.2.2.2.2.2.2.2.2.2.2.2.2.2.2.2.2.2.2.2.2.2.2.2.2.2.2.2.2.2.2.2.2.2.2.2.2.2.2.2.2.2.2.2.2.2.2.2.2.2.2.2.2.1
theorem LW.arg (X : LW nm xs L P) {pc n i j : Nat} {c : Int} (a b : Nat) (h0 : lv[a]? = some (0, .ref SCR)) (h3 : lv[b]? = some (3, .int (Int32.ofNat i))) (hc : Int32.ofInt c = Int32.ofNat j) (d1 : decode cL_law pc = .ok (.aload_n 0, 1)) (d2 : decode cL_law (pc + 1) = .ok (.iload_n 3, 1)) (d3 : decode cL_law (pc + 2) = .ok (.iconst c, 1)) (d4 : decode cL_law (pc + 3) = .ok (.iadd, 1)) (d5 : decode cL_law (pc + 4) = .ok (.iaload, 1)) (hi : i + j < L) (hp : pc + 5 = n) (k : P n lv (.int (xs (i + j)) :: st) h) : P pc lv st h := by
  subst hp
  refine X.aload_n 0 0 a (.ref SCR) d1 rfl h0 (Or.inr ⟨_, rfl⟩) ?_
  refine X.iload_n 3 3 b _ d2 rfl h3 ?_
  refine X.iconst c _ d3 hc ?_
  refine X.iadd _ _ d4 ?_
  rw [← Int32.ofNat_add]
  exact X.ld (i + j) d5 hi k
theorem LW.nzb (X : LW nm xs L P) {pc n : Nat} {x : Int32} (d1 : decode cL_law pc = .ok (.ifCond .eq 7, 3)) (d2 : decode cL_law (pc + 3) = .ok (.iconst 1, 1)) (d3 : decode cL_law (pc + 4) = .ok (.goto 4, 3)) (d4 : decode cL_law (pc + 7) = .ok (.iconst 0, 1)) (hp : pc + 8 = n) (k : P n lv (.int (bI (nz x)) :: st) h) : P pc lv (.int x :: st) h := by
  subst hp
  refine X.if_eq x 7 (pc + 7) d1 (by omega) (fun c => ?_) (fun c => ?_)
  · have e : nz x = false := decide_eq_false (fun z => z c)
    rw [e] at k
    exact X.iconst 0 0 d4 (by decide) k
  · have e : nz x = true := decide_eq_true c
    rw [e] at k
    exact X.iconst 1 1 d2 (by decide) (X.goto 4 (pc + 8) d3 (by omega) k)
theorem LW.call (X : LW nm xs L P) {pc n ix m b : Nat} {z : PMe} {As rest : List Value} {r : Value} {h2 : HP} (hd : decode cL_law pc = .ok (.invokevirtual ix, 3)) (hm : okM z m) (hw : Cond.methodLink (cnm 12) ix (my z) ∈ PT) (hi : Cond.instanceMethod (my z) ∈ PT) (hs : Cond.selects (my z).cls (my z) (my z) ∈ PT) (hn : As.length = m) (hz : (rest.map fun v => v.category).sum ≤ 8) (hlt : mo z < 12) (ho : isO h b (mo z) = true) (hst : st = As.reverse ++ .ref b :: rest) (hc : Ex 72 z (.ref b :: As) h (some r) h2) (hp : pc + 3 = n) (k : P n lv (r :: rest) h2) : P pc lv st h := by
  subst hp
  exact X.callV st ix m b z As rest (some r) _ h2 hd hm hw hi hs hn hz hlt ho hst hc rfl k
theorem LW.al (X : LW nm xs L P) {pc n i a : Nat} {q : Fin 4} (j : Nat) (hd : decode cL_law pc = .ok (.aload_n q, 1)) (hi : (q : Nat) = i) (hj : lv[j]? = some (i, .ref a)) (hp : pc + 1 = n) (k : P n lv (.ref a :: st) h) : P pc lv st h := by
  subst hp
  exact X.aload_n q i j (.ref a) hd hi hj (Or.inr ⟨_, rfl⟩) k
theorem LW.cmp (X : LW nm xs L P) {pc : Nat} {x : Int32} {off : Int} (hd : decode cL_law pc = .ok (.if_icmp .eq off, 3)) (ht : (pc : Int) + off = ((1505 : Nat) : Int)) (k : P 1505 lv [] h) : P pc lv [.int x, .int x] h :=
  X.icmp_eq x x off 1505 hd ht (fun _ => k) (fun c => absurd rfl c)
theorem LW.f2ds (X : LW nm xs L P) {pc n i : Nat} {x : UInt32} {lv1 : List (Nat × Value)} (hx : nn32 x = true) (d1 : decode cL_law pc = .ok (.f2d, 1)) (d2 : decode cL_law (pc + 1) = .ok (.dstore i, 2)) (hn : i + 1 < 8) (hl : stoL i (.double (FP.f2d x)) lv = lv1) (hp : pc + 3 = n) (k : P n lv1 st h) : P pc lv (.float x :: st) h := by
  subst hp
  exact X.f2d x d1 (f2d_nn hx) (X.dstore i _ lv1 d2 hn hl k)
theorem LW.dcm (X : LW nm xs L P) {pc n i i2 : Nat} {D : UInt64} (j j2 : Nat) (d1 : decode cL_law pc = .ok (.dload i, 2)) (d2 : decode cL_law (pc + 2) = .ok (.dload i2, 2)) (d3 : decode cL_law (pc + 4) = .ok (.dcmp .l, 1)) (hj : lv[j]? = some (i, .double D)) (hj2 : lv[j2]? = some (i2, .double D)) (hp : pc + 5 = n) (k : P n lv (.int (Op.cmpValue (FP.dcmp D D) .l) :: st) h) : P pc lv st h := by
  subst hp
  exact X.dload i j D d1 hj (X.dload i2 j2 D d2 hj2 (X.dcmp D D .l d3 k))
theorem lkL_9 : Cond.methodLink (cnm 12) 9 (my mX10_init) ∈ PT := pt_tab (i := 21) (by decide +kernel) rfl
theorem lkL_12 : Cond.methodLink (cnm 12) 12 (my mX11_init) ∈ PT := pt_tab (i := 1145) (by decide +kernel) rfl
theorem lkL_13 : Cond.methodLink (cnm 12) 13 (my mX10_append) ∈ PT := pt_tab (i := 451) (by decide +kernel) rfl
theorem lkL_17 : Cond.methodLink (cnm 12) 17 (my mX11_append) ∈ PT := pt_tab (i := 1303) (by decide +kernel) rfl
theorem lkL_18 : Cond.methodLink (cnm 12) 18 (my mX10_truncate) ∈ PT := pt_tab (i := 459) (by decide +kernel) rfl
theorem lkL_22 : Cond.methodLink (cnm 12) 22 (my mX11_truncate) ∈ PT := pt_tab (i := 1311) (by decide +kernel) rfl
theorem lkL_23 : Cond.methodLink (cnm 12) 23 (my mX10_load) ∈ PT := pt_tab (i := 463) (by decide +kernel) rfl
theorem lkL_27 : Cond.methodLink (cnm 12) 27 (my mX11_load) ∈ PT := pt_tab (i := 1318) (by decide +kernel) rfl
theorem lkL_28 : Cond.methodLink (cnm 12) 28 (my mX10_insert) ∈ PT := pt_tab (i := 697) (by decide +kernel) rfl
theorem lkL_31 : Cond.methodLink (cnm 12) 31 (my mX11_insert) ∈ PT := pt_tab (i := 1504) (by decide +kernel) rfl
theorem lkL_32 : Cond.methodLink (cnm 12) 32 (my mX10_setCondition) ∈ PT := pt_tab (i := 724) (by decide +kernel) rfl
theorem lkL_35 : Cond.methodLink (cnm 12) 35 (my mX11_setCondition) ∈ PT := pt_tab (i := 1527) (by decide +kernel) rfl
theorem lkL_36 : Cond.methodLink (cnm 12) 36 (my mX10_errorPosition) ∈ PT := pt_tab (i := 733) (by decide +kernel) rfl
theorem lkL_39 : Cond.methodLink (cnm 12) 39 (my mX11_errorPosition) ∈ PT := pt_tab (i := 1535) (by decide +kernel) rfl
theorem lkL_40 : Cond.methodLink (cnm 12) 40 (my mX10_rename) ∈ PT := pt_tab (i := 737) (by decide +kernel) rfl
theorem lkL_44 : Cond.methodLink (cnm 12) 44 (my mX11_rename) ∈ PT := pt_tab (i := 1543) (by decide +kernel) rfl
theorem lkL_45 : Cond.methodLink (cnm 12) 45 (my mX10_remove) ∈ PT := pt_tab (i := 751) (by decide +kernel) rfl
theorem lkL_48 : Cond.methodLink (cnm 12) 48 (my mX11_remove) ∈ PT := pt_tab (i := 1550) (by decide +kernel) rfl
theorem lkL_49 : Cond.methodLink (cnm 12) 49 (my mX10_move) ∈ PT := pt_tab (i := 782) (by decide +kernel) rfl
theorem lkL_53 : Cond.methodLink (cnm 12) 53 (my mX11_move) ∈ PT := pt_tab (i := 1562) (by decide +kernel) rfl
theorem lkL_54 : Cond.methodLink (cnm 12) 54 (my mX10_setKind) ∈ PT := pt_tab (i := 811) (by decide +kernel) rfl
theorem lkL_58 : Cond.methodLink (cnm 12) 58 (my mX11_setKind) ∈ PT := pt_tab (i := 1593) (by decide +kernel) rfl
theorem lkL_59 : Cond.methodLink (cnm 12) 59 (my mX10_publish) ∈ PT := pt_tab (i := 819) (by decide +kernel) rfl
theorem lkL_62 : Cond.methodLink (cnm 12) 62 (my mX11_publish) ∈ PT := pt_tab (i := 1601) (by decide +kernel) rfl
theorem lkL_63 : Cond.methodLink (cnm 12) 63 (my mX10_begin) ∈ PT := pt_tab (i := 823) (by decide +kernel) rfl
theorem lkL_66 : Cond.methodLink (cnm 12) 66 (my mX11_begin) ∈ PT := pt_tab (i := 1612) (by decide +kernel) rfl
theorem lkL_67 : Cond.methodLink (cnm 12) 67 (my mX10_answer) ∈ PT := pt_tab (i := 831) (by decide +kernel) rfl
theorem lkL_71 : Cond.methodLink (cnm 12) 71 (my mX11_answer) ∈ PT := pt_tab (i := 1621) (by decide +kernel) rfl
theorem lkL_72 : Cond.methodLink (cnm 12) 72 (my mX10_advance) ∈ PT := pt_tab (i := 896) (by decide +kernel) rfl
theorem lkL_75 : Cond.methodLink (cnm 12) 75 (my mX11_advance) ∈ PT := pt_tab (i := 1657) (by decide +kernel) rfl
theorem lkL_76 : Cond.methodLink (cnm 12) 76 (my mX10_undo) ∈ PT := pt_tab (i := 900) (by decide +kernel) rfl
theorem lkL_79 : Cond.methodLink (cnm 12) 79 (my mX11_undo) ∈ PT := pt_tab (i := 1539) (by decide +kernel) rfl
theorem lkL_80 : Cond.methodLink (cnm 12) 80 (my mX10_value) ∈ PT := pt_tab (i := 904) (by decide +kernel) rfl
theorem lkL_83 : Cond.methodLink (cnm 12) 83 (my mX11_value) ∈ PT := pt_tab (i := 1661) (by decide +kernel) rfl
theorem lkL_84 : Cond.methodLink (cnm 12) 84 (my mX10_node) ∈ PT := pt_tab (i := 912) (by decide +kernel) rfl
theorem lkL_88 : Cond.methodLink (cnm 12) 88 (my mX11_node) ∈ PT := pt_tab (i := 1665) (by decide +kernel) rfl
theorem lkL_89 : Cond.methodLink (cnm 12) 89 (my mX10_letter) ∈ PT := pt_tab (i := 917) (by decide +kernel) rfl
theorem lkL_92 : Cond.methodLink (cnm 12) 92 (my mX11_letter) ∈ PT := pt_tab (i := 1669) (by decide +kernel) rfl
theorem lkL_93 : Cond.methodLink (cnm 12) 93 (my mX10_named) ∈ PT := pt_tab (i := 924) (by decide +kernel) rfl
theorem lkL_96 : Cond.methodLink (cnm 12) 96 (my mX11_named) ∈ PT := pt_tab (i := 1680) (by decide +kernel) rfl
theorem lkL_97 : Cond.methodLink (cnm 12) 97 (my mX10_nodeAt) ∈ PT := pt_tab (i := 928) (by decide +kernel) rfl
theorem lkL_100 : Cond.methodLink (cnm 12) 100 (my mX11_nodeAt) ∈ PT := pt_tab (i := 1684) (by decide +kernel) rfl
theorem lkL_101 : Cond.methodLink (cnm 12) 101 (my mX10_dependsOn) ∈ PT := pt_tab (i := 933) (by decide +kernel) rfl
theorem lkL_104 : Cond.methodLink (cnm 12) 104 (my mX11_dependsOn) ∈ PT := pt_tab (i := 1688) (by decide +kernel) rfl
theorem lkL_105 : Cond.methodLink (cnm 12) 105 (my mX10_dependents) ∈ PT := pt_tab (i := 938) (by decide +kernel) rfl
theorem lkL_108 : Cond.methodLink (cnm 12) 108 (my mX11_dependents) ∈ PT := pt_tab (i := 1692) (by decide +kernel) rfl
theorem lkL_109 : Cond.methodLink (cnm 12) 109 (my mX10_inOrder) ∈ PT := pt_tab (i := 944) (by decide +kernel) rfl
theorem lkL_112 : Cond.methodLink (cnm 12) 112 (my mX11_inOrder) ∈ PT := pt_tab (i := 1696) (by decide +kernel) rfl
theorem lkL_113 : Cond.methodLink (cnm 12) 113 (my mX10_wouldRefuse) ∈ PT := pt_tab (i := 949) (by decide +kernel) rfl
theorem lkL_116 : Cond.methodLink (cnm 12) 116 (my mX11_wouldRefuse) ∈ PT := pt_tab (i := 1700) (by decide +kernel) rfl
theorem lkL_117 : Cond.methodLink (cnm 12) 117 (my mX10_exists) ∈ PT := pt_tab (i := 954) (by decide +kernel) rfl
theorem lkL_120 : Cond.methodLink (cnm 12) 120 (my mX11_exists) ∈ PT := pt_tab (i := 1704) (by decide +kernel) rfl
theorem lkL_121 : Cond.methodLink (cnm 12) 121 (my mX10_revisionOf) ∈ PT := pt_tab (i := 958) (by decide +kernel) rfl
theorem lkL_124 : Cond.methodLink (cnm 12) 124 (my mX11_revisionOf) ∈ PT := pt_tab (i := 1712) (by decide +kernel) rfl
theorem lkL_125 : Cond.methodLink (cnm 12) 125 (my mX10_answers) ∈ PT := pt_tab (i := 962) (by decide +kernel) rfl
theorem lkL_128 : Cond.methodLink (cnm 12) 128 (my mX11_answers) ∈ PT := pt_tab (i := 1716) (by decide +kernel) rfl
theorem lkL_129 : Cond.methodLink (cnm 12) 129 (my mX10_isShown) ∈ PT := pt_tab (i := 966) (by decide +kernel) rfl
theorem lkL_132 : Cond.methodLink (cnm 12) 132 (my mX11_isShown) ∈ PT := pt_tab (i := 1720) (by decide +kernel) rfl
theorem lkL_133 : Cond.methodLink (cnm 12) 133 (my mX10_inForce) ∈ PT := pt_tab (i := 970) (by decide +kernel) rfl
theorem lkL_136 : Cond.methodLink (cnm 12) 136 (my mX11_inForce) ∈ PT := pt_tab (i := 1724) (by decide +kernel) rfl
theorem lkL_137 : Cond.methodLink (cnm 12) 137 (my mX10_open) ∈ PT := pt_tab (i := 975) (by decide +kernel) rfl
theorem lkL_140 : Cond.methodLink (cnm 12) 140 (my mX11_open) ∈ PT := pt_tab (i := 1728) (by decide +kernel) rfl
theorem lkL_141 : Cond.methodLink (cnm 12) 141 (my mX10_completeness) ∈ PT := pt_tab (i := 984) (by decide +kernel) rfl
theorem lkL_145 : Cond.methodLink (cnm 12) 145 (my mX11_completeness) ∈ PT := pt_tab (i := 1732) (by decide +kernel) rfl
theorem lkL_146 : Cond.methodLink (cnm 12) 146 (my mX10_average) ∈ PT := pt_tab (i := 989) (by decide +kernel) rfl
theorem lkL_149 : Cond.methodLink (cnm 12) 149 (my mX11_average) ∈ PT := pt_tab (i := 1737) (by decide +kernel) rfl
theorem lkL_150 : Cond.methodLink (cnm 12) 150 (my mX10_tally) ∈ PT := pt_tab (i := 993) (by decide +kernel) rfl
theorem lkL_153 : Cond.methodLink (cnm 12) 153 (my mX11_tally) ∈ PT := pt_tab (i := 1741) (by decide +kernel) rfl
theorem lkL_154 : Cond.methodLink (cnm 12) 154 (my mX10_rows) ∈ PT := pt_tab (i := 997) (by decide +kernel) rfl
theorem lkL_158 : Cond.methodLink (cnm 12) 158 (my mX11_rows) ∈ PT := pt_tab (i := 1745) (by decide +kernel) rfl
theorem lkL_159 : Cond.methodLink (cnm 12) 159 (my mX10_place) ∈ PT := pt_tab (i := 1029) (by decide +kernel) rfl
theorem lkL_163 : Cond.methodLink (cnm 12) 163 (my mX11_place) ∈ PT := pt_tab (i := 1776) (by decide +kernel) rfl
theorem lkL_164 : Cond.methodLink (cnm 12) 164 (my mX10_pages) ∈ PT := pt_tab (i := 1041) (by decide +kernel) rfl
theorem lkL_167 : Cond.methodLink (cnm 12) 167 (my mX11_pages) ∈ PT := pt_tab (i := 1780) (by decide +kernel) rfl
theorem lkL_168 : Cond.methodLink (cnm 12) 168 (my mX10_textLength) ∈ PT := pt_tab (i := 1045) (by decide +kernel) rfl
theorem lkL_171 : Cond.methodLink (cnm 12) 171 (my mX11_textLength) ∈ PT := pt_tab (i := 1784) (by decide +kernel) rfl
theorem lkL_172 : Cond.methodLink (cnm 12) 172 (my mX10_textByte) ∈ PT := pt_tab (i := 1084) (by decide +kernel) rfl
theorem lkL_176 : Cond.methodLink (cnm 12) 176 (my mX11_textByte) ∈ PT := pt_tab (i := 1813) (by decide +kernel) rfl
theorem lkL_177 : Cond.methodLink (cnm 12) 177 (my mX10_setupLength) ∈ PT := pt_tab (i := 1088) (by decide +kernel) rfl
theorem lkL_180 : Cond.methodLink (cnm 12) 180 (my mX11_setupLength) ∈ PT := pt_tab (i := 1817) (by decide +kernel) rfl
theorem lkL_181 : Cond.methodLink (cnm 12) 181 (my mX10_setupByte) ∈ PT := pt_tab (i := 1135) (by decide +kernel) rfl
theorem lkL_184 : Cond.methodLink (cnm 12) 184 (my mX11_setupByte) ∈ PT := pt_tab (i := 1853) (by decide +kernel) rfl
theorem lkL_185 : Cond.methodLink (cnm 12) 185 (my mX10_tapeLength) ∈ PT := pt_tab (i := 1139) (by decide +kernel) rfl
theorem lkL_188 : Cond.methodLink (cnm 12) 188 (my mX11_tapeLength) ∈ PT := pt_tab (i := 1857) (by decide +kernel) rfl
theorem clL_7 : Cond.classLink (cnm 12) 7 (cnm 10) ∈ PT := pt_tab (i := 19) (by decide +kernel) rfl
theorem clL_10 : Cond.classLink (cnm 12) 10 (cnm 11) ∈ PT := pt_tab (i := 1143) (by decide +kernel) rfl
theorem nsL_10 : Cond.instantiable (cnm 10) (nfC 10) ∈ PT := pt_tab (i := 20) (by decide +kernel) rfl
theorem ziL_10 : Cond.initialized (cnm 10) ∈ PT := pt_tab (i := 1) (by decide +kernel) rfl
theorem nsL_11 : Cond.instantiable (cnm 11) (nfC 11) ∈ PT := pt_tab (i := 1144) (by decide +kernel) rfl
theorem ziL_11 : Cond.initialized (cnm 11) ∈ PT := pt_tab (i := 15) (by decide +kernel) rfl
/-- append -/
theorem law_c0 (X : LW nm xs L P) {i k : Nat} (hi : i + 5 < L) (hk : k ≤ 511) (R : RR h k) (K : ∀ g, RR g (k + 1) → P 1505 (lvs i) [] g) : P 212 (lvs i) [] h := by
  obtain ⟨o, g, g', e1, e2, R'⟩ := rd_append R (xs (i + 1)) (xs (i + 2)) (xs (i + 3)) (xs (i + 4)) (xs (i + 5))
  have MO : isO g 983 11 = true := isO_sk (sfX10_append e1) R.2.1.o
  refine X.al (q := 1) 2 dL_law_212 rfl rfl (n := 213) rfl ?_
  refine X.arg (j := 1) 3 0 rfl rfl (by decide) dL_law_213 dL_law_214 dL_law_215 dL_law_216 dL_law_217 (by omega) (n := 218) rfl ?_
  refine X.arg (j := 2) 3 0 rfl rfl (by decide) dL_law_218 dL_law_219 dL_law_220 dL_law_221 dL_law_222 (by omega) (n := 223) rfl ?_
  refine X.arg (j := 3) 3 0 rfl rfl (by decide) dL_law_223 dL_law_224 dL_law_225 dL_law_226 dL_law_227 (by omega) (n := 228) rfl ?_
  refine X.arg (j := 4) 3 0 rfl rfl (by decide) dL_law_228 dL_law_229 dL_law_230 dL_law_231 dL_law_232 (by omega) (n := 233) rfl ?_
  refine X.arg (j := 5) 3 0 rfl rfl (by decide) dL_law_233 dL_law_234 dL_law_235 dL_law_236 dL_law_237 (by omega) (n := 238) rfl ?_
  refine X.call (b := 0) (As := [.int (xs (i + 1)), .int (xs (i + 2)), .int (xs (i + 3)), .int (xs (i + 4)), .int (xs (i + 5))]) (rest := []) dL_law_238 okX10_append lkL_13 siX10_append seX10_append rfl (Nat.le_of_ble_eq_true rfl) (by decide) R.1.o rfl (xfX10_append (d := 70) e1) (n := 241) rfl ?_
  refine X.al (q := 2) 1 dL_law_241 rfl rfl (n := 242) rfl ?_
  refine X.arg (j := 1) 3 0 rfl rfl (by decide) dL_law_242 dL_law_243 dL_law_244 dL_law_245 dL_law_246 (by omega) (n := 247) rfl ?_
  refine X.arg (j := 2) 3 0 rfl rfl (by decide) dL_law_247 dL_law_248 dL_law_249 dL_law_250 dL_law_251 (by omega) (n := 252) rfl ?_
  refine X.arg (j := 3) 3 0 rfl rfl (by decide) dL_law_252 dL_law_253 dL_law_254 dL_law_255 dL_law_256 (by omega) (n := 257) rfl ?_
  refine X.arg (j := 4) 3 0 rfl rfl (by decide) dL_law_257 dL_law_258 dL_law_259 dL_law_260 dL_law_261 (by omega) (n := 262) rfl ?_
  refine X.arg (j := 5) 3 0 rfl rfl (by decide) dL_law_262 dL_law_263 dL_law_264 dL_law_265 dL_law_266 (by omega) (n := 267) rfl ?_
  refine X.call (b := 983) (As := [.int (xs (i + 1)), .int (xs (i + 2)), .int (xs (i + 3)), .int (xs (i + 4)), .int (xs (i + 5))]) (rest := [.int o]) dL_law_267 okX11_append lkL_17 siX11_append seX11_append rfl (Nat.le_of_ble_eq_true rfl) (by decide) MO rfl (xfX11_append (d := 70) e2) (n := 270) rfl ?_
  exact X.cmp dL_law_270 (by decide) (K _ R')
/-- truncate -/
theorem law_c1 (X : LW nm xs L P) {i k : Nat} (hi : i + 5 < L) (hk : k ≤ 511) (R : RR h k) (K : ∀ g, RR g (k + 1) → P 1505 (lvs i) [] g) : P 275 (lvs i) [] h := by
  obtain ⟨o, g, g', e1, e2, R'⟩ := rd_truncate R (xs (i + 1))
  have MO : isO g 983 11 = true := isO_sk (sfX10_truncate e1) R.2.1.o
  refine X.al (q := 1) 2 dL_law_275 rfl rfl (n := 276) rfl ?_
  refine X.arg (j := 1) 3 0 rfl rfl (by decide) dL_law_276 dL_law_277 dL_law_278 dL_law_279 dL_law_280 (by omega) (n := 281) rfl ?_
  refine X.call (b := 0) (As := [.int (xs (i + 1))]) (rest := []) dL_law_281 okX10_truncate lkL_18 siX10_truncate seX10_truncate rfl (Nat.le_of_ble_eq_true rfl) (by decide) R.1.o rfl (xfX10_truncate (d := 71) e1) (n := 284) rfl ?_
  refine X.al (q := 2) 1 dL_law_284 rfl rfl (n := 285) rfl ?_
  refine X.arg (j := 1) 3 0 rfl rfl (by decide) dL_law_285 dL_law_286 dL_law_287 dL_law_288 dL_law_289 (by omega) (n := 290) rfl ?_
  refine X.call (b := 983) (As := [.int (xs (i + 1))]) (rest := [.int o]) dL_law_290 okX11_truncate lkL_22 siX11_truncate seX11_truncate rfl (Nat.le_of_ble_eq_true rfl) (by decide) MO rfl (xfX11_truncate (d := 70) e2) (n := 293) rfl ?_
  exact X.cmp dL_law_293 (by decide) (K _ R')
/-- load -/
theorem law_c2 (X : LW nm xs L P) {i k : Nat} (hi : i + 5 < L) (hk : k ≤ 511) (R : RR h k) (K : ∀ g, RR g (k + 1) → P 1505 (lvs i) [] g) : P 298 (lvs i) [] h := by
  obtain ⟨o, g, g', e1, e2, R'⟩ := rd_load R (by omega) 
  have MO : isO g 983 11 = true := isO_sk (sfX10_load e1) R.2.1.o
  refine X.al (q := 1) 2 dL_law_298 rfl rfl (n := 299) rfl ?_
  refine X.call (b := 0) (As := []) (rest := []) dL_law_299 okX10_load lkL_23 siX10_load seX10_load rfl (Nat.le_of_ble_eq_true rfl) (by decide) R.1.o rfl (xfX10_load (d := 1) e1) (n := 302) rfl ?_
  refine X.al (q := 2) 1 dL_law_302 rfl rfl (n := 303) rfl ?_
  refine X.call (b := 983) (As := []) (rest := [.int o]) dL_law_303 okX11_load lkL_27 siX11_load seX11_load rfl (Nat.le_of_ble_eq_true rfl) (by decide) MO rfl (xfX11_load (d := 62) e2) (n := 306) rfl ?_
  exact X.cmp dL_law_306 (by decide) (K _ R')
/-- insert -/
theorem law_c3 (X : LW nm xs L P) {i k : Nat} (hi : i + 5 < L) (hk : k ≤ 511) (R : RR h k) (K : ∀ g, RR g (k + 1) → P 1505 (lvs i) [] g) : P 311 (lvs i) [] h := by
  obtain ⟨o, g, g', e1, e2, R'⟩ := rd_insert R (by omega) (xs (i + 1))
  have MO : isO g 983 11 = true := isO_sk (sfX10_insert e1) R.2.1.o
  refine X.al (q := 1) 2 dL_law_311 rfl rfl (n := 312) rfl ?_
  refine X.arg (j := 1) 3 0 rfl rfl (by decide) dL_law_312 dL_law_313 dL_law_314 dL_law_315 dL_law_316 (by omega) (n := 317) rfl ?_
  refine X.call (b := 0) (As := [.int (xs (i + 1))]) (rest := []) dL_law_317 okX10_insert lkL_28 siX10_insert seX10_insert rfl (Nat.le_of_ble_eq_true rfl) (by decide) R.1.o rfl (xfX10_insert (d := 1) e1) (n := 320) rfl ?_
  refine X.al (q := 2) 1 dL_law_320 rfl rfl (n := 321) rfl ?_
  refine X.arg (j := 1) 3 0 rfl rfl (by decide) dL_law_321 dL_law_322 dL_law_323 dL_law_324 dL_law_325 (by omega) (n := 326) rfl ?_
  refine X.call (b := 983) (As := [.int (xs (i + 1))]) (rest := [.int o]) dL_law_326 okX11_insert lkL_31 siX11_insert seX11_insert rfl (Nat.le_of_ble_eq_true rfl) (by decide) MO rfl (xfX11_insert (d := 62) e2) (n := 329) rfl ?_
  exact X.cmp dL_law_329 (by decide) (K _ R')
/-- setCondition -/
theorem law_c4 (X : LW nm xs L P) {i k : Nat} (hi : i + 5 < L) (hk : k ≤ 511) (R : RR h k) (K : ∀ g, RR g (k + 1) → P 1505 (lvs i) [] g) : P 334 (lvs i) [] h := by
  obtain ⟨o, g, g', e1, e2, R'⟩ := rd_setCondition R (by omega) (xs (i + 1))
  have MO : isO g 983 11 = true := isO_sk (sfX10_setCondition e1) R.2.1.o
  refine X.al (q := 1) 2 dL_law_334 rfl rfl (n := 335) rfl ?_
  refine X.arg (j := 1) 3 0 rfl rfl (by decide) dL_law_335 dL_law_336 dL_law_337 dL_law_338 dL_law_339 (by omega) (n := 340) rfl ?_
  refine X.call (b := 0) (As := [.int (xs (i + 1))]) (rest := []) dL_law_340 okX10_setCondition lkL_32 siX10_setCondition seX10_setCondition rfl (Nat.le_of_ble_eq_true rfl) (by decide) R.1.o rfl (xfX10_setCondition (d := 2) e1) (n := 343) rfl ?_
  refine X.al (q := 2) 1 dL_law_343 rfl rfl (n := 344) rfl ?_
  refine X.arg (j := 1) 3 0 rfl rfl (by decide) dL_law_344 dL_law_345 dL_law_346 dL_law_347 dL_law_348 (by omega) (n := 349) rfl ?_
  refine X.call (b := 983) (As := [.int (xs (i + 1))]) (rest := [.int o]) dL_law_349 okX11_setCondition lkL_35 siX11_setCondition seX11_setCondition rfl (Nat.le_of_ble_eq_true rfl) (by decide) MO rfl (xfX11_setCondition (d := 65) e2) (n := 352) rfl ?_
  exact X.cmp dL_law_352 (by decide) (K _ R')
/-- errorPosition -/
theorem law_c5 (X : LW nm xs L P) {i k : Nat} (hi : i + 5 < L) (hk : k ≤ 511) (R : RR h k) (K : ∀ g, RR g (k + 1) → P 1505 (lvs i) [] g) : P 357 (lvs i) [] h := by
  obtain ⟨o, e1, e2⟩ := rd_errorPosition R 
  have MO : isO h 983 11 = true := R.2.1.o
  have R' := RR_up R (show k ≤ k + 1 by omega)
  refine X.al (q := 1) 2 dL_law_357 rfl rfl (n := 358) rfl ?_
  refine X.call (b := 0) (As := []) (rest := []) dL_law_358 okX10_errorPosition lkL_36 siX10_errorPosition seX10_errorPosition rfl (Nat.le_of_ble_eq_true rfl) (by decide) R.1.o rfl (xfX10_errorPosition (d := 71) e1) (n := 361) rfl ?_
  refine X.al (q := 2) 1 dL_law_361 rfl rfl (n := 362) rfl ?_
  refine X.call (b := 983) (As := []) (rest := [.int o]) dL_law_362 okX11_errorPosition lkL_39 siX11_errorPosition seX11_errorPosition rfl (Nat.le_of_ble_eq_true rfl) (by decide) MO rfl (xfX11_errorPosition (d := 71) e2) (n := 365) rfl ?_
  exact X.cmp dL_law_365 (by decide) (K _ R')
/-- rename -/
theorem law_c6 (X : LW nm xs L P) {i k : Nat} (hi : i + 5 < L) (hk : k ≤ 511) (R : RR h k) (K : ∀ g, RR g (k + 1) → P 1505 (lvs i) [] g) : P 370 (lvs i) [] h := by
  obtain ⟨o, g, g', e1, e2, R'⟩ := rd_rename R (xs (i + 1)) (xs (i + 2))
  have MO : isO g 983 11 = true := isO_sk (sfX10_rename e1) R.2.1.o
  refine X.al (q := 1) 2 dL_law_370 rfl rfl (n := 371) rfl ?_
  refine X.arg (j := 1) 3 0 rfl rfl (by decide) dL_law_371 dL_law_372 dL_law_373 dL_law_374 dL_law_375 (by omega) (n := 376) rfl ?_
  refine X.arg (j := 2) 3 0 rfl rfl (by decide) dL_law_376 dL_law_377 dL_law_378 dL_law_379 dL_law_380 (by omega) (n := 381) rfl ?_
  refine X.call (b := 0) (As := [.int (xs (i + 1)), .int (xs (i + 2))]) (rest := []) dL_law_381 okX10_rename lkL_40 siX10_rename seX10_rename rfl (Nat.le_of_ble_eq_true rfl) (by decide) R.1.o rfl (xfX10_rename (d := 67) e1) (n := 384) rfl ?_
  refine X.al (q := 2) 1 dL_law_384 rfl rfl (n := 385) rfl ?_
  refine X.arg (j := 1) 3 0 rfl rfl (by decide) dL_law_385 dL_law_386 dL_law_387 dL_law_388 dL_law_389 (by omega) (n := 390) rfl ?_
  refine X.arg (j := 2) 3 0 rfl rfl (by decide) dL_law_390 dL_law_391 dL_law_392 dL_law_393 dL_law_394 (by omega) (n := 395) rfl ?_
  refine X.call (b := 983) (As := [.int (xs (i + 1)), .int (xs (i + 2))]) (rest := [.int (bI o)]) dL_law_395 okX11_rename lkL_44 siX11_rename seX11_rename rfl (Nat.le_of_ble_eq_true rfl) (by decide) MO rfl (xfX11_rename (d := 68) e2) (n := 398) rfl ?_
  exact X.cmp dL_law_398 (by decide) (K _ R')
/-- remove -/
theorem law_c7 (X : LW nm xs L P) {i k : Nat} (hi : i + 5 < L) (hk : k ≤ 511) (R : RR h k) (K : ∀ g, RR g (k + 1) → P 1505 (lvs i) [] g) : P 403 (lvs i) [] h := by
  obtain ⟨o, g, g', e1, e2, R'⟩ := rd_remove R (by omega) (xs (i + 1))
  have MO : isO g 983 11 = true := isO_sk (sfX10_remove e1) R.2.1.o
  refine X.al (q := 1) 2 dL_law_403 rfl rfl (n := 404) rfl ?_
  refine X.arg (j := 1) 3 0 rfl rfl (by decide) dL_law_404 dL_law_405 dL_law_406 dL_law_407 dL_law_408 (by omega) (n := 409) rfl ?_
  refine X.call (b := 0) (As := [.int (xs (i + 1))]) (rest := []) dL_law_409 okX10_remove lkL_45 siX10_remove seX10_remove rfl (Nat.le_of_ble_eq_true rfl) (by decide) R.1.o rfl (xfX10_remove (d := 67) e1) (n := 412) rfl ?_
  refine X.al (q := 2) 1 dL_law_412 rfl rfl (n := 413) rfl ?_
  refine X.arg (j := 1) 3 0 rfl rfl (by decide) dL_law_413 dL_law_414 dL_law_415 dL_law_416 dL_law_417 (by omega) (n := 418) rfl ?_
  refine X.call (b := 983) (As := [.int (xs (i + 1))]) (rest := [.int o]) dL_law_418 okX11_remove lkL_48 siX11_remove seX11_remove rfl (Nat.le_of_ble_eq_true rfl) (by decide) MO rfl (xfX11_remove (d := 66) e2) (n := 421) rfl ?_
  exact X.cmp dL_law_421 (by decide) (K _ R')
/-- move -/
theorem law_c8 (X : LW nm xs L P) {i k : Nat} (hi : i + 5 < L) (hk : k ≤ 511) (R : RR h k) (K : ∀ g, RR g (k + 1) → P 1505 (lvs i) [] g) : P 426 (lvs i) [] h := by
  obtain ⟨o, g, g', e1, e2, R'⟩ := rd_move R (by omega) (xs (i + 1)) (xs (i + 2)) (xs (i + 3))
  have MO : isO g 983 11 = true := isO_sk (sfX10_move e1) R.2.1.o
  refine X.al (q := 1) 2 dL_law_426 rfl rfl (n := 427) rfl ?_
  refine X.arg (j := 1) 3 0 rfl rfl (by decide) dL_law_427 dL_law_428 dL_law_429 dL_law_430 dL_law_431 (by omega) (n := 432) rfl ?_
  refine X.arg (j := 2) 3 0 rfl rfl (by decide) dL_law_432 dL_law_433 dL_law_434 dL_law_435 dL_law_436 (by omega) (n := 437) rfl ?_
  refine X.arg (j := 3) 3 0 rfl rfl (by decide) dL_law_437 dL_law_438 dL_law_439 dL_law_440 dL_law_441 (by omega) (n := 442) rfl ?_
  refine X.call (b := 0) (As := [.int (xs (i + 1)), .int (xs (i + 2)), .int (xs (i + 3))]) (rest := []) dL_law_442 okX10_move lkL_49 siX10_move seX10_move rfl (Nat.le_of_ble_eq_true rfl) (by decide) R.1.o rfl (xfX10_move (d := 66) e1) (n := 445) rfl ?_
  refine X.al (q := 2) 1 dL_law_445 rfl rfl (n := 446) rfl ?_
  refine X.arg (j := 1) 3 0 rfl rfl (by decide) dL_law_446 dL_law_447 dL_law_448 dL_law_449 dL_law_450 (by omega) (n := 451) rfl ?_
  refine X.arg (j := 2) 3 0 rfl rfl (by decide) dL_law_451 dL_law_452 dL_law_453 dL_law_454 dL_law_455 (by omega) (n := 456) rfl ?_
  refine X.arg (j := 3) 3 0 rfl rfl (by decide) dL_law_456 dL_law_457 dL_law_458 dL_law_459 dL_law_460 (by omega) (n := 461) rfl ?_
  refine X.call (b := 983) (As := [.int (xs (i + 1)), .int (xs (i + 2)), .int (xs (i + 3))]) (rest := [.int (bI o)]) dL_law_461 okX11_move lkL_53 siX11_move seX11_move rfl (Nat.le_of_ble_eq_true rfl) (by decide) MO rfl (xfX11_move (d := 66) e2) (n := 464) rfl ?_
  exact X.cmp dL_law_464 (by decide) (K _ R')
/-- setKind -/
theorem law_c9 (X : LW nm xs L P) {i k : Nat} (hi : i + 5 < L) (hk : k ≤ 511) (R : RR h k) (K : ∀ g, RR g (k + 1) → P 1505 (lvs i) [] g) : P 469 (lvs i) [] h := by
  obtain ⟨o, g, g', e1, e2, R'⟩ := rd_setKind R (xs (i + 1)) (xs (i + 2)) (xs (i + 3)) (xs (i + 4))
  have MO : isO g 983 11 = true := isO_sk (sfX10_setKind e1) R.2.1.o
  refine X.al (q := 1) 2 dL_law_469 rfl rfl (n := 470) rfl ?_
  refine X.arg (j := 1) 3 0 rfl rfl (by decide) dL_law_470 dL_law_471 dL_law_472 dL_law_473 dL_law_474 (by omega) (n := 475) rfl ?_
  refine X.arg (j := 2) 3 0 rfl rfl (by decide) dL_law_475 dL_law_476 dL_law_477 dL_law_478 dL_law_479 (by omega) (n := 480) rfl ?_
  refine X.arg (j := 3) 3 0 rfl rfl (by decide) dL_law_480 dL_law_481 dL_law_482 dL_law_483 dL_law_484 (by omega) (n := 485) rfl ?_
  refine X.arg (j := 4) 3 0 rfl rfl (by decide) dL_law_485 dL_law_486 dL_law_487 dL_law_488 dL_law_489 (by omega) (n := 490) rfl ?_
  refine X.call (b := 0) (As := [.int (xs (i + 1)), .int (xs (i + 2)), .int (xs (i + 3)), .int (xs (i + 4))]) (rest := []) dL_law_490 okX10_setKind lkL_54 siX10_setKind seX10_setKind rfl (Nat.le_of_ble_eq_true rfl) (by decide) R.1.o rfl (xfX10_setKind (d := 67) e1) (n := 493) rfl ?_
  refine X.al (q := 2) 1 dL_law_493 rfl rfl (n := 494) rfl ?_
  refine X.arg (j := 1) 3 0 rfl rfl (by decide) dL_law_494 dL_law_495 dL_law_496 dL_law_497 dL_law_498 (by omega) (n := 499) rfl ?_
  refine X.arg (j := 2) 3 0 rfl rfl (by decide) dL_law_499 dL_law_500 dL_law_501 dL_law_502 dL_law_503 (by omega) (n := 504) rfl ?_
  refine X.arg (j := 3) 3 0 rfl rfl (by decide) dL_law_504 dL_law_505 dL_law_506 dL_law_507 dL_law_508 (by omega) (n := 509) rfl ?_
  refine X.arg (j := 4) 3 0 rfl rfl (by decide) dL_law_509 dL_law_510 dL_law_511 dL_law_512 dL_law_513 (by omega) (n := 514) rfl ?_
  refine X.call (b := 983) (As := [.int (xs (i + 1)), .int (xs (i + 2)), .int (xs (i + 3)), .int (xs (i + 4))]) (rest := [.int o]) dL_law_514 okX11_setKind lkL_58 siX11_setKind seX11_setKind rfl (Nat.le_of_ble_eq_true rfl) (by decide) MO rfl (xfX11_setKind (d := 67) e2) (n := 517) rfl ?_
  exact X.cmp dL_law_517 (by decide) (K _ R')
/-- publish -/
theorem law_c10 (X : LW nm xs L P) {i k : Nat} (hi : i + 5 < L) (hk : k ≤ 511) (R : RR h k) (K : ∀ g, RR g (k + 1) → P 1505 (lvs i) [] g) : P 522 (lvs i) [] h := by
  obtain ⟨o, g, g', e1, e2, R'⟩ := rd_publish R 
  have MO : isO g 983 11 = true := isO_sk (sfX10_publish e1) R.2.1.o
  refine X.al (q := 1) 2 dL_law_522 rfl rfl (n := 523) rfl ?_
  refine X.call (b := 0) (As := []) (rest := []) dL_law_523 okX10_publish lkL_59 siX10_publish seX10_publish rfl (Nat.le_of_ble_eq_true rfl) (by decide) R.1.o rfl (xfX10_publish (d := 67) e1) (n := 526) rfl ?_
  refine X.al (q := 2) 1 dL_law_526 rfl rfl (n := 527) rfl ?_
  refine X.call (b := 983) (As := []) (rest := [.int o]) dL_law_527 okX11_publish lkL_62 siX11_publish seX11_publish rfl (Nat.le_of_ble_eq_true rfl) (by decide) MO rfl (xfX11_publish (d := 70) e2) (n := 530) rfl ?_
  exact X.cmp dL_law_530 (by decide) (K _ R')
/-- begin -/
theorem law_c11 (X : LW nm xs L P) {i k : Nat} (hi : i + 5 < L) (hk : k ≤ 511) (R : RR h k) (K : ∀ g, RR g (k + 1) → P 1505 (lvs i) [] g) : P 535 (lvs i) [] h := by
  obtain ⟨o, g, g', e1, e2, R'⟩ := rd_begin R 
  have MO : isO g 983 11 = true := isO_sk (sfX10_begin e1) R.2.1.o
  refine X.al (q := 1) 2 dL_law_535 rfl rfl (n := 536) rfl ?_
  refine X.call (b := 0) (As := []) (rest := []) dL_law_536 okX10_begin lkL_63 siX10_begin seX10_begin rfl (Nat.le_of_ble_eq_true rfl) (by decide) R.1.o rfl (xfX10_begin (d := 67) e1) (n := 539) rfl ?_
  refine X.al (q := 2) 1 dL_law_539 rfl rfl (n := 540) rfl ?_
  refine X.call (b := 983) (As := []) (rest := [.int o]) dL_law_540 okX11_begin lkL_66 siX11_begin seX11_begin rfl (Nat.le_of_ble_eq_true rfl) (by decide) MO rfl (xfX11_begin (d := 70) e2) (n := 543) rfl ?_
  exact X.cmp dL_law_543 (by decide) (K _ R')
/-- answer -/
theorem law_c12 (X : LW nm xs L P) {i k : Nat} (hi : i + 5 < L) (hk : k ≤ 511) (R : RR h k) (K : ∀ g, RR g (k + 1) → P 1505 (lvs i) [] g) : P 548 (lvs i) [] h := by
  obtain ⟨o, g, g', e1, e2, R'⟩ := rd_answer R (by omega) (xs (i + 1)) (xs (i + 2)) (xs (i + 3))
  have MO : isO g 983 11 = true := isO_sk (sfX10_answer e1) R.2.1.o
  refine X.al (q := 1) 2 dL_law_548 rfl rfl (n := 549) rfl ?_
  refine X.arg (j := 1) 3 0 rfl rfl (by decide) dL_law_549 dL_law_550 dL_law_551 dL_law_552 dL_law_553 (by omega) (n := 554) rfl ?_
  refine X.arg (j := 2) 3 0 rfl rfl (by decide) dL_law_554 dL_law_555 dL_law_556 dL_law_557 dL_law_558 (by omega) (n := 559) rfl ?_
  refine X.arg (j := 3) 3 0 rfl rfl (by decide) dL_law_559 dL_law_560 dL_law_561 dL_law_562 dL_law_563 (by omega) (n := 564) rfl ?_
  refine X.call (b := 0) (As := [.int (xs (i + 1)), .int (xs (i + 2)), .int (xs (i + 3))]) (rest := []) dL_law_564 okX10_answer lkL_67 siX10_answer seX10_answer rfl (Nat.le_of_ble_eq_true rfl) (by decide) R.1.o rfl (xfX10_answer (d := 2) e1) (n := 567) rfl ?_
  refine X.al (q := 2) 1 dL_law_567 rfl rfl (n := 568) rfl ?_
  refine X.arg (j := 1) 3 0 rfl rfl (by decide) dL_law_568 dL_law_569 dL_law_570 dL_law_571 dL_law_572 (by omega) (n := 573) rfl ?_
  refine X.arg (j := 2) 3 0 rfl rfl (by decide) dL_law_573 dL_law_574 dL_law_575 dL_law_576 dL_law_577 (by omega) (n := 578) rfl ?_
  refine X.arg (j := 3) 3 0 rfl rfl (by decide) dL_law_578 dL_law_579 dL_law_580 dL_law_581 dL_law_582 (by omega) (n := 583) rfl ?_
  refine X.call (b := 983) (As := [.int (xs (i + 1)), .int (xs (i + 2)), .int (xs (i + 3))]) (rest := [.int o]) dL_law_583 okX11_answer lkL_71 siX11_answer seX11_answer rfl (Nat.le_of_ble_eq_true rfl) (by decide) MO rfl (xfX11_answer (d := 67) e2) (n := 586) rfl ?_
  exact X.cmp dL_law_586 (by decide) (K _ R')
/-- advance -/
theorem law_c13 (X : LW nm xs L P) {i k : Nat} (hi : i + 5 < L) (hk : k ≤ 511) (R : RR h k) (K : ∀ g, RR g (k + 1) → P 1505 (lvs i) [] g) : P 591 (lvs i) [] h := by
  obtain ⟨o, g, g', e1, e2, R'⟩ := rd_advance R (xs (i + 1))
  have MO : isO g 983 11 = true := isO_sk (sfX10_advance e1) R.2.1.o
  refine X.al (q := 1) 2 dL_law_591 rfl rfl (n := 592) rfl ?_
  refine X.arg (j := 1) 3 0 rfl rfl (by decide) dL_law_592 dL_law_593 dL_law_594 dL_law_595 dL_law_596 (by omega) (n := 597) rfl ?_
  refine X.call (b := 0) (As := [.int (xs (i + 1))]) (rest := []) dL_law_597 okX10_advance lkL_72 siX10_advance seX10_advance rfl (Nat.le_of_ble_eq_true rfl) (by decide) R.1.o rfl (xfX10_advance (d := 67) e1) (n := 600) rfl ?_
  refine X.al (q := 2) 1 dL_law_600 rfl rfl (n := 601) rfl ?_
  refine X.arg (j := 1) 3 0 rfl rfl (by decide) dL_law_601 dL_law_602 dL_law_603 dL_law_604 dL_law_605 (by omega) (n := 606) rfl ?_
  refine X.call (b := 983) (As := [.int (xs (i + 1))]) (rest := [.int o]) dL_law_606 okX11_advance lkL_75 siX11_advance seX11_advance rfl (Nat.le_of_ble_eq_true rfl) (by decide) MO rfl (xfX11_advance (d := 69) e2) (n := 609) rfl ?_
  exact X.cmp dL_law_609 (by decide) (K _ R')
/-- undo -/
theorem law_c14 (X : LW nm xs L P) {i k : Nat} (hi : i + 5 < L) (hk : k ≤ 511) (R : RR h k) (K : ∀ g, RR g (k + 1) → P 1505 (lvs i) [] g) : P 614 (lvs i) [] h := by
  obtain ⟨o, g, g', e1, e2, R'⟩ := rd_undo R 
  have MO : isO g 983 11 = true := isO_sk (sfX10_undo e1) R.2.1.o
  refine X.al (q := 1) 2 dL_law_614 rfl rfl (n := 615) rfl ?_
  refine X.call (b := 0) (As := []) (rest := []) dL_law_615 okX10_undo lkL_76 siX10_undo seX10_undo rfl (Nat.le_of_ble_eq_true rfl) (by decide) R.1.o rfl (xfX10_undo (d := 68) e1) (n := 618) rfl ?_
  refine X.al (q := 2) 1 dL_law_618 rfl rfl (n := 619) rfl ?_
  refine X.call (b := 983) (As := []) (rest := [.int o]) dL_law_619 okX11_undo lkL_79 siX11_undo seX11_undo rfl (Nat.le_of_ble_eq_true rfl) (by decide) MO rfl (xfX11_undo (d := 71) e2) (n := 622) rfl ?_
  exact X.cmp dL_law_622 (by decide) (K _ R')
/-- value -/
theorem law_c15 (X : LW nm xs L P) {i k : Nat} (hi : i + 5 < L) (hk : k ≤ 511) (R : RR h k) (K : ∀ g, RR g (k + 1) → P 1505 (lvs i) [] g) : P 627 (lvs i) [] h := by
  obtain ⟨o, e1, e2⟩ := rd_value R (by omega) (xs (i + 1))
  have MO : isO h 983 11 = true := R.2.1.o
  have R' := RR_up R (show k ≤ k + 1 by omega)
  refine X.al (q := 1) 2 dL_law_627 rfl rfl (n := 628) rfl ?_
  refine X.arg (j := 1) 3 0 rfl rfl (by decide) dL_law_628 dL_law_629 dL_law_630 dL_law_631 dL_law_632 (by omega) (n := 633) rfl ?_
  refine X.call (b := 0) (As := [.int (xs (i + 1))]) (rest := []) dL_law_633 okX10_value lkL_80 siX10_value seX10_value rfl (Nat.le_of_ble_eq_true rfl) (by decide) R.1.o rfl (xfX10_value (d := 68) e1) (n := 636) rfl ?_
  refine X.al (q := 2) 1 dL_law_636 rfl rfl (n := 637) rfl ?_
  refine X.arg (j := 1) 3 0 rfl rfl (by decide) dL_law_637 dL_law_638 dL_law_639 dL_law_640 dL_law_641 (by omega) (n := 642) rfl ?_
  refine X.call (b := 983) (As := [.int (xs (i + 1))]) (rest := [.int o]) dL_law_642 okX11_value lkL_83 siX11_value seX11_value rfl (Nat.le_of_ble_eq_true rfl) (by decide) MO rfl (xfX11_value (d := 68) e2) (n := 645) rfl ?_
  exact X.cmp dL_law_645 (by decide) (K _ R')
/-- node -/
theorem law_c16 (X : LW nm xs L P) {i k : Nat} (hi : i + 5 < L) (hk : k ≤ 511) (R : RR h k) (K : ∀ g, RR g (k + 1) → P 1505 (lvs i) [] g) : P 650 (lvs i) [] h := by
  obtain ⟨o, e1, e2⟩ := rd_node R (by omega) (xs (i + 1)) (xs (i + 2))
  have MO : isO h 983 11 = true := R.2.1.o
  have R' := RR_up R (show k ≤ k + 1 by omega)
  refine X.al (q := 1) 2 dL_law_650 rfl rfl (n := 651) rfl ?_
  refine X.arg (j := 1) 3 0 rfl rfl (by decide) dL_law_651 dL_law_652 dL_law_653 dL_law_654 dL_law_655 (by omega) (n := 656) rfl ?_
  refine X.arg (j := 2) 3 0 rfl rfl (by decide) dL_law_656 dL_law_657 dL_law_658 dL_law_659 dL_law_660 (by omega) (n := 661) rfl ?_
  refine X.call (b := 0) (As := [.int (xs (i + 1)), .int (xs (i + 2))]) (rest := []) dL_law_661 okX10_node lkL_84 siX10_node seX10_node rfl (Nat.le_of_ble_eq_true rfl) (by decide) R.1.o rfl (xfX10_node (d := 69) e1) (n := 664) rfl ?_
  refine X.al (q := 2) 1 dL_law_664 rfl rfl (n := 665) rfl ?_
  refine X.arg (j := 1) 3 0 rfl rfl (by decide) dL_law_665 dL_law_666 dL_law_667 dL_law_668 dL_law_669 (by omega) (n := 670) rfl ?_
  refine X.arg (j := 2) 3 0 rfl rfl (by decide) dL_law_670 dL_law_671 dL_law_672 dL_law_673 dL_law_674 (by omega) (n := 675) rfl ?_
  refine X.call (b := 983) (As := [.int (xs (i + 1)), .int (xs (i + 2))]) (rest := [.int o]) dL_law_675 okX11_node lkL_88 siX11_node seX11_node rfl (Nat.le_of_ble_eq_true rfl) (by decide) MO rfl (xfX11_node (d := 68) e2) (n := 678) rfl ?_
  exact X.cmp dL_law_678 (by decide) (K _ R')
/-- letter -/
theorem law_c17 (X : LW nm xs L P) {i k : Nat} (hi : i + 5 < L) (hk : k ≤ 511) (R : RR h k) (K : ∀ g, RR g (k + 1) → P 1505 (lvs i) [] g) : P 683 (lvs i) [] h := by
  obtain ⟨o, e1, e2⟩ := rd_letter R (xs (i + 1)) (xs (i + 2))
  have MO : isO h 983 11 = true := R.2.1.o
  have R' := RR_up R (show k ≤ k + 1 by omega)
  refine X.al (q := 1) 2 dL_law_683 rfl rfl (n := 684) rfl ?_
  refine X.arg (j := 1) 3 0 rfl rfl (by decide) dL_law_684 dL_law_685 dL_law_686 dL_law_687 dL_law_688 (by omega) (n := 689) rfl ?_
  refine X.arg (j := 2) 3 0 rfl rfl (by decide) dL_law_689 dL_law_690 dL_law_691 dL_law_692 dL_law_693 (by omega) (n := 694) rfl ?_
  refine X.call (b := 0) (As := [.int (xs (i + 1)), .int (xs (i + 2))]) (rest := []) dL_law_694 okX10_letter lkL_89 siX10_letter seX10_letter rfl (Nat.le_of_ble_eq_true rfl) (by decide) R.1.o rfl (xfX10_letter (d := 70) e1) (n := 697) rfl ?_
  refine X.al (q := 2) 1 dL_law_697 rfl rfl (n := 698) rfl ?_
  refine X.arg (j := 1) 3 0 rfl rfl (by decide) dL_law_698 dL_law_699 dL_law_700 dL_law_701 dL_law_702 (by omega) (n := 703) rfl ?_
  refine X.arg (j := 2) 3 0 rfl rfl (by decide) dL_law_703 dL_law_704 dL_law_705 dL_law_706 dL_law_707 (by omega) (n := 708) rfl ?_
  refine X.call (b := 983) (As := [.int (xs (i + 1)), .int (xs (i + 2))]) (rest := [.int o]) dL_law_708 okX11_letter lkL_92 siX11_letter seX11_letter rfl (Nat.le_of_ble_eq_true rfl) (by decide) MO rfl (xfX11_letter (d := 68) e2) (n := 711) rfl ?_
  exact X.cmp dL_law_711 (by decide) (K _ R')
/-- named -/
theorem law_c18 (X : LW nm xs L P) {i k : Nat} (hi : i + 5 < L) (hk : k ≤ 511) (R : RR h k) (K : ∀ g, RR g (k + 1) → P 1505 (lvs i) [] g) : P 716 (lvs i) [] h := by
  obtain ⟨o, e1, e2⟩ := rd_named R (xs (i + 1))
  have MO : isO h 983 11 = true := R.2.1.o
  have R' := RR_up R (show k ≤ k + 1 by omega)
  refine X.al (q := 1) 2 dL_law_716 rfl rfl (n := 717) rfl ?_
  refine X.arg (j := 1) 3 0 rfl rfl (by decide) dL_law_717 dL_law_718 dL_law_719 dL_law_720 dL_law_721 (by omega) (n := 722) rfl ?_
  refine X.call (b := 0) (As := [.int (xs (i + 1))]) (rest := []) dL_law_722 okX10_named lkL_93 siX10_named seX10_named rfl (Nat.le_of_ble_eq_true rfl) (by decide) R.1.o rfl (xfX10_named (d := 69) e1) (n := 725) rfl ?_
  refine X.al (q := 2) 1 dL_law_725 rfl rfl (n := 726) rfl ?_
  refine X.arg (j := 1) 3 0 rfl rfl (by decide) dL_law_726 dL_law_727 dL_law_728 dL_law_729 dL_law_730 (by omega) (n := 731) rfl ?_
  refine X.call (b := 983) (As := [.int (xs (i + 1))]) (rest := [.int o]) dL_law_731 okX11_named lkL_96 siX11_named seX11_named rfl (Nat.le_of_ble_eq_true rfl) (by decide) MO rfl (xfX11_named (d := 68) e2) (n := 734) rfl ?_
  exact X.cmp dL_law_734 (by decide) (K _ R')
/-- nodeAt -/
theorem law_c19 (X : LW nm xs L P) {i k : Nat} (hi : i + 5 < L) (hk : k ≤ 511) (R : RR h k) (K : ∀ g, RR g (k + 1) → P 1505 (lvs i) [] g) : P 739 (lvs i) [] h := by
  obtain ⟨o, e1, e2⟩ := rd_nodeAt R (xs (i + 1))
  have MO : isO h 983 11 = true := R.2.1.o
  have R' := RR_up R (show k ≤ k + 1 by omega)
  refine X.al (q := 1) 2 dL_law_739 rfl rfl (n := 740) rfl ?_
  refine X.arg (j := 1) 3 0 rfl rfl (by decide) dL_law_740 dL_law_741 dL_law_742 dL_law_743 dL_law_744 (by omega) (n := 745) rfl ?_
  refine X.call (b := 0) (As := [.int (xs (i + 1))]) (rest := []) dL_law_745 okX10_nodeAt lkL_97 siX10_nodeAt seX10_nodeAt rfl (Nat.le_of_ble_eq_true rfl) (by decide) R.1.o rfl (xfX10_nodeAt (d := 70) e1) (n := 748) rfl ?_
  refine X.al (q := 2) 1 dL_law_748 rfl rfl (n := 749) rfl ?_
  refine X.arg (j := 1) 3 0 rfl rfl (by decide) dL_law_749 dL_law_750 dL_law_751 dL_law_752 dL_law_753 (by omega) (n := 754) rfl ?_
  refine X.call (b := 983) (As := [.int (xs (i + 1))]) (rest := [.int o]) dL_law_754 okX11_nodeAt lkL_100 siX11_nodeAt seX11_nodeAt rfl (Nat.le_of_ble_eq_true rfl) (by decide) MO rfl (xfX11_nodeAt (d := 69) e2) (n := 757) rfl ?_
  exact X.cmp dL_law_757 (by decide) (K _ R')
/-- dependsOn -/
theorem law_c20 (X : LW nm xs L P) {i k : Nat} (hi : i + 5 < L) (hk : k ≤ 511) (R : RR h k) (K : ∀ g, RR g (k + 1) → P 1505 (lvs i) [] g) : P 762 (lvs i) [] h := by
  obtain ⟨o, g, e1, e2, R0⟩ := rd_dependsOn R (by omega) (xs (i + 1))
  have MO : isO h 983 11 = true := R.2.1.o
  have R' := RR_up R0 (show k ≤ k + 1 by omega)
  refine X.al (q := 1) 2 dL_law_762 rfl rfl (n := 763) rfl ?_
  refine X.arg (j := 1) 3 0 rfl rfl (by decide) dL_law_763 dL_law_764 dL_law_765 dL_law_766 dL_law_767 (by omega) (n := 768) rfl ?_
  refine X.call (b := 0) (As := [.int (xs (i + 1))]) (rest := []) dL_law_768 okX10_dependsOn lkL_101 siX10_dependsOn seX10_dependsOn rfl (Nat.le_of_ble_eq_true rfl) (by decide) R.1.o rfl (xfX10_dependsOn (d := 68) e1) (n := 771) rfl ?_
  refine X.al (q := 2) 1 dL_law_771 rfl rfl (n := 772) rfl ?_
  refine X.arg (j := 1) 3 0 rfl rfl (by decide) dL_law_772 dL_law_773 dL_law_774 dL_law_775 dL_law_776 (by omega) (n := 777) rfl ?_
  refine X.call (b := 983) (As := [.int (xs (i + 1))]) (rest := [.int o]) dL_law_777 okX11_dependsOn lkL_104 siX11_dependsOn seX11_dependsOn rfl (Nat.le_of_ble_eq_true rfl) (by decide) MO rfl (xfX11_dependsOn (d := 67) e2) (n := 780) rfl ?_
  exact X.cmp dL_law_780 (by decide) (K _ R')
/-- dependents -/
theorem law_c21 (X : LW nm xs L P) {i k : Nat} (hi : i + 5 < L) (hk : k ≤ 511) (R : RR h k) (K : ∀ g, RR g (k + 1) → P 1505 (lvs i) [] g) : P 785 (lvs i) [] h := by
  obtain ⟨o, g, e1, e2, R0⟩ := rd_dependents R (by omega) (xs (i + 1))
  have MO : isO h 983 11 = true := R.2.1.o
  have R' := RR_up R0 (show k ≤ k + 1 by omega)
  refine X.al (q := 1) 2 dL_law_785 rfl rfl (n := 786) rfl ?_
  refine X.arg (j := 1) 3 0 rfl rfl (by decide) dL_law_786 dL_law_787 dL_law_788 dL_law_789 dL_law_790 (by omega) (n := 791) rfl ?_
  refine X.call (b := 0) (As := [.int (xs (i + 1))]) (rest := []) dL_law_791 okX10_dependents lkL_105 siX10_dependents seX10_dependents rfl (Nat.le_of_ble_eq_true rfl) (by decide) R.1.o rfl (xfX10_dependents (d := 67) e1) (n := 794) rfl ?_
  refine X.al (q := 2) 1 dL_law_794 rfl rfl (n := 795) rfl ?_
  refine X.arg (j := 1) 3 0 rfl rfl (by decide) dL_law_795 dL_law_796 dL_law_797 dL_law_798 dL_law_799 (by omega) (n := 800) rfl ?_
  refine X.call (b := 983) (As := [.int (xs (i + 1))]) (rest := [.int o]) dL_law_800 okX11_dependents lkL_108 siX11_dependents seX11_dependents rfl (Nat.le_of_ble_eq_true rfl) (by decide) MO rfl (xfX11_dependents (d := 67) e2) (n := 803) rfl ?_
  exact X.cmp dL_law_803 (by decide) (K _ R')
/-- inOrder -/
theorem law_c22 (X : LW nm xs L P) {i k : Nat} (hi : i + 5 < L) (hk : k ≤ 511) (R : RR h k) (K : ∀ g, RR g (k + 1) → P 1505 (lvs i) [] g) : P 808 (lvs i) [] h := by
  obtain ⟨o, g, e1, e2, R0⟩ := rd_inOrder R (by omega) (xs (i + 1))
  have MO : isO h 983 11 = true := R.2.1.o
  have R' := RR_up R0 (show k ≤ k + 1 by omega)
  refine X.al (q := 1) 2 dL_law_808 rfl rfl (n := 809) rfl ?_
  refine X.arg (j := 1) 3 0 rfl rfl (by decide) dL_law_809 dL_law_810 dL_law_811 dL_law_812 dL_law_813 (by omega) (n := 814) rfl ?_
  refine X.call (b := 0) (As := [.int (xs (i + 1))]) (rest := []) dL_law_814 okX10_inOrder lkL_109 siX10_inOrder seX10_inOrder rfl (Nat.le_of_ble_eq_true rfl) (by decide) R.1.o rfl (xfX10_inOrder (d := 67) e1) (n := 817) rfl ?_
  refine X.al (q := 2) 1 dL_law_817 rfl rfl (n := 818) rfl ?_
  refine X.arg (j := 1) 3 0 rfl rfl (by decide) dL_law_818 dL_law_819 dL_law_820 dL_law_821 dL_law_822 (by omega) (n := 823) rfl ?_
  refine X.call (b := 983) (As := [.int (xs (i + 1))]) (rest := [.int o]) dL_law_823 okX11_inOrder lkL_112 siX11_inOrder seX11_inOrder rfl (Nat.le_of_ble_eq_true rfl) (by decide) MO rfl (xfX11_inOrder (d := 67) e2) (n := 826) rfl ?_
  exact X.cmp dL_law_826 (by decide) (K _ R')
/-- wouldRefuse -/
theorem law_c23 (X : LW nm xs L P) {i k : Nat} (hi : i + 5 < L) (hk : k ≤ 511) (R : RR h k) (K : ∀ g, RR g (k + 1) → P 1505 (lvs i) [] g) : P 831 (lvs i) [] h := by
  obtain ⟨o, g, e1, e2, R0⟩ := rd_wouldRefuse R (by omega) (xs (i + 1)) (xs (i + 2))
  have MO : isO h 983 11 = true := R.2.1.o
  have R' := RR_up R0 (show k ≤ k + 1 by omega)
  refine X.al (q := 1) 2 dL_law_831 rfl rfl (n := 832) rfl ?_
  refine X.arg (j := 1) 3 0 rfl rfl (by decide) dL_law_832 dL_law_833 dL_law_834 dL_law_835 dL_law_836 (by omega) (n := 837) rfl ?_
  refine X.arg (j := 2) 3 0 rfl rfl (by decide) dL_law_837 dL_law_838 dL_law_839 dL_law_840 dL_law_841 (by omega) (n := 842) rfl ?_
  refine X.call (b := 0) (As := [.int (xs (i + 1)), .int (xs (i + 2))]) (rest := []) dL_law_842 okX10_wouldRefuse lkL_113 siX10_wouldRefuse seX10_wouldRefuse rfl (Nat.le_of_ble_eq_true rfl) (by decide) R.1.o rfl (xfX10_wouldRefuse (d := 66) e1) (n := 845) rfl ?_
  refine X.al (q := 2) 1 dL_law_845 rfl rfl (n := 846) rfl ?_
  refine X.arg (j := 1) 3 0 rfl rfl (by decide) dL_law_846 dL_law_847 dL_law_848 dL_law_849 dL_law_850 (by omega) (n := 851) rfl ?_
  refine X.arg (j := 2) 3 0 rfl rfl (by decide) dL_law_851 dL_law_852 dL_law_853 dL_law_854 dL_law_855 (by omega) (n := 856) rfl ?_
  refine X.call (b := 983) (As := [.int (xs (i + 1)), .int (xs (i + 2))]) (rest := [.int (bI o)]) dL_law_856 okX11_wouldRefuse lkL_116 siX11_wouldRefuse seX11_wouldRefuse rfl (Nat.le_of_ble_eq_true rfl) (by decide) MO rfl (xfX11_wouldRefuse (d := 67) e2) (n := 859) rfl ?_
  exact X.cmp dL_law_859 (by decide) (K _ R')
/-- exists -/
theorem law_c24 (X : LW nm xs L P) {i k : Nat} (hi : i + 5 < L) (hk : k ≤ 511) (R : RR h k) (K : ∀ g, RR g (k + 1) → P 1505 (lvs i) [] g) : P 864 (lvs i) [] h := by
  obtain ⟨o, e1, e2⟩ := rd_exists R (xs (i + 1)) (xs (i + 2))
  have MO : isO h 983 11 = true := R.2.1.o
  have R' := RR_up R (show k ≤ k + 1 by omega)
  refine X.al (q := 1) 2 dL_law_864 rfl rfl (n := 865) rfl ?_
  refine X.arg (j := 1) 3 0 rfl rfl (by decide) dL_law_865 dL_law_866 dL_law_867 dL_law_868 dL_law_869 (by omega) (n := 870) rfl ?_
  refine X.arg (j := 2) 3 0 rfl rfl (by decide) dL_law_870 dL_law_871 dL_law_872 dL_law_873 dL_law_874 (by omega) (n := 875) rfl ?_
  refine X.call (b := 0) (As := [.int (xs (i + 1)), .int (xs (i + 2))]) (rest := []) dL_law_875 okX10_exists lkL_117 siX10_exists seX10_exists rfl (Nat.le_of_ble_eq_true rfl) (by decide) R.1.o rfl (xfX10_exists (d := 70) e1) (n := 878) rfl ?_
  refine X.al (q := 2) 1 dL_law_878 rfl rfl (n := 879) rfl ?_
  refine X.arg (j := 1) 3 0 rfl rfl (by decide) dL_law_879 dL_law_880 dL_law_881 dL_law_882 dL_law_883 (by omega) (n := 884) rfl ?_
  refine X.arg (j := 2) 3 0 rfl rfl (by decide) dL_law_884 dL_law_885 dL_law_886 dL_law_887 dL_law_888 (by omega) (n := 889) rfl ?_
  refine X.call (b := 983) (As := [.int (xs (i + 1)), .int (xs (i + 2))]) (rest := [.int (bI o)]) dL_law_889 okX11_exists lkL_120 siX11_exists seX11_exists rfl (Nat.le_of_ble_eq_true rfl) (by decide) MO rfl (xfX11_exists (d := 69) e2) (n := 892) rfl ?_
  exact X.cmp dL_law_892 (by decide) (K _ R')
/-- revisionOf -/
theorem law_c25 (X : LW nm xs L P) {i k : Nat} (hi : i + 5 < L) (hk : k ≤ 511) (R : RR h k) (K : ∀ g, RR g (k + 1) → P 1505 (lvs i) [] g) : P 897 (lvs i) [] h := by
  obtain ⟨o, e1, e2⟩ := rd_revisionOf R (xs (i + 1))
  have MO : isO h 983 11 = true := R.2.1.o
  have R' := RR_up R (show k ≤ k + 1 by omega)
  refine X.al (q := 1) 2 dL_law_897 rfl rfl (n := 898) rfl ?_
  refine X.arg (j := 1) 3 0 rfl rfl (by decide) dL_law_898 dL_law_899 dL_law_900 dL_law_901 dL_law_902 (by omega) (n := 903) rfl ?_
  refine X.call (b := 0) (As := [.int (xs (i + 1))]) (rest := []) dL_law_903 okX10_revisionOf lkL_121 siX10_revisionOf seX10_revisionOf rfl (Nat.le_of_ble_eq_true rfl) (by decide) R.1.o rfl (xfX10_revisionOf (d := 70) e1) (n := 906) rfl ?_
  refine X.al (q := 2) 1 dL_law_906 rfl rfl (n := 907) rfl ?_
  refine X.arg (j := 1) 3 0 rfl rfl (by decide) dL_law_907 dL_law_908 dL_law_909 dL_law_910 dL_law_911 (by omega) (n := 912) rfl ?_
  refine X.call (b := 983) (As := [.int (xs (i + 1))]) (rest := [.int o]) dL_law_912 okX11_revisionOf lkL_124 siX11_revisionOf seX11_revisionOf rfl (Nat.le_of_ble_eq_true rfl) (by decide) MO rfl (xfX11_revisionOf (d := 69) e2) (n := 915) rfl ?_
  exact X.cmp dL_law_915 (by decide) (K _ R')
/-- answers -/
theorem law_c26 (X : LW nm xs L P) {i k : Nat} (hi : i + 5 < L) (hk : k ≤ 511) (R : RR h k) (K : ∀ g, RR g (k + 1) → P 1505 (lvs i) [] g) : P 920 (lvs i) [] h := by
  obtain ⟨o, e1, e2⟩ := rd_answers R (xs (i + 1))
  have MO : isO h 983 11 = true := R.2.1.o
  have R' := RR_up R (show k ≤ k + 1 by omega)
  refine X.al (q := 1) 2 dL_law_920 rfl rfl (n := 921) rfl ?_
  refine X.arg (j := 1) 3 0 rfl rfl (by decide) dL_law_921 dL_law_922 dL_law_923 dL_law_924 dL_law_925 (by omega) (n := 926) rfl ?_
  refine X.call (b := 0) (As := [.int (xs (i + 1))]) (rest := []) dL_law_926 okX10_answers lkL_125 siX10_answers seX10_answers rfl (Nat.le_of_ble_eq_true rfl) (by decide) R.1.o rfl (xfX10_answers (d := 70) e1) (n := 929) rfl ?_
  refine X.al (q := 2) 1 dL_law_929 rfl rfl (n := 930) rfl ?_
  refine X.arg (j := 1) 3 0 rfl rfl (by decide) dL_law_930 dL_law_931 dL_law_932 dL_law_933 dL_law_934 (by omega) (n := 935) rfl ?_
  refine X.call (b := 983) (As := [.int (xs (i + 1))]) (rest := [.int o]) dL_law_935 okX11_answers lkL_128 siX11_answers seX11_answers rfl (Nat.le_of_ble_eq_true rfl) (by decide) MO rfl (xfX11_answers (d := 69) e2) (n := 938) rfl ?_
  exact X.cmp dL_law_938 (by decide) (K _ R')
/-- isShown -/
theorem law_c27 (X : LW nm xs L P) {i k : Nat} (hi : i + 5 < L) (hk : k ≤ 511) (R : RR h k) (K : ∀ g, RR g (k + 1) → P 1505 (lvs i) [] g) : P 943 (lvs i) [] h := by
  obtain ⟨o, g, g', e1, e2, R'⟩ := rd_isShown R (by omega) (xs (i + 1)) (xs (i + 2)) (xs (i + 3))
  have MO : isO g 983 11 = true := isO_sk (sfX10_isShown e1) R.2.1.o
  refine X.al (q := 1) 2 dL_law_943 rfl rfl (n := 944) rfl ?_
  refine X.arg (j := 1) 3 0 rfl rfl (by decide) dL_law_944 dL_law_945 dL_law_946 dL_law_947 dL_law_948 (by omega) (n := 949) rfl ?_
  refine X.arg (j := 2) 3 0 rfl rfl (by decide) dL_law_949 dL_law_950 dL_law_951 dL_law_952 dL_law_953 (by omega) (n := 954) rfl ?_
  refine X.arg (j := 3) 3 0 rfl rfl (by decide) dL_law_954 dL_law_955 dL_law_956 dL_law_957 dL_law_958 (by omega) (n := 959) rfl ?_
  refine X.call (b := 0) (As := [.int (xs (i + 1)), .int (xs (i + 2)), .int (xs (i + 3))]) (rest := []) dL_law_959 okX10_isShown lkL_129 siX10_isShown seX10_isShown rfl (Nat.le_of_ble_eq_true rfl) (by decide) R.1.o rfl (xfX10_isShown (d := 2) e1) (n := 962) rfl ?_
  refine X.al (q := 2) 1 dL_law_962 rfl rfl (n := 963) rfl ?_
  refine X.arg (j := 1) 3 0 rfl rfl (by decide) dL_law_963 dL_law_964 dL_law_965 dL_law_966 dL_law_967 (by omega) (n := 968) rfl ?_
  refine X.arg (j := 2) 3 0 rfl rfl (by decide) dL_law_968 dL_law_969 dL_law_970 dL_law_971 dL_law_972 (by omega) (n := 973) rfl ?_
  refine X.arg (j := 3) 3 0 rfl rfl (by decide) dL_law_973 dL_law_974 dL_law_975 dL_law_976 dL_law_977 (by omega) (n := 978) rfl ?_
  refine X.call (b := 983) (As := [.int (xs (i + 1)), .int (xs (i + 2)), .int (xs (i + 3))]) (rest := [.int (bI o)]) dL_law_978 okX11_isShown lkL_132 siX11_isShown seX11_isShown rfl (Nat.le_of_ble_eq_true rfl) (by decide) MO rfl (xfX11_isShown (d := 67) e2) (n := 981) rfl ?_
  exact X.cmp dL_law_981 (by decide) (K _ R')
/-- inForce -/
theorem law_c28 (X : LW nm xs L P) {i k : Nat} (hi : i + 5 < L) (hk : k ≤ 511) (R : RR h k) (K : ∀ g, RR g (k + 1) → P 1505 (lvs i) [] g) : P 986 (lvs i) [] h := by
  obtain ⟨o, g, g', e1, e2, R'⟩ := rd_inForce R (by omega) (xs (i + 1)) (xs (i + 2)) (xs (i + 3))
  have MO : isO g 983 11 = true := isO_sk (sfX10_inForce e1) R.2.1.o
  refine X.al (q := 1) 2 dL_law_986 rfl rfl (n := 987) rfl ?_
  refine X.arg (j := 1) 3 0 rfl rfl (by decide) dL_law_987 dL_law_988 dL_law_989 dL_law_990 dL_law_991 (by omega) (n := 992) rfl ?_
  refine X.arg (j := 2) 3 0 rfl rfl (by decide) dL_law_992 dL_law_993 dL_law_994 dL_law_995 dL_law_996 (by omega) (n := 997) rfl ?_
  refine X.arg (j := 3) 3 0 rfl rfl (by decide) dL_law_997 dL_law_998 dL_law_999 dL_law_1000 dL_law_1001 (by omega) (n := 1002) rfl ?_
  refine X.call (b := 0) (As := [.int (xs (i + 1)), .int (xs (i + 2)), .int (xs (i + 3))]) (rest := []) dL_law_1002 okX10_inForce lkL_133 siX10_inForce seX10_inForce rfl (Nat.le_of_ble_eq_true rfl) (by decide) R.1.o rfl (xfX10_inForce (d := 2) e1) (n := 1005) rfl ?_
  refine X.al (q := 2) 1 dL_law_1005 rfl rfl (n := 1006) rfl ?_
  refine X.arg (j := 1) 3 0 rfl rfl (by decide) dL_law_1006 dL_law_1007 dL_law_1008 dL_law_1009 dL_law_1010 (by omega) (n := 1011) rfl ?_
  refine X.arg (j := 2) 3 0 rfl rfl (by decide) dL_law_1011 dL_law_1012 dL_law_1013 dL_law_1014 dL_law_1015 (by omega) (n := 1016) rfl ?_
  refine X.arg (j := 3) 3 0 rfl rfl (by decide) dL_law_1016 dL_law_1017 dL_law_1018 dL_law_1019 dL_law_1020 (by omega) (n := 1021) rfl ?_
  refine X.call (b := 983) (As := [.int (xs (i + 1)), .int (xs (i + 2)), .int (xs (i + 3))]) (rest := [.int o]) dL_law_1021 okX11_inForce lkL_136 siX11_inForce seX11_inForce rfl (Nat.le_of_ble_eq_true rfl) (by decide) MO rfl (xfX11_inForce (d := 67) e2) (n := 1024) rfl ?_
  exact X.cmp dL_law_1024 (by decide) (K _ R')
/-- open -/
theorem law_c29 (X : LW nm xs L P) {i k : Nat} (hi : i + 5 < L) (hk : k ≤ 511) (R : RR h k) (K : ∀ g, RR g (k + 1) → P 1505 (lvs i) [] g) : P 1029 (lvs i) [] h := by
  obtain ⟨o, g, g', e1, e2, R'⟩ := rd_open R (by omega) (xs (i + 1))
  have MO : isO g 983 11 = true := isO_sk (sfX10_open e1) R.2.1.o
  refine X.al (q := 1) 2 dL_law_1029 rfl rfl (n := 1030) rfl ?_
  refine X.arg (j := 1) 3 0 rfl rfl (by decide) dL_law_1030 dL_law_1031 dL_law_1032 dL_law_1033 dL_law_1034 (by omega) (n := 1035) rfl ?_
  refine X.call (b := 0) (As := [.int (xs (i + 1))]) (rest := []) dL_law_1035 okX10_open lkL_137 siX10_open seX10_open rfl (Nat.le_of_ble_eq_true rfl) (by decide) R.1.o rfl (xfX10_open (d := 1) e1) (n := 1038) rfl ?_
  refine X.al (q := 2) 1 dL_law_1038 rfl rfl (n := 1039) rfl ?_
  refine X.arg (j := 1) 3 0 rfl rfl (by decide) dL_law_1039 dL_law_1040 dL_law_1041 dL_law_1042 dL_law_1043 (by omega) (n := 1044) rfl ?_
  refine X.call (b := 983) (As := [.int (xs (i + 1))]) (rest := [.int o]) dL_law_1044 okX11_open lkL_140 siX11_open seX11_open rfl (Nat.le_of_ble_eq_true rfl) (by decide) MO rfl (xfX11_open (d := 67) e2) (n := 1047) rfl ?_
  exact X.cmp dL_law_1047 (by decide) (K _ R')
/-- completeness -/
theorem law_c30 (X : LW nm xs L P) {i k : Nat} (hi : i + 5 < L) (hk : k ≤ 511) (R : RR h k) (K : ∀ g, RR g (k + 1) → P 1505 (lvs i) [] g) : P 1052 (lvs i) [] h := by
  obtain ⟨o, g, g', e1, e2, R', nn⟩ := rd_completeness R (by omega) (xs (i + 1))
  have MO : isO g 983 11 = true := isO_sk (sfX10_completeness e1) R.2.1.o
  refine X.al (q := 1) 2 dL_law_1052 rfl rfl (n := 1053) rfl ?_
  refine X.arg (j := 1) 3 0 rfl rfl (by decide) dL_law_1053 dL_law_1054 dL_law_1055 dL_law_1056 dL_law_1057 (by omega) (n := 1058) rfl ?_
  refine X.call (b := 0) (As := [.int (xs (i + 1))]) (rest := []) dL_law_1058 okX10_completeness lkL_141 siX10_completeness seX10_completeness rfl (Nat.le_of_ble_eq_true rfl) (by decide) R.1.o rfl (xfX10_completeness (d := 1) e1) (n := 1061) rfl ?_
  refine X.f2ds (i := 4) (lv1 := ((4, .double (FP.f2d o)) :: lvs i)) nn dL_law_1061 dL_law_1062 (by decide) rfl (n := 1064) rfl ?_
  refine X.al (q := 2) 2 dL_law_1064 rfl rfl (n := 1065) rfl ?_
  refine X.arg (j := 1) 4 1 rfl rfl (by decide) dL_law_1065 dL_law_1066 dL_law_1067 dL_law_1068 dL_law_1069 (by omega) (n := 1070) rfl ?_
  refine X.call (b := 983) (As := [.int (xs (i + 1))]) (rest := []) dL_law_1070 okX11_completeness lkL_145 siX11_completeness seX11_completeness rfl (Nat.le_of_ble_eq_true rfl) (by decide) MO rfl (xfX11_completeness (d := 67) e2) (n := 1073) rfl ?_
  refine X.f2ds (i := 6) (lv1 := ((6, .double (FP.f2d o)) :: (4, .double (FP.f2d o)) :: lvs i)) nn dL_law_1073 dL_law_1074 (by decide) rfl (n := 1076) rfl ?_
  have fin : P 1102 ((6, .double (FP.f2d o)) :: (4, .double (FP.f2d o)) :: lvs i) [] g' := X.goto 403 1505 dL_law_1102 (by decide) (X.weak [2, 3, 4, 5] (lvs i) rfl (K _ R'))
  refine X.dcm 1 0 dL_law_1076 dL_law_1078 dL_law_1080 rfl rfl (n := 1081) rfl ?_
  refine X.if_eq _ 21 1102 dL_law_1081 (by decide) (fun _ => fin) (fun c => ?_)
  refine X.dcm 1 1 dL_law_1084 dL_law_1086 dL_law_1088 rfl rfl (n := 1089) rfl ?_
  refine X.if_eq _ 11 1100 dL_law_1089 (by decide) (fun z => absurd z c) (fun _ => ?_)
  refine X.dcm 0 0 dL_law_1092 dL_law_1094 dL_law_1096 rfl rfl (n := 1097) rfl ?_
  exact X.if_ne _ 5 1102 dL_law_1097 (by decide) (fun _ => fin) (fun z => absurd z c)
/-- average -/
theorem law_c31 (X : LW nm xs L P) {i k : Nat} (hi : i + 5 < L) (hk : k ≤ 511) (R : RR h k) (K : ∀ g, RR g (k + 1) → P 1505 (lvs i) [] g) : P 1105 (lvs i) [] h := by
  obtain ⟨o, g, g', e1, e2, R', nn⟩ := rd_average R (by omega) (xs (i + 1))
  have MO : isO g 983 11 = true := isO_sk (sfX10_average e1) R.2.1.o
  refine X.al (q := 1) 2 dL_law_1105 rfl rfl (n := 1106) rfl ?_
  refine X.arg (j := 1) 3 0 rfl rfl (by decide) dL_law_1106 dL_law_1107 dL_law_1108 dL_law_1109 dL_law_1110 (by omega) (n := 1111) rfl ?_
  refine X.call (b := 0) (As := [.int (xs (i + 1))]) (rest := []) dL_law_1111 okX10_average lkL_146 siX10_average seX10_average rfl (Nat.le_of_ble_eq_true rfl) (by decide) R.1.o rfl (xfX10_average (d := 1) e1) (n := 1114) rfl ?_
  refine X.f2ds (i := 4) (lv1 := ((4, .double (FP.f2d o)) :: lvs i)) nn dL_law_1114 dL_law_1115 (by decide) rfl (n := 1117) rfl ?_
  refine X.al (q := 2) 2 dL_law_1117 rfl rfl (n := 1118) rfl ?_
  refine X.arg (j := 1) 4 1 rfl rfl (by decide) dL_law_1118 dL_law_1119 dL_law_1120 dL_law_1121 dL_law_1122 (by omega) (n := 1123) rfl ?_
  refine X.call (b := 983) (As := [.int (xs (i + 1))]) (rest := []) dL_law_1123 okX11_average lkL_149 siX11_average seX11_average rfl (Nat.le_of_ble_eq_true rfl) (by decide) MO rfl (xfX11_average (d := 67) e2) (n := 1126) rfl ?_
  refine X.f2ds (i := 6) (lv1 := ((6, .double (FP.f2d o)) :: (4, .double (FP.f2d o)) :: lvs i)) nn dL_law_1126 dL_law_1127 (by decide) rfl (n := 1129) rfl ?_
  have fin : P 1155 ((6, .double (FP.f2d o)) :: (4, .double (FP.f2d o)) :: lvs i) [] g' := X.goto 350 1505 dL_law_1155 (by decide) (X.weak [2, 3, 4, 5] (lvs i) rfl (K _ R'))
  refine X.dcm 1 0 dL_law_1129 dL_law_1131 dL_law_1133 rfl rfl (n := 1134) rfl ?_
  refine X.if_eq _ 21 1155 dL_law_1134 (by decide) (fun _ => fin) (fun c => ?_)
  refine X.dcm 1 1 dL_law_1137 dL_law_1139 dL_law_1141 rfl rfl (n := 1142) rfl ?_
  refine X.if_eq _ 11 1153 dL_law_1142 (by decide) (fun z => absurd z c) (fun _ => ?_)
  refine X.dcm 0 0 dL_law_1145 dL_law_1147 dL_law_1149 rfl rfl (n := 1150) rfl ?_
  exact X.if_ne _ 5 1155 dL_law_1150 (by decide) (fun _ => fin) (fun z => absurd z c)
/-- tally -/
theorem law_c32 (X : LW nm xs L P) {i k : Nat} (hi : i + 5 < L) (hk : k ≤ 511) (R : RR h k) (K : ∀ g, RR g (k + 1) → P 1505 (lvs i) [] g) : P 1158 (lvs i) [] h := by
  obtain ⟨o, g, g', e1, e2, R'⟩ := rd_tally R (by omega) (xs (i + 1)) (xs (i + 2))
  have MO : isO g 983 11 = true := isO_sk (sfX10_tally e1) R.2.1.o
  refine X.al (q := 1) 2 dL_law_1158 rfl rfl (n := 1159) rfl ?_
  refine X.arg (j := 1) 3 0 rfl rfl (by decide) dL_law_1159 dL_law_1160 dL_law_1161 dL_law_1162 dL_law_1163 (by omega) (n := 1164) rfl ?_
  refine X.arg (j := 2) 3 0 rfl rfl (by decide) dL_law_1164 dL_law_1165 dL_law_1166 dL_law_1167 dL_law_1168 (by omega) (n := 1169) rfl ?_
  refine X.call (b := 0) (As := [.int (xs (i + 1)), .int (xs (i + 2))]) (rest := []) dL_law_1169 okX10_tally lkL_150 siX10_tally seX10_tally rfl (Nat.le_of_ble_eq_true rfl) (by decide) R.1.o rfl (xfX10_tally (d := 1) e1) (n := 1172) rfl ?_
  refine X.al (q := 2) 1 dL_law_1172 rfl rfl (n := 1173) rfl ?_
  refine X.arg (j := 1) 3 0 rfl rfl (by decide) dL_law_1173 dL_law_1174 dL_law_1175 dL_law_1176 dL_law_1177 (by omega) (n := 1178) rfl ?_
  refine X.arg (j := 2) 3 0 rfl rfl (by decide) dL_law_1178 dL_law_1179 dL_law_1180 dL_law_1181 dL_law_1182 (by omega) (n := 1183) rfl ?_
  refine X.call (b := 983) (As := [.int (xs (i + 1)), .int (xs (i + 2))]) (rest := [.int o]) dL_law_1183 okX11_tally lkL_153 siX11_tally seX11_tally rfl (Nat.le_of_ble_eq_true rfl) (by decide) MO rfl (xfX11_tally (d := 67) e2) (n := 1186) rfl ?_
  exact X.cmp dL_law_1186 (by decide) (K _ R')
/-- rows -/
theorem law_c33 (X : LW nm xs L P) {i k : Nat} (hi : i + 5 < L) (hk : k ≤ 511) (R : RR h k) (K : ∀ g, RR g (k + 1) → P 1505 (lvs i) [] g) : P 1191 (lvs i) [] h := by
  obtain ⟨o, g, g', e1, e2, R'⟩ := rd_rows R (by omega) (nz (xs (i + 1))) (xs (i + 2))
  have MO : isO g 983 11 = true := isO_sk (sfX10_rows e1) R.2.1.o
  refine X.al (q := 1) 2 dL_law_1191 rfl rfl (n := 1192) rfl ?_
  refine X.arg (j := 1) 3 0 rfl rfl (by decide) dL_law_1192 dL_law_1193 dL_law_1194 dL_law_1195 dL_law_1196 (by omega) (n := 1197) rfl ?_
  refine X.nzb dL_law_1197 dL_law_1200 dL_law_1201 dL_law_1204 (n := 1205) rfl ?_
  refine X.arg (j := 2) 3 0 rfl rfl (by decide) dL_law_1205 dL_law_1206 dL_law_1207 dL_law_1208 dL_law_1209 (by omega) (n := 1210) rfl ?_
  refine X.call (b := 0) (As := [.int (bI (nz (xs (i + 1)))), .int (xs (i + 2))]) (rest := []) dL_law_1210 okX10_rows lkL_154 siX10_rows seX10_rows rfl (Nat.le_of_ble_eq_true rfl) (by decide) R.1.o rfl (xfX10_rows (d := 1) e1) (n := 1213) rfl ?_
  refine X.al (q := 2) 1 dL_law_1213 rfl rfl (n := 1214) rfl ?_
  refine X.arg (j := 1) 3 0 rfl rfl (by decide) dL_law_1214 dL_law_1215 dL_law_1216 dL_law_1217 dL_law_1218 (by omega) (n := 1219) rfl ?_
  refine X.nzb dL_law_1219 dL_law_1222 dL_law_1223 dL_law_1226 (n := 1227) rfl ?_
  refine X.arg (j := 2) 3 0 rfl rfl (by decide) dL_law_1227 dL_law_1228 dL_law_1229 dL_law_1230 dL_law_1231 (by omega) (n := 1232) rfl ?_
  refine X.call (b := 983) (As := [.int (bI (nz (xs (i + 1)))), .int (xs (i + 2))]) (rest := [.int o]) dL_law_1232 okX11_rows lkL_158 siX11_rows seX11_rows rfl (Nat.le_of_ble_eq_true rfl) (by decide) MO rfl (xfX11_rows (d := 66) e2) (n := 1235) rfl ?_
  exact X.cmp dL_law_1235 (by decide) (K _ R')
/-- place -/
theorem law_c34 (X : LW nm xs L P) {i k : Nat} (hi : i + 5 < L) (hk : k ≤ 511) (R : RR h k) (K : ∀ g, RR g (k + 1) → P 1505 (lvs i) [] g) : P 1240 (lvs i) [] h := by
  obtain ⟨o, g, g', e1, e2, R'⟩ := rd_place R (by omega) (nz (xs (i + 1))) (xs (i + 2)) (xs (i + 3)) (nz (xs (i + 4)))
  have MO : isO g 983 11 = true := isO_sk (sfX10_place e1) R.2.1.o
  refine X.al (q := 1) 2 dL_law_1240 rfl rfl (n := 1241) rfl ?_
  refine X.arg (j := 1) 3 0 rfl rfl (by decide) dL_law_1241 dL_law_1242 dL_law_1243 dL_law_1244 dL_law_1245 (by omega) (n := 1246) rfl ?_
  refine X.nzb dL_law_1246 dL_law_1249 dL_law_1250 dL_law_1253 (n := 1254) rfl ?_
  refine X.arg (j := 2) 3 0 rfl rfl (by decide) dL_law_1254 dL_law_1255 dL_law_1256 dL_law_1257 dL_law_1258 (by omega) (n := 1259) rfl ?_
  refine X.arg (j := 3) 3 0 rfl rfl (by decide) dL_law_1259 dL_law_1260 dL_law_1261 dL_law_1262 dL_law_1263 (by omega) (n := 1264) rfl ?_
  refine X.arg (j := 4) 3 0 rfl rfl (by decide) dL_law_1264 dL_law_1265 dL_law_1266 dL_law_1267 dL_law_1268 (by omega) (n := 1269) rfl ?_
  refine X.nzb dL_law_1269 dL_law_1272 dL_law_1273 dL_law_1276 (n := 1277) rfl ?_
  refine X.call (b := 0) (As := [.int (bI (nz (xs (i + 1)))), .int (xs (i + 2)), .int (xs (i + 3)), .int (bI (nz (xs (i + 4))))]) (rest := []) dL_law_1277 okX10_place lkL_159 siX10_place seX10_place rfl (Nat.le_of_ble_eq_true rfl) (by decide) R.1.o rfl (xfX10_place (d := 1) e1) (n := 1280) rfl ?_
  refine X.al (q := 2) 1 dL_law_1280 rfl rfl (n := 1281) rfl ?_
  refine X.arg (j := 1) 3 0 rfl rfl (by decide) dL_law_1281 dL_law_1282 dL_law_1283 dL_law_1284 dL_law_1285 (by omega) (n := 1286) rfl ?_
  refine X.nzb dL_law_1286 dL_law_1289 dL_law_1290 dL_law_1293 (n := 1294) rfl ?_
  refine X.arg (j := 2) 3 0 rfl rfl (by decide) dL_law_1294 dL_law_1295 dL_law_1296 dL_law_1297 dL_law_1298 (by omega) (n := 1299) rfl ?_
  refine X.arg (j := 3) 3 0 rfl rfl (by decide) dL_law_1299 dL_law_1300 dL_law_1301 dL_law_1302 dL_law_1303 (by omega) (n := 1304) rfl ?_
  refine X.arg (j := 4) 3 0 rfl rfl (by decide) dL_law_1304 dL_law_1305 dL_law_1306 dL_law_1307 dL_law_1308 (by omega) (n := 1309) rfl ?_
  refine X.nzb dL_law_1309 dL_law_1312 dL_law_1313 dL_law_1316 (n := 1317) rfl ?_
  refine X.call (b := 983) (As := [.int (bI (nz (xs (i + 1)))), .int (xs (i + 2)), .int (xs (i + 3)), .int (bI (nz (xs (i + 4))))]) (rest := [.int o]) dL_law_1317 okX11_place lkL_163 siX11_place seX11_place rfl (Nat.le_of_ble_eq_true rfl) (by decide) MO rfl (xfX11_place (d := 66) e2) (n := 1320) rfl ?_
  exact X.cmp dL_law_1320 (by decide) (K _ R')
/-- pages -/
theorem law_c35 (X : LW nm xs L P) {i k : Nat} (hi : i + 5 < L) (hk : k ≤ 511) (R : RR h k) (K : ∀ g, RR g (k + 1) → P 1505 (lvs i) [] g) : P 1325 (lvs i) [] h := by
  obtain ⟨o, g, g', e1, e2, R'⟩ := rd_pages R (by omega) (xs (i + 1))
  have MO : isO g 983 11 = true := isO_sk (sfX10_pages e1) R.2.1.o
  refine X.al (q := 1) 2 dL_law_1325 rfl rfl (n := 1326) rfl ?_
  refine X.arg (j := 1) 3 0 rfl rfl (by decide) dL_law_1326 dL_law_1327 dL_law_1328 dL_law_1329 dL_law_1330 (by omega) (n := 1331) rfl ?_
  refine X.call (b := 0) (As := [.int (xs (i + 1))]) (rest := []) dL_law_1331 okX10_pages lkL_164 siX10_pages seX10_pages rfl (Nat.le_of_ble_eq_true rfl) (by decide) R.1.o rfl (xfX10_pages (d := 1) e1) (n := 1334) rfl ?_
  refine X.al (q := 2) 1 dL_law_1334 rfl rfl (n := 1335) rfl ?_
  refine X.arg (j := 1) 3 0 rfl rfl (by decide) dL_law_1335 dL_law_1336 dL_law_1337 dL_law_1338 dL_law_1339 (by omega) (n := 1340) rfl ?_
  refine X.call (b := 983) (As := [.int (xs (i + 1))]) (rest := [.int o]) dL_law_1340 okX11_pages lkL_167 siX11_pages seX11_pages rfl (Nat.le_of_ble_eq_true rfl) (by decide) MO rfl (xfX11_pages (d := 66) e2) (n := 1343) rfl ?_
  exact X.cmp dL_law_1343 (by decide) (K _ R')
/-- textLength -/
theorem law_c36 (X : LW nm xs L P) {i k : Nat} (hi : i + 5 < L) (hk : k ≤ 511) (R : RR h k) (K : ∀ g, RR g (k + 1) → P 1505 (lvs i) [] g) : P 1348 (lvs i) [] h := by
  obtain ⟨o, g, g', e1, e2, R'⟩ := rd_textLength R (by omega) (nz (xs (i + 1))) (xs (i + 2))
  have MO : isO g 983 11 = true := isO_sk (sfX10_textLength e1) R.2.1.o
  refine X.al (q := 1) 2 dL_law_1348 rfl rfl (n := 1349) rfl ?_
  refine X.arg (j := 1) 3 0 rfl rfl (by decide) dL_law_1349 dL_law_1350 dL_law_1351 dL_law_1352 dL_law_1353 (by omega) (n := 1354) rfl ?_
  refine X.nzb dL_law_1354 dL_law_1357 dL_law_1358 dL_law_1361 (n := 1362) rfl ?_
  refine X.arg (j := 2) 3 0 rfl rfl (by decide) dL_law_1362 dL_law_1363 dL_law_1364 dL_law_1365 dL_law_1366 (by omega) (n := 1367) rfl ?_
  refine X.call (b := 0) (As := [.int (bI (nz (xs (i + 1)))), .int (xs (i + 2))]) (rest := []) dL_law_1367 okX10_textLength lkL_168 siX10_textLength seX10_textLength rfl (Nat.le_of_ble_eq_true rfl) (by decide) R.1.o rfl (xfX10_textLength (d := 1) e1) (n := 1370) rfl ?_
  refine X.al (q := 2) 1 dL_law_1370 rfl rfl (n := 1371) rfl ?_
  refine X.arg (j := 1) 3 0 rfl rfl (by decide) dL_law_1371 dL_law_1372 dL_law_1373 dL_law_1374 dL_law_1375 (by omega) (n := 1376) rfl ?_
  refine X.nzb dL_law_1376 dL_law_1379 dL_law_1380 dL_law_1383 (n := 1384) rfl ?_
  refine X.arg (j := 2) 3 0 rfl rfl (by decide) dL_law_1384 dL_law_1385 dL_law_1386 dL_law_1387 dL_law_1388 (by omega) (n := 1389) rfl ?_
  refine X.call (b := 983) (As := [.int (bI (nz (xs (i + 1)))), .int (xs (i + 2))]) (rest := [.int o]) dL_law_1389 okX11_textLength lkL_171 siX11_textLength seX11_textLength rfl (Nat.le_of_ble_eq_true rfl) (by decide) MO rfl (xfX11_textLength (d := 66) e2) (n := 1392) rfl ?_
  exact X.cmp dL_law_1392 (by decide) (K _ R')
/-- textByte -/
theorem law_c37 (X : LW nm xs L P) {i k : Nat} (hi : i + 5 < L) (hk : k ≤ 511) (R : RR h k) (K : ∀ g, RR g (k + 1) → P 1505 (lvs i) [] g) : P 1397 (lvs i) [] h := by
  obtain ⟨o, g, g', e1, e2, R'⟩ := rd_textByte R (by omega) (nz (xs (i + 1))) (xs (i + 2)) (xs (i + 3))
  have MO : isO g 983 11 = true := isO_sk (sfX10_textByte e1) R.2.1.o
  refine X.al (q := 1) 2 dL_law_1397 rfl rfl (n := 1398) rfl ?_
  refine X.arg (j := 1) 3 0 rfl rfl (by decide) dL_law_1398 dL_law_1399 dL_law_1400 dL_law_1401 dL_law_1402 (by omega) (n := 1403) rfl ?_
  refine X.nzb dL_law_1403 dL_law_1406 dL_law_1407 dL_law_1410 (n := 1411) rfl ?_
  refine X.arg (j := 2) 3 0 rfl rfl (by decide) dL_law_1411 dL_law_1412 dL_law_1413 dL_law_1414 dL_law_1415 (by omega) (n := 1416) rfl ?_
  refine X.arg (j := 3) 3 0 rfl rfl (by decide) dL_law_1416 dL_law_1417 dL_law_1418 dL_law_1419 dL_law_1420 (by omega) (n := 1421) rfl ?_
  refine X.call (b := 0) (As := [.int (bI (nz (xs (i + 1)))), .int (xs (i + 2)), .int (xs (i + 3))]) (rest := []) dL_law_1421 okX10_textByte lkL_172 siX10_textByte seX10_textByte rfl (Nat.le_of_ble_eq_true rfl) (by decide) R.1.o rfl (xfX10_textByte (d := 1) e1) (n := 1424) rfl ?_
  refine X.al (q := 2) 1 dL_law_1424 rfl rfl (n := 1425) rfl ?_
  refine X.arg (j := 1) 3 0 rfl rfl (by decide) dL_law_1425 dL_law_1426 dL_law_1427 dL_law_1428 dL_law_1429 (by omega) (n := 1430) rfl ?_
  refine X.nzb dL_law_1430 dL_law_1433 dL_law_1434 dL_law_1437 (n := 1438) rfl ?_
  refine X.arg (j := 2) 3 0 rfl rfl (by decide) dL_law_1438 dL_law_1439 dL_law_1440 dL_law_1441 dL_law_1442 (by omega) (n := 1443) rfl ?_
  refine X.arg (j := 3) 3 0 rfl rfl (by decide) dL_law_1443 dL_law_1444 dL_law_1445 dL_law_1446 dL_law_1447 (by omega) (n := 1448) rfl ?_
  refine X.call (b := 983) (As := [.int (bI (nz (xs (i + 1)))), .int (xs (i + 2)), .int (xs (i + 3))]) (rest := [.int o]) dL_law_1448 okX11_textByte lkL_176 siX11_textByte seX11_textByte rfl (Nat.le_of_ble_eq_true rfl) (by decide) MO rfl (xfX11_textByte (d := 66) e2) (n := 1451) rfl ?_
  exact X.cmp dL_law_1451 (by decide) (K _ R')
/-- setupLength -/
theorem law_c38 (X : LW nm xs L P) {i k : Nat} (hi : i + 5 < L) (hk : k ≤ 511) (R : RR h k) (K : ∀ g, RR g (k + 1) → P 1505 (lvs i) [] g) : P 1456 (lvs i) [] h := by
  obtain ⟨o, g, g', e1, e2, R'⟩ := rd_setupLength R (by omega) 
  have MO : isO g 983 11 = true := isO_sk (sfX10_setupLength e1) R.2.1.o
  refine X.al (q := 1) 2 dL_law_1456 rfl rfl (n := 1457) rfl ?_
  refine X.call (b := 0) (As := []) (rest := []) dL_law_1457 okX10_setupLength lkL_177 siX10_setupLength seX10_setupLength rfl (Nat.le_of_ble_eq_true rfl) (by decide) R.1.o rfl (xfX10_setupLength (d := 0) e1) (n := 1460) rfl ?_
  refine X.al (q := 2) 1 dL_law_1460 rfl rfl (n := 1461) rfl ?_
  refine X.call (b := 983) (As := []) (rest := [.int o]) dL_law_1461 okX11_setupLength lkL_180 siX11_setupLength seX11_setupLength rfl (Nat.le_of_ble_eq_true rfl) (by decide) MO rfl (xfX11_setupLength (d := 62) e2) (n := 1464) rfl ?_
  exact X.cmp dL_law_1464 (by decide) (K _ R')
/-- setupByte -/
theorem law_c39 (X : LW nm xs L P) {i k : Nat} (hi : i + 5 < L) (hk : k ≤ 511) (R : RR h k) (K : ∀ g, RR g (k + 1) → P 1505 (lvs i) [] g) : P 1469 (lvs i) [] h := by
  obtain ⟨o, g, g', e1, e2, R'⟩ := rd_setupByte R (by omega) (xs (i + 1))
  have MO : isO g 983 11 = true := isO_sk (sfX10_setupByte e1) R.2.1.o
  refine X.al (q := 1) 2 dL_law_1469 rfl rfl (n := 1470) rfl ?_
  refine X.arg (j := 1) 3 0 rfl rfl (by decide) dL_law_1470 dL_law_1471 dL_law_1472 dL_law_1473 dL_law_1474 (by omega) (n := 1475) rfl ?_
  refine X.call (b := 0) (As := [.int (xs (i + 1))]) (rest := []) dL_law_1475 okX10_setupByte lkL_181 siX10_setupByte seX10_setupByte rfl (Nat.le_of_ble_eq_true rfl) (by decide) R.1.o rfl (xfX10_setupByte (d := 0) e1) (n := 1478) rfl ?_
  refine X.al (q := 2) 1 dL_law_1478 rfl rfl (n := 1479) rfl ?_
  refine X.arg (j := 1) 3 0 rfl rfl (by decide) dL_law_1479 dL_law_1480 dL_law_1481 dL_law_1482 dL_law_1483 (by omega) (n := 1484) rfl ?_
  refine X.call (b := 983) (As := [.int (xs (i + 1))]) (rest := [.int o]) dL_law_1484 okX11_setupByte lkL_184 siX11_setupByte seX11_setupByte rfl (Nat.le_of_ble_eq_true rfl) (by decide) MO rfl (xfX11_setupByte (d := 62) e2) (n := 1487) rfl ?_
  exact X.cmp dL_law_1487 (by decide) (K _ R')
/-- tapeLength -/
theorem law_c40 (X : LW nm xs L P) {i k : Nat} (hi : i + 5 < L) (hk : k ≤ 511) (R : RR h k) (K : ∀ g, RR g (k + 1) → P 1505 (lvs i) [] g) : P 1492 (lvs i) [] h := by
  obtain ⟨o, e1, e2⟩ := rd_tapeLength R 
  have MO : isO h 983 11 = true := R.2.1.o
  have R' := RR_up R (show k ≤ k + 1 by omega)
  refine X.al (q := 1) 2 dL_law_1492 rfl rfl (n := 1493) rfl ?_
  refine X.call (b := 0) (As := []) (rest := []) dL_law_1493 okX10_tapeLength lkL_185 siX10_tapeLength seX10_tapeLength rfl (Nat.le_of_ble_eq_true rfl) (by decide) R.1.o rfl (xfX10_tapeLength (d := 71) e1) (n := 1496) rfl ?_
  refine X.al (q := 2) 1 dL_law_1496 rfl rfl (n := 1497) rfl ?_
  refine X.call (b := 983) (As := []) (rest := [.int o]) dL_law_1497 okX11_tapeLength lkL_188 siX11_tapeLength seX11_tapeLength rfl (Nat.le_of_ble_eq_true rfl) (by decide) MO rfl (xfX11_tapeLength (d := 71) e2) (n := 1500) rfl ?_
  exact X.cmp dL_law_1500 (by decide) (K _ R')
theorem and63 (y : Int32) : ∃ j : Nat, j ≤ 63 ∧ (y &&& i32 63).toInt = (j : Int) := by
  refine ⟨(y &&& i32 63).toBitVec.toNat, ?_, ?_⟩
  · have e : (y &&& i32 63).toBitVec.toNat = y.toBitVec.toNat &&& (2 ^ 6 - 1) := by
      show (y.toBitVec &&& (i32 63).toBitVec).toNat = _
      rw [BitVec.toNat_and]; rfl
    rw [e, Nat.and_two_pow_sub_one_eq_mod]
    omega
  · have e : (y &&& i32 63).toBitVec.toNat = y.toBitVec.toNat &&& (2 ^ 6 - 1) := by
      show (y.toBitVec &&& (i32 63).toBitVec).toNat = _
      rw [BitVec.toNat_and]; rfl
    rw [Nat.and_two_pow_sub_one_eq_mod] at e
    show (y &&& i32 63).toBitVec.toInt = _
    exact BitVec.toInt_eq_toNat_of_lt (by omega)
theorem law_tab (X : LW nm xs L P) {i k : Nat} (hi : i + 5 < L) (hk : k ≤ 511) (R : RR h k) (K : ∀ g, RR g (k + 1) → P 1505 (lvs i) [] g) : P 33 (lvs i) [.int (xs i &&& i32 63)] h := by
  obtain ⟨j, hj, e⟩ := and63 (xs i)
  generalize xs i &&& i32 63 = x at e ⊢
  by_cases c : j ≤ 40
  · rcases (show j = 0 ∨ j = 1 ∨ j = 2 ∨ j = 3 ∨ j = 4 ∨ j = 5 ∨ j = 6 ∨ j = 7 ∨ j = 8 ∨ j = 9 ∨ j = 10 ∨ j = 11 ∨ j = 12 ∨ j = 13 ∨ j = 14 ∨ j = 15 ∨ j = 16 ∨ j = 17 ∨ j = 18 ∨ j = 19 ∨ j = 20 ∨ j = 21 ∨ j = 22 ∨ j = 23 ∨ j = 24 ∨ j = 25 ∨ j = 26 ∨ j = 27 ∨ j = 28 ∨ j = 29 ∨ j = 30 ∨ j = 31 ∨ j = 32 ∨ j = 33 ∨ j = 34 ∨ j = 35 ∨ j = 36 ∨ j = 37 ∨ j = 38 ∨ j = 39 ∨ j = 40 by omega) with rfl | rfl | rfl | rfl | rfl | rfl | rfl | rfl | rfl | rfl | rfl | rfl | rfl | rfl | rfl | rfl | rfl | rfl | rfl | rfl | rfl | rfl | rfl | rfl | rfl | rfl | rfl | rfl | rfl | rfl | rfl | rfl | rfl | rfl | rfl | rfl | rfl | rfl | rfl | rfl | rfl
    · exact X.tabIn x _ _ _ _ _ 179 212 dL_law_33 (by omega) (by omega) (by rw [e]; rfl) (by decide) (law_c0 X hi hk R K)
    · exact X.tabIn x _ _ _ _ _ 242 275 dL_law_33 (by omega) (by omega) (by rw [e]; rfl) (by decide) (law_c1 X hi hk R K)
    · exact X.tabIn x _ _ _ _ _ 265 298 dL_law_33 (by omega) (by omega) (by rw [e]; rfl) (by decide) (law_c2 X hi hk R K)
    · exact X.tabIn x _ _ _ _ _ 278 311 dL_law_33 (by omega) (by omega) (by rw [e]; rfl) (by decide) (law_c3 X hi hk R K)
    · exact X.tabIn x _ _ _ _ _ 301 334 dL_law_33 (by omega) (by omega) (by rw [e]; rfl) (by decide) (law_c4 X hi hk R K)
    · exact X.tabIn x _ _ _ _ _ 324 357 dL_law_33 (by omega) (by omega) (by rw [e]; rfl) (by decide) (law_c5 X hi hk R K)
    · exact X.tabIn x _ _ _ _ _ 337 370 dL_law_33 (by omega) (by omega) (by rw [e]; rfl) (by decide) (law_c6 X hi hk R K)
    · exact X.tabIn x _ _ _ _ _ 370 403 dL_law_33 (by omega) (by omega) (by rw [e]; rfl) (by decide) (law_c7 X hi hk R K)
    · exact X.tabIn x _ _ _ _ _ 393 426 dL_law_33 (by omega) (by omega) (by rw [e]; rfl) (by decide) (law_c8 X hi hk R K)
    · exact X.tabIn x _ _ _ _ _ 436 469 dL_law_33 (by omega) (by omega) (by rw [e]; rfl) (by decide) (law_c9 X hi hk R K)
    · exact X.tabIn x _ _ _ _ _ 489 522 dL_law_33 (by omega) (by omega) (by rw [e]; rfl) (by decide) (law_c10 X hi hk R K)
    · exact X.tabIn x _ _ _ _ _ 502 535 dL_law_33 (by omega) (by omega) (by rw [e]; rfl) (by decide) (law_c11 X hi hk R K)
    · exact X.tabIn x _ _ _ _ _ 515 548 dL_law_33 (by omega) (by omega) (by rw [e]; rfl) (by decide) (law_c12 X hi hk R K)
    · exact X.tabIn x _ _ _ _ _ 558 591 dL_law_33 (by omega) (by omega) (by rw [e]; rfl) (by decide) (law_c13 X hi hk R K)
    · exact X.tabIn x _ _ _ _ _ 581 614 dL_law_33 (by omega) (by omega) (by rw [e]; rfl) (by decide) (law_c14 X hi hk R K)
    · exact X.tabIn x _ _ _ _ _ 594 627 dL_law_33 (by omega) (by omega) (by rw [e]; rfl) (by decide) (law_c15 X hi hk R K)
    · exact X.tabIn x _ _ _ _ _ 617 650 dL_law_33 (by omega) (by omega) (by rw [e]; rfl) (by decide) (law_c16 X hi hk R K)
    · exact X.tabIn x _ _ _ _ _ 650 683 dL_law_33 (by omega) (by omega) (by rw [e]; rfl) (by decide) (law_c17 X hi hk R K)
    · exact X.tabIn x _ _ _ _ _ 683 716 dL_law_33 (by omega) (by omega) (by rw [e]; rfl) (by decide) (law_c18 X hi hk R K)
    · exact X.tabIn x _ _ _ _ _ 706 739 dL_law_33 (by omega) (by omega) (by rw [e]; rfl) (by decide) (law_c19 X hi hk R K)
    · exact X.tabIn x _ _ _ _ _ 729 762 dL_law_33 (by omega) (by omega) (by rw [e]; rfl) (by decide) (law_c20 X hi hk R K)
    · exact X.tabIn x _ _ _ _ _ 752 785 dL_law_33 (by omega) (by omega) (by rw [e]; rfl) (by decide) (law_c21 X hi hk R K)
    · exact X.tabIn x _ _ _ _ _ 775 808 dL_law_33 (by omega) (by omega) (by rw [e]; rfl) (by decide) (law_c22 X hi hk R K)
    · exact X.tabIn x _ _ _ _ _ 798 831 dL_law_33 (by omega) (by omega) (by rw [e]; rfl) (by decide) (law_c23 X hi hk R K)
    · exact X.tabIn x _ _ _ _ _ 831 864 dL_law_33 (by omega) (by omega) (by rw [e]; rfl) (by decide) (law_c24 X hi hk R K)
    · exact X.tabIn x _ _ _ _ _ 864 897 dL_law_33 (by omega) (by omega) (by rw [e]; rfl) (by decide) (law_c25 X hi hk R K)
    · exact X.tabIn x _ _ _ _ _ 887 920 dL_law_33 (by omega) (by omega) (by rw [e]; rfl) (by decide) (law_c26 X hi hk R K)
    · exact X.tabIn x _ _ _ _ _ 910 943 dL_law_33 (by omega) (by omega) (by rw [e]; rfl) (by decide) (law_c27 X hi hk R K)
    · exact X.tabIn x _ _ _ _ _ 953 986 dL_law_33 (by omega) (by omega) (by rw [e]; rfl) (by decide) (law_c28 X hi hk R K)
    · exact X.tabIn x _ _ _ _ _ 996 1029 dL_law_33 (by omega) (by omega) (by rw [e]; rfl) (by decide) (law_c29 X hi hk R K)
    · exact X.tabIn x _ _ _ _ _ 1019 1052 dL_law_33 (by omega) (by omega) (by rw [e]; rfl) (by decide) (law_c30 X hi hk R K)
    · exact X.tabIn x _ _ _ _ _ 1072 1105 dL_law_33 (by omega) (by omega) (by rw [e]; rfl) (by decide) (law_c31 X hi hk R K)
    · exact X.tabIn x _ _ _ _ _ 1125 1158 dL_law_33 (by omega) (by omega) (by rw [e]; rfl) (by decide) (law_c32 X hi hk R K)
    · exact X.tabIn x _ _ _ _ _ 1158 1191 dL_law_33 (by omega) (by omega) (by rw [e]; rfl) (by decide) (law_c33 X hi hk R K)
    · exact X.tabIn x _ _ _ _ _ 1207 1240 dL_law_33 (by omega) (by omega) (by rw [e]; rfl) (by decide) (law_c34 X hi hk R K)
    · exact X.tabIn x _ _ _ _ _ 1292 1325 dL_law_33 (by omega) (by omega) (by rw [e]; rfl) (by decide) (law_c35 X hi hk R K)
    · exact X.tabIn x _ _ _ _ _ 1315 1348 dL_law_33 (by omega) (by omega) (by rw [e]; rfl) (by decide) (law_c36 X hi hk R K)
    · exact X.tabIn x _ _ _ _ _ 1364 1397 dL_law_33 (by omega) (by omega) (by rw [e]; rfl) (by decide) (law_c37 X hi hk R K)
    · exact X.tabIn x _ _ _ _ _ 1423 1456 dL_law_33 (by omega) (by omega) (by rw [e]; rfl) (by decide) (law_c38 X hi hk R K)
    · exact X.tabIn x _ _ _ _ _ 1436 1469 dL_law_33 (by omega) (by omega) (by rw [e]; rfl) (by decide) (law_c39 X hi hk R K)
    · exact X.tabIn x _ _ _ _ _ 1459 1492 dL_law_33 (by omega) (by omega) (by rw [e]; rfl) (by decide) (law_c40 X hi hk R K)
  · exact X.tabOut x _ _ _ _ _ 1505 dL_law_33 (Or.inr (by omega)) (by decide) (K h (RR_up R (by omega)))
theorem law_loop (X : LW nm xs L P) (hL : L ≤ 3072) : ∀ (n i k : Nat) (h : HP), i = 6 * k → i ≤ L → L < i + 6 * n → RR h k → P 18 (lvs i) [] h := by
  intro n
  induction n with
  | zero => intro i k h _ _ w; exact absurd w (by omega)
  | succ n ih =>
    intro i k h ik iL w R
    have cI : ∀ {m : Nat}, m ≤ 3072 → Int32.ofNat m = i32 (m : Int) := fun _ => rfl
    refine X.iload_n 3 3 0 _ dL_law_18 rfl rfl ?_
    refine X.al (n := 20) (q := 0) 3 dL_law_19 rfl rfl rfl ?_
    refine X.len dL_law_20 ?_
    refine X.bipush 6 (i32 6) dL_law_21 (by decide) ?_
    refine X.isub _ _ dL_law_23 ?_
    rw [show Int32.ofNat L - i32 6 = i32 ((L : Int) - 6) from (Int32.ofInt_sub (L : Int) 6).symm, show Int32.ofNat i = i32 (i : Int) from rfl]
    refine X.icmp_gt _ _ 1487 1511 dL_law_24 (by decide) (fun _ => ?_) (fun c => ?_)
    · refine X.iconst 1 1 dL_law_1511 (by decide) ?_
      obtain ⟨-, -, -, -, -, -, np, T, -, -, -, ⟨-, a⟩, b, -, -⟩ := R
      exact X.fin dL_law_1512 (by omega) (by omega)
    · have hi : i + 5 < L := by
        have c' : ¬ (i32 ((L : Int) - 6)).toInt < (i32 (i : Int)).toInt := fun z => c (Int32.lt_iff_toInt_lt.mpr z)
        rw [i32_toInt (by omega) (by omega), i32_toInt (by omega) (by omega)] at c'
        omega
      refine X.al (n := 28) (q := 0) 3 dL_law_27 rfl rfl rfl ?_
      refine X.iload_n 3 3 0 _ dL_law_28 rfl rfl ?_
      refine X.ld i dL_law_29 (by omega) ?_
      refine X.bipush 63 (i32 63) dL_law_30 (by decide) ?_
      refine X.iand _ _ dL_law_32 ?_
      refine law_tab X hi (by omega) R (fun g Rg => ?_)
      refine X.iinc 3 0 6 (Int32.ofNat i) (Int32.ofNat (i + 6)) (lvs (i + 6)) dL_law_1505 rfl ?_ (show 3 < 8 by decide) rfl ?_
      · rw [Int32.ofNat_add]; rfl
      · exact X.goto (-1490) 18 dL_law_1508 (by decide) (ih (i + 6) (k + 1) g (by omega) (by omega) (by omega) Rg)
theorem law_pure (X : LW nm xs L P) (hL : L ≤ 3072) : P 0 [(0, .ref SCR)] [] hp0 := by
  obtain ⟨g, k, e1, e2, z, R⟩ := start_RR
  refine X.newO 7 10 dL_law_0 (by decide) clL_7 nsL_10 ziL_10 ?_
  refine X.dup _ dL_law_3 rfl ?_
  refine X.callI _ 9 0 0 mX10_init [] [.ref 0] g dL_law_4 okX10_init rfl rfl lkL_9 siX10_init rfl (Nat.le_of_ble_eq_true rfl) rfl (xfX10_init (d := 64) e1) ?_
  refine X.astore_n 1 1 (.ref 0) [(1, .ref 0), (0, .ref SCR)] dL_law_7 rfl (show 1 < 8 by decide) rfl (Or.inr ⟨_, rfl⟩) ?_
  refine X.newO 10 11 dL_law_8 (by decide) clL_10 nsL_11 ziL_11 ?_
  rw [z]
  refine X.dup _ dL_law_11 rfl ?_
  refine X.callI _ 12 0 983 mX11_init [] [.ref 983] k dL_law_12 okX11_init rfl rfl lkL_12 siX11_init rfl (Nat.le_of_ble_eq_true rfl) rfl (xfX11_init (d := 70) e2) ?_
  refine X.astore_n 2 2 (.ref 983) [(2, .ref 983), (1, .ref 0), (0, .ref SCR)] dL_law_15 rfl (show 2 < 8 by decide) rfl (Or.inr ⟨_, rfl⟩) ?_
  refine X.iconst 0 (Int32.ofNat 0) dL_law_16 (by decide) ?_
  refine X.istore_n 3 3 (Int32.ofNat 0) (lvs 0) dL_law_17 rfl (show 3 < 8 by decide) rfl ?_
  exact law_loop X hL (L + 1) 0 0 k rfl (by omega) (by omega) R
end

