/-! V: the machine in one method, over the cells' numbers -/
abbrev VM : Type := String × String × ByteArray × Nat × Option FieldType
def vCtx (G : GT) (M : VM) (E : State → Prop) (p : Program) (s : State) (m : MethodId) (args : Array Value) (meth : Method) (c : Code) : Prop :=
  p.tables.exec = Jvm.exec ∧ c.code = M.2.2.1 ∧ c.maxLocals = M.2.2.2.1 ∧ meth.sig.returnType = M.2.2.2.2 ∧ s.vm.findClass M.1 = some m.cls ∧ (∀ w ∈ BIG, w.before args s = true) ∧ meth.locks = false ∧ meth.name = M.2.1 ∧ vK G s ∧ G.1 ≤ s.heap.size ∧ E s
abbrev VF : Type := GT × VM × (State → Prop) × Room × Nat × Nat
abbrev VZ : Type := Option Value × Nat × RT × Wd
def vQ (G : GT) (Z : VZ) : Array Value → State → Outcome → State → Prop := fun _ st o t => o = .returned (Z.1.map (rv G)) ∧ va_P G.2.2.2.1 vwCl (cs G Z.2.1 Z.2.2.1 Z.2.2.2) t.heap ∧ t.heap.size = G.1 + Z.2.1 ∧ va_F (gA G) st t
def V (F : VF) (cells slots n : Nat) (r : RT) (pc : Nat) (lv : List (Option Value)) (st : List Value) (w : Wd) (Z : VZ) : Prop :=
  n ≤ 1000 → ∀ (p : Program) (l : Launch) (e : Env) (s : State) (m : MethodId) (args : Array Value) (below : List Frame) (meth : Method) (c : Code) (H : Heap) (locs : List Loc) (ls : Array Slot),
    vCtx F.1 F.2.1 F.2.2.1 p s m args meth c → va_P F.1.2.2.2.1 vwCl (cs F.1 n r w) H → H.size = F.1.1 + n → va_S (gA F.1) s.heap H locs → LH F.1 ls F.2.1.2.2.2.1 lv →
    W p l e F.2.2.2.1 s m args below meth c H locs cells slots (MQ below (vQ F.1 Z) args s F.2.2.2.2.1 F.2.2.2.2.2 (gA F.1)) (F0 m pc ls (st.map (rv F.1)))
section VL
variable {F : VF} {cells slots n : Nat} {r : RT} {pc : Nat} {lv : List (Option Value)} {st : List Value} {w : Wd} {Z : VZ}
theorem V.iconst {i : Int} {v : Int32} (hd : decode F.2.1.2.2.1 pc = .ok (.iconst i, 1)) (hv : Int32.ofInt i = v) (k : V F cells slots n r (pc + 1) lv (.int v :: st) w Z) : V F cells slots n r pc lv st w Z :=
  fun h p l e s m args below meth c H locs ls C hP hz hS hl => lv_iconst C.1 C.2.1 hd hv (k h p l e s m args below meth c H locs ls C hP hz hS hl)
theorem V.bipush {i : Int} {v : Int32} (hd : decode F.2.1.2.2.1 pc = .ok (.bipush i, 2)) (hv : (Int8.ofInt i).toInt32 = v) (k : V F cells slots n r (pc + 2) lv (.int v :: st) w Z) : V F cells slots n r pc lv st w Z :=
  fun h p l e s m args below meth c H locs ls C hP hz hS hl => lv_bipush C.1 C.2.1 hd hv (k h p l e s m args below meth c H locs ls C hP hz hS hl)
theorem V.sipush {i : Int} {v : Int32} (hd : decode F.2.1.2.2.1 pc = .ok (.sipush i, 3)) (hv : (Int16.ofInt i).toInt32 = v) (k : V F cells slots n r (pc + 3) lv (.int v :: st) w Z) : V F cells slots n r pc lv st w Z :=
  fun h p l e s m args below meth c H locs ls C hP hz hS hl => lv_sipush C.1 C.2.1 hd hv (k h p l e s m args below meth c H locs ls C hP hz hS hl)
theorem V.lconst {i : Fin 2} {v : Int64} (hd : decode F.2.1.2.2.1 pc = .ok (.lconst i, 1)) (hv : Int64.ofNat (i : Nat) = v) (k : V F cells slots n r (pc + 1) lv (.long v :: st) w Z) : V F cells slots n r pc lv st w Z :=
  fun h p l e s m args below meth c H locs ls C hP hz hS hl => lv_lconst C.1 C.2.1 hd hv (k h p l e s m args below meth c H locs ls C hP hz hS hl)
theorem V.ldc {i : Nat} {v : Int32} (hd : decode F.2.1.2.2.1 pc = .ok (.ldc i, 2)) (hc : Cond.constant F.2.1.1 i v ∈ BIG) (k : V F cells slots n r (pc + 2) lv (.int v :: st) w Z) : V F cells slots n r pc lv st w Z :=
  fun h p l e s m args below meth c H locs ls C hP hz hS hl => lv_ldc C.1 C.2.1 C.2.2.2.2.1 (C.2.2.2.2.2.1 _ hc) hd (k h p l e s m args below meth c H locs ls C hP hz hS hl)
theorem V.iload_n {j : Fin 4} {x : Int32} (hd : decode F.2.1.2.2.1 pc = .ok (.iload_n j, 1)) (hx : lv[(j : Nat)]? = some (some (.int x))) (k : V F cells slots n r (pc + 1) lv (.int x :: st) w Z) : V F cells slots n r pc lv st w Z :=
  fun h p l e s m args below meth c H locs ls C hP hz hS hl => lv_iload_n C.1 C.2.1 hd rfl (hl.2.2 _ _ hx) (k h p l e s m args below meth c H locs ls C hP hz hS hl)
theorem V.iload {j : Nat} {x : Int32} (hd : decode F.2.1.2.2.1 pc = .ok (.iload j, 2)) (hx : lv[j]? = some (some (.int x))) (k : V F cells slots n r (pc + 2) lv (.int x :: st) w Z) : V F cells slots n r pc lv st w Z :=
  fun h p l e s m args below meth c H locs ls C hP hz hS hl => lv_iload C.1 C.2.1 hd (hl.2.2 _ _ hx) (k h p l e s m args below meth c H locs ls C hP hz hS hl)
theorem V.lload_n {j : Fin 4} {x : Int64} (hd : decode F.2.1.2.2.1 pc = .ok (.lload_n j, 1)) (hx : lv[(j : Nat)]? = some (some (.long x))) (k : V F cells slots n r (pc + 1) lv (.long x :: st) w Z) : V F cells slots n r pc lv st w Z :=
  fun h p l e s m args below meth c H locs ls C hP hz hS hl => lv_lload_n C.1 C.2.1 hd rfl (hl.2.2 _ _ hx) (k h p l e s m args below meth c H locs ls C hP hz hS hl)
theorem V.aload_n {j : Fin 4} {x : Nat} (hd : decode F.2.1.2.2.1 pc = .ok (.aload_n j, 1)) (hx : lv[(j : Nat)]? = some (some (.ref x))) (k : V F cells slots n r (pc + 1) lv (.ref x :: st) w Z) : V F cells slots n r pc lv st w Z :=
  fun h p l e s m args below meth c H locs ls C hP hz hS hl => lv_aload_n C.1 C.2.1 hd rfl (hl.2.2 _ _ hx) (k h p l e s m args below meth c H locs ls C hP hz hS hl)
theorem V.aload {j : Nat} {x : Nat} (hd : decode F.2.1.2.2.1 pc = .ok (.aload j, 2)) (hx : lv[j]? = some (some (.ref x))) (k : V F cells slots n r (pc + 2) lv (.ref x :: st) w Z) : V F cells slots n r pc lv st w Z :=
  fun h p l e s m args below meth c H locs ls C hP hz hS hl => lv_aload C.1 C.2.1 hd (hl.2.2 _ _ hx) (k h p l e s m args below meth c H locs ls C hP hz hS hl)
theorem V.istore_n {j : Fin 4} {x : Int32} {lv' : List (Option Value)} (hd : decode F.2.1.2.2.1 pc = .ok (.istore_n j, 1)) (hj : (j : Nat) < F.2.1.2.2.2.1) (hk : lvok lv j = true) (hx : lv.set j (some (.int x)) = lv') (k : V F cells slots n r (pc + 1) lv' st w Z) : V F cells slots n r pc lv (.int x :: st) w Z :=
  fun h p l e s m args below meth c H locs ls C hP hz hS hl => by
    obtain ⟨ls', e', h'⟩ := LH.store (v := .int x) hl hj rfl hk
    have hb := C.2.1
    have hexec := C.1
    intro T hT X
    obtain ⟨t, a, b⟩ := k h p l e s m args below meth c H locs ls' C hP hz hS (hx ▸ h') T hT X
    refine ⟨t, ?_, b⟩
    have e' : storeLocals ls (j : Nat) (.int x) = some ls' := e'
    show Steps p.tables e below (T.setTop (F0 m pc ls (.int x :: st.map (rv F.1)))) t
    jvm_step X.here [X.here.top, ↓top_set X.here.top, hexec, hb, hd, e']
    exact a
theorem V.istore {j : Nat} {x : Int32} {lv' : List (Option Value)} (hd : decode F.2.1.2.2.1 pc = .ok (.istore j, 2)) (hj : j < F.2.1.2.2.2.1) (hk : lvok lv j = true) (hx : lv.set j (some (.int x)) = lv') (k : V F cells slots n r (pc + 2) lv' st w Z) : V F cells slots n r pc lv (.int x :: st) w Z :=
  fun h p l e s m args below meth c H locs ls C hP hz hS hl => by
    obtain ⟨ls', e', h'⟩ := LH.store (v := .int x) hl hj rfl hk
    have hb := C.2.1
    have hexec := C.1
    intro T hT X
    obtain ⟨t, a, b⟩ := k h p l e s m args below meth c H locs ls' C hP hz hS (hx ▸ h') T hT X
    refine ⟨t, ?_, b⟩
    have e' : storeLocals ls j (.int x) = some ls' := e'
    show Steps p.tables e below (T.setTop (F0 m pc ls (.int x :: st.map (rv F.1)))) t
    jvm_step X.here [X.here.top, ↓top_set X.here.top, hexec, hb, hd, e']
    exact a
theorem V.astore_n {j : Fin 4} {x : Nat} {lv' : List (Option Value)} (hd : decode F.2.1.2.2.1 pc = .ok (.astore_n j, 1)) (hj : (j : Nat) < F.2.1.2.2.2.1) (hk : lvok lv j = true) (hx : lv.set j (some (.ref x)) = lv') (k : V F cells slots n r (pc + 1) lv' st w Z) : V F cells slots n r pc lv (.ref x :: st) w Z :=
  fun h p l e s m args below meth c H locs ls C hP hz hS hl => by
    obtain ⟨ls', e', h'⟩ := LH.store (v := .ref x) hl hj rfl hk
    refine lv_astore_n (lv := lvp F.1 lv 0) (lv' := _) C.1 C.2.1 hd rfl hl.has hj rfl (fun ls2 h2 => ?_)
    have h3 : LH F.1 ls2 F.2.1.2.2.2.1 lv' := by
      rw [← hx]
      refine ⟨h2.1, h2.2.1, fun i v hi => ?_⟩
      rw [List.getElem?_set] at hi
      by_cases e : (j : Nat) = i
      · subst e
        rw [if_pos rfl] at hi
        split at hi
        · cases hi
          exact h2.2.2 _ List.mem_cons_self
        · cases hi
      · rw [if_neg e] at hi
        have hm : (0 + i, rv F.1 v) ∈ lvp F.1 lv 0 := lvp_mem F.1 lv 0 i v hi
        refine h2.2.2 (i, rv F.1 v) (List.mem_cons_of_mem _ (List.mem_filter.mpr ⟨by simpa using hm, ?_⟩))
        have n1 : (i == (j : Nat)) = false := by simp; exact Ne.symm e
        simp only [n1, Bool.not_false, Bool.true_and, Bool.not_eq_true']
        cases hb : (i + 1 == (j : Nat)) with
        | false => rfl
        | true =>
          have e3 : (j : Nat) = i + 1 := (by simpa using hb : i + 1 = (j : Nat)).symm
          rw [e3] at hk
          have hk : (v.category != 2) = true := by simpa [lvok, hi] using hk
          rw [rv_cat]
          simpa using hk
    exact k h p l e s m args below meth c H locs ls2 C hP hz hS h3
theorem V.iinc {j : Nat} {i : Int} {x v : Int32} {lv' : List (Option Value)} (hd : decode F.2.1.2.2.1 pc = .ok (.iinc j i, 3)) (hj : j < F.2.1.2.2.2.1) (hk : lvok lv j = true) (hx : lv[j]? = some (some (.int x))) (hv : x + Int32.ofInt i = v) (hl' : lv.set j (some (.int v)) = lv') (k : V F cells slots n r (pc + 3) lv' st w Z) : V F cells slots n r pc lv st w Z :=
  fun h p l e s m args below meth c H locs ls C hP hz hS hl => by
    have hm : (0 + j, rv F.1 (.int x)) ∈ lvp F.1 lv 0 := lvp_mem F.1 lv 0 j _ hx
    obtain ⟨q, hq⟩ := List.getElem?_of_mem hm
    refine lv_iinc (lv := lvp F.1 lv 0) (lv' := _) (k := q) C.1 C.2.1 hd hl.has (by rw [hq]; simp; rfl) hv hj rfl (fun ls2 h2 => ?_)
    have h3 : LH F.1 ls2 F.2.1.2.2.2.1 lv' := by
      rw [← hl']
      refine ⟨h2.1, h2.2.1, fun i v hi => ?_⟩
      rw [List.getElem?_set] at hi
      by_cases e : j = i
      · subst e
        rw [if_pos rfl] at hi
        split at hi
        · cases hi
          exact h2.2.2 _ List.mem_cons_self
        · cases hi
      · rw [if_neg e] at hi
        have hm : (0 + i, rv F.1 v) ∈ lvp F.1 lv 0 := lvp_mem F.1 lv 0 i v hi
        refine h2.2.2 (i, rv F.1 v) (List.mem_cons_of_mem _ (List.mem_filter.mpr ⟨by simpa using hm, ?_⟩))
        have n1 : (i == j) = false := by simp; exact Ne.symm e
        simp only [n1, Bool.not_false, Bool.true_and, Bool.not_eq_true']
        cases hb : (i + 1 == j) with
        | false => rfl
        | true =>
          have e3 : j = i + 1 := (by simpa using hb : i + 1 = j).symm
          rw [e3] at hk
          have hk : (v.category != 2) = true := by simpa [lvok, hi] using hk
          rw [rv_cat]
          simpa using hk
    exact k h p l e s m args below meth c H locs ls2 C hP hz hS h3
theorem V.weak {lv' : List (Option Value)} (hl' : lvle lv' lv) (k : V F cells slots n r pc lv' st w Z) : V F cells slots n r pc lv st w Z :=
  fun h p l e s m args below meth c H locs ls C hP hz hS hl => k h p l e s m args below meth c H locs ls C hP hz hS (hl.le hl')
theorem V.iadd {x y : Int32} (hd : decode F.2.1.2.2.1 pc = .ok (.iadd, 1)) (k : V F cells slots n r (pc + 1) lv (.int (x + y) :: st) w Z) : V F cells slots n r pc lv (.int y :: .int x :: st) w Z :=
  fun h p l e s m args below meth c H locs ls C hP hz hS hl => lv_iadd C.1 C.2.1 hd (k h p l e s m args below meth c H locs ls C hP hz hS hl)
theorem V.isub {x y : Int32} (hd : decode F.2.1.2.2.1 pc = .ok (.isub, 1)) (k : V F cells slots n r (pc + 1) lv (.int (x - y) :: st) w Z) : V F cells slots n r pc lv (.int y :: .int x :: st) w Z :=
  fun h p l e s m args below meth c H locs ls C hP hz hS hl => lv_isub C.1 C.2.1 hd (k h p l e s m args below meth c H locs ls C hP hz hS hl)
theorem V.imul {x y : Int32} (hd : decode F.2.1.2.2.1 pc = .ok (.imul, 1)) (k : V F cells slots n r (pc + 1) lv (.int (x * y) :: st) w Z) : V F cells slots n r pc lv (.int y :: .int x :: st) w Z :=
  fun h p l e s m args below meth c H locs ls C hP hz hS hl => lv_imul C.1 C.2.1 hd (k h p l e s m args below meth c H locs ls C hP hz hS hl)
theorem V.iand {x y : Int32} (hd : decode F.2.1.2.2.1 pc = .ok (.iand, 1)) (k : V F cells slots n r (pc + 1) lv (.int (x &&& y) :: st) w Z) : V F cells slots n r pc lv (.int y :: .int x :: st) w Z :=
  fun h p l e s m args below meth c H locs ls C hP hz hS hl => lv_iand C.1 C.2.1 hd (k h p l e s m args below meth c H locs ls C hP hz hS hl)
theorem V.ior {x y : Int32} (hd : decode F.2.1.2.2.1 pc = .ok (.ior, 1)) (k : V F cells slots n r (pc + 1) lv (.int (x ||| y) :: st) w Z) : V F cells slots n r pc lv (.int y :: .int x :: st) w Z :=
  fun h p l e s m args below meth c H locs ls C hP hz hS hl => lv_ior C.1 C.2.1 hd (k h p l e s m args below meth c H locs ls C hP hz hS hl)
theorem V.ixor {x y : Int32} (hd : decode F.2.1.2.2.1 pc = .ok (.ixor, 1)) (k : V F cells slots n r (pc + 1) lv (.int (x ^^^ y) :: st) w Z) : V F cells slots n r pc lv (.int y :: .int x :: st) w Z :=
  fun h p l e s m args below meth c H locs ls C hP hz hS hl => lv_ixor C.1 C.2.1 hd (k h p l e s m args below meth c H locs ls C hP hz hS hl)
theorem V.ishl {x y : Int32} (hd : decode F.2.1.2.2.1 pc = .ok (.ishl, 1)) (k : V F cells slots n r (pc + 1) lv (.int (x <<< (y &&& 31)) :: st) w Z) : V F cells slots n r pc lv (.int y :: .int x :: st) w Z :=
  fun h p l e s m args below meth c H locs ls C hP hz hS hl => lv_ishl C.1 C.2.1 hd (k h p l e s m args below meth c H locs ls C hP hz hS hl)
theorem V.ishr {x y : Int32} (hd : decode F.2.1.2.2.1 pc = .ok (.ishr, 1)) (k : V F cells slots n r (pc + 1) lv (.int (x >>> (y &&& 31)) :: st) w Z) : V F cells slots n r pc lv (.int y :: .int x :: st) w Z :=
  fun h p l e s m args below meth c H locs ls C hP hz hS hl => lv_ishr C.1 C.2.1 hd (k h p l e s m args below meth c H locs ls C hP hz hS hl)
theorem V.iushr {x y : Int32} (hd : decode F.2.1.2.2.1 pc = .ok (.iushr, 1)) (k : V F cells slots n r (pc + 1) lv (.int (x.toUInt32 >>> (y.toUInt32 &&& Int32.toUInt32 31)).toInt32 :: st) w Z) : V F cells slots n r pc lv (.int y :: .int x :: st) w Z :=
  fun h p l e s m args below meth c H locs ls C hP hz hS hl => lv_iushr C.1 C.2.1 hd rfl (k h p l e s m args below meth c H locs ls C hP hz hS hl)
theorem V.idiv {x y : Int32} (hd : decode F.2.1.2.2.1 pc = .ok (.idiv, 1)) (hy : ¬ y = 0) (k : V F cells slots n r (pc + 1) lv (.int (x / y) :: st) w Z) : V F cells slots n r pc lv (.int y :: .int x :: st) w Z :=
  fun h p l e s m args below meth c H locs ls C hP hz hS hl => lv_idiv C.1 C.2.1 hd hy (k h p l e s m args below meth c H locs ls C hP hz hS hl)
theorem V.irem {x y : Int32} (hd : decode F.2.1.2.2.1 pc = .ok (.irem, 1)) (hy : ¬ y = 0) (k : V F cells slots n r (pc + 1) lv (.int (x - x / y * y) :: st) w Z) : V F cells slots n r pc lv (.int y :: .int x :: st) w Z :=
  fun h p l e s m args below meth c H locs ls C hP hz hS hl => lv_irem C.1 C.2.1 hd hy (k h p l e s m args below meth c H locs ls C hP hz hS hl)
theorem V.land {x y : Int64} (hd : decode F.2.1.2.2.1 pc = .ok (.land, 1)) (k : V F cells slots n r (pc + 1) lv (.long (x &&& y) :: st) w Z) : V F cells slots n r pc lv (.long y :: .long x :: st) w Z :=
  fun h p l e s m args below meth c H locs ls C hP hz hS hl => lv_land C.1 C.2.1 hd (k h p l e s m args below meth c H locs ls C hP hz hS hl)
theorem V.lor {x y : Int64} (hd : decode F.2.1.2.2.1 pc = .ok (.lor, 1)) (k : V F cells slots n r (pc + 1) lv (.long (x ||| y) :: st) w Z) : V F cells slots n r pc lv (.long y :: .long x :: st) w Z :=
  fun h p l e s m args below meth c H locs ls C hP hz hS hl => lv_lor C.1 C.2.1 hd (k h p l e s m args below meth c H locs ls C hP hz hS hl)
theorem V.lshl {x : Int64} {y : Int32} (hd : decode F.2.1.2.2.1 pc = .ok (.lshl, 1)) (k : V F cells slots n r (pc + 1) lv (.long (x <<< (y.toInt64 &&& 63)) :: st) w Z) : V F cells slots n r pc lv (.int y :: .long x :: st) w Z :=
  fun h p l e s m args below meth c H locs ls C hP hz hS hl => lv_lshl C.1 C.2.1 hd rfl (k h p l e s m args below meth c H locs ls C hP hz hS hl)
theorem V.lshr {x : Int64} {y : Int32} (hd : decode F.2.1.2.2.1 pc = .ok (.lshr, 1)) (k : V F cells slots n r (pc + 1) lv (.long (x >>> (y.toInt64 &&& 63)) :: st) w Z) : V F cells slots n r pc lv (.int y :: .long x :: st) w Z :=
  fun h p l e s m args below meth c H locs ls C hP hz hS hl => lv_lshr C.1 C.2.1 hd rfl (k h p l e s m args below meth c H locs ls C hP hz hS hl)
theorem V.lcmp {x y : Int64} (hd : decode F.2.1.2.2.1 pc = .ok (.lcmp, 1)) (k : V F cells slots n r (pc + 1) lv (.int (lg_cmp x y) :: st) w Z) : V F cells slots n r pc lv (.long y :: .long x :: st) w Z :=
  fun h p l e s m args below meth c H locs ls C hP hz hS hl => W.lcmp C.1 C.2.1 hd (k h p l e s m args below meth c H locs ls C hP hz hS hl)
theorem V.dup {a : Value} (hd : decode F.2.1.2.2.1 pc = .ok (.dup, 1)) (ha : a.category = 1) (k : V F cells slots n r (pc + 1) lv (a :: a :: st) w Z) : V F cells slots n r pc lv (a :: st) w Z :=
  fun h p l e s m args below meth c H locs ls C hP hz hS hl => lv_dup C.1 C.2.1 hd (by rw [rv_cat]; exact ha) (k h p l e s m args below meth c H locs ls C hP hz hS hl)
theorem V.pop {a : Value} (hd : decode F.2.1.2.2.1 pc = .ok (.pop, 1)) (ha : a.category = 1) (k : V F cells slots n r (pc + 1) lv st w Z) : V F cells slots n r pc lv (a :: st) w Z :=
  fun h p l e s m args below meth c H locs ls C hP hz hS hl => lv_pop C.1 C.2.1 hd (by rw [rv_cat]; exact ha) (k h p l e s m args below meth c H locs ls C hP hz hS hl)
theorem V.dup_x1 {a b : Value} (hd : decode F.2.1.2.2.1 pc = .ok (.dup_x1, 1)) (ha : a.category = 1) (hb : b.category = 1) (k : V F cells slots n r (pc + 1) lv (a :: b :: a :: st) w Z) : V F cells slots n r pc lv (a :: b :: st) w Z :=
  fun h p l e s m args below meth c H locs ls C hP hz hS hl => lv_dup_x1 C.1 C.2.1 hd (by rw [rv_cat]; exact ha) (by rw [rv_cat]; exact hb) (k h p l e s m args below meth c H locs ls C hP hz hS hl)
theorem V.dup2 {a b : Value} (hd : decode F.2.1.2.2.1 pc = .ok (.dup2, 1)) (ha : a.category = 1) (hb : b.category = 1) (k : V F cells slots n r (pc + 1) lv (a :: b :: a :: b :: st) w Z) : V F cells slots n r pc lv (a :: b :: st) w Z :=
  fun h p l e s m args below meth c H locs ls C hP hz hS hl => lv_dup2_11 C.1 C.2.1 hd (by rw [rv_cat]; exact ha) (by rw [rv_cat]; exact hb) (k h p l e s m args below meth c H locs ls C hP hz hS hl)
theorem V.goto {o : Int} {t : Nat} (hd : decode F.2.1.2.2.1 pc = .ok (.goto o, 3)) (ht : (pc : Int) + o = (t : Int)) (k : V F cells slots n r t lv st w Z) : V F cells slots n r pc lv st w Z :=
  fun h p l e s m args below meth c H locs ls C hP hz hS hl => lv_goto C.1 C.2.1 hd ht (k h p l e s m args below meth c H locs ls C hP hz hS hl)
theorem V.if_eq_t {x : Int32} {o : Int} {t : Nat} (hd : decode F.2.1.2.2.1 pc = .ok (.ifCond .eq o, 3)) (ht : (pc : Int) + o = (t : Int)) (hc : x = 0) (k : V F cells slots n r t lv st w Z) : V F cells slots n r pc lv (.int x :: st) w Z :=
  fun h p l e s m args below meth c H locs ls C hP hz hS hl => lv_if_eq C.1 C.2.1 hd ht (fun _ => (k h p l e s m args below meth c H locs ls C hP hz hS hl)) (fun q => absurd hc q)
theorem V.if_eq_f {x : Int32} {o : Int} {t : Nat} (hd : decode F.2.1.2.2.1 pc = .ok (.ifCond .eq o, 3)) (ht : (pc : Int) + o = (t : Int)) (hc : ¬ (x = 0)) (k : V F cells slots n r (pc + 3) lv st w Z) : V F cells slots n r pc lv (.int x :: st) w Z :=
  fun h p l e s m args below meth c H locs ls C hP hz hS hl => lv_if_eq C.1 C.2.1 hd ht (fun q => absurd q hc) (fun _ => (k h p l e s m args below meth c H locs ls C hP hz hS hl))
theorem V.icmp_eq_t {x y : Int32} {o : Int} {t : Nat} (hd : decode F.2.1.2.2.1 pc = .ok (.if_icmp .eq o, 3)) (ht : (pc : Int) + o = (t : Int)) (hc : x = y) (k : V F cells slots n r t lv st w Z) : V F cells slots n r pc lv (.int y :: .int x :: st) w Z :=
  fun h p l e s m args below meth c H locs ls C hP hz hS hl => lv_icmp_eq C.1 C.2.1 hd ht (fun _ => (k h p l e s m args below meth c H locs ls C hP hz hS hl)) (fun q => absurd hc q)
theorem V.icmp_eq_f {x y : Int32} {o : Int} {t : Nat} (hd : decode F.2.1.2.2.1 pc = .ok (.if_icmp .eq o, 3)) (ht : (pc : Int) + o = (t : Int)) (hc : ¬ (x = y)) (k : V F cells slots n r (pc + 3) lv st w Z) : V F cells slots n r pc lv (.int y :: .int x :: st) w Z :=
  fun h p l e s m args below meth c H locs ls C hP hz hS hl => lv_icmp_eq C.1 C.2.1 hd ht (fun q => absurd q hc) (fun _ => (k h p l e s m args below meth c H locs ls C hP hz hS hl))
theorem V.if_ne_t {x : Int32} {o : Int} {t : Nat} (hd : decode F.2.1.2.2.1 pc = .ok (.ifCond .ne o, 3)) (ht : (pc : Int) + o = (t : Int)) (hc : ¬ x = 0) (k : V F cells slots n r t lv st w Z) : V F cells slots n r pc lv (.int x :: st) w Z :=
  fun h p l e s m args below meth c H locs ls C hP hz hS hl => lv_if_ne C.1 C.2.1 hd ht (fun _ => (k h p l e s m args below meth c H locs ls C hP hz hS hl)) (fun q => absurd q hc)
theorem V.if_ne_f {x : Int32} {o : Int} {t : Nat} (hd : decode F.2.1.2.2.1 pc = .ok (.ifCond .ne o, 3)) (ht : (pc : Int) + o = (t : Int)) (hc : x = 0) (k : V F cells slots n r (pc + 3) lv st w Z) : V F cells slots n r pc lv (.int x :: st) w Z :=
  fun h p l e s m args below meth c H locs ls C hP hz hS hl => lv_if_ne C.1 C.2.1 hd ht (fun q => absurd hc q) (fun _ => (k h p l e s m args below meth c H locs ls C hP hz hS hl))
theorem V.icmp_ne_t {x y : Int32} {o : Int} {t : Nat} (hd : decode F.2.1.2.2.1 pc = .ok (.if_icmp .ne o, 3)) (ht : (pc : Int) + o = (t : Int)) (hc : ¬ x = y) (k : V F cells slots n r t lv st w Z) : V F cells slots n r pc lv (.int y :: .int x :: st) w Z :=
  fun h p l e s m args below meth c H locs ls C hP hz hS hl => lv_icmp_ne C.1 C.2.1 hd ht (fun _ => (k h p l e s m args below meth c H locs ls C hP hz hS hl)) (fun q => absurd q hc)
theorem V.icmp_ne_f {x y : Int32} {o : Int} {t : Nat} (hd : decode F.2.1.2.2.1 pc = .ok (.if_icmp .ne o, 3)) (ht : (pc : Int) + o = (t : Int)) (hc : x = y) (k : V F cells slots n r (pc + 3) lv st w Z) : V F cells slots n r pc lv (.int y :: .int x :: st) w Z :=
  fun h p l e s m args below meth c H locs ls C hP hz hS hl => lv_icmp_ne C.1 C.2.1 hd ht (fun q => absurd hc q) (fun _ => (k h p l e s m args below meth c H locs ls C hP hz hS hl))
theorem V.if_lt_t {x : Int32} {o : Int} {t : Nat} (hd : decode F.2.1.2.2.1 pc = .ok (.ifCond .lt o, 3)) (ht : (pc : Int) + o = (t : Int)) (hc : x < 0) (k : V F cells slots n r t lv st w Z) : V F cells slots n r pc lv (.int x :: st) w Z :=
  fun h p l e s m args below meth c H locs ls C hP hz hS hl => lv_if_lt C.1 C.2.1 hd ht (fun _ => (k h p l e s m args below meth c H locs ls C hP hz hS hl)) (fun q => absurd hc q)
theorem V.if_lt_f {x : Int32} {o : Int} {t : Nat} (hd : decode F.2.1.2.2.1 pc = .ok (.ifCond .lt o, 3)) (ht : (pc : Int) + o = (t : Int)) (hc : ¬ (x < 0)) (k : V F cells slots n r (pc + 3) lv st w Z) : V F cells slots n r pc lv (.int x :: st) w Z :=
  fun h p l e s m args below meth c H locs ls C hP hz hS hl => lv_if_lt C.1 C.2.1 hd ht (fun q => absurd q hc) (fun _ => (k h p l e s m args below meth c H locs ls C hP hz hS hl))
theorem V.icmp_lt_t {x y : Int32} {o : Int} {t : Nat} (hd : decode F.2.1.2.2.1 pc = .ok (.if_icmp .lt o, 3)) (ht : (pc : Int) + o = (t : Int)) (hc : x < y) (k : V F cells slots n r t lv st w Z) : V F cells slots n r pc lv (.int y :: .int x :: st) w Z :=
  fun h p l e s m args below meth c H locs ls C hP hz hS hl => lv_icmp_lt C.1 C.2.1 hd ht (fun _ => (k h p l e s m args below meth c H locs ls C hP hz hS hl)) (fun q => absurd hc q)
theorem V.icmp_lt_f {x y : Int32} {o : Int} {t : Nat} (hd : decode F.2.1.2.2.1 pc = .ok (.if_icmp .lt o, 3)) (ht : (pc : Int) + o = (t : Int)) (hc : ¬ (x < y)) (k : V F cells slots n r (pc + 3) lv st w Z) : V F cells slots n r pc lv (.int y :: .int x :: st) w Z :=
  fun h p l e s m args below meth c H locs ls C hP hz hS hl => lv_icmp_lt C.1 C.2.1 hd ht (fun q => absurd q hc) (fun _ => (k h p l e s m args below meth c H locs ls C hP hz hS hl))
theorem V.if_ge_t {x : Int32} {o : Int} {t : Nat} (hd : decode F.2.1.2.2.1 pc = .ok (.ifCond .ge o, 3)) (ht : (pc : Int) + o = (t : Int)) (hc : 0 ≤ x) (k : V F cells slots n r t lv st w Z) : V F cells slots n r pc lv (.int x :: st) w Z :=
  fun h p l e s m args below meth c H locs ls C hP hz hS hl => lv_if_ge C.1 C.2.1 hd ht (fun _ => (k h p l e s m args below meth c H locs ls C hP hz hS hl)) (fun q => absurd hc q)
theorem V.if_ge_f {x : Int32} {o : Int} {t : Nat} (hd : decode F.2.1.2.2.1 pc = .ok (.ifCond .ge o, 3)) (ht : (pc : Int) + o = (t : Int)) (hc : ¬ (0 ≤ x)) (k : V F cells slots n r (pc + 3) lv st w Z) : V F cells slots n r pc lv (.int x :: st) w Z :=
  fun h p l e s m args below meth c H locs ls C hP hz hS hl => lv_if_ge C.1 C.2.1 hd ht (fun q => absurd q hc) (fun _ => (k h p l e s m args below meth c H locs ls C hP hz hS hl))
theorem V.icmp_ge_t {x y : Int32} {o : Int} {t : Nat} (hd : decode F.2.1.2.2.1 pc = .ok (.if_icmp .ge o, 3)) (ht : (pc : Int) + o = (t : Int)) (hc : y ≤ x) (k : V F cells slots n r t lv st w Z) : V F cells slots n r pc lv (.int y :: .int x :: st) w Z :=
  fun h p l e s m args below meth c H locs ls C hP hz hS hl => lv_icmp_ge C.1 C.2.1 hd ht (fun _ => (k h p l e s m args below meth c H locs ls C hP hz hS hl)) (fun q => absurd hc q)
theorem V.icmp_ge_f {x y : Int32} {o : Int} {t : Nat} (hd : decode F.2.1.2.2.1 pc = .ok (.if_icmp .ge o, 3)) (ht : (pc : Int) + o = (t : Int)) (hc : ¬ (y ≤ x)) (k : V F cells slots n r (pc + 3) lv st w Z) : V F cells slots n r pc lv (.int y :: .int x :: st) w Z :=
  fun h p l e s m args below meth c H locs ls C hP hz hS hl => lv_icmp_ge C.1 C.2.1 hd ht (fun q => absurd q hc) (fun _ => (k h p l e s m args below meth c H locs ls C hP hz hS hl))
theorem V.if_gt_t {x : Int32} {o : Int} {t : Nat} (hd : decode F.2.1.2.2.1 pc = .ok (.ifCond .gt o, 3)) (ht : (pc : Int) + o = (t : Int)) (hc : 0 < x) (k : V F cells slots n r t lv st w Z) : V F cells slots n r pc lv (.int x :: st) w Z :=
  fun h p l e s m args below meth c H locs ls C hP hz hS hl => lv_if_gt C.1 C.2.1 hd ht (fun _ => (k h p l e s m args below meth c H locs ls C hP hz hS hl)) (fun q => absurd hc q)
theorem V.if_gt_f {x : Int32} {o : Int} {t : Nat} (hd : decode F.2.1.2.2.1 pc = .ok (.ifCond .gt o, 3)) (ht : (pc : Int) + o = (t : Int)) (hc : ¬ (0 < x)) (k : V F cells slots n r (pc + 3) lv st w Z) : V F cells slots n r pc lv (.int x :: st) w Z :=
  fun h p l e s m args below meth c H locs ls C hP hz hS hl => lv_if_gt C.1 C.2.1 hd ht (fun q => absurd q hc) (fun _ => (k h p l e s m args below meth c H locs ls C hP hz hS hl))
theorem V.icmp_gt_t {x y : Int32} {o : Int} {t : Nat} (hd : decode F.2.1.2.2.1 pc = .ok (.if_icmp .gt o, 3)) (ht : (pc : Int) + o = (t : Int)) (hc : y < x) (k : V F cells slots n r t lv st w Z) : V F cells slots n r pc lv (.int y :: .int x :: st) w Z :=
  fun h p l e s m args below meth c H locs ls C hP hz hS hl => lv_icmp_gt C.1 C.2.1 hd ht (fun _ => (k h p l e s m args below meth c H locs ls C hP hz hS hl)) (fun q => absurd hc q)
theorem V.icmp_gt_f {x y : Int32} {o : Int} {t : Nat} (hd : decode F.2.1.2.2.1 pc = .ok (.if_icmp .gt o, 3)) (ht : (pc : Int) + o = (t : Int)) (hc : ¬ (y < x)) (k : V F cells slots n r (pc + 3) lv st w Z) : V F cells slots n r pc lv (.int y :: .int x :: st) w Z :=
  fun h p l e s m args below meth c H locs ls C hP hz hS hl => lv_icmp_gt C.1 C.2.1 hd ht (fun q => absurd q hc) (fun _ => (k h p l e s m args below meth c H locs ls C hP hz hS hl))
theorem V.if_le_t {x : Int32} {o : Int} {t : Nat} (hd : decode F.2.1.2.2.1 pc = .ok (.ifCond .le o, 3)) (ht : (pc : Int) + o = (t : Int)) (hc : x ≤ 0) (k : V F cells slots n r t lv st w Z) : V F cells slots n r pc lv (.int x :: st) w Z :=
  fun h p l e s m args below meth c H locs ls C hP hz hS hl => lv_if_le C.1 C.2.1 hd ht (fun _ => (k h p l e s m args below meth c H locs ls C hP hz hS hl)) (fun q => absurd hc q)
theorem V.if_le_f {x : Int32} {o : Int} {t : Nat} (hd : decode F.2.1.2.2.1 pc = .ok (.ifCond .le o, 3)) (ht : (pc : Int) + o = (t : Int)) (hc : ¬ (x ≤ 0)) (k : V F cells slots n r (pc + 3) lv st w Z) : V F cells slots n r pc lv (.int x :: st) w Z :=
  fun h p l e s m args below meth c H locs ls C hP hz hS hl => lv_if_le C.1 C.2.1 hd ht (fun q => absurd q hc) (fun _ => (k h p l e s m args below meth c H locs ls C hP hz hS hl))
theorem V.icmp_le_t {x y : Int32} {o : Int} {t : Nat} (hd : decode F.2.1.2.2.1 pc = .ok (.if_icmp .le o, 3)) (ht : (pc : Int) + o = (t : Int)) (hc : x ≤ y) (k : V F cells slots n r t lv st w Z) : V F cells slots n r pc lv (.int y :: .int x :: st) w Z :=
  fun h p l e s m args below meth c H locs ls C hP hz hS hl => lv_icmp_le C.1 C.2.1 hd ht (fun _ => (k h p l e s m args below meth c H locs ls C hP hz hS hl)) (fun q => absurd hc q)
theorem V.icmp_le_f {x y : Int32} {o : Int} {t : Nat} (hd : decode F.2.1.2.2.1 pc = .ok (.if_icmp .le o, 3)) (ht : (pc : Int) + o = (t : Int)) (hc : ¬ (x ≤ y)) (k : V F cells slots n r (pc + 3) lv st w Z) : V F cells slots n r pc lv (.int y :: .int x :: st) w Z :=
  fun h p l e s m args below meth c H locs ls C hP hz hS hl => lv_icmp_le C.1 C.2.1 hd ht (fun q => absurd q hc) (fun _ => (k h p l e s m args below meth c H locs ls C hP hz hS hl))
end VL
