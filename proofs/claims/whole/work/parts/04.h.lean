section VH
variable {F : VF} {cells slots n : Nat} {r : RT} {pc : Nat} {lv : List (Option Value)} {st : List Value} {w : Wd} {Z : VZ}
/-- the words of a class's fields, its names and types; and which of its fields are references -/
def clOk (ci : Nat) : Prop := ∃ (C : String) (T : u_T) (N : Nat) (ty : Nat → FieldType), vwCl[ci]? = some (C, T, N) ∧ (∀ x ∈ u_ws C T N, x ∈ BIG) ∧ (∀ k, k < N → parseFieldDescriptor (T k).2.2.1 = some (ty k)) ∧ (∀ a, a < N → ∀ b, b < N → a ≠ b → (T a).2.1 ≠ (T b).2.1) ∧ (refL.getD ci []).length = N ∧ Cond.instantiable C N ∈ BIG ∧ Cond.initialized C ∈ BIG ∧ (∀ k, k < N → (defaultValue (ty k) = .int 0 ∧ (refL.getD ci [])[k]? = some false) ∨ (defaultValue (ty k) = .null ∧ (refL.getD ci [])[k]? = some true))
/-- a field's link -/
def fOk (own : String) (i : Nat) (ci j : Nat) : Prop := ∃ (C : String) (T : u_T) (N : Nat), vwCl[ci]? = some (C, T, N) ∧ j < N ∧ (Cond.fieldLink own i (T j).1 (T j).2.1 (T j).2.2.1 ∈ BIG ∨ ∃ host, (own, i, (T j).1, (T j).2.1, (T j).2.2.1, host) ∈ NF)
theorem cel_obj {G : GT} {r : RT} {w : Wd} {k ci : Nat} (h : lay k = (0, ci)) : cel G r w k = .inr (ci, fld G r w k (refL.getD ci []) 0) := by unfold cel; rw [h]; rfl
theorem cel_int {G : GT} {r : RT} {w : Wd} {k N : Nat} (h : lay k = (1, N)) : cel G r w k = .inl (G.2.2.2.2 1, N, .inl (w.1 k)) := by unfold cel; rw [h]; rfl
theorem cel_boo {G : GT} {r : RT} {w : Wd} {k N : Nat} (h : lay k = (3, N)) : cel G r w k = .inl (G.2.2.2.2 3, N, .inl (w.1 k)) := by unfold cel; rw [h]; rfl
theorem cel_byt {G : GT} {r : RT} {w : Wd} {k N : Nat} (h : lay k = (4, N)) : cel G r w k = .inl (G.2.2.2.2 4, N, .inl (w.1 k)) := by unfold cel; rw [h]; rfl
theorem cel_lon {G : GT} {r : RT} {w : Wd} {k N : Nat} (h : lay k = (2, N)) : cel G r w k = .inl (G.2.2.2.2 2, N, .inr (.inl w.2)) := by unfold cel; rw [h]; rfl
theorem V.get {i j k ci : Nat} {v : Value} (hd : decode F.2.1.2.2.1 pc = .ok (.getfield i, 3)) (hf : fOk F.2.1.1 i ci j) (hc : clOk ci) (hk : k < n) (hl : lay k = (0, ci)) (hv : (fld F.1 r w k (refL.getD ci []) 0)[j]? = some (rv F.1 v)) (kk : V F cells slots n r (pc + 3) lv (v :: st) w Z) : V F cells slots n r pc lv (.ref k :: st) w Z :=
  fun h p l e s m args below meth c H locs ls C hP hz hS hl' => by
    obtain ⟨C1, T, N, e1, hj, hlk⟩ := hf
    obtain ⟨C2, T2, N2, ty, e2, hin, -⟩ := hc
    rw [e1] at e2
    cases e2
    have hws := cs_get (G := F.1) (r := r) (w := w) hk
    rw [cel_obj hl] at hws
    rcases hlk with hlk | ⟨host, hlk⟩
    · exact va_get (C := C1) (T := T) (N := N) C.1 C.2.1 C.2.2.2.2.2.1 hin C.2.2.2.2.1 C.2.2.2.2.2.2.2.2.1.1 hP k hws e1 j hj (C.2.2.2.2.2.1 _ hlk) (fun _ q => q) hv hd (kk h p l e s m args below meth c H locs ls C hP hz hS hl')
    · exact va_getN (C := C1) (T := T) (N := N) C.1 C.2.1 C.2.2.2.2.2.1 hin C.2.2.2.2.1 C.2.2.2.2.2.2.2.2.1.1 hP k hws e1 j hj (va_Nw.use rfl (C.2.2.2.2.2.2.2.2.1.2.2.1.1 _ hlk)) (fun _ q => q) hv hd (kk h p l e s m args below meth c H locs ls C hP hz hS hl')
theorem V.getI {i j k ci : Nat} (hd : decode F.2.1.2.2.1 pc = .ok (.getfield i, 3)) (hf : fOk F.2.1.1 i ci j) (hc : clOk ci) (hk : k < n) (hl : lay k = (0, ci)) (hb : (refL.getD ci [])[j]? = some false) (kk : V F cells slots n r (pc + 3) lv (.int (w.1 k j) :: st) w Z) : V F cells slots n r pc lv (.ref k :: st) w Z :=
  V.get (v := .int (w.1 k j)) hd hf hc hk hl (by rw [fld_get, hb]; simp [rv]) kk
theorem V.getR {i j k ci t : Nat} (hd : decode F.2.1.2.2.1 pc = .ok (.getfield i, 3)) (hf : fOk F.2.1.1 i ci j) (hc : clOk ci) (hk : k < n) (hl : lay k = (0, ci)) (hb : (refL.getD ci [])[j]? = some true) (hr : r k j = some t) (kk : V F cells slots n r (pc + 3) lv (.ref t :: st) w Z) : V F cells slots n r pc lv (.ref k :: st) w Z :=
  V.get (v := .ref t) hd hf hc hk hl (by rw [fld_get, hb]; simp [rv, hr, va_rf]) kk
theorem V.putI {i j k ci : Nat} {x : Int32} (hd : decode F.2.1.2.2.1 pc = .ok (.putfield i, 3)) (hf : fOk F.2.1.1 i ci j) (hc : clOk ci) (hk : k < n) (hl : lay k = (0, ci)) (hb : (refL.getD ci [])[j]? = some false)
    (hfin : ∀ C T N, vwCl[ci]? = some (C, T, N) → (T j).2.2.2 = false ∧ ((T j).2.2.1 = "I" ∨ ((T j).2.2.1 = "Z" ∧ (x = 0 ∨ x = 1))))
    (kk : V F cells slots n r (pc + 3) lv st (sI w k j x) Z) : V F cells slots n r pc lv (.int x :: .ref k :: st) w Z :=
  fun h p l e s m args below meth c H locs ls C hP hz hS hl' => by
    obtain ⟨C1, T, N, e1, hj, hlk⟩ := hf
    obtain ⟨C2, T2, N2, ty, e2, hin, hty, hnm, hlen, -, -, -⟩ := hc
    rw [e1] at e2
    cases e2
    obtain ⟨f1, f2⟩ := hfin _ _ _ e1
    have hws := cs_get (G := F.1) (r := r) (w := w) hk
    rw [cel_obj hl] at hws
    have hD : va_D (gA F.1) (cs F.1 n r w) := cs_D h
    have hfl : j < (fld F.1 r w k (refL.getD ci []) 0).length := by
      have h1 : (fld F.1 r w k (refL.getD ci []) 0)[j]? = some (.int (w.1 k (0 + j))) := by rw [fld_get, hb]; rfl
      exact (List.getElem?_eq_some_iff.mp h1).1
    have hset : (cs F.1 n r w).set k (ad F.1 k, .inr (ci, (fld F.1 r w k (refL.getD ci []) 0).set j (.int x))) = cs F.1 n r (sI w k j x) :=
      cs_set (by rw [cel_obj hl, fld_set hb]) (fun a ha => cel_row (sI_row w k j x ha) rfl)
    have fin : ∀ (H1 : Heap) (locs1 : List Loc), va_P F.1.2.2.2.1 vwCl ((cs F.1 n r w).set k (ad F.1 k, .inr (ci, (fld F.1 r w k (refL.getD ci []) 0).set j (.int x)))) H1 → va_S (gA F.1) s.heap H1 locs1 → H1.size = H.size → W p l e F.2.2.2.1 s m args below meth c H1 locs1 cells slots (MQ below (vQ F.1 Z) args s F.2.2.2.2.1 F.2.2.2.2.2 (gA F.1)) (F0 m (pc + 3) ls (st.map (rv F.1))) := by
      intro H1 locs1 g1 g3 g4
      rw [hset] at g1
      exact kk h p l e s m args below meth c H1 locs1 ls C g1 (by rw [g4]; exact hz) g3 hl'
    have hn : ∀ ty0, parseFieldDescriptor (T j).2.2.1 = some ty0 → narrow ty0 (.int x) = .int x ∧ fits ty0 (.int x) = true := by
      intro ty0 h0
      rcases f2 with f2 | ⟨f2, rfl | rfl⟩ <;> rw [f2] at h0
      · have : ty0 = .int := by
          have e0 : parseFieldDescriptor "I" = some .int := by decide +kernel
          rw [e0] at h0; exact (Option.some.inj h0).symm
        subst this
        exact ⟨rfl, rfl⟩
      · have : ty0 = .boolean := by
          have e0 : parseFieldDescriptor "Z" = some .boolean := by decide +kernel
          rw [e0] at h0; exact (Option.some.inj h0).symm
        subst this
        exact ⟨rfl, rfl⟩
      · have : ty0 = .boolean := by
          have e0 : parseFieldDescriptor "Z" = some .boolean := by decide +kernel
          rw [e0] at h0; exact (Option.some.inj h0).symm
        subst this
        exact ⟨rfl, rfl⟩
    obtain ⟨n1, n2⟩ := hn _ (hty j hj)
    have hap := va_apart (own := F.2.1.1) C.2.2.2.2.2.1 hin ty hty hnm C.2.2.2.2.2.2.2.2.1.1 e1
    obtain ⟨q, h1, cell, q1, q2, q3, q4⟩ := hP k _ hws
    have hq : q = (C1, T, N) := Option.some.inj (h1.symm.trans e1)
    subst hq
    obtain ⟨hSl, hfc, kC, hkC, hkind⟩ := C.2.2.2.2.2.2.2.2.1.1.1 ci _ e1
    obtain ⟨cf, kf, fi, f, hi, hsl⟩ := hSl j hj
    have hlay := C.2.2.2.2.2.1 _ (hin _ (u_in_lay hj))
    unfold u_lay at hlay
    rw [if_neg (by rw [f1]; decide)] at hlay
    have hst := (u_facts hfc hkC (u_lays C.2.2.2.2.2.1 hin hj) hi).1
    have h6 := u_store hfc hkC hkind hlay hi (hty j hj) n1 n2
    rcases hlk with hlk | ⟨host, hlk⟩
    · refine W.putK C.1 C.2.1 (f := f) ⟨C.2.2.2.2.1, C.2.2.2.2.2.1 _ hlk, ⟨_, _, _, hi⟩, hst⟩ (by rw [q2]; exact h6) q1 q3 (by rw [hsl]; exact k2_hasslot (q4 j hj)) rfl rfl hd fun H' e1' e2' e3' => ?_
      rw [hsl] at e1' ⊢
      exact fin H' _ (hP.set hD hws ⟨_, e1, t_OB.to (V := updV (vp_V (fld F.1 r w k (refL.getD ci []) 0)) j (.int x)) ⟨_, e1', q2, q3, t_set q4 hap hj (.int x)⟩ (fun j' _ => vp_updV_set hfl (.int x) j')⟩ e3') (hS.put e2' e3' (hD.2 k _ hws)) e2'
    · refine va_WputK C.1 C.2.1 (f := f) C.2.2.2.2.1 (va_Nw.use rfl (C.2.2.2.2.2.2.2.2.1.2.2.1.1 _ hlk)) hi hst (by rw [q2]; exact h6) q1 q3 (by rw [hsl]; exact k2_hasslot (q4 j hj)) rfl rfl hd fun H' e1' e2' e3' => ?_
      rw [hsl] at e1' ⊢
      exact fin H' _ (hP.set hD hws ⟨_, e1, t_OB.to (V := updV (vp_V (fld F.1 r w k (refL.getD ci []) 0)) j (.int x)) ⟨_, e1', q2, q3, t_set q4 hap hj (.int x)⟩ (fun j' _ => vp_updV_set hfl (.int x) j')⟩ e3') (hS.put e2' e3' (hD.2 k _ hws)) e2'
/-- an index within a row -/
def inb (i : Int32) (N : Nat) : Bool := !(decide (i < 0) || decide (N ≤ i.toNatClampNeg))
theorem inb_in {i : Int32} {N : Nat} (h : inb i N = true) : vp_in i N := by
  intro q
  rcases q with q | q <;> simp [inb, q] at h
theorem V.iald {i : Int32} {k N : Nat} (hd : decode F.2.1.2.2.1 pc = .ok (.iaload, 1)) (hk : k < n) (hl : lay k = (1, N)) (hi : inb i N = true) (kk : V F cells slots n r (pc + 1) lv (.int (w.1 k i.toNatClampNeg) :: st) w Z) : V F cells slots n r pc lv (.int i :: .ref k :: st) w Z :=
  fun h p l e s m args below meth c H locs ls C hP hz hS hl' => va_iald C.1 C.2.1 C.2.2.2.2.2.2.2.2.1.1 hP k 0 (by rw [cs_get hk, cel_int hl]) rfl (inb_in hi) hd (kk h p l e s m args below meth c H locs ls C hP hz hS hl')
theorem V.bald {i : Int32} {k N : Nat} (hd : decode F.2.1.2.2.1 pc = .ok (.baload, 1)) (hk : k < n) (hl : lay k = (4, N)) (hi : inb i N = true) (kk : V F cells slots n r (pc + 1) lv (.int (w.1 k i.toNatClampNeg) :: st) w Z) : V F cells slots n r pc lv (.int i :: .ref k :: st) w Z :=
  fun h p l e s m args below meth c H locs ls C hP hz hS hl' => va_bald C.1 C.2.1 C.2.2.2.2.2.2.2.2.1.1 hP k 3 (by rw [cs_get hk, cel_byt hl]) rfl (inb_in hi) hd (kk h p l e s m args below meth c H locs ls C hP hz hS hl')
theorem V.zald {i : Int32} {k N : Nat} (hd : decode F.2.1.2.2.1 pc = .ok (.baload, 1)) (hk : k < n) (hl : lay k = (3, N)) (hi : inb i N = true) (kk : V F cells slots n r (pc + 1) lv (.int (w.1 k i.toNatClampNeg) :: st) w Z) : V F cells slots n r pc lv (.int i :: .ref k :: st) w Z :=
  fun h p l e s m args below meth c H locs ls C hP hz hS hl' => va_zald C.1 C.2.1 C.2.2.2.2.2.2.2.2.1.1 hP k 2 (by rw [cs_get hk, cel_boo hl]) rfl (inb_in hi) hd (kk h p l e s m args below meth c H locs ls C hP hz hS hl')
theorem V.lald {i : Int32} {k N : Nat} (hd : decode F.2.1.2.2.1 pc = .ok (.laload, 1)) (hk : k < n) (hl : lay k = (2, N)) (hi : inb i N = true) (kk : V F cells slots n r (pc + 1) lv (.long (w.2 i.toNatClampNeg) :: st) w Z) : V F cells slots n r pc lv (.int i :: .ref k :: st) w Z :=
  fun h p l e s m args below meth c H locs ls C hP hz hS hl' => va_lald C.1 C.2.1 C.2.2.2.2.2.2.2.2.1.1 hP k 1 (by rw [cs_get hk, cel_lon hl]) rfl (inb_in hi) hd (kk h p l e s m args below meth c H locs ls C hP hz hS hl')
theorem V.alen {k a N : Nat} {v : Int32} (hd : decode F.2.1.2.2.1 pc = .ok (.arraylength, 1)) (hk : k < n) (hl : lay k = (a, N)) (ha : a = 1 ∨ a = 2) (hv : Int32.ofNat N = v) (kk : V F cells slots n r (pc + 1) lv (.int v :: st) w Z) : V F cells slots n r pc lv (.ref k :: st) w Z :=
  fun h p l e s m args below meth c H locs ls C hP hz hS hl' => by
    rcases ha with rfl | rfl
    · exact va_alen C.1 C.2.1 C.2.2.2.2.2.2.2.2.1.1 hP k 0 (by rw [cs_get hk, cel_int hl]) rfl hv hd (kk h p l e s m args below meth c H locs ls C hP hz hS hl')
    · exact va_alen C.1 C.2.1 C.2.2.2.2.2.2.2.2.1.1 hP k 1 (by rw [cs_get hk, cel_lon hl]) rfl hv hd (kk h p l e s m args below meth c H locs ls C hP hz hS hl')
theorem V.iast {i x : Int32} {k N : Nat} (hd : decode F.2.1.2.2.1 pc = .ok (.iastore, 1)) (hk : k < n) (hl : lay k = (1, N)) (hi : inb i N = true) (kk : V F cells slots n r (pc + 1) lv st (sI w k i.toNatClampNeg x) Z) : V F cells slots n r pc lv (.int x :: .int i :: .ref k :: st) w Z :=
  fun h p l e s m args below meth c H locs ls C hP hz hS hl' => by
    have hws := cs_get (G := F.1) (r := r) (w := w) hk
    rw [cel_int hl] at hws
    have hD : va_D (gA F.1) (cs F.1 n r w) := cs_D h
    refine W.iast C.1 C.2.1 (hP k _ hws) ((C.2.2.2.2.2.2.2.2.1.1.2 0 _ rfl).1 N (fun j => .int (w.1 k j))) (fun q => by cases q) (by show ¬ (i < 0 ∨ (arrV _ _ _).slots.size ≤ _); rw [arrV_size]; exact inb_in hi) rfl rfl hd fun H1 e1 z oq => ?_
    have e2 : H1[ad F.1 k]? = some (vp_cell (F.1.2.2.2.2 1) (N, .inl (upd (w.1 k) i.toNatClampNeg x))) := by
      rw [e1, vp_cell_i, vp_cell_i, arrV_store]
      congr 2
      funext q
      by_cases hq : q = i.toNatClampNeg
      · subst hq
        simp [updV, upd]
      · simp [updV, upd, hq]
    have g := hP.set (e := .inl (F.1.2.2.2.2 1, N, .inl (upd (w.1 k) i.toNatClampNeg x))) hD hws e2 oq
    rw [cs_set (r' := r) (w' := sI w k i.toNatClampNeg x) (by rw [cel_int hl, sI_upd]) (fun a ha => cel_row (sI_row w k _ x ha) rfl)] at g
    exact kk h p l e s m args below meth c H1 _ ls C g (by rw [z]; exact hz) (hS.put z oq (hD.2 k _ hws)) hl'
theorem V.zast {i x : Int32} {k N : Nat} (hd : decode F.2.1.2.2.1 pc = .ok (.bastore, 1)) (hk : k < n) (hl : lay k = (3, N)) (hi : inb i N = true) (hx : x = 0 ∨ x = 1) (kk : V F cells slots n r (pc + 1) lv st (sI w k i.toNatClampNeg x) Z) : V F cells slots n r pc lv (.int x :: .int i :: .ref k :: st) w Z :=
  fun h p l e s m args below meth c H locs ls C hP hz hS hl' => by
    have hws := cs_get (G := F.1) (r := r) (w := w) hk
    rw [cel_boo hl] at hws
    have hD : va_D (gA F.1) (cs F.1 n r w) := cs_D h
    refine W.zast C.1 C.2.1 (hP k _ hws) ((C.2.2.2.2.2.2.2.2.1.1.2 2 _ rfl).1 N (fun j => .int (w.1 k j))) (fun q => by cases q) (by show ¬ (i < 0 ∨ (arrV _ _ _).slots.size ≤ _); rw [arrV_size]; exact inb_in hi) rfl rfl hd fun H1 e1 z oq => ?_
    have e2 : H1[ad F.1 k]? = some (vp_cell (F.1.2.2.2.2 3) (N, .inl (upd (w.1 k) i.toNatClampNeg x))) := by
      rw [e1, vp_cell_i, vp_cell_i, arrV_store]
      congr 2
      funext q
      by_cases hq : q = i.toNatClampNeg
      · subst hq
        rcases hx with rfl | rfl <;> simp [updV, upd] <;> rfl
      · simp [updV, upd, hq]
    have g := hP.set (e := .inl (F.1.2.2.2.2 3, N, .inl (upd (w.1 k) i.toNatClampNeg x))) hD hws e2 oq
    rw [cs_set (r' := r) (w' := sI w k i.toNatClampNeg x) (by rw [cel_boo hl, sI_upd]) (fun a ha => cel_row (sI_row w k _ x ha) rfl)] at g
    exact kk h p l e s m args below meth c H1 _ ls C g (by rw [z]; exact hz) (hS.put z oq (hD.2 k _ hws)) hl'
theorem V.bast {i x : Int32} {k N : Nat} (hd : decode F.2.1.2.2.1 pc = .ok (.bastore, 1)) (hk : k < n) (hl : lay k = (4, N)) (hi : inb i N = true) (hx : x.toInt8.toInt32 = x) (kk : V F cells slots n r (pc + 1) lv st (sI w k i.toNatClampNeg x) Z) : V F cells slots n r pc lv (.int x :: .int i :: .ref k :: st) w Z :=
  fun h p l e s m args below meth c H locs ls C hP hz hS hl' => by
    have hws := cs_get (G := F.1) (r := r) (w := w) hk
    rw [cel_byt hl] at hws
    have hD : va_D (gA F.1) (cs F.1 n r w) := cs_D h
    refine W.bast C.1 C.2.1 (hP k _ hws) ((C.2.2.2.2.2.2.2.2.1.1.2 3 _ rfl).1 N (fun j => .int (w.1 k j))) (fun q => by cases q) (by show ¬ (i < 0 ∨ (arrV _ _ _).slots.size ≤ _); rw [arrV_size]; exact inb_in hi) rfl rfl hd fun H1 e1 z oq => ?_
    have e2 : H1[ad F.1 k]? = some (vp_cell (F.1.2.2.2.2 4) (N, .inl (upd (w.1 k) i.toNatClampNeg x))) := by
      rw [e1, vp_cell_i, vp_cell_i, arrV_store]
      congr 2
      funext q
      by_cases hq : q = i.toNatClampNeg
      · subst hq
        simp [updV, upd]
        exact congrArg Value.int hx
      · simp [updV, upd, hq]
    have g := hP.set (e := .inl (F.1.2.2.2.2 4, N, .inl (upd (w.1 k) i.toNatClampNeg x))) hD hws e2 oq
    rw [cs_set (r' := r) (w' := sI w k i.toNatClampNeg x) (by rw [cel_byt hl, sI_upd]) (fun a ha => cel_row (sI_row w k _ x ha) rfl)] at g
    exact kk h p l e s m args below meth c H1 _ ls C g (by rw [z]; exact hz) (hS.put z oq (hD.2 k _ hws)) hl'
theorem cel_lrow {G : GT} {r : RT} {w : Wd} {k i : Nat} {x : Int64} {K N : Nat} (hK : lay K = (2, N)) (ho : ∀ a b, lay a = (2, b) → a = K) (h : k ≠ K) : cel G r (sL w i x) k = cel G r w k := by
  unfold cel
  split
  next ci e => rw [fld_row (w' := sL w i x) (w := w) rfl]
  next b e => exact absurd (ho k b e) h
  next => rfl
theorem V.last {i : Int32} {x : Int64} {k N : Nat} (hd : decode F.2.1.2.2.1 pc = .ok (.lastore, 1)) (hk : k < n) (hl : lay k = (2, N)) (ho : ∀ a b, lay a = (2, b) → a = k) (hi : inb i N = true) (kk : V F cells slots n r (pc + 1) lv st (sL w i.toNatClampNeg x) Z) : V F cells slots n r pc lv (.long x :: .int i :: .ref k :: st) w Z :=
  fun h p l e s m args below meth c H locs ls C hP hz hS hl' => by
    have hws := cs_get (G := F.1) (r := r) (w := w) hk
    rw [cel_lon hl] at hws
    have hD : va_D (gA F.1) (cs F.1 n r w) := cs_D h
    refine W.last C.1 C.2.1 (hP k _ hws) ((C.2.2.2.2.2.2.2.2.1.1.2 1 _ rfl).1 N (fun j => .long (w.2 j))) (fun q => by cases q) (by show ¬ (i < 0 ∨ (arrV _ _ _).slots.size ≤ _); rw [arrV_size]; exact inb_in hi) rfl rfl hd fun H1 e1 z oq => ?_
    have e2 : H1[ad F.1 k]? = some (vp_cell (F.1.2.2.2.2 2) (N, .inr (.inl (sL w i.toNatClampNeg x).2))) := by
      rw [e1, vp_cell_l, vp_cell_l, arrV_store]
      congr 2
      funext q
      by_cases hq : q = i.toNatClampNeg
      · subst hq
        simp [updV, sL]
      · simp [updV, sL, hq]
    have g := hP.set (e := .inl (F.1.2.2.2.2 2, N, .inr (.inl (sL w i.toNatClampNeg x).2))) hD hws e2 oq
    rw [cs_set (r' := r) (w' := sL w i.toNatClampNeg x) (by rw [cel_lon hl]) (fun a ha => cel_lrow hl ho ha)] at g
    exact kk h p l e s m args below meth c H1 _ ls C g (by rw [z]; exact hz) (hS.put z oq (hD.2 k _ hws)) hl'
/-! ends -/
theorem V.iret {v : Int32} (hd : decode F.2.1.2.2.1 pc = .ok (.ireturn, 1)) (hr : F.2.1.2.2.2.2 = some .int) (hc : cells ≤ F.2.2.2.2.1) (hs : slots ≤ F.2.2.2.2.2) : V F cells slots n r pc lv [.int v] w (some (.int v), n, r, w) :=
  fun h p l e s m args below meth c H locs ls C hP hz hS hl' => by
    refine W.widen hc hs ?_
    exact W.iret (v := v) C.1 C.2.1 (C.2.2.2.1.trans hr) (fun t ht hW => ⟨rfl, by rw [ht]; exact hP, by rw [ht]; exact hz, ⟨by rw [ht]; exact hS.1, fun q h1 h2 => by rw [ht]; exact hS.2.1 q h1 h2⟩⟩) hS.2.2 hd C.2.2.2.2.2.2.1
theorem V.zret {v : Int32} (hd : decode F.2.1.2.2.1 pc = .ok (.ireturn, 1)) (hr : F.2.1.2.2.2.2 = some .boolean) (hv : v = 0 ∨ v = 1) (hc : cells ≤ F.2.2.2.2.1) (hs : slots ≤ F.2.2.2.2.2) : V F cells slots n r pc lv [.int v] w (some (.int v), n, r, w) :=
  fun h p l e s m args below meth c H locs ls C hP hz hS hl' => by
    refine W.widen hc hs ?_
    exact W.zret (v := v) C.1 C.2.1 (C.2.2.2.1.trans hr) (by rcases hv with rfl | rfl <;> rfl) (fun t ht hW => ⟨rfl, by rw [ht]; exact hP, by rw [ht]; exact hz, ⟨by rw [ht]; exact hS.1, fun q h1 h2 => by rw [ht]; exact hS.2.1 q h1 h2⟩⟩) hS.2.2 hd C.2.2.2.2.2.2.1
theorem V.vret (hd : decode F.2.1.2.2.1 pc = .ok (.return_, 1)) (hr : F.2.1.2.2.2.2 = none) (hc : cells ≤ F.2.2.2.2.1) (hs : slots ≤ F.2.2.2.2.2) : V F cells slots n r pc lv [] w (none, n, r, w) :=
  fun h p l e s m args below meth c H locs ls C hP hz hS hl' => by
    refine W.widen hc hs ?_
    exact W.vret C.1 C.2.1 (C.2.2.2.1.trans hr) (fun t ht hW => ⟨rfl, by rw [ht]; exact hP, by rw [ht]; exact hz, ⟨by rw [ht]; exact hS.1, fun q h1 h2 => by rw [ht]; exact hS.2.1 q h1 h2⟩⟩) hS.2.2 hd C.2.2.2.2.2.2.1
end VH
/-! contracts -/
def vPc (G : GT) (n : Nat) (r : RT) (w : Wd) (U : State) : Prop := va_P G.2.2.2.1 vwCl (cs G n r w) U.heap ∧ U.heap.size = G.1 + n ∧ vK G U
def vC (G : GT) (y : MethodName) (M : VM) (R : Room) (mc ms n : Nat) (r : RT) (av : List Value) (w : Wd) (Z : VZ) : Prop :=
  ∀ l : Launch, Met l y (Cond.code y M.2.2.1 M.2.2.2.1 M.2.2.2.2 :: BIG) R (va_Pc (av.map (rv G)) (vPc G n r w)) (vQ G Z) mc ms (gA G)
def lvA : List Value → List (Option Value)
  | [] => []
  | v :: vs => if v.category = 2 then some v :: none :: lvA vs else some v :: lvA vs
theorem lvA_args (G : GT) : ∀ (vs : List Value) (i0 i : Nat) (v : Value), (lvA vs)[i]? = some (some v) → (i0 + i, rv G v) ∈ lv_args i0 (vs.map (rv G))
  | [], _, _, _ => fun h => by simp [lvA] at h
  | x :: vs, i0, i, v => fun h => by
    show _ ∈ (i0, rv G x) :: lv_args (if (rv G x).category = 2 then i0 + 2 else i0 + 1) (vs.map (rv G))
    rw [rv_cat]
    by_cases hc : x.category = 2
    · simp only [lvA, hc, if_true] at h ⊢
      match i, h with
      | 0, h =>
        have e : x = v := by simpa using h
        subst e
        exact List.mem_cons_self
      | 1, h => simp at h
      | i + 2, h =>
        have h1 := lvA_args G vs (i0 + 2) i v (by simpa using h)
        rw [show i0 + 2 + i = i0 + (i + 2) by omega] at h1
        exact List.mem_cons_of_mem _ h1
    · simp only [lvA, hc, if_false] at h ⊢
      match i, h with
      | 0, h =>
        have e : x = v := by simpa using h
        subst e
        exact List.mem_cons_self
      | i + 1, h =>
        have h1 := lvA_args G vs (i0 + 1) i v (by simpa using h)
        rw [show i0 + 1 + i = i0 + (i + 1) by omega] at h1
        exact List.mem_cons_of_mem _ h1
theorem lvA_pad {vs : List Value} {k i : Nat} {v : Value} (h : (lvA vs ++ List.replicate k none)[i]? = some (some v)) : (lvA vs)[i]? = some (some v) := by
  by_cases hi : i < (lvA vs).length
  · rwa [List.getElem?_append_left hi] at h
  · rw [List.getElem?_append_right (by omega), List.getElem?_replicate] at h
    split at h <;> simp at h
theorem vC_of {G : GT} {y : MethodName} {M : VM} {R : Room} {mc ms n : Nat} {r : RT} {av : List Value} {w : Wd} {Z : VZ} (kp : Nat) (hy : plainName y.cls = true) (hM : M.1 = y.cls ∧ M.2.1 = y.name) (hlen : (lg_sl av).length ≤ M.2.2.2.1) (hn : n ≤ 1000)
    (k : V (G, M, (fun _ => True), R, mc, ms) 0 0 n r 0 (lvA av ++ List.replicate kp none) [] w Z) : vC G y M R mc ms n r av w Z := by
  intro l
  refine Met.ofW (cc := M.2.2.1) (maxL := M.2.2.2.1) (ret := M.2.2.2.2) hy rfl ?_
  intro p e s m args below meth c s₁ B hml hv
  obtain ⟨rfl, hP, hz, hK⟩ := hv
  have hts : ∀ x ∈ BIG, x.before (av.map (rv G)).toArray s = true := fun x hx => atoms_spec (ws := Cond.code y M.2.2.1 M.2.2.2.1 M.2.2.2.2 :: BIG) B.pre x (List.mem_cons_of_mem _ hx)
  have hnm := name_of_methodNamed B.named B.method
  have hlen' : (lg_sl (av.map (rv G))).length ≤ M.2.2.2.1 := by
    have e : ∀ vs : List Value, (lg_sl (vs.map (rv G))).length = (lg_sl vs).length := by
      intro vs
      induction vs with
      | nil => rfl
      | cons v vs ih =>
        simp only [lg_sl, List.map_cons, List.flatMap_cons, List.length_append] at ih ⊢
        rw [rv_cat, ih]
        split <;> rfl
    rw [e]; exact hlen
  have hl := lv_entry (av.map (rv G)) hlen'
  rw [lg_entry_eq]
  refine k hn p l e s m _ below meth c s.heap [] _ ⟨B.exec, B.bytes, hml, B.returns, by rw [hM.1]; exact findClass_of_methodNamed B.named, hts, B.notSynchronized, by rw [hM.2]; exact hnm.1, hK, (show G.1 ≤ s.heap.size by omega), trivial⟩ hP hz va_S.rf ⟨hl.1, hl.2.1, fun i v hi => ?_⟩
  have hm := lvA_args G av 0 i v (lvA_pad hi)
  have h2 := hl.2.2 _ hm
  simpa using h2
