theorem vK_moved {G : GT} {s U : State} {H : Heap} {locs : List Loc} (hK : vK G s) (hW : s.WarmedH U.vm) (hU : U.heap = H) (hS : va_S (gA G) s.heap H locs) : vK G U := by
  refine ⟨va_K.moved hW.alike hK.1, ⟨fun q hq => vk_R.warm hW (hK.2.1.1 q hq), ?_⟩, ⟨fun q hq => (hK.2.2.1.1 q hq).warmF hW, fun q hq => (hK.2.2.1.2 q hq).warmM hW⟩, by rw [hU]; exact va_Z.moved hW.alike (va_Z.kept hK.2.2.2.1 hS.2.1), by rw [hU]; exact va_Zq.moved hW.alike (va_Zq.kept hK.2.2.2.2 hS.2.1)⟩
  rw [hU]
  exact vk_S.moved hW.alike (vk_S.kept hK.2.1.2 hS.2.1)
theorem vK_calling {G : GT} {U : State} {g : JFrame} {mk : MethodId} {a : Array Value} (hK : vK G U) : vK G (U.calling g mk a) :=
  ⟨va_K.moved (u := U) (U := U.calling g mk a) (Vm.Alike.refl U.vm) hK.1, ⟨fun q hq => vk_R.same (u := U) (U := U.calling g mk a) rfl (hK.2.1.1 q hq), vk_S.moved (u := U) (U := U.calling g mk a) (Vm.Alike.refl U.vm) hK.2.1.2⟩, ⟨fun q hq => va_Nw.same (u := U) (U := U.calling g mk a) rfl rfl (hK.2.2.1.1 q hq), fun q hq => va_Nw.same (u := U) (U := U.calling g mk a) rfl rfl (hK.2.2.1.2 q hq)⟩, va_Z.moved (u := U) (U := U.calling g mk a) (Vm.Alike.refl U.vm) hK.2.2.2.1, va_Zq.moved (u := U) (U := U.calling g mk a) (Vm.Alike.refl U.vm) hK.2.2.2.2⟩
theorem vPc_blind {G : GT} {n : Nat} {r : RT} {w : Wd} {av : List Value} : FrameBlind (va_Pc av (vPc G n r w)) :=
  fun _ _ _ _ q => ⟨q.1, q.2.1, q.2.2.1, vK_calling q.2.2.2⟩
section VC1
variable {p : Program} {l : Launch} {e : Env} {R : Room} {s : State} {m : MethodId} {args : Array Value} {below : List Frame} {meth : Method} {c : Code} {H : Heap} {locs : List Loc} {cells slots : Nat} {Q : State → Prop} {pc : Nat} {ls : Array Slot} {rest st0 : List Value} {mc ms : Nat} {a : Array Value}
theorem va_after {G : GT} {Z : VZ} (hr : va_Run p l e R s m args below meth c H locs cells slots mc ms (F0 m pc ls st0) rest (vQ G Z a) (gA G)) (hS : va_S (gA G) s.heap H locs)
    (kk : ∀ (H1 : Heap) (locs1 : List Loc), va_P G.2.2.2.1 vwCl (cs G Z.2.1 Z.2.2.1 Z.2.2.2) H1 → H1.size = G.1 + Z.2.1 → va_S (gA G) s.heap H1 locs1 → W p l e R s m args below meth c H1 locs1 (cells + mc) (slots + ms) Q (F0 m (pc + 3) ls ((Z.1.map (rv G)).toList ++ rest))) : W p l e R s m args below meth c H locs cells slots Q (F0 m pc ls st0) := by
  intro T hT X
  obtain ⟨v, st₀, t, T', L, h0, X', hL, e1, e2, ⟨hv, hP1, hz1, hF1, hF2⟩, st⟩ := hr T hT X
  have hv : v = Z.1.map (rv G) := by injection hv
  subst hv
  rw [h0] at hF1 hF2
  obtain ⟨t2, a1, b1⟩ := kk T'.heap (locs ++ L) (by rw [e1]; exact hP1) (by rw [e1]; exact hz1)
    ⟨Nat.le_trans hS.1 (by rw [e1]; exact hF1), fun q h1 h2 => by rw [e1, hF2 q (Nat.lt_of_lt_of_le h1 hS.1) h2]; exact hS.2.1 q h1 h2, fun q hq => by
      rcases List.mem_append.mp hq with h | h
      · exact hS.2.2 q h
      · exact hL q h⟩ T' rfl X'
  exact ⟨t2, st t2 a1, b1⟩
end VC1
def lkD (y : MethodName) (nA : Nat) : Prop := y.cls ≠ "java/lang/invoke/MethodHandle" ∧ y.cls ≠ "java/lang/invoke/VarHandle" ∧ (parseMethodDescriptor y.desc).map (fun d => d.parameters.length) = some nA
def lkV (own : String) (i : Nat) (y : MethodName) (M : VM) (nA : Nat) : Prop := Cond.methodLink own i y ∈ BIG ∧ Cond.instanceMethod y ∈ BIG ∧ Cond.selects y.cls y y ∈ BIG ∧ Cond.initialized y.cls ∈ BIG ∧ Cond.code y M.2.2.1 M.2.2.2.1 M.2.2.2.2 ∈ BIG ∧ lkD y nA
def lkS (own : String) (i : Nat) (y : MethodName) (M : VM) (nA : Nat) : Prop := Cond.methodLink own i y ∈ BIG ∧ Cond.static y ∈ BIG ∧ Cond.initialized y.cls ∈ BIG ∧ Cond.code y M.2.2.1 M.2.2.2.1 M.2.2.2.2 ∈ BIG ∧ lkD y nA
def lkI (own : String) (i : Nat) (y : MethodName) (M : VM) (nA : Nat) : Prop := (Cond.methodLink own i y ∈ BIG ∨ ∃ host, (own, i, y, host) ∈ NM) ∧ Cond.instanceMethod y ∈ BIG ∧ Cond.initialized y.cls ∈ BIG ∧ Cond.code y M.2.2.1 M.2.2.2.1 M.2.2.2.2 ∈ BIG ∧ lkD y nA ∧ y.name = "<init>" ∧ M.2.2.2.2 = none
def rmOk (R R' : Room) (maxL mc ms cells slots : Nat) : Prop := R'.cells = mc ∧ R'.slots = ms ∧ (R'.frames + 1 ≤ R.frames ∧ 8 + (maxL + 11) + R'.locals ≤ R.locals) ∧ cells + mc ≤ R.cells ∧ slots + ms ≤ R.slots
theorem rv_cats (G : GT) (st : List Value) : ((st.map (rv G)).map fun v => v.category).sum = (st.map fun v => v.category).sum := by
  rw [List.map_map]; congr 1; apply List.map_congr_left; intro v _; exact rv_cat G v
section VC2
variable {F : VF} {cells slots n : Nat} {r : RT} {pc : Nat} {lv : List (Option Value)} {st : List Value} {w : Wd} {Z : VZ}
theorem V.callV {i nA b ci mc ms : Nat} {y : MethodName} {M : VM} {R' : Room} {As st0 : List Value} {Y : VZ} (hd : decode F.2.1.2.2.1 pc = .ok (.invokevirtual i, 3)) (hk : lkV F.2.1.1 i y M nA) (hC : vC F.1 y M R' mc ms n r (.ref b :: As) w Y) (hb : b < n) (hl : lay b = (0, ci)) (hcl : (vwCl[ci]?).map (fun q => q.1) = some y.cls) (hR : rmOk F.2.2.2.1 R' M.2.2.2.1 mc ms cells slots) (hst : st0 = As.reverse ++ .ref b :: st) (hn : As.length = nA) (hs : (st.map fun v => v.category).sum ≤ 8) (hm : Y.2.1 ≤ 1000)
    (kk : V F (cells + mc) (slots + ms) Y.2.1 Y.2.2.1 (pc + 3) lv (Y.1.toList ++ st) Y.2.2.2 Z) : V F cells slots n r pc lv st0 w Z :=
  fun h p l e s m args below meth c H locs ls C hP hz hS hl' => by
    subst hst
    obtain ⟨k1, k2, k3, k4, k5, k6⟩ := hk
    have hts := C.2.2.2.2.2.1
    obtain ⟨q, hq1, hq2⟩ : ∃ q, vwCl[ci]? = some q ∧ q.1 = y.cls := by
      cases hc : vwCl[ci]? with
      | none => rw [hc] at hcl; cases hcl
      | some q => rw [hc] at hcl; exact ⟨q, rfl, Option.some.inj hcl⟩
    have hws := cs_get (G := F.1) (r := r) (w := w) hb
    rw [cel_obj hl] at hws
    have hrecv := va_recv C.2.2.2.2.2.2.2.2.1.1 hP hq1 hws
    rw [hq2] at hrecv
    refine va_after (va_runV (As := As.map (rv F.1)) (rest := st.map (rv F.1)) (b := ad F.1 b) (C := y.cls) (n := nA) ⟨C.1, C.2.1, C.2.2.1, C.2.2.2.2.1, hts⟩ (hC l)
      ⟨callB_of nA hts (big_in k5) rfl hR.1 hR.2.1 (hts _ k4) (hts _ k1) k6 hR.2.2.1, hts _ k2, hts _ k3⟩
      ⟨vPc_blind, hrecv, fun U hU hW => ⟨rfl, by rw [hU]; exact hP, by rw [hU]; exact hz, vK_moved C.2.2.2.2.2.2.2.2.1 hW hU hS⟩⟩ rfl (by rw [List.length_map]; exact hn) hl'.1 (by show List.map _ _ = _; simp [rv]) (lv_room (by rw [rv_cats]; exact hs)) hd hR.2.2.2) hS (fun H1 locs1 g1 g2 g3 => ?_)
    have e0 : (Y.1.map (rv F.1)).toList ++ st.map (rv F.1) = (Y.1.toList ++ st).map (rv F.1) := by cases Y.1 <;> simp
    rw [e0]
    exact kk hm p l e s m args below meth c H1 locs1 ls C g1 g2 g3 hl'
theorem V.callS {i nA mc ms : Nat} {y : MethodName} {M : VM} {R' : Room} {As st0 : List Value} {Y : VZ} (hd : decode F.2.1.2.2.1 pc = .ok (.invokestatic i, 3)) (hk : lkS F.2.1.1 i y M nA) (hC : vC F.1 y M R' mc ms n r As w Y) (hR : rmOk F.2.2.2.1 R' M.2.2.2.1 mc ms cells slots) (hst : st0 = As.reverse ++ st) (hn : As.length = nA) (hs : (st.map fun v => v.category).sum ≤ 8) (hm : Y.2.1 ≤ 1000)
    (kk : V F (cells + mc) (slots + ms) Y.2.1 Y.2.2.1 (pc + 3) lv (Y.1.toList ++ st) Y.2.2.2 Z) : V F cells slots n r pc lv st0 w Z :=
  fun h p l e s m args below meth c H locs ls C hP hz hS hl' => by
    subst hst
    obtain ⟨k1, k2, k4, k5, k6⟩ := hk
    have hts := C.2.2.2.2.2.1
    refine va_after (va_runS (As := As.map (rv F.1)) (rest := st.map (rv F.1)) (n := nA) ⟨C.1, C.2.1, C.2.2.1, C.2.2.2.2.1, hts⟩ (hC l)
      ⟨callB_of nA hts (big_in k5) rfl hR.1 hR.2.1 (hts _ k4) (hts _ k1) k6 hR.2.2.1, hts _ k2⟩
      ⟨vPc_blind, fun U hU hW => ⟨rfl, by rw [hU]; exact hP, by rw [hU]; exact hz, vK_moved C.2.2.2.2.2.2.2.2.1 hW hU hS⟩⟩ rfl (by rw [List.length_map]; exact hn) hl'.1 (by show List.map _ _ = _; simp) (lv_room (by rw [rv_cats]; exact hs)) hd hR.2.2.2) hS (fun H1 locs1 g1 g2 g3 => ?_)
    have e0 : (Y.1.map (rv F.1)).toList ++ st.map (rv F.1) = (Y.1.toList ++ st).map (rv F.1) := by cases Y.1 <;> simp
    rw [e0]
    exact kk hm p l e s m args below meth c H1 locs1 ls C g1 g2 g3 hl'
theorem V.callI {i nA b mc ms : Nat} {y : MethodName} {M : VM} {R' : Room} {As st0 : List Value} {Y : VZ} (hd : decode F.2.1.2.2.1 pc = .ok (.invokespecial i, 3)) (hk : lkI F.2.1.1 i y M nA) (hC : vC F.1 y M R' mc ms n r (.ref b :: As) w Y) (hR : rmOk F.2.2.2.1 R' M.2.2.2.1 mc ms cells slots) (hst : st0 = As.reverse ++ .ref b :: st) (hn : As.length = nA) (hs : (st.map fun v => v.category).sum ≤ 8) (hm : Y.2.1 ≤ 1000)
    (kk : V F (cells + mc) (slots + ms) Y.2.1 Y.2.2.1 (pc + 3) lv (Y.1.toList ++ st) Y.2.2.2 Z) : V F cells slots n r pc lv st0 w Z :=
  fun h p l e s m args below meth c H locs ls C hP hz hS hl' => by
    subst hst
    obtain ⟨k1, k2, k4, k5, k6, k7, k8⟩ := hk
    obtain ⟨o, nm, cc, mL, rt⟩ := M
    dsimp only at k8
    subst k8
    have hts := C.2.2.2.2.2.1
    have e0 : (Y.1.map (rv F.1)).toList ++ st.map (rv F.1) = (Y.1.toList ++ st).map (rv F.1) := by cases Y.1 <;> simp
    rcases k1 with k1 | ⟨host, k1⟩
    · refine va_after (va_runI (As := As.map (rv F.1)) (rest := st.map (rv F.1)) (b := ad F.1 b) (n := nA) ⟨C.1, C.2.1, C.2.2.1, C.2.2.2.2.1, hts⟩ (hC l)
        ⟨callB_of nA hts (big_in k5) rfl hR.1 hR.2.1 (hts _ k4) (hts _ k1) k6 hR.2.2.1, k7, hts _ k2⟩
        ⟨vPc_blind, fun U hU hW => ⟨rfl, by rw [hU]; exact hP, by rw [hU]; exact hz, vK_moved C.2.2.2.2.2.2.2.2.1 hW hU hS⟩⟩ rfl (by rw [List.length_map]; exact hn) hl'.1 (by show List.map _ _ = _; simp [rv]) (lv_room (by rw [rv_cats]; exact hs)) hd hR.2.2.2) hS (fun H1 locs1 g1 g2 g3 => ?_)
      rw [e0]
      exact kk hm p l e s m args below meth c H1 locs1 ls C g1 g2 g3 hl'
    · refine va_after (va_runIN (As := As.map (rv F.1)) (rest := st.map (rv F.1)) (b := ad F.1 b) (n := nA) ⟨C.1, C.2.1, C.2.2.1, C.2.2.2.2.1, hts⟩ (hC l)
        ⟨va_cnB nA hts (big_in k5) rfl hR.1 hR.2.1 (C.2.2.2.2.2.2.2.2.1.2.2.1.2 _ k1) (hts _ k4) k6 hR.2.2.1, k7, hts _ k2⟩
        ⟨vPc_blind, fun U hU hW => ⟨rfl, by rw [hU]; exact hP, by rw [hU]; exact hz, vK_moved C.2.2.2.2.2.2.2.2.1 hW hU hS⟩⟩ rfl (by rw [List.length_map]; exact hn) hl'.1 (by show List.map _ _ = _; simp [rv]) (lv_room (by rw [rv_cats]; exact hs)) hd hR.2.2.2) hS (fun H1 locs1 g1 g2 g3 => ?_)
      rw [e0]
      exact kk hm p l e s m args below meth c H1 locs1 ls C g1 g2 g3 hl'
end VC2
