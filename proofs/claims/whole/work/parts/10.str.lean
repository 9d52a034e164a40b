/-! texts: length and charAt of a constant -/
def rC (G : GT) (y : MethodName) (M : VM) (R : Room) (n : Nat) (r : RT) (av : List Value) (w : Wd) (Z : VZ) : Prop :=
  ∀ l : Launch, Met l y (Cond.code y M.2.2.1 M.2.2.2.1 M.2.2.2.2 :: BIG) R (va_Pc av (vPc G n r w)) (vQ G Z) 0 0 (gA G)
theorem rC_of {G : GT} {y : MethodName} {M : VM} {R : Room} {n : Nat} {r : RT} {av : List Value} {w : Wd} {Z : VZ} (hy : plainName y.cls = true) (hM : M.1 = y.cls ∧ M.2.1 = y.name) (hlen : (lg_sl av).length ≤ M.2.2.2.1)
    (k : ∀ (p : Program) (l : Launch) (e : Env) (s : State) (m : MethodId) (args : Array Value) (below : List Frame) (meth : Method) (c : Code) (ls : Array Slot), vCtx G M (fun _ => True) p s m args meth c → va_P G.2.2.2.1 vwCl (cs G n r w) s.heap → s.heap.size = G.1 + n → lv_has ls M.2.2.2.1 (lv_args 0 av) →
      W p l e R s m args below meth c s.heap [] 0 0 (MQ below (vQ G Z) args s 0 0 (gA G)) (F0 m 0 ls [])) : rC G y M R n r av w Z := by
  intro l
  refine Met.ofW (cc := M.2.2.1) (maxL := M.2.2.2.1) (ret := M.2.2.2.2) hy rfl ?_
  intro p e s m args below meth c s₁ B hml hv
  obtain ⟨rfl, hP, hz, hK⟩ := hv
  have hts : ∀ x ∈ BIG, x.before av.toArray s = true := fun x hx => atoms_spec (ws := Cond.code y M.2.2.1 M.2.2.2.1 M.2.2.2.2 :: BIG) B.pre x (List.mem_cons_of_mem _ hx)
  have hnm := name_of_methodNamed B.named B.method
  have hl := lv_entry av hlen
  rw [lg_entry_eq]
  exact k p l e s m _ below meth c _ ⟨B.exec, B.bytes, hml, B.returns, by rw [hM.1]; exact findClass_of_methodNamed B.named, hts, B.notSynchronized, by rw [hM.2]; exact hnm.1, hK, (show G.1 ≤ s.heap.size by omega), trivial⟩ hP hz hl
section WC
variable {p : Program} {l : Launch} {e : Env} {R : Room} {s : State} {m : MethodId} {args : Array Value} {below : List Frame} {meth : Method} {c : Code} {H : Heap} {locs : List Loc} {Q : State → Prop} {pc : Nat} {ls : Array Slot} {rest : List Value} {G : GT} {M0 : VM} {E : State → Prop} {n : Nat} {r : RT} {w : Wd}
theorem w_callS {cells slots i nA : Nat} {y : MethodName} {M : VM} {R' : Room} {As : List Value} {Y : VZ} (C : vCtx G M0 E p s m args meth c) (hP : va_P G.2.2.2.1 vwCl (cs G n r w) H) (hz : H.size = G.1 + n) (hS : va_S (gA G) s.heap H locs) (hls : ls.size = M0.2.2.2.1) (hd : decode M0.2.2.1 pc = .ok (.invokestatic i, 3)) (hk : lkS M0.1 i y M nA) (hC : rC G y M R' n r As w Y) (hR : rmOk R R' M.2.2.2.1 0 0 cells slots) (hn : As.length = nA) (hs : (rest.map fun v => v.category).sum ≤ 8)
    (kk : ∀ (H1 : Heap) (locs1 : List Loc), va_P G.2.2.2.1 vwCl (cs G Y.2.1 Y.2.2.1 Y.2.2.2) H1 → H1.size = G.1 + Y.2.1 → va_S (gA G) s.heap H1 locs1 → W p l e R s m args below meth c H1 locs1 cells slots Q (F0 m (pc + 3) ls ((Y.1.map (rv G)).toList ++ rest))) : W p l e R s m args below meth c H locs cells slots Q (F0 m pc ls (As.reverse ++ rest)) := by
  obtain ⟨k1, k2, k4, k5, k6⟩ := hk
  have hts := C.2.2.2.2.2.1
  exact va_after (va_runS (As := As) (rest := rest) (n := nA) ⟨C.1, C.2.1, C.2.2.1, C.2.2.2.2.1, hts⟩ (hC l)
    ⟨callB_of nA hts (big_in k5) rfl hR.1 hR.2.1 (hts _ k4) (hts _ k1) k6 hR.2.2.1, hts _ k2⟩
    ⟨vPc_blind, fun U hU hW => ⟨rfl, by rw [hU]; exact hP, by rw [hU]; exact hz, vK_moved C.2.2.2.2.2.2.2.2.1 hW hU hS⟩⟩ rfl hn hls rfl (lv_room hs) hd hR.2.2.2) hS kk
theorem w_callV {cells slots i nA b : Nat} {y : MethodName} {M : VM} {R' : Room} {As : List Value} {Y : VZ} (C : vCtx G M0 E p s m args meth c) (hP : va_P G.2.2.2.1 vwCl (cs G n r w) H) (hz : H.size = G.1 + n) (hS : va_S (gA G) s.heap H locs) (hls : ls.size = M0.2.2.2.1) (hd : decode M0.2.2.1 pc = .ok (.invokevirtual i, 3)) (hk : lkV M0.1 i y M nA) (hC : rC G y M R' n r (.ref b :: As) w Y) (hrecv : ∃ cell : Cell, H[b]? = some cell ∧ cell.vm.isStatics = false ∧ s.vm.findClass y.cls = some cell.cls) (hR : rmOk R R' M.2.2.2.1 0 0 cells slots) (hn : As.length = nA) (hs : (rest.map fun v => v.category).sum ≤ 8)
    (kk : ∀ (H1 : Heap) (locs1 : List Loc), va_P G.2.2.2.1 vwCl (cs G Y.2.1 Y.2.2.1 Y.2.2.2) H1 → H1.size = G.1 + Y.2.1 → va_S (gA G) s.heap H1 locs1 → W p l e R s m args below meth c H1 locs1 cells slots Q (F0 m (pc + 3) ls ((Y.1.map (rv G)).toList ++ rest))) : W p l e R s m args below meth c H locs cells slots Q (F0 m pc ls (As.reverse ++ .ref b :: rest)) := by
  obtain ⟨k1, k2, k3, k4, k5, k6⟩ := hk
  have hts := C.2.2.2.2.2.1
  exact va_after (va_runV (As := As) (rest := rest) (b := b) (C := y.cls) (n := nA) ⟨C.1, C.2.1, C.2.2.1, C.2.2.2.2.1, hts⟩ (hC l)
    ⟨callB_of nA hts (big_in k5) rfl hR.1 hR.2.1 (hts _ k4) (hts _ k1) k6 hR.2.2.1, hts _ k2, hts _ k3⟩
    ⟨vPc_blind, hrecv, fun U hU hW => ⟨rfl, by rw [hU]; exact hP, by rw [hU]; exact hz, vK_moved C.2.2.2.2.2.2.2.2.1 hW hU hS⟩⟩ rfl hn hls rfl (lv_room hs) hd hR.2.2.2) hS kk
end WC
theorem wend {G : GT} {n : Nat} {r : RT} {w : Wd} {s t : State} {H : Heap} {locs : List Loc} {v : Option Value} (hv : v.map (rv G) = v) (hP : va_P G.2.2.2.1 vwCl (cs G n r w) H) (hz : H.size = G.1 + n) (hS : va_S (gA G) s.heap H locs) (ht : t.heap = H) (a : Array Value) : vQ G (v, n, r, w) a s (.returned v) t :=
  ⟨by show _ = Outcome.returned (v.map (rv G)); rw [hv], by rw [ht]; exact hP, by rw [ht]; exact hz, ⟨by rw [ht]; exact hS.1, fun q h1 h2 => by rw [ht]; exact hS.2.1 q h1 h2⟩⟩
theorem dJ0_length_8abf5_0 : decode cJ0_length_8abf5 0 = .ok (.aload_n 0, 1) := by decide +kernel
theorem dJ0_length_8abf5_1 : decode cJ0_length_8abf5 1 = .ok (.getfield 9, 3) := by decide +kernel
theorem dJ0_length_8abf5_4 : decode cJ0_length_8abf5 4 = .ok (.arraylength, 1) := by decide +kernel
theorem dJ0_length_8abf5_5 : decode cJ0_length_8abf5 5 = .ok (.aload_n 0, 1) := by decide +kernel
theorem dJ0_length_8abf5_6 : decode cJ0_length_8abf5 6 = .ok (.invokevirtual 335, 3) := by decide +kernel
theorem dJ0_length_8abf5_9 : decode cJ0_length_8abf5 9 = .ok (.ishr, 1) := by decide +kernel
theorem dJ0_length_8abf5_10 : decode cJ0_length_8abf5 10 = .ok (.ireturn, 1) := by decide +kernel
theorem dJ0_coder_7d493_0 : decode cJ0_coder_7d493 0 = .ok (.getstatic 38, 3) := by decide +kernel
theorem dJ0_coder_7d493_3 : decode cJ0_coder_7d493 3 = .ok (.ifCond .eq 10, 3) := by decide +kernel
theorem dJ0_coder_7d493_6 : decode cJ0_coder_7d493 6 = .ok (.aload_n 0, 1) := by decide +kernel
theorem dJ0_coder_7d493_7 : decode cJ0_coder_7d493 7 = .ok (.getfield 15, 3) := by decide +kernel
theorem dJ0_coder_7d493_10 : decode cJ0_coder_7d493 10 = .ok (.goto 4, 3) := by decide +kernel
theorem dJ0_coder_7d493_13 : decode cJ0_coder_7d493 13 = .ok (.iconst 1, 1) := by decide +kernel
theorem dJ0_coder_7d493_14 : decode cJ0_coder_7d493 14 = .ok (.ireturn, 1) := by decide +kernel
theorem dJ0_charAt_5068e_0 : decode cJ0_charAt_5068e 0 = .ok (.aload_n 0, 1) := by decide +kernel
theorem dJ0_charAt_5068e_1 : decode cJ0_charAt_5068e 1 = .ok (.invokevirtual 492, 3) := by decide +kernel
theorem dJ0_charAt_5068e_4 : decode cJ0_charAt_5068e 4 = .ok (.ifCond .eq 12, 3) := by decide +kernel
theorem dJ0_charAt_5068e_7 : decode cJ0_charAt_5068e 7 = .ok (.aload_n 0, 1) := by decide +kernel
theorem dJ0_charAt_5068e_8 : decode cJ0_charAt_5068e 8 = .ok (.getfield 9, 3) := by decide +kernel
theorem dJ0_charAt_5068e_11 : decode cJ0_charAt_5068e 11 = .ok (.iload_n 1, 1) := by decide +kernel
theorem dJ0_charAt_5068e_12 : decode cJ0_charAt_5068e 12 = .ok (.invokestatic 495, 3) := by decide +kernel
theorem dJ0_charAt_5068e_15 : decode cJ0_charAt_5068e 15 = .ok (.ireturn, 1) := by decide +kernel
theorem dJ0_charAt_5068e_16 : decode cJ0_charAt_5068e 16 = .ok (.aload_n 0, 1) := by decide +kernel
theorem dJ0_charAt_5068e_17 : decode cJ0_charAt_5068e 17 = .ok (.getfield 9, 3) := by decide +kernel
theorem dJ0_charAt_5068e_20 : decode cJ0_charAt_5068e 20 = .ok (.iload_n 1, 1) := by decide +kernel
theorem dJ0_charAt_5068e_21 : decode cJ0_charAt_5068e 21 = .ok (.invokestatic 498, 3) := by decide +kernel
theorem dJ0_charAt_5068e_24 : decode cJ0_charAt_5068e 24 = .ok (.ireturn, 1) := by decide +kernel
theorem dJ0_isLatin1_aae02_0 : decode cJ0_isLatin1_aae02 0 = .ok (.getstatic 38, 3) := by decide +kernel
theorem dJ0_isLatin1_aae02_3 : decode cJ0_isLatin1_aae02 3 = .ok (.ifCond .eq 14, 3) := by decide +kernel
theorem dJ0_isLatin1_aae02_6 : decode cJ0_isLatin1_aae02 6 = .ok (.aload_n 0, 1) := by decide +kernel
theorem dJ0_isLatin1_aae02_7 : decode cJ0_isLatin1_aae02 7 = .ok (.getfield 15, 3) := by decide +kernel
theorem dJ0_isLatin1_aae02_10 : decode cJ0_isLatin1_aae02 10 = .ok (.ifCond .ne 7, 3) := by decide +kernel
theorem dJ0_isLatin1_aae02_13 : decode cJ0_isLatin1_aae02 13 = .ok (.iconst 1, 1) := by decide +kernel
theorem dJ0_isLatin1_aae02_14 : decode cJ0_isLatin1_aae02 14 = .ok (.goto 4, 3) := by decide +kernel
theorem dJ0_isLatin1_aae02_17 : decode cJ0_isLatin1_aae02 17 = .ok (.iconst 0, 1) := by decide +kernel
theorem dJ0_isLatin1_aae02_18 : decode cJ0_isLatin1_aae02 18 = .ok (.ireturn, 1) := by decide +kernel
theorem dJ1_charAt_3b067_0 : decode cJ1_charAt_3b067 0 = .ok (.iload_n 1, 1) := by decide +kernel
theorem dJ1_charAt_3b067_1 : decode cJ1_charAt_3b067 1 = .ok (.aload_n 0, 1) := by decide +kernel
theorem dJ1_charAt_3b067_2 : decode cJ1_charAt_3b067 2 = .ok (.arraylength, 1) := by decide +kernel
theorem dJ1_charAt_3b067_3 : decode cJ1_charAt_3b067 3 = .ok (.invokestatic 9, 3) := by decide +kernel
theorem dJ1_charAt_3b067_6 : decode cJ1_charAt_3b067 6 = .ok (.aload_n 0, 1) := by decide +kernel
theorem dJ1_charAt_3b067_7 : decode cJ1_charAt_3b067 7 = .ok (.iload_n 1, 1) := by decide +kernel
theorem dJ1_charAt_3b067_8 : decode cJ1_charAt_3b067 8 = .ok (.baload, 1) := by decide +kernel
theorem dJ1_charAt_3b067_9 : decode cJ1_charAt_3b067 9 = .ok (.sipush 255, 3) := by decide +kernel
theorem dJ1_charAt_3b067_12 : decode cJ1_charAt_3b067 12 = .ok (.iand, 1) := by decide +kernel
theorem dJ1_charAt_3b067_13 : decode cJ1_charAt_3b067 13 = .ok (.i2c, 1) := by decide +kernel
theorem dJ1_charAt_3b067_14 : decode cJ1_charAt_3b067 14 = .ok (.ireturn, 1) := by decide +kernel
theorem dJ0_checkIndex_df160_0 : decode cJ0_checkIndex_df160 0 = .ok (.iload_n 0, 1) := by decide +kernel
theorem dJ0_checkIndex_df160_1 : decode cJ0_checkIndex_df160 1 = .ok (.iload_n 1, 1) := by decide +kernel
theorem dJ0_checkIndex_df160_2 : decode cJ0_checkIndex_df160 2 = .ok (.getstatic 1053, 3) := by decide +kernel
theorem dJ0_checkIndex_df160_5 : decode cJ0_checkIndex_df160 5 = .ok (.invokestatic 1059, 3) := by decide +kernel
theorem dJ0_checkIndex_df160_8 : decode cJ0_checkIndex_df160 8 = .ok (.pop, 1) := by decide +kernel
theorem dJ0_checkIndex_df160_9 : decode cJ0_checkIndex_df160 9 = .ok (.return_, 1) := by decide +kernel
theorem dJ3_checkIndex_8e157_0 : decode cJ3_checkIndex_8e157 0 = .ok (.iload_n 0, 1) := by decide +kernel
theorem dJ3_checkIndex_8e157_1 : decode cJ3_checkIndex_8e157 1 = .ok (.ifCond .lt 8, 3) := by decide +kernel
theorem dJ3_checkIndex_8e157_4 : decode cJ3_checkIndex_8e157 4 = .ok (.iload_n 0, 1) := by decide +kernel
theorem dJ3_checkIndex_8e157_5 : decode cJ3_checkIndex_8e157 5 = .ok (.iload_n 1, 1) := by decide +kernel
theorem dJ3_checkIndex_8e157_6 : decode cJ3_checkIndex_8e157 6 = .ok (.if_icmp .lt 10, 3) := by decide +kernel
theorem dJ3_checkIndex_8e157_9 : decode cJ3_checkIndex_8e157 9 = .ok (.aload_n 2, 1) := by decide +kernel
theorem dJ3_checkIndex_8e157_10 : decode cJ3_checkIndex_8e157 10 = .ok (.iload_n 0, 1) := by decide +kernel
theorem dJ3_checkIndex_8e157_11 : decode cJ3_checkIndex_8e157 11 = .ok (.iload_n 1, 1) := by decide +kernel
theorem dJ3_checkIndex_8e157_12 : decode cJ3_checkIndex_8e157 12 = .ok (.invokestatic 95, 3) := by decide +kernel
theorem dJ3_checkIndex_8e157_15 : decode cJ3_checkIndex_8e157 15 = .ok (.athrow, 1) := by decide +kernel
theorem dJ3_checkIndex_8e157_16 : decode cJ3_checkIndex_8e157 16 = .ok (.iload_n 0, 1) := by decide +kernel
theorem dJ3_checkIndex_8e157_17 : decode cJ3_checkIndex_8e157 17 = .ok (.ireturn, 1) := by decide +kernel
theorem st_fmt : Cond.fieldLink RJ0 1053 "jdk/internal/util/Preconditions" "SIOOBE_FORMATTER" "Ljava/util/function/BiFunction;" ∈ BIG := big_of 574 (by decide +kernel) rfl
theorem st_cmp : Cond.fieldLink RJ0 38 "java/lang/String" "COMPACT_STRINGS" "Z" ∈ BIG := big_of 558 (by decide +kernel) rfl
theorem st_cod : Cond.fieldLink RJ0 15 "java/lang/String" "coder" "B" ∈ BIG := big_of 1780 (by decide +kernel) rfl
theorem st_val : Cond.fieldLink RJ0 9 "java/lang/String" "value" "[B" ∈ BIG := big_of 1779 (by decide +kernel) rfl
theorem cc_pre {G : GT} {n : Nat} {r : RT} {w : Wd} {R : Room} {i k : Int32} {fv : Value} (hcat : fv.category = 1) (h0 : ¬ i < 0) (h1 : i < k) : rC G yJ3_checkIndex_8e157 mJ3_checkIndex_8e157 R n r [.int i, .int k, fv] w (some (.int i), n, r, w) := by
  refine rC_of (by decide +kernel) ⟨rfl, rfl⟩ (by
    have q : (if fv.category = 2 then [Slot.val fv, Slot.second] else [Slot.val fv]) = [Slot.val fv] := by rw [hcat]; rfl
    simp only [lg_sl, List.flatMap_cons, List.flatMap_nil]
    rw [q]
    exact Nat.le_of_ble_eq_true rfl) ?_
  intro p l e s m args below meth c ls C hP hz hl
  have hx := C.1
  have hb := C.2.1
  have a0 : ls[0]? = some (.val (.int i)) := hl.2.2 (0, .int i) List.mem_cons_self
  have a1 : ls[1]? = some (.val (.int k)) := hl.2.2 (1, .int k) (List.mem_cons_of_mem _ List.mem_cons_self)
  refine lv_iload_n hx hb dJ3_checkIndex_8e157_0 rfl a0 ?_
  refine lv_if_lt (tgt := 9) hx hb dJ3_checkIndex_8e157_1 (by decide) (fun q => absurd q h0) (fun _ => ?_)
  refine lv_iload_n hx hb dJ3_checkIndex_8e157_4 rfl a0 ?_
  refine lv_iload_n hx hb dJ3_checkIndex_8e157_5 rfl a1 ?_
  refine lv_icmp_lt (tgt := 16) hx hb dJ3_checkIndex_8e157_6 (by decide) (fun _ => ?_) (fun q => absurd h1 q)
  refine lv_iload_n hx hb dJ3_checkIndex_8e157_16 rfl a0 ?_
  exact W.iret (v := i) hx hb C.2.2.2.1 (fun t ht _ => wend rfl hP hz va_S.rf ht _) (fun q h => by simp at h) dJ3_checkIndex_8e157_17 C.2.2.2.2.2.2.1
theorem cc_chk {G : GT} {n : Nat} {r : RT} {w : Wd} {d : Nat} {i k : Int32} (h0 : ¬ i < 0) (h1 : i < k) : rC G yJ0_checkIndex_df160 mJ0_checkIndex_df160 (rmD (d + 1)) n r [.int i, .int k] w (none, n, r, w) := by
  refine rC_of (by decide +kernel) ⟨rfl, rfl⟩ (Nat.le_of_ble_eq_true rfl) ?_
  intro p l e s m args below meth c ls C hP hz hl
  have hx := C.1
  have hb := C.2.1
  have hts := C.2.2.2.2.2.1
  have a0 : ls[0]? = some (.val (.int i)) := hl.2.2 (0, .int i) List.mem_cons_self
  have a1 : ls[1]? = some (.val (.int k)) := hl.2.2 (1, .int k) (List.mem_cons_of_mem _ List.mem_cons_self)
  refine lv_iload_n hx hb dJ0_checkIndex_df160_0 rfl a0 ?_
  refine lv_iload_n hx hb dJ0_checkIndex_df160_1 rfl a1 ?_
  obtain ⟨fv, hcat, hfv⟩ : ∃ fv : Value, fv.category = 1 ∧ va_Z "jdk/internal/util/Preconditions" "SIOOBE_FORMATTER" "Ljava/util/function/BiFunction;" fv (gA G) s s.heap := by
    rcases C.2.2.2.2.2.2.2.2.1.2.2.2.2 with h | ⟨t, h⟩
    · exact ⟨_, rfl, h⟩
    · exact ⟨_, rfl, h⟩
  refine va_gets hx hb hfv va_S.rf C.2.2.2.2.1 (hts _ st_fmt) (fun _ q => q) dJ0_checkIndex_df160_2 ?_
  refine w_callS (As := [.int i, .int k, fv]) (rest := []) C hP hz va_S.rf hl.1 dJ0_checkIndex_df160_5 l_RJ0_1059 (cc_pre (R := rmD d) hcat h0 h1) (rmOk_D (Nat.le_of_ble_eq_true rfl)) rfl (Nat.le_of_ble_eq_true rfl) (fun H1 locs1 g1 g2 g3 => ?_)
  refine lv_pop (va := .int i) hx hb dJ0_checkIndex_df160_8 rfl ?_
  exact W.vret hx hb C.2.2.2.1 (fun t ht _ => wend rfl g1 g2 g3 ht _) g3.2.2 dJ0_checkIndex_df160_9 C.2.2.2.2.2.2.1
theorem sK_at {G : GT} {s : State} {j : Nat} (h : vK G s) (hj : j < 10) : va_O "java/lang/String" (ad G (1000 + j)) (gA G) s s.heap ∧ va_OF "java/lang/String" "coder" "B" (.int 0) (ad G (1000 + j)) (gA G) s s.heap ∧ va_OF "java/lang/String" "value" "[B" (.ref (G.2.2.1 j)) (ad G (1000 + j)) (gA G) s s.heap ∧ va_T .byte (G.2.2.1 j) (lenS.getD j 0) (fun q => .int ((bytS.getD j []).getD q 0)) (gA G) s s.heap := h.2.1.2.1 j hj
theorem cc_cod {G : GT} {n : Nat} {r : RT} {w : Wd} {R : Room} {j : Nat} (hj : j < 10) : rC G yJ0_coder_7d493 mJ0_coder_7d493 R n r [.ref (ad G (1000 + j))] w (some (.int 0), n, r, w) := by
  refine rC_of (by decide +kernel) ⟨rfl, rfl⟩ (Nat.le_of_ble_eq_true rfl) ?_
  intro p l e s m args below meth c ls C hP hz hl
  have hx := C.1
  have hb := C.2.1
  have hts := C.2.2.2.2.2.1
  have a0 : ls[0]? = some (.val (.ref (ad G (1000 + j)))) := hl.2.2 (0, _) List.mem_cons_self
  refine va_gets hx hb C.2.2.2.2.2.2.2.2.1.2.2.2.1 va_S.rf C.2.2.2.2.1 (hts _ st_cmp) (fun _ q => q) dJ0_coder_7d493_0 ?_
  refine lv_if_eq (tgt := 13) hx hb dJ0_coder_7d493_3 (by decide) (fun q => absurd q (by decide)) (fun _ => ?_)
  refine lv_aload_n hx hb dJ0_coder_7d493_6 rfl a0 ?_
  refine vk_getf hx hb (sK_at C.2.2.2.2.2.2.2.2.1 hj).2.1 va_S.rf C.2.2.2.2.1 (hts _ st_cod) (fun _ q => q) dJ0_coder_7d493_7 ?_
  refine lv_goto (tgt := 14) hx hb dJ0_coder_7d493_10 (by decide) ?_
  exact W.zret (v := 0) hx hb C.2.2.2.1 rfl (fun t ht _ => wend rfl hP hz va_S.rf ht _) (fun q h => by simp at h) dJ0_coder_7d493_14 C.2.2.2.2.2.2.1
theorem cc_lat {G : GT} {n : Nat} {r : RT} {w : Wd} {R : Room} {j : Nat} (hj : j < 10) : rC G yJ0_isLatin1_aae02 mJ0_isLatin1_aae02 R n r [.ref (ad G (1000 + j))] w (some (.int 1), n, r, w) := by
  refine rC_of (by decide +kernel) ⟨rfl, rfl⟩ (Nat.le_of_ble_eq_true rfl) ?_
  intro p l e s m args below meth c ls C hP hz hl
  have hx := C.1
  have hb := C.2.1
  have hts := C.2.2.2.2.2.1
  have a0 : ls[0]? = some (.val (.ref (ad G (1000 + j)))) := hl.2.2 (0, _) List.mem_cons_self
  refine va_gets hx hb C.2.2.2.2.2.2.2.2.1.2.2.2.1 va_S.rf C.2.2.2.2.1 (hts _ st_cmp) (fun _ q => q) dJ0_isLatin1_aae02_0 ?_
  refine lv_if_eq (tgt := 17) hx hb dJ0_isLatin1_aae02_3 (by decide) (fun q => absurd q (by decide)) (fun _ => ?_)
  refine lv_aload_n hx hb dJ0_isLatin1_aae02_6 rfl a0 ?_
  refine vk_getf hx hb (sK_at C.2.2.2.2.2.2.2.2.1 hj).2.1 va_S.rf C.2.2.2.2.1 (hts _ st_cod) (fun _ q => q) dJ0_isLatin1_aae02_7 ?_
  refine lv_if_ne (tgt := 17) hx hb dJ0_isLatin1_aae02_10 (by decide) (fun q => absurd rfl q) (fun _ => ?_)
  refine lv_iconst (v := 1) hx hb dJ0_isLatin1_aae02_13 (by decide) ?_
  refine lv_goto (tgt := 18) hx hb dJ0_isLatin1_aae02_14 (by decide) ?_
  exact W.zret (v := 1) hx hb C.2.2.2.1 rfl (fun t ht _ => wend rfl hP hz va_S.rf ht _) (fun q h => by simp at h) dJ0_isLatin1_aae02_18 C.2.2.2.2.2.2.1
theorem sl_lt : ∀ j, j < 10 → lenS.getD j 0 < 2 ^ 31 := by decide +kernel
theorem cc_len {G : GT} {n : Nat} {r : RT} {w : Wd} {d : Nat} {j : Nat} (hj : j < 10) : rC G yJ0_length_8abf5 mJ0_length_8abf5 (rmD (d + 1)) n r [.ref (ad G (1000 + j))] w (some (.int (nI (lenS.getD j 0))), n, r, w) := by
  refine rC_of (by decide +kernel) ⟨rfl, rfl⟩ (Nat.le_of_ble_eq_true rfl) ?_
  intro p l e s m args below meth c ls C hP hz hl
  have hx := C.1
  have hb := C.2.1
  have hts := C.2.2.2.2.2.1
  have hT := sK_at C.2.2.2.2.2.2.2.2.1 hj
  have a0 : ls[0]? = some (.val (.ref (ad G (1000 + j)))) := hl.2.2 (0, _) List.mem_cons_self
  refine lv_aload_n hx hb dJ0_length_8abf5_0 rfl a0 ?_
  refine vk_getf hx hb hT.2.2.1 va_S.rf C.2.2.2.2.1 (hts _ st_val) (fun _ q => q) dJ0_length_8abf5_1 ?_
  obtain ⟨cell, t1, t2, t3, t4, t5, t6, t7⟩ := hT.2.2.2
  refine W.alen hx hb t1 t2 t5 rfl rfl dJ0_length_8abf5_4 ?_
  refine lv_aload_n hx hb dJ0_length_8abf5_5 rfl a0 ?_
  refine w_callV (As := []) (rest := [.int (Int32.ofNat (lenS.getD j 0))]) C hP hz va_S.rf hl.1 dJ0_length_8abf5_6 l_RJ0_335 (cc_cod (R := rmD d) hj) (vk_recv (adK := fun j => ad G (1000 + j)) (i := j) C.2.2.2.2.2.2.2.2.1.2.1.2 hj va_S.rf) (rmOk_D (Nat.le_of_ble_eq_true rfl)) rfl (Nat.le_of_ble_eq_true rfl) (fun H1 locs1 g1 g2 g3 => ?_)
  refine lv_ishr hx hb dJ0_length_8abf5_9 ?_
  have e : Int32.ofNat (lenS.getD j 0) >>> ((0 : Int32) &&& 31) = nI (lenS.getD j 0) := sc_shr0 (sl_lt j hj)
  rw [e]
  exact W.iret hx hb C.2.2.2.1 (fun t ht _ => wend rfl g1 g2 g3 ht _) g3.2.2 dJ0_length_8abf5_10 C.2.2.2.2.2.2.1
theorem sb_ok : ∀ j, j < 10 → ∀ q, q < lenS.getD j 0 → (bytS.getD j []).getD q 0 &&& 255 = (bytS.getD j []).getD q 0 := by decide +kernel
theorem cc_lch {G : GT} {n : Nat} {r : RT} {w : Wd} {d : Nat} {j : Nat} {i : Int32} (hj : j < 10) (hi : inb i (lenS.getD j 0) = true) : rC G yJ1_charAt_3b067 mJ1_charAt_3b067 (rmD (d + 2)) n r [.ref (G.2.2.1 j), .int i] w (some (.int ((bytS.getD j []).getD i.toNatClampNeg 0)), n, r, w) := by
  have hin := inb_in hi
  have h0 : ¬ i < 0 := fun q => hin (Or.inl q)
  have h1 : i.toNatClampNeg < lenS.getD j 0 := Nat.not_le.mp fun q => hin (Or.inr q)
  have hL := sl_lt j hj
  have h2 : i < Int32.ofNat (lenS.getD j 0) := by
    obtain ⟨q, hq, rfl⟩ := vp_in_of hin hL
    exact nI_lt hq hL
  refine rC_of (by decide +kernel) ⟨rfl, rfl⟩ (Nat.le_of_ble_eq_true rfl) ?_
  intro p l e s m args below meth c ls C hP hz hl
  have hx := C.1
  have hb := C.2.1
  have hT := (sK_at C.2.2.2.2.2.2.2.2.1 hj).2.2.2
  have a0 : ls[0]? = some (.val (.ref (G.2.2.1 j))) := hl.2.2 (0, _) List.mem_cons_self
  have a1 : ls[1]? = some (.val (.int i)) := hl.2.2 (1, _) (List.mem_cons_of_mem _ List.mem_cons_self)
  refine lv_iload_n hx hb dJ1_charAt_3b067_0 rfl a1 ?_
  refine lv_aload_n hx hb dJ1_charAt_3b067_1 rfl a0 ?_
  obtain ⟨cell, t1, t2, t3, t4, t5, t6, t7⟩ := id hT
  refine W.alen hx hb t1 t2 t5 rfl rfl dJ1_charAt_3b067_2 ?_
  refine w_callS (As := [.int i, .int (Int32.ofNat (lenS.getD j 0))]) (rest := []) C hP hz va_S.rf hl.1 dJ1_charAt_3b067_3 l_RJ1_9 (cc_chk (d := d) h0 h2) (rmOk_D (Nat.le_of_ble_eq_true rfl)) rfl (Nat.le_of_ble_eq_true rfl) (fun H1 locs1 g1 g2 g3 => ?_)
  refine lv_aload_n hx hb dJ1_charAt_3b067_6 rfl a0 ?_
  refine lv_iload_n hx hb dJ1_charAt_3b067_7 rfl a1 ?_
  refine va_tb hx hb hT g3 hin rfl dJ1_charAt_3b067_8 ?_
  refine lv_sipush (v := 255) hx hb dJ1_charAt_3b067_9 (by decide) ?_
  refine lv_iand hx hb dJ1_charAt_3b067_12 ?_
  refine lv_i2c hx hb dJ1_charAt_3b067_13 rfl ?_
  rw [sc_c2, sb_ok j hj _ h1]
  exact W.zret hx hb C.2.2.2.1 (by rw [← sb_ok j hj _ h1]; exact sc_nar _) (fun t ht _ => wend rfl g1 g2 g3 ht _) g3.2.2 dJ1_charAt_3b067_14 C.2.2.2.2.2.2.1
theorem cc_chr {G : GT} {n : Nat} {r : RT} {w : Wd} {d : Nat} {j : Nat} {i : Int32} (hj : j < 10) (hi : inb i (lenS.getD j 0) = true) : rC G yJ0_charAt_5068e mJ0_charAt_5068e (rmD (d + 3)) n r [.ref (ad G (1000 + j)), .int i] w (some (.int ((bytS.getD j []).getD i.toNatClampNeg 0)), n, r, w) := by
  have h1 : i.toNatClampNeg < lenS.getD j 0 := Nat.not_le.mp fun q => inb_in hi (Or.inr q)
  refine rC_of (by decide +kernel) ⟨rfl, rfl⟩ (Nat.le_of_ble_eq_true rfl) ?_
  intro p l e s m args below meth c ls C hP hz hl
  have hx := C.1
  have hb := C.2.1
  have hts := C.2.2.2.2.2.1
  have hT := sK_at C.2.2.2.2.2.2.2.2.1 hj
  have a0 : ls[0]? = some (.val (.ref (ad G (1000 + j)))) := hl.2.2 (0, _) List.mem_cons_self
  have a1 : ls[1]? = some (.val (.int i)) := hl.2.2 (1, _) (List.mem_cons_of_mem _ List.mem_cons_self)
  refine lv_aload_n hx hb dJ0_charAt_5068e_0 rfl a0 ?_
  refine w_callV (As := []) (rest := []) C hP hz va_S.rf hl.1 dJ0_charAt_5068e_1 l_RJ0_492 (cc_lat (R := rmD (d + 2)) hj) (vk_recv (adK := fun j => ad G (1000 + j)) (i := j) C.2.2.2.2.2.2.2.2.1.2.1.2 hj va_S.rf) (rmOk_D (Nat.le_of_ble_eq_true rfl)) rfl (Nat.le_of_ble_eq_true rfl) (fun H1 locs1 g1 g2 g3 => ?_)
  refine lv_if_eq (tgt := 16) hx hb dJ0_charAt_5068e_4 (by decide) (fun q => absurd q (by decide)) (fun _ => ?_)
  refine lv_aload_n hx hb dJ0_charAt_5068e_7 rfl a0 ?_
  refine vk_getf hx hb hT.2.2.1 g3 C.2.2.2.2.1 (hts _ st_val) (fun _ q => q) dJ0_charAt_5068e_8 ?_
  refine lv_iload_n hx hb dJ0_charAt_5068e_11 rfl a1 ?_
  refine w_callS (As := [.ref (G.2.2.1 j), .int i]) (rest := []) C g1 g2 g3 hl.1 dJ0_charAt_5068e_12 l_RJ0_495 (cc_lch (d := d) hj hi) (rmOk_D (Nat.le_of_ble_eq_true rfl)) rfl (Nat.le_of_ble_eq_true rfl) (fun H2 locs2 f1 f2 f3 => ?_)
  exact W.zret hx hb C.2.2.2.1 (by rw [← sb_ok j hj _ h1]; exact sc_nar _) (fun t ht _ => wend rfl f1 f2 f3 ht _) f3.2.2 dJ0_charAt_5068e_15 C.2.2.2.2.2.2.1
def chS {β : Type} (j : Nat) (i : Int32) (f : Int32 → Option β) : Option β := if inb i (lenS.getD j 0) = true then f ((bytS.getD j []).getD i.toNatClampNeg 0) else none
theorem chS_e {β : Type} {j : Nat} {i : Int32} {f : Int32 → Option β} {r : β} (h : chS j i f = some r) : ∃ x, inb i (lenS.getD j 0) = true ∧ (bytS.getD j []).getD i.toNatClampNeg 0 = x ∧ f x = some r := by
  unfold chS at h
  split at h
  next hi => exact ⟨_, hi, rfl, h⟩
  next => cases h
section US
variable {G : GT} {M0 : VM} {d pc : Nat} {lv : List (Option Value)} {st : List Value} {w : Wd} {Z : VZ}
theorem V.slen {i j : Nat} {v : Int32} (hd : decode M0.2.2.1 pc = .ok (.invokevirtual i, 3)) (hk : lkV M0.1 i yJ0_length_8abf5 mJ0_length_8abf5 0) (hdd : 6 ≤ d + 1) (hj : j < 10) (hv : nI (lenS.getD j 0) = v) (hs : (st.map fun v => v.category).sum ≤ 8) (kk : U (vf G M0 (d + 1)) (pc + 3) lv (.int v :: st) w Z) : U (vf G M0 (d + 1)) pc lv (.ref (1000 + j) :: st) w Z :=
  fun h p l e s m args below meth c H locs ls C hP hz hS hl' => by
    subst hv
    obtain ⟨d, rfl⟩ : ∃ e, d = e + 1 := ⟨d - 1, by omega⟩
    exact w_callV (As := []) (rest := st.map (rv G)) C hP hz hS hl'.1 hd hk (cc_len (d := d) hj) (vk_recv (adK := fun j => ad G (1000 + j)) (i := j) C.2.2.2.2.2.2.2.2.1.2.1.2 hj hS) (rmOk_D (Nat.le_of_ble_eq_true rfl)) rfl (by rw [rv_cats]; exact hs) (fun H1 locs1 g1 g2 g3 => kk h p l e s m args below meth c H1 locs1 ls C g1 g2 g3 hl')
theorem V.schar {i j : Nat} {q x : Int32} (hd : decode M0.2.2.1 pc = .ok (.invokevirtual i, 3)) (hk : lkV M0.1 i yJ0_charAt_5068e mJ0_charAt_5068e 1) (hdd : 6 ≤ d + 1) (hj : j < 10) (hi : inb q (lenS.getD j 0) = true) (hx : (bytS.getD j []).getD q.toNatClampNeg 0 = x) (hs : (st.map fun v => v.category).sum ≤ 8) (kk : U (vf G M0 (d + 1)) (pc + 3) lv (.int x :: st) w Z) : U (vf G M0 (d + 1)) pc lv (.int q :: .ref (1000 + j) :: st) w Z :=
  fun h p l e s m args below meth c H locs ls C hP hz hS hl' => by
    subst hx
    obtain ⟨d, rfl⟩ : ∃ e, d = e + 3 := ⟨d - 3, by omega⟩
    exact w_callV (As := [.int q]) (rest := st.map (rv G)) C hP hz hS hl'.1 hd hk (cc_chr (d := d) hj hi) (vk_recv (adK := fun j => ad G (1000 + j)) (i := j) C.2.2.2.2.2.2.2.2.1.2.1.2 hj hS) (rmOk_D (Nat.le_of_ble_eq_true rfl)) rfl (by rw [rv_cats]; exact hs) (fun H1 locs1 g1 g2 g3 => kk h p l e s m args below meth c H1 locs1 ls C g1 g2 g3 hl')
end US
theorem V.ldcw {F : VF} {cells slots n : Nat} {r : RT} {pc : Nat} {lv : List (Option Value)} {st : List Value} {w : Wd} {Z : VZ} {i : Nat} {v : Int32} (hd : decode F.2.1.2.2.1 pc = .ok (.ldc_w i, 3)) (hc : Cond.constant F.2.1.1 i v ∈ BIG) (k : V F cells slots n r (pc + 3) lv (.int v :: st) w Z) : V F cells slots n r pc lv st w Z :=
  fun h p l e s m args below meth c H locs ls C hP hz hS hl => lv_ldcw C.1 C.2.1 C.2.2.2.2.1 (C.2.2.2.2.2.1 _ hc) hd (k h p l e s m args below meth c H locs ls C hP hz hS hl)
