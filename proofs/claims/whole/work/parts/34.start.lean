def R_law : String := "SumFreeSetsLaw"
def lw_P (b : Addr) (xs : List Int32) (args : Array Value) (s : State) : Prop := args = #[.ref b] ∧ s.IntsAt b xs ∧ xs.length ≤ 3072 ∧ (Jvm.Cond.and given_1 narrow_1).before args s = true
def lw_Q (_ : Array Value) (s : State) (o : Outcome) (t : State) : Prop := o = .returned (some (.int 1)) ∧ Framed s o t [] 600000 7302249
def lw_Z (below : List Frame) (a : Array Value) (s : State) : State → Prop := fun t => ∃ o, t.status = .running ∧ Ended t below o ∧ lw_Q a s o t
/-- the law's own end, with 1 on the stack, nothing written that was there before, its room as the claim has it -/
theorem lw_ret {p : Program} {l : Launch} {e : Env} {s : State} {m : MethodId} {below : List Frame} {meth : Method} {c : Code} {b : Nat} (hx : p.tables.exec = Jvm.exec) (hb : c.code = code) (hr : meth.sig.returnType = ret) (hlocks : meth.locks = false) {pc : Nat} {H : Heap} {ls : Array Slot} (hdg : decode code pc = .ok (.ireturn, 1)) : W p l e room_1 s m #[Value.ref b] below meth c H [] 600000 7302249 (lw_Z below #[Value.ref b] s) (F0 m pc ls [.int 1]) := by
  intro T hT X
  obtain ⟨fs, hret, hrun, hended, hW, hframe⟩ := X.leave (v := some (.int 1)) (hlocks := hlocks) (fun h => by rw [hr] at h; cases h)
  have hmeth' : T.vm.method? m = some meth := X.method'
  refine ⟨T.setFrames fs, ?_, .returned (some (.int 1)), hrun, hended, rfl, ⟨_, rfl⟩, hW, hframe⟩
  jvm_step X.here [X.here.top, hx, hb, hdg, hmeth', hr, ret, narrow_b1]
  (try refine ⟨rfl, ?_⟩); (try refine ⟨rfl, ?_⟩)
  first | (intro acts; rw [hret _ acts rfl rfl rfl]) | rw [hret _ _ rfl rfl rfl]
  exact Steps.refl _
/-- what holds at the law's entry: the machine, the code, the tables' words (any of lw_tbl by 'hts w (by decide +kernel)'), the script of L ints xs at the cell b, what the Statement gives of the start (any of its parts by flat_of_before) -/
def lw_At (p : Program) (s : State) (m : MethodId) (meth : Method) (c : Code) (b L : Nat) (xs : Nat → Int32) : Prop :=
  p.tables.exec = Jvm.exec ∧ c.code = code ∧ meth.sig.returnType = ret ∧ c.maxLocals = 4 ∧ s.vm.findClass R_law = some m.cls ∧ (∀ w ∈ lw_tbl, w.before #[Value.ref b] s = true) ∧ va_X b L xs s s.heap ∧ b < s.heap.size ∧ meth.locks = false ∧ (Jvm.Cond.and given_1 narrow_1).before #[Value.ref b] s = true
theorem mq_lw {G : GT} {Z : VZ} {below : List Frame} {args : Array Value} {s t : State} (h : MQ below (vQ G Z) args s 600000 7302249 (gA G) t) (hb : s.heap.size ≤ G.1) (hZ : Z.1 = some (.int 1)) : lw_Z below args s t := by
  obtain ⟨o, h1, h2, h3, L, h4, h5⟩ := h
  refine ⟨o, h1, h2, ?_, h4.1, h4.2.1, h4.2.2.weaken (fun y hy hlt => ?_) (Nat.le_refl _) (Nat.le_refl _)⟩
  · rw [h3.1, hZ]; rfl
  · exact absurd hlt (Nat.not_lt.mpr (Nat.le_trans hb (h5 y hy)))
/-- the start of both systems, in pure words -/
def w00 : Wd := (fun _ _ => 0, fun _ => 0)
def Start (Inv : Wd → Prop) : Prop := ∃ w1 w2 w3 : Wd, f_X11_renew (sI (sI w00 3 4 1) 3 8 (-1)) = some w1 ∧ (∀ k, 44 ≤ k → ∀ j, w1.1 k j = 0) ∧ f_X12_laysGroup (sI (wd_68 w1) 44 1 1) = some w2 ∧ f_X12_startsRow 0 w2 = some w3 ∧ Inv w3
/-- ALL THAT IS WANTING, in pure words: an invariant that the start meets and every call keeps, both answering alike -/
def Pure : Prop := ∃ Inv : Wd → Prop, Start Inv ∧ ∀ k a1 a2 a3 a4 a5 w, Inv w → ∃ w', StpL k a1 a2 a3 a4 a5 w w' ∧ Inv w'
def tmL : List (String × Nat) := [("SumFreeSets$Reader", 54), ("SumFreeSets$Reader", 71), ("SumFreeSets$Reader", 73), ("SumFreeSets$Reader", 75), ("SumFreeSets", 301), ("SumFreeSets", 350), ("SumFreeSets", 352), ("SumFreeSets", 354), ("SumFreeSets", 356), ("SumFreeSets", 309)]
def tmS (i : Nat) : Term := Term.string (tmL.getD i ("", 0)).1 (tmL.getD i ("", 0)).2
abbrev flN : List Cond := flatC (Jvm.Cond.and given_1 narrow_1)
theorem sw_1 : ∀ i, i < 10 → Cond.exactly (tmS i) "java/lang/String" ∈ flN := by decide +kernel
theorem sw_2 : ∀ i, i < 10 → Cond.eq (.field (tmS i) "java/lang/String" "coder" "B") (.int 0) ∈ flN := by decide +kernel
theorem sw_3 : ∀ i, i < 10 → Cond.arrayOf (.field (tmS i) "java/lang/String" "value" "[B") .byte ∈ flN := by decide +kernel
theorem sw_4 : ∀ i, i < 10 → Cond.eq (.length (.field (tmS i) "java/lang/String" "value" "[B")) (.int (Int32.ofNat (lenS.getD i 0))) ∈ flN := by decide +kernel
theorem sw_5 : ∀ i, i < 10 → ∀ j, j < lenS.getD i 0 → Cond.eq (.elem (.field (tmS i) "java/lang/String" "value" "[B") (.int (Int32.ofNat j))) (.int ((bytS.getD i []).getD j 0)) ∈ flN := by decide +kernel
theorem sw_6 : ∀ i, i < 10 → ∀ j, j < 10 → i ≠ j → Cond.not (Cond.eq (tmS i) (tmS j)) ∈ flN ∨ Cond.not (Cond.eq (tmS j) (tmS i)) ∈ flN := by decide +kernel
theorem sw_7 : ∀ q ∈ strL, Cond.stringRef q.1 q.2.1 q.2.2.1 ∈ lw_tbl ∧ (tmS q.2.2.2 = Term.string q.1 q.2.1 ∨ Cond.eq (tmS q.2.2.2) (Term.string q.1 q.2.1) ∈ flN) ∧ q.2.2.2 < 10 := by decide +kernel
theorem sw_8 : Cond.eq (.static "java/lang/String" "COMPACT_STRINGS" "Z") (.int 1) ∈ flN := by decide +kernel
theorem sw_9 : Cond.isRef (.static "jdk/internal/util/Preconditions" "SIOOBE_FORMATTER" "Ljava/util/function/BiFunction;") ∈ flN := by decide +kernel
theorem sw_10 : ∀ q ∈ NF, Cond.fieldLinkNest q.1 q.2.1 q.2.2.1 q.2.2.2.1 q.2.2.2.2.1 q.2.2.2.2.2 ∈ lw_tbl := by decide +kernel
theorem sw_11 : ∀ q ∈ NM, Cond.methodLinkNest q.1 q.2.1 q.2.2.1 q.2.2.2 ∈ lw_tbl := by decide +kernel
theorem nw_L_0 : Cond.classLink RL 7 RX11 ∈ BIG := big_of 97 (by decide +kernel) rfl
theorem nw_L_8 : Cond.classLink RL 10 RX12 ∈ BIG := big_of 1168 (by decide +kernel) rfl
theorem arr_of {s : State} {args : Array Value} {ty : FieldType} (h : (Cond.arrayClass ty).before args s = true) (hty : ∀ C, ty ≠ .object C) : ∃ c, ArrOfT s c ty ∧ va_RA s c ty := by
  obtain ⟨c, k, comp, h1, h2, h3⟩ := Cond.arrayClass_spec (args := args) (first := s) (o := none) (s := s) (idx := []) h
  refine ⟨c, fun n z => ⟨fun k h => (by cases h), k, h2, comp, h3⟩, ?_⟩
  cases ty with
  | object C => exact absurd rfl (hty C)
  | _ => exact h1
set_option maxHeartbeats 4000000 in
set_option maxRecDepth 100000 in
theorem whole_open (hpure : Pure) {p : Program} {e : Env} {s : State} {m : MethodId} {below : List Frame} {meth : Method} {c : Code} (l : Launch) {b L : Nat} {xs : Nat → Int32} (hL : L ≤ 3072) (C0 : lw_At p s m meth c b L xs) (hnm : meth.name = "law") : W p l e room_1 s m #[Value.ref b] below meth c s.heap [] 0 0 (lw_Z below #[Value.ref b] s) (entryFrame m ([Value.ref b] : List Value).toArray 4) := by
  obtain ⟨hx, hb, hr, hml, hown, hts, hX, hbl, hlocks, hgv⟩ := id C0
  have hfl := flat_of_before _ hgv
  have hB : ∀ x ∈ BIG, x.before #[Value.ref b] s = true := fun x h => hts x (List.mem_filter.mp h).1
  obtain ⟨c0, iS0, hKn0⟩ := u_known (C := RX0) (T := TX0) (N := 5) (n := 5) hB k_in0 (hts _ (List.mem_of_getElem? (i := 379) (by decide +kernel)))
  obtain ⟨c1, iS1, hKn1⟩ := u_known (C := RX1) (T := TX1) (N := 9) (n := 9) hB k_in1 (hts _ (List.mem_of_getElem? (i := 208) (by decide +kernel)))
  obtain ⟨c2, iS2, hKn2⟩ := u_known (C := RX2) (T := TX2) (N := 5) (n := 5) hB k_in2 (hts _ (List.mem_of_getElem? (i := 267) (by decide +kernel)))
  obtain ⟨c3, iS3, hKn3⟩ := u_known (C := RX3) (T := TX3) (N := 3) (n := 3) hB k_in3 (hts _ (List.mem_of_getElem? (i := 251) (by decide +kernel)))
  obtain ⟨c4, iS4, hKn4⟩ := u_known (C := RX4) (T := TX4) (N := 10) (n := 10) hB k_in4 (hts _ (List.mem_of_getElem? (i := 160) (by decide +kernel)))
  obtain ⟨c5, iS5, hKn5⟩ := u_known (C := RX5) (T := TX5) (N := 5) (n := 5) hB k_in5 (hts _ (List.mem_of_getElem? (i := 355) (by decide +kernel)))
  obtain ⟨c6, iS6, hKn6⟩ := u_known (C := RX6) (T := TX6) (N := 2) (n := 2) hB k_in6 (hts _ (List.mem_of_getElem? (i := 402) (by decide +kernel)))
  obtain ⟨c7, iS7, hKn7⟩ := u_known (C := RX7) (T := TX7) (N := 9) (n := 9) hB k_in7 (hts _ (List.mem_of_getElem? (i := 122) (by decide +kernel)))
  obtain ⟨c8, iS8, hKn8⟩ := u_known (C := RX8) (T := TX8) (N := 5) (n := 5) hB k_in8 (hts _ (List.mem_of_getElem? (i := 295) (by decide +kernel)))
  obtain ⟨c9, iS9, hKn9⟩ := u_known (C := RX9) (T := TX9) (N := 2) (n := 2) hB k_in9 (hts _ (List.mem_of_getElem? (i := 106) (by decide +kernel)))
  obtain ⟨c10, iS10, hKn10⟩ := u_known (C := RX10) (T := TX10) (N := 10) (n := 10) hB k_in10 (hts _ (List.mem_of_getElem? (i := 289) (by decide +kernel)))
  obtain ⟨c11, iS11, hKn11⟩ := u_known (C := RX11) (T := TX11) (N := 11) (n := 11) hB k_in11 (hts _ (List.mem_of_getElem? (i := 98) (by decide +kernel)))
  obtain ⟨c12, iS12, hKn12⟩ := u_known (C := RX12) (T := TX12) (N := 42) (n := 42) hB k_in12 (hts _ (List.mem_of_getElem? (i := 1169) (by decide +kernel)))
  obtain ⟨a1, q1, q1'⟩ := arr_of (ty := .int) (hB _ big_ac_int) (fun _ h => by cases h)
  obtain ⟨a2, q2, q2'⟩ := arr_of (ty := .long) (hB _ big_ac_long) (fun _ h => by cases h)
  obtain ⟨a3, q3, q3'⟩ := arr_of (ty := .boolean) (hB _ big_ac_boolean) (fun _ h => by cases h)
  obtain ⟨a4, q4, q4'⟩ := arr_of (ty := .byte) (hB _ big_ac_byte) (fun _ h => by cases h)
  have hA0 : ∀ a : Nat, a < s.heap.size → ¬ (fun q : Nat => s.heap.size ≤ q) a := fun a h => Nat.not_le.mpr h
  obtain ⟨adK, adV, hSt, hEv⟩ := vk_Sof (args := #[Value.ref b]) (s := s) (N := 10) (tm := tmS) (len := lenS) (byt := bytS) (A := fun q : Nat => s.heap.size ≤ q) sl_lt (fun i hi => hfl _ (sw_1 i hi)) (fun i hi => hfl _ (sw_2 i hi)) (fun i hi => hfl _ (sw_3 i hi)) (fun i hi => hfl _ (sw_4 i hi)) (fun i hi j hj => hfl _ (sw_5 i hi j hj)) (fun i j hi hj hn => (sw_6 i hi j hj hn).imp (hfl _) (hfl _)) hA0
  obtain ⟨G, hG⟩ : ∃ G : GT, G = (s.heap.size, (fun j => if j = 2000 then b else adK j), adV, ((fun k => if k = 0 then c0 else if k = 1 then c1 else if k = 2 then c2 else if k = 3 then c3 else if k = 4 then c4 else if k = 5 then c5 else if k = 6 then c6 else if k = 7 then c7 else if k = 8 then c8 else if k = 9 then c9 else if k = 10 then c10 else if k = 11 then c11 else c12), (fun k => if k = 0 then iS0 else if k = 1 then iS1 else if k = 2 then iS2 else if k = 3 then iS3 else if k = 4 then iS4 else if k = 5 then iS5 else if k = 6 then iS6 else if k = 7 then iS7 else if k = 8 then iS8 else if k = 9 then iS9 else if k = 10 then iS10 else if k = 11 then iS11 else iS12)), (fun q => if q = 1 then a1 else if q = 2 then a2 else if q = 3 then a3 else a4)) := ⟨_, rfl⟩
  have hK : va_K G.2.2.2.1 vwCl (gT G) s := by
    subst hG
    refine ⟨?_, ?_⟩
    · intro k q hq
      match k, hq with
      | 0, hq => cases hq; exact hKn0
      | 1, hq => cases hq; exact hKn1
      | 2, hq => cases hq; exact hKn2
      | 3, hq => cases hq; exact hKn3
      | 4, hq => cases hq; exact hKn4
      | 5, hq => cases hq; exact hKn5
      | 6, hq => cases hq; exact hKn6
      | 7, hq => cases hq; exact hKn7
      | 8, hq => cases hq; exact hKn8
      | 9, hq => cases hq; exact hKn9
      | 10, hq => cases hq; exact hKn10
      | 11, hq => cases hq; exact hKn11
      | 12, hq => cases hq; exact hKn12
      | k + 13, hq => simp [vwCl] at hq
    · intro k q hq
      match k, hq with
      | 0, hq => cases hq; exact ⟨q1, q1'⟩
      | 1, hq => cases hq; exact ⟨q2, q2'⟩
      | 2, hq => cases hq; exact ⟨q3, q3'⟩
      | 3, hq => cases hq; exact ⟨q4, q4'⟩
      | k + 4, hq => simp [gT] at hq
  have hadS : ∀ j, j < 10 → ad G (1000 + j) = adK j := by
    intro j hj
    subst hG
    simp only [ad]
    rw [if_neg (by omega), if_neg (by omega)]
    congr 1
    omega
  have hgA : gA G = fun q : Nat => s.heap.size ≤ q := by subst hG; rfl
  have hVK : vK G s := by
    refine ⟨hK, ⟨fun q hq => ?_, ?_⟩, ⟨fun q hq => va_Nw.of rfl (hts _ (sw_10 q hq)), fun q hq => va_Nw.of rfl (hts _ (sw_11 q hq))⟩, ?_, ?_⟩
    · obtain ⟨g1, g2, g3⟩ := sw_7 q hq
      rw [hadS _ g3]
      have g4 : (Term.string q.1 q.2.1).eval #[Value.ref b] s none [] s = some (.ref (adK q.2.2.2)) := by
        rcases g2 with g2 | g2
        · rw [← g2]; exact hEv _ g3
        · exact va_eqR (hfl _ g2) (hEv _ g3)
      have g5 := hts _ g1
      exact vk_R.of g5 g4
    · rw [hgA]
      refine ⟨fun j hj => ?_, fun i j hi hj e => ?_⟩
      · have h1 := hSt.1 j hj
        simp only [hadS j hj]
        have e2 : G.2.2.1 = adV := by subst hG; rfl
        rw [e2]
        exact h1
      · simp only [hadS i hi, hadS j hj] at e
        exact hSt.2 i j hi hj e
    · rw [hgA]
      exact va_Zof (hts _ (List.mem_of_getElem? (i := 559) (by decide +kernel))) (hts _ (List.mem_of_getElem? (i := 90) (by decide +kernel))) (va_eqi (hfl _ sw_8)) hA0
    · rw [hgA]
      exact va_Zqof (hts _ (List.mem_of_getElem? (i := 575) (by decide +kernel))) (hts _ (List.mem_of_getElem? (i := 92) (by decide +kernel))) (hfl _ sw_9) hA0
  have hG1 : G.1 = s.heap.size := by subst hG; rfl
  have hadb : G.2.1 2000 = b := by subst hG; simp
  have ead : ad G 3000 = b := by simp only [ad]; rw [if_neg (by decide)]; exact hadb
  have hE : scE G b L xs s := ⟨hX, hbl, by rw [hgA]; exact Nat.not_le.mpr hbl, hadb⟩
  obtain ⟨Inv, ⟨w1, w2, w3, s1, s2, s3, s4, s5⟩, hI⟩ := hpure
  obtain ⟨wf, hV⟩ := law_loop (G := G) (b := b) (L := L) (xs := xs) hL Inv hI (L + 8) 0 (by omega) (Nat.zero_le _) w3 s5
  have key : V (vfL G b L xs) 0 0 0 (rT (refT.take 0)) 0 [some (.ref 3000), none, none, none] [] w00 (some (.int 1), 70, r0, wf) := by
    refine V.new (C := RX11) (pc := 0) dL_law_0 nw_L_0 k_cl11 cn_11 ly_0 (by decide) rfl (rT_none 0 0 (by decide +kernel)) (fun j => rfl) (Nat.le_of_ble_eq_true rfl) (Nat.le_of_ble_eq_true rfl) ?_
    refine V.dup (pc := 3) dL_law_3 rfl ?_
    refine V.callI (pc := 4) (hd := dL_law_4) (As := []) (st := [.ref 0]) l_RL_9 (okI_X11 w00 w1 (fun k hk j => rfl) (fun j => rfl) s1) ⟨rfl, rfl, ⟨Nat.le_of_ble_eq_true rfl, Nat.le_of_ble_eq_true rfl⟩, Nat.le_of_ble_eq_true rfl, Nat.le_of_ble_eq_true rfl⟩ rfl rfl (Nat.le_of_ble_eq_true rfl) (Nat.le_of_ble_eq_true rfl) ?_
    refine V.astore_n (lv' := [some (.ref 3000), some (.ref 0), none, none]) (pc := 7) dL_law_7 (Nat.le_of_ble_eq_true rfl) rfl rfl ?_
    refine V.new (C := RX12) (pc := 8) dL_law_8 nw_L_8 k_cl12 cn_12 ly_44 (show (44 : Nat) < 1000 by decide) rfl (rT_none 55 44 (by decide +kernel)) (fun j => s2 44 (Nat.le_refl _) j) (Nat.le_of_ble_eq_true rfl) (Nat.le_of_ble_eq_true rfl) ?_
    refine V.dup (pc := 11) dL_law_11 rfl ?_
    refine V.callI (pc := 12) (hd := dL_law_12) (As := []) (st := [.ref 44]) l_RL_12 (okI_X12 w1 w2 w3 s2 s3 s4) ⟨rfl, rfl, ⟨Nat.le_of_ble_eq_true rfl, Nat.le_of_ble_eq_true rfl⟩, Nat.le_of_ble_eq_true rfl, Nat.le_of_ble_eq_true rfl⟩ rfl rfl (Nat.le_of_ble_eq_true rfl) (Nat.le_of_ble_eq_true rfl) ?_
    refine V.astore_n (lv' := [some (.ref 3000), some (.ref 0), some (.ref 44), none]) (pc := 15) dL_law_15 (Nat.le_of_ble_eq_true rfl) rfl rfl ?_
    refine V.iconst (pc := 16) dL_law_16 ic_0 ?_
    refine V.istore_n (lv' := [some (.ref 3000), some (.ref 0), some (.ref 44), some (.int 0)]) (pc := 17) dL_law_17 (Nat.le_of_ble_eq_true rfl) rfl rfl ?_
    exact hV
  have hl := lv_entry ([.ref b]) (n := 4) (Nat.le_of_ble_eq_true rfl)
  rw [lg_entry_eq]
  have hLH : LH G (lg_sl [Value.ref b] ++ List.replicate (4 - (lg_sl [Value.ref b]).length) Slot.unset).toArray 4 [some (.ref 3000), none, none, none] := by
    refine ⟨hl.1, hl.2.1, fun i v hv => ?_⟩
    match i, hv with
    | 0, hv =>
      cases hv
      show _ = some (Slot.val (.ref (ad G 3000)))
      rw [ead]
      exact hl.2.2 (0, .ref b) List.mem_cons_self
    | 1, hv => cases hv
    | 2, hv => cases hv
    | 3, hv => cases hv
    | i + 4, hv => simp at hv
  have hW := key (Nat.zero_le _) p l e s m #[Value.ref b] below meth c s.heap [] _ ⟨hx, hb, hml, hr, hown, hB, hlocks, hnm, hVK, by show G.1 ≤ _; omega, hE⟩ (fun k q h => by simp [cs] at h) (by show s.heap.size = G.1 + 0; omega) va_S.rf hLH
  intro T hT X
  obtain ⟨t, st, hq⟩ := hW T hT X
  exact ⟨t, st, mq_lw hq (by show s.heap.size ≤ G.1; omega) rfl⟩
