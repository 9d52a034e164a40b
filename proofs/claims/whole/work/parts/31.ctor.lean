theorem big_oi : Cond.instanceMethod Lib.objectInit ∈ BIG := big_of 103 (by decide +kernel) rfl
theorem big_oc : Cond.code Lib.objectInit ⟨#[0xb1]⟩ 1 none ∈ BIG := big_of 104 (by decide +kernel) rfl
theorem big_ac_int : Cond.arrayClass .int ∈ BIG := big_of 120 (by decide +kernel) rfl
theorem big_ac_long : Cond.arrayClass .long ∈ BIG := big_of 321 (by decide +kernel) rfl
theorem big_ac_boolean : Cond.arrayClass .boolean ∈ BIG := big_of 1341 (by decide +kernel) rfl
theorem big_ac_byte : Cond.arrayClass .byte ∈ BIG := big_of 613 (by decide +kernel) rfl
theorem fin_R {ci j : Nat} {C0 own : String} {T0 : u_T} {N0 : Nat} {ty : FieldType} (h : vwCl[ci]? = some (C0, T0, N0)) (h1 : (T0 j).2.2.2 = true) (h2 : (T0 j).1 = own) (h3 : parseFieldDescriptor (T0 j).2.2.1 = some ty) (h4 : ∀ a, narrow ty (.ref a) = .ref a ∧ fits ty (.ref a) = true) : ∀ C T N, vwCl[ci]? = some (C, T, N) → (T j).2.2.2 = true ∧ (T j).1 = own ∧ ∃ ty, parseFieldDescriptor (T j).2.2.1 = some ty ∧ ∀ a, narrow ty (.ref a) = .ref a ∧ fits ty (.ref a) = true := by
  intro C T N e
  rw [h] at e
  cases e
  exact ⟨h1, h2, ty, h3, h4⟩
theorem V.bastX {F : VF} {cells slots n pc : Nat} {r : RT} {lv : List (Option Value)} {st : List Value} {w w1 : Wd} {Z : VZ} {i x : Int32} {k N : Nat} (hd : decode F.2.1.2.2.1 pc = .ok (.bastore, 1)) (hk : k < n) (hl : lay k = (4, N)) (hi : inb i N = true) (hx : x.toInt8.toInt32 = x) (hw : sI w k i.toNatClampNeg x = w1) (kk : V F cells slots n r (pc + 1) lv st w1 Z) : V F cells slots n r pc lv (.int x :: .int i :: .ref k :: st) w Z := by
  subst hw; exact V.bast hd hk hl hi hx kk
theorem rT_none_all : ∀ m, m < 80 → ∀ q ∈ refT.take m, True := fun _ _ _ _ => trivial
theorem rT_nil {l : List (Nat × Nat × Nat)} {k : Nat} (h : ∀ q ∈ l, q.1 ≠ k) (j : Nat) : rT l k j = none := by
  unfold rT
  rw [Option.map_eq_none_iff, List.find?_eq_none]
  intro q hq e
  simp only [Bool.and_eq_true, beq_iff_eq] at e
  exact h q hq e.1
theorem rT_none (m k : Nat) (h : (refT.take m).all (fun q => q.1 != k) = true) (j : Nat) : rT (refT.take m) k j = none := rT_nil (fun q hq => by simpa using List.all_eq_true.mp h q hq) j
theorem oi_X11_0 : Cond.methodLink RX11 1 Lib.objectInit ∈ BIG := big_of 102 (by decide +kernel) rfl
theorem nw_X11_0_5 : Cond.classLink RX11 7 RX9 ∈ BIG := big_of 105 (by decide +kernel) rfl
theorem oi_X9_init_1 : Cond.methodLink RX9 3 Lib.objectInit ∈ BIG := big_of 110 (by decide +kernel) rfl
theorem dX9_init_0 : decode cX9_init 0 = .ok (.aload_n 0, 1) := by decide +kernel
theorem dX9_init_1 : decode cX9_init 1 = .ok (.invokespecial 3, 3) := by decide +kernel
theorem dX9_init_4 : decode cX9_init 4 = .ok (.aload_n 0, 1) := by decide +kernel
theorem dX9_init_5 : decode cX9_init 5 = .ok (.sipush 200, 3) := by decide +kernel
theorem dX9_init_8 : decode cX9_init 8 = .ok (.newarray .int, 2) := by decide +kernel
theorem dX9_init_10 : decode cX9_init 10 = .ok (.putfield 11, 3) := by decide +kernel
theorem dX9_init_13 : decode cX9_init 13 = .ok (.return_, 1) := by decide +kernel
set_option maxHeartbeats 4000000 in
set_option maxRecDepth 100000 in
theorem okI_X9_init_1 {G : GT} (w : Wd) (hz : ∀ k, 2 ≤ k → ∀ j, w.1 k j = 0) : vC G yX9_init mX9_init { frames := 30, cells := 1, slots := 200, locals := 1920 } 1 200 2 (rT (refT.take 0)) [.ref 1] w (none, 3, rT (refT.take 1), w) := by
  refine vC_of 0 pn_X9 ⟨rfl, rfl⟩ (Nat.le_of_ble_eq_true rfl) (Nat.le_of_ble_eq_true rfl) ?_
  refine V.weak (lv' := [some (.ref 1)]) (And.intro rfl trivial) ?_
  refine V.aload_n (pc := 0) dX9_init_0 rfl ?_
  refine V.objInit (pc := 1) dX9_init_1 oi_X9_init_1 big_oi big_oc (Nat.le_of_ble_eq_true rfl) (Nat.le_of_ble_eq_true rfl) ?_
  refine V.aload_n (pc := 4) dX9_init_4 rfl ?_
  refine V.sipush (pc := 5) dX9_init_5 sp_200 ?_
  refine V.newa (a := 1) (pc := 8) dX9_init_8 rfl (Or.inl rfl) ly_2 (by decide) (by decide) (by decide +kernel) (by decide) big_ac_int (fun j => by exact hz 2 (by decide) j) (Nat.le_of_ble_eq_true rfl) (Nat.le_of_ble_eq_true rfl) ?_
  refine V.putR (l0 := refT.take 0) (pc := 10) dX9_init_10 f_RX9_11 k_cl9 (by decide) ly_1 rb_9_0 (by decide +kernel) rfl (fin_R (T0 := TX9) (ty := .array .int) rfl rfl rfl (by decide +kernel) (fun _ => ⟨rfl, rfl⟩)) ?_
  rw [show refT.take 0 ++ [(1, 0, 2)] = refT.take 1 from rfl]
  exact V.vret (pc := 13) dX9_init_13 rfl (Nat.le_refl _) (Nat.le_refl _)
theorem nw_X11_0_16 : Cond.classLink RX11 16 RX7 ∈ BIG := big_of 121 (by decide +kernel) rfl
theorem oi_X7_init_3 : Cond.methodLink RX7 3 Lib.objectInit ∈ BIG := big_of 126 (by decide +kernel) rfl
theorem dX7_init_0 : decode cX7_init 0 = .ok (.aload_n 0, 1) := by decide +kernel
theorem dX7_init_1 : decode cX7_init 1 = .ok (.invokespecial 3, 3) := by decide +kernel
theorem dX7_init_4 : decode cX7_init 4 = .ok (.aload_n 0, 1) := by decide +kernel
theorem dX7_init_5 : decode cX7_init 5 = .ok (.iconst 4, 1) := by decide +kernel
theorem dX7_init_6 : decode cX7_init 6 = .ok (.newarray .int, 2) := by decide +kernel
theorem dX7_init_8 : decode cX7_init 8 = .ok (.putfield 9, 3) := by decide +kernel
theorem dX7_init_11 : decode cX7_init 11 = .ok (.aload_n 0, 1) := by decide +kernel
theorem dX7_init_12 : decode cX7_init 12 = .ok (.iconst 4, 1) := by decide +kernel
theorem dX7_init_13 : decode cX7_init 13 = .ok (.newarray .int, 2) := by decide +kernel
theorem dX7_init_15 : decode cX7_init 15 = .ok (.putfield 15, 3) := by decide +kernel
theorem dX7_init_18 : decode cX7_init 18 = .ok (.aload_n 0, 1) := by decide +kernel
theorem dX7_init_19 : decode cX7_init 19 = .ok (.iconst 1, 1) := by decide +kernel
theorem dX7_init_20 : decode cX7_init 20 = .ok (.putfield 18, 3) := by decide +kernel
theorem dX7_init_23 : decode cX7_init 23 = .ok (.aload_n 0, 1) := by decide +kernel
theorem dX7_init_24 : decode cX7_init 24 = .ok (.iconst (-1), 1) := by decide +kernel
theorem dX7_init_25 : decode cX7_init 25 = .ok (.putfield 22, 3) := by decide +kernel
theorem dX7_init_28 : decode cX7_init 28 = .ok (.aload_n 0, 1) := by decide +kernel
theorem dX7_init_29 : decode cX7_init 29 = .ok (.aload_n 1, 1) := by decide +kernel
theorem dX7_init_30 : decode cX7_init 30 = .ok (.putfield 25, 3) := by decide +kernel
theorem dX7_init_33 : decode cX7_init 33 = .ok (.return_, 1) := by decide +kernel
set_option maxHeartbeats 4000000 in
set_option maxRecDepth 100000 in
theorem okI_X7_init_3 {G : GT} (w : Wd) (hz : ∀ k, 4 ≤ k → ∀ j, w.1 k j = 0) : vC G yX7_init mX7_init { frames := 30, cells := 2, slots := 8, locals := 1920 } 2 8 4 (rT (refT.take 2)) [.ref 3, .ref 1] w (none, 6, rT (refT.take 5), (sI (sI w 3 4 1) 3 8 (-1))) := by
  refine vC_of 0 pn_X7 ⟨rfl, rfl⟩ (Nat.le_of_ble_eq_true rfl) (Nat.le_of_ble_eq_true rfl) ?_
  refine V.weak (lv' := [some (.ref 3), some (.ref 1)]) (And.intro rfl (And.intro rfl trivial)) ?_
  refine V.aload_n (pc := 0) dX7_init_0 rfl ?_
  refine V.objInit (pc := 1) dX7_init_1 oi_X7_init_3 big_oi big_oc (Nat.le_of_ble_eq_true rfl) (Nat.le_of_ble_eq_true rfl) ?_
  refine V.aload_n (pc := 4) dX7_init_4 rfl ?_
  refine V.iconst (pc := 5) dX7_init_5 ic_4 ?_
  refine V.newa (a := 1) (pc := 6) dX7_init_6 rfl (Or.inl rfl) ly_4 (by decide) (by decide) (by decide +kernel) (by decide) big_ac_int (fun j => by exact hz 4 (by decide) j) (Nat.le_of_ble_eq_true rfl) (Nat.le_of_ble_eq_true rfl) ?_
  refine V.putR (l0 := refT.take 2) (pc := 8) dX7_init_8 f_RX7_9 k_cl7 (by decide) ly_3 rb_7_1 (by decide +kernel) rfl (fin_R (T0 := TX7) (ty := .array .int) rfl rfl rfl (by decide +kernel) (fun _ => ⟨rfl, rfl⟩)) ?_
  rw [show refT.take 2 ++ [(3, 1, 4)] = refT.take 3 from rfl]
  refine V.aload_n (pc := 11) dX7_init_11 rfl ?_
  refine V.iconst (pc := 12) dX7_init_12 ic_4 ?_
  refine V.newa (a := 1) (pc := 13) dX7_init_13 rfl (Or.inl rfl) ly_5 (by decide) (by decide) (by decide +kernel) (by decide) big_ac_int (fun j => by exact hz 5 (by decide) j) (Nat.le_of_ble_eq_true rfl) (Nat.le_of_ble_eq_true rfl) ?_
  refine V.putR (l0 := refT.take 3) (pc := 15) dX7_init_15 f_RX7_15 k_cl7 (by decide) ly_3 rb_7_2 (by decide +kernel) rfl (fin_R (T0 := TX7) (ty := .array .int) rfl rfl rfl (by decide +kernel) (fun _ => ⟨rfl, rfl⟩)) ?_
  rw [show refT.take 3 ++ [(3, 2, 5)] = refT.take 4 from rfl]
  refine V.aload_n (pc := 18) dX7_init_18 rfl ?_
  refine V.iconst (pc := 19) dX7_init_19 ic_1 ?_
  refine V.putI (pc := 20) dX7_init_20 f_RX7_18 k_cl7 (by decide) ly_3 rb_7_4 (fin_I (T0 := TX7) rfl rfl rfl) ?_
  refine V.aload_n (pc := 23) dX7_init_23 rfl ?_
  refine V.iconst (pc := 24) dX7_init_24 ic_m1 ?_
  refine V.putI (pc := 25) dX7_init_25 f_RX7_22 k_cl7 (by decide) ly_3 rb_7_8 (fin_I (T0 := TX7) rfl rfl rfl) ?_
  refine V.aload_n (pc := 28) dX7_init_28 rfl ?_
  refine V.aload_n (pc := 29) dX7_init_29 rfl ?_
  refine V.putR (l0 := refT.take 4) (pc := 30) dX7_init_30 f_RX7_25 k_cl7 (by decide) ly_3 rb_7_0 (by decide +kernel) rfl (fin_R (T0 := TX7) (ty := .object "SumFreeSets$Tape") rfl rfl rfl (by decide +kernel) (fun _ => ⟨rfl, rfl⟩)) ?_
  rw [show refT.take 4 ++ [(3, 0, 1)] = refT.take 5 from rfl]
  exact V.vret (pc := 33) dX7_init_33 rfl (Nat.le_refl _) (Nat.le_refl _)
theorem nw_X11_0_31 : Cond.classLink RX11 25 RX4 ∈ BIG := big_of 159 (by decide +kernel) rfl
theorem oi_X4_init_6 : Cond.methodLink RX4 3 Lib.objectInit ∈ BIG := big_of 164 (by decide +kernel) rfl
theorem dX4_init_0 : decode cX4_init 0 = .ok (.aload_n 0, 1) := by decide +kernel
theorem dX4_init_1 : decode cX4_init 1 = .ok (.invokespecial 3, 3) := by decide +kernel
theorem dX4_init_4 : decode cX4_init 4 = .ok (.aload_n 0, 1) := by decide +kernel
theorem dX4_init_5 : decode cX4_init 5 = .ok (.iconst 4, 1) := by decide +kernel
theorem dX4_init_6 : decode cX4_init 6 = .ok (.newarray .int, 2) := by decide +kernel
theorem dX4_init_8 : decode cX4_init 8 = .ok (.putfield 9, 3) := by decide +kernel
theorem dX4_init_11 : decode cX4_init 11 = .ok (.aload_n 0, 1) := by decide +kernel
theorem dX4_init_12 : decode cX4_init 12 = .ok (.iconst 4, 1) := by decide +kernel
theorem dX4_init_13 : decode cX4_init 13 = .ok (.newarray .int, 2) := by decide +kernel
theorem dX4_init_15 : decode cX4_init 15 = .ok (.putfield 15, 3) := by decide +kernel
theorem dX4_init_18 : decode cX4_init 18 = .ok (.aload_n 0, 1) := by decide +kernel
theorem dX4_init_19 : decode cX4_init 19 = .ok (.sipush 256, 3) := by decide +kernel
theorem dX4_init_22 : decode cX4_init 22 = .ok (.newarray .int, 2) := by decide +kernel
theorem dX4_init_24 : decode cX4_init 24 = .ok (.putfield 18, 3) := by decide +kernel
theorem dX4_init_27 : decode cX4_init 27 = .ok (.aload_n 0, 1) := by decide +kernel
theorem dX4_init_28 : decode cX4_init 28 = .ok (.bipush 16, 2) := by decide +kernel
theorem dX4_init_30 : decode cX4_init 30 = .ok (.newarray .int, 2) := by decide +kernel
theorem dX4_init_32 : decode cX4_init 32 = .ok (.putfield 21, 3) := by decide +kernel
theorem dX4_init_35 : decode cX4_init 35 = .ok (.aload_n 0, 1) := by decide +kernel
theorem dX4_init_36 : decode cX4_init 36 = .ok (.bipush 16, 2) := by decide +kernel
theorem dX4_init_38 : decode cX4_init 38 = .ok (.newarray .int, 2) := by decide +kernel
theorem dX4_init_40 : decode cX4_init 40 = .ok (.putfield 24, 3) := by decide +kernel
theorem dX4_init_43 : decode cX4_init 43 = .ok (.aload_n 0, 1) := by decide +kernel
theorem dX4_init_44 : decode cX4_init 44 = .ok (.sipush 128, 3) := by decide +kernel
theorem dX4_init_47 : decode cX4_init 47 = .ok (.newarray .int, 2) := by decide +kernel
theorem dX4_init_49 : decode cX4_init 49 = .ok (.putfield 27, 3) := by decide +kernel
theorem dX4_init_52 : decode cX4_init 52 = .ok (.return_, 1) := by decide +kernel
set_option maxHeartbeats 4000000 in
set_option maxRecDepth 100000 in
theorem okI_X4_init_6 {G : GT} (w : Wd) (hz : ∀ k, 7 ≤ k → ∀ j, w.1 k j = 0) : vC G yX4_init mX4_init { frames := 30, cells := 6, slots := 424, locals := 1920 } 6 424 7 (rT (refT.take 6)) [.ref 6] w (none, 13, rT (refT.take 12), w) := by
  refine vC_of 0 pn_X4 ⟨rfl, rfl⟩ (Nat.le_of_ble_eq_true rfl) (Nat.le_of_ble_eq_true rfl) ?_
  refine V.weak (lv' := [some (.ref 6)]) (And.intro rfl trivial) ?_
  refine V.aload_n (pc := 0) dX4_init_0 rfl ?_
  refine V.objInit (pc := 1) dX4_init_1 oi_X4_init_6 big_oi big_oc (Nat.le_of_ble_eq_true rfl) (Nat.le_of_ble_eq_true rfl) ?_
  refine V.aload_n (pc := 4) dX4_init_4 rfl ?_
  refine V.iconst (pc := 5) dX4_init_5 ic_4 ?_
  refine V.newa (a := 1) (pc := 6) dX4_init_6 rfl (Or.inl rfl) ly_7 (by decide) (by decide) (by decide +kernel) (by decide) big_ac_int (fun j => by exact hz 7 (by decide) j) (Nat.le_of_ble_eq_true rfl) (Nat.le_of_ble_eq_true rfl) ?_
  refine V.putR (l0 := refT.take 6) (pc := 8) dX4_init_8 f_RX4_9 k_cl4 (by decide) ly_6 rb_4_0 (by decide +kernel) rfl (fin_R (T0 := TX4) (ty := .array .int) rfl rfl rfl (by decide +kernel) (fun _ => ⟨rfl, rfl⟩)) ?_
  rw [show refT.take 6 ++ [(6, 0, 7)] = refT.take 7 from rfl]
  refine V.aload_n (pc := 11) dX4_init_11 rfl ?_
  refine V.iconst (pc := 12) dX4_init_12 ic_4 ?_
  refine V.newa (a := 1) (pc := 13) dX4_init_13 rfl (Or.inl rfl) ly_8 (by decide) (by decide) (by decide +kernel) (by decide) big_ac_int (fun j => by exact hz 8 (by decide) j) (Nat.le_of_ble_eq_true rfl) (Nat.le_of_ble_eq_true rfl) ?_
  refine V.putR (l0 := refT.take 7) (pc := 15) dX4_init_15 f_RX4_15 k_cl4 (by decide) ly_6 rb_4_1 (by decide +kernel) rfl (fin_R (T0 := TX4) (ty := .array .int) rfl rfl rfl (by decide +kernel) (fun _ => ⟨rfl, rfl⟩)) ?_
  rw [show refT.take 7 ++ [(6, 1, 8)] = refT.take 8 from rfl]
  refine V.aload_n (pc := 18) dX4_init_18 rfl ?_
  refine V.sipush (pc := 19) dX4_init_19 sp_256 ?_
  refine V.newa (a := 1) (pc := 22) dX4_init_22 rfl (Or.inl rfl) ly_9 (by decide) (by decide) (by decide +kernel) (by decide) big_ac_int (fun j => by exact hz 9 (by decide) j) (Nat.le_of_ble_eq_true rfl) (Nat.le_of_ble_eq_true rfl) ?_
  refine V.putR (l0 := refT.take 8) (pc := 24) dX4_init_24 f_RX4_18 k_cl4 (by decide) ly_6 rb_4_2 (by decide +kernel) rfl (fin_R (T0 := TX4) (ty := .array .int) rfl rfl rfl (by decide +kernel) (fun _ => ⟨rfl, rfl⟩)) ?_
  rw [show refT.take 8 ++ [(6, 2, 9)] = refT.take 9 from rfl]
  refine V.aload_n (pc := 27) dX4_init_27 rfl ?_
  refine V.bipush (pc := 28) dX4_init_28 bp_16 ?_
  refine V.newa (a := 1) (pc := 30) dX4_init_30 rfl (Or.inl rfl) ly_10 (by decide) (by decide) (by decide +kernel) (by decide) big_ac_int (fun j => by exact hz 10 (by decide) j) (Nat.le_of_ble_eq_true rfl) (Nat.le_of_ble_eq_true rfl) ?_
  refine V.putR (l0 := refT.take 9) (pc := 32) dX4_init_32 f_RX4_21 k_cl4 (by decide) ly_6 rb_4_3 (by decide +kernel) rfl (fin_R (T0 := TX4) (ty := .array .int) rfl rfl rfl (by decide +kernel) (fun _ => ⟨rfl, rfl⟩)) ?_
  rw [show refT.take 9 ++ [(6, 3, 10)] = refT.take 10 from rfl]
  refine V.aload_n (pc := 35) dX4_init_35 rfl ?_
  refine V.bipush (pc := 36) dX4_init_36 bp_16 ?_
  refine V.newa (a := 1) (pc := 38) dX4_init_38 rfl (Or.inl rfl) ly_11 (by decide) (by decide) (by decide +kernel) (by decide) big_ac_int (fun j => by exact hz 11 (by decide) j) (Nat.le_of_ble_eq_true rfl) (Nat.le_of_ble_eq_true rfl) ?_
  refine V.putR (l0 := refT.take 10) (pc := 40) dX4_init_40 f_RX4_24 k_cl4 (by decide) ly_6 rb_4_4 (by decide +kernel) rfl (fin_R (T0 := TX4) (ty := .array .int) rfl rfl rfl (by decide +kernel) (fun _ => ⟨rfl, rfl⟩)) ?_
  rw [show refT.take 10 ++ [(6, 4, 11)] = refT.take 11 from rfl]
  refine V.aload_n (pc := 43) dX4_init_43 rfl ?_
  refine V.sipush (pc := 44) dX4_init_44 sp_128 ?_
  refine V.newa (a := 1) (pc := 47) dX4_init_47 rfl (Or.inl rfl) ly_12 (by decide) (by decide) (by decide +kernel) (by decide) big_ac_int (fun j => by exact hz 12 (by decide) j) (Nat.le_of_ble_eq_true rfl) (Nat.le_of_ble_eq_true rfl) ?_
  refine V.putR (l0 := refT.take 11) (pc := 49) dX4_init_49 f_RX4_27 k_cl4 (by decide) ly_6 rb_4_5 (by decide +kernel) rfl (fin_R (T0 := TX4) (ty := .array .int) rfl rfl rfl (by decide +kernel) (fun _ => ⟨rfl, rfl⟩)) ?_
  rw [show refT.take 11 ++ [(6, 5, 12)] = refT.take 12 from rfl]
  exact V.vret (pc := 52) dX4_init_52 rfl (Nat.le_refl _) (Nat.le_refl _)
theorem nw_X11_0_42 : Cond.classLink RX11 32 RX1 ∈ BIG := big_of 207 (by decide +kernel) rfl
theorem oi_X1_init_13 : Cond.methodLink RX1 3 Lib.objectInit ∈ BIG := big_of 212 (by decide +kernel) rfl
theorem dX1_init_0 : decode cX1_init 0 = .ok (.aload_n 0, 1) := by decide +kernel
theorem dX1_init_1 : decode cX1_init 1 = .ok (.invokespecial 3, 3) := by decide +kernel
theorem dX1_init_4 : decode cX1_init 4 = .ok (.aload_n 0, 1) := by decide +kernel
theorem dX1_init_5 : decode cX1_init 5 = .ok (.iconst 4, 1) := by decide +kernel
theorem dX1_init_6 : decode cX1_init 6 = .ok (.newarray .int, 2) := by decide +kernel
theorem dX1_init_8 : decode cX1_init 8 = .ok (.putfield 9, 3) := by decide +kernel
theorem dX1_init_11 : decode cX1_init 11 = .ok (.aload_n 0, 1) := by decide +kernel
theorem dX1_init_12 : decode cX1_init 12 = .ok (.iconst 4, 1) := by decide +kernel
theorem dX1_init_13 : decode cX1_init 13 = .ok (.newarray .int, 2) := by decide +kernel
theorem dX1_init_15 : decode cX1_init 15 = .ok (.putfield 15, 3) := by decide +kernel
theorem dX1_init_18 : decode cX1_init 18 = .ok (.aload_n 0, 1) := by decide +kernel
theorem dX1_init_19 : decode cX1_init 19 = .ok (.bipush 16, 2) := by decide +kernel
theorem dX1_init_21 : decode cX1_init 21 = .ok (.newarray .int, 2) := by decide +kernel
theorem dX1_init_23 : decode cX1_init 23 = .ok (.putfield 18, 3) := by decide +kernel
theorem dX1_init_26 : decode cX1_init 26 = .ok (.aload_n 0, 1) := by decide +kernel
theorem dX1_init_27 : decode cX1_init 27 = .ok (.bipush 16, 2) := by decide +kernel
theorem dX1_init_29 : decode cX1_init 29 = .ok (.newarray .int, 2) := by decide +kernel
theorem dX1_init_31 : decode cX1_init 31 = .ok (.putfield 21, 3) := by decide +kernel
theorem dX1_init_34 : decode cX1_init 34 = .ok (.aload_n 0, 1) := by decide +kernel
theorem dX1_init_35 : decode cX1_init 35 = .ok (.bipush 16, 2) := by decide +kernel
theorem dX1_init_37 : decode cX1_init 37 = .ok (.newarray .int, 2) := by decide +kernel
theorem dX1_init_39 : decode cX1_init 39 = .ok (.putfield 24, 3) := by decide +kernel
theorem dX1_init_42 : decode cX1_init 42 = .ok (.aload_n 0, 1) := by decide +kernel
theorem dX1_init_43 : decode cX1_init 43 = .ok (.aload_n 1, 1) := by decide +kernel
theorem dX1_init_44 : decode cX1_init 44 = .ok (.putfield 27, 3) := by decide +kernel
theorem dX1_init_47 : decode cX1_init 47 = .ok (.return_, 1) := by decide +kernel
set_option maxHeartbeats 4000000 in
set_option maxRecDepth 100000 in
theorem okI_X1_init_13 {G : GT} (w : Wd) (hz : ∀ k, 14 ≤ k → ∀ j, w.1 k j = 0) : vC G yX1_init mX1_init { frames := 30, cells := 5, slots := 56, locals := 1920 } 5 56 14 (rT (refT.take 13)) [.ref 13, .ref 6] w (none, 19, rT (refT.take 19), w) := by
  refine vC_of 0 pn_X1 ⟨rfl, rfl⟩ (Nat.le_of_ble_eq_true rfl) (Nat.le_of_ble_eq_true rfl) ?_
  refine V.weak (lv' := [some (.ref 13), some (.ref 6)]) (And.intro rfl (And.intro rfl trivial)) ?_
  refine V.aload_n (pc := 0) dX1_init_0 rfl ?_
  refine V.objInit (pc := 1) dX1_init_1 oi_X1_init_13 big_oi big_oc (Nat.le_of_ble_eq_true rfl) (Nat.le_of_ble_eq_true rfl) ?_
  refine V.aload_n (pc := 4) dX1_init_4 rfl ?_
  refine V.iconst (pc := 5) dX1_init_5 ic_4 ?_
  refine V.newa (a := 1) (pc := 6) dX1_init_6 rfl (Or.inl rfl) ly_14 (by decide) (by decide) (by decide +kernel) (by decide) big_ac_int (fun j => by exact hz 14 (by decide) j) (Nat.le_of_ble_eq_true rfl) (Nat.le_of_ble_eq_true rfl) ?_
  refine V.putR (l0 := refT.take 13) (pc := 8) dX1_init_8 f_RX1_9 k_cl1 (by decide) ly_13 rb_1_1 (by decide +kernel) rfl (fin_R (T0 := TX1) (ty := .array .int) rfl rfl rfl (by decide +kernel) (fun _ => ⟨rfl, rfl⟩)) ?_
  rw [show refT.take 13 ++ [(13, 1, 14)] = refT.take 14 from rfl]
  refine V.aload_n (pc := 11) dX1_init_11 rfl ?_
  refine V.iconst (pc := 12) dX1_init_12 ic_4 ?_
  refine V.newa (a := 1) (pc := 13) dX1_init_13 rfl (Or.inl rfl) ly_15 (by decide) (by decide) (by decide +kernel) (by decide) big_ac_int (fun j => by exact hz 15 (by decide) j) (Nat.le_of_ble_eq_true rfl) (Nat.le_of_ble_eq_true rfl) ?_
  refine V.putR (l0 := refT.take 14) (pc := 15) dX1_init_15 f_RX1_15 k_cl1 (by decide) ly_13 rb_1_2 (by decide +kernel) rfl (fin_R (T0 := TX1) (ty := .array .int) rfl rfl rfl (by decide +kernel) (fun _ => ⟨rfl, rfl⟩)) ?_
  rw [show refT.take 14 ++ [(13, 2, 15)] = refT.take 15 from rfl]
  refine V.aload_n (pc := 18) dX1_init_18 rfl ?_
  refine V.bipush (pc := 19) dX1_init_19 bp_16 ?_
  refine V.newa (a := 1) (pc := 21) dX1_init_21 rfl (Or.inl rfl) ly_16 (by decide) (by decide) (by decide +kernel) (by decide) big_ac_int (fun j => by exact hz 16 (by decide) j) (Nat.le_of_ble_eq_true rfl) (Nat.le_of_ble_eq_true rfl) ?_
  refine V.putR (l0 := refT.take 15) (pc := 23) dX1_init_23 f_RX1_18 k_cl1 (by decide) ly_13 rb_1_3 (by decide +kernel) rfl (fin_R (T0 := TX1) (ty := .array .int) rfl rfl rfl (by decide +kernel) (fun _ => ⟨rfl, rfl⟩)) ?_
  rw [show refT.take 15 ++ [(13, 3, 16)] = refT.take 16 from rfl]
  refine V.aload_n (pc := 26) dX1_init_26 rfl ?_
  refine V.bipush (pc := 27) dX1_init_27 bp_16 ?_
  refine V.newa (a := 1) (pc := 29) dX1_init_29 rfl (Or.inl rfl) ly_17 (by decide) (by decide) (by decide +kernel) (by decide) big_ac_int (fun j => by exact hz 17 (by decide) j) (Nat.le_of_ble_eq_true rfl) (Nat.le_of_ble_eq_true rfl) ?_
  refine V.putR (l0 := refT.take 16) (pc := 31) dX1_init_31 f_RX1_21 k_cl1 (by decide) ly_13 rb_1_4 (by decide +kernel) rfl (fin_R (T0 := TX1) (ty := .array .int) rfl rfl rfl (by decide +kernel) (fun _ => ⟨rfl, rfl⟩)) ?_
  rw [show refT.take 16 ++ [(13, 4, 17)] = refT.take 17 from rfl]
  refine V.aload_n (pc := 34) dX1_init_34 rfl ?_
  refine V.bipush (pc := 35) dX1_init_35 bp_16 ?_
  refine V.newa (a := 1) (pc := 37) dX1_init_37 rfl (Or.inl rfl) ly_18 (by decide) (by decide) (by decide +kernel) (by decide) big_ac_int (fun j => by exact hz 18 (by decide) j) (Nat.le_of_ble_eq_true rfl) (Nat.le_of_ble_eq_true rfl) ?_
  refine V.putR (l0 := refT.take 17) (pc := 39) dX1_init_39 f_RX1_24 k_cl1 (by decide) ly_13 rb_1_5 (by decide +kernel) rfl (fin_R (T0 := TX1) (ty := .array .int) rfl rfl rfl (by decide +kernel) (fun _ => ⟨rfl, rfl⟩)) ?_
  rw [show refT.take 17 ++ [(13, 5, 18)] = refT.take 18 from rfl]
  refine V.aload_n (pc := 42) dX1_init_42 rfl ?_
  refine V.aload_n (pc := 43) dX1_init_43 rfl ?_
  refine V.putR (l0 := refT.take 18) (pc := 44) dX1_init_44 f_RX1_27 k_cl1 (by decide) ly_13 rb_1_0 (by decide +kernel) rfl (fin_R (T0 := TX1) (ty := .object "SumFreeSets$Group") rfl rfl rfl (by decide +kernel) (fun _ => ⟨rfl, rfl⟩)) ?_
  rw [show refT.take 18 ++ [(13, 0, 6)] = refT.take 19 from rfl]
  exact V.vret (pc := 47) dX1_init_47 rfl (Nat.le_refl _) (Nat.le_refl _)
theorem nw_X11_0_57 : Cond.classLink RX11 41 RX3 ∈ BIG := big_of 250 (by decide +kernel) rfl
theorem oi_X3_init_19 : Cond.methodLink RX3 3 Lib.objectInit ∈ BIG := big_of 255 (by decide +kernel) rfl
theorem dX3_init_0 : decode cX3_init 0 = .ok (.aload_n 0, 1) := by decide +kernel
theorem dX3_init_1 : decode cX3_init 1 = .ok (.invokespecial 3, 3) := by decide +kernel
theorem dX3_init_4 : decode cX3_init 4 = .ok (.aload_n 0, 1) := by decide +kernel
theorem dX3_init_5 : decode cX3_init 5 = .ok (.sipush 3072, 3) := by decide +kernel
theorem dX3_init_8 : decode cX3_init 8 = .ok (.newarray .int, 2) := by decide +kernel
theorem dX3_init_10 : decode cX3_init 10 = .ok (.putfield 11, 3) := by decide +kernel
theorem dX3_init_13 : decode cX3_init 13 = .ok (.aload_n 0, 1) := by decide +kernel
theorem dX3_init_14 : decode cX3_init 14 = .ok (.aload_n 1, 1) := by decide +kernel
theorem dX3_init_15 : decode cX3_init 15 = .ok (.putfield 15, 3) := by decide +kernel
theorem dX3_init_18 : decode cX3_init 18 = .ok (.return_, 1) := by decide +kernel
set_option maxHeartbeats 4000000 in
set_option maxRecDepth 100000 in
theorem okI_X3_init_19 {G : GT} (w : Wd) (hz : ∀ k, 20 ≤ k → ∀ j, w.1 k j = 0) : vC G yX3_init mX3_init { frames := 30, cells := 1, slots := 3072, locals := 1920 } 1 3072 20 (rT (refT.take 20)) [.ref 19, .ref 6] w (none, 21, rT (refT.take 22), w) := by
  refine vC_of 0 pn_X3 ⟨rfl, rfl⟩ (Nat.le_of_ble_eq_true rfl) (Nat.le_of_ble_eq_true rfl) ?_
  refine V.weak (lv' := [some (.ref 19), some (.ref 6)]) (And.intro rfl (And.intro rfl trivial)) ?_
  refine V.aload_n (pc := 0) dX3_init_0 rfl ?_
  refine V.objInit (pc := 1) dX3_init_1 oi_X3_init_19 big_oi big_oc (Nat.le_of_ble_eq_true rfl) (Nat.le_of_ble_eq_true rfl) ?_
  refine V.aload_n (pc := 4) dX3_init_4 rfl ?_
  refine V.sipush (pc := 5) dX3_init_5 sp_3072 ?_
  refine V.newa (a := 1) (pc := 8) dX3_init_8 rfl (Or.inl rfl) ly_20 (by decide) (by decide) (by decide +kernel) (by decide) big_ac_int (fun j => by exact hz 20 (by decide) j) (Nat.le_of_ble_eq_true rfl) (Nat.le_of_ble_eq_true rfl) ?_
  refine V.putR (l0 := refT.take 20) (pc := 10) dX3_init_10 f_RX3_11 k_cl3 (by decide) ly_19 rb_3_1 (by decide +kernel) rfl (fin_R (T0 := TX3) (ty := .array .int) rfl rfl rfl (by decide +kernel) (fun _ => ⟨rfl, rfl⟩)) ?_
  rw [show refT.take 20 ++ [(19, 1, 20)] = refT.take 21 from rfl]
  refine V.aload_n (pc := 13) dX3_init_13 rfl ?_
  refine V.aload_n (pc := 14) dX3_init_14 rfl ?_
  refine V.putR (l0 := refT.take 21) (pc := 15) dX3_init_15 f_RX3_15 k_cl3 (by decide) ly_19 rb_3_0 (by decide +kernel) rfl (fin_R (T0 := TX3) (ty := .object "SumFreeSets$Group") rfl rfl rfl (by decide +kernel) (fun _ => ⟨rfl, rfl⟩)) ?_
  rw [show refT.take 21 ++ [(19, 0, 6)] = refT.take 22 from rfl]
  exact V.vret (pc := 18) dX3_init_18 rfl (Nat.le_refl _) (Nat.le_refl _)
theorem nw_X11_0_72 : Cond.classLink RX11 48 RX2 ∈ BIG := big_of 266 (by decide +kernel) rfl
theorem oi_X2_init_21 : Cond.methodLink RX2 3 Lib.objectInit ∈ BIG := big_of 271 (by decide +kernel) rfl
theorem dX2_init_0 : decode cX2_init 0 = .ok (.aload_n 0, 1) := by decide +kernel
theorem dX2_init_1 : decode cX2_init 1 = .ok (.invokespecial 3, 3) := by decide +kernel
theorem dX2_init_4 : decode cX2_init 4 = .ok (.aload_n 0, 1) := by decide +kernel
theorem dX2_init_5 : decode cX2_init 5 = .ok (.bipush 16, 2) := by decide +kernel
theorem dX2_init_7 : decode cX2_init 7 = .ok (.newarray .int, 2) := by decide +kernel
theorem dX2_init_9 : decode cX2_init 9 = .ok (.putfield 9, 3) := by decide +kernel
theorem dX2_init_12 : decode cX2_init 12 = .ok (.aload_n 0, 1) := by decide +kernel
theorem dX2_init_13 : decode cX2_init 13 = .ok (.bipush 16, 2) := by decide +kernel
theorem dX2_init_15 : decode cX2_init 15 = .ok (.newarray .int, 2) := by decide +kernel
theorem dX2_init_17 : decode cX2_init 17 = .ok (.putfield 15, 3) := by decide +kernel
theorem dX2_init_20 : decode cX2_init 20 = .ok (.aload_n 0, 1) := by decide +kernel
theorem dX2_init_21 : decode cX2_init 21 = .ok (.aload_n 1, 1) := by decide +kernel
theorem dX2_init_22 : decode cX2_init 22 = .ok (.putfield 18, 3) := by decide +kernel
theorem dX2_init_25 : decode cX2_init 25 = .ok (.return_, 1) := by decide +kernel
set_option maxHeartbeats 4000000 in
set_option maxRecDepth 100000 in
theorem okI_X2_init_21 {G : GT} (w : Wd) (hz : ∀ k, 22 ≤ k → ∀ j, w.1 k j = 0) : vC G yX2_init mX2_init { frames := 30, cells := 2, slots := 32, locals := 1920 } 2 32 22 (rT (refT.take 23)) [.ref 21, .ref 6] w (none, 24, rT (refT.take 26), w) := by
  refine vC_of 0 pn_X2 ⟨rfl, rfl⟩ (Nat.le_of_ble_eq_true rfl) (Nat.le_of_ble_eq_true rfl) ?_
  refine V.weak (lv' := [some (.ref 21), some (.ref 6)]) (And.intro rfl (And.intro rfl trivial)) ?_
  refine V.aload_n (pc := 0) dX2_init_0 rfl ?_
  refine V.objInit (pc := 1) dX2_init_1 oi_X2_init_21 big_oi big_oc (Nat.le_of_ble_eq_true rfl) (Nat.le_of_ble_eq_true rfl) ?_
  refine V.aload_n (pc := 4) dX2_init_4 rfl ?_
  refine V.bipush (pc := 5) dX2_init_5 bp_16 ?_
  refine V.newa (a := 1) (pc := 7) dX2_init_7 rfl (Or.inl rfl) ly_22 (by decide) (by decide) (by decide +kernel) (by decide) big_ac_int (fun j => by exact hz 22 (by decide) j) (Nat.le_of_ble_eq_true rfl) (Nat.le_of_ble_eq_true rfl) ?_
  refine V.putR (l0 := refT.take 23) (pc := 9) dX2_init_9 f_RX2_9 k_cl2 (by decide) ly_21 rb_2_1 (by decide +kernel) rfl (fin_R (T0 := TX2) (ty := .array .int) rfl rfl rfl (by decide +kernel) (fun _ => ⟨rfl, rfl⟩)) ?_
  rw [show refT.take 23 ++ [(21, 1, 22)] = refT.take 24 from rfl]
  refine V.aload_n (pc := 12) dX2_init_12 rfl ?_
  refine V.bipush (pc := 13) dX2_init_13 bp_16 ?_
  refine V.newa (a := 1) (pc := 15) dX2_init_15 rfl (Or.inl rfl) ly_23 (by decide) (by decide) (by decide +kernel) (by decide) big_ac_int (fun j => by exact hz 23 (by decide) j) (Nat.le_of_ble_eq_true rfl) (Nat.le_of_ble_eq_true rfl) ?_
  refine V.putR (l0 := refT.take 24) (pc := 17) dX2_init_17 f_RX2_15 k_cl2 (by decide) ly_21 rb_2_2 (by decide +kernel) rfl (fin_R (T0 := TX2) (ty := .array .int) rfl rfl rfl (by decide +kernel) (fun _ => ⟨rfl, rfl⟩)) ?_
  rw [show refT.take 24 ++ [(21, 2, 23)] = refT.take 25 from rfl]
  refine V.aload_n (pc := 20) dX2_init_20 rfl ?_
  refine V.aload_n (pc := 21) dX2_init_21 rfl ?_
  refine V.putR (l0 := refT.take 25) (pc := 22) dX2_init_22 f_RX2_18 k_cl2 (by decide) ly_21 rb_2_0 (by decide +kernel) rfl (fin_R (T0 := TX2) (ty := .object "SumFreeSets$Group") rfl rfl rfl (by decide +kernel) (fun _ => ⟨rfl, rfl⟩)) ?_
  rw [show refT.take 25 ++ [(21, 0, 6)] = refT.take 26 from rfl]
  exact V.vret (pc := 25) dX2_init_25 rfl (Nat.le_refl _) (Nat.le_refl _)
theorem nw_X11_0_87 : Cond.classLink RX11 55 RX10 ∈ BIG := big_of 288 (by decide +kernel) rfl
theorem oi_X10_init_24 : Cond.methodLink RX10 3 Lib.objectInit ∈ BIG := big_of 293 (by decide +kernel) rfl
theorem nw_X10_init_24_49 : Cond.classLink RX10 33 RX8 ∈ BIG := big_of 294 (by decide +kernel) rfl
theorem oi_X8_init_29 : Cond.methodLink RX8 3 Lib.objectInit ∈ BIG := big_of 299 (by decide +kernel) rfl
theorem dX8_init_0 : decode cX8_init 0 = .ok (.aload_n 0, 1) := by decide +kernel
theorem dX8_init_1 : decode cX8_init 1 = .ok (.invokespecial 3, 3) := by decide +kernel
theorem dX8_init_4 : decode cX8_init 4 = .ok (.aload_n 0, 1) := by decide +kernel
theorem dX8_init_5 : decode cX8_init 5 = .ok (.iconst 4, 1) := by decide +kernel
theorem dX8_init_6 : decode cX8_init 6 = .ok (.newarray .int, 2) := by decide +kernel
theorem dX8_init_8 : decode cX8_init 8 = .ok (.putfield 9, 3) := by decide +kernel
theorem dX8_init_11 : decode cX8_init 11 = .ok (.aload_n 0, 1) := by decide +kernel
theorem dX8_init_12 : decode cX8_init 12 = .ok (.bipush 16, 2) := by decide +kernel
theorem dX8_init_14 : decode cX8_init 14 = .ok (.newarray .int, 2) := by decide +kernel
theorem dX8_init_16 : decode cX8_init 16 = .ok (.putfield 15, 3) := by decide +kernel
theorem dX8_init_19 : decode cX8_init 19 = .ok (.aload_n 0, 1) := by decide +kernel
theorem dX8_init_20 : decode cX8_init 20 = .ok (.aload_n 1, 1) := by decide +kernel
theorem dX8_init_21 : decode cX8_init 21 = .ok (.putfield 18, 3) := by decide +kernel
theorem dX8_init_24 : decode cX8_init 24 = .ok (.aload_n 0, 1) := by decide +kernel
theorem dX8_init_25 : decode cX8_init 25 = .ok (.aload_n 2, 1) := by decide +kernel
theorem dX8_init_26 : decode cX8_init 26 = .ok (.putfield 22, 3) := by decide +kernel
theorem dX8_init_29 : decode cX8_init 29 = .ok (.return_, 1) := by decide +kernel
set_option maxHeartbeats 4000000 in
set_option maxRecDepth 100000 in
theorem okI_X8_init_29 {G : GT} (w : Wd) (hz : ∀ k, 30 ≤ k → ∀ j, w.1 k j = 0) : vC G yX8_init mX8_init { frames := 20, cells := 2, slots := 20, locals := 1280 } 2 20 30 (rT (refT.take 33)) [.ref 29, .ref 6, .ref 13] w (none, 32, rT (refT.take 37), w) := by
  refine vC_of 0 pn_X8 ⟨rfl, rfl⟩ (Nat.le_of_ble_eq_true rfl) (Nat.le_of_ble_eq_true rfl) ?_
  refine V.weak (lv' := [some (.ref 29), some (.ref 6), some (.ref 13)]) (And.intro rfl (And.intro rfl (And.intro rfl trivial))) ?_
  refine V.aload_n (pc := 0) dX8_init_0 rfl ?_
  refine V.objInit (pc := 1) dX8_init_1 oi_X8_init_29 big_oi big_oc (Nat.le_of_ble_eq_true rfl) (Nat.le_of_ble_eq_true rfl) ?_
  refine V.aload_n (pc := 4) dX8_init_4 rfl ?_
  refine V.iconst (pc := 5) dX8_init_5 ic_4 ?_
  refine V.newa (a := 1) (pc := 6) dX8_init_6 rfl (Or.inl rfl) ly_30 (by decide) (by decide) (by decide +kernel) (by decide) big_ac_int (fun j => by exact hz 30 (by decide) j) (Nat.le_of_ble_eq_true rfl) (Nat.le_of_ble_eq_true rfl) ?_
  refine V.putR (l0 := refT.take 33) (pc := 8) dX8_init_8 f_RX8_9 k_cl8 (by decide) ly_29 rb_8_2 (by decide +kernel) rfl (fin_R (T0 := TX8) (ty := .array .int) rfl rfl rfl (by decide +kernel) (fun _ => ⟨rfl, rfl⟩)) ?_
  rw [show refT.take 33 ++ [(29, 2, 30)] = refT.take 34 from rfl]
  refine V.aload_n (pc := 11) dX8_init_11 rfl ?_
  refine V.bipush (pc := 12) dX8_init_12 bp_16 ?_
  refine V.newa (a := 1) (pc := 14) dX8_init_14 rfl (Or.inl rfl) ly_31 (by decide) (by decide) (by decide +kernel) (by decide) big_ac_int (fun j => by exact hz 31 (by decide) j) (Nat.le_of_ble_eq_true rfl) (Nat.le_of_ble_eq_true rfl) ?_
  refine V.putR (l0 := refT.take 34) (pc := 16) dX8_init_16 f_RX8_15 k_cl8 (by decide) ly_29 rb_8_3 (by decide +kernel) rfl (fin_R (T0 := TX8) (ty := .array .int) rfl rfl rfl (by decide +kernel) (fun _ => ⟨rfl, rfl⟩)) ?_
  rw [show refT.take 34 ++ [(29, 3, 31)] = refT.take 35 from rfl]
  refine V.aload_n (pc := 19) dX8_init_19 rfl ?_
  refine V.aload_n (pc := 20) dX8_init_20 rfl ?_
  refine V.putR (l0 := refT.take 35) (pc := 21) dX8_init_21 f_RX8_18 k_cl8 (by decide) ly_29 rb_8_0 (by decide +kernel) rfl (fin_R (T0 := TX8) (ty := .object "SumFreeSets$Group") rfl rfl rfl (by decide +kernel) (fun _ => ⟨rfl, rfl⟩)) ?_
  rw [show refT.take 35 ++ [(29, 0, 6)] = refT.take 36 from rfl]
  refine V.aload_n (pc := 24) dX8_init_24 rfl ?_
  refine V.aload_n (pc := 25) dX8_init_25 rfl ?_
  refine V.putR (l0 := refT.take 36) (pc := 26) dX8_init_26 f_RX8_22 k_cl8 (by decide) ly_29 rb_8_1 (by decide +kernel) rfl (fin_R (T0 := TX8) (ty := .object "SumFreeSets$Basis") rfl rfl rfl (by decide +kernel) (fun _ => ⟨rfl, rfl⟩)) ?_
  rw [show refT.take 36 ++ [(29, 1, 13)] = refT.take 37 from rfl]
  exact V.vret (pc := 29) dX8_init_29 rfl (Nat.le_refl _) (Nat.le_refl _)
theorem dX10_init_0 : decode cX10_init 0 = .ok (.aload_n 0, 1) := by decide +kernel
theorem dX10_init_1 : decode cX10_init 1 = .ok (.invokespecial 3, 3) := by decide +kernel
theorem dX10_init_4 : decode cX10_init 4 = .ok (.aload_n 0, 1) := by decide +kernel
theorem dX10_init_5 : decode cX10_init 5 = .ok (.sipush 1024, 3) := by decide +kernel
theorem dX10_init_8 : decode cX10_init 8 = .ok (.newarray .int, 2) := by decide +kernel
theorem dX10_init_10 : decode cX10_init 10 = .ok (.putfield 11, 3) := by decide +kernel
theorem dX10_init_13 : decode cX10_init 13 = .ok (.aload_n 0, 1) := by decide +kernel
theorem dX10_init_14 : decode cX10_init 14 = .ok (.iconst 5, 1) := by decide +kernel
theorem dX10_init_15 : decode cX10_init 15 = .ok (.newarray .int, 2) := by decide +kernel
theorem dX10_init_17 : decode cX10_init 17 = .ok (.putfield 15, 3) := by decide +kernel
theorem dX10_init_20 : decode cX10_init 20 = .ok (.aload_n 0, 1) := by decide +kernel
theorem dX10_init_21 : decode cX10_init 21 = .ok (.sipush 2560, 3) := by decide +kernel
theorem dX10_init_24 : decode cX10_init 24 = .ok (.newarray .int, 2) := by decide +kernel
theorem dX10_init_26 : decode cX10_init 26 = .ok (.putfield 18, 3) := by decide +kernel
theorem dX10_init_29 : decode cX10_init 29 = .ok (.aload_n 0, 1) := by decide +kernel
theorem dX10_init_30 : decode cX10_init 30 = .ok (.sipush 1024, 3) := by decide +kernel
theorem dX10_init_33 : decode cX10_init 33 = .ok (.newarray .long, 2) := by decide +kernel
theorem dX10_init_35 : decode cX10_init 35 = .ok (.putfield 21, 3) := by decide +kernel
theorem dX10_init_38 : decode cX10_init 38 = .ok (.aload_n 0, 1) := by decide +kernel
theorem dX10_init_39 : decode cX10_init 39 = .ok (.aload_n 1, 1) := by decide +kernel
theorem dX10_init_40 : decode cX10_init 40 = .ok (.putfield 25, 3) := by decide +kernel
theorem dX10_init_43 : decode cX10_init 43 = .ok (.aload_n 0, 1) := by decide +kernel
theorem dX10_init_44 : decode cX10_init 44 = .ok (.aload_n 2, 1) := by decide +kernel
theorem dX10_init_45 : decode cX10_init 45 = .ok (.putfield 29, 3) := by decide +kernel
theorem dX10_init_48 : decode cX10_init 48 = .ok (.aload_n 0, 1) := by decide +kernel
theorem dX10_init_49 : decode cX10_init 49 = .ok (.new 33, 3) := by decide +kernel
theorem dX10_init_52 : decode cX10_init 52 = .ok (.dup, 1) := by decide +kernel
theorem dX10_init_53 : decode cX10_init 53 = .ok (.aload_n 1, 1) := by decide +kernel
theorem dX10_init_54 : decode cX10_init 54 = .ok (.aload_n 2, 1) := by decide +kernel
theorem dX10_init_55 : decode cX10_init 55 = .ok (.invokespecial 35, 3) := by decide +kernel
theorem dX10_init_58 : decode cX10_init 58 = .ok (.putfield 38, 3) := by decide +kernel
theorem dX10_init_61 : decode cX10_init 61 = .ok (.return_, 1) := by decide +kernel
set_option maxHeartbeats 4000000 in
set_option maxRecDepth 100000 in
theorem okI_X10_init_24 {G : GT} (w : Wd) (hz : ∀ k, 25 ≤ k → ∀ j, w.1 k j = 0) (hl : ∀ j, w.2 j = 0) : vC G yX10_init mX10_init { frames := 30, cells := 7, slots := 4638, locals := 1920 } 7 4638 25 (rT (refT.take 27)) [.ref 24, .ref 6, .ref 13] w (none, 32, rT (refT.take 38), w) := by
  refine vC_of 0 pn_X10 ⟨rfl, rfl⟩ (Nat.le_of_ble_eq_true rfl) (Nat.le_of_ble_eq_true rfl) ?_
  refine V.weak (lv' := [some (.ref 24), some (.ref 6), some (.ref 13)]) (And.intro rfl (And.intro rfl (And.intro rfl trivial))) ?_
  refine V.aload_n (pc := 0) dX10_init_0 rfl ?_
  refine V.objInit (pc := 1) dX10_init_1 oi_X10_init_24 big_oi big_oc (Nat.le_of_ble_eq_true rfl) (Nat.le_of_ble_eq_true rfl) ?_
  refine V.aload_n (pc := 4) dX10_init_4 rfl ?_
  refine V.sipush (pc := 5) dX10_init_5 sp_1024 ?_
  refine V.newa (a := 1) (pc := 8) dX10_init_8 rfl (Or.inl rfl) ly_25 (by decide) (by decide) (by decide +kernel) (by decide) big_ac_int (fun j => by exact hz 25 (by decide) j) (Nat.le_of_ble_eq_true rfl) (Nat.le_of_ble_eq_true rfl) ?_
  refine V.putR (l0 := refT.take 27) (pc := 10) dX10_init_10 f_RX10_11 k_cl10 (by decide) ly_24 rb_10_3 (by decide +kernel) rfl (fin_R (T0 := TX10) (ty := .array .int) rfl rfl rfl (by decide +kernel) (fun _ => ⟨rfl, rfl⟩)) ?_
  rw [show refT.take 27 ++ [(24, 3, 25)] = refT.take 28 from rfl]
  refine V.aload_n (pc := 13) dX10_init_13 rfl ?_
  refine V.iconst (pc := 14) dX10_init_14 ic_5 ?_
  refine V.newa (a := 1) (pc := 15) dX10_init_15 rfl (Or.inl rfl) ly_26 (by decide) (by decide) (by decide +kernel) (by decide) big_ac_int (fun j => by exact hz 26 (by decide) j) (Nat.le_of_ble_eq_true rfl) (Nat.le_of_ble_eq_true rfl) ?_
  refine V.putR (l0 := refT.take 28) (pc := 17) dX10_init_17 f_RX10_15 k_cl10 (by decide) ly_24 rb_10_4 (by decide +kernel) rfl (fin_R (T0 := TX10) (ty := .array .int) rfl rfl rfl (by decide +kernel) (fun _ => ⟨rfl, rfl⟩)) ?_
  rw [show refT.take 28 ++ [(24, 4, 26)] = refT.take 29 from rfl]
  refine V.aload_n (pc := 20) dX10_init_20 rfl ?_
  refine V.sipush (pc := 21) dX10_init_21 sp_2560 ?_
  refine V.newa (a := 1) (pc := 24) dX10_init_24 rfl (Or.inl rfl) ly_27 (by decide) (by decide) (by decide +kernel) (by decide) big_ac_int (fun j => by exact hz 27 (by decide) j) (Nat.le_of_ble_eq_true rfl) (Nat.le_of_ble_eq_true rfl) ?_
  refine V.putR (l0 := refT.take 29) (pc := 26) dX10_init_26 f_RX10_18 k_cl10 (by decide) ly_24 rb_10_5 (by decide +kernel) rfl (fin_R (T0 := TX10) (ty := .array .int) rfl rfl rfl (by decide +kernel) (fun _ => ⟨rfl, rfl⟩)) ?_
  rw [show refT.take 29 ++ [(24, 5, 27)] = refT.take 30 from rfl]
  refine V.aload_n (pc := 29) dX10_init_29 rfl ?_
  refine V.sipush (pc := 30) dX10_init_30 sp_1024 ?_
  refine V.newl (pc := 33) dX10_init_33 ly_28 (by decide) (by decide) (by decide) (by decide) big_ac_long (fun j => hl j) (Nat.le_of_ble_eq_true rfl) (Nat.le_of_ble_eq_true rfl) ?_
  refine V.putR (l0 := refT.take 30) (pc := 35) dX10_init_35 f_RX10_21 k_cl10 (by decide) ly_24 rb_10_6 (by decide +kernel) rfl (fin_R (T0 := TX10) (ty := .array .long) rfl rfl rfl (by decide +kernel) (fun _ => ⟨rfl, rfl⟩)) ?_
  rw [show refT.take 30 ++ [(24, 6, 28)] = refT.take 31 from rfl]
  refine V.aload_n (pc := 38) dX10_init_38 rfl ?_
  refine V.aload_n (pc := 39) dX10_init_39 rfl ?_
  refine V.putR (l0 := refT.take 31) (pc := 40) dX10_init_40 f_RX10_25 k_cl10 (by decide) ly_24 rb_10_0 (by decide +kernel) rfl (fin_R (T0 := TX10) (ty := .object "SumFreeSets$Group") rfl rfl rfl (by decide +kernel) (fun _ => ⟨rfl, rfl⟩)) ?_
  rw [show refT.take 31 ++ [(24, 0, 6)] = refT.take 32 from rfl]
  refine V.aload_n (pc := 43) dX10_init_43 rfl ?_
  refine V.aload_n (pc := 44) dX10_init_44 rfl ?_
  refine V.putR (l0 := refT.take 32) (pc := 45) dX10_init_45 f_RX10_29 k_cl10 (by decide) ly_24 rb_10_1 (by decide +kernel) rfl (fin_R (T0 := TX10) (ty := .object "SumFreeSets$Basis") rfl rfl rfl (by decide +kernel) (fun _ => ⟨rfl, rfl⟩)) ?_
  rw [show refT.take 32 ++ [(24, 1, 13)] = refT.take 33 from rfl]
  refine V.aload_n (pc := 48) dX10_init_48 rfl ?_
  refine V.new (C := RX8) (pc := 49) dX10_init_49 nw_X10_init_24_49 k_cl8 cn_8 ly_29 (by decide) rfl (rT_none 33 29 (by decide +kernel)) (fun j => by exact hz 29 (by decide) j) (Nat.le_of_ble_eq_true rfl) (Nat.le_of_ble_eq_true rfl) ?_
  refine V.dup (pc := 52) dX10_init_52 rfl ?_
  refine V.aload_n (pc := 53) dX10_init_53 rfl ?_
  refine V.aload_n (pc := 54) dX10_init_54 rfl ?_
  refine V.callI (pc := 55) (hd := dX10_init_55) (As := [.ref 6, .ref 13]) (st := [.ref 29, .ref 24]) l_RX10_35 (okI_X8_init_29 w (fun k hk j => by exact hz k (by omega) j)) ⟨rfl, rfl, ⟨Nat.le_of_ble_eq_true rfl, Nat.le_of_ble_eq_true rfl⟩, Nat.le_of_ble_eq_true rfl, Nat.le_of_ble_eq_true rfl⟩ rfl rfl (Nat.le_of_ble_eq_true rfl) (Nat.le_of_ble_eq_true rfl) ?_
  try dsimp only
  refine V.putR (l0 := refT.take 37) (pc := 58) dX10_init_58 f_RX10_38 k_cl10 (by decide) ly_24 rb_10_2 (by decide +kernel) rfl (fin_R (T0 := TX10) (ty := .object "SumFreeSets$Sending") rfl rfl rfl (by decide +kernel) (fun _ => ⟨rfl, rfl⟩)) ?_
  rw [show refT.take 37 ++ [(24, 2, 29)] = refT.take 38 from rfl]
  exact V.vret (pc := 61) dX10_init_61 rfl (Nat.le_refl _) (Nat.le_refl _)
theorem nw_X11_0_106 : Cond.classLink RX11 64 RX5 ∈ BIG := big_of 354 (by decide +kernel) rfl
theorem oi_X5_init_32 : Cond.methodLink RX5 3 Lib.objectInit ∈ BIG := big_of 359 (by decide +kernel) rfl
theorem nw_X5_init_32_24 : Cond.classLink RX5 23 RX8 ∈ BIG := big_of 360 (by decide +kernel) rfl
theorem oi_X8_init_34 : Cond.methodLink RX8 3 Lib.objectInit ∈ BIG := big_of 299 (by decide +kernel) rfl
set_option maxHeartbeats 4000000 in
set_option maxRecDepth 100000 in
theorem okI_X8_init_34 {G : GT} (w : Wd) (hz : ∀ k, 35 ≤ k → ∀ j, w.1 k j = 0) : vC G yX8_init mX8_init { frames := 20, cells := 2, slots := 20, locals := 1280 } 2 20 35 (rT (refT.take 42)) [.ref 34, .ref 6, .ref 13] w (none, 37, rT (refT.take 46), w) := by
  refine vC_of 0 pn_X8 ⟨rfl, rfl⟩ (Nat.le_of_ble_eq_true rfl) (Nat.le_of_ble_eq_true rfl) ?_
  refine V.weak (lv' := [some (.ref 34), some (.ref 6), some (.ref 13)]) (And.intro rfl (And.intro rfl (And.intro rfl trivial))) ?_
  refine V.aload_n (pc := 0) dX8_init_0 rfl ?_
  refine V.objInit (pc := 1) dX8_init_1 oi_X8_init_34 big_oi big_oc (Nat.le_of_ble_eq_true rfl) (Nat.le_of_ble_eq_true rfl) ?_
  refine V.aload_n (pc := 4) dX8_init_4 rfl ?_
  refine V.iconst (pc := 5) dX8_init_5 ic_4 ?_
  refine V.newa (a := 1) (pc := 6) dX8_init_6 rfl (Or.inl rfl) ly_35 (by decide) (by decide) (by decide +kernel) (by decide) big_ac_int (fun j => by exact hz 35 (by decide) j) (Nat.le_of_ble_eq_true rfl) (Nat.le_of_ble_eq_true rfl) ?_
  refine V.putR (l0 := refT.take 42) (pc := 8) dX8_init_8 f_RX8_9 k_cl8 (by decide) ly_34 rb_8_2 (by decide +kernel) rfl (fin_R (T0 := TX8) (ty := .array .int) rfl rfl rfl (by decide +kernel) (fun _ => ⟨rfl, rfl⟩)) ?_
  rw [show refT.take 42 ++ [(34, 2, 35)] = refT.take 43 from rfl]
  refine V.aload_n (pc := 11) dX8_init_11 rfl ?_
  refine V.bipush (pc := 12) dX8_init_12 bp_16 ?_
  refine V.newa (a := 1) (pc := 14) dX8_init_14 rfl (Or.inl rfl) ly_36 (by decide) (by decide) (by decide +kernel) (by decide) big_ac_int (fun j => by exact hz 36 (by decide) j) (Nat.le_of_ble_eq_true rfl) (Nat.le_of_ble_eq_true rfl) ?_
  refine V.putR (l0 := refT.take 43) (pc := 16) dX8_init_16 f_RX8_15 k_cl8 (by decide) ly_34 rb_8_3 (by decide +kernel) rfl (fin_R (T0 := TX8) (ty := .array .int) rfl rfl rfl (by decide +kernel) (fun _ => ⟨rfl, rfl⟩)) ?_
  rw [show refT.take 43 ++ [(34, 3, 36)] = refT.take 44 from rfl]
  refine V.aload_n (pc := 19) dX8_init_19 rfl ?_
  refine V.aload_n (pc := 20) dX8_init_20 rfl ?_
  refine V.putR (l0 := refT.take 44) (pc := 21) dX8_init_21 f_RX8_18 k_cl8 (by decide) ly_34 rb_8_0 (by decide +kernel) rfl (fin_R (T0 := TX8) (ty := .object "SumFreeSets$Group") rfl rfl rfl (by decide +kernel) (fun _ => ⟨rfl, rfl⟩)) ?_
  rw [show refT.take 44 ++ [(34, 0, 6)] = refT.take 45 from rfl]
  refine V.aload_n (pc := 24) dX8_init_24 rfl ?_
  refine V.aload_n (pc := 25) dX8_init_25 rfl ?_
  refine V.putR (l0 := refT.take 45) (pc := 26) dX8_init_26 f_RX8_22 k_cl8 (by decide) ly_34 rb_8_1 (by decide +kernel) rfl (fin_R (T0 := TX8) (ty := .object "SumFreeSets$Basis") rfl rfl rfl (by decide +kernel) (fun _ => ⟨rfl, rfl⟩)) ?_
  rw [show refT.take 45 ++ [(34, 1, 13)] = refT.take 46 from rfl]
  exact V.vret (pc := 29) dX8_init_29 rfl (Nat.le_refl _) (Nat.le_refl _)
theorem dX5_init_0 : decode cX5_init 0 = .ok (.aload_n 0, 1) := by decide +kernel
theorem dX5_init_1 : decode cX5_init 1 = .ok (.invokespecial 3, 3) := by decide +kernel
theorem dX5_init_4 : decode cX5_init 4 = .ok (.aload_n 0, 1) := by decide +kernel
theorem dX5_init_5 : decode cX5_init 5 = .ok (.sipush 256, 3) := by decide +kernel
theorem dX5_init_8 : decode cX5_init 8 = .ok (.newarray .int, 2) := by decide +kernel
theorem dX5_init_10 : decode cX5_init 10 = .ok (.putfield 11, 3) := by decide +kernel
theorem dX5_init_13 : decode cX5_init 13 = .ok (.aload_n 0, 1) := by decide +kernel
theorem dX5_init_14 : decode cX5_init 14 = .ok (.aload_n 1, 1) := by decide +kernel
theorem dX5_init_15 : decode cX5_init 15 = .ok (.putfield 15, 3) := by decide +kernel
theorem dX5_init_18 : decode cX5_init 18 = .ok (.aload_n 0, 1) := by decide +kernel
theorem dX5_init_19 : decode cX5_init 19 = .ok (.aload_n 2, 1) := by decide +kernel
theorem dX5_init_20 : decode cX5_init 20 = .ok (.putfield 19, 3) := by decide +kernel
theorem dX5_init_23 : decode cX5_init 23 = .ok (.aload_n 0, 1) := by decide +kernel
theorem dX5_init_24 : decode cX5_init 24 = .ok (.new 23, 3) := by decide +kernel
theorem dX5_init_27 : decode cX5_init 27 = .ok (.dup, 1) := by decide +kernel
theorem dX5_init_28 : decode cX5_init 28 = .ok (.aload_n 1, 1) := by decide +kernel
theorem dX5_init_29 : decode cX5_init 29 = .ok (.aload_n 2, 1) := by decide +kernel
theorem dX5_init_30 : decode cX5_init 30 = .ok (.invokespecial 25, 3) := by decide +kernel
theorem dX5_init_33 : decode cX5_init 33 = .ok (.putfield 28, 3) := by decide +kernel
theorem dX5_init_36 : decode cX5_init 36 = .ok (.return_, 1) := by decide +kernel
set_option maxHeartbeats 4000000 in
set_option maxRecDepth 100000 in
theorem okI_X5_init_32 {G : GT} (w : Wd) (hz : ∀ k, 33 ≤ k → ∀ j, w.1 k j = 0) : vC G yX5_init mX5_init { frames := 30, cells := 4, slots := 281, locals := 1920 } 4 281 33 (rT (refT.take 39)) [.ref 32, .ref 6, .ref 13] w (none, 37, rT (refT.take 47), w) := by
  refine vC_of 0 pn_X5 ⟨rfl, rfl⟩ (Nat.le_of_ble_eq_true rfl) (Nat.le_of_ble_eq_true rfl) ?_
  refine V.weak (lv' := [some (.ref 32), some (.ref 6), some (.ref 13)]) (And.intro rfl (And.intro rfl (And.intro rfl trivial))) ?_
  refine V.aload_n (pc := 0) dX5_init_0 rfl ?_
  refine V.objInit (pc := 1) dX5_init_1 oi_X5_init_32 big_oi big_oc (Nat.le_of_ble_eq_true rfl) (Nat.le_of_ble_eq_true rfl) ?_
  refine V.aload_n (pc := 4) dX5_init_4 rfl ?_
  refine V.sipush (pc := 5) dX5_init_5 sp_256 ?_
  refine V.newa (a := 1) (pc := 8) dX5_init_8 rfl (Or.inl rfl) ly_33 (by decide) (by decide) (by decide +kernel) (by decide) big_ac_int (fun j => by exact hz 33 (by decide) j) (Nat.le_of_ble_eq_true rfl) (Nat.le_of_ble_eq_true rfl) ?_
  refine V.putR (l0 := refT.take 39) (pc := 10) dX5_init_10 f_RX5_11 k_cl5 (by decide) ly_32 rb_5_3 (by decide +kernel) rfl (fin_R (T0 := TX5) (ty := .array .int) rfl rfl rfl (by decide +kernel) (fun _ => ⟨rfl, rfl⟩)) ?_
  rw [show refT.take 39 ++ [(32, 3, 33)] = refT.take 40 from rfl]
  refine V.aload_n (pc := 13) dX5_init_13 rfl ?_
  refine V.aload_n (pc := 14) dX5_init_14 rfl ?_
  refine V.putR (l0 := refT.take 40) (pc := 15) dX5_init_15 f_RX5_15 k_cl5 (by decide) ly_32 rb_5_0 (by decide +kernel) rfl (fin_R (T0 := TX5) (ty := .object "SumFreeSets$Group") rfl rfl rfl (by decide +kernel) (fun _ => ⟨rfl, rfl⟩)) ?_
  rw [show refT.take 40 ++ [(32, 0, 6)] = refT.take 41 from rfl]
  refine V.aload_n (pc := 18) dX5_init_18 rfl ?_
  refine V.aload_n (pc := 19) dX5_init_19 rfl ?_
  refine V.putR (l0 := refT.take 41) (pc := 20) dX5_init_20 f_RX5_19 k_cl5 (by decide) ly_32 rb_5_1 (by decide +kernel) rfl (fin_R (T0 := TX5) (ty := .object "SumFreeSets$Basis") rfl rfl rfl (by decide +kernel) (fun _ => ⟨rfl, rfl⟩)) ?_
  rw [show refT.take 41 ++ [(32, 1, 13)] = refT.take 42 from rfl]
  refine V.aload_n (pc := 23) dX5_init_23 rfl ?_
  refine V.new (C := RX8) (pc := 24) dX5_init_24 nw_X5_init_32_24 k_cl8 cn_8 ly_34 (by decide) rfl (rT_none 42 34 (by decide +kernel)) (fun j => by exact hz 34 (by decide) j) (Nat.le_of_ble_eq_true rfl) (Nat.le_of_ble_eq_true rfl) ?_
  refine V.dup (pc := 27) dX5_init_27 rfl ?_
  refine V.aload_n (pc := 28) dX5_init_28 rfl ?_
  refine V.aload_n (pc := 29) dX5_init_29 rfl ?_
  refine V.callI (pc := 30) (hd := dX5_init_30) (As := [.ref 6, .ref 13]) (st := [.ref 34, .ref 32]) l_RX5_25 (okI_X8_init_34 w (fun k hk j => by exact hz k (by omega) j)) ⟨rfl, rfl, ⟨Nat.le_of_ble_eq_true rfl, Nat.le_of_ble_eq_true rfl⟩, Nat.le_of_ble_eq_true rfl, Nat.le_of_ble_eq_true rfl⟩ rfl rfl (Nat.le_of_ble_eq_true rfl) (Nat.le_of_ble_eq_true rfl) ?_
  try dsimp only
  refine V.putR (l0 := refT.take 46) (pc := 33) dX5_init_33 f_RX5_28 k_cl5 (by decide) ly_32 rb_5_2 (by decide +kernel) rfl (fin_R (T0 := TX5) (ty := .object "SumFreeSets$Sending") rfl rfl rfl (by decide +kernel) (fun _ => ⟨rfl, rfl⟩)) ?_
  rw [show refT.take 46 ++ [(32, 2, 34)] = refT.take 47 from rfl]
  exact V.vret (pc := 36) dX5_init_36 rfl (Nat.le_refl _) (Nat.le_refl _)
theorem nw_X11_0_125 : Cond.classLink RX11 71 RX0 ∈ BIG := big_of 378 (by decide +kernel) rfl
theorem oi_X0_init_37 : Cond.methodLink RX0 5 Lib.objectInit ∈ BIG := big_of 383 (by decide +kernel) rfl
theorem dX0_init_0 : decode cX0_init 0 = .ok (.aload_n 0, 1) := by decide +kernel
theorem dX0_init_1 : decode cX0_init 1 = .ok (.invokespecial 5, 3) := by decide +kernel
theorem dX0_init_4 : decode cX0_init 4 = .ok (.aload_n 0, 1) := by decide +kernel
theorem dX0_init_5 : decode cX0_init 5 = .ok (.bipush 20, 2) := by decide +kernel
theorem dX0_init_7 : decode cX0_init 7 = .ok (.newarray .int, 2) := by decide +kernel
theorem dX0_init_9 : decode cX0_init 9 = .ok (.putfield 11, 3) := by decide +kernel
theorem dX0_init_12 : decode cX0_init 12 = .ok (.aload_n 0, 1) := by decide +kernel
theorem dX0_init_13 : decode cX0_init 13 = .ok (.bipush 12, 2) := by decide +kernel
theorem dX0_init_15 : decode cX0_init 15 = .ok (.newarray .int, 2) := by decide +kernel
theorem dX0_init_17 : decode cX0_init 17 = .ok (.putfield 15, 3) := by decide +kernel
theorem dX0_init_20 : decode cX0_init 20 = .ok (.aload_n 0, 1) := by decide +kernel
theorem dX0_init_21 : decode cX0_init 21 = .ok (.bipush 12, 2) := by decide +kernel
theorem dX0_init_23 : decode cX0_init 23 = .ok (.newarray .int, 2) := by decide +kernel
theorem dX0_init_25 : decode cX0_init 25 = .ok (.putfield 18, 3) := by decide +kernel
theorem dX0_init_28 : decode cX0_init 28 = .ok (.return_, 1) := by decide +kernel
set_option maxHeartbeats 4000000 in
set_option maxRecDepth 100000 in
theorem okI_X0_init_37 {G : GT} (w : Wd) (hz : ∀ k, 38 ≤ k → ∀ j, w.1 k j = 0) : vC G yX0_init mX0_init { frames := 30, cells := 3, slots := 44, locals := 1920 } 3 44 38 (rT (refT.take 48)) [.ref 37] w (none, 41, rT (refT.take 51), w) := by
  refine vC_of 0 pn_X0 ⟨rfl, rfl⟩ (Nat.le_of_ble_eq_true rfl) (Nat.le_of_ble_eq_true rfl) ?_
  refine V.weak (lv' := [some (.ref 37)]) (And.intro rfl trivial) ?_
  refine V.aload_n (pc := 0) dX0_init_0 rfl ?_
  refine V.objInit (pc := 1) dX0_init_1 oi_X0_init_37 big_oi big_oc (Nat.le_of_ble_eq_true rfl) (Nat.le_of_ble_eq_true rfl) ?_
  refine V.aload_n (pc := 4) dX0_init_4 rfl ?_
  refine V.bipush (pc := 5) dX0_init_5 bp_20 ?_
  refine V.newa (a := 1) (pc := 7) dX0_init_7 rfl (Or.inl rfl) ly_38 (by decide) (by decide) (by decide +kernel) (by decide) big_ac_int (fun j => by exact hz 38 (by decide) j) (Nat.le_of_ble_eq_true rfl) (Nat.le_of_ble_eq_true rfl) ?_
  refine V.putR (l0 := refT.take 48) (pc := 9) dX0_init_9 f_RX0_11 k_cl0 (by decide) ly_37 rb_0_0 (by decide +kernel) rfl (fin_R (T0 := TX0) (ty := .array .int) rfl rfl rfl (by decide +kernel) (fun _ => ⟨rfl, rfl⟩)) ?_
  rw [show refT.take 48 ++ [(37, 0, 38)] = refT.take 49 from rfl]
  refine V.aload_n (pc := 12) dX0_init_12 rfl ?_
  refine V.bipush (pc := 13) dX0_init_13 bp_12 ?_
  refine V.newa (a := 1) (pc := 15) dX0_init_15 rfl (Or.inl rfl) ly_39 (by decide) (by decide) (by decide +kernel) (by decide) big_ac_int (fun j => by exact hz 39 (by decide) j) (Nat.le_of_ble_eq_true rfl) (Nat.le_of_ble_eq_true rfl) ?_
  refine V.putR (l0 := refT.take 49) (pc := 17) dX0_init_17 f_RX0_15 k_cl0 (by decide) ly_37 rb_0_1 (by decide +kernel) rfl (fin_R (T0 := TX0) (ty := .array .int) rfl rfl rfl (by decide +kernel) (fun _ => ⟨rfl, rfl⟩)) ?_
  rw [show refT.take 49 ++ [(37, 1, 39)] = refT.take 50 from rfl]
  refine V.aload_n (pc := 20) dX0_init_20 rfl ?_
  refine V.bipush (pc := 21) dX0_init_21 bp_12 ?_
  refine V.newa (a := 1) (pc := 23) dX0_init_23 rfl (Or.inl rfl) ly_40 (by decide) (by decide) (by decide +kernel) (by decide) big_ac_int (fun j => by exact hz 40 (by decide) j) (Nat.le_of_ble_eq_true rfl) (Nat.le_of_ble_eq_true rfl) ?_
  refine V.putR (l0 := refT.take 50) (pc := 25) dX0_init_25 f_RX0_18 k_cl0 (by decide) ly_37 rb_0_2 (by decide +kernel) rfl (fin_R (T0 := TX0) (ty := .array .int) rfl rfl rfl (by decide +kernel) (fun _ => ⟨rfl, rfl⟩)) ?_
  rw [show refT.take 50 ++ [(37, 2, 40)] = refT.take 51 from rfl]
  exact V.vret (pc := 28) dX0_init_28 rfl (Nat.le_refl _) (Nat.le_refl _)
theorem nw_X11_0_136 : Cond.classLink RX11 78 RX6 ∈ BIG := big_of 401 (by decide +kernel) rfl
theorem oi_X6_init_41 : Cond.methodLink RX6 3 Lib.objectInit ∈ BIG := big_of 406 (by decide +kernel) rfl
theorem dX6_init_0 : decode cX6_init 0 = .ok (.aload_n 0, 1) := by decide +kernel
theorem dX6_init_1 : decode cX6_init 1 = .ok (.invokespecial 3, 3) := by decide +kernel
theorem dX6_init_4 : decode cX6_init 4 = .ok (.aload_n 0, 1) := by decide +kernel
theorem dX6_init_5 : decode cX6_init 5 = .ok (.sipush 128, 3) := by decide +kernel
theorem dX6_init_8 : decode cX6_init 8 = .ok (.newarray .int, 2) := by decide +kernel
theorem dX6_init_10 : decode cX6_init 10 = .ok (.putfield 11, 3) := by decide +kernel
theorem dX6_init_13 : decode cX6_init 13 = .ok (.return_, 1) := by decide +kernel
set_option maxHeartbeats 4000000 in
set_option maxRecDepth 100000 in
theorem okI_X6_init_41 {G : GT} (w : Wd) (hz : ∀ k, 42 ≤ k → ∀ j, w.1 k j = 0) : vC G yX6_init mX6_init { frames := 30, cells := 1, slots := 128, locals := 1920 } 1 128 42 (rT (refT.take 52)) [.ref 41] w (none, 43, rT (refT.take 53), w) := by
  refine vC_of 0 pn_X6 ⟨rfl, rfl⟩ (Nat.le_of_ble_eq_true rfl) (Nat.le_of_ble_eq_true rfl) ?_
  refine V.weak (lv' := [some (.ref 41)]) (And.intro rfl trivial) ?_
  refine V.aload_n (pc := 0) dX6_init_0 rfl ?_
  refine V.objInit (pc := 1) dX6_init_1 oi_X6_init_41 big_oi big_oc (Nat.le_of_ble_eq_true rfl) (Nat.le_of_ble_eq_true rfl) ?_
  refine V.aload_n (pc := 4) dX6_init_4 rfl ?_
  refine V.sipush (pc := 5) dX6_init_5 sp_128 ?_
  refine V.newa (a := 1) (pc := 8) dX6_init_8 rfl (Or.inl rfl) ly_42 (by decide) (by decide) (by decide +kernel) (by decide) big_ac_int (fun j => by exact hz 42 (by decide) j) (Nat.le_of_ble_eq_true rfl) (Nat.le_of_ble_eq_true rfl) ?_
  refine V.putR (l0 := refT.take 52) (pc := 10) dX6_init_10 f_RX6_11 k_cl6 (by decide) ly_41 rb_6_0 (by decide +kernel) rfl (fin_R (T0 := TX6) (ty := .array .int) rfl rfl rfl (by decide +kernel) (fun _ => ⟨rfl, rfl⟩)) ?_
  rw [show refT.take 52 ++ [(41, 0, 42)] = refT.take 53 from rfl]
  exact V.vret (pc := 13) dX6_init_13 rfl (Nat.le_refl _) (Nat.le_refl _)
theorem oi_X12_44 : Cond.methodLink RX12 7 Lib.objectInit ∈ BIG := big_of 1173 (by decide +kernel) rfl
theorem dX11_init_0 : decode cX11_init 0 = .ok (.aload_n 0, 1) := by decide +kernel
theorem dX11_init_1 : decode cX11_init 1 = .ok (.invokespecial 1, 3) := by decide +kernel
theorem dX11_init_4 : decode cX11_init 4 = .ok (.aload_n 0, 1) := by decide +kernel
theorem dX11_init_5 : decode cX11_init 5 = .ok (.new 7, 3) := by decide +kernel
theorem dX11_init_8 : decode cX11_init 8 = .ok (.dup, 1) := by decide +kernel
theorem dX11_init_9 : decode cX11_init 9 = .ok (.invokespecial 9, 3) := by decide +kernel
theorem dX11_init_12 : decode cX11_init 12 = .ok (.putfield 10, 3) := by decide +kernel
theorem dX11_init_15 : decode cX11_init 15 = .ok (.aload_n 0, 1) := by decide +kernel
theorem dX11_init_16 : decode cX11_init 16 = .ok (.new 16, 3) := by decide +kernel
theorem dX11_init_19 : decode cX11_init 19 = .ok (.dup, 1) := by decide +kernel
theorem dX11_init_20 : decode cX11_init 20 = .ok (.aload_n 0, 1) := by decide +kernel
theorem dX11_init_21 : decode cX11_init 21 = .ok (.getfield 10, 3) := by decide +kernel
theorem dX11_init_24 : decode cX11_init 24 = .ok (.invokespecial 18, 3) := by decide +kernel
theorem dX11_init_27 : decode cX11_init 27 = .ok (.putfield 21, 3) := by decide +kernel
theorem dX11_init_30 : decode cX11_init 30 = .ok (.aload_n 0, 1) := by decide +kernel
theorem dX11_init_31 : decode cX11_init 31 = .ok (.new 25, 3) := by decide +kernel
theorem dX11_init_34 : decode cX11_init 34 = .ok (.dup, 1) := by decide +kernel
theorem dX11_init_35 : decode cX11_init 35 = .ok (.invokespecial 27, 3) := by decide +kernel
theorem dX11_init_38 : decode cX11_init 38 = .ok (.putfield 28, 3) := by decide +kernel
theorem dX11_init_41 : decode cX11_init 41 = .ok (.aload_n 0, 1) := by decide +kernel
theorem dX11_init_42 : decode cX11_init 42 = .ok (.new 32, 3) := by decide +kernel
theorem dX11_init_45 : decode cX11_init 45 = .ok (.dup, 1) := by decide +kernel
theorem dX11_init_46 : decode cX11_init 46 = .ok (.aload_n 0, 1) := by decide +kernel
theorem dX11_init_47 : decode cX11_init 47 = .ok (.getfield 28, 3) := by decide +kernel
theorem dX11_init_50 : decode cX11_init 50 = .ok (.invokespecial 34, 3) := by decide +kernel
theorem dX11_init_53 : decode cX11_init 53 = .ok (.putfield 37, 3) := by decide +kernel
theorem dX11_init_56 : decode cX11_init 56 = .ok (.aload_n 0, 1) := by decide +kernel
theorem dX11_init_57 : decode cX11_init 57 = .ok (.new 41, 3) := by decide +kernel
theorem dX11_init_60 : decode cX11_init 60 = .ok (.dup, 1) := by decide +kernel
theorem dX11_init_61 : decode cX11_init 61 = .ok (.aload_n 0, 1) := by decide +kernel
theorem dX11_init_62 : decode cX11_init 62 = .ok (.getfield 28, 3) := by decide +kernel
theorem dX11_init_65 : decode cX11_init 65 = .ok (.invokespecial 43, 3) := by decide +kernel
theorem dX11_init_68 : decode cX11_init 68 = .ok (.putfield 44, 3) := by decide +kernel
theorem dX11_init_71 : decode cX11_init 71 = .ok (.aload_n 0, 1) := by decide +kernel
theorem dX11_init_72 : decode cX11_init 72 = .ok (.new 48, 3) := by decide +kernel
theorem dX11_init_75 : decode cX11_init 75 = .ok (.dup, 1) := by decide +kernel
theorem dX11_init_76 : decode cX11_init 76 = .ok (.aload_n 0, 1) := by decide +kernel
theorem dX11_init_77 : decode cX11_init 77 = .ok (.getfield 28, 3) := by decide +kernel
theorem dX11_init_80 : decode cX11_init 80 = .ok (.invokespecial 50, 3) := by decide +kernel
theorem dX11_init_83 : decode cX11_init 83 = .ok (.putfield 51, 3) := by decide +kernel
theorem dX11_init_86 : decode cX11_init 86 = .ok (.aload_n 0, 1) := by decide +kernel
theorem dX11_init_87 : decode cX11_init 87 = .ok (.new 55, 3) := by decide +kernel
theorem dX11_init_90 : decode cX11_init 90 = .ok (.dup, 1) := by decide +kernel
theorem dX11_init_91 : decode cX11_init 91 = .ok (.aload_n 0, 1) := by decide +kernel
theorem dX11_init_92 : decode cX11_init 92 = .ok (.getfield 28, 3) := by decide +kernel
theorem dX11_init_95 : decode cX11_init 95 = .ok (.aload_n 0, 1) := by decide +kernel
theorem dX11_init_96 : decode cX11_init 96 = .ok (.getfield 37, 3) := by decide +kernel
theorem dX11_init_99 : decode cX11_init 99 = .ok (.invokespecial 57, 3) := by decide +kernel
theorem dX11_init_102 : decode cX11_init 102 = .ok (.putfield 60, 3) := by decide +kernel
theorem dX11_init_105 : decode cX11_init 105 = .ok (.aload_n 0, 1) := by decide +kernel
theorem dX11_init_106 : decode cX11_init 106 = .ok (.new 64, 3) := by decide +kernel
theorem dX11_init_109 : decode cX11_init 109 = .ok (.dup, 1) := by decide +kernel
theorem dX11_init_110 : decode cX11_init 110 = .ok (.aload_n 0, 1) := by decide +kernel
theorem dX11_init_111 : decode cX11_init 111 = .ok (.getfield 28, 3) := by decide +kernel
theorem dX11_init_114 : decode cX11_init 114 = .ok (.aload_n 0, 1) := by decide +kernel
theorem dX11_init_115 : decode cX11_init 115 = .ok (.getfield 37, 3) := by decide +kernel
theorem dX11_init_118 : decode cX11_init 118 = .ok (.invokespecial 66, 3) := by decide +kernel
theorem dX11_init_121 : decode cX11_init 121 = .ok (.putfield 67, 3) := by decide +kernel
theorem dX11_init_124 : decode cX11_init 124 = .ok (.aload_n 0, 1) := by decide +kernel
theorem dX11_init_125 : decode cX11_init 125 = .ok (.new 71, 3) := by decide +kernel
theorem dX11_init_128 : decode cX11_init 128 = .ok (.dup, 1) := by decide +kernel
theorem dX11_init_129 : decode cX11_init 129 = .ok (.invokespecial 73, 3) := by decide +kernel
theorem dX11_init_132 : decode cX11_init 132 = .ok (.putfield 74, 3) := by decide +kernel
theorem dX11_init_135 : decode cX11_init 135 = .ok (.aload_n 0, 1) := by decide +kernel
theorem dX11_init_136 : decode cX11_init 136 = .ok (.new 78, 3) := by decide +kernel
theorem dX11_init_139 : decode cX11_init 139 = .ok (.dup, 1) := by decide +kernel
theorem dX11_init_140 : decode cX11_init 140 = .ok (.invokespecial 80, 3) := by decide +kernel
theorem dX11_init_143 : decode cX11_init 143 = .ok (.putfield 81, 3) := by decide +kernel
theorem dX11_init_146 : decode cX11_init 146 = .ok (.aload_n 0, 1) := by decide +kernel
theorem dX11_init_147 : decode cX11_init 147 = .ok (.bipush 17, 2) := by decide +kernel
theorem dX11_init_149 : decode cX11_init 149 = .ok (.newarray .int, 2) := by decide +kernel
theorem dX11_init_151 : decode cX11_init 151 = .ok (.putfield 85, 3) := by decide +kernel
theorem dX11_init_154 : decode cX11_init 154 = .ok (.aload_n 0, 1) := by decide +kernel
theorem dX11_init_155 : decode cX11_init 155 = .ok (.invokevirtual 89, 3) := by decide +kernel
theorem dX11_init_158 : decode cX11_init 158 = .ok (.return_, 1) := by decide +kernel
set_option maxHeartbeats 4000000 in
set_option maxRecDepth 100000 in
theorem okI_X11 {G : GT} (w w1 : Wd) (hz : ∀ k, 1 ≤ k → ∀ j, w.1 k j = 0) (hl : ∀ j, w.2 j = 0) (hr : f_X11_renew (sI (sI w 3 4 1) 3 8 (-1)) = some w1) : vC G yX11_init mX11_init { frames := 40, cells := 43, slots := 8960, locals := 2560 } 43 8960 1 (rT (refT.take 0)) [.ref 0] w (none, 44, rX, w1) := by
  refine vC_of 0 pn_X11 ⟨rfl, rfl⟩ (Nat.le_of_ble_eq_true rfl) (Nat.le_of_ble_eq_true rfl) ?_
  refine V.weak (lv' := [some (.ref 0)]) (And.intro rfl trivial) ?_
  refine V.aload_n (pc := 0) dX11_init_0 rfl ?_
  refine V.objInit (pc := 1) dX11_init_1 oi_X11_0 big_oi big_oc (Nat.le_of_ble_eq_true rfl) (Nat.le_of_ble_eq_true rfl) ?_
  refine V.aload_n (pc := 4) dX11_init_4 rfl ?_
  refine V.new (C := RX9) (pc := 5) dX11_init_5 nw_X11_0_5 k_cl9 cn_9 ly_1 (by decide) rfl (rT_none 0 1 (by decide +kernel)) (fun j => by exact hz 1 (by decide) j) (Nat.le_of_ble_eq_true rfl) (Nat.le_of_ble_eq_true rfl) ?_
  refine V.dup (pc := 8) dX11_init_8 rfl ?_
  refine V.callI (pc := 9) (hd := dX11_init_9) (As := []) (st := [.ref 1, .ref 0]) l_RX11_9 (okI_X9_init_1 w (fun k hk j => by exact hz k (by omega) j)) ⟨rfl, rfl, ⟨Nat.le_of_ble_eq_true rfl, Nat.le_of_ble_eq_true rfl⟩, Nat.le_of_ble_eq_true rfl, Nat.le_of_ble_eq_true rfl⟩ rfl rfl (Nat.le_of_ble_eq_true rfl) (Nat.le_of_ble_eq_true rfl) ?_
  try dsimp only
  refine V.putR (l0 := refT.take 1) (pc := 12) dX11_init_12 f_RX11_10 k_cl11 (by decide) ly_0 rb_11_0 (by decide +kernel) rfl (fin_R (T0 := TX11) (ty := .object "SumFreeSets$Tape") rfl rfl rfl (by decide +kernel) (fun _ => ⟨rfl, rfl⟩)) ?_
  rw [show refT.take 1 ++ [(0, 0, 1)] = refT.take 2 from rfl]
  refine V.aload_n (pc := 15) dX11_init_15 rfl ?_
  refine V.new (C := RX7) (pc := 16) dX11_init_16 nw_X11_0_16 k_cl7 cn_7 ly_3 (by decide) rfl (rT_none 2 3 (by decide +kernel)) (fun j => by exact hz 3 (by decide) j) (Nat.le_of_ble_eq_true rfl) (Nat.le_of_ble_eq_true rfl) ?_
  refine V.dup (pc := 19) dX11_init_19 rfl ?_
  refine V.aload_n (pc := 20) dX11_init_20 rfl ?_
  refine V.getR (t := 1) (pc := 21) dX11_init_21 f_RX11_10 k_cl11 (by decide) ly_0 rb_11_0 (by decide +kernel) ?_
  refine V.callI (pc := 24) (hd := dX11_init_24) (As := [.ref 1]) (st := [.ref 3, .ref 0]) l_RX11_18 (okI_X7_init_3 w (fun k hk j => by exact hz k (by omega) j)) ⟨rfl, rfl, ⟨Nat.le_of_ble_eq_true rfl, Nat.le_of_ble_eq_true rfl⟩, Nat.le_of_ble_eq_true rfl, Nat.le_of_ble_eq_true rfl⟩ rfl rfl (Nat.le_of_ble_eq_true rfl) (Nat.le_of_ble_eq_true rfl) ?_
  try dsimp only
  refine V.putR (l0 := refT.take 5) (pc := 27) dX11_init_27 f_RX11_21 k_cl11 (by decide) ly_0 rb_11_1 (by decide +kernel) rfl (fin_R (T0 := TX11) (ty := .object "SumFreeSets$Reader") rfl rfl rfl (by decide +kernel) (fun _ => ⟨rfl, rfl⟩)) ?_
  rw [show refT.take 5 ++ [(0, 1, 3)] = refT.take 6 from rfl]
  refine V.aload_n (pc := 30) dX11_init_30 rfl ?_
  refine V.new (C := RX4) (pc := 31) dX11_init_31 nw_X11_0_31 k_cl4 cn_4 ly_6 (by decide) rfl (rT_none 6 6 (by decide +kernel)) (fun j => by rw [sI_row _ _ _ _ (by decide)]; rw [sI_row _ _ _ _ (by decide)]; exact hz 6 (by decide) j) (Nat.le_of_ble_eq_true rfl) (Nat.le_of_ble_eq_true rfl) ?_
  refine V.dup (pc := 34) dX11_init_34 rfl ?_
  refine V.callI (pc := 35) (hd := dX11_init_35) (As := []) (st := [.ref 6, .ref 0]) l_RX11_27 (okI_X4_init_6 (sI (sI w 3 4 1) 3 8 (-1)) (fun k hk j => by rw [sI_row _ _ _ _ (by omega)]; rw [sI_row _ _ _ _ (by omega)]; exact hz k (by omega) j)) ⟨rfl, rfl, ⟨Nat.le_of_ble_eq_true rfl, Nat.le_of_ble_eq_true rfl⟩, Nat.le_of_ble_eq_true rfl, Nat.le_of_ble_eq_true rfl⟩ rfl rfl (Nat.le_of_ble_eq_true rfl) (Nat.le_of_ble_eq_true rfl) ?_
  try dsimp only
  refine V.putR (l0 := refT.take 12) (pc := 38) dX11_init_38 f_RX11_28 k_cl11 (by decide) ly_0 rb_11_2 (by decide +kernel) rfl (fin_R (T0 := TX11) (ty := .object "SumFreeSets$Group") rfl rfl rfl (by decide +kernel) (fun _ => ⟨rfl, rfl⟩)) ?_
  rw [show refT.take 12 ++ [(0, 2, 6)] = refT.take 13 from rfl]
  refine V.aload_n (pc := 41) dX11_init_41 rfl ?_
  refine V.new (C := RX1) (pc := 42) dX11_init_42 nw_X11_0_42 k_cl1 cn_1 ly_13 (by decide) rfl (rT_none 13 13 (by decide +kernel)) (fun j => by rw [sI_row _ _ _ _ (by decide)]; rw [sI_row _ _ _ _ (by decide)]; exact hz 13 (by decide) j) (Nat.le_of_ble_eq_true rfl) (Nat.le_of_ble_eq_true rfl) ?_
  refine V.dup (pc := 45) dX11_init_45 rfl ?_
  refine V.aload_n (pc := 46) dX11_init_46 rfl ?_
  refine V.getR (t := 6) (pc := 47) dX11_init_47 f_RX11_28 k_cl11 (by decide) ly_0 rb_11_2 (by decide +kernel) ?_
  refine V.callI (pc := 50) (hd := dX11_init_50) (As := [.ref 6]) (st := [.ref 13, .ref 0]) l_RX11_34 (okI_X1_init_13 (sI (sI w 3 4 1) 3 8 (-1)) (fun k hk j => by rw [sI_row _ _ _ _ (by omega)]; rw [sI_row _ _ _ _ (by omega)]; exact hz k (by omega) j)) ⟨rfl, rfl, ⟨Nat.le_of_ble_eq_true rfl, Nat.le_of_ble_eq_true rfl⟩, Nat.le_of_ble_eq_true rfl, Nat.le_of_ble_eq_true rfl⟩ rfl rfl (Nat.le_of_ble_eq_true rfl) (Nat.le_of_ble_eq_true rfl) ?_
  try dsimp only
  refine V.putR (l0 := refT.take 19) (pc := 53) dX11_init_53 f_RX11_37 k_cl11 (by decide) ly_0 rb_11_3 (by decide +kernel) rfl (fin_R (T0 := TX11) (ty := .object "SumFreeSets$Basis") rfl rfl rfl (by decide +kernel) (fun _ => ⟨rfl, rfl⟩)) ?_
  rw [show refT.take 19 ++ [(0, 3, 13)] = refT.take 20 from rfl]
  refine V.aload_n (pc := 56) dX11_init_56 rfl ?_
  refine V.new (C := RX3) (pc := 57) dX11_init_57 nw_X11_0_57 k_cl3 cn_3 ly_19 (by decide) rfl (rT_none 20 19 (by decide +kernel)) (fun j => by rw [sI_row _ _ _ _ (by decide)]; rw [sI_row _ _ _ _ (by decide)]; exact hz 19 (by decide) j) (Nat.le_of_ble_eq_true rfl) (Nat.le_of_ble_eq_true rfl) ?_
  refine V.dup (pc := 60) dX11_init_60 rfl ?_
  refine V.aload_n (pc := 61) dX11_init_61 rfl ?_
  refine V.getR (t := 6) (pc := 62) dX11_init_62 f_RX11_28 k_cl11 (by decide) ly_0 rb_11_2 (by decide +kernel) ?_
  refine V.callI (pc := 65) (hd := dX11_init_65) (As := [.ref 6]) (st := [.ref 19, .ref 0]) l_RX11_43 (okI_X3_init_19 (sI (sI w 3 4 1) 3 8 (-1)) (fun k hk j => by rw [sI_row _ _ _ _ (by omega)]; rw [sI_row _ _ _ _ (by omega)]; exact hz k (by omega) j)) ⟨rfl, rfl, ⟨Nat.le_of_ble_eq_true rfl, Nat.le_of_ble_eq_true rfl⟩, Nat.le_of_ble_eq_true rfl, Nat.le_of_ble_eq_true rfl⟩ rfl rfl (Nat.le_of_ble_eq_true rfl) (Nat.le_of_ble_eq_true rfl) ?_
  try dsimp only
  refine V.putR (l0 := refT.take 22) (pc := 68) dX11_init_68 f_RX11_44 k_cl11 (by decide) ly_0 rb_11_4 (by decide +kernel) rfl (fin_R (T0 := TX11) (ty := .object "SumFreeSets$FreeSets") rfl rfl rfl (by decide +kernel) (fun _ => ⟨rfl, rfl⟩)) ?_
  rw [show refT.take 22 ++ [(0, 4, 19)] = refT.take 23 from rfl]
  refine V.aload_n (pc := 71) dX11_init_71 rfl ?_
  refine V.new (C := RX2) (pc := 72) dX11_init_72 nw_X11_0_72 k_cl2 cn_2 ly_21 (by decide) rfl (rT_none 23 21 (by decide +kernel)) (fun j => by rw [sI_row _ _ _ _ (by decide)]; rw [sI_row _ _ _ _ (by decide)]; exact hz 21 (by decide) j) (Nat.le_of_ble_eq_true rfl) (Nat.le_of_ble_eq_true rfl) ?_
  refine V.dup (pc := 75) dX11_init_75 rfl ?_
  refine V.aload_n (pc := 76) dX11_init_76 rfl ?_
  refine V.getR (t := 6) (pc := 77) dX11_init_77 f_RX11_28 k_cl11 (by decide) ly_0 rb_11_2 (by decide +kernel) ?_
  refine V.callI (pc := 80) (hd := dX11_init_80) (As := [.ref 6]) (st := [.ref 21, .ref 0]) l_RX11_50 (okI_X2_init_21 (sI (sI w 3 4 1) 3 8 (-1)) (fun k hk j => by rw [sI_row _ _ _ _ (by omega)]; rw [sI_row _ _ _ _ (by omega)]; exact hz k (by omega) j)) ⟨rfl, rfl, ⟨Nat.le_of_ble_eq_true rfl, Nat.le_of_ble_eq_true rfl⟩, Nat.le_of_ble_eq_true rfl, Nat.le_of_ble_eq_true rfl⟩ rfl rfl (Nat.le_of_ble_eq_true rfl) (Nat.le_of_ble_eq_true rfl) ?_
  try dsimp only
  refine V.putR (l0 := refT.take 26) (pc := 83) dX11_init_83 f_RX11_51 k_cl11 (by decide) ly_0 rb_11_5 (by decide +kernel) rfl (fin_R (T0 := TX11) (ty := .object "SumFreeSets$Colouring") rfl rfl rfl (by decide +kernel) (fun _ => ⟨rfl, rfl⟩)) ?_
  rw [show refT.take 26 ++ [(0, 5, 21)] = refT.take 27 from rfl]
  refine V.aload_n (pc := 86) dX11_init_86 rfl ?_
  refine V.new (C := RX10) (pc := 87) dX11_init_87 nw_X11_0_87 k_cl10 cn_10 ly_24 (by decide) rfl (rT_none 27 24 (by decide +kernel)) (fun j => by rw [sI_row _ _ _ _ (by decide)]; rw [sI_row _ _ _ _ (by decide)]; exact hz 24 (by decide) j) (Nat.le_of_ble_eq_true rfl) (Nat.le_of_ble_eq_true rfl) ?_
  refine V.dup (pc := 90) dX11_init_90 rfl ?_
  refine V.aload_n (pc := 91) dX11_init_91 rfl ?_
  refine V.getR (t := 6) (pc := 92) dX11_init_92 f_RX11_28 k_cl11 (by decide) ly_0 rb_11_2 (by decide +kernel) ?_
  refine V.aload_n (pc := 95) dX11_init_95 rfl ?_
  refine V.getR (t := 13) (pc := 96) dX11_init_96 f_RX11_37 k_cl11 (by decide) ly_0 rb_11_3 (by decide +kernel) ?_
  refine V.callI (pc := 99) (hd := dX11_init_99) (As := [.ref 6, .ref 13]) (st := [.ref 24, .ref 0]) l_RX11_57 (okI_X10_init_24 (sI (sI w 3 4 1) 3 8 (-1)) (fun k hk j => by rw [sI_row _ _ _ _ (by omega)]; rw [sI_row _ _ _ _ (by omega)]; exact hz k (by omega) j) hl) ⟨rfl, rfl, ⟨Nat.le_of_ble_eq_true rfl, Nat.le_of_ble_eq_true rfl⟩, Nat.le_of_ble_eq_true rfl, Nat.le_of_ble_eq_true rfl⟩ rfl rfl (Nat.le_of_ble_eq_true rfl) (Nat.le_of_ble_eq_true rfl) ?_
  try dsimp only
  refine V.putR (l0 := refT.take 38) (pc := 102) dX11_init_102 f_RX11_60 k_cl11 (by decide) ly_0 rb_11_6 (by decide +kernel) rfl (fin_R (T0 := TX11) (ty := .object "SumFreeSets$Turning") rfl rfl rfl (by decide +kernel) (fun _ => ⟨rfl, rfl⟩)) ?_
  rw [show refT.take 38 ++ [(0, 6, 24)] = refT.take 39 from rfl]
  refine V.aload_n (pc := 105) dX11_init_105 rfl ?_
  refine V.new (C := RX5) (pc := 106) dX11_init_106 nw_X11_0_106 k_cl5 cn_5 ly_32 (by decide) rfl (rT_none 39 32 (by decide +kernel)) (fun j => by rw [sI_row _ _ _ _ (by decide)]; rw [sI_row _ _ _ _ (by decide)]; exact hz 32 (by decide) j) (Nat.le_of_ble_eq_true rfl) (Nat.le_of_ble_eq_true rfl) ?_
  refine V.dup (pc := 109) dX11_init_109 rfl ?_
  refine V.aload_n (pc := 110) dX11_init_110 rfl ?_
  refine V.getR (t := 6) (pc := 111) dX11_init_111 f_RX11_28 k_cl11 (by decide) ly_0 rb_11_2 (by decide +kernel) ?_
  refine V.aload_n (pc := 114) dX11_init_114 rfl ?_
  refine V.getR (t := 13) (pc := 115) dX11_init_115 f_RX11_37 k_cl11 (by decide) ly_0 rb_11_3 (by decide +kernel) ?_
  refine V.callI (pc := 118) (hd := dX11_init_118) (As := [.ref 6, .ref 13]) (st := [.ref 32, .ref 0]) l_RX11_66 (okI_X5_init_32 (sI (sI w 3 4 1) 3 8 (-1)) (fun k hk j => by rw [sI_row _ _ _ _ (by omega)]; rw [sI_row _ _ _ _ (by omega)]; exact hz k (by omega) j)) ⟨rfl, rfl, ⟨Nat.le_of_ble_eq_true rfl, Nat.le_of_ble_eq_true rfl⟩, Nat.le_of_ble_eq_true rfl, Nat.le_of_ble_eq_true rfl⟩ rfl rfl (Nat.le_of_ble_eq_true rfl) (Nat.le_of_ble_eq_true rfl) ?_
  try dsimp only
  refine V.putR (l0 := refT.take 47) (pc := 121) dX11_init_121 f_RX11_67 k_cl11 (by decide) ly_0 rb_11_7 (by decide +kernel) rfl (fin_R (T0 := TX11) (ty := .object "SumFreeSets$Homs") rfl rfl rfl (by decide +kernel) (fun _ => ⟨rfl, rfl⟩)) ?_
  rw [show refT.take 47 ++ [(0, 7, 32)] = refT.take 48 from rfl]
  refine V.aload_n (pc := 124) dX11_init_124 rfl ?_
  refine V.new (C := RX0) (pc := 125) dX11_init_125 nw_X11_0_125 k_cl0 cn_0 ly_37 (by decide) rfl (rT_none 48 37 (by decide +kernel)) (fun j => by rw [sI_row _ _ _ _ (by decide)]; rw [sI_row _ _ _ _ (by decide)]; exact hz 37 (by decide) j) (Nat.le_of_ble_eq_true rfl) (Nat.le_of_ble_eq_true rfl) ?_
  refine V.dup (pc := 128) dX11_init_128 rfl ?_
  refine V.callI (pc := 129) (hd := dX11_init_129) (As := []) (st := [.ref 37, .ref 0]) l_RX11_73 (okI_X0_init_37 (sI (sI w 3 4 1) 3 8 (-1)) (fun k hk j => by rw [sI_row _ _ _ _ (by omega)]; rw [sI_row _ _ _ _ (by omega)]; exact hz k (by omega) j)) ⟨rfl, rfl, ⟨Nat.le_of_ble_eq_true rfl, Nat.le_of_ble_eq_true rfl⟩, Nat.le_of_ble_eq_true rfl, Nat.le_of_ble_eq_true rfl⟩ rfl rfl (Nat.le_of_ble_eq_true rfl) (Nat.le_of_ble_eq_true rfl) ?_
  try dsimp only
  refine V.putR (l0 := refT.take 51) (pc := 132) dX11_init_132 f_RX11_74 k_cl11 (by decide) ly_0 rb_11_8 (by decide +kernel) rfl (fin_R (T0 := TX11) (ty := .object "SumFreeSets$Acts") rfl rfl rfl (by decide +kernel) (fun _ => ⟨rfl, rfl⟩)) ?_
  rw [show refT.take 51 ++ [(0, 8, 37)] = refT.take 52 from rfl]
  refine V.aload_n (pc := 135) dX11_init_135 rfl ?_
  refine V.new (C := RX6) (pc := 136) dX11_init_136 nw_X11_0_136 k_cl6 cn_6 ly_41 (by decide) rfl (rT_none 52 41 (by decide +kernel)) (fun j => by rw [sI_row _ _ _ _ (by decide)]; rw [sI_row _ _ _ _ (by decide)]; exact hz 41 (by decide) j) (Nat.le_of_ble_eq_true rfl) (Nat.le_of_ble_eq_true rfl) ?_
  refine V.dup (pc := 139) dX11_init_139 rfl ?_
  refine V.callI (pc := 140) (hd := dX11_init_140) (As := []) (st := [.ref 41, .ref 0]) l_RX11_80 (okI_X6_init_41 (sI (sI w 3 4 1) 3 8 (-1)) (fun k hk j => by rw [sI_row _ _ _ _ (by omega)]; rw [sI_row _ _ _ _ (by omega)]; exact hz k (by omega) j)) ⟨rfl, rfl, ⟨Nat.le_of_ble_eq_true rfl, Nat.le_of_ble_eq_true rfl⟩, Nat.le_of_ble_eq_true rfl, Nat.le_of_ble_eq_true rfl⟩ rfl rfl (Nat.le_of_ble_eq_true rfl) (Nat.le_of_ble_eq_true rfl) ?_
  try dsimp only
  refine V.putR (l0 := refT.take 53) (pc := 143) dX11_init_143 f_RX11_81 k_cl11 (by decide) ly_0 rb_11_9 (by decide +kernel) rfl (fin_R (T0 := TX11) (ty := .object "SumFreeSets$Letters") rfl rfl rfl (by decide +kernel) (fun _ => ⟨rfl, rfl⟩)) ?_
  rw [show refT.take 53 ++ [(0, 9, 41)] = refT.take 54 from rfl]
  refine V.aload_n (pc := 146) dX11_init_146 rfl ?_
  refine V.bipush (pc := 147) dX11_init_147 bp_17 ?_
  refine V.newa (a := 1) (pc := 149) dX11_init_149 rfl (Or.inl rfl) ly_43 (by decide) (by decide) (by decide +kernel) (by decide) big_ac_int (fun j => by rw [sI_row _ _ _ _ (by decide)]; rw [sI_row _ _ _ _ (by decide)]; exact hz 43 (by decide) j) (Nat.le_of_ble_eq_true rfl) (Nat.le_of_ble_eq_true rfl) ?_
  refine V.putR (l0 := refT.take 54) (pc := 151) dX11_init_151 f_RX11_85 k_cl11 (by decide) ly_0 rb_11_10 (by decide +kernel) rfl (fin_R (T0 := TX11) (ty := .array .int) rfl rfl rfl (by decide +kernel) (fun _ => ⟨rfl, rfl⟩)) ?_
  rw [show refT.take 54 ++ [(0, 10, 43)] = refT.take 55 from rfl]
  refine V.aload_n (pc := 154) dX11_init_154 rfl ?_
  refine V.callV (pc := 155) (As := []) (st := []) dX11_init_155 l_RX11_89 (ok4_X11_renew (d := 30) (by omega) hr) (by decide) ly_0 cn_11 ⟨rfl, rfl, ⟨Nat.le_of_ble_eq_true rfl, Nat.le_of_ble_eq_true rfl⟩, Nat.le_of_ble_eq_true rfl, Nat.le_of_ble_eq_true rfl⟩ rfl rfl (Nat.le_of_ble_eq_true rfl) (Nat.le_of_ble_eq_true rfl) ?_
  exact V.vret (pc := 158) dX11_init_158 rfl (Nat.le_refl _) (Nat.le_refl _)
def wd_0 (w : Wd) : Wd := w
def wd_1 (w : Wd) : Wd := sI (wd_0 w) 67 0 99
def wd_2 (w : Wd) : Wd := sI (wd_1 w) 67 1 121
def wd_3 (w : Wd) : Wd := sI (wd_2 w) 67 2 99
def wd_4 (w : Wd) : Wd := sI (wd_3 w) 67 3 108
def wd_5 (w : Wd) : Wd := sI (wd_4 w) 67 4 105
def wd_6 (w : Wd) : Wd := sI (wd_5 w) 67 5 99
def wd_7 (w : Wd) : Wd := sI (wd_6 w) 67 6 0
def wd_8 (w : Wd) : Wd := sI (wd_7 w) 67 7 100
def wd_9 (w : Wd) : Wd := sI (wd_8 w) 67 8 105
def wd_10 (w : Wd) : Wd := sI (wd_9 w) 67 9 104
def wd_11 (w : Wd) : Wd := sI (wd_10 w) 67 10 101
def wd_12 (w : Wd) : Wd := sI (wd_11 w) 67 11 100
def wd_13 (w : Wd) : Wd := sI (wd_12 w) 67 12 114
def wd_14 (w : Wd) : Wd := sI (wd_13 w) 67 13 97
def wd_15 (w : Wd) : Wd := sI (wd_14 w) 67 14 108
def wd_16 (w : Wd) : Wd := sI (wd_15 w) 67 15 0
def wd_17 (w : Wd) : Wd := sI (wd_16 w) 67 16 113
def wd_18 (w : Wd) : Wd := sI (wd_17 w) 67 17 117
def wd_19 (w : Wd) : Wd := sI (wd_18 w) 67 18 97
def wd_20 (w : Wd) : Wd := sI (wd_19 w) 67 19 116
def wd_21 (w : Wd) : Wd := sI (wd_20 w) 67 20 101
def wd_22 (w : Wd) : Wd := sI (wd_21 w) 67 21 114
def wd_23 (w : Wd) : Wd := sI (wd_22 w) 67 22 110
def wd_24 (w : Wd) : Wd := sI (wd_23 w) 67 23 105
def wd_25 (w : Wd) : Wd := sI (wd_24 w) 67 24 111
def wd_26 (w : Wd) : Wd := sI (wd_25 w) 67 25 110
def wd_27 (w : Wd) : Wd := sI (wd_26 w) 67 26 0
def wd_28 (w : Wd) : Wd := sI (wd_27 w) 67 27 115
def wd_29 (w : Wd) : Wd := sI (wd_28 w) 67 28 101
def wd_30 (w : Wd) : Wd := sI (wd_29 w) 67 29 116
def wd_31 (w : Wd) : Wd := sI (wd_30 w) 67 30 0
def wd_32 (w : Wd) : Wd := sI (wd_31 w) 67 31 115
def wd_33 (w : Wd) : Wd := sI (wd_32 w) 67 32 105
def wd_34 (w : Wd) : Wd := sI (wd_33 w) 67 33 122
def wd_35 (w : Wd) : Wd := sI (wd_34 w) 67 34 101
def wd_36 (w : Wd) : Wd := sI (wd_35 w) 67 35 0
def wd_37 (w : Wd) : Wd := sI (wd_36 w) 67 36 116
def wd_38 (w : Wd) : Wd := sI (wd_37 w) 67 37 114
def wd_39 (w : Wd) : Wd := sI (wd_38 w) 67 38 105
def wd_40 (w : Wd) : Wd := sI (wd_39 w) 67 39 112
def wd_41 (w : Wd) : Wd := sI (wd_40 w) 67 40 108
def wd_42 (w : Wd) : Wd := sI (wd_41 w) 67 41 101
def wd_43 (w : Wd) : Wd := sI (wd_42 w) 67 42 115
def wd_44 (w : Wd) : Wd := sI (wd_43 w) 67 43 0
def wd_45 (w : Wd) : Wd := sI (wd_44 w) 67 44 102
def wd_46 (w : Wd) : Wd := sI (wd_45 w) 67 45 114
def wd_47 (w : Wd) : Wd := sI (wd_46 w) 67 46 101
def wd_48 (w : Wd) : Wd := sI (wd_47 w) 67 47 101
def wd_49 (w : Wd) : Wd := sI (wd_48 w) 67 48 0
def wd_50 (w : Wd) : Wd := sI (wd_49 w) 67 49 102
def wd_51 (w : Wd) : Wd := sI (wd_50 w) 67 50 117
def wd_52 (w : Wd) : Wd := sI (wd_51 w) 67 51 108
def wd_53 (w : Wd) : Wd := sI (wd_52 w) 67 52 108
def wd_54 (w : Wd) : Wd := sI (wd_53 w) 67 53 0
def wd_55 (w : Wd) : Wd := sI (wd_54 w) 67 54 111
def wd_56 (w : Wd) : Wd := sI (wd_55 w) 67 55 112
def wd_57 (w : Wd) : Wd := sI (wd_56 w) 67 56 101
def wd_58 (w : Wd) : Wd := sI (wd_57 w) 67 57 110
def wd_59 (w : Wd) : Wd := sI (wd_58 w) 67 58 0
def wd_60 (w : Wd) : Wd := sI (wd_59 w) 67 59 99
def wd_61 (w : Wd) : Wd := sI (wd_60 w) 67 60 111
def wd_62 (w : Wd) : Wd := sI (wd_61 w) 67 61 109
def wd_63 (w : Wd) : Wd := sI (wd_62 w) 67 62 112
def wd_64 (w : Wd) : Wd := sI (wd_63 w) 67 63 108
def wd_65 (w : Wd) : Wd := sI (wd_64 w) 67 64 101
def wd_66 (w : Wd) : Wd := sI (wd_65 w) 67 65 116
def wd_67 (w : Wd) : Wd := sI (wd_66 w) 67 66 101
def wd_68 (w : Wd) : Wd := sI (wd_67 w) 67 67 0
theorem wd_z0 (w : Wd) (k : Nat) (h : k ≠ 67) : (wd_0 w).1 k = w.1 k := rfl
theorem wd_z1 (w : Wd) (k : Nat) (h : k ≠ 67) : (wd_1 w).1 k = w.1 k := (sI_row _ _ _ _ h).trans (wd_z0 w k h)
theorem wd_z2 (w : Wd) (k : Nat) (h : k ≠ 67) : (wd_2 w).1 k = w.1 k := (sI_row _ _ _ _ h).trans (wd_z1 w k h)
theorem wd_z3 (w : Wd) (k : Nat) (h : k ≠ 67) : (wd_3 w).1 k = w.1 k := (sI_row _ _ _ _ h).trans (wd_z2 w k h)
theorem wd_z4 (w : Wd) (k : Nat) (h : k ≠ 67) : (wd_4 w).1 k = w.1 k := (sI_row _ _ _ _ h).trans (wd_z3 w k h)
theorem wd_z5 (w : Wd) (k : Nat) (h : k ≠ 67) : (wd_5 w).1 k = w.1 k := (sI_row _ _ _ _ h).trans (wd_z4 w k h)
theorem wd_z6 (w : Wd) (k : Nat) (h : k ≠ 67) : (wd_6 w).1 k = w.1 k := (sI_row _ _ _ _ h).trans (wd_z5 w k h)
theorem wd_z7 (w : Wd) (k : Nat) (h : k ≠ 67) : (wd_7 w).1 k = w.1 k := (sI_row _ _ _ _ h).trans (wd_z6 w k h)
theorem wd_z8 (w : Wd) (k : Nat) (h : k ≠ 67) : (wd_8 w).1 k = w.1 k := (sI_row _ _ _ _ h).trans (wd_z7 w k h)
theorem wd_z9 (w : Wd) (k : Nat) (h : k ≠ 67) : (wd_9 w).1 k = w.1 k := (sI_row _ _ _ _ h).trans (wd_z8 w k h)
theorem wd_z10 (w : Wd) (k : Nat) (h : k ≠ 67) : (wd_10 w).1 k = w.1 k := (sI_row _ _ _ _ h).trans (wd_z9 w k h)
theorem wd_z11 (w : Wd) (k : Nat) (h : k ≠ 67) : (wd_11 w).1 k = w.1 k := (sI_row _ _ _ _ h).trans (wd_z10 w k h)
theorem wd_z12 (w : Wd) (k : Nat) (h : k ≠ 67) : (wd_12 w).1 k = w.1 k := (sI_row _ _ _ _ h).trans (wd_z11 w k h)
theorem wd_z13 (w : Wd) (k : Nat) (h : k ≠ 67) : (wd_13 w).1 k = w.1 k := (sI_row _ _ _ _ h).trans (wd_z12 w k h)
theorem wd_z14 (w : Wd) (k : Nat) (h : k ≠ 67) : (wd_14 w).1 k = w.1 k := (sI_row _ _ _ _ h).trans (wd_z13 w k h)
theorem wd_z15 (w : Wd) (k : Nat) (h : k ≠ 67) : (wd_15 w).1 k = w.1 k := (sI_row _ _ _ _ h).trans (wd_z14 w k h)
theorem wd_z16 (w : Wd) (k : Nat) (h : k ≠ 67) : (wd_16 w).1 k = w.1 k := (sI_row _ _ _ _ h).trans (wd_z15 w k h)
theorem wd_z17 (w : Wd) (k : Nat) (h : k ≠ 67) : (wd_17 w).1 k = w.1 k := (sI_row _ _ _ _ h).trans (wd_z16 w k h)
theorem wd_z18 (w : Wd) (k : Nat) (h : k ≠ 67) : (wd_18 w).1 k = w.1 k := (sI_row _ _ _ _ h).trans (wd_z17 w k h)
theorem wd_z19 (w : Wd) (k : Nat) (h : k ≠ 67) : (wd_19 w).1 k = w.1 k := (sI_row _ _ _ _ h).trans (wd_z18 w k h)
theorem wd_z20 (w : Wd) (k : Nat) (h : k ≠ 67) : (wd_20 w).1 k = w.1 k := (sI_row _ _ _ _ h).trans (wd_z19 w k h)
theorem wd_z21 (w : Wd) (k : Nat) (h : k ≠ 67) : (wd_21 w).1 k = w.1 k := (sI_row _ _ _ _ h).trans (wd_z20 w k h)
theorem wd_z22 (w : Wd) (k : Nat) (h : k ≠ 67) : (wd_22 w).1 k = w.1 k := (sI_row _ _ _ _ h).trans (wd_z21 w k h)
theorem wd_z23 (w : Wd) (k : Nat) (h : k ≠ 67) : (wd_23 w).1 k = w.1 k := (sI_row _ _ _ _ h).trans (wd_z22 w k h)
theorem wd_z24 (w : Wd) (k : Nat) (h : k ≠ 67) : (wd_24 w).1 k = w.1 k := (sI_row _ _ _ _ h).trans (wd_z23 w k h)
theorem wd_z25 (w : Wd) (k : Nat) (h : k ≠ 67) : (wd_25 w).1 k = w.1 k := (sI_row _ _ _ _ h).trans (wd_z24 w k h)
theorem wd_z26 (w : Wd) (k : Nat) (h : k ≠ 67) : (wd_26 w).1 k = w.1 k := (sI_row _ _ _ _ h).trans (wd_z25 w k h)
theorem wd_z27 (w : Wd) (k : Nat) (h : k ≠ 67) : (wd_27 w).1 k = w.1 k := (sI_row _ _ _ _ h).trans (wd_z26 w k h)
theorem wd_z28 (w : Wd) (k : Nat) (h : k ≠ 67) : (wd_28 w).1 k = w.1 k := (sI_row _ _ _ _ h).trans (wd_z27 w k h)
theorem wd_z29 (w : Wd) (k : Nat) (h : k ≠ 67) : (wd_29 w).1 k = w.1 k := (sI_row _ _ _ _ h).trans (wd_z28 w k h)
theorem wd_z30 (w : Wd) (k : Nat) (h : k ≠ 67) : (wd_30 w).1 k = w.1 k := (sI_row _ _ _ _ h).trans (wd_z29 w k h)
theorem wd_z31 (w : Wd) (k : Nat) (h : k ≠ 67) : (wd_31 w).1 k = w.1 k := (sI_row _ _ _ _ h).trans (wd_z30 w k h)
theorem wd_z32 (w : Wd) (k : Nat) (h : k ≠ 67) : (wd_32 w).1 k = w.1 k := (sI_row _ _ _ _ h).trans (wd_z31 w k h)
theorem wd_z33 (w : Wd) (k : Nat) (h : k ≠ 67) : (wd_33 w).1 k = w.1 k := (sI_row _ _ _ _ h).trans (wd_z32 w k h)
theorem wd_z34 (w : Wd) (k : Nat) (h : k ≠ 67) : (wd_34 w).1 k = w.1 k := (sI_row _ _ _ _ h).trans (wd_z33 w k h)
theorem wd_z35 (w : Wd) (k : Nat) (h : k ≠ 67) : (wd_35 w).1 k = w.1 k := (sI_row _ _ _ _ h).trans (wd_z34 w k h)
theorem wd_z36 (w : Wd) (k : Nat) (h : k ≠ 67) : (wd_36 w).1 k = w.1 k := (sI_row _ _ _ _ h).trans (wd_z35 w k h)
theorem wd_z37 (w : Wd) (k : Nat) (h : k ≠ 67) : (wd_37 w).1 k = w.1 k := (sI_row _ _ _ _ h).trans (wd_z36 w k h)
theorem wd_z38 (w : Wd) (k : Nat) (h : k ≠ 67) : (wd_38 w).1 k = w.1 k := (sI_row _ _ _ _ h).trans (wd_z37 w k h)
theorem wd_z39 (w : Wd) (k : Nat) (h : k ≠ 67) : (wd_39 w).1 k = w.1 k := (sI_row _ _ _ _ h).trans (wd_z38 w k h)
theorem wd_z40 (w : Wd) (k : Nat) (h : k ≠ 67) : (wd_40 w).1 k = w.1 k := (sI_row _ _ _ _ h).trans (wd_z39 w k h)
theorem wd_z41 (w : Wd) (k : Nat) (h : k ≠ 67) : (wd_41 w).1 k = w.1 k := (sI_row _ _ _ _ h).trans (wd_z40 w k h)
theorem wd_z42 (w : Wd) (k : Nat) (h : k ≠ 67) : (wd_42 w).1 k = w.1 k := (sI_row _ _ _ _ h).trans (wd_z41 w k h)
theorem wd_z43 (w : Wd) (k : Nat) (h : k ≠ 67) : (wd_43 w).1 k = w.1 k := (sI_row _ _ _ _ h).trans (wd_z42 w k h)
theorem wd_z44 (w : Wd) (k : Nat) (h : k ≠ 67) : (wd_44 w).1 k = w.1 k := (sI_row _ _ _ _ h).trans (wd_z43 w k h)
theorem wd_z45 (w : Wd) (k : Nat) (h : k ≠ 67) : (wd_45 w).1 k = w.1 k := (sI_row _ _ _ _ h).trans (wd_z44 w k h)
theorem wd_z46 (w : Wd) (k : Nat) (h : k ≠ 67) : (wd_46 w).1 k = w.1 k := (sI_row _ _ _ _ h).trans (wd_z45 w k h)
theorem wd_z47 (w : Wd) (k : Nat) (h : k ≠ 67) : (wd_47 w).1 k = w.1 k := (sI_row _ _ _ _ h).trans (wd_z46 w k h)
theorem wd_z48 (w : Wd) (k : Nat) (h : k ≠ 67) : (wd_48 w).1 k = w.1 k := (sI_row _ _ _ _ h).trans (wd_z47 w k h)
theorem wd_z49 (w : Wd) (k : Nat) (h : k ≠ 67) : (wd_49 w).1 k = w.1 k := (sI_row _ _ _ _ h).trans (wd_z48 w k h)
theorem wd_z50 (w : Wd) (k : Nat) (h : k ≠ 67) : (wd_50 w).1 k = w.1 k := (sI_row _ _ _ _ h).trans (wd_z49 w k h)
theorem wd_z51 (w : Wd) (k : Nat) (h : k ≠ 67) : (wd_51 w).1 k = w.1 k := (sI_row _ _ _ _ h).trans (wd_z50 w k h)
theorem wd_z52 (w : Wd) (k : Nat) (h : k ≠ 67) : (wd_52 w).1 k = w.1 k := (sI_row _ _ _ _ h).trans (wd_z51 w k h)
theorem wd_z53 (w : Wd) (k : Nat) (h : k ≠ 67) : (wd_53 w).1 k = w.1 k := (sI_row _ _ _ _ h).trans (wd_z52 w k h)
theorem wd_z54 (w : Wd) (k : Nat) (h : k ≠ 67) : (wd_54 w).1 k = w.1 k := (sI_row _ _ _ _ h).trans (wd_z53 w k h)
theorem wd_z55 (w : Wd) (k : Nat) (h : k ≠ 67) : (wd_55 w).1 k = w.1 k := (sI_row _ _ _ _ h).trans (wd_z54 w k h)
theorem wd_z56 (w : Wd) (k : Nat) (h : k ≠ 67) : (wd_56 w).1 k = w.1 k := (sI_row _ _ _ _ h).trans (wd_z55 w k h)
theorem wd_z57 (w : Wd) (k : Nat) (h : k ≠ 67) : (wd_57 w).1 k = w.1 k := (sI_row _ _ _ _ h).trans (wd_z56 w k h)
theorem wd_z58 (w : Wd) (k : Nat) (h : k ≠ 67) : (wd_58 w).1 k = w.1 k := (sI_row _ _ _ _ h).trans (wd_z57 w k h)
theorem wd_z59 (w : Wd) (k : Nat) (h : k ≠ 67) : (wd_59 w).1 k = w.1 k := (sI_row _ _ _ _ h).trans (wd_z58 w k h)
theorem wd_z60 (w : Wd) (k : Nat) (h : k ≠ 67) : (wd_60 w).1 k = w.1 k := (sI_row _ _ _ _ h).trans (wd_z59 w k h)
theorem wd_z61 (w : Wd) (k : Nat) (h : k ≠ 67) : (wd_61 w).1 k = w.1 k := (sI_row _ _ _ _ h).trans (wd_z60 w k h)
theorem wd_z62 (w : Wd) (k : Nat) (h : k ≠ 67) : (wd_62 w).1 k = w.1 k := (sI_row _ _ _ _ h).trans (wd_z61 w k h)
theorem wd_z63 (w : Wd) (k : Nat) (h : k ≠ 67) : (wd_63 w).1 k = w.1 k := (sI_row _ _ _ _ h).trans (wd_z62 w k h)
theorem wd_z64 (w : Wd) (k : Nat) (h : k ≠ 67) : (wd_64 w).1 k = w.1 k := (sI_row _ _ _ _ h).trans (wd_z63 w k h)
theorem wd_z65 (w : Wd) (k : Nat) (h : k ≠ 67) : (wd_65 w).1 k = w.1 k := (sI_row _ _ _ _ h).trans (wd_z64 w k h)
theorem wd_z66 (w : Wd) (k : Nat) (h : k ≠ 67) : (wd_66 w).1 k = w.1 k := (sI_row _ _ _ _ h).trans (wd_z65 w k h)
theorem wd_z67 (w : Wd) (k : Nat) (h : k ≠ 67) : (wd_67 w).1 k = w.1 k := (sI_row _ _ _ _ h).trans (wd_z66 w k h)
theorem wd_z68 (w : Wd) (k : Nat) (h : k ≠ 67) : (wd_68 w).1 k = w.1 k := (sI_row _ _ _ _ h).trans (wd_z67 w k h)
theorem dX12_init_0 : decode cX12_init 0 = .ok (.aload_n 0, 1) := by decide +kernel
theorem dX12_init_1 : decode cX12_init 1 = .ok (.invokespecial 7, 3) := by decide +kernel
theorem dX12_init_4 : decode cX12_init 4 = .ok (.aload_n 0, 1) := by decide +kernel
theorem dX12_init_5 : decode cX12_init 5 = .ok (.iconst 4, 1) := by decide +kernel
theorem dX12_init_6 : decode cX12_init 6 = .ok (.newarray .int, 2) := by decide +kernel
theorem dX12_init_8 : decode cX12_init 8 = .ok (.putfield 13, 3) := by decide +kernel
theorem dX12_init_11 : decode cX12_init 11 = .ok (.aload_n 0, 1) := by decide +kernel
theorem dX12_init_12 : decode cX12_init 12 = .ok (.iconst 4, 1) := by decide +kernel
theorem dX12_init_13 : decode cX12_init 13 = .ok (.newarray .int, 2) := by decide +kernel
theorem dX12_init_15 : decode cX12_init 15 = .ok (.putfield 17, 3) := by decide +kernel
theorem dX12_init_18 : decode cX12_init 18 = .ok (.aload_n 0, 1) := by decide +kernel
theorem dX12_init_19 : decode cX12_init 19 = .ok (.sipush 256, 3) := by decide +kernel
theorem dX12_init_22 : decode cX12_init 22 = .ok (.newarray .int, 2) := by decide +kernel
theorem dX12_init_24 : decode cX12_init 24 = .ok (.putfield 20, 3) := by decide +kernel
theorem dX12_init_27 : decode cX12_init 27 = .ok (.aload_n 0, 1) := by decide +kernel
theorem dX12_init_28 : decode cX12_init 28 = .ok (.bipush 16, 2) := by decide +kernel
theorem dX12_init_30 : decode cX12_init 30 = .ok (.newarray .int, 2) := by decide +kernel
theorem dX12_init_32 : decode cX12_init 32 = .ok (.putfield 23, 3) := by decide +kernel
theorem dX12_init_35 : decode cX12_init 35 = .ok (.aload_n 0, 1) := by decide +kernel
theorem dX12_init_36 : decode cX12_init 36 = .ok (.ldc 26, 2) := by decide +kernel
theorem dX12_init_38 : decode cX12_init 38 = .ok (.newarray .int, 2) := by decide +kernel
theorem dX12_init_40 : decode cX12_init 40 = .ok (.putfield 27, 3) := by decide +kernel
theorem dX12_init_43 : decode cX12_init 43 = .ok (.aload_n 0, 1) := by decide +kernel
theorem dX12_init_44 : decode cX12_init 44 = .ok (.bipush 16, 2) := by decide +kernel
theorem dX12_init_46 : decode cX12_init 46 = .ok (.newarray .int, 2) := by decide +kernel
theorem dX12_init_48 : decode cX12_init 48 = .ok (.putfield 30, 3) := by decide +kernel
theorem dX12_init_51 : decode cX12_init 51 = .ok (.aload_n 0, 1) := by decide +kernel
theorem dX12_init_52 : decode cX12_init 52 = .ok (.bipush 16, 2) := by decide +kernel
theorem dX12_init_54 : decode cX12_init 54 = .ok (.newarray .int, 2) := by decide +kernel
theorem dX12_init_56 : decode cX12_init 56 = .ok (.putfield 33, 3) := by decide +kernel
theorem dX12_init_59 : decode cX12_init 59 = .ok (.aload_n 0, 1) := by decide +kernel
theorem dX12_init_60 : decode cX12_init 60 = .ok (.bipush 16, 2) := by decide +kernel
theorem dX12_init_62 : decode cX12_init 62 = .ok (.newarray .int, 2) := by decide +kernel
theorem dX12_init_64 : decode cX12_init 64 = .ok (.putfield 36, 3) := by decide +kernel
theorem dX12_init_67 : decode cX12_init 67 = .ok (.aload_n 0, 1) := by decide +kernel
theorem dX12_init_68 : decode cX12_init 68 = .ok (.bipush 16, 2) := by decide +kernel
theorem dX12_init_70 : decode cX12_init 70 = .ok (.newarray .int, 2) := by decide +kernel
theorem dX12_init_72 : decode cX12_init 72 = .ok (.putfield 39, 3) := by decide +kernel
theorem dX12_init_75 : decode cX12_init 75 = .ok (.aload_n 0, 1) := by decide +kernel
theorem dX12_init_76 : decode cX12_init 76 = .ok (.bipush 20, 2) := by decide +kernel
theorem dX12_init_78 : decode cX12_init 78 = .ok (.newarray .int, 2) := by decide +kernel
theorem dX12_init_80 : decode cX12_init 80 = .ok (.putfield 42, 3) := by decide +kernel
theorem dX12_init_83 : decode cX12_init 83 = .ok (.aload_n 0, 1) := by decide +kernel
theorem dX12_init_84 : decode cX12_init 84 = .ok (.sipush 240, 3) := by decide +kernel
theorem dX12_init_87 : decode cX12_init 87 = .ok (.newarray .int, 2) := by decide +kernel
theorem dX12_init_89 : decode cX12_init 89 = .ok (.putfield 45, 3) := by decide +kernel
theorem dX12_init_92 : decode cX12_init 92 = .ok (.aload_n 0, 1) := by decide +kernel
theorem dX12_init_93 : decode cX12_init 93 = .ok (.bipush 16, 2) := by decide +kernel
theorem dX12_init_95 : decode cX12_init 95 = .ok (.newarray .int, 2) := by decide +kernel
theorem dX12_init_97 : decode cX12_init 97 = .ok (.putfield 48, 3) := by decide +kernel
theorem dX12_init_100 : decode cX12_init 100 = .ok (.aload_n 0, 1) := by decide +kernel
theorem dX12_init_101 : decode cX12_init 101 = .ok (.bipush 17, 2) := by decide +kernel
theorem dX12_init_103 : decode cX12_init 103 = .ok (.newarray .int, 2) := by decide +kernel
theorem dX12_init_105 : decode cX12_init 105 = .ok (.putfield 51, 3) := by decide +kernel
theorem dX12_init_108 : decode cX12_init 108 = .ok (.aload_n 0, 1) := by decide +kernel
theorem dX12_init_109 : decode cX12_init 109 = .ok (.bipush 16, 2) := by decide +kernel
theorem dX12_init_111 : decode cX12_init 111 = .ok (.newarray .int, 2) := by decide +kernel
theorem dX12_init_113 : decode cX12_init 113 = .ok (.putfield 54, 3) := by decide +kernel
theorem dX12_init_116 : decode cX12_init 116 = .ok (.aload_n 0, 1) := by decide +kernel
theorem dX12_init_117 : decode cX12_init 117 = .ok (.bipush 16, 2) := by decide +kernel
theorem dX12_init_119 : decode cX12_init 119 = .ok (.newarray .int, 2) := by decide +kernel
theorem dX12_init_121 : decode cX12_init 121 = .ok (.putfield 57, 3) := by decide +kernel
theorem dX12_init_124 : decode cX12_init 124 = .ok (.aload_n 0, 1) := by decide +kernel
theorem dX12_init_125 : decode cX12_init 125 = .ok (.bipush 17, 2) := by decide +kernel
theorem dX12_init_127 : decode cX12_init 127 = .ok (.newarray .int, 2) := by decide +kernel
theorem dX12_init_129 : decode cX12_init 129 = .ok (.putfield 60, 3) := by decide +kernel
theorem dX12_init_132 : decode cX12_init 132 = .ok (.aload_n 0, 1) := by decide +kernel
theorem dX12_init_133 : decode cX12_init 133 = .ok (.bipush 16, 2) := by decide +kernel
theorem dX12_init_135 : decode cX12_init 135 = .ok (.newarray .int, 2) := by decide +kernel
theorem dX12_init_137 : decode cX12_init 137 = .ok (.putfield 63, 3) := by decide +kernel
theorem dX12_init_140 : decode cX12_init 140 = .ok (.aload_n 0, 1) := by decide +kernel
theorem dX12_init_141 : decode cX12_init 141 = .ok (.bipush 16, 2) := by decide +kernel
theorem dX12_init_143 : decode cX12_init 143 = .ok (.newarray .int, 2) := by decide +kernel
theorem dX12_init_145 : decode cX12_init 145 = .ok (.putfield 66, 3) := by decide +kernel
theorem dX12_init_148 : decode cX12_init 148 = .ok (.aload_n 0, 1) := by decide +kernel
theorem dX12_init_149 : decode cX12_init 149 = .ok (.bipush 16, 2) := by decide +kernel
theorem dX12_init_151 : decode cX12_init 151 = .ok (.newarray .int, 2) := by decide +kernel
theorem dX12_init_153 : decode cX12_init 153 = .ok (.putfield 69, 3) := by decide +kernel
theorem dX12_init_156 : decode cX12_init 156 = .ok (.aload_n 0, 1) := by decide +kernel
theorem dX12_init_157 : decode cX12_init 157 = .ok (.ldc 26, 2) := by decide +kernel
theorem dX12_init_159 : decode cX12_init 159 = .ok (.newarray .boolean, 2) := by decide +kernel
theorem dX12_init_161 : decode cX12_init 161 = .ok (.putfield 72, 3) := by decide +kernel
theorem dX12_init_164 : decode cX12_init 164 = .ok (.aload_n 0, 1) := by decide +kernel
theorem dX12_init_165 : decode cX12_init 165 = .ok (.sipush 200, 3) := by decide +kernel
theorem dX12_init_168 : decode cX12_init 168 = .ok (.newarray .int, 2) := by decide +kernel
theorem dX12_init_170 : decode cX12_init 170 = .ok (.putfield 76, 3) := by decide +kernel
theorem dX12_init_173 : decode cX12_init 173 = .ok (.aload_n 0, 1) := by decide +kernel
theorem dX12_init_174 : decode cX12_init 174 = .ok (.sipush 200, 3) := by decide +kernel
theorem dX12_init_177 : decode cX12_init 177 = .ok (.newarray .int, 2) := by decide +kernel
theorem dX12_init_179 : decode cX12_init 179 = .ok (.putfield 79, 3) := by decide +kernel
theorem dX12_init_182 : decode cX12_init 182 = .ok (.aload_n 0, 1) := by decide +kernel
theorem dX12_init_183 : decode cX12_init 183 = .ok (.bipush 68, 2) := by decide +kernel
theorem dX12_init_185 : decode cX12_init 185 = .ok (.newarray .byte, 2) := by decide +kernel
theorem dX12_init_187 : decode cX12_init 187 = .ok (.dup, 1) := by decide +kernel
theorem dX12_init_188 : decode cX12_init 188 = .ok (.iconst 0, 1) := by decide +kernel
theorem dX12_init_189 : decode cX12_init 189 = .ok (.bipush 99, 2) := by decide +kernel
theorem dX12_init_191 : decode cX12_init 191 = .ok (.bastore, 1) := by decide +kernel
theorem dX12_init_192 : decode cX12_init 192 = .ok (.dup, 1) := by decide +kernel
theorem dX12_init_193 : decode cX12_init 193 = .ok (.iconst 1, 1) := by decide +kernel
theorem dX12_init_194 : decode cX12_init 194 = .ok (.bipush 121, 2) := by decide +kernel
theorem dX12_init_196 : decode cX12_init 196 = .ok (.bastore, 1) := by decide +kernel
theorem dX12_init_197 : decode cX12_init 197 = .ok (.dup, 1) := by decide +kernel
theorem dX12_init_198 : decode cX12_init 198 = .ok (.iconst 2, 1) := by decide +kernel
theorem dX12_init_199 : decode cX12_init 199 = .ok (.bipush 99, 2) := by decide +kernel
theorem dX12_init_201 : decode cX12_init 201 = .ok (.bastore, 1) := by decide +kernel
theorem dX12_init_202 : decode cX12_init 202 = .ok (.dup, 1) := by decide +kernel
theorem dX12_init_203 : decode cX12_init 203 = .ok (.iconst 3, 1) := by decide +kernel
theorem dX12_init_204 : decode cX12_init 204 = .ok (.bipush 108, 2) := by decide +kernel
theorem dX12_init_206 : decode cX12_init 206 = .ok (.bastore, 1) := by decide +kernel
theorem dX12_init_207 : decode cX12_init 207 = .ok (.dup, 1) := by decide +kernel
theorem dX12_init_208 : decode cX12_init 208 = .ok (.iconst 4, 1) := by decide +kernel
theorem dX12_init_209 : decode cX12_init 209 = .ok (.bipush 105, 2) := by decide +kernel
theorem dX12_init_211 : decode cX12_init 211 = .ok (.bastore, 1) := by decide +kernel
theorem dX12_init_212 : decode cX12_init 212 = .ok (.dup, 1) := by decide +kernel
theorem dX12_init_213 : decode cX12_init 213 = .ok (.iconst 5, 1) := by decide +kernel
theorem dX12_init_214 : decode cX12_init 214 = .ok (.bipush 99, 2) := by decide +kernel
theorem dX12_init_216 : decode cX12_init 216 = .ok (.bastore, 1) := by decide +kernel
theorem dX12_init_217 : decode cX12_init 217 = .ok (.dup, 1) := by decide +kernel
theorem dX12_init_218 : decode cX12_init 218 = .ok (.bipush 6, 2) := by decide +kernel
theorem dX12_init_220 : decode cX12_init 220 = .ok (.iconst 0, 1) := by decide +kernel
theorem dX12_init_221 : decode cX12_init 221 = .ok (.bastore, 1) := by decide +kernel
theorem dX12_init_222 : decode cX12_init 222 = .ok (.dup, 1) := by decide +kernel
theorem dX12_init_223 : decode cX12_init 223 = .ok (.bipush 7, 2) := by decide +kernel
theorem dX12_init_225 : decode cX12_init 225 = .ok (.bipush 100, 2) := by decide +kernel
theorem dX12_init_227 : decode cX12_init 227 = .ok (.bastore, 1) := by decide +kernel
theorem dX12_init_228 : decode cX12_init 228 = .ok (.dup, 1) := by decide +kernel
theorem dX12_init_229 : decode cX12_init 229 = .ok (.bipush 8, 2) := by decide +kernel
theorem dX12_init_231 : decode cX12_init 231 = .ok (.bipush 105, 2) := by decide +kernel
theorem dX12_init_233 : decode cX12_init 233 = .ok (.bastore, 1) := by decide +kernel
theorem dX12_init_234 : decode cX12_init 234 = .ok (.dup, 1) := by decide +kernel
theorem dX12_init_235 : decode cX12_init 235 = .ok (.bipush 9, 2) := by decide +kernel
theorem dX12_init_237 : decode cX12_init 237 = .ok (.bipush 104, 2) := by decide +kernel
theorem dX12_init_239 : decode cX12_init 239 = .ok (.bastore, 1) := by decide +kernel
theorem dX12_init_240 : decode cX12_init 240 = .ok (.dup, 1) := by decide +kernel
theorem dX12_init_241 : decode cX12_init 241 = .ok (.bipush 10, 2) := by decide +kernel
theorem dX12_init_243 : decode cX12_init 243 = .ok (.bipush 101, 2) := by decide +kernel
theorem dX12_init_245 : decode cX12_init 245 = .ok (.bastore, 1) := by decide +kernel
theorem dX12_init_246 : decode cX12_init 246 = .ok (.dup, 1) := by decide +kernel
theorem dX12_init_247 : decode cX12_init 247 = .ok (.bipush 11, 2) := by decide +kernel
theorem dX12_init_249 : decode cX12_init 249 = .ok (.bipush 100, 2) := by decide +kernel
theorem dX12_init_251 : decode cX12_init 251 = .ok (.bastore, 1) := by decide +kernel
theorem dX12_init_252 : decode cX12_init 252 = .ok (.dup, 1) := by decide +kernel
theorem dX12_init_253 : decode cX12_init 253 = .ok (.bipush 12, 2) := by decide +kernel
theorem dX12_init_255 : decode cX12_init 255 = .ok (.bipush 114, 2) := by decide +kernel
theorem dX12_init_257 : decode cX12_init 257 = .ok (.bastore, 1) := by decide +kernel
theorem dX12_init_258 : decode cX12_init 258 = .ok (.dup, 1) := by decide +kernel
theorem dX12_init_259 : decode cX12_init 259 = .ok (.bipush 13, 2) := by decide +kernel
theorem dX12_init_261 : decode cX12_init 261 = .ok (.bipush 97, 2) := by decide +kernel
theorem dX12_init_263 : decode cX12_init 263 = .ok (.bastore, 1) := by decide +kernel
theorem dX12_init_264 : decode cX12_init 264 = .ok (.dup, 1) := by decide +kernel
theorem dX12_init_265 : decode cX12_init 265 = .ok (.bipush 14, 2) := by decide +kernel
theorem dX12_init_267 : decode cX12_init 267 = .ok (.bipush 108, 2) := by decide +kernel
theorem dX12_init_269 : decode cX12_init 269 = .ok (.bastore, 1) := by decide +kernel
theorem dX12_init_270 : decode cX12_init 270 = .ok (.dup, 1) := by decide +kernel
theorem dX12_init_271 : decode cX12_init 271 = .ok (.bipush 15, 2) := by decide +kernel
theorem dX12_init_273 : decode cX12_init 273 = .ok (.iconst 0, 1) := by decide +kernel
theorem dX12_init_274 : decode cX12_init 274 = .ok (.bastore, 1) := by decide +kernel
theorem dX12_init_275 : decode cX12_init 275 = .ok (.dup, 1) := by decide +kernel
theorem dX12_init_276 : decode cX12_init 276 = .ok (.bipush 16, 2) := by decide +kernel
theorem dX12_init_278 : decode cX12_init 278 = .ok (.bipush 113, 2) := by decide +kernel
theorem dX12_init_280 : decode cX12_init 280 = .ok (.bastore, 1) := by decide +kernel
theorem dX12_init_281 : decode cX12_init 281 = .ok (.dup, 1) := by decide +kernel
theorem dX12_init_282 : decode cX12_init 282 = .ok (.bipush 17, 2) := by decide +kernel
theorem dX12_init_284 : decode cX12_init 284 = .ok (.bipush 117, 2) := by decide +kernel
theorem dX12_init_286 : decode cX12_init 286 = .ok (.bastore, 1) := by decide +kernel
theorem dX12_init_287 : decode cX12_init 287 = .ok (.dup, 1) := by decide +kernel
theorem dX12_init_288 : decode cX12_init 288 = .ok (.bipush 18, 2) := by decide +kernel
theorem dX12_init_290 : decode cX12_init 290 = .ok (.bipush 97, 2) := by decide +kernel
theorem dX12_init_292 : decode cX12_init 292 = .ok (.bastore, 1) := by decide +kernel
theorem dX12_init_293 : decode cX12_init 293 = .ok (.dup, 1) := by decide +kernel
theorem dX12_init_294 : decode cX12_init 294 = .ok (.bipush 19, 2) := by decide +kernel
theorem dX12_init_296 : decode cX12_init 296 = .ok (.bipush 116, 2) := by decide +kernel
theorem dX12_init_298 : decode cX12_init 298 = .ok (.bastore, 1) := by decide +kernel
theorem dX12_init_299 : decode cX12_init 299 = .ok (.dup, 1) := by decide +kernel
theorem dX12_init_300 : decode cX12_init 300 = .ok (.bipush 20, 2) := by decide +kernel
theorem dX12_init_302 : decode cX12_init 302 = .ok (.bipush 101, 2) := by decide +kernel
theorem dX12_init_304 : decode cX12_init 304 = .ok (.bastore, 1) := by decide +kernel
theorem dX12_init_305 : decode cX12_init 305 = .ok (.dup, 1) := by decide +kernel
theorem dX12_init_306 : decode cX12_init 306 = .ok (.bipush 21, 2) := by decide +kernel
theorem dX12_init_308 : decode cX12_init 308 = .ok (.bipush 114, 2) := by decide +kernel
theorem dX12_init_310 : decode cX12_init 310 = .ok (.bastore, 1) := by decide +kernel
theorem dX12_init_311 : decode cX12_init 311 = .ok (.dup, 1) := by decide +kernel
theorem dX12_init_312 : decode cX12_init 312 = .ok (.bipush 22, 2) := by decide +kernel
theorem dX12_init_314 : decode cX12_init 314 = .ok (.bipush 110, 2) := by decide +kernel
theorem dX12_init_316 : decode cX12_init 316 = .ok (.bastore, 1) := by decide +kernel
theorem dX12_init_317 : decode cX12_init 317 = .ok (.dup, 1) := by decide +kernel
theorem dX12_init_318 : decode cX12_init 318 = .ok (.bipush 23, 2) := by decide +kernel
theorem dX12_init_320 : decode cX12_init 320 = .ok (.bipush 105, 2) := by decide +kernel
theorem dX12_init_322 : decode cX12_init 322 = .ok (.bastore, 1) := by decide +kernel
theorem dX12_init_323 : decode cX12_init 323 = .ok (.dup, 1) := by decide +kernel
theorem dX12_init_324 : decode cX12_init 324 = .ok (.bipush 24, 2) := by decide +kernel
theorem dX12_init_326 : decode cX12_init 326 = .ok (.bipush 111, 2) := by decide +kernel
theorem dX12_init_328 : decode cX12_init 328 = .ok (.bastore, 1) := by decide +kernel
theorem dX12_init_329 : decode cX12_init 329 = .ok (.dup, 1) := by decide +kernel
theorem dX12_init_330 : decode cX12_init 330 = .ok (.bipush 25, 2) := by decide +kernel
theorem dX12_init_332 : decode cX12_init 332 = .ok (.bipush 110, 2) := by decide +kernel
theorem dX12_init_334 : decode cX12_init 334 = .ok (.bastore, 1) := by decide +kernel
theorem dX12_init_335 : decode cX12_init 335 = .ok (.dup, 1) := by decide +kernel
theorem dX12_init_336 : decode cX12_init 336 = .ok (.bipush 26, 2) := by decide +kernel
theorem dX12_init_338 : decode cX12_init 338 = .ok (.iconst 0, 1) := by decide +kernel
theorem dX12_init_339 : decode cX12_init 339 = .ok (.bastore, 1) := by decide +kernel
theorem dX12_init_340 : decode cX12_init 340 = .ok (.dup, 1) := by decide +kernel
theorem dX12_init_341 : decode cX12_init 341 = .ok (.bipush 27, 2) := by decide +kernel
theorem dX12_init_343 : decode cX12_init 343 = .ok (.bipush 115, 2) := by decide +kernel
theorem dX12_init_345 : decode cX12_init 345 = .ok (.bastore, 1) := by decide +kernel
theorem dX12_init_346 : decode cX12_init 346 = .ok (.dup, 1) := by decide +kernel
theorem dX12_init_347 : decode cX12_init 347 = .ok (.bipush 28, 2) := by decide +kernel
theorem dX12_init_349 : decode cX12_init 349 = .ok (.bipush 101, 2) := by decide +kernel
theorem dX12_init_351 : decode cX12_init 351 = .ok (.bastore, 1) := by decide +kernel
theorem dX12_init_352 : decode cX12_init 352 = .ok (.dup, 1) := by decide +kernel
theorem dX12_init_353 : decode cX12_init 353 = .ok (.bipush 29, 2) := by decide +kernel
theorem dX12_init_355 : decode cX12_init 355 = .ok (.bipush 116, 2) := by decide +kernel
theorem dX12_init_357 : decode cX12_init 357 = .ok (.bastore, 1) := by decide +kernel
theorem dX12_init_358 : decode cX12_init 358 = .ok (.dup, 1) := by decide +kernel
theorem dX12_init_359 : decode cX12_init 359 = .ok (.bipush 30, 2) := by decide +kernel
theorem dX12_init_361 : decode cX12_init 361 = .ok (.iconst 0, 1) := by decide +kernel
theorem dX12_init_362 : decode cX12_init 362 = .ok (.bastore, 1) := by decide +kernel
theorem dX12_init_363 : decode cX12_init 363 = .ok (.dup, 1) := by decide +kernel
theorem dX12_init_364 : decode cX12_init 364 = .ok (.bipush 31, 2) := by decide +kernel
theorem dX12_init_366 : decode cX12_init 366 = .ok (.bipush 115, 2) := by decide +kernel
theorem dX12_init_368 : decode cX12_init 368 = .ok (.bastore, 1) := by decide +kernel
theorem dX12_init_369 : decode cX12_init 369 = .ok (.dup, 1) := by decide +kernel
theorem dX12_init_370 : decode cX12_init 370 = .ok (.bipush 32, 2) := by decide +kernel
theorem dX12_init_372 : decode cX12_init 372 = .ok (.bipush 105, 2) := by decide +kernel
theorem dX12_init_374 : decode cX12_init 374 = .ok (.bastore, 1) := by decide +kernel
theorem dX12_init_375 : decode cX12_init 375 = .ok (.dup, 1) := by decide +kernel
theorem dX12_init_376 : decode cX12_init 376 = .ok (.bipush 33, 2) := by decide +kernel
theorem dX12_init_378 : decode cX12_init 378 = .ok (.bipush 122, 2) := by decide +kernel
theorem dX12_init_380 : decode cX12_init 380 = .ok (.bastore, 1) := by decide +kernel
theorem dX12_init_381 : decode cX12_init 381 = .ok (.dup, 1) := by decide +kernel
theorem dX12_init_382 : decode cX12_init 382 = .ok (.bipush 34, 2) := by decide +kernel
theorem dX12_init_384 : decode cX12_init 384 = .ok (.bipush 101, 2) := by decide +kernel
theorem dX12_init_386 : decode cX12_init 386 = .ok (.bastore, 1) := by decide +kernel
theorem dX12_init_387 : decode cX12_init 387 = .ok (.dup, 1) := by decide +kernel
theorem dX12_init_388 : decode cX12_init 388 = .ok (.bipush 35, 2) := by decide +kernel
theorem dX12_init_390 : decode cX12_init 390 = .ok (.iconst 0, 1) := by decide +kernel
theorem dX12_init_391 : decode cX12_init 391 = .ok (.bastore, 1) := by decide +kernel
theorem dX12_init_392 : decode cX12_init 392 = .ok (.dup, 1) := by decide +kernel
theorem dX12_init_393 : decode cX12_init 393 = .ok (.bipush 36, 2) := by decide +kernel
theorem dX12_init_395 : decode cX12_init 395 = .ok (.bipush 116, 2) := by decide +kernel
theorem dX12_init_397 : decode cX12_init 397 = .ok (.bastore, 1) := by decide +kernel
theorem dX12_init_398 : decode cX12_init 398 = .ok (.dup, 1) := by decide +kernel
theorem dX12_init_399 : decode cX12_init 399 = .ok (.bipush 37, 2) := by decide +kernel
theorem dX12_init_401 : decode cX12_init 401 = .ok (.bipush 114, 2) := by decide +kernel
theorem dX12_init_403 : decode cX12_init 403 = .ok (.bastore, 1) := by decide +kernel
theorem dX12_init_404 : decode cX12_init 404 = .ok (.dup, 1) := by decide +kernel
theorem dX12_init_405 : decode cX12_init 405 = .ok (.bipush 38, 2) := by decide +kernel
theorem dX12_init_407 : decode cX12_init 407 = .ok (.bipush 105, 2) := by decide +kernel
theorem dX12_init_409 : decode cX12_init 409 = .ok (.bastore, 1) := by decide +kernel
theorem dX12_init_410 : decode cX12_init 410 = .ok (.dup, 1) := by decide +kernel
theorem dX12_init_411 : decode cX12_init 411 = .ok (.bipush 39, 2) := by decide +kernel
theorem dX12_init_413 : decode cX12_init 413 = .ok (.bipush 112, 2) := by decide +kernel
theorem dX12_init_415 : decode cX12_init 415 = .ok (.bastore, 1) := by decide +kernel
theorem dX12_init_416 : decode cX12_init 416 = .ok (.dup, 1) := by decide +kernel
theorem dX12_init_417 : decode cX12_init 417 = .ok (.bipush 40, 2) := by decide +kernel
theorem dX12_init_419 : decode cX12_init 419 = .ok (.bipush 108, 2) := by decide +kernel
theorem dX12_init_421 : decode cX12_init 421 = .ok (.bastore, 1) := by decide +kernel
theorem dX12_init_422 : decode cX12_init 422 = .ok (.dup, 1) := by decide +kernel
theorem dX12_init_423 : decode cX12_init 423 = .ok (.bipush 41, 2) := by decide +kernel
theorem dX12_init_425 : decode cX12_init 425 = .ok (.bipush 101, 2) := by decide +kernel
theorem dX12_init_427 : decode cX12_init 427 = .ok (.bastore, 1) := by decide +kernel
theorem dX12_init_428 : decode cX12_init 428 = .ok (.dup, 1) := by decide +kernel
theorem dX12_init_429 : decode cX12_init 429 = .ok (.bipush 42, 2) := by decide +kernel
theorem dX12_init_431 : decode cX12_init 431 = .ok (.bipush 115, 2) := by decide +kernel
theorem dX12_init_433 : decode cX12_init 433 = .ok (.bastore, 1) := by decide +kernel
theorem dX12_init_434 : decode cX12_init 434 = .ok (.dup, 1) := by decide +kernel
theorem dX12_init_435 : decode cX12_init 435 = .ok (.bipush 43, 2) := by decide +kernel
theorem dX12_init_437 : decode cX12_init 437 = .ok (.iconst 0, 1) := by decide +kernel
theorem dX12_init_438 : decode cX12_init 438 = .ok (.bastore, 1) := by decide +kernel
theorem dX12_init_439 : decode cX12_init 439 = .ok (.dup, 1) := by decide +kernel
theorem dX12_init_440 : decode cX12_init 440 = .ok (.bipush 44, 2) := by decide +kernel
theorem dX12_init_442 : decode cX12_init 442 = .ok (.bipush 102, 2) := by decide +kernel
theorem dX12_init_444 : decode cX12_init 444 = .ok (.bastore, 1) := by decide +kernel
theorem dX12_init_445 : decode cX12_init 445 = .ok (.dup, 1) := by decide +kernel
theorem dX12_init_446 : decode cX12_init 446 = .ok (.bipush 45, 2) := by decide +kernel
theorem dX12_init_448 : decode cX12_init 448 = .ok (.bipush 114, 2) := by decide +kernel
theorem dX12_init_450 : decode cX12_init 450 = .ok (.bastore, 1) := by decide +kernel
theorem dX12_init_451 : decode cX12_init 451 = .ok (.dup, 1) := by decide +kernel
theorem dX12_init_452 : decode cX12_init 452 = .ok (.bipush 46, 2) := by decide +kernel
theorem dX12_init_454 : decode cX12_init 454 = .ok (.bipush 101, 2) := by decide +kernel
theorem dX12_init_456 : decode cX12_init 456 = .ok (.bastore, 1) := by decide +kernel
theorem dX12_init_457 : decode cX12_init 457 = .ok (.dup, 1) := by decide +kernel
theorem dX12_init_458 : decode cX12_init 458 = .ok (.bipush 47, 2) := by decide +kernel
theorem dX12_init_460 : decode cX12_init 460 = .ok (.bipush 101, 2) := by decide +kernel
theorem dX12_init_462 : decode cX12_init 462 = .ok (.bastore, 1) := by decide +kernel
theorem dX12_init_463 : decode cX12_init 463 = .ok (.dup, 1) := by decide +kernel
theorem dX12_init_464 : decode cX12_init 464 = .ok (.bipush 48, 2) := by decide +kernel
theorem dX12_init_466 : decode cX12_init 466 = .ok (.iconst 0, 1) := by decide +kernel
theorem dX12_init_467 : decode cX12_init 467 = .ok (.bastore, 1) := by decide +kernel
theorem dX12_init_468 : decode cX12_init 468 = .ok (.dup, 1) := by decide +kernel
theorem dX12_init_469 : decode cX12_init 469 = .ok (.bipush 49, 2) := by decide +kernel
theorem dX12_init_471 : decode cX12_init 471 = .ok (.bipush 102, 2) := by decide +kernel
theorem dX12_init_473 : decode cX12_init 473 = .ok (.bastore, 1) := by decide +kernel
theorem dX12_init_474 : decode cX12_init 474 = .ok (.dup, 1) := by decide +kernel
theorem dX12_init_475 : decode cX12_init 475 = .ok (.bipush 50, 2) := by decide +kernel
theorem dX12_init_477 : decode cX12_init 477 = .ok (.bipush 117, 2) := by decide +kernel
theorem dX12_init_479 : decode cX12_init 479 = .ok (.bastore, 1) := by decide +kernel
theorem dX12_init_480 : decode cX12_init 480 = .ok (.dup, 1) := by decide +kernel
theorem dX12_init_481 : decode cX12_init 481 = .ok (.bipush 51, 2) := by decide +kernel
theorem dX12_init_483 : decode cX12_init 483 = .ok (.bipush 108, 2) := by decide +kernel
theorem dX12_init_485 : decode cX12_init 485 = .ok (.bastore, 1) := by decide +kernel
theorem dX12_init_486 : decode cX12_init 486 = .ok (.dup, 1) := by decide +kernel
theorem dX12_init_487 : decode cX12_init 487 = .ok (.bipush 52, 2) := by decide +kernel
theorem dX12_init_489 : decode cX12_init 489 = .ok (.bipush 108, 2) := by decide +kernel
theorem dX12_init_491 : decode cX12_init 491 = .ok (.bastore, 1) := by decide +kernel
theorem dX12_init_492 : decode cX12_init 492 = .ok (.dup, 1) := by decide +kernel
theorem dX12_init_493 : decode cX12_init 493 = .ok (.bipush 53, 2) := by decide +kernel
theorem dX12_init_495 : decode cX12_init 495 = .ok (.iconst 0, 1) := by decide +kernel
theorem dX12_init_496 : decode cX12_init 496 = .ok (.bastore, 1) := by decide +kernel
theorem dX12_init_497 : decode cX12_init 497 = .ok (.dup, 1) := by decide +kernel
theorem dX12_init_498 : decode cX12_init 498 = .ok (.bipush 54, 2) := by decide +kernel
theorem dX12_init_500 : decode cX12_init 500 = .ok (.bipush 111, 2) := by decide +kernel
theorem dX12_init_502 : decode cX12_init 502 = .ok (.bastore, 1) := by decide +kernel
theorem dX12_init_503 : decode cX12_init 503 = .ok (.dup, 1) := by decide +kernel
theorem dX12_init_504 : decode cX12_init 504 = .ok (.bipush 55, 2) := by decide +kernel
theorem dX12_init_506 : decode cX12_init 506 = .ok (.bipush 112, 2) := by decide +kernel
theorem dX12_init_508 : decode cX12_init 508 = .ok (.bastore, 1) := by decide +kernel
theorem dX12_init_509 : decode cX12_init 509 = .ok (.dup, 1) := by decide +kernel
theorem dX12_init_510 : decode cX12_init 510 = .ok (.bipush 56, 2) := by decide +kernel
theorem dX12_init_512 : decode cX12_init 512 = .ok (.bipush 101, 2) := by decide +kernel
theorem dX12_init_514 : decode cX12_init 514 = .ok (.bastore, 1) := by decide +kernel
theorem dX12_init_515 : decode cX12_init 515 = .ok (.dup, 1) := by decide +kernel
theorem dX12_init_516 : decode cX12_init 516 = .ok (.bipush 57, 2) := by decide +kernel
theorem dX12_init_518 : decode cX12_init 518 = .ok (.bipush 110, 2) := by decide +kernel
theorem dX12_init_520 : decode cX12_init 520 = .ok (.bastore, 1) := by decide +kernel
theorem dX12_init_521 : decode cX12_init 521 = .ok (.dup, 1) := by decide +kernel
theorem dX12_init_522 : decode cX12_init 522 = .ok (.bipush 58, 2) := by decide +kernel
theorem dX12_init_524 : decode cX12_init 524 = .ok (.iconst 0, 1) := by decide +kernel
theorem dX12_init_525 : decode cX12_init 525 = .ok (.bastore, 1) := by decide +kernel
theorem dX12_init_526 : decode cX12_init 526 = .ok (.dup, 1) := by decide +kernel
theorem dX12_init_527 : decode cX12_init 527 = .ok (.bipush 59, 2) := by decide +kernel
theorem dX12_init_529 : decode cX12_init 529 = .ok (.bipush 99, 2) := by decide +kernel
theorem dX12_init_531 : decode cX12_init 531 = .ok (.bastore, 1) := by decide +kernel
theorem dX12_init_532 : decode cX12_init 532 = .ok (.dup, 1) := by decide +kernel
theorem dX12_init_533 : decode cX12_init 533 = .ok (.bipush 60, 2) := by decide +kernel
theorem dX12_init_535 : decode cX12_init 535 = .ok (.bipush 111, 2) := by decide +kernel
theorem dX12_init_537 : decode cX12_init 537 = .ok (.bastore, 1) := by decide +kernel
theorem dX12_init_538 : decode cX12_init 538 = .ok (.dup, 1) := by decide +kernel
theorem dX12_init_539 : decode cX12_init 539 = .ok (.bipush 61, 2) := by decide +kernel
theorem dX12_init_541 : decode cX12_init 541 = .ok (.bipush 109, 2) := by decide +kernel
theorem dX12_init_543 : decode cX12_init 543 = .ok (.bastore, 1) := by decide +kernel
theorem dX12_init_544 : decode cX12_init 544 = .ok (.dup, 1) := by decide +kernel
theorem dX12_init_545 : decode cX12_init 545 = .ok (.bipush 62, 2) := by decide +kernel
theorem dX12_init_547 : decode cX12_init 547 = .ok (.bipush 112, 2) := by decide +kernel
theorem dX12_init_549 : decode cX12_init 549 = .ok (.bastore, 1) := by decide +kernel
theorem dX12_init_550 : decode cX12_init 550 = .ok (.dup, 1) := by decide +kernel
theorem dX12_init_551 : decode cX12_init 551 = .ok (.bipush 63, 2) := by decide +kernel
theorem dX12_init_553 : decode cX12_init 553 = .ok (.bipush 108, 2) := by decide +kernel
theorem dX12_init_555 : decode cX12_init 555 = .ok (.bastore, 1) := by decide +kernel
theorem dX12_init_556 : decode cX12_init 556 = .ok (.dup, 1) := by decide +kernel
theorem dX12_init_557 : decode cX12_init 557 = .ok (.bipush 64, 2) := by decide +kernel
theorem dX12_init_559 : decode cX12_init 559 = .ok (.bipush 101, 2) := by decide +kernel
theorem dX12_init_561 : decode cX12_init 561 = .ok (.bastore, 1) := by decide +kernel
theorem dX12_init_562 : decode cX12_init 562 = .ok (.dup, 1) := by decide +kernel
theorem dX12_init_563 : decode cX12_init 563 = .ok (.bipush 65, 2) := by decide +kernel
theorem dX12_init_565 : decode cX12_init 565 = .ok (.bipush 116, 2) := by decide +kernel
theorem dX12_init_567 : decode cX12_init 567 = .ok (.bastore, 1) := by decide +kernel
theorem dX12_init_568 : decode cX12_init 568 = .ok (.dup, 1) := by decide +kernel
theorem dX12_init_569 : decode cX12_init 569 = .ok (.bipush 66, 2) := by decide +kernel
theorem dX12_init_571 : decode cX12_init 571 = .ok (.bipush 101, 2) := by decide +kernel
theorem dX12_init_573 : decode cX12_init 573 = .ok (.bastore, 1) := by decide +kernel
theorem dX12_init_574 : decode cX12_init 574 = .ok (.dup, 1) := by decide +kernel
theorem dX12_init_575 : decode cX12_init 575 = .ok (.bipush 67, 2) := by decide +kernel
theorem dX12_init_577 : decode cX12_init 577 = .ok (.iconst 0, 1) := by decide +kernel
theorem dX12_init_578 : decode cX12_init 578 = .ok (.bastore, 1) := by decide +kernel
theorem dX12_init_579 : decode cX12_init 579 = .ok (.putfield 82, 3) := by decide +kernel
theorem dX12_init_582 : decode cX12_init 582 = .ok (.aload_n 0, 1) := by decide +kernel
theorem dX12_init_583 : decode cX12_init 583 = .ok (.iconst 4, 1) := by decide +kernel
theorem dX12_init_584 : decode cX12_init 584 = .ok (.newarray .int, 2) := by decide +kernel
theorem dX12_init_586 : decode cX12_init 586 = .ok (.putfield 86, 3) := by decide +kernel
theorem dX12_init_589 : decode cX12_init 589 = .ok (.aload_n 0, 1) := by decide +kernel
theorem dX12_init_590 : decode cX12_init 590 = .ok (.iconst 4, 1) := by decide +kernel
theorem dX12_init_591 : decode cX12_init 591 = .ok (.newarray .int, 2) := by decide +kernel
theorem dX12_init_593 : decode cX12_init 593 = .ok (.putfield 89, 3) := by decide +kernel
theorem dX12_init_596 : decode cX12_init 596 = .ok (.aload_n 0, 1) := by decide +kernel
theorem dX12_init_597 : decode cX12_init 597 = .ok (.iconst 1, 1) := by decide +kernel
theorem dX12_init_598 : decode cX12_init 598 = .ok (.putfield 92, 3) := by decide +kernel
theorem dX12_init_601 : decode cX12_init 601 = .ok (.aload_n 0, 1) := by decide +kernel
theorem dX12_init_602 : decode cX12_init 602 = .ok (.invokevirtual 95, 3) := by decide +kernel
theorem dX12_init_605 : decode cX12_init 605 = .ok (.aload_n 0, 1) := by decide +kernel
theorem dX12_init_606 : decode cX12_init 606 = .ok (.iconst 0, 1) := by decide +kernel
theorem dX12_init_607 : decode cX12_init 607 = .ok (.invokevirtual 98, 3) := by decide +kernel
theorem dX12_init_610 : decode cX12_init 610 = .ok (.return_, 1) := by decide +kernel
set_option maxHeartbeats 4000000 in
set_option maxRecDepth 100000 in
theorem okI_X12 {G : GT} (w w1 w2 : Wd) (hz : ∀ k, 44 ≤ k → ∀ j, w.1 k j = 0) (hr : f_X12_laysGroup (sI (wd_68 w) 44 1 1) = some w1) (hr2 : f_X12_startsRow 0 w1 = some w2) : vC G yX12_init mX12_init { frames := 40, cells := 25, slots := 132282, locals := 2560 } 25 132282 45 (rT (refT.take 55)) [.ref 44] w (none, 70, r0, w2) := by
  refine vC_of 0 pn_X12 ⟨rfl, rfl⟩ (Nat.le_of_ble_eq_true rfl) (Nat.le_of_ble_eq_true rfl) ?_
  refine V.weak (lv' := [some (.ref 44)]) (And.intro rfl trivial) ?_
  refine V.aload_n (pc := 0) dX12_init_0 rfl ?_
  refine V.objInit (pc := 1) dX12_init_1 oi_X12_44 big_oi big_oc (Nat.le_of_ble_eq_true rfl) (Nat.le_of_ble_eq_true rfl) ?_
  refine V.aload_n (pc := 4) dX12_init_4 rfl ?_
  refine V.iconst (pc := 5) dX12_init_5 ic_4 ?_
  refine V.newa (a := 1) (pc := 6) dX12_init_6 rfl (Or.inl rfl) ly_45 (by decide) (by decide) (by decide +kernel) (by decide) big_ac_int (fun j => by exact hz 45 (by decide) j) (Nat.le_of_ble_eq_true rfl) (Nat.le_of_ble_eq_true rfl) ?_
  refine V.putR (l0 := refT.take 55) (pc := 8) dX12_init_8 f_RX12_13 k_cl12 (by decide) ly_44 rb_12_3 (by decide +kernel) rfl (fin_R (T0 := TX12) (ty := .array .int) rfl rfl rfl (by decide +kernel) (fun _ => ⟨rfl, rfl⟩)) ?_
  rw [show refT.take 55 ++ [(44, 3, 45)] = refT.take 56 from rfl]
  refine V.aload_n (pc := 11) dX12_init_11 rfl ?_
  refine V.iconst (pc := 12) dX12_init_12 ic_4 ?_
  refine V.newa (a := 1) (pc := 13) dX12_init_13 rfl (Or.inl rfl) ly_46 (by decide) (by decide) (by decide +kernel) (by decide) big_ac_int (fun j => by exact hz 46 (by decide) j) (Nat.le_of_ble_eq_true rfl) (Nat.le_of_ble_eq_true rfl) ?_
  refine V.putR (l0 := refT.take 56) (pc := 15) dX12_init_15 f_RX12_17 k_cl12 (by decide) ly_44 rb_12_4 (by decide +kernel) rfl (fin_R (T0 := TX12) (ty := .array .int) rfl rfl rfl (by decide +kernel) (fun _ => ⟨rfl, rfl⟩)) ?_
  rw [show refT.take 56 ++ [(44, 4, 46)] = refT.take 57 from rfl]
  refine V.aload_n (pc := 18) dX12_init_18 rfl ?_
  refine V.sipush (pc := 19) dX12_init_19 sp_256 ?_
  refine V.newa (a := 1) (pc := 22) dX12_init_22 rfl (Or.inl rfl) ly_47 (by decide) (by decide) (by decide +kernel) (by decide) big_ac_int (fun j => by exact hz 47 (by decide) j) (Nat.le_of_ble_eq_true rfl) (Nat.le_of_ble_eq_true rfl) ?_
  refine V.putR (l0 := refT.take 57) (pc := 24) dX12_init_24 f_RX12_20 k_cl12 (by decide) ly_44 rb_12_5 (by decide +kernel) rfl (fin_R (T0 := TX12) (ty := .array .int) rfl rfl rfl (by decide +kernel) (fun _ => ⟨rfl, rfl⟩)) ?_
  rw [show refT.take 57 ++ [(44, 5, 47)] = refT.take 58 from rfl]
  refine V.aload_n (pc := 27) dX12_init_27 rfl ?_
  refine V.bipush (pc := 28) dX12_init_28 bp_16 ?_
  refine V.newa (a := 1) (pc := 30) dX12_init_30 rfl (Or.inl rfl) ly_48 (by decide) (by decide) (by decide +kernel) (by decide) big_ac_int (fun j => by exact hz 48 (by decide) j) (Nat.le_of_ble_eq_true rfl) (Nat.le_of_ble_eq_true rfl) ?_
  refine V.putR (l0 := refT.take 58) (pc := 32) dX12_init_32 f_RX12_23 k_cl12 (by decide) ly_44 rb_12_6 (by decide +kernel) rfl (fin_R (T0 := TX12) (ty := .array .int) rfl rfl rfl (by decide +kernel) (fun _ => ⟨rfl, rfl⟩)) ?_
  rw [show refT.take 58 ++ [(44, 6, 48)] = refT.take 59 from rfl]
  refine V.aload_n (pc := 35) dX12_init_35 rfl ?_
  refine V.ldc (pc := 36) dX12_init_36 c_RX12_26 ?_
  refine V.newa (a := 1) (pc := 38) dX12_init_38 rfl (Or.inl rfl) ly_49 (by decide) (by decide) (by decide +kernel) (by decide) big_ac_int (fun j => by exact hz 49 (by decide) j) (Nat.le_of_ble_eq_true rfl) (Nat.le_of_ble_eq_true rfl) ?_
  refine V.putR (l0 := refT.take 59) (pc := 40) dX12_init_40 f_RX12_27 k_cl12 (by decide) ly_44 rb_12_7 (by decide +kernel) rfl (fin_R (T0 := TX12) (ty := .array .int) rfl rfl rfl (by decide +kernel) (fun _ => ⟨rfl, rfl⟩)) ?_
  rw [show refT.take 59 ++ [(44, 7, 49)] = refT.take 60 from rfl]
  refine V.aload_n (pc := 43) dX12_init_43 rfl ?_
  refine V.bipush (pc := 44) dX12_init_44 bp_16 ?_
  refine V.newa (a := 1) (pc := 46) dX12_init_46 rfl (Or.inl rfl) ly_50 (by decide) (by decide) (by decide +kernel) (by decide) big_ac_int (fun j => by exact hz 50 (by decide) j) (Nat.le_of_ble_eq_true rfl) (Nat.le_of_ble_eq_true rfl) ?_
  refine V.putR (l0 := refT.take 60) (pc := 48) dX12_init_48 f_RX12_30 k_cl12 (by decide) ly_44 rb_12_8 (by decide +kernel) rfl (fin_R (T0 := TX12) (ty := .array .int) rfl rfl rfl (by decide +kernel) (fun _ => ⟨rfl, rfl⟩)) ?_
  rw [show refT.take 60 ++ [(44, 8, 50)] = refT.take 61 from rfl]
  refine V.aload_n (pc := 51) dX12_init_51 rfl ?_
  refine V.bipush (pc := 52) dX12_init_52 bp_16 ?_
  refine V.newa (a := 1) (pc := 54) dX12_init_54 rfl (Or.inl rfl) ly_51 (by decide) (by decide) (by decide +kernel) (by decide) big_ac_int (fun j => by exact hz 51 (by decide) j) (Nat.le_of_ble_eq_true rfl) (Nat.le_of_ble_eq_true rfl) ?_
  refine V.putR (l0 := refT.take 61) (pc := 56) dX12_init_56 f_RX12_33 k_cl12 (by decide) ly_44 rb_12_10 (by decide +kernel) rfl (fin_R (T0 := TX12) (ty := .array .int) rfl rfl rfl (by decide +kernel) (fun _ => ⟨rfl, rfl⟩)) ?_
  rw [show refT.take 61 ++ [(44, 10, 51)] = refT.take 62 from rfl]
  refine V.aload_n (pc := 59) dX12_init_59 rfl ?_
  refine V.bipush (pc := 60) dX12_init_60 bp_16 ?_
  refine V.newa (a := 1) (pc := 62) dX12_init_62 rfl (Or.inl rfl) ly_52 (by decide) (by decide) (by decide +kernel) (by decide) big_ac_int (fun j => by exact hz 52 (by decide) j) (Nat.le_of_ble_eq_true rfl) (Nat.le_of_ble_eq_true rfl) ?_
  refine V.putR (l0 := refT.take 62) (pc := 64) dX12_init_64 f_RX12_36 k_cl12 (by decide) ly_44 rb_12_11 (by decide +kernel) rfl (fin_R (T0 := TX12) (ty := .array .int) rfl rfl rfl (by decide +kernel) (fun _ => ⟨rfl, rfl⟩)) ?_
  rw [show refT.take 62 ++ [(44, 11, 52)] = refT.take 63 from rfl]
  refine V.aload_n (pc := 67) dX12_init_67 rfl ?_
  refine V.bipush (pc := 68) dX12_init_68 bp_16 ?_
  refine V.newa (a := 1) (pc := 70) dX12_init_70 rfl (Or.inl rfl) ly_53 (by decide) (by decide) (by decide +kernel) (by decide) big_ac_int (fun j => by exact hz 53 (by decide) j) (Nat.le_of_ble_eq_true rfl) (Nat.le_of_ble_eq_true rfl) ?_
  refine V.putR (l0 := refT.take 63) (pc := 72) dX12_init_72 f_RX12_39 k_cl12 (by decide) ly_44 rb_12_12 (by decide +kernel) rfl (fin_R (T0 := TX12) (ty := .array .int) rfl rfl rfl (by decide +kernel) (fun _ => ⟨rfl, rfl⟩)) ?_
  rw [show refT.take 63 ++ [(44, 12, 53)] = refT.take 64 from rfl]
  refine V.aload_n (pc := 75) dX12_init_75 rfl ?_
  refine V.bipush (pc := 76) dX12_init_76 bp_20 ?_
  refine V.newa (a := 1) (pc := 78) dX12_init_78 rfl (Or.inl rfl) ly_54 (by decide) (by decide) (by decide +kernel) (by decide) big_ac_int (fun j => by exact hz 54 (by decide) j) (Nat.le_of_ble_eq_true rfl) (Nat.le_of_ble_eq_true rfl) ?_
  refine V.putR (l0 := refT.take 64) (pc := 80) dX12_init_80 f_RX12_42 k_cl12 (by decide) ly_44 rb_12_13 (by decide +kernel) rfl (fin_R (T0 := TX12) (ty := .array .int) rfl rfl rfl (by decide +kernel) (fun _ => ⟨rfl, rfl⟩)) ?_
  rw [show refT.take 64 ++ [(44, 13, 54)] = refT.take 65 from rfl]
  refine V.aload_n (pc := 83) dX12_init_83 rfl ?_
  refine V.sipush (pc := 84) dX12_init_84 sp_240 ?_
  refine V.newa (a := 1) (pc := 87) dX12_init_87 rfl (Or.inl rfl) ly_55 (by decide) (by decide) (by decide +kernel) (by decide) big_ac_int (fun j => by exact hz 55 (by decide) j) (Nat.le_of_ble_eq_true rfl) (Nat.le_of_ble_eq_true rfl) ?_
  refine V.putR (l0 := refT.take 65) (pc := 89) dX12_init_89 f_RX12_45 k_cl12 (by decide) ly_44 rb_12_14 (by decide +kernel) rfl (fin_R (T0 := TX12) (ty := .array .int) rfl rfl rfl (by decide +kernel) (fun _ => ⟨rfl, rfl⟩)) ?_
  rw [show refT.take 65 ++ [(44, 14, 55)] = refT.take 66 from rfl]
  refine V.aload_n (pc := 92) dX12_init_92 rfl ?_
  refine V.bipush (pc := 93) dX12_init_93 bp_16 ?_
  refine V.newa (a := 1) (pc := 95) dX12_init_95 rfl (Or.inl rfl) ly_56 (by decide) (by decide) (by decide +kernel) (by decide) big_ac_int (fun j => by exact hz 56 (by decide) j) (Nat.le_of_ble_eq_true rfl) (Nat.le_of_ble_eq_true rfl) ?_
  refine V.putR (l0 := refT.take 66) (pc := 97) dX12_init_97 f_RX12_48 k_cl12 (by decide) ly_44 rb_12_16 (by decide +kernel) rfl (fin_R (T0 := TX12) (ty := .array .int) rfl rfl rfl (by decide +kernel) (fun _ => ⟨rfl, rfl⟩)) ?_
  rw [show refT.take 66 ++ [(44, 16, 56)] = refT.take 67 from rfl]
  refine V.aload_n (pc := 100) dX12_init_100 rfl ?_
  refine V.bipush (pc := 101) dX12_init_101 bp_17 ?_
  refine V.newa (a := 1) (pc := 103) dX12_init_103 rfl (Or.inl rfl) ly_57 (by decide) (by decide) (by decide +kernel) (by decide) big_ac_int (fun j => by exact hz 57 (by decide) j) (Nat.le_of_ble_eq_true rfl) (Nat.le_of_ble_eq_true rfl) ?_
  refine V.putR (l0 := refT.take 67) (pc := 105) dX12_init_105 f_RX12_51 k_cl12 (by decide) ly_44 rb_12_17 (by decide +kernel) rfl (fin_R (T0 := TX12) (ty := .array .int) rfl rfl rfl (by decide +kernel) (fun _ => ⟨rfl, rfl⟩)) ?_
  rw [show refT.take 67 ++ [(44, 17, 57)] = refT.take 68 from rfl]
  refine V.aload_n (pc := 108) dX12_init_108 rfl ?_
  refine V.bipush (pc := 109) dX12_init_109 bp_16 ?_
  refine V.newa (a := 1) (pc := 111) dX12_init_111 rfl (Or.inl rfl) ly_58 (by decide) (by decide) (by decide +kernel) (by decide) big_ac_int (fun j => by exact hz 58 (by decide) j) (Nat.le_of_ble_eq_true rfl) (Nat.le_of_ble_eq_true rfl) ?_
  refine V.putR (l0 := refT.take 68) (pc := 113) dX12_init_113 f_RX12_54 k_cl12 (by decide) ly_44 rb_12_18 (by decide +kernel) rfl (fin_R (T0 := TX12) (ty := .array .int) rfl rfl rfl (by decide +kernel) (fun _ => ⟨rfl, rfl⟩)) ?_
  rw [show refT.take 68 ++ [(44, 18, 58)] = refT.take 69 from rfl]
  refine V.aload_n (pc := 116) dX12_init_116 rfl ?_
  refine V.bipush (pc := 117) dX12_init_117 bp_16 ?_
  refine V.newa (a := 1) (pc := 119) dX12_init_119 rfl (Or.inl rfl) ly_59 (by decide) (by decide) (by decide +kernel) (by decide) big_ac_int (fun j => by exact hz 59 (by decide) j) (Nat.le_of_ble_eq_true rfl) (Nat.le_of_ble_eq_true rfl) ?_
  refine V.putR (l0 := refT.take 69) (pc := 121) dX12_init_121 f_RX12_57 k_cl12 (by decide) ly_44 rb_12_19 (by decide +kernel) rfl (fin_R (T0 := TX12) (ty := .array .int) rfl rfl rfl (by decide +kernel) (fun _ => ⟨rfl, rfl⟩)) ?_
  rw [show refT.take 69 ++ [(44, 19, 59)] = refT.take 70 from rfl]
  refine V.aload_n (pc := 124) dX12_init_124 rfl ?_
  refine V.bipush (pc := 125) dX12_init_125 bp_17 ?_
  refine V.newa (a := 1) (pc := 127) dX12_init_127 rfl (Or.inl rfl) ly_60 (by decide) (by decide) (by decide +kernel) (by decide) big_ac_int (fun j => by exact hz 60 (by decide) j) (Nat.le_of_ble_eq_true rfl) (Nat.le_of_ble_eq_true rfl) ?_
  refine V.putR (l0 := refT.take 70) (pc := 129) dX12_init_129 f_RX12_60 k_cl12 (by decide) ly_44 rb_12_20 (by decide +kernel) rfl (fin_R (T0 := TX12) (ty := .array .int) rfl rfl rfl (by decide +kernel) (fun _ => ⟨rfl, rfl⟩)) ?_
  rw [show refT.take 70 ++ [(44, 20, 60)] = refT.take 71 from rfl]
  refine V.aload_n (pc := 132) dX12_init_132 rfl ?_
  refine V.bipush (pc := 133) dX12_init_133 bp_16 ?_
  refine V.newa (a := 1) (pc := 135) dX12_init_135 rfl (Or.inl rfl) ly_61 (by decide) (by decide) (by decide +kernel) (by decide) big_ac_int (fun j => by exact hz 61 (by decide) j) (Nat.le_of_ble_eq_true rfl) (Nat.le_of_ble_eq_true rfl) ?_
  refine V.putR (l0 := refT.take 71) (pc := 137) dX12_init_137 f_RX12_63 k_cl12 (by decide) ly_44 rb_12_21 (by decide +kernel) rfl (fin_R (T0 := TX12) (ty := .array .int) rfl rfl rfl (by decide +kernel) (fun _ => ⟨rfl, rfl⟩)) ?_
  rw [show refT.take 71 ++ [(44, 21, 61)] = refT.take 72 from rfl]
  refine V.aload_n (pc := 140) dX12_init_140 rfl ?_
  refine V.bipush (pc := 141) dX12_init_141 bp_16 ?_
  refine V.newa (a := 1) (pc := 143) dX12_init_143 rfl (Or.inl rfl) ly_62 (by decide) (by decide) (by decide +kernel) (by decide) big_ac_int (fun j => by exact hz 62 (by decide) j) (Nat.le_of_ble_eq_true rfl) (Nat.le_of_ble_eq_true rfl) ?_
  refine V.putR (l0 := refT.take 72) (pc := 145) dX12_init_145 f_RX12_66 k_cl12 (by decide) ly_44 rb_12_23 (by decide +kernel) rfl (fin_R (T0 := TX12) (ty := .array .int) rfl rfl rfl (by decide +kernel) (fun _ => ⟨rfl, rfl⟩)) ?_
  rw [show refT.take 72 ++ [(44, 23, 62)] = refT.take 73 from rfl]
  refine V.aload_n (pc := 148) dX12_init_148 rfl ?_
  refine V.bipush (pc := 149) dX12_init_149 bp_16 ?_
  refine V.newa (a := 1) (pc := 151) dX12_init_151 rfl (Or.inl rfl) ly_63 (by decide) (by decide) (by decide +kernel) (by decide) big_ac_int (fun j => by exact hz 63 (by decide) j) (Nat.le_of_ble_eq_true rfl) (Nat.le_of_ble_eq_true rfl) ?_
  refine V.putR (l0 := refT.take 73) (pc := 153) dX12_init_153 f_RX12_69 k_cl12 (by decide) ly_44 rb_12_24 (by decide +kernel) rfl (fin_R (T0 := TX12) (ty := .array .int) rfl rfl rfl (by decide +kernel) (fun _ => ⟨rfl, rfl⟩)) ?_
  rw [show refT.take 73 ++ [(44, 24, 63)] = refT.take 74 from rfl]
  refine V.aload_n (pc := 156) dX12_init_156 rfl ?_
  refine V.ldc (pc := 157) dX12_init_157 c_RX12_26 ?_
  refine V.newa (a := 3) (pc := 159) dX12_init_159 rfl (Or.inr (Or.inl rfl)) ly_64 (by decide) (by decide) (by decide +kernel) (by decide) big_ac_boolean (fun j => by exact hz 64 (by decide) j) (Nat.le_of_ble_eq_true rfl) (Nat.le_of_ble_eq_true rfl) ?_
  refine V.putR (l0 := refT.take 74) (pc := 161) dX12_init_161 f_RX12_72 k_cl12 (by decide) ly_44 rb_12_25 (by decide +kernel) rfl (fin_R (T0 := TX12) (ty := .array .boolean) rfl rfl rfl (by decide +kernel) (fun _ => ⟨rfl, rfl⟩)) ?_
  rw [show refT.take 74 ++ [(44, 25, 64)] = refT.take 75 from rfl]
  refine V.aload_n (pc := 164) dX12_init_164 rfl ?_
  refine V.sipush (pc := 165) dX12_init_165 sp_200 ?_
  refine V.newa (a := 1) (pc := 168) dX12_init_168 rfl (Or.inl rfl) ly_65 (by decide) (by decide) (by decide +kernel) (by decide) big_ac_int (fun j => by exact hz 65 (by decide) j) (Nat.le_of_ble_eq_true rfl) (Nat.le_of_ble_eq_true rfl) ?_
  refine V.putR (l0 := refT.take 75) (pc := 170) dX12_init_170 f_RX12_76 k_cl12 (by decide) ly_44 rb_12_27 (by decide +kernel) rfl (fin_R (T0 := TX12) (ty := .array .int) rfl rfl rfl (by decide +kernel) (fun _ => ⟨rfl, rfl⟩)) ?_
  rw [show refT.take 75 ++ [(44, 27, 65)] = refT.take 76 from rfl]
  refine V.aload_n (pc := 173) dX12_init_173 rfl ?_
  refine V.sipush (pc := 174) dX12_init_174 sp_200 ?_
  refine V.newa (a := 1) (pc := 177) dX12_init_177 rfl (Or.inl rfl) ly_66 (by decide) (by decide) (by decide +kernel) (by decide) big_ac_int (fun j => by exact hz 66 (by decide) j) (Nat.le_of_ble_eq_true rfl) (Nat.le_of_ble_eq_true rfl) ?_
  refine V.putR (l0 := refT.take 76) (pc := 179) dX12_init_179 f_RX12_79 k_cl12 (by decide) ly_44 rb_12_29 (by decide +kernel) rfl (fin_R (T0 := TX12) (ty := .array .int) rfl rfl rfl (by decide +kernel) (fun _ => ⟨rfl, rfl⟩)) ?_
  rw [show refT.take 76 ++ [(44, 29, 66)] = refT.take 77 from rfl]
  refine V.aload_n (pc := 182) dX12_init_182 rfl ?_
  refine V.bipush (pc := 183) dX12_init_183 bp_68 ?_
  refine V.newa (a := 4) (pc := 185) dX12_init_185 rfl (Or.inr (Or.inr rfl)) ly_67 (by decide) (by decide) (by decide +kernel) (by decide) big_ac_byte (fun j => by exact hz 67 (by decide) j) (Nat.le_of_ble_eq_true rfl) (Nat.le_of_ble_eq_true rfl) ?_
  refine V.dup (pc := 187) dX12_init_187 rfl ?_
  refine V.iconst (pc := 188) dX12_init_188 ic_0 ?_
  refine V.bipush (pc := 189) dX12_init_189 bp_99 ?_
  refine V.bastX (w1 := wd_1 w) (pc := 191) dX12_init_191 (by decide) ly_67 (by decide) (by decide) rfl ?_
  refine V.dup (pc := 192) dX12_init_192 rfl ?_
  refine V.iconst (pc := 193) dX12_init_193 ic_1 ?_
  refine V.bipush (pc := 194) dX12_init_194 bp_121 ?_
  refine V.bastX (w1 := wd_2 w) (pc := 196) dX12_init_196 (by decide) ly_67 (by decide) (by decide) rfl ?_
  refine V.dup (pc := 197) dX12_init_197 rfl ?_
  refine V.iconst (pc := 198) dX12_init_198 ic_2 ?_
  refine V.bipush (pc := 199) dX12_init_199 bp_99 ?_
  refine V.bastX (w1 := wd_3 w) (pc := 201) dX12_init_201 (by decide) ly_67 (by decide) (by decide) rfl ?_
  refine V.dup (pc := 202) dX12_init_202 rfl ?_
  refine V.iconst (pc := 203) dX12_init_203 ic_3 ?_
  refine V.bipush (pc := 204) dX12_init_204 bp_108 ?_
  refine V.bastX (w1 := wd_4 w) (pc := 206) dX12_init_206 (by decide) ly_67 (by decide) (by decide) rfl ?_
  refine V.dup (pc := 207) dX12_init_207 rfl ?_
  refine V.iconst (pc := 208) dX12_init_208 ic_4 ?_
  refine V.bipush (pc := 209) dX12_init_209 bp_105 ?_
  refine V.bastX (w1 := wd_5 w) (pc := 211) dX12_init_211 (by decide) ly_67 (by decide) (by decide) rfl ?_
  refine V.dup (pc := 212) dX12_init_212 rfl ?_
  refine V.iconst (pc := 213) dX12_init_213 ic_5 ?_
  refine V.bipush (pc := 214) dX12_init_214 bp_99 ?_
  refine V.bastX (w1 := wd_6 w) (pc := 216) dX12_init_216 (by decide) ly_67 (by decide) (by decide) rfl ?_
  refine V.dup (pc := 217) dX12_init_217 rfl ?_
  refine V.bipush (pc := 218) dX12_init_218 bp_6 ?_
  refine V.iconst (pc := 220) dX12_init_220 ic_0 ?_
  refine V.bastX (w1 := wd_7 w) (pc := 221) dX12_init_221 (by decide) ly_67 (by decide) (by decide) rfl ?_
  refine V.dup (pc := 222) dX12_init_222 rfl ?_
  refine V.bipush (pc := 223) dX12_init_223 bp_7 ?_
  refine V.bipush (pc := 225) dX12_init_225 bp_100 ?_
  refine V.bastX (w1 := wd_8 w) (pc := 227) dX12_init_227 (by decide) ly_67 (by decide) (by decide) rfl ?_
  refine V.dup (pc := 228) dX12_init_228 rfl ?_
  refine V.bipush (pc := 229) dX12_init_229 bp_8 ?_
  refine V.bipush (pc := 231) dX12_init_231 bp_105 ?_
  refine V.bastX (w1 := wd_9 w) (pc := 233) dX12_init_233 (by decide) ly_67 (by decide) (by decide) rfl ?_
  refine V.dup (pc := 234) dX12_init_234 rfl ?_
  refine V.bipush (pc := 235) dX12_init_235 bp_9 ?_
  refine V.bipush (pc := 237) dX12_init_237 bp_104 ?_
  refine V.bastX (w1 := wd_10 w) (pc := 239) dX12_init_239 (by decide) ly_67 (by decide) (by decide) rfl ?_
  refine V.dup (pc := 240) dX12_init_240 rfl ?_
  refine V.bipush (pc := 241) dX12_init_241 bp_10 ?_
  refine V.bipush (pc := 243) dX12_init_243 bp_101 ?_
  refine V.bastX (w1 := wd_11 w) (pc := 245) dX12_init_245 (by decide) ly_67 (by decide) (by decide) rfl ?_
  refine V.dup (pc := 246) dX12_init_246 rfl ?_
  refine V.bipush (pc := 247) dX12_init_247 bp_11 ?_
  refine V.bipush (pc := 249) dX12_init_249 bp_100 ?_
  refine V.bastX (w1 := wd_12 w) (pc := 251) dX12_init_251 (by decide) ly_67 (by decide) (by decide) rfl ?_
  refine V.dup (pc := 252) dX12_init_252 rfl ?_
  refine V.bipush (pc := 253) dX12_init_253 bp_12 ?_
  refine V.bipush (pc := 255) dX12_init_255 bp_114 ?_
  refine V.bastX (w1 := wd_13 w) (pc := 257) dX12_init_257 (by decide) ly_67 (by decide) (by decide) rfl ?_
  refine V.dup (pc := 258) dX12_init_258 rfl ?_
  refine V.bipush (pc := 259) dX12_init_259 bp_13 ?_
  refine V.bipush (pc := 261) dX12_init_261 bp_97 ?_
  refine V.bastX (w1 := wd_14 w) (pc := 263) dX12_init_263 (by decide) ly_67 (by decide) (by decide) rfl ?_
  refine V.dup (pc := 264) dX12_init_264 rfl ?_
  refine V.bipush (pc := 265) dX12_init_265 bp_14 ?_
  refine V.bipush (pc := 267) dX12_init_267 bp_108 ?_
  refine V.bastX (w1 := wd_15 w) (pc := 269) dX12_init_269 (by decide) ly_67 (by decide) (by decide) rfl ?_
  refine V.dup (pc := 270) dX12_init_270 rfl ?_
  refine V.bipush (pc := 271) dX12_init_271 bp_15 ?_
  refine V.iconst (pc := 273) dX12_init_273 ic_0 ?_
  refine V.bastX (w1 := wd_16 w) (pc := 274) dX12_init_274 (by decide) ly_67 (by decide) (by decide) rfl ?_
  refine V.dup (pc := 275) dX12_init_275 rfl ?_
  refine V.bipush (pc := 276) dX12_init_276 bp_16 ?_
  refine V.bipush (pc := 278) dX12_init_278 bp_113 ?_
  refine V.bastX (w1 := wd_17 w) (pc := 280) dX12_init_280 (by decide) ly_67 (by decide) (by decide) rfl ?_
  refine V.dup (pc := 281) dX12_init_281 rfl ?_
  refine V.bipush (pc := 282) dX12_init_282 bp_17 ?_
  refine V.bipush (pc := 284) dX12_init_284 bp_117 ?_
  refine V.bastX (w1 := wd_18 w) (pc := 286) dX12_init_286 (by decide) ly_67 (by decide) (by decide) rfl ?_
  refine V.dup (pc := 287) dX12_init_287 rfl ?_
  refine V.bipush (pc := 288) dX12_init_288 bp_18 ?_
  refine V.bipush (pc := 290) dX12_init_290 bp_97 ?_
  refine V.bastX (w1 := wd_19 w) (pc := 292) dX12_init_292 (by decide) ly_67 (by decide) (by decide) rfl ?_
  refine V.dup (pc := 293) dX12_init_293 rfl ?_
  refine V.bipush (pc := 294) dX12_init_294 bp_19 ?_
  refine V.bipush (pc := 296) dX12_init_296 bp_116 ?_
  refine V.bastX (w1 := wd_20 w) (pc := 298) dX12_init_298 (by decide) ly_67 (by decide) (by decide) rfl ?_
  refine V.dup (pc := 299) dX12_init_299 rfl ?_
  refine V.bipush (pc := 300) dX12_init_300 bp_20 ?_
  refine V.bipush (pc := 302) dX12_init_302 bp_101 ?_
  refine V.bastX (w1 := wd_21 w) (pc := 304) dX12_init_304 (by decide) ly_67 (by decide) (by decide) rfl ?_
  refine V.dup (pc := 305) dX12_init_305 rfl ?_
  refine V.bipush (pc := 306) dX12_init_306 bp_21 ?_
  refine V.bipush (pc := 308) dX12_init_308 bp_114 ?_
  refine V.bastX (w1 := wd_22 w) (pc := 310) dX12_init_310 (by decide) ly_67 (by decide) (by decide) rfl ?_
  refine V.dup (pc := 311) dX12_init_311 rfl ?_
  refine V.bipush (pc := 312) dX12_init_312 bp_22 ?_
  refine V.bipush (pc := 314) dX12_init_314 bp_110 ?_
  refine V.bastX (w1 := wd_23 w) (pc := 316) dX12_init_316 (by decide) ly_67 (by decide) (by decide) rfl ?_
  refine V.dup (pc := 317) dX12_init_317 rfl ?_
  refine V.bipush (pc := 318) dX12_init_318 bp_23 ?_
  refine V.bipush (pc := 320) dX12_init_320 bp_105 ?_
  refine V.bastX (w1 := wd_24 w) (pc := 322) dX12_init_322 (by decide) ly_67 (by decide) (by decide) rfl ?_
  refine V.dup (pc := 323) dX12_init_323 rfl ?_
  refine V.bipush (pc := 324) dX12_init_324 bp_24 ?_
  refine V.bipush (pc := 326) dX12_init_326 bp_111 ?_
  refine V.bastX (w1 := wd_25 w) (pc := 328) dX12_init_328 (by decide) ly_67 (by decide) (by decide) rfl ?_
  refine V.dup (pc := 329) dX12_init_329 rfl ?_
  refine V.bipush (pc := 330) dX12_init_330 bp_25 ?_
  refine V.bipush (pc := 332) dX12_init_332 bp_110 ?_
  refine V.bastX (w1 := wd_26 w) (pc := 334) dX12_init_334 (by decide) ly_67 (by decide) (by decide) rfl ?_
  refine V.dup (pc := 335) dX12_init_335 rfl ?_
  refine V.bipush (pc := 336) dX12_init_336 bp_26 ?_
  refine V.iconst (pc := 338) dX12_init_338 ic_0 ?_
  refine V.bastX (w1 := wd_27 w) (pc := 339) dX12_init_339 (by decide) ly_67 (by decide) (by decide) rfl ?_
  refine V.dup (pc := 340) dX12_init_340 rfl ?_
  refine V.bipush (pc := 341) dX12_init_341 bp_27 ?_
  refine V.bipush (pc := 343) dX12_init_343 bp_115 ?_
  refine V.bastX (w1 := wd_28 w) (pc := 345) dX12_init_345 (by decide) ly_67 (by decide) (by decide) rfl ?_
  refine V.dup (pc := 346) dX12_init_346 rfl ?_
  refine V.bipush (pc := 347) dX12_init_347 bp_28 ?_
  refine V.bipush (pc := 349) dX12_init_349 bp_101 ?_
  refine V.bastX (w1 := wd_29 w) (pc := 351) dX12_init_351 (by decide) ly_67 (by decide) (by decide) rfl ?_
  refine V.dup (pc := 352) dX12_init_352 rfl ?_
  refine V.bipush (pc := 353) dX12_init_353 bp_29 ?_
  refine V.bipush (pc := 355) dX12_init_355 bp_116 ?_
  refine V.bastX (w1 := wd_30 w) (pc := 357) dX12_init_357 (by decide) ly_67 (by decide) (by decide) rfl ?_
  refine V.dup (pc := 358) dX12_init_358 rfl ?_
  refine V.bipush (pc := 359) dX12_init_359 bp_30 ?_
  refine V.iconst (pc := 361) dX12_init_361 ic_0 ?_
  refine V.bastX (w1 := wd_31 w) (pc := 362) dX12_init_362 (by decide) ly_67 (by decide) (by decide) rfl ?_
  refine V.dup (pc := 363) dX12_init_363 rfl ?_
  refine V.bipush (pc := 364) dX12_init_364 bp_31 ?_
  refine V.bipush (pc := 366) dX12_init_366 bp_115 ?_
  refine V.bastX (w1 := wd_32 w) (pc := 368) dX12_init_368 (by decide) ly_67 (by decide) (by decide) rfl ?_
  refine V.dup (pc := 369) dX12_init_369 rfl ?_
  refine V.bipush (pc := 370) dX12_init_370 bp_32 ?_
  refine V.bipush (pc := 372) dX12_init_372 bp_105 ?_
  refine V.bastX (w1 := wd_33 w) (pc := 374) dX12_init_374 (by decide) ly_67 (by decide) (by decide) rfl ?_
  refine V.dup (pc := 375) dX12_init_375 rfl ?_
  refine V.bipush (pc := 376) dX12_init_376 bp_33 ?_
  refine V.bipush (pc := 378) dX12_init_378 bp_122 ?_
  refine V.bastX (w1 := wd_34 w) (pc := 380) dX12_init_380 (by decide) ly_67 (by decide) (by decide) rfl ?_
  refine V.dup (pc := 381) dX12_init_381 rfl ?_
  refine V.bipush (pc := 382) dX12_init_382 bp_34 ?_
  refine V.bipush (pc := 384) dX12_init_384 bp_101 ?_
  refine V.bastX (w1 := wd_35 w) (pc := 386) dX12_init_386 (by decide) ly_67 (by decide) (by decide) rfl ?_
  refine V.dup (pc := 387) dX12_init_387 rfl ?_
  refine V.bipush (pc := 388) dX12_init_388 bp_35 ?_
  refine V.iconst (pc := 390) dX12_init_390 ic_0 ?_
  refine V.bastX (w1 := wd_36 w) (pc := 391) dX12_init_391 (by decide) ly_67 (by decide) (by decide) rfl ?_
  refine V.dup (pc := 392) dX12_init_392 rfl ?_
  refine V.bipush (pc := 393) dX12_init_393 bp_36 ?_
  refine V.bipush (pc := 395) dX12_init_395 bp_116 ?_
  refine V.bastX (w1 := wd_37 w) (pc := 397) dX12_init_397 (by decide) ly_67 (by decide) (by decide) rfl ?_
  refine V.dup (pc := 398) dX12_init_398 rfl ?_
  refine V.bipush (pc := 399) dX12_init_399 bp_37 ?_
  refine V.bipush (pc := 401) dX12_init_401 bp_114 ?_
  refine V.bastX (w1 := wd_38 w) (pc := 403) dX12_init_403 (by decide) ly_67 (by decide) (by decide) rfl ?_
  refine V.dup (pc := 404) dX12_init_404 rfl ?_
  refine V.bipush (pc := 405) dX12_init_405 bp_38 ?_
  refine V.bipush (pc := 407) dX12_init_407 bp_105 ?_
  refine V.bastX (w1 := wd_39 w) (pc := 409) dX12_init_409 (by decide) ly_67 (by decide) (by decide) rfl ?_
  refine V.dup (pc := 410) dX12_init_410 rfl ?_
  refine V.bipush (pc := 411) dX12_init_411 bp_39 ?_
  refine V.bipush (pc := 413) dX12_init_413 bp_112 ?_
  refine V.bastX (w1 := wd_40 w) (pc := 415) dX12_init_415 (by decide) ly_67 (by decide) (by decide) rfl ?_
  refine V.dup (pc := 416) dX12_init_416 rfl ?_
  refine V.bipush (pc := 417) dX12_init_417 bp_40 ?_
  refine V.bipush (pc := 419) dX12_init_419 bp_108 ?_
  refine V.bastX (w1 := wd_41 w) (pc := 421) dX12_init_421 (by decide) ly_67 (by decide) (by decide) rfl ?_
  refine V.dup (pc := 422) dX12_init_422 rfl ?_
  refine V.bipush (pc := 423) dX12_init_423 bp_41 ?_
  refine V.bipush (pc := 425) dX12_init_425 bp_101 ?_
  refine V.bastX (w1 := wd_42 w) (pc := 427) dX12_init_427 (by decide) ly_67 (by decide) (by decide) rfl ?_
  refine V.dup (pc := 428) dX12_init_428 rfl ?_
  refine V.bipush (pc := 429) dX12_init_429 bp_42 ?_
  refine V.bipush (pc := 431) dX12_init_431 bp_115 ?_
  refine V.bastX (w1 := wd_43 w) (pc := 433) dX12_init_433 (by decide) ly_67 (by decide) (by decide) rfl ?_
  refine V.dup (pc := 434) dX12_init_434 rfl ?_
  refine V.bipush (pc := 435) dX12_init_435 bp_43 ?_
  refine V.iconst (pc := 437) dX12_init_437 ic_0 ?_
  refine V.bastX (w1 := wd_44 w) (pc := 438) dX12_init_438 (by decide) ly_67 (by decide) (by decide) rfl ?_
  refine V.dup (pc := 439) dX12_init_439 rfl ?_
  refine V.bipush (pc := 440) dX12_init_440 bp_44 ?_
  refine V.bipush (pc := 442) dX12_init_442 bp_102 ?_
  refine V.bastX (w1 := wd_45 w) (pc := 444) dX12_init_444 (by decide) ly_67 (by decide) (by decide) rfl ?_
  refine V.dup (pc := 445) dX12_init_445 rfl ?_
  refine V.bipush (pc := 446) dX12_init_446 bp_45 ?_
  refine V.bipush (pc := 448) dX12_init_448 bp_114 ?_
  refine V.bastX (w1 := wd_46 w) (pc := 450) dX12_init_450 (by decide) ly_67 (by decide) (by decide) rfl ?_
  refine V.dup (pc := 451) dX12_init_451 rfl ?_
  refine V.bipush (pc := 452) dX12_init_452 bp_46 ?_
  refine V.bipush (pc := 454) dX12_init_454 bp_101 ?_
  refine V.bastX (w1 := wd_47 w) (pc := 456) dX12_init_456 (by decide) ly_67 (by decide) (by decide) rfl ?_
  refine V.dup (pc := 457) dX12_init_457 rfl ?_
  refine V.bipush (pc := 458) dX12_init_458 bp_47 ?_
  refine V.bipush (pc := 460) dX12_init_460 bp_101 ?_
  refine V.bastX (w1 := wd_48 w) (pc := 462) dX12_init_462 (by decide) ly_67 (by decide) (by decide) rfl ?_
  refine V.dup (pc := 463) dX12_init_463 rfl ?_
  refine V.bipush (pc := 464) dX12_init_464 bp_48 ?_
  refine V.iconst (pc := 466) dX12_init_466 ic_0 ?_
  refine V.bastX (w1 := wd_49 w) (pc := 467) dX12_init_467 (by decide) ly_67 (by decide) (by decide) rfl ?_
  refine V.dup (pc := 468) dX12_init_468 rfl ?_
  refine V.bipush (pc := 469) dX12_init_469 bp_49 ?_
  refine V.bipush (pc := 471) dX12_init_471 bp_102 ?_
  refine V.bastX (w1 := wd_50 w) (pc := 473) dX12_init_473 (by decide) ly_67 (by decide) (by decide) rfl ?_
  refine V.dup (pc := 474) dX12_init_474 rfl ?_
  refine V.bipush (pc := 475) dX12_init_475 bp_50 ?_
  refine V.bipush (pc := 477) dX12_init_477 bp_117 ?_
  refine V.bastX (w1 := wd_51 w) (pc := 479) dX12_init_479 (by decide) ly_67 (by decide) (by decide) rfl ?_
  refine V.dup (pc := 480) dX12_init_480 rfl ?_
  refine V.bipush (pc := 481) dX12_init_481 bp_51 ?_
  refine V.bipush (pc := 483) dX12_init_483 bp_108 ?_
  refine V.bastX (w1 := wd_52 w) (pc := 485) dX12_init_485 (by decide) ly_67 (by decide) (by decide) rfl ?_
  refine V.dup (pc := 486) dX12_init_486 rfl ?_
  refine V.bipush (pc := 487) dX12_init_487 bp_52 ?_
  refine V.bipush (pc := 489) dX12_init_489 bp_108 ?_
  refine V.bastX (w1 := wd_53 w) (pc := 491) dX12_init_491 (by decide) ly_67 (by decide) (by decide) rfl ?_
  refine V.dup (pc := 492) dX12_init_492 rfl ?_
  refine V.bipush (pc := 493) dX12_init_493 bp_53 ?_
  refine V.iconst (pc := 495) dX12_init_495 ic_0 ?_
  refine V.bastX (w1 := wd_54 w) (pc := 496) dX12_init_496 (by decide) ly_67 (by decide) (by decide) rfl ?_
  refine V.dup (pc := 497) dX12_init_497 rfl ?_
  refine V.bipush (pc := 498) dX12_init_498 bp_54 ?_
  refine V.bipush (pc := 500) dX12_init_500 bp_111 ?_
  refine V.bastX (w1 := wd_55 w) (pc := 502) dX12_init_502 (by decide) ly_67 (by decide) (by decide) rfl ?_
  refine V.dup (pc := 503) dX12_init_503 rfl ?_
  refine V.bipush (pc := 504) dX12_init_504 bp_55 ?_
  refine V.bipush (pc := 506) dX12_init_506 bp_112 ?_
  refine V.bastX (w1 := wd_56 w) (pc := 508) dX12_init_508 (by decide) ly_67 (by decide) (by decide) rfl ?_
  refine V.dup (pc := 509) dX12_init_509 rfl ?_
  refine V.bipush (pc := 510) dX12_init_510 bp_56 ?_
  refine V.bipush (pc := 512) dX12_init_512 bp_101 ?_
  refine V.bastX (w1 := wd_57 w) (pc := 514) dX12_init_514 (by decide) ly_67 (by decide) (by decide) rfl ?_
  refine V.dup (pc := 515) dX12_init_515 rfl ?_
  refine V.bipush (pc := 516) dX12_init_516 bp_57 ?_
  refine V.bipush (pc := 518) dX12_init_518 bp_110 ?_
  refine V.bastX (w1 := wd_58 w) (pc := 520) dX12_init_520 (by decide) ly_67 (by decide) (by decide) rfl ?_
  refine V.dup (pc := 521) dX12_init_521 rfl ?_
  refine V.bipush (pc := 522) dX12_init_522 bp_58 ?_
  refine V.iconst (pc := 524) dX12_init_524 ic_0 ?_
  refine V.bastX (w1 := wd_59 w) (pc := 525) dX12_init_525 (by decide) ly_67 (by decide) (by decide) rfl ?_
  refine V.dup (pc := 526) dX12_init_526 rfl ?_
  refine V.bipush (pc := 527) dX12_init_527 bp_59 ?_
  refine V.bipush (pc := 529) dX12_init_529 bp_99 ?_
  refine V.bastX (w1 := wd_60 w) (pc := 531) dX12_init_531 (by decide) ly_67 (by decide) (by decide) rfl ?_
  refine V.dup (pc := 532) dX12_init_532 rfl ?_
  refine V.bipush (pc := 533) dX12_init_533 bp_60 ?_
  refine V.bipush (pc := 535) dX12_init_535 bp_111 ?_
  refine V.bastX (w1 := wd_61 w) (pc := 537) dX12_init_537 (by decide) ly_67 (by decide) (by decide) rfl ?_
  refine V.dup (pc := 538) dX12_init_538 rfl ?_
  refine V.bipush (pc := 539) dX12_init_539 bp_61 ?_
  refine V.bipush (pc := 541) dX12_init_541 bp_109 ?_
  refine V.bastX (w1 := wd_62 w) (pc := 543) dX12_init_543 (by decide) ly_67 (by decide) (by decide) rfl ?_
  refine V.dup (pc := 544) dX12_init_544 rfl ?_
  refine V.bipush (pc := 545) dX12_init_545 bp_62 ?_
  refine V.bipush (pc := 547) dX12_init_547 bp_112 ?_
  refine V.bastX (w1 := wd_63 w) (pc := 549) dX12_init_549 (by decide) ly_67 (by decide) (by decide) rfl ?_
  refine V.dup (pc := 550) dX12_init_550 rfl ?_
  refine V.bipush (pc := 551) dX12_init_551 bp_63 ?_
  refine V.bipush (pc := 553) dX12_init_553 bp_108 ?_
  refine V.bastX (w1 := wd_64 w) (pc := 555) dX12_init_555 (by decide) ly_67 (by decide) (by decide) rfl ?_
  refine V.dup (pc := 556) dX12_init_556 rfl ?_
  refine V.bipush (pc := 557) dX12_init_557 bp_64 ?_
  refine V.bipush (pc := 559) dX12_init_559 bp_101 ?_
  refine V.bastX (w1 := wd_65 w) (pc := 561) dX12_init_561 (by decide) ly_67 (by decide) (by decide) rfl ?_
  refine V.dup (pc := 562) dX12_init_562 rfl ?_
  refine V.bipush (pc := 563) dX12_init_563 bp_65 ?_
  refine V.bipush (pc := 565) dX12_init_565 bp_116 ?_
  refine V.bastX (w1 := wd_66 w) (pc := 567) dX12_init_567 (by decide) ly_67 (by decide) (by decide) rfl ?_
  refine V.dup (pc := 568) dX12_init_568 rfl ?_
  refine V.bipush (pc := 569) dX12_init_569 bp_66 ?_
  refine V.bipush (pc := 571) dX12_init_571 bp_101 ?_
  refine V.bastX (w1 := wd_67 w) (pc := 573) dX12_init_573 (by decide) ly_67 (by decide) (by decide) rfl ?_
  refine V.dup (pc := 574) dX12_init_574 rfl ?_
  refine V.bipush (pc := 575) dX12_init_575 bp_67 ?_
  refine V.iconst (pc := 577) dX12_init_577 ic_0 ?_
  refine V.bastX (w1 := wd_68 w) (pc := 578) dX12_init_578 (by decide) ly_67 (by decide) (by decide) rfl ?_
  refine V.putR (l0 := refT.take 77) (pc := 579) dX12_init_579 f_RX12_82 k_cl12 (by decide) ly_44 rb_12_31 (by decide +kernel) rfl (fin_R (T0 := TX12) (ty := .array .byte) rfl rfl rfl (by decide +kernel) (fun _ => ⟨rfl, rfl⟩)) ?_
  rw [show refT.take 77 ++ [(44, 31, 67)] = refT.take 78 from rfl]
  refine V.aload_n (pc := 582) dX12_init_582 rfl ?_
  refine V.iconst (pc := 583) dX12_init_583 ic_4 ?_
  refine V.newa (a := 1) (pc := 584) dX12_init_584 rfl (Or.inl rfl) ly_68 (by decide) (by decide) (by decide +kernel) (by decide) big_ac_int (fun j => by rw [wd_z68 _ _ (by decide)]; exact hz 68 (by decide) j) (Nat.le_of_ble_eq_true rfl) (Nat.le_of_ble_eq_true rfl) ?_
  refine V.putR (l0 := refT.take 78) (pc := 586) dX12_init_586 f_RX12_86 k_cl12 (by decide) ly_44 rb_12_37 (by decide +kernel) rfl (fin_R (T0 := TX12) (ty := .array .int) rfl rfl rfl (by decide +kernel) (fun _ => ⟨rfl, rfl⟩)) ?_
  rw [show refT.take 78 ++ [(44, 37, 68)] = refT.take 79 from rfl]
  refine V.aload_n (pc := 589) dX12_init_589 rfl ?_
  refine V.iconst (pc := 590) dX12_init_590 ic_4 ?_
  refine V.newa (a := 1) (pc := 591) dX12_init_591 rfl (Or.inl rfl) ly_69 (by decide) (by decide) (by decide +kernel) (by decide) big_ac_int (fun j => by rw [wd_z68 _ _ (by decide)]; exact hz 69 (by decide) j) (Nat.le_of_ble_eq_true rfl) (Nat.le_of_ble_eq_true rfl) ?_
  refine V.putR (l0 := refT.take 79) (pc := 593) dX12_init_593 f_RX12_89 k_cl12 (by decide) ly_44 rb_12_38 (by decide +kernel) rfl (fin_R (T0 := TX12) (ty := .array .int) rfl rfl rfl (by decide +kernel) (fun _ => ⟨rfl, rfl⟩)) ?_
  rw [show refT.take 79 ++ [(44, 38, 69)] = refT.take 80 from rfl]
  refine V.aload_n (pc := 596) dX12_init_596 rfl ?_
  refine V.iconst (pc := 597) dX12_init_597 ic_1 ?_
  refine V.putI (pc := 598) dX12_init_598 f_RX12_92 k_cl12 (by decide) ly_44 rb_12_1 (fin_I (T0 := TX12) rfl rfl rfl) ?_
  refine V.aload_n (pc := 601) dX12_init_601 rfl ?_
  refine V.callV (pc := 602) (As := []) (st := []) dX12_init_602 l_RX12_95 (ok_X12_laysGroup (d := 30) (by omega) hr) (by decide) ly_44 cn_12 ⟨rfl, rfl, ⟨Nat.le_of_ble_eq_true rfl, Nat.le_of_ble_eq_true rfl⟩, Nat.le_of_ble_eq_true rfl, Nat.le_of_ble_eq_true rfl⟩ rfl rfl (Nat.le_of_ble_eq_true rfl) (Nat.le_of_ble_eq_true rfl) ?_
  refine V.aload_n (pc := 605) dX12_init_605 rfl ?_
  refine V.iconst (pc := 606) dX12_init_606 ic_0 ?_
  refine V.callV (pc := 607) (As := [.int 0]) (st := []) dX12_init_607 l_RX12_98 (ok_X12_startsRow (d := 30) (by omega) 0 hr2) lx_44 ly_44 cn_12 ⟨rfl, rfl, ⟨Nat.le_of_ble_eq_true rfl, Nat.le_of_ble_eq_true rfl⟩, Nat.le_of_ble_eq_true rfl, Nat.le_of_ble_eq_true rfl⟩ rfl rfl (Nat.le_of_ble_eq_true rfl) (Nat.le_of_ble_eq_true rfl) ?_
  exact V.vret (pc := 610) dX12_init_610 rfl (Nat.le_refl _) (Nat.le_refl _)
