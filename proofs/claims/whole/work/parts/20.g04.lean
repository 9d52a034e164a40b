theorem dX4_holds_0 : decode cX4_holds 0 = .ok (.iload_n 1, 1) := by decide +kernel
theorem dX4_holds_1 : decode cX4_holds 1 = .ok (.ifCond .lt 15, 3) := by decide +kernel
theorem dX4_holds_4 : decode cX4_holds 4 = .ok (.iload_n 1, 1) := by decide +kernel
theorem dX4_holds_5 : decode cX4_holds 5 = .ok (.aload_n 0, 1) := by decide +kernel
theorem dX4_holds_6 : decode cX4_holds 6 = .ok (.getfield 30, 3) := by decide +kernel
theorem dX4_holds_9 : decode cX4_holds 9 = .ok (.if_icmp .ge 7, 3) := by decide +kernel
theorem dX4_holds_12 : decode cX4_holds 12 = .ok (.iconst 1, 1) := by decide +kernel
theorem dX4_holds_13 : decode cX4_holds 13 = .ok (.goto 4, 3) := by decide +kernel
theorem dX4_holds_16 : decode cX4_holds 16 = .ok (.iconst 0, 1) := by decide +kernel
theorem dX4_holds_17 : decode cX4_holds 17 = .ok (.ireturn, 1) := by decide +kernel
def f_X4_holds (l1 : Int32) (w : Wd) : Int32 :=
  if l1 < 0 then
    (0 : Int32)
  else
    if (w.1 6 7) ≤ l1 then
      (0 : Int32)
    else
      (1 : Int32)
set_option maxHeartbeats 4000000 in
set_option maxRecDepth 100000 in
theorem ok_X4_holds {G : GT} {d : Nat} (hd : 0 ≤ d) {w : Wd} (l1 : Int32) : uC G yX4_holds mX4_holds d [.ref 6, .int l1] w (some (.int (f_X4_holds l1 w))) w := by
  suffices key : ∀ r, f_X4_holds l1 w = r → uC G yX4_holds mX4_holds d [.ref 6, .int l1] w (some (.int r)) w from key _ rfl
  intro r h
  unfold f_X4_holds at h
  refine uC_of (lv := [some (.ref 6), some (.int l1)]) 0 pn_X4 ⟨rfl, rfl⟩ (Nat.le_of_ble_eq_true rfl) rfl ?_
  refine V.iload_n (pc := 0) dX4_holds_0 rfl ?_
  rcases ite_e h with ⟨c, h⟩ | ⟨c, h⟩
  · refine V.if_lt_t (t := 16) (pc := 1) dX4_holds_1 (by decide) c ?_
    refine V.iconst (pc := 16) dX4_holds_16 ic_0 ?_
    subst h
    exact V.zret (pc := 17) dX4_holds_17 rfl (Or.inl rfl) (Nat.le_refl _) (Nat.le_refl _)
  · refine V.if_lt_f (t := 16) (pc := 1) dX4_holds_1 (by decide) c ?_
    refine V.iload_n (pc := 4) dX4_holds_4 rfl ?_
    refine V.aload_n (pc := 5) dX4_holds_5 rfl ?_
    refine V.getI (pc := 6) dX4_holds_6 f_RX4_30 k_cl4 lx_6 ly_6 rb_4_7 ?_
    rcases ite_e h with ⟨c, h⟩ | ⟨c, h⟩
    · refine V.icmp_ge_t (t := 16) (pc := 9) dX4_holds_9 (by decide) c ?_
      refine V.iconst (pc := 16) dX4_holds_16 ic_0 ?_
      subst h
      exact V.zret (pc := 17) dX4_holds_17 rfl (Or.inl rfl) (Nat.le_refl _) (Nat.le_refl _)
    · refine V.icmp_ge_f (t := 16) (pc := 9) dX4_holds_9 (by decide) c ?_
      refine V.iconst (pc := 12) dX4_holds_12 ic_1 ?_
      refine V.goto (t := 17) (pc := 13) dX4_holds_13 (by decide) ?_
      subst h
      exact V.zret (pc := 17) dX4_holds_17 rfl (Or.inr rfl) (Nat.le_refl _) (Nat.le_refl _)
theorem b_X4_holds (l1 : Int32) (w : Wd) : f_X4_holds l1 w = 0 ∨ f_X4_holds l1 w = 1 := by
  unfold f_X4_holds
  repeat' (first | exact Or.inl rfl | exact Or.inr rfl | apply b_tree)
  all_goals first | exact Or.inl rfl | exact Or.inr rfl | assumption
theorem dX0_set_0 : decode cX0_set 0 = .ok (.aload_n 0, 1) := by decide +kernel
theorem dX0_set_1 : decode cX0_set 1 = .ok (.getfield 11, 3) := by decide +kernel
theorem dX0_set_4 : decode cX0_set 4 = .ok (.bipush 19, 2) := by decide +kernel
theorem dX0_set_6 : decode cX0_set 6 = .ok (.iaload, 1) := by decide +kernel
theorem dX0_set_7 : decode cX0_set 7 = .ok (.ireturn, 1) := by decide +kernel
def f_X0_set (w : Wd) : Option Int32 :=
  rdI w 38 20 19 fun x1 =>
  some x1
set_option maxHeartbeats 4000000 in
set_option maxRecDepth 100000 in
theorem ok_X0_set {G : GT} {d : Nat} (hd : 0 ≤ d) {w : Wd}  {r : Int32} (h : f_X0_set  w = some r) : uC G yX0_set mX0_set d [.ref 37] w (some (.int r)) w := by
  unfold f_X0_set at h
  refine uC_of (lv := [some (.ref 37)]) 0 pn_X0 ⟨rfl, rfl⟩ (Nat.le_of_ble_eq_true rfl) rfl ?_
  refine V.aload_n (pc := 0) dX0_set_0 rfl ?_
  refine V.getR (t := 38) (pc := 1) dX0_set_1 f_RX0_11 k_cl0 lx_37 ly_37 rb_0_0 rr_37_0 ?_
  refine V.bipush (pc := 4) dX0_set_4 bp_19 ?_
  obtain ⟨x1, ix1, ex1, h⟩ := rdI_e h
  refine V.ialdX (pc := 6) dX0_set_6 lx_38 ly_38 ix1 ex1 ?_
  obtain rfl := Option.some.inj h
  exact V.iret (pc := 7) dX0_set_7 rfl (Nat.le_refl _) (Nat.le_refl _)
theorem dX0_change_0 : decode cX0_change 0 = .ok (.iload_n 1, 1) := by decide +kernel
theorem dX0_change_1 : decode cX0_change 1 = .ok (.ifCond .lt 19, 3) := by decide +kernel
theorem dX0_change_4 : decode cX0_change 4 = .ok (.iload_n 1, 1) := by decide +kernel
theorem dX0_change_5 : decode cX0_change 5 = .ok (.bipush 20, 2) := by decide +kernel
theorem dX0_change_7 : decode cX0_change 7 = .ok (.if_icmp .ge 13, 3) := by decide +kernel
theorem dX0_change_10 : decode cX0_change 10 = .ok (.aload_n 0, 1) := by decide +kernel
theorem dX0_change_11 : decode cX0_change 11 = .ok (.getfield 11, 3) := by decide +kernel
theorem dX0_change_14 : decode cX0_change 14 = .ok (.iload_n 1, 1) := by decide +kernel
theorem dX0_change_15 : decode cX0_change 15 = .ok (.iaload, 1) := by decide +kernel
theorem dX0_change_16 : decode cX0_change 16 = .ok (.iload_n 2, 1) := by decide +kernel
theorem dX0_change_17 : decode cX0_change 17 = .ok (.if_icmp .ne 5, 3) := by decide +kernel
theorem dX0_change_20 : decode cX0_change 20 = .ok (.iconst 0, 1) := by decide +kernel
theorem dX0_change_21 : decode cX0_change 21 = .ok (.ireturn, 1) := by decide +kernel
theorem dX0_change_22 : decode cX0_change 22 = .ok (.aload_n 0, 1) := by decide +kernel
theorem dX0_change_23 : decode cX0_change 23 = .ok (.getfield 15, 3) := by decide +kernel
theorem dX0_change_26 : decode cX0_change 26 = .ok (.aload_n 0, 1) := by decide +kernel
theorem dX0_change_27 : decode cX0_change 27 = .ok (.getfield 25, 3) := by decide +kernel
theorem dX0_change_30 : decode cX0_change 30 = .ok (.iload_n 1, 1) := by decide +kernel
theorem dX0_change_31 : decode cX0_change 31 = .ok (.iastore, 1) := by decide +kernel
theorem dX0_change_32 : decode cX0_change 32 = .ok (.aload_n 0, 1) := by decide +kernel
theorem dX0_change_33 : decode cX0_change 33 = .ok (.getfield 18, 3) := by decide +kernel
theorem dX0_change_36 : decode cX0_change 36 = .ok (.aload_n 0, 1) := by decide +kernel
theorem dX0_change_37 : decode cX0_change 37 = .ok (.getfield 25, 3) := by decide +kernel
theorem dX0_change_40 : decode cX0_change 40 = .ok (.aload_n 0, 1) := by decide +kernel
theorem dX0_change_41 : decode cX0_change 41 = .ok (.getfield 11, 3) := by decide +kernel
theorem dX0_change_44 : decode cX0_change 44 = .ok (.iload_n 1, 1) := by decide +kernel
theorem dX0_change_45 : decode cX0_change 45 = .ok (.iaload, 1) := by decide +kernel
theorem dX0_change_46 : decode cX0_change 46 = .ok (.iastore, 1) := by decide +kernel
theorem dX0_change_47 : decode cX0_change 47 = .ok (.aload_n 0, 1) := by decide +kernel
theorem dX0_change_48 : decode cX0_change 48 = .ok (.aload_n 0, 1) := by decide +kernel
theorem dX0_change_49 : decode cX0_change 49 = .ok (.getfield 25, 3) := by decide +kernel
theorem dX0_change_52 : decode cX0_change 52 = .ok (.iconst 1, 1) := by decide +kernel
theorem dX0_change_53 : decode cX0_change 53 = .ok (.iadd, 1) := by decide +kernel
theorem dX0_change_54 : decode cX0_change 54 = .ok (.bipush 12, 2) := by decide +kernel
theorem dX0_change_56 : decode cX0_change 56 = .ok (.if_icmp .ge 12, 3) := by decide +kernel
theorem dX0_change_59 : decode cX0_change 59 = .ok (.aload_n 0, 1) := by decide +kernel
theorem dX0_change_60 : decode cX0_change 60 = .ok (.getfield 25, 3) := by decide +kernel
theorem dX0_change_63 : decode cX0_change 63 = .ok (.iconst 1, 1) := by decide +kernel
theorem dX0_change_64 : decode cX0_change 64 = .ok (.iadd, 1) := by decide +kernel
theorem dX0_change_65 : decode cX0_change 65 = .ok (.goto 4, 3) := by decide +kernel
theorem dX0_change_68 : decode cX0_change 68 = .ok (.iconst 0, 1) := by decide +kernel
theorem dX0_change_69 : decode cX0_change 69 = .ok (.putfield 25, 3) := by decide +kernel
theorem dX0_change_72 : decode cX0_change 72 = .ok (.aload_n 0, 1) := by decide +kernel
theorem dX0_change_73 : decode cX0_change 73 = .ok (.aload_n 0, 1) := by decide +kernel
theorem dX0_change_74 : decode cX0_change 74 = .ok (.getfield 21, 3) := by decide +kernel
theorem dX0_change_77 : decode cX0_change 77 = .ok (.iconst 1, 1) := by decide +kernel
theorem dX0_change_78 : decode cX0_change 78 = .ok (.iadd, 1) := by decide +kernel
theorem dX0_change_79 : decode cX0_change 79 = .ok (.bipush 12, 2) := by decide +kernel
theorem dX0_change_81 : decode cX0_change 81 = .ok (.invokestatic 28, 3) := by decide +kernel
theorem dX0_change_84 : decode cX0_change 84 = .ok (.putfield 21, 3) := by decide +kernel
theorem dX0_change_87 : decode cX0_change 87 = .ok (.aload_n 0, 1) := by decide +kernel
theorem dX0_change_88 : decode cX0_change 88 = .ok (.getfield 11, 3) := by decide +kernel
theorem dX0_change_91 : decode cX0_change 91 = .ok (.iload_n 1, 1) := by decide +kernel
theorem dX0_change_92 : decode cX0_change 92 = .ok (.iload_n 2, 1) := by decide +kernel
theorem dX0_change_93 : decode cX0_change 93 = .ok (.iastore, 1) := by decide +kernel
theorem dX0_change_94 : decode cX0_change 94 = .ok (.iconst 1, 1) := by decide +kernel
theorem dX0_change_95 : decode cX0_change 95 = .ok (.ireturn, 1) := by decide +kernel
def f_X0_change (l1 : Int32) (l2 : Int32) (w : Wd) : Option (Int32 × Wd) :=
  if l1 < 0 then
    some (0, w)
  else
    if 20 ≤ l1 then
      some (0, w)
    else
      rdI w 38 20 l1 fun x1 =>
      if x1 = l2 then
        some (0, w)
      else
        wrI w 39 12 (w.1 37 3) l1 fun w2 =>
        rdI w2 38 20 l1 fun x3 =>
        wrI w2 40 12 (w2.1 37 3) x3 fun w4 =>
        if 12 ≤ ((w4.1 37 3) + 1) then
          letW (sI w4 37 3 0) fun w5 =>
          letW (sI w5 37 4 (if 12 < ((w5.1 37 4) + 1) then 12 else ((w5.1 37 4) + 1))) fun w6 =>
          wrI w6 38 20 l1 l2 fun w7 =>
          some (1, w7)
        else
          letW (sI w4 37 3 ((w4.1 37 3) + 1)) fun w8 =>
          letW (sI w8 37 4 (if 12 < ((w8.1 37 4) + 1) then 12 else ((w8.1 37 4) + 1))) fun w9 =>
          wrI w9 38 20 l1 l2 fun w10 =>
          some (1, w10)
set_option maxHeartbeats 4000000 in
set_option maxRecDepth 100000 in
theorem ok_X0_change {G : GT} {d : Nat} (hd : 1 ≤ d) {w : Wd} (l1 : Int32) (l2 : Int32) {r : Int32} {w' : Wd} (h : f_X0_change l1 l2 w = some (r, w')) : uC G yX0_change mX0_change d [.ref 37, .int l1, .int l2] w (some (.int r)) w' := by
  obtain ⟨d, rfl⟩ : ∃ e, d = e + 1 := ⟨d - 1, by omega⟩
  unfold f_X0_change at h
  refine uC_of (lv := [some (.ref 37), some (.int l1), some (.int l2)]) 0 pn_X0 ⟨rfl, rfl⟩ (Nat.le_of_ble_eq_true rfl) rfl ?_
  refine V.iload_n (pc := 0) dX0_change_0 rfl ?_
  rcases ite_e h with ⟨c, h⟩ | ⟨c, h⟩
  · refine V.if_lt_t (t := 20) (pc := 1) dX0_change_1 (by decide) c ?_
    refine V.iconst (pc := 20) dX0_change_20 ic_0 ?_
    obtain ⟨rfl, rfl⟩ := Prod.mk.inj (Option.some.inj h)
    exact V.zret (pc := 21) dX0_change_21 rfl (Or.inl rfl) (Nat.le_refl _) (Nat.le_refl _)
  · refine V.if_lt_f (t := 20) (pc := 1) dX0_change_1 (by decide) c ?_
    refine V.iload_n (pc := 4) dX0_change_4 rfl ?_
    refine V.bipush (pc := 5) dX0_change_5 bp_20 ?_
    rcases ite_e h with ⟨c, h⟩ | ⟨c, h⟩
    · refine V.icmp_ge_t (t := 20) (pc := 7) dX0_change_7 (by decide) c ?_
      refine V.iconst (pc := 20) dX0_change_20 ic_0 ?_
      obtain ⟨rfl, rfl⟩ := Prod.mk.inj (Option.some.inj h)
      exact V.zret (pc := 21) dX0_change_21 rfl (Or.inl rfl) (Nat.le_refl _) (Nat.le_refl _)
    · refine V.icmp_ge_f (t := 20) (pc := 7) dX0_change_7 (by decide) c ?_
      refine V.aload_n (pc := 10) dX0_change_10 rfl ?_
      refine V.getR (t := 38) (pc := 11) dX0_change_11 f_RX0_11 k_cl0 lx_37 ly_37 rb_0_0 rr_37_0 ?_
      refine V.iload_n (pc := 14) dX0_change_14 rfl ?_
      obtain ⟨x1, ix1, ex1, h⟩ := rdI_e h
      refine V.ialdX (pc := 15) dX0_change_15 lx_38 ly_38 ix1 ex1 ?_
      refine V.iload_n (pc := 16) dX0_change_16 rfl ?_
      rcases ite_e h with ⟨c, h⟩ | ⟨c, h⟩
      · refine V.icmp_ne_f (t := 22) (pc := 17) dX0_change_17 (by decide) c ?_
        refine V.iconst (pc := 20) dX0_change_20 ic_0 ?_
        obtain ⟨rfl, rfl⟩ := Prod.mk.inj (Option.some.inj h)
        exact V.zret (pc := 21) dX0_change_21 rfl (Or.inl rfl) (Nat.le_refl _) (Nat.le_refl _)
      · refine V.icmp_ne_t (t := 22) (pc := 17) dX0_change_17 (by decide) c ?_
        refine V.aload_n (pc := 22) dX0_change_22 rfl ?_
        refine V.getR (t := 39) (pc := 23) dX0_change_23 f_RX0_15 k_cl0 lx_37 ly_37 rb_0_1 rr_37_1 ?_
        refine V.aload_n (pc := 26) dX0_change_26 rfl ?_
        refine V.getI (pc := 27) dX0_change_27 f_RX0_25 k_cl0 lx_37 ly_37 rb_0_3 ?_
        refine V.iload_n (pc := 30) dX0_change_30 rfl ?_
        obtain ⟨w2, iw2, ew2, h⟩ := wrI_e h
        refine V.iastX (pc := 31) dX0_change_31 lx_39 ly_39 iw2 ew2 ?_
        refine V.aload_n (pc := 32) dX0_change_32 rfl ?_
        refine V.getR (t := 40) (pc := 33) dX0_change_33 f_RX0_18 k_cl0 lx_37 ly_37 rb_0_2 rr_37_2 ?_
        refine V.aload_n (pc := 36) dX0_change_36 rfl ?_
        refine V.getI (pc := 37) dX0_change_37 f_RX0_25 k_cl0 lx_37 ly_37 rb_0_3 ?_
        refine V.aload_n (pc := 40) dX0_change_40 rfl ?_
        refine V.getR (t := 38) (pc := 41) dX0_change_41 f_RX0_11 k_cl0 lx_37 ly_37 rb_0_0 rr_37_0 ?_
        refine V.iload_n (pc := 44) dX0_change_44 rfl ?_
        obtain ⟨x3, ix3, ex3, h⟩ := rdI_e h
        refine V.ialdX (pc := 45) dX0_change_45 lx_38 ly_38 ix3 ex3 ?_
        obtain ⟨w4, iw4, ew4, h⟩ := wrI_e h
        refine V.iastX (pc := 46) dX0_change_46 lx_40 ly_40 iw4 ew4 ?_
        refine V.aload_n (pc := 47) dX0_change_47 rfl ?_
        refine V.aload_n (pc := 48) dX0_change_48 rfl ?_
        refine V.getI (pc := 49) dX0_change_49 f_RX0_25 k_cl0 lx_37 ly_37 rb_0_3 ?_
        refine V.iconst (pc := 52) dX0_change_52 ic_1 ?_
        refine V.iadd (pc := 53) dX0_change_53 ?_
        refine V.bipush (pc := 54) dX0_change_54 bp_12 ?_
        rcases ite_e h with ⟨c, h⟩ | ⟨c, h⟩
        · refine V.icmp_ge_t (t := 68) (pc := 56) dX0_change_56 (by decide) c ?_
          refine V.iconst (pc := 68) dX0_change_68 ic_0 ?_
          obtain ⟨w5, ew5, h⟩ := letW_e h
          refine V.putIX (pc := 69) dX0_change_69 f_RX0_25 k_cl0 lx_37 ly_37 rb_0_3 (fin_I (T0 := TX0) rfl rfl rfl) ew5 ?_
          refine V.aload_n (pc := 72) dX0_change_72 rfl ?_
          refine V.aload_n (pc := 73) dX0_change_73 rfl ?_
          refine V.getI (pc := 74) dX0_change_74 f_RX0_21 k_cl0 lx_37 ly_37 rb_0_4 ?_
          refine V.iconst (pc := 77) dX0_change_77 ic_1 ?_
          refine V.iadd (pc := 78) dX0_change_78 ?_
          refine V.bipush (pc := 79) dX0_change_79 bp_12 ?_
          refine V.mmin (pc := 81) dX0_change_81 l_RX0_28 (Nat.le_add_left 1 d) (rm_13 (Nat.le_of_ble_eq_true rfl)) ?_
          obtain ⟨w6, ew6, h⟩ := letW_e h
          refine V.putIX (pc := 84) dX0_change_84 f_RX0_21 k_cl0 lx_37 ly_37 rb_0_4 (fin_I (T0 := TX0) rfl rfl rfl) ew6 ?_
          refine V.aload_n (pc := 87) dX0_change_87 rfl ?_
          refine V.getR (t := 38) (pc := 88) dX0_change_88 f_RX0_11 k_cl0 lx_37 ly_37 rb_0_0 rr_37_0 ?_
          refine V.iload_n (pc := 91) dX0_change_91 rfl ?_
          refine V.iload_n (pc := 92) dX0_change_92 rfl ?_
          obtain ⟨w7, iw7, ew7, h⟩ := wrI_e h
          refine V.iastX (pc := 93) dX0_change_93 lx_38 ly_38 iw7 ew7 ?_
          refine V.iconst (pc := 94) dX0_change_94 ic_1 ?_
          obtain ⟨rfl, rfl⟩ := Prod.mk.inj (Option.some.inj h)
          exact V.zret (pc := 95) dX0_change_95 rfl (Or.inr rfl) (Nat.le_refl _) (Nat.le_refl _)
        · refine V.icmp_ge_f (t := 68) (pc := 56) dX0_change_56 (by decide) c ?_
          refine V.aload_n (pc := 59) dX0_change_59 rfl ?_
          refine V.getI (pc := 60) dX0_change_60 f_RX0_25 k_cl0 lx_37 ly_37 rb_0_3 ?_
          refine V.iconst (pc := 63) dX0_change_63 ic_1 ?_
          refine V.iadd (pc := 64) dX0_change_64 ?_
          refine V.goto (t := 69) (pc := 65) dX0_change_65 (by decide) ?_
          obtain ⟨w8, ew8, h⟩ := letW_e h
          refine V.putIX (pc := 69) dX0_change_69 f_RX0_25 k_cl0 lx_37 ly_37 rb_0_3 (fin_I (T0 := TX0) rfl rfl rfl) ew8 ?_
          refine V.aload_n (pc := 72) dX0_change_72 rfl ?_
          refine V.aload_n (pc := 73) dX0_change_73 rfl ?_
          refine V.getI (pc := 74) dX0_change_74 f_RX0_21 k_cl0 lx_37 ly_37 rb_0_4 ?_
          refine V.iconst (pc := 77) dX0_change_77 ic_1 ?_
          refine V.iadd (pc := 78) dX0_change_78 ?_
          refine V.bipush (pc := 79) dX0_change_79 bp_12 ?_
          refine V.mmin (pc := 81) dX0_change_81 l_RX0_28 (Nat.le_add_left 1 d) (rm_13 (Nat.le_of_ble_eq_true rfl)) ?_
          obtain ⟨w9, ew9, h⟩ := letW_e h
          refine V.putIX (pc := 84) dX0_change_84 f_RX0_21 k_cl0 lx_37 ly_37 rb_0_4 (fin_I (T0 := TX0) rfl rfl rfl) ew9 ?_
          refine V.aload_n (pc := 87) dX0_change_87 rfl ?_
          refine V.getR (t := 38) (pc := 88) dX0_change_88 f_RX0_11 k_cl0 lx_37 ly_37 rb_0_0 rr_37_0 ?_
          refine V.iload_n (pc := 91) dX0_change_91 rfl ?_
          refine V.iload_n (pc := 92) dX0_change_92 rfl ?_
          obtain ⟨w10, iw10, ew10, h⟩ := wrI_e h
          refine V.iastX (pc := 93) dX0_change_93 lx_38 ly_38 iw10 ew10 ?_
          refine V.iconst (pc := 94) dX0_change_94 ic_1 ?_
          obtain ⟨rfl, rfl⟩ := Prod.mk.inj (Option.some.inj h)
          exact V.zret (pc := 95) dX0_change_95 rfl (Or.inr rfl) (Nat.le_refl _) (Nat.le_refl _)
theorem dX11_put_0 : decode cX11_put 0 = .ok (.aload_n 0, 1) := by decide +kernel
theorem dX11_put_1 : decode cX11_put 1 = .ok (.getfield 28, 3) := by decide +kernel
theorem dX11_put_4 : decode cX11_put 4 = .ok (.iload_n 1, 1) := by decide +kernel
theorem dX11_put_5 : decode cX11_put 5 = .ok (.invokevirtual 107, 3) := by decide +kernel
theorem dX11_put_8 : decode cX11_put 8 = .ok (.ifCond .ne 5, 3) := by decide +kernel
theorem dX11_put_11 : decode cX11_put 11 = .ok (.iconst 0, 1) := by decide +kernel
theorem dX11_put_12 : decode cX11_put 12 = .ok (.ireturn, 1) := by decide +kernel
theorem dX11_put_13 : decode cX11_put 13 = .ok (.iconst 1, 1) := by decide +kernel
theorem dX11_put_14 : decode cX11_put 14 = .ok (.iload_n 1, 1) := by decide +kernel
theorem dX11_put_15 : decode cX11_put 15 = .ok (.ishl, 1) := by decide +kernel
theorem dX11_put_16 : decode cX11_put 16 = .ok (.istore_n 3, 1) := by decide +kernel
theorem dX11_put_17 : decode cX11_put 17 = .ok (.aload_n 0, 1) := by decide +kernel
theorem dX11_put_18 : decode cX11_put 18 = .ok (.getfield 74, 3) := by decide +kernel
theorem dX11_put_21 : decode cX11_put 21 = .ok (.bipush 19, 2) := by decide +kernel
theorem dX11_put_23 : decode cX11_put 23 = .ok (.iload_n 2, 1) := by decide +kernel
theorem dX11_put_24 : decode cX11_put 24 = .ok (.ifCond .eq 15, 3) := by decide +kernel
theorem dX11_put_27 : decode cX11_put 27 = .ok (.aload_n 0, 1) := by decide +kernel
theorem dX11_put_28 : decode cX11_put 28 = .ok (.getfield 74, 3) := by decide +kernel
theorem dX11_put_31 : decode cX11_put 31 = .ok (.invokevirtual 111, 3) := by decide +kernel
theorem dX11_put_34 : decode cX11_put 34 = .ok (.iload_n 3, 1) := by decide +kernel
theorem dX11_put_35 : decode cX11_put 35 = .ok (.ior, 1) := by decide +kernel
theorem dX11_put_36 : decode cX11_put 36 = .ok (.goto 14, 3) := by decide +kernel
theorem dX11_put_39 : decode cX11_put 39 = .ok (.aload_n 0, 1) := by decide +kernel
theorem dX11_put_40 : decode cX11_put 40 = .ok (.getfield 74, 3) := by decide +kernel
theorem dX11_put_43 : decode cX11_put 43 = .ok (.invokevirtual 111, 3) := by decide +kernel
theorem dX11_put_46 : decode cX11_put 46 = .ok (.iload_n 3, 1) := by decide +kernel
theorem dX11_put_47 : decode cX11_put 47 = .ok (.iconst (-1), 1) := by decide +kernel
theorem dX11_put_48 : decode cX11_put 48 = .ok (.ixor, 1) := by decide +kernel
theorem dX11_put_49 : decode cX11_put 49 = .ok (.iand, 1) := by decide +kernel
theorem dX11_put_50 : decode cX11_put 50 = .ok (.invokevirtual 114, 3) := by decide +kernel
theorem dX11_put_53 : decode cX11_put 53 = .ok (.ireturn, 1) := by decide +kernel
def f_X11_put (l1 : Int32) (l2 : Int32) (w : Wd) : Option (Int32 × Wd) :=
  if (f_X4_holds l1 w) = 0 then
    some (0, w)
  else
    if l2 = 0 then
      bnd (f_X0_set  w) fun x1 =>
      bnd2 (f_X0_change 19 (x1 &&& ((1 <<< (l1 &&& 31)) ^^^ (-1))) w) fun x2 w3 =>
      chB x2 <| some (x2, w3)
    else
      bnd (f_X0_set  w) fun x4 =>
      bnd2 (f_X0_change 19 (x4 ||| (1 <<< (l1 &&& 31))) w) fun x5 w6 =>
      chB x5 <| some (x5, w6)
set_option maxHeartbeats 4000000 in
set_option maxRecDepth 100000 in
theorem ok_X11_put {G : GT} {d : Nat} (hd : 2 ≤ d) {w : Wd} (l1 : Int32) (l2 : Int32) {r : Int32} {w' : Wd} (h : f_X11_put l1 l2 w = some (r, w')) : uC G yX11_put mX11_put d [.ref 0, .int l1, .int l2] w (some (.int r)) w' := by
  obtain ⟨d, rfl⟩ : ∃ e, d = e + 1 := ⟨d - 1, by omega⟩
  unfold f_X11_put at h
  refine uC_of (lv := [some (.ref 0), some (.int l1), some (.int l2), none]) 1 pn_X11 ⟨rfl, rfl⟩ (Nat.le_of_ble_eq_true rfl) rfl ?_
  refine V.aload_n (pc := 0) dX11_put_0 rfl ?_
  refine V.getR (t := 6) (pc := 1) dX11_put_1 f_RX11_28 k_cl11 lx_0 ly_0 rb_11_2 rr_0_2 ?_
  refine V.iload_n (pc := 4) dX11_put_4 rfl ?_
  refine U.callV (pc := 5) (As := [.int l1]) (st := []) dX11_put_5 l_RX11_107 (ok_X4_holds (by omega) l1 ) lx_6 ly_6 cn_4 (Nat.le_of_ble_eq_true rfl) rfl rfl (Nat.le_of_ble_eq_true rfl) ?_
  rcases ite_e h with ⟨c, h⟩ | ⟨c, h⟩
  · refine V.if_ne_f (t := 13) (pc := 8) dX11_put_8 (by decide) c ?_
    refine V.iconst (pc := 11) dX11_put_11 ic_0 ?_
    obtain ⟨rfl, rfl⟩ := Prod.mk.inj (Option.some.inj h)
    exact V.zret (pc := 12) dX11_put_12 rfl (Or.inl rfl) (Nat.le_refl _) (Nat.le_refl _)
  · refine V.if_ne_t (t := 13) (pc := 8) dX11_put_8 (by decide) c ?_
    refine V.iconst (pc := 13) dX11_put_13 ic_1 ?_
    refine V.iload_n (pc := 14) dX11_put_14 rfl ?_
    refine V.ishl (pc := 15) dX11_put_15 ?_
    refine V.istore_n (lv' := [some (.ref 0), some (.int l1), some (.int l2), some (.int (1 <<< (l1 &&& 31)))]) (pc := 16) dX11_put_16 (Nat.le_of_ble_eq_true rfl) rfl rfl ?_
    refine V.aload_n (pc := 17) dX11_put_17 rfl ?_
    refine V.getR (t := 37) (pc := 18) dX11_put_18 f_RX11_74 k_cl11 lx_0 ly_0 rb_11_8 rr_0_8 ?_
    refine V.bipush (pc := 21) dX11_put_21 bp_19 ?_
    refine V.iload_n (pc := 23) dX11_put_23 rfl ?_
    rcases ite_e h with ⟨c, h⟩ | ⟨c, h⟩
    · refine V.if_eq_t (t := 39) (pc := 24) dX11_put_24 (by decide) c ?_
      refine V.aload_n (pc := 39) dX11_put_39 rfl ?_
      refine V.getR (t := 37) (pc := 40) dX11_put_40 f_RX11_74 k_cl11 lx_0 ly_0 rb_11_8 rr_0_8 ?_
      obtain ⟨x1, ex1, h⟩ := bnd_e h
      refine U.callV (pc := 43) (As := []) (st := [.int 19, .ref 37]) dX11_put_43 l_RX11_111 (ok_X0_set (by omega)  ex1) lx_37 ly_37 cn_0 (Nat.le_of_ble_eq_true rfl) rfl rfl (Nat.le_of_ble_eq_true rfl) ?_
      refine V.iload_n (pc := 46) dX11_put_46 rfl ?_
      refine V.iconst (pc := 47) dX11_put_47 ic_m1 ?_
      refine V.ixor (pc := 48) dX11_put_48 ?_
      refine V.iand (pc := 49) dX11_put_49 ?_
      obtain ⟨x2, w3, ew3, h⟩ := bnd2_e h
      refine U.callV (pc := 50) (As := [.int 19, .int (x1 &&& ((1 <<< (l1 &&& 31)) ^^^ (-1)))]) (st := []) dX11_put_50 l_RX11_114 (ok_X0_change (by omega) 19 (x1 &&& ((1 <<< (l1 &&& 31)) ^^^ (-1))) ew3) lx_37 ly_37 cn_0 (Nat.le_of_ble_eq_true rfl) rfl rfl (Nat.le_of_ble_eq_true rfl) ?_
      obtain ⟨hb, h⟩ := chB_e h
      obtain ⟨rfl, rfl⟩ := Prod.mk.inj (Option.some.inj h)
      exact V.zret (pc := 53) dX11_put_53 rfl hb (Nat.le_refl _) (Nat.le_refl _)
    · refine V.if_eq_f (t := 39) (pc := 24) dX11_put_24 (by decide) c ?_
      refine V.aload_n (pc := 27) dX11_put_27 rfl ?_
      refine V.getR (t := 37) (pc := 28) dX11_put_28 f_RX11_74 k_cl11 lx_0 ly_0 rb_11_8 rr_0_8 ?_
      obtain ⟨x4, ex4, h⟩ := bnd_e h
      refine U.callV (pc := 31) (As := []) (st := [.int 19, .ref 37]) dX11_put_31 l_RX11_111 (ok_X0_set (by omega)  ex4) lx_37 ly_37 cn_0 (Nat.le_of_ble_eq_true rfl) rfl rfl (Nat.le_of_ble_eq_true rfl) ?_
      refine V.iload_n (pc := 34) dX11_put_34 rfl ?_
      refine V.ior (pc := 35) dX11_put_35 ?_
      refine V.goto (t := 50) (pc := 36) dX11_put_36 (by decide) ?_
      obtain ⟨x5, w6, ew6, h⟩ := bnd2_e h
      refine U.callV (pc := 50) (As := [.int 19, .int (x4 ||| (1 <<< (l1 &&& 31)))]) (st := []) dX11_put_50 l_RX11_114 (ok_X0_change (by omega) 19 (x4 ||| (1 <<< (l1 &&& 31))) ew6) lx_37 ly_37 cn_0 (Nat.le_of_ble_eq_true rfl) rfl rfl (Nat.le_of_ble_eq_true rfl) ?_
      obtain ⟨hb, h⟩ := chB_e h
      obtain ⟨rfl, rfl⟩ := Prod.mk.inj (Option.some.inj h)
      exact V.zret (pc := 53) dX11_put_53 rfl hb (Nat.le_refl _) (Nat.le_refl _)
theorem dX12_isElement_0 : decode cX12_isElement 0 = .ok (.iload_n 1, 1) := by decide +kernel
theorem dX12_isElement_1 : decode cX12_isElement 1 = .ok (.iconst 0, 1) := by decide +kernel
theorem dX12_isElement_2 : decode cX12_isElement 2 = .ok (.aload_n 0, 1) := by decide +kernel
theorem dX12_isElement_3 : decode cX12_isElement 3 = .ok (.getfield 92, 3) := by decide +kernel
theorem dX12_isElement_6 : decode cX12_isElement 6 = .ok (.iconst 1, 1) := by decide +kernel
theorem dX12_isElement_7 : decode cX12_isElement 7 = .ok (.isub, 1) := by decide +kernel
theorem dX12_isElement_8 : decode cX12_isElement 8 = .ok (.invokestatic 139, 3) := by decide +kernel
theorem dX12_isElement_11 : decode cX12_isElement 11 = .ok (.ireturn, 1) := by decide +kernel
def f_X12_isElement (l1 : Int32) (w : Wd) : Int32 :=
  (f_X12_in l1 0 ((w.1 44 1) - 1))
set_option maxHeartbeats 4000000 in
set_option maxRecDepth 100000 in
theorem ok_X12_isElement {G : GT} {d : Nat} (hd : 1 ≤ d) {w : Wd} (l1 : Int32) : uC G yX12_isElement mX12_isElement d [.ref 44, .int l1] w (some (.int (f_X12_isElement l1 w))) w := by
  obtain ⟨d, rfl⟩ : ∃ e, d = e + 1 := ⟨d - 1, by omega⟩
  suffices key : ∀ r, f_X12_isElement l1 w = r → uC G yX12_isElement mX12_isElement (d + 1) [.ref 44, .int l1] w (some (.int r)) w from key _ rfl
  intro r h
  unfold f_X12_isElement at h
  refine uC_of (lv := [some (.ref 44), some (.int l1)]) 0 pn_X12 ⟨rfl, rfl⟩ (Nat.le_of_ble_eq_true rfl) rfl ?_
  refine V.iload_n (pc := 0) dX12_isElement_0 rfl ?_
  refine V.iconst (pc := 1) dX12_isElement_1 ic_0 ?_
  refine V.aload_n (pc := 2) dX12_isElement_2 rfl ?_
  refine V.getI (pc := 3) dX12_isElement_3 f_RX12_92 k_cl12 lx_44 ly_44 rb_12_1 ?_
  refine V.iconst (pc := 6) dX12_isElement_6 ic_1 ?_
  refine V.isub (pc := 7) dX12_isElement_7 ?_
  refine U.callS (pc := 8) (As := [.int l1, .int 0, .int ((w.1 44 1) - 1)]) (st := []) dX12_isElement_8 l_RX12_139 (ok_X12_in (by omega) l1 0 ((w.1 44 1) - 1) ) (Nat.le_of_ble_eq_true rfl) rfl rfl (Nat.le_of_ble_eq_true rfl) ?_
  subst h
  exact V.zret (pc := 11) dX12_isElement_11 rfl (b_X12_in l1 0 ((w.1 44 1) - 1)) (Nat.le_refl _) (Nat.le_refl _)
theorem b_X12_isElement (l1 : Int32) (w : Wd) : f_X12_isElement l1 w = 0 ∨ f_X12_isElement l1 w = 1 := by
  unfold f_X12_isElement
  repeat' (first | exact Or.inl rfl | exact Or.inr rfl | apply b_tree)
  all_goals first | exact Or.inl rfl | exact Or.inr rfl | apply b_X12_in | assumption
theorem dX12_keeps_0 : decode cX12_keeps 0 = .ok (.aload_n 0, 1) := by decide +kernel
theorem dX12_keeps_1 : decode cX12_keeps 1 = .ok (.getfield 157, 3) := by decide +kernel
theorem dX12_keeps_4 : decode cX12_keeps 4 = .ok (.bipush 12, 2) := by decide +kernel
theorem dX12_keeps_6 : decode cX12_keeps 6 = .ok (.if_icmp .ne 44, 3) := by decide +kernel
theorem dX12_keeps_9 : decode cX12_keeps 9 = .ok (.bipush 20, 2) := by decide +kernel
theorem dX12_keeps_11 : decode cX12_keeps 11 = .ok (.istore_n 1, 1) := by decide +kernel
theorem dX12_keeps_12 : decode cX12_keeps 12 = .ok (.iload_n 1, 1) := by decide +kernel
theorem dX12_keeps_13 : decode cX12_keeps 13 = .ok (.sipush 240, 3) := by decide +kernel
theorem dX12_keeps_16 : decode cX12_keeps 16 = .ok (.if_icmp .ge 24, 3) := by decide +kernel
theorem dX12_keeps_19 : decode cX12_keeps 19 = .ok (.aload_n 0, 1) := by decide +kernel
theorem dX12_keeps_20 : decode cX12_keeps 20 = .ok (.getfield 45, 3) := by decide +kernel
theorem dX12_keeps_23 : decode cX12_keeps 23 = .ok (.iload_n 1, 1) := by decide +kernel
theorem dX12_keeps_24 : decode cX12_keeps 24 = .ok (.bipush 20, 2) := by decide +kernel
theorem dX12_keeps_26 : decode cX12_keeps 26 = .ok (.isub, 1) := by decide +kernel
theorem dX12_keeps_27 : decode cX12_keeps 27 = .ok (.aload_n 0, 1) := by decide +kernel
theorem dX12_keeps_28 : decode cX12_keeps 28 = .ok (.getfield 45, 3) := by decide +kernel
theorem dX12_keeps_31 : decode cX12_keeps 31 = .ok (.iload_n 1, 1) := by decide +kernel
theorem dX12_keeps_32 : decode cX12_keeps 32 = .ok (.iaload, 1) := by decide +kernel
theorem dX12_keeps_33 : decode cX12_keeps 33 = .ok (.iastore, 1) := by decide +kernel
theorem dX12_keeps_34 : decode cX12_keeps 34 = .ok (.iinc 1 1, 3) := by decide +kernel
theorem dX12_keeps_37 : decode cX12_keeps 37 = .ok (.goto (-25), 3) := by decide +kernel
theorem dX12_keeps_40 : decode cX12_keeps 40 = .ok (.aload_n 0, 1) := by decide +kernel
theorem dX12_keeps_41 : decode cX12_keeps 41 = .ok (.dup, 1) := by decide +kernel
theorem dX12_keeps_42 : decode cX12_keeps 42 = .ok (.getfield 157, 3) := by decide +kernel
theorem dX12_keeps_45 : decode cX12_keeps 45 = .ok (.iconst 1, 1) := by decide +kernel
theorem dX12_keeps_46 : decode cX12_keeps 46 = .ok (.isub, 1) := by decide +kernel
theorem dX12_keeps_47 : decode cX12_keeps 47 = .ok (.putfield 157, 3) := by decide +kernel
theorem dX12_keeps_50 : decode cX12_keeps 50 = .ok (.iconst 0, 1) := by decide +kernel
theorem dX12_keeps_51 : decode cX12_keeps 51 = .ok (.istore_n 1, 1) := by decide +kernel
theorem dX12_keeps_52 : decode cX12_keeps 52 = .ok (.iload_n 1, 1) := by decide +kernel
theorem dX12_keeps_53 : decode cX12_keeps 53 = .ok (.bipush 20, 2) := by decide +kernel
theorem dX12_keeps_55 : decode cX12_keeps 55 = .ok (.if_icmp .ge 29, 3) := by decide +kernel
theorem dX12_keeps_58 : decode cX12_keeps 58 = .ok (.aload_n 0, 1) := by decide +kernel
theorem dX12_keeps_59 : decode cX12_keeps 59 = .ok (.getfield 45, 3) := by decide +kernel
theorem dX12_keeps_62 : decode cX12_keeps 62 = .ok (.bipush 20, 2) := by decide +kernel
theorem dX12_keeps_64 : decode cX12_keeps 64 = .ok (.aload_n 0, 1) := by decide +kernel
theorem dX12_keeps_65 : decode cX12_keeps 65 = .ok (.getfield 157, 3) := by decide +kernel
theorem dX12_keeps_68 : decode cX12_keeps 68 = .ok (.imul, 1) := by decide +kernel
theorem dX12_keeps_69 : decode cX12_keeps 69 = .ok (.iload_n 1, 1) := by decide +kernel
theorem dX12_keeps_70 : decode cX12_keeps 70 = .ok (.iadd, 1) := by decide +kernel
theorem dX12_keeps_71 : decode cX12_keeps 71 = .ok (.aload_n 0, 1) := by decide +kernel
theorem dX12_keeps_72 : decode cX12_keeps 72 = .ok (.getfield 42, 3) := by decide +kernel
theorem dX12_keeps_75 : decode cX12_keeps 75 = .ok (.iload_n 1, 1) := by decide +kernel
theorem dX12_keeps_76 : decode cX12_keeps 76 = .ok (.iaload, 1) := by decide +kernel
theorem dX12_keeps_77 : decode cX12_keeps 77 = .ok (.iastore, 1) := by decide +kernel
theorem dX12_keeps_78 : decode cX12_keeps 78 = .ok (.iinc 1 1, 3) := by decide +kernel
theorem dX12_keeps_81 : decode cX12_keeps 81 = .ok (.goto (-29), 3) := by decide +kernel
theorem dX12_keeps_84 : decode cX12_keeps 84 = .ok (.aload_n 0, 1) := by decide +kernel
theorem dX12_keeps_85 : decode cX12_keeps 85 = .ok (.dup, 1) := by decide +kernel
theorem dX12_keeps_86 : decode cX12_keeps 86 = .ok (.getfield 157, 3) := by decide +kernel
theorem dX12_keeps_89 : decode cX12_keeps 89 = .ok (.iconst 1, 1) := by decide +kernel
theorem dX12_keeps_90 : decode cX12_keeps 90 = .ok (.iadd, 1) := by decide +kernel
theorem dX12_keeps_91 : decode cX12_keeps 91 = .ok (.putfield 157, 3) := by decide +kernel
theorem dX12_keeps_94 : decode cX12_keeps 94 = .ok (.return_, 1) := by decide +kernel
def f_X12_keeps_B52b (k52 : Int32 → Wd → Option Wd) (l1 : Int32) (w : Wd) : Option Wd :=
  if 20 ≤ l1 then
    letW (sI w 44 15 ((w.1 44 15) + 1)) fun w1 =>
    some w1
  else
    rdI w 54 20 l1 fun x2 =>
    wrI w 55 240 ((20 * (w.1 44 15)) + l1) x2 fun w3 =>
    k52 (l1 + 1) w3
def f_X12_keeps_L52 (n : Nat) : Int32 → Wd → Option Wd :=
  Nat.rec (fun _ _ => none) (fun _ k => f_X12_keeps_B52b k) n
set_option maxHeartbeats 4000000 in
set_option maxRecDepth 100000 in
theorem t_X12_keeps_L52 {G : GT} {d : Nat} (hd : 0 ≤ d)  : ∀ (n : Nat) (l1 : Int32) (w : Wd) (w' : Wd), f_X12_keeps_L52 n l1 w = some w' → U (vf G mX12_keeps d) 52 [some (.ref 44), some (.int l1)] [] w (none, 70, r0, w') := by
  intro n
  induction n with
  | zero => intro l1 w w' h; cases h
  | succ n h52 =>
    intro l1 w w' h
    have h : f_X12_keeps_B52b (f_X12_keeps_L52 n) l1 w = some w' := h
    unfold f_X12_keeps_B52b at h
    refine V.iload_n (pc := 52) dX12_keeps_52 rfl ?_
    refine V.bipush (pc := 53) dX12_keeps_53 bp_20 ?_
    rcases ite_e h with ⟨c, h⟩ | ⟨c, h⟩
    · refine V.icmp_ge_t (t := 84) (pc := 55) dX12_keeps_55 (by decide) c ?_
      refine V.aload_n (pc := 84) dX12_keeps_84 rfl ?_
      refine V.dup (pc := 85) dX12_keeps_85 rfl ?_
      refine V.getI (pc := 86) dX12_keeps_86 f_RX12_157 k_cl12 lx_44 ly_44 rb_12_15 ?_
      refine V.iconst (pc := 89) dX12_keeps_89 ic_1 ?_
      refine V.iadd (pc := 90) dX12_keeps_90 ?_
      obtain ⟨w1, ew1, h⟩ := letW_e h
      refine V.putIX (pc := 91) dX12_keeps_91 f_RX12_157 k_cl12 lx_44 ly_44 rb_12_15 (fin_I (T0 := TX12) rfl rfl rfl) ew1 ?_
      obtain rfl := Option.some.inj h
      exact V.vret (pc := 94) dX12_keeps_94 rfl (Nat.le_refl _) (Nat.le_refl _)
    · refine V.icmp_ge_f (t := 84) (pc := 55) dX12_keeps_55 (by decide) c ?_
      refine V.aload_n (pc := 58) dX12_keeps_58 rfl ?_
      refine V.getR (t := 55) (pc := 59) dX12_keeps_59 f_RX12_45 k_cl12 lx_44 ly_44 rb_12_14 rr_44_14 ?_
      refine V.bipush (pc := 62) dX12_keeps_62 bp_20 ?_
      refine V.aload_n (pc := 64) dX12_keeps_64 rfl ?_
      refine V.getI (pc := 65) dX12_keeps_65 f_RX12_157 k_cl12 lx_44 ly_44 rb_12_15 ?_
      refine V.imul (pc := 68) dX12_keeps_68 ?_
      refine V.iload_n (pc := 69) dX12_keeps_69 rfl ?_
      refine V.iadd (pc := 70) dX12_keeps_70 ?_
      refine V.aload_n (pc := 71) dX12_keeps_71 rfl ?_
      refine V.getR (t := 54) (pc := 72) dX12_keeps_72 f_RX12_42 k_cl12 lx_44 ly_44 rb_12_13 rr_44_13 ?_
      refine V.iload_n (pc := 75) dX12_keeps_75 rfl ?_
      obtain ⟨x2, ix2, ex2, h⟩ := rdI_e h
      refine V.ialdX (pc := 76) dX12_keeps_76 lx_54 ly_54 ix2 ex2 ?_
      obtain ⟨w3, iw3, ew3, h⟩ := wrI_e h
      refine V.iastX (pc := 77) dX12_keeps_77 lx_55 ly_55 iw3 ew3 ?_
      refine V.iinc (lv' := [some (.ref 44), some (.int (l1 + 1))]) (pc := 78) dX12_keeps_78 (Nat.le_of_ble_eq_true rfl) rfl rfl (v := (l1 + 1)) (by rw [show Int32.ofInt 1 = 1 from by decide]) rfl ?_
      refine V.goto (t := 52) (pc := 81) dX12_keeps_81 (by decide) ?_
      exact h52 (l1 + 1) w3 _ h
def f_X12_keeps_B12b (k12 : Int32 → Wd → Option Wd) (l1 : Int32) (w : Wd) : Option Wd :=
  if 240 ≤ l1 then
    letW (sI w 44 15 ((w.1 44 15) - 1)) fun w1 =>
    f_X12_keeps_L52  FU 0 w1
  else
    rdI w 55 240 l1 fun x2 =>
    wrI w 55 240 (l1 - 20) x2 fun w3 =>
    k12 (l1 + 1) w3
def f_X12_keeps_L12 (n : Nat) : Int32 → Wd → Option Wd :=
  Nat.rec (fun _ _ => none) (fun _ k => f_X12_keeps_B12b k) n
set_option maxHeartbeats 4000000 in
set_option maxRecDepth 100000 in
theorem t_X12_keeps_L12 {G : GT} {d : Nat} (hd : 0 ≤ d)  : ∀ (n : Nat) (l1 : Int32) (w : Wd) (w' : Wd), f_X12_keeps_L12 n l1 w = some w' → U (vf G mX12_keeps d) 12 [some (.ref 44), some (.int l1)] [] w (none, 70, r0, w') := by
  intro n
  induction n with
  | zero => intro l1 w w' h; cases h
  | succ n h12 =>
    intro l1 w w' h
    have h : f_X12_keeps_B12b (f_X12_keeps_L12 n) l1 w = some w' := h
    unfold f_X12_keeps_B12b at h
    refine V.iload_n (pc := 12) dX12_keeps_12 rfl ?_
    refine V.sipush (pc := 13) dX12_keeps_13 sp_240 ?_
    rcases ite_e h with ⟨c, h⟩ | ⟨c, h⟩
    · refine V.icmp_ge_t (t := 40) (pc := 16) dX12_keeps_16 (by decide) c ?_
      refine V.aload_n (pc := 40) dX12_keeps_40 rfl ?_
      refine V.dup (pc := 41) dX12_keeps_41 rfl ?_
      refine V.getI (pc := 42) dX12_keeps_42 f_RX12_157 k_cl12 lx_44 ly_44 rb_12_15 ?_
      refine V.iconst (pc := 45) dX12_keeps_45 ic_1 ?_
      refine V.isub (pc := 46) dX12_keeps_46 ?_
      obtain ⟨w1, ew1, h⟩ := letW_e h
      refine V.putIX (pc := 47) dX12_keeps_47 f_RX12_157 k_cl12 lx_44 ly_44 rb_12_15 (fin_I (T0 := TX12) rfl rfl rfl) ew1 ?_
      refine V.iconst (pc := 50) dX12_keeps_50 ic_0 ?_
      refine V.istore_n (lv' := [some (.ref 44), some (.int 0)]) (pc := 51) dX12_keeps_51 (Nat.le_of_ble_eq_true rfl) rfl rfl ?_
      exact t_X12_keeps_L52 hd FU 0 w1 _ h
    · refine V.icmp_ge_f (t := 40) (pc := 16) dX12_keeps_16 (by decide) c ?_
      refine V.aload_n (pc := 19) dX12_keeps_19 rfl ?_
      refine V.getR (t := 55) (pc := 20) dX12_keeps_20 f_RX12_45 k_cl12 lx_44 ly_44 rb_12_14 rr_44_14 ?_
      refine V.iload_n (pc := 23) dX12_keeps_23 rfl ?_
      refine V.bipush (pc := 24) dX12_keeps_24 bp_20 ?_
      refine V.isub (pc := 26) dX12_keeps_26 ?_
      refine V.aload_n (pc := 27) dX12_keeps_27 rfl ?_
      refine V.getR (t := 55) (pc := 28) dX12_keeps_28 f_RX12_45 k_cl12 lx_44 ly_44 rb_12_14 rr_44_14 ?_
      refine V.iload_n (pc := 31) dX12_keeps_31 rfl ?_
      obtain ⟨x2, ix2, ex2, h⟩ := rdI_e h
      refine V.ialdX (pc := 32) dX12_keeps_32 lx_55 ly_55 ix2 ex2 ?_
      obtain ⟨w3, iw3, ew3, h⟩ := wrI_e h
      refine V.iastX (pc := 33) dX12_keeps_33 lx_55 ly_55 iw3 ew3 ?_
      refine V.iinc (lv' := [some (.ref 44), some (.int (l1 + 1))]) (pc := 34) dX12_keeps_34 (Nat.le_of_ble_eq_true rfl) rfl rfl (v := (l1 + 1)) (by rw [show Int32.ofInt 1 = 1 from by decide]) rfl ?_
      refine V.goto (t := 12) (pc := 37) dX12_keeps_37 (by decide) ?_
      exact h12 (l1 + 1) w3 _ h
def f_X12_keeps (w : Wd) : Option Wd :=
  if (w.1 44 15) = 12 then
    f_X12_keeps_L12  FU 20 w
  else
    f_X12_keeps_L52  FU 0 w
set_option maxHeartbeats 4000000 in
set_option maxRecDepth 100000 in
theorem ok_X12_keeps {G : GT} {d : Nat} (hd : 0 ≤ d) {w : Wd}  {w' : Wd} (h : f_X12_keeps  w = some w') : uC G yX12_keeps mX12_keeps d [.ref 44] w none w' := by
  unfold f_X12_keeps at h
  refine uC_of (lv := [some (.ref 44), none]) 1 pn_X12 ⟨rfl, rfl⟩ (Nat.le_of_ble_eq_true rfl) rfl ?_
  refine V.aload_n (pc := 0) dX12_keeps_0 rfl ?_
  refine V.getI (pc := 1) dX12_keeps_1 f_RX12_157 k_cl12 lx_44 ly_44 rb_12_15 ?_
  refine V.bipush (pc := 4) dX12_keeps_4 bp_12 ?_
  rcases ite_e h with ⟨c, h⟩ | ⟨c, h⟩
  · refine V.icmp_ne_f (t := 50) (pc := 6) dX12_keeps_6 (by decide) c ?_
    refine V.bipush (pc := 9) dX12_keeps_9 bp_20 ?_
    refine V.istore_n (lv' := [some (.ref 44), some (.int 20)]) (pc := 11) dX12_keeps_11 (Nat.le_of_ble_eq_true rfl) rfl rfl ?_
    exact t_X12_keeps_L12 hd FU 20 w _ h
  · refine V.icmp_ne_t (t := 50) (pc := 6) dX12_keeps_6 (by decide) c ?_
    refine V.iconst (pc := 50) dX12_keeps_50 ic_0 ?_
    refine V.istore_n (lv' := [some (.ref 44), some (.int 0)]) (pc := 51) dX12_keeps_51 (Nat.le_of_ble_eq_true rfl) rfl rfl ?_
    exact t_X12_keeps_L52 hd FU 0 w _ h
theorem dX12_changes_0 : decode cX12_changes 0 = .ok (.aload_n 0, 1) := by decide +kernel
theorem dX12_changes_1 : decode cX12_changes 1 = .ok (.getfield 42, 3) := by decide +kernel
theorem dX12_changes_4 : decode cX12_changes 4 = .ok (.iload_n 1, 1) := by decide +kernel
theorem dX12_changes_5 : decode cX12_changes 5 = .ok (.iaload, 1) := by decide +kernel
theorem dX12_changes_6 : decode cX12_changes 6 = .ok (.iload_n 2, 1) := by decide +kernel
theorem dX12_changes_7 : decode cX12_changes 7 = .ok (.if_icmp .ne 5, 3) := by decide +kernel
theorem dX12_changes_10 : decode cX12_changes 10 = .ok (.iconst (-1), 1) := by decide +kernel
theorem dX12_changes_11 : decode cX12_changes 11 = .ok (.ireturn, 1) := by decide +kernel
theorem dX12_changes_12 : decode cX12_changes 12 = .ok (.aload_n 0, 1) := by decide +kernel
theorem dX12_changes_13 : decode cX12_changes 13 = .ok (.invokevirtual 160, 3) := by decide +kernel
theorem dX12_changes_16 : decode cX12_changes 16 = .ok (.aload_n 0, 1) := by decide +kernel
theorem dX12_changes_17 : decode cX12_changes 17 = .ok (.getfield 42, 3) := by decide +kernel
theorem dX12_changes_20 : decode cX12_changes 20 = .ok (.iload_n 1, 1) := by decide +kernel
theorem dX12_changes_21 : decode cX12_changes 21 = .ok (.iaload, 1) := by decide +kernel
theorem dX12_changes_22 : decode cX12_changes 22 = .ok (.istore_n 3, 1) := by decide +kernel
theorem dX12_changes_23 : decode cX12_changes 23 = .ok (.aload_n 0, 1) := by decide +kernel
theorem dX12_changes_24 : decode cX12_changes 24 = .ok (.getfield 42, 3) := by decide +kernel
theorem dX12_changes_27 : decode cX12_changes 27 = .ok (.iload_n 1, 1) := by decide +kernel
theorem dX12_changes_28 : decode cX12_changes 28 = .ok (.iload_n 2, 1) := by decide +kernel
theorem dX12_changes_29 : decode cX12_changes 29 = .ok (.iastore, 1) := by decide +kernel
theorem dX12_changes_30 : decode cX12_changes 30 = .ok (.iload_n 3, 1) := by decide +kernel
theorem dX12_changes_31 : decode cX12_changes 31 = .ok (.ireturn, 1) := by decide +kernel
def f_X12_changes (l1 : Int32) (l2 : Int32) (w : Wd) : Option (Int32 × Wd) :=
  rdI w 54 20 l1 fun x1 =>
  if x1 = l2 then
    some ((-1), w)
  else
    bnd (f_X12_keeps  w) fun w2 =>
    rdI w2 54 20 l1 fun x3 =>
    wrI w2 54 20 l1 l2 fun w4 =>
    some (x3, w4)
set_option maxHeartbeats 4000000 in
set_option maxRecDepth 100000 in
theorem ok_X12_changes {G : GT} {d : Nat} (hd : 1 ≤ d) {w : Wd} (l1 : Int32) (l2 : Int32) {r : Int32} {w' : Wd} (h : f_X12_changes l1 l2 w = some (r, w')) : uC G yX12_changes mX12_changes d [.ref 44, .int l1, .int l2] w (some (.int r)) w' := by
  obtain ⟨d, rfl⟩ : ∃ e, d = e + 1 := ⟨d - 1, by omega⟩
  unfold f_X12_changes at h
  refine uC_of (lv := [some (.ref 44), some (.int l1), some (.int l2), none]) 1 pn_X12 ⟨rfl, rfl⟩ (Nat.le_of_ble_eq_true rfl) rfl ?_
  refine V.aload_n (pc := 0) dX12_changes_0 rfl ?_
  refine V.getR (t := 54) (pc := 1) dX12_changes_1 f_RX12_42 k_cl12 lx_44 ly_44 rb_12_13 rr_44_13 ?_
  refine V.iload_n (pc := 4) dX12_changes_4 rfl ?_
  obtain ⟨x1, ix1, ex1, h⟩ := rdI_e h
  refine V.ialdX (pc := 5) dX12_changes_5 lx_54 ly_54 ix1 ex1 ?_
  refine V.iload_n (pc := 6) dX12_changes_6 rfl ?_
  rcases ite_e h with ⟨c, h⟩ | ⟨c, h⟩
  · refine V.icmp_ne_f (t := 12) (pc := 7) dX12_changes_7 (by decide) c ?_
    refine V.iconst (pc := 10) dX12_changes_10 ic_m1 ?_
    obtain ⟨rfl, rfl⟩ := Prod.mk.inj (Option.some.inj h)
    exact V.iret (pc := 11) dX12_changes_11 rfl (Nat.le_refl _) (Nat.le_refl _)
  · refine V.icmp_ne_t (t := 12) (pc := 7) dX12_changes_7 (by decide) c ?_
    refine V.aload_n (pc := 12) dX12_changes_12 rfl ?_
    obtain ⟨w2, ew2, h⟩ := bnd_e h
    refine U.callV (pc := 13) (As := []) (st := []) dX12_changes_13 l_RX12_160 (ok_X12_keeps (by omega)  ew2) lx_44 ly_44 cn_12 (Nat.le_of_ble_eq_true rfl) rfl rfl (Nat.le_of_ble_eq_true rfl) ?_
    refine V.aload_n (pc := 16) dX12_changes_16 rfl ?_
    refine V.getR (t := 54) (pc := 17) dX12_changes_17 f_RX12_42 k_cl12 lx_44 ly_44 rb_12_13 rr_44_13 ?_
    refine V.iload_n (pc := 20) dX12_changes_20 rfl ?_
    obtain ⟨x3, ix3, ex3, h⟩ := rdI_e h
    refine V.ialdX (pc := 21) dX12_changes_21 lx_54 ly_54 ix3 ex3 ?_
    refine V.istore_n (lv' := [some (.ref 44), some (.int l1), some (.int l2), some (.int x3)]) (pc := 22) dX12_changes_22 (Nat.le_of_ble_eq_true rfl) rfl rfl ?_
    refine V.aload_n (pc := 23) dX12_changes_23 rfl ?_
    refine V.getR (t := 54) (pc := 24) dX12_changes_24 f_RX12_42 k_cl12 lx_44 ly_44 rb_12_13 rr_44_13 ?_
    refine V.iload_n (pc := 27) dX12_changes_27 rfl ?_
    refine V.iload_n (pc := 28) dX12_changes_28 rfl ?_
    obtain ⟨w4, iw4, ew4, h⟩ := wrI_e h
    refine V.iastX (pc := 29) dX12_changes_29 lx_54 ly_54 iw4 ew4 ?_
    refine V.iload_n (pc := 30) dX12_changes_30 rfl ?_
    obtain ⟨rfl, rfl⟩ := Prod.mk.inj (Option.some.inj h)
    exact V.iret (pc := 31) dX12_changes_31 rfl (Nat.le_refl _) (Nat.le_refl _)
theorem dX12_put_0 : decode cX12_put 0 = .ok (.aload_n 0, 1) := by decide +kernel
theorem dX12_put_1 : decode cX12_put 1 = .ok (.iload_n 1, 1) := by decide +kernel
theorem dX12_put_2 : decode cX12_put 2 = .ok (.invokevirtual 163, 3) := by decide +kernel
theorem dX12_put_5 : decode cX12_put 5 = .ok (.ifCond .eq 17, 3) := by decide +kernel
theorem dX12_put_8 : decode cX12_put 8 = .ok (.aload_n 0, 1) := by decide +kernel
theorem dX12_put_9 : decode cX12_put 9 = .ok (.getfield 42, 3) := by decide +kernel
theorem dX12_put_12 : decode cX12_put 12 = .ok (.iconst 0, 1) := by decide +kernel
theorem dX12_put_13 : decode cX12_put 13 = .ok (.iaload, 1) := by decide +kernel
theorem dX12_put_14 : decode cX12_put 14 = .ok (.iload_n 1, 1) := by decide +kernel
theorem dX12_put_15 : decode cX12_put 15 = .ok (.invokestatic 128, 3) := by decide +kernel
theorem dX12_put_18 : decode cX12_put 18 = .ok (.iload_n 2, 1) := by decide +kernel
theorem dX12_put_19 : decode cX12_put 19 = .ok (.if_icmp .ne 5, 3) := by decide +kernel
theorem dX12_put_22 : decode cX12_put 22 = .ok (.iconst 0, 1) := by decide +kernel
theorem dX12_put_23 : decode cX12_put 23 = .ok (.ireturn, 1) := by decide +kernel
theorem dX12_put_24 : decode cX12_put 24 = .ok (.aload_n 0, 1) := by decide +kernel
theorem dX12_put_25 : decode cX12_put 25 = .ok (.iconst 0, 1) := by decide +kernel
theorem dX12_put_26 : decode cX12_put 26 = .ok (.aload_n 0, 1) := by decide +kernel
theorem dX12_put_27 : decode cX12_put 27 = .ok (.getfield 42, 3) := by decide +kernel
theorem dX12_put_30 : decode cX12_put 30 = .ok (.iconst 0, 1) := by decide +kernel
theorem dX12_put_31 : decode cX12_put 31 = .ok (.iaload, 1) := by decide +kernel
theorem dX12_put_32 : decode cX12_put 32 = .ok (.iconst 1, 1) := by decide +kernel
theorem dX12_put_33 : decode cX12_put 33 = .ok (.iload_n 1, 1) := by decide +kernel
theorem dX12_put_34 : decode cX12_put 34 = .ok (.ishl, 1) := by decide +kernel
theorem dX12_put_35 : decode cX12_put 35 = .ok (.ixor, 1) := by decide +kernel
theorem dX12_put_36 : decode cX12_put 36 = .ok (.invokevirtual 166, 3) := by decide +kernel
theorem dX12_put_39 : decode cX12_put 39 = .ok (.iconst (-1), 1) := by decide +kernel
theorem dX12_put_40 : decode cX12_put 40 = .ok (.if_icmp .eq 7, 3) := by decide +kernel
theorem dX12_put_43 : decode cX12_put 43 = .ok (.iconst 1, 1) := by decide +kernel
theorem dX12_put_44 : decode cX12_put 44 = .ok (.goto 4, 3) := by decide +kernel
theorem dX12_put_47 : decode cX12_put 47 = .ok (.iconst 0, 1) := by decide +kernel
theorem dX12_put_48 : decode cX12_put 48 = .ok (.ireturn, 1) := by decide +kernel
def f_X12_put (l1 : Int32) (l2 : Int32) (w : Wd) : Option (Int32 × Wd) :=
  if (f_X12_isElement l1 w) = 0 then
    some (0, w)
  else
    rdI w 54 20 0 fun x1 =>
    if (f_X12_has x1 l1) = l2 then
      some (0, w)
    else
      rdI w 54 20 0 fun x2 =>
      bnd2 (f_X12_changes 0 (x2 ^^^ (1 <<< (l1 &&& 31))) w) fun x3 w4 =>
      if x3 = (-1) then
        some (0, w4)
      else
        some (1, w4)
set_option maxHeartbeats 4000000 in
set_option maxRecDepth 100000 in
theorem ok_X12_put {G : GT} {d : Nat} (hd : 2 ≤ d) {w : Wd} (l1 : Int32) (l2 : Int32) {r : Int32} {w' : Wd} (h : f_X12_put l1 l2 w = some (r, w')) : uC G yX12_put mX12_put d [.ref 44, .int l1, .int l2] w (some (.int r)) w' := by
  obtain ⟨d, rfl⟩ : ∃ e, d = e + 1 := ⟨d - 1, by omega⟩
  unfold f_X12_put at h
  refine uC_of (lv := [some (.ref 44), some (.int l1), some (.int l2)]) 0 pn_X12 ⟨rfl, rfl⟩ (Nat.le_of_ble_eq_true rfl) rfl ?_
  refine V.aload_n (pc := 0) dX12_put_0 rfl ?_
  refine V.iload_n (pc := 1) dX12_put_1 rfl ?_
  refine U.callV (pc := 2) (As := [.int l1]) (st := []) dX12_put_2 l_RX12_163 (ok_X12_isElement (by omega) l1 ) lx_44 ly_44 cn_12 (Nat.le_of_ble_eq_true rfl) rfl rfl (Nat.le_of_ble_eq_true rfl) ?_
  rcases ite_e h with ⟨c, h⟩ | ⟨c, h⟩
  · refine V.if_eq_t (t := 22) (pc := 5) dX12_put_5 (by decide) c ?_
    refine V.iconst (pc := 22) dX12_put_22 ic_0 ?_
    obtain ⟨rfl, rfl⟩ := Prod.mk.inj (Option.some.inj h)
    exact V.zret (pc := 23) dX12_put_23 rfl (Or.inl rfl) (Nat.le_refl _) (Nat.le_refl _)
  · refine V.if_eq_f (t := 22) (pc := 5) dX12_put_5 (by decide) c ?_
    refine V.aload_n (pc := 8) dX12_put_8 rfl ?_
    refine V.getR (t := 54) (pc := 9) dX12_put_9 f_RX12_42 k_cl12 lx_44 ly_44 rb_12_13 rr_44_13 ?_
    refine V.iconst (pc := 12) dX12_put_12 ic_0 ?_
    obtain ⟨x1, ix1, ex1, h⟩ := rdI_e h
    refine V.ialdX (pc := 13) dX12_put_13 lx_54 ly_54 ix1 ex1 ?_
    refine V.iload_n (pc := 14) dX12_put_14 rfl ?_
    refine U.callS (pc := 15) (As := [.int x1, .int l1]) (st := []) dX12_put_15 l_RX12_128 (ok_X12_has (by omega) x1 l1 ) (Nat.le_of_ble_eq_true rfl) rfl rfl (Nat.le_of_ble_eq_true rfl) ?_
    refine V.iload_n (pc := 18) dX12_put_18 rfl ?_
    rcases ite_e h with ⟨c, h⟩ | ⟨c, h⟩
    · refine V.icmp_ne_f (t := 24) (pc := 19) dX12_put_19 (by decide) c ?_
      refine V.iconst (pc := 22) dX12_put_22 ic_0 ?_
      obtain ⟨rfl, rfl⟩ := Prod.mk.inj (Option.some.inj h)
      exact V.zret (pc := 23) dX12_put_23 rfl (Or.inl rfl) (Nat.le_refl _) (Nat.le_refl _)
    · refine V.icmp_ne_t (t := 24) (pc := 19) dX12_put_19 (by decide) c ?_
      refine V.aload_n (pc := 24) dX12_put_24 rfl ?_
      refine V.iconst (pc := 25) dX12_put_25 ic_0 ?_
      refine V.aload_n (pc := 26) dX12_put_26 rfl ?_
      refine V.getR (t := 54) (pc := 27) dX12_put_27 f_RX12_42 k_cl12 lx_44 ly_44 rb_12_13 rr_44_13 ?_
      refine V.iconst (pc := 30) dX12_put_30 ic_0 ?_
      obtain ⟨x2, ix2, ex2, h⟩ := rdI_e h
      refine V.ialdX (pc := 31) dX12_put_31 lx_54 ly_54 ix2 ex2 ?_
      refine V.iconst (pc := 32) dX12_put_32 ic_1 ?_
      refine V.iload_n (pc := 33) dX12_put_33 rfl ?_
      refine V.ishl (pc := 34) dX12_put_34 ?_
      refine V.ixor (pc := 35) dX12_put_35 ?_
      obtain ⟨x3, w4, ew4, h⟩ := bnd2_e h
      refine U.callV (pc := 36) (As := [.int 0, .int (x2 ^^^ (1 <<< (l1 &&& 31)))]) (st := []) dX12_put_36 l_RX12_166 (ok_X12_changes (by omega) 0 (x2 ^^^ (1 <<< (l1 &&& 31))) ew4) lx_44 ly_44 cn_12 (Nat.le_of_ble_eq_true rfl) rfl rfl (Nat.le_of_ble_eq_true rfl) ?_
      refine V.iconst (pc := 39) dX12_put_39 ic_m1 ?_
      rcases ite_e h with ⟨c, h⟩ | ⟨c, h⟩
      · refine V.icmp_eq_t (t := 47) (pc := 40) dX12_put_40 (by decide) c ?_
        refine V.iconst (pc := 47) dX12_put_47 ic_0 ?_
        obtain ⟨rfl, rfl⟩ := Prod.mk.inj (Option.some.inj h)
        exact V.zret (pc := 48) dX12_put_48 rfl (Or.inl rfl) (Nat.le_refl _) (Nat.le_refl _)
      · refine V.icmp_eq_f (t := 47) (pc := 40) dX12_put_40 (by decide) c ?_
        refine V.iconst (pc := 43) dX12_put_43 ic_1 ?_
        refine V.goto (t := 48) (pc := 44) dX12_put_44 (by decide) ?_
        obtain ⟨rfl, rfl⟩ := Prod.mk.inj (Option.some.inj h)
        exact V.zret (pc := 48) dX12_put_48 rfl (Or.inr rfl) (Nat.le_refl _) (Nat.le_refl _)
theorem dX4_holdsSet_0 : decode cX4_holdsSet 0 = .ok (.iload_n 1, 1) := by decide +kernel
theorem dX4_holdsSet_1 : decode cX4_holdsSet 1 = .ok (.aload_n 0, 1) := by decide +kernel
theorem dX4_holdsSet_2 : decode cX4_holdsSet 2 = .ok (.getfield 52, 3) := by decide +kernel
theorem dX4_holdsSet_5 : decode cX4_holdsSet 5 = .ok (.iconst (-1), 1) := by decide +kernel
theorem dX4_holdsSet_6 : decode cX4_holdsSet 6 = .ok (.ixor, 1) := by decide +kernel
theorem dX4_holdsSet_7 : decode cX4_holdsSet 7 = .ok (.iand, 1) := by decide +kernel
theorem dX4_holdsSet_8 : decode cX4_holdsSet 8 = .ok (.ifCond .ne 7, 3) := by decide +kernel
theorem dX4_holdsSet_11 : decode cX4_holdsSet 11 = .ok (.iconst 1, 1) := by decide +kernel
theorem dX4_holdsSet_12 : decode cX4_holdsSet 12 = .ok (.goto 4, 3) := by decide +kernel
theorem dX4_holdsSet_15 : decode cX4_holdsSet 15 = .ok (.iconst 0, 1) := by decide +kernel
theorem dX4_holdsSet_16 : decode cX4_holdsSet 16 = .ok (.ireturn, 1) := by decide +kernel
def f_X4_holdsSet (l1 : Int32) (w : Wd) : Int32 :=
  if (l1 &&& ((w.1 6 8) ^^^ (-1))) = 0 then
    (1 : Int32)
  else
    (0 : Int32)
set_option maxHeartbeats 4000000 in
set_option maxRecDepth 100000 in
theorem ok_X4_holdsSet {G : GT} {d : Nat} (hd : 0 ≤ d) {w : Wd} (l1 : Int32) : uC G yX4_holdsSet mX4_holdsSet d [.ref 6, .int l1] w (some (.int (f_X4_holdsSet l1 w))) w := by
  suffices key : ∀ r, f_X4_holdsSet l1 w = r → uC G yX4_holdsSet mX4_holdsSet d [.ref 6, .int l1] w (some (.int r)) w from key _ rfl
  intro r h
  unfold f_X4_holdsSet at h
  refine uC_of (lv := [some (.ref 6), some (.int l1)]) 0 pn_X4 ⟨rfl, rfl⟩ (Nat.le_of_ble_eq_true rfl) rfl ?_
  refine V.iload_n (pc := 0) dX4_holdsSet_0 rfl ?_
  refine V.aload_n (pc := 1) dX4_holdsSet_1 rfl ?_
  refine V.getI (pc := 2) dX4_holdsSet_2 f_RX4_52 k_cl4 lx_6 ly_6 rb_4_8 ?_
  refine V.iconst (pc := 5) dX4_holdsSet_5 ic_m1 ?_
  refine V.ixor (pc := 6) dX4_holdsSet_6 ?_
  refine V.iand (pc := 7) dX4_holdsSet_7 ?_
  rcases ite_e h with ⟨c, h⟩ | ⟨c, h⟩
  · refine V.if_ne_f (t := 15) (pc := 8) dX4_holdsSet_8 (by decide) c ?_
    refine V.iconst (pc := 11) dX4_holdsSet_11 ic_1 ?_
    refine V.goto (t := 16) (pc := 12) dX4_holdsSet_12 (by decide) ?_
    subst h
    exact V.zret (pc := 16) dX4_holdsSet_16 rfl (Or.inr rfl) (Nat.le_refl _) (Nat.le_refl _)
  · refine V.if_ne_t (t := 15) (pc := 8) dX4_holdsSet_8 (by decide) c ?_
    refine V.iconst (pc := 15) dX4_holdsSet_15 ic_0 ?_
    subst h
    exact V.zret (pc := 16) dX4_holdsSet_16 rfl (Or.inl rfl) (Nat.le_refl _) (Nat.le_refl _)
theorem b_X4_holdsSet (l1 : Int32) (w : Wd) : f_X4_holdsSet l1 w = 0 ∨ f_X4_holdsSet l1 w = 1 := by
  unfold f_X4_holdsSet
  repeat' (first | exact Or.inl rfl | exact Or.inr rfl | apply b_tree)
  all_goals first | exact Or.inl rfl | exact Or.inr rfl | assumption
theorem dX11_become_0 : decode cX11_become 0 = .ok (.aload_n 0, 1) := by decide +kernel
theorem dX11_become_1 : decode cX11_become 1 = .ok (.getfield 74, 3) := by decide +kernel
theorem dX11_become_4 : decode cX11_become 4 = .ok (.invokevirtual 111, 3) := by decide +kernel
theorem dX11_become_7 : decode cX11_become 7 = .ok (.istore_n 2, 1) := by decide +kernel
theorem dX11_become_8 : decode cX11_become 8 = .ok (.aload_n 0, 1) := by decide +kernel
theorem dX11_become_9 : decode cX11_become 9 = .ok (.getfield 28, 3) := by decide +kernel
theorem dX11_become_12 : decode cX11_become 12 = .ok (.iload_n 1, 1) := by decide +kernel
theorem dX11_become_13 : decode cX11_become 13 = .ok (.invokevirtual 118, 3) := by decide +kernel
theorem dX11_become_16 : decode cX11_become 16 = .ok (.ifCond .eq 20, 3) := by decide +kernel
theorem dX11_become_19 : decode cX11_become 19 = .ok (.aload_n 0, 1) := by decide +kernel
theorem dX11_become_20 : decode cX11_become 20 = .ok (.getfield 74, 3) := by decide +kernel
theorem dX11_become_23 : decode cX11_become 23 = .ok (.bipush 19, 2) := by decide +kernel
theorem dX11_become_25 : decode cX11_become 25 = .ok (.iload_n 1, 1) := by decide +kernel
theorem dX11_become_26 : decode cX11_become 26 = .ok (.invokevirtual 114, 3) := by decide +kernel
theorem dX11_become_29 : decode cX11_become 29 = .ok (.ifCond .eq 7, 3) := by decide +kernel
theorem dX11_become_32 : decode cX11_become 32 = .ok (.iload_n 2, 1) := by decide +kernel
theorem dX11_become_33 : decode cX11_become 33 = .ok (.goto 4, 3) := by decide +kernel
theorem dX11_become_36 : decode cX11_become 36 = .ok (.iconst (-1), 1) := by decide +kernel
theorem dX11_become_37 : decode cX11_become 37 = .ok (.ireturn, 1) := by decide +kernel
def f_X11_become (l1 : Int32) (w : Wd) : Option (Int32 × Wd) :=
  bnd (f_X0_set  w) fun x1 =>
  if (f_X4_holdsSet l1 w) = 0 then
    some ((-1), w)
  else
    bnd2 (f_X0_change 19 l1 w) fun x2 w3 =>
    if x2 = 0 then
      some ((-1), w3)
    else
      some (x1, w3)
set_option maxHeartbeats 4000000 in
set_option maxRecDepth 100000 in
theorem ok_X11_become {G : GT} {d : Nat} (hd : 2 ≤ d) {w : Wd} (l1 : Int32) {r : Int32} {w' : Wd} (h : f_X11_become l1 w = some (r, w')) : uC G yX11_become mX11_become d [.ref 0, .int l1] w (some (.int r)) w' := by
  obtain ⟨d, rfl⟩ : ∃ e, d = e + 1 := ⟨d - 1, by omega⟩
  unfold f_X11_become at h
  refine uC_of (lv := [some (.ref 0), some (.int l1), none]) 1 pn_X11 ⟨rfl, rfl⟩ (Nat.le_of_ble_eq_true rfl) rfl ?_
  refine V.aload_n (pc := 0) dX11_become_0 rfl ?_
  refine V.getR (t := 37) (pc := 1) dX11_become_1 f_RX11_74 k_cl11 lx_0 ly_0 rb_11_8 rr_0_8 ?_
  obtain ⟨x1, ex1, h⟩ := bnd_e h
  refine U.callV (pc := 4) (As := []) (st := []) dX11_become_4 l_RX11_111 (ok_X0_set (by omega)  ex1) lx_37 ly_37 cn_0 (Nat.le_of_ble_eq_true rfl) rfl rfl (Nat.le_of_ble_eq_true rfl) ?_
  refine V.istore_n (lv' := [some (.ref 0), some (.int l1), some (.int x1)]) (pc := 7) dX11_become_7 (Nat.le_of_ble_eq_true rfl) rfl rfl ?_
  refine V.aload_n (pc := 8) dX11_become_8 rfl ?_
  refine V.getR (t := 6) (pc := 9) dX11_become_9 f_RX11_28 k_cl11 lx_0 ly_0 rb_11_2 rr_0_2 ?_
  refine V.iload_n (pc := 12) dX11_become_12 rfl ?_
  refine U.callV (pc := 13) (As := [.int l1]) (st := []) dX11_become_13 l_RX11_118 (ok_X4_holdsSet (by omega) l1 ) lx_6 ly_6 cn_4 (Nat.le_of_ble_eq_true rfl) rfl rfl (Nat.le_of_ble_eq_true rfl) ?_
  rcases ite_e h with ⟨c, h⟩ | ⟨c, h⟩
  · refine V.if_eq_t (t := 36) (pc := 16) dX11_become_16 (by decide) c ?_
    refine V.iconst (pc := 36) dX11_become_36 ic_m1 ?_
    obtain ⟨rfl, rfl⟩ := Prod.mk.inj (Option.some.inj h)
    exact V.iret (pc := 37) dX11_become_37 rfl (Nat.le_refl _) (Nat.le_refl _)
  · refine V.if_eq_f (t := 36) (pc := 16) dX11_become_16 (by decide) c ?_
    refine V.aload_n (pc := 19) dX11_become_19 rfl ?_
    refine V.getR (t := 37) (pc := 20) dX11_become_20 f_RX11_74 k_cl11 lx_0 ly_0 rb_11_8 rr_0_8 ?_
    refine V.bipush (pc := 23) dX11_become_23 bp_19 ?_
    refine V.iload_n (pc := 25) dX11_become_25 rfl ?_
    obtain ⟨x2, w3, ew3, h⟩ := bnd2_e h
    refine U.callV (pc := 26) (As := [.int 19, .int l1]) (st := []) dX11_become_26 l_RX11_114 (ok_X0_change (by omega) 19 l1 ew3) lx_37 ly_37 cn_0 (Nat.le_of_ble_eq_true rfl) rfl rfl (Nat.le_of_ble_eq_true rfl) ?_
    rcases ite_e h with ⟨c, h⟩ | ⟨c, h⟩
    · refine V.if_eq_t (t := 36) (pc := 29) dX11_become_29 (by decide) c ?_
      refine V.iconst (pc := 36) dX11_become_36 ic_m1 ?_
      obtain ⟨rfl, rfl⟩ := Prod.mk.inj (Option.some.inj h)
      exact V.iret (pc := 37) dX11_become_37 rfl (Nat.le_refl _) (Nat.le_refl _)
    · refine V.if_eq_f (t := 36) (pc := 29) dX11_become_29 (by decide) c ?_
      refine V.iload_n (pc := 32) dX11_become_32 rfl ?_
      refine V.goto (t := 37) (pc := 33) dX11_become_33 (by decide) ?_
      obtain ⟨rfl, rfl⟩ := Prod.mk.inj (Option.some.inj h)
      exact V.iret (pc := 37) dX11_become_37 rfl (Nat.le_refl _) (Nat.le_refl _)
theorem dX12_all_0 : decode cX12_all 0 = .ok (.iconst 1, 1) := by decide +kernel
theorem dX12_all_1 : decode cX12_all 1 = .ok (.aload_n 0, 1) := by decide +kernel
theorem dX12_all_2 : decode cX12_all 2 = .ok (.getfield 92, 3) := by decide +kernel
theorem dX12_all_5 : decode cX12_all 5 = .ok (.ishl, 1) := by decide +kernel
theorem dX12_all_6 : decode cX12_all 6 = .ok (.iconst 1, 1) := by decide +kernel
theorem dX12_all_7 : decode cX12_all 7 = .ok (.isub, 1) := by decide +kernel
theorem dX12_all_8 : decode cX12_all 8 = .ok (.ireturn, 1) := by decide +kernel
def f_X12_all (w : Wd) : Int32 :=
  ((1 <<< ((w.1 44 1) &&& 31)) - 1)
set_option maxHeartbeats 4000000 in
set_option maxRecDepth 100000 in
theorem ok_X12_all {G : GT} {d : Nat} (hd : 0 ≤ d) {w : Wd}  : uC G yX12_all mX12_all d [.ref 44] w (some (.int (f_X12_all  w))) w := by
  suffices key : ∀ r, f_X12_all  w = r → uC G yX12_all mX12_all d [.ref 44] w (some (.int r)) w from key _ rfl
  intro r h
  unfold f_X12_all at h
  refine uC_of (lv := [some (.ref 44)]) 0 pn_X12 ⟨rfl, rfl⟩ (Nat.le_of_ble_eq_true rfl) rfl ?_
  refine V.iconst (pc := 0) dX12_all_0 ic_1 ?_
  refine V.aload_n (pc := 1) dX12_all_1 rfl ?_
  refine V.getI (pc := 2) dX12_all_2 f_RX12_92 k_cl12 lx_44 ly_44 rb_12_1 ?_
  refine V.ishl (pc := 5) dX12_all_5 ?_
  refine V.iconst (pc := 6) dX12_all_6 ic_1 ?_
  refine V.isub (pc := 7) dX12_all_7 ?_
  subst h
  exact V.iret (pc := 8) dX12_all_8 rfl (Nat.le_refl _) (Nat.le_refl _)
theorem dX12_isSet_0 : decode cX12_isSet 0 = .ok (.iload_n 1, 1) := by decide +kernel
theorem dX12_isSet_1 : decode cX12_isSet 1 = .ok (.iconst 0, 1) := by decide +kernel
theorem dX12_isSet_2 : decode cX12_isSet 2 = .ok (.aload_n 0, 1) := by decide +kernel
theorem dX12_isSet_3 : decode cX12_isSet 3 = .ok (.invokevirtual 143, 3) := by decide +kernel
theorem dX12_isSet_6 : decode cX12_isSet 6 = .ok (.invokestatic 139, 3) := by decide +kernel
theorem dX12_isSet_9 : decode cX12_isSet 9 = .ok (.ireturn, 1) := by decide +kernel
def f_X12_isSet (l1 : Int32) (w : Wd) : Int32 :=
  (f_X12_in l1 0 (f_X12_all  w))
set_option maxHeartbeats 4000000 in
set_option maxRecDepth 100000 in
theorem ok_X12_isSet {G : GT} {d : Nat} (hd : 1 ≤ d) {w : Wd} (l1 : Int32) : uC G yX12_isSet mX12_isSet d [.ref 44, .int l1] w (some (.int (f_X12_isSet l1 w))) w := by
  obtain ⟨d, rfl⟩ : ∃ e, d = e + 1 := ⟨d - 1, by omega⟩
  suffices key : ∀ r, f_X12_isSet l1 w = r → uC G yX12_isSet mX12_isSet (d + 1) [.ref 44, .int l1] w (some (.int r)) w from key _ rfl
  intro r h
  unfold f_X12_isSet at h
  refine uC_of (lv := [some (.ref 44), some (.int l1)]) 0 pn_X12 ⟨rfl, rfl⟩ (Nat.le_of_ble_eq_true rfl) rfl ?_
  refine V.iload_n (pc := 0) dX12_isSet_0 rfl ?_
  refine V.iconst (pc := 1) dX12_isSet_1 ic_0 ?_
  refine V.aload_n (pc := 2) dX12_isSet_2 rfl ?_
  refine U.callV (pc := 3) (As := []) (st := [.int 0, .int l1]) dX12_isSet_3 l_RX12_143 (ok_X12_all (by omega)  ) lx_44 ly_44 cn_12 (Nat.le_of_ble_eq_true rfl) rfl rfl (Nat.le_of_ble_eq_true rfl) ?_
  refine U.callS (pc := 6) (As := [.int l1, .int 0, .int (f_X12_all  w)]) (st := []) dX12_isSet_6 l_RX12_139 (ok_X12_in (by omega) l1 0 (f_X12_all  w) ) (Nat.le_of_ble_eq_true rfl) rfl rfl (Nat.le_of_ble_eq_true rfl) ?_
  subst h
  exact V.zret (pc := 9) dX12_isSet_9 rfl (b_X12_in l1 0 (f_X12_all  w)) (Nat.le_refl _) (Nat.le_refl _)
theorem b_X12_isSet (l1 : Int32) (w : Wd) : f_X12_isSet l1 w = 0 ∨ f_X12_isSet l1 w = 1 := by
  unfold f_X12_isSet
  repeat' (first | exact Or.inl rfl | exact Or.inr rfl | apply b_tree)
  all_goals first | exact Or.inl rfl | exact Or.inr rfl | apply b_X12_in | apply b_X12_all | assumption
theorem dX12_become_0 : decode cX12_become 0 = .ok (.aload_n 0, 1) := by decide +kernel
theorem dX12_become_1 : decode cX12_become 1 = .ok (.iload_n 1, 1) := by decide +kernel
theorem dX12_become_2 : decode cX12_become 2 = .ok (.invokevirtual 169, 3) := by decide +kernel
theorem dX12_become_5 : decode cX12_become 5 = .ok (.ifCond .eq 12, 3) := by decide +kernel
theorem dX12_become_8 : decode cX12_become 8 = .ok (.aload_n 0, 1) := by decide +kernel
theorem dX12_become_9 : decode cX12_become 9 = .ok (.iconst 0, 1) := by decide +kernel
theorem dX12_become_10 : decode cX12_become 10 = .ok (.iload_n 1, 1) := by decide +kernel
theorem dX12_become_11 : decode cX12_become 11 = .ok (.invokevirtual 166, 3) := by decide +kernel
theorem dX12_become_14 : decode cX12_become 14 = .ok (.goto 4, 3) := by decide +kernel
theorem dX12_become_17 : decode cX12_become 17 = .ok (.iconst (-1), 1) := by decide +kernel
theorem dX12_become_18 : decode cX12_become 18 = .ok (.ireturn, 1) := by decide +kernel
def f_X12_become (l1 : Int32) (w : Wd) : Option (Int32 × Wd) :=
  if (f_X12_isSet l1 w) = 0 then
    some ((-1), w)
  else
    bnd2 (f_X12_changes 0 l1 w) fun x1 w2 =>
    some (x1, w2)
set_option maxHeartbeats 4000000 in
set_option maxRecDepth 100000 in
theorem ok_X12_become {G : GT} {d : Nat} (hd : 2 ≤ d) {w : Wd} (l1 : Int32) {r : Int32} {w' : Wd} (h : f_X12_become l1 w = some (r, w')) : uC G yX12_become mX12_become d [.ref 44, .int l1] w (some (.int r)) w' := by
  obtain ⟨d, rfl⟩ : ∃ e, d = e + 1 := ⟨d - 1, by omega⟩
  unfold f_X12_become at h
  refine uC_of (lv := [some (.ref 44), some (.int l1)]) 0 pn_X12 ⟨rfl, rfl⟩ (Nat.le_of_ble_eq_true rfl) rfl ?_
  refine V.aload_n (pc := 0) dX12_become_0 rfl ?_
  refine V.iload_n (pc := 1) dX12_become_1 rfl ?_
  refine U.callV (pc := 2) (As := [.int l1]) (st := []) dX12_become_2 l_RX12_169 (ok_X12_isSet (by omega) l1 ) lx_44 ly_44 cn_12 (Nat.le_of_ble_eq_true rfl) rfl rfl (Nat.le_of_ble_eq_true rfl) ?_
  rcases ite_e h with ⟨c, h⟩ | ⟨c, h⟩
  · refine V.if_eq_t (t := 17) (pc := 5) dX12_become_5 (by decide) c ?_
    refine V.iconst (pc := 17) dX12_become_17 ic_m1 ?_
    obtain ⟨rfl, rfl⟩ := Prod.mk.inj (Option.some.inj h)
    exact V.iret (pc := 18) dX12_become_18 rfl (Nat.le_refl _) (Nat.le_refl _)
  · refine V.if_eq_f (t := 17) (pc := 5) dX12_become_5 (by decide) c ?_
    refine V.aload_n (pc := 8) dX12_become_8 rfl ?_
    refine V.iconst (pc := 9) dX12_become_9 ic_0 ?_
    refine V.iload_n (pc := 10) dX12_become_10 rfl ?_
    obtain ⟨x1, w2, ew2, h⟩ := bnd2_e h
    refine U.callV (pc := 11) (As := [.int 0, .int l1]) (st := []) dX12_become_11 l_RX12_166 (ok_X12_changes (by omega) 0 l1 ew2) lx_44 ly_44 cn_12 (Nat.le_of_ble_eq_true rfl) rfl rfl (Nat.le_of_ble_eq_true rfl) ?_
    refine V.goto (t := 18) (pc := 14) dX12_become_14 (by decide) ?_
    obtain ⟨rfl, rfl⟩ := Prod.mk.inj (Option.some.inj h)
    exact V.iret (pc := 18) dX12_become_18 rfl (Nat.le_refl _) (Nat.le_refl _)
theorem dX4_moved_0 : decode cX4_moved 0 = .ok (.iconst 0, 1) := by decide +kernel
theorem dX4_moved_1 : decode cX4_moved 1 = .ok (.istore 4, 2) := by decide +kernel
theorem dX4_moved_3 : decode cX4_moved 3 = .ok (.iconst 0, 1) := by decide +kernel
theorem dX4_moved_4 : decode cX4_moved 4 = .ok (.istore 5, 2) := by decide +kernel
theorem dX4_moved_6 : decode cX4_moved 6 = .ok (.iload 5, 2) := by decide +kernel
theorem dX4_moved_8 : decode cX4_moved 8 = .ok (.aload_n 0, 1) := by decide +kernel
theorem dX4_moved_9 : decode cX4_moved 9 = .ok (.getfield 30, 3) := by decide +kernel
theorem dX4_moved_12 : decode cX4_moved 12 = .ok (.if_icmp .ge 46, 3) := by decide +kernel
theorem dX4_moved_15 : decode cX4_moved 15 = .ok (.iload_n 2, 1) := by decide +kernel
theorem dX4_moved_16 : decode cX4_moved 16 = .ok (.iload 5, 2) := by decide +kernel
theorem dX4_moved_18 : decode cX4_moved 18 = .ok (.ishr, 1) := by decide +kernel
theorem dX4_moved_19 : decode cX4_moved 19 = .ok (.iconst 1, 1) := by decide +kernel
theorem dX4_moved_20 : decode cX4_moved 20 = .ok (.iand, 1) := by decide +kernel
theorem dX4_moved_21 : decode cX4_moved 21 = .ok (.ifCond .eq 31, 3) := by decide +kernel
theorem dX4_moved_24 : decode cX4_moved 24 = .ok (.iload 4, 2) := by decide +kernel
theorem dX4_moved_26 : decode cX4_moved 26 = .ok (.iconst 1, 1) := by decide +kernel
theorem dX4_moved_27 : decode cX4_moved 27 = .ok (.iload_n 3, 1) := by decide +kernel
theorem dX4_moved_28 : decode cX4_moved 28 = .ok (.ifCond .eq 13, 3) := by decide +kernel
theorem dX4_moved_31 : decode cX4_moved 31 = .ok (.aload_n 0, 1) := by decide +kernel
theorem dX4_moved_32 : decode cX4_moved 32 = .ok (.iload_n 1, 1) := by decide +kernel
theorem dX4_moved_33 : decode cX4_moved 33 = .ok (.iload 5, 2) := by decide +kernel
theorem dX4_moved_35 : decode cX4_moved 35 = .ok (.invokevirtual 58, 3) := by decide +kernel
theorem dX4_moved_38 : decode cX4_moved 38 = .ok (.goto 10, 3) := by decide +kernel
theorem dX4_moved_41 : decode cX4_moved 41 = .ok (.aload_n 0, 1) := by decide +kernel
theorem dX4_moved_42 : decode cX4_moved 42 = .ok (.iload 5, 2) := by decide +kernel
theorem dX4_moved_44 : decode cX4_moved 44 = .ok (.iload_n 1, 1) := by decide +kernel
theorem dX4_moved_45 : decode cX4_moved 45 = .ok (.invokevirtual 58, 3) := by decide +kernel
theorem dX4_moved_48 : decode cX4_moved 48 = .ok (.ishl, 1) := by decide +kernel
theorem dX4_moved_49 : decode cX4_moved 49 = .ok (.ior, 1) := by decide +kernel
theorem dX4_moved_50 : decode cX4_moved 50 = .ok (.istore 4, 2) := by decide +kernel
theorem dX4_moved_52 : decode cX4_moved 52 = .ok (.iinc 5 1, 3) := by decide +kernel
theorem dX4_moved_55 : decode cX4_moved 55 = .ok (.goto (-49), 3) := by decide +kernel
theorem dX4_moved_58 : decode cX4_moved 58 = .ok (.iload 4, 2) := by decide +kernel
theorem dX4_moved_60 : decode cX4_moved 60 = .ok (.ireturn, 1) := by decide +kernel
def f_X4_moved_B6b (k6 : Int32 → Int32 → Int32 → Int32 → Int32 → Wd → Option Int32) (l1 : Int32) (l2 : Int32) (l3 : Int32) (l4 : Int32) (l5 : Int32) (w : Wd) : Option Int32 :=
  if (w.1 6 7) ≤ l5 then
    some l4
  else
    if ((l2 >>> (l5 &&& 31)) &&& 1) = 0 then
      k6 l1 l2 l3 l4 (l5 + 1) w
    else
      if l3 = 0 then
        bnd (f_X4_times l5 l1 w) fun x1 =>
        k6 l1 l2 l3 (l4 ||| (1 <<< (x1 &&& 31))) (l5 + 1) w
      else
        bnd (f_X4_times l1 l5 w) fun x2 =>
        k6 l1 l2 l3 (l4 ||| (1 <<< (x2 &&& 31))) (l5 + 1) w
def f_X4_moved_L6 (n : Nat) : Int32 → Int32 → Int32 → Int32 → Int32 → Wd → Option Int32 :=
  Nat.rec (fun _ _ _ _ _ _ => none) (fun _ k => f_X4_moved_B6b k) n
set_option maxHeartbeats 4000000 in
set_option maxRecDepth 100000 in
theorem t_X4_moved_L6 {G : GT} {d : Nat} {w : Wd} (hd : 1 ≤ d + 1)  : ∀ (n : Nat) (l1 : Int32) (l2 : Int32) (l3 : Int32) (l4 : Int32) (l5 : Int32) (r : Int32), f_X4_moved_L6 n l1 l2 l3 l4 l5 w = some r → U (vf G mX4_moved (d + 1)) 6 [some (.ref 6), some (.int l1), some (.int l2), some (.int l3), some (.int l4), some (.int l5)] [] w (some (.int r), 70, r0, w) := by
  intro n
  induction n with
  | zero => intro l1 l2 l3 l4 l5 r h; cases h
  | succ n h6 =>
    intro l1 l2 l3 l4 l5 r h
    have h : f_X4_moved_B6b (f_X4_moved_L6 n) l1 l2 l3 l4 l5 w = some r := h
    unfold f_X4_moved_B6b at h
    refine V.iload (pc := 6) dX4_moved_6 rfl ?_
    refine V.aload_n (pc := 8) dX4_moved_8 rfl ?_
    refine V.getI (pc := 9) dX4_moved_9 f_RX4_30 k_cl4 lx_6 ly_6 rb_4_7 ?_
    rcases ite_e h with ⟨c, h⟩ | ⟨c, h⟩
    · refine V.icmp_ge_t (t := 58) (pc := 12) dX4_moved_12 (by decide) c ?_
      refine V.iload (pc := 58) dX4_moved_58 rfl ?_
      obtain rfl := Option.some.inj h
      exact V.iret (pc := 60) dX4_moved_60 rfl (Nat.le_refl _) (Nat.le_refl _)
    · refine V.icmp_ge_f (t := 58) (pc := 12) dX4_moved_12 (by decide) c ?_
      refine V.iload_n (pc := 15) dX4_moved_15 rfl ?_
      refine V.iload (pc := 16) dX4_moved_16 rfl ?_
      refine V.ishr (pc := 18) dX4_moved_18 ?_
      refine V.iconst (pc := 19) dX4_moved_19 ic_1 ?_
      refine V.iand (pc := 20) dX4_moved_20 ?_
      rcases ite_e h with ⟨c, h⟩ | ⟨c, h⟩
      · refine V.if_eq_t (t := 52) (pc := 21) dX4_moved_21 (by decide) c ?_
        refine V.iinc (lv' := [some (.ref 6), some (.int l1), some (.int l2), some (.int l3), some (.int l4), some (.int (l5 + 1))]) (pc := 52) dX4_moved_52 (Nat.le_of_ble_eq_true rfl) rfl rfl (v := (l5 + 1)) (by rw [show Int32.ofInt 1 = 1 from by decide]) rfl ?_
        refine V.goto (t := 6) (pc := 55) dX4_moved_55 (by decide) ?_
        exact h6 l1 l2 l3 l4 (l5 + 1) _ h
      · refine V.if_eq_f (t := 52) (pc := 21) dX4_moved_21 (by decide) c ?_
        refine V.iload (pc := 24) dX4_moved_24 rfl ?_
        refine V.iconst (pc := 26) dX4_moved_26 ic_1 ?_
        refine V.iload_n (pc := 27) dX4_moved_27 rfl ?_
        rcases ite_e h with ⟨c, h⟩ | ⟨c, h⟩
        · refine V.if_eq_t (t := 41) (pc := 28) dX4_moved_28 (by decide) c ?_
          refine V.aload_n (pc := 41) dX4_moved_41 rfl ?_
          refine V.iload (pc := 42) dX4_moved_42 rfl ?_
          refine V.iload_n (pc := 44) dX4_moved_44 rfl ?_
          obtain ⟨x1, ex1, h⟩ := bnd_e h
          refine U.callV (pc := 45) (As := [.int l5, .int l1]) (st := [.int 1, .int l4]) dX4_moved_45 l_RX4_58 (ok_X4_times (by omega) l5 l1 ex1) lx_6 ly_6 cn_4 (Nat.le_of_ble_eq_true rfl) rfl rfl (Nat.le_of_ble_eq_true rfl) ?_
          refine V.ishl (pc := 48) dX4_moved_48 ?_
          refine V.ior (pc := 49) dX4_moved_49 ?_
          refine V.istore (lv' := [some (.ref 6), some (.int l1), some (.int l2), some (.int l3), some (.int (l4 ||| (1 <<< (x1 &&& 31)))), some (.int l5)]) (pc := 50) dX4_moved_50 (Nat.le_of_ble_eq_true rfl) rfl rfl ?_
          refine V.iinc (lv' := [some (.ref 6), some (.int l1), some (.int l2), some (.int l3), some (.int (l4 ||| (1 <<< (x1 &&& 31)))), some (.int (l5 + 1))]) (pc := 52) dX4_moved_52 (Nat.le_of_ble_eq_true rfl) rfl rfl (v := (l5 + 1)) (by rw [show Int32.ofInt 1 = 1 from by decide]) rfl ?_
          refine V.goto (t := 6) (pc := 55) dX4_moved_55 (by decide) ?_
          exact h6 l1 l2 l3 (l4 ||| (1 <<< (x1 &&& 31))) (l5 + 1) _ h
        · refine V.if_eq_f (t := 41) (pc := 28) dX4_moved_28 (by decide) c ?_
          refine V.aload_n (pc := 31) dX4_moved_31 rfl ?_
          refine V.iload_n (pc := 32) dX4_moved_32 rfl ?_
          refine V.iload (pc := 33) dX4_moved_33 rfl ?_
          obtain ⟨x2, ex2, h⟩ := bnd_e h
          refine U.callV (pc := 35) (As := [.int l1, .int l5]) (st := [.int 1, .int l4]) dX4_moved_35 l_RX4_58 (ok_X4_times (by omega) l1 l5 ex2) lx_6 ly_6 cn_4 (Nat.le_of_ble_eq_true rfl) rfl rfl (Nat.le_of_ble_eq_true rfl) ?_
          refine V.goto (t := 48) (pc := 38) dX4_moved_38 (by decide) ?_
          refine V.ishl (pc := 48) dX4_moved_48 ?_
          refine V.ior (pc := 49) dX4_moved_49 ?_
          refine V.istore (lv' := [some (.ref 6), some (.int l1), some (.int l2), some (.int l3), some (.int (l4 ||| (1 <<< (x2 &&& 31)))), some (.int l5)]) (pc := 50) dX4_moved_50 (Nat.le_of_ble_eq_true rfl) rfl rfl ?_
          refine V.iinc (lv' := [some (.ref 6), some (.int l1), some (.int l2), some (.int l3), some (.int (l4 ||| (1 <<< (x2 &&& 31)))), some (.int (l5 + 1))]) (pc := 52) dX4_moved_52 (Nat.le_of_ble_eq_true rfl) rfl rfl (v := (l5 + 1)) (by rw [show Int32.ofInt 1 = 1 from by decide]) rfl ?_
          refine V.goto (t := 6) (pc := 55) dX4_moved_55 (by decide) ?_
          exact h6 l1 l2 l3 (l4 ||| (1 <<< (x2 &&& 31))) (l5 + 1) _ h
def f_X4_moved (l1 : Int32) (l2 : Int32) (l3 : Int32) (w : Wd) : Option Int32 :=
  f_X4_moved_L6  FU l1 l2 l3 0 0 w
set_option maxHeartbeats 4000000 in
set_option maxRecDepth 100000 in
theorem ok_X4_moved {G : GT} {d : Nat} (hd : 1 ≤ d) {w : Wd} (l1 : Int32) (l2 : Int32) (l3 : Int32) {r : Int32} (h : f_X4_moved l1 l2 l3 w = some r) : uC G yX4_moved mX4_moved d [.ref 6, .int l1, .int l2, .int l3] w (some (.int r)) w := by
  obtain ⟨d, rfl⟩ : ∃ e, d = e + 1 := ⟨d - 1, by omega⟩
  unfold f_X4_moved at h
  refine uC_of (lv := [some (.ref 6), some (.int l1), some (.int l2), some (.int l3), none, none]) 2 pn_X4 ⟨rfl, rfl⟩ (Nat.le_of_ble_eq_true rfl) rfl ?_
  refine V.iconst (pc := 0) dX4_moved_0 ic_0 ?_
  refine V.istore (lv' := [some (.ref 6), some (.int l1), some (.int l2), some (.int l3), some (.int 0), none]) (pc := 1) dX4_moved_1 (Nat.le_of_ble_eq_true rfl) rfl rfl ?_
  refine V.iconst (pc := 3) dX4_moved_3 ic_0 ?_
  refine V.istore (lv' := [some (.ref 6), some (.int l1), some (.int l2), some (.int l3), some (.int 0), some (.int 0)]) (pc := 4) dX4_moved_4 (Nat.le_of_ble_eq_true rfl) rfl rfl ?_
  exact t_X4_moved_L6 hd FU l1 l2 l3 0 0 _ h
theorem dX4_isFree_0 : decode cX4_isFree 0 = .ok (.iconst 0, 1) := by decide +kernel
theorem dX4_isFree_1 : decode cX4_isFree 1 = .ok (.istore_n 2, 1) := by decide +kernel
theorem dX4_isFree_2 : decode cX4_isFree 2 = .ok (.iload_n 2, 1) := by decide +kernel
theorem dX4_isFree_3 : decode cX4_isFree 3 = .ok (.aload_n 0, 1) := by decide +kernel
theorem dX4_isFree_4 : decode cX4_isFree 4 = .ok (.getfield 30, 3) := by decide +kernel
theorem dX4_isFree_7 : decode cX4_isFree 7 = .ok (.if_icmp .ge 31, 3) := by decide +kernel
theorem dX4_isFree_10 : decode cX4_isFree 10 = .ok (.iload_n 1, 1) := by decide +kernel
theorem dX4_isFree_11 : decode cX4_isFree 11 = .ok (.iload_n 2, 1) := by decide +kernel
theorem dX4_isFree_12 : decode cX4_isFree 12 = .ok (.ishr, 1) := by decide +kernel
theorem dX4_isFree_13 : decode cX4_isFree 13 = .ok (.iconst 1, 1) := by decide +kernel
theorem dX4_isFree_14 : decode cX4_isFree 14 = .ok (.iand, 1) := by decide +kernel
theorem dX4_isFree_15 : decode cX4_isFree 15 = .ok (.ifCond .eq 17, 3) := by decide +kernel
theorem dX4_isFree_18 : decode cX4_isFree 18 = .ok (.aload_n 0, 1) := by decide +kernel
theorem dX4_isFree_19 : decode cX4_isFree 19 = .ok (.iload_n 2, 1) := by decide +kernel
theorem dX4_isFree_20 : decode cX4_isFree 20 = .ok (.iload_n 1, 1) := by decide +kernel
theorem dX4_isFree_21 : decode cX4_isFree 21 = .ok (.iconst 1, 1) := by decide +kernel
theorem dX4_isFree_22 : decode cX4_isFree 22 = .ok (.invokevirtual 80, 3) := by decide +kernel
theorem dX4_isFree_25 : decode cX4_isFree 25 = .ok (.iload_n 1, 1) := by decide +kernel
theorem dX4_isFree_26 : decode cX4_isFree 26 = .ok (.iand, 1) := by decide +kernel
theorem dX4_isFree_27 : decode cX4_isFree 27 = .ok (.ifCond .eq 5, 3) := by decide +kernel
theorem dX4_isFree_30 : decode cX4_isFree 30 = .ok (.iconst 0, 1) := by decide +kernel
theorem dX4_isFree_31 : decode cX4_isFree 31 = .ok (.ireturn, 1) := by decide +kernel
theorem dX4_isFree_32 : decode cX4_isFree 32 = .ok (.iinc 2 1, 3) := by decide +kernel
theorem dX4_isFree_35 : decode cX4_isFree 35 = .ok (.goto (-33), 3) := by decide +kernel
theorem dX4_isFree_38 : decode cX4_isFree 38 = .ok (.iconst 1, 1) := by decide +kernel
theorem dX4_isFree_39 : decode cX4_isFree 39 = .ok (.ireturn, 1) := by decide +kernel
def f_X4_isFree_B2b (k2 : Int32 → Int32 → Wd → Option Int32) (l1 : Int32) (l2 : Int32) (w : Wd) : Option Int32 :=
  if (w.1 6 7) ≤ l2 then
    some 1
  else
    if ((l1 >>> (l2 &&& 31)) &&& 1) = 0 then
      k2 l1 (l2 + 1) w
    else
      bnd (f_X4_moved l2 l1 1 w) fun x1 =>
      if (x1 &&& l1) = 0 then
        k2 l1 (l2 + 1) w
      else
        some 0
def f_X4_isFree_L2 (n : Nat) : Int32 → Int32 → Wd → Option Int32 :=
  Nat.rec (fun _ _ _ => none) (fun _ k => f_X4_isFree_B2b k) n
set_option maxHeartbeats 4000000 in
set_option maxRecDepth 100000 in
theorem t_X4_isFree_L2 {G : GT} {d : Nat} {w : Wd} (hd : 2 ≤ d + 1)  : ∀ (n : Nat) (l1 : Int32) (l2 : Int32) (r : Int32), f_X4_isFree_L2 n l1 l2 w = some r → U (vf G mX4_isFree (d + 1)) 2 [some (.ref 6), some (.int l1), some (.int l2)] [] w (some (.int r), 70, r0, w) := by
  intro n
  induction n with
  | zero => intro l1 l2 r h; cases h
  | succ n h2 =>
    intro l1 l2 r h
    have h : f_X4_isFree_B2b (f_X4_isFree_L2 n) l1 l2 w = some r := h
    unfold f_X4_isFree_B2b at h
    refine V.iload_n (pc := 2) dX4_isFree_2 rfl ?_
    refine V.aload_n (pc := 3) dX4_isFree_3 rfl ?_
    refine V.getI (pc := 4) dX4_isFree_4 f_RX4_30 k_cl4 lx_6 ly_6 rb_4_7 ?_
    rcases ite_e h with ⟨c, h⟩ | ⟨c, h⟩
    · refine V.icmp_ge_t (t := 38) (pc := 7) dX4_isFree_7 (by decide) c ?_
      refine V.iconst (pc := 38) dX4_isFree_38 ic_1 ?_
      obtain rfl := Option.some.inj h
      exact V.zret (pc := 39) dX4_isFree_39 rfl (Or.inr rfl) (Nat.le_refl _) (Nat.le_refl _)
    · refine V.icmp_ge_f (t := 38) (pc := 7) dX4_isFree_7 (by decide) c ?_
      refine V.iload_n (pc := 10) dX4_isFree_10 rfl ?_
      refine V.iload_n (pc := 11) dX4_isFree_11 rfl ?_
      refine V.ishr (pc := 12) dX4_isFree_12 ?_
      refine V.iconst (pc := 13) dX4_isFree_13 ic_1 ?_
      refine V.iand (pc := 14) dX4_isFree_14 ?_
      rcases ite_e h with ⟨c, h⟩ | ⟨c, h⟩
      · refine V.if_eq_t (t := 32) (pc := 15) dX4_isFree_15 (by decide) c ?_
        refine V.iinc (lv' := [some (.ref 6), some (.int l1), some (.int (l2 + 1))]) (pc := 32) dX4_isFree_32 (Nat.le_of_ble_eq_true rfl) rfl rfl (v := (l2 + 1)) (by rw [show Int32.ofInt 1 = 1 from by decide]) rfl ?_
        refine V.goto (t := 2) (pc := 35) dX4_isFree_35 (by decide) ?_
        exact h2 l1 (l2 + 1) _ h
      · refine V.if_eq_f (t := 32) (pc := 15) dX4_isFree_15 (by decide) c ?_
        refine V.aload_n (pc := 18) dX4_isFree_18 rfl ?_
        refine V.iload_n (pc := 19) dX4_isFree_19 rfl ?_
        refine V.iload_n (pc := 20) dX4_isFree_20 rfl ?_
        refine V.iconst (pc := 21) dX4_isFree_21 ic_1 ?_
        obtain ⟨x1, ex1, h⟩ := bnd_e h
        refine U.callV (pc := 22) (As := [.int l2, .int l1, .int 1]) (st := []) dX4_isFree_22 l_RX4_80 (ok_X4_moved (by omega) l2 l1 1 ex1) lx_6 ly_6 cn_4 (Nat.le_of_ble_eq_true rfl) rfl rfl (Nat.le_of_ble_eq_true rfl) ?_
        refine V.iload_n (pc := 25) dX4_isFree_25 rfl ?_
        refine V.iand (pc := 26) dX4_isFree_26 ?_
        rcases ite_e h with ⟨c, h⟩ | ⟨c, h⟩
        · refine V.if_eq_t (t := 32) (pc := 27) dX4_isFree_27 (by decide) c ?_
          refine V.iinc (lv' := [some (.ref 6), some (.int l1), some (.int (l2 + 1))]) (pc := 32) dX4_isFree_32 (Nat.le_of_ble_eq_true rfl) rfl rfl (v := (l2 + 1)) (by rw [show Int32.ofInt 1 = 1 from by decide]) rfl ?_
          refine V.goto (t := 2) (pc := 35) dX4_isFree_35 (by decide) ?_
          exact h2 l1 (l2 + 1) _ h
        · refine V.if_eq_f (t := 32) (pc := 27) dX4_isFree_27 (by decide) c ?_
          refine V.iconst (pc := 30) dX4_isFree_30 ic_0 ?_
          obtain rfl := Option.some.inj h
          exact V.zret (pc := 31) dX4_isFree_31 rfl (Or.inl rfl) (Nat.le_refl _) (Nat.le_refl _)
def f_X4_isFree (l1 : Int32) (w : Wd) : Option Int32 :=
  f_X4_isFree_L2  FU l1 0 w
set_option maxHeartbeats 4000000 in
set_option maxRecDepth 100000 in
theorem ok_X4_isFree {G : GT} {d : Nat} (hd : 2 ≤ d) {w : Wd} (l1 : Int32) {r : Int32} (h : f_X4_isFree l1 w = some r) : uC G yX4_isFree mX4_isFree d [.ref 6, .int l1] w (some (.int r)) w := by
  obtain ⟨d, rfl⟩ : ∃ e, d = e + 1 := ⟨d - 1, by omega⟩
  unfold f_X4_isFree at h
  refine uC_of (lv := [some (.ref 6), some (.int l1), none]) 1 pn_X4 ⟨rfl, rfl⟩ (Nat.le_of_ble_eq_true rfl) rfl ?_
  refine V.iconst (pc := 0) dX4_isFree_0 ic_0 ?_
  refine V.istore_n (lv' := [some (.ref 6), some (.int l1), some (.int 0)]) (pc := 1) dX4_isFree_1 (Nat.le_of_ble_eq_true rfl) rfl rfl ?_
  exact t_X4_isFree_L2 hd FU l1 0 _ h
theorem dJ6_bitCount_0f7a4_0 : decode cJ6_bitCount_0f7a4 0 = .ok (.iload_n 0, 1) := by decide +kernel
theorem dJ6_bitCount_0f7a4_1 : decode cJ6_bitCount_0f7a4 1 = .ok (.iload_n 0, 1) := by decide +kernel
theorem dJ6_bitCount_0f7a4_2 : decode cJ6_bitCount_0f7a4 2 = .ok (.iconst 1, 1) := by decide +kernel
theorem dJ6_bitCount_0f7a4_3 : decode cJ6_bitCount_0f7a4 3 = .ok (.iushr, 1) := by decide +kernel
theorem dJ6_bitCount_0f7a4_4 : decode cJ6_bitCount_0f7a4 4 = .ok (.ldc_w 265, 3) := by decide +kernel
theorem dJ6_bitCount_0f7a4_7 : decode cJ6_bitCount_0f7a4 7 = .ok (.iand, 1) := by decide +kernel
theorem dJ6_bitCount_0f7a4_8 : decode cJ6_bitCount_0f7a4 8 = .ok (.isub, 1) := by decide +kernel
theorem dJ6_bitCount_0f7a4_9 : decode cJ6_bitCount_0f7a4 9 = .ok (.istore_n 0, 1) := by decide +kernel
theorem dJ6_bitCount_0f7a4_10 : decode cJ6_bitCount_0f7a4 10 = .ok (.iload_n 0, 1) := by decide +kernel
theorem dJ6_bitCount_0f7a4_11 : decode cJ6_bitCount_0f7a4 11 = .ok (.ldc_w 266, 3) := by decide +kernel
theorem dJ6_bitCount_0f7a4_14 : decode cJ6_bitCount_0f7a4 14 = .ok (.iand, 1) := by decide +kernel
theorem dJ6_bitCount_0f7a4_15 : decode cJ6_bitCount_0f7a4 15 = .ok (.iload_n 0, 1) := by decide +kernel
theorem dJ6_bitCount_0f7a4_16 : decode cJ6_bitCount_0f7a4 16 = .ok (.iconst 2, 1) := by decide +kernel
theorem dJ6_bitCount_0f7a4_17 : decode cJ6_bitCount_0f7a4 17 = .ok (.iushr, 1) := by decide +kernel
theorem dJ6_bitCount_0f7a4_18 : decode cJ6_bitCount_0f7a4 18 = .ok (.ldc_w 266, 3) := by decide +kernel
theorem dJ6_bitCount_0f7a4_21 : decode cJ6_bitCount_0f7a4 21 = .ok (.iand, 1) := by decide +kernel
theorem dJ6_bitCount_0f7a4_22 : decode cJ6_bitCount_0f7a4 22 = .ok (.iadd, 1) := by decide +kernel
theorem dJ6_bitCount_0f7a4_23 : decode cJ6_bitCount_0f7a4 23 = .ok (.istore_n 0, 1) := by decide +kernel
theorem dJ6_bitCount_0f7a4_24 : decode cJ6_bitCount_0f7a4 24 = .ok (.iload_n 0, 1) := by decide +kernel
theorem dJ6_bitCount_0f7a4_25 : decode cJ6_bitCount_0f7a4 25 = .ok (.iload_n 0, 1) := by decide +kernel
theorem dJ6_bitCount_0f7a4_26 : decode cJ6_bitCount_0f7a4 26 = .ok (.iconst 4, 1) := by decide +kernel
theorem dJ6_bitCount_0f7a4_27 : decode cJ6_bitCount_0f7a4 27 = .ok (.iushr, 1) := by decide +kernel
theorem dJ6_bitCount_0f7a4_28 : decode cJ6_bitCount_0f7a4 28 = .ok (.iadd, 1) := by decide +kernel
theorem dJ6_bitCount_0f7a4_29 : decode cJ6_bitCount_0f7a4 29 = .ok (.ldc_w 267, 3) := by decide +kernel
theorem dJ6_bitCount_0f7a4_32 : decode cJ6_bitCount_0f7a4 32 = .ok (.iand, 1) := by decide +kernel
theorem dJ6_bitCount_0f7a4_33 : decode cJ6_bitCount_0f7a4 33 = .ok (.istore_n 0, 1) := by decide +kernel
theorem dJ6_bitCount_0f7a4_34 : decode cJ6_bitCount_0f7a4 34 = .ok (.iload_n 0, 1) := by decide +kernel
theorem dJ6_bitCount_0f7a4_35 : decode cJ6_bitCount_0f7a4 35 = .ok (.iload_n 0, 1) := by decide +kernel
theorem dJ6_bitCount_0f7a4_36 : decode cJ6_bitCount_0f7a4 36 = .ok (.bipush 8, 2) := by decide +kernel
theorem dJ6_bitCount_0f7a4_38 : decode cJ6_bitCount_0f7a4 38 = .ok (.iushr, 1) := by decide +kernel
theorem dJ6_bitCount_0f7a4_39 : decode cJ6_bitCount_0f7a4 39 = .ok (.iadd, 1) := by decide +kernel
theorem dJ6_bitCount_0f7a4_40 : decode cJ6_bitCount_0f7a4 40 = .ok (.istore_n 0, 1) := by decide +kernel
theorem dJ6_bitCount_0f7a4_41 : decode cJ6_bitCount_0f7a4 41 = .ok (.iload_n 0, 1) := by decide +kernel
theorem dJ6_bitCount_0f7a4_42 : decode cJ6_bitCount_0f7a4 42 = .ok (.iload_n 0, 1) := by decide +kernel
theorem dJ6_bitCount_0f7a4_43 : decode cJ6_bitCount_0f7a4 43 = .ok (.bipush 16, 2) := by decide +kernel
theorem dJ6_bitCount_0f7a4_45 : decode cJ6_bitCount_0f7a4 45 = .ok (.iushr, 1) := by decide +kernel
theorem dJ6_bitCount_0f7a4_46 : decode cJ6_bitCount_0f7a4 46 = .ok (.iadd, 1) := by decide +kernel
theorem dJ6_bitCount_0f7a4_47 : decode cJ6_bitCount_0f7a4 47 = .ok (.istore_n 0, 1) := by decide +kernel
theorem dJ6_bitCount_0f7a4_48 : decode cJ6_bitCount_0f7a4 48 = .ok (.iload_n 0, 1) := by decide +kernel
theorem dJ6_bitCount_0f7a4_49 : decode cJ6_bitCount_0f7a4 49 = .ok (.bipush 63, 2) := by decide +kernel
theorem dJ6_bitCount_0f7a4_51 : decode cJ6_bitCount_0f7a4 51 = .ok (.iand, 1) := by decide +kernel
theorem dJ6_bitCount_0f7a4_52 : decode cJ6_bitCount_0f7a4 52 = .ok (.ireturn, 1) := by decide +kernel
def f_J6_bitCount_0f7a4 (l0 : Int32) : Int32 :=
  ((((((((l0 - (((l0.toUInt32 >>> ((1 : Int32).toUInt32 &&& Int32.toUInt32 31)).toInt32) &&& 1431655765)) &&& 858993459) + ((((l0 - (((l0.toUInt32 >>> ((1 : Int32).toUInt32 &&& Int32.toUInt32 31)).toInt32) &&& 1431655765)).toUInt32 >>> ((2 : Int32).toUInt32 &&& Int32.toUInt32 31)).toInt32) &&& 858993459)) + (((((l0 - (((l0.toUInt32 >>> ((1 : Int32).toUInt32 &&& Int32.toUInt32 31)).toInt32) &&& 1431655765)) &&& 858993459) + ((((l0 - (((l0.toUInt32 >>> ((1 : Int32).toUInt32 &&& Int32.toUInt32 31)).toInt32) &&& 1431655765)).toUInt32 >>> ((2 : Int32).toUInt32 &&& Int32.toUInt32 31)).toInt32) &&& 858993459)).toUInt32 >>> ((4 : Int32).toUInt32 &&& Int32.toUInt32 31)).toInt32)) &&& 252645135) + (((((((l0 - (((l0.toUInt32 >>> ((1 : Int32).toUInt32 &&& Int32.toUInt32 31)).toInt32) &&& 1431655765)) &&& 858993459) + ((((l0 - (((l0.toUInt32 >>> ((1 : Int32).toUInt32 &&& Int32.toUInt32 31)).toInt32) &&& 1431655765)).toUInt32 >>> ((2 : Int32).toUInt32 &&& Int32.toUInt32 31)).toInt32) &&& 858993459)) + (((((l0 - (((l0.toUInt32 >>> ((1 : Int32).toUInt32 &&& Int32.toUInt32 31)).toInt32) &&& 1431655765)) &&& 858993459) + ((((l0 - (((l0.toUInt32 >>> ((1 : Int32).toUInt32 &&& Int32.toUInt32 31)).toInt32) &&& 1431655765)).toUInt32 >>> ((2 : Int32).toUInt32 &&& Int32.toUInt32 31)).toInt32) &&& 858993459)).toUInt32 >>> ((4 : Int32).toUInt32 &&& Int32.toUInt32 31)).toInt32)) &&& 252645135).toUInt32 >>> ((8 : Int32).toUInt32 &&& Int32.toUInt32 31)).toInt32)) + ((((((((l0 - (((l0.toUInt32 >>> ((1 : Int32).toUInt32 &&& Int32.toUInt32 31)).toInt32) &&& 1431655765)) &&& 858993459) + ((((l0 - (((l0.toUInt32 >>> ((1 : Int32).toUInt32 &&& Int32.toUInt32 31)).toInt32) &&& 1431655765)).toUInt32 >>> ((2 : Int32).toUInt32 &&& Int32.toUInt32 31)).toInt32) &&& 858993459)) + (((((l0 - (((l0.toUInt32 >>> ((1 : Int32).toUInt32 &&& Int32.toUInt32 31)).toInt32) &&& 1431655765)) &&& 858993459) + ((((l0 - (((l0.toUInt32 >>> ((1 : Int32).toUInt32 &&& Int32.toUInt32 31)).toInt32) &&& 1431655765)).toUInt32 >>> ((2 : Int32).toUInt32 &&& Int32.toUInt32 31)).toInt32) &&& 858993459)).toUInt32 >>> ((4 : Int32).toUInt32 &&& Int32.toUInt32 31)).toInt32)) &&& 252645135) + (((((((l0 - (((l0.toUInt32 >>> ((1 : Int32).toUInt32 &&& Int32.toUInt32 31)).toInt32) &&& 1431655765)) &&& 858993459) + ((((l0 - (((l0.toUInt32 >>> ((1 : Int32).toUInt32 &&& Int32.toUInt32 31)).toInt32) &&& 1431655765)).toUInt32 >>> ((2 : Int32).toUInt32 &&& Int32.toUInt32 31)).toInt32) &&& 858993459)) + (((((l0 - (((l0.toUInt32 >>> ((1 : Int32).toUInt32 &&& Int32.toUInt32 31)).toInt32) &&& 1431655765)) &&& 858993459) + ((((l0 - (((l0.toUInt32 >>> ((1 : Int32).toUInt32 &&& Int32.toUInt32 31)).toInt32) &&& 1431655765)).toUInt32 >>> ((2 : Int32).toUInt32 &&& Int32.toUInt32 31)).toInt32) &&& 858993459)).toUInt32 >>> ((4 : Int32).toUInt32 &&& Int32.toUInt32 31)).toInt32)) &&& 252645135).toUInt32 >>> ((8 : Int32).toUInt32 &&& Int32.toUInt32 31)).toInt32)).toUInt32 >>> ((16 : Int32).toUInt32 &&& Int32.toUInt32 31)).toInt32)) &&& 63)
set_option maxHeartbeats 4000000 in
set_option maxRecDepth 100000 in
theorem ok_J6_bitCount_0f7a4 {G : GT} {d : Nat} (hd : 0 ≤ d) {w : Wd} (l0 : Int32) : uC G yJ6_bitCount_0f7a4 mJ6_bitCount_0f7a4 d [.int l0] w (some (.int (f_J6_bitCount_0f7a4 l0))) w := by
  suffices key : ∀ r, f_J6_bitCount_0f7a4 l0 = r → uC G yJ6_bitCount_0f7a4 mJ6_bitCount_0f7a4 d [.int l0] w (some (.int r)) w from key _ rfl
  intro r h
  unfold f_J6_bitCount_0f7a4 at h
  refine uC_of (lv := [some (.int l0)]) 0 pn_J6 ⟨rfl, rfl⟩ (Nat.le_of_ble_eq_true rfl) rfl ?_
  refine V.iload_n (pc := 0) dJ6_bitCount_0f7a4_0 rfl ?_
  refine V.iload_n (pc := 1) dJ6_bitCount_0f7a4_1 rfl ?_
  refine V.iconst (pc := 2) dJ6_bitCount_0f7a4_2 ic_1 ?_
  refine V.iushr (pc := 3) dJ6_bitCount_0f7a4_3 ?_
  refine V.ldcw (pc := 4) dJ6_bitCount_0f7a4_4 c_RJ6_265 ?_
  refine V.iand (pc := 7) dJ6_bitCount_0f7a4_7 ?_
  refine V.isub (pc := 8) dJ6_bitCount_0f7a4_8 ?_
  refine V.istore_n (lv' := [some (.int (l0 - (((l0.toUInt32 >>> ((1 : Int32).toUInt32 &&& Int32.toUInt32 31)).toInt32) &&& 1431655765)))]) (pc := 9) dJ6_bitCount_0f7a4_9 (Nat.le_of_ble_eq_true rfl) rfl rfl ?_
  refine V.iload_n (pc := 10) dJ6_bitCount_0f7a4_10 rfl ?_
  refine V.ldcw (pc := 11) dJ6_bitCount_0f7a4_11 c_RJ6_266 ?_
  refine V.iand (pc := 14) dJ6_bitCount_0f7a4_14 ?_
  refine V.iload_n (pc := 15) dJ6_bitCount_0f7a4_15 rfl ?_
  refine V.iconst (pc := 16) dJ6_bitCount_0f7a4_16 ic_2 ?_
  refine V.iushr (pc := 17) dJ6_bitCount_0f7a4_17 ?_
  refine V.ldcw (pc := 18) dJ6_bitCount_0f7a4_18 c_RJ6_266 ?_
  refine V.iand (pc := 21) dJ6_bitCount_0f7a4_21 ?_
  refine V.iadd (pc := 22) dJ6_bitCount_0f7a4_22 ?_
  refine V.istore_n (lv' := [some (.int (((l0 - (((l0.toUInt32 >>> ((1 : Int32).toUInt32 &&& Int32.toUInt32 31)).toInt32) &&& 1431655765)) &&& 858993459) + ((((l0 - (((l0.toUInt32 >>> ((1 : Int32).toUInt32 &&& Int32.toUInt32 31)).toInt32) &&& 1431655765)).toUInt32 >>> ((2 : Int32).toUInt32 &&& Int32.toUInt32 31)).toInt32) &&& 858993459)))]) (pc := 23) dJ6_bitCount_0f7a4_23 (Nat.le_of_ble_eq_true rfl) rfl rfl ?_
  refine V.iload_n (pc := 24) dJ6_bitCount_0f7a4_24 rfl ?_
  refine V.iload_n (pc := 25) dJ6_bitCount_0f7a4_25 rfl ?_
  refine V.iconst (pc := 26) dJ6_bitCount_0f7a4_26 ic_4 ?_
  refine V.iushr (pc := 27) dJ6_bitCount_0f7a4_27 ?_
  refine V.iadd (pc := 28) dJ6_bitCount_0f7a4_28 ?_
  refine V.ldcw (pc := 29) dJ6_bitCount_0f7a4_29 c_RJ6_267 ?_
  refine V.iand (pc := 32) dJ6_bitCount_0f7a4_32 ?_
  refine V.istore_n (lv' := [some (.int (((((l0 - (((l0.toUInt32 >>> ((1 : Int32).toUInt32 &&& Int32.toUInt32 31)).toInt32) &&& 1431655765)) &&& 858993459) + ((((l0 - (((l0.toUInt32 >>> ((1 : Int32).toUInt32 &&& Int32.toUInt32 31)).toInt32) &&& 1431655765)).toUInt32 >>> ((2 : Int32).toUInt32 &&& Int32.toUInt32 31)).toInt32) &&& 858993459)) + (((((l0 - (((l0.toUInt32 >>> ((1 : Int32).toUInt32 &&& Int32.toUInt32 31)).toInt32) &&& 1431655765)) &&& 858993459) + ((((l0 - (((l0.toUInt32 >>> ((1 : Int32).toUInt32 &&& Int32.toUInt32 31)).toInt32) &&& 1431655765)).toUInt32 >>> ((2 : Int32).toUInt32 &&& Int32.toUInt32 31)).toInt32) &&& 858993459)).toUInt32 >>> ((4 : Int32).toUInt32 &&& Int32.toUInt32 31)).toInt32)) &&& 252645135))]) (pc := 33) dJ6_bitCount_0f7a4_33 (Nat.le_of_ble_eq_true rfl) rfl rfl ?_
  refine V.iload_n (pc := 34) dJ6_bitCount_0f7a4_34 rfl ?_
  refine V.iload_n (pc := 35) dJ6_bitCount_0f7a4_35 rfl ?_
  refine V.bipush (pc := 36) dJ6_bitCount_0f7a4_36 bp_8 ?_
  refine V.iushr (pc := 38) dJ6_bitCount_0f7a4_38 ?_
  refine V.iadd (pc := 39) dJ6_bitCount_0f7a4_39 ?_
  refine V.istore_n (lv' := [some (.int ((((((l0 - (((l0.toUInt32 >>> ((1 : Int32).toUInt32 &&& Int32.toUInt32 31)).toInt32) &&& 1431655765)) &&& 858993459) + ((((l0 - (((l0.toUInt32 >>> ((1 : Int32).toUInt32 &&& Int32.toUInt32 31)).toInt32) &&& 1431655765)).toUInt32 >>> ((2 : Int32).toUInt32 &&& Int32.toUInt32 31)).toInt32) &&& 858993459)) + (((((l0 - (((l0.toUInt32 >>> ((1 : Int32).toUInt32 &&& Int32.toUInt32 31)).toInt32) &&& 1431655765)) &&& 858993459) + ((((l0 - (((l0.toUInt32 >>> ((1 : Int32).toUInt32 &&& Int32.toUInt32 31)).toInt32) &&& 1431655765)).toUInt32 >>> ((2 : Int32).toUInt32 &&& Int32.toUInt32 31)).toInt32) &&& 858993459)).toUInt32 >>> ((4 : Int32).toUInt32 &&& Int32.toUInt32 31)).toInt32)) &&& 252645135) + (((((((l0 - (((l0.toUInt32 >>> ((1 : Int32).toUInt32 &&& Int32.toUInt32 31)).toInt32) &&& 1431655765)) &&& 858993459) + ((((l0 - (((l0.toUInt32 >>> ((1 : Int32).toUInt32 &&& Int32.toUInt32 31)).toInt32) &&& 1431655765)).toUInt32 >>> ((2 : Int32).toUInt32 &&& Int32.toUInt32 31)).toInt32) &&& 858993459)) + (((((l0 - (((l0.toUInt32 >>> ((1 : Int32).toUInt32 &&& Int32.toUInt32 31)).toInt32) &&& 1431655765)) &&& 858993459) + ((((l0 - (((l0.toUInt32 >>> ((1 : Int32).toUInt32 &&& Int32.toUInt32 31)).toInt32) &&& 1431655765)).toUInt32 >>> ((2 : Int32).toUInt32 &&& Int32.toUInt32 31)).toInt32) &&& 858993459)).toUInt32 >>> ((4 : Int32).toUInt32 &&& Int32.toUInt32 31)).toInt32)) &&& 252645135).toUInt32 >>> ((8 : Int32).toUInt32 &&& Int32.toUInt32 31)).toInt32)))]) (pc := 40) dJ6_bitCount_0f7a4_40 (Nat.le_of_ble_eq_true rfl) rfl rfl ?_
  refine V.iload_n (pc := 41) dJ6_bitCount_0f7a4_41 rfl ?_
  refine V.iload_n (pc := 42) dJ6_bitCount_0f7a4_42 rfl ?_
  refine V.bipush (pc := 43) dJ6_bitCount_0f7a4_43 bp_16 ?_
  refine V.iushr (pc := 45) dJ6_bitCount_0f7a4_45 ?_
  refine V.iadd (pc := 46) dJ6_bitCount_0f7a4_46 ?_
  refine V.istore_n (lv' := [some (.int (((((((l0 - (((l0.toUInt32 >>> ((1 : Int32).toUInt32 &&& Int32.toUInt32 31)).toInt32) &&& 1431655765)) &&& 858993459) + ((((l0 - (((l0.toUInt32 >>> ((1 : Int32).toUInt32 &&& Int32.toUInt32 31)).toInt32) &&& 1431655765)).toUInt32 >>> ((2 : Int32).toUInt32 &&& Int32.toUInt32 31)).toInt32) &&& 858993459)) + (((((l0 - (((l0.toUInt32 >>> ((1 : Int32).toUInt32 &&& Int32.toUInt32 31)).toInt32) &&& 1431655765)) &&& 858993459) + ((((l0 - (((l0.toUInt32 >>> ((1 : Int32).toUInt32 &&& Int32.toUInt32 31)).toInt32) &&& 1431655765)).toUInt32 >>> ((2 : Int32).toUInt32 &&& Int32.toUInt32 31)).toInt32) &&& 858993459)).toUInt32 >>> ((4 : Int32).toUInt32 &&& Int32.toUInt32 31)).toInt32)) &&& 252645135) + (((((((l0 - (((l0.toUInt32 >>> ((1 : Int32).toUInt32 &&& Int32.toUInt32 31)).toInt32) &&& 1431655765)) &&& 858993459) + ((((l0 - (((l0.toUInt32 >>> ((1 : Int32).toUInt32 &&& Int32.toUInt32 31)).toInt32) &&& 1431655765)).toUInt32 >>> ((2 : Int32).toUInt32 &&& Int32.toUInt32 31)).toInt32) &&& 858993459)) + (((((l0 - (((l0.toUInt32 >>> ((1 : Int32).toUInt32 &&& Int32.toUInt32 31)).toInt32) &&& 1431655765)) &&& 858993459) + ((((l0 - (((l0.toUInt32 >>> ((1 : Int32).toUInt32 &&& Int32.toUInt32 31)).toInt32) &&& 1431655765)).toUInt32 >>> ((2 : Int32).toUInt32 &&& Int32.toUInt32 31)).toInt32) &&& 858993459)).toUInt32 >>> ((4 : Int32).toUInt32 &&& Int32.toUInt32 31)).toInt32)) &&& 252645135).toUInt32 >>> ((8 : Int32).toUInt32 &&& Int32.toUInt32 31)).toInt32)) + ((((((((l0 - (((l0.toUInt32 >>> ((1 : Int32).toUInt32 &&& Int32.toUInt32 31)).toInt32) &&& 1431655765)) &&& 858993459) + ((((l0 - (((l0.toUInt32 >>> ((1 : Int32).toUInt32 &&& Int32.toUInt32 31)).toInt32) &&& 1431655765)).toUInt32 >>> ((2 : Int32).toUInt32 &&& Int32.toUInt32 31)).toInt32) &&& 858993459)) + (((((l0 - (((l0.toUInt32 >>> ((1 : Int32).toUInt32 &&& Int32.toUInt32 31)).toInt32) &&& 1431655765)) &&& 858993459) + ((((l0 - (((l0.toUInt32 >>> ((1 : Int32).toUInt32 &&& Int32.toUInt32 31)).toInt32) &&& 1431655765)).toUInt32 >>> ((2 : Int32).toUInt32 &&& Int32.toUInt32 31)).toInt32) &&& 858993459)).toUInt32 >>> ((4 : Int32).toUInt32 &&& Int32.toUInt32 31)).toInt32)) &&& 252645135) + (((((((l0 - (((l0.toUInt32 >>> ((1 : Int32).toUInt32 &&& Int32.toUInt32 31)).toInt32) &&& 1431655765)) &&& 858993459) + ((((l0 - (((l0.toUInt32 >>> ((1 : Int32).toUInt32 &&& Int32.toUInt32 31)).toInt32) &&& 1431655765)).toUInt32 >>> ((2 : Int32).toUInt32 &&& Int32.toUInt32 31)).toInt32) &&& 858993459)) + (((((l0 - (((l0.toUInt32 >>> ((1 : Int32).toUInt32 &&& Int32.toUInt32 31)).toInt32) &&& 1431655765)) &&& 858993459) + ((((l0 - (((l0.toUInt32 >>> ((1 : Int32).toUInt32 &&& Int32.toUInt32 31)).toInt32) &&& 1431655765)).toUInt32 >>> ((2 : Int32).toUInt32 &&& Int32.toUInt32 31)).toInt32) &&& 858993459)).toUInt32 >>> ((4 : Int32).toUInt32 &&& Int32.toUInt32 31)).toInt32)) &&& 252645135).toUInt32 >>> ((8 : Int32).toUInt32 &&& Int32.toUInt32 31)).toInt32)).toUInt32 >>> ((16 : Int32).toUInt32 &&& Int32.toUInt32 31)).toInt32)))]) (pc := 47) dJ6_bitCount_0f7a4_47 (Nat.le_of_ble_eq_true rfl) rfl rfl ?_
  refine V.iload_n (pc := 48) dJ6_bitCount_0f7a4_48 rfl ?_
  refine V.bipush (pc := 49) dJ6_bitCount_0f7a4_49 bp_63 ?_
  refine V.iand (pc := 51) dJ6_bitCount_0f7a4_51 ?_
  subst h
  exact V.iret (pc := 52) dJ6_bitCount_0f7a4_52 rfl (Nat.le_refl _) (Nat.le_refl _)
theorem dX4_inverseOf_0 : decode cX4_inverseOf 0 = .ok (.aload_n 0, 1) := by decide +kernel
theorem dX4_inverseOf_1 : decode cX4_inverseOf 1 = .ok (.getfield 21, 3) := by decide +kernel
theorem dX4_inverseOf_4 : decode cX4_inverseOf 4 = .ok (.iload_n 1, 1) := by decide +kernel
theorem dX4_inverseOf_5 : decode cX4_inverseOf 5 = .ok (.bipush 15, 2) := by decide +kernel
theorem dX4_inverseOf_7 : decode cX4_inverseOf 7 = .ok (.iand, 1) := by decide +kernel
theorem dX4_inverseOf_8 : decode cX4_inverseOf 8 = .ok (.iaload, 1) := by decide +kernel
theorem dX4_inverseOf_9 : decode cX4_inverseOf 9 = .ok (.ireturn, 1) := by decide +kernel
def f_X4_inverseOf (l1 : Int32) (w : Wd) : Option Int32 :=
  rdI w 10 16 (l1 &&& 15) fun x1 =>
  some x1
set_option maxHeartbeats 4000000 in
set_option maxRecDepth 100000 in
theorem ok_X4_inverseOf {G : GT} {d : Nat} (hd : 0 ≤ d) {w : Wd} (l1 : Int32) {r : Int32} (h : f_X4_inverseOf l1 w = some r) : uC G yX4_inverseOf mX4_inverseOf d [.ref 6, .int l1] w (some (.int r)) w := by
  unfold f_X4_inverseOf at h
  refine uC_of (lv := [some (.ref 6), some (.int l1)]) 0 pn_X4 ⟨rfl, rfl⟩ (Nat.le_of_ble_eq_true rfl) rfl ?_
  refine V.aload_n (pc := 0) dX4_inverseOf_0 rfl ?_
  refine V.getR (t := 10) (pc := 1) dX4_inverseOf_1 f_RX4_21 k_cl4 lx_6 ly_6 rb_4_3 rr_6_3 ?_
  refine V.iload_n (pc := 4) dX4_inverseOf_4 rfl ?_
  refine V.bipush (pc := 5) dX4_inverseOf_5 bp_15 ?_
  refine V.iand (pc := 7) dX4_inverseOf_7 ?_
  obtain ⟨x1, ix1, ex1, h⟩ := rdI_e h
  refine V.ialdX (pc := 8) dX4_inverseOf_8 lx_10 ly_10 ix1 ex1 ?_
  obtain rfl := Option.some.inj h
  exact V.iret (pc := 9) dX4_inverseOf_9 rfl (Nat.le_refl _) (Nat.le_refl _)
theorem dX4_staysFree_0 : decode cX4_staysFree 0 = .ok (.iload_n 1, 1) := by decide +kernel
theorem dX4_staysFree_1 : decode cX4_staysFree 1 = .ok (.iconst 1, 1) := by decide +kernel
theorem dX4_staysFree_2 : decode cX4_staysFree 2 = .ok (.iload_n 2, 1) := by decide +kernel
theorem dX4_staysFree_3 : decode cX4_staysFree 3 = .ok (.ishl, 1) := by decide +kernel
theorem dX4_staysFree_4 : decode cX4_staysFree 4 = .ok (.ior, 1) := by decide +kernel
theorem dX4_staysFree_5 : decode cX4_staysFree 5 = .ok (.istore_n 3, 1) := by decide +kernel
theorem dX4_staysFree_6 : decode cX4_staysFree 6 = .ok (.iload_n 3, 1) := by decide +kernel
theorem dX4_staysFree_7 : decode cX4_staysFree 7 = .ok (.aload_n 0, 1) := by decide +kernel
theorem dX4_staysFree_8 : decode cX4_staysFree 8 = .ok (.iload_n 2, 1) := by decide +kernel
theorem dX4_staysFree_9 : decode cX4_staysFree 9 = .ok (.iload_n 2, 1) := by decide +kernel
theorem dX4_staysFree_10 : decode cX4_staysFree 10 = .ok (.invokevirtual 58, 3) := by decide +kernel
theorem dX4_staysFree_13 : decode cX4_staysFree 13 = .ok (.ishr, 1) := by decide +kernel
theorem dX4_staysFree_14 : decode cX4_staysFree 14 = .ok (.iconst 1, 1) := by decide +kernel
theorem dX4_staysFree_15 : decode cX4_staysFree 15 = .ok (.iand, 1) := by decide +kernel
theorem dX4_staysFree_16 : decode cX4_staysFree 16 = .ok (.ifCond .eq 5, 3) := by decide +kernel
theorem dX4_staysFree_19 : decode cX4_staysFree 19 = .ok (.iconst 0, 1) := by decide +kernel
theorem dX4_staysFree_20 : decode cX4_staysFree 20 = .ok (.ireturn, 1) := by decide +kernel
theorem dX4_staysFree_21 : decode cX4_staysFree 21 = .ok (.iconst 0, 1) := by decide +kernel
theorem dX4_staysFree_22 : decode cX4_staysFree 22 = .ok (.istore 4, 2) := by decide +kernel
theorem dX4_staysFree_24 : decode cX4_staysFree 24 = .ok (.iload 4, 2) := by decide +kernel
theorem dX4_staysFree_26 : decode cX4_staysFree 26 = .ok (.aload_n 0, 1) := by decide +kernel
theorem dX4_staysFree_27 : decode cX4_staysFree 27 = .ok (.getfield 30, 3) := by decide +kernel
theorem dX4_staysFree_30 : decode cX4_staysFree 30 = .ok (.if_icmp .ge 62, 3) := by decide +kernel
theorem dX4_staysFree_33 : decode cX4_staysFree 33 = .ok (.iload_n 1, 1) := by decide +kernel
theorem dX4_staysFree_34 : decode cX4_staysFree 34 = .ok (.iload 4, 2) := by decide +kernel
theorem dX4_staysFree_36 : decode cX4_staysFree 36 = .ok (.ishr, 1) := by decide +kernel
theorem dX4_staysFree_37 : decode cX4_staysFree 37 = .ok (.iconst 1, 1) := by decide +kernel
theorem dX4_staysFree_38 : decode cX4_staysFree 38 = .ok (.iand, 1) := by decide +kernel
theorem dX4_staysFree_39 : decode cX4_staysFree 39 = .ok (.ifCond .eq 47, 3) := by decide +kernel
theorem dX4_staysFree_42 : decode cX4_staysFree 42 = .ok (.iload_n 3, 1) := by decide +kernel
theorem dX4_staysFree_43 : decode cX4_staysFree 43 = .ok (.aload_n 0, 1) := by decide +kernel
theorem dX4_staysFree_44 : decode cX4_staysFree 44 = .ok (.iload 4, 2) := by decide +kernel
theorem dX4_staysFree_46 : decode cX4_staysFree 46 = .ok (.iload_n 2, 1) := by decide +kernel
theorem dX4_staysFree_47 : decode cX4_staysFree 47 = .ok (.invokevirtual 58, 3) := by decide +kernel
theorem dX4_staysFree_50 : decode cX4_staysFree 50 = .ok (.ishr, 1) := by decide +kernel
theorem dX4_staysFree_51 : decode cX4_staysFree 51 = .ok (.iload_n 3, 1) := by decide +kernel
theorem dX4_staysFree_52 : decode cX4_staysFree 52 = .ok (.aload_n 0, 1) := by decide +kernel
theorem dX4_staysFree_53 : decode cX4_staysFree 53 = .ok (.iload_n 2, 1) := by decide +kernel
theorem dX4_staysFree_54 : decode cX4_staysFree 54 = .ok (.iload 4, 2) := by decide +kernel
theorem dX4_staysFree_56 : decode cX4_staysFree 56 = .ok (.invokevirtual 58, 3) := by decide +kernel
theorem dX4_staysFree_59 : decode cX4_staysFree 59 = .ok (.ishr, 1) := by decide +kernel
theorem dX4_staysFree_60 : decode cX4_staysFree 60 = .ok (.ior, 1) := by decide +kernel
theorem dX4_staysFree_61 : decode cX4_staysFree 61 = .ok (.iload_n 1, 1) := by decide +kernel
theorem dX4_staysFree_62 : decode cX4_staysFree 62 = .ok (.aload_n 0, 1) := by decide +kernel
theorem dX4_staysFree_63 : decode cX4_staysFree 63 = .ok (.aload_n 0, 1) := by decide +kernel
theorem dX4_staysFree_64 : decode cX4_staysFree 64 = .ok (.iload 4, 2) := by decide +kernel
theorem dX4_staysFree_66 : decode cX4_staysFree 66 = .ok (.invokevirtual 76, 3) := by decide +kernel
theorem dX4_staysFree_69 : decode cX4_staysFree 69 = .ok (.iload_n 2, 1) := by decide +kernel
theorem dX4_staysFree_70 : decode cX4_staysFree 70 = .ok (.invokevirtual 58, 3) := by decide +kernel
theorem dX4_staysFree_73 : decode cX4_staysFree 73 = .ok (.ishr, 1) := by decide +kernel
theorem dX4_staysFree_74 : decode cX4_staysFree 74 = .ok (.ior, 1) := by decide +kernel
theorem dX4_staysFree_75 : decode cX4_staysFree 75 = .ok (.istore 5, 2) := by decide +kernel
theorem dX4_staysFree_77 : decode cX4_staysFree 77 = .ok (.iload 5, 2) := by decide +kernel
theorem dX4_staysFree_79 : decode cX4_staysFree 79 = .ok (.iconst 1, 1) := by decide +kernel
theorem dX4_staysFree_80 : decode cX4_staysFree 80 = .ok (.iand, 1) := by decide +kernel
theorem dX4_staysFree_81 : decode cX4_staysFree 81 = .ok (.ifCond .eq 5, 3) := by decide +kernel
theorem dX4_staysFree_84 : decode cX4_staysFree 84 = .ok (.iconst 0, 1) := by decide +kernel
theorem dX4_staysFree_85 : decode cX4_staysFree 85 = .ok (.ireturn, 1) := by decide +kernel
theorem dX4_staysFree_86 : decode cX4_staysFree 86 = .ok (.iinc 4 1, 3) := by decide +kernel
theorem dX4_staysFree_89 : decode cX4_staysFree 89 = .ok (.goto (-65), 3) := by decide +kernel
theorem dX4_staysFree_92 : decode cX4_staysFree 92 = .ok (.iconst 1, 1) := by decide +kernel
theorem dX4_staysFree_93 : decode cX4_staysFree 93 = .ok (.ireturn, 1) := by decide +kernel
def f_X4_staysFree_B24b (k24 : Int32 → Int32 → Int32 → Int32 → Wd → Option Int32) (l1 : Int32) (l2 : Int32) (l3 : Int32) (l4 : Int32) (w : Wd) : Option Int32 :=
  if (w.1 6 7) ≤ l4 then
    some 1
  else
    if ((l1 >>> (l4 &&& 31)) &&& 1) = 0 then
      k24 l1 l2 l3 (l4 + 1) w
    else
      bnd (f_X4_times l4 l2 w) fun x1 =>
      bnd (f_X4_times l2 l4 w) fun x2 =>
      bnd (f_X4_inverseOf l4 w) fun x3 =>
      bnd (f_X4_times x3 l2 w) fun x4 =>
      if ((((l3 >>> (x1 &&& 31)) ||| (l3 >>> (x2 &&& 31))) ||| (l1 >>> (x4 &&& 31))) &&& 1) = 0 then
        k24 l1 l2 l3 (l4 + 1) w
      else
        some 0
def f_X4_staysFree_L24 (n : Nat) : Int32 → Int32 → Int32 → Int32 → Wd → Option Int32 :=
  Nat.rec (fun _ _ _ _ _ => none) (fun _ k => f_X4_staysFree_B24b k) n
set_option maxHeartbeats 4000000 in
set_option maxRecDepth 100000 in
theorem t_X4_staysFree_L24 {G : GT} {d : Nat} {w : Wd} (hd : 1 ≤ d + 1)  : ∀ (n : Nat) (l1 : Int32) (l2 : Int32) (l3 : Int32) (l4 : Int32) (r : Int32), f_X4_staysFree_L24 n l1 l2 l3 l4 w = some r → U (vf G mX4_staysFree (d + 1)) 24 [some (.ref 6), some (.int l1), some (.int l2), some (.int l3), some (.int l4), none] [] w (some (.int r), 70, r0, w) := by
  intro n
  induction n with
  | zero => intro l1 l2 l3 l4 r h; cases h
  | succ n h24 =>
    intro l1 l2 l3 l4 r h
    have h : f_X4_staysFree_B24b (f_X4_staysFree_L24 n) l1 l2 l3 l4 w = some r := h
    unfold f_X4_staysFree_B24b at h
    refine V.iload (pc := 24) dX4_staysFree_24 rfl ?_
    refine V.aload_n (pc := 26) dX4_staysFree_26 rfl ?_
    refine V.getI (pc := 27) dX4_staysFree_27 f_RX4_30 k_cl4 lx_6 ly_6 rb_4_7 ?_
    rcases ite_e h with ⟨c, h⟩ | ⟨c, h⟩
    · refine V.icmp_ge_t (t := 92) (pc := 30) dX4_staysFree_30 (by decide) c ?_
      refine V.iconst (pc := 92) dX4_staysFree_92 ic_1 ?_
      obtain rfl := Option.some.inj h
      exact V.zret (pc := 93) dX4_staysFree_93 rfl (Or.inr rfl) (Nat.le_refl _) (Nat.le_refl _)
    · refine V.icmp_ge_f (t := 92) (pc := 30) dX4_staysFree_30 (by decide) c ?_
      refine V.iload_n (pc := 33) dX4_staysFree_33 rfl ?_
      refine V.iload (pc := 34) dX4_staysFree_34 rfl ?_
      refine V.ishr (pc := 36) dX4_staysFree_36 ?_
      refine V.iconst (pc := 37) dX4_staysFree_37 ic_1 ?_
      refine V.iand (pc := 38) dX4_staysFree_38 ?_
      rcases ite_e h with ⟨c, h⟩ | ⟨c, h⟩
      · refine V.if_eq_t (t := 86) (pc := 39) dX4_staysFree_39 (by decide) c ?_
        refine V.iinc (lv' := [some (.ref 6), some (.int l1), some (.int l2), some (.int l3), some (.int (l4 + 1)), none]) (pc := 86) dX4_staysFree_86 (Nat.le_of_ble_eq_true rfl) rfl rfl (v := (l4 + 1)) (by rw [show Int32.ofInt 1 = 1 from by decide]) rfl ?_
        refine V.goto (t := 24) (pc := 89) dX4_staysFree_89 (by decide) ?_
        exact h24 l1 l2 l3 (l4 + 1) _ h
      · refine V.if_eq_f (t := 86) (pc := 39) dX4_staysFree_39 (by decide) c ?_
        refine V.iload_n (pc := 42) dX4_staysFree_42 rfl ?_
        refine V.aload_n (pc := 43) dX4_staysFree_43 rfl ?_
        refine V.iload (pc := 44) dX4_staysFree_44 rfl ?_
        refine V.iload_n (pc := 46) dX4_staysFree_46 rfl ?_
        obtain ⟨x1, ex1, h⟩ := bnd_e h
        refine U.callV (pc := 47) (As := [.int l4, .int l2]) (st := [.int l3]) dX4_staysFree_47 l_RX4_58 (ok_X4_times (by omega) l4 l2 ex1) lx_6 ly_6 cn_4 (Nat.le_of_ble_eq_true rfl) rfl rfl (Nat.le_of_ble_eq_true rfl) ?_
        refine V.ishr (pc := 50) dX4_staysFree_50 ?_
        refine V.iload_n (pc := 51) dX4_staysFree_51 rfl ?_
        refine V.aload_n (pc := 52) dX4_staysFree_52 rfl ?_
        refine V.iload_n (pc := 53) dX4_staysFree_53 rfl ?_
        refine V.iload (pc := 54) dX4_staysFree_54 rfl ?_
        obtain ⟨x2, ex2, h⟩ := bnd_e h
        refine U.callV (pc := 56) (As := [.int l2, .int l4]) (st := [.int l3, .int (l3 >>> (x1 &&& 31))]) dX4_staysFree_56 l_RX4_58 (ok_X4_times (by omega) l2 l4 ex2) lx_6 ly_6 cn_4 (Nat.le_of_ble_eq_true rfl) rfl rfl (Nat.le_of_ble_eq_true rfl) ?_
        refine V.ishr (pc := 59) dX4_staysFree_59 ?_
        refine V.ior (pc := 60) dX4_staysFree_60 ?_
        refine V.iload_n (pc := 61) dX4_staysFree_61 rfl ?_
        refine V.aload_n (pc := 62) dX4_staysFree_62 rfl ?_
        refine V.aload_n (pc := 63) dX4_staysFree_63 rfl ?_
        refine V.iload (pc := 64) dX4_staysFree_64 rfl ?_
        obtain ⟨x3, ex3, h⟩ := bnd_e h
        refine U.callV (pc := 66) (As := [.int l4]) (st := [.ref 6, .int l1, .int ((l3 >>> (x1 &&& 31)) ||| (l3 >>> (x2 &&& 31)))]) dX4_staysFree_66 l_RX4_76 (ok_X4_inverseOf (by omega) l4 ex3) lx_6 ly_6 cn_4 (Nat.le_of_ble_eq_true rfl) rfl rfl (Nat.le_of_ble_eq_true rfl) ?_
        refine V.iload_n (pc := 69) dX4_staysFree_69 rfl ?_
        obtain ⟨x4, ex4, h⟩ := bnd_e h
        refine U.callV (pc := 70) (As := [.int x3, .int l2]) (st := [.int l1, .int ((l3 >>> (x1 &&& 31)) ||| (l3 >>> (x2 &&& 31)))]) dX4_staysFree_70 l_RX4_58 (ok_X4_times (by omega) x3 l2 ex4) lx_6 ly_6 cn_4 (Nat.le_of_ble_eq_true rfl) rfl rfl (Nat.le_of_ble_eq_true rfl) ?_
        refine V.ishr (pc := 73) dX4_staysFree_73 ?_
        refine V.ior (pc := 74) dX4_staysFree_74 ?_
        refine V.istore (lv' := [some (.ref 6), some (.int l1), some (.int l2), some (.int l3), some (.int l4), some (.int (((l3 >>> (x1 &&& 31)) ||| (l3 >>> (x2 &&& 31))) ||| (l1 >>> (x4 &&& 31))))]) (pc := 75) dX4_staysFree_75 (Nat.le_of_ble_eq_true rfl) rfl rfl ?_
        refine V.iload (pc := 77) dX4_staysFree_77 rfl ?_
        refine V.iconst (pc := 79) dX4_staysFree_79 ic_1 ?_
        refine V.iand (pc := 80) dX4_staysFree_80 ?_
        rcases ite_e h with ⟨c, h⟩ | ⟨c, h⟩
        · refine V.if_eq_t (t := 86) (pc := 81) dX4_staysFree_81 (by decide) c ?_
          refine V.iinc (lv' := [some (.ref 6), some (.int l1), some (.int l2), some (.int l3), some (.int (l4 + 1)), some (.int (((l3 >>> (x1 &&& 31)) ||| (l3 >>> (x2 &&& 31))) ||| (l1 >>> (x4 &&& 31))))]) (pc := 86) dX4_staysFree_86 (Nat.le_of_ble_eq_true rfl) rfl rfl (v := (l4 + 1)) (by rw [show Int32.ofInt 1 = 1 from by decide]) rfl ?_
          refine V.goto (t := 24) (pc := 89) dX4_staysFree_89 (by decide) ?_
          refine V.weak (lv' := [some (.ref 6), some (.int l1), some (.int l2), some (.int l3), some (.int (l4 + 1)), none]) (And.intro rfl (And.intro rfl (And.intro rfl (And.intro rfl (And.intro rfl trivial))))) ?_
          exact h24 l1 l2 l3 (l4 + 1) _ h
        · refine V.if_eq_f (t := 86) (pc := 81) dX4_staysFree_81 (by decide) c ?_
          refine V.iconst (pc := 84) dX4_staysFree_84 ic_0 ?_
          obtain rfl := Option.some.inj h
          exact V.zret (pc := 85) dX4_staysFree_85 rfl (Or.inl rfl) (Nat.le_refl _) (Nat.le_refl _)
def f_X4_staysFree (l1 : Int32) (l2 : Int32) (w : Wd) : Option Int32 :=
  bnd (f_X4_times l2 l2 w) fun x1 =>
  if (((l1 ||| (1 <<< (l2 &&& 31))) >>> (x1 &&& 31)) &&& 1) = 0 then
    f_X4_staysFree_L24  FU l1 l2 (l1 ||| (1 <<< (l2 &&& 31))) 0 w
  else
    some 0
set_option maxHeartbeats 4000000 in
set_option maxRecDepth 100000 in
theorem ok_X4_staysFree {G : GT} {d : Nat} (hd : 1 ≤ d) {w : Wd} (l1 : Int32) (l2 : Int32) {r : Int32} (h : f_X4_staysFree l1 l2 w = some r) : uC G yX4_staysFree mX4_staysFree d [.ref 6, .int l1, .int l2] w (some (.int r)) w := by
  obtain ⟨d, rfl⟩ : ∃ e, d = e + 1 := ⟨d - 1, by omega⟩
  unfold f_X4_staysFree at h
  refine uC_of (lv := [some (.ref 6), some (.int l1), some (.int l2), none, none, none]) 3 pn_X4 ⟨rfl, rfl⟩ (Nat.le_of_ble_eq_true rfl) rfl ?_
  refine V.iload_n (pc := 0) dX4_staysFree_0 rfl ?_
  refine V.iconst (pc := 1) dX4_staysFree_1 ic_1 ?_
  refine V.iload_n (pc := 2) dX4_staysFree_2 rfl ?_
  refine V.ishl (pc := 3) dX4_staysFree_3 ?_
  refine V.ior (pc := 4) dX4_staysFree_4 ?_
  refine V.istore_n (lv' := [some (.ref 6), some (.int l1), some (.int l2), some (.int (l1 ||| (1 <<< (l2 &&& 31)))), none, none]) (pc := 5) dX4_staysFree_5 (Nat.le_of_ble_eq_true rfl) rfl rfl ?_
  refine V.iload_n (pc := 6) dX4_staysFree_6 rfl ?_
  refine V.aload_n (pc := 7) dX4_staysFree_7 rfl ?_
  refine V.iload_n (pc := 8) dX4_staysFree_8 rfl ?_
  refine V.iload_n (pc := 9) dX4_staysFree_9 rfl ?_
  obtain ⟨x1, ex1, h⟩ := bnd_e h
  refine U.callV (pc := 10) (As := [.int l2, .int l2]) (st := [.int (l1 ||| (1 <<< (l2 &&& 31)))]) dX4_staysFree_10 l_RX4_58 (ok_X4_times (by omega) l2 l2 ex1) lx_6 ly_6 cn_4 (Nat.le_of_ble_eq_true rfl) rfl rfl (Nat.le_of_ble_eq_true rfl) ?_
  refine V.ishr (pc := 13) dX4_staysFree_13 ?_
  refine V.iconst (pc := 14) dX4_staysFree_14 ic_1 ?_
  refine V.iand (pc := 15) dX4_staysFree_15 ?_
  rcases ite_e h with ⟨c, h⟩ | ⟨c, h⟩
  · refine V.if_eq_t (t := 21) (pc := 16) dX4_staysFree_16 (by decide) c ?_
    refine V.iconst (pc := 21) dX4_staysFree_21 ic_0 ?_
    refine V.istore (lv' := [some (.ref 6), some (.int l1), some (.int l2), some (.int (l1 ||| (1 <<< (l2 &&& 31)))), some (.int 0), none]) (pc := 22) dX4_staysFree_22 (Nat.le_of_ble_eq_true rfl) rfl rfl ?_
    exact t_X4_staysFree_L24 hd FU l1 l2 (l1 ||| (1 <<< (l2 &&& 31))) 0 _ h
  · refine V.if_eq_f (t := 21) (pc := 16) dX4_staysFree_16 (by decide) c ?_
    refine V.iconst (pc := 19) dX4_staysFree_19 ic_0 ?_
    obtain rfl := Option.some.inj h
    exact V.zret (pc := 20) dX4_staysFree_20 rfl (Or.inl rfl) (Nat.le_refl _) (Nat.le_refl _)
theorem dX11_fill_0 : decode cX11_fill 0 = .ok (.aload_n 0, 1) := by decide +kernel
theorem dX11_fill_1 : decode cX11_fill 1 = .ok (.getfield 74, 3) := by decide +kernel
theorem dX11_fill_4 : decode cX11_fill 4 = .ok (.invokevirtual 111, 3) := by decide +kernel
theorem dX11_fill_7 : decode cX11_fill 7 = .ok (.istore_n 1, 1) := by decide +kernel
theorem dX11_fill_8 : decode cX11_fill 8 = .ok (.aload_n 0, 1) := by decide +kernel
theorem dX11_fill_9 : decode cX11_fill 9 = .ok (.getfield 28, 3) := by decide +kernel
theorem dX11_fill_12 : decode cX11_fill 12 = .ok (.iload_n 1, 1) := by decide +kernel
theorem dX11_fill_13 : decode cX11_fill 13 = .ok (.invokevirtual 121, 3) := by decide +kernel
theorem dX11_fill_16 : decode cX11_fill 16 = .ok (.ifCond .ne 5, 3) := by decide +kernel
theorem dX11_fill_19 : decode cX11_fill 19 = .ok (.iconst (-1), 1) := by decide +kernel
theorem dX11_fill_20 : decode cX11_fill 20 = .ok (.ireturn, 1) := by decide +kernel
theorem dX11_fill_21 : decode cX11_fill 21 = .ok (.iload_n 1, 1) := by decide +kernel
theorem dX11_fill_22 : decode cX11_fill 22 = .ok (.istore_n 2, 1) := by decide +kernel
theorem dX11_fill_23 : decode cX11_fill 23 = .ok (.iconst 0, 1) := by decide +kernel
theorem dX11_fill_24 : decode cX11_fill 24 = .ok (.istore_n 3, 1) := by decide +kernel
theorem dX11_fill_25 : decode cX11_fill 25 = .ok (.iload_n 3, 1) := by decide +kernel
theorem dX11_fill_26 : decode cX11_fill 26 = .ok (.aload_n 0, 1) := by decide +kernel
theorem dX11_fill_27 : decode cX11_fill 27 = .ok (.getfield 28, 3) := by decide +kernel
theorem dX11_fill_30 : decode cX11_fill 30 = .ok (.getfield 104, 3) := by decide +kernel
theorem dX11_fill_33 : decode cX11_fill 33 = .ok (.if_icmp .ge 35, 3) := by decide +kernel
theorem dX11_fill_36 : decode cX11_fill 36 = .ok (.iload_n 2, 1) := by decide +kernel
theorem dX11_fill_37 : decode cX11_fill 37 = .ok (.iload_n 3, 1) := by decide +kernel
theorem dX11_fill_38 : decode cX11_fill 38 = .ok (.ishr, 1) := by decide +kernel
theorem dX11_fill_39 : decode cX11_fill 39 = .ok (.iconst 1, 1) := by decide +kernel
theorem dX11_fill_40 : decode cX11_fill 40 = .ok (.iand, 1) := by decide +kernel
theorem dX11_fill_41 : decode cX11_fill 41 = .ok (.ifCond .ne 21, 3) := by decide +kernel
theorem dX11_fill_44 : decode cX11_fill 44 = .ok (.aload_n 0, 1) := by decide +kernel
theorem dX11_fill_45 : decode cX11_fill 45 = .ok (.getfield 28, 3) := by decide +kernel
theorem dX11_fill_48 : decode cX11_fill 48 = .ok (.iload_n 2, 1) := by decide +kernel
theorem dX11_fill_49 : decode cX11_fill 49 = .ok (.iload_n 3, 1) := by decide +kernel
theorem dX11_fill_50 : decode cX11_fill 50 = .ok (.invokevirtual 124, 3) := by decide +kernel
theorem dX11_fill_53 : decode cX11_fill 53 = .ok (.ifCond .eq 9, 3) := by decide +kernel
theorem dX11_fill_56 : decode cX11_fill 56 = .ok (.iload_n 2, 1) := by decide +kernel
theorem dX11_fill_57 : decode cX11_fill 57 = .ok (.iconst 1, 1) := by decide +kernel
theorem dX11_fill_58 : decode cX11_fill 58 = .ok (.iload_n 3, 1) := by decide +kernel
theorem dX11_fill_59 : decode cX11_fill 59 = .ok (.ishl, 1) := by decide +kernel
theorem dX11_fill_60 : decode cX11_fill 60 = .ok (.ior, 1) := by decide +kernel
theorem dX11_fill_61 : decode cX11_fill 61 = .ok (.istore_n 2, 1) := by decide +kernel
theorem dX11_fill_62 : decode cX11_fill 62 = .ok (.iinc 3 1, 3) := by decide +kernel
theorem dX11_fill_65 : decode cX11_fill 65 = .ok (.goto (-40), 3) := by decide +kernel
theorem dX11_fill_68 : decode cX11_fill 68 = .ok (.aload_n 0, 1) := by decide +kernel
theorem dX11_fill_69 : decode cX11_fill 69 = .ok (.getfield 74, 3) := by decide +kernel
theorem dX11_fill_72 : decode cX11_fill 72 = .ok (.bipush 19, 2) := by decide +kernel
theorem dX11_fill_74 : decode cX11_fill 74 = .ok (.iload_n 2, 1) := by decide +kernel
theorem dX11_fill_75 : decode cX11_fill 75 = .ok (.invokevirtual 114, 3) := by decide +kernel
theorem dX11_fill_78 : decode cX11_fill 78 = .ok (.ifCond .eq 14, 3) := by decide +kernel
theorem dX11_fill_81 : decode cX11_fill 81 = .ok (.iload_n 2, 1) := by decide +kernel
theorem dX11_fill_82 : decode cX11_fill 82 = .ok (.iload_n 1, 1) := by decide +kernel
theorem dX11_fill_83 : decode cX11_fill 83 = .ok (.iconst (-1), 1) := by decide +kernel
theorem dX11_fill_84 : decode cX11_fill 84 = .ok (.ixor, 1) := by decide +kernel
theorem dX11_fill_85 : decode cX11_fill 85 = .ok (.iand, 1) := by decide +kernel
theorem dX11_fill_86 : decode cX11_fill 86 = .ok (.invokestatic 127, 3) := by decide +kernel
theorem dX11_fill_89 : decode cX11_fill 89 = .ok (.goto 4, 3) := by decide +kernel
theorem dX11_fill_92 : decode cX11_fill 92 = .ok (.iconst (-1), 1) := by decide +kernel
theorem dX11_fill_93 : decode cX11_fill 93 = .ok (.ireturn, 1) := by decide +kernel
def f_X11_fill_B25b (k25 : Int32 → Int32 → Int32 → Wd → Option (Int32 × Wd)) (l1 : Int32) (l2 : Int32) (l3 : Int32) (w : Wd) : Option (Int32 × Wd) :=
  if (w.1 6 7) ≤ l3 then
    bnd2 (f_X0_change 19 l2 w) fun x1 w2 =>
    if x1 = 0 then
      some ((-1), w2)
    else
      some ((f_J6_bitCount_0f7a4 (l2 &&& (l1 ^^^ (-1)))), w2)
  else
    if ((l2 >>> (l3 &&& 31)) &&& 1) = 0 then
      bnd (f_X4_staysFree l2 l3 w) fun x3 =>
      if x3 = 0 then
        k25 l1 l2 (l3 + 1) w
      else
        k25 l1 (l2 ||| (1 <<< (l3 &&& 31))) (l3 + 1) w
    else
      k25 l1 l2 (l3 + 1) w
def f_X11_fill_L25 (n : Nat) : Int32 → Int32 → Int32 → Wd → Option (Int32 × Wd) :=
  Nat.rec (fun _ _ _ _ => none) (fun _ k => f_X11_fill_B25b k) n
set_option maxHeartbeats 4000000 in
set_option maxRecDepth 100000 in
theorem t_X11_fill_L25 {G : GT} {d : Nat} (hd : 3 ≤ d + 1)  : ∀ (n : Nat) (l1 : Int32) (l2 : Int32) (l3 : Int32) (w : Wd) (r : Int32) (w' : Wd), f_X11_fill_L25 n l1 l2 l3 w = some (r, w') → U (vf G mX11_fill (d + 1)) 25 [some (.ref 0), some (.int l1), some (.int l2), some (.int l3)] [] w (some (.int r), 70, r0, w') := by
  intro n
  induction n with
  | zero => intro l1 l2 l3 w r w' h; cases h
  | succ n h25 =>
    intro l1 l2 l3 w r w' h
    have h : f_X11_fill_B25b (f_X11_fill_L25 n) l1 l2 l3 w = some (r, w') := h
    unfold f_X11_fill_B25b at h
    refine V.iload_n (pc := 25) dX11_fill_25 rfl ?_
    refine V.aload_n (pc := 26) dX11_fill_26 rfl ?_
    refine V.getR (t := 6) (pc := 27) dX11_fill_27 f_RX11_28 k_cl11 lx_0 ly_0 rb_11_2 rr_0_2 ?_
    refine V.getI (pc := 30) dX11_fill_30 f_RX11_104 k_cl4 lx_6 ly_6 rb_4_7 ?_
    rcases ite_e h with ⟨c, h⟩ | ⟨c, h⟩
    · refine V.icmp_ge_t (t := 68) (pc := 33) dX11_fill_33 (by decide) c ?_
      refine V.aload_n (pc := 68) dX11_fill_68 rfl ?_
      refine V.getR (t := 37) (pc := 69) dX11_fill_69 f_RX11_74 k_cl11 lx_0 ly_0 rb_11_8 rr_0_8 ?_
      refine V.bipush (pc := 72) dX11_fill_72 bp_19 ?_
      refine V.iload_n (pc := 74) dX11_fill_74 rfl ?_
      obtain ⟨x1, w2, ew2, h⟩ := bnd2_e h
      refine U.callV (pc := 75) (As := [.int 19, .int l2]) (st := []) dX11_fill_75 l_RX11_114 (ok_X0_change (by omega) 19 l2 ew2) lx_37 ly_37 cn_0 (Nat.le_of_ble_eq_true rfl) rfl rfl (Nat.le_of_ble_eq_true rfl) ?_
      rcases ite_e h with ⟨c, h⟩ | ⟨c, h⟩
      · refine V.if_eq_t (t := 92) (pc := 78) dX11_fill_78 (by decide) c ?_
        refine V.iconst (pc := 92) dX11_fill_92 ic_m1 ?_
        obtain ⟨rfl, rfl⟩ := Prod.mk.inj (Option.some.inj h)
        exact V.iret (pc := 93) dX11_fill_93 rfl (Nat.le_refl _) (Nat.le_refl _)
      · refine V.if_eq_f (t := 92) (pc := 78) dX11_fill_78 (by decide) c ?_
        refine V.iload_n (pc := 81) dX11_fill_81 rfl ?_
        refine V.iload_n (pc := 82) dX11_fill_82 rfl ?_
        refine V.iconst (pc := 83) dX11_fill_83 ic_m1 ?_
        refine V.ixor (pc := 84) dX11_fill_84 ?_
        refine V.iand (pc := 85) dX11_fill_85 ?_
        refine U.callS (pc := 86) (As := [.int (l2 &&& (l1 ^^^ (-1)))]) (st := []) dX11_fill_86 l_RX11_127 (ok_J6_bitCount_0f7a4 (by omega) (l2 &&& (l1 ^^^ (-1))) ) (Nat.le_of_ble_eq_true rfl) rfl rfl (Nat.le_of_ble_eq_true rfl) ?_
        refine V.goto (t := 93) (pc := 89) dX11_fill_89 (by decide) ?_
        obtain ⟨rfl, rfl⟩ := Prod.mk.inj (Option.some.inj h)
        exact V.iret (pc := 93) dX11_fill_93 rfl (Nat.le_refl _) (Nat.le_refl _)
    · refine V.icmp_ge_f (t := 68) (pc := 33) dX11_fill_33 (by decide) c ?_
      refine V.iload_n (pc := 36) dX11_fill_36 rfl ?_
      refine V.iload_n (pc := 37) dX11_fill_37 rfl ?_
      refine V.ishr (pc := 38) dX11_fill_38 ?_
      refine V.iconst (pc := 39) dX11_fill_39 ic_1 ?_
      refine V.iand (pc := 40) dX11_fill_40 ?_
      rcases ite_e h with ⟨c, h⟩ | ⟨c, h⟩
      · refine V.if_ne_f (t := 62) (pc := 41) dX11_fill_41 (by decide) c ?_
        refine V.aload_n (pc := 44) dX11_fill_44 rfl ?_
        refine V.getR (t := 6) (pc := 45) dX11_fill_45 f_RX11_28 k_cl11 lx_0 ly_0 rb_11_2 rr_0_2 ?_
        refine V.iload_n (pc := 48) dX11_fill_48 rfl ?_
        refine V.iload_n (pc := 49) dX11_fill_49 rfl ?_
        obtain ⟨x3, ex3, h⟩ := bnd_e h
        refine U.callV (pc := 50) (As := [.int l2, .int l3]) (st := []) dX11_fill_50 l_RX11_124 (ok_X4_staysFree (by omega) l2 l3 ex3) lx_6 ly_6 cn_4 (Nat.le_of_ble_eq_true rfl) rfl rfl (Nat.le_of_ble_eq_true rfl) ?_
        rcases ite_e h with ⟨c, h⟩ | ⟨c, h⟩
        · refine V.if_eq_t (t := 62) (pc := 53) dX11_fill_53 (by decide) c ?_
          refine V.iinc (lv' := [some (.ref 0), some (.int l1), some (.int l2), some (.int (l3 + 1))]) (pc := 62) dX11_fill_62 (Nat.le_of_ble_eq_true rfl) rfl rfl (v := (l3 + 1)) (by rw [show Int32.ofInt 1 = 1 from by decide]) rfl ?_
          refine V.goto (t := 25) (pc := 65) dX11_fill_65 (by decide) ?_
          exact h25 l1 l2 (l3 + 1) w _ _ h
        · refine V.if_eq_f (t := 62) (pc := 53) dX11_fill_53 (by decide) c ?_
          refine V.iload_n (pc := 56) dX11_fill_56 rfl ?_
          refine V.iconst (pc := 57) dX11_fill_57 ic_1 ?_
          refine V.iload_n (pc := 58) dX11_fill_58 rfl ?_
          refine V.ishl (pc := 59) dX11_fill_59 ?_
          refine V.ior (pc := 60) dX11_fill_60 ?_
          refine V.istore_n (lv' := [some (.ref 0), some (.int l1), some (.int (l2 ||| (1 <<< (l3 &&& 31)))), some (.int l3)]) (pc := 61) dX11_fill_61 (Nat.le_of_ble_eq_true rfl) rfl rfl ?_
          refine V.iinc (lv' := [some (.ref 0), some (.int l1), some (.int (l2 ||| (1 <<< (l3 &&& 31)))), some (.int (l3 + 1))]) (pc := 62) dX11_fill_62 (Nat.le_of_ble_eq_true rfl) rfl rfl (v := (l3 + 1)) (by rw [show Int32.ofInt 1 = 1 from by decide]) rfl ?_
          refine V.goto (t := 25) (pc := 65) dX11_fill_65 (by decide) ?_
          exact h25 l1 (l2 ||| (1 <<< (l3 &&& 31))) (l3 + 1) w _ _ h
      · refine V.if_ne_t (t := 62) (pc := 41) dX11_fill_41 (by decide) c ?_
        refine V.iinc (lv' := [some (.ref 0), some (.int l1), some (.int l2), some (.int (l3 + 1))]) (pc := 62) dX11_fill_62 (Nat.le_of_ble_eq_true rfl) rfl rfl (v := (l3 + 1)) (by rw [show Int32.ofInt 1 = 1 from by decide]) rfl ?_
        refine V.goto (t := 25) (pc := 65) dX11_fill_65 (by decide) ?_
        exact h25 l1 l2 (l3 + 1) w _ _ h
def f_X11_fill (w : Wd) : Option (Int32 × Wd) :=
  bnd (f_X0_set  w) fun x1 =>
  bnd (f_X4_isFree x1 w) fun x2 =>
  if x2 = 0 then
    some ((-1), w)
  else
    f_X11_fill_L25  FU x1 x1 0 w
set_option maxHeartbeats 4000000 in
set_option maxRecDepth 100000 in
theorem ok_X11_fill {G : GT} {d : Nat} (hd : 3 ≤ d) {w : Wd}  {r : Int32} {w' : Wd} (h : f_X11_fill  w = some (r, w')) : uC G yX11_fill mX11_fill d [.ref 0] w (some (.int r)) w' := by
  obtain ⟨d, rfl⟩ : ∃ e, d = e + 1 := ⟨d - 1, by omega⟩
  unfold f_X11_fill at h
  refine uC_of (lv := [some (.ref 0), none, none, none]) 3 pn_X11 ⟨rfl, rfl⟩ (Nat.le_of_ble_eq_true rfl) rfl ?_
  refine V.aload_n (pc := 0) dX11_fill_0 rfl ?_
  refine V.getR (t := 37) (pc := 1) dX11_fill_1 f_RX11_74 k_cl11 lx_0 ly_0 rb_11_8 rr_0_8 ?_
  obtain ⟨x1, ex1, h⟩ := bnd_e h
  refine U.callV (pc := 4) (As := []) (st := []) dX11_fill_4 l_RX11_111 (ok_X0_set (by omega)  ex1) lx_37 ly_37 cn_0 (Nat.le_of_ble_eq_true rfl) rfl rfl (Nat.le_of_ble_eq_true rfl) ?_
  refine V.istore_n (lv' := [some (.ref 0), some (.int x1), none, none]) (pc := 7) dX11_fill_7 (Nat.le_of_ble_eq_true rfl) rfl rfl ?_
  refine V.aload_n (pc := 8) dX11_fill_8 rfl ?_
  refine V.getR (t := 6) (pc := 9) dX11_fill_9 f_RX11_28 k_cl11 lx_0 ly_0 rb_11_2 rr_0_2 ?_
  refine V.iload_n (pc := 12) dX11_fill_12 rfl ?_
  obtain ⟨x2, ex2, h⟩ := bnd_e h
  refine U.callV (pc := 13) (As := [.int x1]) (st := []) dX11_fill_13 l_RX11_121 (ok_X4_isFree (by omega) x1 ex2) lx_6 ly_6 cn_4 (Nat.le_of_ble_eq_true rfl) rfl rfl (Nat.le_of_ble_eq_true rfl) ?_
  rcases ite_e h with ⟨c, h⟩ | ⟨c, h⟩
  · refine V.if_ne_f (t := 21) (pc := 16) dX11_fill_16 (by decide) c ?_
    refine V.iconst (pc := 19) dX11_fill_19 ic_m1 ?_
    obtain ⟨rfl, rfl⟩ := Prod.mk.inj (Option.some.inj h)
    exact V.iret (pc := 20) dX11_fill_20 rfl (Nat.le_refl _) (Nat.le_refl _)
  · refine V.if_ne_t (t := 21) (pc := 16) dX11_fill_16 (by decide) c ?_
    refine V.iload_n (pc := 21) dX11_fill_21 rfl ?_
    refine V.istore_n (lv' := [some (.ref 0), some (.int x1), some (.int x1), none]) (pc := 22) dX11_fill_22 (Nat.le_of_ble_eq_true rfl) rfl rfl ?_
    refine V.iconst (pc := 23) dX11_fill_23 ic_0 ?_
    refine V.istore_n (lv' := [some (.ref 0), some (.int x1), some (.int x1), some (.int 0)]) (pc := 24) dX11_fill_24 (Nat.le_of_ble_eq_true rfl) rfl rfl ?_
    exact t_X11_fill_L25 hd FU x1 x1 0 w _ _ h
theorem dX12_isFreeBy_0 : decode cX12_isFreeBy 0 = .ok (.iload_n 0, 1) := by decide +kernel
theorem dX12_isFreeBy_1 : decode cX12_isFreeBy 1 = .ok (.iload_n 1, 1) := by decide +kernel
theorem dX12_isFreeBy_2 : decode cX12_isFreeBy 2 = .ok (.iand, 1) := by decide +kernel
theorem dX12_isFreeBy_3 : decode cX12_isFreeBy 3 = .ok (.ifCond .ne 7, 3) := by decide +kernel
theorem dX12_isFreeBy_6 : decode cX12_isFreeBy 6 = .ok (.iconst 1, 1) := by decide +kernel
theorem dX12_isFreeBy_7 : decode cX12_isFreeBy 7 = .ok (.goto 4, 3) := by decide +kernel
theorem dX12_isFreeBy_10 : decode cX12_isFreeBy 10 = .ok (.iconst 0, 1) := by decide +kernel
theorem dX12_isFreeBy_11 : decode cX12_isFreeBy 11 = .ok (.ireturn, 1) := by decide +kernel
def f_X12_isFreeBy (l0 : Int32) (l1 : Int32) : Int32 :=
  if (l0 &&& l1) = 0 then
    (1 : Int32)
  else
    (0 : Int32)
set_option maxHeartbeats 4000000 in
set_option maxRecDepth 100000 in
theorem ok_X12_isFreeBy {G : GT} {d : Nat} (hd : 0 ≤ d) {w : Wd} (l0 : Int32) (l1 : Int32) : uC G yX12_isFreeBy mX12_isFreeBy d [.int l0, .int l1] w (some (.int (f_X12_isFreeBy l0 l1))) w := by
  suffices key : ∀ r, f_X12_isFreeBy l0 l1 = r → uC G yX12_isFreeBy mX12_isFreeBy d [.int l0, .int l1] w (some (.int r)) w from key _ rfl
  intro r h
  unfold f_X12_isFreeBy at h
  refine uC_of (lv := [some (.int l0), some (.int l1)]) 0 pn_X12 ⟨rfl, rfl⟩ (Nat.le_of_ble_eq_true rfl) rfl ?_
  refine V.iload_n (pc := 0) dX12_isFreeBy_0 rfl ?_
  refine V.iload_n (pc := 1) dX12_isFreeBy_1 rfl ?_
  refine V.iand (pc := 2) dX12_isFreeBy_2 ?_
  rcases ite_e h with ⟨c, h⟩ | ⟨c, h⟩
  · refine V.if_ne_f (t := 10) (pc := 3) dX12_isFreeBy_3 (by decide) c ?_
    refine V.iconst (pc := 6) dX12_isFreeBy_6 ic_1 ?_
    refine V.goto (t := 11) (pc := 7) dX12_isFreeBy_7 (by decide) ?_
    subst h
    exact V.zret (pc := 11) dX12_isFreeBy_11 rfl (Or.inr rfl) (Nat.le_refl _) (Nat.le_refl _)
  · refine V.if_ne_t (t := 10) (pc := 3) dX12_isFreeBy_3 (by decide) c ?_
    refine V.iconst (pc := 10) dX12_isFreeBy_10 ic_0 ?_
    subst h
    exact V.zret (pc := 11) dX12_isFreeBy_11 rfl (Or.inl rfl) (Nat.le_refl _) (Nat.le_refl _)
theorem b_X12_isFreeBy (l0 : Int32) (l1 : Int32) : f_X12_isFreeBy l0 l1 = 0 ∨ f_X12_isFreeBy l0 l1 = 1 := by
  unfold f_X12_isFreeBy
  repeat' (first | exact Or.inl rfl | exact Or.inr rfl | apply b_tree)
  all_goals first | exact Or.inl rfl | exact Or.inr rfl | assumption
theorem dX12_isFree_0 : decode cX12_isFree 0 = .ok (.iload_n 1, 1) := by decide +kernel
theorem dX12_isFree_1 : decode cX12_isFree 1 = .ok (.aload_n 0, 1) := by decide +kernel
theorem dX12_isFree_2 : decode cX12_isFree 2 = .ok (.getfield 27, 3) := by decide +kernel
theorem dX12_isFree_5 : decode cX12_isFree 5 = .ok (.iload_n 1, 1) := by decide +kernel
theorem dX12_isFree_6 : decode cX12_isFree 6 = .ok (.iaload, 1) := by decide +kernel
theorem dX12_isFree_7 : decode cX12_isFree 7 = .ok (.invokestatic 147, 3) := by decide +kernel
theorem dX12_isFree_10 : decode cX12_isFree 10 = .ok (.ireturn, 1) := by decide +kernel
def f_X12_isFree (l1 : Int32) (w : Wd) : Option Int32 :=
  rdI w 49 65536 l1 fun x1 =>
  some (f_X12_isFreeBy l1 x1)
set_option maxHeartbeats 4000000 in
set_option maxRecDepth 100000 in
theorem ok_X12_isFree {G : GT} {d : Nat} (hd : 1 ≤ d) {w : Wd} (l1 : Int32) {r : Int32} (h : f_X12_isFree l1 w = some r) : uC G yX12_isFree mX12_isFree d [.ref 44, .int l1] w (some (.int r)) w := by
  obtain ⟨d, rfl⟩ : ∃ e, d = e + 1 := ⟨d - 1, by omega⟩
  unfold f_X12_isFree at h
  refine uC_of (lv := [some (.ref 44), some (.int l1)]) 0 pn_X12 ⟨rfl, rfl⟩ (Nat.le_of_ble_eq_true rfl) rfl ?_
  refine V.iload_n (pc := 0) dX12_isFree_0 rfl ?_
  refine V.aload_n (pc := 1) dX12_isFree_1 rfl ?_
  refine V.getR (t := 49) (pc := 2) dX12_isFree_2 f_RX12_27 k_cl12 lx_44 ly_44 rb_12_7 rr_44_7 ?_
  refine V.iload_n (pc := 5) dX12_isFree_5 rfl ?_
  obtain ⟨x1, ix1, ex1, h⟩ := rdI_e h
  refine V.ialdX (pc := 6) dX12_isFree_6 lx_49 ly_49 ix1 ex1 ?_
  refine U.callS (pc := 7) (As := [.int l1, .int x1]) (st := []) dX12_isFree_7 l_RX12_147 (ok_X12_isFreeBy (by omega) l1 x1 ) (Nat.le_of_ble_eq_true rfl) rfl rfl (Nat.le_of_ble_eq_true rfl) ?_
  obtain rfl := Option.some.inj h
  exact V.zret (pc := 10) dX12_isFree_10 rfl (b_X12_isFreeBy l1 x1) (Nat.le_refl _) (Nat.le_refl _)
theorem dX12_ones_0 : decode cX12_ones 0 = .ok (.iconst 0, 1) := by decide +kernel
theorem dX12_ones_1 : decode cX12_ones 1 = .ok (.istore_n 1, 1) := by decide +kernel
theorem dX12_ones_2 : decode cX12_ones 2 = .ok (.iload_n 0, 1) := by decide +kernel
theorem dX12_ones_3 : decode cX12_ones 3 = .ok (.istore_n 2, 1) := by decide +kernel
theorem dX12_ones_4 : decode cX12_ones 4 = .ok (.iload_n 2, 1) := by decide +kernel
theorem dX12_ones_5 : decode cX12_ones 5 = .ok (.ifCond .eq 15, 3) := by decide +kernel
theorem dX12_ones_8 : decode cX12_ones 8 = .ok (.iinc 1 1, 3) := by decide +kernel
theorem dX12_ones_11 : decode cX12_ones 11 = .ok (.iload_n 2, 1) := by decide +kernel
theorem dX12_ones_12 : decode cX12_ones 12 = .ok (.iload_n 2, 1) := by decide +kernel
theorem dX12_ones_13 : decode cX12_ones 13 = .ok (.iconst 1, 1) := by decide +kernel
theorem dX12_ones_14 : decode cX12_ones 14 = .ok (.isub, 1) := by decide +kernel
theorem dX12_ones_15 : decode cX12_ones 15 = .ok (.iand, 1) := by decide +kernel
theorem dX12_ones_16 : decode cX12_ones 16 = .ok (.istore_n 2, 1) := by decide +kernel
theorem dX12_ones_17 : decode cX12_ones 17 = .ok (.goto (-13), 3) := by decide +kernel
theorem dX12_ones_20 : decode cX12_ones 20 = .ok (.iload_n 1, 1) := by decide +kernel
theorem dX12_ones_21 : decode cX12_ones 21 = .ok (.ireturn, 1) := by decide +kernel
def f_X12_ones_B4b (k4 : Int32 → Int32 → Option Int32) (l1 : Int32) (l2 : Int32) : Option Int32 :=
  if l2 = 0 then
    some l1
  else
    k4 (l1 + 1) (l2 &&& (l2 - 1))
def f_X12_ones_L4 (n : Nat) : Int32 → Int32 → Option Int32 :=
  Nat.rec (fun _ _ => none) (fun _ k => f_X12_ones_B4b k) n
set_option maxHeartbeats 4000000 in
set_option maxRecDepth 100000 in
theorem t_X12_ones_L4 {G : GT} {d : Nat} {w : Wd} (hd : 0 ≤ d)  : ∀ (n : Nat) (l1 : Int32) (l2 : Int32) (r : Int32), f_X12_ones_L4 n l1 l2 = some r → U (vf G mX12_ones d) 4 [none, some (.int l1), some (.int l2)] [] w (some (.int r), 70, r0, w) := by
  intro n
  induction n with
  | zero => intro l1 l2 r h; cases h
  | succ n h4 =>
    intro l1 l2 r h
    have h : f_X12_ones_B4b (f_X12_ones_L4 n) l1 l2 = some r := h
    unfold f_X12_ones_B4b at h
    refine V.iload_n (pc := 4) dX12_ones_4 rfl ?_
    rcases ite_e h with ⟨c, h⟩ | ⟨c, h⟩
    · refine V.if_eq_t (t := 20) (pc := 5) dX12_ones_5 (by decide) c ?_
      refine V.iload_n (pc := 20) dX12_ones_20 rfl ?_
      obtain rfl := Option.some.inj h
      exact V.iret (pc := 21) dX12_ones_21 rfl (Nat.le_refl _) (Nat.le_refl _)
    · refine V.if_eq_f (t := 20) (pc := 5) dX12_ones_5 (by decide) c ?_
      refine V.iinc (lv' := [none, some (.int (l1 + 1)), some (.int l2)]) (pc := 8) dX12_ones_8 (Nat.le_of_ble_eq_true rfl) rfl rfl (v := (l1 + 1)) (by rw [show Int32.ofInt 1 = 1 from by decide]) rfl ?_
      refine V.iload_n (pc := 11) dX12_ones_11 rfl ?_
      refine V.iload_n (pc := 12) dX12_ones_12 rfl ?_
      refine V.iconst (pc := 13) dX12_ones_13 ic_1 ?_
      refine V.isub (pc := 14) dX12_ones_14 ?_
      refine V.iand (pc := 15) dX12_ones_15 ?_
      refine V.istore_n (lv' := [none, some (.int (l1 + 1)), some (.int (l2 &&& (l2 - 1)))]) (pc := 16) dX12_ones_16 (Nat.le_of_ble_eq_true rfl) rfl rfl ?_
      refine V.goto (t := 4) (pc := 17) dX12_ones_17 (by decide) ?_
      exact h4 (l1 + 1) (l2 &&& (l2 - 1)) _ h
def f_X12_ones (l0 : Int32) : Option Int32 :=
  f_X12_ones_L4  FU 0 l0
set_option maxHeartbeats 4000000 in
set_option maxRecDepth 100000 in
theorem ok_X12_ones {G : GT} {d : Nat} (hd : 0 ≤ d) {w : Wd} (l0 : Int32) {r : Int32} (h : f_X12_ones l0 = some r) : uC G yX12_ones mX12_ones d [.int l0] w (some (.int r)) w := by
  unfold f_X12_ones at h
  refine uC_of (lv := [some (.int l0), none, none]) 2 pn_X12 ⟨rfl, rfl⟩ (Nat.le_of_ble_eq_true rfl) rfl ?_
  refine V.iconst (pc := 0) dX12_ones_0 ic_0 ?_
  refine V.istore_n (lv' := [some (.int l0), some (.int 0), none]) (pc := 1) dX12_ones_1 (Nat.le_of_ble_eq_true rfl) rfl rfl ?_
  refine V.iload_n (pc := 2) dX12_ones_2 rfl ?_
  refine V.istore_n (lv' := [some (.int l0), some (.int 0), some (.int l0)]) (pc := 3) dX12_ones_3 (Nat.le_of_ble_eq_true rfl) rfl rfl ?_
  refine V.weak (lv' := [none, some (.int 0), some (.int l0)]) (And.intro rfl (And.intro rfl trivial)) ?_
  exact t_X12_ones_L4 hd FU 0 l0 _ h
theorem dX12_fill_0 : decode cX12_fill 0 = .ok (.aload_n 0, 1) := by decide +kernel
theorem dX12_fill_1 : decode cX12_fill 1 = .ok (.aload_n 0, 1) := by decide +kernel
theorem dX12_fill_2 : decode cX12_fill 2 = .ok (.getfield 42, 3) := by decide +kernel
theorem dX12_fill_5 : decode cX12_fill 5 = .ok (.iconst 0, 1) := by decide +kernel
theorem dX12_fill_6 : decode cX12_fill 6 = .ok (.iaload, 1) := by decide +kernel
theorem dX12_fill_7 : decode cX12_fill 7 = .ok (.invokevirtual 150, 3) := by decide +kernel
theorem dX12_fill_10 : decode cX12_fill 10 = .ok (.ifCond .ne 5, 3) := by decide +kernel
theorem dX12_fill_13 : decode cX12_fill 13 = .ok (.iconst (-1), 1) := by decide +kernel
theorem dX12_fill_14 : decode cX12_fill 14 = .ok (.ireturn, 1) := by decide +kernel
theorem dX12_fill_15 : decode cX12_fill 15 = .ok (.aload_n 0, 1) := by decide +kernel
theorem dX12_fill_16 : decode cX12_fill 16 = .ok (.getfield 42, 3) := by decide +kernel
theorem dX12_fill_19 : decode cX12_fill 19 = .ok (.iconst 0, 1) := by decide +kernel
theorem dX12_fill_20 : decode cX12_fill 20 = .ok (.iaload, 1) := by decide +kernel
theorem dX12_fill_21 : decode cX12_fill 21 = .ok (.istore_n 1, 1) := by decide +kernel
theorem dX12_fill_22 : decode cX12_fill 22 = .ok (.iconst 0, 1) := by decide +kernel
theorem dX12_fill_23 : decode cX12_fill 23 = .ok (.istore_n 2, 1) := by decide +kernel
theorem dX12_fill_24 : decode cX12_fill 24 = .ok (.iload_n 2, 1) := by decide +kernel
theorem dX12_fill_25 : decode cX12_fill 25 = .ok (.aload_n 0, 1) := by decide +kernel
theorem dX12_fill_26 : decode cX12_fill 26 = .ok (.getfield 92, 3) := by decide +kernel
theorem dX12_fill_29 : decode cX12_fill 29 = .ok (.if_icmp .ge 35, 3) := by decide +kernel
theorem dX12_fill_32 : decode cX12_fill 32 = .ok (.iload_n 1, 1) := by decide +kernel
theorem dX12_fill_33 : decode cX12_fill 33 = .ok (.iload_n 2, 1) := by decide +kernel
theorem dX12_fill_34 : decode cX12_fill 34 = .ok (.invokestatic 128, 3) := by decide +kernel
theorem dX12_fill_37 : decode cX12_fill 37 = .ok (.ifCond .ne 21, 3) := by decide +kernel
theorem dX12_fill_40 : decode cX12_fill 40 = .ok (.aload_n 0, 1) := by decide +kernel
theorem dX12_fill_41 : decode cX12_fill 41 = .ok (.iload_n 1, 1) := by decide +kernel
theorem dX12_fill_42 : decode cX12_fill 42 = .ok (.iconst 1, 1) := by decide +kernel
theorem dX12_fill_43 : decode cX12_fill 43 = .ok (.iload_n 2, 1) := by decide +kernel
theorem dX12_fill_44 : decode cX12_fill 44 = .ok (.ishl, 1) := by decide +kernel
theorem dX12_fill_45 : decode cX12_fill 45 = .ok (.ior, 1) := by decide +kernel
theorem dX12_fill_46 : decode cX12_fill 46 = .ok (.invokevirtual 150, 3) := by decide +kernel
theorem dX12_fill_49 : decode cX12_fill 49 = .ok (.ifCond .eq 9, 3) := by decide +kernel
theorem dX12_fill_52 : decode cX12_fill 52 = .ok (.iload_n 1, 1) := by decide +kernel
theorem dX12_fill_53 : decode cX12_fill 53 = .ok (.iconst 1, 1) := by decide +kernel
theorem dX12_fill_54 : decode cX12_fill 54 = .ok (.iload_n 2, 1) := by decide +kernel
theorem dX12_fill_55 : decode cX12_fill 55 = .ok (.ishl, 1) := by decide +kernel
theorem dX12_fill_56 : decode cX12_fill 56 = .ok (.ior, 1) := by decide +kernel
theorem dX12_fill_57 : decode cX12_fill 57 = .ok (.istore_n 1, 1) := by decide +kernel
theorem dX12_fill_58 : decode cX12_fill 58 = .ok (.iinc 2 1, 3) := by decide +kernel
theorem dX12_fill_61 : decode cX12_fill 61 = .ok (.goto (-37), 3) := by decide +kernel
theorem dX12_fill_64 : decode cX12_fill 64 = .ok (.iload_n 1, 1) := by decide +kernel
theorem dX12_fill_65 : decode cX12_fill 65 = .ok (.invokestatic 172, 3) := by decide +kernel
theorem dX12_fill_68 : decode cX12_fill 68 = .ok (.aload_n 0, 1) := by decide +kernel
theorem dX12_fill_69 : decode cX12_fill 69 = .ok (.getfield 42, 3) := by decide +kernel
theorem dX12_fill_72 : decode cX12_fill 72 = .ok (.iconst 0, 1) := by decide +kernel
theorem dX12_fill_73 : decode cX12_fill 73 = .ok (.iaload, 1) := by decide +kernel
theorem dX12_fill_74 : decode cX12_fill 74 = .ok (.invokestatic 172, 3) := by decide +kernel
theorem dX12_fill_77 : decode cX12_fill 77 = .ok (.isub, 1) := by decide +kernel
theorem dX12_fill_78 : decode cX12_fill 78 = .ok (.istore_n 2, 1) := by decide +kernel
theorem dX12_fill_79 : decode cX12_fill 79 = .ok (.aload_n 0, 1) := by decide +kernel
theorem dX12_fill_80 : decode cX12_fill 80 = .ok (.iconst 0, 1) := by decide +kernel
theorem dX12_fill_81 : decode cX12_fill 81 = .ok (.iload_n 1, 1) := by decide +kernel
theorem dX12_fill_82 : decode cX12_fill 82 = .ok (.invokevirtual 166, 3) := by decide +kernel
theorem dX12_fill_85 : decode cX12_fill 85 = .ok (.iconst (-1), 1) := by decide +kernel
theorem dX12_fill_86 : decode cX12_fill 86 = .ok (.if_icmp .ne 7, 3) := by decide +kernel
theorem dX12_fill_89 : decode cX12_fill 89 = .ok (.iconst (-1), 1) := by decide +kernel
theorem dX12_fill_90 : decode cX12_fill 90 = .ok (.goto 4, 3) := by decide +kernel
theorem dX12_fill_93 : decode cX12_fill 93 = .ok (.iload_n 2, 1) := by decide +kernel
theorem dX12_fill_94 : decode cX12_fill 94 = .ok (.ireturn, 1) := by decide +kernel
def f_X12_fill_B24b (k24 : Int32 → Int32 → Wd → Option (Int32 × Wd)) (l1 : Int32) (l2 : Int32) (w : Wd) : Option (Int32 × Wd) :=
  if (w.1 44 1) ≤ l2 then
    bnd (f_X12_ones l1) fun x1 =>
    rdI w 54 20 0 fun x2 =>
    bnd (f_X12_ones x2) fun x3 =>
    bnd2 (f_X12_changes 0 l1 w) fun x4 w5 =>
    if x4 = (-1) then
      some ((-1), w5)
    else
      some ((x1 - x3), w5)
  else
    if (f_X12_has l1 l2) = 0 then
      bnd (f_X12_isFree (l1 ||| (1 <<< (l2 &&& 31))) w) fun x6 =>
      if x6 = 0 then
        k24 l1 (l2 + 1) w
      else
        k24 (l1 ||| (1 <<< (l2 &&& 31))) (l2 + 1) w
    else
      k24 l1 (l2 + 1) w
def f_X12_fill_L24 (n : Nat) : Int32 → Int32 → Wd → Option (Int32 × Wd) :=
  Nat.rec (fun _ _ _ => none) (fun _ k => f_X12_fill_B24b k) n
set_option maxHeartbeats 4000000 in
set_option maxRecDepth 100000 in
theorem t_X12_fill_L24 {G : GT} {d : Nat} (hd : 2 ≤ d + 1)  : ∀ (n : Nat) (l1 : Int32) (l2 : Int32) (w : Wd) (r : Int32) (w' : Wd), f_X12_fill_L24 n l1 l2 w = some (r, w') → U (vf G mX12_fill (d + 1)) 24 [some (.ref 44), some (.int l1), some (.int l2)] [] w (some (.int r), 70, r0, w') := by
  intro n
  induction n with
  | zero => intro l1 l2 w r w' h; cases h
  | succ n h24 =>
    intro l1 l2 w r w' h
    have h : f_X12_fill_B24b (f_X12_fill_L24 n) l1 l2 w = some (r, w') := h
    unfold f_X12_fill_B24b at h
    refine V.iload_n (pc := 24) dX12_fill_24 rfl ?_
    refine V.aload_n (pc := 25) dX12_fill_25 rfl ?_
    refine V.getI (pc := 26) dX12_fill_26 f_RX12_92 k_cl12 lx_44 ly_44 rb_12_1 ?_
    rcases ite_e h with ⟨c, h⟩ | ⟨c, h⟩
    · refine V.icmp_ge_t (t := 64) (pc := 29) dX12_fill_29 (by decide) c ?_
      refine V.iload_n (pc := 64) dX12_fill_64 rfl ?_
      obtain ⟨x1, ex1, h⟩ := bnd_e h
      refine U.callS (pc := 65) (As := [.int l1]) (st := []) dX12_fill_65 l_RX12_172 (ok_X12_ones (by omega) l1 ex1) (Nat.le_of_ble_eq_true rfl) rfl rfl (Nat.le_of_ble_eq_true rfl) ?_
      refine V.aload_n (pc := 68) dX12_fill_68 rfl ?_
      refine V.getR (t := 54) (pc := 69) dX12_fill_69 f_RX12_42 k_cl12 lx_44 ly_44 rb_12_13 rr_44_13 ?_
      refine V.iconst (pc := 72) dX12_fill_72 ic_0 ?_
      obtain ⟨x2, ix2, ex2, h⟩ := rdI_e h
      refine V.ialdX (pc := 73) dX12_fill_73 lx_54 ly_54 ix2 ex2 ?_
      obtain ⟨x3, ex3, h⟩ := bnd_e h
      refine U.callS (pc := 74) (As := [.int x2]) (st := [.int x1]) dX12_fill_74 l_RX12_172 (ok_X12_ones (by omega) x2 ex3) (Nat.le_of_ble_eq_true rfl) rfl rfl (Nat.le_of_ble_eq_true rfl) ?_
      refine V.isub (pc := 77) dX12_fill_77 ?_
      refine V.istore_n (lv' := [some (.ref 44), some (.int l1), some (.int (x1 - x3))]) (pc := 78) dX12_fill_78 (Nat.le_of_ble_eq_true rfl) rfl rfl ?_
      refine V.aload_n (pc := 79) dX12_fill_79 rfl ?_
      refine V.iconst (pc := 80) dX12_fill_80 ic_0 ?_
      refine V.iload_n (pc := 81) dX12_fill_81 rfl ?_
      obtain ⟨x4, w5, ew5, h⟩ := bnd2_e h
      refine U.callV (pc := 82) (As := [.int 0, .int l1]) (st := []) dX12_fill_82 l_RX12_166 (ok_X12_changes (by omega) 0 l1 ew5) lx_44 ly_44 cn_12 (Nat.le_of_ble_eq_true rfl) rfl rfl (Nat.le_of_ble_eq_true rfl) ?_
      refine V.iconst (pc := 85) dX12_fill_85 ic_m1 ?_
      rcases ite_e h with ⟨c, h⟩ | ⟨c, h⟩
      · refine V.icmp_ne_f (t := 93) (pc := 86) dX12_fill_86 (by decide) c ?_
        refine V.iconst (pc := 89) dX12_fill_89 ic_m1 ?_
        refine V.goto (t := 94) (pc := 90) dX12_fill_90 (by decide) ?_
        obtain ⟨rfl, rfl⟩ := Prod.mk.inj (Option.some.inj h)
        exact V.iret (pc := 94) dX12_fill_94 rfl (Nat.le_refl _) (Nat.le_refl _)
      · refine V.icmp_ne_t (t := 93) (pc := 86) dX12_fill_86 (by decide) c ?_
        refine V.iload_n (pc := 93) dX12_fill_93 rfl ?_
        obtain ⟨rfl, rfl⟩ := Prod.mk.inj (Option.some.inj h)
        exact V.iret (pc := 94) dX12_fill_94 rfl (Nat.le_refl _) (Nat.le_refl _)
    · refine V.icmp_ge_f (t := 64) (pc := 29) dX12_fill_29 (by decide) c ?_
      refine V.iload_n (pc := 32) dX12_fill_32 rfl ?_
      refine V.iload_n (pc := 33) dX12_fill_33 rfl ?_
      refine U.callS (pc := 34) (As := [.int l1, .int l2]) (st := []) dX12_fill_34 l_RX12_128 (ok_X12_has (by omega) l1 l2 ) (Nat.le_of_ble_eq_true rfl) rfl rfl (Nat.le_of_ble_eq_true rfl) ?_
      rcases ite_e h with ⟨c, h⟩ | ⟨c, h⟩
      · refine V.if_ne_f (t := 58) (pc := 37) dX12_fill_37 (by decide) c ?_
        refine V.aload_n (pc := 40) dX12_fill_40 rfl ?_
        refine V.iload_n (pc := 41) dX12_fill_41 rfl ?_
        refine V.iconst (pc := 42) dX12_fill_42 ic_1 ?_
        refine V.iload_n (pc := 43) dX12_fill_43 rfl ?_
        refine V.ishl (pc := 44) dX12_fill_44 ?_
        refine V.ior (pc := 45) dX12_fill_45 ?_
        obtain ⟨x6, ex6, h⟩ := bnd_e h
        refine U.callV (pc := 46) (As := [.int (l1 ||| (1 <<< (l2 &&& 31)))]) (st := []) dX12_fill_46 l_RX12_150 (ok_X12_isFree (by omega) (l1 ||| (1 <<< (l2 &&& 31))) ex6) lx_44 ly_44 cn_12 (Nat.le_of_ble_eq_true rfl) rfl rfl (Nat.le_of_ble_eq_true rfl) ?_
        rcases ite_e h with ⟨c, h⟩ | ⟨c, h⟩
        · refine V.if_eq_t (t := 58) (pc := 49) dX12_fill_49 (by decide) c ?_
          refine V.iinc (lv' := [some (.ref 44), some (.int l1), some (.int (l2 + 1))]) (pc := 58) dX12_fill_58 (Nat.le_of_ble_eq_true rfl) rfl rfl (v := (l2 + 1)) (by rw [show Int32.ofInt 1 = 1 from by decide]) rfl ?_
          refine V.goto (t := 24) (pc := 61) dX12_fill_61 (by decide) ?_
          exact h24 l1 (l2 + 1) w _ _ h
        · refine V.if_eq_f (t := 58) (pc := 49) dX12_fill_49 (by decide) c ?_
          refine V.iload_n (pc := 52) dX12_fill_52 rfl ?_
          refine V.iconst (pc := 53) dX12_fill_53 ic_1 ?_
          refine V.iload_n (pc := 54) dX12_fill_54 rfl ?_
          refine V.ishl (pc := 55) dX12_fill_55 ?_
          refine V.ior (pc := 56) dX12_fill_56 ?_
          refine V.istore_n (lv' := [some (.ref 44), some (.int (l1 ||| (1 <<< (l2 &&& 31)))), some (.int l2)]) (pc := 57) dX12_fill_57 (Nat.le_of_ble_eq_true rfl) rfl rfl ?_
          refine V.iinc (lv' := [some (.ref 44), some (.int (l1 ||| (1 <<< (l2 &&& 31)))), some (.int (l2 + 1))]) (pc := 58) dX12_fill_58 (Nat.le_of_ble_eq_true rfl) rfl rfl (v := (l2 + 1)) (by rw [show Int32.ofInt 1 = 1 from by decide]) rfl ?_
          refine V.goto (t := 24) (pc := 61) dX12_fill_61 (by decide) ?_
          exact h24 (l1 ||| (1 <<< (l2 &&& 31))) (l2 + 1) w _ _ h
      · refine V.if_ne_t (t := 58) (pc := 37) dX12_fill_37 (by decide) c ?_
        refine V.iinc (lv' := [some (.ref 44), some (.int l1), some (.int (l2 + 1))]) (pc := 58) dX12_fill_58 (Nat.le_of_ble_eq_true rfl) rfl rfl (v := (l2 + 1)) (by rw [show Int32.ofInt 1 = 1 from by decide]) rfl ?_
        refine V.goto (t := 24) (pc := 61) dX12_fill_61 (by decide) ?_
        exact h24 l1 (l2 + 1) w _ _ h
def f_X12_fill (w : Wd) : Option (Int32 × Wd) :=
  rdI w 54 20 0 fun x1 =>
  bnd (f_X12_isFree x1 w) fun x2 =>
  if x2 = 0 then
    some ((-1), w)
  else
    rdI w 54 20 0 fun x3 =>
    f_X12_fill_L24  FU x3 0 w
set_option maxHeartbeats 4000000 in
set_option maxRecDepth 100000 in
theorem ok_X12_fill {G : GT} {d : Nat} (hd : 2 ≤ d) {w : Wd}  {r : Int32} {w' : Wd} (h : f_X12_fill  w = some (r, w')) : uC G yX12_fill mX12_fill d [.ref 44] w (some (.int r)) w' := by
  obtain ⟨d, rfl⟩ : ∃ e, d = e + 1 := ⟨d - 1, by omega⟩
  unfold f_X12_fill at h
  refine uC_of (lv := [some (.ref 44), none, none]) 2 pn_X12 ⟨rfl, rfl⟩ (Nat.le_of_ble_eq_true rfl) rfl ?_
  refine V.aload_n (pc := 0) dX12_fill_0 rfl ?_
  refine V.aload_n (pc := 1) dX12_fill_1 rfl ?_
  refine V.getR (t := 54) (pc := 2) dX12_fill_2 f_RX12_42 k_cl12 lx_44 ly_44 rb_12_13 rr_44_13 ?_
  refine V.iconst (pc := 5) dX12_fill_5 ic_0 ?_
  obtain ⟨x1, ix1, ex1, h⟩ := rdI_e h
  refine V.ialdX (pc := 6) dX12_fill_6 lx_54 ly_54 ix1 ex1 ?_
  obtain ⟨x2, ex2, h⟩ := bnd_e h
  refine U.callV (pc := 7) (As := [.int x1]) (st := []) dX12_fill_7 l_RX12_150 (ok_X12_isFree (by omega) x1 ex2) lx_44 ly_44 cn_12 (Nat.le_of_ble_eq_true rfl) rfl rfl (Nat.le_of_ble_eq_true rfl) ?_
  rcases ite_e h with ⟨c, h⟩ | ⟨c, h⟩
  · refine V.if_ne_f (t := 15) (pc := 10) dX12_fill_10 (by decide) c ?_
    refine V.iconst (pc := 13) dX12_fill_13 ic_m1 ?_
    obtain ⟨rfl, rfl⟩ := Prod.mk.inj (Option.some.inj h)
    exact V.iret (pc := 14) dX12_fill_14 rfl (Nat.le_refl _) (Nat.le_refl _)
  · refine V.if_ne_t (t := 15) (pc := 10) dX12_fill_10 (by decide) c ?_
    refine V.aload_n (pc := 15) dX12_fill_15 rfl ?_
    refine V.getR (t := 54) (pc := 16) dX12_fill_16 f_RX12_42 k_cl12 lx_44 ly_44 rb_12_13 rr_44_13 ?_
    refine V.iconst (pc := 19) dX12_fill_19 ic_0 ?_
    obtain ⟨x3, ix3, ex3, h⟩ := rdI_e h
    refine V.ialdX (pc := 20) dX12_fill_20 lx_54 ly_54 ix3 ex3 ?_
    refine V.istore_n (lv' := [some (.ref 44), some (.int x3), none]) (pc := 21) dX12_fill_21 (Nat.le_of_ble_eq_true rfl) rfl rfl ?_
    refine V.iconst (pc := 22) dX12_fill_22 ic_0 ?_
    refine V.istore_n (lv' := [some (.ref 44), some (.int x3), some (.int 0)]) (pc := 23) dX12_fill_23 (Nat.le_of_ble_eq_true rfl) rfl rfl ?_
    exact t_X12_fill_L24 hd FU x3 0 w _ _ h
