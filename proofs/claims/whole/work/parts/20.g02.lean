theorem dX11_back_0 : decode cX11_back 0 = .ok (.iload_n 1, 1) := by decide +kernel
theorem dX11_back_1 : decode cX11_back 1 = .ok (.ifCond .lt 14, 3) := by decide +kernel
theorem dX11_back_4 : decode cX11_back 4 = .ok (.iload_n 1, 1) := by decide +kernel
theorem dX11_back_5 : decode cX11_back 5 = .ok (.aload_n 0, 1) := by decide +kernel
theorem dX11_back_6 : decode cX11_back 6 = .ok (.getfield 10, 3) := by decide +kernel
theorem dX11_back_9 : decode cX11_back 9 = .ok (.getfield 92, 3) := by decide +kernel
theorem dX11_back_12 : decode cX11_back 12 = .ok (.if_icmp .le 5, 3) := by decide +kernel
theorem dX11_back_15 : decode cX11_back 15 = .ok (.iconst (-1), 1) := by decide +kernel
theorem dX11_back_16 : decode cX11_back 16 = .ok (.ireturn, 1) := by decide +kernel
theorem dX11_back_17 : decode cX11_back 17 = .ok (.aload_n 0, 1) := by decide +kernel
theorem dX11_back_18 : decode cX11_back 18 = .ok (.getfield 10, 3) := by decide +kernel
theorem dX11_back_21 : decode cX11_back 21 = .ok (.dup, 1) := by decide +kernel
theorem dX11_back_22 : decode cX11_back 22 = .ok (.getfield 92, 3) := by decide +kernel
theorem dX11_back_25 : decode cX11_back 25 = .ok (.iload_n 1, 1) := by decide +kernel
theorem dX11_back_26 : decode cX11_back 26 = .ok (.isub, 1) := by decide +kernel
theorem dX11_back_27 : decode cX11_back 27 = .ok (.putfield 92, 3) := by decide +kernel
theorem dX11_back_30 : decode cX11_back 30 = .ok (.aload_n 0, 1) := by decide +kernel
theorem dX11_back_31 : decode cX11_back 31 = .ok (.getfield 10, 3) := by decide +kernel
theorem dX11_back_34 : decode cX11_back 34 = .ok (.getfield 92, 3) := by decide +kernel
theorem dX11_back_37 : decode cX11_back 37 = .ok (.ireturn, 1) := by decide +kernel
def f_X11_back (l1 : Int32) (w : Wd) : Option (Int32 × Wd) :=
  if l1 < 0 then
    some ((-1), w)
  else
    if l1 ≤ (w.1 1 1) then
      letW (sI w 1 1 ((w.1 1 1) - l1)) fun w1 =>
      some ((w1.1 1 1), w1)
    else
      some ((-1), w)
set_option maxHeartbeats 4000000 in
set_option maxRecDepth 100000 in
theorem ok_X11_back {G : GT} {d : Nat} (hd : 0 ≤ d) {w : Wd} (l1 : Int32) {r : Int32} {w' : Wd} (h : f_X11_back l1 w = some (r, w')) : uC G yX11_back mX11_back d [.ref 0, .int l1] w (some (.int r)) w' := by
  unfold f_X11_back at h
  refine uC_of (lv := [some (.ref 0), some (.int l1)]) 0 pn_X11 ⟨rfl, rfl⟩ (Nat.le_of_ble_eq_true rfl) rfl ?_
  refine V.iload_n (pc := 0) dX11_back_0 rfl ?_
  rcases ite_e h with ⟨c, h⟩ | ⟨c, h⟩
  · refine V.if_lt_t (t := 15) (pc := 1) dX11_back_1 (by decide) c ?_
    refine V.iconst (pc := 15) dX11_back_15 ic_m1 ?_
    obtain ⟨rfl, rfl⟩ := Prod.mk.inj (Option.some.inj h)
    exact V.iret (pc := 16) dX11_back_16 rfl (Nat.le_refl _) (Nat.le_refl _)
  · refine V.if_lt_f (t := 15) (pc := 1) dX11_back_1 (by decide) c ?_
    refine V.iload_n (pc := 4) dX11_back_4 rfl ?_
    refine V.aload_n (pc := 5) dX11_back_5 rfl ?_
    refine V.getR (t := 1) (pc := 6) dX11_back_6 f_RX11_10 k_cl11 lx_0 ly_0 rb_11_0 rr_0_0 ?_
    refine V.getI (pc := 9) dX11_back_9 f_RX11_92 k_cl9 lx_1 ly_1 rb_9_1 ?_
    rcases ite_e h with ⟨c, h⟩ | ⟨c, h⟩
    · refine V.icmp_le_t (t := 17) (pc := 12) dX11_back_12 (by decide) c ?_
      refine V.aload_n (pc := 17) dX11_back_17 rfl ?_
      refine V.getR (t := 1) (pc := 18) dX11_back_18 f_RX11_10 k_cl11 lx_0 ly_0 rb_11_0 rr_0_0 ?_
      refine V.dup (pc := 21) dX11_back_21 rfl ?_
      refine V.getI (pc := 22) dX11_back_22 f_RX11_92 k_cl9 lx_1 ly_1 rb_9_1 ?_
      refine V.iload_n (pc := 25) dX11_back_25 rfl ?_
      refine V.isub (pc := 26) dX11_back_26 ?_
      obtain ⟨w1, ew1, h⟩ := letW_e h
      refine V.putIX (pc := 27) dX11_back_27 f_RX11_92 k_cl9 lx_1 ly_1 rb_9_1 (fin_I (T0 := TX9) rfl rfl rfl) ew1 ?_
      refine V.aload_n (pc := 30) dX11_back_30 rfl ?_
      refine V.getR (t := 1) (pc := 31) dX11_back_31 f_RX11_10 k_cl11 lx_0 ly_0 rb_11_0 rr_0_0 ?_
      refine V.getI (pc := 34) dX11_back_34 f_RX11_92 k_cl9 lx_1 ly_1 rb_9_1 ?_
      obtain ⟨rfl, rfl⟩ := Prod.mk.inj (Option.some.inj h)
      exact V.iret (pc := 37) dX11_back_37 rfl (Nat.le_refl _) (Nat.le_refl _)
    · refine V.icmp_le_f (t := 17) (pc := 12) dX11_back_12 (by decide) c ?_
      refine V.iconst (pc := 15) dX11_back_15 ic_m1 ?_
      obtain ⟨rfl, rfl⟩ := Prod.mk.inj (Option.some.inj h)
      exact V.iret (pc := 16) dX11_back_16 rfl (Nat.le_refl _) (Nat.le_refl _)
theorem dX12_in_0 : decode cX12_in 0 = .ok (.iload_n 0, 1) := by decide +kernel
theorem dX12_in_1 : decode cX12_in 1 = .ok (.iload_n 1, 1) := by decide +kernel
theorem dX12_in_2 : decode cX12_in 2 = .ok (.if_icmp .lt 12, 3) := by decide +kernel
theorem dX12_in_5 : decode cX12_in 5 = .ok (.iload_n 0, 1) := by decide +kernel
theorem dX12_in_6 : decode cX12_in 6 = .ok (.iload_n 2, 1) := by decide +kernel
theorem dX12_in_7 : decode cX12_in 7 = .ok (.if_icmp .gt 7, 3) := by decide +kernel
theorem dX12_in_10 : decode cX12_in 10 = .ok (.iconst 1, 1) := by decide +kernel
theorem dX12_in_11 : decode cX12_in 11 = .ok (.goto 4, 3) := by decide +kernel
theorem dX12_in_14 : decode cX12_in 14 = .ok (.iconst 0, 1) := by decide +kernel
theorem dX12_in_15 : decode cX12_in 15 = .ok (.ireturn, 1) := by decide +kernel
def f_X12_in (l0 : Int32) (l1 : Int32) (l2 : Int32) : Int32 :=
  if l0 < l1 then
    (0 : Int32)
  else
    if l2 < l0 then
      (0 : Int32)
    else
      (1 : Int32)
set_option maxHeartbeats 4000000 in
set_option maxRecDepth 100000 in
theorem ok_X12_in {G : GT} {d : Nat} (hd : 0 ≤ d) {w : Wd} (l0 : Int32) (l1 : Int32) (l2 : Int32) : uC G yX12_in mX12_in d [.int l0, .int l1, .int l2] w (some (.int (f_X12_in l0 l1 l2))) w := by
  suffices key : ∀ r, f_X12_in l0 l1 l2 = r → uC G yX12_in mX12_in d [.int l0, .int l1, .int l2] w (some (.int r)) w from key _ rfl
  intro r h
  unfold f_X12_in at h
  refine uC_of (lv := [some (.int l0), some (.int l1), some (.int l2)]) 0 pn_X12 ⟨rfl, rfl⟩ (Nat.le_of_ble_eq_true rfl) rfl ?_
  refine V.iload_n (pc := 0) dX12_in_0 rfl ?_
  refine V.iload_n (pc := 1) dX12_in_1 rfl ?_
  rcases ite_e h with ⟨c, h⟩ | ⟨c, h⟩
  · refine V.icmp_lt_t (t := 14) (pc := 2) dX12_in_2 (by decide) c ?_
    refine V.iconst (pc := 14) dX12_in_14 ic_0 ?_
    subst h
    exact V.zret (pc := 15) dX12_in_15 rfl (Or.inl rfl) (Nat.le_refl _) (Nat.le_refl _)
  · refine V.icmp_lt_f (t := 14) (pc := 2) dX12_in_2 (by decide) c ?_
    refine V.iload_n (pc := 5) dX12_in_5 rfl ?_
    refine V.iload_n (pc := 6) dX12_in_6 rfl ?_
    rcases ite_e h with ⟨c, h⟩ | ⟨c, h⟩
    · refine V.icmp_gt_t (t := 14) (pc := 7) dX12_in_7 (by decide) c ?_
      refine V.iconst (pc := 14) dX12_in_14 ic_0 ?_
      subst h
      exact V.zret (pc := 15) dX12_in_15 rfl (Or.inl rfl) (Nat.le_refl _) (Nat.le_refl _)
    · refine V.icmp_gt_f (t := 14) (pc := 7) dX12_in_7 (by decide) c ?_
      refine V.iconst (pc := 10) dX12_in_10 ic_1 ?_
      refine V.goto (t := 15) (pc := 11) dX12_in_11 (by decide) ?_
      subst h
      exact V.zret (pc := 15) dX12_in_15 rfl (Or.inr rfl) (Nat.le_refl _) (Nat.le_refl _)
theorem b_X12_in (l0 : Int32) (l1 : Int32) (l2 : Int32) : f_X12_in l0 l1 l2 = 0 ∨ f_X12_in l0 l1 l2 = 1 := by
  unfold f_X12_in
  repeat' (first | exact Or.inl rfl | exact Or.inr rfl | apply b_tree)
  all_goals first | exact Or.inl rfl | exact Or.inr rfl | assumption
theorem dX12_back_0 : decode cX12_back 0 = .ok (.iload_n 1, 1) := by decide +kernel
theorem dX12_back_1 : decode cX12_back 1 = .ok (.iconst 0, 1) := by decide +kernel
theorem dX12_back_2 : decode cX12_back 2 = .ok (.aload_n 0, 1) := by decide +kernel
theorem dX12_back_3 : decode cX12_back 3 = .ok (.getfield 286, 3) := by decide +kernel
theorem dX12_back_6 : decode cX12_back 6 = .ok (.invokestatic 139, 3) := by decide +kernel
theorem dX12_back_9 : decode cX12_back 9 = .ok (.ifCond .ne 5, 3) := by decide +kernel
theorem dX12_back_12 : decode cX12_back 12 = .ok (.iconst (-1), 1) := by decide +kernel
theorem dX12_back_13 : decode cX12_back 13 = .ok (.ireturn, 1) := by decide +kernel
theorem dX12_back_14 : decode cX12_back 14 = .ok (.aload_n 0, 1) := by decide +kernel
theorem dX12_back_15 : decode cX12_back 15 = .ok (.dup, 1) := by decide +kernel
theorem dX12_back_16 : decode cX12_back 16 = .ok (.getfield 286, 3) := by decide +kernel
theorem dX12_back_19 : decode cX12_back 19 = .ok (.iload_n 1, 1) := by decide +kernel
theorem dX12_back_20 : decode cX12_back 20 = .ok (.isub, 1) := by decide +kernel
theorem dX12_back_21 : decode cX12_back 21 = .ok (.putfield 286, 3) := by decide +kernel
theorem dX12_back_24 : decode cX12_back 24 = .ok (.aload_n 0, 1) := by decide +kernel
theorem dX12_back_25 : decode cX12_back 25 = .ok (.getfield 286, 3) := by decide +kernel
theorem dX12_back_28 : decode cX12_back 28 = .ok (.ireturn, 1) := by decide +kernel
def f_X12_back (l1 : Int32) (w : Wd) : Option (Int32 × Wd) :=
  if (f_X12_in l1 0 (w.1 44 30)) = 0 then
    some ((-1), w)
  else
    letW (sI w 44 30 ((w.1 44 30) - l1)) fun w1 =>
    some ((w1.1 44 30), w1)
set_option maxHeartbeats 4000000 in
set_option maxRecDepth 100000 in
theorem ok_X12_back {G : GT} {d : Nat} (hd : 1 ≤ d) {w : Wd} (l1 : Int32) {r : Int32} {w' : Wd} (h : f_X12_back l1 w = some (r, w')) : uC G yX12_back mX12_back d [.ref 44, .int l1] w (some (.int r)) w' := by
  obtain ⟨d, rfl⟩ : ∃ e, d = e + 1 := ⟨d - 1, by omega⟩
  unfold f_X12_back at h
  refine uC_of (lv := [some (.ref 44), some (.int l1)]) 0 pn_X12 ⟨rfl, rfl⟩ (Nat.le_of_ble_eq_true rfl) rfl ?_
  refine V.iload_n (pc := 0) dX12_back_0 rfl ?_
  refine V.iconst (pc := 1) dX12_back_1 ic_0 ?_
  refine V.aload_n (pc := 2) dX12_back_2 rfl ?_
  refine V.getI (pc := 3) dX12_back_3 f_RX12_286 k_cl12 lx_44 ly_44 rb_12_30 ?_
  refine U.callS (pc := 6) (As := [.int l1, .int 0, .int (w.1 44 30)]) (st := []) dX12_back_6 l_RX12_139 (ok_X12_in (by omega) l1 0 (w.1 44 30) ) (Nat.le_of_ble_eq_true rfl) rfl rfl (Nat.le_of_ble_eq_true rfl) ?_
  rcases ite_e h with ⟨c, h⟩ | ⟨c, h⟩
  · refine V.if_ne_f (t := 14) (pc := 9) dX12_back_9 (by decide) c ?_
    refine V.iconst (pc := 12) dX12_back_12 ic_m1 ?_
    obtain ⟨rfl, rfl⟩ := Prod.mk.inj (Option.some.inj h)
    exact V.iret (pc := 13) dX12_back_13 rfl (Nat.le_refl _) (Nat.le_refl _)
  · refine V.if_ne_t (t := 14) (pc := 9) dX12_back_9 (by decide) c ?_
    refine V.aload_n (pc := 14) dX12_back_14 rfl ?_
    refine V.dup (pc := 15) dX12_back_15 rfl ?_
    refine V.getI (pc := 16) dX12_back_16 f_RX12_286 k_cl12 lx_44 ly_44 rb_12_30 ?_
    refine V.iload_n (pc := 19) dX12_back_19 rfl ?_
    refine V.isub (pc := 20) dX12_back_20 ?_
    obtain ⟨w1, ew1, h⟩ := letW_e h
    refine V.putIX (pc := 21) dX12_back_21 f_RX12_286 k_cl12 lx_44 ly_44 rb_12_30 (fin_I (T0 := TX12) rfl rfl rfl) ew1 ?_
    refine V.aload_n (pc := 24) dX12_back_24 rfl ?_
    refine V.getI (pc := 25) dX12_back_25 f_RX12_286 k_cl12 lx_44 ly_44 rb_12_30 ?_
    obtain ⟨rfl, rfl⟩ := Prod.mk.inj (Option.some.inj h)
    exact V.iret (pc := 28) dX12_back_28 rfl (Nat.le_refl _) (Nat.le_refl _)
theorem dX9_byteAt_0 : decode cX9_byteAt 0 = .ok (.iload_n 1, 1) := by decide +kernel
theorem dX9_byteAt_1 : decode cX9_byteAt 1 = .ok (.ifCond .lt 27, 3) := by decide +kernel
theorem dX9_byteAt_4 : decode cX9_byteAt 4 = .ok (.iload_n 1, 1) := by decide +kernel
theorem dX9_byteAt_5 : decode cX9_byteAt 5 = .ok (.aload_n 0, 1) := by decide +kernel
theorem dX9_byteAt_6 : decode cX9_byteAt 6 = .ok (.getfield 15, 3) := by decide +kernel
theorem dX9_byteAt_9 : decode cX9_byteAt 9 = .ok (.if_icmp .ge 19, 3) := by decide +kernel
theorem dX9_byteAt_12 : decode cX9_byteAt 12 = .ok (.iload_n 1, 1) := by decide +kernel
theorem dX9_byteAt_13 : decode cX9_byteAt 13 = .ok (.sipush 200, 3) := by decide +kernel
theorem dX9_byteAt_16 : decode cX9_byteAt 16 = .ok (.if_icmp .ge 12, 3) := by decide +kernel
theorem dX9_byteAt_19 : decode cX9_byteAt 19 = .ok (.aload_n 0, 1) := by decide +kernel
theorem dX9_byteAt_20 : decode cX9_byteAt 20 = .ok (.getfield 11, 3) := by decide +kernel
theorem dX9_byteAt_23 : decode cX9_byteAt 23 = .ok (.iload_n 1, 1) := by decide +kernel
theorem dX9_byteAt_24 : decode cX9_byteAt 24 = .ok (.iaload, 1) := by decide +kernel
theorem dX9_byteAt_25 : decode cX9_byteAt 25 = .ok (.goto 4, 3) := by decide +kernel
theorem dX9_byteAt_28 : decode cX9_byteAt 28 = .ok (.iconst (-1), 1) := by decide +kernel
theorem dX9_byteAt_29 : decode cX9_byteAt 29 = .ok (.ireturn, 1) := by decide +kernel
def f_X9_byteAt (l1 : Int32) (w : Wd) : Option Int32 :=
  if l1 < 0 then
    some (-1)
  else
    if (w.1 1 1) ≤ l1 then
      some (-1)
    else
      if 200 ≤ l1 then
        some (-1)
      else
        rdI w 2 200 l1 fun x1 =>
        some x1
set_option maxHeartbeats 4000000 in
set_option maxRecDepth 100000 in
theorem ok_X9_byteAt {G : GT} {d : Nat} (hd : 0 ≤ d) {w : Wd} (l1 : Int32) {r : Int32} (h : f_X9_byteAt l1 w = some r) : uC G yX9_byteAt mX9_byteAt d [.ref 1, .int l1] w (some (.int r)) w := by
  unfold f_X9_byteAt at h
  refine uC_of (lv := [some (.ref 1), some (.int l1)]) 0 pn_X9 ⟨rfl, rfl⟩ (Nat.le_of_ble_eq_true rfl) rfl ?_
  refine V.iload_n (pc := 0) dX9_byteAt_0 rfl ?_
  rcases ite_e h with ⟨c, h⟩ | ⟨c, h⟩
  · refine V.if_lt_t (t := 28) (pc := 1) dX9_byteAt_1 (by decide) c ?_
    refine V.iconst (pc := 28) dX9_byteAt_28 ic_m1 ?_
    obtain rfl := Option.some.inj h
    exact V.iret (pc := 29) dX9_byteAt_29 rfl (Nat.le_refl _) (Nat.le_refl _)
  · refine V.if_lt_f (t := 28) (pc := 1) dX9_byteAt_1 (by decide) c ?_
    refine V.iload_n (pc := 4) dX9_byteAt_4 rfl ?_
    refine V.aload_n (pc := 5) dX9_byteAt_5 rfl ?_
    refine V.getI (pc := 6) dX9_byteAt_6 f_RX9_15 k_cl9 lx_1 ly_1 rb_9_1 ?_
    rcases ite_e h with ⟨c, h⟩ | ⟨c, h⟩
    · refine V.icmp_ge_t (t := 28) (pc := 9) dX9_byteAt_9 (by decide) c ?_
      refine V.iconst (pc := 28) dX9_byteAt_28 ic_m1 ?_
      obtain rfl := Option.some.inj h
      exact V.iret (pc := 29) dX9_byteAt_29 rfl (Nat.le_refl _) (Nat.le_refl _)
    · refine V.icmp_ge_f (t := 28) (pc := 9) dX9_byteAt_9 (by decide) c ?_
      refine V.iload_n (pc := 12) dX9_byteAt_12 rfl ?_
      refine V.sipush (pc := 13) dX9_byteAt_13 sp_200 ?_
      rcases ite_e h with ⟨c, h⟩ | ⟨c, h⟩
      · refine V.icmp_ge_t (t := 28) (pc := 16) dX9_byteAt_16 (by decide) c ?_
        refine V.iconst (pc := 28) dX9_byteAt_28 ic_m1 ?_
        obtain rfl := Option.some.inj h
        exact V.iret (pc := 29) dX9_byteAt_29 rfl (Nat.le_refl _) (Nat.le_refl _)
      · refine V.icmp_ge_f (t := 28) (pc := 16) dX9_byteAt_16 (by decide) c ?_
        refine V.aload_n (pc := 19) dX9_byteAt_19 rfl ?_
        refine V.getR (t := 2) (pc := 20) dX9_byteAt_20 f_RX9_11 k_cl9 lx_1 ly_1 rb_9_0 rr_1_0 ?_
        refine V.iload_n (pc := 23) dX9_byteAt_23 rfl ?_
        obtain ⟨x1, ix1, ex1, h⟩ := rdI_e h
        refine V.ialdX (pc := 24) dX9_byteAt_24 lx_2 ly_2 ix1 ex1 ?_
        refine V.goto (t := 29) (pc := 25) dX9_byteAt_25 (by decide) ?_
        obtain rfl := Option.some.inj h
        exact V.iret (pc := 29) dX9_byteAt_29 rfl (Nat.le_refl _) (Nat.le_refl _)
theorem dX7_skipBlanks_0 : decode cX7_skipBlanks 0 = .ok (.aload_n 0, 1) := by decide +kernel
theorem dX7_skipBlanks_1 : decode cX7_skipBlanks 1 = .ok (.getfield 35, 3) := by decide +kernel
theorem dX7_skipBlanks_4 : decode cX7_skipBlanks 4 = .ok (.aload_n 0, 1) := by decide +kernel
theorem dX7_skipBlanks_5 : decode cX7_skipBlanks 5 = .ok (.getfield 25, 3) := by decide +kernel
theorem dX7_skipBlanks_8 : decode cX7_skipBlanks 8 = .ok (.getfield 43, 3) := by decide +kernel
theorem dX7_skipBlanks_11 : decode cX7_skipBlanks 11 = .ok (.if_icmp .ge 48, 3) := by decide +kernel
theorem dX7_skipBlanks_14 : decode cX7_skipBlanks 14 = .ok (.aload_n 0, 1) := by decide +kernel
theorem dX7_skipBlanks_15 : decode cX7_skipBlanks 15 = .ok (.getfield 25, 3) := by decide +kernel
theorem dX7_skipBlanks_18 : decode cX7_skipBlanks 18 = .ok (.aload_n 0, 1) := by decide +kernel
theorem dX7_skipBlanks_19 : decode cX7_skipBlanks 19 = .ok (.getfield 35, 3) := by decide +kernel
theorem dX7_skipBlanks_22 : decode cX7_skipBlanks 22 = .ok (.invokevirtual 79, 3) := by decide +kernel
theorem dX7_skipBlanks_25 : decode cX7_skipBlanks 25 = .ok (.bipush 32, 2) := by decide +kernel
theorem dX7_skipBlanks_27 : decode cX7_skipBlanks 27 = .ok (.if_icmp .eq 19, 3) := by decide +kernel
theorem dX7_skipBlanks_30 : decode cX7_skipBlanks 30 = .ok (.aload_n 0, 1) := by decide +kernel
theorem dX7_skipBlanks_31 : decode cX7_skipBlanks 31 = .ok (.getfield 25, 3) := by decide +kernel
theorem dX7_skipBlanks_34 : decode cX7_skipBlanks 34 = .ok (.aload_n 0, 1) := by decide +kernel
theorem dX7_skipBlanks_35 : decode cX7_skipBlanks 35 = .ok (.getfield 35, 3) := by decide +kernel
theorem dX7_skipBlanks_38 : decode cX7_skipBlanks 38 = .ok (.invokevirtual 79, 3) := by decide +kernel
theorem dX7_skipBlanks_41 : decode cX7_skipBlanks 41 = .ok (.bipush 10, 2) := by decide +kernel
theorem dX7_skipBlanks_43 : decode cX7_skipBlanks 43 = .ok (.if_icmp .ne 16, 3) := by decide +kernel
theorem dX7_skipBlanks_46 : decode cX7_skipBlanks 46 = .ok (.aload_n 0, 1) := by decide +kernel
theorem dX7_skipBlanks_47 : decode cX7_skipBlanks 47 = .ok (.dup, 1) := by decide +kernel
theorem dX7_skipBlanks_48 : decode cX7_skipBlanks 48 = .ok (.getfield 35, 3) := by decide +kernel
theorem dX7_skipBlanks_51 : decode cX7_skipBlanks 51 = .ok (.iconst 1, 1) := by decide +kernel
theorem dX7_skipBlanks_52 : decode cX7_skipBlanks 52 = .ok (.iadd, 1) := by decide +kernel
theorem dX7_skipBlanks_53 : decode cX7_skipBlanks 53 = .ok (.putfield 35, 3) := by decide +kernel
theorem dX7_skipBlanks_56 : decode cX7_skipBlanks 56 = .ok (.goto (-56), 3) := by decide +kernel
theorem dX7_skipBlanks_59 : decode cX7_skipBlanks 59 = .ok (.return_, 1) := by decide +kernel
def f_X7_skipBlanks_B0b (k0 : Wd → Option Wd) (w : Wd) : Option Wd :=
  if (w.1 1 1) ≤ (w.1 3 6) then
    some w
  else
    bnd (f_X9_byteAt (w.1 3 6) w) fun x1 =>
    if x1 = 32 then
      letW (sI w 3 6 ((w.1 3 6) + 1)) fun w2 =>
      k0 w2
    else
      bnd (f_X9_byteAt (w.1 3 6) w) fun x3 =>
      if x3 = 10 then
        letW (sI w 3 6 ((w.1 3 6) + 1)) fun w4 =>
        k0 w4
      else
        some w
def f_X7_skipBlanks_L0 (n : Nat) : Wd → Option Wd :=
  Nat.rec (fun _ => none) (fun _ k => f_X7_skipBlanks_B0b k) n
set_option maxHeartbeats 4000000 in
set_option maxRecDepth 100000 in
theorem t_X7_skipBlanks_L0 {G : GT} {d : Nat} (hd : 1 ≤ d + 1)  : ∀ (n : Nat)  (w : Wd) (w' : Wd), f_X7_skipBlanks_L0 n  w = some w' → U (vf G mX7_skipBlanks (d + 1)) 0 [some (.ref 3)] [] w (none, 70, r0, w') := by
  intro n
  induction n with
  | zero => intro  w w' h; cases h
  | succ n h0 =>
    intro  w w' h
    have h : f_X7_skipBlanks_B0b (f_X7_skipBlanks_L0 n)  w = some w' := h
    unfold f_X7_skipBlanks_B0b at h
    refine V.aload_n (pc := 0) dX7_skipBlanks_0 rfl ?_
    refine V.getI (pc := 1) dX7_skipBlanks_1 f_RX7_35 k_cl7 lx_3 ly_3 rb_7_6 ?_
    refine V.aload_n (pc := 4) dX7_skipBlanks_4 rfl ?_
    refine V.getR (t := 1) (pc := 5) dX7_skipBlanks_5 f_RX7_25 k_cl7 lx_3 ly_3 rb_7_0 rr_3_0 ?_
    refine V.getI (pc := 8) dX7_skipBlanks_8 f_RX7_43 k_cl9 lx_1 ly_1 rb_9_1 ?_
    rcases ite_e h with ⟨c, h⟩ | ⟨c, h⟩
    · refine V.icmp_ge_t (t := 59) (pc := 11) dX7_skipBlanks_11 (by decide) c ?_
      obtain rfl := Option.some.inj h
      exact V.vret (pc := 59) dX7_skipBlanks_59 rfl (Nat.le_refl _) (Nat.le_refl _)
    · refine V.icmp_ge_f (t := 59) (pc := 11) dX7_skipBlanks_11 (by decide) c ?_
      refine V.aload_n (pc := 14) dX7_skipBlanks_14 rfl ?_
      refine V.getR (t := 1) (pc := 15) dX7_skipBlanks_15 f_RX7_25 k_cl7 lx_3 ly_3 rb_7_0 rr_3_0 ?_
      refine V.aload_n (pc := 18) dX7_skipBlanks_18 rfl ?_
      refine V.getI (pc := 19) dX7_skipBlanks_19 f_RX7_35 k_cl7 lx_3 ly_3 rb_7_6 ?_
      obtain ⟨x1, ex1, h⟩ := bnd_e h
      refine U.callV (pc := 22) (As := [.int (w.1 3 6)]) (st := []) dX7_skipBlanks_22 l_RX7_79 (ok_X9_byteAt (by omega) (w.1 3 6) ex1) lx_1 ly_1 cn_9 (Nat.le_of_ble_eq_true rfl) rfl rfl (Nat.le_of_ble_eq_true rfl) ?_
      refine V.bipush (pc := 25) dX7_skipBlanks_25 bp_32 ?_
      rcases ite_e h with ⟨c, h⟩ | ⟨c, h⟩
      · refine V.icmp_eq_t (t := 46) (pc := 27) dX7_skipBlanks_27 (by decide) c ?_
        refine V.aload_n (pc := 46) dX7_skipBlanks_46 rfl ?_
        refine V.dup (pc := 47) dX7_skipBlanks_47 rfl ?_
        refine V.getI (pc := 48) dX7_skipBlanks_48 f_RX7_35 k_cl7 lx_3 ly_3 rb_7_6 ?_
        refine V.iconst (pc := 51) dX7_skipBlanks_51 ic_1 ?_
        refine V.iadd (pc := 52) dX7_skipBlanks_52 ?_
        obtain ⟨w2, ew2, h⟩ := letW_e h
        refine V.putIX (pc := 53) dX7_skipBlanks_53 f_RX7_35 k_cl7 lx_3 ly_3 rb_7_6 (fin_I (T0 := TX7) rfl rfl rfl) ew2 ?_
        refine V.goto (t := 0) (pc := 56) dX7_skipBlanks_56 (by decide) ?_
        exact h0 w2 _ h
      · refine V.icmp_eq_f (t := 46) (pc := 27) dX7_skipBlanks_27 (by decide) c ?_
        refine V.aload_n (pc := 30) dX7_skipBlanks_30 rfl ?_
        refine V.getR (t := 1) (pc := 31) dX7_skipBlanks_31 f_RX7_25 k_cl7 lx_3 ly_3 rb_7_0 rr_3_0 ?_
        refine V.aload_n (pc := 34) dX7_skipBlanks_34 rfl ?_
        refine V.getI (pc := 35) dX7_skipBlanks_35 f_RX7_35 k_cl7 lx_3 ly_3 rb_7_6 ?_
        obtain ⟨x3, ex3, h⟩ := bnd_e h
        refine U.callV (pc := 38) (As := [.int (w.1 3 6)]) (st := []) dX7_skipBlanks_38 l_RX7_79 (ok_X9_byteAt (by omega) (w.1 3 6) ex3) lx_1 ly_1 cn_9 (Nat.le_of_ble_eq_true rfl) rfl rfl (Nat.le_of_ble_eq_true rfl) ?_
        refine V.bipush (pc := 41) dX7_skipBlanks_41 bp_10 ?_
        rcases ite_e h with ⟨c, h⟩ | ⟨c, h⟩
        · refine V.icmp_ne_f (t := 59) (pc := 43) dX7_skipBlanks_43 (by decide) c ?_
          refine V.aload_n (pc := 46) dX7_skipBlanks_46 rfl ?_
          refine V.dup (pc := 47) dX7_skipBlanks_47 rfl ?_
          refine V.getI (pc := 48) dX7_skipBlanks_48 f_RX7_35 k_cl7 lx_3 ly_3 rb_7_6 ?_
          refine V.iconst (pc := 51) dX7_skipBlanks_51 ic_1 ?_
          refine V.iadd (pc := 52) dX7_skipBlanks_52 ?_
          obtain ⟨w4, ew4, h⟩ := letW_e h
          refine V.putIX (pc := 53) dX7_skipBlanks_53 f_RX7_35 k_cl7 lx_3 ly_3 rb_7_6 (fin_I (T0 := TX7) rfl rfl rfl) ew4 ?_
          refine V.goto (t := 0) (pc := 56) dX7_skipBlanks_56 (by decide) ?_
          exact h0 w4 _ h
        · refine V.icmp_ne_t (t := 59) (pc := 43) dX7_skipBlanks_43 (by decide) c ?_
          obtain rfl := Option.some.inj h
          exact V.vret (pc := 59) dX7_skipBlanks_59 rfl (Nat.le_refl _) (Nat.le_refl _)
def f_X7_skipBlanks (w : Wd) : Option Wd :=
  f_X7_skipBlanks_L0  FU w
set_option maxHeartbeats 4000000 in
set_option maxRecDepth 100000 in
theorem ok_X7_skipBlanks {G : GT} {d : Nat} (hd : 1 ≤ d) {w : Wd}  {w' : Wd} (h : f_X7_skipBlanks  w = some w') : uC G yX7_skipBlanks mX7_skipBlanks d [.ref 3] w none w' := by
  obtain ⟨d, rfl⟩ : ∃ e, d = e + 1 := ⟨d - 1, by omega⟩
  unfold f_X7_skipBlanks at h
  refine uC_of (lv := [some (.ref 3)]) 0 pn_X7 ⟨rfl, rfl⟩ (Nat.le_of_ble_eq_true rfl) rfl ?_
  exact t_X7_skipBlanks_L0 hd FU w _ h
theorem dX7_skipAll_0 : decode cX7_skipAll 0 = .ok (.aload_n 0, 1) := by decide +kernel
theorem dX7_skipAll_1 : decode cX7_skipAll 1 = .ok (.getfield 35, 3) := by decide +kernel
theorem dX7_skipAll_4 : decode cX7_skipAll 4 = .ok (.aload_n 0, 1) := by decide +kernel
theorem dX7_skipAll_5 : decode cX7_skipAll 5 = .ok (.getfield 25, 3) := by decide +kernel
theorem dX7_skipAll_8 : decode cX7_skipAll 8 = .ok (.getfield 43, 3) := by decide +kernel
theorem dX7_skipAll_11 : decode cX7_skipAll 11 = .ok (.if_icmp .ge 46, 3) := by decide +kernel
theorem dX7_skipAll_14 : decode cX7_skipAll 14 = .ok (.aload_n 0, 1) := by decide +kernel
theorem dX7_skipAll_15 : decode cX7_skipAll 15 = .ok (.getfield 25, 3) := by decide +kernel
theorem dX7_skipAll_18 : decode cX7_skipAll 18 = .ok (.aload_n 0, 1) := by decide +kernel
theorem dX7_skipAll_19 : decode cX7_skipAll 19 = .ok (.getfield 35, 3) := by decide +kernel
theorem dX7_skipAll_22 : decode cX7_skipAll 22 = .ok (.invokevirtual 79, 3) := by decide +kernel
theorem dX7_skipAll_25 : decode cX7_skipAll 25 = .ok (.iload_n 1, 1) := by decide +kernel
theorem dX7_skipAll_26 : decode cX7_skipAll 26 = .ok (.if_icmp .lt 31, 3) := by decide +kernel
theorem dX7_skipAll_29 : decode cX7_skipAll 29 = .ok (.aload_n 0, 1) := by decide +kernel
theorem dX7_skipAll_30 : decode cX7_skipAll 30 = .ok (.getfield 25, 3) := by decide +kernel
theorem dX7_skipAll_33 : decode cX7_skipAll 33 = .ok (.aload_n 0, 1) := by decide +kernel
theorem dX7_skipAll_34 : decode cX7_skipAll 34 = .ok (.getfield 35, 3) := by decide +kernel
theorem dX7_skipAll_37 : decode cX7_skipAll 37 = .ok (.invokevirtual 79, 3) := by decide +kernel
theorem dX7_skipAll_40 : decode cX7_skipAll 40 = .ok (.iload_n 2, 1) := by decide +kernel
theorem dX7_skipAll_41 : decode cX7_skipAll 41 = .ok (.if_icmp .gt 16, 3) := by decide +kernel
theorem dX7_skipAll_44 : decode cX7_skipAll 44 = .ok (.aload_n 0, 1) := by decide +kernel
theorem dX7_skipAll_45 : decode cX7_skipAll 45 = .ok (.dup, 1) := by decide +kernel
theorem dX7_skipAll_46 : decode cX7_skipAll 46 = .ok (.getfield 35, 3) := by decide +kernel
theorem dX7_skipAll_49 : decode cX7_skipAll 49 = .ok (.iconst 1, 1) := by decide +kernel
theorem dX7_skipAll_50 : decode cX7_skipAll 50 = .ok (.iadd, 1) := by decide +kernel
theorem dX7_skipAll_51 : decode cX7_skipAll 51 = .ok (.putfield 35, 3) := by decide +kernel
theorem dX7_skipAll_54 : decode cX7_skipAll 54 = .ok (.goto (-54), 3) := by decide +kernel
theorem dX7_skipAll_57 : decode cX7_skipAll 57 = .ok (.return_, 1) := by decide +kernel
def f_X7_skipAll_B0b (k0 : Int32 → Int32 → Wd → Option Wd) (l1 : Int32) (l2 : Int32) (w : Wd) : Option Wd :=
  if (w.1 1 1) ≤ (w.1 3 6) then
    some w
  else
    bnd (f_X9_byteAt (w.1 3 6) w) fun x1 =>
    if x1 < l1 then
      some w
    else
      bnd (f_X9_byteAt (w.1 3 6) w) fun x2 =>
      if l2 < x2 then
        some w
      else
        letW (sI w 3 6 ((w.1 3 6) + 1)) fun w3 =>
        k0 l1 l2 w3
def f_X7_skipAll_L0 (n : Nat) : Int32 → Int32 → Wd → Option Wd :=
  Nat.rec (fun _ _ _ => none) (fun _ k => f_X7_skipAll_B0b k) n
set_option maxHeartbeats 4000000 in
set_option maxRecDepth 100000 in
theorem t_X7_skipAll_L0 {G : GT} {d : Nat} (hd : 1 ≤ d + 1)  : ∀ (n : Nat) (l1 : Int32) (l2 : Int32) (w : Wd) (w' : Wd), f_X7_skipAll_L0 n l1 l2 w = some w' → U (vf G mX7_skipAll (d + 1)) 0 [some (.ref 3), some (.int l1), some (.int l2)] [] w (none, 70, r0, w') := by
  intro n
  induction n with
  | zero => intro l1 l2 w w' h; cases h
  | succ n h0 =>
    intro l1 l2 w w' h
    have h : f_X7_skipAll_B0b (f_X7_skipAll_L0 n) l1 l2 w = some w' := h
    unfold f_X7_skipAll_B0b at h
    refine V.aload_n (pc := 0) dX7_skipAll_0 rfl ?_
    refine V.getI (pc := 1) dX7_skipAll_1 f_RX7_35 k_cl7 lx_3 ly_3 rb_7_6 ?_
    refine V.aload_n (pc := 4) dX7_skipAll_4 rfl ?_
    refine V.getR (t := 1) (pc := 5) dX7_skipAll_5 f_RX7_25 k_cl7 lx_3 ly_3 rb_7_0 rr_3_0 ?_
    refine V.getI (pc := 8) dX7_skipAll_8 f_RX7_43 k_cl9 lx_1 ly_1 rb_9_1 ?_
    rcases ite_e h with ⟨c, h⟩ | ⟨c, h⟩
    · refine V.icmp_ge_t (t := 57) (pc := 11) dX7_skipAll_11 (by decide) c ?_
      obtain rfl := Option.some.inj h
      exact V.vret (pc := 57) dX7_skipAll_57 rfl (Nat.le_refl _) (Nat.le_refl _)
    · refine V.icmp_ge_f (t := 57) (pc := 11) dX7_skipAll_11 (by decide) c ?_
      refine V.aload_n (pc := 14) dX7_skipAll_14 rfl ?_
      refine V.getR (t := 1) (pc := 15) dX7_skipAll_15 f_RX7_25 k_cl7 lx_3 ly_3 rb_7_0 rr_3_0 ?_
      refine V.aload_n (pc := 18) dX7_skipAll_18 rfl ?_
      refine V.getI (pc := 19) dX7_skipAll_19 f_RX7_35 k_cl7 lx_3 ly_3 rb_7_6 ?_
      obtain ⟨x1, ex1, h⟩ := bnd_e h
      refine U.callV (pc := 22) (As := [.int (w.1 3 6)]) (st := []) dX7_skipAll_22 l_RX7_79 (ok_X9_byteAt (by omega) (w.1 3 6) ex1) lx_1 ly_1 cn_9 (Nat.le_of_ble_eq_true rfl) rfl rfl (Nat.le_of_ble_eq_true rfl) ?_
      refine V.iload_n (pc := 25) dX7_skipAll_25 rfl ?_
      rcases ite_e h with ⟨c, h⟩ | ⟨c, h⟩
      · refine V.icmp_lt_t (t := 57) (pc := 26) dX7_skipAll_26 (by decide) c ?_
        obtain rfl := Option.some.inj h
        exact V.vret (pc := 57) dX7_skipAll_57 rfl (Nat.le_refl _) (Nat.le_refl _)
      · refine V.icmp_lt_f (t := 57) (pc := 26) dX7_skipAll_26 (by decide) c ?_
        refine V.aload_n (pc := 29) dX7_skipAll_29 rfl ?_
        refine V.getR (t := 1) (pc := 30) dX7_skipAll_30 f_RX7_25 k_cl7 lx_3 ly_3 rb_7_0 rr_3_0 ?_
        refine V.aload_n (pc := 33) dX7_skipAll_33 rfl ?_
        refine V.getI (pc := 34) dX7_skipAll_34 f_RX7_35 k_cl7 lx_3 ly_3 rb_7_6 ?_
        obtain ⟨x2, ex2, h⟩ := bnd_e h
        refine U.callV (pc := 37) (As := [.int (w.1 3 6)]) (st := []) dX7_skipAll_37 l_RX7_79 (ok_X9_byteAt (by omega) (w.1 3 6) ex2) lx_1 ly_1 cn_9 (Nat.le_of_ble_eq_true rfl) rfl rfl (Nat.le_of_ble_eq_true rfl) ?_
        refine V.iload_n (pc := 40) dX7_skipAll_40 rfl ?_
        rcases ite_e h with ⟨c, h⟩ | ⟨c, h⟩
        · refine V.icmp_gt_t (t := 57) (pc := 41) dX7_skipAll_41 (by decide) c ?_
          obtain rfl := Option.some.inj h
          exact V.vret (pc := 57) dX7_skipAll_57 rfl (Nat.le_refl _) (Nat.le_refl _)
        · refine V.icmp_gt_f (t := 57) (pc := 41) dX7_skipAll_41 (by decide) c ?_
          refine V.aload_n (pc := 44) dX7_skipAll_44 rfl ?_
          refine V.dup (pc := 45) dX7_skipAll_45 rfl ?_
          refine V.getI (pc := 46) dX7_skipAll_46 f_RX7_35 k_cl7 lx_3 ly_3 rb_7_6 ?_
          refine V.iconst (pc := 49) dX7_skipAll_49 ic_1 ?_
          refine V.iadd (pc := 50) dX7_skipAll_50 ?_
          obtain ⟨w3, ew3, h⟩ := letW_e h
          refine V.putIX (pc := 51) dX7_skipAll_51 f_RX7_35 k_cl7 lx_3 ly_3 rb_7_6 (fin_I (T0 := TX7) rfl rfl rfl) ew3 ?_
          refine V.goto (t := 0) (pc := 54) dX7_skipAll_54 (by decide) ?_
          exact h0 l1 l2 w3 _ h
def f_X7_skipAll (l1 : Int32) (l2 : Int32) (w : Wd) : Option Wd :=
  f_X7_skipAll_L0  FU l1 l2 w
set_option maxHeartbeats 4000000 in
set_option maxRecDepth 100000 in
theorem ok_X7_skipAll {G : GT} {d : Nat} (hd : 1 ≤ d) {w : Wd} (l1 : Int32) (l2 : Int32) {w' : Wd} (h : f_X7_skipAll l1 l2 w = some w') : uC G yX7_skipAll mX7_skipAll d [.ref 3, .int l1, .int l2] w none w' := by
  obtain ⟨d, rfl⟩ : ∃ e, d = e + 1 := ⟨d - 1, by omega⟩
  unfold f_X7_skipAll at h
  refine uC_of (lv := [some (.ref 3), some (.int l1), some (.int l2)]) 0 pn_X7 ⟨rfl, rfl⟩ (Nat.le_of_ble_eq_true rfl) rfl ?_
  exact t_X7_skipAll_L0 hd FU l1 l2 w _ h
theorem dX7_isWord_0 : decode cX7_isWord 0 = .ok (.aload_n 0, 1) := by decide +kernel
theorem dX7_isWord_1 : decode cX7_isWord 1 = .ok (.getfield 35, 3) := by decide +kernel
theorem dX7_isWord_4 : decode cX7_isWord 4 = .ok (.iload_n 1, 1) := by decide +kernel
theorem dX7_isWord_5 : decode cX7_isWord 5 = .ok (.isub, 1) := by decide +kernel
theorem dX7_isWord_6 : decode cX7_isWord 6 = .ok (.aload_n 2, 1) := by decide +kernel
theorem dX7_isWord_7 : decode cX7_isWord 7 = .ok (.invokevirtual 83, 3) := by decide +kernel
theorem dX7_isWord_10 : decode cX7_isWord 10 = .ok (.if_icmp .eq 5, 3) := by decide +kernel
theorem dX7_isWord_13 : decode cX7_isWord 13 = .ok (.iconst 0, 1) := by decide +kernel
theorem dX7_isWord_14 : decode cX7_isWord 14 = .ok (.ireturn, 1) := by decide +kernel
theorem dX7_isWord_15 : decode cX7_isWord 15 = .ok (.iconst 0, 1) := by decide +kernel
theorem dX7_isWord_16 : decode cX7_isWord 16 = .ok (.istore_n 3, 1) := by decide +kernel
theorem dX7_isWord_17 : decode cX7_isWord 17 = .ok (.iload_n 3, 1) := by decide +kernel
theorem dX7_isWord_18 : decode cX7_isWord 18 = .ok (.aload_n 2, 1) := by decide +kernel
theorem dX7_isWord_19 : decode cX7_isWord 19 = .ok (.invokevirtual 83, 3) := by decide +kernel
theorem dX7_isWord_22 : decode cX7_isWord 22 = .ok (.if_icmp .ge 29, 3) := by decide +kernel
theorem dX7_isWord_25 : decode cX7_isWord 25 = .ok (.aload_n 0, 1) := by decide +kernel
theorem dX7_isWord_26 : decode cX7_isWord 26 = .ok (.getfield 25, 3) := by decide +kernel
theorem dX7_isWord_29 : decode cX7_isWord 29 = .ok (.iload_n 1, 1) := by decide +kernel
theorem dX7_isWord_30 : decode cX7_isWord 30 = .ok (.iload_n 3, 1) := by decide +kernel
theorem dX7_isWord_31 : decode cX7_isWord 31 = .ok (.iadd, 1) := by decide +kernel
theorem dX7_isWord_32 : decode cX7_isWord 32 = .ok (.invokevirtual 79, 3) := by decide +kernel
theorem dX7_isWord_35 : decode cX7_isWord 35 = .ok (.aload_n 2, 1) := by decide +kernel
theorem dX7_isWord_36 : decode cX7_isWord 36 = .ok (.iload_n 3, 1) := by decide +kernel
theorem dX7_isWord_37 : decode cX7_isWord 37 = .ok (.invokevirtual 88, 3) := by decide +kernel
theorem dX7_isWord_40 : decode cX7_isWord 40 = .ok (.if_icmp .eq 5, 3) := by decide +kernel
theorem dX7_isWord_43 : decode cX7_isWord 43 = .ok (.iconst 0, 1) := by decide +kernel
theorem dX7_isWord_44 : decode cX7_isWord 44 = .ok (.ireturn, 1) := by decide +kernel
theorem dX7_isWord_45 : decode cX7_isWord 45 = .ok (.iinc 3 1, 3) := by decide +kernel
theorem dX7_isWord_48 : decode cX7_isWord 48 = .ok (.goto (-31), 3) := by decide +kernel
theorem dX7_isWord_51 : decode cX7_isWord 51 = .ok (.iconst 1, 1) := by decide +kernel
theorem dX7_isWord_52 : decode cX7_isWord 52 = .ok (.ireturn, 1) := by decide +kernel
def f_X7_isWord_1000_B17b (k17 : Int32 → Int32 → Wd → Option Int32) (l1 : Int32) (l3 : Int32) (w : Wd) : Option Int32 :=
  if 6 ≤ l3 then
    some 1
  else
    bnd (f_X9_byteAt (l1 + l3) w) fun x1 =>
    chS 0 l3 fun x2 =>
    if x1 = x2 then
      k17 l1 (l3 + 1) w
    else
      some 0
def f_X7_isWord_1000_L17 (n : Nat) : Int32 → Int32 → Wd → Option Int32 :=
  Nat.rec (fun _ _ _ => none) (fun _ k => f_X7_isWord_1000_B17b k) n
set_option maxHeartbeats 4000000 in
set_option maxRecDepth 100000 in
theorem t_X7_isWord_1000_L17 {G : GT} {d : Nat} {w : Wd} (hd : 6 ≤ d + 1)  : ∀ (n : Nat) (l1 : Int32) (l3 : Int32) (r : Int32), f_X7_isWord_1000_L17 n l1 l3 w = some r → U (vf G mX7_isWord (d + 1)) 17 [some (.ref 3), some (.int l1), some (.ref 1000), some (.int l3)] [] w (some (.int r), 70, r0, w) := by
  intro n
  induction n with
  | zero => intro l1 l3 r h; cases h
  | succ n h17 =>
    intro l1 l3 r h
    have h : f_X7_isWord_1000_B17b (f_X7_isWord_1000_L17 n) l1 l3 w = some r := h
    unfold f_X7_isWord_1000_B17b at h
    refine V.iload_n (pc := 17) dX7_isWord_17 rfl ?_
    refine V.aload_n (pc := 18) dX7_isWord_18 rfl ?_
    refine V.slen (j := 0) (v := 6) (pc := 19) dX7_isWord_19 l_RX7_83 (by omega) (by decide) rfl (Nat.le_of_ble_eq_true rfl) ?_
    rcases ite_e h with ⟨c, h⟩ | ⟨c, h⟩
    · refine V.icmp_ge_t (t := 51) (pc := 22) dX7_isWord_22 (by decide) c ?_
      refine V.iconst (pc := 51) dX7_isWord_51 ic_1 ?_
      obtain rfl := Option.some.inj h
      exact V.zret (pc := 52) dX7_isWord_52 rfl (Or.inr rfl) (Nat.le_refl _) (Nat.le_refl _)
    · refine V.icmp_ge_f (t := 51) (pc := 22) dX7_isWord_22 (by decide) c ?_
      refine V.aload_n (pc := 25) dX7_isWord_25 rfl ?_
      refine V.getR (t := 1) (pc := 26) dX7_isWord_26 f_RX7_25 k_cl7 lx_3 ly_3 rb_7_0 rr_3_0 ?_
      refine V.iload_n (pc := 29) dX7_isWord_29 rfl ?_
      refine V.iload_n (pc := 30) dX7_isWord_30 rfl ?_
      refine V.iadd (pc := 31) dX7_isWord_31 ?_
      obtain ⟨x1, ex1, h⟩ := bnd_e h
      refine U.callV (pc := 32) (As := [.int (l1 + l3)]) (st := []) dX7_isWord_32 l_RX7_79 (ok_X9_byteAt (by omega) (l1 + l3) ex1) lx_1 ly_1 cn_9 (Nat.le_of_ble_eq_true rfl) rfl rfl (Nat.le_of_ble_eq_true rfl) ?_
      refine V.aload_n (pc := 35) dX7_isWord_35 rfl ?_
      refine V.iload_n (pc := 36) dX7_isWord_36 rfl ?_
      obtain ⟨x2, ix2, ex2, h⟩ := chS_e h
      refine V.schar (j := 0) (pc := 37) dX7_isWord_37 l_RX7_88 (by omega) (by decide) ix2 ex2 (Nat.le_of_ble_eq_true rfl) ?_
      rcases ite_e h with ⟨c, h⟩ | ⟨c, h⟩
      · refine V.icmp_eq_t (t := 45) (pc := 40) dX7_isWord_40 (by decide) c ?_
        refine V.iinc (lv' := [some (.ref 3), some (.int l1), some (.ref 1000), some (.int (l3 + 1))]) (pc := 45) dX7_isWord_45 (Nat.le_of_ble_eq_true rfl) rfl rfl (v := (l3 + 1)) (by rw [show Int32.ofInt 1 = 1 from by decide]) rfl ?_
        refine V.goto (t := 17) (pc := 48) dX7_isWord_48 (by decide) ?_
        exact h17 l1 (l3 + 1) _ h
      · refine V.icmp_eq_f (t := 45) (pc := 40) dX7_isWord_40 (by decide) c ?_
        refine V.iconst (pc := 43) dX7_isWord_43 ic_0 ?_
        obtain rfl := Option.some.inj h
        exact V.zret (pc := 44) dX7_isWord_44 rfl (Or.inl rfl) (Nat.le_refl _) (Nat.le_refl _)
def f_X7_isWord_1000 (l1 : Int32) (w : Wd) : Option Int32 :=
  if ((w.1 3 6) - l1) = 6 then
    f_X7_isWord_1000_L17  FU l1 0 w
  else
    some 0
set_option maxHeartbeats 4000000 in
set_option maxRecDepth 100000 in
theorem ok_X7_isWord_1000 {G : GT} {d : Nat} (hd : 6 ≤ d) {w : Wd} (l1 : Int32) {r : Int32} (h : f_X7_isWord_1000 l1 w = some r) : uC G yX7_isWord mX7_isWord d [.ref 3, .int l1, .ref 1000] w (some (.int r)) w := by
  obtain ⟨d, rfl⟩ : ∃ e, d = e + 1 := ⟨d - 1, by omega⟩
  unfold f_X7_isWord_1000 at h
  refine uC_of (lv := [some (.ref 3), some (.int l1), some (.ref 1000), none]) 1 pn_X7 ⟨rfl, rfl⟩ (Nat.le_of_ble_eq_true rfl) rfl ?_
  refine V.aload_n (pc := 0) dX7_isWord_0 rfl ?_
  refine V.getI (pc := 1) dX7_isWord_1 f_RX7_35 k_cl7 lx_3 ly_3 rb_7_6 ?_
  refine V.iload_n (pc := 4) dX7_isWord_4 rfl ?_
  refine V.isub (pc := 5) dX7_isWord_5 ?_
  refine V.aload_n (pc := 6) dX7_isWord_6 rfl ?_
  refine V.slen (j := 0) (v := 6) (pc := 7) dX7_isWord_7 l_RX7_83 (by omega) (by decide) rfl (Nat.le_of_ble_eq_true rfl) ?_
  rcases ite_e h with ⟨c, h⟩ | ⟨c, h⟩
  · refine V.icmp_eq_t (t := 15) (pc := 10) dX7_isWord_10 (by decide) c ?_
    refine V.iconst (pc := 15) dX7_isWord_15 ic_0 ?_
    refine V.istore_n (lv' := [some (.ref 3), some (.int l1), some (.ref 1000), some (.int 0)]) (pc := 16) dX7_isWord_16 (Nat.le_of_ble_eq_true rfl) rfl rfl ?_
    exact t_X7_isWord_1000_L17 hd FU l1 0 _ h
  · refine V.icmp_eq_f (t := 15) (pc := 10) dX7_isWord_10 (by decide) c ?_
    refine V.iconst (pc := 13) dX7_isWord_13 ic_0 ?_
    obtain rfl := Option.some.inj h
    exact V.zret (pc := 14) dX7_isWord_14 rfl (Or.inl rfl) (Nat.le_refl _) (Nat.le_refl _)
def f_X7_isWord_1001_B17b (k17 : Int32 → Int32 → Wd → Option Int32) (l1 : Int32) (l3 : Int32) (w : Wd) : Option Int32 :=
  if 8 ≤ l3 then
    some 1
  else
    bnd (f_X9_byteAt (l1 + l3) w) fun x1 =>
    chS 1 l3 fun x2 =>
    if x1 = x2 then
      k17 l1 (l3 + 1) w
    else
      some 0
def f_X7_isWord_1001_L17 (n : Nat) : Int32 → Int32 → Wd → Option Int32 :=
  Nat.rec (fun _ _ _ => none) (fun _ k => f_X7_isWord_1001_B17b k) n
set_option maxHeartbeats 4000000 in
set_option maxRecDepth 100000 in
theorem t_X7_isWord_1001_L17 {G : GT} {d : Nat} {w : Wd} (hd : 6 ≤ d + 1)  : ∀ (n : Nat) (l1 : Int32) (l3 : Int32) (r : Int32), f_X7_isWord_1001_L17 n l1 l3 w = some r → U (vf G mX7_isWord (d + 1)) 17 [some (.ref 3), some (.int l1), some (.ref 1001), some (.int l3)] [] w (some (.int r), 70, r0, w) := by
  intro n
  induction n with
  | zero => intro l1 l3 r h; cases h
  | succ n h17 =>
    intro l1 l3 r h
    have h : f_X7_isWord_1001_B17b (f_X7_isWord_1001_L17 n) l1 l3 w = some r := h
    unfold f_X7_isWord_1001_B17b at h
    refine V.iload_n (pc := 17) dX7_isWord_17 rfl ?_
    refine V.aload_n (pc := 18) dX7_isWord_18 rfl ?_
    refine V.slen (j := 1) (v := 8) (pc := 19) dX7_isWord_19 l_RX7_83 (by omega) (by decide) rfl (Nat.le_of_ble_eq_true rfl) ?_
    rcases ite_e h with ⟨c, h⟩ | ⟨c, h⟩
    · refine V.icmp_ge_t (t := 51) (pc := 22) dX7_isWord_22 (by decide) c ?_
      refine V.iconst (pc := 51) dX7_isWord_51 ic_1 ?_
      obtain rfl := Option.some.inj h
      exact V.zret (pc := 52) dX7_isWord_52 rfl (Or.inr rfl) (Nat.le_refl _) (Nat.le_refl _)
    · refine V.icmp_ge_f (t := 51) (pc := 22) dX7_isWord_22 (by decide) c ?_
      refine V.aload_n (pc := 25) dX7_isWord_25 rfl ?_
      refine V.getR (t := 1) (pc := 26) dX7_isWord_26 f_RX7_25 k_cl7 lx_3 ly_3 rb_7_0 rr_3_0 ?_
      refine V.iload_n (pc := 29) dX7_isWord_29 rfl ?_
      refine V.iload_n (pc := 30) dX7_isWord_30 rfl ?_
      refine V.iadd (pc := 31) dX7_isWord_31 ?_
      obtain ⟨x1, ex1, h⟩ := bnd_e h
      refine U.callV (pc := 32) (As := [.int (l1 + l3)]) (st := []) dX7_isWord_32 l_RX7_79 (ok_X9_byteAt (by omega) (l1 + l3) ex1) lx_1 ly_1 cn_9 (Nat.le_of_ble_eq_true rfl) rfl rfl (Nat.le_of_ble_eq_true rfl) ?_
      refine V.aload_n (pc := 35) dX7_isWord_35 rfl ?_
      refine V.iload_n (pc := 36) dX7_isWord_36 rfl ?_
      obtain ⟨x2, ix2, ex2, h⟩ := chS_e h
      refine V.schar (j := 1) (pc := 37) dX7_isWord_37 l_RX7_88 (by omega) (by decide) ix2 ex2 (Nat.le_of_ble_eq_true rfl) ?_
      rcases ite_e h with ⟨c, h⟩ | ⟨c, h⟩
      · refine V.icmp_eq_t (t := 45) (pc := 40) dX7_isWord_40 (by decide) c ?_
        refine V.iinc (lv' := [some (.ref 3), some (.int l1), some (.ref 1001), some (.int (l3 + 1))]) (pc := 45) dX7_isWord_45 (Nat.le_of_ble_eq_true rfl) rfl rfl (v := (l3 + 1)) (by rw [show Int32.ofInt 1 = 1 from by decide]) rfl ?_
        refine V.goto (t := 17) (pc := 48) dX7_isWord_48 (by decide) ?_
        exact h17 l1 (l3 + 1) _ h
      · refine V.icmp_eq_f (t := 45) (pc := 40) dX7_isWord_40 (by decide) c ?_
        refine V.iconst (pc := 43) dX7_isWord_43 ic_0 ?_
        obtain rfl := Option.some.inj h
        exact V.zret (pc := 44) dX7_isWord_44 rfl (Or.inl rfl) (Nat.le_refl _) (Nat.le_refl _)
def f_X7_isWord_1001 (l1 : Int32) (w : Wd) : Option Int32 :=
  if ((w.1 3 6) - l1) = 8 then
    f_X7_isWord_1001_L17  FU l1 0 w
  else
    some 0
set_option maxHeartbeats 4000000 in
set_option maxRecDepth 100000 in
theorem ok_X7_isWord_1001 {G : GT} {d : Nat} (hd : 6 ≤ d) {w : Wd} (l1 : Int32) {r : Int32} (h : f_X7_isWord_1001 l1 w = some r) : uC G yX7_isWord mX7_isWord d [.ref 3, .int l1, .ref 1001] w (some (.int r)) w := by
  obtain ⟨d, rfl⟩ : ∃ e, d = e + 1 := ⟨d - 1, by omega⟩
  unfold f_X7_isWord_1001 at h
  refine uC_of (lv := [some (.ref 3), some (.int l1), some (.ref 1001), none]) 1 pn_X7 ⟨rfl, rfl⟩ (Nat.le_of_ble_eq_true rfl) rfl ?_
  refine V.aload_n (pc := 0) dX7_isWord_0 rfl ?_
  refine V.getI (pc := 1) dX7_isWord_1 f_RX7_35 k_cl7 lx_3 ly_3 rb_7_6 ?_
  refine V.iload_n (pc := 4) dX7_isWord_4 rfl ?_
  refine V.isub (pc := 5) dX7_isWord_5 ?_
  refine V.aload_n (pc := 6) dX7_isWord_6 rfl ?_
  refine V.slen (j := 1) (v := 8) (pc := 7) dX7_isWord_7 l_RX7_83 (by omega) (by decide) rfl (Nat.le_of_ble_eq_true rfl) ?_
  rcases ite_e h with ⟨c, h⟩ | ⟨c, h⟩
  · refine V.icmp_eq_t (t := 15) (pc := 10) dX7_isWord_10 (by decide) c ?_
    refine V.iconst (pc := 15) dX7_isWord_15 ic_0 ?_
    refine V.istore_n (lv' := [some (.ref 3), some (.int l1), some (.ref 1001), some (.int 0)]) (pc := 16) dX7_isWord_16 (Nat.le_of_ble_eq_true rfl) rfl rfl ?_
    exact t_X7_isWord_1001_L17 hd FU l1 0 _ h
  · refine V.icmp_eq_f (t := 15) (pc := 10) dX7_isWord_10 (by decide) c ?_
    refine V.iconst (pc := 13) dX7_isWord_13 ic_0 ?_
    obtain rfl := Option.some.inj h
    exact V.zret (pc := 14) dX7_isWord_14 rfl (Or.inl rfl) (Nat.le_refl _) (Nat.le_refl _)
def f_X7_isWord_1002_B17b (k17 : Int32 → Int32 → Wd → Option Int32) (l1 : Int32) (l3 : Int32) (w : Wd) : Option Int32 :=
  if 10 ≤ l3 then
    some 1
  else
    bnd (f_X9_byteAt (l1 + l3) w) fun x1 =>
    chS 2 l3 fun x2 =>
    if x1 = x2 then
      k17 l1 (l3 + 1) w
    else
      some 0
def f_X7_isWord_1002_L17 (n : Nat) : Int32 → Int32 → Wd → Option Int32 :=
  Nat.rec (fun _ _ _ => none) (fun _ k => f_X7_isWord_1002_B17b k) n
set_option maxHeartbeats 4000000 in
set_option maxRecDepth 100000 in
theorem t_X7_isWord_1002_L17 {G : GT} {d : Nat} {w : Wd} (hd : 6 ≤ d + 1)  : ∀ (n : Nat) (l1 : Int32) (l3 : Int32) (r : Int32), f_X7_isWord_1002_L17 n l1 l3 w = some r → U (vf G mX7_isWord (d + 1)) 17 [some (.ref 3), some (.int l1), some (.ref 1002), some (.int l3)] [] w (some (.int r), 70, r0, w) := by
  intro n
  induction n with
  | zero => intro l1 l3 r h; cases h
  | succ n h17 =>
    intro l1 l3 r h
    have h : f_X7_isWord_1002_B17b (f_X7_isWord_1002_L17 n) l1 l3 w = some r := h
    unfold f_X7_isWord_1002_B17b at h
    refine V.iload_n (pc := 17) dX7_isWord_17 rfl ?_
    refine V.aload_n (pc := 18) dX7_isWord_18 rfl ?_
    refine V.slen (j := 2) (v := 10) (pc := 19) dX7_isWord_19 l_RX7_83 (by omega) (by decide) rfl (Nat.le_of_ble_eq_true rfl) ?_
    rcases ite_e h with ⟨c, h⟩ | ⟨c, h⟩
    · refine V.icmp_ge_t (t := 51) (pc := 22) dX7_isWord_22 (by decide) c ?_
      refine V.iconst (pc := 51) dX7_isWord_51 ic_1 ?_
      obtain rfl := Option.some.inj h
      exact V.zret (pc := 52) dX7_isWord_52 rfl (Or.inr rfl) (Nat.le_refl _) (Nat.le_refl _)
    · refine V.icmp_ge_f (t := 51) (pc := 22) dX7_isWord_22 (by decide) c ?_
      refine V.aload_n (pc := 25) dX7_isWord_25 rfl ?_
      refine V.getR (t := 1) (pc := 26) dX7_isWord_26 f_RX7_25 k_cl7 lx_3 ly_3 rb_7_0 rr_3_0 ?_
      refine V.iload_n (pc := 29) dX7_isWord_29 rfl ?_
      refine V.iload_n (pc := 30) dX7_isWord_30 rfl ?_
      refine V.iadd (pc := 31) dX7_isWord_31 ?_
      obtain ⟨x1, ex1, h⟩ := bnd_e h
      refine U.callV (pc := 32) (As := [.int (l1 + l3)]) (st := []) dX7_isWord_32 l_RX7_79 (ok_X9_byteAt (by omega) (l1 + l3) ex1) lx_1 ly_1 cn_9 (Nat.le_of_ble_eq_true rfl) rfl rfl (Nat.le_of_ble_eq_true rfl) ?_
      refine V.aload_n (pc := 35) dX7_isWord_35 rfl ?_
      refine V.iload_n (pc := 36) dX7_isWord_36 rfl ?_
      obtain ⟨x2, ix2, ex2, h⟩ := chS_e h
      refine V.schar (j := 2) (pc := 37) dX7_isWord_37 l_RX7_88 (by omega) (by decide) ix2 ex2 (Nat.le_of_ble_eq_true rfl) ?_
      rcases ite_e h with ⟨c, h⟩ | ⟨c, h⟩
      · refine V.icmp_eq_t (t := 45) (pc := 40) dX7_isWord_40 (by decide) c ?_
        refine V.iinc (lv' := [some (.ref 3), some (.int l1), some (.ref 1002), some (.int (l3 + 1))]) (pc := 45) dX7_isWord_45 (Nat.le_of_ble_eq_true rfl) rfl rfl (v := (l3 + 1)) (by rw [show Int32.ofInt 1 = 1 from by decide]) rfl ?_
        refine V.goto (t := 17) (pc := 48) dX7_isWord_48 (by decide) ?_
        exact h17 l1 (l3 + 1) _ h
      · refine V.icmp_eq_f (t := 45) (pc := 40) dX7_isWord_40 (by decide) c ?_
        refine V.iconst (pc := 43) dX7_isWord_43 ic_0 ?_
        obtain rfl := Option.some.inj h
        exact V.zret (pc := 44) dX7_isWord_44 rfl (Or.inl rfl) (Nat.le_refl _) (Nat.le_refl _)
def f_X7_isWord_1002 (l1 : Int32) (w : Wd) : Option Int32 :=
  if ((w.1 3 6) - l1) = 10 then
    f_X7_isWord_1002_L17  FU l1 0 w
  else
    some 0
set_option maxHeartbeats 4000000 in
set_option maxRecDepth 100000 in
theorem ok_X7_isWord_1002 {G : GT} {d : Nat} (hd : 6 ≤ d) {w : Wd} (l1 : Int32) {r : Int32} (h : f_X7_isWord_1002 l1 w = some r) : uC G yX7_isWord mX7_isWord d [.ref 3, .int l1, .ref 1002] w (some (.int r)) w := by
  obtain ⟨d, rfl⟩ : ∃ e, d = e + 1 := ⟨d - 1, by omega⟩
  unfold f_X7_isWord_1002 at h
  refine uC_of (lv := [some (.ref 3), some (.int l1), some (.ref 1002), none]) 1 pn_X7 ⟨rfl, rfl⟩ (Nat.le_of_ble_eq_true rfl) rfl ?_
  refine V.aload_n (pc := 0) dX7_isWord_0 rfl ?_
  refine V.getI (pc := 1) dX7_isWord_1 f_RX7_35 k_cl7 lx_3 ly_3 rb_7_6 ?_
  refine V.iload_n (pc := 4) dX7_isWord_4 rfl ?_
  refine V.isub (pc := 5) dX7_isWord_5 ?_
  refine V.aload_n (pc := 6) dX7_isWord_6 rfl ?_
  refine V.slen (j := 2) (v := 10) (pc := 7) dX7_isWord_7 l_RX7_83 (by omega) (by decide) rfl (Nat.le_of_ble_eq_true rfl) ?_
  rcases ite_e h with ⟨c, h⟩ | ⟨c, h⟩
  · refine V.icmp_eq_t (t := 15) (pc := 10) dX7_isWord_10 (by decide) c ?_
    refine V.iconst (pc := 15) dX7_isWord_15 ic_0 ?_
    refine V.istore_n (lv' := [some (.ref 3), some (.int l1), some (.ref 1002), some (.int 0)]) (pc := 16) dX7_isWord_16 (Nat.le_of_ble_eq_true rfl) rfl rfl ?_
    exact t_X7_isWord_1002_L17 hd FU l1 0 _ h
  · refine V.icmp_eq_f (t := 15) (pc := 10) dX7_isWord_10 (by decide) c ?_
    refine V.iconst (pc := 13) dX7_isWord_13 ic_0 ?_
    obtain rfl := Option.some.inj h
    exact V.zret (pc := 14) dX7_isWord_14 rfl (Or.inl rfl) (Nat.le_refl _) (Nat.le_refl _)
def f_X7_isWord_1003_B17b (k17 : Int32 → Int32 → Wd → Option Int32) (l1 : Int32) (l3 : Int32) (w : Wd) : Option Int32 :=
  if 3 ≤ l3 then
    some 1
  else
    bnd (f_X9_byteAt (l1 + l3) w) fun x1 =>
    chS 3 l3 fun x2 =>
    if x1 = x2 then
      k17 l1 (l3 + 1) w
    else
      some 0
def f_X7_isWord_1003_L17 (n : Nat) : Int32 → Int32 → Wd → Option Int32 :=
  Nat.rec (fun _ _ _ => none) (fun _ k => f_X7_isWord_1003_B17b k) n
set_option maxHeartbeats 4000000 in
set_option maxRecDepth 100000 in
theorem t_X7_isWord_1003_L17 {G : GT} {d : Nat} {w : Wd} (hd : 6 ≤ d + 1)  : ∀ (n : Nat) (l1 : Int32) (l3 : Int32) (r : Int32), f_X7_isWord_1003_L17 n l1 l3 w = some r → U (vf G mX7_isWord (d + 1)) 17 [some (.ref 3), some (.int l1), some (.ref 1003), some (.int l3)] [] w (some (.int r), 70, r0, w) := by
  intro n
  induction n with
  | zero => intro l1 l3 r h; cases h
  | succ n h17 =>
    intro l1 l3 r h
    have h : f_X7_isWord_1003_B17b (f_X7_isWord_1003_L17 n) l1 l3 w = some r := h
    unfold f_X7_isWord_1003_B17b at h
    refine V.iload_n (pc := 17) dX7_isWord_17 rfl ?_
    refine V.aload_n (pc := 18) dX7_isWord_18 rfl ?_
    refine V.slen (j := 3) (v := 3) (pc := 19) dX7_isWord_19 l_RX7_83 (by omega) (by decide) rfl (Nat.le_of_ble_eq_true rfl) ?_
    rcases ite_e h with ⟨c, h⟩ | ⟨c, h⟩
    · refine V.icmp_ge_t (t := 51) (pc := 22) dX7_isWord_22 (by decide) c ?_
      refine V.iconst (pc := 51) dX7_isWord_51 ic_1 ?_
      obtain rfl := Option.some.inj h
      exact V.zret (pc := 52) dX7_isWord_52 rfl (Or.inr rfl) (Nat.le_refl _) (Nat.le_refl _)
    · refine V.icmp_ge_f (t := 51) (pc := 22) dX7_isWord_22 (by decide) c ?_
      refine V.aload_n (pc := 25) dX7_isWord_25 rfl ?_
      refine V.getR (t := 1) (pc := 26) dX7_isWord_26 f_RX7_25 k_cl7 lx_3 ly_3 rb_7_0 rr_3_0 ?_
      refine V.iload_n (pc := 29) dX7_isWord_29 rfl ?_
      refine V.iload_n (pc := 30) dX7_isWord_30 rfl ?_
      refine V.iadd (pc := 31) dX7_isWord_31 ?_
      obtain ⟨x1, ex1, h⟩ := bnd_e h
      refine U.callV (pc := 32) (As := [.int (l1 + l3)]) (st := []) dX7_isWord_32 l_RX7_79 (ok_X9_byteAt (by omega) (l1 + l3) ex1) lx_1 ly_1 cn_9 (Nat.le_of_ble_eq_true rfl) rfl rfl (Nat.le_of_ble_eq_true rfl) ?_
      refine V.aload_n (pc := 35) dX7_isWord_35 rfl ?_
      refine V.iload_n (pc := 36) dX7_isWord_36 rfl ?_
      obtain ⟨x2, ix2, ex2, h⟩ := chS_e h
      refine V.schar (j := 3) (pc := 37) dX7_isWord_37 l_RX7_88 (by omega) (by decide) ix2 ex2 (Nat.le_of_ble_eq_true rfl) ?_
      rcases ite_e h with ⟨c, h⟩ | ⟨c, h⟩
      · refine V.icmp_eq_t (t := 45) (pc := 40) dX7_isWord_40 (by decide) c ?_
        refine V.iinc (lv' := [some (.ref 3), some (.int l1), some (.ref 1003), some (.int (l3 + 1))]) (pc := 45) dX7_isWord_45 (Nat.le_of_ble_eq_true rfl) rfl rfl (v := (l3 + 1)) (by rw [show Int32.ofInt 1 = 1 from by decide]) rfl ?_
        refine V.goto (t := 17) (pc := 48) dX7_isWord_48 (by decide) ?_
        exact h17 l1 (l3 + 1) _ h
      · refine V.icmp_eq_f (t := 45) (pc := 40) dX7_isWord_40 (by decide) c ?_
        refine V.iconst (pc := 43) dX7_isWord_43 ic_0 ?_
        obtain rfl := Option.some.inj h
        exact V.zret (pc := 44) dX7_isWord_44 rfl (Or.inl rfl) (Nat.le_refl _) (Nat.le_refl _)
def f_X7_isWord_1003 (l1 : Int32) (w : Wd) : Option Int32 :=
  if ((w.1 3 6) - l1) = 3 then
    f_X7_isWord_1003_L17  FU l1 0 w
  else
    some 0
set_option maxHeartbeats 4000000 in
set_option maxRecDepth 100000 in
theorem ok_X7_isWord_1003 {G : GT} {d : Nat} (hd : 6 ≤ d) {w : Wd} (l1 : Int32) {r : Int32} (h : f_X7_isWord_1003 l1 w = some r) : uC G yX7_isWord mX7_isWord d [.ref 3, .int l1, .ref 1003] w (some (.int r)) w := by
  obtain ⟨d, rfl⟩ : ∃ e, d = e + 1 := ⟨d - 1, by omega⟩
  unfold f_X7_isWord_1003 at h
  refine uC_of (lv := [some (.ref 3), some (.int l1), some (.ref 1003), none]) 1 pn_X7 ⟨rfl, rfl⟩ (Nat.le_of_ble_eq_true rfl) rfl ?_
  refine V.aload_n (pc := 0) dX7_isWord_0 rfl ?_
  refine V.getI (pc := 1) dX7_isWord_1 f_RX7_35 k_cl7 lx_3 ly_3 rb_7_6 ?_
  refine V.iload_n (pc := 4) dX7_isWord_4 rfl ?_
  refine V.isub (pc := 5) dX7_isWord_5 ?_
  refine V.aload_n (pc := 6) dX7_isWord_6 rfl ?_
  refine V.slen (j := 3) (v := 3) (pc := 7) dX7_isWord_7 l_RX7_83 (by omega) (by decide) rfl (Nat.le_of_ble_eq_true rfl) ?_
  rcases ite_e h with ⟨c, h⟩ | ⟨c, h⟩
  · refine V.icmp_eq_t (t := 15) (pc := 10) dX7_isWord_10 (by decide) c ?_
    refine V.iconst (pc := 15) dX7_isWord_15 ic_0 ?_
    refine V.istore_n (lv' := [some (.ref 3), some (.int l1), some (.ref 1003), some (.int 0)]) (pc := 16) dX7_isWord_16 (Nat.le_of_ble_eq_true rfl) rfl rfl ?_
    exact t_X7_isWord_1003_L17 hd FU l1 0 _ h
  · refine V.icmp_eq_f (t := 15) (pc := 10) dX7_isWord_10 (by decide) c ?_
    refine V.iconst (pc := 13) dX7_isWord_13 ic_0 ?_
    obtain rfl := Option.some.inj h
    exact V.zret (pc := 14) dX7_isWord_14 rfl (Or.inl rfl) (Nat.le_refl _) (Nat.le_refl _)
theorem dX7_readNumber_0 : decode cX7_readNumber 0 = .ok (.aload_n 0, 1) := by decide +kernel
theorem dX7_readNumber_1 : decode cX7_readNumber 1 = .ok (.getfield 35, 3) := by decide +kernel
theorem dX7_readNumber_4 : decode cX7_readNumber 4 = .ok (.istore_n 3, 1) := by decide +kernel
theorem dX7_readNumber_5 : decode cX7_readNumber 5 = .ok (.aload_n 0, 1) := by decide +kernel
theorem dX7_readNumber_6 : decode cX7_readNumber 6 = .ok (.invokevirtual 38, 3) := by decide +kernel
theorem dX7_readNumber_9 : decode cX7_readNumber 9 = .ok (.aload_n 0, 1) := by decide +kernel
theorem dX7_readNumber_10 : decode cX7_readNumber 10 = .ok (.aload_n 0, 1) := by decide +kernel
theorem dX7_readNumber_11 : decode cX7_readNumber 11 = .ok (.getfield 35, 3) := by decide +kernel
theorem dX7_readNumber_14 : decode cX7_readNumber 14 = .ok (.putfield 64, 3) := by decide +kernel
theorem dX7_readNumber_17 : decode cX7_readNumber 17 = .ok (.aload_n 0, 1) := by decide +kernel
theorem dX7_readNumber_18 : decode cX7_readNumber 18 = .ok (.bipush 48, 2) := by decide +kernel
theorem dX7_readNumber_20 : decode cX7_readNumber 20 = .ok (.bipush 57, 2) := by decide +kernel
theorem dX7_readNumber_22 : decode cX7_readNumber 22 = .ok (.invokevirtual 50, 3) := by decide +kernel
theorem dX7_readNumber_25 : decode cX7_readNumber 25 = .ok (.aload_n 0, 1) := by decide +kernel
theorem dX7_readNumber_26 : decode cX7_readNumber 26 = .ok (.getfield 35, 3) := by decide +kernel
theorem dX7_readNumber_29 : decode cX7_readNumber 29 = .ok (.aload_n 0, 1) := by decide +kernel
theorem dX7_readNumber_30 : decode cX7_readNumber 30 = .ok (.getfield 64, 3) := by decide +kernel
theorem dX7_readNumber_33 : decode cX7_readNumber 33 = .ok (.isub, 1) := by decide +kernel
theorem dX7_readNumber_34 : decode cX7_readNumber 34 = .ok (.istore 4, 2) := by decide +kernel
theorem dX7_readNumber_36 : decode cX7_readNumber 36 = .ok (.aload_n 0, 1) := by decide +kernel
theorem dX7_readNumber_37 : decode cX7_readNumber 37 = .ok (.getfield 64, 3) := by decide +kernel
theorem dX7_readNumber_40 : decode cX7_readNumber 40 = .ok (.iload_n 3, 1) := by decide +kernel
theorem dX7_readNumber_41 : decode cX7_readNumber 41 = .ok (.if_icmp .eq 15, 3) := by decide +kernel
theorem dX7_readNumber_44 : decode cX7_readNumber 44 = .ok (.iload 4, 2) := by decide +kernel
theorem dX7_readNumber_46 : decode cX7_readNumber 46 = .ok (.iconst 1, 1) := by decide +kernel
theorem dX7_readNumber_47 : decode cX7_readNumber 47 = .ok (.if_icmp .lt 9, 3) := by decide +kernel
theorem dX7_readNumber_50 : decode cX7_readNumber 50 = .ok (.iload 4, 2) := by decide +kernel
theorem dX7_readNumber_52 : decode cX7_readNumber 52 = .ok (.iconst 2, 1) := by decide +kernel
theorem dX7_readNumber_53 : decode cX7_readNumber 53 = .ok (.if_icmp .le 13, 3) := by decide +kernel
theorem dX7_readNumber_56 : decode cX7_readNumber 56 = .ok (.aload_n 0, 1) := by decide +kernel
theorem dX7_readNumber_57 : decode cX7_readNumber 57 = .ok (.aload_n 0, 1) := by decide +kernel
theorem dX7_readNumber_58 : decode cX7_readNumber 58 = .ok (.getfield 64, 3) := by decide +kernel
theorem dX7_readNumber_61 : decode cX7_readNumber 61 = .ok (.putfield 22, 3) := by decide +kernel
theorem dX7_readNumber_64 : decode cX7_readNumber 64 = .ok (.iconst (-1), 1) := by decide +kernel
theorem dX7_readNumber_65 : decode cX7_readNumber 65 = .ok (.ireturn, 1) := by decide +kernel
theorem dX7_readNumber_66 : decode cX7_readNumber 66 = .ok (.aload_n 0, 1) := by decide +kernel
theorem dX7_readNumber_67 : decode cX7_readNumber 67 = .ok (.getfield 25, 3) := by decide +kernel
theorem dX7_readNumber_70 : decode cX7_readNumber 70 = .ok (.aload_n 0, 1) := by decide +kernel
theorem dX7_readNumber_71 : decode cX7_readNumber 71 = .ok (.getfield 35, 3) := by decide +kernel
theorem dX7_readNumber_74 : decode cX7_readNumber 74 = .ok (.iconst 1, 1) := by decide +kernel
theorem dX7_readNumber_75 : decode cX7_readNumber 75 = .ok (.isub, 1) := by decide +kernel
theorem dX7_readNumber_76 : decode cX7_readNumber 76 = .ok (.invokevirtual 79, 3) := by decide +kernel
theorem dX7_readNumber_79 : decode cX7_readNumber 79 = .ok (.bipush 48, 2) := by decide +kernel
theorem dX7_readNumber_81 : decode cX7_readNumber 81 = .ok (.isub, 1) := by decide +kernel
theorem dX7_readNumber_82 : decode cX7_readNumber 82 = .ok (.istore 5, 2) := by decide +kernel
theorem dX7_readNumber_84 : decode cX7_readNumber 84 = .ok (.iload 4, 2) := by decide +kernel
theorem dX7_readNumber_86 : decode cX7_readNumber 86 = .ok (.iconst 2, 1) := by decide +kernel
theorem dX7_readNumber_87 : decode cX7_readNumber 87 = .ok (.if_icmp .ne 25, 3) := by decide +kernel
theorem dX7_readNumber_90 : decode cX7_readNumber 90 = .ok (.iload 5, 2) := by decide +kernel
theorem dX7_readNumber_92 : decode cX7_readNumber 92 = .ok (.bipush 10, 2) := by decide +kernel
theorem dX7_readNumber_94 : decode cX7_readNumber 94 = .ok (.aload_n 0, 1) := by decide +kernel
theorem dX7_readNumber_95 : decode cX7_readNumber 95 = .ok (.getfield 25, 3) := by decide +kernel
theorem dX7_readNumber_98 : decode cX7_readNumber 98 = .ok (.aload_n 0, 1) := by decide +kernel
theorem dX7_readNumber_99 : decode cX7_readNumber 99 = .ok (.getfield 64, 3) := by decide +kernel
theorem dX7_readNumber_102 : decode cX7_readNumber 102 = .ok (.invokevirtual 79, 3) := by decide +kernel
theorem dX7_readNumber_105 : decode cX7_readNumber 105 = .ok (.bipush 48, 2) := by decide +kernel
theorem dX7_readNumber_107 : decode cX7_readNumber 107 = .ok (.isub, 1) := by decide +kernel
theorem dX7_readNumber_108 : decode cX7_readNumber 108 = .ok (.imul, 1) := by decide +kernel
theorem dX7_readNumber_109 : decode cX7_readNumber 109 = .ok (.iadd, 1) := by decide +kernel
theorem dX7_readNumber_110 : decode cX7_readNumber 110 = .ok (.istore 5, 2) := by decide +kernel
theorem dX7_readNumber_112 : decode cX7_readNumber 112 = .ok (.iload 5, 2) := by decide +kernel
theorem dX7_readNumber_114 : decode cX7_readNumber 114 = .ok (.iload_n 1, 1) := by decide +kernel
theorem dX7_readNumber_115 : decode cX7_readNumber 115 = .ok (.if_icmp .lt 9, 3) := by decide +kernel
theorem dX7_readNumber_118 : decode cX7_readNumber 118 = .ok (.iload 5, 2) := by decide +kernel
theorem dX7_readNumber_120 : decode cX7_readNumber 120 = .ok (.iload_n 2, 1) := by decide +kernel
theorem dX7_readNumber_121 : decode cX7_readNumber 121 = .ok (.if_icmp .le 13, 3) := by decide +kernel
theorem dX7_readNumber_124 : decode cX7_readNumber 124 = .ok (.aload_n 0, 1) := by decide +kernel
theorem dX7_readNumber_125 : decode cX7_readNumber 125 = .ok (.aload_n 0, 1) := by decide +kernel
theorem dX7_readNumber_126 : decode cX7_readNumber 126 = .ok (.getfield 64, 3) := by decide +kernel
theorem dX7_readNumber_129 : decode cX7_readNumber 129 = .ok (.putfield 22, 3) := by decide +kernel
theorem dX7_readNumber_132 : decode cX7_readNumber 132 = .ok (.iconst (-1), 1) := by decide +kernel
theorem dX7_readNumber_133 : decode cX7_readNumber 133 = .ok (.ireturn, 1) := by decide +kernel
theorem dX7_readNumber_134 : decode cX7_readNumber 134 = .ok (.iload 5, 2) := by decide +kernel
theorem dX7_readNumber_136 : decode cX7_readNumber 136 = .ok (.ireturn, 1) := by decide +kernel
def f_X7_readNumber_J112 (l1 : Int32) (l2 : Int32) (l5 : Int32) (w : Wd) : Option (Int32 × Wd) :=
  if l5 < l1 then
    letW (sI w 3 8 (w.1 3 7)) fun w1 =>
    some ((-1), w1)
  else
    if l5 ≤ l2 then
      some (l5, w)
    else
      letW (sI w 3 8 (w.1 3 7)) fun w2 =>
      some ((-1), w2)
set_option maxHeartbeats 4000000 in
set_option maxRecDepth 100000 in
theorem t_X7_readNumber_J112 {G : GT} {d : Nat} (hd : 2 ≤ d + 1)  : ∀ (l1 : Int32) (l2 : Int32) (l5 : Int32) (w : Wd) (r : Int32) (w' : Wd), f_X7_readNumber_J112 l1 l2 l5 w = some (r, w') → U (vf G mX7_readNumber (d + 1)) 112 [some (.ref 3), some (.int l1), some (.int l2), none, none, some (.int l5)] [] w (some (.int r), 70, r0, w') := by
  intro l1 l2 l5 w r w' h
  unfold f_X7_readNumber_J112 at h
  refine V.iload (pc := 112) dX7_readNumber_112 rfl ?_
  refine V.iload_n (pc := 114) dX7_readNumber_114 rfl ?_
  rcases ite_e h with ⟨c, h⟩ | ⟨c, h⟩
  · refine V.icmp_lt_t (t := 124) (pc := 115) dX7_readNumber_115 (by decide) c ?_
    refine V.aload_n (pc := 124) dX7_readNumber_124 rfl ?_
    refine V.aload_n (pc := 125) dX7_readNumber_125 rfl ?_
    refine V.getI (pc := 126) dX7_readNumber_126 f_RX7_64 k_cl7 lx_3 ly_3 rb_7_7 ?_
    obtain ⟨w1, ew1, h⟩ := letW_e h
    refine V.putIX (pc := 129) dX7_readNumber_129 f_RX7_22 k_cl7 lx_3 ly_3 rb_7_8 (fin_I (T0 := TX7) rfl rfl rfl) ew1 ?_
    refine V.iconst (pc := 132) dX7_readNumber_132 ic_m1 ?_
    obtain ⟨rfl, rfl⟩ := Prod.mk.inj (Option.some.inj h)
    exact V.iret (pc := 133) dX7_readNumber_133 rfl (Nat.le_refl _) (Nat.le_refl _)
  · refine V.icmp_lt_f (t := 124) (pc := 115) dX7_readNumber_115 (by decide) c ?_
    refine V.iload (pc := 118) dX7_readNumber_118 rfl ?_
    refine V.iload_n (pc := 120) dX7_readNumber_120 rfl ?_
    rcases ite_e h with ⟨c, h⟩ | ⟨c, h⟩
    · refine V.icmp_le_t (t := 134) (pc := 121) dX7_readNumber_121 (by decide) c ?_
      refine V.iload (pc := 134) dX7_readNumber_134 rfl ?_
      obtain ⟨rfl, rfl⟩ := Prod.mk.inj (Option.some.inj h)
      exact V.iret (pc := 136) dX7_readNumber_136 rfl (Nat.le_refl _) (Nat.le_refl _)
    · refine V.icmp_le_f (t := 134) (pc := 121) dX7_readNumber_121 (by decide) c ?_
      refine V.aload_n (pc := 124) dX7_readNumber_124 rfl ?_
      refine V.aload_n (pc := 125) dX7_readNumber_125 rfl ?_
      refine V.getI (pc := 126) dX7_readNumber_126 f_RX7_64 k_cl7 lx_3 ly_3 rb_7_7 ?_
      obtain ⟨w2, ew2, h⟩ := letW_e h
      refine V.putIX (pc := 129) dX7_readNumber_129 f_RX7_22 k_cl7 lx_3 ly_3 rb_7_8 (fin_I (T0 := TX7) rfl rfl rfl) ew2 ?_
      refine V.iconst (pc := 132) dX7_readNumber_132 ic_m1 ?_
      obtain ⟨rfl, rfl⟩ := Prod.mk.inj (Option.some.inj h)
      exact V.iret (pc := 133) dX7_readNumber_133 rfl (Nat.le_refl _) (Nat.le_refl _)
def f_X7_readNumber (l1 : Int32) (l2 : Int32) (w : Wd) : Option (Int32 × Wd) :=
  bnd (f_X7_skipBlanks  w) fun w1 =>
  letW (sI w1 3 7 (w1.1 3 6)) fun w2 =>
  bnd (f_X7_skipAll 48 57 w2) fun w3 =>
  if (w3.1 3 7) = (w.1 3 6) then
    letW (sI w3 3 8 (w3.1 3 7)) fun w4 =>
    some ((-1), w4)
  else
    if ((w3.1 3 6) - (w3.1 3 7)) < 1 then
      letW (sI w3 3 8 (w3.1 3 7)) fun w5 =>
      some ((-1), w5)
    else
      if ((w3.1 3 6) - (w3.1 3 7)) ≤ 2 then
        bnd (f_X9_byteAt ((w3.1 3 6) - 1) w3) fun x6 =>
        if ((w3.1 3 6) - (w3.1 3 7)) = 2 then
          bnd (f_X9_byteAt (w3.1 3 7) w3) fun x7 =>
          f_X7_readNumber_J112  l1 l2 ((x6 - 48) + (10 * (x7 - 48))) w3
        else
          f_X7_readNumber_J112  l1 l2 (x6 - 48) w3
      else
        letW (sI w3 3 8 (w3.1 3 7)) fun w8 =>
        some ((-1), w8)
set_option maxHeartbeats 4000000 in
set_option maxRecDepth 100000 in
theorem ok_X7_readNumber {G : GT} {d : Nat} (hd : 2 ≤ d) {w : Wd} (l1 : Int32) (l2 : Int32) {r : Int32} {w' : Wd} (h : f_X7_readNumber l1 l2 w = some (r, w')) : uC G yX7_readNumber mX7_readNumber d [.ref 3, .int l1, .int l2] w (some (.int r)) w' := by
  obtain ⟨d, rfl⟩ : ∃ e, d = e + 1 := ⟨d - 1, by omega⟩
  unfold f_X7_readNumber at h
  refine uC_of (lv := [some (.ref 3), some (.int l1), some (.int l2), none, none, none]) 3 pn_X7 ⟨rfl, rfl⟩ (Nat.le_of_ble_eq_true rfl) rfl ?_
  refine V.aload_n (pc := 0) dX7_readNumber_0 rfl ?_
  refine V.getI (pc := 1) dX7_readNumber_1 f_RX7_35 k_cl7 lx_3 ly_3 rb_7_6 ?_
  refine V.istore_n (lv' := [some (.ref 3), some (.int l1), some (.int l2), some (.int (w.1 3 6)), none, none]) (pc := 4) dX7_readNumber_4 (Nat.le_of_ble_eq_true rfl) rfl rfl ?_
  refine V.aload_n (pc := 5) dX7_readNumber_5 rfl ?_
  obtain ⟨w1, ew1, h⟩ := bnd_e h
  refine U.callV (pc := 6) (As := []) (st := []) dX7_readNumber_6 l_RX7_38 (ok_X7_skipBlanks (by omega)  ew1) lx_3 ly_3 cn_7 (Nat.le_of_ble_eq_true rfl) rfl rfl (Nat.le_of_ble_eq_true rfl) ?_
  refine V.aload_n (pc := 9) dX7_readNumber_9 rfl ?_
  refine V.aload_n (pc := 10) dX7_readNumber_10 rfl ?_
  refine V.getI (pc := 11) dX7_readNumber_11 f_RX7_35 k_cl7 lx_3 ly_3 rb_7_6 ?_
  obtain ⟨w2, ew2, h⟩ := letW_e h
  refine V.putIX (pc := 14) dX7_readNumber_14 f_RX7_64 k_cl7 lx_3 ly_3 rb_7_7 (fin_I (T0 := TX7) rfl rfl rfl) ew2 ?_
  refine V.aload_n (pc := 17) dX7_readNumber_17 rfl ?_
  refine V.bipush (pc := 18) dX7_readNumber_18 bp_48 ?_
  refine V.bipush (pc := 20) dX7_readNumber_20 bp_57 ?_
  obtain ⟨w3, ew3, h⟩ := bnd_e h
  refine U.callV (pc := 22) (As := [.int 48, .int 57]) (st := []) dX7_readNumber_22 l_RX7_50 (ok_X7_skipAll (by omega) 48 57 ew3) lx_3 ly_3 cn_7 (Nat.le_of_ble_eq_true rfl) rfl rfl (Nat.le_of_ble_eq_true rfl) ?_
  refine V.aload_n (pc := 25) dX7_readNumber_25 rfl ?_
  refine V.getI (pc := 26) dX7_readNumber_26 f_RX7_35 k_cl7 lx_3 ly_3 rb_7_6 ?_
  refine V.aload_n (pc := 29) dX7_readNumber_29 rfl ?_
  refine V.getI (pc := 30) dX7_readNumber_30 f_RX7_64 k_cl7 lx_3 ly_3 rb_7_7 ?_
  refine V.isub (pc := 33) dX7_readNumber_33 ?_
  refine V.istore (lv' := [some (.ref 3), some (.int l1), some (.int l2), some (.int (w.1 3 6)), some (.int ((w3.1 3 6) - (w3.1 3 7))), none]) (pc := 34) dX7_readNumber_34 (Nat.le_of_ble_eq_true rfl) rfl rfl ?_
  refine V.aload_n (pc := 36) dX7_readNumber_36 rfl ?_
  refine V.getI (pc := 37) dX7_readNumber_37 f_RX7_64 k_cl7 lx_3 ly_3 rb_7_7 ?_
  refine V.iload_n (pc := 40) dX7_readNumber_40 rfl ?_
  rcases ite_e h with ⟨c, h⟩ | ⟨c, h⟩
  · refine V.icmp_eq_t (t := 56) (pc := 41) dX7_readNumber_41 (by decide) c ?_
    refine V.aload_n (pc := 56) dX7_readNumber_56 rfl ?_
    refine V.aload_n (pc := 57) dX7_readNumber_57 rfl ?_
    refine V.getI (pc := 58) dX7_readNumber_58 f_RX7_64 k_cl7 lx_3 ly_3 rb_7_7 ?_
    obtain ⟨w4, ew4, h⟩ := letW_e h
    refine V.putIX (pc := 61) dX7_readNumber_61 f_RX7_22 k_cl7 lx_3 ly_3 rb_7_8 (fin_I (T0 := TX7) rfl rfl rfl) ew4 ?_
    refine V.iconst (pc := 64) dX7_readNumber_64 ic_m1 ?_
    obtain ⟨rfl, rfl⟩ := Prod.mk.inj (Option.some.inj h)
    exact V.iret (pc := 65) dX7_readNumber_65 rfl (Nat.le_refl _) (Nat.le_refl _)
  · refine V.icmp_eq_f (t := 56) (pc := 41) dX7_readNumber_41 (by decide) c ?_
    refine V.iload (pc := 44) dX7_readNumber_44 rfl ?_
    refine V.iconst (pc := 46) dX7_readNumber_46 ic_1 ?_
    rcases ite_e h with ⟨c, h⟩ | ⟨c, h⟩
    · refine V.icmp_lt_t (t := 56) (pc := 47) dX7_readNumber_47 (by decide) c ?_
      refine V.aload_n (pc := 56) dX7_readNumber_56 rfl ?_
      refine V.aload_n (pc := 57) dX7_readNumber_57 rfl ?_
      refine V.getI (pc := 58) dX7_readNumber_58 f_RX7_64 k_cl7 lx_3 ly_3 rb_7_7 ?_
      obtain ⟨w5, ew5, h⟩ := letW_e h
      refine V.putIX (pc := 61) dX7_readNumber_61 f_RX7_22 k_cl7 lx_3 ly_3 rb_7_8 (fin_I (T0 := TX7) rfl rfl rfl) ew5 ?_
      refine V.iconst (pc := 64) dX7_readNumber_64 ic_m1 ?_
      obtain ⟨rfl, rfl⟩ := Prod.mk.inj (Option.some.inj h)
      exact V.iret (pc := 65) dX7_readNumber_65 rfl (Nat.le_refl _) (Nat.le_refl _)
    · refine V.icmp_lt_f (t := 56) (pc := 47) dX7_readNumber_47 (by decide) c ?_
      refine V.iload (pc := 50) dX7_readNumber_50 rfl ?_
      refine V.iconst (pc := 52) dX7_readNumber_52 ic_2 ?_
      rcases ite_e h with ⟨c, h⟩ | ⟨c, h⟩
      · refine V.icmp_le_t (t := 66) (pc := 53) dX7_readNumber_53 (by decide) c ?_
        refine V.aload_n (pc := 66) dX7_readNumber_66 rfl ?_
        refine V.getR (t := 1) (pc := 67) dX7_readNumber_67 f_RX7_25 k_cl7 lx_3 ly_3 rb_7_0 rr_3_0 ?_
        refine V.aload_n (pc := 70) dX7_readNumber_70 rfl ?_
        refine V.getI (pc := 71) dX7_readNumber_71 f_RX7_35 k_cl7 lx_3 ly_3 rb_7_6 ?_
        refine V.iconst (pc := 74) dX7_readNumber_74 ic_1 ?_
        refine V.isub (pc := 75) dX7_readNumber_75 ?_
        obtain ⟨x6, ex6, h⟩ := bnd_e h
        refine U.callV (pc := 76) (As := [.int ((w3.1 3 6) - 1)]) (st := []) dX7_readNumber_76 l_RX7_79 (ok_X9_byteAt (by omega) ((w3.1 3 6) - 1) ex6) lx_1 ly_1 cn_9 (Nat.le_of_ble_eq_true rfl) rfl rfl (Nat.le_of_ble_eq_true rfl) ?_
        refine V.bipush (pc := 79) dX7_readNumber_79 bp_48 ?_
        refine V.isub (pc := 81) dX7_readNumber_81 ?_
        refine V.istore (lv' := [some (.ref 3), some (.int l1), some (.int l2), some (.int (w.1 3 6)), some (.int ((w3.1 3 6) - (w3.1 3 7))), some (.int (x6 - 48))]) (pc := 82) dX7_readNumber_82 (Nat.le_of_ble_eq_true rfl) rfl rfl ?_
        refine V.iload (pc := 84) dX7_readNumber_84 rfl ?_
        refine V.iconst (pc := 86) dX7_readNumber_86 ic_2 ?_
        rcases ite_e h with ⟨c, h⟩ | ⟨c, h⟩
        · refine V.icmp_ne_f (t := 112) (pc := 87) dX7_readNumber_87 (by decide) c ?_
          refine V.iload (pc := 90) dX7_readNumber_90 rfl ?_
          refine V.bipush (pc := 92) dX7_readNumber_92 bp_10 ?_
          refine V.aload_n (pc := 94) dX7_readNumber_94 rfl ?_
          refine V.getR (t := 1) (pc := 95) dX7_readNumber_95 f_RX7_25 k_cl7 lx_3 ly_3 rb_7_0 rr_3_0 ?_
          refine V.aload_n (pc := 98) dX7_readNumber_98 rfl ?_
          refine V.getI (pc := 99) dX7_readNumber_99 f_RX7_64 k_cl7 lx_3 ly_3 rb_7_7 ?_
          obtain ⟨x7, ex7, h⟩ := bnd_e h
          refine U.callV (pc := 102) (As := [.int (w3.1 3 7)]) (st := [.int 10, .int (x6 - 48)]) dX7_readNumber_102 l_RX7_79 (ok_X9_byteAt (by omega) (w3.1 3 7) ex7) lx_1 ly_1 cn_9 (Nat.le_of_ble_eq_true rfl) rfl rfl (Nat.le_of_ble_eq_true rfl) ?_
          refine V.bipush (pc := 105) dX7_readNumber_105 bp_48 ?_
          refine V.isub (pc := 107) dX7_readNumber_107 ?_
          refine V.imul (pc := 108) dX7_readNumber_108 ?_
          refine V.iadd (pc := 109) dX7_readNumber_109 ?_
          refine V.istore (lv' := [some (.ref 3), some (.int l1), some (.int l2), some (.int (w.1 3 6)), some (.int ((w3.1 3 6) - (w3.1 3 7))), some (.int ((x6 - 48) + (10 * (x7 - 48))))]) (pc := 110) dX7_readNumber_110 (Nat.le_of_ble_eq_true rfl) rfl rfl ?_
          refine V.weak (lv' := [some (.ref 3), some (.int l1), some (.int l2), none, none, some (.int ((x6 - 48) + (10 * (x7 - 48))))]) (And.intro rfl (And.intro rfl (And.intro rfl (And.intro rfl trivial)))) ?_
          exact t_X7_readNumber_J112 hd l1 l2 ((x6 - 48) + (10 * (x7 - 48))) w3 _ _ h
        · refine V.icmp_ne_t (t := 112) (pc := 87) dX7_readNumber_87 (by decide) c ?_
          refine V.weak (lv' := [some (.ref 3), some (.int l1), some (.int l2), none, none, some (.int (x6 - 48))]) (And.intro rfl (And.intro rfl (And.intro rfl (And.intro rfl trivial)))) ?_
          exact t_X7_readNumber_J112 hd l1 l2 (x6 - 48) w3 _ _ h
      · refine V.icmp_le_f (t := 66) (pc := 53) dX7_readNumber_53 (by decide) c ?_
        refine V.aload_n (pc := 56) dX7_readNumber_56 rfl ?_
        refine V.aload_n (pc := 57) dX7_readNumber_57 rfl ?_
        refine V.getI (pc := 58) dX7_readNumber_58 f_RX7_64 k_cl7 lx_3 ly_3 rb_7_7 ?_
        obtain ⟨w8, ew8, h⟩ := letW_e h
        refine V.putIX (pc := 61) dX7_readNumber_61 f_RX7_22 k_cl7 lx_3 ly_3 rb_7_8 (fin_I (T0 := TX7) rfl rfl rfl) ew8 ?_
        refine V.iconst (pc := 64) dX7_readNumber_64 ic_m1 ?_
        obtain ⟨rfl, rfl⟩ := Prod.mk.inj (Option.some.inj h)
        exact V.iret (pc := 65) dX7_readNumber_65 rfl (Nat.le_refl _) (Nat.le_refl _)
theorem dX7_readSet_0 : decode cX7_readSet 0 = .ok (.iconst 0, 1) := by decide +kernel
theorem dX7_readSet_1 : decode cX7_readSet 1 = .ok (.istore_n 1, 1) := by decide +kernel
theorem dX7_readSet_2 : decode cX7_readSet 2 = .ok (.iload_n 1, 1) := by decide +kernel
theorem dX7_readSet_3 : decode cX7_readSet 3 = .ok (.sipush 200, 3) := by decide +kernel
theorem dX7_readSet_6 : decode cX7_readSet 6 = .ok (.if_icmp .gt 117, 3) := by decide +kernel
theorem dX7_readSet_9 : decode cX7_readSet 9 = .ok (.aload_n 0, 1) := by decide +kernel
theorem dX7_readSet_10 : decode cX7_readSet 10 = .ok (.getfield 22, 3) := by decide +kernel
theorem dX7_readSet_13 : decode cX7_readSet 13 = .ok (.iconst (-1), 1) := by decide +kernel
theorem dX7_readSet_14 : decode cX7_readSet 14 = .ok (.if_icmp .ne 109, 3) := by decide +kernel
theorem dX7_readSet_17 : decode cX7_readSet 17 = .ok (.aload_n 0, 1) := by decide +kernel
theorem dX7_readSet_18 : decode cX7_readSet 18 = .ok (.getfield 35, 3) := by decide +kernel
theorem dX7_readSet_21 : decode cX7_readSet 21 = .ok (.istore_n 2, 1) := by decide +kernel
theorem dX7_readSet_22 : decode cX7_readSet 22 = .ok (.aload_n 0, 1) := by decide +kernel
theorem dX7_readSet_23 : decode cX7_readSet 23 = .ok (.invokevirtual 38, 3) := by decide +kernel
theorem dX7_readSet_26 : decode cX7_readSet 26 = .ok (.aload_n 0, 1) := by decide +kernel
theorem dX7_readSet_27 : decode cX7_readSet 27 = .ok (.getfield 25, 3) := by decide +kernel
theorem dX7_readSet_30 : decode cX7_readSet 30 = .ok (.aload_n 0, 1) := by decide +kernel
theorem dX7_readSet_31 : decode cX7_readSet 31 = .ok (.getfield 35, 3) := by decide +kernel
theorem dX7_readSet_34 : decode cX7_readSet 34 = .ok (.invokevirtual 79, 3) := by decide +kernel
theorem dX7_readSet_37 : decode cX7_readSet 37 = .ok (.bipush 59, 2) := by decide +kernel
theorem dX7_readSet_39 : decode cX7_readSet 39 = .ok (.if_icmp .ne 14, 3) := by decide +kernel
theorem dX7_readSet_42 : decode cX7_readSet 42 = .ok (.aload_n 0, 1) := by decide +kernel
theorem dX7_readSet_43 : decode cX7_readSet 43 = .ok (.dup, 1) := by decide +kernel
theorem dX7_readSet_44 : decode cX7_readSet 44 = .ok (.getfield 35, 3) := by decide +kernel
theorem dX7_readSet_47 : decode cX7_readSet 47 = .ok (.iconst 1, 1) := by decide +kernel
theorem dX7_readSet_48 : decode cX7_readSet 48 = .ok (.iadd, 1) := by decide +kernel
theorem dX7_readSet_49 : decode cX7_readSet 49 = .ok (.putfield 35, 3) := by decide +kernel
theorem dX7_readSet_52 : decode cX7_readSet 52 = .ok (.return_, 1) := by decide +kernel
theorem dX7_readSet_53 : decode cX7_readSet 53 = .ok (.aload_n 0, 1) := by decide +kernel
theorem dX7_readSet_54 : decode cX7_readSet 54 = .ok (.iload_n 2, 1) := by decide +kernel
theorem dX7_readSet_55 : decode cX7_readSet 55 = .ok (.putfield 35, 3) := by decide +kernel
theorem dX7_readSet_58 : decode cX7_readSet 58 = .ok (.aload_n 0, 1) := by decide +kernel
theorem dX7_readSet_59 : decode cX7_readSet 59 = .ok (.iconst 0, 1) := by decide +kernel
theorem dX7_readSet_60 : decode cX7_readSet 60 = .ok (.aload_n 0, 1) := by decide +kernel
theorem dX7_readSet_61 : decode cX7_readSet 61 = .ok (.getfield 18, 3) := by decide +kernel
theorem dX7_readSet_64 : decode cX7_readSet 64 = .ok (.iconst 1, 1) := by decide +kernel
theorem dX7_readSet_65 : decode cX7_readSet 65 = .ok (.isub, 1) := by decide +kernel
theorem dX7_readSet_66 : decode cX7_readSet 66 = .ok (.invokevirtual 60, 3) := by decide +kernel
theorem dX7_readSet_69 : decode cX7_readSet 69 = .ok (.istore_n 3, 1) := by decide +kernel
theorem dX7_readSet_70 : decode cX7_readSet 70 = .ok (.aload_n 0, 1) := by decide +kernel
theorem dX7_readSet_71 : decode cX7_readSet 71 = .ok (.getfield 22, 3) := by decide +kernel
theorem dX7_readSet_74 : decode cX7_readSet 74 = .ok (.iconst (-1), 1) := by decide +kernel
theorem dX7_readSet_75 : decode cX7_readSet 75 = .ok (.if_icmp .ne 22, 3) := by decide +kernel
theorem dX7_readSet_78 : decode cX7_readSet 78 = .ok (.aload_n 0, 1) := by decide +kernel
theorem dX7_readSet_79 : decode cX7_readSet 79 = .ok (.getfield 32, 3) := by decide +kernel
theorem dX7_readSet_82 : decode cX7_readSet 82 = .ok (.iload_n 3, 1) := by decide +kernel
theorem dX7_readSet_83 : decode cX7_readSet 83 = .ok (.ishr, 1) := by decide +kernel
theorem dX7_readSet_84 : decode cX7_readSet 84 = .ok (.iconst 1, 1) := by decide +kernel
theorem dX7_readSet_85 : decode cX7_readSet 85 = .ok (.iand, 1) := by decide +kernel
theorem dX7_readSet_86 : decode cX7_readSet 86 = .ok (.ifCond .eq 11, 3) := by decide +kernel
theorem dX7_readSet_89 : decode cX7_readSet 89 = .ok (.aload_n 0, 1) := by decide +kernel
theorem dX7_readSet_90 : decode cX7_readSet 90 = .ok (.aload_n 0, 1) := by decide +kernel
theorem dX7_readSet_91 : decode cX7_readSet 91 = .ok (.getfield 64, 3) := by decide +kernel
theorem dX7_readSet_94 : decode cX7_readSet 94 = .ok (.putfield 22, 3) := by decide +kernel
theorem dX7_readSet_97 : decode cX7_readSet 97 = .ok (.aload_n 0, 1) := by decide +kernel
theorem dX7_readSet_98 : decode cX7_readSet 98 = .ok (.getfield 22, 3) := by decide +kernel
theorem dX7_readSet_101 : decode cX7_readSet 101 = .ok (.iconst (-1), 1) := by decide +kernel
theorem dX7_readSet_102 : decode cX7_readSet 102 = .ok (.if_icmp .ne 15, 3) := by decide +kernel
theorem dX7_readSet_105 : decode cX7_readSet 105 = .ok (.aload_n 0, 1) := by decide +kernel
theorem dX7_readSet_106 : decode cX7_readSet 106 = .ok (.dup, 1) := by decide +kernel
theorem dX7_readSet_107 : decode cX7_readSet 107 = .ok (.getfield 32, 3) := by decide +kernel
theorem dX7_readSet_110 : decode cX7_readSet 110 = .ok (.iconst 1, 1) := by decide +kernel
theorem dX7_readSet_111 : decode cX7_readSet 111 = .ok (.iload_n 3, 1) := by decide +kernel
theorem dX7_readSet_112 : decode cX7_readSet 112 = .ok (.ishl, 1) := by decide +kernel
theorem dX7_readSet_113 : decode cX7_readSet 113 = .ok (.ior, 1) := by decide +kernel
theorem dX7_readSet_114 : decode cX7_readSet 114 = .ok (.putfield 32, 3) := by decide +kernel
theorem dX7_readSet_117 : decode cX7_readSet 117 = .ok (.iinc 1 1, 3) := by decide +kernel
theorem dX7_readSet_120 : decode cX7_readSet 120 = .ok (.goto (-118), 3) := by decide +kernel
theorem dX7_readSet_123 : decode cX7_readSet 123 = .ok (.return_, 1) := by decide +kernel
def f_X7_readSet_J97 (k2 : Int32 → Wd → Option Wd) (l1 : Int32) (l3 : Int32) (w : Wd) : Option Wd :=
  if (w.1 3 8) = (-1) then
    letW (sI w 3 5 ((w.1 3 5) ||| (1 <<< (l3 &&& 31)))) fun w1 =>
    k2 (l1 + 1) w1
  else
    k2 (l1 + 1) w
set_option maxHeartbeats 4000000 in
set_option maxRecDepth 100000 in
theorem t_X7_readSet_J97 {G : GT} {d : Nat} {k2 : Int32 → Wd → Option Wd} (hd : 3 ≤ d + 1) (h2 : ∀ (l1 : Int32) (w : Wd) (w' : Wd), k2 l1 w = some w' → U (vf G mX7_readSet (d + 1)) 2 [some (.ref 3), some (.int l1), none, none] [] w (none, 70, r0, w')) : ∀ (l1 : Int32) (l3 : Int32) (w : Wd) (w' : Wd), f_X7_readSet_J97 k2 l1 l3 w = some w' → U (vf G mX7_readSet (d + 1)) 97 [some (.ref 3), some (.int l1), none, some (.int l3)] [] w (none, 70, r0, w') := by
  intro l1 l3 w w' h
  unfold f_X7_readSet_J97 at h
  refine V.aload_n (pc := 97) dX7_readSet_97 rfl ?_
  refine V.getI (pc := 98) dX7_readSet_98 f_RX7_22 k_cl7 lx_3 ly_3 rb_7_8 ?_
  refine V.iconst (pc := 101) dX7_readSet_101 ic_m1 ?_
  rcases ite_e h with ⟨c, h⟩ | ⟨c, h⟩
  · refine V.icmp_ne_f (t := 117) (pc := 102) dX7_readSet_102 (by decide) c ?_
    refine V.aload_n (pc := 105) dX7_readSet_105 rfl ?_
    refine V.dup (pc := 106) dX7_readSet_106 rfl ?_
    refine V.getI (pc := 107) dX7_readSet_107 f_RX7_32 k_cl7 lx_3 ly_3 rb_7_5 ?_
    refine V.iconst (pc := 110) dX7_readSet_110 ic_1 ?_
    refine V.iload_n (pc := 111) dX7_readSet_111 rfl ?_
    refine V.ishl (pc := 112) dX7_readSet_112 ?_
    refine V.ior (pc := 113) dX7_readSet_113 ?_
    obtain ⟨w1, ew1, h⟩ := letW_e h
    refine V.putIX (pc := 114) dX7_readSet_114 f_RX7_32 k_cl7 lx_3 ly_3 rb_7_5 (fin_I (T0 := TX7) rfl rfl rfl) ew1 ?_
    refine V.iinc (lv' := [some (.ref 3), some (.int (l1 + 1)), none, some (.int l3)]) (pc := 117) dX7_readSet_117 (Nat.le_of_ble_eq_true rfl) rfl rfl (v := (l1 + 1)) (by rw [show Int32.ofInt 1 = 1 from by decide]) rfl ?_
    refine V.goto (t := 2) (pc := 120) dX7_readSet_120 (by decide) ?_
    refine V.weak (lv' := [some (.ref 3), some (.int (l1 + 1)), none, none]) (And.intro rfl (And.intro rfl trivial)) ?_
    exact h2 (l1 + 1) w1 _ h
  · refine V.icmp_ne_t (t := 117) (pc := 102) dX7_readSet_102 (by decide) c ?_
    refine V.iinc (lv' := [some (.ref 3), some (.int (l1 + 1)), none, some (.int l3)]) (pc := 117) dX7_readSet_117 (Nat.le_of_ble_eq_true rfl) rfl rfl (v := (l1 + 1)) (by rw [show Int32.ofInt 1 = 1 from by decide]) rfl ?_
    refine V.goto (t := 2) (pc := 120) dX7_readSet_120 (by decide) ?_
    refine V.weak (lv' := [some (.ref 3), some (.int (l1 + 1)), none, none]) (And.intro rfl (And.intro rfl trivial)) ?_
    exact h2 (l1 + 1) w _ h
def f_X7_readSet_B2b (k2 : Int32 → Wd → Option Wd) (l1 : Int32) (w : Wd) : Option Wd :=
  if 200 < l1 then
    some w
  else
    if (w.1 3 8) = (-1) then
      bnd (f_X7_skipBlanks  w) fun w1 =>
      bnd (f_X9_byteAt (w1.1 3 6) w1) fun x2 =>
      if x2 = 59 then
        letW (sI w1 3 6 ((w1.1 3 6) + 1)) fun w7 =>
        some w7
      else
        letW (sI w1 3 6 (w.1 3 6)) fun w3 =>
        bnd2 (f_X7_readNumber 0 ((w3.1 3 4) - 1) w3) fun x4 w5 =>
        if (w5.1 3 8) = (-1) then
          if (((w5.1 3 5) >>> (x4 &&& 31)) &&& 1) = 0 then
            f_X7_readSet_J97 k2 l1 x4 w5
          else
            letW (sI w5 3 8 (w5.1 3 7)) fun w6 =>
            f_X7_readSet_J97 k2 l1 x4 w6
        else
          f_X7_readSet_J97 k2 l1 x4 w5
    else
      some w
def f_X7_readSet_L2 (n : Nat) : Int32 → Wd → Option Wd :=
  Nat.rec (fun _ _ => none) (fun _ k => f_X7_readSet_B2b k) n
set_option maxHeartbeats 4000000 in
set_option maxRecDepth 100000 in
theorem t_X7_readSet_L2 {G : GT} {d : Nat} (hd : 3 ≤ d + 1)  : ∀ (n : Nat) (l1 : Int32) (w : Wd) (w' : Wd), f_X7_readSet_L2 n l1 w = some w' → U (vf G mX7_readSet (d + 1)) 2 [some (.ref 3), some (.int l1), none, none] [] w (none, 70, r0, w') := by
  intro n
  induction n with
  | zero => intro l1 w w' h; cases h
  | succ n h2 =>
    intro l1 w w' h
    have h : f_X7_readSet_B2b (f_X7_readSet_L2 n) l1 w = some w' := h
    unfold f_X7_readSet_B2b at h
    refine V.iload_n (pc := 2) dX7_readSet_2 rfl ?_
    refine V.sipush (pc := 3) dX7_readSet_3 sp_200 ?_
    rcases ite_e h with ⟨c, h⟩ | ⟨c, h⟩
    · refine V.icmp_gt_t (t := 123) (pc := 6) dX7_readSet_6 (by decide) c ?_
      obtain rfl := Option.some.inj h
      exact V.vret (pc := 123) dX7_readSet_123 rfl (Nat.le_refl _) (Nat.le_refl _)
    · refine V.icmp_gt_f (t := 123) (pc := 6) dX7_readSet_6 (by decide) c ?_
      refine V.aload_n (pc := 9) dX7_readSet_9 rfl ?_
      refine V.getI (pc := 10) dX7_readSet_10 f_RX7_22 k_cl7 lx_3 ly_3 rb_7_8 ?_
      refine V.iconst (pc := 13) dX7_readSet_13 ic_m1 ?_
      rcases ite_e h with ⟨c, h⟩ | ⟨c, h⟩
      · refine V.icmp_ne_f (t := 123) (pc := 14) dX7_readSet_14 (by decide) c ?_
        refine V.aload_n (pc := 17) dX7_readSet_17 rfl ?_
        refine V.getI (pc := 18) dX7_readSet_18 f_RX7_35 k_cl7 lx_3 ly_3 rb_7_6 ?_
        refine V.istore_n (lv' := [some (.ref 3), some (.int l1), some (.int (w.1 3 6)), none]) (pc := 21) dX7_readSet_21 (Nat.le_of_ble_eq_true rfl) rfl rfl ?_
        refine V.aload_n (pc := 22) dX7_readSet_22 rfl ?_
        obtain ⟨w1, ew1, h⟩ := bnd_e h
        refine U.callV (pc := 23) (As := []) (st := []) dX7_readSet_23 l_RX7_38 (ok_X7_skipBlanks (by omega)  ew1) lx_3 ly_3 cn_7 (Nat.le_of_ble_eq_true rfl) rfl rfl (Nat.le_of_ble_eq_true rfl) ?_
        refine V.aload_n (pc := 26) dX7_readSet_26 rfl ?_
        refine V.getR (t := 1) (pc := 27) dX7_readSet_27 f_RX7_25 k_cl7 lx_3 ly_3 rb_7_0 rr_3_0 ?_
        refine V.aload_n (pc := 30) dX7_readSet_30 rfl ?_
        refine V.getI (pc := 31) dX7_readSet_31 f_RX7_35 k_cl7 lx_3 ly_3 rb_7_6 ?_
        obtain ⟨x2, ex2, h⟩ := bnd_e h
        refine U.callV (pc := 34) (As := [.int (w1.1 3 6)]) (st := []) dX7_readSet_34 l_RX7_79 (ok_X9_byteAt (by omega) (w1.1 3 6) ex2) lx_1 ly_1 cn_9 (Nat.le_of_ble_eq_true rfl) rfl rfl (Nat.le_of_ble_eq_true rfl) ?_
        refine V.bipush (pc := 37) dX7_readSet_37 bp_59 ?_
        rcases ite_e h with ⟨c, h⟩ | ⟨c, h⟩
        · refine V.icmp_ne_f (t := 53) (pc := 39) dX7_readSet_39 (by decide) c ?_
          refine V.aload_n (pc := 42) dX7_readSet_42 rfl ?_
          refine V.dup (pc := 43) dX7_readSet_43 rfl ?_
          refine V.getI (pc := 44) dX7_readSet_44 f_RX7_35 k_cl7 lx_3 ly_3 rb_7_6 ?_
          refine V.iconst (pc := 47) dX7_readSet_47 ic_1 ?_
          refine V.iadd (pc := 48) dX7_readSet_48 ?_
          obtain ⟨w7, ew7, h⟩ := letW_e h
          refine V.putIX (pc := 49) dX7_readSet_49 f_RX7_35 k_cl7 lx_3 ly_3 rb_7_6 (fin_I (T0 := TX7) rfl rfl rfl) ew7 ?_
          obtain rfl := Option.some.inj h
          exact V.vret (pc := 52) dX7_readSet_52 rfl (Nat.le_refl _) (Nat.le_refl _)
        · refine V.icmp_ne_t (t := 53) (pc := 39) dX7_readSet_39 (by decide) c ?_
          refine V.aload_n (pc := 53) dX7_readSet_53 rfl ?_
          refine V.iload_n (pc := 54) dX7_readSet_54 rfl ?_
          obtain ⟨w3, ew3, h⟩ := letW_e h
          refine V.putIX (pc := 55) dX7_readSet_55 f_RX7_35 k_cl7 lx_3 ly_3 rb_7_6 (fin_I (T0 := TX7) rfl rfl rfl) ew3 ?_
          refine V.aload_n (pc := 58) dX7_readSet_58 rfl ?_
          refine V.iconst (pc := 59) dX7_readSet_59 ic_0 ?_
          refine V.aload_n (pc := 60) dX7_readSet_60 rfl ?_
          refine V.getI (pc := 61) dX7_readSet_61 f_RX7_18 k_cl7 lx_3 ly_3 rb_7_4 ?_
          refine V.iconst (pc := 64) dX7_readSet_64 ic_1 ?_
          refine V.isub (pc := 65) dX7_readSet_65 ?_
          obtain ⟨x4, w5, ew5, h⟩ := bnd2_e h
          refine U.callV (pc := 66) (As := [.int 0, .int ((w3.1 3 4) - 1)]) (st := []) dX7_readSet_66 l_RX7_60 (ok_X7_readNumber (by omega) 0 ((w3.1 3 4) - 1) ew5) lx_3 ly_3 cn_7 (Nat.le_of_ble_eq_true rfl) rfl rfl (Nat.le_of_ble_eq_true rfl) ?_
          refine V.istore_n (lv' := [some (.ref 3), some (.int l1), some (.int (w.1 3 6)), some (.int x4)]) (pc := 69) dX7_readSet_69 (Nat.le_of_ble_eq_true rfl) rfl rfl ?_
          refine V.aload_n (pc := 70) dX7_readSet_70 rfl ?_
          refine V.getI (pc := 71) dX7_readSet_71 f_RX7_22 k_cl7 lx_3 ly_3 rb_7_8 ?_
          refine V.iconst (pc := 74) dX7_readSet_74 ic_m1 ?_
          rcases ite_e h with ⟨c, h⟩ | ⟨c, h⟩
          · refine V.icmp_ne_f (t := 97) (pc := 75) dX7_readSet_75 (by decide) c ?_
            refine V.aload_n (pc := 78) dX7_readSet_78 rfl ?_
            refine V.getI (pc := 79) dX7_readSet_79 f_RX7_32 k_cl7 lx_3 ly_3 rb_7_5 ?_
            refine V.iload_n (pc := 82) dX7_readSet_82 rfl ?_
            refine V.ishr (pc := 83) dX7_readSet_83 ?_
            refine V.iconst (pc := 84) dX7_readSet_84 ic_1 ?_
            refine V.iand (pc := 85) dX7_readSet_85 ?_
            rcases ite_e h with ⟨c, h⟩ | ⟨c, h⟩
            · refine V.if_eq_t (t := 97) (pc := 86) dX7_readSet_86 (by decide) c ?_
              refine V.weak (lv' := [some (.ref 3), some (.int l1), none, some (.int x4)]) (And.intro rfl (And.intro rfl (And.intro rfl trivial))) ?_
              exact t_X7_readSet_J97 hd h2 l1 x4 w5 _ h
            · refine V.if_eq_f (t := 97) (pc := 86) dX7_readSet_86 (by decide) c ?_
              refine V.aload_n (pc := 89) dX7_readSet_89 rfl ?_
              refine V.aload_n (pc := 90) dX7_readSet_90 rfl ?_
              refine V.getI (pc := 91) dX7_readSet_91 f_RX7_64 k_cl7 lx_3 ly_3 rb_7_7 ?_
              obtain ⟨w6, ew6, h⟩ := letW_e h
              refine V.putIX (pc := 94) dX7_readSet_94 f_RX7_22 k_cl7 lx_3 ly_3 rb_7_8 (fin_I (T0 := TX7) rfl rfl rfl) ew6 ?_
              refine V.weak (lv' := [some (.ref 3), some (.int l1), none, some (.int x4)]) (And.intro rfl (And.intro rfl (And.intro rfl trivial))) ?_
              exact t_X7_readSet_J97 hd h2 l1 x4 w6 _ h
          · refine V.icmp_ne_t (t := 97) (pc := 75) dX7_readSet_75 (by decide) c ?_
            refine V.weak (lv' := [some (.ref 3), some (.int l1), none, some (.int x4)]) (And.intro rfl (And.intro rfl (And.intro rfl trivial))) ?_
            exact t_X7_readSet_J97 hd h2 l1 x4 w5 _ h
      · refine V.icmp_ne_t (t := 123) (pc := 14) dX7_readSet_14 (by decide) c ?_
        obtain rfl := Option.some.inj h
        exact V.vret (pc := 123) dX7_readSet_123 rfl (Nat.le_refl _) (Nat.le_refl _)
def f_X7_readSet (w : Wd) : Option Wd :=
  f_X7_readSet_L2  FU 0 w
set_option maxHeartbeats 4000000 in
set_option maxRecDepth 100000 in
theorem ok_X7_readSet {G : GT} {d : Nat} (hd : 3 ≤ d) {w : Wd}  {w' : Wd} (h : f_X7_readSet  w = some w') : uC G yX7_readSet mX7_readSet d [.ref 3] w none w' := by
  obtain ⟨d, rfl⟩ : ∃ e, d = e + 1 := ⟨d - 1, by omega⟩
  unfold f_X7_readSet at h
  refine uC_of (lv := [some (.ref 3), none, none, none]) 3 pn_X7 ⟨rfl, rfl⟩ (Nat.le_of_ble_eq_true rfl) rfl ?_
  refine V.iconst (pc := 0) dX7_readSet_0 ic_0 ?_
  refine V.istore_n (lv' := [some (.ref 3), some (.int 0), none, none]) (pc := 1) dX7_readSet_1 (Nat.le_of_ble_eq_true rfl) rfl rfl ?_
  exact t_X7_readSet_L2 hd FU 0 w _ h
theorem dX7_addFactor_0 : decode cX7_addFactor 0 = .ok (.aload_n 0, 1) := by decide +kernel
theorem dX7_addFactor_1 : decode cX7_addFactor 1 = .ok (.getfield 22, 3) := by decide +kernel
theorem dX7_addFactor_4 : decode cX7_addFactor 4 = .ok (.iconst (-1), 1) := by decide +kernel
theorem dX7_addFactor_5 : decode cX7_addFactor 5 = .ok (.if_icmp .eq 4, 3) := by decide +kernel
theorem dX7_addFactor_8 : decode cX7_addFactor 8 = .ok (.return_, 1) := by decide +kernel
theorem dX7_addFactor_9 : decode cX7_addFactor 9 = .ok (.aload_n 0, 1) := by decide +kernel
theorem dX7_addFactor_10 : decode cX7_addFactor 10 = .ok (.getfield 18, 3) := by decide +kernel
theorem dX7_addFactor_13 : decode cX7_addFactor 13 = .ok (.iload_n 3, 1) := by decide +kernel
theorem dX7_addFactor_14 : decode cX7_addFactor 14 = .ok (.imul, 1) := by decide +kernel
theorem dX7_addFactor_15 : decode cX7_addFactor 15 = .ok (.bipush 16, 2) := by decide +kernel
theorem dX7_addFactor_17 : decode cX7_addFactor 17 = .ok (.if_icmp .gt 11, 3) := by decide +kernel
theorem dX7_addFactor_20 : decode cX7_addFactor 20 = .ok (.aload_n 0, 1) := by decide +kernel
theorem dX7_addFactor_21 : decode cX7_addFactor 21 = .ok (.getfield 29, 3) := by decide +kernel
theorem dX7_addFactor_24 : decode cX7_addFactor 24 = .ok (.iconst 4, 1) := by decide +kernel
theorem dX7_addFactor_25 : decode cX7_addFactor 25 = .ok (.if_icmp .lt 10, 3) := by decide +kernel
theorem dX7_addFactor_28 : decode cX7_addFactor 28 = .ok (.aload_n 0, 1) := by decide +kernel
theorem dX7_addFactor_29 : decode cX7_addFactor 29 = .ok (.iload 4, 2) := by decide +kernel
theorem dX7_addFactor_31 : decode cX7_addFactor 31 = .ok (.putfield 22, 3) := by decide +kernel
theorem dX7_addFactor_34 : decode cX7_addFactor 34 = .ok (.return_, 1) := by decide +kernel
theorem dX7_addFactor_35 : decode cX7_addFactor 35 = .ok (.aload_n 0, 1) := by decide +kernel
theorem dX7_addFactor_36 : decode cX7_addFactor 36 = .ok (.getfield 9, 3) := by decide +kernel
theorem dX7_addFactor_39 : decode cX7_addFactor 39 = .ok (.aload_n 0, 1) := by decide +kernel
theorem dX7_addFactor_40 : decode cX7_addFactor 40 = .ok (.getfield 29, 3) := by decide +kernel
theorem dX7_addFactor_43 : decode cX7_addFactor 43 = .ok (.iload_n 1, 1) := by decide +kernel
theorem dX7_addFactor_44 : decode cX7_addFactor 44 = .ok (.iastore, 1) := by decide +kernel
theorem dX7_addFactor_45 : decode cX7_addFactor 45 = .ok (.aload_n 0, 1) := by decide +kernel
theorem dX7_addFactor_46 : decode cX7_addFactor 46 = .ok (.getfield 15, 3) := by decide +kernel
theorem dX7_addFactor_49 : decode cX7_addFactor 49 = .ok (.aload_n 0, 1) := by decide +kernel
theorem dX7_addFactor_50 : decode cX7_addFactor 50 = .ok (.getfield 29, 3) := by decide +kernel
theorem dX7_addFactor_53 : decode cX7_addFactor 53 = .ok (.iload_n 2, 1) := by decide +kernel
theorem dX7_addFactor_54 : decode cX7_addFactor 54 = .ok (.iastore, 1) := by decide +kernel
theorem dX7_addFactor_55 : decode cX7_addFactor 55 = .ok (.aload_n 0, 1) := by decide +kernel
theorem dX7_addFactor_56 : decode cX7_addFactor 56 = .ok (.dup, 1) := by decide +kernel
theorem dX7_addFactor_57 : decode cX7_addFactor 57 = .ok (.getfield 29, 3) := by decide +kernel
theorem dX7_addFactor_60 : decode cX7_addFactor 60 = .ok (.iconst 1, 1) := by decide +kernel
theorem dX7_addFactor_61 : decode cX7_addFactor 61 = .ok (.iadd, 1) := by decide +kernel
theorem dX7_addFactor_62 : decode cX7_addFactor 62 = .ok (.putfield 29, 3) := by decide +kernel
theorem dX7_addFactor_65 : decode cX7_addFactor 65 = .ok (.aload_n 0, 1) := by decide +kernel
theorem dX7_addFactor_66 : decode cX7_addFactor 66 = .ok (.dup, 1) := by decide +kernel
theorem dX7_addFactor_67 : decode cX7_addFactor 67 = .ok (.getfield 18, 3) := by decide +kernel
theorem dX7_addFactor_70 : decode cX7_addFactor 70 = .ok (.iload_n 3, 1) := by decide +kernel
theorem dX7_addFactor_71 : decode cX7_addFactor 71 = .ok (.imul, 1) := by decide +kernel
theorem dX7_addFactor_72 : decode cX7_addFactor 72 = .ok (.putfield 18, 3) := by decide +kernel
theorem dX7_addFactor_75 : decode cX7_addFactor 75 = .ok (.aload_n 0, 1) := by decide +kernel
theorem dX7_addFactor_76 : decode cX7_addFactor 76 = .ok (.invokevirtual 38, 3) := by decide +kernel
theorem dX7_addFactor_79 : decode cX7_addFactor 79 = .ok (.aload_n 0, 1) := by decide +kernel
theorem dX7_addFactor_80 : decode cX7_addFactor 80 = .ok (.getfield 25, 3) := by decide +kernel
theorem dX7_addFactor_83 : decode cX7_addFactor 83 = .ok (.aload_n 0, 1) := by decide +kernel
theorem dX7_addFactor_84 : decode cX7_addFactor 84 = .ok (.getfield 35, 3) := by decide +kernel
theorem dX7_addFactor_87 : decode cX7_addFactor 87 = .ok (.invokevirtual 79, 3) := by decide +kernel
theorem dX7_addFactor_90 : decode cX7_addFactor 90 = .ok (.bipush 59, 2) := by decide +kernel
theorem dX7_addFactor_92 : decode cX7_addFactor 92 = .ok (.if_icmp .ne 16, 3) := by decide +kernel
theorem dX7_addFactor_95 : decode cX7_addFactor 95 = .ok (.aload_n 0, 1) := by decide +kernel
theorem dX7_addFactor_96 : decode cX7_addFactor 96 = .ok (.dup, 1) := by decide +kernel
theorem dX7_addFactor_97 : decode cX7_addFactor 97 = .ok (.getfield 35, 3) := by decide +kernel
theorem dX7_addFactor_100 : decode cX7_addFactor 100 = .ok (.iconst 1, 1) := by decide +kernel
theorem dX7_addFactor_101 : decode cX7_addFactor 101 = .ok (.iadd, 1) := by decide +kernel
theorem dX7_addFactor_102 : decode cX7_addFactor 102 = .ok (.putfield 35, 3) := by decide +kernel
theorem dX7_addFactor_105 : decode cX7_addFactor 105 = .ok (.goto 11, 3) := by decide +kernel
theorem dX7_addFactor_108 : decode cX7_addFactor 108 = .ok (.aload_n 0, 1) := by decide +kernel
theorem dX7_addFactor_109 : decode cX7_addFactor 109 = .ok (.aload_n 0, 1) := by decide +kernel
theorem dX7_addFactor_110 : decode cX7_addFactor 110 = .ok (.getfield 35, 3) := by decide +kernel
theorem dX7_addFactor_113 : decode cX7_addFactor 113 = .ok (.putfield 22, 3) := by decide +kernel
theorem dX7_addFactor_116 : decode cX7_addFactor 116 = .ok (.return_, 1) := by decide +kernel
def f_X7_addFactor (l1 : Int32) (l2 : Int32) (l3 : Int32) (l4 : Int32) (w : Wd) : Option Wd :=
  if (w.1 3 8) = (-1) then
    if 16 < ((w.1 3 4) * l3) then
      letW (sI w 3 8 l4) fun w1 =>
      some w1
    else
      if (w.1 3 3) < 4 then
        wrI w 4 4 (w.1 3 3) l1 fun w2 =>
        wrI w2 5 4 (w2.1 3 3) l2 fun w3 =>
        letW (sI w3 3 3 ((w3.1 3 3) + 1)) fun w4 =>
        letW (sI w4 3 4 ((w4.1 3 4) * l3)) fun w5 =>
        bnd (f_X7_skipBlanks  w5) fun w6 =>
        bnd (f_X9_byteAt (w6.1 3 6) w6) fun x7 =>
        if x7 = 59 then
          letW (sI w6 3 6 ((w6.1 3 6) + 1)) fun w9 =>
          some w9
        else
          letW (sI w6 3 8 (w6.1 3 6)) fun w8 =>
          some w8
      else
        letW (sI w 3 8 l4) fun w10 =>
        some w10
  else
    some w
set_option maxHeartbeats 4000000 in
set_option maxRecDepth 100000 in
theorem ok_X7_addFactor {G : GT} {d : Nat} (hd : 2 ≤ d) {w : Wd} (l1 : Int32) (l2 : Int32) (l3 : Int32) (l4 : Int32) {w' : Wd} (h : f_X7_addFactor l1 l2 l3 l4 w = some w') : uC G yX7_addFactor mX7_addFactor d [.ref 3, .int l1, .int l2, .int l3, .int l4] w none w' := by
  obtain ⟨d, rfl⟩ : ∃ e, d = e + 1 := ⟨d - 1, by omega⟩
  unfold f_X7_addFactor at h
  refine uC_of (lv := [some (.ref 3), some (.int l1), some (.int l2), some (.int l3), some (.int l4)]) 0 pn_X7 ⟨rfl, rfl⟩ (Nat.le_of_ble_eq_true rfl) rfl ?_
  refine V.aload_n (pc := 0) dX7_addFactor_0 rfl ?_
  refine V.getI (pc := 1) dX7_addFactor_1 f_RX7_22 k_cl7 lx_3 ly_3 rb_7_8 ?_
  refine V.iconst (pc := 4) dX7_addFactor_4 ic_m1 ?_
  rcases ite_e h with ⟨c, h⟩ | ⟨c, h⟩
  · refine V.icmp_eq_t (t := 9) (pc := 5) dX7_addFactor_5 (by decide) c ?_
    refine V.aload_n (pc := 9) dX7_addFactor_9 rfl ?_
    refine V.getI (pc := 10) dX7_addFactor_10 f_RX7_18 k_cl7 lx_3 ly_3 rb_7_4 ?_
    refine V.iload_n (pc := 13) dX7_addFactor_13 rfl ?_
    refine V.imul (pc := 14) dX7_addFactor_14 ?_
    refine V.bipush (pc := 15) dX7_addFactor_15 bp_16 ?_
    rcases ite_e h with ⟨c, h⟩ | ⟨c, h⟩
    · refine V.icmp_gt_t (t := 28) (pc := 17) dX7_addFactor_17 (by decide) c ?_
      refine V.aload_n (pc := 28) dX7_addFactor_28 rfl ?_
      refine V.iload (pc := 29) dX7_addFactor_29 rfl ?_
      obtain ⟨w1, ew1, h⟩ := letW_e h
      refine V.putIX (pc := 31) dX7_addFactor_31 f_RX7_22 k_cl7 lx_3 ly_3 rb_7_8 (fin_I (T0 := TX7) rfl rfl rfl) ew1 ?_
      obtain rfl := Option.some.inj h
      exact V.vret (pc := 34) dX7_addFactor_34 rfl (Nat.le_refl _) (Nat.le_refl _)
    · refine V.icmp_gt_f (t := 28) (pc := 17) dX7_addFactor_17 (by decide) c ?_
      refine V.aload_n (pc := 20) dX7_addFactor_20 rfl ?_
      refine V.getI (pc := 21) dX7_addFactor_21 f_RX7_29 k_cl7 lx_3 ly_3 rb_7_3 ?_
      refine V.iconst (pc := 24) dX7_addFactor_24 ic_4 ?_
      rcases ite_e h with ⟨c, h⟩ | ⟨c, h⟩
      · refine V.icmp_lt_t (t := 35) (pc := 25) dX7_addFactor_25 (by decide) c ?_
        refine V.aload_n (pc := 35) dX7_addFactor_35 rfl ?_
        refine V.getR (t := 4) (pc := 36) dX7_addFactor_36 f_RX7_9 k_cl7 lx_3 ly_3 rb_7_1 rr_3_1 ?_
        refine V.aload_n (pc := 39) dX7_addFactor_39 rfl ?_
        refine V.getI (pc := 40) dX7_addFactor_40 f_RX7_29 k_cl7 lx_3 ly_3 rb_7_3 ?_
        refine V.iload_n (pc := 43) dX7_addFactor_43 rfl ?_
        obtain ⟨w2, iw2, ew2, h⟩ := wrI_e h
        refine V.iastX (pc := 44) dX7_addFactor_44 lx_4 ly_4 iw2 ew2 ?_
        refine V.aload_n (pc := 45) dX7_addFactor_45 rfl ?_
        refine V.getR (t := 5) (pc := 46) dX7_addFactor_46 f_RX7_15 k_cl7 lx_3 ly_3 rb_7_2 rr_3_2 ?_
        refine V.aload_n (pc := 49) dX7_addFactor_49 rfl ?_
        refine V.getI (pc := 50) dX7_addFactor_50 f_RX7_29 k_cl7 lx_3 ly_3 rb_7_3 ?_
        refine V.iload_n (pc := 53) dX7_addFactor_53 rfl ?_
        obtain ⟨w3, iw3, ew3, h⟩ := wrI_e h
        refine V.iastX (pc := 54) dX7_addFactor_54 lx_5 ly_5 iw3 ew3 ?_
        refine V.aload_n (pc := 55) dX7_addFactor_55 rfl ?_
        refine V.dup (pc := 56) dX7_addFactor_56 rfl ?_
        refine V.getI (pc := 57) dX7_addFactor_57 f_RX7_29 k_cl7 lx_3 ly_3 rb_7_3 ?_
        refine V.iconst (pc := 60) dX7_addFactor_60 ic_1 ?_
        refine V.iadd (pc := 61) dX7_addFactor_61 ?_
        obtain ⟨w4, ew4, h⟩ := letW_e h
        refine V.putIX (pc := 62) dX7_addFactor_62 f_RX7_29 k_cl7 lx_3 ly_3 rb_7_3 (fin_I (T0 := TX7) rfl rfl rfl) ew4 ?_
        refine V.aload_n (pc := 65) dX7_addFactor_65 rfl ?_
        refine V.dup (pc := 66) dX7_addFactor_66 rfl ?_
        refine V.getI (pc := 67) dX7_addFactor_67 f_RX7_18 k_cl7 lx_3 ly_3 rb_7_4 ?_
        refine V.iload_n (pc := 70) dX7_addFactor_70 rfl ?_
        refine V.imul (pc := 71) dX7_addFactor_71 ?_
        obtain ⟨w5, ew5, h⟩ := letW_e h
        refine V.putIX (pc := 72) dX7_addFactor_72 f_RX7_18 k_cl7 lx_3 ly_3 rb_7_4 (fin_I (T0 := TX7) rfl rfl rfl) ew5 ?_
        refine V.aload_n (pc := 75) dX7_addFactor_75 rfl ?_
        obtain ⟨w6, ew6, h⟩ := bnd_e h
        refine U.callV (pc := 76) (As := []) (st := []) dX7_addFactor_76 l_RX7_38 (ok_X7_skipBlanks (by omega)  ew6) lx_3 ly_3 cn_7 (Nat.le_of_ble_eq_true rfl) rfl rfl (Nat.le_of_ble_eq_true rfl) ?_
        refine V.aload_n (pc := 79) dX7_addFactor_79 rfl ?_
        refine V.getR (t := 1) (pc := 80) dX7_addFactor_80 f_RX7_25 k_cl7 lx_3 ly_3 rb_7_0 rr_3_0 ?_
        refine V.aload_n (pc := 83) dX7_addFactor_83 rfl ?_
        refine V.getI (pc := 84) dX7_addFactor_84 f_RX7_35 k_cl7 lx_3 ly_3 rb_7_6 ?_
        obtain ⟨x7, ex7, h⟩ := bnd_e h
        refine U.callV (pc := 87) (As := [.int (w6.1 3 6)]) (st := []) dX7_addFactor_87 l_RX7_79 (ok_X9_byteAt (by omega) (w6.1 3 6) ex7) lx_1 ly_1 cn_9 (Nat.le_of_ble_eq_true rfl) rfl rfl (Nat.le_of_ble_eq_true rfl) ?_
        refine V.bipush (pc := 90) dX7_addFactor_90 bp_59 ?_
        rcases ite_e h with ⟨c, h⟩ | ⟨c, h⟩
        · refine V.icmp_ne_f (t := 108) (pc := 92) dX7_addFactor_92 (by decide) c ?_
          refine V.aload_n (pc := 95) dX7_addFactor_95 rfl ?_
          refine V.dup (pc := 96) dX7_addFactor_96 rfl ?_
          refine V.getI (pc := 97) dX7_addFactor_97 f_RX7_35 k_cl7 lx_3 ly_3 rb_7_6 ?_
          refine V.iconst (pc := 100) dX7_addFactor_100 ic_1 ?_
          refine V.iadd (pc := 101) dX7_addFactor_101 ?_
          obtain ⟨w9, ew9, h⟩ := letW_e h
          refine V.putIX (pc := 102) dX7_addFactor_102 f_RX7_35 k_cl7 lx_3 ly_3 rb_7_6 (fin_I (T0 := TX7) rfl rfl rfl) ew9 ?_
          refine V.goto (t := 116) (pc := 105) dX7_addFactor_105 (by decide) ?_
          obtain rfl := Option.some.inj h
          exact V.vret (pc := 116) dX7_addFactor_116 rfl (Nat.le_refl _) (Nat.le_refl _)
        · refine V.icmp_ne_t (t := 108) (pc := 92) dX7_addFactor_92 (by decide) c ?_
          refine V.aload_n (pc := 108) dX7_addFactor_108 rfl ?_
          refine V.aload_n (pc := 109) dX7_addFactor_109 rfl ?_
          refine V.getI (pc := 110) dX7_addFactor_110 f_RX7_35 k_cl7 lx_3 ly_3 rb_7_6 ?_
          obtain ⟨w8, ew8, h⟩ := letW_e h
          refine V.putIX (pc := 113) dX7_addFactor_113 f_RX7_22 k_cl7 lx_3 ly_3 rb_7_8 (fin_I (T0 := TX7) rfl rfl rfl) ew8 ?_
          obtain rfl := Option.some.inj h
          exact V.vret (pc := 116) dX7_addFactor_116 rfl (Nat.le_refl _) (Nat.le_refl _)
      · refine V.icmp_lt_f (t := 35) (pc := 25) dX7_addFactor_25 (by decide) c ?_
        refine V.aload_n (pc := 28) dX7_addFactor_28 rfl ?_
        refine V.iload (pc := 29) dX7_addFactor_29 rfl ?_
        obtain ⟨w10, ew10, h⟩ := letW_e h
        refine V.putIX (pc := 31) dX7_addFactor_31 f_RX7_22 k_cl7 lx_3 ly_3 rb_7_8 (fin_I (T0 := TX7) rfl rfl rfl) ew10 ?_
        obtain rfl := Option.some.inj h
        exact V.vret (pc := 34) dX7_addFactor_34 rfl (Nat.le_refl _) (Nat.le_refl _)
  · refine V.icmp_eq_f (t := 9) (pc := 5) dX7_addFactor_5 (by decide) c ?_
    obtain rfl := Option.some.inj h
    exact V.vret (pc := 8) dX7_addFactor_8 rfl (Nat.le_refl _) (Nat.le_refl _)
theorem dX7_readPart_0 : decode cX7_readPart 0 = .ok (.aload_n 0, 1) := by decide +kernel
theorem dX7_readPart_1 : decode cX7_readPart 1 = .ok (.getfield 35, 3) := by decide +kernel
theorem dX7_readPart_4 : decode cX7_readPart 4 = .ok (.istore_n 1, 1) := by decide +kernel
theorem dX7_readPart_5 : decode cX7_readPart 5 = .ok (.aload_n 0, 1) := by decide +kernel
theorem dX7_readPart_6 : decode cX7_readPart 6 = .ok (.bipush 97, 2) := by decide +kernel
theorem dX7_readPart_8 : decode cX7_readPart 8 = .ok (.bipush 122, 2) := by decide +kernel
theorem dX7_readPart_10 : decode cX7_readPart 10 = .ok (.invokevirtual 50, 3) := by decide +kernel
theorem dX7_readPart_13 : decode cX7_readPart 13 = .ok (.aload_n 0, 1) := by decide +kernel
theorem dX7_readPart_14 : decode cX7_readPart 14 = .ok (.iload_n 1, 1) := by decide +kernel
theorem dX7_readPart_15 : decode cX7_readPart 15 = .ok (.ldc 54, 2) := by decide +kernel
theorem dX7_readPart_17 : decode cX7_readPart 17 = .ok (.invokevirtual 56, 3) := by decide +kernel
theorem dX7_readPart_20 : decode cX7_readPart 20 = .ok (.ifCond .eq 25, 3) := by decide +kernel
theorem dX7_readPart_23 : decode cX7_readPart 23 = .ok (.aload_n 0, 1) := by decide +kernel
theorem dX7_readPart_24 : decode cX7_readPart 24 = .ok (.iconst 2, 1) := by decide +kernel
theorem dX7_readPart_25 : decode cX7_readPart 25 = .ok (.bipush 16, 2) := by decide +kernel
theorem dX7_readPart_27 : decode cX7_readPart 27 = .ok (.invokevirtual 60, 3) := by decide +kernel
theorem dX7_readPart_30 : decode cX7_readPart 30 = .ok (.istore_n 2, 1) := by decide +kernel
theorem dX7_readPart_31 : decode cX7_readPart 31 = .ok (.aload_n 0, 1) := by decide +kernel
theorem dX7_readPart_32 : decode cX7_readPart 32 = .ok (.iconst 0, 1) := by decide +kernel
theorem dX7_readPart_33 : decode cX7_readPart 33 = .ok (.iload_n 2, 1) := by decide +kernel
theorem dX7_readPart_34 : decode cX7_readPart 34 = .ok (.iload_n 2, 1) := by decide +kernel
theorem dX7_readPart_35 : decode cX7_readPart 35 = .ok (.aload_n 0, 1) := by decide +kernel
theorem dX7_readPart_36 : decode cX7_readPart 36 = .ok (.getfield 64, 3) := by decide +kernel
theorem dX7_readPart_39 : decode cX7_readPart 39 = .ok (.invokevirtual 67, 3) := by decide +kernel
theorem dX7_readPart_42 : decode cX7_readPart 42 = .ok (.goto 80, 3) := by decide +kernel
theorem dX7_readPart_45 : decode cX7_readPart 45 = .ok (.aload_n 0, 1) := by decide +kernel
theorem dX7_readPart_46 : decode cX7_readPart 46 = .ok (.iload_n 1, 1) := by decide +kernel
theorem dX7_readPart_47 : decode cX7_readPart 47 = .ok (.ldc 71, 2) := by decide +kernel
theorem dX7_readPart_49 : decode cX7_readPart 49 = .ok (.invokevirtual 56, 3) := by decide +kernel
theorem dX7_readPart_52 : decode cX7_readPart 52 = .ok (.ifCond .eq 27, 3) := by decide +kernel
theorem dX7_readPart_55 : decode cX7_readPart 55 = .ok (.aload_n 0, 1) := by decide +kernel
theorem dX7_readPart_56 : decode cX7_readPart 56 = .ok (.iconst 1, 1) := by decide +kernel
theorem dX7_readPart_57 : decode cX7_readPart 57 = .ok (.bipush 8, 2) := by decide +kernel
theorem dX7_readPart_59 : decode cX7_readPart 59 = .ok (.invokevirtual 60, 3) := by decide +kernel
theorem dX7_readPart_62 : decode cX7_readPart 62 = .ok (.istore_n 2, 1) := by decide +kernel
theorem dX7_readPart_63 : decode cX7_readPart 63 = .ok (.aload_n 0, 1) := by decide +kernel
theorem dX7_readPart_64 : decode cX7_readPart 64 = .ok (.iconst 1, 1) := by decide +kernel
theorem dX7_readPart_65 : decode cX7_readPart 65 = .ok (.iload_n 2, 1) := by decide +kernel
theorem dX7_readPart_66 : decode cX7_readPart 66 = .ok (.iconst 2, 1) := by decide +kernel
theorem dX7_readPart_67 : decode cX7_readPart 67 = .ok (.iload_n 2, 1) := by decide +kernel
theorem dX7_readPart_68 : decode cX7_readPart 68 = .ok (.imul, 1) := by decide +kernel
theorem dX7_readPart_69 : decode cX7_readPart 69 = .ok (.aload_n 0, 1) := by decide +kernel
theorem dX7_readPart_70 : decode cX7_readPart 70 = .ok (.getfield 64, 3) := by decide +kernel
theorem dX7_readPart_73 : decode cX7_readPart 73 = .ok (.invokevirtual 67, 3) := by decide +kernel
theorem dX7_readPart_76 : decode cX7_readPart 76 = .ok (.goto 46, 3) := by decide +kernel
theorem dX7_readPart_79 : decode cX7_readPart 79 = .ok (.aload_n 0, 1) := by decide +kernel
theorem dX7_readPart_80 : decode cX7_readPart 80 = .ok (.iload_n 1, 1) := by decide +kernel
theorem dX7_readPart_81 : decode cX7_readPart 81 = .ok (.ldc 73, 2) := by decide +kernel
theorem dX7_readPart_83 : decode cX7_readPart 83 = .ok (.invokevirtual 56, 3) := by decide +kernel
theorem dX7_readPart_86 : decode cX7_readPart 86 = .ok (.ifCond .eq 15, 3) := by decide +kernel
theorem dX7_readPart_89 : decode cX7_readPart 89 = .ok (.aload_n 0, 1) := by decide +kernel
theorem dX7_readPart_90 : decode cX7_readPart 90 = .ok (.iconst 2, 1) := by decide +kernel
theorem dX7_readPart_91 : decode cX7_readPart 91 = .ok (.iconst 0, 1) := by decide +kernel
theorem dX7_readPart_92 : decode cX7_readPart 92 = .ok (.bipush 8, 2) := by decide +kernel
theorem dX7_readPart_94 : decode cX7_readPart 94 = .ok (.iload_n 1, 1) := by decide +kernel
theorem dX7_readPart_95 : decode cX7_readPart 95 = .ok (.invokevirtual 67, 3) := by decide +kernel
theorem dX7_readPart_98 : decode cX7_readPart 98 = .ok (.goto 24, 3) := by decide +kernel
theorem dX7_readPart_101 : decode cX7_readPart 101 = .ok (.aload_n 0, 1) := by decide +kernel
theorem dX7_readPart_102 : decode cX7_readPart 102 = .ok (.iload_n 1, 1) := by decide +kernel
theorem dX7_readPart_103 : decode cX7_readPart 103 = .ok (.ldc 75, 2) := by decide +kernel
theorem dX7_readPart_105 : decode cX7_readPart 105 = .ok (.invokevirtual 56, 3) := by decide +kernel
theorem dX7_readPart_108 : decode cX7_readPart 108 = .ok (.ifCond .eq 9, 3) := by decide +kernel
theorem dX7_readPart_111 : decode cX7_readPart 111 = .ok (.aload_n 0, 1) := by decide +kernel
theorem dX7_readPart_112 : decode cX7_readPart 112 = .ok (.invokevirtual 76, 3) := by decide +kernel
theorem dX7_readPart_115 : decode cX7_readPart 115 = .ok (.iconst 1, 1) := by decide +kernel
theorem dX7_readPart_116 : decode cX7_readPart 116 = .ok (.ireturn, 1) := by decide +kernel
theorem dX7_readPart_117 : decode cX7_readPart 117 = .ok (.aload_n 0, 1) := by decide +kernel
theorem dX7_readPart_118 : decode cX7_readPart 118 = .ok (.iload_n 1, 1) := by decide +kernel
theorem dX7_readPart_119 : decode cX7_readPart 119 = .ok (.putfield 22, 3) := by decide +kernel
theorem dX7_readPart_122 : decode cX7_readPart 122 = .ok (.iconst 0, 1) := by decide +kernel
theorem dX7_readPart_123 : decode cX7_readPart 123 = .ok (.ireturn, 1) := by decide +kernel
def f_X7_readPart (w : Wd) : Option (Int32 × Wd) :=
  bnd (f_X7_skipAll 97 122 w) fun w1 =>
  bnd (f_X7_isWord_1000 (w.1 3 6) w1) fun x2 =>
  if x2 = 0 then
    bnd (f_X7_isWord_1001 (w.1 3 6) w1) fun x3 =>
    if x3 = 0 then
      bnd (f_X7_isWord_1002 (w.1 3 6) w1) fun x4 =>
      if x4 = 0 then
        bnd (f_X7_isWord_1003 (w.1 3 6) w1) fun x5 =>
        if x5 = 0 then
          letW (sI w1 3 8 (w.1 3 6)) fun w6 =>
          some (0, w6)
        else
          bnd (f_X7_readSet  w1) fun w7 =>
          some (1, w7)
      else
        bnd (f_X7_addFactor 2 0 8 (w.1 3 6) w1) fun w8 =>
        some (0, w8)
    else
      bnd2 (f_X7_readNumber 1 8 w1) fun x9 w10 =>
      bnd (f_X7_addFactor 1 x9 (2 * x9) (w10.1 3 7) w10) fun w11 =>
      some (0, w11)
  else
    bnd2 (f_X7_readNumber 2 16 w1) fun x12 w13 =>
    bnd (f_X7_addFactor 0 x12 x12 (w13.1 3 7) w13) fun w14 =>
    some (0, w14)
set_option maxHeartbeats 4000000 in
set_option maxRecDepth 100000 in
theorem ok_X7_readPart {G : GT} {d : Nat} (hd : 7 ≤ d) {w : Wd}  {r : Int32} {w' : Wd} (h : f_X7_readPart  w = some (r, w')) : uC G yX7_readPart mX7_readPart d [.ref 3] w (some (.int r)) w' := by
  obtain ⟨d, rfl⟩ : ∃ e, d = e + 1 := ⟨d - 1, by omega⟩
  unfold f_X7_readPart at h
  refine uC_of (lv := [some (.ref 3), none, none]) 2 pn_X7 ⟨rfl, rfl⟩ (Nat.le_of_ble_eq_true rfl) rfl ?_
  refine V.aload_n (pc := 0) dX7_readPart_0 rfl ?_
  refine V.getI (pc := 1) dX7_readPart_1 f_RX7_35 k_cl7 lx_3 ly_3 rb_7_6 ?_
  refine V.istore_n (lv' := [some (.ref 3), some (.int (w.1 3 6)), none]) (pc := 4) dX7_readPart_4 (Nat.le_of_ble_eq_true rfl) rfl rfl ?_
  refine V.aload_n (pc := 5) dX7_readPart_5 rfl ?_
  refine V.bipush (pc := 6) dX7_readPart_6 bp_97 ?_
  refine V.bipush (pc := 8) dX7_readPart_8 bp_122 ?_
  obtain ⟨w1, ew1, h⟩ := bnd_e h
  refine U.callV (pc := 10) (As := [.int 97, .int 122]) (st := []) dX7_readPart_10 l_RX7_50 (ok_X7_skipAll (by omega) 97 122 ew1) lx_3 ly_3 cn_7 (Nat.le_of_ble_eq_true rfl) rfl rfl (Nat.le_of_ble_eq_true rfl) ?_
  refine V.aload_n (pc := 13) dX7_readPart_13 rfl ?_
  refine V.iload_n (pc := 14) dX7_readPart_14 rfl ?_
  refine V.ldcS (j := 0) (pc := 15) dX7_readPart_15 (List.mem_of_getElem? (i := 0) rfl) ?_
  obtain ⟨x2, ex2, h⟩ := bnd_e h
  refine U.callV (pc := 17) (As := [.int (w.1 3 6), .ref 1000]) (st := []) dX7_readPart_17 l_RX7_56 (ok_X7_isWord_1000 (by omega) (w.1 3 6) ex2) lx_3 ly_3 cn_7 (Nat.le_of_ble_eq_true rfl) rfl rfl (Nat.le_of_ble_eq_true rfl) ?_
  rcases ite_e h with ⟨c, h⟩ | ⟨c, h⟩
  · refine V.if_eq_t (t := 45) (pc := 20) dX7_readPart_20 (by decide) c ?_
    refine V.aload_n (pc := 45) dX7_readPart_45 rfl ?_
    refine V.iload_n (pc := 46) dX7_readPart_46 rfl ?_
    refine V.ldcS (j := 1) (pc := 47) dX7_readPart_47 (List.mem_of_getElem? (i := 1) rfl) ?_
    obtain ⟨x3, ex3, h⟩ := bnd_e h
    refine U.callV (pc := 49) (As := [.int (w.1 3 6), .ref 1001]) (st := []) dX7_readPart_49 l_RX7_56 (ok_X7_isWord_1001 (by omega) (w.1 3 6) ex3) lx_3 ly_3 cn_7 (Nat.le_of_ble_eq_true rfl) rfl rfl (Nat.le_of_ble_eq_true rfl) ?_
    rcases ite_e h with ⟨c, h⟩ | ⟨c, h⟩
    · refine V.if_eq_t (t := 79) (pc := 52) dX7_readPart_52 (by decide) c ?_
      refine V.aload_n (pc := 79) dX7_readPart_79 rfl ?_
      refine V.iload_n (pc := 80) dX7_readPart_80 rfl ?_
      refine V.ldcS (j := 2) (pc := 81) dX7_readPart_81 (List.mem_of_getElem? (i := 2) rfl) ?_
      obtain ⟨x4, ex4, h⟩ := bnd_e h
      refine U.callV (pc := 83) (As := [.int (w.1 3 6), .ref 1002]) (st := []) dX7_readPart_83 l_RX7_56 (ok_X7_isWord_1002 (by omega) (w.1 3 6) ex4) lx_3 ly_3 cn_7 (Nat.le_of_ble_eq_true rfl) rfl rfl (Nat.le_of_ble_eq_true rfl) ?_
      rcases ite_e h with ⟨c, h⟩ | ⟨c, h⟩
      · refine V.if_eq_t (t := 101) (pc := 86) dX7_readPart_86 (by decide) c ?_
        refine V.aload_n (pc := 101) dX7_readPart_101 rfl ?_
        refine V.iload_n (pc := 102) dX7_readPart_102 rfl ?_
        refine V.ldcS (j := 3) (pc := 103) dX7_readPart_103 (List.mem_of_getElem? (i := 3) rfl) ?_
        obtain ⟨x5, ex5, h⟩ := bnd_e h
        refine U.callV (pc := 105) (As := [.int (w.1 3 6), .ref 1003]) (st := []) dX7_readPart_105 l_RX7_56 (ok_X7_isWord_1003 (by omega) (w.1 3 6) ex5) lx_3 ly_3 cn_7 (Nat.le_of_ble_eq_true rfl) rfl rfl (Nat.le_of_ble_eq_true rfl) ?_
        rcases ite_e h with ⟨c, h⟩ | ⟨c, h⟩
        · refine V.if_eq_t (t := 117) (pc := 108) dX7_readPart_108 (by decide) c ?_
          refine V.aload_n (pc := 117) dX7_readPart_117 rfl ?_
          refine V.iload_n (pc := 118) dX7_readPart_118 rfl ?_
          obtain ⟨w6, ew6, h⟩ := letW_e h
          refine V.putIX (pc := 119) dX7_readPart_119 f_RX7_22 k_cl7 lx_3 ly_3 rb_7_8 (fin_I (T0 := TX7) rfl rfl rfl) ew6 ?_
          refine V.iconst (pc := 122) dX7_readPart_122 ic_0 ?_
          obtain ⟨rfl, rfl⟩ := Prod.mk.inj (Option.some.inj h)
          exact V.zret (pc := 123) dX7_readPart_123 rfl (Or.inl rfl) (Nat.le_refl _) (Nat.le_refl _)
        · refine V.if_eq_f (t := 117) (pc := 108) dX7_readPart_108 (by decide) c ?_
          refine V.aload_n (pc := 111) dX7_readPart_111 rfl ?_
          obtain ⟨w7, ew7, h⟩ := bnd_e h
          refine U.callV (pc := 112) (As := []) (st := []) dX7_readPart_112 l_RX7_76 (ok_X7_readSet (by omega)  ew7) lx_3 ly_3 cn_7 (Nat.le_of_ble_eq_true rfl) rfl rfl (Nat.le_of_ble_eq_true rfl) ?_
          refine V.iconst (pc := 115) dX7_readPart_115 ic_1 ?_
          obtain ⟨rfl, rfl⟩ := Prod.mk.inj (Option.some.inj h)
          exact V.zret (pc := 116) dX7_readPart_116 rfl (Or.inr rfl) (Nat.le_refl _) (Nat.le_refl _)
      · refine V.if_eq_f (t := 101) (pc := 86) dX7_readPart_86 (by decide) c ?_
        refine V.aload_n (pc := 89) dX7_readPart_89 rfl ?_
        refine V.iconst (pc := 90) dX7_readPart_90 ic_2 ?_
        refine V.iconst (pc := 91) dX7_readPart_91 ic_0 ?_
        refine V.bipush (pc := 92) dX7_readPart_92 bp_8 ?_
        refine V.iload_n (pc := 94) dX7_readPart_94 rfl ?_
        obtain ⟨w8, ew8, h⟩ := bnd_e h
        refine U.callV (pc := 95) (As := [.int 2, .int 0, .int 8, .int (w.1 3 6)]) (st := []) dX7_readPart_95 l_RX7_67 (ok_X7_addFactor (by omega) 2 0 8 (w.1 3 6) ew8) lx_3 ly_3 cn_7 (Nat.le_of_ble_eq_true rfl) rfl rfl (Nat.le_of_ble_eq_true rfl) ?_
        refine V.goto (t := 122) (pc := 98) dX7_readPart_98 (by decide) ?_
        refine V.iconst (pc := 122) dX7_readPart_122 ic_0 ?_
        obtain ⟨rfl, rfl⟩ := Prod.mk.inj (Option.some.inj h)
        exact V.zret (pc := 123) dX7_readPart_123 rfl (Or.inl rfl) (Nat.le_refl _) (Nat.le_refl _)
    · refine V.if_eq_f (t := 79) (pc := 52) dX7_readPart_52 (by decide) c ?_
      refine V.aload_n (pc := 55) dX7_readPart_55 rfl ?_
      refine V.iconst (pc := 56) dX7_readPart_56 ic_1 ?_
      refine V.bipush (pc := 57) dX7_readPart_57 bp_8 ?_
      obtain ⟨x9, w10, ew10, h⟩ := bnd2_e h
      refine U.callV (pc := 59) (As := [.int 1, .int 8]) (st := []) dX7_readPart_59 l_RX7_60 (ok_X7_readNumber (by omega) 1 8 ew10) lx_3 ly_3 cn_7 (Nat.le_of_ble_eq_true rfl) rfl rfl (Nat.le_of_ble_eq_true rfl) ?_
      refine V.istore_n (lv' := [some (.ref 3), some (.int (w.1 3 6)), some (.int x9)]) (pc := 62) dX7_readPart_62 (Nat.le_of_ble_eq_true rfl) rfl rfl ?_
      refine V.aload_n (pc := 63) dX7_readPart_63 rfl ?_
      refine V.iconst (pc := 64) dX7_readPart_64 ic_1 ?_
      refine V.iload_n (pc := 65) dX7_readPart_65 rfl ?_
      refine V.iconst (pc := 66) dX7_readPart_66 ic_2 ?_
      refine V.iload_n (pc := 67) dX7_readPart_67 rfl ?_
      refine V.imul (pc := 68) dX7_readPart_68 ?_
      refine V.aload_n (pc := 69) dX7_readPart_69 rfl ?_
      refine V.getI (pc := 70) dX7_readPart_70 f_RX7_64 k_cl7 lx_3 ly_3 rb_7_7 ?_
      obtain ⟨w11, ew11, h⟩ := bnd_e h
      refine U.callV (pc := 73) (As := [.int 1, .int x9, .int (2 * x9), .int (w10.1 3 7)]) (st := []) dX7_readPart_73 l_RX7_67 (ok_X7_addFactor (by omega) 1 x9 (2 * x9) (w10.1 3 7) ew11) lx_3 ly_3 cn_7 (Nat.le_of_ble_eq_true rfl) rfl rfl (Nat.le_of_ble_eq_true rfl) ?_
      refine V.goto (t := 122) (pc := 76) dX7_readPart_76 (by decide) ?_
      refine V.iconst (pc := 122) dX7_readPart_122 ic_0 ?_
      obtain ⟨rfl, rfl⟩ := Prod.mk.inj (Option.some.inj h)
      exact V.zret (pc := 123) dX7_readPart_123 rfl (Or.inl rfl) (Nat.le_refl _) (Nat.le_refl _)
  · refine V.if_eq_f (t := 45) (pc := 20) dX7_readPart_20 (by decide) c ?_
    refine V.aload_n (pc := 23) dX7_readPart_23 rfl ?_
    refine V.iconst (pc := 24) dX7_readPart_24 ic_2 ?_
    refine V.bipush (pc := 25) dX7_readPart_25 bp_16 ?_
    obtain ⟨x12, w13, ew13, h⟩ := bnd2_e h
    refine U.callV (pc := 27) (As := [.int 2, .int 16]) (st := []) dX7_readPart_27 l_RX7_60 (ok_X7_readNumber (by omega) 2 16 ew13) lx_3 ly_3 cn_7 (Nat.le_of_ble_eq_true rfl) rfl rfl (Nat.le_of_ble_eq_true rfl) ?_
    refine V.istore_n (lv' := [some (.ref 3), some (.int (w.1 3 6)), some (.int x12)]) (pc := 30) dX7_readPart_30 (Nat.le_of_ble_eq_true rfl) rfl rfl ?_
    refine V.aload_n (pc := 31) dX7_readPart_31 rfl ?_
    refine V.iconst (pc := 32) dX7_readPart_32 ic_0 ?_
    refine V.iload_n (pc := 33) dX7_readPart_33 rfl ?_
    refine V.iload_n (pc := 34) dX7_readPart_34 rfl ?_
    refine V.aload_n (pc := 35) dX7_readPart_35 rfl ?_
    refine V.getI (pc := 36) dX7_readPart_36 f_RX7_64 k_cl7 lx_3 ly_3 rb_7_7 ?_
    obtain ⟨w14, ew14, h⟩ := bnd_e h
    refine U.callV (pc := 39) (As := [.int 0, .int x12, .int x12, .int (w13.1 3 7)]) (st := []) dX7_readPart_39 l_RX7_67 (ok_X7_addFactor (by omega) 0 x12 x12 (w13.1 3 7) ew14) lx_3 ly_3 cn_7 (Nat.le_of_ble_eq_true rfl) rfl rfl (Nat.le_of_ble_eq_true rfl) ?_
    refine V.goto (t := 122) (pc := 42) dX7_readPart_42 (by decide) ?_
    refine V.iconst (pc := 122) dX7_readPart_122 ic_0 ?_
    obtain ⟨rfl, rfl⟩ := Prod.mk.inj (Option.some.inj h)
    exact V.zret (pc := 123) dX7_readPart_123 rfl (Or.inl rfl) (Nat.le_refl _) (Nat.le_refl _)
theorem dX7_readTape_0 : decode cX7_readTape 0 = .ok (.aload_n 0, 1) := by decide +kernel
theorem dX7_readTape_1 : decode cX7_readTape 1 = .ok (.iconst 0, 1) := by decide +kernel
theorem dX7_readTape_2 : decode cX7_readTape 2 = .ok (.putfield 29, 3) := by decide +kernel
theorem dX7_readTape_5 : decode cX7_readTape 5 = .ok (.aload_n 0, 1) := by decide +kernel
theorem dX7_readTape_6 : decode cX7_readTape 6 = .ok (.iconst 1, 1) := by decide +kernel
theorem dX7_readTape_7 : decode cX7_readTape 7 = .ok (.putfield 18, 3) := by decide +kernel
theorem dX7_readTape_10 : decode cX7_readTape 10 = .ok (.aload_n 0, 1) := by decide +kernel
theorem dX7_readTape_11 : decode cX7_readTape 11 = .ok (.iconst 0, 1) := by decide +kernel
theorem dX7_readTape_12 : decode cX7_readTape 12 = .ok (.putfield 32, 3) := by decide +kernel
theorem dX7_readTape_15 : decode cX7_readTape 15 = .ok (.aload_n 0, 1) := by decide +kernel
theorem dX7_readTape_16 : decode cX7_readTape 16 = .ok (.iconst 0, 1) := by decide +kernel
theorem dX7_readTape_17 : decode cX7_readTape 17 = .ok (.putfield 35, 3) := by decide +kernel
theorem dX7_readTape_20 : decode cX7_readTape 20 = .ok (.aload_n 0, 1) := by decide +kernel
theorem dX7_readTape_21 : decode cX7_readTape 21 = .ok (.iconst (-1), 1) := by decide +kernel
theorem dX7_readTape_22 : decode cX7_readTape 22 = .ok (.putfield 22, 3) := by decide +kernel
theorem dX7_readTape_25 : decode cX7_readTape 25 = .ok (.iconst 0, 1) := by decide +kernel
theorem dX7_readTape_26 : decode cX7_readTape 26 = .ok (.istore_n 1, 1) := by decide +kernel
theorem dX7_readTape_27 : decode cX7_readTape 27 = .ok (.aload_n 0, 1) := by decide +kernel
theorem dX7_readTape_28 : decode cX7_readTape 28 = .ok (.invokevirtual 38, 3) := by decide +kernel
theorem dX7_readTape_31 : decode cX7_readTape 31 = .ok (.iconst 0, 1) := by decide +kernel
theorem dX7_readTape_32 : decode cX7_readTape 32 = .ok (.istore_n 2, 1) := by decide +kernel
theorem dX7_readTape_33 : decode cX7_readTape 33 = .ok (.iload_n 2, 1) := by decide +kernel
theorem dX7_readTape_34 : decode cX7_readTape 34 = .ok (.sipush 200, 3) := by decide +kernel
theorem dX7_readTape_37 : decode cX7_readTape 37 = .ok (.if_icmp .gt 55, 3) := by decide +kernel
theorem dX7_readTape_40 : decode cX7_readTape 40 = .ok (.aload_n 0, 1) := by decide +kernel
theorem dX7_readTape_41 : decode cX7_readTape 41 = .ok (.getfield 35, 3) := by decide +kernel
theorem dX7_readTape_44 : decode cX7_readTape 44 = .ok (.aload_n 0, 1) := by decide +kernel
theorem dX7_readTape_45 : decode cX7_readTape 45 = .ok (.getfield 25, 3) := by decide +kernel
theorem dX7_readTape_48 : decode cX7_readTape 48 = .ok (.getfield 43, 3) := by decide +kernel
theorem dX7_readTape_51 : decode cX7_readTape 51 = .ok (.if_icmp .ge 41, 3) := by decide +kernel
theorem dX7_readTape_54 : decode cX7_readTape 54 = .ok (.aload_n 0, 1) := by decide +kernel
theorem dX7_readTape_55 : decode cX7_readTape 55 = .ok (.getfield 22, 3) := by decide +kernel
theorem dX7_readTape_58 : decode cX7_readTape 58 = .ok (.iconst (-1), 1) := by decide +kernel
theorem dX7_readTape_59 : decode cX7_readTape 59 = .ok (.if_icmp .ne 33, 3) := by decide +kernel
theorem dX7_readTape_62 : decode cX7_readTape 62 = .ok (.iload_n 1, 1) := by decide +kernel
theorem dX7_readTape_63 : decode cX7_readTape 63 = .ok (.ifCond .eq 14, 3) := by decide +kernel
theorem dX7_readTape_66 : decode cX7_readTape 66 = .ok (.aload_n 0, 1) := by decide +kernel
theorem dX7_readTape_67 : decode cX7_readTape 67 = .ok (.aload_n 0, 1) := by decide +kernel
theorem dX7_readTape_68 : decode cX7_readTape 68 = .ok (.getfield 35, 3) := by decide +kernel
theorem dX7_readTape_71 : decode cX7_readTape 71 = .ok (.putfield 22, 3) := by decide +kernel
theorem dX7_readTape_74 : decode cX7_readTape 74 = .ok (.goto 12, 3) := by decide +kernel
theorem dX7_readTape_77 : decode cX7_readTape 77 = .ok (.aload_n 0, 1) := by decide +kernel
theorem dX7_readTape_78 : decode cX7_readTape 78 = .ok (.invokevirtual 46, 3) := by decide +kernel
theorem dX7_readTape_81 : decode cX7_readTape 81 = .ok (.istore_n 1, 1) := by decide +kernel
theorem dX7_readTape_82 : decode cX7_readTape 82 = .ok (.aload_n 0, 1) := by decide +kernel
theorem dX7_readTape_83 : decode cX7_readTape 83 = .ok (.invokevirtual 38, 3) := by decide +kernel
theorem dX7_readTape_86 : decode cX7_readTape 86 = .ok (.iinc 2 1, 3) := by decide +kernel
theorem dX7_readTape_89 : decode cX7_readTape 89 = .ok (.goto (-56), 3) := by decide +kernel
theorem dX7_readTape_92 : decode cX7_readTape 92 = .ok (.aload_n 0, 1) := by decide +kernel
theorem dX7_readTape_93 : decode cX7_readTape 93 = .ok (.getfield 22, 3) := by decide +kernel
theorem dX7_readTape_96 : decode cX7_readTape 96 = .ok (.ireturn, 1) := by decide +kernel
def f_X7_readTape_B33b (k33 : Int32 → Int32 → Wd → Option (Int32 × Wd)) (l1 : Int32) (l2 : Int32) (w : Wd) : Option (Int32 × Wd) :=
  if 200 < l2 then
    some ((w.1 3 8), w)
  else
    if (w.1 1 1) ≤ (w.1 3 6) then
      some ((w.1 3 8), w)
    else
      if (w.1 3 8) = (-1) then
        if l1 = 0 then
          bnd2 (f_X7_readPart  w) fun x1 w2 =>
          bnd (f_X7_skipBlanks  w2) fun w3 =>
          k33 x1 (l2 + 1) w3
        else
          letW (sI w 3 8 (w.1 3 6)) fun w4 =>
          k33 l1 (l2 + 1) w4
      else
        some ((w.1 3 8), w)
def f_X7_readTape_L33 (n : Nat) : Int32 → Int32 → Wd → Option (Int32 × Wd) :=
  Nat.rec (fun _ _ _ => none) (fun _ k => f_X7_readTape_B33b k) n
set_option maxHeartbeats 4000000 in
set_option maxRecDepth 100000 in
theorem t_X7_readTape_L33 {G : GT} {d : Nat} (hd : 8 ≤ d + 1)  : ∀ (n : Nat) (l1 : Int32) (l2 : Int32) (w : Wd) (r : Int32) (w' : Wd), f_X7_readTape_L33 n l1 l2 w = some (r, w') → U (vf G mX7_readTape (d + 1)) 33 [some (.ref 3), some (.int l1), some (.int l2)] [] w (some (.int r), 70, r0, w') := by
  intro n
  induction n with
  | zero => intro l1 l2 w r w' h; cases h
  | succ n h33 =>
    intro l1 l2 w r w' h
    have h : f_X7_readTape_B33b (f_X7_readTape_L33 n) l1 l2 w = some (r, w') := h
    unfold f_X7_readTape_B33b at h
    refine V.iload_n (pc := 33) dX7_readTape_33 rfl ?_
    refine V.sipush (pc := 34) dX7_readTape_34 sp_200 ?_
    rcases ite_e h with ⟨c, h⟩ | ⟨c, h⟩
    · refine V.icmp_gt_t (t := 92) (pc := 37) dX7_readTape_37 (by decide) c ?_
      refine V.aload_n (pc := 92) dX7_readTape_92 rfl ?_
      refine V.getI (pc := 93) dX7_readTape_93 f_RX7_22 k_cl7 lx_3 ly_3 rb_7_8 ?_
      obtain ⟨rfl, rfl⟩ := Prod.mk.inj (Option.some.inj h)
      exact V.iret (pc := 96) dX7_readTape_96 rfl (Nat.le_refl _) (Nat.le_refl _)
    · refine V.icmp_gt_f (t := 92) (pc := 37) dX7_readTape_37 (by decide) c ?_
      refine V.aload_n (pc := 40) dX7_readTape_40 rfl ?_
      refine V.getI (pc := 41) dX7_readTape_41 f_RX7_35 k_cl7 lx_3 ly_3 rb_7_6 ?_
      refine V.aload_n (pc := 44) dX7_readTape_44 rfl ?_
      refine V.getR (t := 1) (pc := 45) dX7_readTape_45 f_RX7_25 k_cl7 lx_3 ly_3 rb_7_0 rr_3_0 ?_
      refine V.getI (pc := 48) dX7_readTape_48 f_RX7_43 k_cl9 lx_1 ly_1 rb_9_1 ?_
      rcases ite_e h with ⟨c, h⟩ | ⟨c, h⟩
      · refine V.icmp_ge_t (t := 92) (pc := 51) dX7_readTape_51 (by decide) c ?_
        refine V.aload_n (pc := 92) dX7_readTape_92 rfl ?_
        refine V.getI (pc := 93) dX7_readTape_93 f_RX7_22 k_cl7 lx_3 ly_3 rb_7_8 ?_
        obtain ⟨rfl, rfl⟩ := Prod.mk.inj (Option.some.inj h)
        exact V.iret (pc := 96) dX7_readTape_96 rfl (Nat.le_refl _) (Nat.le_refl _)
      · refine V.icmp_ge_f (t := 92) (pc := 51) dX7_readTape_51 (by decide) c ?_
        refine V.aload_n (pc := 54) dX7_readTape_54 rfl ?_
        refine V.getI (pc := 55) dX7_readTape_55 f_RX7_22 k_cl7 lx_3 ly_3 rb_7_8 ?_
        refine V.iconst (pc := 58) dX7_readTape_58 ic_m1 ?_
        rcases ite_e h with ⟨c, h⟩ | ⟨c, h⟩
        · refine V.icmp_ne_f (t := 92) (pc := 59) dX7_readTape_59 (by decide) c ?_
          refine V.iload_n (pc := 62) dX7_readTape_62 rfl ?_
          rcases ite_e h with ⟨c, h⟩ | ⟨c, h⟩
          · refine V.if_eq_t (t := 77) (pc := 63) dX7_readTape_63 (by decide) c ?_
            refine V.aload_n (pc := 77) dX7_readTape_77 rfl ?_
            obtain ⟨x1, w2, ew2, h⟩ := bnd2_e h
            refine U.callV (pc := 78) (As := []) (st := []) dX7_readTape_78 l_RX7_46 (ok_X7_readPart (by omega)  ew2) lx_3 ly_3 cn_7 (Nat.le_of_ble_eq_true rfl) rfl rfl (Nat.le_of_ble_eq_true rfl) ?_
            refine V.istore_n (lv' := [some (.ref 3), some (.int x1), some (.int l2)]) (pc := 81) dX7_readTape_81 (Nat.le_of_ble_eq_true rfl) rfl rfl ?_
            refine V.aload_n (pc := 82) dX7_readTape_82 rfl ?_
            obtain ⟨w3, ew3, h⟩ := bnd_e h
            refine U.callV (pc := 83) (As := []) (st := []) dX7_readTape_83 l_RX7_38 (ok_X7_skipBlanks (by omega)  ew3) lx_3 ly_3 cn_7 (Nat.le_of_ble_eq_true rfl) rfl rfl (Nat.le_of_ble_eq_true rfl) ?_
            refine V.iinc (lv' := [some (.ref 3), some (.int x1), some (.int (l2 + 1))]) (pc := 86) dX7_readTape_86 (Nat.le_of_ble_eq_true rfl) rfl rfl (v := (l2 + 1)) (by rw [show Int32.ofInt 1 = 1 from by decide]) rfl ?_
            refine V.goto (t := 33) (pc := 89) dX7_readTape_89 (by decide) ?_
            exact h33 x1 (l2 + 1) w3 _ _ h
          · refine V.if_eq_f (t := 77) (pc := 63) dX7_readTape_63 (by decide) c ?_
            refine V.aload_n (pc := 66) dX7_readTape_66 rfl ?_
            refine V.aload_n (pc := 67) dX7_readTape_67 rfl ?_
            refine V.getI (pc := 68) dX7_readTape_68 f_RX7_35 k_cl7 lx_3 ly_3 rb_7_6 ?_
            obtain ⟨w4, ew4, h⟩ := letW_e h
            refine V.putIX (pc := 71) dX7_readTape_71 f_RX7_22 k_cl7 lx_3 ly_3 rb_7_8 (fin_I (T0 := TX7) rfl rfl rfl) ew4 ?_
            refine V.goto (t := 86) (pc := 74) dX7_readTape_74 (by decide) ?_
            refine V.iinc (lv' := [some (.ref 3), some (.int l1), some (.int (l2 + 1))]) (pc := 86) dX7_readTape_86 (Nat.le_of_ble_eq_true rfl) rfl rfl (v := (l2 + 1)) (by rw [show Int32.ofInt 1 = 1 from by decide]) rfl ?_
            refine V.goto (t := 33) (pc := 89) dX7_readTape_89 (by decide) ?_
            exact h33 l1 (l2 + 1) w4 _ _ h
        · refine V.icmp_ne_t (t := 92) (pc := 59) dX7_readTape_59 (by decide) c ?_
          refine V.aload_n (pc := 92) dX7_readTape_92 rfl ?_
          refine V.getI (pc := 93) dX7_readTape_93 f_RX7_22 k_cl7 lx_3 ly_3 rb_7_8 ?_
          obtain ⟨rfl, rfl⟩ := Prod.mk.inj (Option.some.inj h)
          exact V.iret (pc := 96) dX7_readTape_96 rfl (Nat.le_refl _) (Nat.le_refl _)
def f_X7_readTape (w : Wd) : Option (Int32 × Wd) :=
  letW (sI w 3 3 0) fun w1 =>
  letW (sI w1 3 4 1) fun w2 =>
  letW (sI w2 3 5 0) fun w3 =>
  letW (sI w3 3 6 0) fun w4 =>
  letW (sI w4 3 8 (-1)) fun w5 =>
  bnd (f_X7_skipBlanks  w5) fun w6 =>
  f_X7_readTape_L33  FU 0 0 w6
set_option maxHeartbeats 4000000 in
set_option maxRecDepth 100000 in
theorem ok_X7_readTape {G : GT} {d : Nat} (hd : 8 ≤ d) {w : Wd}  {r : Int32} {w' : Wd} (h : f_X7_readTape  w = some (r, w')) : uC G yX7_readTape mX7_readTape d [.ref 3] w (some (.int r)) w' := by
  obtain ⟨d, rfl⟩ : ∃ e, d = e + 1 := ⟨d - 1, by omega⟩
  unfold f_X7_readTape at h
  refine uC_of (lv := [some (.ref 3), none, none]) 2 pn_X7 ⟨rfl, rfl⟩ (Nat.le_of_ble_eq_true rfl) rfl ?_
  refine V.aload_n (pc := 0) dX7_readTape_0 rfl ?_
  refine V.iconst (pc := 1) dX7_readTape_1 ic_0 ?_
  obtain ⟨w1, ew1, h⟩ := letW_e h
  refine V.putIX (pc := 2) dX7_readTape_2 f_RX7_29 k_cl7 lx_3 ly_3 rb_7_3 (fin_I (T0 := TX7) rfl rfl rfl) ew1 ?_
  refine V.aload_n (pc := 5) dX7_readTape_5 rfl ?_
  refine V.iconst (pc := 6) dX7_readTape_6 ic_1 ?_
  obtain ⟨w2, ew2, h⟩ := letW_e h
  refine V.putIX (pc := 7) dX7_readTape_7 f_RX7_18 k_cl7 lx_3 ly_3 rb_7_4 (fin_I (T0 := TX7) rfl rfl rfl) ew2 ?_
  refine V.aload_n (pc := 10) dX7_readTape_10 rfl ?_
  refine V.iconst (pc := 11) dX7_readTape_11 ic_0 ?_
  obtain ⟨w3, ew3, h⟩ := letW_e h
  refine V.putIX (pc := 12) dX7_readTape_12 f_RX7_32 k_cl7 lx_3 ly_3 rb_7_5 (fin_I (T0 := TX7) rfl rfl rfl) ew3 ?_
  refine V.aload_n (pc := 15) dX7_readTape_15 rfl ?_
  refine V.iconst (pc := 16) dX7_readTape_16 ic_0 ?_
  obtain ⟨w4, ew4, h⟩ := letW_e h
  refine V.putIX (pc := 17) dX7_readTape_17 f_RX7_35 k_cl7 lx_3 ly_3 rb_7_6 (fin_I (T0 := TX7) rfl rfl rfl) ew4 ?_
  refine V.aload_n (pc := 20) dX7_readTape_20 rfl ?_
  refine V.iconst (pc := 21) dX7_readTape_21 ic_m1 ?_
  obtain ⟨w5, ew5, h⟩ := letW_e h
  refine V.putIX (pc := 22) dX7_readTape_22 f_RX7_22 k_cl7 lx_3 ly_3 rb_7_8 (fin_I (T0 := TX7) rfl rfl rfl) ew5 ?_
  refine V.iconst (pc := 25) dX7_readTape_25 ic_0 ?_
  refine V.istore_n (lv' := [some (.ref 3), some (.int 0), none]) (pc := 26) dX7_readTape_26 (Nat.le_of_ble_eq_true rfl) rfl rfl ?_
  refine V.aload_n (pc := 27) dX7_readTape_27 rfl ?_
  obtain ⟨w6, ew6, h⟩ := bnd_e h
  refine U.callV (pc := 28) (As := []) (st := []) dX7_readTape_28 l_RX7_38 (ok_X7_skipBlanks (by omega)  ew6) lx_3 ly_3 cn_7 (Nat.le_of_ble_eq_true rfl) rfl rfl (Nat.le_of_ble_eq_true rfl) ?_
  refine V.iconst (pc := 31) dX7_readTape_31 ic_0 ?_
  refine V.istore_n (lv' := [some (.ref 3), some (.int 0), some (.int 0)]) (pc := 32) dX7_readTape_32 (Nat.le_of_ble_eq_true rfl) rfl rfl ?_
  exact t_X7_readTape_L33 hd FU 0 0 w6 _ _ h
