theorem dX0_valueAt_0 : decode cX0_valueAt 0 = .ok (.iload_n 1, 1) := by decide +kernel
theorem dX0_valueAt_1 : decode cX0_valueAt 1 = .ok (.ifCond .lt 18, 3) := by decide +kernel
theorem dX0_valueAt_4 : decode cX0_valueAt 4 = .ok (.iload_n 1, 1) := by decide +kernel
theorem dX0_valueAt_5 : decode cX0_valueAt 5 = .ok (.bipush 20, 2) := by decide +kernel
theorem dX0_valueAt_7 : decode cX0_valueAt 7 = .ok (.if_icmp .ge 12, 3) := by decide +kernel
theorem dX0_valueAt_10 : decode cX0_valueAt 10 = .ok (.aload_n 0, 1) := by decide +kernel
theorem dX0_valueAt_11 : decode cX0_valueAt 11 = .ok (.getfield 11, 3) := by decide +kernel
theorem dX0_valueAt_14 : decode cX0_valueAt 14 = .ok (.iload_n 1, 1) := by decide +kernel
theorem dX0_valueAt_15 : decode cX0_valueAt 15 = .ok (.iaload, 1) := by decide +kernel
theorem dX0_valueAt_16 : decode cX0_valueAt 16 = .ok (.goto 4, 3) := by decide +kernel
theorem dX0_valueAt_19 : decode cX0_valueAt 19 = .ok (.iconst (-1), 1) := by decide +kernel
theorem dX0_valueAt_20 : decode cX0_valueAt 20 = .ok (.ireturn, 1) := by decide +kernel
def f_X0_valueAt (l1 : Int32) (w : Wd) : Option Int32 :=
  if l1 < 0 then
    some (-1)
  else
    if 20 ≤ l1 then
      some (-1)
    else
      rdI w 38 20 l1 fun x1 =>
      some x1
set_option maxHeartbeats 4000000 in
set_option maxRecDepth 100000 in
theorem ok_X0_valueAt {G : GT} {d : Nat} (hd : 0 ≤ d) {w : Wd} (l1 : Int32) {r : Int32} (h : f_X0_valueAt l1 w = some r) : uC G yX0_valueAt mX0_valueAt d [.ref 37, .int l1] w (some (.int r)) w := by
  unfold f_X0_valueAt at h
  refine uC_of (lv := [some (.ref 37), some (.int l1)]) 0 pn_X0 ⟨rfl, rfl⟩ (Nat.le_of_ble_eq_true rfl) rfl ?_
  refine V.iload_n (pc := 0) dX0_valueAt_0 rfl ?_
  rcases ite_e h with ⟨c, h⟩ | ⟨c, h⟩
  · refine V.if_lt_t (t := 19) (pc := 1) dX0_valueAt_1 (by decide) c ?_
    refine V.iconst (pc := 19) dX0_valueAt_19 ic_m1 ?_
    obtain rfl := Option.some.inj h
    exact V.iret (pc := 20) dX0_valueAt_20 rfl (Nat.le_refl _) (Nat.le_refl _)
  · refine V.if_lt_f (t := 19) (pc := 1) dX0_valueAt_1 (by decide) c ?_
    refine V.iload_n (pc := 4) dX0_valueAt_4 rfl ?_
    refine V.bipush (pc := 5) dX0_valueAt_5 bp_20 ?_
    rcases ite_e h with ⟨c, h⟩ | ⟨c, h⟩
    · refine V.icmp_ge_t (t := 19) (pc := 7) dX0_valueAt_7 (by decide) c ?_
      refine V.iconst (pc := 19) dX0_valueAt_19 ic_m1 ?_
      obtain rfl := Option.some.inj h
      exact V.iret (pc := 20) dX0_valueAt_20 rfl (Nat.le_refl _) (Nat.le_refl _)
    · refine V.icmp_ge_f (t := 19) (pc := 7) dX0_valueAt_7 (by decide) c ?_
      refine V.aload_n (pc := 10) dX0_valueAt_10 rfl ?_
      refine V.getR (t := 38) (pc := 11) dX0_valueAt_11 f_RX0_11 k_cl0 lx_37 ly_37 rb_0_0 rr_37_0 ?_
      refine V.iload_n (pc := 14) dX0_valueAt_14 rfl ?_
      obtain ⟨x1, ix1, ex1, h⟩ := rdI_e h
      refine V.ialdX (pc := 15) dX0_valueAt_15 lx_38 ly_38 ix1 ex1 ?_
      refine V.goto (t := 20) (pc := 16) dX0_valueAt_16 (by decide) ?_
      obtain rfl := Option.some.inj h
      exact V.iret (pc := 20) dX0_valueAt_20 rfl (Nat.le_refl _) (Nat.le_refl _)
theorem dX11_weigh_0 : decode cX11_weigh 0 = .ok (.aload_n 0, 1) := by decide +kernel
theorem dX11_weigh_1 : decode cX11_weigh 1 = .ok (.getfield 28, 3) := by decide +kernel
theorem dX11_weigh_4 : decode cX11_weigh 4 = .ok (.iload_n 1, 1) := by decide +kernel
theorem dX11_weigh_5 : decode cX11_weigh 5 = .ok (.invokevirtual 107, 3) := by decide +kernel
theorem dX11_weigh_8 : decode cX11_weigh 8 = .ok (.ifCond .eq 13, 3) := by decide +kernel
theorem dX11_weigh_11 : decode cX11_weigh 11 = .ok (.iload_n 2, 1) := by decide +kernel
theorem dX11_weigh_12 : decode cX11_weigh 12 = .ok (.ifCond .lt 9, 3) := by decide +kernel
theorem dX11_weigh_15 : decode cX11_weigh 15 = .ok (.iload_n 2, 1) := by decide +kernel
theorem dX11_weigh_16 : decode cX11_weigh 16 = .ok (.bipush 9, 2) := by decide +kernel
theorem dX11_weigh_18 : decode cX11_weigh 18 = .ok (.if_icmp .le 5, 3) := by decide +kernel
theorem dX11_weigh_21 : decode cX11_weigh 21 = .ok (.iconst (-1), 1) := by decide +kernel
theorem dX11_weigh_22 : decode cX11_weigh 22 = .ok (.ireturn, 1) := by decide +kernel
theorem dX11_weigh_23 : decode cX11_weigh 23 = .ok (.aload_n 0, 1) := by decide +kernel
theorem dX11_weigh_24 : decode cX11_weigh 24 = .ok (.getfield 74, 3) := by decide +kernel
theorem dX11_weigh_27 : decode cX11_weigh 27 = .ok (.iload_n 1, 1) := by decide +kernel
theorem dX11_weigh_28 : decode cX11_weigh 28 = .ok (.invokevirtual 150, 3) := by decide +kernel
theorem dX11_weigh_31 : decode cX11_weigh 31 = .ok (.istore_n 3, 1) := by decide +kernel
theorem dX11_weigh_32 : decode cX11_weigh 32 = .ok (.aload_n 0, 1) := by decide +kernel
theorem dX11_weigh_33 : decode cX11_weigh 33 = .ok (.getfield 74, 3) := by decide +kernel
theorem dX11_weigh_36 : decode cX11_weigh 36 = .ok (.iload_n 1, 1) := by decide +kernel
theorem dX11_weigh_37 : decode cX11_weigh 37 = .ok (.iload_n 2, 1) := by decide +kernel
theorem dX11_weigh_38 : decode cX11_weigh 38 = .ok (.invokevirtual 114, 3) := by decide +kernel
theorem dX11_weigh_41 : decode cX11_weigh 41 = .ok (.ifCond .eq 7, 3) := by decide +kernel
theorem dX11_weigh_44 : decode cX11_weigh 44 = .ok (.iload_n 3, 1) := by decide +kernel
theorem dX11_weigh_45 : decode cX11_weigh 45 = .ok (.goto 4, 3) := by decide +kernel
theorem dX11_weigh_48 : decode cX11_weigh 48 = .ok (.iconst (-1), 1) := by decide +kernel
theorem dX11_weigh_49 : decode cX11_weigh 49 = .ok (.ireturn, 1) := by decide +kernel
def f_X11_weigh (l1 : Int32) (l2 : Int32) (w : Wd) : Option (Int32 × Wd) :=
  if (f_X4_holds l1 w) = 0 then
    some ((-1), w)
  else
    if l2 < 0 then
      some ((-1), w)
    else
      if l2 ≤ 9 then
        bnd (f_X0_valueAt l1 w) fun x1 =>
        bnd2 (f_X0_change l1 l2 w) fun x2 w3 =>
        if x2 = 0 then
          some ((-1), w3)
        else
          some (x1, w3)
      else
        some ((-1), w)
set_option maxHeartbeats 4000000 in
set_option maxRecDepth 100000 in
theorem ok_X11_weigh {G : GT} {d : Nat} (hd : 2 ≤ d) {w : Wd} (l1 : Int32) (l2 : Int32) {r : Int32} {w' : Wd} (h : f_X11_weigh l1 l2 w = some (r, w')) : uC G yX11_weigh mX11_weigh d [.ref 0, .int l1, .int l2] w (some (.int r)) w' := by
  obtain ⟨d, rfl⟩ : ∃ e, d = e + 1 := ⟨d - 1, by omega⟩
  unfold f_X11_weigh at h
  refine uC_of (lv := [some (.ref 0), some (.int l1), some (.int l2), none]) 1 pn_X11 ⟨rfl, rfl⟩ (Nat.le_of_ble_eq_true rfl) rfl ?_
  refine V.aload_n (pc := 0) dX11_weigh_0 rfl ?_
  refine V.getR (t := 6) (pc := 1) dX11_weigh_1 f_RX11_28 k_cl11 lx_0 ly_0 rb_11_2 rr_0_2 ?_
  refine V.iload_n (pc := 4) dX11_weigh_4 rfl ?_
  refine U.callV (pc := 5) (As := [.int l1]) (st := []) dX11_weigh_5 l_RX11_107 (ok_X4_holds (by omega) l1 ) lx_6 ly_6 cn_4 (Nat.le_of_ble_eq_true rfl) rfl rfl (Nat.le_of_ble_eq_true rfl) ?_
  rcases ite_e h with ⟨c, h⟩ | ⟨c, h⟩
  · refine V.if_eq_t (t := 21) (pc := 8) dX11_weigh_8 (by decide) c ?_
    refine V.iconst (pc := 21) dX11_weigh_21 ic_m1 ?_
    obtain ⟨rfl, rfl⟩ := Prod.mk.inj (Option.some.inj h)
    exact V.iret (pc := 22) dX11_weigh_22 rfl (Nat.le_refl _) (Nat.le_refl _)
  · refine V.if_eq_f (t := 21) (pc := 8) dX11_weigh_8 (by decide) c ?_
    refine V.iload_n (pc := 11) dX11_weigh_11 rfl ?_
    rcases ite_e h with ⟨c, h⟩ | ⟨c, h⟩
    · refine V.if_lt_t (t := 21) (pc := 12) dX11_weigh_12 (by decide) c ?_
      refine V.iconst (pc := 21) dX11_weigh_21 ic_m1 ?_
      obtain ⟨rfl, rfl⟩ := Prod.mk.inj (Option.some.inj h)
      exact V.iret (pc := 22) dX11_weigh_22 rfl (Nat.le_refl _) (Nat.le_refl _)
    · refine V.if_lt_f (t := 21) (pc := 12) dX11_weigh_12 (by decide) c ?_
      refine V.iload_n (pc := 15) dX11_weigh_15 rfl ?_
      refine V.bipush (pc := 16) dX11_weigh_16 bp_9 ?_
      rcases ite_e h with ⟨c, h⟩ | ⟨c, h⟩
      · refine V.icmp_le_t (t := 23) (pc := 18) dX11_weigh_18 (by decide) c ?_
        refine V.aload_n (pc := 23) dX11_weigh_23 rfl ?_
        refine V.getR (t := 37) (pc := 24) dX11_weigh_24 f_RX11_74 k_cl11 lx_0 ly_0 rb_11_8 rr_0_8 ?_
        refine V.iload_n (pc := 27) dX11_weigh_27 rfl ?_
        obtain ⟨x1, ex1, h⟩ := bnd_e h
        refine U.callV (pc := 28) (As := [.int l1]) (st := []) dX11_weigh_28 l_RX11_150 (ok_X0_valueAt (by omega) l1 ex1) lx_37 ly_37 cn_0 (Nat.le_of_ble_eq_true rfl) rfl rfl (Nat.le_of_ble_eq_true rfl) ?_
        refine V.istore_n (lv' := [some (.ref 0), some (.int l1), some (.int l2), some (.int x1)]) (pc := 31) dX11_weigh_31 (Nat.le_of_ble_eq_true rfl) rfl rfl ?_
        refine V.aload_n (pc := 32) dX11_weigh_32 rfl ?_
        refine V.getR (t := 37) (pc := 33) dX11_weigh_33 f_RX11_74 k_cl11 lx_0 ly_0 rb_11_8 rr_0_8 ?_
        refine V.iload_n (pc := 36) dX11_weigh_36 rfl ?_
        refine V.iload_n (pc := 37) dX11_weigh_37 rfl ?_
        obtain ⟨x2, w3, ew3, h⟩ := bnd2_e h
        refine U.callV (pc := 38) (As := [.int l1, .int l2]) (st := []) dX11_weigh_38 l_RX11_114 (ok_X0_change (by omega) l1 l2 ew3) lx_37 ly_37 cn_0 (Nat.le_of_ble_eq_true rfl) rfl rfl (Nat.le_of_ble_eq_true rfl) ?_
        rcases ite_e h with ⟨c, h⟩ | ⟨c, h⟩
        · refine V.if_eq_t (t := 48) (pc := 41) dX11_weigh_41 (by decide) c ?_
          refine V.iconst (pc := 48) dX11_weigh_48 ic_m1 ?_
          obtain ⟨rfl, rfl⟩ := Prod.mk.inj (Option.some.inj h)
          exact V.iret (pc := 49) dX11_weigh_49 rfl (Nat.le_refl _) (Nat.le_refl _)
        · refine V.if_eq_f (t := 48) (pc := 41) dX11_weigh_41 (by decide) c ?_
          refine V.iload_n (pc := 44) dX11_weigh_44 rfl ?_
          refine V.goto (t := 49) (pc := 45) dX11_weigh_45 (by decide) ?_
          obtain ⟨rfl, rfl⟩ := Prod.mk.inj (Option.some.inj h)
          exact V.iret (pc := 49) dX11_weigh_49 rfl (Nat.le_refl _) (Nat.le_refl _)
      · refine V.icmp_le_f (t := 23) (pc := 18) dX11_weigh_18 (by decide) c ?_
        refine V.iconst (pc := 21) dX11_weigh_21 ic_m1 ?_
        obtain ⟨rfl, rfl⟩ := Prod.mk.inj (Option.some.inj h)
        exact V.iret (pc := 22) dX11_weigh_22 rfl (Nat.le_refl _) (Nat.le_refl _)
theorem dX12_weigh_0 : decode cX12_weigh 0 = .ok (.aload_n 0, 1) := by decide +kernel
theorem dX12_weigh_1 : decode cX12_weigh 1 = .ok (.iload_n 1, 1) := by decide +kernel
theorem dX12_weigh_2 : decode cX12_weigh 2 = .ok (.invokevirtual 163, 3) := by decide +kernel
theorem dX12_weigh_5 : decode cX12_weigh 5 = .ok (.ifCond .eq 24, 3) := by decide +kernel
theorem dX12_weigh_8 : decode cX12_weigh 8 = .ok (.iload_n 2, 1) := by decide +kernel
theorem dX12_weigh_9 : decode cX12_weigh 9 = .ok (.iconst 0, 1) := by decide +kernel
theorem dX12_weigh_10 : decode cX12_weigh 10 = .ok (.bipush 9, 2) := by decide +kernel
theorem dX12_weigh_12 : decode cX12_weigh 12 = .ok (.invokestatic 139, 3) := by decide +kernel
theorem dX12_weigh_15 : decode cX12_weigh 15 = .ok (.ifCond .eq 14, 3) := by decide +kernel
theorem dX12_weigh_18 : decode cX12_weigh 18 = .ok (.aload_n 0, 1) := by decide +kernel
theorem dX12_weigh_19 : decode cX12_weigh 19 = .ok (.iconst 4, 1) := by decide +kernel
theorem dX12_weigh_20 : decode cX12_weigh 20 = .ok (.iload_n 1, 1) := by decide +kernel
theorem dX12_weigh_21 : decode cX12_weigh 21 = .ok (.iadd, 1) := by decide +kernel
theorem dX12_weigh_22 : decode cX12_weigh 22 = .ok (.iload_n 2, 1) := by decide +kernel
theorem dX12_weigh_23 : decode cX12_weigh 23 = .ok (.invokevirtual 166, 3) := by decide +kernel
theorem dX12_weigh_26 : decode cX12_weigh 26 = .ok (.goto 4, 3) := by decide +kernel
theorem dX12_weigh_29 : decode cX12_weigh 29 = .ok (.iconst (-1), 1) := by decide +kernel
theorem dX12_weigh_30 : decode cX12_weigh 30 = .ok (.ireturn, 1) := by decide +kernel
def f_X12_weigh (l1 : Int32) (l2 : Int32) (w : Wd) : Option (Int32 × Wd) :=
  if (f_X12_isElement l1 w) = 0 then
    some ((-1), w)
  else
    if (f_X12_in l2 0 9) = 0 then
      some ((-1), w)
    else
      bnd2 (f_X12_changes (4 + l1) l2 w) fun x1 w2 =>
      some (x1, w2)
set_option maxHeartbeats 4000000 in
set_option maxRecDepth 100000 in
theorem ok_X12_weigh {G : GT} {d : Nat} (hd : 2 ≤ d) {w : Wd} (l1 : Int32) (l2 : Int32) {r : Int32} {w' : Wd} (h : f_X12_weigh l1 l2 w = some (r, w')) : uC G yX12_weigh mX12_weigh d [.ref 44, .int l1, .int l2] w (some (.int r)) w' := by
  obtain ⟨d, rfl⟩ : ∃ e, d = e + 1 := ⟨d - 1, by omega⟩
  unfold f_X12_weigh at h
  refine uC_of (lv := [some (.ref 44), some (.int l1), some (.int l2)]) 0 pn_X12 ⟨rfl, rfl⟩ (Nat.le_of_ble_eq_true rfl) rfl ?_
  refine V.aload_n (pc := 0) dX12_weigh_0 rfl ?_
  refine V.iload_n (pc := 1) dX12_weigh_1 rfl ?_
  refine U.callV (pc := 2) (As := [.int l1]) (st := []) dX12_weigh_2 l_RX12_163 (ok_X12_isElement (by omega) l1 ) lx_44 ly_44 cn_12 (Nat.le_of_ble_eq_true rfl) rfl rfl (Nat.le_of_ble_eq_true rfl) ?_
  rcases ite_e h with ⟨c, h⟩ | ⟨c, h⟩
  · refine V.if_eq_t (t := 29) (pc := 5) dX12_weigh_5 (by decide) c ?_
    refine V.iconst (pc := 29) dX12_weigh_29 ic_m1 ?_
    obtain ⟨rfl, rfl⟩ := Prod.mk.inj (Option.some.inj h)
    exact V.iret (pc := 30) dX12_weigh_30 rfl (Nat.le_refl _) (Nat.le_refl _)
  · refine V.if_eq_f (t := 29) (pc := 5) dX12_weigh_5 (by decide) c ?_
    refine V.iload_n (pc := 8) dX12_weigh_8 rfl ?_
    refine V.iconst (pc := 9) dX12_weigh_9 ic_0 ?_
    refine V.bipush (pc := 10) dX12_weigh_10 bp_9 ?_
    refine U.callS (pc := 12) (As := [.int l2, .int 0, .int 9]) (st := []) dX12_weigh_12 l_RX12_139 (ok_X12_in (by omega) l2 0 9 ) (Nat.le_of_ble_eq_true rfl) rfl rfl (Nat.le_of_ble_eq_true rfl) ?_
    rcases ite_e h with ⟨c, h⟩ | ⟨c, h⟩
    · refine V.if_eq_t (t := 29) (pc := 15) dX12_weigh_15 (by decide) c ?_
      refine V.iconst (pc := 29) dX12_weigh_29 ic_m1 ?_
      obtain ⟨rfl, rfl⟩ := Prod.mk.inj (Option.some.inj h)
      exact V.iret (pc := 30) dX12_weigh_30 rfl (Nat.le_refl _) (Nat.le_refl _)
    · refine V.if_eq_f (t := 29) (pc := 15) dX12_weigh_15 (by decide) c ?_
      refine V.aload_n (pc := 18) dX12_weigh_18 rfl ?_
      refine V.iconst (pc := 19) dX12_weigh_19 ic_4 ?_
      refine V.iload_n (pc := 20) dX12_weigh_20 rfl ?_
      refine V.iadd (pc := 21) dX12_weigh_21 ?_
      refine V.iload_n (pc := 22) dX12_weigh_22 rfl ?_
      obtain ⟨x1, w2, ew2, h⟩ := bnd2_e h
      refine U.callV (pc := 23) (As := [.int (4 + l1), .int l2]) (st := []) dX12_weigh_23 l_RX12_166 (ok_X12_changes (by omega) (4 + l1) l2 ew2) lx_44 ly_44 cn_12 (Nat.le_of_ble_eq_true rfl) rfl rfl (Nat.le_of_ble_eq_true rfl) ?_
      refine V.goto (t := 30) (pc := 26) dX12_weigh_26 (by decide) ?_
      obtain ⟨rfl, rfl⟩ := Prod.mk.inj (Option.some.inj h)
      exact V.iret (pc := 30) dX12_weigh_30 rfl (Nat.le_refl _) (Nat.le_refl _)
theorem dX11_isShelf_0 : decode cX11_isShelf 0 = .ok (.iload_n 0, 1) := by decide +kernel
theorem dX11_isShelf_1 : decode cX11_isShelf 1 = .ok (.ifCond .lt 12, 3) := by decide +kernel
theorem dX11_isShelf_4 : decode cX11_isShelf 4 = .ok (.iload_n 0, 1) := by decide +kernel
theorem dX11_isShelf_5 : decode cX11_isShelf 5 = .ok (.iconst 3, 1) := by decide +kernel
theorem dX11_isShelf_6 : decode cX11_isShelf 6 = .ok (.if_icmp .ge 7, 3) := by decide +kernel
theorem dX11_isShelf_9 : decode cX11_isShelf 9 = .ok (.iconst 1, 1) := by decide +kernel
theorem dX11_isShelf_10 : decode cX11_isShelf 10 = .ok (.goto 4, 3) := by decide +kernel
theorem dX11_isShelf_13 : decode cX11_isShelf 13 = .ok (.iconst 0, 1) := by decide +kernel
theorem dX11_isShelf_14 : decode cX11_isShelf 14 = .ok (.ireturn, 1) := by decide +kernel
def f_X11_isShelf (l0 : Int32) : Int32 :=
  if l0 < 0 then
    (0 : Int32)
  else
    if 3 ≤ l0 then
      (0 : Int32)
    else
      (1 : Int32)
set_option maxHeartbeats 4000000 in
set_option maxRecDepth 100000 in
theorem ok_X11_isShelf {G : GT} {d : Nat} (hd : 0 ≤ d) {w : Wd} (l0 : Int32) : uC G yX11_isShelf mX11_isShelf d [.int l0] w (some (.int (f_X11_isShelf l0))) w := by
  suffices key : ∀ r, f_X11_isShelf l0 = r → uC G yX11_isShelf mX11_isShelf d [.int l0] w (some (.int r)) w from key _ rfl
  intro r h
  unfold f_X11_isShelf at h
  refine uC_of (lv := [some (.int l0)]) 0 pn_X11 ⟨rfl, rfl⟩ (Nat.le_of_ble_eq_true rfl) rfl ?_
  refine V.iload_n (pc := 0) dX11_isShelf_0 rfl ?_
  rcases ite_e h with ⟨c, h⟩ | ⟨c, h⟩
  · refine V.if_lt_t (t := 13) (pc := 1) dX11_isShelf_1 (by decide) c ?_
    refine V.iconst (pc := 13) dX11_isShelf_13 ic_0 ?_
    subst h
    exact V.zret (pc := 14) dX11_isShelf_14 rfl (Or.inl rfl) (Nat.le_refl _) (Nat.le_refl _)
  · refine V.if_lt_f (t := 13) (pc := 1) dX11_isShelf_1 (by decide) c ?_
    refine V.iload_n (pc := 4) dX11_isShelf_4 rfl ?_
    refine V.iconst (pc := 5) dX11_isShelf_5 ic_3 ?_
    rcases ite_e h with ⟨c, h⟩ | ⟨c, h⟩
    · refine V.icmp_ge_t (t := 13) (pc := 6) dX11_isShelf_6 (by decide) c ?_
      refine V.iconst (pc := 13) dX11_isShelf_13 ic_0 ?_
      subst h
      exact V.zret (pc := 14) dX11_isShelf_14 rfl (Or.inl rfl) (Nat.le_refl _) (Nat.le_refl _)
    · refine V.icmp_ge_f (t := 13) (pc := 6) dX11_isShelf_6 (by decide) c ?_
      refine V.iconst (pc := 9) dX11_isShelf_9 ic_1 ?_
      refine V.goto (t := 14) (pc := 10) dX11_isShelf_10 (by decide) ?_
      subst h
      exact V.zret (pc := 14) dX11_isShelf_14 rfl (Or.inr rfl) (Nat.le_refl _) (Nat.le_refl _)
theorem b_X11_isShelf (l0 : Int32) : f_X11_isShelf l0 = 0 ∨ f_X11_isShelf l0 = 1 := by
  unfold f_X11_isShelf
  repeat' (first | exact Or.inl rfl | exact Or.inr rfl | apply b_tree)
  all_goals first | exact Or.inl rfl | exact Or.inr rfl | assumption
theorem dX11_keep_0 : decode cX11_keep 0 = .ok (.iload_n 1, 1) := by decide +kernel
theorem dX11_keep_1 : decode cX11_keep 1 = .ok (.invokestatic 153, 3) := by decide +kernel
theorem dX11_keep_4 : decode cX11_keep 4 = .ok (.ifCond .ne 5, 3) := by decide +kernel
theorem dX11_keep_7 : decode cX11_keep 7 = .ok (.iconst (-1), 1) := by decide +kernel
theorem dX11_keep_8 : decode cX11_keep 8 = .ok (.ireturn, 1) := by decide +kernel
theorem dX11_keep_9 : decode cX11_keep 9 = .ok (.aload_n 0, 1) := by decide +kernel
theorem dX11_keep_10 : decode cX11_keep 10 = .ok (.getfield 74, 3) := by decide +kernel
theorem dX11_keep_13 : decode cX11_keep 13 = .ok (.bipush 16, 2) := by decide +kernel
theorem dX11_keep_15 : decode cX11_keep 15 = .ok (.iload_n 1, 1) := by decide +kernel
theorem dX11_keep_16 : decode cX11_keep 16 = .ok (.iadd, 1) := by decide +kernel
theorem dX11_keep_17 : decode cX11_keep 17 = .ok (.invokevirtual 150, 3) := by decide +kernel
theorem dX11_keep_20 : decode cX11_keep 20 = .ok (.istore_n 2, 1) := by decide +kernel
theorem dX11_keep_21 : decode cX11_keep 21 = .ok (.aload_n 0, 1) := by decide +kernel
theorem dX11_keep_22 : decode cX11_keep 22 = .ok (.getfield 74, 3) := by decide +kernel
theorem dX11_keep_25 : decode cX11_keep 25 = .ok (.bipush 16, 2) := by decide +kernel
theorem dX11_keep_27 : decode cX11_keep 27 = .ok (.iload_n 1, 1) := by decide +kernel
theorem dX11_keep_28 : decode cX11_keep 28 = .ok (.iadd, 1) := by decide +kernel
theorem dX11_keep_29 : decode cX11_keep 29 = .ok (.aload_n 0, 1) := by decide +kernel
theorem dX11_keep_30 : decode cX11_keep 30 = .ok (.getfield 74, 3) := by decide +kernel
theorem dX11_keep_33 : decode cX11_keep 33 = .ok (.invokevirtual 111, 3) := by decide +kernel
theorem dX11_keep_36 : decode cX11_keep 36 = .ok (.invokevirtual 114, 3) := by decide +kernel
theorem dX11_keep_39 : decode cX11_keep 39 = .ok (.ifCond .eq 7, 3) := by decide +kernel
theorem dX11_keep_42 : decode cX11_keep 42 = .ok (.iload_n 2, 1) := by decide +kernel
theorem dX11_keep_43 : decode cX11_keep 43 = .ok (.goto 4, 3) := by decide +kernel
theorem dX11_keep_46 : decode cX11_keep 46 = .ok (.iconst (-1), 1) := by decide +kernel
theorem dX11_keep_47 : decode cX11_keep 47 = .ok (.ireturn, 1) := by decide +kernel
def f_X11_keep (l1 : Int32) (w : Wd) : Option (Int32 × Wd) :=
  if (f_X11_isShelf l1) = 0 then
    some ((-1), w)
  else
    bnd (f_X0_valueAt (16 + l1) w) fun x1 =>
    bnd (f_X0_set  w) fun x2 =>
    bnd2 (f_X0_change (16 + l1) x2 w) fun x3 w4 =>
    if x3 = 0 then
      some ((-1), w4)
    else
      some (x1, w4)
set_option maxHeartbeats 4000000 in
set_option maxRecDepth 100000 in
theorem ok_X11_keep {G : GT} {d : Nat} (hd : 2 ≤ d) {w : Wd} (l1 : Int32) {r : Int32} {w' : Wd} (h : f_X11_keep l1 w = some (r, w')) : uC G yX11_keep mX11_keep d [.ref 0, .int l1] w (some (.int r)) w' := by
  obtain ⟨d, rfl⟩ : ∃ e, d = e + 1 := ⟨d - 1, by omega⟩
  unfold f_X11_keep at h
  refine uC_of (lv := [some (.ref 0), some (.int l1), none]) 1 pn_X11 ⟨rfl, rfl⟩ (Nat.le_of_ble_eq_true rfl) rfl ?_
  refine V.iload_n (pc := 0) dX11_keep_0 rfl ?_
  refine U.callS (pc := 1) (As := [.int l1]) (st := []) dX11_keep_1 l_RX11_153 (ok_X11_isShelf (by omega) l1 ) (Nat.le_of_ble_eq_true rfl) rfl rfl (Nat.le_of_ble_eq_true rfl) ?_
  rcases ite_e h with ⟨c, h⟩ | ⟨c, h⟩
  · refine V.if_ne_f (t := 9) (pc := 4) dX11_keep_4 (by decide) c ?_
    refine V.iconst (pc := 7) dX11_keep_7 ic_m1 ?_
    obtain ⟨rfl, rfl⟩ := Prod.mk.inj (Option.some.inj h)
    exact V.iret (pc := 8) dX11_keep_8 rfl (Nat.le_refl _) (Nat.le_refl _)
  · refine V.if_ne_t (t := 9) (pc := 4) dX11_keep_4 (by decide) c ?_
    refine V.aload_n (pc := 9) dX11_keep_9 rfl ?_
    refine V.getR (t := 37) (pc := 10) dX11_keep_10 f_RX11_74 k_cl11 lx_0 ly_0 rb_11_8 rr_0_8 ?_
    refine V.bipush (pc := 13) dX11_keep_13 bp_16 ?_
    refine V.iload_n (pc := 15) dX11_keep_15 rfl ?_
    refine V.iadd (pc := 16) dX11_keep_16 ?_
    obtain ⟨x1, ex1, h⟩ := bnd_e h
    refine U.callV (pc := 17) (As := [.int (16 + l1)]) (st := []) dX11_keep_17 l_RX11_150 (ok_X0_valueAt (by omega) (16 + l1) ex1) lx_37 ly_37 cn_0 (Nat.le_of_ble_eq_true rfl) rfl rfl (Nat.le_of_ble_eq_true rfl) ?_
    refine V.istore_n (lv' := [some (.ref 0), some (.int l1), some (.int x1)]) (pc := 20) dX11_keep_20 (Nat.le_of_ble_eq_true rfl) rfl rfl ?_
    refine V.aload_n (pc := 21) dX11_keep_21 rfl ?_
    refine V.getR (t := 37) (pc := 22) dX11_keep_22 f_RX11_74 k_cl11 lx_0 ly_0 rb_11_8 rr_0_8 ?_
    refine V.bipush (pc := 25) dX11_keep_25 bp_16 ?_
    refine V.iload_n (pc := 27) dX11_keep_27 rfl ?_
    refine V.iadd (pc := 28) dX11_keep_28 ?_
    refine V.aload_n (pc := 29) dX11_keep_29 rfl ?_
    refine V.getR (t := 37) (pc := 30) dX11_keep_30 f_RX11_74 k_cl11 lx_0 ly_0 rb_11_8 rr_0_8 ?_
    obtain ⟨x2, ex2, h⟩ := bnd_e h
    refine U.callV (pc := 33) (As := []) (st := [.int (16 + l1), .ref 37]) dX11_keep_33 l_RX11_111 (ok_X0_set (by omega)  ex2) lx_37 ly_37 cn_0 (Nat.le_of_ble_eq_true rfl) rfl rfl (Nat.le_of_ble_eq_true rfl) ?_
    obtain ⟨x3, w4, ew4, h⟩ := bnd2_e h
    refine U.callV (pc := 36) (As := [.int (16 + l1), .int x2]) (st := []) dX11_keep_36 l_RX11_114 (ok_X0_change (by omega) (16 + l1) x2 ew4) lx_37 ly_37 cn_0 (Nat.le_of_ble_eq_true rfl) rfl rfl (Nat.le_of_ble_eq_true rfl) ?_
    rcases ite_e h with ⟨c, h⟩ | ⟨c, h⟩
    · refine V.if_eq_t (t := 46) (pc := 39) dX11_keep_39 (by decide) c ?_
      refine V.iconst (pc := 46) dX11_keep_46 ic_m1 ?_
      obtain ⟨rfl, rfl⟩ := Prod.mk.inj (Option.some.inj h)
      exact V.iret (pc := 47) dX11_keep_47 rfl (Nat.le_refl _) (Nat.le_refl _)
    · refine V.if_eq_f (t := 46) (pc := 39) dX11_keep_39 (by decide) c ?_
      refine V.iload_n (pc := 42) dX11_keep_42 rfl ?_
      refine V.goto (t := 47) (pc := 43) dX11_keep_43 (by decide) ?_
      obtain ⟨rfl, rfl⟩ := Prod.mk.inj (Option.some.inj h)
      exact V.iret (pc := 47) dX11_keep_47 rfl (Nat.le_refl _) (Nat.le_refl _)
theorem dX12_keep_0 : decode cX12_keep 0 = .ok (.iload_n 1, 1) := by decide +kernel
theorem dX12_keep_1 : decode cX12_keep 1 = .ok (.iconst 0, 1) := by decide +kernel
theorem dX12_keep_2 : decode cX12_keep 2 = .ok (.iconst 2, 1) := by decide +kernel
theorem dX12_keep_3 : decode cX12_keep 3 = .ok (.invokestatic 139, 3) := by decide +kernel
theorem dX12_keep_6 : decode cX12_keep 6 = .ok (.ifCond .eq 19, 3) := by decide +kernel
theorem dX12_keep_9 : decode cX12_keep 9 = .ok (.aload_n 0, 1) := by decide +kernel
theorem dX12_keep_10 : decode cX12_keep 10 = .ok (.iconst 1, 1) := by decide +kernel
theorem dX12_keep_11 : decode cX12_keep 11 = .ok (.iload_n 1, 1) := by decide +kernel
theorem dX12_keep_12 : decode cX12_keep 12 = .ok (.iadd, 1) := by decide +kernel
theorem dX12_keep_13 : decode cX12_keep 13 = .ok (.aload_n 0, 1) := by decide +kernel
theorem dX12_keep_14 : decode cX12_keep 14 = .ok (.getfield 42, 3) := by decide +kernel
theorem dX12_keep_17 : decode cX12_keep 17 = .ok (.iconst 0, 1) := by decide +kernel
theorem dX12_keep_18 : decode cX12_keep 18 = .ok (.iaload, 1) := by decide +kernel
theorem dX12_keep_19 : decode cX12_keep 19 = .ok (.invokevirtual 166, 3) := by decide +kernel
theorem dX12_keep_22 : decode cX12_keep 22 = .ok (.goto 4, 3) := by decide +kernel
theorem dX12_keep_25 : decode cX12_keep 25 = .ok (.iconst (-1), 1) := by decide +kernel
theorem dX12_keep_26 : decode cX12_keep 26 = .ok (.ireturn, 1) := by decide +kernel
def f_X12_keep (l1 : Int32) (w : Wd) : Option (Int32 × Wd) :=
  if (f_X12_in l1 0 2) = 0 then
    some ((-1), w)
  else
    rdI w 54 20 0 fun x1 =>
    bnd2 (f_X12_changes (1 + l1) x1 w) fun x2 w3 =>
    some (x2, w3)
set_option maxHeartbeats 4000000 in
set_option maxRecDepth 100000 in
theorem ok_X12_keep {G : GT} {d : Nat} (hd : 2 ≤ d) {w : Wd} (l1 : Int32) {r : Int32} {w' : Wd} (h : f_X12_keep l1 w = some (r, w')) : uC G yX12_keep mX12_keep d [.ref 44, .int l1] w (some (.int r)) w' := by
  obtain ⟨d, rfl⟩ : ∃ e, d = e + 1 := ⟨d - 1, by omega⟩
  unfold f_X12_keep at h
  refine uC_of (lv := [some (.ref 44), some (.int l1)]) 0 pn_X12 ⟨rfl, rfl⟩ (Nat.le_of_ble_eq_true rfl) rfl ?_
  refine V.iload_n (pc := 0) dX12_keep_0 rfl ?_
  refine V.iconst (pc := 1) dX12_keep_1 ic_0 ?_
  refine V.iconst (pc := 2) dX12_keep_2 ic_2 ?_
  refine U.callS (pc := 3) (As := [.int l1, .int 0, .int 2]) (st := []) dX12_keep_3 l_RX12_139 (ok_X12_in (by omega) l1 0 2 ) (Nat.le_of_ble_eq_true rfl) rfl rfl (Nat.le_of_ble_eq_true rfl) ?_
  rcases ite_e h with ⟨c, h⟩ | ⟨c, h⟩
  · refine V.if_eq_t (t := 25) (pc := 6) dX12_keep_6 (by decide) c ?_
    refine V.iconst (pc := 25) dX12_keep_25 ic_m1 ?_
    obtain ⟨rfl, rfl⟩ := Prod.mk.inj (Option.some.inj h)
    exact V.iret (pc := 26) dX12_keep_26 rfl (Nat.le_refl _) (Nat.le_refl _)
  · refine V.if_eq_f (t := 25) (pc := 6) dX12_keep_6 (by decide) c ?_
    refine V.aload_n (pc := 9) dX12_keep_9 rfl ?_
    refine V.iconst (pc := 10) dX12_keep_10 ic_1 ?_
    refine V.iload_n (pc := 11) dX12_keep_11 rfl ?_
    refine V.iadd (pc := 12) dX12_keep_12 ?_
    refine V.aload_n (pc := 13) dX12_keep_13 rfl ?_
    refine V.getR (t := 54) (pc := 14) dX12_keep_14 f_RX12_42 k_cl12 lx_44 ly_44 rb_12_13 rr_44_13 ?_
    refine V.iconst (pc := 17) dX12_keep_17 ic_0 ?_
    obtain ⟨x1, ix1, ex1, h⟩ := rdI_e h
    refine V.ialdX (pc := 18) dX12_keep_18 lx_54 ly_54 ix1 ex1 ?_
    obtain ⟨x2, w3, ew3, h⟩ := bnd2_e h
    refine U.callV (pc := 19) (As := [.int (1 + l1), .int x1]) (st := []) dX12_keep_19 l_RX12_166 (ok_X12_changes (by omega) (1 + l1) x1 ew3) lx_44 ly_44 cn_12 (Nat.le_of_ble_eq_true rfl) rfl rfl (Nat.le_of_ble_eq_true rfl) ?_
    refine V.goto (t := 26) (pc := 22) dX12_keep_22 (by decide) ?_
    obtain ⟨rfl, rfl⟩ := Prod.mk.inj (Option.some.inj h)
    exact V.iret (pc := 26) dX12_keep_26 rfl (Nat.le_refl _) (Nat.le_refl _)
theorem dX11_take_0 : decode cX11_take 0 = .ok (.iload_n 1, 1) := by decide +kernel
theorem dX11_take_1 : decode cX11_take 1 = .ok (.invokestatic 153, 3) := by decide +kernel
theorem dX11_take_4 : decode cX11_take 4 = .ok (.ifCond .eq 21, 3) := by decide +kernel
theorem dX11_take_7 : decode cX11_take 7 = .ok (.aload_n 0, 1) := by decide +kernel
theorem dX11_take_8 : decode cX11_take 8 = .ok (.aload_n 0, 1) := by decide +kernel
theorem dX11_take_9 : decode cX11_take 9 = .ok (.getfield 74, 3) := by decide +kernel
theorem dX11_take_12 : decode cX11_take 12 = .ok (.bipush 16, 2) := by decide +kernel
theorem dX11_take_14 : decode cX11_take 14 = .ok (.iload_n 1, 1) := by decide +kernel
theorem dX11_take_15 : decode cX11_take 15 = .ok (.iadd, 1) := by decide +kernel
theorem dX11_take_16 : decode cX11_take 16 = .ok (.invokevirtual 150, 3) := by decide +kernel
theorem dX11_take_19 : decode cX11_take 19 = .ok (.invokevirtual 140, 3) := by decide +kernel
theorem dX11_take_22 : decode cX11_take 22 = .ok (.goto 4, 3) := by decide +kernel
theorem dX11_take_25 : decode cX11_take 25 = .ok (.iconst (-1), 1) := by decide +kernel
theorem dX11_take_26 : decode cX11_take 26 = .ok (.ireturn, 1) := by decide +kernel
def f_X11_take (l1 : Int32) (w : Wd) : Option (Int32 × Wd) :=
  if (f_X11_isShelf l1) = 0 then
    some ((-1), w)
  else
    bnd (f_X0_valueAt (16 + l1) w) fun x1 =>
    bnd2 (f_X11_moveTo x1 w) fun x2 w3 =>
    some (x2, w3)
set_option maxHeartbeats 4000000 in
set_option maxRecDepth 100000 in
theorem ok_X11_take {G : GT} {d : Nat} (hd : 3 ≤ d) {w : Wd} (l1 : Int32) {r : Int32} {w' : Wd} (h : f_X11_take l1 w = some (r, w')) : uC G yX11_take mX11_take d [.ref 0, .int l1] w (some (.int r)) w' := by
  obtain ⟨d, rfl⟩ : ∃ e, d = e + 1 := ⟨d - 1, by omega⟩
  unfold f_X11_take at h
  refine uC_of (lv := [some (.ref 0), some (.int l1)]) 0 pn_X11 ⟨rfl, rfl⟩ (Nat.le_of_ble_eq_true rfl) rfl ?_
  refine V.iload_n (pc := 0) dX11_take_0 rfl ?_
  refine U.callS (pc := 1) (As := [.int l1]) (st := []) dX11_take_1 l_RX11_153 (ok_X11_isShelf (by omega) l1 ) (Nat.le_of_ble_eq_true rfl) rfl rfl (Nat.le_of_ble_eq_true rfl) ?_
  rcases ite_e h with ⟨c, h⟩ | ⟨c, h⟩
  · refine V.if_eq_t (t := 25) (pc := 4) dX11_take_4 (by decide) c ?_
    refine V.iconst (pc := 25) dX11_take_25 ic_m1 ?_
    obtain ⟨rfl, rfl⟩ := Prod.mk.inj (Option.some.inj h)
    exact V.iret (pc := 26) dX11_take_26 rfl (Nat.le_refl _) (Nat.le_refl _)
  · refine V.if_eq_f (t := 25) (pc := 4) dX11_take_4 (by decide) c ?_
    refine V.aload_n (pc := 7) dX11_take_7 rfl ?_
    refine V.aload_n (pc := 8) dX11_take_8 rfl ?_
    refine V.getR (t := 37) (pc := 9) dX11_take_9 f_RX11_74 k_cl11 lx_0 ly_0 rb_11_8 rr_0_8 ?_
    refine V.bipush (pc := 12) dX11_take_12 bp_16 ?_
    refine V.iload_n (pc := 14) dX11_take_14 rfl ?_
    refine V.iadd (pc := 15) dX11_take_15 ?_
    obtain ⟨x1, ex1, h⟩ := bnd_e h
    refine U.callV (pc := 16) (As := [.int (16 + l1)]) (st := [.ref 0]) dX11_take_16 l_RX11_150 (ok_X0_valueAt (by omega) (16 + l1) ex1) lx_37 ly_37 cn_0 (Nat.le_of_ble_eq_true rfl) rfl rfl (Nat.le_of_ble_eq_true rfl) ?_
    obtain ⟨x2, w3, ew3, h⟩ := bnd2_e h
    refine U.callV (pc := 19) (As := [.int x1]) (st := []) dX11_take_19 l_RX11_140 (ok_X11_moveTo (by omega) x1 ew3) lx_0 ly_0 cn_11 (Nat.le_of_ble_eq_true rfl) rfl rfl (Nat.le_of_ble_eq_true rfl) ?_
    refine V.goto (t := 26) (pc := 22) dX11_take_22 (by decide) ?_
    obtain ⟨rfl, rfl⟩ := Prod.mk.inj (Option.some.inj h)
    exact V.iret (pc := 26) dX11_take_26 rfl (Nat.le_refl _) (Nat.le_refl _)
theorem dX12_take_0 : decode cX12_take 0 = .ok (.iload_n 1, 1) := by decide +kernel
theorem dX12_take_1 : decode cX12_take 1 = .ok (.iconst 0, 1) := by decide +kernel
theorem dX12_take_2 : decode cX12_take 2 = .ok (.iconst 2, 1) := by decide +kernel
theorem dX12_take_3 : decode cX12_take 3 = .ok (.invokestatic 139, 3) := by decide +kernel
theorem dX12_take_6 : decode cX12_take 6 = .ok (.ifCond .ne 5, 3) := by decide +kernel
theorem dX12_take_9 : decode cX12_take 9 = .ok (.iconst (-1), 1) := by decide +kernel
theorem dX12_take_10 : decode cX12_take 10 = .ok (.ireturn, 1) := by decide +kernel
theorem dX12_take_11 : decode cX12_take 11 = .ok (.aload_n 0, 1) := by decide +kernel
theorem dX12_take_12 : decode cX12_take 12 = .ok (.iconst 0, 1) := by decide +kernel
theorem dX12_take_13 : decode cX12_take 13 = .ok (.aload_n 0, 1) := by decide +kernel
theorem dX12_take_14 : decode cX12_take 14 = .ok (.getfield 42, 3) := by decide +kernel
theorem dX12_take_17 : decode cX12_take 17 = .ok (.iconst 1, 1) := by decide +kernel
theorem dX12_take_18 : decode cX12_take 18 = .ok (.iload_n 1, 1) := by decide +kernel
theorem dX12_take_19 : decode cX12_take 19 = .ok (.iadd, 1) := by decide +kernel
theorem dX12_take_20 : decode cX12_take 20 = .ok (.iaload, 1) := by decide +kernel
theorem dX12_take_21 : decode cX12_take 21 = .ok (.invokevirtual 166, 3) := by decide +kernel
theorem dX12_take_24 : decode cX12_take 24 = .ok (.iconst (-1), 1) := by decide +kernel
theorem dX12_take_25 : decode cX12_take 25 = .ok (.if_icmp .ne 7, 3) := by decide +kernel
theorem dX12_take_28 : decode cX12_take 28 = .ok (.iconst (-1), 1) := by decide +kernel
theorem dX12_take_29 : decode cX12_take 29 = .ok (.goto 9, 3) := by decide +kernel
theorem dX12_take_32 : decode cX12_take 32 = .ok (.aload_n 0, 1) := by decide +kernel
theorem dX12_take_33 : decode cX12_take 33 = .ok (.getfield 42, 3) := by decide +kernel
theorem dX12_take_36 : decode cX12_take 36 = .ok (.iconst 0, 1) := by decide +kernel
theorem dX12_take_37 : decode cX12_take 37 = .ok (.iaload, 1) := by decide +kernel
theorem dX12_take_38 : decode cX12_take 38 = .ok (.ireturn, 1) := by decide +kernel
def f_X12_take (l1 : Int32) (w : Wd) : Option (Int32 × Wd) :=
  if (f_X12_in l1 0 2) = 0 then
    some ((-1), w)
  else
    rdI w 54 20 (1 + l1) fun x1 =>
    bnd2 (f_X12_changes 0 x1 w) fun x2 w3 =>
    if x2 = (-1) then
      some ((-1), w3)
    else
      rdI w3 54 20 0 fun x4 =>
      some (x4, w3)
set_option maxHeartbeats 4000000 in
set_option maxRecDepth 100000 in
theorem ok_X12_take {G : GT} {d : Nat} (hd : 2 ≤ d) {w : Wd} (l1 : Int32) {r : Int32} {w' : Wd} (h : f_X12_take l1 w = some (r, w')) : uC G yX12_take mX12_take d [.ref 44, .int l1] w (some (.int r)) w' := by
  obtain ⟨d, rfl⟩ : ∃ e, d = e + 1 := ⟨d - 1, by omega⟩
  unfold f_X12_take at h
  refine uC_of (lv := [some (.ref 44), some (.int l1)]) 0 pn_X12 ⟨rfl, rfl⟩ (Nat.le_of_ble_eq_true rfl) rfl ?_
  refine V.iload_n (pc := 0) dX12_take_0 rfl ?_
  refine V.iconst (pc := 1) dX12_take_1 ic_0 ?_
  refine V.iconst (pc := 2) dX12_take_2 ic_2 ?_
  refine U.callS (pc := 3) (As := [.int l1, .int 0, .int 2]) (st := []) dX12_take_3 l_RX12_139 (ok_X12_in (by omega) l1 0 2 ) (Nat.le_of_ble_eq_true rfl) rfl rfl (Nat.le_of_ble_eq_true rfl) ?_
  rcases ite_e h with ⟨c, h⟩ | ⟨c, h⟩
  · refine V.if_ne_f (t := 11) (pc := 6) dX12_take_6 (by decide) c ?_
    refine V.iconst (pc := 9) dX12_take_9 ic_m1 ?_
    obtain ⟨rfl, rfl⟩ := Prod.mk.inj (Option.some.inj h)
    exact V.iret (pc := 10) dX12_take_10 rfl (Nat.le_refl _) (Nat.le_refl _)
  · refine V.if_ne_t (t := 11) (pc := 6) dX12_take_6 (by decide) c ?_
    refine V.aload_n (pc := 11) dX12_take_11 rfl ?_
    refine V.iconst (pc := 12) dX12_take_12 ic_0 ?_
    refine V.aload_n (pc := 13) dX12_take_13 rfl ?_
    refine V.getR (t := 54) (pc := 14) dX12_take_14 f_RX12_42 k_cl12 lx_44 ly_44 rb_12_13 rr_44_13 ?_
    refine V.iconst (pc := 17) dX12_take_17 ic_1 ?_
    refine V.iload_n (pc := 18) dX12_take_18 rfl ?_
    refine V.iadd (pc := 19) dX12_take_19 ?_
    obtain ⟨x1, ix1, ex1, h⟩ := rdI_e h
    refine V.ialdX (pc := 20) dX12_take_20 lx_54 ly_54 ix1 ex1 ?_
    obtain ⟨x2, w3, ew3, h⟩ := bnd2_e h
    refine U.callV (pc := 21) (As := [.int 0, .int x1]) (st := []) dX12_take_21 l_RX12_166 (ok_X12_changes (by omega) 0 x1 ew3) lx_44 ly_44 cn_12 (Nat.le_of_ble_eq_true rfl) rfl rfl (Nat.le_of_ble_eq_true rfl) ?_
    refine V.iconst (pc := 24) dX12_take_24 ic_m1 ?_
    rcases ite_e h with ⟨c, h⟩ | ⟨c, h⟩
    · refine V.icmp_ne_f (t := 32) (pc := 25) dX12_take_25 (by decide) c ?_
      refine V.iconst (pc := 28) dX12_take_28 ic_m1 ?_
      refine V.goto (t := 38) (pc := 29) dX12_take_29 (by decide) ?_
      obtain ⟨rfl, rfl⟩ := Prod.mk.inj (Option.some.inj h)
      exact V.iret (pc := 38) dX12_take_38 rfl (Nat.le_refl _) (Nat.le_refl _)
    · refine V.icmp_ne_t (t := 32) (pc := 25) dX12_take_25 (by decide) c ?_
      refine V.aload_n (pc := 32) dX12_take_32 rfl ?_
      refine V.getR (t := 54) (pc := 33) dX12_take_33 f_RX12_42 k_cl12 lx_44 ly_44 rb_12_13 rr_44_13 ?_
      refine V.iconst (pc := 36) dX12_take_36 ic_0 ?_
      obtain ⟨x4, ix4, ex4, h⟩ := rdI_e h
      refine V.ialdX (pc := 37) dX12_take_37 lx_54 ly_54 ix4 ex4 ?_
      obtain ⟨rfl, rfl⟩ := Prod.mk.inj (Option.some.inj h)
      exact V.iret (pc := 38) dX12_take_38 rfl (Nat.le_refl _) (Nat.le_refl _)
theorem dX0_takeBack_0 : decode cX0_takeBack 0 = .ok (.aload_n 0, 1) := by decide +kernel
theorem dX0_takeBack_1 : decode cX0_takeBack 1 = .ok (.getfield 21, 3) := by decide +kernel
theorem dX0_takeBack_4 : decode cX0_takeBack 4 = .ok (.ifCond .ne 5, 3) := by decide +kernel
theorem dX0_takeBack_7 : decode cX0_takeBack 7 = .ok (.iconst (-1), 1) := by decide +kernel
theorem dX0_takeBack_8 : decode cX0_takeBack 8 = .ok (.ireturn, 1) := by decide +kernel
theorem dX0_takeBack_9 : decode cX0_takeBack 9 = .ok (.aload_n 0, 1) := by decide +kernel
theorem dX0_takeBack_10 : decode cX0_takeBack 10 = .ok (.aload_n 0, 1) := by decide +kernel
theorem dX0_takeBack_11 : decode cX0_takeBack 11 = .ok (.getfield 25, 3) := by decide +kernel
theorem dX0_takeBack_14 : decode cX0_takeBack 14 = .ok (.ifCond .le 12, 3) := by decide +kernel
theorem dX0_takeBack_17 : decode cX0_takeBack 17 = .ok (.aload_n 0, 1) := by decide +kernel
theorem dX0_takeBack_18 : decode cX0_takeBack 18 = .ok (.getfield 25, 3) := by decide +kernel
theorem dX0_takeBack_21 : decode cX0_takeBack 21 = .ok (.iconst 1, 1) := by decide +kernel
theorem dX0_takeBack_22 : decode cX0_takeBack 22 = .ok (.isub, 1) := by decide +kernel
theorem dX0_takeBack_23 : decode cX0_takeBack 23 = .ok (.goto 5, 3) := by decide +kernel
theorem dX0_takeBack_26 : decode cX0_takeBack 26 = .ok (.bipush 11, 2) := by decide +kernel
theorem dX0_takeBack_28 : decode cX0_takeBack 28 = .ok (.putfield 25, 3) := by decide +kernel
theorem dX0_takeBack_31 : decode cX0_takeBack 31 = .ok (.aload_n 0, 1) := by decide +kernel
theorem dX0_takeBack_32 : decode cX0_takeBack 32 = .ok (.getfield 11, 3) := by decide +kernel
theorem dX0_takeBack_35 : decode cX0_takeBack 35 = .ok (.aload_n 0, 1) := by decide +kernel
theorem dX0_takeBack_36 : decode cX0_takeBack 36 = .ok (.getfield 15, 3) := by decide +kernel
theorem dX0_takeBack_39 : decode cX0_takeBack 39 = .ok (.aload_n 0, 1) := by decide +kernel
theorem dX0_takeBack_40 : decode cX0_takeBack 40 = .ok (.getfield 25, 3) := by decide +kernel
theorem dX0_takeBack_43 : decode cX0_takeBack 43 = .ok (.iaload, 1) := by decide +kernel
theorem dX0_takeBack_44 : decode cX0_takeBack 44 = .ok (.aload_n 0, 1) := by decide +kernel
theorem dX0_takeBack_45 : decode cX0_takeBack 45 = .ok (.getfield 18, 3) := by decide +kernel
theorem dX0_takeBack_48 : decode cX0_takeBack 48 = .ok (.aload_n 0, 1) := by decide +kernel
theorem dX0_takeBack_49 : decode cX0_takeBack 49 = .ok (.getfield 25, 3) := by decide +kernel
theorem dX0_takeBack_52 : decode cX0_takeBack 52 = .ok (.iaload, 1) := by decide +kernel
theorem dX0_takeBack_53 : decode cX0_takeBack 53 = .ok (.iastore, 1) := by decide +kernel
theorem dX0_takeBack_54 : decode cX0_takeBack 54 = .ok (.aload_n 0, 1) := by decide +kernel
theorem dX0_takeBack_55 : decode cX0_takeBack 55 = .ok (.dup, 1) := by decide +kernel
theorem dX0_takeBack_56 : decode cX0_takeBack 56 = .ok (.getfield 21, 3) := by decide +kernel
theorem dX0_takeBack_59 : decode cX0_takeBack 59 = .ok (.iconst 1, 1) := by decide +kernel
theorem dX0_takeBack_60 : decode cX0_takeBack 60 = .ok (.isub, 1) := by decide +kernel
theorem dX0_takeBack_61 : decode cX0_takeBack 61 = .ok (.putfield 21, 3) := by decide +kernel
theorem dX0_takeBack_64 : decode cX0_takeBack 64 = .ok (.aload_n 0, 1) := by decide +kernel
theorem dX0_takeBack_65 : decode cX0_takeBack 65 = .ok (.getfield 21, 3) := by decide +kernel
theorem dX0_takeBack_68 : decode cX0_takeBack 68 = .ok (.ireturn, 1) := by decide +kernel
def f_X0_takeBack (w : Wd) : Option (Int32 × Wd) :=
  if (w.1 37 4) = 0 then
    some ((-1), w)
  else
    if (w.1 37 3) ≤ 0 then
      letW (sI w 37 3 11) fun w1 =>
      rdI w1 39 12 (w1.1 37 3) fun x2 =>
      rdI w1 40 12 (w1.1 37 3) fun x3 =>
      wrI w1 38 20 x2 x3 fun w4 =>
      letW (sI w4 37 4 ((w4.1 37 4) - 1)) fun w5 =>
      some ((w5.1 37 4), w5)
    else
      letW (sI w 37 3 ((w.1 37 3) - 1)) fun w6 =>
      rdI w6 39 12 (w6.1 37 3) fun x7 =>
      rdI w6 40 12 (w6.1 37 3) fun x8 =>
      wrI w6 38 20 x7 x8 fun w9 =>
      letW (sI w9 37 4 ((w9.1 37 4) - 1)) fun w10 =>
      some ((w10.1 37 4), w10)
set_option maxHeartbeats 4000000 in
set_option maxRecDepth 100000 in
theorem ok_X0_takeBack {G : GT} {d : Nat} (hd : 0 ≤ d) {w : Wd}  {r : Int32} {w' : Wd} (h : f_X0_takeBack  w = some (r, w')) : uC G yX0_takeBack mX0_takeBack d [.ref 37] w (some (.int r)) w' := by
  unfold f_X0_takeBack at h
  refine uC_of (lv := [some (.ref 37)]) 0 pn_X0 ⟨rfl, rfl⟩ (Nat.le_of_ble_eq_true rfl) rfl ?_
  refine V.aload_n (pc := 0) dX0_takeBack_0 rfl ?_
  refine V.getI (pc := 1) dX0_takeBack_1 f_RX0_21 k_cl0 lx_37 ly_37 rb_0_4 ?_
  rcases ite_e h with ⟨c, h⟩ | ⟨c, h⟩
  · refine V.if_ne_f (t := 9) (pc := 4) dX0_takeBack_4 (by decide) c ?_
    refine V.iconst (pc := 7) dX0_takeBack_7 ic_m1 ?_
    obtain ⟨rfl, rfl⟩ := Prod.mk.inj (Option.some.inj h)
    exact V.iret (pc := 8) dX0_takeBack_8 rfl (Nat.le_refl _) (Nat.le_refl _)
  · refine V.if_ne_t (t := 9) (pc := 4) dX0_takeBack_4 (by decide) c ?_
    refine V.aload_n (pc := 9) dX0_takeBack_9 rfl ?_
    refine V.aload_n (pc := 10) dX0_takeBack_10 rfl ?_
    refine V.getI (pc := 11) dX0_takeBack_11 f_RX0_25 k_cl0 lx_37 ly_37 rb_0_3 ?_
    rcases ite_e h with ⟨c, h⟩ | ⟨c, h⟩
    · refine V.if_le_t (t := 26) (pc := 14) dX0_takeBack_14 (by decide) c ?_
      refine V.bipush (pc := 26) dX0_takeBack_26 bp_11 ?_
      obtain ⟨w1, ew1, h⟩ := letW_e h
      refine V.putIX (pc := 28) dX0_takeBack_28 f_RX0_25 k_cl0 lx_37 ly_37 rb_0_3 (fin_I (T0 := TX0) rfl rfl rfl) ew1 ?_
      refine V.aload_n (pc := 31) dX0_takeBack_31 rfl ?_
      refine V.getR (t := 38) (pc := 32) dX0_takeBack_32 f_RX0_11 k_cl0 lx_37 ly_37 rb_0_0 rr_37_0 ?_
      refine V.aload_n (pc := 35) dX0_takeBack_35 rfl ?_
      refine V.getR (t := 39) (pc := 36) dX0_takeBack_36 f_RX0_15 k_cl0 lx_37 ly_37 rb_0_1 rr_37_1 ?_
      refine V.aload_n (pc := 39) dX0_takeBack_39 rfl ?_
      refine V.getI (pc := 40) dX0_takeBack_40 f_RX0_25 k_cl0 lx_37 ly_37 rb_0_3 ?_
      obtain ⟨x2, ix2, ex2, h⟩ := rdI_e h
      refine V.ialdX (pc := 43) dX0_takeBack_43 lx_39 ly_39 ix2 ex2 ?_
      refine V.aload_n (pc := 44) dX0_takeBack_44 rfl ?_
      refine V.getR (t := 40) (pc := 45) dX0_takeBack_45 f_RX0_18 k_cl0 lx_37 ly_37 rb_0_2 rr_37_2 ?_
      refine V.aload_n (pc := 48) dX0_takeBack_48 rfl ?_
      refine V.getI (pc := 49) dX0_takeBack_49 f_RX0_25 k_cl0 lx_37 ly_37 rb_0_3 ?_
      obtain ⟨x3, ix3, ex3, h⟩ := rdI_e h
      refine V.ialdX (pc := 52) dX0_takeBack_52 lx_40 ly_40 ix3 ex3 ?_
      obtain ⟨w4, iw4, ew4, h⟩ := wrI_e h
      refine V.iastX (pc := 53) dX0_takeBack_53 lx_38 ly_38 iw4 ew4 ?_
      refine V.aload_n (pc := 54) dX0_takeBack_54 rfl ?_
      refine V.dup (pc := 55) dX0_takeBack_55 rfl ?_
      refine V.getI (pc := 56) dX0_takeBack_56 f_RX0_21 k_cl0 lx_37 ly_37 rb_0_4 ?_
      refine V.iconst (pc := 59) dX0_takeBack_59 ic_1 ?_
      refine V.isub (pc := 60) dX0_takeBack_60 ?_
      obtain ⟨w5, ew5, h⟩ := letW_e h
      refine V.putIX (pc := 61) dX0_takeBack_61 f_RX0_21 k_cl0 lx_37 ly_37 rb_0_4 (fin_I (T0 := TX0) rfl rfl rfl) ew5 ?_
      refine V.aload_n (pc := 64) dX0_takeBack_64 rfl ?_
      refine V.getI (pc := 65) dX0_takeBack_65 f_RX0_21 k_cl0 lx_37 ly_37 rb_0_4 ?_
      obtain ⟨rfl, rfl⟩ := Prod.mk.inj (Option.some.inj h)
      exact V.iret (pc := 68) dX0_takeBack_68 rfl (Nat.le_refl _) (Nat.le_refl _)
    · refine V.if_le_f (t := 26) (pc := 14) dX0_takeBack_14 (by decide) c ?_
      refine V.aload_n (pc := 17) dX0_takeBack_17 rfl ?_
      refine V.getI (pc := 18) dX0_takeBack_18 f_RX0_25 k_cl0 lx_37 ly_37 rb_0_3 ?_
      refine V.iconst (pc := 21) dX0_takeBack_21 ic_1 ?_
      refine V.isub (pc := 22) dX0_takeBack_22 ?_
      refine V.goto (t := 28) (pc := 23) dX0_takeBack_23 (by decide) ?_
      obtain ⟨w6, ew6, h⟩ := letW_e h
      refine V.putIX (pc := 28) dX0_takeBack_28 f_RX0_25 k_cl0 lx_37 ly_37 rb_0_3 (fin_I (T0 := TX0) rfl rfl rfl) ew6 ?_
      refine V.aload_n (pc := 31) dX0_takeBack_31 rfl ?_
      refine V.getR (t := 38) (pc := 32) dX0_takeBack_32 f_RX0_11 k_cl0 lx_37 ly_37 rb_0_0 rr_37_0 ?_
      refine V.aload_n (pc := 35) dX0_takeBack_35 rfl ?_
      refine V.getR (t := 39) (pc := 36) dX0_takeBack_36 f_RX0_15 k_cl0 lx_37 ly_37 rb_0_1 rr_37_1 ?_
      refine V.aload_n (pc := 39) dX0_takeBack_39 rfl ?_
      refine V.getI (pc := 40) dX0_takeBack_40 f_RX0_25 k_cl0 lx_37 ly_37 rb_0_3 ?_
      obtain ⟨x7, ix7, ex7, h⟩ := rdI_e h
      refine V.ialdX (pc := 43) dX0_takeBack_43 lx_39 ly_39 ix7 ex7 ?_
      refine V.aload_n (pc := 44) dX0_takeBack_44 rfl ?_
      refine V.getR (t := 40) (pc := 45) dX0_takeBack_45 f_RX0_18 k_cl0 lx_37 ly_37 rb_0_2 rr_37_2 ?_
      refine V.aload_n (pc := 48) dX0_takeBack_48 rfl ?_
      refine V.getI (pc := 49) dX0_takeBack_49 f_RX0_25 k_cl0 lx_37 ly_37 rb_0_3 ?_
      obtain ⟨x8, ix8, ex8, h⟩ := rdI_e h
      refine V.ialdX (pc := 52) dX0_takeBack_52 lx_40 ly_40 ix8 ex8 ?_
      obtain ⟨w9, iw9, ew9, h⟩ := wrI_e h
      refine V.iastX (pc := 53) dX0_takeBack_53 lx_38 ly_38 iw9 ew9 ?_
      refine V.aload_n (pc := 54) dX0_takeBack_54 rfl ?_
      refine V.dup (pc := 55) dX0_takeBack_55 rfl ?_
      refine V.getI (pc := 56) dX0_takeBack_56 f_RX0_21 k_cl0 lx_37 ly_37 rb_0_4 ?_
      refine V.iconst (pc := 59) dX0_takeBack_59 ic_1 ?_
      refine V.isub (pc := 60) dX0_takeBack_60 ?_
      obtain ⟨w10, ew10, h⟩ := letW_e h
      refine V.putIX (pc := 61) dX0_takeBack_61 f_RX0_21 k_cl0 lx_37 ly_37 rb_0_4 (fin_I (T0 := TX0) rfl rfl rfl) ew10 ?_
      refine V.aload_n (pc := 64) dX0_takeBack_64 rfl ?_
      refine V.getI (pc := 65) dX0_takeBack_65 f_RX0_21 k_cl0 lx_37 ly_37 rb_0_4 ?_
      obtain ⟨rfl, rfl⟩ := Prod.mk.inj (Option.some.inj h)
      exact V.iret (pc := 68) dX0_takeBack_68 rfl (Nat.le_refl _) (Nat.le_refl _)
theorem dX11_undo_0 : decode cX11_undo 0 = .ok (.aload_n 0, 1) := by decide +kernel
theorem dX11_undo_1 : decode cX11_undo 1 = .ok (.getfield 74, 3) := by decide +kernel
theorem dX11_undo_4 : decode cX11_undo 4 = .ok (.invokevirtual 156, 3) := by decide +kernel
theorem dX11_undo_7 : decode cX11_undo 7 = .ok (.ireturn, 1) := by decide +kernel
def f_X11_undo (w : Wd) : Option (Int32 × Wd) :=
  bnd2 (f_X0_takeBack  w) fun x1 w2 =>
  some (x1, w2)
set_option maxHeartbeats 4000000 in
set_option maxRecDepth 100000 in
theorem ok_X11_undo {G : GT} {d : Nat} (hd : 1 ≤ d) {w : Wd}  {r : Int32} {w' : Wd} (h : f_X11_undo  w = some (r, w')) : uC G yX11_undo mX11_undo d [.ref 0] w (some (.int r)) w' := by
  obtain ⟨d, rfl⟩ : ∃ e, d = e + 1 := ⟨d - 1, by omega⟩
  unfold f_X11_undo at h
  refine uC_of (lv := [some (.ref 0)]) 0 pn_X11 ⟨rfl, rfl⟩ (Nat.le_of_ble_eq_true rfl) rfl ?_
  refine V.aload_n (pc := 0) dX11_undo_0 rfl ?_
  refine V.getR (t := 37) (pc := 1) dX11_undo_1 f_RX11_74 k_cl11 lx_0 ly_0 rb_11_8 rr_0_8 ?_
  obtain ⟨x1, w2, ew2, h⟩ := bnd2_e h
  refine U.callV (pc := 4) (As := []) (st := []) dX11_undo_4 l_RX11_156 (ok_X0_takeBack (by omega)  ew2) lx_37 ly_37 cn_0 (Nat.le_of_ble_eq_true rfl) rfl rfl (Nat.le_of_ble_eq_true rfl) ?_
  obtain ⟨rfl, rfl⟩ := Prod.mk.inj (Option.some.inj h)
  exact V.iret (pc := 7) dX11_undo_7 rfl (Nat.le_refl _) (Nat.le_refl _)
theorem dX12_undo_0 : decode cX12_undo 0 = .ok (.aload_n 0, 1) := by decide +kernel
theorem dX12_undo_1 : decode cX12_undo 1 = .ok (.getfield 157, 3) := by decide +kernel
theorem dX12_undo_4 : decode cX12_undo 4 = .ok (.ifCond .ne 5, 3) := by decide +kernel
theorem dX12_undo_7 : decode cX12_undo 7 = .ok (.iconst (-1), 1) := by decide +kernel
theorem dX12_undo_8 : decode cX12_undo 8 = .ok (.ireturn, 1) := by decide +kernel
theorem dX12_undo_9 : decode cX12_undo 9 = .ok (.aload_n 0, 1) := by decide +kernel
theorem dX12_undo_10 : decode cX12_undo 10 = .ok (.dup, 1) := by decide +kernel
theorem dX12_undo_11 : decode cX12_undo 11 = .ok (.getfield 157, 3) := by decide +kernel
theorem dX12_undo_14 : decode cX12_undo 14 = .ok (.iconst 1, 1) := by decide +kernel
theorem dX12_undo_15 : decode cX12_undo 15 = .ok (.isub, 1) := by decide +kernel
theorem dX12_undo_16 : decode cX12_undo 16 = .ok (.putfield 157, 3) := by decide +kernel
theorem dX12_undo_19 : decode cX12_undo 19 = .ok (.iconst 0, 1) := by decide +kernel
theorem dX12_undo_20 : decode cX12_undo 20 = .ok (.istore_n 1, 1) := by decide +kernel
theorem dX12_undo_21 : decode cX12_undo 21 = .ok (.iload_n 1, 1) := by decide +kernel
theorem dX12_undo_22 : decode cX12_undo 22 = .ok (.bipush 20, 2) := by decide +kernel
theorem dX12_undo_24 : decode cX12_undo 24 = .ok (.if_icmp .ge 29, 3) := by decide +kernel
theorem dX12_undo_27 : decode cX12_undo 27 = .ok (.aload_n 0, 1) := by decide +kernel
theorem dX12_undo_28 : decode cX12_undo 28 = .ok (.getfield 42, 3) := by decide +kernel
theorem dX12_undo_31 : decode cX12_undo 31 = .ok (.iload_n 1, 1) := by decide +kernel
theorem dX12_undo_32 : decode cX12_undo 32 = .ok (.aload_n 0, 1) := by decide +kernel
theorem dX12_undo_33 : decode cX12_undo 33 = .ok (.getfield 45, 3) := by decide +kernel
theorem dX12_undo_36 : decode cX12_undo 36 = .ok (.bipush 20, 2) := by decide +kernel
theorem dX12_undo_38 : decode cX12_undo 38 = .ok (.aload_n 0, 1) := by decide +kernel
theorem dX12_undo_39 : decode cX12_undo 39 = .ok (.getfield 157, 3) := by decide +kernel
theorem dX12_undo_42 : decode cX12_undo 42 = .ok (.imul, 1) := by decide +kernel
theorem dX12_undo_43 : decode cX12_undo 43 = .ok (.iload_n 1, 1) := by decide +kernel
theorem dX12_undo_44 : decode cX12_undo 44 = .ok (.iadd, 1) := by decide +kernel
theorem dX12_undo_45 : decode cX12_undo 45 = .ok (.iaload, 1) := by decide +kernel
theorem dX12_undo_46 : decode cX12_undo 46 = .ok (.iastore, 1) := by decide +kernel
theorem dX12_undo_47 : decode cX12_undo 47 = .ok (.iinc 1 1, 3) := by decide +kernel
theorem dX12_undo_50 : decode cX12_undo 50 = .ok (.goto (-29), 3) := by decide +kernel
theorem dX12_undo_53 : decode cX12_undo 53 = .ok (.aload_n 0, 1) := by decide +kernel
theorem dX12_undo_54 : decode cX12_undo 54 = .ok (.getfield 157, 3) := by decide +kernel
theorem dX12_undo_57 : decode cX12_undo 57 = .ok (.ireturn, 1) := by decide +kernel
def f_X12_undo_B21b (k21 : Int32 → Wd → Option (Int32 × Wd)) (l1 : Int32) (w : Wd) : Option (Int32 × Wd) :=
  if 20 ≤ l1 then
    some ((w.1 44 15), w)
  else
    rdI w 55 240 ((20 * (w.1 44 15)) + l1) fun x1 =>
    wrI w 54 20 l1 x1 fun w2 =>
    k21 (l1 + 1) w2
def f_X12_undo_L21 (n : Nat) : Int32 → Wd → Option (Int32 × Wd) :=
  Nat.rec (fun _ _ => none) (fun _ k => f_X12_undo_B21b k) n
set_option maxHeartbeats 4000000 in
set_option maxRecDepth 100000 in
theorem t_X12_undo_L21 {G : GT} {d : Nat} (hd : 0 ≤ d)  : ∀ (n : Nat) (l1 : Int32) (w : Wd) (r : Int32) (w' : Wd), f_X12_undo_L21 n l1 w = some (r, w') → U (vf G mX12_undo d) 21 [some (.ref 44), some (.int l1)] [] w (some (.int r), 70, r0, w') := by
  intro n
  induction n with
  | zero => intro l1 w r w' h; cases h
  | succ n h21 =>
    intro l1 w r w' h
    have h : f_X12_undo_B21b (f_X12_undo_L21 n) l1 w = some (r, w') := h
    unfold f_X12_undo_B21b at h
    refine V.iload_n (pc := 21) dX12_undo_21 rfl ?_
    refine V.bipush (pc := 22) dX12_undo_22 bp_20 ?_
    rcases ite_e h with ⟨c, h⟩ | ⟨c, h⟩
    · refine V.icmp_ge_t (t := 53) (pc := 24) dX12_undo_24 (by decide) c ?_
      refine V.aload_n (pc := 53) dX12_undo_53 rfl ?_
      refine V.getI (pc := 54) dX12_undo_54 f_RX12_157 k_cl12 lx_44 ly_44 rb_12_15 ?_
      obtain ⟨rfl, rfl⟩ := Prod.mk.inj (Option.some.inj h)
      exact V.iret (pc := 57) dX12_undo_57 rfl (Nat.le_refl _) (Nat.le_refl _)
    · refine V.icmp_ge_f (t := 53) (pc := 24) dX12_undo_24 (by decide) c ?_
      refine V.aload_n (pc := 27) dX12_undo_27 rfl ?_
      refine V.getR (t := 54) (pc := 28) dX12_undo_28 f_RX12_42 k_cl12 lx_44 ly_44 rb_12_13 rr_44_13 ?_
      refine V.iload_n (pc := 31) dX12_undo_31 rfl ?_
      refine V.aload_n (pc := 32) dX12_undo_32 rfl ?_
      refine V.getR (t := 55) (pc := 33) dX12_undo_33 f_RX12_45 k_cl12 lx_44 ly_44 rb_12_14 rr_44_14 ?_
      refine V.bipush (pc := 36) dX12_undo_36 bp_20 ?_
      refine V.aload_n (pc := 38) dX12_undo_38 rfl ?_
      refine V.getI (pc := 39) dX12_undo_39 f_RX12_157 k_cl12 lx_44 ly_44 rb_12_15 ?_
      refine V.imul (pc := 42) dX12_undo_42 ?_
      refine V.iload_n (pc := 43) dX12_undo_43 rfl ?_
      refine V.iadd (pc := 44) dX12_undo_44 ?_
      obtain ⟨x1, ix1, ex1, h⟩ := rdI_e h
      refine V.ialdX (pc := 45) dX12_undo_45 lx_55 ly_55 ix1 ex1 ?_
      obtain ⟨w2, iw2, ew2, h⟩ := wrI_e h
      refine V.iastX (pc := 46) dX12_undo_46 lx_54 ly_54 iw2 ew2 ?_
      refine V.iinc (lv' := [some (.ref 44), some (.int (l1 + 1))]) (pc := 47) dX12_undo_47 (Nat.le_of_ble_eq_true rfl) rfl rfl (v := (l1 + 1)) (by rw [show Int32.ofInt 1 = 1 from by decide]) rfl ?_
      refine V.goto (t := 21) (pc := 50) dX12_undo_50 (by decide) ?_
      exact h21 (l1 + 1) w2 _ _ h
def f_X12_undo (w : Wd) : Option (Int32 × Wd) :=
  if (w.1 44 15) = 0 then
    some ((-1), w)
  else
    letW (sI w 44 15 ((w.1 44 15) - 1)) fun w1 =>
    f_X12_undo_L21  FU 0 w1
set_option maxHeartbeats 4000000 in
set_option maxRecDepth 100000 in
theorem ok_X12_undo {G : GT} {d : Nat} (hd : 0 ≤ d) {w : Wd}  {r : Int32} {w' : Wd} (h : f_X12_undo  w = some (r, w')) : uC G yX12_undo mX12_undo d [.ref 44] w (some (.int r)) w' := by
  unfold f_X12_undo at h
  refine uC_of (lv := [some (.ref 44), none]) 1 pn_X12 ⟨rfl, rfl⟩ (Nat.le_of_ble_eq_true rfl) rfl ?_
  refine V.aload_n (pc := 0) dX12_undo_0 rfl ?_
  refine V.getI (pc := 1) dX12_undo_1 f_RX12_157 k_cl12 lx_44 ly_44 rb_12_15 ?_
  rcases ite_e h with ⟨c, h⟩ | ⟨c, h⟩
  · refine V.if_ne_f (t := 9) (pc := 4) dX12_undo_4 (by decide) c ?_
    refine V.iconst (pc := 7) dX12_undo_7 ic_m1 ?_
    obtain ⟨rfl, rfl⟩ := Prod.mk.inj (Option.some.inj h)
    exact V.iret (pc := 8) dX12_undo_8 rfl (Nat.le_refl _) (Nat.le_refl _)
  · refine V.if_ne_t (t := 9) (pc := 4) dX12_undo_4 (by decide) c ?_
    refine V.aload_n (pc := 9) dX12_undo_9 rfl ?_
    refine V.dup (pc := 10) dX12_undo_10 rfl ?_
    refine V.getI (pc := 11) dX12_undo_11 f_RX12_157 k_cl12 lx_44 ly_44 rb_12_15 ?_
    refine V.iconst (pc := 14) dX12_undo_14 ic_1 ?_
    refine V.isub (pc := 15) dX12_undo_15 ?_
    obtain ⟨w1, ew1, h⟩ := letW_e h
    refine V.putIX (pc := 16) dX12_undo_16 f_RX12_157 k_cl12 lx_44 ly_44 rb_12_15 (fin_I (T0 := TX12) rfl rfl rfl) ew1 ?_
    refine V.iconst (pc := 19) dX12_undo_19 ic_0 ?_
    refine V.istore_n (lv' := [some (.ref 44), some (.int 0)]) (pc := 20) dX12_undo_20 (Nat.le_of_ble_eq_true rfl) rfl rfl ?_
    exact t_X12_undo_L21 hd FU 0 w1 _ _ h
theorem dX11_product_0 : decode cX11_product 0 = .ok (.aload_n 0, 1) := by decide +kernel
theorem dX11_product_1 : decode cX11_product 1 = .ok (.getfield 28, 3) := by decide +kernel
theorem dX11_product_4 : decode cX11_product 4 = .ok (.iload_n 1, 1) := by decide +kernel
theorem dX11_product_5 : decode cX11_product 5 = .ok (.invokevirtual 107, 3) := by decide +kernel
theorem dX11_product_8 : decode cX11_product 8 = .ok (.ifCond .eq 26, 3) := by decide +kernel
theorem dX11_product_11 : decode cX11_product 11 = .ok (.aload_n 0, 1) := by decide +kernel
theorem dX11_product_12 : decode cX11_product 12 = .ok (.getfield 28, 3) := by decide +kernel
theorem dX11_product_15 : decode cX11_product 15 = .ok (.iload_n 2, 1) := by decide +kernel
theorem dX11_product_16 : decode cX11_product 16 = .ok (.invokevirtual 107, 3) := by decide +kernel
theorem dX11_product_19 : decode cX11_product 19 = .ok (.ifCond .eq 15, 3) := by decide +kernel
theorem dX11_product_22 : decode cX11_product 22 = .ok (.aload_n 0, 1) := by decide +kernel
theorem dX11_product_23 : decode cX11_product 23 = .ok (.getfield 28, 3) := by decide +kernel
theorem dX11_product_26 : decode cX11_product 26 = .ok (.iload_n 1, 1) := by decide +kernel
theorem dX11_product_27 : decode cX11_product 27 = .ok (.iload_n 2, 1) := by decide +kernel
theorem dX11_product_28 : decode cX11_product 28 = .ok (.invokevirtual 159, 3) := by decide +kernel
theorem dX11_product_31 : decode cX11_product 31 = .ok (.goto 4, 3) := by decide +kernel
theorem dX11_product_34 : decode cX11_product 34 = .ok (.iconst (-1), 1) := by decide +kernel
theorem dX11_product_35 : decode cX11_product 35 = .ok (.ireturn, 1) := by decide +kernel
def f_X11_product (l1 : Int32) (l2 : Int32) (w : Wd) : Option Int32 :=
  if (f_X4_holds l1 w) = 0 then
    some (-1)
  else
    if (f_X4_holds l2 w) = 0 then
      some (-1)
    else
      bnd (f_X4_times l1 l2 w) fun x1 =>
      some x1
set_option maxHeartbeats 4000000 in
set_option maxRecDepth 100000 in
theorem ok_X11_product {G : GT} {d : Nat} (hd : 1 ≤ d) {w : Wd} (l1 : Int32) (l2 : Int32) {r : Int32} (h : f_X11_product l1 l2 w = some r) : uC G yX11_product mX11_product d [.ref 0, .int l1, .int l2] w (some (.int r)) w := by
  obtain ⟨d, rfl⟩ : ∃ e, d = e + 1 := ⟨d - 1, by omega⟩
  unfold f_X11_product at h
  refine uC_of (lv := [some (.ref 0), some (.int l1), some (.int l2)]) 0 pn_X11 ⟨rfl, rfl⟩ (Nat.le_of_ble_eq_true rfl) rfl ?_
  refine V.aload_n (pc := 0) dX11_product_0 rfl ?_
  refine V.getR (t := 6) (pc := 1) dX11_product_1 f_RX11_28 k_cl11 lx_0 ly_0 rb_11_2 rr_0_2 ?_
  refine V.iload_n (pc := 4) dX11_product_4 rfl ?_
  refine U.callV (pc := 5) (As := [.int l1]) (st := []) dX11_product_5 l_RX11_107 (ok_X4_holds (by omega) l1 ) lx_6 ly_6 cn_4 (Nat.le_of_ble_eq_true rfl) rfl rfl (Nat.le_of_ble_eq_true rfl) ?_
  rcases ite_e h with ⟨c, h⟩ | ⟨c, h⟩
  · refine V.if_eq_t (t := 34) (pc := 8) dX11_product_8 (by decide) c ?_
    refine V.iconst (pc := 34) dX11_product_34 ic_m1 ?_
    obtain rfl := Option.some.inj h
    exact V.iret (pc := 35) dX11_product_35 rfl (Nat.le_refl _) (Nat.le_refl _)
  · refine V.if_eq_f (t := 34) (pc := 8) dX11_product_8 (by decide) c ?_
    refine V.aload_n (pc := 11) dX11_product_11 rfl ?_
    refine V.getR (t := 6) (pc := 12) dX11_product_12 f_RX11_28 k_cl11 lx_0 ly_0 rb_11_2 rr_0_2 ?_
    refine V.iload_n (pc := 15) dX11_product_15 rfl ?_
    refine U.callV (pc := 16) (As := [.int l2]) (st := []) dX11_product_16 l_RX11_107 (ok_X4_holds (by omega) l2 ) lx_6 ly_6 cn_4 (Nat.le_of_ble_eq_true rfl) rfl rfl (Nat.le_of_ble_eq_true rfl) ?_
    rcases ite_e h with ⟨c, h⟩ | ⟨c, h⟩
    · refine V.if_eq_t (t := 34) (pc := 19) dX11_product_19 (by decide) c ?_
      refine V.iconst (pc := 34) dX11_product_34 ic_m1 ?_
      obtain rfl := Option.some.inj h
      exact V.iret (pc := 35) dX11_product_35 rfl (Nat.le_refl _) (Nat.le_refl _)
    · refine V.if_eq_f (t := 34) (pc := 19) dX11_product_19 (by decide) c ?_
      refine V.aload_n (pc := 22) dX11_product_22 rfl ?_
      refine V.getR (t := 6) (pc := 23) dX11_product_23 f_RX11_28 k_cl11 lx_0 ly_0 rb_11_2 rr_0_2 ?_
      refine V.iload_n (pc := 26) dX11_product_26 rfl ?_
      refine V.iload_n (pc := 27) dX11_product_27 rfl ?_
      obtain ⟨x1, ex1, h⟩ := bnd_e h
      refine U.callV (pc := 28) (As := [.int l1, .int l2]) (st := []) dX11_product_28 l_RX11_159 (ok_X4_times (by omega) l1 l2 ex1) lx_6 ly_6 cn_4 (Nat.le_of_ble_eq_true rfl) rfl rfl (Nat.le_of_ble_eq_true rfl) ?_
      refine V.goto (t := 35) (pc := 31) dX11_product_31 (by decide) ?_
      obtain rfl := Option.some.inj h
      exact V.iret (pc := 35) dX11_product_35 rfl (Nat.le_refl _) (Nat.le_refl _)
theorem dX12_product_0 : decode cX12_product 0 = .ok (.aload_n 0, 1) := by decide +kernel
theorem dX12_product_1 : decode cX12_product 1 = .ok (.iload_n 1, 1) := by decide +kernel
theorem dX12_product_2 : decode cX12_product 2 = .ok (.invokevirtual 163, 3) := by decide +kernel
theorem dX12_product_5 : decode cX12_product 5 = .ok (.ifCond .eq 20, 3) := by decide +kernel
theorem dX12_product_8 : decode cX12_product 8 = .ok (.aload_n 0, 1) := by decide +kernel
theorem dX12_product_9 : decode cX12_product 9 = .ok (.iload_n 2, 1) := by decide +kernel
theorem dX12_product_10 : decode cX12_product 10 = .ok (.invokevirtual 163, 3) := by decide +kernel
theorem dX12_product_13 : decode cX12_product 13 = .ok (.ifCond .eq 12, 3) := by decide +kernel
theorem dX12_product_16 : decode cX12_product 16 = .ok (.aload_n 0, 1) := by decide +kernel
theorem dX12_product_17 : decode cX12_product 17 = .ok (.iload_n 1, 1) := by decide +kernel
theorem dX12_product_18 : decode cX12_product 18 = .ok (.iload_n 2, 1) := by decide +kernel
theorem dX12_product_19 : decode cX12_product 19 = .ok (.invokevirtual 119, 3) := by decide +kernel
theorem dX12_product_22 : decode cX12_product 22 = .ok (.goto 4, 3) := by decide +kernel
theorem dX12_product_25 : decode cX12_product 25 = .ok (.iconst (-1), 1) := by decide +kernel
theorem dX12_product_26 : decode cX12_product 26 = .ok (.ireturn, 1) := by decide +kernel
def f_X12_product (l1 : Int32) (l2 : Int32) (w : Wd) : Option Int32 :=
  if (f_X12_isElement l1 w) = 0 then
    some (-1)
  else
    if (f_X12_isElement l2 w) = 0 then
      some (-1)
    else
      bnd (f_X12_product0 l1 l2 w) fun x1 =>
      some x1
set_option maxHeartbeats 4000000 in
set_option maxRecDepth 100000 in
theorem ok_X12_product {G : GT} {d : Nat} (hd : 2 ≤ d) {w : Wd} (l1 : Int32) (l2 : Int32) {r : Int32} (h : f_X12_product l1 l2 w = some r) : uC G yX12_product mX12_product d [.ref 44, .int l1, .int l2] w (some (.int r)) w := by
  obtain ⟨d, rfl⟩ : ∃ e, d = e + 1 := ⟨d - 1, by omega⟩
  unfold f_X12_product at h
  refine uC_of (lv := [some (.ref 44), some (.int l1), some (.int l2)]) 0 pn_X12 ⟨rfl, rfl⟩ (Nat.le_of_ble_eq_true rfl) rfl ?_
  refine V.aload_n (pc := 0) dX12_product_0 rfl ?_
  refine V.iload_n (pc := 1) dX12_product_1 rfl ?_
  refine U.callV (pc := 2) (As := [.int l1]) (st := []) dX12_product_2 l_RX12_163 (ok_X12_isElement (by omega) l1 ) lx_44 ly_44 cn_12 (Nat.le_of_ble_eq_true rfl) rfl rfl (Nat.le_of_ble_eq_true rfl) ?_
  rcases ite_e h with ⟨c, h⟩ | ⟨c, h⟩
  · refine V.if_eq_t (t := 25) (pc := 5) dX12_product_5 (by decide) c ?_
    refine V.iconst (pc := 25) dX12_product_25 ic_m1 ?_
    obtain rfl := Option.some.inj h
    exact V.iret (pc := 26) dX12_product_26 rfl (Nat.le_refl _) (Nat.le_refl _)
  · refine V.if_eq_f (t := 25) (pc := 5) dX12_product_5 (by decide) c ?_
    refine V.aload_n (pc := 8) dX12_product_8 rfl ?_
    refine V.iload_n (pc := 9) dX12_product_9 rfl ?_
    refine U.callV (pc := 10) (As := [.int l2]) (st := []) dX12_product_10 l_RX12_163 (ok_X12_isElement (by omega) l2 ) lx_44 ly_44 cn_12 (Nat.le_of_ble_eq_true rfl) rfl rfl (Nat.le_of_ble_eq_true rfl) ?_
    rcases ite_e h with ⟨c, h⟩ | ⟨c, h⟩
    · refine V.if_eq_t (t := 25) (pc := 13) dX12_product_13 (by decide) c ?_
      refine V.iconst (pc := 25) dX12_product_25 ic_m1 ?_
      obtain rfl := Option.some.inj h
      exact V.iret (pc := 26) dX12_product_26 rfl (Nat.le_refl _) (Nat.le_refl _)
    · refine V.if_eq_f (t := 25) (pc := 13) dX12_product_13 (by decide) c ?_
      refine V.aload_n (pc := 16) dX12_product_16 rfl ?_
      refine V.iload_n (pc := 17) dX12_product_17 rfl ?_
      refine V.iload_n (pc := 18) dX12_product_18 rfl ?_
      obtain ⟨x1, ex1, h⟩ := bnd_e h
      refine U.callV (pc := 19) (As := [.int l1, .int l2]) (st := []) dX12_product_19 l_RX12_119 (ok_X12_product0 (by omega) l1 l2 ex1) lx_44 ly_44 cn_12 (Nat.le_of_ble_eq_true rfl) rfl rfl (Nat.le_of_ble_eq_true rfl) ?_
      refine V.goto (t := 26) (pc := 22) dX12_product_22 (by decide) ?_
      obtain rfl := Option.some.inj h
      exact V.iret (pc := 26) dX12_product_26 rfl (Nat.le_refl _) (Nat.le_refl _)
theorem dX11_inverse_0 : decode cX11_inverse 0 = .ok (.aload_n 0, 1) := by decide +kernel
theorem dX11_inverse_1 : decode cX11_inverse 1 = .ok (.getfield 28, 3) := by decide +kernel
theorem dX11_inverse_4 : decode cX11_inverse 4 = .ok (.iload_n 1, 1) := by decide +kernel
theorem dX11_inverse_5 : decode cX11_inverse 5 = .ok (.invokevirtual 107, 3) := by decide +kernel
theorem dX11_inverse_8 : decode cX11_inverse 8 = .ok (.ifCond .eq 14, 3) := by decide +kernel
theorem dX11_inverse_11 : decode cX11_inverse 11 = .ok (.aload_n 0, 1) := by decide +kernel
theorem dX11_inverse_12 : decode cX11_inverse 12 = .ok (.getfield 28, 3) := by decide +kernel
theorem dX11_inverse_15 : decode cX11_inverse 15 = .ok (.iload_n 1, 1) := by decide +kernel
theorem dX11_inverse_16 : decode cX11_inverse 16 = .ok (.invokevirtual 162, 3) := by decide +kernel
theorem dX11_inverse_19 : decode cX11_inverse 19 = .ok (.goto 4, 3) := by decide +kernel
theorem dX11_inverse_22 : decode cX11_inverse 22 = .ok (.iconst (-1), 1) := by decide +kernel
theorem dX11_inverse_23 : decode cX11_inverse 23 = .ok (.ireturn, 1) := by decide +kernel
def f_X11_inverse (l1 : Int32) (w : Wd) : Option Int32 :=
  if (f_X4_holds l1 w) = 0 then
    some (-1)
  else
    bnd (f_X4_inverseOf l1 w) fun x1 =>
    some x1
set_option maxHeartbeats 4000000 in
set_option maxRecDepth 100000 in
theorem ok_X11_inverse {G : GT} {d : Nat} (hd : 1 ≤ d) {w : Wd} (l1 : Int32) {r : Int32} (h : f_X11_inverse l1 w = some r) : uC G yX11_inverse mX11_inverse d [.ref 0, .int l1] w (some (.int r)) w := by
  obtain ⟨d, rfl⟩ : ∃ e, d = e + 1 := ⟨d - 1, by omega⟩
  unfold f_X11_inverse at h
  refine uC_of (lv := [some (.ref 0), some (.int l1)]) 0 pn_X11 ⟨rfl, rfl⟩ (Nat.le_of_ble_eq_true rfl) rfl ?_
  refine V.aload_n (pc := 0) dX11_inverse_0 rfl ?_
  refine V.getR (t := 6) (pc := 1) dX11_inverse_1 f_RX11_28 k_cl11 lx_0 ly_0 rb_11_2 rr_0_2 ?_
  refine V.iload_n (pc := 4) dX11_inverse_4 rfl ?_
  refine U.callV (pc := 5) (As := [.int l1]) (st := []) dX11_inverse_5 l_RX11_107 (ok_X4_holds (by omega) l1 ) lx_6 ly_6 cn_4 (Nat.le_of_ble_eq_true rfl) rfl rfl (Nat.le_of_ble_eq_true rfl) ?_
  rcases ite_e h with ⟨c, h⟩ | ⟨c, h⟩
  · refine V.if_eq_t (t := 22) (pc := 8) dX11_inverse_8 (by decide) c ?_
    refine V.iconst (pc := 22) dX11_inverse_22 ic_m1 ?_
    obtain rfl := Option.some.inj h
    exact V.iret (pc := 23) dX11_inverse_23 rfl (Nat.le_refl _) (Nat.le_refl _)
  · refine V.if_eq_f (t := 22) (pc := 8) dX11_inverse_8 (by decide) c ?_
    refine V.aload_n (pc := 11) dX11_inverse_11 rfl ?_
    refine V.getR (t := 6) (pc := 12) dX11_inverse_12 f_RX11_28 k_cl11 lx_0 ly_0 rb_11_2 rr_0_2 ?_
    refine V.iload_n (pc := 15) dX11_inverse_15 rfl ?_
    obtain ⟨x1, ex1, h⟩ := bnd_e h
    refine U.callV (pc := 16) (As := [.int l1]) (st := []) dX11_inverse_16 l_RX11_162 (ok_X4_inverseOf (by omega) l1 ex1) lx_6 ly_6 cn_4 (Nat.le_of_ble_eq_true rfl) rfl rfl (Nat.le_of_ble_eq_true rfl) ?_
    refine V.goto (t := 23) (pc := 19) dX11_inverse_19 (by decide) ?_
    obtain rfl := Option.some.inj h
    exact V.iret (pc := 23) dX11_inverse_23 rfl (Nat.le_refl _) (Nat.le_refl _)
theorem dX12_inverse_0 : decode cX12_inverse 0 = .ok (.aload_n 0, 1) := by decide +kernel
theorem dX12_inverse_1 : decode cX12_inverse 1 = .ok (.iload_n 1, 1) := by decide +kernel
theorem dX12_inverse_2 : decode cX12_inverse 2 = .ok (.invokevirtual 163, 3) := by decide +kernel
theorem dX12_inverse_5 : decode cX12_inverse 5 = .ok (.ifCond .eq 12, 3) := by decide +kernel
theorem dX12_inverse_8 : decode cX12_inverse 8 = .ok (.aload_n 0, 1) := by decide +kernel
theorem dX12_inverse_9 : decode cX12_inverse 9 = .ok (.getfield 23, 3) := by decide +kernel
theorem dX12_inverse_12 : decode cX12_inverse 12 = .ok (.iload_n 1, 1) := by decide +kernel
theorem dX12_inverse_13 : decode cX12_inverse 13 = .ok (.iaload, 1) := by decide +kernel
theorem dX12_inverse_14 : decode cX12_inverse 14 = .ok (.goto 4, 3) := by decide +kernel
theorem dX12_inverse_17 : decode cX12_inverse 17 = .ok (.iconst (-1), 1) := by decide +kernel
theorem dX12_inverse_18 : decode cX12_inverse 18 = .ok (.ireturn, 1) := by decide +kernel
def f_X12_inverse (l1 : Int32) (w : Wd) : Option Int32 :=
  if (f_X12_isElement l1 w) = 0 then
    some (-1)
  else
    rdI w 48 16 l1 fun x1 =>
    some x1
set_option maxHeartbeats 4000000 in
set_option maxRecDepth 100000 in
theorem ok_X12_inverse {G : GT} {d : Nat} (hd : 2 ≤ d) {w : Wd} (l1 : Int32) {r : Int32} (h : f_X12_inverse l1 w = some r) : uC G yX12_inverse mX12_inverse d [.ref 44, .int l1] w (some (.int r)) w := by
  obtain ⟨d, rfl⟩ : ∃ e, d = e + 1 := ⟨d - 1, by omega⟩
  unfold f_X12_inverse at h
  refine uC_of (lv := [some (.ref 44), some (.int l1)]) 0 pn_X12 ⟨rfl, rfl⟩ (Nat.le_of_ble_eq_true rfl) rfl ?_
  refine V.aload_n (pc := 0) dX12_inverse_0 rfl ?_
  refine V.iload_n (pc := 1) dX12_inverse_1 rfl ?_
  refine U.callV (pc := 2) (As := [.int l1]) (st := []) dX12_inverse_2 l_RX12_163 (ok_X12_isElement (by omega) l1 ) lx_44 ly_44 cn_12 (Nat.le_of_ble_eq_true rfl) rfl rfl (Nat.le_of_ble_eq_true rfl) ?_
  rcases ite_e h with ⟨c, h⟩ | ⟨c, h⟩
  · refine V.if_eq_t (t := 17) (pc := 5) dX12_inverse_5 (by decide) c ?_
    refine V.iconst (pc := 17) dX12_inverse_17 ic_m1 ?_
    obtain rfl := Option.some.inj h
    exact V.iret (pc := 18) dX12_inverse_18 rfl (Nat.le_refl _) (Nat.le_refl _)
  · refine V.if_eq_f (t := 17) (pc := 5) dX12_inverse_5 (by decide) c ?_
    refine V.aload_n (pc := 8) dX12_inverse_8 rfl ?_
    refine V.getR (t := 48) (pc := 9) dX12_inverse_9 f_RX12_23 k_cl12 lx_44 ly_44 rb_12_6 rr_44_6 ?_
    refine V.iload_n (pc := 12) dX12_inverse_12 rfl ?_
    obtain ⟨x1, ix1, ex1, h⟩ := rdI_e h
    refine V.ialdX (pc := 13) dX12_inverse_13 lx_48 ly_48 ix1 ex1 ?_
    refine V.goto (t := 18) (pc := 14) dX12_inverse_14 (by decide) ?_
    obtain rfl := Option.some.inj h
    exact V.iret (pc := 18) dX12_inverse_18 rfl (Nat.le_refl _) (Nat.le_refl _)
theorem dX4_spanOf_0 : decode cX4_spanOf 0 = .ok (.iconst 1, 1) := by decide +kernel
theorem dX4_spanOf_1 : decode cX4_spanOf 1 = .ok (.istore_n 2, 1) := by decide +kernel
theorem dX4_spanOf_2 : decode cX4_spanOf 2 = .ok (.iconst 1, 1) := by decide +kernel
theorem dX4_spanOf_3 : decode cX4_spanOf 3 = .ok (.istore_n 3, 1) := by decide +kernel
theorem dX4_spanOf_4 : decode cX4_spanOf 4 = .ok (.aload_n 0, 1) := by decide +kernel
theorem dX4_spanOf_5 : decode cX4_spanOf 5 = .ok (.getfield 24, 3) := by decide +kernel
theorem dX4_spanOf_8 : decode cX4_spanOf 8 = .ok (.iconst 0, 1) := by decide +kernel
theorem dX4_spanOf_9 : decode cX4_spanOf 9 = .ok (.iconst 0, 1) := by decide +kernel
theorem dX4_spanOf_10 : decode cX4_spanOf 10 = .ok (.iastore, 1) := by decide +kernel
theorem dX4_spanOf_11 : decode cX4_spanOf 11 = .ok (.iconst 0, 1) := by decide +kernel
theorem dX4_spanOf_12 : decode cX4_spanOf 12 = .ok (.istore 4, 2) := by decide +kernel
theorem dX4_spanOf_14 : decode cX4_spanOf 14 = .ok (.iload 4, 2) := by decide +kernel
theorem dX4_spanOf_16 : decode cX4_spanOf 16 = .ok (.iload_n 3, 1) := by decide +kernel
theorem dX4_spanOf_17 : decode cX4_spanOf 17 = .ok (.if_icmp .ge 82, 3) := by decide +kernel
theorem dX4_spanOf_20 : decode cX4_spanOf 20 = .ok (.iload 4, 2) := by decide +kernel
theorem dX4_spanOf_22 : decode cX4_spanOf 22 = .ok (.bipush 16, 2) := by decide +kernel
theorem dX4_spanOf_24 : decode cX4_spanOf 24 = .ok (.if_icmp .ge 75, 3) := by decide +kernel
theorem dX4_spanOf_27 : decode cX4_spanOf 27 = .ok (.aload_n 0, 1) := by decide +kernel
theorem dX4_spanOf_28 : decode cX4_spanOf 28 = .ok (.aload_n 0, 1) := by decide +kernel
theorem dX4_spanOf_29 : decode cX4_spanOf 29 = .ok (.getfield 24, 3) := by decide +kernel
theorem dX4_spanOf_32 : decode cX4_spanOf 32 = .ok (.iload 4, 2) := by decide +kernel
theorem dX4_spanOf_34 : decode cX4_spanOf 34 = .ok (.iaload, 1) := by decide +kernel
theorem dX4_spanOf_35 : decode cX4_spanOf 35 = .ok (.iload_n 1, 1) := by decide +kernel
theorem dX4_spanOf_36 : decode cX4_spanOf 36 = .ok (.iconst 1, 1) := by decide +kernel
theorem dX4_spanOf_37 : decode cX4_spanOf 37 = .ok (.invokevirtual 80, 3) := by decide +kernel
theorem dX4_spanOf_40 : decode cX4_spanOf 40 = .ok (.iload_n 2, 1) := by decide +kernel
theorem dX4_spanOf_41 : decode cX4_spanOf 41 = .ok (.iconst (-1), 1) := by decide +kernel
theorem dX4_spanOf_42 : decode cX4_spanOf 42 = .ok (.ixor, 1) := by decide +kernel
theorem dX4_spanOf_43 : decode cX4_spanOf 43 = .ok (.iand, 1) := by decide +kernel
theorem dX4_spanOf_44 : decode cX4_spanOf 44 = .ok (.istore 5, 2) := by decide +kernel
theorem dX4_spanOf_46 : decode cX4_spanOf 46 = .ok (.iload_n 2, 1) := by decide +kernel
theorem dX4_spanOf_47 : decode cX4_spanOf 47 = .ok (.iload 5, 2) := by decide +kernel
theorem dX4_spanOf_49 : decode cX4_spanOf 49 = .ok (.ior, 1) := by decide +kernel
theorem dX4_spanOf_50 : decode cX4_spanOf 50 = .ok (.istore_n 2, 1) := by decide +kernel
theorem dX4_spanOf_51 : decode cX4_spanOf 51 = .ok (.iconst 0, 1) := by decide +kernel
theorem dX4_spanOf_52 : decode cX4_spanOf 52 = .ok (.istore 6, 2) := by decide +kernel
theorem dX4_spanOf_54 : decode cX4_spanOf 54 = .ok (.iload 6, 2) := by decide +kernel
theorem dX4_spanOf_56 : decode cX4_spanOf 56 = .ok (.aload_n 0, 1) := by decide +kernel
theorem dX4_spanOf_57 : decode cX4_spanOf 57 = .ok (.getfield 30, 3) := by decide +kernel
theorem dX4_spanOf_60 : decode cX4_spanOf 60 = .ok (.if_icmp .ge 33, 3) := by decide +kernel
theorem dX4_spanOf_63 : decode cX4_spanOf 63 = .ok (.iload 5, 2) := by decide +kernel
theorem dX4_spanOf_65 : decode cX4_spanOf 65 = .ok (.iload 6, 2) := by decide +kernel
theorem dX4_spanOf_67 : decode cX4_spanOf 67 = .ok (.ishr, 1) := by decide +kernel
theorem dX4_spanOf_68 : decode cX4_spanOf 68 = .ok (.iconst 1, 1) := by decide +kernel
theorem dX4_spanOf_69 : decode cX4_spanOf 69 = .ok (.iand, 1) := by decide +kernel
theorem dX4_spanOf_70 : decode cX4_spanOf 70 = .ok (.ifCond .eq 17, 3) := by decide +kernel
theorem dX4_spanOf_73 : decode cX4_spanOf 73 = .ok (.aload_n 0, 1) := by decide +kernel
theorem dX4_spanOf_74 : decode cX4_spanOf 74 = .ok (.getfield 24, 3) := by decide +kernel
theorem dX4_spanOf_77 : decode cX4_spanOf 77 = .ok (.iload_n 3, 1) := by decide +kernel
theorem dX4_spanOf_78 : decode cX4_spanOf 78 = .ok (.bipush 15, 2) := by decide +kernel
theorem dX4_spanOf_80 : decode cX4_spanOf 80 = .ok (.iand, 1) := by decide +kernel
theorem dX4_spanOf_81 : decode cX4_spanOf 81 = .ok (.iload 6, 2) := by decide +kernel
theorem dX4_spanOf_83 : decode cX4_spanOf 83 = .ok (.iastore, 1) := by decide +kernel
theorem dX4_spanOf_84 : decode cX4_spanOf 84 = .ok (.iinc 3 1, 3) := by decide +kernel
theorem dX4_spanOf_87 : decode cX4_spanOf 87 = .ok (.iinc 6 1, 3) := by decide +kernel
theorem dX4_spanOf_90 : decode cX4_spanOf 90 = .ok (.goto (-36), 3) := by decide +kernel
theorem dX4_spanOf_93 : decode cX4_spanOf 93 = .ok (.iinc 4 1, 3) := by decide +kernel
theorem dX4_spanOf_96 : decode cX4_spanOf 96 = .ok (.goto (-82), 3) := by decide +kernel
theorem dX4_spanOf_99 : decode cX4_spanOf 99 = .ok (.iload_n 2, 1) := by decide +kernel
theorem dX4_spanOf_100 : decode cX4_spanOf 100 = .ok (.ireturn, 1) := by decide +kernel
def f_X4_spanOf_B54b (k14 : Int32 → Int32 → Int32 → Int32 → Wd → Option (Int32 × Wd)) (k54 : Int32 → Int32 → Int32 → Int32 → Int32 → Int32 → Wd → Option (Int32 × Wd)) (l1 : Int32) (l2 : Int32) (l3 : Int32) (l4 : Int32) (l5 : Int32) (l6 : Int32) (w : Wd) : Option (Int32 × Wd) :=
  if (w.1 6 7) ≤ l6 then
    k14 l1 l2 l3 (l4 + 1) w
  else
    if ((l5 >>> (l6 &&& 31)) &&& 1) = 0 then
      k54 l1 l2 l3 l4 l5 (l6 + 1) w
    else
      wrI w 11 16 (l3 &&& 15) l6 fun w1 =>
      k54 l1 l2 (l3 + 1) l4 l5 (l6 + 1) w1
def f_X4_spanOf_L54 (k14 : Int32 → Int32 → Int32 → Int32 → Wd → Option (Int32 × Wd)) (n : Nat) : Int32 → Int32 → Int32 → Int32 → Int32 → Int32 → Wd → Option (Int32 × Wd) :=
  Nat.rec (fun _ _ _ _ _ _ _ => none) (fun _ k => f_X4_spanOf_B54b k14 k) n
set_option maxHeartbeats 4000000 in
set_option maxRecDepth 100000 in
theorem t_X4_spanOf_L54 {G : GT} {d : Nat} {k14 : Int32 → Int32 → Int32 → Int32 → Wd → Option (Int32 × Wd)} (hd : 2 ≤ d + 1) (h14 : ∀ (l1 : Int32) (l2 : Int32) (l3 : Int32) (l4 : Int32) (w : Wd) (r : Int32) (w' : Wd), k14 l1 l2 l3 l4 w = some (r, w') → U (vf G mX4_spanOf (d + 1)) 14 [some (.ref 6), some (.int l1), some (.int l2), some (.int l3), some (.int l4), none, none] [] w (some (.int r), 70, r0, w')) : ∀ (n : Nat) (l1 : Int32) (l2 : Int32) (l3 : Int32) (l4 : Int32) (l5 : Int32) (l6 : Int32) (w : Wd) (r : Int32) (w' : Wd), f_X4_spanOf_L54 k14 n l1 l2 l3 l4 l5 l6 w = some (r, w') → U (vf G mX4_spanOf (d + 1)) 54 [some (.ref 6), some (.int l1), some (.int l2), some (.int l3), some (.int l4), some (.int l5), some (.int l6)] [] w (some (.int r), 70, r0, w') := by
  intro n
  induction n with
  | zero => intro l1 l2 l3 l4 l5 l6 w r w' h; cases h
  | succ n h54 =>
    intro l1 l2 l3 l4 l5 l6 w r w' h
    have h : f_X4_spanOf_B54b k14 (f_X4_spanOf_L54 k14 n) l1 l2 l3 l4 l5 l6 w = some (r, w') := h
    unfold f_X4_spanOf_B54b at h
    refine V.iload (pc := 54) dX4_spanOf_54 rfl ?_
    refine V.aload_n (pc := 56) dX4_spanOf_56 rfl ?_
    refine V.getI (pc := 57) dX4_spanOf_57 f_RX4_30 k_cl4 lx_6 ly_6 rb_4_7 ?_
    rcases ite_e h with ⟨c, h⟩ | ⟨c, h⟩
    · refine V.icmp_ge_t (t := 93) (pc := 60) dX4_spanOf_60 (by decide) c ?_
      refine V.iinc (lv' := [some (.ref 6), some (.int l1), some (.int l2), some (.int l3), some (.int (l4 + 1)), some (.int l5), some (.int l6)]) (pc := 93) dX4_spanOf_93 (Nat.le_of_ble_eq_true rfl) rfl rfl (v := (l4 + 1)) (by rw [show Int32.ofInt 1 = 1 from by decide]) rfl ?_
      refine V.goto (t := 14) (pc := 96) dX4_spanOf_96 (by decide) ?_
      refine V.weak (lv' := [some (.ref 6), some (.int l1), some (.int l2), some (.int l3), some (.int (l4 + 1)), none, none]) (And.intro rfl (And.intro rfl (And.intro rfl (And.intro rfl (And.intro rfl trivial))))) ?_
      exact h14 l1 l2 l3 (l4 + 1) w _ _ h
    · refine V.icmp_ge_f (t := 93) (pc := 60) dX4_spanOf_60 (by decide) c ?_
      refine V.iload (pc := 63) dX4_spanOf_63 rfl ?_
      refine V.iload (pc := 65) dX4_spanOf_65 rfl ?_
      refine V.ishr (pc := 67) dX4_spanOf_67 ?_
      refine V.iconst (pc := 68) dX4_spanOf_68 ic_1 ?_
      refine V.iand (pc := 69) dX4_spanOf_69 ?_
      rcases ite_e h with ⟨c, h⟩ | ⟨c, h⟩
      · refine V.if_eq_t (t := 87) (pc := 70) dX4_spanOf_70 (by decide) c ?_
        refine V.iinc (lv' := [some (.ref 6), some (.int l1), some (.int l2), some (.int l3), some (.int l4), some (.int l5), some (.int (l6 + 1))]) (pc := 87) dX4_spanOf_87 (Nat.le_of_ble_eq_true rfl) rfl rfl (v := (l6 + 1)) (by rw [show Int32.ofInt 1 = 1 from by decide]) rfl ?_
        refine V.goto (t := 54) (pc := 90) dX4_spanOf_90 (by decide) ?_
        exact h54 l1 l2 l3 l4 l5 (l6 + 1) w _ _ h
      · refine V.if_eq_f (t := 87) (pc := 70) dX4_spanOf_70 (by decide) c ?_
        refine V.aload_n (pc := 73) dX4_spanOf_73 rfl ?_
        refine V.getR (t := 11) (pc := 74) dX4_spanOf_74 f_RX4_24 k_cl4 lx_6 ly_6 rb_4_4 rr_6_4 ?_
        refine V.iload_n (pc := 77) dX4_spanOf_77 rfl ?_
        refine V.bipush (pc := 78) dX4_spanOf_78 bp_15 ?_
        refine V.iand (pc := 80) dX4_spanOf_80 ?_
        refine V.iload (pc := 81) dX4_spanOf_81 rfl ?_
        obtain ⟨w1, iw1, ew1, h⟩ := wrI_e h
        refine V.iastX (pc := 83) dX4_spanOf_83 lx_11 ly_11 iw1 ew1 ?_
        refine V.iinc (lv' := [some (.ref 6), some (.int l1), some (.int l2), some (.int (l3 + 1)), some (.int l4), some (.int l5), some (.int l6)]) (pc := 84) dX4_spanOf_84 (Nat.le_of_ble_eq_true rfl) rfl rfl (v := (l3 + 1)) (by rw [show Int32.ofInt 1 = 1 from by decide]) rfl ?_
        refine V.iinc (lv' := [some (.ref 6), some (.int l1), some (.int l2), some (.int (l3 + 1)), some (.int l4), some (.int l5), some (.int (l6 + 1))]) (pc := 87) dX4_spanOf_87 (Nat.le_of_ble_eq_true rfl) rfl rfl (v := (l6 + 1)) (by rw [show Int32.ofInt 1 = 1 from by decide]) rfl ?_
        refine V.goto (t := 54) (pc := 90) dX4_spanOf_90 (by decide) ?_
        exact h54 l1 l2 (l3 + 1) l4 l5 (l6 + 1) w1 _ _ h
def f_X4_spanOf_B14b (k14 : Int32 → Int32 → Int32 → Int32 → Wd → Option (Int32 × Wd)) (l1 : Int32) (l2 : Int32) (l3 : Int32) (l4 : Int32) (w : Wd) : Option (Int32 × Wd) :=
  if l3 ≤ l4 then
    some (l2, w)
  else
    if 16 ≤ l4 then
      some (l2, w)
    else
      rdI w 11 16 l4 fun x1 =>
      bnd (f_X4_moved x1 l1 1 w) fun x2 =>
      f_X4_spanOf_L54 k14 FU l1 (l2 ||| (x2 &&& (l2 ^^^ (-1)))) l3 l4 (x2 &&& (l2 ^^^ (-1))) 0 w
def f_X4_spanOf_L14 (n : Nat) : Int32 → Int32 → Int32 → Int32 → Wd → Option (Int32 × Wd) :=
  Nat.rec (fun _ _ _ _ _ => none) (fun _ k => f_X4_spanOf_B14b k) n
set_option maxHeartbeats 4000000 in
set_option maxRecDepth 100000 in
theorem t_X4_spanOf_L14 {G : GT} {d : Nat} (hd : 2 ≤ d + 1)  : ∀ (n : Nat) (l1 : Int32) (l2 : Int32) (l3 : Int32) (l4 : Int32) (w : Wd) (r : Int32) (w' : Wd), f_X4_spanOf_L14 n l1 l2 l3 l4 w = some (r, w') → U (vf G mX4_spanOf (d + 1)) 14 [some (.ref 6), some (.int l1), some (.int l2), some (.int l3), some (.int l4), none, none] [] w (some (.int r), 70, r0, w') := by
  intro n
  induction n with
  | zero => intro l1 l2 l3 l4 w r w' h; cases h
  | succ n h14 =>
    intro l1 l2 l3 l4 w r w' h
    have h : f_X4_spanOf_B14b (f_X4_spanOf_L14 n) l1 l2 l3 l4 w = some (r, w') := h
    unfold f_X4_spanOf_B14b at h
    refine V.iload (pc := 14) dX4_spanOf_14 rfl ?_
    refine V.iload_n (pc := 16) dX4_spanOf_16 rfl ?_
    rcases ite_e h with ⟨c, h⟩ | ⟨c, h⟩
    · refine V.icmp_ge_t (t := 99) (pc := 17) dX4_spanOf_17 (by decide) c ?_
      refine V.iload_n (pc := 99) dX4_spanOf_99 rfl ?_
      obtain ⟨rfl, rfl⟩ := Prod.mk.inj (Option.some.inj h)
      exact V.iret (pc := 100) dX4_spanOf_100 rfl (Nat.le_refl _) (Nat.le_refl _)
    · refine V.icmp_ge_f (t := 99) (pc := 17) dX4_spanOf_17 (by decide) c ?_
      refine V.iload (pc := 20) dX4_spanOf_20 rfl ?_
      refine V.bipush (pc := 22) dX4_spanOf_22 bp_16 ?_
      rcases ite_e h with ⟨c, h⟩ | ⟨c, h⟩
      · refine V.icmp_ge_t (t := 99) (pc := 24) dX4_spanOf_24 (by decide) c ?_
        refine V.iload_n (pc := 99) dX4_spanOf_99 rfl ?_
        obtain ⟨rfl, rfl⟩ := Prod.mk.inj (Option.some.inj h)
        exact V.iret (pc := 100) dX4_spanOf_100 rfl (Nat.le_refl _) (Nat.le_refl _)
      · refine V.icmp_ge_f (t := 99) (pc := 24) dX4_spanOf_24 (by decide) c ?_
        refine V.aload_n (pc := 27) dX4_spanOf_27 rfl ?_
        refine V.aload_n (pc := 28) dX4_spanOf_28 rfl ?_
        refine V.getR (t := 11) (pc := 29) dX4_spanOf_29 f_RX4_24 k_cl4 lx_6 ly_6 rb_4_4 rr_6_4 ?_
        refine V.iload (pc := 32) dX4_spanOf_32 rfl ?_
        obtain ⟨x1, ix1, ex1, h⟩ := rdI_e h
        refine V.ialdX (pc := 34) dX4_spanOf_34 lx_11 ly_11 ix1 ex1 ?_
        refine V.iload_n (pc := 35) dX4_spanOf_35 rfl ?_
        refine V.iconst (pc := 36) dX4_spanOf_36 ic_1 ?_
        obtain ⟨x2, ex2, h⟩ := bnd_e h
        refine U.callV (pc := 37) (As := [.int x1, .int l1, .int 1]) (st := []) dX4_spanOf_37 l_RX4_80 (ok_X4_moved (by omega) x1 l1 1 ex2) lx_6 ly_6 cn_4 (Nat.le_of_ble_eq_true rfl) rfl rfl (Nat.le_of_ble_eq_true rfl) ?_
        refine V.iload_n (pc := 40) dX4_spanOf_40 rfl ?_
        refine V.iconst (pc := 41) dX4_spanOf_41 ic_m1 ?_
        refine V.ixor (pc := 42) dX4_spanOf_42 ?_
        refine V.iand (pc := 43) dX4_spanOf_43 ?_
        refine V.istore (lv' := [some (.ref 6), some (.int l1), some (.int l2), some (.int l3), some (.int l4), some (.int (x2 &&& (l2 ^^^ (-1)))), none]) (pc := 44) dX4_spanOf_44 (Nat.le_of_ble_eq_true rfl) rfl rfl ?_
        refine V.iload_n (pc := 46) dX4_spanOf_46 rfl ?_
        refine V.iload (pc := 47) dX4_spanOf_47 rfl ?_
        refine V.ior (pc := 49) dX4_spanOf_49 ?_
        refine V.istore_n (lv' := [some (.ref 6), some (.int l1), some (.int (l2 ||| (x2 &&& (l2 ^^^ (-1))))), some (.int l3), some (.int l4), some (.int (x2 &&& (l2 ^^^ (-1)))), none]) (pc := 50) dX4_spanOf_50 (Nat.le_of_ble_eq_true rfl) rfl rfl ?_
        refine V.iconst (pc := 51) dX4_spanOf_51 ic_0 ?_
        refine V.istore (lv' := [some (.ref 6), some (.int l1), some (.int (l2 ||| (x2 &&& (l2 ^^^ (-1))))), some (.int l3), some (.int l4), some (.int (x2 &&& (l2 ^^^ (-1)))), some (.int 0)]) (pc := 52) dX4_spanOf_52 (Nat.le_of_ble_eq_true rfl) rfl rfl ?_
        exact t_X4_spanOf_L54 hd h14 FU l1 (l2 ||| (x2 &&& (l2 ^^^ (-1)))) l3 l4 (x2 &&& (l2 ^^^ (-1))) 0 w _ _ h
def f_X4_spanOf (l1 : Int32) (w : Wd) : Option (Int32 × Wd) :=
  wrI w 11 16 0 0 fun w1 =>
  f_X4_spanOf_L14  FU l1 1 1 0 w1
set_option maxHeartbeats 4000000 in
set_option maxRecDepth 100000 in
theorem ok_X4_spanOf {G : GT} {d : Nat} (hd : 2 ≤ d) {w : Wd} (l1 : Int32) {r : Int32} {w' : Wd} (h : f_X4_spanOf l1 w = some (r, w')) : uC G yX4_spanOf mX4_spanOf d [.ref 6, .int l1] w (some (.int r)) w' := by
  obtain ⟨d, rfl⟩ : ∃ e, d = e + 1 := ⟨d - 1, by omega⟩
  unfold f_X4_spanOf at h
  refine uC_of (lv := [some (.ref 6), some (.int l1), none, none, none, none, none]) 5 pn_X4 ⟨rfl, rfl⟩ (Nat.le_of_ble_eq_true rfl) rfl ?_
  refine V.iconst (pc := 0) dX4_spanOf_0 ic_1 ?_
  refine V.istore_n (lv' := [some (.ref 6), some (.int l1), some (.int 1), none, none, none, none]) (pc := 1) dX4_spanOf_1 (Nat.le_of_ble_eq_true rfl) rfl rfl ?_
  refine V.iconst (pc := 2) dX4_spanOf_2 ic_1 ?_
  refine V.istore_n (lv' := [some (.ref 6), some (.int l1), some (.int 1), some (.int 1), none, none, none]) (pc := 3) dX4_spanOf_3 (Nat.le_of_ble_eq_true rfl) rfl rfl ?_
  refine V.aload_n (pc := 4) dX4_spanOf_4 rfl ?_
  refine V.getR (t := 11) (pc := 5) dX4_spanOf_5 f_RX4_24 k_cl4 lx_6 ly_6 rb_4_4 rr_6_4 ?_
  refine V.iconst (pc := 8) dX4_spanOf_8 ic_0 ?_
  refine V.iconst (pc := 9) dX4_spanOf_9 ic_0 ?_
  obtain ⟨w1, iw1, ew1, h⟩ := wrI_e h
  refine V.iastX (pc := 10) dX4_spanOf_10 lx_11 ly_11 iw1 ew1 ?_
  refine V.iconst (pc := 11) dX4_spanOf_11 ic_0 ?_
  refine V.istore (lv' := [some (.ref 6), some (.int l1), some (.int 1), some (.int 1), some (.int 0), none, none]) (pc := 12) dX4_spanOf_12 (Nat.le_of_ble_eq_true rfl) rfl rfl ?_
  exact t_X4_spanOf_L14 hd FU l1 1 1 0 w1 _ _ h
theorem dX11_orderOf_0 : decode cX11_orderOf 0 = .ok (.aload_n 0, 1) := by decide +kernel
theorem dX11_orderOf_1 : decode cX11_orderOf 1 = .ok (.getfield 28, 3) := by decide +kernel
theorem dX11_orderOf_4 : decode cX11_orderOf 4 = .ok (.iload_n 1, 1) := by decide +kernel
theorem dX11_orderOf_5 : decode cX11_orderOf 5 = .ok (.invokevirtual 107, 3) := by decide +kernel
theorem dX11_orderOf_8 : decode cX11_orderOf 8 = .ok (.ifCond .ne 5, 3) := by decide +kernel
theorem dX11_orderOf_11 : decode cX11_orderOf 11 = .ok (.iconst (-1), 1) := by decide +kernel
theorem dX11_orderOf_12 : decode cX11_orderOf 12 = .ok (.ireturn, 1) := by decide +kernel
theorem dX11_orderOf_13 : decode cX11_orderOf 13 = .ok (.aload_n 0, 1) := by decide +kernel
theorem dX11_orderOf_14 : decode cX11_orderOf 14 = .ok (.getfield 28, 3) := by decide +kernel
theorem dX11_orderOf_17 : decode cX11_orderOf 17 = .ok (.iconst 1, 1) := by decide +kernel
theorem dX11_orderOf_18 : decode cX11_orderOf 18 = .ok (.iload_n 1, 1) := by decide +kernel
theorem dX11_orderOf_19 : decode cX11_orderOf 19 = .ok (.ishl, 1) := by decide +kernel
theorem dX11_orderOf_20 : decode cX11_orderOf 20 = .ok (.invokevirtual 165, 3) := by decide +kernel
theorem dX11_orderOf_23 : decode cX11_orderOf 23 = .ok (.invokestatic 127, 3) := by decide +kernel
theorem dX11_orderOf_26 : decode cX11_orderOf 26 = .ok (.ireturn, 1) := by decide +kernel
def f_X11_orderOf (l1 : Int32) (w : Wd) : Option (Int32 × Wd) :=
  if (f_X4_holds l1 w) = 0 then
    some ((-1), w)
  else
    bnd2 (f_X4_spanOf (1 <<< (l1 &&& 31)) w) fun x1 w2 =>
    some ((f_J6_bitCount_0f7a4 x1), w2)
set_option maxHeartbeats 4000000 in
set_option maxRecDepth 100000 in
theorem ok_X11_orderOf {G : GT} {d : Nat} (hd : 3 ≤ d) {w : Wd} (l1 : Int32) {r : Int32} {w' : Wd} (h : f_X11_orderOf l1 w = some (r, w')) : uC G yX11_orderOf mX11_orderOf d [.ref 0, .int l1] w (some (.int r)) w' := by
  obtain ⟨d, rfl⟩ : ∃ e, d = e + 1 := ⟨d - 1, by omega⟩
  unfold f_X11_orderOf at h
  refine uC_of (lv := [some (.ref 0), some (.int l1)]) 0 pn_X11 ⟨rfl, rfl⟩ (Nat.le_of_ble_eq_true rfl) rfl ?_
  refine V.aload_n (pc := 0) dX11_orderOf_0 rfl ?_
  refine V.getR (t := 6) (pc := 1) dX11_orderOf_1 f_RX11_28 k_cl11 lx_0 ly_0 rb_11_2 rr_0_2 ?_
  refine V.iload_n (pc := 4) dX11_orderOf_4 rfl ?_
  refine U.callV (pc := 5) (As := [.int l1]) (st := []) dX11_orderOf_5 l_RX11_107 (ok_X4_holds (by omega) l1 ) lx_6 ly_6 cn_4 (Nat.le_of_ble_eq_true rfl) rfl rfl (Nat.le_of_ble_eq_true rfl) ?_
  rcases ite_e h with ⟨c, h⟩ | ⟨c, h⟩
  · refine V.if_ne_f (t := 13) (pc := 8) dX11_orderOf_8 (by decide) c ?_
    refine V.iconst (pc := 11) dX11_orderOf_11 ic_m1 ?_
    obtain ⟨rfl, rfl⟩ := Prod.mk.inj (Option.some.inj h)
    exact V.iret (pc := 12) dX11_orderOf_12 rfl (Nat.le_refl _) (Nat.le_refl _)
  · refine V.if_ne_t (t := 13) (pc := 8) dX11_orderOf_8 (by decide) c ?_
    refine V.aload_n (pc := 13) dX11_orderOf_13 rfl ?_
    refine V.getR (t := 6) (pc := 14) dX11_orderOf_14 f_RX11_28 k_cl11 lx_0 ly_0 rb_11_2 rr_0_2 ?_
    refine V.iconst (pc := 17) dX11_orderOf_17 ic_1 ?_
    refine V.iload_n (pc := 18) dX11_orderOf_18 rfl ?_
    refine V.ishl (pc := 19) dX11_orderOf_19 ?_
    obtain ⟨x1, w2, ew2, h⟩ := bnd2_e h
    refine U.callV (pc := 20) (As := [.int (1 <<< (l1 &&& 31))]) (st := []) dX11_orderOf_20 l_RX11_165 (ok_X4_spanOf (by omega) (1 <<< (l1 &&& 31)) ew2) lx_6 ly_6 cn_4 (Nat.le_of_ble_eq_true rfl) rfl rfl (Nat.le_of_ble_eq_true rfl) ?_
    refine U.callS (pc := 23) (As := [.int x1]) (st := []) dX11_orderOf_23 l_RX11_127 (ok_J6_bitCount_0f7a4 (by omega) x1 ) (Nat.le_of_ble_eq_true rfl) rfl rfl (Nat.le_of_ble_eq_true rfl) ?_
    obtain ⟨rfl, rfl⟩ := Prod.mk.inj (Option.some.inj h)
    exact V.iret (pc := 26) dX11_orderOf_26 rfl (Nat.le_refl _) (Nat.le_refl _)
theorem dX12_orderOf_0 : decode cX12_orderOf 0 = .ok (.aload_n 0, 1) := by decide +kernel
theorem dX12_orderOf_1 : decode cX12_orderOf 1 = .ok (.iload_n 1, 1) := by decide +kernel
theorem dX12_orderOf_2 : decode cX12_orderOf 2 = .ok (.invokevirtual 163, 3) := by decide +kernel
theorem dX12_orderOf_5 : decode cX12_orderOf 5 = .ok (.ifCond .ne 5, 3) := by decide +kernel
theorem dX12_orderOf_8 : decode cX12_orderOf 8 = .ok (.iconst (-1), 1) := by decide +kernel
theorem dX12_orderOf_9 : decode cX12_orderOf 9 = .ok (.ireturn, 1) := by decide +kernel
theorem dX12_orderOf_10 : decode cX12_orderOf 10 = .ok (.iconst 1, 1) := by decide +kernel
theorem dX12_orderOf_11 : decode cX12_orderOf 11 = .ok (.istore_n 2, 1) := by decide +kernel
theorem dX12_orderOf_12 : decode cX12_orderOf 12 = .ok (.iload_n 1, 1) := by decide +kernel
theorem dX12_orderOf_13 : decode cX12_orderOf 13 = .ok (.istore_n 3, 1) := by decide +kernel
theorem dX12_orderOf_14 : decode cX12_orderOf 14 = .ok (.iload_n 3, 1) := by decide +kernel
theorem dX12_orderOf_15 : decode cX12_orderOf 15 = .ok (.ifCond .eq 16, 3) := by decide +kernel
theorem dX12_orderOf_18 : decode cX12_orderOf 18 = .ok (.iinc 2 1, 3) := by decide +kernel
theorem dX12_orderOf_21 : decode cX12_orderOf 21 = .ok (.aload_n 0, 1) := by decide +kernel
theorem dX12_orderOf_22 : decode cX12_orderOf 22 = .ok (.iload_n 3, 1) := by decide +kernel
theorem dX12_orderOf_23 : decode cX12_orderOf 23 = .ok (.iload_n 1, 1) := by decide +kernel
theorem dX12_orderOf_24 : decode cX12_orderOf 24 = .ok (.invokevirtual 119, 3) := by decide +kernel
theorem dX12_orderOf_27 : decode cX12_orderOf 27 = .ok (.istore_n 3, 1) := by decide +kernel
theorem dX12_orderOf_28 : decode cX12_orderOf 28 = .ok (.goto (-14), 3) := by decide +kernel
theorem dX12_orderOf_31 : decode cX12_orderOf 31 = .ok (.iload_n 2, 1) := by decide +kernel
theorem dX12_orderOf_32 : decode cX12_orderOf 32 = .ok (.ireturn, 1) := by decide +kernel
def f_X12_orderOf_B14b (k14 : Int32 → Int32 → Int32 → Wd → Option Int32) (l1 : Int32) (l2 : Int32) (l3 : Int32) (w : Wd) : Option Int32 :=
  if l3 = 0 then
    some l2
  else
    bnd (f_X12_product0 l3 l1 w) fun x1 =>
    k14 l1 (l2 + 1) x1 w
def f_X12_orderOf_L14 (n : Nat) : Int32 → Int32 → Int32 → Wd → Option Int32 :=
  Nat.rec (fun _ _ _ _ => none) (fun _ k => f_X12_orderOf_B14b k) n
set_option maxHeartbeats 4000000 in
set_option maxRecDepth 100000 in
theorem t_X12_orderOf_L14 {G : GT} {d : Nat} {w : Wd} (hd : 2 ≤ d + 1)  : ∀ (n : Nat) (l1 : Int32) (l2 : Int32) (l3 : Int32) (r : Int32), f_X12_orderOf_L14 n l1 l2 l3 w = some r → U (vf G mX12_orderOf (d + 1)) 14 [some (.ref 44), some (.int l1), some (.int l2), some (.int l3)] [] w (some (.int r), 70, r0, w) := by
  intro n
  induction n with
  | zero => intro l1 l2 l3 r h; cases h
  | succ n h14 =>
    intro l1 l2 l3 r h
    have h : f_X12_orderOf_B14b (f_X12_orderOf_L14 n) l1 l2 l3 w = some r := h
    unfold f_X12_orderOf_B14b at h
    refine V.iload_n (pc := 14) dX12_orderOf_14 rfl ?_
    rcases ite_e h with ⟨c, h⟩ | ⟨c, h⟩
    · refine V.if_eq_t (t := 31) (pc := 15) dX12_orderOf_15 (by decide) c ?_
      refine V.iload_n (pc := 31) dX12_orderOf_31 rfl ?_
      obtain rfl := Option.some.inj h
      exact V.iret (pc := 32) dX12_orderOf_32 rfl (Nat.le_refl _) (Nat.le_refl _)
    · refine V.if_eq_f (t := 31) (pc := 15) dX12_orderOf_15 (by decide) c ?_
      refine V.iinc (lv' := [some (.ref 44), some (.int l1), some (.int (l2 + 1)), some (.int l3)]) (pc := 18) dX12_orderOf_18 (Nat.le_of_ble_eq_true rfl) rfl rfl (v := (l2 + 1)) (by rw [show Int32.ofInt 1 = 1 from by decide]) rfl ?_
      refine V.aload_n (pc := 21) dX12_orderOf_21 rfl ?_
      refine V.iload_n (pc := 22) dX12_orderOf_22 rfl ?_
      refine V.iload_n (pc := 23) dX12_orderOf_23 rfl ?_
      obtain ⟨x1, ex1, h⟩ := bnd_e h
      refine U.callV (pc := 24) (As := [.int l3, .int l1]) (st := []) dX12_orderOf_24 l_RX12_119 (ok_X12_product0 (by omega) l3 l1 ex1) lx_44 ly_44 cn_12 (Nat.le_of_ble_eq_true rfl) rfl rfl (Nat.le_of_ble_eq_true rfl) ?_
      refine V.istore_n (lv' := [some (.ref 44), some (.int l1), some (.int (l2 + 1)), some (.int x1)]) (pc := 27) dX12_orderOf_27 (Nat.le_of_ble_eq_true rfl) rfl rfl ?_
      refine V.goto (t := 14) (pc := 28) dX12_orderOf_28 (by decide) ?_
      exact h14 l1 (l2 + 1) x1 _ h
def f_X12_orderOf (l1 : Int32) (w : Wd) : Option Int32 :=
  if (f_X12_isElement l1 w) = 0 then
    some (-1)
  else
    f_X12_orderOf_L14  FU l1 1 l1 w
set_option maxHeartbeats 4000000 in
set_option maxRecDepth 100000 in
theorem ok_X12_orderOf {G : GT} {d : Nat} (hd : 2 ≤ d) {w : Wd} (l1 : Int32) {r : Int32} (h : f_X12_orderOf l1 w = some r) : uC G yX12_orderOf mX12_orderOf d [.ref 44, .int l1] w (some (.int r)) w := by
  obtain ⟨d, rfl⟩ : ∃ e, d = e + 1 := ⟨d - 1, by omega⟩
  unfold f_X12_orderOf at h
  refine uC_of (lv := [some (.ref 44), some (.int l1), none, none]) 2 pn_X12 ⟨rfl, rfl⟩ (Nat.le_of_ble_eq_true rfl) rfl ?_
  refine V.aload_n (pc := 0) dX12_orderOf_0 rfl ?_
  refine V.iload_n (pc := 1) dX12_orderOf_1 rfl ?_
  refine U.callV (pc := 2) (As := [.int l1]) (st := []) dX12_orderOf_2 l_RX12_163 (ok_X12_isElement (by omega) l1 ) lx_44 ly_44 cn_12 (Nat.le_of_ble_eq_true rfl) rfl rfl (Nat.le_of_ble_eq_true rfl) ?_
  rcases ite_e h with ⟨c, h⟩ | ⟨c, h⟩
  · refine V.if_ne_f (t := 10) (pc := 5) dX12_orderOf_5 (by decide) c ?_
    refine V.iconst (pc := 8) dX12_orderOf_8 ic_m1 ?_
    obtain rfl := Option.some.inj h
    exact V.iret (pc := 9) dX12_orderOf_9 rfl (Nat.le_refl _) (Nat.le_refl _)
  · refine V.if_ne_t (t := 10) (pc := 5) dX12_orderOf_5 (by decide) c ?_
    refine V.iconst (pc := 10) dX12_orderOf_10 ic_1 ?_
    refine V.istore_n (lv' := [some (.ref 44), some (.int l1), some (.int 1), none]) (pc := 11) dX12_orderOf_11 (Nat.le_of_ble_eq_true rfl) rfl rfl ?_
    refine V.iload_n (pc := 12) dX12_orderOf_12 rfl ?_
    refine V.istore_n (lv' := [some (.ref 44), some (.int l1), some (.int 1), some (.int l1)]) (pc := 13) dX12_orderOf_13 (Nat.le_of_ble_eq_true rfl) rfl rfl ?_
    exact t_X12_orderOf_L14 hd FU l1 1 l1 _ h
theorem dX4_commutes_0 : decode cX4_commutes 0 = .ok (.iconst 0, 1) := by decide +kernel
theorem dX4_commutes_1 : decode cX4_commutes 1 = .ok (.istore_n 2, 1) := by decide +kernel
theorem dX4_commutes_2 : decode cX4_commutes 2 = .ok (.iload_n 2, 1) := by decide +kernel
theorem dX4_commutes_3 : decode cX4_commutes 3 = .ok (.aload_n 0, 1) := by decide +kernel
theorem dX4_commutes_4 : decode cX4_commutes 4 = .ok (.getfield 30, 3) := by decide +kernel
theorem dX4_commutes_7 : decode cX4_commutes 7 = .ok (.if_icmp .ge 26, 3) := by decide +kernel
theorem dX4_commutes_10 : decode cX4_commutes 10 = .ok (.aload_n 0, 1) := by decide +kernel
theorem dX4_commutes_11 : decode cX4_commutes 11 = .ok (.iload_n 1, 1) := by decide +kernel
theorem dX4_commutes_12 : decode cX4_commutes 12 = .ok (.iload_n 2, 1) := by decide +kernel
theorem dX4_commutes_13 : decode cX4_commutes 13 = .ok (.invokevirtual 58, 3) := by decide +kernel
theorem dX4_commutes_16 : decode cX4_commutes 16 = .ok (.aload_n 0, 1) := by decide +kernel
theorem dX4_commutes_17 : decode cX4_commutes 17 = .ok (.iload_n 2, 1) := by decide +kernel
theorem dX4_commutes_18 : decode cX4_commutes 18 = .ok (.iload_n 1, 1) := by decide +kernel
theorem dX4_commutes_19 : decode cX4_commutes 19 = .ok (.invokevirtual 58, 3) := by decide +kernel
theorem dX4_commutes_22 : decode cX4_commutes 22 = .ok (.if_icmp .eq 5, 3) := by decide +kernel
theorem dX4_commutes_25 : decode cX4_commutes 25 = .ok (.iconst 0, 1) := by decide +kernel
theorem dX4_commutes_26 : decode cX4_commutes 26 = .ok (.ireturn, 1) := by decide +kernel
theorem dX4_commutes_27 : decode cX4_commutes 27 = .ok (.iinc 2 1, 3) := by decide +kernel
theorem dX4_commutes_30 : decode cX4_commutes 30 = .ok (.goto (-28), 3) := by decide +kernel
theorem dX4_commutes_33 : decode cX4_commutes 33 = .ok (.iconst 1, 1) := by decide +kernel
theorem dX4_commutes_34 : decode cX4_commutes 34 = .ok (.ireturn, 1) := by decide +kernel
def f_X4_commutes_B2b (k2 : Int32 → Int32 → Wd → Option Int32) (l1 : Int32) (l2 : Int32) (w : Wd) : Option Int32 :=
  if (w.1 6 7) ≤ l2 then
    some 1
  else
    bnd (f_X4_times l1 l2 w) fun x1 =>
    bnd (f_X4_times l2 l1 w) fun x2 =>
    if x1 = x2 then
      k2 l1 (l2 + 1) w
    else
      some 0
def f_X4_commutes_L2 (n : Nat) : Int32 → Int32 → Wd → Option Int32 :=
  Nat.rec (fun _ _ _ => none) (fun _ k => f_X4_commutes_B2b k) n
set_option maxHeartbeats 4000000 in
set_option maxRecDepth 100000 in
theorem t_X4_commutes_L2 {G : GT} {d : Nat} {w : Wd} (hd : 1 ≤ d + 1)  : ∀ (n : Nat) (l1 : Int32) (l2 : Int32) (r : Int32), f_X4_commutes_L2 n l1 l2 w = some r → U (vf G mX4_commutes (d + 1)) 2 [some (.ref 6), some (.int l1), some (.int l2)] [] w (some (.int r), 70, r0, w) := by
  intro n
  induction n with
  | zero => intro l1 l2 r h; cases h
  | succ n h2 =>
    intro l1 l2 r h
    have h : f_X4_commutes_B2b (f_X4_commutes_L2 n) l1 l2 w = some r := h
    unfold f_X4_commutes_B2b at h
    refine V.iload_n (pc := 2) dX4_commutes_2 rfl ?_
    refine V.aload_n (pc := 3) dX4_commutes_3 rfl ?_
    refine V.getI (pc := 4) dX4_commutes_4 f_RX4_30 k_cl4 lx_6 ly_6 rb_4_7 ?_
    rcases ite_e h with ⟨c, h⟩ | ⟨c, h⟩
    · refine V.icmp_ge_t (t := 33) (pc := 7) dX4_commutes_7 (by decide) c ?_
      refine V.iconst (pc := 33) dX4_commutes_33 ic_1 ?_
      obtain rfl := Option.some.inj h
      exact V.zret (pc := 34) dX4_commutes_34 rfl (Or.inr rfl) (Nat.le_refl _) (Nat.le_refl _)
    · refine V.icmp_ge_f (t := 33) (pc := 7) dX4_commutes_7 (by decide) c ?_
      refine V.aload_n (pc := 10) dX4_commutes_10 rfl ?_
      refine V.iload_n (pc := 11) dX4_commutes_11 rfl ?_
      refine V.iload_n (pc := 12) dX4_commutes_12 rfl ?_
      obtain ⟨x1, ex1, h⟩ := bnd_e h
      refine U.callV (pc := 13) (As := [.int l1, .int l2]) (st := []) dX4_commutes_13 l_RX4_58 (ok_X4_times (by omega) l1 l2 ex1) lx_6 ly_6 cn_4 (Nat.le_of_ble_eq_true rfl) rfl rfl (Nat.le_of_ble_eq_true rfl) ?_
      refine V.aload_n (pc := 16) dX4_commutes_16 rfl ?_
      refine V.iload_n (pc := 17) dX4_commutes_17 rfl ?_
      refine V.iload_n (pc := 18) dX4_commutes_18 rfl ?_
      obtain ⟨x2, ex2, h⟩ := bnd_e h
      refine U.callV (pc := 19) (As := [.int l2, .int l1]) (st := [.int x1]) dX4_commutes_19 l_RX4_58 (ok_X4_times (by omega) l2 l1 ex2) lx_6 ly_6 cn_4 (Nat.le_of_ble_eq_true rfl) rfl rfl (Nat.le_of_ble_eq_true rfl) ?_
      rcases ite_e h with ⟨c, h⟩ | ⟨c, h⟩
      · refine V.icmp_eq_t (t := 27) (pc := 22) dX4_commutes_22 (by decide) c ?_
        refine V.iinc (lv' := [some (.ref 6), some (.int l1), some (.int (l2 + 1))]) (pc := 27) dX4_commutes_27 (Nat.le_of_ble_eq_true rfl) rfl rfl (v := (l2 + 1)) (by rw [show Int32.ofInt 1 = 1 from by decide]) rfl ?_
        refine V.goto (t := 2) (pc := 30) dX4_commutes_30 (by decide) ?_
        exact h2 l1 (l2 + 1) _ h
      · refine V.icmp_eq_f (t := 27) (pc := 22) dX4_commutes_22 (by decide) c ?_
        refine V.iconst (pc := 25) dX4_commutes_25 ic_0 ?_
        obtain rfl := Option.some.inj h
        exact V.zret (pc := 26) dX4_commutes_26 rfl (Or.inl rfl) (Nat.le_refl _) (Nat.le_refl _)
def f_X4_commutes (l1 : Int32) (w : Wd) : Option Int32 :=
  f_X4_commutes_L2  FU l1 0 w
set_option maxHeartbeats 4000000 in
set_option maxRecDepth 100000 in
theorem ok_X4_commutes {G : GT} {d : Nat} (hd : 1 ≤ d) {w : Wd} (l1 : Int32) {r : Int32} (h : f_X4_commutes l1 w = some r) : uC G yX4_commutes mX4_commutes d [.ref 6, .int l1] w (some (.int r)) w := by
  obtain ⟨d, rfl⟩ : ∃ e, d = e + 1 := ⟨d - 1, by omega⟩
  unfold f_X4_commutes at h
  refine uC_of (lv := [some (.ref 6), some (.int l1), none]) 1 pn_X4 ⟨rfl, rfl⟩ (Nat.le_of_ble_eq_true rfl) rfl ?_
  refine V.iconst (pc := 0) dX4_commutes_0 ic_0 ?_
  refine V.istore_n (lv' := [some (.ref 6), some (.int l1), some (.int 0)]) (pc := 1) dX4_commutes_1 (Nat.le_of_ble_eq_true rfl) rfl rfl ?_
  exact t_X4_commutes_L2 hd FU l1 0 _ h
theorem dX11_centre_0 : decode cX11_centre 0 = .ok (.iconst 0, 1) := by decide +kernel
theorem dX11_centre_1 : decode cX11_centre 1 = .ok (.istore_n 1, 1) := by decide +kernel
theorem dX11_centre_2 : decode cX11_centre 2 = .ok (.iconst 0, 1) := by decide +kernel
theorem dX11_centre_3 : decode cX11_centre 3 = .ok (.istore_n 2, 1) := by decide +kernel
theorem dX11_centre_4 : decode cX11_centre 4 = .ok (.iload_n 2, 1) := by decide +kernel
theorem dX11_centre_5 : decode cX11_centre 5 = .ok (.aload_n 0, 1) := by decide +kernel
theorem dX11_centre_6 : decode cX11_centre 6 = .ok (.getfield 28, 3) := by decide +kernel
theorem dX11_centre_9 : decode cX11_centre 9 = .ok (.getfield 104, 3) := by decide +kernel
theorem dX11_centre_12 : decode cX11_centre 12 = .ok (.if_icmp .ge 26, 3) := by decide +kernel
theorem dX11_centre_15 : decode cX11_centre 15 = .ok (.aload_n 0, 1) := by decide +kernel
theorem dX11_centre_16 : decode cX11_centre 16 = .ok (.getfield 28, 3) := by decide +kernel
theorem dX11_centre_19 : decode cX11_centre 19 = .ok (.iload_n 2, 1) := by decide +kernel
theorem dX11_centre_20 : decode cX11_centre 20 = .ok (.invokevirtual 168, 3) := by decide +kernel
theorem dX11_centre_23 : decode cX11_centre 23 = .ok (.ifCond .eq 9, 3) := by decide +kernel
theorem dX11_centre_26 : decode cX11_centre 26 = .ok (.iload_n 1, 1) := by decide +kernel
theorem dX11_centre_27 : decode cX11_centre 27 = .ok (.iconst 1, 1) := by decide +kernel
theorem dX11_centre_28 : decode cX11_centre 28 = .ok (.iload_n 2, 1) := by decide +kernel
theorem dX11_centre_29 : decode cX11_centre 29 = .ok (.ishl, 1) := by decide +kernel
theorem dX11_centre_30 : decode cX11_centre 30 = .ok (.ior, 1) := by decide +kernel
theorem dX11_centre_31 : decode cX11_centre 31 = .ok (.istore_n 1, 1) := by decide +kernel
theorem dX11_centre_32 : decode cX11_centre 32 = .ok (.iinc 2 1, 3) := by decide +kernel
theorem dX11_centre_35 : decode cX11_centre 35 = .ok (.goto (-31), 3) := by decide +kernel
theorem dX11_centre_38 : decode cX11_centre 38 = .ok (.iload_n 1, 1) := by decide +kernel
theorem dX11_centre_39 : decode cX11_centre 39 = .ok (.ireturn, 1) := by decide +kernel
def f_X11_centre_B4b (k4 : Int32 → Int32 → Wd → Option Int32) (l1 : Int32) (l2 : Int32) (w : Wd) : Option Int32 :=
  if (w.1 6 7) ≤ l2 then
    some l1
  else
    bnd (f_X4_commutes l2 w) fun x1 =>
    if x1 = 0 then
      k4 l1 (l2 + 1) w
    else
      k4 (l1 ||| (1 <<< (l2 &&& 31))) (l2 + 1) w
def f_X11_centre_L4 (n : Nat) : Int32 → Int32 → Wd → Option Int32 :=
  Nat.rec (fun _ _ _ => none) (fun _ k => f_X11_centre_B4b k) n
set_option maxHeartbeats 4000000 in
set_option maxRecDepth 100000 in
theorem t_X11_centre_L4 {G : GT} {d : Nat} {w : Wd} (hd : 2 ≤ d + 1)  : ∀ (n : Nat) (l1 : Int32) (l2 : Int32) (r : Int32), f_X11_centre_L4 n l1 l2 w = some r → U (vf G mX11_centre (d + 1)) 4 [some (.ref 0), some (.int l1), some (.int l2)] [] w (some (.int r), 70, r0, w) := by
  intro n
  induction n with
  | zero => intro l1 l2 r h; cases h
  | succ n h4 =>
    intro l1 l2 r h
    have h : f_X11_centre_B4b (f_X11_centre_L4 n) l1 l2 w = some r := h
    unfold f_X11_centre_B4b at h
    refine V.iload_n (pc := 4) dX11_centre_4 rfl ?_
    refine V.aload_n (pc := 5) dX11_centre_5 rfl ?_
    refine V.getR (t := 6) (pc := 6) dX11_centre_6 f_RX11_28 k_cl11 lx_0 ly_0 rb_11_2 rr_0_2 ?_
    refine V.getI (pc := 9) dX11_centre_9 f_RX11_104 k_cl4 lx_6 ly_6 rb_4_7 ?_
    rcases ite_e h with ⟨c, h⟩ | ⟨c, h⟩
    · refine V.icmp_ge_t (t := 38) (pc := 12) dX11_centre_12 (by decide) c ?_
      refine V.iload_n (pc := 38) dX11_centre_38 rfl ?_
      obtain rfl := Option.some.inj h
      exact V.iret (pc := 39) dX11_centre_39 rfl (Nat.le_refl _) (Nat.le_refl _)
    · refine V.icmp_ge_f (t := 38) (pc := 12) dX11_centre_12 (by decide) c ?_
      refine V.aload_n (pc := 15) dX11_centre_15 rfl ?_
      refine V.getR (t := 6) (pc := 16) dX11_centre_16 f_RX11_28 k_cl11 lx_0 ly_0 rb_11_2 rr_0_2 ?_
      refine V.iload_n (pc := 19) dX11_centre_19 rfl ?_
      obtain ⟨x1, ex1, h⟩ := bnd_e h
      refine U.callV (pc := 20) (As := [.int l2]) (st := []) dX11_centre_20 l_RX11_168 (ok_X4_commutes (by omega) l2 ex1) lx_6 ly_6 cn_4 (Nat.le_of_ble_eq_true rfl) rfl rfl (Nat.le_of_ble_eq_true rfl) ?_
      rcases ite_e h with ⟨c, h⟩ | ⟨c, h⟩
      · refine V.if_eq_t (t := 32) (pc := 23) dX11_centre_23 (by decide) c ?_
        refine V.iinc (lv' := [some (.ref 0), some (.int l1), some (.int (l2 + 1))]) (pc := 32) dX11_centre_32 (Nat.le_of_ble_eq_true rfl) rfl rfl (v := (l2 + 1)) (by rw [show Int32.ofInt 1 = 1 from by decide]) rfl ?_
        refine V.goto (t := 4) (pc := 35) dX11_centre_35 (by decide) ?_
        exact h4 l1 (l2 + 1) _ h
      · refine V.if_eq_f (t := 32) (pc := 23) dX11_centre_23 (by decide) c ?_
        refine V.iload_n (pc := 26) dX11_centre_26 rfl ?_
        refine V.iconst (pc := 27) dX11_centre_27 ic_1 ?_
        refine V.iload_n (pc := 28) dX11_centre_28 rfl ?_
        refine V.ishl (pc := 29) dX11_centre_29 ?_
        refine V.ior (pc := 30) dX11_centre_30 ?_
        refine V.istore_n (lv' := [some (.ref 0), some (.int (l1 ||| (1 <<< (l2 &&& 31)))), some (.int l2)]) (pc := 31) dX11_centre_31 (Nat.le_of_ble_eq_true rfl) rfl rfl ?_
        refine V.iinc (lv' := [some (.ref 0), some (.int (l1 ||| (1 <<< (l2 &&& 31)))), some (.int (l2 + 1))]) (pc := 32) dX11_centre_32 (Nat.le_of_ble_eq_true rfl) rfl rfl (v := (l2 + 1)) (by rw [show Int32.ofInt 1 = 1 from by decide]) rfl ?_
        refine V.goto (t := 4) (pc := 35) dX11_centre_35 (by decide) ?_
        exact h4 (l1 ||| (1 <<< (l2 &&& 31))) (l2 + 1) _ h
def f_X11_centre (w : Wd) : Option Int32 :=
  f_X11_centre_L4  FU 0 0 w
set_option maxHeartbeats 4000000 in
set_option maxRecDepth 100000 in
theorem ok_X11_centre {G : GT} {d : Nat} (hd : 2 ≤ d) {w : Wd}  {r : Int32} (h : f_X11_centre  w = some r) : uC G yX11_centre mX11_centre d [.ref 0] w (some (.int r)) w := by
  obtain ⟨d, rfl⟩ : ∃ e, d = e + 1 := ⟨d - 1, by omega⟩
  unfold f_X11_centre at h
  refine uC_of (lv := [some (.ref 0), none, none]) 2 pn_X11 ⟨rfl, rfl⟩ (Nat.le_of_ble_eq_true rfl) rfl ?_
  refine V.iconst (pc := 0) dX11_centre_0 ic_0 ?_
  refine V.istore_n (lv' := [some (.ref 0), some (.int 0), none]) (pc := 1) dX11_centre_1 (Nat.le_of_ble_eq_true rfl) rfl rfl ?_
  refine V.iconst (pc := 2) dX11_centre_2 ic_0 ?_
  refine V.istore_n (lv' := [some (.ref 0), some (.int 0), some (.int 0)]) (pc := 3) dX11_centre_3 (Nat.le_of_ble_eq_true rfl) rfl rfl ?_
  exact t_X11_centre_L4 hd FU 0 0 _ h
theorem dX12_centreNow_0 : decode cX12_centreNow 0 = .ok (.iconst 0, 1) := by decide +kernel
theorem dX12_centreNow_1 : decode cX12_centreNow 1 = .ok (.istore_n 1, 1) := by decide +kernel
theorem dX12_centreNow_2 : decode cX12_centreNow 2 = .ok (.iconst 0, 1) := by decide +kernel
theorem dX12_centreNow_3 : decode cX12_centreNow 3 = .ok (.istore_n 2, 1) := by decide +kernel
theorem dX12_centreNow_4 : decode cX12_centreNow 4 = .ok (.iload_n 2, 1) := by decide +kernel
theorem dX12_centreNow_5 : decode cX12_centreNow 5 = .ok (.aload_n 0, 1) := by decide +kernel
theorem dX12_centreNow_6 : decode cX12_centreNow 6 = .ok (.getfield 92, 3) := by decide +kernel
theorem dX12_centreNow_9 : decode cX12_centreNow 9 = .ok (.if_icmp .ge 66, 3) := by decide +kernel
theorem dX12_centreNow_12 : decode cX12_centreNow 12 = .ok (.iconst 1, 1) := by decide +kernel
theorem dX12_centreNow_13 : decode cX12_centreNow 13 = .ok (.istore_n 3, 1) := by decide +kernel
theorem dX12_centreNow_14 : decode cX12_centreNow 14 = .ok (.iconst 0, 1) := by decide +kernel
theorem dX12_centreNow_15 : decode cX12_centreNow 15 = .ok (.istore 4, 2) := by decide +kernel
theorem dX12_centreNow_17 : decode cX12_centreNow 17 = .ok (.iload 4, 2) := by decide +kernel
theorem dX12_centreNow_19 : decode cX12_centreNow 19 = .ok (.aload_n 0, 1) := by decide +kernel
theorem dX12_centreNow_20 : decode cX12_centreNow 20 = .ok (.getfield 92, 3) := by decide +kernel
theorem dX12_centreNow_23 : decode cX12_centreNow 23 = .ok (.if_icmp .ge 36, 3) := by decide +kernel
theorem dX12_centreNow_26 : decode cX12_centreNow 26 = .ok (.iload_n 3, 1) := by decide +kernel
theorem dX12_centreNow_27 : decode cX12_centreNow 27 = .ok (.ifCond .eq 24, 3) := by decide +kernel
theorem dX12_centreNow_30 : decode cX12_centreNow 30 = .ok (.aload_n 0, 1) := by decide +kernel
theorem dX12_centreNow_31 : decode cX12_centreNow 31 = .ok (.iload_n 2, 1) := by decide +kernel
theorem dX12_centreNow_32 : decode cX12_centreNow 32 = .ok (.iload 4, 2) := by decide +kernel
theorem dX12_centreNow_34 : decode cX12_centreNow 34 = .ok (.invokevirtual 119, 3) := by decide +kernel
theorem dX12_centreNow_37 : decode cX12_centreNow 37 = .ok (.aload_n 0, 1) := by decide +kernel
theorem dX12_centreNow_38 : decode cX12_centreNow 38 = .ok (.iload 4, 2) := by decide +kernel
theorem dX12_centreNow_40 : decode cX12_centreNow 40 = .ok (.iload_n 2, 1) := by decide +kernel
theorem dX12_centreNow_41 : decode cX12_centreNow 41 = .ok (.invokevirtual 119, 3) := by decide +kernel
theorem dX12_centreNow_44 : decode cX12_centreNow 44 = .ok (.if_icmp .ne 7, 3) := by decide +kernel
theorem dX12_centreNow_47 : decode cX12_centreNow 47 = .ok (.iconst 1, 1) := by decide +kernel
theorem dX12_centreNow_48 : decode cX12_centreNow 48 = .ok (.goto 4, 3) := by decide +kernel
theorem dX12_centreNow_51 : decode cX12_centreNow 51 = .ok (.iconst 0, 1) := by decide +kernel
theorem dX12_centreNow_52 : decode cX12_centreNow 52 = .ok (.istore_n 3, 1) := by decide +kernel
theorem dX12_centreNow_53 : decode cX12_centreNow 53 = .ok (.iinc 4 1, 3) := by decide +kernel
theorem dX12_centreNow_56 : decode cX12_centreNow 56 = .ok (.goto (-39), 3) := by decide +kernel
theorem dX12_centreNow_59 : decode cX12_centreNow 59 = .ok (.iload_n 3, 1) := by decide +kernel
theorem dX12_centreNow_60 : decode cX12_centreNow 60 = .ok (.ifCond .eq 9, 3) := by decide +kernel
theorem dX12_centreNow_63 : decode cX12_centreNow 63 = .ok (.iload_n 1, 1) := by decide +kernel
theorem dX12_centreNow_64 : decode cX12_centreNow 64 = .ok (.iconst 1, 1) := by decide +kernel
theorem dX12_centreNow_65 : decode cX12_centreNow 65 = .ok (.iload_n 2, 1) := by decide +kernel
theorem dX12_centreNow_66 : decode cX12_centreNow 66 = .ok (.ishl, 1) := by decide +kernel
theorem dX12_centreNow_67 : decode cX12_centreNow 67 = .ok (.ior, 1) := by decide +kernel
theorem dX12_centreNow_68 : decode cX12_centreNow 68 = .ok (.istore_n 1, 1) := by decide +kernel
theorem dX12_centreNow_69 : decode cX12_centreNow 69 = .ok (.iinc 2 1, 3) := by decide +kernel
theorem dX12_centreNow_72 : decode cX12_centreNow 72 = .ok (.goto (-68), 3) := by decide +kernel
theorem dX12_centreNow_75 : decode cX12_centreNow 75 = .ok (.iload_n 1, 1) := by decide +kernel
theorem dX12_centreNow_76 : decode cX12_centreNow 76 = .ok (.ireturn, 1) := by decide +kernel
def f_X12_centreNow_B17b (k4 : Int32 → Int32 → Wd → Option Int32) (k17 : Int32 → Int32 → Int32 → Int32 → Wd → Option Int32) (l1 : Int32) (l2 : Int32) (l3 : Int32) (l4 : Int32) (w : Wd) : Option Int32 :=
  if (w.1 44 1) ≤ l4 then
    if l3 = 0 then
      k4 l1 (l2 + 1) w
    else
      k4 (l1 ||| (1 <<< (l2 &&& 31))) (l2 + 1) w
  else
    if l3 = 0 then
      k17 l1 l2 0 (l4 + 1) w
    else
      bnd (f_X12_product0 l2 l4 w) fun x1 =>
      bnd (f_X12_product0 l4 l2 w) fun x2 =>
      if x1 = x2 then
        k17 l1 l2 1 (l4 + 1) w
      else
        k17 l1 l2 0 (l4 + 1) w
def f_X12_centreNow_L17 (k4 : Int32 → Int32 → Wd → Option Int32) (n : Nat) : Int32 → Int32 → Int32 → Int32 → Wd → Option Int32 :=
  Nat.rec (fun _ _ _ _ _ => none) (fun _ k => f_X12_centreNow_B17b k4 k) n
set_option maxHeartbeats 4000000 in
set_option maxRecDepth 100000 in
theorem t_X12_centreNow_L17 {G : GT} {d : Nat} {k4 : Int32 → Int32 → Wd → Option Int32} {w : Wd} (hd : 1 ≤ d + 1) (h4 : ∀ (l1 : Int32) (l2 : Int32) (r : Int32), k4 l1 l2 w = some r → U (vf G mX12_centreNow (d + 1)) 4 [some (.ref 44), some (.int l1), some (.int l2), none, none] [] w (some (.int r), 70, r0, w)) : ∀ (n : Nat) (l1 : Int32) (l2 : Int32) (l3 : Int32) (l4 : Int32) (r : Int32), f_X12_centreNow_L17 k4 n l1 l2 l3 l4 w = some r → U (vf G mX12_centreNow (d + 1)) 17 [some (.ref 44), some (.int l1), some (.int l2), some (.int l3), some (.int l4)] [] w (some (.int r), 70, r0, w) := by
  intro n
  induction n with
  | zero => intro l1 l2 l3 l4 r h; cases h
  | succ n h17 =>
    intro l1 l2 l3 l4 r h
    have h : f_X12_centreNow_B17b k4 (f_X12_centreNow_L17 k4 n) l1 l2 l3 l4 w = some r := h
    unfold f_X12_centreNow_B17b at h
    refine V.iload (pc := 17) dX12_centreNow_17 rfl ?_
    refine V.aload_n (pc := 19) dX12_centreNow_19 rfl ?_
    refine V.getI (pc := 20) dX12_centreNow_20 f_RX12_92 k_cl12 lx_44 ly_44 rb_12_1 ?_
    rcases ite_e h with ⟨c, h⟩ | ⟨c, h⟩
    · refine V.icmp_ge_t (t := 59) (pc := 23) dX12_centreNow_23 (by decide) c ?_
      refine V.iload_n (pc := 59) dX12_centreNow_59 rfl ?_
      rcases ite_e h with ⟨c, h⟩ | ⟨c, h⟩
      · refine V.if_eq_t (t := 69) (pc := 60) dX12_centreNow_60 (by decide) c ?_
        refine V.iinc (lv' := [some (.ref 44), some (.int l1), some (.int (l2 + 1)), some (.int l3), some (.int l4)]) (pc := 69) dX12_centreNow_69 (Nat.le_of_ble_eq_true rfl) rfl rfl (v := (l2 + 1)) (by rw [show Int32.ofInt 1 = 1 from by decide]) rfl ?_
        refine V.goto (t := 4) (pc := 72) dX12_centreNow_72 (by decide) ?_
        refine V.weak (lv' := [some (.ref 44), some (.int l1), some (.int (l2 + 1)), none, none]) (And.intro rfl (And.intro rfl (And.intro rfl trivial))) ?_
        exact h4 l1 (l2 + 1) _ h
      · refine V.if_eq_f (t := 69) (pc := 60) dX12_centreNow_60 (by decide) c ?_
        refine V.iload_n (pc := 63) dX12_centreNow_63 rfl ?_
        refine V.iconst (pc := 64) dX12_centreNow_64 ic_1 ?_
        refine V.iload_n (pc := 65) dX12_centreNow_65 rfl ?_
        refine V.ishl (pc := 66) dX12_centreNow_66 ?_
        refine V.ior (pc := 67) dX12_centreNow_67 ?_
        refine V.istore_n (lv' := [some (.ref 44), some (.int (l1 ||| (1 <<< (l2 &&& 31)))), some (.int l2), some (.int l3), some (.int l4)]) (pc := 68) dX12_centreNow_68 (Nat.le_of_ble_eq_true rfl) rfl rfl ?_
        refine V.iinc (lv' := [some (.ref 44), some (.int (l1 ||| (1 <<< (l2 &&& 31)))), some (.int (l2 + 1)), some (.int l3), some (.int l4)]) (pc := 69) dX12_centreNow_69 (Nat.le_of_ble_eq_true rfl) rfl rfl (v := (l2 + 1)) (by rw [show Int32.ofInt 1 = 1 from by decide]) rfl ?_
        refine V.goto (t := 4) (pc := 72) dX12_centreNow_72 (by decide) ?_
        refine V.weak (lv' := [some (.ref 44), some (.int (l1 ||| (1 <<< (l2 &&& 31)))), some (.int (l2 + 1)), none, none]) (And.intro rfl (And.intro rfl (And.intro rfl trivial))) ?_
        exact h4 (l1 ||| (1 <<< (l2 &&& 31))) (l2 + 1) _ h
    · refine V.icmp_ge_f (t := 59) (pc := 23) dX12_centreNow_23 (by decide) c ?_
      refine V.iload_n (pc := 26) dX12_centreNow_26 rfl ?_
      rcases ite_e h with ⟨c, h⟩ | ⟨c, h⟩
      · refine V.if_eq_t (t := 51) (pc := 27) dX12_centreNow_27 (by decide) c ?_
        refine V.iconst (pc := 51) dX12_centreNow_51 ic_0 ?_
        refine V.istore_n (lv' := [some (.ref 44), some (.int l1), some (.int l2), some (.int 0), some (.int l4)]) (pc := 52) dX12_centreNow_52 (Nat.le_of_ble_eq_true rfl) rfl rfl ?_
        refine V.iinc (lv' := [some (.ref 44), some (.int l1), some (.int l2), some (.int 0), some (.int (l4 + 1))]) (pc := 53) dX12_centreNow_53 (Nat.le_of_ble_eq_true rfl) rfl rfl (v := (l4 + 1)) (by rw [show Int32.ofInt 1 = 1 from by decide]) rfl ?_
        refine V.goto (t := 17) (pc := 56) dX12_centreNow_56 (by decide) ?_
        exact h17 l1 l2 0 (l4 + 1) _ h
      · refine V.if_eq_f (t := 51) (pc := 27) dX12_centreNow_27 (by decide) c ?_
        refine V.aload_n (pc := 30) dX12_centreNow_30 rfl ?_
        refine V.iload_n (pc := 31) dX12_centreNow_31 rfl ?_
        refine V.iload (pc := 32) dX12_centreNow_32 rfl ?_
        obtain ⟨x1, ex1, h⟩ := bnd_e h
        refine U.callV (pc := 34) (As := [.int l2, .int l4]) (st := []) dX12_centreNow_34 l_RX12_119 (ok_X12_product0 (by omega) l2 l4 ex1) lx_44 ly_44 cn_12 (Nat.le_of_ble_eq_true rfl) rfl rfl (Nat.le_of_ble_eq_true rfl) ?_
        refine V.aload_n (pc := 37) dX12_centreNow_37 rfl ?_
        refine V.iload (pc := 38) dX12_centreNow_38 rfl ?_
        refine V.iload_n (pc := 40) dX12_centreNow_40 rfl ?_
        obtain ⟨x2, ex2, h⟩ := bnd_e h
        refine U.callV (pc := 41) (As := [.int l4, .int l2]) (st := [.int x1]) dX12_centreNow_41 l_RX12_119 (ok_X12_product0 (by omega) l4 l2 ex2) lx_44 ly_44 cn_12 (Nat.le_of_ble_eq_true rfl) rfl rfl (Nat.le_of_ble_eq_true rfl) ?_
        rcases ite_e h with ⟨c, h⟩ | ⟨c, h⟩
        · refine V.icmp_ne_f (t := 51) (pc := 44) dX12_centreNow_44 (by decide) c ?_
          refine V.iconst (pc := 47) dX12_centreNow_47 ic_1 ?_
          refine V.goto (t := 52) (pc := 48) dX12_centreNow_48 (by decide) ?_
          refine V.istore_n (lv' := [some (.ref 44), some (.int l1), some (.int l2), some (.int 1), some (.int l4)]) (pc := 52) dX12_centreNow_52 (Nat.le_of_ble_eq_true rfl) rfl rfl ?_
          refine V.iinc (lv' := [some (.ref 44), some (.int l1), some (.int l2), some (.int 1), some (.int (l4 + 1))]) (pc := 53) dX12_centreNow_53 (Nat.le_of_ble_eq_true rfl) rfl rfl (v := (l4 + 1)) (by rw [show Int32.ofInt 1 = 1 from by decide]) rfl ?_
          refine V.goto (t := 17) (pc := 56) dX12_centreNow_56 (by decide) ?_
          exact h17 l1 l2 1 (l4 + 1) _ h
        · refine V.icmp_ne_t (t := 51) (pc := 44) dX12_centreNow_44 (by decide) c ?_
          refine V.iconst (pc := 51) dX12_centreNow_51 ic_0 ?_
          refine V.istore_n (lv' := [some (.ref 44), some (.int l1), some (.int l2), some (.int 0), some (.int l4)]) (pc := 52) dX12_centreNow_52 (Nat.le_of_ble_eq_true rfl) rfl rfl ?_
          refine V.iinc (lv' := [some (.ref 44), some (.int l1), some (.int l2), some (.int 0), some (.int (l4 + 1))]) (pc := 53) dX12_centreNow_53 (Nat.le_of_ble_eq_true rfl) rfl rfl (v := (l4 + 1)) (by rw [show Int32.ofInt 1 = 1 from by decide]) rfl ?_
          refine V.goto (t := 17) (pc := 56) dX12_centreNow_56 (by decide) ?_
          exact h17 l1 l2 0 (l4 + 1) _ h
def f_X12_centreNow_B4b (k4 : Int32 → Int32 → Wd → Option Int32) (l1 : Int32) (l2 : Int32) (w : Wd) : Option Int32 :=
  if (w.1 44 1) ≤ l2 then
    some l1
  else
    f_X12_centreNow_L17 k4 FU l1 l2 1 0 w
def f_X12_centreNow_L4 (n : Nat) : Int32 → Int32 → Wd → Option Int32 :=
  Nat.rec (fun _ _ _ => none) (fun _ k => f_X12_centreNow_B4b k) n
set_option maxHeartbeats 4000000 in
set_option maxRecDepth 100000 in
theorem t_X12_centreNow_L4 {G : GT} {d : Nat} {w : Wd} (hd : 1 ≤ d + 1)  : ∀ (n : Nat) (l1 : Int32) (l2 : Int32) (r : Int32), f_X12_centreNow_L4 n l1 l2 w = some r → U (vf G mX12_centreNow (d + 1)) 4 [some (.ref 44), some (.int l1), some (.int l2), none, none] [] w (some (.int r), 70, r0, w) := by
  intro n
  induction n with
  | zero => intro l1 l2 r h; cases h
  | succ n h4 =>
    intro l1 l2 r h
    have h : f_X12_centreNow_B4b (f_X12_centreNow_L4 n) l1 l2 w = some r := h
    unfold f_X12_centreNow_B4b at h
    refine V.iload_n (pc := 4) dX12_centreNow_4 rfl ?_
    refine V.aload_n (pc := 5) dX12_centreNow_5 rfl ?_
    refine V.getI (pc := 6) dX12_centreNow_6 f_RX12_92 k_cl12 lx_44 ly_44 rb_12_1 ?_
    rcases ite_e h with ⟨c, h⟩ | ⟨c, h⟩
    · refine V.icmp_ge_t (t := 75) (pc := 9) dX12_centreNow_9 (by decide) c ?_
      refine V.iload_n (pc := 75) dX12_centreNow_75 rfl ?_
      obtain rfl := Option.some.inj h
      exact V.iret (pc := 76) dX12_centreNow_76 rfl (Nat.le_refl _) (Nat.le_refl _)
    · refine V.icmp_ge_f (t := 75) (pc := 9) dX12_centreNow_9 (by decide) c ?_
      refine V.iconst (pc := 12) dX12_centreNow_12 ic_1 ?_
      refine V.istore_n (lv' := [some (.ref 44), some (.int l1), some (.int l2), some (.int 1), none]) (pc := 13) dX12_centreNow_13 (Nat.le_of_ble_eq_true rfl) rfl rfl ?_
      refine V.iconst (pc := 14) dX12_centreNow_14 ic_0 ?_
      refine V.istore (lv' := [some (.ref 44), some (.int l1), some (.int l2), some (.int 1), some (.int 0)]) (pc := 15) dX12_centreNow_15 (Nat.le_of_ble_eq_true rfl) rfl rfl ?_
      exact t_X12_centreNow_L17 hd h4 FU l1 l2 1 0 _ h
def f_X12_centreNow (w : Wd) : Option Int32 :=
  f_X12_centreNow_L4  FU 0 0 w
set_option maxHeartbeats 4000000 in
set_option maxRecDepth 100000 in
theorem ok_X12_centreNow {G : GT} {d : Nat} (hd : 1 ≤ d) {w : Wd}  {r : Int32} (h : f_X12_centreNow  w = some r) : uC G yX12_centreNow mX12_centreNow d [.ref 44] w (some (.int r)) w := by
  obtain ⟨d, rfl⟩ : ∃ e, d = e + 1 := ⟨d - 1, by omega⟩
  unfold f_X12_centreNow at h
  refine uC_of (lv := [some (.ref 44), none, none, none, none]) 4 pn_X12 ⟨rfl, rfl⟩ (Nat.le_of_ble_eq_true rfl) rfl ?_
  refine V.iconst (pc := 0) dX12_centreNow_0 ic_0 ?_
  refine V.istore_n (lv' := [some (.ref 44), some (.int 0), none, none, none]) (pc := 1) dX12_centreNow_1 (Nat.le_of_ble_eq_true rfl) rfl rfl ?_
  refine V.iconst (pc := 2) dX12_centreNow_2 ic_0 ?_
  refine V.istore_n (lv' := [some (.ref 44), some (.int 0), some (.int 0), none, none]) (pc := 3) dX12_centreNow_3 (Nat.le_of_ble_eq_true rfl) rfl rfl ?_
  exact t_X12_centreNow_L4 hd FU 0 0 _ h
theorem dX12_centre_0 : decode cX12_centre 0 = .ok (.aload_n 0, 1) := by decide +kernel
theorem dX12_centre_1 : decode cX12_centre 1 = .ok (.invokevirtual 188, 3) := by decide +kernel
theorem dX12_centre_4 : decode cX12_centre 4 = .ok (.ireturn, 1) := by decide +kernel
def f_X12_centre (w : Wd) : Option Int32 :=
  bnd (f_X12_centreNow  w) fun x1 =>
  some x1
set_option maxHeartbeats 4000000 in
set_option maxRecDepth 100000 in
theorem ok_X12_centre {G : GT} {d : Nat} (hd : 2 ≤ d) {w : Wd}  {r : Int32} (h : f_X12_centre  w = some r) : uC G yX12_centre mX12_centre d [.ref 44] w (some (.int r)) w := by
  obtain ⟨d, rfl⟩ : ∃ e, d = e + 1 := ⟨d - 1, by omega⟩
  unfold f_X12_centre at h
  refine uC_of (lv := [some (.ref 44)]) 0 pn_X12 ⟨rfl, rfl⟩ (Nat.le_of_ble_eq_true rfl) rfl ?_
  refine V.aload_n (pc := 0) dX12_centre_0 rfl ?_
  obtain ⟨x1, ex1, h⟩ := bnd_e h
  refine U.callV (pc := 1) (As := []) (st := []) dX12_centre_1 l_RX12_188 (ok_X12_centreNow (by omega)  ex1) lx_44 ly_44 cn_12 (Nat.le_of_ble_eq_true rfl) rfl rfl (Nat.le_of_ble_eq_true rfl) ?_
  obtain rfl := Option.some.inj h
  exact V.iret (pc := 4) dX12_centre_4 rfl (Nat.le_refl _) (Nat.le_refl _)
theorem dX11_span_0 : decode cX11_span 0 = .ok (.aload_n 0, 1) := by decide +kernel
theorem dX11_span_1 : decode cX11_span 1 = .ok (.getfield 28, 3) := by decide +kernel
theorem dX11_span_4 : decode cX11_span 4 = .ok (.iload_n 1, 1) := by decide +kernel
theorem dX11_span_5 : decode cX11_span 5 = .ok (.invokevirtual 118, 3) := by decide +kernel
theorem dX11_span_8 : decode cX11_span 8 = .ok (.ifCond .eq 14, 3) := by decide +kernel
theorem dX11_span_11 : decode cX11_span 11 = .ok (.aload_n 0, 1) := by decide +kernel
theorem dX11_span_12 : decode cX11_span 12 = .ok (.getfield 28, 3) := by decide +kernel
theorem dX11_span_15 : decode cX11_span 15 = .ok (.iload_n 1, 1) := by decide +kernel
theorem dX11_span_16 : decode cX11_span 16 = .ok (.invokevirtual 165, 3) := by decide +kernel
theorem dX11_span_19 : decode cX11_span 19 = .ok (.goto 4, 3) := by decide +kernel
theorem dX11_span_22 : decode cX11_span 22 = .ok (.iconst (-1), 1) := by decide +kernel
theorem dX11_span_23 : decode cX11_span 23 = .ok (.ireturn, 1) := by decide +kernel
def f_X11_span (l1 : Int32) (w : Wd) : Option (Int32 × Wd) :=
  if (f_X4_holdsSet l1 w) = 0 then
    some ((-1), w)
  else
    bnd2 (f_X4_spanOf l1 w) fun x1 w2 =>
    some (x1, w2)
set_option maxHeartbeats 4000000 in
set_option maxRecDepth 100000 in
theorem ok_X11_span {G : GT} {d : Nat} (hd : 3 ≤ d) {w : Wd} (l1 : Int32) {r : Int32} {w' : Wd} (h : f_X11_span l1 w = some (r, w')) : uC G yX11_span mX11_span d [.ref 0, .int l1] w (some (.int r)) w' := by
  obtain ⟨d, rfl⟩ : ∃ e, d = e + 1 := ⟨d - 1, by omega⟩
  unfold f_X11_span at h
  refine uC_of (lv := [some (.ref 0), some (.int l1)]) 0 pn_X11 ⟨rfl, rfl⟩ (Nat.le_of_ble_eq_true rfl) rfl ?_
  refine V.aload_n (pc := 0) dX11_span_0 rfl ?_
  refine V.getR (t := 6) (pc := 1) dX11_span_1 f_RX11_28 k_cl11 lx_0 ly_0 rb_11_2 rr_0_2 ?_
  refine V.iload_n (pc := 4) dX11_span_4 rfl ?_
  refine U.callV (pc := 5) (As := [.int l1]) (st := []) dX11_span_5 l_RX11_118 (ok_X4_holdsSet (by omega) l1 ) lx_6 ly_6 cn_4 (Nat.le_of_ble_eq_true rfl) rfl rfl (Nat.le_of_ble_eq_true rfl) ?_
  rcases ite_e h with ⟨c, h⟩ | ⟨c, h⟩
  · refine V.if_eq_t (t := 22) (pc := 8) dX11_span_8 (by decide) c ?_
    refine V.iconst (pc := 22) dX11_span_22 ic_m1 ?_
    obtain ⟨rfl, rfl⟩ := Prod.mk.inj (Option.some.inj h)
    exact V.iret (pc := 23) dX11_span_23 rfl (Nat.le_refl _) (Nat.le_refl _)
  · refine V.if_eq_f (t := 22) (pc := 8) dX11_span_8 (by decide) c ?_
    refine V.aload_n (pc := 11) dX11_span_11 rfl ?_
    refine V.getR (t := 6) (pc := 12) dX11_span_12 f_RX11_28 k_cl11 lx_0 ly_0 rb_11_2 rr_0_2 ?_
    refine V.iload_n (pc := 15) dX11_span_15 rfl ?_
    obtain ⟨x1, w2, ew2, h⟩ := bnd2_e h
    refine U.callV (pc := 16) (As := [.int l1]) (st := []) dX11_span_16 l_RX11_165 (ok_X4_spanOf (by omega) l1 ew2) lx_6 ly_6 cn_4 (Nat.le_of_ble_eq_true rfl) rfl rfl (Nat.le_of_ble_eq_true rfl) ?_
    refine V.goto (t := 23) (pc := 19) dX11_span_19 (by decide) ?_
    obtain ⟨rfl, rfl⟩ := Prod.mk.inj (Option.some.inj h)
    exact V.iret (pc := 23) dX11_span_23 rfl (Nat.le_refl _) (Nat.le_refl _)
theorem dX12_span_0 : decode cX12_span 0 = .ok (.aload_n 0, 1) := by decide +kernel
theorem dX12_span_1 : decode cX12_span 1 = .ok (.iload_n 1, 1) := by decide +kernel
theorem dX12_span_2 : decode cX12_span 2 = .ok (.invokevirtual 169, 3) := by decide +kernel
theorem dX12_span_5 : decode cX12_span 5 = .ok (.ifCond .eq 11, 3) := by decide +kernel
theorem dX12_span_8 : decode cX12_span 8 = .ok (.aload_n 0, 1) := by decide +kernel
theorem dX12_span_9 : decode cX12_span 9 = .ok (.iload_n 1, 1) := by decide +kernel
theorem dX12_span_10 : decode cX12_span 10 = .ok (.invokevirtual 132, 3) := by decide +kernel
theorem dX12_span_13 : decode cX12_span 13 = .ok (.goto 4, 3) := by decide +kernel
theorem dX12_span_16 : decode cX12_span 16 = .ok (.iconst (-1), 1) := by decide +kernel
theorem dX12_span_17 : decode cX12_span 17 = .ok (.ireturn, 1) := by decide +kernel
def f_X12_span (l1 : Int32) (w : Wd) : Option Int32 :=
  if (f_X12_isSet l1 w) = 0 then
    some (-1)
  else
    bnd (f_X12_spanOf l1 w) fun x1 =>
    some x1
set_option maxHeartbeats 4000000 in
set_option maxRecDepth 100000 in
theorem ok_X12_span {G : GT} {d : Nat} (hd : 2 ≤ d) {w : Wd} (l1 : Int32) {r : Int32} (h : f_X12_span l1 w = some r) : uC G yX12_span mX12_span d [.ref 44, .int l1] w (some (.int r)) w := by
  obtain ⟨d, rfl⟩ : ∃ e, d = e + 1 := ⟨d - 1, by omega⟩
  unfold f_X12_span at h
  refine uC_of (lv := [some (.ref 44), some (.int l1)]) 0 pn_X12 ⟨rfl, rfl⟩ (Nat.le_of_ble_eq_true rfl) rfl ?_
  refine V.aload_n (pc := 0) dX12_span_0 rfl ?_
  refine V.iload_n (pc := 1) dX12_span_1 rfl ?_
  refine U.callV (pc := 2) (As := [.int l1]) (st := []) dX12_span_2 l_RX12_169 (ok_X12_isSet (by omega) l1 ) lx_44 ly_44 cn_12 (Nat.le_of_ble_eq_true rfl) rfl rfl (Nat.le_of_ble_eq_true rfl) ?_
  rcases ite_e h with ⟨c, h⟩ | ⟨c, h⟩
  · refine V.if_eq_t (t := 16) (pc := 5) dX12_span_5 (by decide) c ?_
    refine V.iconst (pc := 16) dX12_span_16 ic_m1 ?_
    obtain rfl := Option.some.inj h
    exact V.iret (pc := 17) dX12_span_17 rfl (Nat.le_refl _) (Nat.le_refl _)
  · refine V.if_eq_f (t := 16) (pc := 5) dX12_span_5 (by decide) c ?_
    refine V.aload_n (pc := 8) dX12_span_8 rfl ?_
    refine V.iload_n (pc := 9) dX12_span_9 rfl ?_
    obtain ⟨x1, ex1, h⟩ := bnd_e h
    refine U.callV (pc := 10) (As := [.int l1]) (st := []) dX12_span_10 l_RX12_132 (ok_X12_spanOf (by omega) l1 ex1) lx_44 ly_44 cn_12 (Nat.le_of_ble_eq_true rfl) rfl rfl (Nat.le_of_ble_eq_true rfl) ?_
    refine V.goto (t := 17) (pc := 13) dX12_span_13 (by decide) ?_
    obtain rfl := Option.some.inj h
    exact V.iret (pc := 17) dX12_span_17 rfl (Nat.le_refl _) (Nat.le_refl _)
theorem dX4_addSubgroup_0 : decode cX4_addSubgroup 0 = .ok (.iconst 0, 1) := by decide +kernel
theorem dX4_addSubgroup_1 : decode cX4_addSubgroup 1 = .ok (.istore_n 2, 1) := by decide +kernel
theorem dX4_addSubgroup_2 : decode cX4_addSubgroup 2 = .ok (.iload_n 2, 1) := by decide +kernel
theorem dX4_addSubgroup_3 : decode cX4_addSubgroup 3 = .ok (.aload_n 0, 1) := by decide +kernel
theorem dX4_addSubgroup_4 : decode cX4_addSubgroup 4 = .ok (.getfield 55, 3) := by decide +kernel
theorem dX4_addSubgroup_7 : decode cX4_addSubgroup 7 = .ok (.if_icmp .ge 20, 3) := by decide +kernel
theorem dX4_addSubgroup_10 : decode cX4_addSubgroup 10 = .ok (.aload_n 0, 1) := by decide +kernel
theorem dX4_addSubgroup_11 : decode cX4_addSubgroup 11 = .ok (.getfield 27, 3) := by decide +kernel
theorem dX4_addSubgroup_14 : decode cX4_addSubgroup 14 = .ok (.iload_n 2, 1) := by decide +kernel
theorem dX4_addSubgroup_15 : decode cX4_addSubgroup 15 = .ok (.iaload, 1) := by decide +kernel
theorem dX4_addSubgroup_16 : decode cX4_addSubgroup 16 = .ok (.iload_n 1, 1) := by decide +kernel
theorem dX4_addSubgroup_17 : decode cX4_addSubgroup 17 = .ok (.if_icmp .ne 4, 3) := by decide +kernel
theorem dX4_addSubgroup_20 : decode cX4_addSubgroup 20 = .ok (.return_, 1) := by decide +kernel
theorem dX4_addSubgroup_21 : decode cX4_addSubgroup 21 = .ok (.iinc 2 1, 3) := by decide +kernel
theorem dX4_addSubgroup_24 : decode cX4_addSubgroup 24 = .ok (.goto (-22), 3) := by decide +kernel
theorem dX4_addSubgroup_27 : decode cX4_addSubgroup 27 = .ok (.aload_n 0, 1) := by decide +kernel
theorem dX4_addSubgroup_28 : decode cX4_addSubgroup 28 = .ok (.getfield 55, 3) := by decide +kernel
theorem dX4_addSubgroup_31 : decode cX4_addSubgroup 31 = .ok (.sipush 128, 3) := by decide +kernel
theorem dX4_addSubgroup_34 : decode cX4_addSubgroup 34 = .ok (.if_icmp .ge 20, 3) := by decide +kernel
theorem dX4_addSubgroup_37 : decode cX4_addSubgroup 37 = .ok (.aload_n 0, 1) := by decide +kernel
theorem dX4_addSubgroup_38 : decode cX4_addSubgroup 38 = .ok (.getfield 27, 3) := by decide +kernel
theorem dX4_addSubgroup_41 : decode cX4_addSubgroup 41 = .ok (.aload_n 0, 1) := by decide +kernel
theorem dX4_addSubgroup_42 : decode cX4_addSubgroup 42 = .ok (.dup, 1) := by decide +kernel
theorem dX4_addSubgroup_43 : decode cX4_addSubgroup 43 = .ok (.getfield 55, 3) := by decide +kernel
theorem dX4_addSubgroup_46 : decode cX4_addSubgroup 46 = .ok (.dup_x1, 1) := by decide +kernel
theorem dX4_addSubgroup_47 : decode cX4_addSubgroup 47 = .ok (.iconst 1, 1) := by decide +kernel
theorem dX4_addSubgroup_48 : decode cX4_addSubgroup 48 = .ok (.iadd, 1) := by decide +kernel
theorem dX4_addSubgroup_49 : decode cX4_addSubgroup 49 = .ok (.putfield 55, 3) := by decide +kernel
theorem dX4_addSubgroup_52 : decode cX4_addSubgroup 52 = .ok (.iload_n 1, 1) := by decide +kernel
theorem dX4_addSubgroup_53 : decode cX4_addSubgroup 53 = .ok (.iastore, 1) := by decide +kernel
theorem dX4_addSubgroup_54 : decode cX4_addSubgroup 54 = .ok (.return_, 1) := by decide +kernel
def f_X4_addSubgroup_B2b (k2 : Int32 → Int32 → Wd → Option Wd) (l1 : Int32) (l2 : Int32) (w : Wd) : Option Wd :=
  if (w.1 6 9) ≤ l2 then
    if 128 ≤ (w.1 6 9) then
      some w
    else
      letW (sI w 6 9 ((w.1 6 9) + 1)) fun w1 =>
      wrI w1 12 128 (w.1 6 9) l1 fun w2 =>
      some w2
  else
    rdI w 12 128 l2 fun x3 =>
    if x3 = l1 then
      some w
    else
      k2 l1 (l2 + 1) w
def f_X4_addSubgroup_L2 (n : Nat) : Int32 → Int32 → Wd → Option Wd :=
  Nat.rec (fun _ _ _ => none) (fun _ k => f_X4_addSubgroup_B2b k) n
set_option maxHeartbeats 4000000 in
set_option maxRecDepth 100000 in
theorem t_X4_addSubgroup_L2 {G : GT} {d : Nat} (hd : 0 ≤ d)  : ∀ (n : Nat) (l1 : Int32) (l2 : Int32) (w : Wd) (w' : Wd), f_X4_addSubgroup_L2 n l1 l2 w = some w' → U (vf G mX4_addSubgroup d) 2 [some (.ref 6), some (.int l1), some (.int l2)] [] w (none, 70, r0, w') := by
  intro n
  induction n with
  | zero => intro l1 l2 w w' h; cases h
  | succ n h2 =>
    intro l1 l2 w w' h
    have h : f_X4_addSubgroup_B2b (f_X4_addSubgroup_L2 n) l1 l2 w = some w' := h
    unfold f_X4_addSubgroup_B2b at h
    refine V.iload_n (pc := 2) dX4_addSubgroup_2 rfl ?_
    refine V.aload_n (pc := 3) dX4_addSubgroup_3 rfl ?_
    refine V.getI (pc := 4) dX4_addSubgroup_4 f_RX4_55 k_cl4 lx_6 ly_6 rb_4_9 ?_
    rcases ite_e h with ⟨c, h⟩ | ⟨c, h⟩
    · refine V.icmp_ge_t (t := 27) (pc := 7) dX4_addSubgroup_7 (by decide) c ?_
      refine V.aload_n (pc := 27) dX4_addSubgroup_27 rfl ?_
      refine V.getI (pc := 28) dX4_addSubgroup_28 f_RX4_55 k_cl4 lx_6 ly_6 rb_4_9 ?_
      refine V.sipush (pc := 31) dX4_addSubgroup_31 sp_128 ?_
      rcases ite_e h with ⟨c, h⟩ | ⟨c, h⟩
      · refine V.icmp_ge_t (t := 54) (pc := 34) dX4_addSubgroup_34 (by decide) c ?_
        obtain rfl := Option.some.inj h
        exact V.vret (pc := 54) dX4_addSubgroup_54 rfl (Nat.le_refl _) (Nat.le_refl _)
      · refine V.icmp_ge_f (t := 54) (pc := 34) dX4_addSubgroup_34 (by decide) c ?_
        refine V.aload_n (pc := 37) dX4_addSubgroup_37 rfl ?_
        refine V.getR (t := 12) (pc := 38) dX4_addSubgroup_38 f_RX4_27 k_cl4 lx_6 ly_6 rb_4_5 rr_6_5 ?_
        refine V.aload_n (pc := 41) dX4_addSubgroup_41 rfl ?_
        refine V.dup (pc := 42) dX4_addSubgroup_42 rfl ?_
        refine V.getI (pc := 43) dX4_addSubgroup_43 f_RX4_55 k_cl4 lx_6 ly_6 rb_4_9 ?_
        refine V.dup_x1 (pc := 46) dX4_addSubgroup_46 rfl rfl ?_
        refine V.iconst (pc := 47) dX4_addSubgroup_47 ic_1 ?_
        refine V.iadd (pc := 48) dX4_addSubgroup_48 ?_
        obtain ⟨w1, ew1, h⟩ := letW_e h
        refine V.putIX (pc := 49) dX4_addSubgroup_49 f_RX4_55 k_cl4 lx_6 ly_6 rb_4_9 (fin_I (T0 := TX4) rfl rfl rfl) ew1 ?_
        refine V.iload_n (pc := 52) dX4_addSubgroup_52 rfl ?_
        obtain ⟨w2, iw2, ew2, h⟩ := wrI_e h
        refine V.iastX (pc := 53) dX4_addSubgroup_53 lx_12 ly_12 iw2 ew2 ?_
        obtain rfl := Option.some.inj h
        exact V.vret (pc := 54) dX4_addSubgroup_54 rfl (Nat.le_refl _) (Nat.le_refl _)
    · refine V.icmp_ge_f (t := 27) (pc := 7) dX4_addSubgroup_7 (by decide) c ?_
      refine V.aload_n (pc := 10) dX4_addSubgroup_10 rfl ?_
      refine V.getR (t := 12) (pc := 11) dX4_addSubgroup_11 f_RX4_27 k_cl4 lx_6 ly_6 rb_4_5 rr_6_5 ?_
      refine V.iload_n (pc := 14) dX4_addSubgroup_14 rfl ?_
      obtain ⟨x3, ix3, ex3, h⟩ := rdI_e h
      refine V.ialdX (pc := 15) dX4_addSubgroup_15 lx_12 ly_12 ix3 ex3 ?_
      refine V.iload_n (pc := 16) dX4_addSubgroup_16 rfl ?_
      rcases ite_e h with ⟨c, h⟩ | ⟨c, h⟩
      · refine V.icmp_ne_f (t := 21) (pc := 17) dX4_addSubgroup_17 (by decide) c ?_
        obtain rfl := Option.some.inj h
        exact V.vret (pc := 20) dX4_addSubgroup_20 rfl (Nat.le_refl _) (Nat.le_refl _)
      · refine V.icmp_ne_t (t := 21) (pc := 17) dX4_addSubgroup_17 (by decide) c ?_
        refine V.iinc (lv' := [some (.ref 6), some (.int l1), some (.int (l2 + 1))]) (pc := 21) dX4_addSubgroup_21 (Nat.le_of_ble_eq_true rfl) rfl rfl (v := (l2 + 1)) (by rw [show Int32.ofInt 1 = 1 from by decide]) rfl ?_
        refine V.goto (t := 2) (pc := 24) dX4_addSubgroup_24 (by decide) ?_
        exact h2 l1 (l2 + 1) w _ h
def f_X4_addSubgroup (l1 : Int32) (w : Wd) : Option Wd :=
  f_X4_addSubgroup_L2  FU l1 0 w
set_option maxHeartbeats 4000000 in
set_option maxRecDepth 100000 in
theorem ok_X4_addSubgroup {G : GT} {d : Nat} (hd : 0 ≤ d) {w : Wd} (l1 : Int32) {w' : Wd} (h : f_X4_addSubgroup l1 w = some w') : uC G yX4_addSubgroup mX4_addSubgroup d [.ref 6, .int l1] w none w' := by
  unfold f_X4_addSubgroup at h
  refine uC_of (lv := [some (.ref 6), some (.int l1), none]) 1 pn_X4 ⟨rfl, rfl⟩ (Nat.le_of_ble_eq_true rfl) rfl ?_
  refine V.iconst (pc := 0) dX4_addSubgroup_0 ic_0 ?_
  refine V.istore_n (lv' := [some (.ref 6), some (.int l1), some (.int 0)]) (pc := 1) dX4_addSubgroup_1 (Nat.le_of_ble_eq_true rfl) rfl rfl ?_
  exact t_X4_addSubgroup_L2 hd FU l1 0 w _ h
