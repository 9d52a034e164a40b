theorem dX12_fewestParts_0 : decode cX12_fewestParts 0 = .ok (.aload_n 0, 1) := by decide +kernel
theorem dX12_fewestParts_1 : decode cX12_fewestParts 1 = .ok (.iconst 0, 1) := by decide +kernel
theorem dX12_fewestParts_2 : decode cX12_fewestParts 2 = .ok (.putfield 215, 3) := by decide +kernel
theorem dX12_fewestParts_5 : decode cX12_fewestParts 5 = .ok (.iconst 1, 1) := by decide +kernel
theorem dX12_fewestParts_6 : decode cX12_fewestParts 6 = .ok (.istore_n 2, 1) := by decide +kernel
theorem dX12_fewestParts_7 : decode cX12_fewestParts 7 = .ok (.iload_n 2, 1) := by decide +kernel
theorem dX12_fewestParts_8 : decode cX12_fewestParts 8 = .ok (.aload_n 0, 1) := by decide +kernel
theorem dX12_fewestParts_9 : decode cX12_fewestParts 9 = .ok (.getfield 92, 3) := by decide +kernel
theorem dX12_fewestParts_12 : decode cX12_fewestParts 12 = .ok (.if_icmp .ge 40, 3) := by decide +kernel
theorem dX12_fewestParts_15 : decode cX12_fewestParts 15 = .ok (.iload_n 1, 1) := by decide +kernel
theorem dX12_fewestParts_16 : decode cX12_fewestParts 16 = .ok (.iload_n 2, 1) := by decide +kernel
theorem dX12_fewestParts_17 : decode cX12_fewestParts 17 = .ok (.invokestatic 128, 3) := by decide +kernel
theorem dX12_fewestParts_20 : decode cX12_fewestParts 20 = .ok (.ifCond .ne 6, 3) := by decide +kernel
theorem dX12_fewestParts_23 : decode cX12_fewestParts 23 = .ok (.goto 23, 3) := by decide +kernel
theorem dX12_fewestParts_26 : decode cX12_fewestParts 26 = .ok (.aload_n 0, 1) := by decide +kernel
theorem dX12_fewestParts_27 : decode cX12_fewestParts 27 = .ok (.getfield 63, 3) := by decide +kernel
theorem dX12_fewestParts_30 : decode cX12_fewestParts 30 = .ok (.aload_n 0, 1) := by decide +kernel
theorem dX12_fewestParts_31 : decode cX12_fewestParts 31 = .ok (.getfield 215, 3) := by decide +kernel
theorem dX12_fewestParts_34 : decode cX12_fewestParts 34 = .ok (.iload_n 2, 1) := by decide +kernel
theorem dX12_fewestParts_35 : decode cX12_fewestParts 35 = .ok (.iastore, 1) := by decide +kernel
theorem dX12_fewestParts_36 : decode cX12_fewestParts 36 = .ok (.aload_n 0, 1) := by decide +kernel
theorem dX12_fewestParts_37 : decode cX12_fewestParts 37 = .ok (.dup, 1) := by decide +kernel
theorem dX12_fewestParts_38 : decode cX12_fewestParts 38 = .ok (.getfield 215, 3) := by decide +kernel
theorem dX12_fewestParts_41 : decode cX12_fewestParts 41 = .ok (.iconst 1, 1) := by decide +kernel
theorem dX12_fewestParts_42 : decode cX12_fewestParts 42 = .ok (.iadd, 1) := by decide +kernel
theorem dX12_fewestParts_43 : decode cX12_fewestParts 43 = .ok (.putfield 215, 3) := by decide +kernel
theorem dX12_fewestParts_46 : decode cX12_fewestParts 46 = .ok (.iinc 2 1, 3) := by decide +kernel
theorem dX12_fewestParts_49 : decode cX12_fewestParts 49 = .ok (.goto (-42), 3) := by decide +kernel
theorem dX12_fewestParts_52 : decode cX12_fewestParts 52 = .ok (.iconst 0, 1) := by decide +kernel
theorem dX12_fewestParts_53 : decode cX12_fewestParts 53 = .ok (.istore_n 2, 1) := by decide +kernel
theorem dX12_fewestParts_54 : decode cX12_fewestParts 54 = .ok (.aload_n 0, 1) := by decide +kernel
theorem dX12_fewestParts_55 : decode cX12_fewestParts 55 = .ok (.getfield 215, 3) := by decide +kernel
theorem dX12_fewestParts_58 : decode cX12_fewestParts 58 = .ok (.ifCond .le 17, 3) := by decide +kernel
theorem dX12_fewestParts_61 : decode cX12_fewestParts 61 = .ok (.aload_n 0, 1) := by decide +kernel
theorem dX12_fewestParts_62 : decode cX12_fewestParts 62 = .ok (.iload_n 2, 1) := by decide +kernel
theorem dX12_fewestParts_63 : decode cX12_fewestParts 63 = .ok (.invokevirtual 218, 3) := by decide +kernel
theorem dX12_fewestParts_66 : decode cX12_fewestParts 66 = .ok (.ifCond .ne 9, 3) := by decide +kernel
theorem dX12_fewestParts_69 : decode cX12_fewestParts 69 = .ok (.iinc 2 1, 3) := by decide +kernel
theorem dX12_fewestParts_72 : decode cX12_fewestParts 72 = .ok (.goto (-18), 3) := by decide +kernel
theorem dX12_fewestParts_75 : decode cX12_fewestParts 75 = .ok (.iload_n 2, 1) := by decide +kernel
theorem dX12_fewestParts_76 : decode cX12_fewestParts 76 = .ok (.ireturn, 1) := by decide +kernel
def f_X12_fewestParts_B54b (k54 : Int32 → Wd → Option (Int32 × Wd)) (l2 : Int32) (w : Wd) : Option (Int32 × Wd) :=
  if (w.1 44 22) ≤ 0 then
    some (l2, w)
  else
    bnd2 (f_X12_partsInto l2 w) fun x1 w2 =>
    if x1 = 0 then
      k54 (l2 + 1) w2
    else
      some (l2, w2)
def f_X12_fewestParts_L54 (n : Nat) : Int32 → Wd → Option (Int32 × Wd) :=
  Nat.rec (fun _ _ => none) (fun _ k => f_X12_fewestParts_B54b k) n
set_option maxHeartbeats 4000000 in
set_option maxRecDepth 100000 in
theorem t_X12_fewestParts_L54 {G : GT} {d : Nat} (hd : 3 ≤ d + 1)  : ∀ (n : Nat) (l2 : Int32) (w : Wd) (r : Int32) (w' : Wd), f_X12_fewestParts_L54 n l2 w = some (r, w') → U (vf G mX12_fewestParts (d + 1)) 54 [some (.ref 44), none, some (.int l2)] [] w (some (.int r), 70, r0, w') := by
  intro n
  induction n with
  | zero => intro l2 w r w' h; cases h
  | succ n h54 =>
    intro l2 w r w' h
    have h : f_X12_fewestParts_B54b (f_X12_fewestParts_L54 n) l2 w = some (r, w') := h
    unfold f_X12_fewestParts_B54b at h
    refine V.aload_n (pc := 54) dX12_fewestParts_54 rfl ?_
    refine V.getI (pc := 55) dX12_fewestParts_55 f_RX12_215 k_cl12 lx_44 ly_44 rb_12_22 ?_
    rcases ite_e h with ⟨c, h⟩ | ⟨c, h⟩
    · refine V.if_le_t (t := 75) (pc := 58) dX12_fewestParts_58 (by decide) c ?_
      refine V.iload_n (pc := 75) dX12_fewestParts_75 rfl ?_
      obtain ⟨rfl, rfl⟩ := Prod.mk.inj (Option.some.inj h)
      exact V.iret (pc := 76) dX12_fewestParts_76 rfl (Nat.le_refl _) (Nat.le_refl _)
    · refine V.if_le_f (t := 75) (pc := 58) dX12_fewestParts_58 (by decide) c ?_
      refine V.aload_n (pc := 61) dX12_fewestParts_61 rfl ?_
      refine V.iload_n (pc := 62) dX12_fewestParts_62 rfl ?_
      obtain ⟨x1, w2, ew2, h⟩ := bnd2_e h
      refine U.callV (pc := 63) (As := [.int l2]) (st := []) dX12_fewestParts_63 l_RX12_218 (ok_X12_partsInto (by omega) l2 ew2) lx_44 ly_44 cn_12 (Nat.le_of_ble_eq_true rfl) rfl rfl (Nat.le_of_ble_eq_true rfl) ?_
      rcases ite_e h with ⟨c, h⟩ | ⟨c, h⟩
      · refine V.if_ne_f (t := 75) (pc := 66) dX12_fewestParts_66 (by decide) c ?_
        refine V.iinc (lv' := [some (.ref 44), none, some (.int (l2 + 1))]) (pc := 69) dX12_fewestParts_69 (Nat.le_of_ble_eq_true rfl) rfl rfl (v := (l2 + 1)) (by rw [show Int32.ofInt 1 = 1 from by decide]) rfl ?_
        refine V.goto (t := 54) (pc := 72) dX12_fewestParts_72 (by decide) ?_
        exact h54 (l2 + 1) w2 _ _ h
      · refine V.if_ne_t (t := 75) (pc := 66) dX12_fewestParts_66 (by decide) c ?_
        refine V.iload_n (pc := 75) dX12_fewestParts_75 rfl ?_
        obtain ⟨rfl, rfl⟩ := Prod.mk.inj (Option.some.inj h)
        exact V.iret (pc := 76) dX12_fewestParts_76 rfl (Nat.le_refl _) (Nat.le_refl _)
def f_X12_fewestParts_B7b (k7 : Int32 → Int32 → Wd → Option (Int32 × Wd)) (l1 : Int32) (l2 : Int32) (w : Wd) : Option (Int32 × Wd) :=
  if (w.1 44 1) ≤ l2 then
    f_X12_fewestParts_L54  FU 0 w
  else
    if (f_X12_has l1 l2) = 0 then
      k7 l1 (l2 + 1) w
    else
      wrI w 61 16 (w.1 44 22) l2 fun w1 =>
      letW (sI w1 44 22 ((w1.1 44 22) + 1)) fun w2 =>
      k7 l1 (l2 + 1) w2
def f_X12_fewestParts_L7 (n : Nat) : Int32 → Int32 → Wd → Option (Int32 × Wd) :=
  Nat.rec (fun _ _ _ => none) (fun _ k => f_X12_fewestParts_B7b k) n
set_option maxHeartbeats 4000000 in
set_option maxRecDepth 100000 in
theorem t_X12_fewestParts_L7 {G : GT} {d : Nat} (hd : 3 ≤ d + 1)  : ∀ (n : Nat) (l1 : Int32) (l2 : Int32) (w : Wd) (r : Int32) (w' : Wd), f_X12_fewestParts_L7 n l1 l2 w = some (r, w') → U (vf G mX12_fewestParts (d + 1)) 7 [some (.ref 44), some (.int l1), some (.int l2)] [] w (some (.int r), 70, r0, w') := by
  intro n
  induction n with
  | zero => intro l1 l2 w r w' h; cases h
  | succ n h7 =>
    intro l1 l2 w r w' h
    have h : f_X12_fewestParts_B7b (f_X12_fewestParts_L7 n) l1 l2 w = some (r, w') := h
    unfold f_X12_fewestParts_B7b at h
    refine V.iload_n (pc := 7) dX12_fewestParts_7 rfl ?_
    refine V.aload_n (pc := 8) dX12_fewestParts_8 rfl ?_
    refine V.getI (pc := 9) dX12_fewestParts_9 f_RX12_92 k_cl12 lx_44 ly_44 rb_12_1 ?_
    rcases ite_e h with ⟨c, h⟩ | ⟨c, h⟩
    · refine V.icmp_ge_t (t := 52) (pc := 12) dX12_fewestParts_12 (by decide) c ?_
      refine V.iconst (pc := 52) dX12_fewestParts_52 ic_0 ?_
      refine V.istore_n (lv' := [some (.ref 44), some (.int l1), some (.int 0)]) (pc := 53) dX12_fewestParts_53 (Nat.le_of_ble_eq_true rfl) rfl rfl ?_
      refine V.weak (lv' := [some (.ref 44), none, some (.int 0)]) (And.intro rfl (And.intro rfl trivial)) ?_
      exact t_X12_fewestParts_L54 hd FU 0 w _ _ h
    · refine V.icmp_ge_f (t := 52) (pc := 12) dX12_fewestParts_12 (by decide) c ?_
      refine V.iload_n (pc := 15) dX12_fewestParts_15 rfl ?_
      refine V.iload_n (pc := 16) dX12_fewestParts_16 rfl ?_
      refine U.callS (pc := 17) (As := [.int l1, .int l2]) (st := []) dX12_fewestParts_17 l_RX12_128 (ok_X12_has (by omega) l1 l2 ) (Nat.le_of_ble_eq_true rfl) rfl rfl (Nat.le_of_ble_eq_true rfl) ?_
      rcases ite_e h with ⟨c, h⟩ | ⟨c, h⟩
      · refine V.if_ne_f (t := 26) (pc := 20) dX12_fewestParts_20 (by decide) c ?_
        refine V.goto (t := 46) (pc := 23) dX12_fewestParts_23 (by decide) ?_
        refine V.iinc (lv' := [some (.ref 44), some (.int l1), some (.int (l2 + 1))]) (pc := 46) dX12_fewestParts_46 (Nat.le_of_ble_eq_true rfl) rfl rfl (v := (l2 + 1)) (by rw [show Int32.ofInt 1 = 1 from by decide]) rfl ?_
        refine V.goto (t := 7) (pc := 49) dX12_fewestParts_49 (by decide) ?_
        exact h7 l1 (l2 + 1) w _ _ h
      · refine V.if_ne_t (t := 26) (pc := 20) dX12_fewestParts_20 (by decide) c ?_
        refine V.aload_n (pc := 26) dX12_fewestParts_26 rfl ?_
        refine V.getR (t := 61) (pc := 27) dX12_fewestParts_27 f_RX12_63 k_cl12 lx_44 ly_44 rb_12_21 rr_44_21 ?_
        refine V.aload_n (pc := 30) dX12_fewestParts_30 rfl ?_
        refine V.getI (pc := 31) dX12_fewestParts_31 f_RX12_215 k_cl12 lx_44 ly_44 rb_12_22 ?_
        refine V.iload_n (pc := 34) dX12_fewestParts_34 rfl ?_
        obtain ⟨w1, iw1, ew1, h⟩ := wrI_e h
        refine V.iastX (pc := 35) dX12_fewestParts_35 lx_61 ly_61 iw1 ew1 ?_
        refine V.aload_n (pc := 36) dX12_fewestParts_36 rfl ?_
        refine V.dup (pc := 37) dX12_fewestParts_37 rfl ?_
        refine V.getI (pc := 38) dX12_fewestParts_38 f_RX12_215 k_cl12 lx_44 ly_44 rb_12_22 ?_
        refine V.iconst (pc := 41) dX12_fewestParts_41 ic_1 ?_
        refine V.iadd (pc := 42) dX12_fewestParts_42 ?_
        obtain ⟨w2, ew2, h⟩ := letW_e h
        refine V.putIX (pc := 43) dX12_fewestParts_43 f_RX12_215 k_cl12 lx_44 ly_44 rb_12_22 (fin_I (T0 := TX12) rfl rfl rfl) ew2 ?_
        refine V.iinc (lv' := [some (.ref 44), some (.int l1), some (.int (l2 + 1))]) (pc := 46) dX12_fewestParts_46 (Nat.le_of_ble_eq_true rfl) rfl rfl (v := (l2 + 1)) (by rw [show Int32.ofInt 1 = 1 from by decide]) rfl ?_
        refine V.goto (t := 7) (pc := 49) dX12_fewestParts_49 (by decide) ?_
        exact h7 l1 (l2 + 1) w2 _ _ h
def f_X12_fewestParts (l1 : Int32) (w : Wd) : Option (Int32 × Wd) :=
  letW (sI w 44 22 0) fun w1 =>
  f_X12_fewestParts_L7  FU l1 1 w1
set_option maxHeartbeats 4000000 in
set_option maxRecDepth 100000 in
theorem ok_X12_fewestParts {G : GT} {d : Nat} (hd : 3 ≤ d) {w : Wd} (l1 : Int32) {r : Int32} {w' : Wd} (h : f_X12_fewestParts l1 w = some (r, w')) : uC G yX12_fewestParts mX12_fewestParts d [.ref 44, .int l1] w (some (.int r)) w' := by
  obtain ⟨d, rfl⟩ : ∃ e, d = e + 1 := ⟨d - 1, by omega⟩
  unfold f_X12_fewestParts at h
  refine uC_of (lv := [some (.ref 44), some (.int l1), none]) 1 pn_X12 ⟨rfl, rfl⟩ (Nat.le_of_ble_eq_true rfl) rfl ?_
  refine V.aload_n (pc := 0) dX12_fewestParts_0 rfl ?_
  refine V.iconst (pc := 1) dX12_fewestParts_1 ic_0 ?_
  obtain ⟨w1, ew1, h⟩ := letW_e h
  refine V.putIX (pc := 2) dX12_fewestParts_2 f_RX12_215 k_cl12 lx_44 ly_44 rb_12_22 (fin_I (T0 := TX12) rfl rfl rfl) ew1 ?_
  refine V.iconst (pc := 5) dX12_fewestParts_5 ic_1 ?_
  refine V.istore_n (lv' := [some (.ref 44), some (.int l1), some (.int 1)]) (pc := 6) dX12_fewestParts_6 (Nat.le_of_ble_eq_true rfl) rfl rfl ?_
  exact t_X12_fewestParts_L7 hd FU l1 1 w1 _ _ h
theorem dX12_parts_0 : decode cX12_parts 0 = .ok (.aload_n 0, 1) := by decide +kernel
theorem dX12_parts_1 : decode cX12_parts 1 = .ok (.iload_n 1, 1) := by decide +kernel
theorem dX12_parts_2 : decode cX12_parts 2 = .ok (.invokevirtual 169, 3) := by decide +kernel
theorem dX12_parts_5 : decode cX12_parts 5 = .ok (.ifCond .ne 5, 3) := by decide +kernel
theorem dX12_parts_8 : decode cX12_parts 8 = .ok (.iconst (-1), 1) := by decide +kernel
theorem dX12_parts_9 : decode cX12_parts 9 = .ok (.ireturn, 1) := by decide +kernel
theorem dX12_parts_10 : decode cX12_parts 10 = .ok (.iload_n 1, 1) := by decide +kernel
theorem dX12_parts_11 : decode cX12_parts 11 = .ok (.iconst 0, 1) := by decide +kernel
theorem dX12_parts_12 : decode cX12_parts 12 = .ok (.invokestatic 128, 3) := by decide +kernel
theorem dX12_parts_15 : decode cX12_parts 15 = .ok (.ifCond .eq 8, 3) := by decide +kernel
theorem dX12_parts_18 : decode cX12_parts 18 = .ok (.bipush (-2), 2) := by decide +kernel
theorem dX12_parts_20 : decode cX12_parts 20 = .ok (.goto 8, 3) := by decide +kernel
theorem dX12_parts_23 : decode cX12_parts 23 = .ok (.aload_n 0, 1) := by decide +kernel
theorem dX12_parts_24 : decode cX12_parts 24 = .ok (.iload_n 1, 1) := by decide +kernel
theorem dX12_parts_25 : decode cX12_parts 25 = .ok (.invokevirtual 221, 3) := by decide +kernel
theorem dX12_parts_28 : decode cX12_parts 28 = .ok (.ireturn, 1) := by decide +kernel
def f_X12_parts (l1 : Int32) (w : Wd) : Option (Int32 × Wd) :=
  if (f_X12_isSet l1 w) = 0 then
    some ((-1), w)
  else
    if (f_X12_has l1 0) = 0 then
      bnd2 (f_X12_fewestParts l1 w) fun x1 w2 =>
      some (x1, w2)
    else
      some ((-2), w)
set_option maxHeartbeats 4000000 in
set_option maxRecDepth 100000 in
theorem ok_X12_parts {G : GT} {d : Nat} (hd : 4 ≤ d) {w : Wd} (l1 : Int32) {r : Int32} {w' : Wd} (h : f_X12_parts l1 w = some (r, w')) : uC G yX12_parts mX12_parts d [.ref 44, .int l1] w (some (.int r)) w' := by
  obtain ⟨d, rfl⟩ : ∃ e, d = e + 1 := ⟨d - 1, by omega⟩
  unfold f_X12_parts at h
  refine uC_of (lv := [some (.ref 44), some (.int l1)]) 0 pn_X12 ⟨rfl, rfl⟩ (Nat.le_of_ble_eq_true rfl) rfl ?_
  refine V.aload_n (pc := 0) dX12_parts_0 rfl ?_
  refine V.iload_n (pc := 1) dX12_parts_1 rfl ?_
  refine U.callV (pc := 2) (As := [.int l1]) (st := []) dX12_parts_2 l_RX12_169 (ok_X12_isSet (by omega) l1 ) lx_44 ly_44 cn_12 (Nat.le_of_ble_eq_true rfl) rfl rfl (Nat.le_of_ble_eq_true rfl) ?_
  rcases ite_e h with ⟨c, h⟩ | ⟨c, h⟩
  · refine V.if_ne_f (t := 10) (pc := 5) dX12_parts_5 (by decide) c ?_
    refine V.iconst (pc := 8) dX12_parts_8 ic_m1 ?_
    obtain ⟨rfl, rfl⟩ := Prod.mk.inj (Option.some.inj h)
    exact V.iret (pc := 9) dX12_parts_9 rfl (Nat.le_refl _) (Nat.le_refl _)
  · refine V.if_ne_t (t := 10) (pc := 5) dX12_parts_5 (by decide) c ?_
    refine V.iload_n (pc := 10) dX12_parts_10 rfl ?_
    refine V.iconst (pc := 11) dX12_parts_11 ic_0 ?_
    refine U.callS (pc := 12) (As := [.int l1, .int 0]) (st := []) dX12_parts_12 l_RX12_128 (ok_X12_has (by omega) l1 0 ) (Nat.le_of_ble_eq_true rfl) rfl rfl (Nat.le_of_ble_eq_true rfl) ?_
    rcases ite_e h with ⟨c, h⟩ | ⟨c, h⟩
    · refine V.if_eq_t (t := 23) (pc := 15) dX12_parts_15 (by decide) c ?_
      refine V.aload_n (pc := 23) dX12_parts_23 rfl ?_
      refine V.iload_n (pc := 24) dX12_parts_24 rfl ?_
      obtain ⟨x1, w2, ew2, h⟩ := bnd2_e h
      refine U.callV (pc := 25) (As := [.int l1]) (st := []) dX12_parts_25 l_RX12_221 (ok_X12_fewestParts (by omega) l1 ew2) lx_44 ly_44 cn_12 (Nat.le_of_ble_eq_true rfl) rfl rfl (Nat.le_of_ble_eq_true rfl) ?_
      obtain ⟨rfl, rfl⟩ := Prod.mk.inj (Option.some.inj h)
      exact V.iret (pc := 28) dX12_parts_28 rfl (Nat.le_refl _) (Nat.le_refl _)
    · refine V.if_eq_f (t := 23) (pc := 15) dX12_parts_15 (by decide) c ?_
      refine V.bipush (pc := 18) dX12_parts_18 bp_m2 ?_
      refine V.goto (t := 28) (pc := 20) dX12_parts_20 (by decide) ?_
      obtain ⟨rfl, rfl⟩ := Prod.mk.inj (Option.some.inj h)
      exact V.iret (pc := 28) dX12_parts_28 rfl (Nat.le_refl _) (Nat.le_refl _)
theorem dX11_classes_0 : decode cX11_classes 0 = .ok (.aload_n 0, 1) := by decide +kernel
theorem dX11_classes_1 : decode cX11_classes 1 = .ok (.getfield 51, 3) := by decide +kernel
theorem dX11_classes_4 : decode cX11_classes 4 = .ok (.aload_n 0, 1) := by decide +kernel
theorem dX11_classes_5 : decode cX11_classes 5 = .ok (.getfield 28, 3) := by decide +kernel
theorem dX11_classes_8 : decode cX11_classes 8 = .ok (.getfield 189, 3) := by decide +kernel
theorem dX11_classes_11 : decode cX11_classes 11 = .ok (.bipush (-2), 2) := by decide +kernel
theorem dX11_classes_13 : decode cX11_classes 13 = .ok (.iand, 1) := by decide +kernel
theorem dX11_classes_14 : decode cX11_classes 14 = .ok (.invokevirtual 237, 3) := by decide +kernel
theorem dX11_classes_17 : decode cX11_classes 17 = .ok (.ireturn, 1) := by decide +kernel
def f_X11_classes (w : Wd) : Option (Int32 × Wd) :=
  bnd2 (f_X2_fewestFor ((w.1 6 8) &&& (-2)) w) fun x1 w2 =>
  some (x1, w2)
set_option maxHeartbeats 4000000 in
set_option maxRecDepth 100000 in
theorem ok_X11_classes {G : GT} {d : Nat} (hd : 28 ≤ d) {w : Wd}  {r : Int32} {w' : Wd} (h : f_X11_classes  w = some (r, w')) : uC G yX11_classes mX11_classes d [.ref 0] w (some (.int r)) w' := by
  obtain ⟨d, rfl⟩ : ∃ e, d = e + 1 := ⟨d - 1, by omega⟩
  unfold f_X11_classes at h
  refine uC_of (lv := [some (.ref 0)]) 0 pn_X11 ⟨rfl, rfl⟩ (Nat.le_of_ble_eq_true rfl) rfl ?_
  refine V.aload_n (pc := 0) dX11_classes_0 rfl ?_
  refine V.getR (t := 21) (pc := 1) dX11_classes_1 f_RX11_51 k_cl11 lx_0 ly_0 rb_11_5 rr_0_5 ?_
  refine V.aload_n (pc := 4) dX11_classes_4 rfl ?_
  refine V.getR (t := 6) (pc := 5) dX11_classes_5 f_RX11_28 k_cl11 lx_0 ly_0 rb_11_2 rr_0_2 ?_
  refine V.getI (pc := 8) dX11_classes_8 f_RX11_189 k_cl4 lx_6 ly_6 rb_4_8 ?_
  refine V.bipush (pc := 11) dX11_classes_11 bp_m2 ?_
  refine V.iand (pc := 13) dX11_classes_13 ?_
  obtain ⟨x1, w2, ew2, h⟩ := bnd2_e h
  refine U.callV (pc := 14) (As := [.int ((w.1 6 8) &&& (-2))]) (st := []) dX11_classes_14 l_RX11_237 (ok_X2_fewestFor (by omega) ((w.1 6 8) &&& (-2)) ew2) lx_21 ly_21 cn_2 (Nat.le_of_ble_eq_true rfl) rfl rfl (Nat.le_of_ble_eq_true rfl) ?_
  obtain ⟨rfl, rfl⟩ := Prod.mk.inj (Option.some.inj h)
  exact V.iret (pc := 17) dX11_classes_17 rfl (Nat.le_refl _) (Nat.le_refl _)
theorem dX12_classes_0 : decode cX12_classes 0 = .ok (.aload_n 0, 1) := by decide +kernel
theorem dX12_classes_1 : decode cX12_classes 1 = .ok (.aload_n 0, 1) := by decide +kernel
theorem dX12_classes_2 : decode cX12_classes 2 = .ok (.invokevirtual 143, 3) := by decide +kernel
theorem dX12_classes_5 : decode cX12_classes 5 = .ok (.bipush (-2), 2) := by decide +kernel
theorem dX12_classes_7 : decode cX12_classes 7 = .ok (.iand, 1) := by decide +kernel
theorem dX12_classes_8 : decode cX12_classes 8 = .ok (.invokevirtual 221, 3) := by decide +kernel
theorem dX12_classes_11 : decode cX12_classes 11 = .ok (.ireturn, 1) := by decide +kernel
def f_X12_classes (w : Wd) : Option (Int32 × Wd) :=
  bnd2 (f_X12_fewestParts ((f_X12_all  w) &&& (-2)) w) fun x1 w2 =>
  some (x1, w2)
set_option maxHeartbeats 4000000 in
set_option maxRecDepth 100000 in
theorem ok_X12_classes {G : GT} {d : Nat} (hd : 4 ≤ d) {w : Wd}  {r : Int32} {w' : Wd} (h : f_X12_classes  w = some (r, w')) : uC G yX12_classes mX12_classes d [.ref 44] w (some (.int r)) w' := by
  obtain ⟨d, rfl⟩ : ∃ e, d = e + 1 := ⟨d - 1, by omega⟩
  unfold f_X12_classes at h
  refine uC_of (lv := [some (.ref 44)]) 0 pn_X12 ⟨rfl, rfl⟩ (Nat.le_of_ble_eq_true rfl) rfl ?_
  refine V.aload_n (pc := 0) dX12_classes_0 rfl ?_
  refine V.aload_n (pc := 1) dX12_classes_1 rfl ?_
  refine U.callV (pc := 2) (As := []) (st := [.ref 44]) dX12_classes_2 l_RX12_143 (ok_X12_all (by omega)  ) lx_44 ly_44 cn_12 (Nat.le_of_ble_eq_true rfl) rfl rfl (Nat.le_of_ble_eq_true rfl) ?_
  refine V.bipush (pc := 5) dX12_classes_5 bp_m2 ?_
  refine V.iand (pc := 7) dX12_classes_7 ?_
  obtain ⟨x1, w2, ew2, h⟩ := bnd2_e h
  refine U.callV (pc := 8) (As := [.int ((f_X12_all  w) &&& (-2))]) (st := []) dX12_classes_8 l_RX12_221 (ok_X12_fewestParts (by omega) ((f_X12_all  w) &&& (-2)) ew2) lx_44 ly_44 cn_12 (Nat.le_of_ble_eq_true rfl) rfl rfl (Nat.le_of_ble_eq_true rfl) ?_
  obtain ⟨rfl, rfl⟩ := Prod.mk.inj (Option.some.inj h)
  exact V.iret (pc := 11) dX12_classes_11 rfl (Nat.le_refl _) (Nat.le_refl _)
theorem dX2_colourOf_0 : decode cX2_colourOf 0 = .ok (.aload_n 0, 1) := by decide +kernel
theorem dX2_colourOf_1 : decode cX2_colourOf 1 = .ok (.aload_n 0, 1) := by decide +kernel
theorem dX2_colourOf_2 : decode cX2_colourOf 2 = .ok (.getfield 18, 3) := by decide +kernel
theorem dX2_colourOf_5 : decode cX2_colourOf 5 = .ok (.getfield 39, 3) := by decide +kernel
theorem dX2_colourOf_8 : decode cX2_colourOf 8 = .ok (.bipush (-2), 2) := by decide +kernel
theorem dX2_colourOf_10 : decode cX2_colourOf 10 = .ok (.iand, 1) := by decide +kernel
theorem dX2_colourOf_11 : decode cX2_colourOf 11 = .ok (.invokevirtual 44, 3) := by decide +kernel
theorem dX2_colourOf_14 : decode cX2_colourOf 14 = .ok (.pop, 1) := by decide +kernel
theorem dX2_colourOf_15 : decode cX2_colourOf 15 = .ok (.aload_n 0, 1) := by decide +kernel
theorem dX2_colourOf_16 : decode cX2_colourOf 16 = .ok (.getfield 15, 3) := by decide +kernel
theorem dX2_colourOf_19 : decode cX2_colourOf 19 = .ok (.iload_n 1, 1) := by decide +kernel
theorem dX2_colourOf_20 : decode cX2_colourOf 20 = .ok (.bipush 15, 2) := by decide +kernel
theorem dX2_colourOf_22 : decode cX2_colourOf 22 = .ok (.iand, 1) := by decide +kernel
theorem dX2_colourOf_23 : decode cX2_colourOf 23 = .ok (.iaload, 1) := by decide +kernel
theorem dX2_colourOf_24 : decode cX2_colourOf 24 = .ok (.ireturn, 1) := by decide +kernel
def f_X2_colourOf (l1 : Int32) (w : Wd) : Option (Int32 × Wd) :=
  bnd2 (f_X2_fewestFor ((w.1 6 8) &&& (-2)) w) fun x1 w2 =>
  rdI w2 23 16 (l1 &&& 15) fun x3 =>
  some (x3, w2)
set_option maxHeartbeats 4000000 in
set_option maxRecDepth 100000 in
theorem ok_X2_colourOf {G : GT} {d : Nat} (hd : 28 ≤ d) {w : Wd} (l1 : Int32) {r : Int32} {w' : Wd} (h : f_X2_colourOf l1 w = some (r, w')) : uC G yX2_colourOf mX2_colourOf d [.ref 21, .int l1] w (some (.int r)) w' := by
  obtain ⟨d, rfl⟩ : ∃ e, d = e + 1 := ⟨d - 1, by omega⟩
  unfold f_X2_colourOf at h
  refine uC_of (lv := [some (.ref 21), some (.int l1)]) 0 pn_X2 ⟨rfl, rfl⟩ (Nat.le_of_ble_eq_true rfl) rfl ?_
  refine V.aload_n (pc := 0) dX2_colourOf_0 rfl ?_
  refine V.aload_n (pc := 1) dX2_colourOf_1 rfl ?_
  refine V.getR (t := 6) (pc := 2) dX2_colourOf_2 f_RX2_18 k_cl2 lx_21 ly_21 rb_2_0 rr_21_0 ?_
  refine V.getI (pc := 5) dX2_colourOf_5 f_RX2_39 k_cl4 lx_6 ly_6 rb_4_8 ?_
  refine V.bipush (pc := 8) dX2_colourOf_8 bp_m2 ?_
  refine V.iand (pc := 10) dX2_colourOf_10 ?_
  obtain ⟨x1, w2, ew2, h⟩ := bnd2_e h
  refine U.callV (pc := 11) (As := [.int ((w.1 6 8) &&& (-2))]) (st := []) dX2_colourOf_11 l_RX2_44 (ok_X2_fewestFor (by omega) ((w.1 6 8) &&& (-2)) ew2) lx_21 ly_21 cn_2 (Nat.le_of_ble_eq_true rfl) rfl rfl (Nat.le_of_ble_eq_true rfl) ?_
  refine V.pop (pc := 14) dX2_colourOf_14 rfl ?_
  refine V.aload_n (pc := 15) dX2_colourOf_15 rfl ?_
  refine V.getR (t := 23) (pc := 16) dX2_colourOf_16 f_RX2_15 k_cl2 lx_21 ly_21 rb_2_2 rr_21_2 ?_
  refine V.iload_n (pc := 19) dX2_colourOf_19 rfl ?_
  refine V.bipush (pc := 20) dX2_colourOf_20 bp_15 ?_
  refine V.iand (pc := 22) dX2_colourOf_22 ?_
  obtain ⟨x3, ix3, ex3, h⟩ := rdI_e h
  refine V.ialdX (pc := 23) dX2_colourOf_23 lx_23 ly_23 ix3 ex3 ?_
  obtain ⟨rfl, rfl⟩ := Prod.mk.inj (Option.some.inj h)
  exact V.iret (pc := 24) dX2_colourOf_24 rfl (Nat.le_refl _) (Nat.le_refl _)
theorem dX11_colour_0 : decode cX11_colour 0 = .ok (.aload_n 0, 1) := by decide +kernel
theorem dX11_colour_1 : decode cX11_colour 1 = .ok (.getfield 28, 3) := by decide +kernel
theorem dX11_colour_4 : decode cX11_colour 4 = .ok (.iload_n 1, 1) := by decide +kernel
theorem dX11_colour_5 : decode cX11_colour 5 = .ok (.invokevirtual 107, 3) := by decide +kernel
theorem dX11_colour_8 : decode cX11_colour 8 = .ok (.ifCond .ne 5, 3) := by decide +kernel
theorem dX11_colour_11 : decode cX11_colour 11 = .ok (.iconst (-1), 1) := by decide +kernel
theorem dX11_colour_12 : decode cX11_colour 12 = .ok (.ireturn, 1) := by decide +kernel
theorem dX11_colour_13 : decode cX11_colour 13 = .ok (.iload_n 1, 1) := by decide +kernel
theorem dX11_colour_14 : decode cX11_colour 14 = .ok (.ifCond .ne 8, 3) := by decide +kernel
theorem dX11_colour_17 : decode cX11_colour 17 = .ok (.bipush (-2), 2) := by decide +kernel
theorem dX11_colour_19 : decode cX11_colour 19 = .ok (.goto 11, 3) := by decide +kernel
theorem dX11_colour_22 : decode cX11_colour 22 = .ok (.aload_n 0, 1) := by decide +kernel
theorem dX11_colour_23 : decode cX11_colour 23 = .ok (.getfield 51, 3) := by decide +kernel
theorem dX11_colour_26 : decode cX11_colour 26 = .ok (.iload_n 1, 1) := by decide +kernel
theorem dX11_colour_27 : decode cX11_colour 27 = .ok (.invokevirtual 240, 3) := by decide +kernel
theorem dX11_colour_30 : decode cX11_colour 30 = .ok (.ireturn, 1) := by decide +kernel
def f_X11_colour (l1 : Int32) (w : Wd) : Option (Int32 × Wd) :=
  if (f_X4_holds l1 w) = 0 then
    some ((-1), w)
  else
    if l1 = 0 then
      some ((-2), w)
    else
      bnd2 (f_X2_colourOf l1 w) fun x1 w2 =>
      some (x1, w2)
set_option maxHeartbeats 4000000 in
set_option maxRecDepth 100000 in
theorem ok_X11_colour {G : GT} {d : Nat} (hd : 29 ≤ d) {w : Wd} (l1 : Int32) {r : Int32} {w' : Wd} (h : f_X11_colour l1 w = some (r, w')) : uC G yX11_colour mX11_colour d [.ref 0, .int l1] w (some (.int r)) w' := by
  obtain ⟨d, rfl⟩ : ∃ e, d = e + 1 := ⟨d - 1, by omega⟩
  unfold f_X11_colour at h
  refine uC_of (lv := [some (.ref 0), some (.int l1)]) 0 pn_X11 ⟨rfl, rfl⟩ (Nat.le_of_ble_eq_true rfl) rfl ?_
  refine V.aload_n (pc := 0) dX11_colour_0 rfl ?_
  refine V.getR (t := 6) (pc := 1) dX11_colour_1 f_RX11_28 k_cl11 lx_0 ly_0 rb_11_2 rr_0_2 ?_
  refine V.iload_n (pc := 4) dX11_colour_4 rfl ?_
  refine U.callV (pc := 5) (As := [.int l1]) (st := []) dX11_colour_5 l_RX11_107 (ok_X4_holds (by omega) l1 ) lx_6 ly_6 cn_4 (Nat.le_of_ble_eq_true rfl) rfl rfl (Nat.le_of_ble_eq_true rfl) ?_
  rcases ite_e h with ⟨c, h⟩ | ⟨c, h⟩
  · refine V.if_ne_f (t := 13) (pc := 8) dX11_colour_8 (by decide) c ?_
    refine V.iconst (pc := 11) dX11_colour_11 ic_m1 ?_
    obtain ⟨rfl, rfl⟩ := Prod.mk.inj (Option.some.inj h)
    exact V.iret (pc := 12) dX11_colour_12 rfl (Nat.le_refl _) (Nat.le_refl _)
  · refine V.if_ne_t (t := 13) (pc := 8) dX11_colour_8 (by decide) c ?_
    refine V.iload_n (pc := 13) dX11_colour_13 rfl ?_
    rcases ite_e h with ⟨c, h⟩ | ⟨c, h⟩
    · refine V.if_ne_f (t := 22) (pc := 14) dX11_colour_14 (by decide) c ?_
      refine V.bipush (pc := 17) dX11_colour_17 bp_m2 ?_
      refine V.goto (t := 30) (pc := 19) dX11_colour_19 (by decide) ?_
      obtain ⟨rfl, rfl⟩ := Prod.mk.inj (Option.some.inj h)
      exact V.iret (pc := 30) dX11_colour_30 rfl (Nat.le_refl _) (Nat.le_refl _)
    · refine V.if_ne_t (t := 22) (pc := 14) dX11_colour_14 (by decide) c ?_
      refine V.aload_n (pc := 22) dX11_colour_22 rfl ?_
      refine V.getR (t := 21) (pc := 23) dX11_colour_23 f_RX11_51 k_cl11 lx_0 ly_0 rb_11_5 rr_0_5 ?_
      refine V.iload_n (pc := 26) dX11_colour_26 rfl ?_
      obtain ⟨x1, w2, ew2, h⟩ := bnd2_e h
      refine U.callV (pc := 27) (As := [.int l1]) (st := []) dX11_colour_27 l_RX11_240 (ok_X2_colourOf (by omega) l1 ew2) lx_21 ly_21 cn_2 (Nat.le_of_ble_eq_true rfl) rfl rfl (Nat.le_of_ble_eq_true rfl) ?_
      obtain ⟨rfl, rfl⟩ := Prod.mk.inj (Option.some.inj h)
      exact V.iret (pc := 30) dX11_colour_30 rfl (Nat.le_refl _) (Nat.le_refl _)
theorem dX12_colour_0 : decode cX12_colour 0 = .ok (.aload_n 0, 1) := by decide +kernel
theorem dX12_colour_1 : decode cX12_colour 1 = .ok (.iload_n 1, 1) := by decide +kernel
theorem dX12_colour_2 : decode cX12_colour 2 = .ok (.invokevirtual 163, 3) := by decide +kernel
theorem dX12_colour_5 : decode cX12_colour 5 = .ok (.ifCond .ne 5, 3) := by decide +kernel
theorem dX12_colour_8 : decode cX12_colour 8 = .ok (.iconst (-1), 1) := by decide +kernel
theorem dX12_colour_9 : decode cX12_colour 9 = .ok (.ireturn, 1) := by decide +kernel
theorem dX12_colour_10 : decode cX12_colour 10 = .ok (.iload_n 1, 1) := by decide +kernel
theorem dX12_colour_11 : decode cX12_colour 11 = .ok (.ifCond .ne 6, 3) := by decide +kernel
theorem dX12_colour_14 : decode cX12_colour 14 = .ok (.bipush (-2), 2) := by decide +kernel
theorem dX12_colour_16 : decode cX12_colour 16 = .ok (.ireturn, 1) := by decide +kernel
theorem dX12_colour_17 : decode cX12_colour 17 = .ok (.aload_n 0, 1) := by decide +kernel
theorem dX12_colour_18 : decode cX12_colour 18 = .ok (.aload_n 0, 1) := by decide +kernel
theorem dX12_colour_19 : decode cX12_colour 19 = .ok (.invokevirtual 143, 3) := by decide +kernel
theorem dX12_colour_22 : decode cX12_colour 22 = .ok (.bipush (-2), 2) := by decide +kernel
theorem dX12_colour_24 : decode cX12_colour 24 = .ok (.iand, 1) := by decide +kernel
theorem dX12_colour_25 : decode cX12_colour 25 = .ok (.invokevirtual 221, 3) := by decide +kernel
theorem dX12_colour_28 : decode cX12_colour 28 = .ok (.istore_n 2, 1) := by decide +kernel
theorem dX12_colour_29 : decode cX12_colour 29 = .ok (.aload_n 0, 1) := by decide +kernel
theorem dX12_colour_30 : decode cX12_colour 30 = .ok (.getfield 54, 3) := by decide +kernel
theorem dX12_colour_33 : decode cX12_colour 33 = .ok (.iload_n 1, 1) := by decide +kernel
theorem dX12_colour_34 : decode cX12_colour 34 = .ok (.iconst 1, 1) := by decide +kernel
theorem dX12_colour_35 : decode cX12_colour 35 = .ok (.isub, 1) := by decide +kernel
theorem dX12_colour_36 : decode cX12_colour 36 = .ok (.iaload, 1) := by decide +kernel
theorem dX12_colour_37 : decode cX12_colour 37 = .ok (.ireturn, 1) := by decide +kernel
def f_X12_colour (l1 : Int32) (w : Wd) : Option (Int32 × Wd) :=
  if (f_X12_isElement l1 w) = 0 then
    some ((-1), w)
  else
    if l1 = 0 then
      some ((-2), w)
    else
      bnd2 (f_X12_fewestParts ((f_X12_all  w) &&& (-2)) w) fun x1 w2 =>
      rdI w2 58 16 (l1 - 1) fun x3 =>
      some (x3, w2)
set_option maxHeartbeats 4000000 in
set_option maxRecDepth 100000 in
theorem ok_X12_colour {G : GT} {d : Nat} (hd : 4 ≤ d) {w : Wd} (l1 : Int32) {r : Int32} {w' : Wd} (h : f_X12_colour l1 w = some (r, w')) : uC G yX12_colour mX12_colour d [.ref 44, .int l1] w (some (.int r)) w' := by
  obtain ⟨d, rfl⟩ : ∃ e, d = e + 1 := ⟨d - 1, by omega⟩
  unfold f_X12_colour at h
  refine uC_of (lv := [some (.ref 44), some (.int l1), none]) 1 pn_X12 ⟨rfl, rfl⟩ (Nat.le_of_ble_eq_true rfl) rfl ?_
  refine V.aload_n (pc := 0) dX12_colour_0 rfl ?_
  refine V.iload_n (pc := 1) dX12_colour_1 rfl ?_
  refine U.callV (pc := 2) (As := [.int l1]) (st := []) dX12_colour_2 l_RX12_163 (ok_X12_isElement (by omega) l1 ) lx_44 ly_44 cn_12 (Nat.le_of_ble_eq_true rfl) rfl rfl (Nat.le_of_ble_eq_true rfl) ?_
  rcases ite_e h with ⟨c, h⟩ | ⟨c, h⟩
  · refine V.if_ne_f (t := 10) (pc := 5) dX12_colour_5 (by decide) c ?_
    refine V.iconst (pc := 8) dX12_colour_8 ic_m1 ?_
    obtain ⟨rfl, rfl⟩ := Prod.mk.inj (Option.some.inj h)
    exact V.iret (pc := 9) dX12_colour_9 rfl (Nat.le_refl _) (Nat.le_refl _)
  · refine V.if_ne_t (t := 10) (pc := 5) dX12_colour_5 (by decide) c ?_
    refine V.iload_n (pc := 10) dX12_colour_10 rfl ?_
    rcases ite_e h with ⟨c, h⟩ | ⟨c, h⟩
    · refine V.if_ne_f (t := 17) (pc := 11) dX12_colour_11 (by decide) c ?_
      refine V.bipush (pc := 14) dX12_colour_14 bp_m2 ?_
      obtain ⟨rfl, rfl⟩ := Prod.mk.inj (Option.some.inj h)
      exact V.iret (pc := 16) dX12_colour_16 rfl (Nat.le_refl _) (Nat.le_refl _)
    · refine V.if_ne_t (t := 17) (pc := 11) dX12_colour_11 (by decide) c ?_
      refine V.aload_n (pc := 17) dX12_colour_17 rfl ?_
      refine V.aload_n (pc := 18) dX12_colour_18 rfl ?_
      refine U.callV (pc := 19) (As := []) (st := [.ref 44]) dX12_colour_19 l_RX12_143 (ok_X12_all (by omega)  ) lx_44 ly_44 cn_12 (Nat.le_of_ble_eq_true rfl) rfl rfl (Nat.le_of_ble_eq_true rfl) ?_
      refine V.bipush (pc := 22) dX12_colour_22 bp_m2 ?_
      refine V.iand (pc := 24) dX12_colour_24 ?_
      obtain ⟨x1, w2, ew2, h⟩ := bnd2_e h
      refine U.callV (pc := 25) (As := [.int ((f_X12_all  w) &&& (-2))]) (st := []) dX12_colour_25 l_RX12_221 (ok_X12_fewestParts (by omega) ((f_X12_all  w) &&& (-2)) ew2) lx_44 ly_44 cn_12 (Nat.le_of_ble_eq_true rfl) rfl rfl (Nat.le_of_ble_eq_true rfl) ?_
      refine V.istore_n (lv' := [some (.ref 44), some (.int l1), some (.int x1)]) (pc := 28) dX12_colour_28 (Nat.le_of_ble_eq_true rfl) rfl rfl ?_
      refine V.aload_n (pc := 29) dX12_colour_29 rfl ?_
      refine V.getR (t := 58) (pc := 30) dX12_colour_30 f_RX12_54 k_cl12 lx_44 ly_44 rb_12_18 rr_44_18 ?_
      refine V.iload_n (pc := 33) dX12_colour_33 rfl ?_
      refine V.iconst (pc := 34) dX12_colour_34 ic_1 ?_
      refine V.isub (pc := 35) dX12_colour_35 ?_
      obtain ⟨x3, ix3, ex3, h⟩ := rdI_e h
      refine V.ialdX (pc := 36) dX12_colour_36 lx_58 ly_58 ix3 ex3 ?_
      obtain ⟨rfl, rfl⟩ := Prod.mk.inj (Option.some.inj h)
      exact V.iret (pc := 37) dX12_colour_37 rfl (Nat.le_refl _) (Nat.le_refl _)
theorem dX8_joined_0 : decode cX8_joined 0 = .ok (.aload_n 0, 1) := by decide +kernel
theorem dX8_joined_1 : decode cX8_joined 1 = .ok (.getfield 44, 3) := by decide +kernel
theorem dX8_joined_4 : decode cX8_joined 4 = .ok (.ifCond .ne 13, 3) := by decide +kernel
theorem dX8_joined_7 : decode cX8_joined 7 = .ok (.aload_n 0, 1) := by decide +kernel
theorem dX8_joined_8 : decode cX8_joined 8 = .ok (.getfield 18, 3) := by decide +kernel
theorem dX8_joined_11 : decode cX8_joined 11 = .ok (.iload_n 1, 1) := by decide +kernel
theorem dX8_joined_12 : decode cX8_joined 12 = .ok (.iload_n 2, 1) := by decide +kernel
theorem dX8_joined_13 : decode cX8_joined 13 = .ok (.invokevirtual 51, 3) := by decide +kernel
theorem dX8_joined_16 : decode cX8_joined 16 = .ok (.ireturn, 1) := by decide +kernel
theorem dX8_joined_17 : decode cX8_joined 17 = .ok (.iload_n 1, 1) := by decide +kernel
theorem dX8_joined_18 : decode cX8_joined 18 = .ok (.iload_n 2, 1) := by decide +kernel
theorem dX8_joined_19 : decode cX8_joined 19 = .ok (.iadd, 1) := by decide +kernel
theorem dX8_joined_20 : decode cX8_joined 20 = .ok (.aload_n 0, 1) := by decide +kernel
theorem dX8_joined_21 : decode cX8_joined 21 = .ok (.getfield 44, 3) := by decide +kernel
theorem dX8_joined_24 : decode cX8_joined 24 = .ok (.if_icmp .lt 14, 3) := by decide +kernel
theorem dX8_joined_27 : decode cX8_joined 27 = .ok (.iload_n 1, 1) := by decide +kernel
theorem dX8_joined_28 : decode cX8_joined 28 = .ok (.iload_n 2, 1) := by decide +kernel
theorem dX8_joined_29 : decode cX8_joined 29 = .ok (.iadd, 1) := by decide +kernel
theorem dX8_joined_30 : decode cX8_joined 30 = .ok (.aload_n 0, 1) := by decide +kernel
theorem dX8_joined_31 : decode cX8_joined 31 = .ok (.getfield 44, 3) := by decide +kernel
theorem dX8_joined_34 : decode cX8_joined 34 = .ok (.isub, 1) := by decide +kernel
theorem dX8_joined_35 : decode cX8_joined 35 = .ok (.goto 6, 3) := by decide +kernel
theorem dX8_joined_38 : decode cX8_joined 38 = .ok (.iload_n 1, 1) := by decide +kernel
theorem dX8_joined_39 : decode cX8_joined 39 = .ok (.iload_n 2, 1) := by decide +kernel
theorem dX8_joined_40 : decode cX8_joined 40 = .ok (.iadd, 1) := by decide +kernel
theorem dX8_joined_41 : decode cX8_joined 41 = .ok (.ireturn, 1) := by decide +kernel
def f_X8_joined_29 (l1 : Int32) (l2 : Int32) (w : Wd) : Option Int32 :=
  if (w.1 29 4) = 0 then
    bnd (f_X4_times l1 l2 w) fun x1 =>
    some x1
  else
    if (l1 + l2) < (w.1 29 4) then
      some (l1 + l2)
    else
      some ((l1 + l2) - (w.1 29 4))
set_option maxHeartbeats 4000000 in
set_option maxRecDepth 100000 in
theorem ok_X8_joined_29 {G : GT} {d : Nat} (hd : 1 ≤ d) {w : Wd} (l1 : Int32) (l2 : Int32) {r : Int32} (h : f_X8_joined_29 l1 l2 w = some r) : uC G yX8_joined mX8_joined d [.ref 29, .int l1, .int l2] w (some (.int r)) w := by
  obtain ⟨d, rfl⟩ : ∃ e, d = e + 1 := ⟨d - 1, by omega⟩
  unfold f_X8_joined_29 at h
  refine uC_of (lv := [some (.ref 29), some (.int l1), some (.int l2)]) 0 pn_X8 ⟨rfl, rfl⟩ (Nat.le_of_ble_eq_true rfl) rfl ?_
  refine V.aload_n (pc := 0) dX8_joined_0 rfl ?_
  refine V.getI (pc := 1) dX8_joined_1 f_RX8_44 k_cl8 lx_29 ly_29 rb_8_4 ?_
  rcases ite_e h with ⟨c, h⟩ | ⟨c, h⟩
  · refine V.if_ne_f (t := 17) (pc := 4) dX8_joined_4 (by decide) c ?_
    refine V.aload_n (pc := 7) dX8_joined_7 rfl ?_
    refine V.getR (t := 6) (pc := 8) dX8_joined_8 f_RX8_18 k_cl8 lx_29 ly_29 rb_8_0 rr_29_0 ?_
    refine V.iload_n (pc := 11) dX8_joined_11 rfl ?_
    refine V.iload_n (pc := 12) dX8_joined_12 rfl ?_
    obtain ⟨x1, ex1, h⟩ := bnd_e h
    refine U.callV (pc := 13) (As := [.int l1, .int l2]) (st := []) dX8_joined_13 l_RX8_51 (ok_X4_times (by omega) l1 l2 ex1) lx_6 ly_6 cn_4 (Nat.le_of_ble_eq_true rfl) rfl rfl (Nat.le_of_ble_eq_true rfl) ?_
    obtain rfl := Option.some.inj h
    exact V.iret (pc := 16) dX8_joined_16 rfl (Nat.le_refl _) (Nat.le_refl _)
  · refine V.if_ne_t (t := 17) (pc := 4) dX8_joined_4 (by decide) c ?_
    refine V.iload_n (pc := 17) dX8_joined_17 rfl ?_
    refine V.iload_n (pc := 18) dX8_joined_18 rfl ?_
    refine V.iadd (pc := 19) dX8_joined_19 ?_
    refine V.aload_n (pc := 20) dX8_joined_20 rfl ?_
    refine V.getI (pc := 21) dX8_joined_21 f_RX8_44 k_cl8 lx_29 ly_29 rb_8_4 ?_
    rcases ite_e h with ⟨c, h⟩ | ⟨c, h⟩
    · refine V.icmp_lt_t (t := 38) (pc := 24) dX8_joined_24 (by decide) c ?_
      refine V.iload_n (pc := 38) dX8_joined_38 rfl ?_
      refine V.iload_n (pc := 39) dX8_joined_39 rfl ?_
      refine V.iadd (pc := 40) dX8_joined_40 ?_
      obtain rfl := Option.some.inj h
      exact V.iret (pc := 41) dX8_joined_41 rfl (Nat.le_refl _) (Nat.le_refl _)
    · refine V.icmp_lt_f (t := 38) (pc := 24) dX8_joined_24 (by decide) c ?_
      refine V.iload_n (pc := 27) dX8_joined_27 rfl ?_
      refine V.iload_n (pc := 28) dX8_joined_28 rfl ?_
      refine V.iadd (pc := 29) dX8_joined_29 ?_
      refine V.aload_n (pc := 30) dX8_joined_30 rfl ?_
      refine V.getI (pc := 31) dX8_joined_31 f_RX8_44 k_cl8 lx_29 ly_29 rb_8_4 ?_
      refine V.isub (pc := 34) dX8_joined_34 ?_
      refine V.goto (t := 41) (pc := 35) dX8_joined_35 (by decide) ?_
      obtain rfl := Option.some.inj h
      exact V.iret (pc := 41) dX8_joined_41 rfl (Nat.le_refl _) (Nat.le_refl _)
theorem dX8_fits_0 : decode cX8_fits 0 = .ok (.aload_n 0, 1) := by decide +kernel
theorem dX8_fits_1 : decode cX8_fits 1 = .ok (.getfield 22, 3) := by decide +kernel
theorem dX8_fits_4 : decode cX8_fits 4 = .ok (.getfield 26, 3) := by decide +kernel
theorem dX8_fits_7 : decode cX8_fits 7 = .ok (.iload_n 1, 1) := by decide +kernel
theorem dX8_fits_8 : decode cX8_fits 8 = .ok (.iaload, 1) := by decide +kernel
theorem dX8_fits_9 : decode cX8_fits 9 = .ok (.istore_n 2, 1) := by decide +kernel
theorem dX8_fits_10 : decode cX8_fits 10 = .ok (.iconst 1, 1) := by decide +kernel
theorem dX8_fits_11 : decode cX8_fits 11 = .ok (.istore_n 3, 1) := by decide +kernel
theorem dX8_fits_12 : decode cX8_fits 12 = .ok (.iconst 1, 1) := by decide +kernel
theorem dX8_fits_13 : decode cX8_fits 13 = .ok (.istore 4, 2) := by decide +kernel
theorem dX8_fits_15 : decode cX8_fits 15 = .ok (.iload 4, 2) := by decide +kernel
theorem dX8_fits_17 : decode cX8_fits 17 = .ok (.iload_n 2, 1) := by decide +kernel
theorem dX8_fits_18 : decode cX8_fits 18 = .ok (.if_icmp .ge 97, 3) := by decide +kernel
theorem dX8_fits_21 : decode cX8_fits 21 = .ok (.aload_n 0, 1) := by decide +kernel
theorem dX8_fits_22 : decode cX8_fits 22 = .ok (.getfield 22, 3) := by decide +kernel
theorem dX8_fits_25 : decode cX8_fits 25 = .ok (.getfield 31, 3) := by decide +kernel
theorem dX8_fits_28 : decode cX8_fits 28 = .ok (.iload 4, 2) := by decide +kernel
theorem dX8_fits_30 : decode cX8_fits 30 = .ok (.iaload, 1) := by decide +kernel
theorem dX8_fits_31 : decode cX8_fits 31 = .ok (.istore 5, 2) := by decide +kernel
theorem dX8_fits_33 : decode cX8_fits 33 = .ok (.aload_n 0, 1) := by decide +kernel
theorem dX8_fits_34 : decode cX8_fits 34 = .ok (.getfield 15, 3) := by decide +kernel
theorem dX8_fits_37 : decode cX8_fits 37 = .ok (.iload 5, 2) := by decide +kernel
theorem dX8_fits_39 : decode cX8_fits 39 = .ok (.aload_n 0, 1) := by decide +kernel
theorem dX8_fits_40 : decode cX8_fits 40 = .ok (.aload_n 0, 1) := by decide +kernel
theorem dX8_fits_41 : decode cX8_fits 41 = .ok (.getfield 15, 3) := by decide +kernel
theorem dX8_fits_44 : decode cX8_fits 44 = .ok (.aload_n 0, 1) := by decide +kernel
theorem dX8_fits_45 : decode cX8_fits 45 = .ok (.getfield 22, 3) := by decide +kernel
theorem dX8_fits_48 : decode cX8_fits 48 = .ok (.getfield 34, 3) := by decide +kernel
theorem dX8_fits_51 : decode cX8_fits 51 = .ok (.iload 5, 2) := by decide +kernel
theorem dX8_fits_53 : decode cX8_fits 53 = .ok (.iaload, 1) := by decide +kernel
theorem dX8_fits_54 : decode cX8_fits 54 = .ok (.iaload, 1) := by decide +kernel
theorem dX8_fits_55 : decode cX8_fits 55 = .ok (.aload_n 0, 1) := by decide +kernel
theorem dX8_fits_56 : decode cX8_fits 56 = .ok (.getfield 9, 3) := by decide +kernel
theorem dX8_fits_59 : decode cX8_fits 59 = .ok (.aload_n 0, 1) := by decide +kernel
theorem dX8_fits_60 : decode cX8_fits 60 = .ok (.getfield 22, 3) := by decide +kernel
theorem dX8_fits_63 : decode cX8_fits 63 = .ok (.getfield 37, 3) := by decide +kernel
theorem dX8_fits_66 : decode cX8_fits 66 = .ok (.iload 5, 2) := by decide +kernel
theorem dX8_fits_68 : decode cX8_fits 68 = .ok (.iaload, 1) := by decide +kernel
theorem dX8_fits_69 : decode cX8_fits 69 = .ok (.iaload, 1) := by decide +kernel
theorem dX8_fits_70 : decode cX8_fits 70 = .ok (.invokevirtual 40, 3) := by decide +kernel
theorem dX8_fits_73 : decode cX8_fits 73 = .ok (.iastore, 1) := by decide +kernel
theorem dX8_fits_74 : decode cX8_fits 74 = .ok (.aload_n 0, 1) := by decide +kernel
theorem dX8_fits_75 : decode cX8_fits 75 = .ok (.getfield 44, 3) := by decide +kernel
theorem dX8_fits_78 : decode cX8_fits 78 = .ok (.ifCond .ne 19, 3) := by decide +kernel
theorem dX8_fits_81 : decode cX8_fits 81 = .ok (.iload_n 3, 1) := by decide +kernel
theorem dX8_fits_82 : decode cX8_fits 82 = .ok (.aload_n 0, 1) := by decide +kernel
theorem dX8_fits_83 : decode cX8_fits 83 = .ok (.getfield 15, 3) := by decide +kernel
theorem dX8_fits_86 : decode cX8_fits 86 = .ok (.iload 5, 2) := by decide +kernel
theorem dX8_fits_88 : decode cX8_fits 88 = .ok (.iaload, 1) := by decide +kernel
theorem dX8_fits_89 : decode cX8_fits 89 = .ok (.ishr, 1) := by decide +kernel
theorem dX8_fits_90 : decode cX8_fits 90 = .ok (.iconst 1, 1) := by decide +kernel
theorem dX8_fits_91 : decode cX8_fits 91 = .ok (.iand, 1) := by decide +kernel
theorem dX8_fits_92 : decode cX8_fits 92 = .ok (.ifCond .eq 5, 3) := by decide +kernel
theorem dX8_fits_95 : decode cX8_fits 95 = .ok (.iconst 0, 1) := by decide +kernel
theorem dX8_fits_96 : decode cX8_fits 96 = .ok (.ireturn, 1) := by decide +kernel
theorem dX8_fits_97 : decode cX8_fits 97 = .ok (.iload_n 3, 1) := by decide +kernel
theorem dX8_fits_98 : decode cX8_fits 98 = .ok (.iconst 1, 1) := by decide +kernel
theorem dX8_fits_99 : decode cX8_fits 99 = .ok (.aload_n 0, 1) := by decide +kernel
theorem dX8_fits_100 : decode cX8_fits 100 = .ok (.getfield 15, 3) := by decide +kernel
theorem dX8_fits_103 : decode cX8_fits 103 = .ok (.iload 5, 2) := by decide +kernel
theorem dX8_fits_105 : decode cX8_fits 105 = .ok (.iaload, 1) := by decide +kernel
theorem dX8_fits_106 : decode cX8_fits 106 = .ok (.ishl, 1) := by decide +kernel
theorem dX8_fits_107 : decode cX8_fits 107 = .ok (.ior, 1) := by decide +kernel
theorem dX8_fits_108 : decode cX8_fits 108 = .ok (.istore_n 3, 1) := by decide +kernel
theorem dX8_fits_109 : decode cX8_fits 109 = .ok (.iinc 4 1, 3) := by decide +kernel
theorem dX8_fits_112 : decode cX8_fits 112 = .ok (.goto (-97), 3) := by decide +kernel
theorem dX8_fits_115 : decode cX8_fits 115 = .ok (.iconst 0, 1) := by decide +kernel
theorem dX8_fits_116 : decode cX8_fits 116 = .ok (.istore 4, 2) := by decide +kernel
theorem dX8_fits_118 : decode cX8_fits 118 = .ok (.iload 4, 2) := by decide +kernel
theorem dX8_fits_120 : decode cX8_fits 120 = .ok (.iload_n 2, 1) := by decide +kernel
theorem dX8_fits_121 : decode cX8_fits 121 = .ok (.if_icmp .ge 87, 3) := by decide +kernel
theorem dX8_fits_124 : decode cX8_fits 124 = .ok (.aload_n 0, 1) := by decide +kernel
theorem dX8_fits_125 : decode cX8_fits 125 = .ok (.getfield 22, 3) := by decide +kernel
theorem dX8_fits_128 : decode cX8_fits 128 = .ok (.getfield 31, 3) := by decide +kernel
theorem dX8_fits_131 : decode cX8_fits 131 = .ok (.iload 4, 2) := by decide +kernel
theorem dX8_fits_133 : decode cX8_fits 133 = .ok (.iaload, 1) := by decide +kernel
theorem dX8_fits_134 : decode cX8_fits 134 = .ok (.istore 5, 2) := by decide +kernel
theorem dX8_fits_136 : decode cX8_fits 136 = .ok (.iconst 0, 1) := by decide +kernel
theorem dX8_fits_137 : decode cX8_fits 137 = .ok (.istore 6, 2) := by decide +kernel
theorem dX8_fits_139 : decode cX8_fits 139 = .ok (.iload 6, 2) := by decide +kernel
theorem dX8_fits_141 : decode cX8_fits 141 = .ok (.iload_n 1, 1) := by decide +kernel
theorem dX8_fits_142 : decode cX8_fits 142 = .ok (.if_icmp .gt 60, 3) := by decide +kernel
theorem dX8_fits_145 : decode cX8_fits 145 = .ok (.aload_n 0, 1) := by decide +kernel
theorem dX8_fits_146 : decode cX8_fits 146 = .ok (.aload_n 0, 1) := by decide +kernel
theorem dX8_fits_147 : decode cX8_fits 147 = .ok (.getfield 15, 3) := by decide +kernel
theorem dX8_fits_150 : decode cX8_fits 150 = .ok (.iload 5, 2) := by decide +kernel
theorem dX8_fits_152 : decode cX8_fits 152 = .ok (.iaload, 1) := by decide +kernel
theorem dX8_fits_153 : decode cX8_fits 153 = .ok (.aload_n 0, 1) := by decide +kernel
theorem dX8_fits_154 : decode cX8_fits 154 = .ok (.getfield 9, 3) := by decide +kernel
theorem dX8_fits_157 : decode cX8_fits 157 = .ok (.iload 6, 2) := by decide +kernel
theorem dX8_fits_159 : decode cX8_fits 159 = .ok (.iaload, 1) := by decide +kernel
theorem dX8_fits_160 : decode cX8_fits 160 = .ok (.invokevirtual 40, 3) := by decide +kernel
theorem dX8_fits_163 : decode cX8_fits 163 = .ok (.istore 7, 2) := by decide +kernel
theorem dX8_fits_165 : decode cX8_fits 165 = .ok (.aload_n 0, 1) := by decide +kernel
theorem dX8_fits_166 : decode cX8_fits 166 = .ok (.getfield 15, 3) := by decide +kernel
theorem dX8_fits_169 : decode cX8_fits 169 = .ok (.aload_n 0, 1) := by decide +kernel
theorem dX8_fits_170 : decode cX8_fits 170 = .ok (.getfield 18, 3) := by decide +kernel
theorem dX8_fits_173 : decode cX8_fits 173 = .ok (.iload 5, 2) := by decide +kernel
theorem dX8_fits_175 : decode cX8_fits 175 = .ok (.aload_n 0, 1) := by decide +kernel
theorem dX8_fits_176 : decode cX8_fits 176 = .ok (.getfield 22, 3) := by decide +kernel
theorem dX8_fits_179 : decode cX8_fits 179 = .ok (.getfield 48, 3) := by decide +kernel
theorem dX8_fits_182 : decode cX8_fits 182 = .ok (.iload 6, 2) := by decide +kernel
theorem dX8_fits_184 : decode cX8_fits 184 = .ok (.iaload, 1) := by decide +kernel
theorem dX8_fits_185 : decode cX8_fits 185 = .ok (.invokevirtual 51, 3) := by decide +kernel
theorem dX8_fits_188 : decode cX8_fits 188 = .ok (.iaload, 1) := by decide +kernel
theorem dX8_fits_189 : decode cX8_fits 189 = .ok (.iload 7, 2) := by decide +kernel
theorem dX8_fits_191 : decode cX8_fits 191 = .ok (.if_icmp .eq 5, 3) := by decide +kernel
theorem dX8_fits_194 : decode cX8_fits 194 = .ok (.iconst 0, 1) := by decide +kernel
theorem dX8_fits_195 : decode cX8_fits 195 = .ok (.ireturn, 1) := by decide +kernel
theorem dX8_fits_196 : decode cX8_fits 196 = .ok (.iinc 6 1, 3) := by decide +kernel
theorem dX8_fits_199 : decode cX8_fits 199 = .ok (.goto (-60), 3) := by decide +kernel
theorem dX8_fits_202 : decode cX8_fits 202 = .ok (.iinc 4 1, 3) := by decide +kernel
theorem dX8_fits_205 : decode cX8_fits 205 = .ok (.goto (-87), 3) := by decide +kernel
theorem dX8_fits_208 : decode cX8_fits 208 = .ok (.iconst 1, 1) := by decide +kernel
theorem dX8_fits_209 : decode cX8_fits 209 = .ok (.ireturn, 1) := by decide +kernel
def f_X8_fits_29_B139b (k118 : Int32 → Int32 → Int32 → Wd → Option (Int32 × Wd)) (k139 : Int32 → Int32 → Int32 → Int32 → Int32 → Wd → Option (Int32 × Wd)) (l1 : Int32) (l2 : Int32) (l4 : Int32) (l5 : Int32) (l6 : Int32) (w : Wd) : Option (Int32 × Wd) :=
  if l1 < l6 then
    k118 l1 l2 (l4 + 1) w
  else
    rdI w 31 16 l5 fun x1 =>
    rdI w 30 4 l6 fun x2 =>
    bnd (f_X8_joined_29 x1 x2 w) fun x3 =>
    rdI w 14 4 l6 fun x4 =>
    bnd (f_X4_times l5 x4 w) fun x5 =>
    rdI w 31 16 x5 fun x6 =>
    if x6 = x3 then
      k139 l1 l2 l4 l5 (l6 + 1) w
    else
      some (0, w)
def f_X8_fits_29_L139 (k118 : Int32 → Int32 → Int32 → Wd → Option (Int32 × Wd)) (n : Nat) : Int32 → Int32 → Int32 → Int32 → Int32 → Wd → Option (Int32 × Wd) :=
  Nat.rec (fun _ _ _ _ _ _ => none) (fun _ k => f_X8_fits_29_B139b k118 k) n
set_option maxHeartbeats 4000000 in
set_option maxRecDepth 100000 in
theorem t_X8_fits_29_L139 {G : GT} {d : Nat} {k118 : Int32 → Int32 → Int32 → Wd → Option (Int32 × Wd)} (hd : 2 ≤ d + 1) (h118 : ∀ (l1 : Int32) (l2 : Int32) (l4 : Int32) (w : Wd) (r : Int32) (w' : Wd), k118 l1 l2 l4 w = some (r, w') → U (vf G mX8_fits (d + 1)) 118 [some (.ref 29), some (.int l1), some (.int l2), none, some (.int l4), none, none, none] [] w (some (.int r), 70, r0, w')) : ∀ (n : Nat) (l1 : Int32) (l2 : Int32) (l4 : Int32) (l5 : Int32) (l6 : Int32) (w : Wd) (r : Int32) (w' : Wd), f_X8_fits_29_L139 k118 n l1 l2 l4 l5 l6 w = some (r, w') → U (vf G mX8_fits (d + 1)) 139 [some (.ref 29), some (.int l1), some (.int l2), none, some (.int l4), some (.int l5), some (.int l6), none] [] w (some (.int r), 70, r0, w') := by
  intro n
  induction n with
  | zero => intro l1 l2 l4 l5 l6 w r w' h; cases h
  | succ n h139 =>
    intro l1 l2 l4 l5 l6 w r w' h
    have h : f_X8_fits_29_B139b k118 (f_X8_fits_29_L139 k118 n) l1 l2 l4 l5 l6 w = some (r, w') := h
    unfold f_X8_fits_29_B139b at h
    refine V.iload (pc := 139) dX8_fits_139 rfl ?_
    refine V.iload_n (pc := 141) dX8_fits_141 rfl ?_
    rcases ite_e h with ⟨c, h⟩ | ⟨c, h⟩
    · refine V.icmp_gt_t (t := 202) (pc := 142) dX8_fits_142 (by decide) c ?_
      refine V.iinc (lv' := [some (.ref 29), some (.int l1), some (.int l2), none, some (.int (l4 + 1)), some (.int l5), some (.int l6), none]) (pc := 202) dX8_fits_202 (Nat.le_of_ble_eq_true rfl) rfl rfl (v := (l4 + 1)) (by rw [show Int32.ofInt 1 = 1 from by decide]) rfl ?_
      refine V.goto (t := 118) (pc := 205) dX8_fits_205 (by decide) ?_
      refine V.weak (lv' := [some (.ref 29), some (.int l1), some (.int l2), none, some (.int (l4 + 1)), none, none, none]) (And.intro rfl (And.intro rfl (And.intro rfl (And.intro rfl trivial)))) ?_
      exact h118 l1 l2 (l4 + 1) w _ _ h
    · refine V.icmp_gt_f (t := 202) (pc := 142) dX8_fits_142 (by decide) c ?_
      refine V.aload_n (pc := 145) dX8_fits_145 rfl ?_
      refine V.aload_n (pc := 146) dX8_fits_146 rfl ?_
      refine V.getR (t := 31) (pc := 147) dX8_fits_147 f_RX8_15 k_cl8 lx_29 ly_29 rb_8_3 rr_29_3 ?_
      refine V.iload (pc := 150) dX8_fits_150 rfl ?_
      obtain ⟨x1, ix1, ex1, h⟩ := rdI_e h
      refine V.ialdX (pc := 152) dX8_fits_152 lx_31 ly_31 ix1 ex1 ?_
      refine V.aload_n (pc := 153) dX8_fits_153 rfl ?_
      refine V.getR (t := 30) (pc := 154) dX8_fits_154 f_RX8_9 k_cl8 lx_29 ly_29 rb_8_2 rr_29_2 ?_
      refine V.iload (pc := 157) dX8_fits_157 rfl ?_
      obtain ⟨x2, ix2, ex2, h⟩ := rdI_e h
      refine V.ialdX (pc := 159) dX8_fits_159 lx_30 ly_30 ix2 ex2 ?_
      obtain ⟨x3, ex3, h⟩ := bnd_e h
      refine U.callV (pc := 160) (As := [.int x1, .int x2]) (st := []) dX8_fits_160 l_RX8_40 (ok_X8_joined_29 (by omega) x1 x2 ex3) lx_29 ly_29 cn_8 (Nat.le_of_ble_eq_true rfl) rfl rfl (Nat.le_of_ble_eq_true rfl) ?_
      refine V.istore (lv' := [some (.ref 29), some (.int l1), some (.int l2), none, some (.int l4), some (.int l5), some (.int l6), some (.int x3)]) (pc := 163) dX8_fits_163 (Nat.le_of_ble_eq_true rfl) rfl rfl ?_
      refine V.aload_n (pc := 165) dX8_fits_165 rfl ?_
      refine V.getR (t := 31) (pc := 166) dX8_fits_166 f_RX8_15 k_cl8 lx_29 ly_29 rb_8_3 rr_29_3 ?_
      refine V.aload_n (pc := 169) dX8_fits_169 rfl ?_
      refine V.getR (t := 6) (pc := 170) dX8_fits_170 f_RX8_18 k_cl8 lx_29 ly_29 rb_8_0 rr_29_0 ?_
      refine V.iload (pc := 173) dX8_fits_173 rfl ?_
      refine V.aload_n (pc := 175) dX8_fits_175 rfl ?_
      refine V.getR (t := 13) (pc := 176) dX8_fits_176 f_RX8_22 k_cl8 lx_29 ly_29 rb_8_1 rr_29_1 ?_
      refine V.getR (t := 14) (pc := 179) dX8_fits_179 f_RX8_48 k_cl1 lx_13 ly_13 rb_1_1 rr_13_1 ?_
      refine V.iload (pc := 182) dX8_fits_182 rfl ?_
      obtain ⟨x4, ix4, ex4, h⟩ := rdI_e h
      refine V.ialdX (pc := 184) dX8_fits_184 lx_14 ly_14 ix4 ex4 ?_
      obtain ⟨x5, ex5, h⟩ := bnd_e h
      refine U.callV (pc := 185) (As := [.int l5, .int x4]) (st := [.ref 31]) dX8_fits_185 l_RX8_51 (ok_X4_times (by omega) l5 x4 ex5) lx_6 ly_6 cn_4 (Nat.le_of_ble_eq_true rfl) rfl rfl (Nat.le_of_ble_eq_true rfl) ?_
      obtain ⟨x6, ix6, ex6, h⟩ := rdI_e h
      refine V.ialdX (pc := 188) dX8_fits_188 lx_31 ly_31 ix6 ex6 ?_
      refine V.iload (pc := 189) dX8_fits_189 rfl ?_
      rcases ite_e h with ⟨c, h⟩ | ⟨c, h⟩
      · refine V.icmp_eq_t (t := 196) (pc := 191) dX8_fits_191 (by decide) c ?_
        refine V.iinc (lv' := [some (.ref 29), some (.int l1), some (.int l2), none, some (.int l4), some (.int l5), some (.int (l6 + 1)), some (.int x3)]) (pc := 196) dX8_fits_196 (Nat.le_of_ble_eq_true rfl) rfl rfl (v := (l6 + 1)) (by rw [show Int32.ofInt 1 = 1 from by decide]) rfl ?_
        refine V.goto (t := 139) (pc := 199) dX8_fits_199 (by decide) ?_
        refine V.weak (lv' := [some (.ref 29), some (.int l1), some (.int l2), none, some (.int l4), some (.int l5), some (.int (l6 + 1)), none]) (And.intro rfl (And.intro rfl (And.intro rfl (And.intro rfl (And.intro rfl (And.intro rfl trivial)))))) ?_
        exact h139 l1 l2 l4 l5 (l6 + 1) w _ _ h
      · refine V.icmp_eq_f (t := 196) (pc := 191) dX8_fits_191 (by decide) c ?_
        refine V.iconst (pc := 194) dX8_fits_194 ic_0 ?_
        obtain ⟨rfl, rfl⟩ := Prod.mk.inj (Option.some.inj h)
        exact V.zret (pc := 195) dX8_fits_195 rfl (Or.inl rfl) (Nat.le_refl _) (Nat.le_refl _)
def f_X8_fits_29_B118b (k118 : Int32 → Int32 → Int32 → Wd → Option (Int32 × Wd)) (l1 : Int32) (l2 : Int32) (l4 : Int32) (w : Wd) : Option (Int32 × Wd) :=
  if l2 ≤ l4 then
    some (1, w)
  else
    rdI w 16 16 l4 fun x1 =>
    f_X8_fits_29_L139 k118 FU l1 l2 l4 x1 0 w
def f_X8_fits_29_L118 (n : Nat) : Int32 → Int32 → Int32 → Wd → Option (Int32 × Wd) :=
  Nat.rec (fun _ _ _ _ => none) (fun _ k => f_X8_fits_29_B118b k) n
set_option maxHeartbeats 4000000 in
set_option maxRecDepth 100000 in
theorem t_X8_fits_29_L118 {G : GT} {d : Nat} (hd : 2 ≤ d + 1)  : ∀ (n : Nat) (l1 : Int32) (l2 : Int32) (l4 : Int32) (w : Wd) (r : Int32) (w' : Wd), f_X8_fits_29_L118 n l1 l2 l4 w = some (r, w') → U (vf G mX8_fits (d + 1)) 118 [some (.ref 29), some (.int l1), some (.int l2), none, some (.int l4), none, none, none] [] w (some (.int r), 70, r0, w') := by
  intro n
  induction n with
  | zero => intro l1 l2 l4 w r w' h; cases h
  | succ n h118 =>
    intro l1 l2 l4 w r w' h
    have h : f_X8_fits_29_B118b (f_X8_fits_29_L118 n) l1 l2 l4 w = some (r, w') := h
    unfold f_X8_fits_29_B118b at h
    refine V.iload (pc := 118) dX8_fits_118 rfl ?_
    refine V.iload_n (pc := 120) dX8_fits_120 rfl ?_
    rcases ite_e h with ⟨c, h⟩ | ⟨c, h⟩
    · refine V.icmp_ge_t (t := 208) (pc := 121) dX8_fits_121 (by decide) c ?_
      refine V.iconst (pc := 208) dX8_fits_208 ic_1 ?_
      obtain ⟨rfl, rfl⟩ := Prod.mk.inj (Option.some.inj h)
      exact V.zret (pc := 209) dX8_fits_209 rfl (Or.inr rfl) (Nat.le_refl _) (Nat.le_refl _)
    · refine V.icmp_ge_f (t := 208) (pc := 121) dX8_fits_121 (by decide) c ?_
      refine V.aload_n (pc := 124) dX8_fits_124 rfl ?_
      refine V.getR (t := 13) (pc := 125) dX8_fits_125 f_RX8_22 k_cl8 lx_29 ly_29 rb_8_1 rr_29_1 ?_
      refine V.getR (t := 16) (pc := 128) dX8_fits_128 f_RX8_31 k_cl1 lx_13 ly_13 rb_1_3 rr_13_3 ?_
      refine V.iload (pc := 131) dX8_fits_131 rfl ?_
      obtain ⟨x1, ix1, ex1, h⟩ := rdI_e h
      refine V.ialdX (pc := 133) dX8_fits_133 lx_16 ly_16 ix1 ex1 ?_
      refine V.istore (lv' := [some (.ref 29), some (.int l1), some (.int l2), none, some (.int l4), some (.int x1), none, none]) (pc := 134) dX8_fits_134 (Nat.le_of_ble_eq_true rfl) rfl rfl ?_
      refine V.iconst (pc := 136) dX8_fits_136 ic_0 ?_
      refine V.istore (lv' := [some (.ref 29), some (.int l1), some (.int l2), none, some (.int l4), some (.int x1), some (.int 0), none]) (pc := 137) dX8_fits_137 (Nat.le_of_ble_eq_true rfl) rfl rfl ?_
      exact t_X8_fits_29_L139 hd h118 FU l1 l2 l4 x1 0 w _ _ h
def f_X8_fits_29_B15b (k15 : Int32 → Int32 → Int32 → Int32 → Wd → Option (Int32 × Wd)) (l1 : Int32) (l2 : Int32) (l3 : Int32) (l4 : Int32) (w : Wd) : Option (Int32 × Wd) :=
  if l2 ≤ l4 then
    f_X8_fits_29_L118  FU l1 l2 0 w
  else
    rdI w 16 16 l4 fun x1 =>
    rdI w 17 16 x1 fun x2 =>
    rdI w 31 16 x2 fun x3 =>
    rdI w 18 16 x1 fun x4 =>
    rdI w 30 4 x4 fun x5 =>
    bnd (f_X8_joined_29 x3 x5 w) fun x6 =>
    wrI w 31 16 x1 x6 fun w7 =>
    if (w7.1 29 4) = 0 then
      rdI w7 31 16 x1 fun x9 =>
      if ((l3 >>> (x9 &&& 31)) &&& 1) = 0 then
        rdI w7 31 16 x1 fun x10 =>
        k15 l1 l2 (l3 ||| (1 <<< (x10 &&& 31))) (l4 + 1) w7
      else
        some (0, w7)
    else
      rdI w7 31 16 x1 fun x8 =>
      k15 l1 l2 (l3 ||| (1 <<< (x8 &&& 31))) (l4 + 1) w7
def f_X8_fits_29_L15 (n : Nat) : Int32 → Int32 → Int32 → Int32 → Wd → Option (Int32 × Wd) :=
  Nat.rec (fun _ _ _ _ _ => none) (fun _ k => f_X8_fits_29_B15b k) n
set_option maxHeartbeats 4000000 in
set_option maxRecDepth 100000 in
theorem t_X8_fits_29_L15 {G : GT} {d : Nat} (hd : 2 ≤ d + 1)  : ∀ (n : Nat) (l1 : Int32) (l2 : Int32) (l3 : Int32) (l4 : Int32) (w : Wd) (r : Int32) (w' : Wd), f_X8_fits_29_L15 n l1 l2 l3 l4 w = some (r, w') → U (vf G mX8_fits (d + 1)) 15 [some (.ref 29), some (.int l1), some (.int l2), some (.int l3), some (.int l4), none, none, none] [] w (some (.int r), 70, r0, w') := by
  intro n
  induction n with
  | zero => intro l1 l2 l3 l4 w r w' h; cases h
  | succ n h15 =>
    intro l1 l2 l3 l4 w r w' h
    have h : f_X8_fits_29_B15b (f_X8_fits_29_L15 n) l1 l2 l3 l4 w = some (r, w') := h
    unfold f_X8_fits_29_B15b at h
    refine V.iload (pc := 15) dX8_fits_15 rfl ?_
    refine V.iload_n (pc := 17) dX8_fits_17 rfl ?_
    rcases ite_e h with ⟨c, h⟩ | ⟨c, h⟩
    · refine V.icmp_ge_t (t := 115) (pc := 18) dX8_fits_18 (by decide) c ?_
      refine V.iconst (pc := 115) dX8_fits_115 ic_0 ?_
      refine V.istore (lv' := [some (.ref 29), some (.int l1), some (.int l2), some (.int l3), some (.int 0), none, none, none]) (pc := 116) dX8_fits_116 (Nat.le_of_ble_eq_true rfl) rfl rfl ?_
      refine V.weak (lv' := [some (.ref 29), some (.int l1), some (.int l2), none, some (.int 0), none, none, none]) (And.intro rfl (And.intro rfl (And.intro rfl (And.intro rfl trivial)))) ?_
      exact t_X8_fits_29_L118 hd FU l1 l2 0 w _ _ h
    · refine V.icmp_ge_f (t := 115) (pc := 18) dX8_fits_18 (by decide) c ?_
      refine V.aload_n (pc := 21) dX8_fits_21 rfl ?_
      refine V.getR (t := 13) (pc := 22) dX8_fits_22 f_RX8_22 k_cl8 lx_29 ly_29 rb_8_1 rr_29_1 ?_
      refine V.getR (t := 16) (pc := 25) dX8_fits_25 f_RX8_31 k_cl1 lx_13 ly_13 rb_1_3 rr_13_3 ?_
      refine V.iload (pc := 28) dX8_fits_28 rfl ?_
      obtain ⟨x1, ix1, ex1, h⟩ := rdI_e h
      refine V.ialdX (pc := 30) dX8_fits_30 lx_16 ly_16 ix1 ex1 ?_
      refine V.istore (lv' := [some (.ref 29), some (.int l1), some (.int l2), some (.int l3), some (.int l4), some (.int x1), none, none]) (pc := 31) dX8_fits_31 (Nat.le_of_ble_eq_true rfl) rfl rfl ?_
      refine V.aload_n (pc := 33) dX8_fits_33 rfl ?_
      refine V.getR (t := 31) (pc := 34) dX8_fits_34 f_RX8_15 k_cl8 lx_29 ly_29 rb_8_3 rr_29_3 ?_
      refine V.iload (pc := 37) dX8_fits_37 rfl ?_
      refine V.aload_n (pc := 39) dX8_fits_39 rfl ?_
      refine V.aload_n (pc := 40) dX8_fits_40 rfl ?_
      refine V.getR (t := 31) (pc := 41) dX8_fits_41 f_RX8_15 k_cl8 lx_29 ly_29 rb_8_3 rr_29_3 ?_
      refine V.aload_n (pc := 44) dX8_fits_44 rfl ?_
      refine V.getR (t := 13) (pc := 45) dX8_fits_45 f_RX8_22 k_cl8 lx_29 ly_29 rb_8_1 rr_29_1 ?_
      refine V.getR (t := 17) (pc := 48) dX8_fits_48 f_RX8_34 k_cl1 lx_13 ly_13 rb_1_4 rr_13_4 ?_
      refine V.iload (pc := 51) dX8_fits_51 rfl ?_
      obtain ⟨x2, ix2, ex2, h⟩ := rdI_e h
      refine V.ialdX (pc := 53) dX8_fits_53 lx_17 ly_17 ix2 ex2 ?_
      obtain ⟨x3, ix3, ex3, h⟩ := rdI_e h
      refine V.ialdX (pc := 54) dX8_fits_54 lx_31 ly_31 ix3 ex3 ?_
      refine V.aload_n (pc := 55) dX8_fits_55 rfl ?_
      refine V.getR (t := 30) (pc := 56) dX8_fits_56 f_RX8_9 k_cl8 lx_29 ly_29 rb_8_2 rr_29_2 ?_
      refine V.aload_n (pc := 59) dX8_fits_59 rfl ?_
      refine V.getR (t := 13) (pc := 60) dX8_fits_60 f_RX8_22 k_cl8 lx_29 ly_29 rb_8_1 rr_29_1 ?_
      refine V.getR (t := 18) (pc := 63) dX8_fits_63 f_RX8_37 k_cl1 lx_13 ly_13 rb_1_5 rr_13_5 ?_
      refine V.iload (pc := 66) dX8_fits_66 rfl ?_
      obtain ⟨x4, ix4, ex4, h⟩ := rdI_e h
      refine V.ialdX (pc := 68) dX8_fits_68 lx_18 ly_18 ix4 ex4 ?_
      obtain ⟨x5, ix5, ex5, h⟩ := rdI_e h
      refine V.ialdX (pc := 69) dX8_fits_69 lx_30 ly_30 ix5 ex5 ?_
      obtain ⟨x6, ex6, h⟩ := bnd_e h
      refine U.callV (pc := 70) (As := [.int x3, .int x5]) (st := [.int x1, .ref 31]) dX8_fits_70 l_RX8_40 (ok_X8_joined_29 (by omega) x3 x5 ex6) lx_29 ly_29 cn_8 (Nat.le_of_ble_eq_true rfl) rfl rfl (Nat.le_of_ble_eq_true rfl) ?_
      obtain ⟨w7, iw7, ew7, h⟩ := wrI_e h
      refine V.iastX (pc := 73) dX8_fits_73 lx_31 ly_31 iw7 ew7 ?_
      refine V.aload_n (pc := 74) dX8_fits_74 rfl ?_
      refine V.getI (pc := 75) dX8_fits_75 f_RX8_44 k_cl8 lx_29 ly_29 rb_8_4 ?_
      rcases ite_e h with ⟨c, h⟩ | ⟨c, h⟩
      · refine V.if_ne_f (t := 97) (pc := 78) dX8_fits_78 (by decide) c ?_
        refine V.iload_n (pc := 81) dX8_fits_81 rfl ?_
        refine V.aload_n (pc := 82) dX8_fits_82 rfl ?_
        refine V.getR (t := 31) (pc := 83) dX8_fits_83 f_RX8_15 k_cl8 lx_29 ly_29 rb_8_3 rr_29_3 ?_
        refine V.iload (pc := 86) dX8_fits_86 rfl ?_
        obtain ⟨x9, ix9, ex9, h⟩ := rdI_e h
        refine V.ialdX (pc := 88) dX8_fits_88 lx_31 ly_31 ix9 ex9 ?_
        refine V.ishr (pc := 89) dX8_fits_89 ?_
        refine V.iconst (pc := 90) dX8_fits_90 ic_1 ?_
        refine V.iand (pc := 91) dX8_fits_91 ?_
        rcases ite_e h with ⟨c, h⟩ | ⟨c, h⟩
        · refine V.if_eq_t (t := 97) (pc := 92) dX8_fits_92 (by decide) c ?_
          refine V.iload_n (pc := 97) dX8_fits_97 rfl ?_
          refine V.iconst (pc := 98) dX8_fits_98 ic_1 ?_
          refine V.aload_n (pc := 99) dX8_fits_99 rfl ?_
          refine V.getR (t := 31) (pc := 100) dX8_fits_100 f_RX8_15 k_cl8 lx_29 ly_29 rb_8_3 rr_29_3 ?_
          refine V.iload (pc := 103) dX8_fits_103 rfl ?_
          obtain ⟨x10, ix10, ex10, h⟩ := rdI_e h
          refine V.ialdX (pc := 105) dX8_fits_105 lx_31 ly_31 ix10 ex10 ?_
          refine V.ishl (pc := 106) dX8_fits_106 ?_
          refine V.ior (pc := 107) dX8_fits_107 ?_
          refine V.istore_n (lv' := [some (.ref 29), some (.int l1), some (.int l2), some (.int (l3 ||| (1 <<< (x10 &&& 31)))), some (.int l4), some (.int x1), none, none]) (pc := 108) dX8_fits_108 (Nat.le_of_ble_eq_true rfl) rfl rfl ?_
          refine V.iinc (lv' := [some (.ref 29), some (.int l1), some (.int l2), some (.int (l3 ||| (1 <<< (x10 &&& 31)))), some (.int (l4 + 1)), some (.int x1), none, none]) (pc := 109) dX8_fits_109 (Nat.le_of_ble_eq_true rfl) rfl rfl (v := (l4 + 1)) (by rw [show Int32.ofInt 1 = 1 from by decide]) rfl ?_
          refine V.goto (t := 15) (pc := 112) dX8_fits_112 (by decide) ?_
          refine V.weak (lv' := [some (.ref 29), some (.int l1), some (.int l2), some (.int (l3 ||| (1 <<< (x10 &&& 31)))), some (.int (l4 + 1)), none, none, none]) (And.intro rfl (And.intro rfl (And.intro rfl (And.intro rfl (And.intro rfl trivial))))) ?_
          exact h15 l1 l2 (l3 ||| (1 <<< (x10 &&& 31))) (l4 + 1) w7 _ _ h
        · refine V.if_eq_f (t := 97) (pc := 92) dX8_fits_92 (by decide) c ?_
          refine V.iconst (pc := 95) dX8_fits_95 ic_0 ?_
          obtain ⟨rfl, rfl⟩ := Prod.mk.inj (Option.some.inj h)
          exact V.zret (pc := 96) dX8_fits_96 rfl (Or.inl rfl) (Nat.le_refl _) (Nat.le_refl _)
      · refine V.if_ne_t (t := 97) (pc := 78) dX8_fits_78 (by decide) c ?_
        refine V.iload_n (pc := 97) dX8_fits_97 rfl ?_
        refine V.iconst (pc := 98) dX8_fits_98 ic_1 ?_
        refine V.aload_n (pc := 99) dX8_fits_99 rfl ?_
        refine V.getR (t := 31) (pc := 100) dX8_fits_100 f_RX8_15 k_cl8 lx_29 ly_29 rb_8_3 rr_29_3 ?_
        refine V.iload (pc := 103) dX8_fits_103 rfl ?_
        obtain ⟨x8, ix8, ex8, h⟩ := rdI_e h
        refine V.ialdX (pc := 105) dX8_fits_105 lx_31 ly_31 ix8 ex8 ?_
        refine V.ishl (pc := 106) dX8_fits_106 ?_
        refine V.ior (pc := 107) dX8_fits_107 ?_
        refine V.istore_n (lv' := [some (.ref 29), some (.int l1), some (.int l2), some (.int (l3 ||| (1 <<< (x8 &&& 31)))), some (.int l4), some (.int x1), none, none]) (pc := 108) dX8_fits_108 (Nat.le_of_ble_eq_true rfl) rfl rfl ?_
        refine V.iinc (lv' := [some (.ref 29), some (.int l1), some (.int l2), some (.int (l3 ||| (1 <<< (x8 &&& 31)))), some (.int (l4 + 1)), some (.int x1), none, none]) (pc := 109) dX8_fits_109 (Nat.le_of_ble_eq_true rfl) rfl rfl (v := (l4 + 1)) (by rw [show Int32.ofInt 1 = 1 from by decide]) rfl ?_
        refine V.goto (t := 15) (pc := 112) dX8_fits_112 (by decide) ?_
        refine V.weak (lv' := [some (.ref 29), some (.int l1), some (.int l2), some (.int (l3 ||| (1 <<< (x8 &&& 31)))), some (.int (l4 + 1)), none, none, none]) (And.intro rfl (And.intro rfl (And.intro rfl (And.intro rfl (And.intro rfl trivial))))) ?_
        exact h15 l1 l2 (l3 ||| (1 <<< (x8 &&& 31))) (l4 + 1) w7 _ _ h
def f_X8_fits_29 (l1 : Int32) (w : Wd) : Option (Int32 × Wd) :=
  rdI w 15 4 l1 fun x1 =>
  f_X8_fits_29_L15  FU l1 x1 1 1 w
set_option maxHeartbeats 4000000 in
set_option maxRecDepth 100000 in
theorem ok_X8_fits_29 {G : GT} {d : Nat} (hd : 2 ≤ d) {w : Wd} (l1 : Int32) {r : Int32} {w' : Wd} (h : f_X8_fits_29 l1 w = some (r, w')) : uC G yX8_fits mX8_fits d [.ref 29, .int l1] w (some (.int r)) w' := by
  obtain ⟨d, rfl⟩ : ∃ e, d = e + 1 := ⟨d - 1, by omega⟩
  unfold f_X8_fits_29 at h
  refine uC_of (lv := [some (.ref 29), some (.int l1), none, none, none, none, none, none]) 6 pn_X8 ⟨rfl, rfl⟩ (Nat.le_of_ble_eq_true rfl) rfl ?_
  refine V.aload_n (pc := 0) dX8_fits_0 rfl ?_
  refine V.getR (t := 13) (pc := 1) dX8_fits_1 f_RX8_22 k_cl8 lx_29 ly_29 rb_8_1 rr_29_1 ?_
  refine V.getR (t := 15) (pc := 4) dX8_fits_4 f_RX8_26 k_cl1 lx_13 ly_13 rb_1_2 rr_13_2 ?_
  refine V.iload_n (pc := 7) dX8_fits_7 rfl ?_
  obtain ⟨x1, ix1, ex1, h⟩ := rdI_e h
  refine V.ialdX (pc := 8) dX8_fits_8 lx_15 ly_15 ix1 ex1 ?_
  refine V.istore_n (lv' := [some (.ref 29), some (.int l1), some (.int x1), none, none, none, none, none]) (pc := 9) dX8_fits_9 (Nat.le_of_ble_eq_true rfl) rfl rfl ?_
  refine V.iconst (pc := 10) dX8_fits_10 ic_1 ?_
  refine V.istore_n (lv' := [some (.ref 29), some (.int l1), some (.int x1), some (.int 1), none, none, none, none]) (pc := 11) dX8_fits_11 (Nat.le_of_ble_eq_true rfl) rfl rfl ?_
  refine V.iconst (pc := 12) dX8_fits_12 ic_1 ?_
  refine V.istore (lv' := [some (.ref 29), some (.int l1), some (.int x1), some (.int 1), some (.int 1), none, none, none]) (pc := 13) dX8_fits_13 (Nat.le_of_ble_eq_true rfl) rfl rfl ?_
  exact t_X8_fits_29_L15 hd FU l1 x1 1 1 w _ _ h
theorem dX10_extend_0 : decode cX10_extend 0 = .ok (.iload_n 1, 1) := by decide +kernel
theorem dX10_extend_1 : decode cX10_extend 1 = .ok (.aload_n 0, 1) := by decide +kernel
theorem dX10_extend_2 : decode cX10_extend 2 = .ok (.getfield 29, 3) := by decide +kernel
theorem dX10_extend_5 : decode cX10_extend 5 = .ok (.getfield 49, 3) := by decide +kernel
theorem dX10_extend_8 : decode cX10_extend 8 = .ok (.if_icmp .ge 8, 3) := by decide +kernel
theorem dX10_extend_11 : decode cX10_extend 11 = .ok (.iload_n 1, 1) := by decide +kernel
theorem dX10_extend_12 : decode cX10_extend 12 = .ok (.iconst 4, 1) := by decide +kernel
theorem dX10_extend_13 : decode cX10_extend 13 = .ok (.if_icmp .lt 5, 3) := by decide +kernel
theorem dX10_extend_16 : decode cX10_extend 16 = .ok (.iconst 1, 1) := by decide +kernel
theorem dX10_extend_17 : decode cX10_extend 17 = .ok (.ireturn, 1) := by decide +kernel
theorem dX10_extend_18 : decode cX10_extend 18 = .ok (.iconst 1, 1) := by decide +kernel
theorem dX10_extend_19 : decode cX10_extend 19 = .ok (.istore_n 2, 1) := by decide +kernel
theorem dX10_extend_20 : decode cX10_extend 20 = .ok (.iload_n 2, 1) := by decide +kernel
theorem dX10_extend_21 : decode cX10_extend 21 = .ok (.aload_n 0, 1) := by decide +kernel
theorem dX10_extend_22 : decode cX10_extend 22 = .ok (.getfield 25, 3) := by decide +kernel
theorem dX10_extend_25 : decode cX10_extend 25 = .ok (.getfield 54, 3) := by decide +kernel
theorem dX10_extend_28 : decode cX10_extend 28 = .ok (.if_icmp .ge 42, 3) := by decide +kernel
theorem dX10_extend_31 : decode cX10_extend 31 = .ok (.aload_n 0, 1) := by decide +kernel
theorem dX10_extend_32 : decode cX10_extend 32 = .ok (.getfield 38, 3) := by decide +kernel
theorem dX10_extend_35 : decode cX10_extend 35 = .ok (.getfield 59, 3) := by decide +kernel
theorem dX10_extend_38 : decode cX10_extend 38 = .ok (.iload_n 1, 1) := by decide +kernel
theorem dX10_extend_39 : decode cX10_extend 39 = .ok (.iload_n 2, 1) := by decide +kernel
theorem dX10_extend_40 : decode cX10_extend 40 = .ok (.iastore, 1) := by decide +kernel
theorem dX10_extend_41 : decode cX10_extend 41 = .ok (.aload_n 0, 1) := by decide +kernel
theorem dX10_extend_42 : decode cX10_extend 42 = .ok (.getfield 38, 3) := by decide +kernel
theorem dX10_extend_45 : decode cX10_extend 45 = .ok (.iload_n 1, 1) := by decide +kernel
theorem dX10_extend_46 : decode cX10_extend 46 = .ok (.invokevirtual 62, 3) := by decide +kernel
theorem dX10_extend_49 : decode cX10_extend 49 = .ok (.ifCond .eq 15, 3) := by decide +kernel
theorem dX10_extend_52 : decode cX10_extend 52 = .ok (.aload_n 0, 1) := by decide +kernel
theorem dX10_extend_53 : decode cX10_extend 53 = .ok (.iload_n 1, 1) := by decide +kernel
theorem dX10_extend_54 : decode cX10_extend 54 = .ok (.iconst 1, 1) := by decide +kernel
theorem dX10_extend_55 : decode cX10_extend 55 = .ok (.iadd, 1) := by decide +kernel
theorem dX10_extend_56 : decode cX10_extend 56 = .ok (.invokevirtual 66, 3) := by decide +kernel
theorem dX10_extend_59 : decode cX10_extend 59 = .ok (.ifCond .eq 5, 3) := by decide +kernel
theorem dX10_extend_62 : decode cX10_extend 62 = .ok (.iconst 1, 1) := by decide +kernel
theorem dX10_extend_63 : decode cX10_extend 63 = .ok (.ireturn, 1) := by decide +kernel
theorem dX10_extend_64 : decode cX10_extend 64 = .ok (.iinc 2 1, 3) := by decide +kernel
theorem dX10_extend_67 : decode cX10_extend 67 = .ok (.goto (-47), 3) := by decide +kernel
theorem dX10_extend_70 : decode cX10_extend 70 = .ok (.iconst 0, 1) := by decide +kernel
theorem dX10_extend_71 : decode cX10_extend 71 = .ok (.ireturn, 1) := by decide +kernel
def f_X10_extend_B20b (me : Int32 → Wd → Option (Int32 × Wd)) (k20 : Int32 → Int32 → Wd → Option (Int32 × Wd)) (l1 : Int32) (l2 : Int32) (w : Wd) : Option (Int32 × Wd) :=
  if (w.1 6 7) ≤ l2 then
    some (0, w)
  else
    wrI w 30 4 l1 l2 fun w1 =>
    bnd2 (f_X8_fits_29 l1 w1) fun x2 w3 =>
    if x2 = 0 then
      k20 l1 (l2 + 1) w3
    else
      bnd2 (me (l1 + 1) w3) fun x4 w5 =>
      if x4 = 0 then
        k20 l1 (l2 + 1) w5
      else
        some (1, w5)
def f_X10_extend_L20 (me : Int32 → Wd → Option (Int32 × Wd)) (n : Nat) : Int32 → Int32 → Wd → Option (Int32 × Wd) :=
  Nat.rec (fun _ _ _ => none) (fun _ k => f_X10_extend_B20b me k) n
set_option maxHeartbeats 4000000 in
set_option maxRecDepth 100000 in
theorem t_X10_extend_L20 {G : GT} {d : Nat} {me : Int32 → Wd → Option (Int32 × Wd)} (hd : 3 ≤ d + 1) (hme : ∀ (l1 : Int32) (w : Wd) (r : Int32) (w' : Wd), me l1 w = some (r, w') → uC G yX10_extend mX10_extend d [.ref 24, .int l1] w (some (.int r)) w')  : ∀ (n : Nat) (l1 : Int32) (l2 : Int32) (w : Wd) (r : Int32) (w' : Wd), f_X10_extend_L20 me n l1 l2 w = some (r, w') → U (vf G mX10_extend (d + 1)) 20 [some (.ref 24), some (.int l1), some (.int l2)] [] w (some (.int r), 70, r0, w') := by
  intro n
  induction n with
  | zero => intro l1 l2 w r w' h; cases h
  | succ n h20 =>
    intro l1 l2 w r w' h
    have h : f_X10_extend_B20b me (f_X10_extend_L20 me n) l1 l2 w = some (r, w') := h
    unfold f_X10_extend_B20b at h
    refine V.iload_n (pc := 20) dX10_extend_20 rfl ?_
    refine V.aload_n (pc := 21) dX10_extend_21 rfl ?_
    refine V.getR (t := 6) (pc := 22) dX10_extend_22 f_RX10_25 k_cl10 lx_24 ly_24 rb_10_0 rr_24_0 ?_
    refine V.getI (pc := 25) dX10_extend_25 f_RX10_54 k_cl4 lx_6 ly_6 rb_4_7 ?_
    rcases ite_e h with ⟨c, h⟩ | ⟨c, h⟩
    · refine V.icmp_ge_t (t := 70) (pc := 28) dX10_extend_28 (by decide) c ?_
      refine V.iconst (pc := 70) dX10_extend_70 ic_0 ?_
      obtain ⟨rfl, rfl⟩ := Prod.mk.inj (Option.some.inj h)
      exact V.zret (pc := 71) dX10_extend_71 rfl (Or.inl rfl) (Nat.le_refl _) (Nat.le_refl _)
    · refine V.icmp_ge_f (t := 70) (pc := 28) dX10_extend_28 (by decide) c ?_
      refine V.aload_n (pc := 31) dX10_extend_31 rfl ?_
      refine V.getR (t := 29) (pc := 32) dX10_extend_32 f_RX10_38 k_cl10 lx_24 ly_24 rb_10_2 rr_24_2 ?_
      refine V.getR (t := 30) (pc := 35) dX10_extend_35 f_RX10_59 k_cl8 lx_29 ly_29 rb_8_2 rr_29_2 ?_
      refine V.iload_n (pc := 38) dX10_extend_38 rfl ?_
      refine V.iload_n (pc := 39) dX10_extend_39 rfl ?_
      obtain ⟨w1, iw1, ew1, h⟩ := wrI_e h
      refine V.iastX (pc := 40) dX10_extend_40 lx_30 ly_30 iw1 ew1 ?_
      refine V.aload_n (pc := 41) dX10_extend_41 rfl ?_
      refine V.getR (t := 29) (pc := 42) dX10_extend_42 f_RX10_38 k_cl10 lx_24 ly_24 rb_10_2 rr_24_2 ?_
      refine V.iload_n (pc := 45) dX10_extend_45 rfl ?_
      obtain ⟨x2, w3, ew3, h⟩ := bnd2_e h
      refine U.callV (pc := 46) (As := [.int l1]) (st := []) dX10_extend_46 l_RX10_62 (ok_X8_fits_29 (by omega) l1 ew3) lx_29 ly_29 cn_8 (Nat.le_of_ble_eq_true rfl) rfl rfl (Nat.le_of_ble_eq_true rfl) ?_
      rcases ite_e h with ⟨c, h⟩ | ⟨c, h⟩
      · refine V.if_eq_t (t := 64) (pc := 49) dX10_extend_49 (by decide) c ?_
        refine V.iinc (lv' := [some (.ref 24), some (.int l1), some (.int (l2 + 1))]) (pc := 64) dX10_extend_64 (Nat.le_of_ble_eq_true rfl) rfl rfl (v := (l2 + 1)) (by rw [show Int32.ofInt 1 = 1 from by decide]) rfl ?_
        refine V.goto (t := 20) (pc := 67) dX10_extend_67 (by decide) ?_
        exact h20 l1 (l2 + 1) w3 _ _ h
      · refine V.if_eq_f (t := 64) (pc := 49) dX10_extend_49 (by decide) c ?_
        refine V.aload_n (pc := 52) dX10_extend_52 rfl ?_
        refine V.iload_n (pc := 53) dX10_extend_53 rfl ?_
        refine V.iconst (pc := 54) dX10_extend_54 ic_1 ?_
        refine V.iadd (pc := 55) dX10_extend_55 ?_
        obtain ⟨x4, w5, ew5, h⟩ := bnd2_e h
        refine U.callV (pc := 56) (As := [.int (l1 + 1)]) (st := []) dX10_extend_56 l_RX10_66 (hme (l1 + 1) w3 _ _ ew5) lx_24 ly_24 cn_10 (Nat.le_of_ble_eq_true rfl) rfl rfl (Nat.le_of_ble_eq_true rfl) ?_
        rcases ite_e h with ⟨c, h⟩ | ⟨c, h⟩
        · refine V.if_eq_t (t := 64) (pc := 59) dX10_extend_59 (by decide) c ?_
          refine V.iinc (lv' := [some (.ref 24), some (.int l1), some (.int (l2 + 1))]) (pc := 64) dX10_extend_64 (Nat.le_of_ble_eq_true rfl) rfl rfl (v := (l2 + 1)) (by rw [show Int32.ofInt 1 = 1 from by decide]) rfl ?_
          refine V.goto (t := 20) (pc := 67) dX10_extend_67 (by decide) ?_
          exact h20 l1 (l2 + 1) w5 _ _ h
        · refine V.if_eq_f (t := 64) (pc := 59) dX10_extend_59 (by decide) c ?_
          refine V.iconst (pc := 62) dX10_extend_62 ic_1 ?_
          obtain ⟨rfl, rfl⟩ := Prod.mk.inj (Option.some.inj h)
          exact V.zret (pc := 63) dX10_extend_63 rfl (Or.inr rfl) (Nat.le_refl _) (Nat.le_refl _)
def f_X10_extendb (me : Int32 → Wd → Option (Int32 × Wd)) (l1 : Int32) (w : Wd) : Option (Int32 × Wd) :=
  if (w.1 13 6) ≤ l1 then
    some (1, w)
  else
    if l1 < 4 then
      f_X10_extend_L20 me  FU l1 1 w
    else
      some (1, w)
def f_X10_extend (n : Nat) : Int32 → Wd → Option (Int32 × Wd) :=
  Nat.rec (fun _ _ => none) (fun _ k => f_X10_extendb k) n
set_option maxHeartbeats 4000000 in
set_option maxRecDepth 100000 in
theorem ok_X10_extend {G : GT} : ∀ (n : Nat) {d : Nat} (hd : 3 + n ≤ d) {w : Wd} (l1 : Int32) {r : Int32} {w' : Wd}, f_X10_extend n l1 w = some (r, w') → uC G yX10_extend mX10_extend d [.ref 24, .int l1] w (some (.int r)) w' := by
  intro n
  induction n with
  | zero => intro d hd w l1 r w' h; cases h
  | succ n ih =>
    intro d hd w l1 r w' h
    obtain ⟨d, rfl⟩ : ∃ e, d = e + 1 := ⟨d - 1, by omega⟩
    have hd0 := hd
    have hd : 3 ≤ d + 1 := by omega
    have hme : ∀ (l1 : Int32) (w : Wd) (r : Int32) (w' : Wd), f_X10_extend n l1 w = some (r, w') → uC G yX10_extend mX10_extend d [.ref 24, .int l1] w (some (.int r)) w' := fun l1 w r w' h => ih (by omega) l1 h
    have h : f_X10_extendb (f_X10_extend n) l1 w = some (r, w') := h
    unfold f_X10_extendb at h
    refine uC_of (lv := [some (.ref 24), some (.int l1), none]) 1 pn_X10 ⟨rfl, rfl⟩ (Nat.le_of_ble_eq_true rfl) rfl ?_
    refine V.iload_n (pc := 0) dX10_extend_0 rfl ?_
    refine V.aload_n (pc := 1) dX10_extend_1 rfl ?_
    refine V.getR (t := 13) (pc := 2) dX10_extend_2 f_RX10_29 k_cl10 lx_24 ly_24 rb_10_1 rr_24_1 ?_
    refine V.getI (pc := 5) dX10_extend_5 f_RX10_49 k_cl1 lx_13 ly_13 rb_1_6 ?_
    rcases ite_e h with ⟨c, h⟩ | ⟨c, h⟩
    · refine V.icmp_ge_t (t := 16) (pc := 8) dX10_extend_8 (by decide) c ?_
      refine V.iconst (pc := 16) dX10_extend_16 ic_1 ?_
      obtain ⟨rfl, rfl⟩ := Prod.mk.inj (Option.some.inj h)
      exact V.zret (pc := 17) dX10_extend_17 rfl (Or.inr rfl) (Nat.le_refl _) (Nat.le_refl _)
    · refine V.icmp_ge_f (t := 16) (pc := 8) dX10_extend_8 (by decide) c ?_
      refine V.iload_n (pc := 11) dX10_extend_11 rfl ?_
      refine V.iconst (pc := 12) dX10_extend_12 ic_4 ?_
      rcases ite_e h with ⟨c, h⟩ | ⟨c, h⟩
      · refine V.icmp_lt_t (t := 18) (pc := 13) dX10_extend_13 (by decide) c ?_
        refine V.iconst (pc := 18) dX10_extend_18 ic_1 ?_
        refine V.istore_n (lv' := [some (.ref 24), some (.int l1), some (.int 1)]) (pc := 19) dX10_extend_19 (Nat.le_of_ble_eq_true rfl) rfl rfl ?_
        exact t_X10_extend_L20 hd hme FU l1 1 w _ _ h
      · refine V.icmp_lt_f (t := 18) (pc := 13) dX10_extend_13 (by decide) c ?_
        refine V.iconst (pc := 16) dX10_extend_16 ic_1 ?_
        obtain ⟨rfl, rfl⟩ := Prod.mk.inj (Option.some.inj h)
        exact V.zret (pc := 17) dX10_extend_17 rfl (Or.inr rfl) (Nat.le_refl _) (Nat.le_refl _)
theorem dX10_addRow_0 : decode cX10_addRow 0 = .ok (.aload_n 0, 1) := by decide +kernel
theorem dX10_addRow_1 : decode cX10_addRow 1 = .ok (.getfield 46, 3) := by decide +kernel
theorem dX10_addRow_4 : decode cX10_addRow 4 = .ok (.bipush 64, 2) := by decide +kernel
theorem dX10_addRow_6 : decode cX10_addRow 6 = .ok (.if_icmp .ge 37, 3) := by decide +kernel
theorem dX10_addRow_9 : decode cX10_addRow 9 = .ok (.aload_n 0, 1) := by decide +kernel
theorem dX10_addRow_10 : decode cX10_addRow 10 = .ok (.getfield 38, 3) := by decide +kernel
theorem dX10_addRow_13 : decode cX10_addRow 13 = .ok (.getfield 75, 3) := by decide +kernel
theorem dX10_addRow_16 : decode cX10_addRow 16 = .ok (.iconst 0, 1) := by decide +kernel
theorem dX10_addRow_17 : decode cX10_addRow 17 = .ok (.aload_n 0, 1) := by decide +kernel
theorem dX10_addRow_18 : decode cX10_addRow 18 = .ok (.getfield 11, 3) := by decide +kernel
theorem dX10_addRow_21 : decode cX10_addRow 21 = .ok (.aload_n 0, 1) := by decide +kernel
theorem dX10_addRow_22 : decode cX10_addRow 22 = .ok (.getfield 46, 3) := by decide +kernel
theorem dX10_addRow_25 : decode cX10_addRow 25 = .ok (.bipush 16, 2) := by decide +kernel
theorem dX10_addRow_27 : decode cX10_addRow 27 = .ok (.imul, 1) := by decide +kernel
theorem dX10_addRow_28 : decode cX10_addRow 28 = .ok (.bipush 16, 2) := by decide +kernel
theorem dX10_addRow_30 : decode cX10_addRow 30 = .ok (.invokestatic 78, 3) := by decide +kernel
theorem dX10_addRow_33 : decode cX10_addRow 33 = .ok (.aload_n 0, 1) := by decide +kernel
theorem dX10_addRow_34 : decode cX10_addRow 34 = .ok (.dup, 1) := by decide +kernel
theorem dX10_addRow_35 : decode cX10_addRow 35 = .ok (.getfield 46, 3) := by decide +kernel
theorem dX10_addRow_38 : decode cX10_addRow 38 = .ok (.iconst 1, 1) := by decide +kernel
theorem dX10_addRow_39 : decode cX10_addRow 39 = .ok (.iadd, 1) := by decide +kernel
theorem dX10_addRow_40 : decode cX10_addRow 40 = .ok (.putfield 46, 3) := by decide +kernel
theorem dX10_addRow_43 : decode cX10_addRow 43 = .ok (.return_, 1) := by decide +kernel
def f_X10_addRow (w : Wd) : Option Wd :=
  if 64 ≤ (w.1 24 7) then
    some w
  else
    cpI w 31 16 25 1024 0 ((w.1 24 7) * 16) 16 fun w1 =>
    letW (sI w1 24 7 ((w1.1 24 7) + 1)) fun w2 =>
    some w2
set_option maxHeartbeats 4000000 in
set_option maxRecDepth 100000 in
theorem ok_X10_addRow {G : GT} {d : Nat} (hd : 1 ≤ d) {w : Wd}  {w' : Wd} (h : f_X10_addRow  w = some w') : uC G yX10_addRow mX10_addRow d [.ref 24] w none w' := by
  obtain ⟨d, rfl⟩ : ∃ e, d = e + 1 := ⟨d - 1, by omega⟩
  unfold f_X10_addRow at h
  refine uC_of (lv := [some (.ref 24)]) 0 pn_X10 ⟨rfl, rfl⟩ (Nat.le_of_ble_eq_true rfl) rfl ?_
  refine V.aload_n (pc := 0) dX10_addRow_0 rfl ?_
  refine V.getI (pc := 1) dX10_addRow_1 f_RX10_46 k_cl10 lx_24 ly_24 rb_10_7 ?_
  refine V.bipush (pc := 4) dX10_addRow_4 bp_64 ?_
  rcases ite_e h with ⟨c, h⟩ | ⟨c, h⟩
  · refine V.icmp_ge_t (t := 43) (pc := 6) dX10_addRow_6 (by decide) c ?_
    obtain rfl := Option.some.inj h
    exact V.vret (pc := 43) dX10_addRow_43 rfl (Nat.le_refl _) (Nat.le_refl _)
  · refine V.icmp_ge_f (t := 43) (pc := 6) dX10_addRow_6 (by decide) c ?_
    refine V.aload_n (pc := 9) dX10_addRow_9 rfl ?_
    refine V.getR (t := 29) (pc := 10) dX10_addRow_10 f_RX10_38 k_cl10 lx_24 ly_24 rb_10_2 rr_24_2 ?_
    refine V.getR (t := 31) (pc := 13) dX10_addRow_13 f_RX10_75 k_cl8 lx_29 ly_29 rb_8_3 rr_29_3 ?_
    refine V.iconst (pc := 16) dX10_addRow_16 ic_0 ?_
    refine V.aload_n (pc := 17) dX10_addRow_17 rfl ?_
    refine V.getR (t := 25) (pc := 18) dX10_addRow_18 f_RX10_11 k_cl10 lx_24 ly_24 rb_10_3 rr_24_3 ?_
    refine V.aload_n (pc := 21) dX10_addRow_21 rfl ?_
    refine V.getI (pc := 22) dX10_addRow_22 f_RX10_46 k_cl10 lx_24 ly_24 rb_10_7 ?_
    refine V.bipush (pc := 25) dX10_addRow_25 bp_16 ?_
    refine V.imul (pc := 27) dX10_addRow_27 ?_
    refine V.bipush (pc := 28) dX10_addRow_28 bp_16 ?_
    obtain ⟨w1, iw1, ew1, h⟩ := cpI_e h
    refine V.acopy (pc := 30) dX10_addRow_30 cp_RX10_78 lx_31 lx_25 ly_31 ly_25 iw1 (Nat.le_add_left 1 d) (rm_cp (Nat.le_of_ble_eq_true rfl)) cp_nat cp_sta cp_ini ew1 ?_
    refine V.aload_n (pc := 33) dX10_addRow_33 rfl ?_
    refine V.dup (pc := 34) dX10_addRow_34 rfl ?_
    refine V.getI (pc := 35) dX10_addRow_35 f_RX10_46 k_cl10 lx_24 ly_24 rb_10_7 ?_
    refine V.iconst (pc := 38) dX10_addRow_38 ic_1 ?_
    refine V.iadd (pc := 39) dX10_addRow_39 ?_
    obtain ⟨w2, ew2, h⟩ := letW_e h
    refine V.putIX (pc := 40) dX10_addRow_40 f_RX10_46 k_cl10 lx_24 ly_24 rb_10_7 (fin_I (T0 := TX10) rfl rfl rfl) ew2 ?_
    obtain rfl := Option.some.inj h
    exact V.vret (pc := 43) dX10_addRow_43 rfl (Nat.le_refl _) (Nat.le_refl _)
theorem dX10_total_0 : decode cX10_total 0 = .ok (.aload_n 0, 1) := by decide +kernel
theorem dX10_total_1 : decode cX10_total 1 = .ok (.getfield 42, 3) := by decide +kernel
theorem dX10_total_4 : decode cX10_total 4 = .ok (.ifCond .le 8, 3) := by decide +kernel
theorem dX10_total_7 : decode cX10_total 7 = .ok (.aload_n 0, 1) := by decide +kernel
theorem dX10_total_8 : decode cX10_total 8 = .ok (.getfield 42, 3) := by decide +kernel
theorem dX10_total_11 : decode cX10_total 11 = .ok (.ireturn, 1) := by decide +kernel
theorem dX10_total_12 : decode cX10_total 12 = .ok (.aload_n 0, 1) := by decide +kernel
theorem dX10_total_13 : decode cX10_total 13 = .ok (.iconst 1, 1) := by decide +kernel
theorem dX10_total_14 : decode cX10_total 14 = .ok (.putfield 42, 3) := by decide +kernel
theorem dX10_total_17 : decode cX10_total 17 = .ok (.aload_n 0, 1) := by decide +kernel
theorem dX10_total_18 : decode cX10_total 18 = .ok (.iconst 0, 1) := by decide +kernel
theorem dX10_total_19 : decode cX10_total 19 = .ok (.putfield 46, 3) := by decide +kernel
theorem dX10_total_22 : decode cX10_total 22 = .ok (.iconst 0, 1) := by decide +kernel
theorem dX10_total_23 : decode cX10_total 23 = .ok (.istore_n 1, 1) := by decide +kernel
theorem dX10_total_24 : decode cX10_total 24 = .ok (.iload_n 1, 1) := by decide +kernel
theorem dX10_total_25 : decode cX10_total 25 = .ok (.aload_n 0, 1) := by decide +kernel
theorem dX10_total_26 : decode cX10_total 26 = .ok (.getfield 29, 3) := by decide +kernel
theorem dX10_total_29 : decode cX10_total 29 = .ok (.getfield 49, 3) := by decide +kernel
theorem dX10_total_32 : decode cX10_total 32 = .ok (.if_icmp .ge 123, 3) := by decide +kernel
theorem dX10_total_35 : decode cX10_total 35 = .ok (.aload_n 0, 1) := by decide +kernel
theorem dX10_total_36 : decode cX10_total 36 = .ok (.getfield 15, 3) := by decide +kernel
theorem dX10_total_39 : decode cX10_total 39 = .ok (.iload_n 1, 1) := by decide +kernel
theorem dX10_total_40 : decode cX10_total 40 = .ok (.aload_n 0, 1) := by decide +kernel
theorem dX10_total_41 : decode cX10_total 41 = .ok (.getfield 46, 3) := by decide +kernel
theorem dX10_total_44 : decode cX10_total 44 = .ok (.iastore, 1) := by decide +kernel
theorem dX10_total_45 : decode cX10_total 45 = .ok (.iconst 1, 1) := by decide +kernel
theorem dX10_total_46 : decode cX10_total 46 = .ok (.istore_n 2, 1) := by decide +kernel
theorem dX10_total_47 : decode cX10_total 47 = .ok (.iload_n 2, 1) := by decide +kernel
theorem dX10_total_48 : decode cX10_total 48 = .ok (.aload_n 0, 1) := by decide +kernel
theorem dX10_total_49 : decode cX10_total 49 = .ok (.getfield 25, 3) := by decide +kernel
theorem dX10_total_52 : decode cX10_total 52 = .ok (.getfield 54, 3) := by decide +kernel
theorem dX10_total_55 : decode cX10_total 55 = .ok (.if_icmp .ge 44, 3) := by decide +kernel
theorem dX10_total_58 : decode cX10_total 58 = .ok (.aload_n 0, 1) := by decide +kernel
theorem dX10_total_59 : decode cX10_total 59 = .ok (.getfield 38, 3) := by decide +kernel
theorem dX10_total_62 : decode cX10_total 62 = .ok (.getfield 59, 3) := by decide +kernel
theorem dX10_total_65 : decode cX10_total 65 = .ok (.iload_n 1, 1) := by decide +kernel
theorem dX10_total_66 : decode cX10_total 66 = .ok (.iload_n 2, 1) := by decide +kernel
theorem dX10_total_67 : decode cX10_total 67 = .ok (.iastore, 1) := by decide +kernel
theorem dX10_total_68 : decode cX10_total 68 = .ok (.aload_n 0, 1) := by decide +kernel
theorem dX10_total_69 : decode cX10_total 69 = .ok (.getfield 38, 3) := by decide +kernel
theorem dX10_total_72 : decode cX10_total 72 = .ok (.iload_n 1, 1) := by decide +kernel
theorem dX10_total_73 : decode cX10_total 73 = .ok (.invokevirtual 62, 3) := by decide +kernel
theorem dX10_total_76 : decode cX10_total 76 = .ok (.ifCond .eq 17, 3) := by decide +kernel
theorem dX10_total_79 : decode cX10_total 79 = .ok (.aload_n 0, 1) := by decide +kernel
theorem dX10_total_80 : decode cX10_total 80 = .ok (.iload_n 1, 1) := by decide +kernel
theorem dX10_total_81 : decode cX10_total 81 = .ok (.iconst 1, 1) := by decide +kernel
theorem dX10_total_82 : decode cX10_total 82 = .ok (.iadd, 1) := by decide +kernel
theorem dX10_total_83 : decode cX10_total 83 = .ok (.invokevirtual 66, 3) := by decide +kernel
theorem dX10_total_86 : decode cX10_total 86 = .ok (.ifCond .eq 7, 3) := by decide +kernel
theorem dX10_total_89 : decode cX10_total 89 = .ok (.aload_n 0, 1) := by decide +kernel
theorem dX10_total_90 : decode cX10_total 90 = .ok (.invokevirtual 69, 3) := by decide +kernel
theorem dX10_total_93 : decode cX10_total 93 = .ok (.iinc 2 1, 3) := by decide +kernel
theorem dX10_total_96 : decode cX10_total 96 = .ok (.goto (-49), 3) := by decide +kernel
theorem dX10_total_99 : decode cX10_total 99 = .ok (.aload_n 0, 1) := by decide +kernel
theorem dX10_total_100 : decode cX10_total 100 = .ok (.getfield 38, 3) := by decide +kernel
theorem dX10_total_103 : decode cX10_total 103 = .ok (.getfield 59, 3) := by decide +kernel
theorem dX10_total_106 : decode cX10_total 106 = .ok (.iload_n 1, 1) := by decide +kernel
theorem dX10_total_107 : decode cX10_total 107 = .ok (.aload_n 0, 1) := by decide +kernel
theorem dX10_total_108 : decode cX10_total 108 = .ok (.getfield 29, 3) := by decide +kernel
theorem dX10_total_111 : decode cX10_total 111 = .ok (.getfield 72, 3) := by decide +kernel
theorem dX10_total_114 : decode cX10_total 114 = .ok (.iload_n 1, 1) := by decide +kernel
theorem dX10_total_115 : decode cX10_total 115 = .ok (.iaload, 1) := by decide +kernel
theorem dX10_total_116 : decode cX10_total 116 = .ok (.iastore, 1) := by decide +kernel
theorem dX10_total_117 : decode cX10_total 117 = .ok (.aload_n 0, 1) := by decide +kernel
theorem dX10_total_118 : decode cX10_total 118 = .ok (.getfield 15, 3) := by decide +kernel
theorem dX10_total_121 : decode cX10_total 121 = .ok (.iload_n 1, 1) := by decide +kernel
theorem dX10_total_122 : decode cX10_total 122 = .ok (.iconst 1, 1) := by decide +kernel
theorem dX10_total_123 : decode cX10_total 123 = .ok (.iadd, 1) := by decide +kernel
theorem dX10_total_124 : decode cX10_total 124 = .ok (.aload_n 0, 1) := by decide +kernel
theorem dX10_total_125 : decode cX10_total 125 = .ok (.getfield 46, 3) := by decide +kernel
theorem dX10_total_128 : decode cX10_total 128 = .ok (.iastore, 1) := by decide +kernel
theorem dX10_total_129 : decode cX10_total 129 = .ok (.aload_n 0, 1) := by decide +kernel
theorem dX10_total_130 : decode cX10_total 130 = .ok (.dup, 1) := by decide +kernel
theorem dX10_total_131 : decode cX10_total 131 = .ok (.getfield 42, 3) := by decide +kernel
theorem dX10_total_134 : decode cX10_total 134 = .ok (.aload_n 0, 1) := by decide +kernel
theorem dX10_total_135 : decode cX10_total 135 = .ok (.getfield 46, 3) := by decide +kernel
theorem dX10_total_138 : decode cX10_total 138 = .ok (.aload_n 0, 1) := by decide +kernel
theorem dX10_total_139 : decode cX10_total 139 = .ok (.getfield 15, 3) := by decide +kernel
theorem dX10_total_142 : decode cX10_total 142 = .ok (.iload_n 1, 1) := by decide +kernel
theorem dX10_total_143 : decode cX10_total 143 = .ok (.iaload, 1) := by decide +kernel
theorem dX10_total_144 : decode cX10_total 144 = .ok (.isub, 1) := by decide +kernel
theorem dX10_total_145 : decode cX10_total 145 = .ok (.imul, 1) := by decide +kernel
theorem dX10_total_146 : decode cX10_total 146 = .ok (.putfield 42, 3) := by decide +kernel
theorem dX10_total_149 : decode cX10_total 149 = .ok (.iinc 1 1, 3) := by decide +kernel
theorem dX10_total_152 : decode cX10_total 152 = .ok (.goto (-128), 3) := by decide +kernel
theorem dX10_total_155 : decode cX10_total 155 = .ok (.aload_n 0, 1) := by decide +kernel
theorem dX10_total_156 : decode cX10_total 156 = .ok (.getfield 42, 3) := by decide +kernel
theorem dX10_total_159 : decode cX10_total 159 = .ok (.ireturn, 1) := by decide +kernel
def f_X10_total_B47b (k24 : Int32 → Wd → Option (Int32 × Wd)) (k47 : Int32 → Int32 → Wd → Option (Int32 × Wd)) (l1 : Int32) (l2 : Int32) (w : Wd) : Option (Int32 × Wd) :=
  if (w.1 6 7) ≤ l2 then
    rdI w 14 4 l1 fun x1 =>
    wrI w 30 4 l1 x1 fun w2 =>
    wrI w2 26 5 (l1 + 1) (w2.1 24 7) fun w3 =>
    rdI w3 26 5 l1 fun x4 =>
    letW (sI w3 24 8 ((w3.1 24 8) * ((w3.1 24 7) - x4))) fun w5 =>
    k24 (l1 + 1) w5
  else
    wrI w 30 4 l1 l2 fun w6 =>
    bnd2 (f_X8_fits_29 l1 w6) fun x7 w8 =>
    if x7 = 0 then
      k47 l1 (l2 + 1) w8
    else
      bnd2 (f_X10_extend 20 (l1 + 1) w8) fun x9 w10 =>
      if x9 = 0 then
        k47 l1 (l2 + 1) w10
      else
        bnd (f_X10_addRow  w10) fun w11 =>
        k47 l1 (l2 + 1) w11
def f_X10_total_L47 (k24 : Int32 → Wd → Option (Int32 × Wd)) (n : Nat) : Int32 → Int32 → Wd → Option (Int32 × Wd) :=
  Nat.rec (fun _ _ _ => none) (fun _ k => f_X10_total_B47b k24 k) n
set_option maxHeartbeats 4000000 in
set_option maxRecDepth 100000 in
theorem t_X10_total_L47 {G : GT} {d : Nat} {k24 : Int32 → Wd → Option (Int32 × Wd)} (hd : 28 ≤ d + 1) (h24 : ∀ (l1 : Int32) (w : Wd) (r : Int32) (w' : Wd), k24 l1 w = some (r, w') → U (vf G mX10_total (d + 1)) 24 [some (.ref 24), some (.int l1), none] [] w (some (.int r), 70, r0, w')) : ∀ (n : Nat) (l1 : Int32) (l2 : Int32) (w : Wd) (r : Int32) (w' : Wd), f_X10_total_L47 k24 n l1 l2 w = some (r, w') → U (vf G mX10_total (d + 1)) 47 [some (.ref 24), some (.int l1), some (.int l2)] [] w (some (.int r), 70, r0, w') := by
  intro n
  induction n with
  | zero => intro l1 l2 w r w' h; cases h
  | succ n h47 =>
    intro l1 l2 w r w' h
    have h : f_X10_total_B47b k24 (f_X10_total_L47 k24 n) l1 l2 w = some (r, w') := h
    unfold f_X10_total_B47b at h
    refine V.iload_n (pc := 47) dX10_total_47 rfl ?_
    refine V.aload_n (pc := 48) dX10_total_48 rfl ?_
    refine V.getR (t := 6) (pc := 49) dX10_total_49 f_RX10_25 k_cl10 lx_24 ly_24 rb_10_0 rr_24_0 ?_
    refine V.getI (pc := 52) dX10_total_52 f_RX10_54 k_cl4 lx_6 ly_6 rb_4_7 ?_
    rcases ite_e h with ⟨c, h⟩ | ⟨c, h⟩
    · refine V.icmp_ge_t (t := 99) (pc := 55) dX10_total_55 (by decide) c ?_
      refine V.aload_n (pc := 99) dX10_total_99 rfl ?_
      refine V.getR (t := 29) (pc := 100) dX10_total_100 f_RX10_38 k_cl10 lx_24 ly_24 rb_10_2 rr_24_2 ?_
      refine V.getR (t := 30) (pc := 103) dX10_total_103 f_RX10_59 k_cl8 lx_29 ly_29 rb_8_2 rr_29_2 ?_
      refine V.iload_n (pc := 106) dX10_total_106 rfl ?_
      refine V.aload_n (pc := 107) dX10_total_107 rfl ?_
      refine V.getR (t := 13) (pc := 108) dX10_total_108 f_RX10_29 k_cl10 lx_24 ly_24 rb_10_1 rr_24_1 ?_
      refine V.getR (t := 14) (pc := 111) dX10_total_111 f_RX10_72 k_cl1 lx_13 ly_13 rb_1_1 rr_13_1 ?_
      refine V.iload_n (pc := 114) dX10_total_114 rfl ?_
      obtain ⟨x1, ix1, ex1, h⟩ := rdI_e h
      refine V.ialdX (pc := 115) dX10_total_115 lx_14 ly_14 ix1 ex1 ?_
      obtain ⟨w2, iw2, ew2, h⟩ := wrI_e h
      refine V.iastX (pc := 116) dX10_total_116 lx_30 ly_30 iw2 ew2 ?_
      refine V.aload_n (pc := 117) dX10_total_117 rfl ?_
      refine V.getR (t := 26) (pc := 118) dX10_total_118 f_RX10_15 k_cl10 lx_24 ly_24 rb_10_4 rr_24_4 ?_
      refine V.iload_n (pc := 121) dX10_total_121 rfl ?_
      refine V.iconst (pc := 122) dX10_total_122 ic_1 ?_
      refine V.iadd (pc := 123) dX10_total_123 ?_
      refine V.aload_n (pc := 124) dX10_total_124 rfl ?_
      refine V.getI (pc := 125) dX10_total_125 f_RX10_46 k_cl10 lx_24 ly_24 rb_10_7 ?_
      obtain ⟨w3, iw3, ew3, h⟩ := wrI_e h
      refine V.iastX (pc := 128) dX10_total_128 lx_26 ly_26 iw3 ew3 ?_
      refine V.aload_n (pc := 129) dX10_total_129 rfl ?_
      refine V.dup (pc := 130) dX10_total_130 rfl ?_
      refine V.getI (pc := 131) dX10_total_131 f_RX10_42 k_cl10 lx_24 ly_24 rb_10_8 ?_
      refine V.aload_n (pc := 134) dX10_total_134 rfl ?_
      refine V.getI (pc := 135) dX10_total_135 f_RX10_46 k_cl10 lx_24 ly_24 rb_10_7 ?_
      refine V.aload_n (pc := 138) dX10_total_138 rfl ?_
      refine V.getR (t := 26) (pc := 139) dX10_total_139 f_RX10_15 k_cl10 lx_24 ly_24 rb_10_4 rr_24_4 ?_
      refine V.iload_n (pc := 142) dX10_total_142 rfl ?_
      obtain ⟨x4, ix4, ex4, h⟩ := rdI_e h
      refine V.ialdX (pc := 143) dX10_total_143 lx_26 ly_26 ix4 ex4 ?_
      refine V.isub (pc := 144) dX10_total_144 ?_
      refine V.imul (pc := 145) dX10_total_145 ?_
      obtain ⟨w5, ew5, h⟩ := letW_e h
      refine V.putIX (pc := 146) dX10_total_146 f_RX10_42 k_cl10 lx_24 ly_24 rb_10_8 (fin_I (T0 := TX10) rfl rfl rfl) ew5 ?_
      refine V.iinc (lv' := [some (.ref 24), some (.int (l1 + 1)), some (.int l2)]) (pc := 149) dX10_total_149 (Nat.le_of_ble_eq_true rfl) rfl rfl (v := (l1 + 1)) (by rw [show Int32.ofInt 1 = 1 from by decide]) rfl ?_
      refine V.goto (t := 24) (pc := 152) dX10_total_152 (by decide) ?_
      refine V.weak (lv' := [some (.ref 24), some (.int (l1 + 1)), none]) (And.intro rfl (And.intro rfl trivial)) ?_
      exact h24 (l1 + 1) w5 _ _ h
    · refine V.icmp_ge_f (t := 99) (pc := 55) dX10_total_55 (by decide) c ?_
      refine V.aload_n (pc := 58) dX10_total_58 rfl ?_
      refine V.getR (t := 29) (pc := 59) dX10_total_59 f_RX10_38 k_cl10 lx_24 ly_24 rb_10_2 rr_24_2 ?_
      refine V.getR (t := 30) (pc := 62) dX10_total_62 f_RX10_59 k_cl8 lx_29 ly_29 rb_8_2 rr_29_2 ?_
      refine V.iload_n (pc := 65) dX10_total_65 rfl ?_
      refine V.iload_n (pc := 66) dX10_total_66 rfl ?_
      obtain ⟨w6, iw6, ew6, h⟩ := wrI_e h
      refine V.iastX (pc := 67) dX10_total_67 lx_30 ly_30 iw6 ew6 ?_
      refine V.aload_n (pc := 68) dX10_total_68 rfl ?_
      refine V.getR (t := 29) (pc := 69) dX10_total_69 f_RX10_38 k_cl10 lx_24 ly_24 rb_10_2 rr_24_2 ?_
      refine V.iload_n (pc := 72) dX10_total_72 rfl ?_
      obtain ⟨x7, w8, ew8, h⟩ := bnd2_e h
      refine U.callV (pc := 73) (As := [.int l1]) (st := []) dX10_total_73 l_RX10_62 (ok_X8_fits_29 (by omega) l1 ew8) lx_29 ly_29 cn_8 (Nat.le_of_ble_eq_true rfl) rfl rfl (Nat.le_of_ble_eq_true rfl) ?_
      rcases ite_e h with ⟨c, h⟩ | ⟨c, h⟩
      · refine V.if_eq_t (t := 93) (pc := 76) dX10_total_76 (by decide) c ?_
        refine V.iinc (lv' := [some (.ref 24), some (.int l1), some (.int (l2 + 1))]) (pc := 93) dX10_total_93 (Nat.le_of_ble_eq_true rfl) rfl rfl (v := (l2 + 1)) (by rw [show Int32.ofInt 1 = 1 from by decide]) rfl ?_
        refine V.goto (t := 47) (pc := 96) dX10_total_96 (by decide) ?_
        exact h47 l1 (l2 + 1) w8 _ _ h
      · refine V.if_eq_f (t := 93) (pc := 76) dX10_total_76 (by decide) c ?_
        refine V.aload_n (pc := 79) dX10_total_79 rfl ?_
        refine V.iload_n (pc := 80) dX10_total_80 rfl ?_
        refine V.iconst (pc := 81) dX10_total_81 ic_1 ?_
        refine V.iadd (pc := 82) dX10_total_82 ?_
        obtain ⟨x9, w10, ew10, h⟩ := bnd2_e h
        refine U.callV (pc := 83) (As := [.int (l1 + 1)]) (st := []) dX10_total_83 l_RX10_66 (ok_X10_extend 20 (by omega) (l1 + 1) ew10) lx_24 ly_24 cn_10 (Nat.le_of_ble_eq_true rfl) rfl rfl (Nat.le_of_ble_eq_true rfl) ?_
        rcases ite_e h with ⟨c, h⟩ | ⟨c, h⟩
        · refine V.if_eq_t (t := 93) (pc := 86) dX10_total_86 (by decide) c ?_
          refine V.iinc (lv' := [some (.ref 24), some (.int l1), some (.int (l2 + 1))]) (pc := 93) dX10_total_93 (Nat.le_of_ble_eq_true rfl) rfl rfl (v := (l2 + 1)) (by rw [show Int32.ofInt 1 = 1 from by decide]) rfl ?_
          refine V.goto (t := 47) (pc := 96) dX10_total_96 (by decide) ?_
          exact h47 l1 (l2 + 1) w10 _ _ h
        · refine V.if_eq_f (t := 93) (pc := 86) dX10_total_86 (by decide) c ?_
          refine V.aload_n (pc := 89) dX10_total_89 rfl ?_
          obtain ⟨w11, ew11, h⟩ := bnd_e h
          refine U.callV (pc := 90) (As := []) (st := []) dX10_total_90 l_RX10_69 (ok_X10_addRow (by omega)  ew11) lx_24 ly_24 cn_10 (Nat.le_of_ble_eq_true rfl) rfl rfl (Nat.le_of_ble_eq_true rfl) ?_
          refine V.iinc (lv' := [some (.ref 24), some (.int l1), some (.int (l2 + 1))]) (pc := 93) dX10_total_93 (Nat.le_of_ble_eq_true rfl) rfl rfl (v := (l2 + 1)) (by rw [show Int32.ofInt 1 = 1 from by decide]) rfl ?_
          refine V.goto (t := 47) (pc := 96) dX10_total_96 (by decide) ?_
          exact h47 l1 (l2 + 1) w11 _ _ h
def f_X10_total_B24b (k24 : Int32 → Wd → Option (Int32 × Wd)) (l1 : Int32) (w : Wd) : Option (Int32 × Wd) :=
  if (w.1 13 6) ≤ l1 then
    some ((w.1 24 8), w)
  else
    wrI w 26 5 l1 (w.1 24 7) fun w1 =>
    f_X10_total_L47 k24 FU l1 1 w1
def f_X10_total_L24 (n : Nat) : Int32 → Wd → Option (Int32 × Wd) :=
  Nat.rec (fun _ _ => none) (fun _ k => f_X10_total_B24b k) n
set_option maxHeartbeats 4000000 in
set_option maxRecDepth 100000 in
theorem t_X10_total_L24 {G : GT} {d : Nat} (hd : 28 ≤ d + 1)  : ∀ (n : Nat) (l1 : Int32) (w : Wd) (r : Int32) (w' : Wd), f_X10_total_L24 n l1 w = some (r, w') → U (vf G mX10_total (d + 1)) 24 [some (.ref 24), some (.int l1), none] [] w (some (.int r), 70, r0, w') := by
  intro n
  induction n with
  | zero => intro l1 w r w' h; cases h
  | succ n h24 =>
    intro l1 w r w' h
    have h : f_X10_total_B24b (f_X10_total_L24 n) l1 w = some (r, w') := h
    unfold f_X10_total_B24b at h
    refine V.iload_n (pc := 24) dX10_total_24 rfl ?_
    refine V.aload_n (pc := 25) dX10_total_25 rfl ?_
    refine V.getR (t := 13) (pc := 26) dX10_total_26 f_RX10_29 k_cl10 lx_24 ly_24 rb_10_1 rr_24_1 ?_
    refine V.getI (pc := 29) dX10_total_29 f_RX10_49 k_cl1 lx_13 ly_13 rb_1_6 ?_
    rcases ite_e h with ⟨c, h⟩ | ⟨c, h⟩
    · refine V.icmp_ge_t (t := 155) (pc := 32) dX10_total_32 (by decide) c ?_
      refine V.aload_n (pc := 155) dX10_total_155 rfl ?_
      refine V.getI (pc := 156) dX10_total_156 f_RX10_42 k_cl10 lx_24 ly_24 rb_10_8 ?_
      obtain ⟨rfl, rfl⟩ := Prod.mk.inj (Option.some.inj h)
      exact V.iret (pc := 159) dX10_total_159 rfl (Nat.le_refl _) (Nat.le_refl _)
    · refine V.icmp_ge_f (t := 155) (pc := 32) dX10_total_32 (by decide) c ?_
      refine V.aload_n (pc := 35) dX10_total_35 rfl ?_
      refine V.getR (t := 26) (pc := 36) dX10_total_36 f_RX10_15 k_cl10 lx_24 ly_24 rb_10_4 rr_24_4 ?_
      refine V.iload_n (pc := 39) dX10_total_39 rfl ?_
      refine V.aload_n (pc := 40) dX10_total_40 rfl ?_
      refine V.getI (pc := 41) dX10_total_41 f_RX10_46 k_cl10 lx_24 ly_24 rb_10_7 ?_
      obtain ⟨w1, iw1, ew1, h⟩ := wrI_e h
      refine V.iastX (pc := 44) dX10_total_44 lx_26 ly_26 iw1 ew1 ?_
      refine V.iconst (pc := 45) dX10_total_45 ic_1 ?_
      refine V.istore_n (lv' := [some (.ref 24), some (.int l1), some (.int 1)]) (pc := 46) dX10_total_46 (Nat.le_of_ble_eq_true rfl) rfl rfl ?_
      exact t_X10_total_L47 hd h24 FU l1 1 w1 _ _ h
def f_X10_total (w : Wd) : Option (Int32 × Wd) :=
  if (w.1 24 8) ≤ 0 then
    letW (sI w 24 8 1) fun w1 =>
    letW (sI w1 24 7 0) fun w2 =>
    f_X10_total_L24  FU 0 w2
  else
    some ((w.1 24 8), w)
set_option maxHeartbeats 4000000 in
set_option maxRecDepth 100000 in
theorem ok_X10_total {G : GT} {d : Nat} (hd : 28 ≤ d) {w : Wd}  {r : Int32} {w' : Wd} (h : f_X10_total  w = some (r, w')) : uC G yX10_total mX10_total d [.ref 24] w (some (.int r)) w' := by
  obtain ⟨d, rfl⟩ : ∃ e, d = e + 1 := ⟨d - 1, by omega⟩
  unfold f_X10_total at h
  refine uC_of (lv := [some (.ref 24), none, none]) 2 pn_X10 ⟨rfl, rfl⟩ (Nat.le_of_ble_eq_true rfl) rfl ?_
  refine V.aload_n (pc := 0) dX10_total_0 rfl ?_
  refine V.getI (pc := 1) dX10_total_1 f_RX10_42 k_cl10 lx_24 ly_24 rb_10_8 ?_
  rcases ite_e h with ⟨c, h⟩ | ⟨c, h⟩
  · refine V.if_le_t (t := 12) (pc := 4) dX10_total_4 (by decide) c ?_
    refine V.aload_n (pc := 12) dX10_total_12 rfl ?_
    refine V.iconst (pc := 13) dX10_total_13 ic_1 ?_
    obtain ⟨w1, ew1, h⟩ := letW_e h
    refine V.putIX (pc := 14) dX10_total_14 f_RX10_42 k_cl10 lx_24 ly_24 rb_10_8 (fin_I (T0 := TX10) rfl rfl rfl) ew1 ?_
    refine V.aload_n (pc := 17) dX10_total_17 rfl ?_
    refine V.iconst (pc := 18) dX10_total_18 ic_0 ?_
    obtain ⟨w2, ew2, h⟩ := letW_e h
    refine V.putIX (pc := 19) dX10_total_19 f_RX10_46 k_cl10 lx_24 ly_24 rb_10_7 (fin_I (T0 := TX10) rfl rfl rfl) ew2 ?_
    refine V.iconst (pc := 22) dX10_total_22 ic_0 ?_
    refine V.istore_n (lv' := [some (.ref 24), some (.int 0), none]) (pc := 23) dX10_total_23 (Nat.le_of_ble_eq_true rfl) rfl rfl ?_
    exact t_X10_total_L24 hd FU 0 w2 _ _ h
  · refine V.if_le_f (t := 12) (pc := 4) dX10_total_4 (by decide) c ?_
    refine V.aload_n (pc := 7) dX10_total_7 rfl ?_
    refine V.getI (pc := 8) dX10_total_8 f_RX10_42 k_cl10 lx_24 ly_24 rb_10_8 ?_
    obtain ⟨rfl, rfl⟩ := Prod.mk.inj (Option.some.inj h)
    exact V.iret (pc := 11) dX10_total_11 rfl (Nat.le_refl _) (Nat.le_refl _)
theorem dX11_turns_0 : decode cX11_turns 0 = .ok (.aload_n 0, 1) := by decide +kernel
theorem dX11_turns_1 : decode cX11_turns 1 = .ok (.getfield 60, 3) := by decide +kernel
theorem dX11_turns_4 : decode cX11_turns 4 = .ok (.invokevirtual 243, 3) := by decide +kernel
theorem dX11_turns_7 : decode cX11_turns 7 = .ok (.ireturn, 1) := by decide +kernel
def f_X11_turns (w : Wd) : Option (Int32 × Wd) :=
  bnd2 (f_X10_total  w) fun x1 w2 =>
  some (x1, w2)
set_option maxHeartbeats 4000000 in
set_option maxRecDepth 100000 in
theorem ok_X11_turns {G : GT} {d : Nat} (hd : 29 ≤ d) {w : Wd}  {r : Int32} {w' : Wd} (h : f_X11_turns  w = some (r, w')) : uC G yX11_turns mX11_turns d [.ref 0] w (some (.int r)) w' := by
  obtain ⟨d, rfl⟩ : ∃ e, d = e + 1 := ⟨d - 1, by omega⟩
  unfold f_X11_turns at h
  refine uC_of (lv := [some (.ref 0)]) 0 pn_X11 ⟨rfl, rfl⟩ (Nat.le_of_ble_eq_true rfl) rfl ?_
  refine V.aload_n (pc := 0) dX11_turns_0 rfl ?_
  refine V.getR (t := 24) (pc := 1) dX11_turns_1 f_RX11_60 k_cl11 lx_0 ly_0 rb_11_6 rr_0_6 ?_
  obtain ⟨x1, w2, ew2, h⟩ := bnd2_e h
  refine U.callV (pc := 4) (As := []) (st := []) dX11_turns_4 l_RX11_243 (ok_X10_total (by omega)  ew2) lx_24 ly_24 cn_10 (Nat.le_of_ble_eq_true rfl) rfl rfl (Nat.le_of_ble_eq_true rfl) ?_
  obtain ⟨rfl, rfl⟩ := Prod.mk.inj (Option.some.inj h)
  exact V.iret (pc := 7) dX11_turns_7 rfl (Nat.le_refl _) (Nat.le_refl _)
theorem dX12_firstRow_0 : decode cX12_firstRow 0 = .ok (.iconst 0, 1) := by decide +kernel
theorem dX12_firstRow_1 : decode cX12_firstRow 1 = .ok (.istore_n 1, 1) := by decide +kernel
theorem dX12_firstRow_2 : decode cX12_firstRow 2 = .ok (.iload_n 1, 1) := by decide +kernel
theorem dX12_firstRow_3 : decode cX12_firstRow 3 = .ok (.bipush 16, 2) := by decide +kernel
theorem dX12_firstRow_5 : decode cX12_firstRow 5 = .ok (.if_icmp .ge 16, 3) := by decide +kernel
theorem dX12_firstRow_8 : decode cX12_firstRow 8 = .ok (.aload_n 0, 1) := by decide +kernel
theorem dX12_firstRow_9 : decode cX12_firstRow 9 = .ok (.getfield 69, 3) := by decide +kernel
theorem dX12_firstRow_12 : decode cX12_firstRow 12 = .ok (.iload_n 1, 1) := by decide +kernel
theorem dX12_firstRow_13 : decode cX12_firstRow 13 = .ok (.iconst 0, 1) := by decide +kernel
theorem dX12_firstRow_14 : decode cX12_firstRow 14 = .ok (.iastore, 1) := by decide +kernel
theorem dX12_firstRow_15 : decode cX12_firstRow 15 = .ok (.iinc 1 1, 3) := by decide +kernel
theorem dX12_firstRow_18 : decode cX12_firstRow 18 = .ok (.goto (-16), 3) := by decide +kernel
theorem dX12_firstRow_21 : decode cX12_firstRow 21 = .ok (.return_, 1) := by decide +kernel
def f_X12_firstRow_B2b (k2 : Int32 → Wd → Option Wd) (l1 : Int32) (w : Wd) : Option Wd :=
  if 16 ≤ l1 then
    some w
  else
    wrI w 63 16 l1 0 fun w1 =>
    k2 (l1 + 1) w1
def f_X12_firstRow_L2 (n : Nat) : Int32 → Wd → Option Wd :=
  Nat.rec (fun _ _ => none) (fun _ k => f_X12_firstRow_B2b k) n
set_option maxHeartbeats 4000000 in
set_option maxRecDepth 100000 in
theorem t_X12_firstRow_L2 {G : GT} {d : Nat} (hd : 0 ≤ d)  : ∀ (n : Nat) (l1 : Int32) (w : Wd) (w' : Wd), f_X12_firstRow_L2 n l1 w = some w' → U (vf G mX12_firstRow d) 2 [some (.ref 44), some (.int l1)] [] w (none, 70, r0, w') := by
  intro n
  induction n with
  | zero => intro l1 w w' h; cases h
  | succ n h2 =>
    intro l1 w w' h
    have h : f_X12_firstRow_B2b (f_X12_firstRow_L2 n) l1 w = some w' := h
    unfold f_X12_firstRow_B2b at h
    refine V.iload_n (pc := 2) dX12_firstRow_2 rfl ?_
    refine V.bipush (pc := 3) dX12_firstRow_3 bp_16 ?_
    rcases ite_e h with ⟨c, h⟩ | ⟨c, h⟩
    · refine V.icmp_ge_t (t := 21) (pc := 5) dX12_firstRow_5 (by decide) c ?_
      obtain rfl := Option.some.inj h
      exact V.vret (pc := 21) dX12_firstRow_21 rfl (Nat.le_refl _) (Nat.le_refl _)
    · refine V.icmp_ge_f (t := 21) (pc := 5) dX12_firstRow_5 (by decide) c ?_
      refine V.aload_n (pc := 8) dX12_firstRow_8 rfl ?_
      refine V.getR (t := 63) (pc := 9) dX12_firstRow_9 f_RX12_69 k_cl12 lx_44 ly_44 rb_12_24 rr_44_24 ?_
      refine V.iload_n (pc := 12) dX12_firstRow_12 rfl ?_
      refine V.iconst (pc := 13) dX12_firstRow_13 ic_0 ?_
      obtain ⟨w1, iw1, ew1, h⟩ := wrI_e h
      refine V.iastX (pc := 14) dX12_firstRow_14 lx_63 ly_63 iw1 ew1 ?_
      refine V.iinc (lv' := [some (.ref 44), some (.int (l1 + 1))]) (pc := 15) dX12_firstRow_15 (Nat.le_of_ble_eq_true rfl) rfl rfl (v := (l1 + 1)) (by rw [show Int32.ofInt 1 = 1 from by decide]) rfl ?_
      refine V.goto (t := 2) (pc := 18) dX12_firstRow_18 (by decide) ?_
      exact h2 (l1 + 1) w1 _ h
def f_X12_firstRow (w : Wd) : Option Wd :=
  f_X12_firstRow_L2  FU 0 w
set_option maxHeartbeats 4000000 in
set_option maxRecDepth 100000 in
theorem ok_X12_firstRow {G : GT} {d : Nat} (hd : 0 ≤ d) {w : Wd}  {w' : Wd} (h : f_X12_firstRow  w = some w') : uC G yX12_firstRow mX12_firstRow d [.ref 44] w none w' := by
  unfold f_X12_firstRow at h
  refine uC_of (lv := [some (.ref 44), none]) 1 pn_X12 ⟨rfl, rfl⟩ (Nat.le_of_ble_eq_true rfl) rfl ?_
  refine V.iconst (pc := 0) dX12_firstRow_0 ic_0 ?_
  refine V.istore_n (lv' := [some (.ref 44), some (.int 0)]) (pc := 1) dX12_firstRow_1 (Nat.le_of_ble_eq_true rfl) rfl rfl ?_
  exact t_X12_firstRow_L2 hd FU 0 w _ h
theorem dX12_isTurn_0 : decode cX12_isTurn 0 = .ok (.aload_n 0, 1) := by decide +kernel
theorem dX12_isTurn_1 : decode cX12_isTurn 1 = .ok (.getfield 66, 3) := by decide +kernel
theorem dX12_isTurn_4 : decode cX12_isTurn 4 = .ok (.iconst 0, 1) := by decide +kernel
theorem dX12_isTurn_5 : decode cX12_isTurn 5 = .ok (.iconst 0, 1) := by decide +kernel
theorem dX12_isTurn_6 : decode cX12_isTurn 6 = .ok (.iastore, 1) := by decide +kernel
theorem dX12_isTurn_7 : decode cX12_isTurn 7 = .ok (.iconst 1, 1) := by decide +kernel
theorem dX12_isTurn_8 : decode cX12_isTurn 8 = .ok (.istore_n 1, 1) := by decide +kernel
theorem dX12_isTurn_9 : decode cX12_isTurn 9 = .ok (.iconst 1, 1) := by decide +kernel
theorem dX12_isTurn_10 : decode cX12_isTurn 10 = .ok (.istore_n 2, 1) := by decide +kernel
theorem dX12_isTurn_11 : decode cX12_isTurn 11 = .ok (.iload_n 2, 1) := by decide +kernel
theorem dX12_isTurn_12 : decode cX12_isTurn 12 = .ok (.aload_n 0, 1) := by decide +kernel
theorem dX12_isTurn_13 : decode cX12_isTurn 13 = .ok (.getfield 92, 3) := by decide +kernel
theorem dX12_isTurn_16 : decode cX12_isTurn 16 = .ok (.if_icmp .ge 64, 3) := by decide +kernel
theorem dX12_isTurn_19 : decode cX12_isTurn 19 = .ok (.aload_n 0, 1) := by decide +kernel
theorem dX12_isTurn_20 : decode cX12_isTurn 20 = .ok (.aload_n 0, 1) := by decide +kernel
theorem dX12_isTurn_21 : decode cX12_isTurn 21 = .ok (.getfield 66, 3) := by decide +kernel
theorem dX12_isTurn_24 : decode cX12_isTurn 24 = .ok (.aload_n 0, 1) := by decide +kernel
theorem dX12_isTurn_25 : decode cX12_isTurn 25 = .ok (.getfield 36, 3) := by decide +kernel
theorem dX12_isTurn_28 : decode cX12_isTurn 28 = .ok (.iload_n 2, 1) := by decide +kernel
theorem dX12_isTurn_29 : decode cX12_isTurn 29 = .ok (.iaload, 1) := by decide +kernel
theorem dX12_isTurn_30 : decode cX12_isTurn 30 = .ok (.iaload, 1) := by decide +kernel
theorem dX12_isTurn_31 : decode cX12_isTurn 31 = .ok (.aload_n 0, 1) := by decide +kernel
theorem dX12_isTurn_32 : decode cX12_isTurn 32 = .ok (.getfield 69, 3) := by decide +kernel
theorem dX12_isTurn_35 : decode cX12_isTurn 35 = .ok (.aload_n 0, 1) := by decide +kernel
theorem dX12_isTurn_36 : decode cX12_isTurn 36 = .ok (.getfield 39, 3) := by decide +kernel
theorem dX12_isTurn_39 : decode cX12_isTurn 39 = .ok (.iload_n 2, 1) := by decide +kernel
theorem dX12_isTurn_40 : decode cX12_isTurn 40 = .ok (.iaload, 1) := by decide +kernel
theorem dX12_isTurn_41 : decode cX12_isTurn 41 = .ok (.iaload, 1) := by decide +kernel
theorem dX12_isTurn_42 : decode cX12_isTurn 42 = .ok (.invokevirtual 119, 3) := by decide +kernel
theorem dX12_isTurn_45 : decode cX12_isTurn 45 = .ok (.istore_n 3, 1) := by decide +kernel
theorem dX12_isTurn_46 : decode cX12_isTurn 46 = .ok (.iload_n 1, 1) := by decide +kernel
theorem dX12_isTurn_47 : decode cX12_isTurn 47 = .ok (.iload_n 3, 1) := by decide +kernel
theorem dX12_isTurn_48 : decode cX12_isTurn 48 = .ok (.invokestatic 128, 3) := by decide +kernel
theorem dX12_isTurn_51 : decode cX12_isTurn 51 = .ok (.ifCond .eq 5, 3) := by decide +kernel
theorem dX12_isTurn_54 : decode cX12_isTurn 54 = .ok (.iconst 0, 1) := by decide +kernel
theorem dX12_isTurn_55 : decode cX12_isTurn 55 = .ok (.ireturn, 1) := by decide +kernel
theorem dX12_isTurn_56 : decode cX12_isTurn 56 = .ok (.iload_n 1, 1) := by decide +kernel
theorem dX12_isTurn_57 : decode cX12_isTurn 57 = .ok (.iconst 1, 1) := by decide +kernel
theorem dX12_isTurn_58 : decode cX12_isTurn 58 = .ok (.iload_n 3, 1) := by decide +kernel
theorem dX12_isTurn_59 : decode cX12_isTurn 59 = .ok (.ishl, 1) := by decide +kernel
theorem dX12_isTurn_60 : decode cX12_isTurn 60 = .ok (.ior, 1) := by decide +kernel
theorem dX12_isTurn_61 : decode cX12_isTurn 61 = .ok (.istore_n 1, 1) := by decide +kernel
theorem dX12_isTurn_62 : decode cX12_isTurn 62 = .ok (.aload_n 0, 1) := by decide +kernel
theorem dX12_isTurn_63 : decode cX12_isTurn 63 = .ok (.getfield 66, 3) := by decide +kernel
theorem dX12_isTurn_66 : decode cX12_isTurn 66 = .ok (.aload_n 0, 1) := by decide +kernel
theorem dX12_isTurn_67 : decode cX12_isTurn 67 = .ok (.getfield 33, 3) := by decide +kernel
theorem dX12_isTurn_70 : decode cX12_isTurn 70 = .ok (.iload_n 2, 1) := by decide +kernel
theorem dX12_isTurn_71 : decode cX12_isTurn 71 = .ok (.iaload, 1) := by decide +kernel
theorem dX12_isTurn_72 : decode cX12_isTurn 72 = .ok (.iload_n 3, 1) := by decide +kernel
theorem dX12_isTurn_73 : decode cX12_isTurn 73 = .ok (.iastore, 1) := by decide +kernel
theorem dX12_isTurn_74 : decode cX12_isTurn 74 = .ok (.iinc 2 1, 3) := by decide +kernel
theorem dX12_isTurn_77 : decode cX12_isTurn 77 = .ok (.goto (-66), 3) := by decide +kernel
theorem dX12_isTurn_80 : decode cX12_isTurn 80 = .ok (.iconst 0, 1) := by decide +kernel
theorem dX12_isTurn_81 : decode cX12_isTurn 81 = .ok (.istore_n 2, 1) := by decide +kernel
theorem dX12_isTurn_82 : decode cX12_isTurn 82 = .ok (.iload_n 2, 1) := by decide +kernel
theorem dX12_isTurn_83 : decode cX12_isTurn 83 = .ok (.aload_n 0, 1) := by decide +kernel
theorem dX12_isTurn_84 : decode cX12_isTurn 84 = .ok (.getfield 92, 3) := by decide +kernel
theorem dX12_isTurn_87 : decode cX12_isTurn 87 = .ok (.if_icmp .ge 62, 3) := by decide +kernel
theorem dX12_isTurn_90 : decode cX12_isTurn 90 = .ok (.iconst 0, 1) := by decide +kernel
theorem dX12_isTurn_91 : decode cX12_isTurn 91 = .ok (.istore_n 3, 1) := by decide +kernel
theorem dX12_isTurn_92 : decode cX12_isTurn 92 = .ok (.iload_n 3, 1) := by decide +kernel
theorem dX12_isTurn_93 : decode cX12_isTurn 93 = .ok (.aload_n 0, 1) := by decide +kernel
theorem dX12_isTurn_94 : decode cX12_isTurn 94 = .ok (.getfield 125, 3) := by decide +kernel
theorem dX12_isTurn_97 : decode cX12_isTurn 97 = .ok (.if_icmp .ge 46, 3) := by decide +kernel
theorem dX12_isTurn_100 : decode cX12_isTurn 100 = .ok (.aload_n 0, 1) := by decide +kernel
theorem dX12_isTurn_101 : decode cX12_isTurn 101 = .ok (.getfield 66, 3) := by decide +kernel
theorem dX12_isTurn_104 : decode cX12_isTurn 104 = .ok (.aload_n 0, 1) := by decide +kernel
theorem dX12_isTurn_105 : decode cX12_isTurn 105 = .ok (.iload_n 2, 1) := by decide +kernel
theorem dX12_isTurn_106 : decode cX12_isTurn 106 = .ok (.aload_n 0, 1) := by decide +kernel
theorem dX12_isTurn_107 : decode cX12_isTurn 107 = .ok (.getfield 30, 3) := by decide +kernel
theorem dX12_isTurn_110 : decode cX12_isTurn 110 = .ok (.iload_n 3, 1) := by decide +kernel
theorem dX12_isTurn_111 : decode cX12_isTurn 111 = .ok (.iaload, 1) := by decide +kernel
theorem dX12_isTurn_112 : decode cX12_isTurn 112 = .ok (.invokevirtual 119, 3) := by decide +kernel
theorem dX12_isTurn_115 : decode cX12_isTurn 115 = .ok (.iaload, 1) := by decide +kernel
theorem dX12_isTurn_116 : decode cX12_isTurn 116 = .ok (.aload_n 0, 1) := by decide +kernel
theorem dX12_isTurn_117 : decode cX12_isTurn 117 = .ok (.aload_n 0, 1) := by decide +kernel
theorem dX12_isTurn_118 : decode cX12_isTurn 118 = .ok (.getfield 66, 3) := by decide +kernel
theorem dX12_isTurn_121 : decode cX12_isTurn 121 = .ok (.iload_n 2, 1) := by decide +kernel
theorem dX12_isTurn_122 : decode cX12_isTurn 122 = .ok (.iaload, 1) := by decide +kernel
theorem dX12_isTurn_123 : decode cX12_isTurn 123 = .ok (.aload_n 0, 1) := by decide +kernel
theorem dX12_isTurn_124 : decode cX12_isTurn 124 = .ok (.getfield 69, 3) := by decide +kernel
theorem dX12_isTurn_127 : decode cX12_isTurn 127 = .ok (.iload_n 3, 1) := by decide +kernel
theorem dX12_isTurn_128 : decode cX12_isTurn 128 = .ok (.iaload, 1) := by decide +kernel
theorem dX12_isTurn_129 : decode cX12_isTurn 129 = .ok (.invokevirtual 119, 3) := by decide +kernel
theorem dX12_isTurn_132 : decode cX12_isTurn 132 = .ok (.if_icmp .eq 5, 3) := by decide +kernel
theorem dX12_isTurn_135 : decode cX12_isTurn 135 = .ok (.iconst 0, 1) := by decide +kernel
theorem dX12_isTurn_136 : decode cX12_isTurn 136 = .ok (.ireturn, 1) := by decide +kernel
theorem dX12_isTurn_137 : decode cX12_isTurn 137 = .ok (.iinc 3 1, 3) := by decide +kernel
theorem dX12_isTurn_140 : decode cX12_isTurn 140 = .ok (.goto (-48), 3) := by decide +kernel
theorem dX12_isTurn_143 : decode cX12_isTurn 143 = .ok (.iinc 2 1, 3) := by decide +kernel
theorem dX12_isTurn_146 : decode cX12_isTurn 146 = .ok (.goto (-64), 3) := by decide +kernel
theorem dX12_isTurn_149 : decode cX12_isTurn 149 = .ok (.iconst 1, 1) := by decide +kernel
theorem dX12_isTurn_150 : decode cX12_isTurn 150 = .ok (.ireturn, 1) := by decide +kernel
def f_X12_isTurn_B92b (k82 : Int32 → Wd → Option (Int32 × Wd)) (k92 : Int32 → Int32 → Wd → Option (Int32 × Wd)) (l2 : Int32) (l3 : Int32) (w : Wd) : Option (Int32 × Wd) :=
  if (w.1 44 9) ≤ l3 then
    k82 (l2 + 1) w
  else
    rdI w 50 16 l3 fun x1 =>
    bnd (f_X12_product0 l2 x1 w) fun x2 =>
    rdI w 62 16 x2 fun x3 =>
    rdI w 62 16 l2 fun x4 =>
    rdI w 63 16 l3 fun x5 =>
    bnd (f_X12_product0 x4 x5 w) fun x6 =>
    if x3 = x6 then
      k92 l2 (l3 + 1) w
    else
      some (0, w)
def f_X12_isTurn_L92 (k82 : Int32 → Wd → Option (Int32 × Wd)) (n : Nat) : Int32 → Int32 → Wd → Option (Int32 × Wd) :=
  Nat.rec (fun _ _ _ => none) (fun _ k => f_X12_isTurn_B92b k82 k) n
set_option maxHeartbeats 4000000 in
set_option maxRecDepth 100000 in
theorem t_X12_isTurn_L92 {G : GT} {d : Nat} {k82 : Int32 → Wd → Option (Int32 × Wd)} (hd : 1 ≤ d + 1) (h82 : ∀ (l2 : Int32) (w : Wd) (r : Int32) (w' : Wd), k82 l2 w = some (r, w') → U (vf G mX12_isTurn (d + 1)) 82 [some (.ref 44), none, some (.int l2), none] [] w (some (.int r), 70, r0, w')) : ∀ (n : Nat) (l2 : Int32) (l3 : Int32) (w : Wd) (r : Int32) (w' : Wd), f_X12_isTurn_L92 k82 n l2 l3 w = some (r, w') → U (vf G mX12_isTurn (d + 1)) 92 [some (.ref 44), none, some (.int l2), some (.int l3)] [] w (some (.int r), 70, r0, w') := by
  intro n
  induction n with
  | zero => intro l2 l3 w r w' h; cases h
  | succ n h92 =>
    intro l2 l3 w r w' h
    have h : f_X12_isTurn_B92b k82 (f_X12_isTurn_L92 k82 n) l2 l3 w = some (r, w') := h
    unfold f_X12_isTurn_B92b at h
    refine V.iload_n (pc := 92) dX12_isTurn_92 rfl ?_
    refine V.aload_n (pc := 93) dX12_isTurn_93 rfl ?_
    refine V.getI (pc := 94) dX12_isTurn_94 f_RX12_125 k_cl12 lx_44 ly_44 rb_12_9 ?_
    rcases ite_e h with ⟨c, h⟩ | ⟨c, h⟩
    · refine V.icmp_ge_t (t := 143) (pc := 97) dX12_isTurn_97 (by decide) c ?_
      refine V.iinc (lv' := [some (.ref 44), none, some (.int (l2 + 1)), some (.int l3)]) (pc := 143) dX12_isTurn_143 (Nat.le_of_ble_eq_true rfl) rfl rfl (v := (l2 + 1)) (by rw [show Int32.ofInt 1 = 1 from by decide]) rfl ?_
      refine V.goto (t := 82) (pc := 146) dX12_isTurn_146 (by decide) ?_
      refine V.weak (lv' := [some (.ref 44), none, some (.int (l2 + 1)), none]) (And.intro rfl (And.intro rfl trivial)) ?_
      exact h82 (l2 + 1) w _ _ h
    · refine V.icmp_ge_f (t := 143) (pc := 97) dX12_isTurn_97 (by decide) c ?_
      refine V.aload_n (pc := 100) dX12_isTurn_100 rfl ?_
      refine V.getR (t := 62) (pc := 101) dX12_isTurn_101 f_RX12_66 k_cl12 lx_44 ly_44 rb_12_23 rr_44_23 ?_
      refine V.aload_n (pc := 104) dX12_isTurn_104 rfl ?_
      refine V.iload_n (pc := 105) dX12_isTurn_105 rfl ?_
      refine V.aload_n (pc := 106) dX12_isTurn_106 rfl ?_
      refine V.getR (t := 50) (pc := 107) dX12_isTurn_107 f_RX12_30 k_cl12 lx_44 ly_44 rb_12_8 rr_44_8 ?_
      refine V.iload_n (pc := 110) dX12_isTurn_110 rfl ?_
      obtain ⟨x1, ix1, ex1, h⟩ := rdI_e h
      refine V.ialdX (pc := 111) dX12_isTurn_111 lx_50 ly_50 ix1 ex1 ?_
      obtain ⟨x2, ex2, h⟩ := bnd_e h
      refine U.callV (pc := 112) (As := [.int l2, .int x1]) (st := [.ref 62]) dX12_isTurn_112 l_RX12_119 (ok_X12_product0 (by omega) l2 x1 ex2) lx_44 ly_44 cn_12 (Nat.le_of_ble_eq_true rfl) rfl rfl (Nat.le_of_ble_eq_true rfl) ?_
      obtain ⟨x3, ix3, ex3, h⟩ := rdI_e h
      refine V.ialdX (pc := 115) dX12_isTurn_115 lx_62 ly_62 ix3 ex3 ?_
      refine V.aload_n (pc := 116) dX12_isTurn_116 rfl ?_
      refine V.aload_n (pc := 117) dX12_isTurn_117 rfl ?_
      refine V.getR (t := 62) (pc := 118) dX12_isTurn_118 f_RX12_66 k_cl12 lx_44 ly_44 rb_12_23 rr_44_23 ?_
      refine V.iload_n (pc := 121) dX12_isTurn_121 rfl ?_
      obtain ⟨x4, ix4, ex4, h⟩ := rdI_e h
      refine V.ialdX (pc := 122) dX12_isTurn_122 lx_62 ly_62 ix4 ex4 ?_
      refine V.aload_n (pc := 123) dX12_isTurn_123 rfl ?_
      refine V.getR (t := 63) (pc := 124) dX12_isTurn_124 f_RX12_69 k_cl12 lx_44 ly_44 rb_12_24 rr_44_24 ?_
      refine V.iload_n (pc := 127) dX12_isTurn_127 rfl ?_
      obtain ⟨x5, ix5, ex5, h⟩ := rdI_e h
      refine V.ialdX (pc := 128) dX12_isTurn_128 lx_63 ly_63 ix5 ex5 ?_
      obtain ⟨x6, ex6, h⟩ := bnd_e h
      refine U.callV (pc := 129) (As := [.int x4, .int x5]) (st := [.int x3]) dX12_isTurn_129 l_RX12_119 (ok_X12_product0 (by omega) x4 x5 ex6) lx_44 ly_44 cn_12 (Nat.le_of_ble_eq_true rfl) rfl rfl (Nat.le_of_ble_eq_true rfl) ?_
      rcases ite_e h with ⟨c, h⟩ | ⟨c, h⟩
      · refine V.icmp_eq_t (t := 137) (pc := 132) dX12_isTurn_132 (by decide) c ?_
        refine V.iinc (lv' := [some (.ref 44), none, some (.int l2), some (.int (l3 + 1))]) (pc := 137) dX12_isTurn_137 (Nat.le_of_ble_eq_true rfl) rfl rfl (v := (l3 + 1)) (by rw [show Int32.ofInt 1 = 1 from by decide]) rfl ?_
        refine V.goto (t := 92) (pc := 140) dX12_isTurn_140 (by decide) ?_
        exact h92 l2 (l3 + 1) w _ _ h
      · refine V.icmp_eq_f (t := 137) (pc := 132) dX12_isTurn_132 (by decide) c ?_
        refine V.iconst (pc := 135) dX12_isTurn_135 ic_0 ?_
        obtain ⟨rfl, rfl⟩ := Prod.mk.inj (Option.some.inj h)
        exact V.zret (pc := 136) dX12_isTurn_136 rfl (Or.inl rfl) (Nat.le_refl _) (Nat.le_refl _)
def f_X12_isTurn_B82b (k82 : Int32 → Wd → Option (Int32 × Wd)) (l2 : Int32) (w : Wd) : Option (Int32 × Wd) :=
  if (w.1 44 1) ≤ l2 then
    some (1, w)
  else
    f_X12_isTurn_L92 k82 FU l2 0 w
def f_X12_isTurn_L82 (n : Nat) : Int32 → Wd → Option (Int32 × Wd) :=
  Nat.rec (fun _ _ => none) (fun _ k => f_X12_isTurn_B82b k) n
set_option maxHeartbeats 4000000 in
set_option maxRecDepth 100000 in
theorem t_X12_isTurn_L82 {G : GT} {d : Nat} (hd : 1 ≤ d + 1)  : ∀ (n : Nat) (l2 : Int32) (w : Wd) (r : Int32) (w' : Wd), f_X12_isTurn_L82 n l2 w = some (r, w') → U (vf G mX12_isTurn (d + 1)) 82 [some (.ref 44), none, some (.int l2), none] [] w (some (.int r), 70, r0, w') := by
  intro n
  induction n with
  | zero => intro l2 w r w' h; cases h
  | succ n h82 =>
    intro l2 w r w' h
    have h : f_X12_isTurn_B82b (f_X12_isTurn_L82 n) l2 w = some (r, w') := h
    unfold f_X12_isTurn_B82b at h
    refine V.iload_n (pc := 82) dX12_isTurn_82 rfl ?_
    refine V.aload_n (pc := 83) dX12_isTurn_83 rfl ?_
    refine V.getI (pc := 84) dX12_isTurn_84 f_RX12_92 k_cl12 lx_44 ly_44 rb_12_1 ?_
    rcases ite_e h with ⟨c, h⟩ | ⟨c, h⟩
    · refine V.icmp_ge_t (t := 149) (pc := 87) dX12_isTurn_87 (by decide) c ?_
      refine V.iconst (pc := 149) dX12_isTurn_149 ic_1 ?_
      obtain ⟨rfl, rfl⟩ := Prod.mk.inj (Option.some.inj h)
      exact V.zret (pc := 150) dX12_isTurn_150 rfl (Or.inr rfl) (Nat.le_refl _) (Nat.le_refl _)
    · refine V.icmp_ge_f (t := 149) (pc := 87) dX12_isTurn_87 (by decide) c ?_
      refine V.iconst (pc := 90) dX12_isTurn_90 ic_0 ?_
      refine V.istore_n (lv' := [some (.ref 44), none, some (.int l2), some (.int 0)]) (pc := 91) dX12_isTurn_91 (Nat.le_of_ble_eq_true rfl) rfl rfl ?_
      exact t_X12_isTurn_L92 hd h82 FU l2 0 w _ _ h
def f_X12_isTurn_B11b (k11 : Int32 → Int32 → Wd → Option (Int32 × Wd)) (l1 : Int32) (l2 : Int32) (w : Wd) : Option (Int32 × Wd) :=
  if (w.1 44 1) ≤ l2 then
    f_X12_isTurn_L82  FU 0 w
  else
    rdI w 52 16 l2 fun x1 =>
    rdI w 62 16 x1 fun x2 =>
    rdI w 53 16 l2 fun x3 =>
    rdI w 63 16 x3 fun x4 =>
    bnd (f_X12_product0 x2 x4 w) fun x5 =>
    if (f_X12_has l1 x5) = 0 then
      rdI w 51 16 l2 fun x6 =>
      wrI w 62 16 x6 x5 fun w7 =>
      k11 (l1 ||| (1 <<< (x5 &&& 31))) (l2 + 1) w7
    else
      some (0, w)
def f_X12_isTurn_L11 (n : Nat) : Int32 → Int32 → Wd → Option (Int32 × Wd) :=
  Nat.rec (fun _ _ _ => none) (fun _ k => f_X12_isTurn_B11b k) n
set_option maxHeartbeats 4000000 in
set_option maxRecDepth 100000 in
theorem t_X12_isTurn_L11 {G : GT} {d : Nat} (hd : 1 ≤ d + 1)  : ∀ (n : Nat) (l1 : Int32) (l2 : Int32) (w : Wd) (r : Int32) (w' : Wd), f_X12_isTurn_L11 n l1 l2 w = some (r, w') → U (vf G mX12_isTurn (d + 1)) 11 [some (.ref 44), some (.int l1), some (.int l2), none] [] w (some (.int r), 70, r0, w') := by
  intro n
  induction n with
  | zero => intro l1 l2 w r w' h; cases h
  | succ n h11 =>
    intro l1 l2 w r w' h
    have h : f_X12_isTurn_B11b (f_X12_isTurn_L11 n) l1 l2 w = some (r, w') := h
    unfold f_X12_isTurn_B11b at h
    refine V.iload_n (pc := 11) dX12_isTurn_11 rfl ?_
    refine V.aload_n (pc := 12) dX12_isTurn_12 rfl ?_
    refine V.getI (pc := 13) dX12_isTurn_13 f_RX12_92 k_cl12 lx_44 ly_44 rb_12_1 ?_
    rcases ite_e h with ⟨c, h⟩ | ⟨c, h⟩
    · refine V.icmp_ge_t (t := 80) (pc := 16) dX12_isTurn_16 (by decide) c ?_
      refine V.iconst (pc := 80) dX12_isTurn_80 ic_0 ?_
      refine V.istore_n (lv' := [some (.ref 44), some (.int l1), some (.int 0), none]) (pc := 81) dX12_isTurn_81 (Nat.le_of_ble_eq_true rfl) rfl rfl ?_
      refine V.weak (lv' := [some (.ref 44), none, some (.int 0), none]) (And.intro rfl (And.intro rfl trivial)) ?_
      exact t_X12_isTurn_L82 hd FU 0 w _ _ h
    · refine V.icmp_ge_f (t := 80) (pc := 16) dX12_isTurn_16 (by decide) c ?_
      refine V.aload_n (pc := 19) dX12_isTurn_19 rfl ?_
      refine V.aload_n (pc := 20) dX12_isTurn_20 rfl ?_
      refine V.getR (t := 62) (pc := 21) dX12_isTurn_21 f_RX12_66 k_cl12 lx_44 ly_44 rb_12_23 rr_44_23 ?_
      refine V.aload_n (pc := 24) dX12_isTurn_24 rfl ?_
      refine V.getR (t := 52) (pc := 25) dX12_isTurn_25 f_RX12_36 k_cl12 lx_44 ly_44 rb_12_11 rr_44_11 ?_
      refine V.iload_n (pc := 28) dX12_isTurn_28 rfl ?_
      obtain ⟨x1, ix1, ex1, h⟩ := rdI_e h
      refine V.ialdX (pc := 29) dX12_isTurn_29 lx_52 ly_52 ix1 ex1 ?_
      obtain ⟨x2, ix2, ex2, h⟩ := rdI_e h
      refine V.ialdX (pc := 30) dX12_isTurn_30 lx_62 ly_62 ix2 ex2 ?_
      refine V.aload_n (pc := 31) dX12_isTurn_31 rfl ?_
      refine V.getR (t := 63) (pc := 32) dX12_isTurn_32 f_RX12_69 k_cl12 lx_44 ly_44 rb_12_24 rr_44_24 ?_
      refine V.aload_n (pc := 35) dX12_isTurn_35 rfl ?_
      refine V.getR (t := 53) (pc := 36) dX12_isTurn_36 f_RX12_39 k_cl12 lx_44 ly_44 rb_12_12 rr_44_12 ?_
      refine V.iload_n (pc := 39) dX12_isTurn_39 rfl ?_
      obtain ⟨x3, ix3, ex3, h⟩ := rdI_e h
      refine V.ialdX (pc := 40) dX12_isTurn_40 lx_53 ly_53 ix3 ex3 ?_
      obtain ⟨x4, ix4, ex4, h⟩ := rdI_e h
      refine V.ialdX (pc := 41) dX12_isTurn_41 lx_63 ly_63 ix4 ex4 ?_
      obtain ⟨x5, ex5, h⟩ := bnd_e h
      refine U.callV (pc := 42) (As := [.int x2, .int x4]) (st := []) dX12_isTurn_42 l_RX12_119 (ok_X12_product0 (by omega) x2 x4 ex5) lx_44 ly_44 cn_12 (Nat.le_of_ble_eq_true rfl) rfl rfl (Nat.le_of_ble_eq_true rfl) ?_
      refine V.istore_n (lv' := [some (.ref 44), some (.int l1), some (.int l2), some (.int x5)]) (pc := 45) dX12_isTurn_45 (Nat.le_of_ble_eq_true rfl) rfl rfl ?_
      refine V.iload_n (pc := 46) dX12_isTurn_46 rfl ?_
      refine V.iload_n (pc := 47) dX12_isTurn_47 rfl ?_
      refine U.callS (pc := 48) (As := [.int l1, .int x5]) (st := []) dX12_isTurn_48 l_RX12_128 (ok_X12_has (by omega) l1 x5 ) (Nat.le_of_ble_eq_true rfl) rfl rfl (Nat.le_of_ble_eq_true rfl) ?_
      rcases ite_e h with ⟨c, h⟩ | ⟨c, h⟩
      · refine V.if_eq_t (t := 56) (pc := 51) dX12_isTurn_51 (by decide) c ?_
        refine V.iload_n (pc := 56) dX12_isTurn_56 rfl ?_
        refine V.iconst (pc := 57) dX12_isTurn_57 ic_1 ?_
        refine V.iload_n (pc := 58) dX12_isTurn_58 rfl ?_
        refine V.ishl (pc := 59) dX12_isTurn_59 ?_
        refine V.ior (pc := 60) dX12_isTurn_60 ?_
        refine V.istore_n (lv' := [some (.ref 44), some (.int (l1 ||| (1 <<< (x5 &&& 31)))), some (.int l2), some (.int x5)]) (pc := 61) dX12_isTurn_61 (Nat.le_of_ble_eq_true rfl) rfl rfl ?_
        refine V.aload_n (pc := 62) dX12_isTurn_62 rfl ?_
        refine V.getR (t := 62) (pc := 63) dX12_isTurn_63 f_RX12_66 k_cl12 lx_44 ly_44 rb_12_23 rr_44_23 ?_
        refine V.aload_n (pc := 66) dX12_isTurn_66 rfl ?_
        refine V.getR (t := 51) (pc := 67) dX12_isTurn_67 f_RX12_33 k_cl12 lx_44 ly_44 rb_12_10 rr_44_10 ?_
        refine V.iload_n (pc := 70) dX12_isTurn_70 rfl ?_
        obtain ⟨x6, ix6, ex6, h⟩ := rdI_e h
        refine V.ialdX (pc := 71) dX12_isTurn_71 lx_51 ly_51 ix6 ex6 ?_
        refine V.iload_n (pc := 72) dX12_isTurn_72 rfl ?_
        obtain ⟨w7, iw7, ew7, h⟩ := wrI_e h
        refine V.iastX (pc := 73) dX12_isTurn_73 lx_62 ly_62 iw7 ew7 ?_
        refine V.iinc (lv' := [some (.ref 44), some (.int (l1 ||| (1 <<< (x5 &&& 31)))), some (.int (l2 + 1)), some (.int x5)]) (pc := 74) dX12_isTurn_74 (Nat.le_of_ble_eq_true rfl) rfl rfl (v := (l2 + 1)) (by rw [show Int32.ofInt 1 = 1 from by decide]) rfl ?_
        refine V.goto (t := 11) (pc := 77) dX12_isTurn_77 (by decide) ?_
        refine V.weak (lv' := [some (.ref 44), some (.int (l1 ||| (1 <<< (x5 &&& 31)))), some (.int (l2 + 1)), none]) (And.intro rfl (And.intro rfl (And.intro rfl trivial))) ?_
        exact h11 (l1 ||| (1 <<< (x5 &&& 31))) (l2 + 1) w7 _ _ h
      · refine V.if_eq_f (t := 56) (pc := 51) dX12_isTurn_51 (by decide) c ?_
        refine V.iconst (pc := 54) dX12_isTurn_54 ic_0 ?_
        obtain ⟨rfl, rfl⟩ := Prod.mk.inj (Option.some.inj h)
        exact V.zret (pc := 55) dX12_isTurn_55 rfl (Or.inl rfl) (Nat.le_refl _) (Nat.le_refl _)
def f_X12_isTurn (w : Wd) : Option (Int32 × Wd) :=
  wrI w 62 16 0 0 fun w1 =>
  f_X12_isTurn_L11  FU 1 1 w1
set_option maxHeartbeats 4000000 in
set_option maxRecDepth 100000 in
theorem ok_X12_isTurn {G : GT} {d : Nat} (hd : 1 ≤ d) {w : Wd}  {r : Int32} {w' : Wd} (h : f_X12_isTurn  w = some (r, w')) : uC G yX12_isTurn mX12_isTurn d [.ref 44] w (some (.int r)) w' := by
  obtain ⟨d, rfl⟩ : ∃ e, d = e + 1 := ⟨d - 1, by omega⟩
  unfold f_X12_isTurn at h
  refine uC_of (lv := [some (.ref 44), none, none, none]) 3 pn_X12 ⟨rfl, rfl⟩ (Nat.le_of_ble_eq_true rfl) rfl ?_
  refine V.aload_n (pc := 0) dX12_isTurn_0 rfl ?_
  refine V.getR (t := 62) (pc := 1) dX12_isTurn_1 f_RX12_66 k_cl12 lx_44 ly_44 rb_12_23 rr_44_23 ?_
  refine V.iconst (pc := 4) dX12_isTurn_4 ic_0 ?_
  refine V.iconst (pc := 5) dX12_isTurn_5 ic_0 ?_
  obtain ⟨w1, iw1, ew1, h⟩ := wrI_e h
  refine V.iastX (pc := 6) dX12_isTurn_6 lx_62 ly_62 iw1 ew1 ?_
  refine V.iconst (pc := 7) dX12_isTurn_7 ic_1 ?_
  refine V.istore_n (lv' := [some (.ref 44), some (.int 1), none, none]) (pc := 8) dX12_isTurn_8 (Nat.le_of_ble_eq_true rfl) rfl rfl ?_
  refine V.iconst (pc := 9) dX12_isTurn_9 ic_1 ?_
  refine V.istore_n (lv' := [some (.ref 44), some (.int 1), some (.int 1), none]) (pc := 10) dX12_isTurn_10 (Nat.le_of_ble_eq_true rfl) rfl rfl ?_
  exact t_X12_isTurn_L11 hd FU 1 1 w1 _ _ h
theorem dX12_isNext_0 : decode cX12_isNext 0 = .ok (.aload_n 0, 1) := by decide +kernel
theorem dX12_isNext_1 : decode cX12_isNext 1 = .ok (.getfield 125, 3) := by decide +kernel
theorem dX12_isNext_4 : decode cX12_isNext 4 = .ok (.iconst 1, 1) := by decide +kernel
theorem dX12_isNext_5 : decode cX12_isNext 5 = .ok (.isub, 1) := by decide +kernel
theorem dX12_isNext_6 : decode cX12_isNext 6 = .ok (.istore_n 2, 1) := by decide +kernel
theorem dX12_isNext_7 : decode cX12_isNext 7 = .ok (.iload_n 2, 1) := by decide +kernel
theorem dX12_isNext_8 : decode cX12_isNext 8 = .ok (.ifCond .lt 28, 3) := by decide +kernel
theorem dX12_isNext_11 : decode cX12_isNext 11 = .ok (.aload_n 0, 1) := by decide +kernel
theorem dX12_isNext_12 : decode cX12_isNext 12 = .ok (.getfield 69, 3) := by decide +kernel
theorem dX12_isNext_15 : decode cX12_isNext 15 = .ok (.iload_n 2, 1) := by decide +kernel
theorem dX12_isNext_16 : decode cX12_isNext 16 = .ok (.iaload, 1) := by decide +kernel
theorem dX12_isNext_17 : decode cX12_isNext 17 = .ok (.iload_n 1, 1) := by decide +kernel
theorem dX12_isNext_18 : decode cX12_isNext 18 = .ok (.iconst 1, 1) := by decide +kernel
theorem dX12_isNext_19 : decode cX12_isNext 19 = .ok (.isub, 1) := by decide +kernel
theorem dX12_isNext_20 : decode cX12_isNext 20 = .ok (.if_icmp .ne 16, 3) := by decide +kernel
theorem dX12_isNext_23 : decode cX12_isNext 23 = .ok (.aload_n 0, 1) := by decide +kernel
theorem dX12_isNext_24 : decode cX12_isNext 24 = .ok (.getfield 69, 3) := by decide +kernel
theorem dX12_isNext_27 : decode cX12_isNext 27 = .ok (.iload_n 2, 1) := by decide +kernel
theorem dX12_isNext_28 : decode cX12_isNext 28 = .ok (.iconst 0, 1) := by decide +kernel
theorem dX12_isNext_29 : decode cX12_isNext 29 = .ok (.iastore, 1) := by decide +kernel
theorem dX12_isNext_30 : decode cX12_isNext 30 = .ok (.iinc 2 (-1), 3) := by decide +kernel
theorem dX12_isNext_33 : decode cX12_isNext 33 = .ok (.goto (-26), 3) := by decide +kernel
theorem dX12_isNext_36 : decode cX12_isNext 36 = .ok (.iload_n 2, 1) := by decide +kernel
theorem dX12_isNext_37 : decode cX12_isNext 37 = .ok (.ifCond .lt 13, 3) := by decide +kernel
theorem dX12_isNext_40 : decode cX12_isNext 40 = .ok (.aload_n 0, 1) := by decide +kernel
theorem dX12_isNext_41 : decode cX12_isNext 41 = .ok (.getfield 69, 3) := by decide +kernel
theorem dX12_isNext_44 : decode cX12_isNext 44 = .ok (.iload_n 2, 1) := by decide +kernel
theorem dX12_isNext_45 : decode cX12_isNext 45 = .ok (.dup2, 1) := by decide +kernel
theorem dX12_isNext_46 : decode cX12_isNext 46 = .ok (.iaload, 1) := by decide +kernel
theorem dX12_isNext_47 : decode cX12_isNext 47 = .ok (.iconst 1, 1) := by decide +kernel
theorem dX12_isNext_48 : decode cX12_isNext 48 = .ok (.iadd, 1) := by decide +kernel
theorem dX12_isNext_49 : decode cX12_isNext 49 = .ok (.iastore, 1) := by decide +kernel
theorem dX12_isNext_50 : decode cX12_isNext 50 = .ok (.iload_n 2, 1) := by decide +kernel
theorem dX12_isNext_51 : decode cX12_isNext 51 = .ok (.ifCond .lt 7, 3) := by decide +kernel
theorem dX12_isNext_54 : decode cX12_isNext 54 = .ok (.iconst 1, 1) := by decide +kernel
theorem dX12_isNext_55 : decode cX12_isNext 55 = .ok (.goto 4, 3) := by decide +kernel
theorem dX12_isNext_58 : decode cX12_isNext 58 = .ok (.iconst 0, 1) := by decide +kernel
theorem dX12_isNext_59 : decode cX12_isNext 59 = .ok (.ireturn, 1) := by decide +kernel
def f_X12_isNext_J36 (l2 : Int32) (w : Wd) : Option (Int32 × Wd) :=
  if l2 < 0 then
    if l2 < 0 then
      some (0, w)
    else
      some (1, w)
  else
    rdI w 63 16 l2 fun x1 =>
    wrI w 63 16 l2 (x1 + 1) fun w2 =>
    if l2 < 0 then
      some (0, w2)
    else
      some (1, w2)
set_option maxHeartbeats 4000000 in
set_option maxRecDepth 100000 in
theorem t_X12_isNext_J36 {G : GT} {d : Nat} (hd : 0 ≤ d)  : ∀ (l2 : Int32) (w : Wd) (r : Int32) (w' : Wd), f_X12_isNext_J36 l2 w = some (r, w') → U (vf G mX12_isNext d) 36 [some (.ref 44), none, some (.int l2)] [] w (some (.int r), 70, r0, w') := by
  intro l2 w r w' h
  unfold f_X12_isNext_J36 at h
  refine V.iload_n (pc := 36) dX12_isNext_36 rfl ?_
  rcases ite_e h with ⟨c, h⟩ | ⟨c, h⟩
  · refine V.if_lt_t (t := 50) (pc := 37) dX12_isNext_37 (by decide) c ?_
    refine V.iload_n (pc := 50) dX12_isNext_50 rfl ?_
    rcases ite_e h with ⟨c, h⟩ | ⟨c, h⟩
    · refine V.if_lt_t (t := 58) (pc := 51) dX12_isNext_51 (by decide) c ?_
      refine V.iconst (pc := 58) dX12_isNext_58 ic_0 ?_
      obtain ⟨rfl, rfl⟩ := Prod.mk.inj (Option.some.inj h)
      exact V.zret (pc := 59) dX12_isNext_59 rfl (Or.inl rfl) (Nat.le_refl _) (Nat.le_refl _)
    · refine V.if_lt_f (t := 58) (pc := 51) dX12_isNext_51 (by decide) c ?_
      refine V.iconst (pc := 54) dX12_isNext_54 ic_1 ?_
      refine V.goto (t := 59) (pc := 55) dX12_isNext_55 (by decide) ?_
      obtain ⟨rfl, rfl⟩ := Prod.mk.inj (Option.some.inj h)
      exact V.zret (pc := 59) dX12_isNext_59 rfl (Or.inr rfl) (Nat.le_refl _) (Nat.le_refl _)
  · refine V.if_lt_f (t := 50) (pc := 37) dX12_isNext_37 (by decide) c ?_
    refine V.aload_n (pc := 40) dX12_isNext_40 rfl ?_
    refine V.getR (t := 63) (pc := 41) dX12_isNext_41 f_RX12_69 k_cl12 lx_44 ly_44 rb_12_24 rr_44_24 ?_
    refine V.iload_n (pc := 44) dX12_isNext_44 rfl ?_
    refine V.dup2 (pc := 45) dX12_isNext_45 rfl rfl ?_
    obtain ⟨x1, ix1, ex1, h⟩ := rdI_e h
    refine V.ialdX (pc := 46) dX12_isNext_46 lx_63 ly_63 ix1 ex1 ?_
    refine V.iconst (pc := 47) dX12_isNext_47 ic_1 ?_
    refine V.iadd (pc := 48) dX12_isNext_48 ?_
    obtain ⟨w2, iw2, ew2, h⟩ := wrI_e h
    refine V.iastX (pc := 49) dX12_isNext_49 lx_63 ly_63 iw2 ew2 ?_
    refine V.iload_n (pc := 50) dX12_isNext_50 rfl ?_
    rcases ite_e h with ⟨c, h⟩ | ⟨c, h⟩
    · refine V.if_lt_t (t := 58) (pc := 51) dX12_isNext_51 (by decide) c ?_
      refine V.iconst (pc := 58) dX12_isNext_58 ic_0 ?_
      obtain ⟨rfl, rfl⟩ := Prod.mk.inj (Option.some.inj h)
      exact V.zret (pc := 59) dX12_isNext_59 rfl (Or.inl rfl) (Nat.le_refl _) (Nat.le_refl _)
    · refine V.if_lt_f (t := 58) (pc := 51) dX12_isNext_51 (by decide) c ?_
      refine V.iconst (pc := 54) dX12_isNext_54 ic_1 ?_
      refine V.goto (t := 59) (pc := 55) dX12_isNext_55 (by decide) ?_
      obtain ⟨rfl, rfl⟩ := Prod.mk.inj (Option.some.inj h)
      exact V.zret (pc := 59) dX12_isNext_59 rfl (Or.inr rfl) (Nat.le_refl _) (Nat.le_refl _)
def f_X12_isNext_B7b (k7 : Int32 → Int32 → Wd → Option (Int32 × Wd)) (l1 : Int32) (l2 : Int32) (w : Wd) : Option (Int32 × Wd) :=
  if l2 < 0 then
    f_X12_isNext_J36  l2 w
  else
    rdI w 63 16 l2 fun x1 =>
    if x1 = (l1 - 1) then
      wrI w 63 16 l2 0 fun w2 =>
      k7 l1 (l2 + (-1)) w2
    else
      f_X12_isNext_J36  l2 w
def f_X12_isNext_L7 (n : Nat) : Int32 → Int32 → Wd → Option (Int32 × Wd) :=
  Nat.rec (fun _ _ _ => none) (fun _ k => f_X12_isNext_B7b k) n
set_option maxHeartbeats 4000000 in
set_option maxRecDepth 100000 in
theorem t_X12_isNext_L7 {G : GT} {d : Nat} (hd : 0 ≤ d)  : ∀ (n : Nat) (l1 : Int32) (l2 : Int32) (w : Wd) (r : Int32) (w' : Wd), f_X12_isNext_L7 n l1 l2 w = some (r, w') → U (vf G mX12_isNext d) 7 [some (.ref 44), some (.int l1), some (.int l2)] [] w (some (.int r), 70, r0, w') := by
  intro n
  induction n with
  | zero => intro l1 l2 w r w' h; cases h
  | succ n h7 =>
    intro l1 l2 w r w' h
    have h : f_X12_isNext_B7b (f_X12_isNext_L7 n) l1 l2 w = some (r, w') := h
    unfold f_X12_isNext_B7b at h
    refine V.iload_n (pc := 7) dX12_isNext_7 rfl ?_
    rcases ite_e h with ⟨c, h⟩ | ⟨c, h⟩
    · refine V.if_lt_t (t := 36) (pc := 8) dX12_isNext_8 (by decide) c ?_
      refine V.weak (lv' := [some (.ref 44), none, some (.int l2)]) (And.intro rfl (And.intro rfl trivial)) ?_
      exact t_X12_isNext_J36 hd l2 w _ _ h
    · refine V.if_lt_f (t := 36) (pc := 8) dX12_isNext_8 (by decide) c ?_
      refine V.aload_n (pc := 11) dX12_isNext_11 rfl ?_
      refine V.getR (t := 63) (pc := 12) dX12_isNext_12 f_RX12_69 k_cl12 lx_44 ly_44 rb_12_24 rr_44_24 ?_
      refine V.iload_n (pc := 15) dX12_isNext_15 rfl ?_
      obtain ⟨x1, ix1, ex1, h⟩ := rdI_e h
      refine V.ialdX (pc := 16) dX12_isNext_16 lx_63 ly_63 ix1 ex1 ?_
      refine V.iload_n (pc := 17) dX12_isNext_17 rfl ?_
      refine V.iconst (pc := 18) dX12_isNext_18 ic_1 ?_
      refine V.isub (pc := 19) dX12_isNext_19 ?_
      rcases ite_e h with ⟨c, h⟩ | ⟨c, h⟩
      · refine V.icmp_ne_f (t := 36) (pc := 20) dX12_isNext_20 (by decide) c ?_
        refine V.aload_n (pc := 23) dX12_isNext_23 rfl ?_
        refine V.getR (t := 63) (pc := 24) dX12_isNext_24 f_RX12_69 k_cl12 lx_44 ly_44 rb_12_24 rr_44_24 ?_
        refine V.iload_n (pc := 27) dX12_isNext_27 rfl ?_
        refine V.iconst (pc := 28) dX12_isNext_28 ic_0 ?_
        obtain ⟨w2, iw2, ew2, h⟩ := wrI_e h
        refine V.iastX (pc := 29) dX12_isNext_29 lx_63 ly_63 iw2 ew2 ?_
        refine V.iinc (lv' := [some (.ref 44), some (.int l1), some (.int (l2 + (-1)))]) (pc := 30) dX12_isNext_30 (Nat.le_of_ble_eq_true rfl) rfl rfl (v := (l2 + (-1))) (by rw [show Int32.ofInt (-1) = (-1) from by decide]) rfl ?_
        refine V.goto (t := 7) (pc := 33) dX12_isNext_33 (by decide) ?_
        exact h7 l1 (l2 + (-1)) w2 _ _ h
      · refine V.icmp_ne_t (t := 36) (pc := 20) dX12_isNext_20 (by decide) c ?_
        refine V.weak (lv' := [some (.ref 44), none, some (.int l2)]) (And.intro rfl (And.intro rfl trivial)) ?_
        exact t_X12_isNext_J36 hd l2 w _ _ h
def f_X12_isNext (l1 : Int32) (w : Wd) : Option (Int32 × Wd) :=
  f_X12_isNext_L7  FU l1 ((w.1 44 9) - 1) w
set_option maxHeartbeats 4000000 in
set_option maxRecDepth 100000 in
theorem ok_X12_isNext {G : GT} {d : Nat} (hd : 0 ≤ d) {w : Wd} (l1 : Int32) {r : Int32} {w' : Wd} (h : f_X12_isNext l1 w = some (r, w')) : uC G yX12_isNext mX12_isNext d [.ref 44, .int l1] w (some (.int r)) w' := by
  unfold f_X12_isNext at h
  refine uC_of (lv := [some (.ref 44), some (.int l1), none]) 1 pn_X12 ⟨rfl, rfl⟩ (Nat.le_of_ble_eq_true rfl) rfl ?_
  refine V.aload_n (pc := 0) dX12_isNext_0 rfl ?_
  refine V.getI (pc := 1) dX12_isNext_1 f_RX12_125 k_cl12 lx_44 ly_44 rb_12_9 ?_
  refine V.iconst (pc := 4) dX12_isNext_4 ic_1 ?_
  refine V.isub (pc := 5) dX12_isNext_5 ?_
  refine V.istore_n (lv' := [some (.ref 44), some (.int l1), some (.int ((w.1 44 9) - 1))]) (pc := 6) dX12_isNext_6 (Nat.le_of_ble_eq_true rfl) rfl rfl ?_
  exact t_X12_isNext_L7 hd FU l1 ((w.1 44 9) - 1) w _ _ h
