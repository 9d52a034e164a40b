theorem dX12_middleOf_0 : decode cX12_middleOf 0 = .ok (.iconst 0, 1) := by decide +kernel
theorem dX12_middleOf_1 : decode cX12_middleOf 1 = .ok (.istore_n 1, 1) := by decide +kernel
theorem dX12_middleOf_2 : decode cX12_middleOf 2 = .ok (.iconst 0, 1) := by decide +kernel
theorem dX12_middleOf_3 : decode cX12_middleOf 3 = .ok (.istore_n 2, 1) := by decide +kernel
theorem dX12_middleOf_4 : decode cX12_middleOf 4 = .ok (.iload_n 2, 1) := by decide +kernel
theorem dX12_middleOf_5 : decode cX12_middleOf 5 = .ok (.iload_n 0, 1) := by decide +kernel
theorem dX12_middleOf_6 : decode cX12_middleOf 6 = .ok (.if_icmp .ge 31, 3) := by decide +kernel
theorem dX12_middleOf_9 : decode cX12_middleOf 9 = .ok (.iconst 3, 1) := by decide +kernel
theorem dX12_middleOf_10 : decode cX12_middleOf 10 = .ok (.iload_n 2, 1) := by decide +kernel
theorem dX12_middleOf_11 : decode cX12_middleOf 11 = .ok (.imul, 1) := by decide +kernel
theorem dX12_middleOf_12 : decode cX12_middleOf 12 = .ok (.iload_n 0, 1) := by decide +kernel
theorem dX12_middleOf_13 : decode cX12_middleOf 13 = .ok (.if_icmp .le 18, 3) := by decide +kernel
theorem dX12_middleOf_16 : decode cX12_middleOf 16 = .ok (.iconst 3, 1) := by decide +kernel
theorem dX12_middleOf_17 : decode cX12_middleOf 17 = .ok (.iload_n 2, 1) := by decide +kernel
theorem dX12_middleOf_18 : decode cX12_middleOf 18 = .ok (.imul, 1) := by decide +kernel
theorem dX12_middleOf_19 : decode cX12_middleOf 19 = .ok (.iconst 2, 1) := by decide +kernel
theorem dX12_middleOf_20 : decode cX12_middleOf 20 = .ok (.iload_n 0, 1) := by decide +kernel
theorem dX12_middleOf_21 : decode cX12_middleOf 21 = .ok (.imul, 1) := by decide +kernel
theorem dX12_middleOf_22 : decode cX12_middleOf 22 = .ok (.if_icmp .gt 9, 3) := by decide +kernel
theorem dX12_middleOf_25 : decode cX12_middleOf 25 = .ok (.iload_n 1, 1) := by decide +kernel
theorem dX12_middleOf_26 : decode cX12_middleOf 26 = .ok (.iconst 1, 1) := by decide +kernel
theorem dX12_middleOf_27 : decode cX12_middleOf 27 = .ok (.iload_n 2, 1) := by decide +kernel
theorem dX12_middleOf_28 : decode cX12_middleOf 28 = .ok (.ishl, 1) := by decide +kernel
theorem dX12_middleOf_29 : decode cX12_middleOf 29 = .ok (.ior, 1) := by decide +kernel
theorem dX12_middleOf_30 : decode cX12_middleOf 30 = .ok (.istore_n 1, 1) := by decide +kernel
theorem dX12_middleOf_31 : decode cX12_middleOf 31 = .ok (.iinc 2 1, 3) := by decide +kernel
theorem dX12_middleOf_34 : decode cX12_middleOf 34 = .ok (.goto (-30), 3) := by decide +kernel
theorem dX12_middleOf_37 : decode cX12_middleOf 37 = .ok (.iload_n 1, 1) := by decide +kernel
theorem dX12_middleOf_38 : decode cX12_middleOf 38 = .ok (.ireturn, 1) := by decide +kernel
def f_X12_middleOf_B4b (k4 : Int32 → Int32 → Int32 → Option Int32) (l0 : Int32) (l1 : Int32) (l2 : Int32) : Option Int32 :=
  if l0 ≤ l2 then
    some l1
  else
    if (3 * l2) ≤ l0 then
      k4 l0 l1 (l2 + 1)
    else
      if (2 * l0) < (3 * l2) then
        k4 l0 l1 (l2 + 1)
      else
        k4 l0 (l1 ||| (1 <<< (l2 &&& 31))) (l2 + 1)
def f_X12_middleOf_L4 (n : Nat) : Int32 → Int32 → Int32 → Option Int32 :=
  Nat.rec (fun _ _ _ => none) (fun _ k => f_X12_middleOf_B4b k) n
set_option maxHeartbeats 4000000 in
set_option maxRecDepth 100000 in
theorem t_X12_middleOf_L4 {G : GT} {d : Nat} {w : Wd} (hd : 0 ≤ d)  : ∀ (n : Nat) (l0 : Int32) (l1 : Int32) (l2 : Int32) (r : Int32), f_X12_middleOf_L4 n l0 l1 l2 = some r → U (vf G mX12_middleOf d) 4 [some (.int l0), some (.int l1), some (.int l2)] [] w (some (.int r), 70, r0, w) := by
  intro n
  induction n with
  | zero => intro l0 l1 l2 r h; cases h
  | succ n h4 =>
    intro l0 l1 l2 r h
    have h : f_X12_middleOf_B4b (f_X12_middleOf_L4 n) l0 l1 l2 = some r := h
    unfold f_X12_middleOf_B4b at h
    refine V.iload_n (pc := 4) dX12_middleOf_4 rfl ?_
    refine V.iload_n (pc := 5) dX12_middleOf_5 rfl ?_
    rcases ite_e h with ⟨c, h⟩ | ⟨c, h⟩
    · refine V.icmp_ge_t (t := 37) (pc := 6) dX12_middleOf_6 (by decide) c ?_
      refine V.iload_n (pc := 37) dX12_middleOf_37 rfl ?_
      obtain rfl := Option.some.inj h
      exact V.iret (pc := 38) dX12_middleOf_38 rfl (Nat.le_refl _) (Nat.le_refl _)
    · refine V.icmp_ge_f (t := 37) (pc := 6) dX12_middleOf_6 (by decide) c ?_
      refine V.iconst (pc := 9) dX12_middleOf_9 ic_3 ?_
      refine V.iload_n (pc := 10) dX12_middleOf_10 rfl ?_
      refine V.imul (pc := 11) dX12_middleOf_11 ?_
      refine V.iload_n (pc := 12) dX12_middleOf_12 rfl ?_
      rcases ite_e h with ⟨c, h⟩ | ⟨c, h⟩
      · refine V.icmp_le_t (t := 31) (pc := 13) dX12_middleOf_13 (by decide) c ?_
        refine V.iinc (lv' := [some (.int l0), some (.int l1), some (.int (l2 + 1))]) (pc := 31) dX12_middleOf_31 (Nat.le_of_ble_eq_true rfl) rfl rfl (v := (l2 + 1)) (by rw [show Int32.ofInt 1 = 1 from by decide]) rfl ?_
        refine V.goto (t := 4) (pc := 34) dX12_middleOf_34 (by decide) ?_
        exact h4 l0 l1 (l2 + 1) _ h
      · refine V.icmp_le_f (t := 31) (pc := 13) dX12_middleOf_13 (by decide) c ?_
        refine V.iconst (pc := 16) dX12_middleOf_16 ic_3 ?_
        refine V.iload_n (pc := 17) dX12_middleOf_17 rfl ?_
        refine V.imul (pc := 18) dX12_middleOf_18 ?_
        refine V.iconst (pc := 19) dX12_middleOf_19 ic_2 ?_
        refine V.iload_n (pc := 20) dX12_middleOf_20 rfl ?_
        refine V.imul (pc := 21) dX12_middleOf_21 ?_
        rcases ite_e h with ⟨c, h⟩ | ⟨c, h⟩
        · refine V.icmp_gt_t (t := 31) (pc := 22) dX12_middleOf_22 (by decide) c ?_
          refine V.iinc (lv' := [some (.int l0), some (.int l1), some (.int (l2 + 1))]) (pc := 31) dX12_middleOf_31 (Nat.le_of_ble_eq_true rfl) rfl rfl (v := (l2 + 1)) (by rw [show Int32.ofInt 1 = 1 from by decide]) rfl ?_
          refine V.goto (t := 4) (pc := 34) dX12_middleOf_34 (by decide) ?_
          exact h4 l0 l1 (l2 + 1) _ h
        · refine V.icmp_gt_f (t := 31) (pc := 22) dX12_middleOf_22 (by decide) c ?_
          refine V.iload_n (pc := 25) dX12_middleOf_25 rfl ?_
          refine V.iconst (pc := 26) dX12_middleOf_26 ic_1 ?_
          refine V.iload_n (pc := 27) dX12_middleOf_27 rfl ?_
          refine V.ishl (pc := 28) dX12_middleOf_28 ?_
          refine V.ior (pc := 29) dX12_middleOf_29 ?_
          refine V.istore_n (lv' := [some (.int l0), some (.int (l1 ||| (1 <<< (l2 &&& 31)))), some (.int l2)]) (pc := 30) dX12_middleOf_30 (Nat.le_of_ble_eq_true rfl) rfl rfl ?_
          refine V.iinc (lv' := [some (.int l0), some (.int (l1 ||| (1 <<< (l2 &&& 31)))), some (.int (l2 + 1))]) (pc := 31) dX12_middleOf_31 (Nat.le_of_ble_eq_true rfl) rfl rfl (v := (l2 + 1)) (by rw [show Int32.ofInt 1 = 1 from by decide]) rfl ?_
          refine V.goto (t := 4) (pc := 34) dX12_middleOf_34 (by decide) ?_
          exact h4 l0 (l1 ||| (1 <<< (l2 &&& 31))) (l2 + 1) _ h
def f_X12_middleOf (l0 : Int32) : Option Int32 :=
  f_X12_middleOf_L4  FU l0 0 0
set_option maxHeartbeats 4000000 in
set_option maxRecDepth 100000 in
theorem ok_X12_middleOf {G : GT} {d : Nat} (hd : 0 ≤ d) {w : Wd} (l0 : Int32) {r : Int32} (h : f_X12_middleOf l0 = some r) : uC G yX12_middleOf mX12_middleOf d [.int l0] w (some (.int r)) w := by
  unfold f_X12_middleOf at h
  refine uC_of (lv := [some (.int l0), none, none]) 2 pn_X12 ⟨rfl, rfl⟩ (Nat.le_of_ble_eq_true rfl) rfl ?_
  refine V.iconst (pc := 0) dX12_middleOf_0 ic_0 ?_
  refine V.istore_n (lv' := [some (.int l0), some (.int 0), none]) (pc := 1) dX12_middleOf_1 (Nat.le_of_ble_eq_true rfl) rfl rfl ?_
  refine V.iconst (pc := 2) dX12_middleOf_2 ic_0 ?_
  refine V.istore_n (lv' := [some (.int l0), some (.int 0), some (.int 0)]) (pc := 3) dX12_middleOf_3 (Nat.le_of_ble_eq_true rfl) rfl rfl ?_
  exact t_X12_middleOf_L4 hd FU l0 0 0 _ h
theorem dX12_middle_0 : decode cX12_middle 0 = .ok (.iload_n 1, 1) := by decide +kernel
theorem dX12_middle_1 : decode cX12_middle 1 = .ok (.invokestatic 246, 3) := by decide +kernel
theorem dX12_middle_4 : decode cX12_middle 4 = .ok (.ifCond .eq 10, 3) := by decide +kernel
theorem dX12_middle_7 : decode cX12_middle 7 = .ok (.iload_n 1, 1) := by decide +kernel
theorem dX12_middle_8 : decode cX12_middle 8 = .ok (.invokestatic 255, 3) := by decide +kernel
theorem dX12_middle_11 : decode cX12_middle 11 = .ok (.goto 4, 3) := by decide +kernel
theorem dX12_middle_14 : decode cX12_middle 14 = .ok (.iconst (-1), 1) := by decide +kernel
theorem dX12_middle_15 : decode cX12_middle 15 = .ok (.ireturn, 1) := by decide +kernel
def f_X12_middle (l1 : Int32) : Option Int32 :=
  if (f_X12_isRing l1) = 0 then
    some (-1)
  else
    bnd (f_X12_middleOf l1) fun x1 =>
    some x1
set_option maxHeartbeats 4000000 in
set_option maxRecDepth 100000 in
theorem ok_X12_middle {G : GT} {d : Nat} (hd : 2 ≤ d) {w : Wd} (l1 : Int32) {r : Int32} (h : f_X12_middle l1 = some r) : uC G yX12_middle mX12_middle d [.ref 44, .int l1] w (some (.int r)) w := by
  obtain ⟨d, rfl⟩ : ∃ e, d = e + 1 := ⟨d - 1, by omega⟩
  unfold f_X12_middle at h
  refine uC_of (lv := [some (.ref 44), some (.int l1)]) 0 pn_X12 ⟨rfl, rfl⟩ (Nat.le_of_ble_eq_true rfl) rfl ?_
  refine V.iload_n (pc := 0) dX12_middle_0 rfl ?_
  refine U.callS (pc := 1) (As := [.int l1]) (st := []) dX12_middle_1 l_RX12_246 (ok_X12_isRing (by omega) l1 ) (Nat.le_of_ble_eq_true rfl) rfl rfl (Nat.le_of_ble_eq_true rfl) ?_
  rcases ite_e h with ⟨c, h⟩ | ⟨c, h⟩
  · refine V.if_eq_t (t := 14) (pc := 4) dX12_middle_4 (by decide) c ?_
    refine V.iconst (pc := 14) dX12_middle_14 ic_m1 ?_
    obtain rfl := Option.some.inj h
    exact V.iret (pc := 15) dX12_middle_15 rfl (Nat.le_refl _) (Nat.le_refl _)
  · refine V.if_eq_f (t := 14) (pc := 4) dX12_middle_4 (by decide) c ?_
    refine V.iload_n (pc := 7) dX12_middle_7 rfl ?_
    obtain ⟨x1, ex1, h⟩ := bnd_e h
    refine U.callS (pc := 8) (As := [.int l1]) (st := []) dX12_middle_8 l_RX12_255 (ok_X12_middleOf (by omega) l1 ex1) (Nat.le_of_ble_eq_true rfl) rfl rfl (Nat.le_of_ble_eq_true rfl) ?_
    refine V.goto (t := 15) (pc := 11) dX12_middle_11 (by decide) ?_
    obtain rfl := Option.some.inj h
    exact V.iret (pc := 15) dX12_middle_15 rfl (Nat.le_refl _) (Nat.le_refl _)
theorem dX11_lifted_0 : decode cX11_lifted 0 = .ok (.iload_n 1, 1) := by decide +kernel
theorem dX11_lifted_1 : decode cX11_lifted 1 = .ok (.invokestatic 259, 3) := by decide +kernel
theorem dX11_lifted_4 : decode cX11_lifted 4 = .ok (.ifCond .ne 5, 3) := by decide +kernel
theorem dX11_lifted_7 : decode cX11_lifted 7 = .ok (.iconst (-1), 1) := by decide +kernel
theorem dX11_lifted_8 : decode cX11_lifted 8 = .ok (.ireturn, 1) := by decide +kernel
theorem dX11_lifted_9 : decode cX11_lifted 9 = .ok (.iconst 0, 1) := by decide +kernel
theorem dX11_lifted_10 : decode cX11_lifted 10 = .ok (.istore_n 2, 1) := by decide +kernel
theorem dX11_lifted_11 : decode cX11_lifted 11 = .ok (.aload_n 0, 1) := by decide +kernel
theorem dX11_lifted_12 : decode cX11_lifted 12 = .ok (.getfield 67, 3) := by decide +kernel
theorem dX11_lifted_15 : decode cX11_lifted 15 = .ok (.iload_n 1, 1) := by decide +kernel
theorem dX11_lifted_16 : decode cX11_lifted 16 = .ok (.invokevirtual 262, 3) := by decide +kernel
theorem dX11_lifted_19 : decode cX11_lifted 19 = .ok (.istore_n 3, 1) := by decide +kernel
theorem dX11_lifted_20 : decode cX11_lifted 20 = .ok (.iconst 0, 1) := by decide +kernel
theorem dX11_lifted_21 : decode cX11_lifted 21 = .ok (.istore 4, 2) := by decide +kernel
theorem dX11_lifted_23 : decode cX11_lifted 23 = .ok (.iload 4, 2) := by decide +kernel
theorem dX11_lifted_25 : decode cX11_lifted 25 = .ok (.iload_n 3, 1) := by decide +kernel
theorem dX11_lifted_26 : decode cX11_lifted 26 = .ok (.if_icmp .ge 30, 3) := by decide +kernel
theorem dX11_lifted_29 : decode cX11_lifted 29 = .ok (.iload_n 2, 1) := by decide +kernel
theorem dX11_lifted_30 : decode cX11_lifted 30 = .ok (.aload_n 0, 1) := by decide +kernel
theorem dX11_lifted_31 : decode cX11_lifted 31 = .ok (.getfield 67, 3) := by decide +kernel
theorem dX11_lifted_34 : decode cX11_lifted 34 = .ok (.iload 4, 2) := by decide +kernel
theorem dX11_lifted_36 : decode cX11_lifted 36 = .ok (.iload_n 1, 1) := by decide +kernel
theorem dX11_lifted_37 : decode cX11_lifted 37 = .ok (.invokestatic 271, 3) := by decide +kernel
theorem dX11_lifted_40 : decode cX11_lifted 40 = .ok (.invokevirtual 268, 3) := by decide +kernel
theorem dX11_lifted_43 : decode cX11_lifted 43 = .ok (.invokestatic 127, 3) := by decide +kernel
theorem dX11_lifted_46 : decode cX11_lifted 46 = .ok (.invokestatic 220, 3) := by decide +kernel
theorem dX11_lifted_49 : decode cX11_lifted 49 = .ok (.istore_n 2, 1) := by decide +kernel
theorem dX11_lifted_50 : decode cX11_lifted 50 = .ok (.iinc 4 1, 3) := by decide +kernel
theorem dX11_lifted_53 : decode cX11_lifted 53 = .ok (.goto (-30), 3) := by decide +kernel
theorem dX11_lifted_56 : decode cX11_lifted 56 = .ok (.iload_n 2, 1) := by decide +kernel
theorem dX11_lifted_57 : decode cX11_lifted 57 = .ok (.ireturn, 1) := by decide +kernel
def f_X11_lifted_B23b (k23 : Int32 → Int32 → Int32 → Int32 → Wd → Option (Int32 × Wd)) (l1 : Int32) (l2 : Int32) (l3 : Int32) (l4 : Int32) (w : Wd) : Option (Int32 × Wd) :=
  if l3 ≤ l4 then
    some (l2, w)
  else
    bnd (f_X11_middleOf l1) fun x1 =>
    bnd (f_X5_liftOf l4 x1 w) fun x2 =>
    k23 l1 (if l2 < (f_J6_bitCount_0f7a4 x2) then (f_J6_bitCount_0f7a4 x2) else l2) l3 (l4 + 1) w
def f_X11_lifted_L23 (n : Nat) : Int32 → Int32 → Int32 → Int32 → Wd → Option (Int32 × Wd) :=
  Nat.rec (fun _ _ _ _ _ => none) (fun _ k => f_X11_lifted_B23b k) n
set_option maxHeartbeats 4000000 in
set_option maxRecDepth 100000 in
theorem t_X11_lifted_L23 {G : GT} {d : Nat} (hd : 29 ≤ d + 1)  : ∀ (n : Nat) (l1 : Int32) (l2 : Int32) (l3 : Int32) (l4 : Int32) (w : Wd) (r : Int32) (w' : Wd), f_X11_lifted_L23 n l1 l2 l3 l4 w = some (r, w') → U (vf G mX11_lifted (d + 1)) 23 [some (.ref 0), some (.int l1), some (.int l2), some (.int l3), some (.int l4)] [] w (some (.int r), 70, r0, w') := by
  intro n
  induction n with
  | zero => intro l1 l2 l3 l4 w r w' h; cases h
  | succ n h23 =>
    intro l1 l2 l3 l4 w r w' h
    have h : f_X11_lifted_B23b (f_X11_lifted_L23 n) l1 l2 l3 l4 w = some (r, w') := h
    unfold f_X11_lifted_B23b at h
    refine V.iload (pc := 23) dX11_lifted_23 rfl ?_
    refine V.iload_n (pc := 25) dX11_lifted_25 rfl ?_
    rcases ite_e h with ⟨c, h⟩ | ⟨c, h⟩
    · refine V.icmp_ge_t (t := 56) (pc := 26) dX11_lifted_26 (by decide) c ?_
      refine V.iload_n (pc := 56) dX11_lifted_56 rfl ?_
      obtain ⟨rfl, rfl⟩ := Prod.mk.inj (Option.some.inj h)
      exact V.iret (pc := 57) dX11_lifted_57 rfl (Nat.le_refl _) (Nat.le_refl _)
    · refine V.icmp_ge_f (t := 56) (pc := 26) dX11_lifted_26 (by decide) c ?_
      refine V.iload_n (pc := 29) dX11_lifted_29 rfl ?_
      refine V.aload_n (pc := 30) dX11_lifted_30 rfl ?_
      refine V.getR (t := 32) (pc := 31) dX11_lifted_31 f_RX11_67 k_cl11 lx_0 ly_0 rb_11_7 rr_0_7 ?_
      refine V.iload (pc := 34) dX11_lifted_34 rfl ?_
      refine V.iload_n (pc := 36) dX11_lifted_36 rfl ?_
      obtain ⟨x1, ex1, h⟩ := bnd_e h
      refine U.callS (pc := 37) (As := [.int l1]) (st := [.int l4, .ref 32, .int l2]) dX11_lifted_37 l_RX11_271 (ok_X11_middleOf (by omega) l1 ex1) (Nat.le_of_ble_eq_true rfl) rfl rfl (Nat.le_of_ble_eq_true rfl) ?_
      obtain ⟨x2, ex2, h⟩ := bnd_e h
      refine U.callV (pc := 40) (As := [.int l4, .int x1]) (st := [.int l2]) dX11_lifted_40 l_RX11_268 (ok_X5_liftOf (by omega) l4 x1 ex2) lx_32 ly_32 cn_5 (Nat.le_of_ble_eq_true rfl) rfl rfl (Nat.le_of_ble_eq_true rfl) ?_
      refine U.callS (pc := 43) (As := [.int x2]) (st := [.int l2]) dX11_lifted_43 l_RX11_127 (ok_J6_bitCount_0f7a4 (by omega) x2 ) (Nat.le_of_ble_eq_true rfl) rfl rfl (Nat.le_of_ble_eq_true rfl) ?_
      refine V.mmax (pc := 46) dX11_lifted_46 l_RX11_220 (Nat.le_add_left 1 d) (rm_13 (Nat.le_of_ble_eq_true rfl)) ?_
      refine V.istore_n (lv' := [some (.ref 0), some (.int l1), some (.int (if l2 < (f_J6_bitCount_0f7a4 x2) then (f_J6_bitCount_0f7a4 x2) else l2)), some (.int l3), some (.int l4)]) (pc := 49) dX11_lifted_49 (Nat.le_of_ble_eq_true rfl) rfl rfl ?_
      refine V.iinc (lv' := [some (.ref 0), some (.int l1), some (.int (if l2 < (f_J6_bitCount_0f7a4 x2) then (f_J6_bitCount_0f7a4 x2) else l2)), some (.int l3), some (.int (l4 + 1))]) (pc := 50) dX11_lifted_50 (Nat.le_of_ble_eq_true rfl) rfl rfl (v := (l4 + 1)) (by rw [show Int32.ofInt 1 = 1 from by decide]) rfl ?_
      refine V.goto (t := 23) (pc := 53) dX11_lifted_53 (by decide) ?_
      exact h23 l1 (if l2 < (f_J6_bitCount_0f7a4 x2) then (f_J6_bitCount_0f7a4 x2) else l2) l3 (l4 + 1) w _ _ h
def f_X11_lifted (l1 : Int32) (w : Wd) : Option (Int32 × Wd) :=
  if (f_X11_isRing l1) = 0 then
    some ((-1), w)
  else
    bnd2 (f_X5_totalInto l1 w) fun x1 w2 =>
    f_X11_lifted_L23  FU l1 0 x1 0 w2
set_option maxHeartbeats 4000000 in
set_option maxRecDepth 100000 in
theorem ok_X11_lifted {G : GT} {d : Nat} (hd : 29 ≤ d) {w : Wd} (l1 : Int32) {r : Int32} {w' : Wd} (h : f_X11_lifted l1 w = some (r, w')) : uC G yX11_lifted mX11_lifted d [.ref 0, .int l1] w (some (.int r)) w' := by
  obtain ⟨d, rfl⟩ : ∃ e, d = e + 1 := ⟨d - 1, by omega⟩
  unfold f_X11_lifted at h
  refine uC_of (lv := [some (.ref 0), some (.int l1), none, none, none]) 3 pn_X11 ⟨rfl, rfl⟩ (Nat.le_of_ble_eq_true rfl) rfl ?_
  refine V.iload_n (pc := 0) dX11_lifted_0 rfl ?_
  refine U.callS (pc := 1) (As := [.int l1]) (st := []) dX11_lifted_1 l_RX11_259 (ok_X11_isRing (by omega) l1 ) (Nat.le_of_ble_eq_true rfl) rfl rfl (Nat.le_of_ble_eq_true rfl) ?_
  rcases ite_e h with ⟨c, h⟩ | ⟨c, h⟩
  · refine V.if_ne_f (t := 9) (pc := 4) dX11_lifted_4 (by decide) c ?_
    refine V.iconst (pc := 7) dX11_lifted_7 ic_m1 ?_
    obtain ⟨rfl, rfl⟩ := Prod.mk.inj (Option.some.inj h)
    exact V.iret (pc := 8) dX11_lifted_8 rfl (Nat.le_refl _) (Nat.le_refl _)
  · refine V.if_ne_t (t := 9) (pc := 4) dX11_lifted_4 (by decide) c ?_
    refine V.iconst (pc := 9) dX11_lifted_9 ic_0 ?_
    refine V.istore_n (lv' := [some (.ref 0), some (.int l1), some (.int 0), none, none]) (pc := 10) dX11_lifted_10 (Nat.le_of_ble_eq_true rfl) rfl rfl ?_
    refine V.aload_n (pc := 11) dX11_lifted_11 rfl ?_
    refine V.getR (t := 32) (pc := 12) dX11_lifted_12 f_RX11_67 k_cl11 lx_0 ly_0 rb_11_7 rr_0_7 ?_
    refine V.iload_n (pc := 15) dX11_lifted_15 rfl ?_
    obtain ⟨x1, w2, ew2, h⟩ := bnd2_e h
    refine U.callV (pc := 16) (As := [.int l1]) (st := []) dX11_lifted_16 l_RX11_262 (ok_X5_totalInto (by omega) l1 ew2) lx_32 ly_32 cn_5 (Nat.le_of_ble_eq_true rfl) rfl rfl (Nat.le_of_ble_eq_true rfl) ?_
    refine V.istore_n (lv' := [some (.ref 0), some (.int l1), some (.int 0), some (.int x1), none]) (pc := 19) dX11_lifted_19 (Nat.le_of_ble_eq_true rfl) rfl rfl ?_
    refine V.iconst (pc := 20) dX11_lifted_20 ic_0 ?_
    refine V.istore (lv' := [some (.ref 0), some (.int l1), some (.int 0), some (.int x1), some (.int 0)]) (pc := 21) dX11_lifted_21 (Nat.le_of_ble_eq_true rfl) rfl rfl ?_
    exact t_X11_lifted_L23 hd FU l1 0 x1 0 w2 _ _ h
theorem dX12_lifted_0 : decode cX12_lifted 0 = .ok (.iload_n 1, 1) := by decide +kernel
theorem dX12_lifted_1 : decode cX12_lifted 1 = .ok (.invokestatic 246, 3) := by decide +kernel
theorem dX12_lifted_4 : decode cX12_lifted 4 = .ok (.ifCond .ne 5, 3) := by decide +kernel
theorem dX12_lifted_7 : decode cX12_lifted 7 = .ok (.iconst (-1), 1) := by decide +kernel
theorem dX12_lifted_8 : decode cX12_lifted 8 = .ok (.ireturn, 1) := by decide +kernel
theorem dX12_lifted_9 : decode cX12_lifted 9 = .ok (.aload_n 0, 1) := by decide +kernel
theorem dX12_lifted_10 : decode cX12_lifted 10 = .ok (.invokevirtual 224, 3) := by decide +kernel
theorem dX12_lifted_13 : decode cX12_lifted 13 = .ok (.iconst 0, 1) := by decide +kernel
theorem dX12_lifted_14 : decode cX12_lifted 14 = .ok (.istore_n 2, 1) := by decide +kernel
theorem dX12_lifted_15 : decode cX12_lifted 15 = .ok (.iconst 1, 1) := by decide +kernel
theorem dX12_lifted_16 : decode cX12_lifted 16 = .ok (.istore_n 3, 1) := by decide +kernel
theorem dX12_lifted_17 : decode cX12_lifted 17 = .ok (.iload_n 3, 1) := by decide +kernel
theorem dX12_lifted_18 : decode cX12_lifted 18 = .ok (.ifCond .eq 42, 3) := by decide +kernel
theorem dX12_lifted_21 : decode cX12_lifted 21 = .ok (.aload_n 0, 1) := by decide +kernel
theorem dX12_lifted_22 : decode cX12_lifted 22 = .ok (.iload_n 1, 1) := by decide +kernel
theorem dX12_lifted_23 : decode cX12_lifted 23 = .ok (.invokevirtual 243, 3) := by decide +kernel
theorem dX12_lifted_26 : decode cX12_lifted 26 = .ok (.ifCond .eq 25, 3) := by decide +kernel
theorem dX12_lifted_29 : decode cX12_lifted 29 = .ok (.aload_n 0, 1) := by decide +kernel
theorem dX12_lifted_30 : decode cX12_lifted 30 = .ok (.iload_n 1, 1) := by decide +kernel
theorem dX12_lifted_31 : decode cX12_lifted 31 = .ok (.invokestatic 255, 3) := by decide +kernel
theorem dX12_lifted_34 : decode cX12_lifted 34 = .ok (.invokevirtual 252, 3) := by decide +kernel
theorem dX12_lifted_37 : decode cX12_lifted 37 = .ok (.invokestatic 172, 3) := by decide +kernel
theorem dX12_lifted_40 : decode cX12_lifted 40 = .ok (.istore 4, 2) := by decide +kernel
theorem dX12_lifted_42 : decode cX12_lifted 42 = .ok (.iload 4, 2) := by decide +kernel
theorem dX12_lifted_44 : decode cX12_lifted 44 = .ok (.iload_n 2, 1) := by decide +kernel
theorem dX12_lifted_45 : decode cX12_lifted 45 = .ok (.if_icmp .le 6, 3) := by decide +kernel
theorem dX12_lifted_48 : decode cX12_lifted 48 = .ok (.iload 4, 2) := by decide +kernel
theorem dX12_lifted_50 : decode cX12_lifted 50 = .ok (.istore_n 2, 1) := by decide +kernel
theorem dX12_lifted_51 : decode cX12_lifted 51 = .ok (.aload_n 0, 1) := by decide +kernel
theorem dX12_lifted_52 : decode cX12_lifted 52 = .ok (.iload_n 1, 1) := by decide +kernel
theorem dX12_lifted_53 : decode cX12_lifted 53 = .ok (.invokevirtual 231, 3) := by decide +kernel
theorem dX12_lifted_56 : decode cX12_lifted 56 = .ok (.istore_n 3, 1) := by decide +kernel
theorem dX12_lifted_57 : decode cX12_lifted 57 = .ok (.goto (-40), 3) := by decide +kernel
theorem dX12_lifted_60 : decode cX12_lifted 60 = .ok (.iload_n 2, 1) := by decide +kernel
theorem dX12_lifted_61 : decode cX12_lifted 61 = .ok (.ireturn, 1) := by decide +kernel
def f_X12_lifted_B17b (k17 : Int32 → Int32 → Int32 → Wd → Option (Int32 × Wd)) (l1 : Int32) (l2 : Int32) (l3 : Int32) (w : Wd) : Option (Int32 × Wd) :=
  if l3 = 0 then
    some (l2, w)
  else
    bnd2 (f_X12_isCharacter l1 w) fun x1 w2 =>
    if x1 = 0 then
      bnd2 (f_X12_isNext l1 w2) fun x3 w4 =>
      k17 l1 l2 x3 w4
    else
      bnd (f_X12_middleOf l1) fun x5 =>
      bnd (f_X12_liftNow x5 w2) fun x6 =>
      bnd (f_X12_ones x6) fun x7 =>
      if x7 ≤ l2 then
        bnd2 (f_X12_isNext l1 w2) fun x8 w9 =>
        k17 l1 l2 x8 w9
      else
        bnd2 (f_X12_isNext l1 w2) fun x10 w11 =>
        k17 l1 x7 x10 w11
def f_X12_lifted_L17 (n : Nat) : Int32 → Int32 → Int32 → Wd → Option (Int32 × Wd) :=
  Nat.rec (fun _ _ _ _ => none) (fun _ k => f_X12_lifted_B17b k) n
set_option maxHeartbeats 4000000 in
set_option maxRecDepth 100000 in
theorem t_X12_lifted_L17 {G : GT} {d : Nat} (hd : 2 ≤ d + 1)  : ∀ (n : Nat) (l1 : Int32) (l2 : Int32) (l3 : Int32) (w : Wd) (r : Int32) (w' : Wd), f_X12_lifted_L17 n l1 l2 l3 w = some (r, w') → U (vf G mX12_lifted (d + 1)) 17 [some (.ref 44), some (.int l1), some (.int l2), some (.int l3), none] [] w (some (.int r), 70, r0, w') := by
  intro n
  induction n with
  | zero => intro l1 l2 l3 w r w' h; cases h
  | succ n h17 =>
    intro l1 l2 l3 w r w' h
    have h : f_X12_lifted_B17b (f_X12_lifted_L17 n) l1 l2 l3 w = some (r, w') := h
    unfold f_X12_lifted_B17b at h
    refine V.iload_n (pc := 17) dX12_lifted_17 rfl ?_
    rcases ite_e h with ⟨c, h⟩ | ⟨c, h⟩
    · refine V.if_eq_t (t := 60) (pc := 18) dX12_lifted_18 (by decide) c ?_
      refine V.iload_n (pc := 60) dX12_lifted_60 rfl ?_
      obtain ⟨rfl, rfl⟩ := Prod.mk.inj (Option.some.inj h)
      exact V.iret (pc := 61) dX12_lifted_61 rfl (Nat.le_refl _) (Nat.le_refl _)
    · refine V.if_eq_f (t := 60) (pc := 18) dX12_lifted_18 (by decide) c ?_
      refine V.aload_n (pc := 21) dX12_lifted_21 rfl ?_
      refine V.iload_n (pc := 22) dX12_lifted_22 rfl ?_
      obtain ⟨x1, w2, ew2, h⟩ := bnd2_e h
      refine U.callV (pc := 23) (As := [.int l1]) (st := []) dX12_lifted_23 l_RX12_243 (ok_X12_isCharacter (by omega) l1 ew2) lx_44 ly_44 cn_12 (Nat.le_of_ble_eq_true rfl) rfl rfl (Nat.le_of_ble_eq_true rfl) ?_
      rcases ite_e h with ⟨c, h⟩ | ⟨c, h⟩
      · refine V.if_eq_t (t := 51) (pc := 26) dX12_lifted_26 (by decide) c ?_
        refine V.aload_n (pc := 51) dX12_lifted_51 rfl ?_
        refine V.iload_n (pc := 52) dX12_lifted_52 rfl ?_
        obtain ⟨x3, w4, ew4, h⟩ := bnd2_e h
        refine U.callV (pc := 53) (As := [.int l1]) (st := []) dX12_lifted_53 l_RX12_231 (ok_X12_isNext (by omega) l1 ew4) lx_44 ly_44 cn_12 (Nat.le_of_ble_eq_true rfl) rfl rfl (Nat.le_of_ble_eq_true rfl) ?_
        refine V.istore_n (lv' := [some (.ref 44), some (.int l1), some (.int l2), some (.int x3), none]) (pc := 56) dX12_lifted_56 (Nat.le_of_ble_eq_true rfl) rfl rfl ?_
        refine V.goto (t := 17) (pc := 57) dX12_lifted_57 (by decide) ?_
        exact h17 l1 l2 x3 w4 _ _ h
      · refine V.if_eq_f (t := 51) (pc := 26) dX12_lifted_26 (by decide) c ?_
        refine V.aload_n (pc := 29) dX12_lifted_29 rfl ?_
        refine V.iload_n (pc := 30) dX12_lifted_30 rfl ?_
        obtain ⟨x5, ex5, h⟩ := bnd_e h
        refine U.callS (pc := 31) (As := [.int l1]) (st := [.ref 44]) dX12_lifted_31 l_RX12_255 (ok_X12_middleOf (by omega) l1 ex5) (Nat.le_of_ble_eq_true rfl) rfl rfl (Nat.le_of_ble_eq_true rfl) ?_
        obtain ⟨x6, ex6, h⟩ := bnd_e h
        refine U.callV (pc := 34) (As := [.int x5]) (st := []) dX12_lifted_34 l_RX12_252 (ok_X12_liftNow (by omega) x5 ex6) lx_44 ly_44 cn_12 (Nat.le_of_ble_eq_true rfl) rfl rfl (Nat.le_of_ble_eq_true rfl) ?_
        obtain ⟨x7, ex7, h⟩ := bnd_e h
        refine U.callS (pc := 37) (As := [.int x6]) (st := []) dX12_lifted_37 l_RX12_172 (ok_X12_ones (by omega) x6 ex7) (Nat.le_of_ble_eq_true rfl) rfl rfl (Nat.le_of_ble_eq_true rfl) ?_
        refine V.istore (lv' := [some (.ref 44), some (.int l1), some (.int l2), some (.int l3), some (.int x7)]) (pc := 40) dX12_lifted_40 (Nat.le_of_ble_eq_true rfl) rfl rfl ?_
        refine V.iload (pc := 42) dX12_lifted_42 rfl ?_
        refine V.iload_n (pc := 44) dX12_lifted_44 rfl ?_
        rcases ite_e h with ⟨c, h⟩ | ⟨c, h⟩
        · refine V.icmp_le_t (t := 51) (pc := 45) dX12_lifted_45 (by decide) c ?_
          refine V.aload_n (pc := 51) dX12_lifted_51 rfl ?_
          refine V.iload_n (pc := 52) dX12_lifted_52 rfl ?_
          obtain ⟨x8, w9, ew9, h⟩ := bnd2_e h
          refine U.callV (pc := 53) (As := [.int l1]) (st := []) dX12_lifted_53 l_RX12_231 (ok_X12_isNext (by omega) l1 ew9) lx_44 ly_44 cn_12 (Nat.le_of_ble_eq_true rfl) rfl rfl (Nat.le_of_ble_eq_true rfl) ?_
          refine V.istore_n (lv' := [some (.ref 44), some (.int l1), some (.int l2), some (.int x8), some (.int x7)]) (pc := 56) dX12_lifted_56 (Nat.le_of_ble_eq_true rfl) rfl rfl ?_
          refine V.goto (t := 17) (pc := 57) dX12_lifted_57 (by decide) ?_
          refine V.weak (lv' := [some (.ref 44), some (.int l1), some (.int l2), some (.int x8), none]) (And.intro rfl (And.intro rfl (And.intro rfl (And.intro rfl trivial)))) ?_
          exact h17 l1 l2 x8 w9 _ _ h
        · refine V.icmp_le_f (t := 51) (pc := 45) dX12_lifted_45 (by decide) c ?_
          refine V.iload (pc := 48) dX12_lifted_48 rfl ?_
          refine V.istore_n (lv' := [some (.ref 44), some (.int l1), some (.int x7), some (.int l3), some (.int x7)]) (pc := 50) dX12_lifted_50 (Nat.le_of_ble_eq_true rfl) rfl rfl ?_
          refine V.aload_n (pc := 51) dX12_lifted_51 rfl ?_
          refine V.iload_n (pc := 52) dX12_lifted_52 rfl ?_
          obtain ⟨x10, w11, ew11, h⟩ := bnd2_e h
          refine U.callV (pc := 53) (As := [.int l1]) (st := []) dX12_lifted_53 l_RX12_231 (ok_X12_isNext (by omega) l1 ew11) lx_44 ly_44 cn_12 (Nat.le_of_ble_eq_true rfl) rfl rfl (Nat.le_of_ble_eq_true rfl) ?_
          refine V.istore_n (lv' := [some (.ref 44), some (.int l1), some (.int x7), some (.int x10), some (.int x7)]) (pc := 56) dX12_lifted_56 (Nat.le_of_ble_eq_true rfl) rfl rfl ?_
          refine V.goto (t := 17) (pc := 57) dX12_lifted_57 (by decide) ?_
          refine V.weak (lv' := [some (.ref 44), some (.int l1), some (.int x7), some (.int x10), none]) (And.intro rfl (And.intro rfl (And.intro rfl (And.intro rfl trivial)))) ?_
          exact h17 l1 x7 x10 w11 _ _ h
def f_X12_lifted (l1 : Int32) (w : Wd) : Option (Int32 × Wd) :=
  if (f_X12_isRing l1) = 0 then
    some ((-1), w)
  else
    bnd (f_X12_firstRow  w) fun w1 =>
    f_X12_lifted_L17  FU l1 0 1 w1
set_option maxHeartbeats 4000000 in
set_option maxRecDepth 100000 in
theorem ok_X12_lifted {G : GT} {d : Nat} (hd : 2 ≤ d) {w : Wd} (l1 : Int32) {r : Int32} {w' : Wd} (h : f_X12_lifted l1 w = some (r, w')) : uC G yX12_lifted mX12_lifted d [.ref 44, .int l1] w (some (.int r)) w' := by
  obtain ⟨d, rfl⟩ : ∃ e, d = e + 1 := ⟨d - 1, by omega⟩
  unfold f_X12_lifted at h
  refine uC_of (lv := [some (.ref 44), some (.int l1), none, none, none]) 3 pn_X12 ⟨rfl, rfl⟩ (Nat.le_of_ble_eq_true rfl) rfl ?_
  refine V.iload_n (pc := 0) dX12_lifted_0 rfl ?_
  refine U.callS (pc := 1) (As := [.int l1]) (st := []) dX12_lifted_1 l_RX12_246 (ok_X12_isRing (by omega) l1 ) (Nat.le_of_ble_eq_true rfl) rfl rfl (Nat.le_of_ble_eq_true rfl) ?_
  rcases ite_e h with ⟨c, h⟩ | ⟨c, h⟩
  · refine V.if_ne_f (t := 9) (pc := 4) dX12_lifted_4 (by decide) c ?_
    refine V.iconst (pc := 7) dX12_lifted_7 ic_m1 ?_
    obtain ⟨rfl, rfl⟩ := Prod.mk.inj (Option.some.inj h)
    exact V.iret (pc := 8) dX12_lifted_8 rfl (Nat.le_refl _) (Nat.le_refl _)
  · refine V.if_ne_t (t := 9) (pc := 4) dX12_lifted_4 (by decide) c ?_
    refine V.aload_n (pc := 9) dX12_lifted_9 rfl ?_
    obtain ⟨w1, ew1, h⟩ := bnd_e h
    refine U.callV (pc := 10) (As := []) (st := []) dX12_lifted_10 l_RX12_224 (ok_X12_firstRow (by omega)  ew1) lx_44 ly_44 cn_12 (Nat.le_of_ble_eq_true rfl) rfl rfl (Nat.le_of_ble_eq_true rfl) ?_
    refine V.iconst (pc := 13) dX12_lifted_13 ic_0 ?_
    refine V.istore_n (lv' := [some (.ref 44), some (.int l1), some (.int 0), none, none]) (pc := 14) dX12_lifted_14 (Nat.le_of_ble_eq_true rfl) rfl rfl ?_
    refine V.iconst (pc := 15) dX12_lifted_15 ic_1 ?_
    refine V.istore_n (lv' := [some (.ref 44), some (.int l1), some (.int 0), some (.int 1), none]) (pc := 16) dX12_lifted_16 (Nat.le_of_ble_eq_true rfl) rfl rfl ?_
    exact t_X12_lifted_L17 hd FU l1 0 1 w1 _ _ h
theorem dX11_wholeSets_0 : decode cX11_wholeSets 0 = .ok (.iload_n 2, 1) := by decide +kernel
theorem dX11_wholeSets_1 : decode cX11_wholeSets 1 = .ok (.ifCond .eq 14, 3) := by decide +kernel
theorem dX11_wholeSets_4 : decode cX11_wholeSets 4 = .ok (.iload_n 0, 1) := by decide +kernel
theorem dX11_wholeSets_5 : decode cX11_wholeSets 5 = .ok (.iload_n 1, 1) := by decide +kernel
theorem dX11_wholeSets_6 : decode cX11_wholeSets 6 = .ok (.if_icmp .gt 9, 3) := by decide +kernel
theorem dX11_wholeSets_9 : decode cX11_wholeSets 9 = .ok (.iload_n 0, 1) := by decide +kernel
theorem dX11_wholeSets_10 : decode cX11_wholeSets 10 = .ok (.bipush 16, 2) := by decide +kernel
theorem dX11_wholeSets_12 : decode cX11_wholeSets 12 = .ok (.if_icmp .le 13, 3) := by decide +kernel
theorem dX11_wholeSets_15 : decode cX11_wholeSets 15 = .ok (.iload_n 2, 1) := by decide +kernel
theorem dX11_wholeSets_16 : decode cX11_wholeSets 16 = .ok (.ifCond .le 7, 3) := by decide +kernel
theorem dX11_wholeSets_19 : decode cX11_wholeSets 19 = .ok (.iconst 0, 1) := by decide +kernel
theorem dX11_wholeSets_20 : decode cX11_wholeSets 20 = .ok (.goto 4, 3) := by decide +kernel
theorem dX11_wholeSets_23 : decode cX11_wholeSets 23 = .ok (.iconst 1, 1) := by decide +kernel
theorem dX11_wholeSets_24 : decode cX11_wholeSets 24 = .ok (.ireturn, 1) := by decide +kernel
theorem dX11_wholeSets_25 : decode cX11_wholeSets 25 = .ok (.iload_n 0, 1) := by decide +kernel
theorem dX11_wholeSets_26 : decode cX11_wholeSets 26 = .ok (.iconst 1, 1) := by decide +kernel
theorem dX11_wholeSets_27 : decode cX11_wholeSets 27 = .ok (.iadd, 1) := by decide +kernel
theorem dX11_wholeSets_28 : decode cX11_wholeSets 28 = .ok (.iload_n 1, 1) := by decide +kernel
theorem dX11_wholeSets_29 : decode cX11_wholeSets 29 = .ok (.iload_n 2, 1) := by decide +kernel
theorem dX11_wholeSets_30 : decode cX11_wholeSets 30 = .ok (.iload_n 3, 1) := by decide +kernel
theorem dX11_wholeSets_31 : decode cX11_wholeSets 31 = .ok (.iload 4, 2) := by decide +kernel
theorem dX11_wholeSets_33 : decode cX11_wholeSets 33 = .ok (.invokestatic 274, 3) := by decide +kernel
theorem dX11_wholeSets_36 : decode cX11_wholeSets 36 = .ok (.istore 5, 2) := by decide +kernel
theorem dX11_wholeSets_38 : decode cX11_wholeSets 38 = .ok (.iload 4, 2) := by decide +kernel
theorem dX11_wholeSets_40 : decode cX11_wholeSets 40 = .ok (.iload_n 0, 1) := by decide +kernel
theorem dX11_wholeSets_41 : decode cX11_wholeSets 41 = .ok (.ishr, 1) := by decide +kernel
theorem dX11_wholeSets_42 : decode cX11_wholeSets 42 = .ok (.iconst 1, 1) := by decide +kernel
theorem dX11_wholeSets_43 : decode cX11_wholeSets 43 = .ok (.iand, 1) := by decide +kernel
theorem dX11_wholeSets_44 : decode cX11_wholeSets 44 = .ok (.ifCond .ne 47, 3) := by decide +kernel
theorem dX11_wholeSets_47 : decode cX11_wholeSets 47 = .ok (.iload_n 3, 1) := by decide +kernel
theorem dX11_wholeSets_48 : decode cX11_wholeSets 48 = .ok (.iconst 1, 1) := by decide +kernel
theorem dX11_wholeSets_49 : decode cX11_wholeSets 49 = .ok (.iload_n 0, 1) := by decide +kernel
theorem dX11_wholeSets_50 : decode cX11_wholeSets 50 = .ok (.ishl, 1) := by decide +kernel
theorem dX11_wholeSets_51 : decode cX11_wholeSets 51 = .ok (.ior, 1) := by decide +kernel
theorem dX11_wholeSets_52 : decode cX11_wholeSets 52 = .ok (.istore 6, 2) := by decide +kernel
theorem dX11_wholeSets_54 : decode cX11_wholeSets 54 = .ok (.iload_n 2, 1) := by decide +kernel
theorem dX11_wholeSets_55 : decode cX11_wholeSets 55 = .ok (.iconst (-1), 1) := by decide +kernel
theorem dX11_wholeSets_56 : decode cX11_wholeSets 56 = .ok (.if_icmp .ne 7, 3) := by decide +kernel
theorem dX11_wholeSets_59 : decode cX11_wholeSets 59 = .ok (.iconst (-1), 1) := by decide +kernel
theorem dX11_wholeSets_60 : decode cX11_wholeSets 60 = .ok (.goto 6, 3) := by decide +kernel
theorem dX11_wholeSets_63 : decode cX11_wholeSets 63 = .ok (.iload_n 2, 1) := by decide +kernel
theorem dX11_wholeSets_64 : decode cX11_wholeSets 64 = .ok (.iconst 1, 1) := by decide +kernel
theorem dX11_wholeSets_65 : decode cX11_wholeSets 65 = .ok (.isub, 1) := by decide +kernel
theorem dX11_wholeSets_66 : decode cX11_wholeSets 66 = .ok (.istore 7, 2) := by decide +kernel
theorem dX11_wholeSets_68 : decode cX11_wholeSets 68 = .ok (.iload 5, 2) := by decide +kernel
theorem dX11_wholeSets_70 : decode cX11_wholeSets 70 = .ok (.iload_n 0, 1) := by decide +kernel
theorem dX11_wholeSets_71 : decode cX11_wholeSets 71 = .ok (.iconst 1, 1) := by decide +kernel
theorem dX11_wholeSets_72 : decode cX11_wholeSets 72 = .ok (.iadd, 1) := by decide +kernel
theorem dX11_wholeSets_73 : decode cX11_wholeSets 73 = .ok (.iload_n 1, 1) := by decide +kernel
theorem dX11_wholeSets_74 : decode cX11_wholeSets 74 = .ok (.iload 7, 2) := by decide +kernel
theorem dX11_wholeSets_76 : decode cX11_wholeSets 76 = .ok (.iload 6, 2) := by decide +kernel
theorem dX11_wholeSets_78 : decode cX11_wholeSets 78 = .ok (.iload 4, 2) := by decide +kernel
theorem dX11_wholeSets_80 : decode cX11_wholeSets 80 = .ok (.iload 6, 2) := by decide +kernel
theorem dX11_wholeSets_82 : decode cX11_wholeSets 82 = .ok (.iload_n 0, 1) := by decide +kernel
theorem dX11_wholeSets_83 : decode cX11_wholeSets 83 = .ok (.ishl, 1) := by decide +kernel
theorem dX11_wholeSets_84 : decode cX11_wholeSets 84 = .ok (.ior, 1) := by decide +kernel
theorem dX11_wholeSets_85 : decode cX11_wholeSets 85 = .ok (.invokestatic 274, 3) := by decide +kernel
theorem dX11_wholeSets_88 : decode cX11_wholeSets 88 = .ok (.iadd, 1) := by decide +kernel
theorem dX11_wholeSets_89 : decode cX11_wholeSets 89 = .ok (.istore 5, 2) := by decide +kernel
theorem dX11_wholeSets_91 : decode cX11_wholeSets 91 = .ok (.iload 5, 2) := by decide +kernel
theorem dX11_wholeSets_93 : decode cX11_wholeSets 93 = .ok (.ireturn, 1) := by decide +kernel
def f_X11_wholeSetsb (me : Int32 → Int32 → Int32 → Int32 → Int32 → Option Int32) (l0 : Int32) (l1 : Int32) (l2 : Int32) (l3 : Int32) (l4 : Int32) : Option Int32 :=
  if l2 = 0 then
    if l2 ≤ 0 then
      some 1
    else
      some 0
  else
    if l1 < l0 then
      if l2 ≤ 0 then
        some 1
      else
        some 0
    else
      if l0 ≤ 16 then
        bnd (me (l0 + 1) l1 l2 l3 l4) fun x1 =>
        if ((l4 >>> (l0 &&& 31)) &&& 1) = 0 then
          if l2 = (-1) then
            bnd (me (l0 + 1) l1 (-1) (l3 ||| (1 <<< (l0 &&& 31))) (l4 ||| ((l3 ||| (1 <<< (l0 &&& 31))) <<< (l0 &&& 31)))) fun x3 =>
            some (x1 + x3)
          else
            bnd (me (l0 + 1) l1 (l2 - 1) (l3 ||| (1 <<< (l0 &&& 31))) (l4 ||| ((l3 ||| (1 <<< (l0 &&& 31))) <<< (l0 &&& 31)))) fun x2 =>
            some (x1 + x2)
        else
          some x1
      else
        if l2 ≤ 0 then
          some 1
        else
          some 0
def f_X11_wholeSets (n : Nat) : Int32 → Int32 → Int32 → Int32 → Int32 → Option Int32 :=
  Nat.rec (fun _ _ _ _ _ => none) (fun _ k => f_X11_wholeSetsb k) n
set_option maxHeartbeats 4000000 in
set_option maxRecDepth 100000 in
theorem ok_X11_wholeSets {G : GT} : ∀ (n : Nat) {d : Nat} (hd : 1 + n ≤ d) {w : Wd} (l0 : Int32) (l1 : Int32) (l2 : Int32) (l3 : Int32) (l4 : Int32) {r : Int32}, f_X11_wholeSets n l0 l1 l2 l3 l4 = some r → uC G yX11_wholeSets mX11_wholeSets d [.int l0, .int l1, .int l2, .int l3, .int l4] w (some (.int r)) w := by
  intro n
  induction n with
  | zero => intro d hd w l0 l1 l2 l3 l4 r h; cases h
  | succ n ih =>
    intro d hd w l0 l1 l2 l3 l4 r h
    obtain ⟨d, rfl⟩ : ∃ e, d = e + 1 := ⟨d - 1, by omega⟩
    have hd0 := hd
    have hd : 1 ≤ d + 1 := by omega
    have hme : ∀ (l0 : Int32) (l1 : Int32) (l2 : Int32) (l3 : Int32) (l4 : Int32) (r : Int32), f_X11_wholeSets n l0 l1 l2 l3 l4 = some r → uC G yX11_wholeSets mX11_wholeSets d [.int l0, .int l1, .int l2, .int l3, .int l4] w (some (.int r)) w := fun l0 l1 l2 l3 l4 r h => ih (by omega) l0 l1 l2 l3 l4 h
    have h : f_X11_wholeSetsb (f_X11_wholeSets n) l0 l1 l2 l3 l4 = some r := h
    unfold f_X11_wholeSetsb at h
    refine uC_of (lv := [some (.int l0), some (.int l1), some (.int l2), some (.int l3), some (.int l4), none, none, none]) 3 pn_X11 ⟨rfl, rfl⟩ (Nat.le_of_ble_eq_true rfl) rfl ?_
    refine V.iload_n (pc := 0) dX11_wholeSets_0 rfl ?_
    rcases ite_e h with ⟨c, h⟩ | ⟨c, h⟩
    · refine V.if_eq_t (t := 15) (pc := 1) dX11_wholeSets_1 (by decide) c ?_
      refine V.iload_n (pc := 15) dX11_wholeSets_15 rfl ?_
      rcases ite_e h with ⟨c, h⟩ | ⟨c, h⟩
      · refine V.if_le_t (t := 23) (pc := 16) dX11_wholeSets_16 (by decide) c ?_
        refine V.iconst (pc := 23) dX11_wholeSets_23 ic_1 ?_
        obtain rfl := Option.some.inj h
        exact V.iret (pc := 24) dX11_wholeSets_24 rfl (Nat.le_refl _) (Nat.le_refl _)
      · refine V.if_le_f (t := 23) (pc := 16) dX11_wholeSets_16 (by decide) c ?_
        refine V.iconst (pc := 19) dX11_wholeSets_19 ic_0 ?_
        refine V.goto (t := 24) (pc := 20) dX11_wholeSets_20 (by decide) ?_
        obtain rfl := Option.some.inj h
        exact V.iret (pc := 24) dX11_wholeSets_24 rfl (Nat.le_refl _) (Nat.le_refl _)
    · refine V.if_eq_f (t := 15) (pc := 1) dX11_wholeSets_1 (by decide) c ?_
      refine V.iload_n (pc := 4) dX11_wholeSets_4 rfl ?_
      refine V.iload_n (pc := 5) dX11_wholeSets_5 rfl ?_
      rcases ite_e h with ⟨c, h⟩ | ⟨c, h⟩
      · refine V.icmp_gt_t (t := 15) (pc := 6) dX11_wholeSets_6 (by decide) c ?_
        refine V.iload_n (pc := 15) dX11_wholeSets_15 rfl ?_
        rcases ite_e h with ⟨c, h⟩ | ⟨c, h⟩
        · refine V.if_le_t (t := 23) (pc := 16) dX11_wholeSets_16 (by decide) c ?_
          refine V.iconst (pc := 23) dX11_wholeSets_23 ic_1 ?_
          obtain rfl := Option.some.inj h
          exact V.iret (pc := 24) dX11_wholeSets_24 rfl (Nat.le_refl _) (Nat.le_refl _)
        · refine V.if_le_f (t := 23) (pc := 16) dX11_wholeSets_16 (by decide) c ?_
          refine V.iconst (pc := 19) dX11_wholeSets_19 ic_0 ?_
          refine V.goto (t := 24) (pc := 20) dX11_wholeSets_20 (by decide) ?_
          obtain rfl := Option.some.inj h
          exact V.iret (pc := 24) dX11_wholeSets_24 rfl (Nat.le_refl _) (Nat.le_refl _)
      · refine V.icmp_gt_f (t := 15) (pc := 6) dX11_wholeSets_6 (by decide) c ?_
        refine V.iload_n (pc := 9) dX11_wholeSets_9 rfl ?_
        refine V.bipush (pc := 10) dX11_wholeSets_10 bp_16 ?_
        rcases ite_e h with ⟨c, h⟩ | ⟨c, h⟩
        · refine V.icmp_le_t (t := 25) (pc := 12) dX11_wholeSets_12 (by decide) c ?_
          refine V.iload_n (pc := 25) dX11_wholeSets_25 rfl ?_
          refine V.iconst (pc := 26) dX11_wholeSets_26 ic_1 ?_
          refine V.iadd (pc := 27) dX11_wholeSets_27 ?_
          refine V.iload_n (pc := 28) dX11_wholeSets_28 rfl ?_
          refine V.iload_n (pc := 29) dX11_wholeSets_29 rfl ?_
          refine V.iload_n (pc := 30) dX11_wholeSets_30 rfl ?_
          refine V.iload (pc := 31) dX11_wholeSets_31 rfl ?_
          obtain ⟨x1, ex1, h⟩ := bnd_e h
          refine U.callS (pc := 33) (As := [.int (l0 + 1), .int l1, .int l2, .int l3, .int l4]) (st := []) dX11_wholeSets_33 l_RX11_274 (hme (l0 + 1) l1 l2 l3 l4 _ ex1) (Nat.le_of_ble_eq_true rfl) rfl rfl (Nat.le_of_ble_eq_true rfl) ?_
          refine V.istore (lv' := [some (.int l0), some (.int l1), some (.int l2), some (.int l3), some (.int l4), some (.int x1), none, none]) (pc := 36) dX11_wholeSets_36 (Nat.le_of_ble_eq_true rfl) rfl rfl ?_
          refine V.iload (pc := 38) dX11_wholeSets_38 rfl ?_
          refine V.iload_n (pc := 40) dX11_wholeSets_40 rfl ?_
          refine V.ishr (pc := 41) dX11_wholeSets_41 ?_
          refine V.iconst (pc := 42) dX11_wholeSets_42 ic_1 ?_
          refine V.iand (pc := 43) dX11_wholeSets_43 ?_
          rcases ite_e h with ⟨c, h⟩ | ⟨c, h⟩
          · refine V.if_ne_f (t := 91) (pc := 44) dX11_wholeSets_44 (by decide) c ?_
            refine V.iload_n (pc := 47) dX11_wholeSets_47 rfl ?_
            refine V.iconst (pc := 48) dX11_wholeSets_48 ic_1 ?_
            refine V.iload_n (pc := 49) dX11_wholeSets_49 rfl ?_
            refine V.ishl (pc := 50) dX11_wholeSets_50 ?_
            refine V.ior (pc := 51) dX11_wholeSets_51 ?_
            refine V.istore (lv' := [some (.int l0), some (.int l1), some (.int l2), some (.int l3), some (.int l4), some (.int x1), some (.int (l3 ||| (1 <<< (l0 &&& 31)))), none]) (pc := 52) dX11_wholeSets_52 (Nat.le_of_ble_eq_true rfl) rfl rfl ?_
            refine V.iload_n (pc := 54) dX11_wholeSets_54 rfl ?_
            refine V.iconst (pc := 55) dX11_wholeSets_55 ic_m1 ?_
            rcases ite_e h with ⟨c, h⟩ | ⟨c, h⟩
            · refine V.icmp_ne_f (t := 63) (pc := 56) dX11_wholeSets_56 (by decide) c ?_
              refine V.iconst (pc := 59) dX11_wholeSets_59 ic_m1 ?_
              refine V.goto (t := 66) (pc := 60) dX11_wholeSets_60 (by decide) ?_
              refine V.istore (lv' := [some (.int l0), some (.int l1), some (.int l2), some (.int l3), some (.int l4), some (.int x1), some (.int (l3 ||| (1 <<< (l0 &&& 31)))), some (.int (-1))]) (pc := 66) dX11_wholeSets_66 (Nat.le_of_ble_eq_true rfl) rfl rfl ?_
              refine V.iload (pc := 68) dX11_wholeSets_68 rfl ?_
              refine V.iload_n (pc := 70) dX11_wholeSets_70 rfl ?_
              refine V.iconst (pc := 71) dX11_wholeSets_71 ic_1 ?_
              refine V.iadd (pc := 72) dX11_wholeSets_72 ?_
              refine V.iload_n (pc := 73) dX11_wholeSets_73 rfl ?_
              refine V.iload (pc := 74) dX11_wholeSets_74 rfl ?_
              refine V.iload (pc := 76) dX11_wholeSets_76 rfl ?_
              refine V.iload (pc := 78) dX11_wholeSets_78 rfl ?_
              refine V.iload (pc := 80) dX11_wholeSets_80 rfl ?_
              refine V.iload_n (pc := 82) dX11_wholeSets_82 rfl ?_
              refine V.ishl (pc := 83) dX11_wholeSets_83 ?_
              refine V.ior (pc := 84) dX11_wholeSets_84 ?_
              obtain ⟨x3, ex3, h⟩ := bnd_e h
              refine U.callS (pc := 85) (As := [.int (l0 + 1), .int l1, .int (-1), .int (l3 ||| (1 <<< (l0 &&& 31))), .int (l4 ||| ((l3 ||| (1 <<< (l0 &&& 31))) <<< (l0 &&& 31)))]) (st := [.int x1]) dX11_wholeSets_85 l_RX11_274 (hme (l0 + 1) l1 (-1) (l3 ||| (1 <<< (l0 &&& 31))) (l4 ||| ((l3 ||| (1 <<< (l0 &&& 31))) <<< (l0 &&& 31))) _ ex3) (Nat.le_of_ble_eq_true rfl) rfl rfl (Nat.le_of_ble_eq_true rfl) ?_
              refine V.iadd (pc := 88) dX11_wholeSets_88 ?_
              refine V.istore (lv' := [some (.int l0), some (.int l1), some (.int l2), some (.int l3), some (.int l4), some (.int (x1 + x3)), some (.int (l3 ||| (1 <<< (l0 &&& 31)))), some (.int (-1))]) (pc := 89) dX11_wholeSets_89 (Nat.le_of_ble_eq_true rfl) rfl rfl ?_
              refine V.iload (pc := 91) dX11_wholeSets_91 rfl ?_
              obtain rfl := Option.some.inj h
              exact V.iret (pc := 93) dX11_wholeSets_93 rfl (Nat.le_refl _) (Nat.le_refl _)
            · refine V.icmp_ne_t (t := 63) (pc := 56) dX11_wholeSets_56 (by decide) c ?_
              refine V.iload_n (pc := 63) dX11_wholeSets_63 rfl ?_
              refine V.iconst (pc := 64) dX11_wholeSets_64 ic_1 ?_
              refine V.isub (pc := 65) dX11_wholeSets_65 ?_
              refine V.istore (lv' := [some (.int l0), some (.int l1), some (.int l2), some (.int l3), some (.int l4), some (.int x1), some (.int (l3 ||| (1 <<< (l0 &&& 31)))), some (.int (l2 - 1))]) (pc := 66) dX11_wholeSets_66 (Nat.le_of_ble_eq_true rfl) rfl rfl ?_
              refine V.iload (pc := 68) dX11_wholeSets_68 rfl ?_
              refine V.iload_n (pc := 70) dX11_wholeSets_70 rfl ?_
              refine V.iconst (pc := 71) dX11_wholeSets_71 ic_1 ?_
              refine V.iadd (pc := 72) dX11_wholeSets_72 ?_
              refine V.iload_n (pc := 73) dX11_wholeSets_73 rfl ?_
              refine V.iload (pc := 74) dX11_wholeSets_74 rfl ?_
              refine V.iload (pc := 76) dX11_wholeSets_76 rfl ?_
              refine V.iload (pc := 78) dX11_wholeSets_78 rfl ?_
              refine V.iload (pc := 80) dX11_wholeSets_80 rfl ?_
              refine V.iload_n (pc := 82) dX11_wholeSets_82 rfl ?_
              refine V.ishl (pc := 83) dX11_wholeSets_83 ?_
              refine V.ior (pc := 84) dX11_wholeSets_84 ?_
              obtain ⟨x2, ex2, h⟩ := bnd_e h
              refine U.callS (pc := 85) (As := [.int (l0 + 1), .int l1, .int (l2 - 1), .int (l3 ||| (1 <<< (l0 &&& 31))), .int (l4 ||| ((l3 ||| (1 <<< (l0 &&& 31))) <<< (l0 &&& 31)))]) (st := [.int x1]) dX11_wholeSets_85 l_RX11_274 (hme (l0 + 1) l1 (l2 - 1) (l3 ||| (1 <<< (l0 &&& 31))) (l4 ||| ((l3 ||| (1 <<< (l0 &&& 31))) <<< (l0 &&& 31))) _ ex2) (Nat.le_of_ble_eq_true rfl) rfl rfl (Nat.le_of_ble_eq_true rfl) ?_
              refine V.iadd (pc := 88) dX11_wholeSets_88 ?_
              refine V.istore (lv' := [some (.int l0), some (.int l1), some (.int l2), some (.int l3), some (.int l4), some (.int (x1 + x2)), some (.int (l3 ||| (1 <<< (l0 &&& 31)))), some (.int (l2 - 1))]) (pc := 89) dX11_wholeSets_89 (Nat.le_of_ble_eq_true rfl) rfl rfl ?_
              refine V.iload (pc := 91) dX11_wholeSets_91 rfl ?_
              obtain rfl := Option.some.inj h
              exact V.iret (pc := 93) dX11_wholeSets_93 rfl (Nat.le_refl _) (Nat.le_refl _)
          · refine V.if_ne_t (t := 91) (pc := 44) dX11_wholeSets_44 (by decide) c ?_
            refine V.iload (pc := 91) dX11_wholeSets_91 rfl ?_
            obtain rfl := Option.some.inj h
            exact V.iret (pc := 93) dX11_wholeSets_93 rfl (Nat.le_refl _) (Nat.le_refl _)
        · refine V.icmp_le_f (t := 25) (pc := 12) dX11_wholeSets_12 (by decide) c ?_
          refine V.iload_n (pc := 15) dX11_wholeSets_15 rfl ?_
          rcases ite_e h with ⟨c, h⟩ | ⟨c, h⟩
          · refine V.if_le_t (t := 23) (pc := 16) dX11_wholeSets_16 (by decide) c ?_
            refine V.iconst (pc := 23) dX11_wholeSets_23 ic_1 ?_
            obtain rfl := Option.some.inj h
            exact V.iret (pc := 24) dX11_wholeSets_24 rfl (Nat.le_refl _) (Nat.le_refl _)
          · refine V.if_le_f (t := 23) (pc := 16) dX11_wholeSets_16 (by decide) c ?_
            refine V.iconst (pc := 19) dX11_wholeSets_19 ic_0 ?_
            refine V.goto (t := 24) (pc := 20) dX11_wholeSets_20 (by decide) ?_
            obtain rfl := Option.some.inj h
            exact V.iret (pc := 24) dX11_wholeSets_24 rfl (Nat.le_refl _) (Nat.le_refl _)
theorem dX11_ints_0 : decode cX11_ints 0 = .ok (.iload_n 1, 1) := by decide +kernel
theorem dX11_ints_1 : decode cX11_ints 1 = .ok (.ifCond .lt 14, 3) := by decide +kernel
theorem dX11_ints_4 : decode cX11_ints 4 = .ok (.iload_n 1, 1) := by decide +kernel
theorem dX11_ints_5 : decode cX11_ints 5 = .ok (.bipush 16, 2) := by decide +kernel
theorem dX11_ints_7 : decode cX11_ints 7 = .ok (.if_icmp .gt 8, 3) := by decide +kernel
theorem dX11_ints_10 : decode cX11_ints 10 = .ok (.iload_n 2, 1) := by decide +kernel
theorem dX11_ints_11 : decode cX11_ints 11 = .ok (.iconst (-1), 1) := by decide +kernel
theorem dX11_ints_12 : decode cX11_ints 12 = .ok (.if_icmp .ge 5, 3) := by decide +kernel
theorem dX11_ints_15 : decode cX11_ints 15 = .ok (.iconst (-1), 1) := by decide +kernel
theorem dX11_ints_16 : decode cX11_ints 16 = .ok (.ireturn, 1) := by decide +kernel
theorem dX11_ints_17 : decode cX11_ints 17 = .ok (.iconst 1, 1) := by decide +kernel
theorem dX11_ints_18 : decode cX11_ints 18 = .ok (.iload_n 1, 1) := by decide +kernel
theorem dX11_ints_19 : decode cX11_ints 19 = .ok (.iload_n 2, 1) := by decide +kernel
theorem dX11_ints_20 : decode cX11_ints 20 = .ok (.iconst 0, 1) := by decide +kernel
theorem dX11_ints_21 : decode cX11_ints 21 = .ok (.iconst 0, 1) := by decide +kernel
theorem dX11_ints_22 : decode cX11_ints 22 = .ok (.invokestatic 274, 3) := by decide +kernel
theorem dX11_ints_25 : decode cX11_ints 25 = .ok (.ireturn, 1) := by decide +kernel
def f_X11_ints (l1 : Int32) (l2 : Int32) : Option Int32 :=
  if l1 < 0 then
    some (-1)
  else
    if 16 < l1 then
      some (-1)
    else
      if (-1) ≤ l2 then
        bnd (f_X11_wholeSets 20 1 l1 l2 0 0) fun x1 =>
        some x1
      else
        some (-1)
set_option maxHeartbeats 4000000 in
set_option maxRecDepth 100000 in
theorem ok_X11_ints {G : GT} {d : Nat} (hd : 26 ≤ d) {w : Wd} (l1 : Int32) (l2 : Int32) {r : Int32} (h : f_X11_ints l1 l2 = some r) : uC G yX11_ints mX11_ints d [.ref 0, .int l1, .int l2] w (some (.int r)) w := by
  obtain ⟨d, rfl⟩ : ∃ e, d = e + 1 := ⟨d - 1, by omega⟩
  unfold f_X11_ints at h
  refine uC_of (lv := [some (.ref 0), some (.int l1), some (.int l2)]) 0 pn_X11 ⟨rfl, rfl⟩ (Nat.le_of_ble_eq_true rfl) rfl ?_
  refine V.iload_n (pc := 0) dX11_ints_0 rfl ?_
  rcases ite_e h with ⟨c, h⟩ | ⟨c, h⟩
  · refine V.if_lt_t (t := 15) (pc := 1) dX11_ints_1 (by decide) c ?_
    refine V.iconst (pc := 15) dX11_ints_15 ic_m1 ?_
    obtain rfl := Option.some.inj h
    exact V.iret (pc := 16) dX11_ints_16 rfl (Nat.le_refl _) (Nat.le_refl _)
  · refine V.if_lt_f (t := 15) (pc := 1) dX11_ints_1 (by decide) c ?_
    refine V.iload_n (pc := 4) dX11_ints_4 rfl ?_
    refine V.bipush (pc := 5) dX11_ints_5 bp_16 ?_
    rcases ite_e h with ⟨c, h⟩ | ⟨c, h⟩
    · refine V.icmp_gt_t (t := 15) (pc := 7) dX11_ints_7 (by decide) c ?_
      refine V.iconst (pc := 15) dX11_ints_15 ic_m1 ?_
      obtain rfl := Option.some.inj h
      exact V.iret (pc := 16) dX11_ints_16 rfl (Nat.le_refl _) (Nat.le_refl _)
    · refine V.icmp_gt_f (t := 15) (pc := 7) dX11_ints_7 (by decide) c ?_
      refine V.iload_n (pc := 10) dX11_ints_10 rfl ?_
      refine V.iconst (pc := 11) dX11_ints_11 ic_m1 ?_
      rcases ite_e h with ⟨c, h⟩ | ⟨c, h⟩
      · refine V.icmp_ge_t (t := 17) (pc := 12) dX11_ints_12 (by decide) c ?_
        refine V.iconst (pc := 17) dX11_ints_17 ic_1 ?_
        refine V.iload_n (pc := 18) dX11_ints_18 rfl ?_
        refine V.iload_n (pc := 19) dX11_ints_19 rfl ?_
        refine V.iconst (pc := 20) dX11_ints_20 ic_0 ?_
        refine V.iconst (pc := 21) dX11_ints_21 ic_0 ?_
        obtain ⟨x1, ex1, h⟩ := bnd_e h
        refine U.callS (pc := 22) (As := [.int 1, .int l1, .int l2, .int 0, .int 0]) (st := []) dX11_ints_22 l_RX11_274 (ok_X11_wholeSets 20 (by omega) 1 l1 l2 0 0 ex1) (Nat.le_of_ble_eq_true rfl) rfl rfl (Nat.le_of_ble_eq_true rfl) ?_
        obtain rfl := Option.some.inj h
        exact V.iret (pc := 25) dX11_ints_25 rfl (Nat.le_refl _) (Nat.le_refl _)
      · refine V.icmp_ge_f (t := 17) (pc := 12) dX11_ints_12 (by decide) c ?_
        refine V.iconst (pc := 15) dX11_ints_15 ic_m1 ?_
        obtain rfl := Option.some.inj h
        exact V.iret (pc := 16) dX11_ints_16 rfl (Nat.le_refl _) (Nat.le_refl _)
theorem dX12_isSumless_0 : decode cX12_isSumless 0 = .ok (.iconst 0, 1) := by decide +kernel
theorem dX12_isSumless_1 : decode cX12_isSumless 1 = .ok (.istore_n 1, 1) := by decide +kernel
theorem dX12_isSumless_2 : decode cX12_isSumless 2 = .ok (.iload_n 0, 1) := by decide +kernel
theorem dX12_isSumless_3 : decode cX12_isSumless 3 = .ok (.iload_n 1, 1) := by decide +kernel
theorem dX12_isSumless_4 : decode cX12_isSumless 4 = .ok (.ishr, 1) := by decide +kernel
theorem dX12_isSumless_5 : decode cX12_isSumless 5 = .ok (.ifCond .eq 29, 3) := by decide +kernel
theorem dX12_isSumless_8 : decode cX12_isSumless 8 = .ok (.iload_n 0, 1) := by decide +kernel
theorem dX12_isSumless_9 : decode cX12_isSumless 9 = .ok (.iload_n 1, 1) := by decide +kernel
theorem dX12_isSumless_10 : decode cX12_isSumless 10 = .ok (.invokestatic 128, 3) := by decide +kernel
theorem dX12_isSumless_13 : decode cX12_isSumless 13 = .ok (.ifCond .eq 15, 3) := by decide +kernel
theorem dX12_isSumless_16 : decode cX12_isSumless 16 = .ok (.iload_n 0, 1) := by decide +kernel
theorem dX12_isSumless_17 : decode cX12_isSumless 17 = .ok (.iload_n 1, 1) := by decide +kernel
theorem dX12_isSumless_18 : decode cX12_isSumless 18 = .ok (.iconst 1, 1) := by decide +kernel
theorem dX12_isSumless_19 : decode cX12_isSumless 19 = .ok (.iadd, 1) := by decide +kernel
theorem dX12_isSumless_20 : decode cX12_isSumless 20 = .ok (.ishl, 1) := by decide +kernel
theorem dX12_isSumless_21 : decode cX12_isSumless 21 = .ok (.iload_n 0, 1) := by decide +kernel
theorem dX12_isSumless_22 : decode cX12_isSumless 22 = .ok (.iand, 1) := by decide +kernel
theorem dX12_isSumless_23 : decode cX12_isSumless 23 = .ok (.ifCond .eq 5, 3) := by decide +kernel
theorem dX12_isSumless_26 : decode cX12_isSumless 26 = .ok (.iconst 0, 1) := by decide +kernel
theorem dX12_isSumless_27 : decode cX12_isSumless 27 = .ok (.ireturn, 1) := by decide +kernel
theorem dX12_isSumless_28 : decode cX12_isSumless 28 = .ok (.iinc 1 1, 3) := by decide +kernel
theorem dX12_isSumless_31 : decode cX12_isSumless 31 = .ok (.goto (-29), 3) := by decide +kernel
theorem dX12_isSumless_34 : decode cX12_isSumless 34 = .ok (.iconst 1, 1) := by decide +kernel
theorem dX12_isSumless_35 : decode cX12_isSumless 35 = .ok (.ireturn, 1) := by decide +kernel
def f_X12_isSumless_B2b (k2 : Int32 → Int32 → Option Int32) (l0 : Int32) (l1 : Int32) : Option Int32 :=
  if (l0 >>> (l1 &&& 31)) = 0 then
    some 1
  else
    if (f_X12_has l0 l1) = 0 then
      k2 l0 (l1 + 1)
    else
      if ((l0 <<< ((l1 + 1) &&& 31)) &&& l0) = 0 then
        k2 l0 (l1 + 1)
      else
        some 0
def f_X12_isSumless_L2 (n : Nat) : Int32 → Int32 → Option Int32 :=
  Nat.rec (fun _ _ => none) (fun _ k => f_X12_isSumless_B2b k) n
set_option maxHeartbeats 4000000 in
set_option maxRecDepth 100000 in
theorem t_X12_isSumless_L2 {G : GT} {d : Nat} {w : Wd} (hd : 1 ≤ d + 1)  : ∀ (n : Nat) (l0 : Int32) (l1 : Int32) (r : Int32), f_X12_isSumless_L2 n l0 l1 = some r → U (vf G mX12_isSumless (d + 1)) 2 [some (.int l0), some (.int l1)] [] w (some (.int r), 70, r0, w) := by
  intro n
  induction n with
  | zero => intro l0 l1 r h; cases h
  | succ n h2 =>
    intro l0 l1 r h
    have h : f_X12_isSumless_B2b (f_X12_isSumless_L2 n) l0 l1 = some r := h
    unfold f_X12_isSumless_B2b at h
    refine V.iload_n (pc := 2) dX12_isSumless_2 rfl ?_
    refine V.iload_n (pc := 3) dX12_isSumless_3 rfl ?_
    refine V.ishr (pc := 4) dX12_isSumless_4 ?_
    rcases ite_e h with ⟨c, h⟩ | ⟨c, h⟩
    · refine V.if_eq_t (t := 34) (pc := 5) dX12_isSumless_5 (by decide) c ?_
      refine V.iconst (pc := 34) dX12_isSumless_34 ic_1 ?_
      obtain rfl := Option.some.inj h
      exact V.zret (pc := 35) dX12_isSumless_35 rfl (Or.inr rfl) (Nat.le_refl _) (Nat.le_refl _)
    · refine V.if_eq_f (t := 34) (pc := 5) dX12_isSumless_5 (by decide) c ?_
      refine V.iload_n (pc := 8) dX12_isSumless_8 rfl ?_
      refine V.iload_n (pc := 9) dX12_isSumless_9 rfl ?_
      refine U.callS (pc := 10) (As := [.int l0, .int l1]) (st := []) dX12_isSumless_10 l_RX12_128 (ok_X12_has (by omega) l0 l1 ) (Nat.le_of_ble_eq_true rfl) rfl rfl (Nat.le_of_ble_eq_true rfl) ?_
      rcases ite_e h with ⟨c, h⟩ | ⟨c, h⟩
      · refine V.if_eq_t (t := 28) (pc := 13) dX12_isSumless_13 (by decide) c ?_
        refine V.iinc (lv' := [some (.int l0), some (.int (l1 + 1))]) (pc := 28) dX12_isSumless_28 (Nat.le_of_ble_eq_true rfl) rfl rfl (v := (l1 + 1)) (by rw [show Int32.ofInt 1 = 1 from by decide]) rfl ?_
        refine V.goto (t := 2) (pc := 31) dX12_isSumless_31 (by decide) ?_
        exact h2 l0 (l1 + 1) _ h
      · refine V.if_eq_f (t := 28) (pc := 13) dX12_isSumless_13 (by decide) c ?_
        refine V.iload_n (pc := 16) dX12_isSumless_16 rfl ?_
        refine V.iload_n (pc := 17) dX12_isSumless_17 rfl ?_
        refine V.iconst (pc := 18) dX12_isSumless_18 ic_1 ?_
        refine V.iadd (pc := 19) dX12_isSumless_19 ?_
        refine V.ishl (pc := 20) dX12_isSumless_20 ?_
        refine V.iload_n (pc := 21) dX12_isSumless_21 rfl ?_
        refine V.iand (pc := 22) dX12_isSumless_22 ?_
        rcases ite_e h with ⟨c, h⟩ | ⟨c, h⟩
        · refine V.if_eq_t (t := 28) (pc := 23) dX12_isSumless_23 (by decide) c ?_
          refine V.iinc (lv' := [some (.int l0), some (.int (l1 + 1))]) (pc := 28) dX12_isSumless_28 (Nat.le_of_ble_eq_true rfl) rfl rfl (v := (l1 + 1)) (by rw [show Int32.ofInt 1 = 1 from by decide]) rfl ?_
          refine V.goto (t := 2) (pc := 31) dX12_isSumless_31 (by decide) ?_
          exact h2 l0 (l1 + 1) _ h
        · refine V.if_eq_f (t := 28) (pc := 23) dX12_isSumless_23 (by decide) c ?_
          refine V.iconst (pc := 26) dX12_isSumless_26 ic_0 ?_
          obtain rfl := Option.some.inj h
          exact V.zret (pc := 27) dX12_isSumless_27 rfl (Or.inl rfl) (Nat.le_refl _) (Nat.le_refl _)
def f_X12_isSumless (l0 : Int32) : Option Int32 :=
  f_X12_isSumless_L2  FU l0 0
set_option maxHeartbeats 4000000 in
set_option maxRecDepth 100000 in
theorem ok_X12_isSumless {G : GT} {d : Nat} (hd : 1 ≤ d) {w : Wd} (l0 : Int32) {r : Int32} (h : f_X12_isSumless l0 = some r) : uC G yX12_isSumless mX12_isSumless d [.int l0] w (some (.int r)) w := by
  obtain ⟨d, rfl⟩ : ∃ e, d = e + 1 := ⟨d - 1, by omega⟩
  unfold f_X12_isSumless at h
  refine uC_of (lv := [some (.int l0), none]) 1 pn_X12 ⟨rfl, rfl⟩ (Nat.le_of_ble_eq_true rfl) rfl ?_
  refine V.iconst (pc := 0) dX12_isSumless_0 ic_0 ?_
  refine V.istore_n (lv' := [some (.int l0), some (.int 0)]) (pc := 1) dX12_isSumless_1 (Nat.le_of_ble_eq_true rfl) rfl rfl ?_
  exact t_X12_isSumless_L2 hd FU l0 0 _ h
theorem dX12_ints_0 : decode cX12_ints 0 = .ok (.iload_n 1, 1) := by decide +kernel
theorem dX12_ints_1 : decode cX12_ints 1 = .ok (.iconst 0, 1) := by decide +kernel
theorem dX12_ints_2 : decode cX12_ints 2 = .ok (.bipush 16, 2) := by decide +kernel
theorem dX12_ints_4 : decode cX12_ints 4 = .ok (.invokestatic 139, 3) := by decide +kernel
theorem dX12_ints_7 : decode cX12_ints 7 = .ok (.ifCond .eq 8, 3) := by decide +kernel
theorem dX12_ints_10 : decode cX12_ints 10 = .ok (.iload_n 2, 1) := by decide +kernel
theorem dX12_ints_11 : decode cX12_ints 11 = .ok (.iconst (-1), 1) := by decide +kernel
theorem dX12_ints_12 : decode cX12_ints 12 = .ok (.if_icmp .ge 5, 3) := by decide +kernel
theorem dX12_ints_15 : decode cX12_ints 15 = .ok (.iconst (-1), 1) := by decide +kernel
theorem dX12_ints_16 : decode cX12_ints 16 = .ok (.ireturn, 1) := by decide +kernel
theorem dX12_ints_17 : decode cX12_ints 17 = .ok (.iconst 0, 1) := by decide +kernel
theorem dX12_ints_18 : decode cX12_ints 18 = .ok (.istore_n 3, 1) := by decide +kernel
theorem dX12_ints_19 : decode cX12_ints 19 = .ok (.iconst 0, 1) := by decide +kernel
theorem dX12_ints_20 : decode cX12_ints 20 = .ok (.istore 4, 2) := by decide +kernel
theorem dX12_ints_22 : decode cX12_ints 22 = .ok (.iload 4, 2) := by decide +kernel
theorem dX12_ints_24 : decode cX12_ints 24 = .ok (.iconst 1, 1) := by decide +kernel
theorem dX12_ints_25 : decode cX12_ints 25 = .ok (.iload_n 1, 1) := by decide +kernel
theorem dX12_ints_26 : decode cX12_ints 26 = .ok (.ishl, 1) := by decide +kernel
theorem dX12_ints_27 : decode cX12_ints 27 = .ok (.if_icmp .ge 34, 3) := by decide +kernel
theorem dX12_ints_30 : decode cX12_ints 30 = .ok (.iload_n 2, 1) := by decide +kernel
theorem dX12_ints_31 : decode cX12_ints 31 = .ok (.iconst (-1), 1) := by decide +kernel
theorem dX12_ints_32 : decode cX12_ints 32 = .ok (.if_icmp .eq 12, 3) := by decide +kernel
theorem dX12_ints_35 : decode cX12_ints 35 = .ok (.iload 4, 2) := by decide +kernel
theorem dX12_ints_37 : decode cX12_ints 37 = .ok (.invokestatic 172, 3) := by decide +kernel
theorem dX12_ints_40 : decode cX12_ints 40 = .ok (.iload_n 2, 1) := by decide +kernel
theorem dX12_ints_41 : decode cX12_ints 41 = .ok (.if_icmp .ne 14, 3) := by decide +kernel
theorem dX12_ints_44 : decode cX12_ints 44 = .ok (.iload 4, 2) := by decide +kernel
theorem dX12_ints_46 : decode cX12_ints 46 = .ok (.invokestatic 258, 3) := by decide +kernel
theorem dX12_ints_49 : decode cX12_ints 49 = .ok (.ifCond .eq 6, 3) := by decide +kernel
theorem dX12_ints_52 : decode cX12_ints 52 = .ok (.iinc 3 1, 3) := by decide +kernel
theorem dX12_ints_55 : decode cX12_ints 55 = .ok (.iinc 4 1, 3) := by decide +kernel
theorem dX12_ints_58 : decode cX12_ints 58 = .ok (.goto (-36), 3) := by decide +kernel
theorem dX12_ints_61 : decode cX12_ints 61 = .ok (.iload_n 3, 1) := by decide +kernel
theorem dX12_ints_62 : decode cX12_ints 62 = .ok (.ireturn, 1) := by decide +kernel
def f_X12_ints_B22b (k22 : Int32 → Int32 → Int32 → Int32 → Option Int32) (l1 : Int32) (l2 : Int32) (l3 : Int32) (l4 : Int32) : Option Int32 :=
  if (1 <<< (l1 &&& 31)) ≤ l4 then
    some l3
  else
    if l2 = (-1) then
      bnd (f_X12_isSumless l4) fun x1 =>
      if x1 = 0 then
        k22 l1 l2 l3 (l4 + 1)
      else
        k22 l1 l2 (l3 + 1) (l4 + 1)
    else
      bnd (f_X12_ones l4) fun x2 =>
      if x2 = l2 then
        bnd (f_X12_isSumless l4) fun x3 =>
        if x3 = 0 then
          k22 l1 l2 l3 (l4 + 1)
        else
          k22 l1 l2 (l3 + 1) (l4 + 1)
      else
        k22 l1 l2 l3 (l4 + 1)
def f_X12_ints_L22 (n : Nat) : Int32 → Int32 → Int32 → Int32 → Option Int32 :=
  Nat.rec (fun _ _ _ _ => none) (fun _ k => f_X12_ints_B22b k) n
set_option maxHeartbeats 4000000 in
set_option maxRecDepth 100000 in
theorem t_X12_ints_L22 {G : GT} {d : Nat} {w : Wd} (hd : 2 ≤ d + 1)  : ∀ (n : Nat) (l1 : Int32) (l2 : Int32) (l3 : Int32) (l4 : Int32) (r : Int32), f_X12_ints_L22 n l1 l2 l3 l4 = some r → U (vf G mX12_ints (d + 1)) 22 [none, some (.int l1), some (.int l2), some (.int l3), some (.int l4)] [] w (some (.int r), 70, r0, w) := by
  intro n
  induction n with
  | zero => intro l1 l2 l3 l4 r h; cases h
  | succ n h22 =>
    intro l1 l2 l3 l4 r h
    have h : f_X12_ints_B22b (f_X12_ints_L22 n) l1 l2 l3 l4 = some r := h
    unfold f_X12_ints_B22b at h
    refine V.iload (pc := 22) dX12_ints_22 rfl ?_
    refine V.iconst (pc := 24) dX12_ints_24 ic_1 ?_
    refine V.iload_n (pc := 25) dX12_ints_25 rfl ?_
    refine V.ishl (pc := 26) dX12_ints_26 ?_
    rcases ite_e h with ⟨c, h⟩ | ⟨c, h⟩
    · refine V.icmp_ge_t (t := 61) (pc := 27) dX12_ints_27 (by decide) c ?_
      refine V.iload_n (pc := 61) dX12_ints_61 rfl ?_
      obtain rfl := Option.some.inj h
      exact V.iret (pc := 62) dX12_ints_62 rfl (Nat.le_refl _) (Nat.le_refl _)
    · refine V.icmp_ge_f (t := 61) (pc := 27) dX12_ints_27 (by decide) c ?_
      refine V.iload_n (pc := 30) dX12_ints_30 rfl ?_
      refine V.iconst (pc := 31) dX12_ints_31 ic_m1 ?_
      rcases ite_e h with ⟨c, h⟩ | ⟨c, h⟩
      · refine V.icmp_eq_t (t := 44) (pc := 32) dX12_ints_32 (by decide) c ?_
        refine V.iload (pc := 44) dX12_ints_44 rfl ?_
        obtain ⟨x1, ex1, h⟩ := bnd_e h
        refine U.callS (pc := 46) (As := [.int l4]) (st := []) dX12_ints_46 l_RX12_258 (ok_X12_isSumless (by omega) l4 ex1) (Nat.le_of_ble_eq_true rfl) rfl rfl (Nat.le_of_ble_eq_true rfl) ?_
        rcases ite_e h with ⟨c, h⟩ | ⟨c, h⟩
        · refine V.if_eq_t (t := 55) (pc := 49) dX12_ints_49 (by decide) c ?_
          refine V.iinc (lv' := [none, some (.int l1), some (.int l2), some (.int l3), some (.int (l4 + 1))]) (pc := 55) dX12_ints_55 (Nat.le_of_ble_eq_true rfl) rfl rfl (v := (l4 + 1)) (by rw [show Int32.ofInt 1 = 1 from by decide]) rfl ?_
          refine V.goto (t := 22) (pc := 58) dX12_ints_58 (by decide) ?_
          exact h22 l1 l2 l3 (l4 + 1) _ h
        · refine V.if_eq_f (t := 55) (pc := 49) dX12_ints_49 (by decide) c ?_
          refine V.iinc (lv' := [none, some (.int l1), some (.int l2), some (.int (l3 + 1)), some (.int l4)]) (pc := 52) dX12_ints_52 (Nat.le_of_ble_eq_true rfl) rfl rfl (v := (l3 + 1)) (by rw [show Int32.ofInt 1 = 1 from by decide]) rfl ?_
          refine V.iinc (lv' := [none, some (.int l1), some (.int l2), some (.int (l3 + 1)), some (.int (l4 + 1))]) (pc := 55) dX12_ints_55 (Nat.le_of_ble_eq_true rfl) rfl rfl (v := (l4 + 1)) (by rw [show Int32.ofInt 1 = 1 from by decide]) rfl ?_
          refine V.goto (t := 22) (pc := 58) dX12_ints_58 (by decide) ?_
          exact h22 l1 l2 (l3 + 1) (l4 + 1) _ h
      · refine V.icmp_eq_f (t := 44) (pc := 32) dX12_ints_32 (by decide) c ?_
        refine V.iload (pc := 35) dX12_ints_35 rfl ?_
        obtain ⟨x2, ex2, h⟩ := bnd_e h
        refine U.callS (pc := 37) (As := [.int l4]) (st := []) dX12_ints_37 l_RX12_172 (ok_X12_ones (by omega) l4 ex2) (Nat.le_of_ble_eq_true rfl) rfl rfl (Nat.le_of_ble_eq_true rfl) ?_
        refine V.iload_n (pc := 40) dX12_ints_40 rfl ?_
        rcases ite_e h with ⟨c, h⟩ | ⟨c, h⟩
        · refine V.icmp_ne_f (t := 55) (pc := 41) dX12_ints_41 (by decide) c ?_
          refine V.iload (pc := 44) dX12_ints_44 rfl ?_
          obtain ⟨x3, ex3, h⟩ := bnd_e h
          refine U.callS (pc := 46) (As := [.int l4]) (st := []) dX12_ints_46 l_RX12_258 (ok_X12_isSumless (by omega) l4 ex3) (Nat.le_of_ble_eq_true rfl) rfl rfl (Nat.le_of_ble_eq_true rfl) ?_
          rcases ite_e h with ⟨c, h⟩ | ⟨c, h⟩
          · refine V.if_eq_t (t := 55) (pc := 49) dX12_ints_49 (by decide) c ?_
            refine V.iinc (lv' := [none, some (.int l1), some (.int l2), some (.int l3), some (.int (l4 + 1))]) (pc := 55) dX12_ints_55 (Nat.le_of_ble_eq_true rfl) rfl rfl (v := (l4 + 1)) (by rw [show Int32.ofInt 1 = 1 from by decide]) rfl ?_
            refine V.goto (t := 22) (pc := 58) dX12_ints_58 (by decide) ?_
            exact h22 l1 l2 l3 (l4 + 1) _ h
          · refine V.if_eq_f (t := 55) (pc := 49) dX12_ints_49 (by decide) c ?_
            refine V.iinc (lv' := [none, some (.int l1), some (.int l2), some (.int (l3 + 1)), some (.int l4)]) (pc := 52) dX12_ints_52 (Nat.le_of_ble_eq_true rfl) rfl rfl (v := (l3 + 1)) (by rw [show Int32.ofInt 1 = 1 from by decide]) rfl ?_
            refine V.iinc (lv' := [none, some (.int l1), some (.int l2), some (.int (l3 + 1)), some (.int (l4 + 1))]) (pc := 55) dX12_ints_55 (Nat.le_of_ble_eq_true rfl) rfl rfl (v := (l4 + 1)) (by rw [show Int32.ofInt 1 = 1 from by decide]) rfl ?_
            refine V.goto (t := 22) (pc := 58) dX12_ints_58 (by decide) ?_
            exact h22 l1 l2 (l3 + 1) (l4 + 1) _ h
        · refine V.icmp_ne_t (t := 55) (pc := 41) dX12_ints_41 (by decide) c ?_
          refine V.iinc (lv' := [none, some (.int l1), some (.int l2), some (.int l3), some (.int (l4 + 1))]) (pc := 55) dX12_ints_55 (Nat.le_of_ble_eq_true rfl) rfl rfl (v := (l4 + 1)) (by rw [show Int32.ofInt 1 = 1 from by decide]) rfl ?_
          refine V.goto (t := 22) (pc := 58) dX12_ints_58 (by decide) ?_
          exact h22 l1 l2 l3 (l4 + 1) _ h
def f_X12_ints (l1 : Int32) (l2 : Int32) : Option Int32 :=
  if (f_X12_in l1 0 16) = 0 then
    some (-1)
  else
    if (-1) ≤ l2 then
      f_X12_ints_L22  FU l1 l2 0 0
    else
      some (-1)
set_option maxHeartbeats 4000000 in
set_option maxRecDepth 100000 in
theorem ok_X12_ints {G : GT} {d : Nat} (hd : 2 ≤ d) {w : Wd} (l1 : Int32) (l2 : Int32) {r : Int32} (h : f_X12_ints l1 l2 = some r) : uC G yX12_ints mX12_ints d [.ref 44, .int l1, .int l2] w (some (.int r)) w := by
  obtain ⟨d, rfl⟩ : ∃ e, d = e + 1 := ⟨d - 1, by omega⟩
  unfold f_X12_ints at h
  refine uC_of (lv := [some (.ref 44), some (.int l1), some (.int l2), none, none]) 2 pn_X12 ⟨rfl, rfl⟩ (Nat.le_of_ble_eq_true rfl) rfl ?_
  refine V.iload_n (pc := 0) dX12_ints_0 rfl ?_
  refine V.iconst (pc := 1) dX12_ints_1 ic_0 ?_
  refine V.bipush (pc := 2) dX12_ints_2 bp_16 ?_
  refine U.callS (pc := 4) (As := [.int l1, .int 0, .int 16]) (st := []) dX12_ints_4 l_RX12_139 (ok_X12_in (by omega) l1 0 16 ) (Nat.le_of_ble_eq_true rfl) rfl rfl (Nat.le_of_ble_eq_true rfl) ?_
  rcases ite_e h with ⟨c, h⟩ | ⟨c, h⟩
  · refine V.if_eq_t (t := 15) (pc := 7) dX12_ints_7 (by decide) c ?_
    refine V.iconst (pc := 15) dX12_ints_15 ic_m1 ?_
    obtain rfl := Option.some.inj h
    exact V.iret (pc := 16) dX12_ints_16 rfl (Nat.le_refl _) (Nat.le_refl _)
  · refine V.if_eq_f (t := 15) (pc := 7) dX12_ints_7 (by decide) c ?_
    refine V.iload_n (pc := 10) dX12_ints_10 rfl ?_
    refine V.iconst (pc := 11) dX12_ints_11 ic_m1 ?_
    rcases ite_e h with ⟨c, h⟩ | ⟨c, h⟩
    · refine V.icmp_ge_t (t := 17) (pc := 12) dX12_ints_12 (by decide) c ?_
      refine V.iconst (pc := 17) dX12_ints_17 ic_0 ?_
      refine V.istore_n (lv' := [some (.ref 44), some (.int l1), some (.int l2), some (.int 0), none]) (pc := 18) dX12_ints_18 (Nat.le_of_ble_eq_true rfl) rfl rfl ?_
      refine V.iconst (pc := 19) dX12_ints_19 ic_0 ?_
      refine V.istore (lv' := [some (.ref 44), some (.int l1), some (.int l2), some (.int 0), some (.int 0)]) (pc := 20) dX12_ints_20 (Nat.le_of_ble_eq_true rfl) rfl rfl ?_
      refine V.weak (lv' := [none, some (.int l1), some (.int l2), some (.int 0), some (.int 0)]) (And.intro rfl (And.intro rfl (And.intro rfl (And.intro rfl trivial)))) ?_
      exact t_X12_ints_L22 hd FU l1 l2 0 0 _ h
    · refine V.icmp_ge_f (t := 17) (pc := 12) dX12_ints_12 (by decide) c ?_
      refine V.iconst (pc := 15) dX12_ints_15 ic_m1 ?_
      obtain rfl := Option.some.inj h
      exact V.iret (pc := 16) dX12_ints_16 rfl (Nat.le_refl _) (Nat.le_refl _)
theorem dX6_clear_0 : decode cX6_clear 0 = .ok (.aload_n 0, 1) := by decide +kernel
theorem dX6_clear_1 : decode cX6_clear 1 = .ok (.iconst 0, 1) := by decide +kernel
theorem dX6_clear_2 : decode cX6_clear 2 = .ok (.putfield 15, 3) := by decide +kernel
theorem dX6_clear_5 : decode cX6_clear 5 = .ok (.return_, 1) := by decide +kernel
def f_X6_clear (w : Wd) : Wd :=
  letW (sI w 41 1 0) fun w1 =>
  w1
set_option maxHeartbeats 4000000 in
set_option maxRecDepth 100000 in
theorem ok_X6_clear {G : GT} {d : Nat} (hd : 0 ≤ d) {w : Wd}  {w' : Wd} (h : f_X6_clear  w = w') : uC G yX6_clear mX6_clear d [.ref 41] w none w' := by
  unfold f_X6_clear at h
  refine uC_of (lv := [some (.ref 41)]) 0 pn_X6 ⟨rfl, rfl⟩ (Nat.le_of_ble_eq_true rfl) rfl ?_
  refine V.aload_n (pc := 0) dX6_clear_0 rfl ?_
  refine V.iconst (pc := 1) dX6_clear_1 ic_0 ?_
  obtain ⟨w1, ew1, h⟩ := letW_e h
  refine V.putIX (pc := 2) dX6_clear_2 f_RX6_15 k_cl6 lx_41 ly_41 rb_6_1 (fin_I (T0 := TX6) rfl rfl rfl) ew1 ?_
  subst h
  exact V.vret (pc := 5) dX6_clear_5 rfl (Nat.le_refl _) (Nat.le_refl _)
theorem dX6_answer_0 : decode cX6_answer 0 = .ok (.iload_n 1, 1) := by decide +kernel
theorem dX6_answer_1 : decode cX6_answer 1 = .ok (.iconst (-1), 1) := by decide +kernel
theorem dX6_answer_2 : decode cX6_answer 2 = .ok (.if_icmp .ne 8, 3) := by decide +kernel
theorem dX6_answer_5 : decode cX6_answer 5 = .ok (.aload_n 0, 1) := by decide +kernel
theorem dX6_answer_6 : decode cX6_answer 6 = .ok (.getfield 15, 3) := by decide +kernel
theorem dX6_answer_9 : decode cX6_answer 9 = .ok (.ireturn, 1) := by decide +kernel
theorem dX6_answer_10 : decode cX6_answer 10 = .ok (.iload_n 1, 1) := by decide +kernel
theorem dX6_answer_11 : decode cX6_answer 11 = .ok (.ifCond .lt 20, 3) := by decide +kernel
theorem dX6_answer_14 : decode cX6_answer 14 = .ok (.iload_n 1, 1) := by decide +kernel
theorem dX6_answer_15 : decode cX6_answer 15 = .ok (.aload_n 0, 1) := by decide +kernel
theorem dX6_answer_16 : decode cX6_answer 16 = .ok (.getfield 15, 3) := by decide +kernel
theorem dX6_answer_19 : decode cX6_answer 19 = .ok (.if_icmp .ge 12, 3) := by decide +kernel
theorem dX6_answer_22 : decode cX6_answer 22 = .ok (.aload_n 0, 1) := by decide +kernel
theorem dX6_answer_23 : decode cX6_answer 23 = .ok (.getfield 11, 3) := by decide +kernel
theorem dX6_answer_26 : decode cX6_answer 26 = .ok (.iload_n 1, 1) := by decide +kernel
theorem dX6_answer_27 : decode cX6_answer 27 = .ok (.iaload, 1) := by decide +kernel
theorem dX6_answer_28 : decode cX6_answer 28 = .ok (.goto 5, 3) := by decide +kernel
theorem dX6_answer_31 : decode cX6_answer 31 = .ok (.bipush (-2), 2) := by decide +kernel
theorem dX6_answer_33 : decode cX6_answer 33 = .ok (.ireturn, 1) := by decide +kernel
def f_X6_answer (l1 : Int32) (w : Wd) : Option Int32 :=
  if l1 = (-1) then
    some (w.1 41 1)
  else
    if l1 < 0 then
      some (-2)
    else
      if (w.1 41 1) ≤ l1 then
        some (-2)
      else
        rdI w 42 128 l1 fun x1 =>
        some x1
set_option maxHeartbeats 4000000 in
set_option maxRecDepth 100000 in
theorem ok_X6_answer {G : GT} {d : Nat} (hd : 0 ≤ d) {w : Wd} (l1 : Int32) {r : Int32} (h : f_X6_answer l1 w = some r) : uC G yX6_answer mX6_answer d [.ref 41, .int l1] w (some (.int r)) w := by
  unfold f_X6_answer at h
  refine uC_of (lv := [some (.ref 41), some (.int l1)]) 0 pn_X6 ⟨rfl, rfl⟩ (Nat.le_of_ble_eq_true rfl) rfl ?_
  refine V.iload_n (pc := 0) dX6_answer_0 rfl ?_
  refine V.iconst (pc := 1) dX6_answer_1 ic_m1 ?_
  rcases ite_e h with ⟨c, h⟩ | ⟨c, h⟩
  · refine V.icmp_ne_f (t := 10) (pc := 2) dX6_answer_2 (by decide) c ?_
    refine V.aload_n (pc := 5) dX6_answer_5 rfl ?_
    refine V.getI (pc := 6) dX6_answer_6 f_RX6_15 k_cl6 lx_41 ly_41 rb_6_1 ?_
    obtain rfl := Option.some.inj h
    exact V.iret (pc := 9) dX6_answer_9 rfl (Nat.le_refl _) (Nat.le_refl _)
  · refine V.icmp_ne_t (t := 10) (pc := 2) dX6_answer_2 (by decide) c ?_
    refine V.iload_n (pc := 10) dX6_answer_10 rfl ?_
    rcases ite_e h with ⟨c, h⟩ | ⟨c, h⟩
    · refine V.if_lt_t (t := 31) (pc := 11) dX6_answer_11 (by decide) c ?_
      refine V.bipush (pc := 31) dX6_answer_31 bp_m2 ?_
      obtain rfl := Option.some.inj h
      exact V.iret (pc := 33) dX6_answer_33 rfl (Nat.le_refl _) (Nat.le_refl _)
    · refine V.if_lt_f (t := 31) (pc := 11) dX6_answer_11 (by decide) c ?_
      refine V.iload_n (pc := 14) dX6_answer_14 rfl ?_
      refine V.aload_n (pc := 15) dX6_answer_15 rfl ?_
      refine V.getI (pc := 16) dX6_answer_16 f_RX6_15 k_cl6 lx_41 ly_41 rb_6_1 ?_
      rcases ite_e h with ⟨c, h⟩ | ⟨c, h⟩
      · refine V.icmp_ge_t (t := 31) (pc := 19) dX6_answer_19 (by decide) c ?_
        refine V.bipush (pc := 31) dX6_answer_31 bp_m2 ?_
        obtain rfl := Option.some.inj h
        exact V.iret (pc := 33) dX6_answer_33 rfl (Nat.le_refl _) (Nat.le_refl _)
      · refine V.icmp_ge_f (t := 31) (pc := 19) dX6_answer_19 (by decide) c ?_
        refine V.aload_n (pc := 22) dX6_answer_22 rfl ?_
        refine V.getR (t := 42) (pc := 23) dX6_answer_23 f_RX6_11 k_cl6 lx_41 ly_41 rb_6_0 rr_41_0 ?_
        refine V.iload_n (pc := 26) dX6_answer_26 rfl ?_
        obtain ⟨x1, ix1, ex1, h⟩ := rdI_e h
        refine V.ialdX (pc := 27) dX6_answer_27 lx_42 ly_42 ix1 ex1 ?_
        refine V.goto (t := 33) (pc := 28) dX6_answer_28 (by decide) ?_
        obtain rfl := Option.some.inj h
        exact V.iret (pc := 33) dX6_answer_33 rfl (Nat.le_refl _) (Nat.le_refl _)
theorem dX6_addSign_0 : decode cX6_addSign 0 = .ok (.aload_n 0, 1) := by decide +kernel
theorem dX6_addSign_1 : decode cX6_addSign 1 = .ok (.getfield 15, 3) := by decide +kernel
theorem dX6_addSign_4 : decode cX6_addSign 4 = .ok (.sipush 128, 3) := by decide +kernel
theorem dX6_addSign_7 : decode cX6_addSign 7 = .ok (.if_icmp .ge 20, 3) := by decide +kernel
theorem dX6_addSign_10 : decode cX6_addSign 10 = .ok (.aload_n 0, 1) := by decide +kernel
theorem dX6_addSign_11 : decode cX6_addSign 11 = .ok (.getfield 11, 3) := by decide +kernel
theorem dX6_addSign_14 : decode cX6_addSign 14 = .ok (.aload_n 0, 1) := by decide +kernel
theorem dX6_addSign_15 : decode cX6_addSign 15 = .ok (.dup, 1) := by decide +kernel
theorem dX6_addSign_16 : decode cX6_addSign 16 = .ok (.getfield 15, 3) := by decide +kernel
theorem dX6_addSign_19 : decode cX6_addSign 19 = .ok (.dup_x1, 1) := by decide +kernel
theorem dX6_addSign_20 : decode cX6_addSign 20 = .ok (.iconst 1, 1) := by decide +kernel
theorem dX6_addSign_21 : decode cX6_addSign 21 = .ok (.iadd, 1) := by decide +kernel
theorem dX6_addSign_22 : decode cX6_addSign 22 = .ok (.putfield 15, 3) := by decide +kernel
theorem dX6_addSign_25 : decode cX6_addSign 25 = .ok (.iload_n 1, 1) := by decide +kernel
theorem dX6_addSign_26 : decode cX6_addSign 26 = .ok (.iastore, 1) := by decide +kernel
theorem dX6_addSign_27 : decode cX6_addSign 27 = .ok (.return_, 1) := by decide +kernel
def f_X6_addSign (l1 : Int32) (w : Wd) : Option Wd :=
  if 128 ≤ (w.1 41 1) then
    some w
  else
    letW (sI w 41 1 ((w.1 41 1) + 1)) fun w1 =>
    wrI w1 42 128 (w.1 41 1) l1 fun w2 =>
    some w2
set_option maxHeartbeats 4000000 in
set_option maxRecDepth 100000 in
theorem ok_X6_addSign {G : GT} {d : Nat} (hd : 0 ≤ d) {w : Wd} (l1 : Int32) {w' : Wd} (h : f_X6_addSign l1 w = some w') : uC G yX6_addSign mX6_addSign d [.ref 41, .int l1] w none w' := by
  unfold f_X6_addSign at h
  refine uC_of (lv := [some (.ref 41), some (.int l1)]) 0 pn_X6 ⟨rfl, rfl⟩ (Nat.le_of_ble_eq_true rfl) rfl ?_
  refine V.aload_n (pc := 0) dX6_addSign_0 rfl ?_
  refine V.getI (pc := 1) dX6_addSign_1 f_RX6_15 k_cl6 lx_41 ly_41 rb_6_1 ?_
  refine V.sipush (pc := 4) dX6_addSign_4 sp_128 ?_
  rcases ite_e h with ⟨c, h⟩ | ⟨c, h⟩
  · refine V.icmp_ge_t (t := 27) (pc := 7) dX6_addSign_7 (by decide) c ?_
    obtain rfl := Option.some.inj h
    exact V.vret (pc := 27) dX6_addSign_27 rfl (Nat.le_refl _) (Nat.le_refl _)
  · refine V.icmp_ge_f (t := 27) (pc := 7) dX6_addSign_7 (by decide) c ?_
    refine V.aload_n (pc := 10) dX6_addSign_10 rfl ?_
    refine V.getR (t := 42) (pc := 11) dX6_addSign_11 f_RX6_11 k_cl6 lx_41 ly_41 rb_6_0 rr_41_0 ?_
    refine V.aload_n (pc := 14) dX6_addSign_14 rfl ?_
    refine V.dup (pc := 15) dX6_addSign_15 rfl ?_
    refine V.getI (pc := 16) dX6_addSign_16 f_RX6_15 k_cl6 lx_41 ly_41 rb_6_1 ?_
    refine V.dup_x1 (pc := 19) dX6_addSign_19 rfl rfl ?_
    refine V.iconst (pc := 20) dX6_addSign_20 ic_1 ?_
    refine V.iadd (pc := 21) dX6_addSign_21 ?_
    obtain ⟨w1, ew1, h⟩ := letW_e h
    refine V.putIX (pc := 22) dX6_addSign_22 f_RX6_15 k_cl6 lx_41 ly_41 rb_6_1 (fin_I (T0 := TX6) rfl rfl rfl) ew1 ?_
    refine V.iload_n (pc := 25) dX6_addSign_25 rfl ?_
    obtain ⟨w2, iw2, ew2, h⟩ := wrI_e h
    refine V.iastX (pc := 26) dX6_addSign_26 lx_42 ly_42 iw2 ew2 ?_
    obtain rfl := Option.some.inj h
    exact V.vret (pc := 27) dX6_addSign_27 rfl (Nat.le_refl _) (Nat.le_refl _)
theorem dX6_addWord_0 : decode cX6_addWord 0 = .ok (.iconst 0, 1) := by decide +kernel
theorem dX6_addWord_1 : decode cX6_addWord 1 = .ok (.istore_n 2, 1) := by decide +kernel
theorem dX6_addWord_2 : decode cX6_addWord 2 = .ok (.iload_n 2, 1) := by decide +kernel
theorem dX6_addWord_3 : decode cX6_addWord 3 = .ok (.aload_n 1, 1) := by decide +kernel
theorem dX6_addWord_4 : decode cX6_addWord 4 = .ok (.invokevirtual 19, 3) := by decide +kernel
theorem dX6_addWord_7 : decode cX6_addWord 7 = .ok (.if_icmp .ge 18, 3) := by decide +kernel
theorem dX6_addWord_10 : decode cX6_addWord 10 = .ok (.aload_n 0, 1) := by decide +kernel
theorem dX6_addWord_11 : decode cX6_addWord 11 = .ok (.aload_n 1, 1) := by decide +kernel
theorem dX6_addWord_12 : decode cX6_addWord 12 = .ok (.iload_n 2, 1) := by decide +kernel
theorem dX6_addWord_13 : decode cX6_addWord 13 = .ok (.invokevirtual 24, 3) := by decide +kernel
theorem dX6_addWord_16 : decode cX6_addWord 16 = .ok (.invokevirtual 28, 3) := by decide +kernel
theorem dX6_addWord_19 : decode cX6_addWord 19 = .ok (.iinc 2 1, 3) := by decide +kernel
theorem dX6_addWord_22 : decode cX6_addWord 22 = .ok (.goto (-20), 3) := by decide +kernel
theorem dX6_addWord_25 : decode cX6_addWord 25 = .ok (.return_, 1) := by decide +kernel
def f_X6_addWord_1003_B2b (k2 : Int32 → Wd → Option Wd) (l2 : Int32) (w : Wd) : Option Wd :=
  if 3 ≤ l2 then
    some w
  else
    chS 3 l2 fun x1 =>
    bnd (f_X6_addSign x1 w) fun w2 =>
    k2 (l2 + 1) w2
def f_X6_addWord_1003_L2 (n : Nat) : Int32 → Wd → Option Wd :=
  Nat.rec (fun _ _ => none) (fun _ k => f_X6_addWord_1003_B2b k) n
set_option maxHeartbeats 4000000 in
set_option maxRecDepth 100000 in
theorem t_X6_addWord_1003_L2 {G : GT} {d : Nat} (hd : 6 ≤ d + 1)  : ∀ (n : Nat) (l2 : Int32) (w : Wd) (w' : Wd), f_X6_addWord_1003_L2 n l2 w = some w' → U (vf G mX6_addWord (d + 1)) 2 [some (.ref 41), some (.ref 1003), some (.int l2)] [] w (none, 70, r0, w') := by
  intro n
  induction n with
  | zero => intro l2 w w' h; cases h
  | succ n h2 =>
    intro l2 w w' h
    have h : f_X6_addWord_1003_B2b (f_X6_addWord_1003_L2 n) l2 w = some w' := h
    unfold f_X6_addWord_1003_B2b at h
    refine V.iload_n (pc := 2) dX6_addWord_2 rfl ?_
    refine V.aload_n (pc := 3) dX6_addWord_3 rfl ?_
    refine V.slen (j := 3) (v := 3) (pc := 4) dX6_addWord_4 l_RX6_19 (by omega) (by decide) rfl (Nat.le_of_ble_eq_true rfl) ?_
    rcases ite_e h with ⟨c, h⟩ | ⟨c, h⟩
    · refine V.icmp_ge_t (t := 25) (pc := 7) dX6_addWord_7 (by decide) c ?_
      obtain rfl := Option.some.inj h
      exact V.vret (pc := 25) dX6_addWord_25 rfl (Nat.le_refl _) (Nat.le_refl _)
    · refine V.icmp_ge_f (t := 25) (pc := 7) dX6_addWord_7 (by decide) c ?_
      refine V.aload_n (pc := 10) dX6_addWord_10 rfl ?_
      refine V.aload_n (pc := 11) dX6_addWord_11 rfl ?_
      refine V.iload_n (pc := 12) dX6_addWord_12 rfl ?_
      obtain ⟨x1, ix1, ex1, h⟩ := chS_e h
      refine V.schar (j := 3) (pc := 13) dX6_addWord_13 l_RX6_24 (by omega) (by decide) ix1 ex1 (Nat.le_of_ble_eq_true rfl) ?_
      obtain ⟨w2, ew2, h⟩ := bnd_e h
      refine U.callV (pc := 16) (As := [.int x1]) (st := []) dX6_addWord_16 l_RX6_28 (ok_X6_addSign (by omega) x1 ew2) lx_41 ly_41 cn_6 (Nat.le_of_ble_eq_true rfl) rfl rfl (Nat.le_of_ble_eq_true rfl) ?_
      refine V.iinc (lv' := [some (.ref 41), some (.ref 1003), some (.int (l2 + 1))]) (pc := 19) dX6_addWord_19 (Nat.le_of_ble_eq_true rfl) rfl rfl (v := (l2 + 1)) (by rw [show Int32.ofInt 1 = 1 from by decide]) rfl ?_
      refine V.goto (t := 2) (pc := 22) dX6_addWord_22 (by decide) ?_
      exact h2 (l2 + 1) w2 _ h
def f_X6_addWord_1003 (w : Wd) : Option Wd :=
  f_X6_addWord_1003_L2  FU 0 w
set_option maxHeartbeats 4000000 in
set_option maxRecDepth 100000 in
theorem ok_X6_addWord_1003 {G : GT} {d : Nat} (hd : 6 ≤ d) {w : Wd}  {w' : Wd} (h : f_X6_addWord_1003  w = some w') : uC G yX6_addWord mX6_addWord d [.ref 41, .ref 1003] w none w' := by
  obtain ⟨d, rfl⟩ : ∃ e, d = e + 1 := ⟨d - 1, by omega⟩
  unfold f_X6_addWord_1003 at h
  refine uC_of (lv := [some (.ref 41), some (.ref 1003), none]) 1 pn_X6 ⟨rfl, rfl⟩ (Nat.le_of_ble_eq_true rfl) rfl ?_
  refine V.iconst (pc := 0) dX6_addWord_0 ic_0 ?_
  refine V.istore_n (lv' := [some (.ref 41), some (.ref 1003), some (.int 0)]) (pc := 1) dX6_addWord_1 (Nat.le_of_ble_eq_true rfl) rfl rfl ?_
  exact t_X6_addWord_1003_L2 hd FU 0 w _ h
theorem dX6_addEnd_0 : decode cX6_addEnd 0 = .ok (.aload_n 0, 1) := by decide +kernel
theorem dX6_addEnd_1 : decode cX6_addEnd 1 = .ok (.bipush 59, 2) := by decide +kernel
theorem dX6_addEnd_3 : decode cX6_addEnd 3 = .ok (.invokevirtual 28, 3) := by decide +kernel
theorem dX6_addEnd_6 : decode cX6_addEnd 6 = .ok (.return_, 1) := by decide +kernel
def f_X6_addEnd (w : Wd) : Option Wd :=
  bnd (f_X6_addSign 59 w) fun w1 =>
  some w1
set_option maxHeartbeats 4000000 in
set_option maxRecDepth 100000 in
theorem ok_X6_addEnd {G : GT} {d : Nat} (hd : 1 ≤ d) {w : Wd}  {w' : Wd} (h : f_X6_addEnd  w = some w') : uC G yX6_addEnd mX6_addEnd d [.ref 41] w none w' := by
  obtain ⟨d, rfl⟩ : ∃ e, d = e + 1 := ⟨d - 1, by omega⟩
  unfold f_X6_addEnd at h
  refine uC_of (lv := [some (.ref 41)]) 0 pn_X6 ⟨rfl, rfl⟩ (Nat.le_of_ble_eq_true rfl) rfl ?_
  refine V.aload_n (pc := 0) dX6_addEnd_0 rfl ?_
  refine V.bipush (pc := 1) dX6_addEnd_1 bp_59 ?_
  obtain ⟨w1, ew1, h⟩ := bnd_e h
  refine U.callV (pc := 3) (As := [.int 59]) (st := []) dX6_addEnd_3 l_RX6_28 (ok_X6_addSign (by omega) 59 ew1) lx_41 ly_41 cn_6 (Nat.le_of_ble_eq_true rfl) rfl rfl (Nat.le_of_ble_eq_true rfl) ?_
  obtain rfl := Option.some.inj h
  exact V.vret (pc := 6) dX6_addEnd_6 rfl (Nat.le_refl _) (Nat.le_refl _)
theorem dX6_addNumber_0 : decode cX6_addNumber 0 = .ok (.aload_n 0, 1) := by decide +kernel
theorem dX6_addNumber_1 : decode cX6_addNumber 1 = .ok (.bipush 32, 2) := by decide +kernel
theorem dX6_addNumber_3 : decode cX6_addNumber 3 = .ok (.invokevirtual 28, 3) := by decide +kernel
theorem dX6_addNumber_6 : decode cX6_addNumber 6 = .ok (.iload_n 1, 1) := by decide +kernel
theorem dX6_addNumber_7 : decode cX6_addNumber 7 = .ok (.bipush 100, 2) := by decide +kernel
theorem dX6_addNumber_9 : decode cX6_addNumber 9 = .ok (.if_icmp .lt 14, 3) := by decide +kernel
theorem dX6_addNumber_12 : decode cX6_addNumber 12 = .ok (.aload_n 0, 1) := by decide +kernel
theorem dX6_addNumber_13 : decode cX6_addNumber 13 = .ok (.bipush 48, 2) := by decide +kernel
theorem dX6_addNumber_15 : decode cX6_addNumber 15 = .ok (.iload_n 1, 1) := by decide +kernel
theorem dX6_addNumber_16 : decode cX6_addNumber 16 = .ok (.bipush 100, 2) := by decide +kernel
theorem dX6_addNumber_18 : decode cX6_addNumber 18 = .ok (.idiv, 1) := by decide +kernel
theorem dX6_addNumber_19 : decode cX6_addNumber 19 = .ok (.iadd, 1) := by decide +kernel
theorem dX6_addNumber_20 : decode cX6_addNumber 20 = .ok (.invokevirtual 28, 3) := by decide +kernel
theorem dX6_addNumber_23 : decode cX6_addNumber 23 = .ok (.iload_n 1, 1) := by decide +kernel
theorem dX6_addNumber_24 : decode cX6_addNumber 24 = .ok (.bipush 10, 2) := by decide +kernel
theorem dX6_addNumber_26 : decode cX6_addNumber 26 = .ok (.if_icmp .lt 17, 3) := by decide +kernel
theorem dX6_addNumber_29 : decode cX6_addNumber 29 = .ok (.aload_n 0, 1) := by decide +kernel
theorem dX6_addNumber_30 : decode cX6_addNumber 30 = .ok (.bipush 48, 2) := by decide +kernel
theorem dX6_addNumber_32 : decode cX6_addNumber 32 = .ok (.iload_n 1, 1) := by decide +kernel
theorem dX6_addNumber_33 : decode cX6_addNumber 33 = .ok (.bipush 10, 2) := by decide +kernel
theorem dX6_addNumber_35 : decode cX6_addNumber 35 = .ok (.idiv, 1) := by decide +kernel
theorem dX6_addNumber_36 : decode cX6_addNumber 36 = .ok (.bipush 10, 2) := by decide +kernel
theorem dX6_addNumber_38 : decode cX6_addNumber 38 = .ok (.irem, 1) := by decide +kernel
theorem dX6_addNumber_39 : decode cX6_addNumber 39 = .ok (.iadd, 1) := by decide +kernel
theorem dX6_addNumber_40 : decode cX6_addNumber 40 = .ok (.invokevirtual 28, 3) := by decide +kernel
theorem dX6_addNumber_43 : decode cX6_addNumber 43 = .ok (.aload_n 0, 1) := by decide +kernel
theorem dX6_addNumber_44 : decode cX6_addNumber 44 = .ok (.bipush 48, 2) := by decide +kernel
theorem dX6_addNumber_46 : decode cX6_addNumber 46 = .ok (.iload_n 1, 1) := by decide +kernel
theorem dX6_addNumber_47 : decode cX6_addNumber 47 = .ok (.bipush 10, 2) := by decide +kernel
theorem dX6_addNumber_49 : decode cX6_addNumber 49 = .ok (.irem, 1) := by decide +kernel
theorem dX6_addNumber_50 : decode cX6_addNumber 50 = .ok (.iadd, 1) := by decide +kernel
theorem dX6_addNumber_51 : decode cX6_addNumber 51 = .ok (.invokevirtual 28, 3) := by decide +kernel
theorem dX6_addNumber_54 : decode cX6_addNumber 54 = .ok (.return_, 1) := by decide +kernel
def f_X6_addNumber_J23 (l1 : Int32) (w : Wd) : Option Wd :=
  if l1 < 10 then
    bnd (f_X6_addSign (48 + (rem32 l1 10)) w) fun w1 =>
    some w1
  else
    bnd (f_X6_addSign (48 + (rem32 (l1 / 10) 10)) w) fun w2 =>
    bnd (f_X6_addSign (48 + (rem32 l1 10)) w2) fun w3 =>
    some w3
set_option maxHeartbeats 4000000 in
set_option maxRecDepth 100000 in
theorem t_X6_addNumber_J23 {G : GT} {d : Nat} (hd : 1 ≤ d + 1)  : ∀ (l1 : Int32) (w : Wd) (w' : Wd), f_X6_addNumber_J23 l1 w = some w' → U (vf G mX6_addNumber (d + 1)) 23 [some (.ref 41), some (.int l1)] [] w (none, 70, r0, w') := by
  intro l1 w w' h
  unfold f_X6_addNumber_J23 at h
  refine V.iload_n (pc := 23) dX6_addNumber_23 rfl ?_
  refine V.bipush (pc := 24) dX6_addNumber_24 bp_10 ?_
  rcases ite_e h with ⟨c, h⟩ | ⟨c, h⟩
  · refine V.icmp_lt_t (t := 43) (pc := 26) dX6_addNumber_26 (by decide) c ?_
    refine V.aload_n (pc := 43) dX6_addNumber_43 rfl ?_
    refine V.bipush (pc := 44) dX6_addNumber_44 bp_48 ?_
    refine V.iload_n (pc := 46) dX6_addNumber_46 rfl ?_
    refine V.bipush (pc := 47) dX6_addNumber_47 bp_10 ?_
    refine V.irem (pc := 49) dX6_addNumber_49 (by decide) ?_
    refine V.iadd (pc := 50) dX6_addNumber_50 ?_
    obtain ⟨w1, ew1, h⟩ := bnd_e h
    refine U.callV (pc := 51) (As := [.int (48 + (rem32 l1 10))]) (st := []) dX6_addNumber_51 l_RX6_28 (ok_X6_addSign (by omega) (48 + (rem32 l1 10)) ew1) lx_41 ly_41 cn_6 (Nat.le_of_ble_eq_true rfl) rfl rfl (Nat.le_of_ble_eq_true rfl) ?_
    obtain rfl := Option.some.inj h
    exact V.vret (pc := 54) dX6_addNumber_54 rfl (Nat.le_refl _) (Nat.le_refl _)
  · refine V.icmp_lt_f (t := 43) (pc := 26) dX6_addNumber_26 (by decide) c ?_
    refine V.aload_n (pc := 29) dX6_addNumber_29 rfl ?_
    refine V.bipush (pc := 30) dX6_addNumber_30 bp_48 ?_
    refine V.iload_n (pc := 32) dX6_addNumber_32 rfl ?_
    refine V.bipush (pc := 33) dX6_addNumber_33 bp_10 ?_
    refine V.idiv (pc := 35) dX6_addNumber_35 (by decide) ?_
    refine V.bipush (pc := 36) dX6_addNumber_36 bp_10 ?_
    refine V.irem (pc := 38) dX6_addNumber_38 (by decide) ?_
    refine V.iadd (pc := 39) dX6_addNumber_39 ?_
    obtain ⟨w2, ew2, h⟩ := bnd_e h
    refine U.callV (pc := 40) (As := [.int (48 + (rem32 (l1 / 10) 10))]) (st := []) dX6_addNumber_40 l_RX6_28 (ok_X6_addSign (by omega) (48 + (rem32 (l1 / 10) 10)) ew2) lx_41 ly_41 cn_6 (Nat.le_of_ble_eq_true rfl) rfl rfl (Nat.le_of_ble_eq_true rfl) ?_
    refine V.aload_n (pc := 43) dX6_addNumber_43 rfl ?_
    refine V.bipush (pc := 44) dX6_addNumber_44 bp_48 ?_
    refine V.iload_n (pc := 46) dX6_addNumber_46 rfl ?_
    refine V.bipush (pc := 47) dX6_addNumber_47 bp_10 ?_
    refine V.irem (pc := 49) dX6_addNumber_49 (by decide) ?_
    refine V.iadd (pc := 50) dX6_addNumber_50 ?_
    obtain ⟨w3, ew3, h⟩ := bnd_e h
    refine U.callV (pc := 51) (As := [.int (48 + (rem32 l1 10))]) (st := []) dX6_addNumber_51 l_RX6_28 (ok_X6_addSign (by omega) (48 + (rem32 l1 10)) ew3) lx_41 ly_41 cn_6 (Nat.le_of_ble_eq_true rfl) rfl rfl (Nat.le_of_ble_eq_true rfl) ?_
    obtain rfl := Option.some.inj h
    exact V.vret (pc := 54) dX6_addNumber_54 rfl (Nat.le_refl _) (Nat.le_refl _)
def f_X6_addNumber (l1 : Int32) (w : Wd) : Option Wd :=
  bnd (f_X6_addSign 32 w) fun w1 =>
  if l1 < 100 then
    f_X6_addNumber_J23  l1 w1
  else
    bnd (f_X6_addSign (48 + (l1 / 100)) w1) fun w2 =>
    f_X6_addNumber_J23  l1 w2
set_option maxHeartbeats 4000000 in
set_option maxRecDepth 100000 in
theorem ok_X6_addNumber {G : GT} {d : Nat} (hd : 1 ≤ d) {w : Wd} (l1 : Int32) {w' : Wd} (h : f_X6_addNumber l1 w = some w') : uC G yX6_addNumber mX6_addNumber d [.ref 41, .int l1] w none w' := by
  obtain ⟨d, rfl⟩ : ∃ e, d = e + 1 := ⟨d - 1, by omega⟩
  unfold f_X6_addNumber at h
  refine uC_of (lv := [some (.ref 41), some (.int l1)]) 0 pn_X6 ⟨rfl, rfl⟩ (Nat.le_of_ble_eq_true rfl) rfl ?_
  refine V.aload_n (pc := 0) dX6_addNumber_0 rfl ?_
  refine V.bipush (pc := 1) dX6_addNumber_1 bp_32 ?_
  obtain ⟨w1, ew1, h⟩ := bnd_e h
  refine U.callV (pc := 3) (As := [.int 32]) (st := []) dX6_addNumber_3 l_RX6_28 (ok_X6_addSign (by omega) 32 ew1) lx_41 ly_41 cn_6 (Nat.le_of_ble_eq_true rfl) rfl rfl (Nat.le_of_ble_eq_true rfl) ?_
  refine V.iload_n (pc := 6) dX6_addNumber_6 rfl ?_
  refine V.bipush (pc := 7) dX6_addNumber_7 bp_100 ?_
  rcases ite_e h with ⟨c, h⟩ | ⟨c, h⟩
  · refine V.icmp_lt_t (t := 23) (pc := 9) dX6_addNumber_9 (by decide) c ?_
    exact t_X6_addNumber_J23 hd l1 w1 _ h
  · refine V.icmp_lt_f (t := 23) (pc := 9) dX6_addNumber_9 (by decide) c ?_
    refine V.aload_n (pc := 12) dX6_addNumber_12 rfl ?_
    refine V.bipush (pc := 13) dX6_addNumber_13 bp_48 ?_
    refine V.iload_n (pc := 15) dX6_addNumber_15 rfl ?_
    refine V.bipush (pc := 16) dX6_addNumber_16 bp_100 ?_
    refine V.idiv (pc := 18) dX6_addNumber_18 (by decide) ?_
    refine V.iadd (pc := 19) dX6_addNumber_19 ?_
    obtain ⟨w2, ew2, h⟩ := bnd_e h
    refine U.callV (pc := 20) (As := [.int (48 + (l1 / 100))]) (st := []) dX6_addNumber_20 l_RX6_28 (ok_X6_addSign (by omega) (48 + (l1 / 100)) ew2) lx_41 ly_41 cn_6 (Nat.le_of_ble_eq_true rfl) rfl rfl (Nat.le_of_ble_eq_true rfl) ?_
    exact t_X6_addNumber_J23 hd l1 w2 _ h
def f_X6_addWord_1001_B2b (k2 : Int32 → Wd → Option Wd) (l2 : Int32) (w : Wd) : Option Wd :=
  if 8 ≤ l2 then
    some w
  else
    chS 1 l2 fun x1 =>
    bnd (f_X6_addSign x1 w) fun w2 =>
    k2 (l2 + 1) w2
def f_X6_addWord_1001_L2 (n : Nat) : Int32 → Wd → Option Wd :=
  Nat.rec (fun _ _ => none) (fun _ k => f_X6_addWord_1001_B2b k) n
set_option maxHeartbeats 4000000 in
set_option maxRecDepth 100000 in
theorem t_X6_addWord_1001_L2 {G : GT} {d : Nat} (hd : 6 ≤ d + 1)  : ∀ (n : Nat) (l2 : Int32) (w : Wd) (w' : Wd), f_X6_addWord_1001_L2 n l2 w = some w' → U (vf G mX6_addWord (d + 1)) 2 [some (.ref 41), some (.ref 1001), some (.int l2)] [] w (none, 70, r0, w') := by
  intro n
  induction n with
  | zero => intro l2 w w' h; cases h
  | succ n h2 =>
    intro l2 w w' h
    have h : f_X6_addWord_1001_B2b (f_X6_addWord_1001_L2 n) l2 w = some w' := h
    unfold f_X6_addWord_1001_B2b at h
    refine V.iload_n (pc := 2) dX6_addWord_2 rfl ?_
    refine V.aload_n (pc := 3) dX6_addWord_3 rfl ?_
    refine V.slen (j := 1) (v := 8) (pc := 4) dX6_addWord_4 l_RX6_19 (by omega) (by decide) rfl (Nat.le_of_ble_eq_true rfl) ?_
    rcases ite_e h with ⟨c, h⟩ | ⟨c, h⟩
    · refine V.icmp_ge_t (t := 25) (pc := 7) dX6_addWord_7 (by decide) c ?_
      obtain rfl := Option.some.inj h
      exact V.vret (pc := 25) dX6_addWord_25 rfl (Nat.le_refl _) (Nat.le_refl _)
    · refine V.icmp_ge_f (t := 25) (pc := 7) dX6_addWord_7 (by decide) c ?_
      refine V.aload_n (pc := 10) dX6_addWord_10 rfl ?_
      refine V.aload_n (pc := 11) dX6_addWord_11 rfl ?_
      refine V.iload_n (pc := 12) dX6_addWord_12 rfl ?_
      obtain ⟨x1, ix1, ex1, h⟩ := chS_e h
      refine V.schar (j := 1) (pc := 13) dX6_addWord_13 l_RX6_24 (by omega) (by decide) ix1 ex1 (Nat.le_of_ble_eq_true rfl) ?_
      obtain ⟨w2, ew2, h⟩ := bnd_e h
      refine U.callV (pc := 16) (As := [.int x1]) (st := []) dX6_addWord_16 l_RX6_28 (ok_X6_addSign (by omega) x1 ew2) lx_41 ly_41 cn_6 (Nat.le_of_ble_eq_true rfl) rfl rfl (Nat.le_of_ble_eq_true rfl) ?_
      refine V.iinc (lv' := [some (.ref 41), some (.ref 1001), some (.int (l2 + 1))]) (pc := 19) dX6_addWord_19 (Nat.le_of_ble_eq_true rfl) rfl rfl (v := (l2 + 1)) (by rw [show Int32.ofInt 1 = 1 from by decide]) rfl ?_
      refine V.goto (t := 2) (pc := 22) dX6_addWord_22 (by decide) ?_
      exact h2 (l2 + 1) w2 _ h
def f_X6_addWord_1001 (w : Wd) : Option Wd :=
  f_X6_addWord_1001_L2  FU 0 w
set_option maxHeartbeats 4000000 in
set_option maxRecDepth 100000 in
theorem ok_X6_addWord_1001 {G : GT} {d : Nat} (hd : 6 ≤ d) {w : Wd}  {w' : Wd} (h : f_X6_addWord_1001  w = some w') : uC G yX6_addWord mX6_addWord d [.ref 41, .ref 1001] w none w' := by
  obtain ⟨d, rfl⟩ : ∃ e, d = e + 1 := ⟨d - 1, by omega⟩
  unfold f_X6_addWord_1001 at h
  refine uC_of (lv := [some (.ref 41), some (.ref 1001), none]) 1 pn_X6 ⟨rfl, rfl⟩ (Nat.le_of_ble_eq_true rfl) rfl ?_
  refine V.iconst (pc := 0) dX6_addWord_0 ic_0 ?_
  refine V.istore_n (lv' := [some (.ref 41), some (.ref 1001), some (.int 0)]) (pc := 1) dX6_addWord_1 (Nat.le_of_ble_eq_true rfl) rfl rfl ?_
  exact t_X6_addWord_1001_L2 hd FU 0 w _ h
theorem dX6_addCounted_0 : decode cX6_addCounted 0 = .ok (.aload_n 0, 1) := by decide +kernel
theorem dX6_addCounted_1 : decode cX6_addCounted 1 = .ok (.aload_n 1, 1) := by decide +kernel
theorem dX6_addCounted_2 : decode cX6_addCounted 2 = .ok (.invokevirtual 32, 3) := by decide +kernel
theorem dX6_addCounted_5 : decode cX6_addCounted 5 = .ok (.aload_n 0, 1) := by decide +kernel
theorem dX6_addCounted_6 : decode cX6_addCounted 6 = .ok (.iload_n 2, 1) := by decide +kernel
theorem dX6_addCounted_7 : decode cX6_addCounted 7 = .ok (.invokevirtual 36, 3) := by decide +kernel
theorem dX6_addCounted_10 : decode cX6_addCounted 10 = .ok (.aload_n 0, 1) := by decide +kernel
theorem dX6_addCounted_11 : decode cX6_addCounted 11 = .ok (.invokevirtual 39, 3) := by decide +kernel
theorem dX6_addCounted_14 : decode cX6_addCounted 14 = .ok (.return_, 1) := by decide +kernel
def f_X6_addCounted_1001 (l2 : Int32) (w : Wd) : Option Wd :=
  bnd (f_X6_addWord_1001  w) fun w1 =>
  bnd (f_X6_addNumber l2 w1) fun w2 =>
  bnd (f_X6_addEnd  w2) fun w3 =>
  some w3
set_option maxHeartbeats 4000000 in
set_option maxRecDepth 100000 in
theorem ok_X6_addCounted_1001 {G : GT} {d : Nat} (hd : 7 ≤ d) {w : Wd} (l2 : Int32) {w' : Wd} (h : f_X6_addCounted_1001 l2 w = some w') : uC G yX6_addCounted mX6_addCounted d [.ref 41, .ref 1001, .int l2] w none w' := by
  obtain ⟨d, rfl⟩ : ∃ e, d = e + 1 := ⟨d - 1, by omega⟩
  unfold f_X6_addCounted_1001 at h
  refine uC_of (lv := [some (.ref 41), some (.ref 1001), some (.int l2)]) 0 pn_X6 ⟨rfl, rfl⟩ (Nat.le_of_ble_eq_true rfl) rfl ?_
  refine V.aload_n (pc := 0) dX6_addCounted_0 rfl ?_
  refine V.aload_n (pc := 1) dX6_addCounted_1 rfl ?_
  obtain ⟨w1, ew1, h⟩ := bnd_e h
  refine U.callV (pc := 2) (As := [.ref 1001]) (st := []) dX6_addCounted_2 l_RX6_32 (ok_X6_addWord_1001 (by omega)  ew1) lx_41 ly_41 cn_6 (Nat.le_of_ble_eq_true rfl) rfl rfl (Nat.le_of_ble_eq_true rfl) ?_
  refine V.aload_n (pc := 5) dX6_addCounted_5 rfl ?_
  refine V.iload_n (pc := 6) dX6_addCounted_6 rfl ?_
  obtain ⟨w2, ew2, h⟩ := bnd_e h
  refine U.callV (pc := 7) (As := [.int l2]) (st := []) dX6_addCounted_7 l_RX6_36 (ok_X6_addNumber (by omega) l2 ew2) lx_41 ly_41 cn_6 (Nat.le_of_ble_eq_true rfl) rfl rfl (Nat.le_of_ble_eq_true rfl) ?_
  refine V.aload_n (pc := 10) dX6_addCounted_10 rfl ?_
  obtain ⟨w3, ew3, h⟩ := bnd_e h
  refine U.callV (pc := 11) (As := []) (st := []) dX6_addCounted_11 l_RX6_39 (ok_X6_addEnd (by omega)  ew3) lx_41 ly_41 cn_6 (Nat.le_of_ble_eq_true rfl) rfl rfl (Nat.le_of_ble_eq_true rfl) ?_
  obtain rfl := Option.some.inj h
  exact V.vret (pc := 14) dX6_addCounted_14 rfl (Nat.le_refl _) (Nat.le_refl _)
def f_X6_addWord_1000_B2b (k2 : Int32 → Wd → Option Wd) (l2 : Int32) (w : Wd) : Option Wd :=
  if 6 ≤ l2 then
    some w
  else
    chS 0 l2 fun x1 =>
    bnd (f_X6_addSign x1 w) fun w2 =>
    k2 (l2 + 1) w2
def f_X6_addWord_1000_L2 (n : Nat) : Int32 → Wd → Option Wd :=
  Nat.rec (fun _ _ => none) (fun _ k => f_X6_addWord_1000_B2b k) n
set_option maxHeartbeats 4000000 in
set_option maxRecDepth 100000 in
theorem t_X6_addWord_1000_L2 {G : GT} {d : Nat} (hd : 6 ≤ d + 1)  : ∀ (n : Nat) (l2 : Int32) (w : Wd) (w' : Wd), f_X6_addWord_1000_L2 n l2 w = some w' → U (vf G mX6_addWord (d + 1)) 2 [some (.ref 41), some (.ref 1000), some (.int l2)] [] w (none, 70, r0, w') := by
  intro n
  induction n with
  | zero => intro l2 w w' h; cases h
  | succ n h2 =>
    intro l2 w w' h
    have h : f_X6_addWord_1000_B2b (f_X6_addWord_1000_L2 n) l2 w = some w' := h
    unfold f_X6_addWord_1000_B2b at h
    refine V.iload_n (pc := 2) dX6_addWord_2 rfl ?_
    refine V.aload_n (pc := 3) dX6_addWord_3 rfl ?_
    refine V.slen (j := 0) (v := 6) (pc := 4) dX6_addWord_4 l_RX6_19 (by omega) (by decide) rfl (Nat.le_of_ble_eq_true rfl) ?_
    rcases ite_e h with ⟨c, h⟩ | ⟨c, h⟩
    · refine V.icmp_ge_t (t := 25) (pc := 7) dX6_addWord_7 (by decide) c ?_
      obtain rfl := Option.some.inj h
      exact V.vret (pc := 25) dX6_addWord_25 rfl (Nat.le_refl _) (Nat.le_refl _)
    · refine V.icmp_ge_f (t := 25) (pc := 7) dX6_addWord_7 (by decide) c ?_
      refine V.aload_n (pc := 10) dX6_addWord_10 rfl ?_
      refine V.aload_n (pc := 11) dX6_addWord_11 rfl ?_
      refine V.iload_n (pc := 12) dX6_addWord_12 rfl ?_
      obtain ⟨x1, ix1, ex1, h⟩ := chS_e h
      refine V.schar (j := 0) (pc := 13) dX6_addWord_13 l_RX6_24 (by omega) (by decide) ix1 ex1 (Nat.le_of_ble_eq_true rfl) ?_
      obtain ⟨w2, ew2, h⟩ := bnd_e h
      refine U.callV (pc := 16) (As := [.int x1]) (st := []) dX6_addWord_16 l_RX6_28 (ok_X6_addSign (by omega) x1 ew2) lx_41 ly_41 cn_6 (Nat.le_of_ble_eq_true rfl) rfl rfl (Nat.le_of_ble_eq_true rfl) ?_
      refine V.iinc (lv' := [some (.ref 41), some (.ref 1000), some (.int (l2 + 1))]) (pc := 19) dX6_addWord_19 (Nat.le_of_ble_eq_true rfl) rfl rfl (v := (l2 + 1)) (by rw [show Int32.ofInt 1 = 1 from by decide]) rfl ?_
      refine V.goto (t := 2) (pc := 22) dX6_addWord_22 (by decide) ?_
      exact h2 (l2 + 1) w2 _ h
def f_X6_addWord_1000 (w : Wd) : Option Wd :=
  f_X6_addWord_1000_L2  FU 0 w
set_option maxHeartbeats 4000000 in
set_option maxRecDepth 100000 in
theorem ok_X6_addWord_1000 {G : GT} {d : Nat} (hd : 6 ≤ d) {w : Wd}  {w' : Wd} (h : f_X6_addWord_1000  w = some w') : uC G yX6_addWord mX6_addWord d [.ref 41, .ref 1000] w none w' := by
  obtain ⟨d, rfl⟩ : ∃ e, d = e + 1 := ⟨d - 1, by omega⟩
  unfold f_X6_addWord_1000 at h
  refine uC_of (lv := [some (.ref 41), some (.ref 1000), none]) 1 pn_X6 ⟨rfl, rfl⟩ (Nat.le_of_ble_eq_true rfl) rfl ?_
  refine V.iconst (pc := 0) dX6_addWord_0 ic_0 ?_
  refine V.istore_n (lv' := [some (.ref 41), some (.ref 1000), some (.int 0)]) (pc := 1) dX6_addWord_1 (Nat.le_of_ble_eq_true rfl) rfl rfl ?_
  exact t_X6_addWord_1000_L2 hd FU 0 w _ h
def f_X6_addCounted_1000 (l2 : Int32) (w : Wd) : Option Wd :=
  bnd (f_X6_addWord_1000  w) fun w1 =>
  bnd (f_X6_addNumber l2 w1) fun w2 =>
  bnd (f_X6_addEnd  w2) fun w3 =>
  some w3
set_option maxHeartbeats 4000000 in
set_option maxRecDepth 100000 in
theorem ok_X6_addCounted_1000 {G : GT} {d : Nat} (hd : 7 ≤ d) {w : Wd} (l2 : Int32) {w' : Wd} (h : f_X6_addCounted_1000 l2 w = some w') : uC G yX6_addCounted mX6_addCounted d [.ref 41, .ref 1000, .int l2] w none w' := by
  obtain ⟨d, rfl⟩ : ∃ e, d = e + 1 := ⟨d - 1, by omega⟩
  unfold f_X6_addCounted_1000 at h
  refine uC_of (lv := [some (.ref 41), some (.ref 1000), some (.int l2)]) 0 pn_X6 ⟨rfl, rfl⟩ (Nat.le_of_ble_eq_true rfl) rfl ?_
  refine V.aload_n (pc := 0) dX6_addCounted_0 rfl ?_
  refine V.aload_n (pc := 1) dX6_addCounted_1 rfl ?_
  obtain ⟨w1, ew1, h⟩ := bnd_e h
  refine U.callV (pc := 2) (As := [.ref 1000]) (st := []) dX6_addCounted_2 l_RX6_32 (ok_X6_addWord_1000 (by omega)  ew1) lx_41 ly_41 cn_6 (Nat.le_of_ble_eq_true rfl) rfl rfl (Nat.le_of_ble_eq_true rfl) ?_
  refine V.aload_n (pc := 5) dX6_addCounted_5 rfl ?_
  refine V.iload_n (pc := 6) dX6_addCounted_6 rfl ?_
  obtain ⟨w2, ew2, h⟩ := bnd_e h
  refine U.callV (pc := 7) (As := [.int l2]) (st := []) dX6_addCounted_7 l_RX6_36 (ok_X6_addNumber (by omega) l2 ew2) lx_41 ly_41 cn_6 (Nat.le_of_ble_eq_true rfl) rfl rfl (Nat.le_of_ble_eq_true rfl) ?_
  refine V.aload_n (pc := 10) dX6_addCounted_10 rfl ?_
  obtain ⟨w3, ew3, h⟩ := bnd_e h
  refine U.callV (pc := 11) (As := []) (st := []) dX6_addCounted_11 l_RX6_39 (ok_X6_addEnd (by omega)  ew3) lx_41 ly_41 cn_6 (Nat.le_of_ble_eq_true rfl) rfl rfl (Nat.le_of_ble_eq_true rfl) ?_
  obtain rfl := Option.some.inj h
  exact V.vret (pc := 14) dX6_addCounted_14 rfl (Nat.le_refl _) (Nat.le_refl _)
def f_X6_addWord_1002_B2b (k2 : Int32 → Wd → Option Wd) (l2 : Int32) (w : Wd) : Option Wd :=
  if 10 ≤ l2 then
    some w
  else
    chS 2 l2 fun x1 =>
    bnd (f_X6_addSign x1 w) fun w2 =>
    k2 (l2 + 1) w2
def f_X6_addWord_1002_L2 (n : Nat) : Int32 → Wd → Option Wd :=
  Nat.rec (fun _ _ => none) (fun _ k => f_X6_addWord_1002_B2b k) n
set_option maxHeartbeats 4000000 in
set_option maxRecDepth 100000 in
theorem t_X6_addWord_1002_L2 {G : GT} {d : Nat} (hd : 6 ≤ d + 1)  : ∀ (n : Nat) (l2 : Int32) (w : Wd) (w' : Wd), f_X6_addWord_1002_L2 n l2 w = some w' → U (vf G mX6_addWord (d + 1)) 2 [some (.ref 41), some (.ref 1002), some (.int l2)] [] w (none, 70, r0, w') := by
  intro n
  induction n with
  | zero => intro l2 w w' h; cases h
  | succ n h2 =>
    intro l2 w w' h
    have h : f_X6_addWord_1002_B2b (f_X6_addWord_1002_L2 n) l2 w = some w' := h
    unfold f_X6_addWord_1002_B2b at h
    refine V.iload_n (pc := 2) dX6_addWord_2 rfl ?_
    refine V.aload_n (pc := 3) dX6_addWord_3 rfl ?_
    refine V.slen (j := 2) (v := 10) (pc := 4) dX6_addWord_4 l_RX6_19 (by omega) (by decide) rfl (Nat.le_of_ble_eq_true rfl) ?_
    rcases ite_e h with ⟨c, h⟩ | ⟨c, h⟩
    · refine V.icmp_ge_t (t := 25) (pc := 7) dX6_addWord_7 (by decide) c ?_
      obtain rfl := Option.some.inj h
      exact V.vret (pc := 25) dX6_addWord_25 rfl (Nat.le_refl _) (Nat.le_refl _)
    · refine V.icmp_ge_f (t := 25) (pc := 7) dX6_addWord_7 (by decide) c ?_
      refine V.aload_n (pc := 10) dX6_addWord_10 rfl ?_
      refine V.aload_n (pc := 11) dX6_addWord_11 rfl ?_
      refine V.iload_n (pc := 12) dX6_addWord_12 rfl ?_
      obtain ⟨x1, ix1, ex1, h⟩ := chS_e h
      refine V.schar (j := 2) (pc := 13) dX6_addWord_13 l_RX6_24 (by omega) (by decide) ix1 ex1 (Nat.le_of_ble_eq_true rfl) ?_
      obtain ⟨w2, ew2, h⟩ := bnd_e h
      refine U.callV (pc := 16) (As := [.int x1]) (st := []) dX6_addWord_16 l_RX6_28 (ok_X6_addSign (by omega) x1 ew2) lx_41 ly_41 cn_6 (Nat.le_of_ble_eq_true rfl) rfl rfl (Nat.le_of_ble_eq_true rfl) ?_
      refine V.iinc (lv' := [some (.ref 41), some (.ref 1002), some (.int (l2 + 1))]) (pc := 19) dX6_addWord_19 (Nat.le_of_ble_eq_true rfl) rfl rfl (v := (l2 + 1)) (by rw [show Int32.ofInt 1 = 1 from by decide]) rfl ?_
      refine V.goto (t := 2) (pc := 22) dX6_addWord_22 (by decide) ?_
      exact h2 (l2 + 1) w2 _ h
def f_X6_addWord_1002 (w : Wd) : Option Wd :=
  f_X6_addWord_1002_L2  FU 0 w
set_option maxHeartbeats 4000000 in
set_option maxRecDepth 100000 in
theorem ok_X6_addWord_1002 {G : GT} {d : Nat} (hd : 6 ≤ d) {w : Wd}  {w' : Wd} (h : f_X6_addWord_1002  w = some w') : uC G yX6_addWord mX6_addWord d [.ref 41, .ref 1002] w none w' := by
  obtain ⟨d, rfl⟩ : ∃ e, d = e + 1 := ⟨d - 1, by omega⟩
  unfold f_X6_addWord_1002 at h
  refine uC_of (lv := [some (.ref 41), some (.ref 1002), none]) 1 pn_X6 ⟨rfl, rfl⟩ (Nat.le_of_ble_eq_true rfl) rfl ?_
  refine V.iconst (pc := 0) dX6_addWord_0 ic_0 ?_
  refine V.istore_n (lv' := [some (.ref 41), some (.ref 1002), some (.int 0)]) (pc := 1) dX6_addWord_1 (Nat.le_of_ble_eq_true rfl) rfl rfl ?_
  exact t_X6_addWord_1002_L2 hd FU 0 w _ h
theorem dX11_spellFactor_0 : decode cX11_spellFactor 0 = .ok (.aload_n 0, 1) := by decide +kernel
theorem dX11_spellFactor_1 : decode cX11_spellFactor 1 = .ok (.getfield 28, 3) := by decide +kernel
theorem dX11_spellFactor_4 : decode cX11_spellFactor 4 = .ok (.getfield 338, 3) := by decide +kernel
theorem dX11_spellFactor_7 : decode cX11_spellFactor 7 = .ok (.iload_n 1, 1) := by decide +kernel
theorem dX11_spellFactor_8 : decode cX11_spellFactor 8 = .ok (.iaload, 1) := by decide +kernel
theorem dX11_spellFactor_9 : decode cX11_spellFactor 9 = .ok (.istore_n 2, 1) := by decide +kernel
theorem dX11_spellFactor_10 : decode cX11_spellFactor 10 = .ok (.iload_n 2, 1) := by decide +kernel
theorem dX11_spellFactor_11 : decode cX11_spellFactor 11 = .ok (.iconst 2, 1) := by decide +kernel
theorem dX11_spellFactor_12 : decode cX11_spellFactor 12 = .ok (.if_icmp .ne 23, 3) := by decide +kernel
theorem dX11_spellFactor_15 : decode cX11_spellFactor 15 = .ok (.aload_n 0, 1) := by decide +kernel
theorem dX11_spellFactor_16 : decode cX11_spellFactor 16 = .ok (.getfield 81, 3) := by decide +kernel
theorem dX11_spellFactor_19 : decode cX11_spellFactor 19 = .ok (.ldc_w 341, 3) := by decide +kernel
theorem dX11_spellFactor_22 : decode cX11_spellFactor 22 = .ok (.invokevirtual 288, 3) := by decide +kernel
theorem dX11_spellFactor_25 : decode cX11_spellFactor 25 = .ok (.aload_n 0, 1) := by decide +kernel
theorem dX11_spellFactor_26 : decode cX11_spellFactor 26 = .ok (.getfield 81, 3) := by decide +kernel
theorem dX11_spellFactor_29 : decode cX11_spellFactor 29 = .ok (.invokevirtual 295, 3) := by decide +kernel
theorem dX11_spellFactor_32 : decode cX11_spellFactor 32 = .ok (.goto 32, 3) := by decide +kernel
theorem dX11_spellFactor_35 : decode cX11_spellFactor 35 = .ok (.aload_n 0, 1) := by decide +kernel
theorem dX11_spellFactor_36 : decode cX11_spellFactor 36 = .ok (.getfield 81, 3) := by decide +kernel
theorem dX11_spellFactor_39 : decode cX11_spellFactor 39 = .ok (.iload_n 2, 1) := by decide +kernel
theorem dX11_spellFactor_40 : decode cX11_spellFactor 40 = .ok (.ifCond .ne 9, 3) := by decide +kernel
theorem dX11_spellFactor_43 : decode cX11_spellFactor 43 = .ok (.ldc_w 343, 3) := by decide +kernel
theorem dX11_spellFactor_46 : decode cX11_spellFactor 46 = .ok (.goto 6, 3) := by decide +kernel
theorem dX11_spellFactor_49 : decode cX11_spellFactor 49 = .ok (.ldc_w 345, 3) := by decide +kernel
theorem dX11_spellFactor_52 : decode cX11_spellFactor 52 = .ok (.aload_n 0, 1) := by decide +kernel
theorem dX11_spellFactor_53 : decode cX11_spellFactor 53 = .ok (.getfield 28, 3) := by decide +kernel
theorem dX11_spellFactor_56 : decode cX11_spellFactor 56 = .ok (.getfield 347, 3) := by decide +kernel
theorem dX11_spellFactor_59 : decode cX11_spellFactor 59 = .ok (.iload_n 1, 1) := by decide +kernel
theorem dX11_spellFactor_60 : decode cX11_spellFactor 60 = .ok (.iaload, 1) := by decide +kernel
theorem dX11_spellFactor_61 : decode cX11_spellFactor 61 = .ok (.invokevirtual 302, 3) := by decide +kernel
theorem dX11_spellFactor_64 : decode cX11_spellFactor 64 = .ok (.return_, 1) := by decide +kernel
def f_X11_spellFactor (l1 : Int32) (w : Wd) : Option Wd :=
  rdI w 7 4 l1 fun x1 =>
  if x1 = 2 then
    bnd (f_X6_addWord_1002  w) fun w6 =>
    bnd (f_X6_addEnd  w6) fun w7 =>
    some w7
  else
    if x1 = 0 then
      rdI w 8 4 l1 fun x4 =>
      bnd (f_X6_addCounted_1000 x4 w) fun w5 =>
      some w5
    else
      rdI w 8 4 l1 fun x2 =>
      bnd (f_X6_addCounted_1001 x2 w) fun w3 =>
      some w3
set_option maxHeartbeats 4000000 in
set_option maxRecDepth 100000 in
theorem ok_X11_spellFactor {G : GT} {d : Nat} (hd : 8 ≤ d) {w : Wd} (l1 : Int32) {w' : Wd} (h : f_X11_spellFactor l1 w = some w') : uC G yX11_spellFactor mX11_spellFactor d [.ref 0, .int l1] w none w' := by
  obtain ⟨d, rfl⟩ : ∃ e, d = e + 1 := ⟨d - 1, by omega⟩
  unfold f_X11_spellFactor at h
  refine uC_of (lv := [some (.ref 0), some (.int l1), none]) 1 pn_X11 ⟨rfl, rfl⟩ (Nat.le_of_ble_eq_true rfl) rfl ?_
  refine V.aload_n (pc := 0) dX11_spellFactor_0 rfl ?_
  refine V.getR (t := 6) (pc := 1) dX11_spellFactor_1 f_RX11_28 k_cl11 lx_0 ly_0 rb_11_2 rr_0_2 ?_
  refine V.getR (t := 7) (pc := 4) dX11_spellFactor_4 f_RX11_338 k_cl4 lx_6 ly_6 rb_4_0 rr_6_0 ?_
  refine V.iload_n (pc := 7) dX11_spellFactor_7 rfl ?_
  obtain ⟨x1, ix1, ex1, h⟩ := rdI_e h
  refine V.ialdX (pc := 8) dX11_spellFactor_8 lx_7 ly_7 ix1 ex1 ?_
  refine V.istore_n (lv' := [some (.ref 0), some (.int l1), some (.int x1)]) (pc := 9) dX11_spellFactor_9 (Nat.le_of_ble_eq_true rfl) rfl rfl ?_
  refine V.iload_n (pc := 10) dX11_spellFactor_10 rfl ?_
  refine V.iconst (pc := 11) dX11_spellFactor_11 ic_2 ?_
  rcases ite_e h with ⟨c, h⟩ | ⟨c, h⟩
  · refine V.icmp_ne_f (t := 35) (pc := 12) dX11_spellFactor_12 (by decide) c ?_
    refine V.aload_n (pc := 15) dX11_spellFactor_15 rfl ?_
    refine V.getR (t := 41) (pc := 16) dX11_spellFactor_16 f_RX11_81 k_cl11 lx_0 ly_0 rb_11_9 rr_0_9 ?_
    refine V.ldcwS (j := 2) (pc := 19) dX11_spellFactor_19 (List.mem_of_getElem? (i := 4) rfl) ?_
    obtain ⟨w6, ew6, h⟩ := bnd_e h
    refine U.callV (pc := 22) (As := [.ref 1002]) (st := []) dX11_spellFactor_22 l_RX11_288 (ok_X6_addWord_1002 (by omega)  ew6) lx_41 ly_41 cn_6 (Nat.le_of_ble_eq_true rfl) rfl rfl (Nat.le_of_ble_eq_true rfl) ?_
    refine V.aload_n (pc := 25) dX11_spellFactor_25 rfl ?_
    refine V.getR (t := 41) (pc := 26) dX11_spellFactor_26 f_RX11_81 k_cl11 lx_0 ly_0 rb_11_9 rr_0_9 ?_
    obtain ⟨w7, ew7, h⟩ := bnd_e h
    refine U.callV (pc := 29) (As := []) (st := []) dX11_spellFactor_29 l_RX11_295 (ok_X6_addEnd (by omega)  ew7) lx_41 ly_41 cn_6 (Nat.le_of_ble_eq_true rfl) rfl rfl (Nat.le_of_ble_eq_true rfl) ?_
    refine V.goto (t := 64) (pc := 32) dX11_spellFactor_32 (by decide) ?_
    obtain rfl := Option.some.inj h
    exact V.vret (pc := 64) dX11_spellFactor_64 rfl (Nat.le_refl _) (Nat.le_refl _)
  · refine V.icmp_ne_t (t := 35) (pc := 12) dX11_spellFactor_12 (by decide) c ?_
    refine V.aload_n (pc := 35) dX11_spellFactor_35 rfl ?_
    refine V.getR (t := 41) (pc := 36) dX11_spellFactor_36 f_RX11_81 k_cl11 lx_0 ly_0 rb_11_9 rr_0_9 ?_
    refine V.iload_n (pc := 39) dX11_spellFactor_39 rfl ?_
    rcases ite_e h with ⟨c, h⟩ | ⟨c, h⟩
    · refine V.if_ne_f (t := 49) (pc := 40) dX11_spellFactor_40 (by decide) c ?_
      refine V.ldcwS (j := 0) (pc := 43) dX11_spellFactor_43 (List.mem_of_getElem? (i := 5) rfl) ?_
      refine V.goto (t := 52) (pc := 46) dX11_spellFactor_46 (by decide) ?_
      refine V.aload_n (pc := 52) dX11_spellFactor_52 rfl ?_
      refine V.getR (t := 6) (pc := 53) dX11_spellFactor_53 f_RX11_28 k_cl11 lx_0 ly_0 rb_11_2 rr_0_2 ?_
      refine V.getR (t := 8) (pc := 56) dX11_spellFactor_56 f_RX11_347 k_cl4 lx_6 ly_6 rb_4_1 rr_6_1 ?_
      refine V.iload_n (pc := 59) dX11_spellFactor_59 rfl ?_
      obtain ⟨x4, ix4, ex4, h⟩ := rdI_e h
      refine V.ialdX (pc := 60) dX11_spellFactor_60 lx_8 ly_8 ix4 ex4 ?_
      obtain ⟨w5, ew5, h⟩ := bnd_e h
      refine U.callV (pc := 61) (As := [.ref 1000, .int x4]) (st := []) dX11_spellFactor_61 l_RX11_302 (ok_X6_addCounted_1000 (by omega) x4 ew5) lx_41 ly_41 cn_6 (Nat.le_of_ble_eq_true rfl) rfl rfl (Nat.le_of_ble_eq_true rfl) ?_
      obtain rfl := Option.some.inj h
      exact V.vret (pc := 64) dX11_spellFactor_64 rfl (Nat.le_refl _) (Nat.le_refl _)
    · refine V.if_ne_t (t := 49) (pc := 40) dX11_spellFactor_40 (by decide) c ?_
      refine V.ldcwS (j := 1) (pc := 49) dX11_spellFactor_49 (List.mem_of_getElem? (i := 6) rfl) ?_
      refine V.aload_n (pc := 52) dX11_spellFactor_52 rfl ?_
      refine V.getR (t := 6) (pc := 53) dX11_spellFactor_53 f_RX11_28 k_cl11 lx_0 ly_0 rb_11_2 rr_0_2 ?_
      refine V.getR (t := 8) (pc := 56) dX11_spellFactor_56 f_RX11_347 k_cl4 lx_6 ly_6 rb_4_1 rr_6_1 ?_
      refine V.iload_n (pc := 59) dX11_spellFactor_59 rfl ?_
      obtain ⟨x2, ix2, ex2, h⟩ := rdI_e h
      refine V.ialdX (pc := 60) dX11_spellFactor_60 lx_8 ly_8 ix2 ex2 ?_
      obtain ⟨w3, ew3, h⟩ := bnd_e h
      refine U.callV (pc := 61) (As := [.ref 1001, .int x2]) (st := []) dX11_spellFactor_61 l_RX11_302 (ok_X6_addCounted_1001 (by omega) x2 ew3) lx_41 ly_41 cn_6 (Nat.le_of_ble_eq_true rfl) rfl rfl (Nat.le_of_ble_eq_true rfl) ?_
      obtain rfl := Option.some.inj h
      exact V.vret (pc := 64) dX11_spellFactor_64 rfl (Nat.le_refl _) (Nat.le_refl _)
theorem dX11_spell_0 : decode cX11_spell 0 = .ok (.iload_n 1, 1) := by decide +kernel
theorem dX11_spell_1 : decode cX11_spell 1 = .ok (.iconst (-1), 1) := by decide +kernel
theorem dX11_spell_2 : decode cX11_spell 2 = .ok (.if_icmp .ge 5, 3) := by decide +kernel
theorem dX11_spell_5 : decode cX11_spell 5 = .ok (.iconst (-1), 1) := by decide +kernel
theorem dX11_spell_6 : decode cX11_spell 6 = .ok (.ireturn, 1) := by decide +kernel
theorem dX11_spell_7 : decode cX11_spell 7 = .ok (.aload_n 0, 1) := by decide +kernel
theorem dX11_spell_8 : decode cX11_spell 8 = .ok (.getfield 81, 3) := by decide +kernel
theorem dX11_spell_11 : decode cX11_spell 11 = .ok (.invokevirtual 278, 3) := by decide +kernel
theorem dX11_spell_14 : decode cX11_spell 14 = .ok (.iconst 0, 1) := by decide +kernel
theorem dX11_spell_15 : decode cX11_spell 15 = .ok (.istore_n 2, 1) := by decide +kernel
theorem dX11_spell_16 : decode cX11_spell 16 = .ok (.iload_n 2, 1) := by decide +kernel
theorem dX11_spell_17 : decode cX11_spell 17 = .ok (.aload_n 0, 1) := by decide +kernel
theorem dX11_spell_18 : decode cX11_spell 18 = .ok (.getfield 28, 3) := by decide +kernel
theorem dX11_spell_21 : decode cX11_spell 21 = .ok (.getfield 281, 3) := by decide +kernel
theorem dX11_spell_24 : decode cX11_spell 24 = .ok (.if_icmp .ge 14, 3) := by decide +kernel
theorem dX11_spell_27 : decode cX11_spell 27 = .ok (.aload_n 0, 1) := by decide +kernel
theorem dX11_spell_28 : decode cX11_spell 28 = .ok (.iload_n 2, 1) := by decide +kernel
theorem dX11_spell_29 : decode cX11_spell 29 = .ok (.invokevirtual 284, 3) := by decide +kernel
theorem dX11_spell_32 : decode cX11_spell 32 = .ok (.iinc 2 1, 3) := by decide +kernel
theorem dX11_spell_35 : decode cX11_spell 35 = .ok (.goto (-19), 3) := by decide +kernel
theorem dX11_spell_38 : decode cX11_spell 38 = .ok (.aload_n 0, 1) := by decide +kernel
theorem dX11_spell_39 : decode cX11_spell 39 = .ok (.getfield 74, 3) := by decide +kernel
theorem dX11_spell_42 : decode cX11_spell 42 = .ok (.invokevirtual 111, 3) := by decide +kernel
theorem dX11_spell_45 : decode cX11_spell 45 = .ok (.ifCond .eq 61, 3) := by decide +kernel
theorem dX11_spell_48 : decode cX11_spell 48 = .ok (.aload_n 0, 1) := by decide +kernel
theorem dX11_spell_49 : decode cX11_spell 49 = .ok (.getfield 81, 3) := by decide +kernel
theorem dX11_spell_52 : decode cX11_spell 52 = .ok (.ldc_w 287, 3) := by decide +kernel
theorem dX11_spell_55 : decode cX11_spell 55 = .ok (.invokevirtual 288, 3) := by decide +kernel
theorem dX11_spell_58 : decode cX11_spell 58 = .ok (.iconst 0, 1) := by decide +kernel
theorem dX11_spell_59 : decode cX11_spell 59 = .ok (.istore_n 2, 1) := by decide +kernel
theorem dX11_spell_60 : decode cX11_spell 60 = .ok (.iload_n 2, 1) := by decide +kernel
theorem dX11_spell_61 : decode cX11_spell 61 = .ok (.aload_n 0, 1) := by decide +kernel
theorem dX11_spell_62 : decode cX11_spell 62 = .ok (.getfield 28, 3) := by decide +kernel
theorem dX11_spell_65 : decode cX11_spell 65 = .ok (.getfield 104, 3) := by decide +kernel
theorem dX11_spell_68 : decode cX11_spell 68 = .ok (.if_icmp .ge 31, 3) := by decide +kernel
theorem dX11_spell_71 : decode cX11_spell 71 = .ok (.aload_n 0, 1) := by decide +kernel
theorem dX11_spell_72 : decode cX11_spell 72 = .ok (.getfield 74, 3) := by decide +kernel
theorem dX11_spell_75 : decode cX11_spell 75 = .ok (.invokevirtual 111, 3) := by decide +kernel
theorem dX11_spell_78 : decode cX11_spell 78 = .ok (.iload_n 2, 1) := by decide +kernel
theorem dX11_spell_79 : decode cX11_spell 79 = .ok (.ishr, 1) := by decide +kernel
theorem dX11_spell_80 : decode cX11_spell 80 = .ok (.iconst 1, 1) := by decide +kernel
theorem dX11_spell_81 : decode cX11_spell 81 = .ok (.iand, 1) := by decide +kernel
theorem dX11_spell_82 : decode cX11_spell 82 = .ok (.ifCond .eq 11, 3) := by decide +kernel
theorem dX11_spell_85 : decode cX11_spell 85 = .ok (.aload_n 0, 1) := by decide +kernel
theorem dX11_spell_86 : decode cX11_spell 86 = .ok (.getfield 81, 3) := by decide +kernel
theorem dX11_spell_89 : decode cX11_spell 89 = .ok (.iload_n 2, 1) := by decide +kernel
theorem dX11_spell_90 : decode cX11_spell 90 = .ok (.invokevirtual 292, 3) := by decide +kernel
theorem dX11_spell_93 : decode cX11_spell 93 = .ok (.iinc 2 1, 3) := by decide +kernel
theorem dX11_spell_96 : decode cX11_spell 96 = .ok (.goto (-36), 3) := by decide +kernel
theorem dX11_spell_99 : decode cX11_spell 99 = .ok (.aload_n 0, 1) := by decide +kernel
theorem dX11_spell_100 : decode cX11_spell 100 = .ok (.getfield 81, 3) := by decide +kernel
theorem dX11_spell_103 : decode cX11_spell 103 = .ok (.invokevirtual 295, 3) := by decide +kernel
theorem dX11_spell_106 : decode cX11_spell 106 = .ok (.aload_n 0, 1) := by decide +kernel
theorem dX11_spell_107 : decode cX11_spell 107 = .ok (.getfield 81, 3) := by decide +kernel
theorem dX11_spell_110 : decode cX11_spell 110 = .ok (.iload_n 1, 1) := by decide +kernel
theorem dX11_spell_111 : decode cX11_spell 111 = .ok (.invokevirtual 298, 3) := by decide +kernel
theorem dX11_spell_114 : decode cX11_spell 114 = .ok (.ireturn, 1) := by decide +kernel
def f_X11_spell_B60b (k60 : Int32 → Int32 → Wd → Option (Int32 × Wd)) (l1 : Int32) (l2 : Int32) (w : Wd) : Option (Int32 × Wd) :=
  if (w.1 6 7) ≤ l2 then
    bnd (f_X6_addEnd  w) fun w1 =>
    bnd (f_X6_answer l1 w1) fun x2 =>
    some (x2, w1)
  else
    bnd (f_X0_set  w) fun x3 =>
    if ((x3 >>> (l2 &&& 31)) &&& 1) = 0 then
      k60 l1 (l2 + 1) w
    else
      bnd (f_X6_addNumber l2 w) fun w4 =>
      k60 l1 (l2 + 1) w4
def f_X11_spell_L60 (n : Nat) : Int32 → Int32 → Wd → Option (Int32 × Wd) :=
  Nat.rec (fun _ _ _ => none) (fun _ k => f_X11_spell_B60b k) n
set_option maxHeartbeats 4000000 in
set_option maxRecDepth 100000 in
theorem t_X11_spell_L60 {G : GT} {d : Nat} (hd : 9 ≤ d + 1)  : ∀ (n : Nat) (l1 : Int32) (l2 : Int32) (w : Wd) (r : Int32) (w' : Wd), f_X11_spell_L60 n l1 l2 w = some (r, w') → U (vf G mX11_spell (d + 1)) 60 [some (.ref 0), some (.int l1), some (.int l2)] [] w (some (.int r), 70, r0, w') := by
  intro n
  induction n with
  | zero => intro l1 l2 w r w' h; cases h
  | succ n h60 =>
    intro l1 l2 w r w' h
    have h : f_X11_spell_B60b (f_X11_spell_L60 n) l1 l2 w = some (r, w') := h
    unfold f_X11_spell_B60b at h
    refine V.iload_n (pc := 60) dX11_spell_60 rfl ?_
    refine V.aload_n (pc := 61) dX11_spell_61 rfl ?_
    refine V.getR (t := 6) (pc := 62) dX11_spell_62 f_RX11_28 k_cl11 lx_0 ly_0 rb_11_2 rr_0_2 ?_
    refine V.getI (pc := 65) dX11_spell_65 f_RX11_104 k_cl4 lx_6 ly_6 rb_4_7 ?_
    rcases ite_e h with ⟨c, h⟩ | ⟨c, h⟩
    · refine V.icmp_ge_t (t := 99) (pc := 68) dX11_spell_68 (by decide) c ?_
      refine V.aload_n (pc := 99) dX11_spell_99 rfl ?_
      refine V.getR (t := 41) (pc := 100) dX11_spell_100 f_RX11_81 k_cl11 lx_0 ly_0 rb_11_9 rr_0_9 ?_
      obtain ⟨w1, ew1, h⟩ := bnd_e h
      refine U.callV (pc := 103) (As := []) (st := []) dX11_spell_103 l_RX11_295 (ok_X6_addEnd (by omega)  ew1) lx_41 ly_41 cn_6 (Nat.le_of_ble_eq_true rfl) rfl rfl (Nat.le_of_ble_eq_true rfl) ?_
      refine V.aload_n (pc := 106) dX11_spell_106 rfl ?_
      refine V.getR (t := 41) (pc := 107) dX11_spell_107 f_RX11_81 k_cl11 lx_0 ly_0 rb_11_9 rr_0_9 ?_
      refine V.iload_n (pc := 110) dX11_spell_110 rfl ?_
      obtain ⟨x2, ex2, h⟩ := bnd_e h
      refine U.callV (pc := 111) (As := [.int l1]) (st := []) dX11_spell_111 l_RX11_298 (ok_X6_answer (by omega) l1 ex2) lx_41 ly_41 cn_6 (Nat.le_of_ble_eq_true rfl) rfl rfl (Nat.le_of_ble_eq_true rfl) ?_
      obtain ⟨rfl, rfl⟩ := Prod.mk.inj (Option.some.inj h)
      exact V.iret (pc := 114) dX11_spell_114 rfl (Nat.le_refl _) (Nat.le_refl _)
    · refine V.icmp_ge_f (t := 99) (pc := 68) dX11_spell_68 (by decide) c ?_
      refine V.aload_n (pc := 71) dX11_spell_71 rfl ?_
      refine V.getR (t := 37) (pc := 72) dX11_spell_72 f_RX11_74 k_cl11 lx_0 ly_0 rb_11_8 rr_0_8 ?_
      obtain ⟨x3, ex3, h⟩ := bnd_e h
      refine U.callV (pc := 75) (As := []) (st := []) dX11_spell_75 l_RX11_111 (ok_X0_set (by omega)  ex3) lx_37 ly_37 cn_0 (Nat.le_of_ble_eq_true rfl) rfl rfl (Nat.le_of_ble_eq_true rfl) ?_
      refine V.iload_n (pc := 78) dX11_spell_78 rfl ?_
      refine V.ishr (pc := 79) dX11_spell_79 ?_
      refine V.iconst (pc := 80) dX11_spell_80 ic_1 ?_
      refine V.iand (pc := 81) dX11_spell_81 ?_
      rcases ite_e h with ⟨c, h⟩ | ⟨c, h⟩
      · refine V.if_eq_t (t := 93) (pc := 82) dX11_spell_82 (by decide) c ?_
        refine V.iinc (lv' := [some (.ref 0), some (.int l1), some (.int (l2 + 1))]) (pc := 93) dX11_spell_93 (Nat.le_of_ble_eq_true rfl) rfl rfl (v := (l2 + 1)) (by rw [show Int32.ofInt 1 = 1 from by decide]) rfl ?_
        refine V.goto (t := 60) (pc := 96) dX11_spell_96 (by decide) ?_
        exact h60 l1 (l2 + 1) w _ _ h
      · refine V.if_eq_f (t := 93) (pc := 82) dX11_spell_82 (by decide) c ?_
        refine V.aload_n (pc := 85) dX11_spell_85 rfl ?_
        refine V.getR (t := 41) (pc := 86) dX11_spell_86 f_RX11_81 k_cl11 lx_0 ly_0 rb_11_9 rr_0_9 ?_
        refine V.iload_n (pc := 89) dX11_spell_89 rfl ?_
        obtain ⟨w4, ew4, h⟩ := bnd_e h
        refine U.callV (pc := 90) (As := [.int l2]) (st := []) dX11_spell_90 l_RX11_292 (ok_X6_addNumber (by omega) l2 ew4) lx_41 ly_41 cn_6 (Nat.le_of_ble_eq_true rfl) rfl rfl (Nat.le_of_ble_eq_true rfl) ?_
        refine V.iinc (lv' := [some (.ref 0), some (.int l1), some (.int (l2 + 1))]) (pc := 93) dX11_spell_93 (Nat.le_of_ble_eq_true rfl) rfl rfl (v := (l2 + 1)) (by rw [show Int32.ofInt 1 = 1 from by decide]) rfl ?_
        refine V.goto (t := 60) (pc := 96) dX11_spell_96 (by decide) ?_
        exact h60 l1 (l2 + 1) w4 _ _ h
def f_X11_spell_B16b (k16 : Int32 → Int32 → Wd → Option (Int32 × Wd)) (l1 : Int32) (l2 : Int32) (w : Wd) : Option (Int32 × Wd) :=
  if (w.1 6 6) ≤ l2 then
    bnd (f_X0_set  w) fun x1 =>
    if x1 = 0 then
      bnd (f_X6_answer l1 w) fun x2 =>
      some (x2, w)
    else
      bnd (f_X6_addWord_1003  w) fun w3 =>
      f_X11_spell_L60  FU l1 0 w3
  else
    bnd (f_X11_spellFactor l2 w) fun w4 =>
    k16 l1 (l2 + 1) w4
def f_X11_spell_L16 (n : Nat) : Int32 → Int32 → Wd → Option (Int32 × Wd) :=
  Nat.rec (fun _ _ _ => none) (fun _ k => f_X11_spell_B16b k) n
set_option maxHeartbeats 4000000 in
set_option maxRecDepth 100000 in
theorem t_X11_spell_L16 {G : GT} {d : Nat} (hd : 9 ≤ d + 1)  : ∀ (n : Nat) (l1 : Int32) (l2 : Int32) (w : Wd) (r : Int32) (w' : Wd), f_X11_spell_L16 n l1 l2 w = some (r, w') → U (vf G mX11_spell (d + 1)) 16 [some (.ref 0), some (.int l1), some (.int l2)] [] w (some (.int r), 70, r0, w') := by
  intro n
  induction n with
  | zero => intro l1 l2 w r w' h; cases h
  | succ n h16 =>
    intro l1 l2 w r w' h
    have h : f_X11_spell_B16b (f_X11_spell_L16 n) l1 l2 w = some (r, w') := h
    unfold f_X11_spell_B16b at h
    refine V.iload_n (pc := 16) dX11_spell_16 rfl ?_
    refine V.aload_n (pc := 17) dX11_spell_17 rfl ?_
    refine V.getR (t := 6) (pc := 18) dX11_spell_18 f_RX11_28 k_cl11 lx_0 ly_0 rb_11_2 rr_0_2 ?_
    refine V.getI (pc := 21) dX11_spell_21 f_RX11_281 k_cl4 lx_6 ly_6 rb_4_6 ?_
    rcases ite_e h with ⟨c, h⟩ | ⟨c, h⟩
    · refine V.icmp_ge_t (t := 38) (pc := 24) dX11_spell_24 (by decide) c ?_
      refine V.aload_n (pc := 38) dX11_spell_38 rfl ?_
      refine V.getR (t := 37) (pc := 39) dX11_spell_39 f_RX11_74 k_cl11 lx_0 ly_0 rb_11_8 rr_0_8 ?_
      obtain ⟨x1, ex1, h⟩ := bnd_e h
      refine U.callV (pc := 42) (As := []) (st := []) dX11_spell_42 l_RX11_111 (ok_X0_set (by omega)  ex1) lx_37 ly_37 cn_0 (Nat.le_of_ble_eq_true rfl) rfl rfl (Nat.le_of_ble_eq_true rfl) ?_
      rcases ite_e h with ⟨c, h⟩ | ⟨c, h⟩
      · refine V.if_eq_t (t := 106) (pc := 45) dX11_spell_45 (by decide) c ?_
        refine V.aload_n (pc := 106) dX11_spell_106 rfl ?_
        refine V.getR (t := 41) (pc := 107) dX11_spell_107 f_RX11_81 k_cl11 lx_0 ly_0 rb_11_9 rr_0_9 ?_
        refine V.iload_n (pc := 110) dX11_spell_110 rfl ?_
        obtain ⟨x2, ex2, h⟩ := bnd_e h
        refine U.callV (pc := 111) (As := [.int l1]) (st := []) dX11_spell_111 l_RX11_298 (ok_X6_answer (by omega) l1 ex2) lx_41 ly_41 cn_6 (Nat.le_of_ble_eq_true rfl) rfl rfl (Nat.le_of_ble_eq_true rfl) ?_
        obtain ⟨rfl, rfl⟩ := Prod.mk.inj (Option.some.inj h)
        exact V.iret (pc := 114) dX11_spell_114 rfl (Nat.le_refl _) (Nat.le_refl _)
      · refine V.if_eq_f (t := 106) (pc := 45) dX11_spell_45 (by decide) c ?_
        refine V.aload_n (pc := 48) dX11_spell_48 rfl ?_
        refine V.getR (t := 41) (pc := 49) dX11_spell_49 f_RX11_81 k_cl11 lx_0 ly_0 rb_11_9 rr_0_9 ?_
        refine V.ldcwS (j := 3) (pc := 52) dX11_spell_52 (List.mem_of_getElem? (i := 7) rfl) ?_
        obtain ⟨w3, ew3, h⟩ := bnd_e h
        refine U.callV (pc := 55) (As := [.ref 1003]) (st := []) dX11_spell_55 l_RX11_288 (ok_X6_addWord_1003 (by omega)  ew3) lx_41 ly_41 cn_6 (Nat.le_of_ble_eq_true rfl) rfl rfl (Nat.le_of_ble_eq_true rfl) ?_
        refine V.iconst (pc := 58) dX11_spell_58 ic_0 ?_
        refine V.istore_n (lv' := [some (.ref 0), some (.int l1), some (.int 0)]) (pc := 59) dX11_spell_59 (Nat.le_of_ble_eq_true rfl) rfl rfl ?_
        exact t_X11_spell_L60 hd FU l1 0 w3 _ _ h
    · refine V.icmp_ge_f (t := 38) (pc := 24) dX11_spell_24 (by decide) c ?_
      refine V.aload_n (pc := 27) dX11_spell_27 rfl ?_
      refine V.iload_n (pc := 28) dX11_spell_28 rfl ?_
      obtain ⟨w4, ew4, h⟩ := bnd_e h
      refine U.callV (pc := 29) (As := [.int l2]) (st := []) dX11_spell_29 l_RX11_284 (ok_X11_spellFactor (by omega) l2 ew4) lx_0 ly_0 cn_11 (Nat.le_of_ble_eq_true rfl) rfl rfl (Nat.le_of_ble_eq_true rfl) ?_
      refine V.iinc (lv' := [some (.ref 0), some (.int l1), some (.int (l2 + 1))]) (pc := 32) dX11_spell_32 (Nat.le_of_ble_eq_true rfl) rfl rfl (v := (l2 + 1)) (by rw [show Int32.ofInt 1 = 1 from by decide]) rfl ?_
      refine V.goto (t := 16) (pc := 35) dX11_spell_35 (by decide) ?_
      exact h16 l1 (l2 + 1) w4 _ _ h
def f_X11_spell (l1 : Int32) (w : Wd) : Option (Int32 × Wd) :=
  if (-1) ≤ l1 then
    letW (f_X6_clear  w) fun w1 =>
    f_X11_spell_L16  FU l1 0 w1
  else
    some ((-1), w)
set_option maxHeartbeats 4000000 in
set_option maxRecDepth 100000 in
theorem ok_X11_spell {G : GT} {d : Nat} (hd : 9 ≤ d) {w : Wd} (l1 : Int32) {r : Int32} {w' : Wd} (h : f_X11_spell l1 w = some (r, w')) : uC G yX11_spell mX11_spell d [.ref 0, .int l1] w (some (.int r)) w' := by
  obtain ⟨d, rfl⟩ : ∃ e, d = e + 1 := ⟨d - 1, by omega⟩
  unfold f_X11_spell at h
  refine uC_of (lv := [some (.ref 0), some (.int l1), none]) 1 pn_X11 ⟨rfl, rfl⟩ (Nat.le_of_ble_eq_true rfl) rfl ?_
  refine V.iload_n (pc := 0) dX11_spell_0 rfl ?_
  refine V.iconst (pc := 1) dX11_spell_1 ic_m1 ?_
  rcases ite_e h with ⟨c, h⟩ | ⟨c, h⟩
  · refine V.icmp_ge_t (t := 7) (pc := 2) dX11_spell_2 (by decide) c ?_
    refine V.aload_n (pc := 7) dX11_spell_7 rfl ?_
    refine V.getR (t := 41) (pc := 8) dX11_spell_8 f_RX11_81 k_cl11 lx_0 ly_0 rb_11_9 rr_0_9 ?_
    obtain ⟨w1, ew1, h⟩ := letW_e h
    refine U.callV (pc := 11) (As := []) (st := []) dX11_spell_11 l_RX11_278 (ok_X6_clear (by omega)  ew1) lx_41 ly_41 cn_6 (Nat.le_of_ble_eq_true rfl) rfl rfl (Nat.le_of_ble_eq_true rfl) ?_
    refine V.iconst (pc := 14) dX11_spell_14 ic_0 ?_
    refine V.istore_n (lv' := [some (.ref 0), some (.int l1), some (.int 0)]) (pc := 15) dX11_spell_15 (Nat.le_of_ble_eq_true rfl) rfl rfl ?_
    exact t_X11_spell_L16 hd FU l1 0 w1 _ _ h
  · refine V.icmp_ge_f (t := 7) (pc := 2) dX11_spell_2 (by decide) c ?_
    refine V.iconst (pc := 5) dX11_spell_5 ic_m1 ?_
    obtain ⟨rfl, rfl⟩ := Prod.mk.inj (Option.some.inj h)
    exact V.iret (pc := 6) dX11_spell_6 rfl (Nat.le_refl _) (Nat.le_refl _)
theorem dX12_toldText_0 : decode cX12_toldText 0 = .ok (.iload_n 1, 1) := by decide +kernel
theorem dX12_toldText_1 : decode cX12_toldText 1 = .ok (.iconst (-1), 1) := by decide +kernel
theorem dX12_toldText_2 : decode cX12_toldText 2 = .ok (.if_icmp .ne 10, 3) := by decide +kernel
theorem dX12_toldText_5 : decode cX12_toldText 5 = .ok (.aload_n 0, 1) := by decide +kernel
theorem dX12_toldText_6 : decode cX12_toldText 6 = .ok (.getfield 261, 3) := by decide +kernel
theorem dX12_toldText_9 : decode cX12_toldText 9 = .ok (.goto 22, 3) := by decide +kernel
theorem dX12_toldText_12 : decode cX12_toldText 12 = .ok (.iload_n 1, 1) := by decide +kernel
theorem dX12_toldText_13 : decode cX12_toldText 13 = .ok (.aload_n 0, 1) := by decide +kernel
theorem dX12_toldText_14 : decode cX12_toldText 14 = .ok (.getfield 261, 3) := by decide +kernel
theorem dX12_toldText_17 : decode cX12_toldText 17 = .ok (.if_icmp .ge 12, 3) := by decide +kernel
theorem dX12_toldText_20 : decode cX12_toldText 20 = .ok (.aload_n 0, 1) := by decide +kernel
theorem dX12_toldText_21 : decode cX12_toldText 21 = .ok (.getfield 76, 3) := by decide +kernel
theorem dX12_toldText_24 : decode cX12_toldText 24 = .ok (.iload_n 1, 1) := by decide +kernel
theorem dX12_toldText_25 : decode cX12_toldText 25 = .ok (.iaload, 1) := by decide +kernel
theorem dX12_toldText_26 : decode cX12_toldText 26 = .ok (.goto 5, 3) := by decide +kernel
theorem dX12_toldText_29 : decode cX12_toldText 29 = .ok (.bipush (-2), 2) := by decide +kernel
theorem dX12_toldText_31 : decode cX12_toldText 31 = .ok (.ireturn, 1) := by decide +kernel
def f_X12_toldText (l1 : Int32) (w : Wd) : Option Int32 :=
  if l1 = (-1) then
    some (w.1 44 28)
  else
    if (w.1 44 28) ≤ l1 then
      some (-2)
    else
      rdI w 65 200 l1 fun x1 =>
      some x1
set_option maxHeartbeats 4000000 in
set_option maxRecDepth 100000 in
theorem ok_X12_toldText {G : GT} {d : Nat} (hd : 0 ≤ d) {w : Wd} (l1 : Int32) {r : Int32} (h : f_X12_toldText l1 w = some r) : uC G yX12_toldText mX12_toldText d [.ref 44, .int l1] w (some (.int r)) w := by
  unfold f_X12_toldText at h
  refine uC_of (lv := [some (.ref 44), some (.int l1)]) 0 pn_X12 ⟨rfl, rfl⟩ (Nat.le_of_ble_eq_true rfl) rfl ?_
  refine V.iload_n (pc := 0) dX12_toldText_0 rfl ?_
  refine V.iconst (pc := 1) dX12_toldText_1 ic_m1 ?_
  rcases ite_e h with ⟨c, h⟩ | ⟨c, h⟩
  · refine V.icmp_ne_f (t := 12) (pc := 2) dX12_toldText_2 (by decide) c ?_
    refine V.aload_n (pc := 5) dX12_toldText_5 rfl ?_
    refine V.getI (pc := 6) dX12_toldText_6 f_RX12_261 k_cl12 lx_44 ly_44 rb_12_28 ?_
    refine V.goto (t := 31) (pc := 9) dX12_toldText_9 (by decide) ?_
    obtain rfl := Option.some.inj h
    exact V.iret (pc := 31) dX12_toldText_31 rfl (Nat.le_refl _) (Nat.le_refl _)
  · refine V.icmp_ne_t (t := 12) (pc := 2) dX12_toldText_2 (by decide) c ?_
    refine V.iload_n (pc := 12) dX12_toldText_12 rfl ?_
    refine V.aload_n (pc := 13) dX12_toldText_13 rfl ?_
    refine V.getI (pc := 14) dX12_toldText_14 f_RX12_261 k_cl12 lx_44 ly_44 rb_12_28 ?_
    rcases ite_e h with ⟨c, h⟩ | ⟨c, h⟩
    · refine V.icmp_ge_t (t := 29) (pc := 17) dX12_toldText_17 (by decide) c ?_
      refine V.bipush (pc := 29) dX12_toldText_29 bp_m2 ?_
      obtain rfl := Option.some.inj h
      exact V.iret (pc := 31) dX12_toldText_31 rfl (Nat.le_refl _) (Nat.le_refl _)
    · refine V.icmp_ge_f (t := 29) (pc := 17) dX12_toldText_17 (by decide) c ?_
      refine V.aload_n (pc := 20) dX12_toldText_20 rfl ?_
      refine V.getR (t := 65) (pc := 21) dX12_toldText_21 f_RX12_76 k_cl12 lx_44 ly_44 rb_12_27 rr_44_27 ?_
      refine V.iload_n (pc := 24) dX12_toldText_24 rfl ?_
      obtain ⟨x1, ix1, ex1, h⟩ := rdI_e h
      refine V.ialdX (pc := 25) dX12_toldText_25 lx_65 ly_65 ix1 ex1 ?_
      refine V.goto (t := 31) (pc := 26) dX12_toldText_26 (by decide) ?_
      obtain rfl := Option.some.inj h
      exact V.iret (pc := 31) dX12_toldText_31 rfl (Nat.le_refl _) (Nat.le_refl _)
