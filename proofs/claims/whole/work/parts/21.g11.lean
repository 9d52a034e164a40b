theorem dX12_weightOf_0 : decode cX12_weightOf 0 = .ok (.iconst 0, 1) := by decide +kernel
theorem dX12_weightOf_1 : decode cX12_weightOf 1 = .ok (.istore_n 2, 1) := by decide +kernel
theorem dX12_weightOf_2 : decode cX12_weightOf 2 = .ok (.iconst 0, 1) := by decide +kernel
theorem dX12_weightOf_3 : decode cX12_weightOf 3 = .ok (.istore_n 3, 1) := by decide +kernel
theorem dX12_weightOf_4 : decode cX12_weightOf 4 = .ok (.iload_n 3, 1) := by decide +kernel
theorem dX12_weightOf_5 : decode cX12_weightOf 5 = .ok (.aload_n 0, 1) := by decide +kernel
theorem dX12_weightOf_6 : decode cX12_weightOf 6 = .ok (.getfield 92, 3) := by decide +kernel
theorem dX12_weightOf_9 : decode cX12_weightOf 9 = .ok (.if_icmp .ge 28, 3) := by decide +kernel
theorem dX12_weightOf_12 : decode cX12_weightOf 12 = .ok (.iload_n 1, 1) := by decide +kernel
theorem dX12_weightOf_13 : decode cX12_weightOf 13 = .ok (.iload_n 3, 1) := by decide +kernel
theorem dX12_weightOf_14 : decode cX12_weightOf 14 = .ok (.invokestatic 128, 3) := by decide +kernel
theorem dX12_weightOf_17 : decode cX12_weightOf 17 = .ok (.ifCond .eq 14, 3) := by decide +kernel
theorem dX12_weightOf_20 : decode cX12_weightOf 20 = .ok (.iload_n 2, 1) := by decide +kernel
theorem dX12_weightOf_21 : decode cX12_weightOf 21 = .ok (.aload_n 0, 1) := by decide +kernel
theorem dX12_weightOf_22 : decode cX12_weightOf 22 = .ok (.getfield 42, 3) := by decide +kernel
theorem dX12_weightOf_25 : decode cX12_weightOf 25 = .ok (.iconst 4, 1) := by decide +kernel
theorem dX12_weightOf_26 : decode cX12_weightOf 26 = .ok (.iload_n 3, 1) := by decide +kernel
theorem dX12_weightOf_27 : decode cX12_weightOf 27 = .ok (.iadd, 1) := by decide +kernel
theorem dX12_weightOf_28 : decode cX12_weightOf 28 = .ok (.iaload, 1) := by decide +kernel
theorem dX12_weightOf_29 : decode cX12_weightOf 29 = .ok (.iadd, 1) := by decide +kernel
theorem dX12_weightOf_30 : decode cX12_weightOf 30 = .ok (.istore_n 2, 1) := by decide +kernel
theorem dX12_weightOf_31 : decode cX12_weightOf 31 = .ok (.iinc 3 1, 3) := by decide +kernel
theorem dX12_weightOf_34 : decode cX12_weightOf 34 = .ok (.goto (-30), 3) := by decide +kernel
theorem dX12_weightOf_37 : decode cX12_weightOf 37 = .ok (.iload_n 2, 1) := by decide +kernel
theorem dX12_weightOf_38 : decode cX12_weightOf 38 = .ok (.ireturn, 1) := by decide +kernel
def f_X12_weightOf_B4b (k4 : Int32 → Int32 → Int32 → Wd → Option Int32) (l1 : Int32) (l2 : Int32) (l3 : Int32) (w : Wd) : Option Int32 :=
  if (w.1 44 1) ≤ l3 then
    some l2
  else
    if (f_X12_has l1 l3) = 0 then
      k4 l1 l2 (l3 + 1) w
    else
      rdI w 54 20 (4 + l3) fun x1 =>
      k4 l1 (l2 + x1) (l3 + 1) w
def f_X12_weightOf_L4 (n : Nat) : Int32 → Int32 → Int32 → Wd → Option Int32 :=
  Nat.rec (fun _ _ _ _ => none) (fun _ k => f_X12_weightOf_B4b k) n
set_option maxHeartbeats 4000000 in
set_option maxRecDepth 100000 in
theorem t_X12_weightOf_L4 {G : GT} {d : Nat} {w : Wd} (hd : 1 ≤ d + 1)  : ∀ (n : Nat) (l1 : Int32) (l2 : Int32) (l3 : Int32) (r : Int32), f_X12_weightOf_L4 n l1 l2 l3 w = some r → U (vf G mX12_weightOf (d + 1)) 4 [some (.ref 44), some (.int l1), some (.int l2), some (.int l3)] [] w (some (.int r), 70, r0, w) := by
  intro n
  induction n with
  | zero => intro l1 l2 l3 r h; cases h
  | succ n h4 =>
    intro l1 l2 l3 r h
    have h : f_X12_weightOf_B4b (f_X12_weightOf_L4 n) l1 l2 l3 w = some r := h
    unfold f_X12_weightOf_B4b at h
    refine V.iload_n (pc := 4) dX12_weightOf_4 rfl ?_
    refine V.aload_n (pc := 5) dX12_weightOf_5 rfl ?_
    refine V.getI (pc := 6) dX12_weightOf_6 f_RX12_92 k_cl12 lx_44 ly_44 rb_12_1 ?_
    rcases ite_e h with ⟨c, h⟩ | ⟨c, h⟩
    · refine V.icmp_ge_t (t := 37) (pc := 9) dX12_weightOf_9 (by decide) c ?_
      refine V.iload_n (pc := 37) dX12_weightOf_37 rfl ?_
      obtain rfl := Option.some.inj h
      exact V.iret (pc := 38) dX12_weightOf_38 rfl (Nat.le_refl _) (Nat.le_refl _)
    · refine V.icmp_ge_f (t := 37) (pc := 9) dX12_weightOf_9 (by decide) c ?_
      refine V.iload_n (pc := 12) dX12_weightOf_12 rfl ?_
      refine V.iload_n (pc := 13) dX12_weightOf_13 rfl ?_
      refine U.callS (pc := 14) (As := [.int l1, .int l3]) (st := []) dX12_weightOf_14 l_RX12_128 (ok_X12_has (by omega) l1 l3 ) (Nat.le_of_ble_eq_true rfl) rfl rfl (Nat.le_of_ble_eq_true rfl) ?_
      rcases ite_e h with ⟨c, h⟩ | ⟨c, h⟩
      · refine V.if_eq_t (t := 31) (pc := 17) dX12_weightOf_17 (by decide) c ?_
        refine V.iinc (lv' := [some (.ref 44), some (.int l1), some (.int l2), some (.int (l3 + 1))]) (pc := 31) dX12_weightOf_31 (Nat.le_of_ble_eq_true rfl) rfl rfl (v := (l3 + 1)) (by rw [show Int32.ofInt 1 = 1 from by decide]) rfl ?_
        refine V.goto (t := 4) (pc := 34) dX12_weightOf_34 (by decide) ?_
        exact h4 l1 l2 (l3 + 1) _ h
      · refine V.if_eq_f (t := 31) (pc := 17) dX12_weightOf_17 (by decide) c ?_
        refine V.iload_n (pc := 20) dX12_weightOf_20 rfl ?_
        refine V.aload_n (pc := 21) dX12_weightOf_21 rfl ?_
        refine V.getR (t := 54) (pc := 22) dX12_weightOf_22 f_RX12_42 k_cl12 lx_44 ly_44 rb_12_13 rr_44_13 ?_
        refine V.iconst (pc := 25) dX12_weightOf_25 ic_4 ?_
        refine V.iload_n (pc := 26) dX12_weightOf_26 rfl ?_
        refine V.iadd (pc := 27) dX12_weightOf_27 ?_
        obtain ⟨x1, ix1, ex1, h⟩ := rdI_e h
        refine V.ialdX (pc := 28) dX12_weightOf_28 lx_54 ly_54 ix1 ex1 ?_
        refine V.iadd (pc := 29) dX12_weightOf_29 ?_
        refine V.istore_n (lv' := [some (.ref 44), some (.int l1), some (.int (l2 + x1)), some (.int l3)]) (pc := 30) dX12_weightOf_30 (Nat.le_of_ble_eq_true rfl) rfl rfl ?_
        refine V.iinc (lv' := [some (.ref 44), some (.int l1), some (.int (l2 + x1)), some (.int (l3 + 1))]) (pc := 31) dX12_weightOf_31 (Nat.le_of_ble_eq_true rfl) rfl rfl (v := (l3 + 1)) (by rw [show Int32.ofInt 1 = 1 from by decide]) rfl ?_
        refine V.goto (t := 4) (pc := 34) dX12_weightOf_34 (by decide) ?_
        exact h4 l1 (l2 + x1) (l3 + 1) _ h
def f_X12_weightOf (l1 : Int32) (w : Wd) : Option Int32 :=
  f_X12_weightOf_L4  FU l1 0 0 w
set_option maxHeartbeats 4000000 in
set_option maxRecDepth 100000 in
theorem ok_X12_weightOf {G : GT} {d : Nat} (hd : 1 ≤ d) {w : Wd} (l1 : Int32) {r : Int32} (h : f_X12_weightOf l1 w = some r) : uC G yX12_weightOf mX12_weightOf d [.ref 44, .int l1] w (some (.int r)) w := by
  obtain ⟨d, rfl⟩ : ∃ e, d = e + 1 := ⟨d - 1, by omega⟩
  unfold f_X12_weightOf at h
  refine uC_of (lv := [some (.ref 44), some (.int l1), none, none]) 2 pn_X12 ⟨rfl, rfl⟩ (Nat.le_of_ble_eq_true rfl) rfl ?_
  refine V.iconst (pc := 0) dX12_weightOf_0 ic_0 ?_
  refine V.istore_n (lv' := [some (.ref 44), some (.int l1), some (.int 0), none]) (pc := 1) dX12_weightOf_1 (Nat.le_of_ble_eq_true rfl) rfl rfl ?_
  refine V.iconst (pc := 2) dX12_weightOf_2 ic_0 ?_
  refine V.istore_n (lv' := [some (.ref 44), some (.int l1), some (.int 0), some (.int 0)]) (pc := 3) dX12_weightOf_3 (Nat.le_of_ble_eq_true rfl) rfl rfl ?_
  exact t_X12_weightOf_L4 hd FU l1 0 0 _ h
theorem dX12_best_0 : decode cX12_best 0 = .ok (.iload_n 1, 1) := by decide +kernel
theorem dX12_best_1 : decode cX12_best 1 = .ok (.iconst 0, 1) := by decide +kernel
theorem dX12_best_2 : decode cX12_best 2 = .ok (.iconst 1, 1) := by decide +kernel
theorem dX12_best_3 : decode cX12_best 3 = .ok (.invokestatic 139, 3) := by decide +kernel
theorem dX12_best_6 : decode cX12_best 6 = .ok (.ifCond .ne 5, 3) := by decide +kernel
theorem dX12_best_9 : decode cX12_best 9 = .ok (.iconst (-1), 1) := by decide +kernel
theorem dX12_best_10 : decode cX12_best 10 = .ok (.ireturn, 1) := by decide +kernel
theorem dX12_best_11 : decode cX12_best 11 = .ok (.iconst 0, 1) := by decide +kernel
theorem dX12_best_12 : decode cX12_best 12 = .ok (.istore_n 2, 1) := by decide +kernel
theorem dX12_best_13 : decode cX12_best 13 = .ok (.iconst 0, 1) := by decide +kernel
theorem dX12_best_14 : decode cX12_best 14 = .ok (.istore_n 3, 1) := by decide +kernel
theorem dX12_best_15 : decode cX12_best 15 = .ok (.iconst 0, 1) := by decide +kernel
theorem dX12_best_16 : decode cX12_best 16 = .ok (.istore 4, 2) := by decide +kernel
theorem dX12_best_18 : decode cX12_best 18 = .ok (.iload 4, 2) := by decide +kernel
theorem dX12_best_20 : decode cX12_best 20 = .ok (.aload_n 0, 1) := by decide +kernel
theorem dX12_best_21 : decode cX12_best 21 = .ok (.invokevirtual 143, 3) := by decide +kernel
theorem dX12_best_24 : decode cX12_best 24 = .ok (.if_icmp .gt 41, 3) := by decide +kernel
theorem dX12_best_27 : decode cX12_best 27 = .ok (.aload_n 0, 1) := by decide +kernel
theorem dX12_best_28 : decode cX12_best 28 = .ok (.iload 4, 2) := by decide +kernel
theorem dX12_best_30 : decode cX12_best 30 = .ok (.invokevirtual 209, 3) := by decide +kernel
theorem dX12_best_33 : decode cX12_best 33 = .ok (.istore 5, 2) := by decide +kernel
theorem dX12_best_35 : decode cX12_best 35 = .ok (.iload 5, 2) := by decide +kernel
theorem dX12_best_37 : decode cX12_best 37 = .ok (.iload_n 3, 1) := by decide +kernel
theorem dX12_best_38 : decode cX12_best 38 = .ok (.if_icmp .le 21, 3) := by decide +kernel
theorem dX12_best_41 : decode cX12_best 41 = .ok (.aload_n 0, 1) := by decide +kernel
theorem dX12_best_42 : decode cX12_best 42 = .ok (.iload 4, 2) := by decide +kernel
theorem dX12_best_44 : decode cX12_best 44 = .ok (.invokevirtual 150, 3) := by decide +kernel
theorem dX12_best_47 : decode cX12_best 47 = .ok (.ifCond .ne 6, 3) := by decide +kernel
theorem dX12_best_50 : decode cX12_best 50 = .ok (.goto 9, 3) := by decide +kernel
theorem dX12_best_53 : decode cX12_best 53 = .ok (.iload 5, 2) := by decide +kernel
theorem dX12_best_55 : decode cX12_best 55 = .ok (.istore_n 3, 1) := by decide +kernel
theorem dX12_best_56 : decode cX12_best 56 = .ok (.iload 4, 2) := by decide +kernel
theorem dX12_best_58 : decode cX12_best 58 = .ok (.istore_n 2, 1) := by decide +kernel
theorem dX12_best_59 : decode cX12_best 59 = .ok (.iinc 4 1, 3) := by decide +kernel
theorem dX12_best_62 : decode cX12_best 62 = .ok (.goto (-44), 3) := by decide +kernel
theorem dX12_best_65 : decode cX12_best 65 = .ok (.iload_n 1, 1) := by decide +kernel
theorem dX12_best_66 : decode cX12_best 66 = .ok (.ifCond .ne 7, 3) := by decide +kernel
theorem dX12_best_69 : decode cX12_best 69 = .ok (.iload_n 3, 1) := by decide +kernel
theorem dX12_best_70 : decode cX12_best 70 = .ok (.goto 4, 3) := by decide +kernel
theorem dX12_best_73 : decode cX12_best 73 = .ok (.iload_n 2, 1) := by decide +kernel
theorem dX12_best_74 : decode cX12_best 74 = .ok (.ireturn, 1) := by decide +kernel
def f_X12_best_B18b (k18 : Int32 → Int32 → Int32 → Int32 → Wd → Option Int32) (l1 : Int32) (l2 : Int32) (l3 : Int32) (l4 : Int32) (w : Wd) : Option Int32 :=
  if (f_X12_all  w) < l4 then
    if l1 = 0 then
      some l3
    else
      some l2
  else
    bnd (f_X12_weightOf l4 w) fun x1 =>
    if x1 ≤ l3 then
      k18 l1 l2 l3 (l4 + 1) w
    else
      bnd (f_X12_isFree l4 w) fun x2 =>
      if x2 = 0 then
        k18 l1 l2 l3 (l4 + 1) w
      else
        k18 l1 l4 x1 (l4 + 1) w
def f_X12_best_L18 (n : Nat) : Int32 → Int32 → Int32 → Int32 → Wd → Option Int32 :=
  Nat.rec (fun _ _ _ _ _ => none) (fun _ k => f_X12_best_B18b k) n
set_option maxHeartbeats 4000000 in
set_option maxRecDepth 100000 in
theorem t_X12_best_L18 {G : GT} {d : Nat} {w : Wd} (hd : 2 ≤ d + 1)  : ∀ (n : Nat) (l1 : Int32) (l2 : Int32) (l3 : Int32) (l4 : Int32) (r : Int32), f_X12_best_L18 n l1 l2 l3 l4 w = some r → U (vf G mX12_best (d + 1)) 18 [some (.ref 44), some (.int l1), some (.int l2), some (.int l3), some (.int l4), none] [] w (some (.int r), 70, r0, w) := by
  intro n
  induction n with
  | zero => intro l1 l2 l3 l4 r h; cases h
  | succ n h18 =>
    intro l1 l2 l3 l4 r h
    have h : f_X12_best_B18b (f_X12_best_L18 n) l1 l2 l3 l4 w = some r := h
    unfold f_X12_best_B18b at h
    refine V.iload (pc := 18) dX12_best_18 rfl ?_
    refine V.aload_n (pc := 20) dX12_best_20 rfl ?_
    refine U.callV (pc := 21) (As := []) (st := [.int l4]) dX12_best_21 l_RX12_143 (ok_X12_all (by omega)  ) lx_44 ly_44 cn_12 (Nat.le_of_ble_eq_true rfl) rfl rfl (Nat.le_of_ble_eq_true rfl) ?_
    rcases ite_e h with ⟨c, h⟩ | ⟨c, h⟩
    · refine V.icmp_gt_t (t := 65) (pc := 24) dX12_best_24 (by decide) c ?_
      refine V.iload_n (pc := 65) dX12_best_65 rfl ?_
      rcases ite_e h with ⟨c, h⟩ | ⟨c, h⟩
      · refine V.if_ne_f (t := 73) (pc := 66) dX12_best_66 (by decide) c ?_
        refine V.iload_n (pc := 69) dX12_best_69 rfl ?_
        refine V.goto (t := 74) (pc := 70) dX12_best_70 (by decide) ?_
        obtain rfl := Option.some.inj h
        exact V.iret (pc := 74) dX12_best_74 rfl (Nat.le_refl _) (Nat.le_refl _)
      · refine V.if_ne_t (t := 73) (pc := 66) dX12_best_66 (by decide) c ?_
        refine V.iload_n (pc := 73) dX12_best_73 rfl ?_
        obtain rfl := Option.some.inj h
        exact V.iret (pc := 74) dX12_best_74 rfl (Nat.le_refl _) (Nat.le_refl _)
    · refine V.icmp_gt_f (t := 65) (pc := 24) dX12_best_24 (by decide) c ?_
      refine V.aload_n (pc := 27) dX12_best_27 rfl ?_
      refine V.iload (pc := 28) dX12_best_28 rfl ?_
      obtain ⟨x1, ex1, h⟩ := bnd_e h
      refine U.callV (pc := 30) (As := [.int l4]) (st := []) dX12_best_30 l_RX12_209 (ok_X12_weightOf (by omega) l4 ex1) lx_44 ly_44 cn_12 (Nat.le_of_ble_eq_true rfl) rfl rfl (Nat.le_of_ble_eq_true rfl) ?_
      refine V.istore (lv' := [some (.ref 44), some (.int l1), some (.int l2), some (.int l3), some (.int l4), some (.int x1)]) (pc := 33) dX12_best_33 (Nat.le_of_ble_eq_true rfl) rfl rfl ?_
      refine V.iload (pc := 35) dX12_best_35 rfl ?_
      refine V.iload_n (pc := 37) dX12_best_37 rfl ?_
      rcases ite_e h with ⟨c, h⟩ | ⟨c, h⟩
      · refine V.icmp_le_t (t := 59) (pc := 38) dX12_best_38 (by decide) c ?_
        refine V.iinc (lv' := [some (.ref 44), some (.int l1), some (.int l2), some (.int l3), some (.int (l4 + 1)), some (.int x1)]) (pc := 59) dX12_best_59 (Nat.le_of_ble_eq_true rfl) rfl rfl (v := (l4 + 1)) (by rw [show Int32.ofInt 1 = 1 from by decide]) rfl ?_
        refine V.goto (t := 18) (pc := 62) dX12_best_62 (by decide) ?_
        refine V.weak (lv' := [some (.ref 44), some (.int l1), some (.int l2), some (.int l3), some (.int (l4 + 1)), none]) (And.intro rfl (And.intro rfl (And.intro rfl (And.intro rfl (And.intro rfl trivial))))) ?_
        exact h18 l1 l2 l3 (l4 + 1) _ h
      · refine V.icmp_le_f (t := 59) (pc := 38) dX12_best_38 (by decide) c ?_
        refine V.aload_n (pc := 41) dX12_best_41 rfl ?_
        refine V.iload (pc := 42) dX12_best_42 rfl ?_
        obtain ⟨x2, ex2, h⟩ := bnd_e h
        refine U.callV (pc := 44) (As := [.int l4]) (st := []) dX12_best_44 l_RX12_150 (ok_X12_isFree (by omega) l4 ex2) lx_44 ly_44 cn_12 (Nat.le_of_ble_eq_true rfl) rfl rfl (Nat.le_of_ble_eq_true rfl) ?_
        rcases ite_e h with ⟨c, h⟩ | ⟨c, h⟩
        · refine V.if_ne_f (t := 53) (pc := 47) dX12_best_47 (by decide) c ?_
          refine V.goto (t := 59) (pc := 50) dX12_best_50 (by decide) ?_
          refine V.iinc (lv' := [some (.ref 44), some (.int l1), some (.int l2), some (.int l3), some (.int (l4 + 1)), some (.int x1)]) (pc := 59) dX12_best_59 (Nat.le_of_ble_eq_true rfl) rfl rfl (v := (l4 + 1)) (by rw [show Int32.ofInt 1 = 1 from by decide]) rfl ?_
          refine V.goto (t := 18) (pc := 62) dX12_best_62 (by decide) ?_
          refine V.weak (lv' := [some (.ref 44), some (.int l1), some (.int l2), some (.int l3), some (.int (l4 + 1)), none]) (And.intro rfl (And.intro rfl (And.intro rfl (And.intro rfl (And.intro rfl trivial))))) ?_
          exact h18 l1 l2 l3 (l4 + 1) _ h
        · refine V.if_ne_t (t := 53) (pc := 47) dX12_best_47 (by decide) c ?_
          refine V.iload (pc := 53) dX12_best_53 rfl ?_
          refine V.istore_n (lv' := [some (.ref 44), some (.int l1), some (.int l2), some (.int x1), some (.int l4), some (.int x1)]) (pc := 55) dX12_best_55 (Nat.le_of_ble_eq_true rfl) rfl rfl ?_
          refine V.iload (pc := 56) dX12_best_56 rfl ?_
          refine V.istore_n (lv' := [some (.ref 44), some (.int l1), some (.int l4), some (.int x1), some (.int l4), some (.int x1)]) (pc := 58) dX12_best_58 (Nat.le_of_ble_eq_true rfl) rfl rfl ?_
          refine V.iinc (lv' := [some (.ref 44), some (.int l1), some (.int l4), some (.int x1), some (.int (l4 + 1)), some (.int x1)]) (pc := 59) dX12_best_59 (Nat.le_of_ble_eq_true rfl) rfl rfl (v := (l4 + 1)) (by rw [show Int32.ofInt 1 = 1 from by decide]) rfl ?_
          refine V.goto (t := 18) (pc := 62) dX12_best_62 (by decide) ?_
          refine V.weak (lv' := [some (.ref 44), some (.int l1), some (.int l4), some (.int x1), some (.int (l4 + 1)), none]) (And.intro rfl (And.intro rfl (And.intro rfl (And.intro rfl (And.intro rfl trivial))))) ?_
          exact h18 l1 l4 x1 (l4 + 1) _ h
def f_X12_best (l1 : Int32) (w : Wd) : Option Int32 :=
  if (f_X12_in l1 0 1) = 0 then
    some (-1)
  else
    f_X12_best_L18  FU l1 0 0 0 w
set_option maxHeartbeats 4000000 in
set_option maxRecDepth 100000 in
theorem ok_X12_best {G : GT} {d : Nat} (hd : 2 ≤ d) {w : Wd} (l1 : Int32) {r : Int32} (h : f_X12_best l1 w = some r) : uC G yX12_best mX12_best d [.ref 44, .int l1] w (some (.int r)) w := by
  obtain ⟨d, rfl⟩ : ∃ e, d = e + 1 := ⟨d - 1, by omega⟩
  unfold f_X12_best at h
  refine uC_of (lv := [some (.ref 44), some (.int l1), none, none, none, none]) 4 pn_X12 ⟨rfl, rfl⟩ (Nat.le_of_ble_eq_true rfl) rfl ?_
  refine V.iload_n (pc := 0) dX12_best_0 rfl ?_
  refine V.iconst (pc := 1) dX12_best_1 ic_0 ?_
  refine V.iconst (pc := 2) dX12_best_2 ic_1 ?_
  refine U.callS (pc := 3) (As := [.int l1, .int 0, .int 1]) (st := []) dX12_best_3 l_RX12_139 (ok_X12_in (by omega) l1 0 1 ) (Nat.le_of_ble_eq_true rfl) rfl rfl (Nat.le_of_ble_eq_true rfl) ?_
  rcases ite_e h with ⟨c, h⟩ | ⟨c, h⟩
  · refine V.if_ne_f (t := 11) (pc := 6) dX12_best_6 (by decide) c ?_
    refine V.iconst (pc := 9) dX12_best_9 ic_m1 ?_
    obtain rfl := Option.some.inj h
    exact V.iret (pc := 10) dX12_best_10 rfl (Nat.le_refl _) (Nat.le_refl _)
  · refine V.if_ne_t (t := 11) (pc := 6) dX12_best_6 (by decide) c ?_
    refine V.iconst (pc := 11) dX12_best_11 ic_0 ?_
    refine V.istore_n (lv' := [some (.ref 44), some (.int l1), some (.int 0), none, none, none]) (pc := 12) dX12_best_12 (Nat.le_of_ble_eq_true rfl) rfl rfl ?_
    refine V.iconst (pc := 13) dX12_best_13 ic_0 ?_
    refine V.istore_n (lv' := [some (.ref 44), some (.int l1), some (.int 0), some (.int 0), none, none]) (pc := 14) dX12_best_14 (Nat.le_of_ble_eq_true rfl) rfl rfl ?_
    refine V.iconst (pc := 15) dX12_best_15 ic_0 ?_
    refine V.istore (lv' := [some (.ref 44), some (.int l1), some (.int 0), some (.int 0), some (.int 0), none]) (pc := 16) dX12_best_16 (Nat.le_of_ble_eq_true rfl) rfl rfl ?_
    exact t_X12_best_L18 hd FU l1 0 0 0 _ h
theorem dX11_greatestDivisor_0 : decode cX11_greatestDivisor 0 = .ok (.iload_n 0, 1) := by decide +kernel
theorem dX11_greatestDivisor_1 : decode cX11_greatestDivisor 1 = .ok (.istore_n 2, 1) := by decide +kernel
theorem dX11_greatestDivisor_2 : decode cX11_greatestDivisor 2 = .ok (.iload_n 1, 1) := by decide +kernel
theorem dX11_greatestDivisor_3 : decode cX11_greatestDivisor 3 = .ok (.istore_n 3, 1) := by decide +kernel
theorem dX11_greatestDivisor_4 : decode cX11_greatestDivisor 4 = .ok (.iconst 0, 1) := by decide +kernel
theorem dX11_greatestDivisor_5 : decode cX11_greatestDivisor 5 = .ok (.istore 4, 2) := by decide +kernel
theorem dX11_greatestDivisor_7 : decode cX11_greatestDivisor 7 = .ok (.iload 4, 2) := by decide +kernel
theorem dX11_greatestDivisor_9 : decode cX11_greatestDivisor 9 = .ok (.bipush 64, 2) := by decide +kernel
theorem dX11_greatestDivisor_11 : decode cX11_greatestDivisor 11 = .ok (.if_icmp .ge 23, 3) := by decide +kernel
theorem dX11_greatestDivisor_14 : decode cX11_greatestDivisor 14 = .ok (.iload_n 3, 1) := by decide +kernel
theorem dX11_greatestDivisor_15 : decode cX11_greatestDivisor 15 = .ok (.ifCond .eq 19, 3) := by decide +kernel
theorem dX11_greatestDivisor_18 : decode cX11_greatestDivisor 18 = .ok (.iload_n 2, 1) := by decide +kernel
theorem dX11_greatestDivisor_19 : decode cX11_greatestDivisor 19 = .ok (.iload_n 3, 1) := by decide +kernel
theorem dX11_greatestDivisor_20 : decode cX11_greatestDivisor 20 = .ok (.irem, 1) := by decide +kernel
theorem dX11_greatestDivisor_21 : decode cX11_greatestDivisor 21 = .ok (.istore 5, 2) := by decide +kernel
theorem dX11_greatestDivisor_23 : decode cX11_greatestDivisor 23 = .ok (.iload_n 3, 1) := by decide +kernel
theorem dX11_greatestDivisor_24 : decode cX11_greatestDivisor 24 = .ok (.istore_n 2, 1) := by decide +kernel
theorem dX11_greatestDivisor_25 : decode cX11_greatestDivisor 25 = .ok (.iload 5, 2) := by decide +kernel
theorem dX11_greatestDivisor_27 : decode cX11_greatestDivisor 27 = .ok (.istore_n 3, 1) := by decide +kernel
theorem dX11_greatestDivisor_28 : decode cX11_greatestDivisor 28 = .ok (.iinc 4 1, 3) := by decide +kernel
theorem dX11_greatestDivisor_31 : decode cX11_greatestDivisor 31 = .ok (.goto (-24), 3) := by decide +kernel
theorem dX11_greatestDivisor_34 : decode cX11_greatestDivisor 34 = .ok (.iload_n 2, 1) := by decide +kernel
theorem dX11_greatestDivisor_35 : decode cX11_greatestDivisor 35 = .ok (.ireturn, 1) := by decide +kernel
def f_X11_greatestDivisor_B7b (k7 : Int32 → Int32 → Int32 → Option Int32) (l2 : Int32) (l3 : Int32) (l4 : Int32) : Option Int32 :=
  if 64 ≤ l4 then
    some l2
  else
    if l3 = 0 then
      some l2
    else
      nzI l3 (k7 l3 (rem32 l2 l3) (l4 + 1))
def f_X11_greatestDivisor_L7 (n : Nat) : Int32 → Int32 → Int32 → Option Int32 :=
  Nat.rec (fun _ _ _ => none) (fun _ k => f_X11_greatestDivisor_B7b k) n
set_option maxHeartbeats 4000000 in
set_option maxRecDepth 100000 in
theorem t_X11_greatestDivisor_L7 {G : GT} {d : Nat} {w : Wd} (hd : 0 ≤ d)  : ∀ (n : Nat) (l2 : Int32) (l3 : Int32) (l4 : Int32) (r : Int32), f_X11_greatestDivisor_L7 n l2 l3 l4 = some r → U (vf G mX11_greatestDivisor d) 7 [none, none, some (.int l2), some (.int l3), some (.int l4), none] [] w (some (.int r), 70, r0, w) := by
  intro n
  induction n with
  | zero => intro l2 l3 l4 r h; cases h
  | succ n h7 =>
    intro l2 l3 l4 r h
    have h : f_X11_greatestDivisor_B7b (f_X11_greatestDivisor_L7 n) l2 l3 l4 = some r := h
    unfold f_X11_greatestDivisor_B7b at h
    refine V.iload (pc := 7) dX11_greatestDivisor_7 rfl ?_
    refine V.bipush (pc := 9) dX11_greatestDivisor_9 bp_64 ?_
    rcases ite_e h with ⟨c, h⟩ | ⟨c, h⟩
    · refine V.icmp_ge_t (t := 34) (pc := 11) dX11_greatestDivisor_11 (by decide) c ?_
      refine V.iload_n (pc := 34) dX11_greatestDivisor_34 rfl ?_
      obtain rfl := Option.some.inj h
      exact V.iret (pc := 35) dX11_greatestDivisor_35 rfl (Nat.le_refl _) (Nat.le_refl _)
    · refine V.icmp_ge_f (t := 34) (pc := 11) dX11_greatestDivisor_11 (by decide) c ?_
      refine V.iload_n (pc := 14) dX11_greatestDivisor_14 rfl ?_
      rcases ite_e h with ⟨c, h⟩ | ⟨c, h⟩
      · refine V.if_eq_t (t := 34) (pc := 15) dX11_greatestDivisor_15 (by decide) c ?_
        refine V.iload_n (pc := 34) dX11_greatestDivisor_34 rfl ?_
        obtain rfl := Option.some.inj h
        exact V.iret (pc := 35) dX11_greatestDivisor_35 rfl (Nat.le_refl _) (Nat.le_refl _)
      · refine V.if_eq_f (t := 34) (pc := 15) dX11_greatestDivisor_15 (by decide) c ?_
        refine V.iload_n (pc := 18) dX11_greatestDivisor_18 rfl ?_
        refine V.iload_n (pc := 19) dX11_greatestDivisor_19 rfl ?_
        obtain ⟨hz, h⟩ := nzI_e h
        refine V.irem (pc := 20) dX11_greatestDivisor_20 hz ?_
        refine V.istore (lv' := [none, none, some (.int l2), some (.int l3), some (.int l4), some (.int (rem32 l2 l3))]) (pc := 21) dX11_greatestDivisor_21 (Nat.le_of_ble_eq_true rfl) rfl rfl ?_
        refine V.iload_n (pc := 23) dX11_greatestDivisor_23 rfl ?_
        refine V.istore_n (lv' := [none, none, some (.int l3), some (.int l3), some (.int l4), some (.int (rem32 l2 l3))]) (pc := 24) dX11_greatestDivisor_24 (Nat.le_of_ble_eq_true rfl) rfl rfl ?_
        refine V.iload (pc := 25) dX11_greatestDivisor_25 rfl ?_
        refine V.istore_n (lv' := [none, none, some (.int l3), some (.int (rem32 l2 l3)), some (.int l4), some (.int (rem32 l2 l3))]) (pc := 27) dX11_greatestDivisor_27 (Nat.le_of_ble_eq_true rfl) rfl rfl ?_
        refine V.iinc (lv' := [none, none, some (.int l3), some (.int (rem32 l2 l3)), some (.int (l4 + 1)), some (.int (rem32 l2 l3))]) (pc := 28) dX11_greatestDivisor_28 (Nat.le_of_ble_eq_true rfl) rfl rfl (v := (l4 + 1)) (by rw [show Int32.ofInt 1 = 1 from by decide]) rfl ?_
        refine V.goto (t := 7) (pc := 31) dX11_greatestDivisor_31 (by decide) ?_
        refine V.weak (lv' := [none, none, some (.int l3), some (.int (rem32 l2 l3)), some (.int (l4 + 1)), none]) (And.intro rfl (And.intro rfl (And.intro rfl trivial))) ?_
        exact h7 l3 (rem32 l2 l3) (l4 + 1) _ h
def f_X11_greatestDivisor (l0 : Int32) (l1 : Int32) : Option Int32 :=
  f_X11_greatestDivisor_L7  FU l0 l1 0
set_option maxHeartbeats 4000000 in
set_option maxRecDepth 100000 in
theorem ok_X11_greatestDivisor {G : GT} {d : Nat} (hd : 0 ≤ d) {w : Wd} (l0 : Int32) (l1 : Int32) {r : Int32} (h : f_X11_greatestDivisor l0 l1 = some r) : uC G yX11_greatestDivisor mX11_greatestDivisor d [.int l0, .int l1] w (some (.int r)) w := by
  unfold f_X11_greatestDivisor at h
  refine uC_of (lv := [some (.int l0), some (.int l1), none, none, none, none]) 4 pn_X11 ⟨rfl, rfl⟩ (Nat.le_of_ble_eq_true rfl) rfl ?_
  refine V.iload_n (pc := 0) dX11_greatestDivisor_0 rfl ?_
  refine V.istore_n (lv' := [some (.int l0), some (.int l1), some (.int l0), none, none, none]) (pc := 1) dX11_greatestDivisor_1 (Nat.le_of_ble_eq_true rfl) rfl rfl ?_
  refine V.iload_n (pc := 2) dX11_greatestDivisor_2 rfl ?_
  refine V.istore_n (lv' := [some (.int l0), some (.int l1), some (.int l0), some (.int l1), none, none]) (pc := 3) dX11_greatestDivisor_3 (Nat.le_of_ble_eq_true rfl) rfl rfl ?_
  refine V.iconst (pc := 4) dX11_greatestDivisor_4 ic_0 ?_
  refine V.istore (lv' := [some (.int l0), some (.int l1), some (.int l0), some (.int l1), some (.int 0), none]) (pc := 5) dX11_greatestDivisor_5 (Nat.le_of_ble_eq_true rfl) rfl rfl ?_
  refine V.weak (lv' := [none, none, some (.int l0), some (.int l1), some (.int 0), none]) (And.intro rfl (And.intro rfl (And.intro rfl trivial))) ?_
  exact t_X11_greatestDivisor_L7 hd FU l0 l1 0 _ h
theorem dX11_mean_0 : decode cX11_mean 0 = .ok (.iload_n 1, 1) := by decide +kernel
theorem dX11_mean_1 : decode cX11_mean 1 = .ok (.invokestatic 192, 3) := by decide +kernel
theorem dX11_mean_4 : decode cX11_mean 4 = .ok (.ifCond .ne 5, 3) := by decide +kernel
theorem dX11_mean_7 : decode cX11_mean 7 = .ok (.iconst (-1), 1) := by decide +kernel
theorem dX11_mean_8 : decode cX11_mean 8 = .ok (.ireturn, 1) := by decide +kernel
theorem dX11_mean_9 : decode cX11_mean 9 = .ok (.iconst 0, 1) := by decide +kernel
theorem dX11_mean_10 : decode cX11_mean 10 = .ok (.istore_n 3, 1) := by decide +kernel
theorem dX11_mean_11 : decode cX11_mean 11 = .ok (.iconst 0, 1) := by decide +kernel
theorem dX11_mean_12 : decode cX11_mean 12 = .ok (.istore 4, 2) := by decide +kernel
theorem dX11_mean_14 : decode cX11_mean 14 = .ok (.aload_n 0, 1) := by decide +kernel
theorem dX11_mean_15 : decode cX11_mean 15 = .ok (.getfield 44, 3) := by decide +kernel
theorem dX11_mean_18 : decode cX11_mean 18 = .ok (.invokevirtual 211, 3) := by decide +kernel
theorem dX11_mean_21 : decode cX11_mean 21 = .ok (.istore 5, 2) := by decide +kernel
theorem dX11_mean_23 : decode cX11_mean 23 = .ok (.iconst 0, 1) := by decide +kernel
theorem dX11_mean_24 : decode cX11_mean 24 = .ok (.istore 6, 2) := by decide +kernel
theorem dX11_mean_26 : decode cX11_mean 26 = .ok (.iload 6, 2) := by decide +kernel
theorem dX11_mean_28 : decode cX11_mean 28 = .ok (.iload 5, 2) := by decide +kernel
theorem dX11_mean_30 : decode cX11_mean 30 = .ok (.if_icmp .ge 41, 3) := by decide +kernel
theorem dX11_mean_33 : decode cX11_mean 33 = .ok (.aload_n 0, 1) := by decide +kernel
theorem dX11_mean_34 : decode cX11_mean 34 = .ok (.getfield 44, 3) := by decide +kernel
theorem dX11_mean_37 : decode cX11_mean 37 = .ok (.iload 6, 2) := by decide +kernel
theorem dX11_mean_39 : decode cX11_mean 39 = .ok (.iload_n 1, 1) := by decide +kernel
theorem dX11_mean_40 : decode cX11_mean 40 = .ok (.iconst (-1), 1) := by decide +kernel
theorem dX11_mean_41 : decode cX11_mean 41 = .ok (.invokevirtual 214, 3) := by decide +kernel
theorem dX11_mean_44 : decode cX11_mean 44 = .ok (.ifCond .eq 21, 3) := by decide +kernel
theorem dX11_mean_47 : decode cX11_mean 47 = .ok (.iload_n 3, 1) := by decide +kernel
theorem dX11_mean_48 : decode cX11_mean 48 = .ok (.aload_n 0, 1) := by decide +kernel
theorem dX11_mean_49 : decode cX11_mean 49 = .ok (.getfield 44, 3) := by decide +kernel
theorem dX11_mean_52 : decode cX11_mean 52 = .ok (.iload 6, 2) := by decide +kernel
theorem dX11_mean_54 : decode cX11_mean 54 = .ok (.invokevirtual 217, 3) := by decide +kernel
theorem dX11_mean_57 : decode cX11_mean 57 = .ok (.invokestatic 127, 3) := by decide +kernel
theorem dX11_mean_60 : decode cX11_mean 60 = .ok (.iadd, 1) := by decide +kernel
theorem dX11_mean_61 : decode cX11_mean 61 = .ok (.istore_n 3, 1) := by decide +kernel
theorem dX11_mean_62 : decode cX11_mean 62 = .ok (.iinc 4 1, 3) := by decide +kernel
theorem dX11_mean_65 : decode cX11_mean 65 = .ok (.iinc 6 1, 3) := by decide +kernel
theorem dX11_mean_68 : decode cX11_mean 68 = .ok (.goto (-42), 3) := by decide +kernel
theorem dX11_mean_71 : decode cX11_mean 71 = .ok (.iload 4, 2) := by decide +kernel
theorem dX11_mean_73 : decode cX11_mean 73 = .ok (.ifCond .ne 6, 3) := by decide +kernel
theorem dX11_mean_76 : decode cX11_mean 76 = .ok (.bipush (-2), 2) := by decide +kernel
theorem dX11_mean_78 : decode cX11_mean 78 = .ok (.ireturn, 1) := by decide +kernel
theorem dX11_mean_79 : decode cX11_mean 79 = .ok (.iconst 1, 1) := by decide +kernel
theorem dX11_mean_80 : decode cX11_mean 80 = .ok (.iload_n 3, 1) := by decide +kernel
theorem dX11_mean_81 : decode cX11_mean 81 = .ok (.iload 4, 2) := by decide +kernel
theorem dX11_mean_83 : decode cX11_mean 83 = .ok (.invokestatic 228, 3) := by decide +kernel
theorem dX11_mean_86 : decode cX11_mean 86 = .ok (.invokestatic 220, 3) := by decide +kernel
theorem dX11_mean_89 : decode cX11_mean 89 = .ok (.istore 6, 2) := by decide +kernel
theorem dX11_mean_91 : decode cX11_mean 91 = .ok (.iload_n 2, 1) := by decide +kernel
theorem dX11_mean_92 : decode cX11_mean 92 = .ok (.ifCond .eq 8, 3) := by decide +kernel
theorem dX11_mean_95 : decode cX11_mean 95 = .ok (.iload 4, 2) := by decide +kernel
theorem dX11_mean_97 : decode cX11_mean 97 = .ok (.goto 4, 3) := by decide +kernel
theorem dX11_mean_100 : decode cX11_mean 100 = .ok (.iload_n 3, 1) := by decide +kernel
theorem dX11_mean_101 : decode cX11_mean 101 = .ok (.iload 6, 2) := by decide +kernel
theorem dX11_mean_103 : decode cX11_mean 103 = .ok (.idiv, 1) := by decide +kernel
theorem dX11_mean_104 : decode cX11_mean 104 = .ok (.ireturn, 1) := by decide +kernel
def f_X11_mean_B26b (k26 : Int32 → Int32 → Int32 → Int32 → Int32 → Int32 → Wd → Option (Int32 × Wd)) (l1 : Int32) (l2 : Int32) (l3 : Int32) (l4 : Int32) (l5 : Int32) (l6 : Int32) (w : Wd) : Option (Int32 × Wd) :=
  if l5 ≤ l6 then
    if l4 = 0 then
      some ((-2), w)
    else
      bnd (f_X11_greatestDivisor l3 l4) fun x1 =>
      if l2 = 0 then
        nzI (if 1 < x1 then x1 else 1) (some ((l3 / (if 1 < x1 then x1 else 1)), w))
      else
        nzI (if 1 < x1 then x1 else 1) (some ((l4 / (if 1 < x1 then x1 else 1)), w))
  else
    bnd (f_X3_fits l6 l1 (-1) w) fun x2 =>
    if x2 = 0 then
      k26 l1 l2 l3 l4 l5 (l6 + 1) w
    else
      bnd (f_X3_setAt l6 w) fun x3 =>
      k26 l1 l2 (l3 + (f_J6_bitCount_0f7a4 x3)) (l4 + 1) l5 (l6 + 1) w
def f_X11_mean_L26 (n : Nat) : Int32 → Int32 → Int32 → Int32 → Int32 → Int32 → Wd → Option (Int32 × Wd) :=
  Nat.rec (fun _ _ _ _ _ _ _ => none) (fun _ k => f_X11_mean_B26b k) n
set_option maxHeartbeats 4000000 in
set_option maxRecDepth 100000 in
theorem t_X11_mean_L26 {G : GT} {d : Nat} (hd : 5 ≤ d + 1)  : ∀ (n : Nat) (l1 : Int32) (l2 : Int32) (l3 : Int32) (l4 : Int32) (l5 : Int32) (l6 : Int32) (w : Wd) (r : Int32) (w' : Wd), f_X11_mean_L26 n l1 l2 l3 l4 l5 l6 w = some (r, w') → U (vf G mX11_mean (d + 1)) 26 [some (.ref 0), some (.int l1), some (.int l2), some (.int l3), some (.int l4), some (.int l5), some (.int l6)] [] w (some (.int r), 70, r0, w') := by
  intro n
  induction n with
  | zero => intro l1 l2 l3 l4 l5 l6 w r w' h; cases h
  | succ n h26 =>
    intro l1 l2 l3 l4 l5 l6 w r w' h
    have h : f_X11_mean_B26b (f_X11_mean_L26 n) l1 l2 l3 l4 l5 l6 w = some (r, w') := h
    unfold f_X11_mean_B26b at h
    refine V.iload (pc := 26) dX11_mean_26 rfl ?_
    refine V.iload (pc := 28) dX11_mean_28 rfl ?_
    rcases ite_e h with ⟨c, h⟩ | ⟨c, h⟩
    · refine V.icmp_ge_t (t := 71) (pc := 30) dX11_mean_30 (by decide) c ?_
      refine V.iload (pc := 71) dX11_mean_71 rfl ?_
      rcases ite_e h with ⟨c, h⟩ | ⟨c, h⟩
      · refine V.if_ne_f (t := 79) (pc := 73) dX11_mean_73 (by decide) c ?_
        refine V.bipush (pc := 76) dX11_mean_76 bp_m2 ?_
        obtain ⟨rfl, rfl⟩ := Prod.mk.inj (Option.some.inj h)
        exact V.iret (pc := 78) dX11_mean_78 rfl (Nat.le_refl _) (Nat.le_refl _)
      · refine V.if_ne_t (t := 79) (pc := 73) dX11_mean_73 (by decide) c ?_
        refine V.iconst (pc := 79) dX11_mean_79 ic_1 ?_
        refine V.iload_n (pc := 80) dX11_mean_80 rfl ?_
        refine V.iload (pc := 81) dX11_mean_81 rfl ?_
        obtain ⟨x1, ex1, h⟩ := bnd_e h
        refine U.callS (pc := 83) (As := [.int l3, .int l4]) (st := [.int 1]) dX11_mean_83 l_RX11_228 (ok_X11_greatestDivisor (by omega) l3 l4 ex1) (Nat.le_of_ble_eq_true rfl) rfl rfl (Nat.le_of_ble_eq_true rfl) ?_
        refine V.mmax (pc := 86) dX11_mean_86 l_RX11_220 (Nat.le_add_left 1 d) (rm_13 (Nat.le_of_ble_eq_true rfl)) ?_
        refine V.istore (lv' := [some (.ref 0), some (.int l1), some (.int l2), some (.int l3), some (.int l4), some (.int l5), some (.int (if 1 < x1 then x1 else 1))]) (pc := 89) dX11_mean_89 (Nat.le_of_ble_eq_true rfl) rfl rfl ?_
        refine V.iload_n (pc := 91) dX11_mean_91 rfl ?_
        rcases ite_e h with ⟨c, h⟩ | ⟨c, h⟩
        · refine V.if_eq_t (t := 100) (pc := 92) dX11_mean_92 (by decide) c ?_
          refine V.iload_n (pc := 100) dX11_mean_100 rfl ?_
          refine V.iload (pc := 101) dX11_mean_101 rfl ?_
          obtain ⟨hz, h⟩ := nzI_e h
          refine V.idiv (pc := 103) dX11_mean_103 hz ?_
          obtain ⟨rfl, rfl⟩ := Prod.mk.inj (Option.some.inj h)
          exact V.iret (pc := 104) dX11_mean_104 rfl (Nat.le_refl _) (Nat.le_refl _)
        · refine V.if_eq_f (t := 100) (pc := 92) dX11_mean_92 (by decide) c ?_
          refine V.iload (pc := 95) dX11_mean_95 rfl ?_
          refine V.goto (t := 101) (pc := 97) dX11_mean_97 (by decide) ?_
          refine V.iload (pc := 101) dX11_mean_101 rfl ?_
          obtain ⟨hz, h⟩ := nzI_e h
          refine V.idiv (pc := 103) dX11_mean_103 hz ?_
          obtain ⟨rfl, rfl⟩ := Prod.mk.inj (Option.some.inj h)
          exact V.iret (pc := 104) dX11_mean_104 rfl (Nat.le_refl _) (Nat.le_refl _)
    · refine V.icmp_ge_f (t := 71) (pc := 30) dX11_mean_30 (by decide) c ?_
      refine V.aload_n (pc := 33) dX11_mean_33 rfl ?_
      refine V.getR (t := 19) (pc := 34) dX11_mean_34 f_RX11_44 k_cl11 lx_0 ly_0 rb_11_4 rr_0_4 ?_
      refine V.iload (pc := 37) dX11_mean_37 rfl ?_
      refine V.iload_n (pc := 39) dX11_mean_39 rfl ?_
      refine V.iconst (pc := 40) dX11_mean_40 ic_m1 ?_
      obtain ⟨x2, ex2, h⟩ := bnd_e h
      refine U.callV (pc := 41) (As := [.int l6, .int l1, .int (-1)]) (st := []) dX11_mean_41 l_RX11_214 (ok_X3_fits (by omega) l6 l1 (-1) ex2) lx_19 ly_19 cn_3 (Nat.le_of_ble_eq_true rfl) rfl rfl (Nat.le_of_ble_eq_true rfl) ?_
      rcases ite_e h with ⟨c, h⟩ | ⟨c, h⟩
      · refine V.if_eq_t (t := 65) (pc := 44) dX11_mean_44 (by decide) c ?_
        refine V.iinc (lv' := [some (.ref 0), some (.int l1), some (.int l2), some (.int l3), some (.int l4), some (.int l5), some (.int (l6 + 1))]) (pc := 65) dX11_mean_65 (Nat.le_of_ble_eq_true rfl) rfl rfl (v := (l6 + 1)) (by rw [show Int32.ofInt 1 = 1 from by decide]) rfl ?_
        refine V.goto (t := 26) (pc := 68) dX11_mean_68 (by decide) ?_
        exact h26 l1 l2 l3 l4 l5 (l6 + 1) w _ _ h
      · refine V.if_eq_f (t := 65) (pc := 44) dX11_mean_44 (by decide) c ?_
        refine V.iload_n (pc := 47) dX11_mean_47 rfl ?_
        refine V.aload_n (pc := 48) dX11_mean_48 rfl ?_
        refine V.getR (t := 19) (pc := 49) dX11_mean_49 f_RX11_44 k_cl11 lx_0 ly_0 rb_11_4 rr_0_4 ?_
        refine V.iload (pc := 52) dX11_mean_52 rfl ?_
        obtain ⟨x3, ex3, h⟩ := bnd_e h
        refine U.callV (pc := 54) (As := [.int l6]) (st := [.int l3]) dX11_mean_54 l_RX11_217 (ok_X3_setAt (by omega) l6 ex3) lx_19 ly_19 cn_3 (Nat.le_of_ble_eq_true rfl) rfl rfl (Nat.le_of_ble_eq_true rfl) ?_
        refine U.callS (pc := 57) (As := [.int x3]) (st := [.int l3]) dX11_mean_57 l_RX11_127 (ok_J6_bitCount_0f7a4 (by omega) x3 ) (Nat.le_of_ble_eq_true rfl) rfl rfl (Nat.le_of_ble_eq_true rfl) ?_
        refine V.iadd (pc := 60) dX11_mean_60 ?_
        refine V.istore_n (lv' := [some (.ref 0), some (.int l1), some (.int l2), some (.int (l3 + (f_J6_bitCount_0f7a4 x3))), some (.int l4), some (.int l5), some (.int l6)]) (pc := 61) dX11_mean_61 (Nat.le_of_ble_eq_true rfl) rfl rfl ?_
        refine V.iinc (lv' := [some (.ref 0), some (.int l1), some (.int l2), some (.int (l3 + (f_J6_bitCount_0f7a4 x3))), some (.int (l4 + 1)), some (.int l5), some (.int l6)]) (pc := 62) dX11_mean_62 (Nat.le_of_ble_eq_true rfl) rfl rfl (v := (l4 + 1)) (by rw [show Int32.ofInt 1 = 1 from by decide]) rfl ?_
        refine V.iinc (lv' := [some (.ref 0), some (.int l1), some (.int l2), some (.int (l3 + (f_J6_bitCount_0f7a4 x3))), some (.int (l4 + 1)), some (.int l5), some (.int (l6 + 1))]) (pc := 65) dX11_mean_65 (Nat.le_of_ble_eq_true rfl) rfl rfl (v := (l6 + 1)) (by rw [show Int32.ofInt 1 = 1 from by decide]) rfl ?_
        refine V.goto (t := 26) (pc := 68) dX11_mean_68 (by decide) ?_
        exact h26 l1 l2 (l3 + (f_J6_bitCount_0f7a4 x3)) (l4 + 1) l5 (l6 + 1) w _ _ h
def f_X11_mean (l1 : Int32) (l2 : Int32) (w : Wd) : Option (Int32 × Wd) :=
  if (f_X11_isKind l1) = 0 then
    some ((-1), w)
  else
    bnd2 (f_X3_total  w) fun x1 w2 =>
    f_X11_mean_L26  FU l1 l2 0 0 x1 0 w2
set_option maxHeartbeats 4000000 in
set_option maxRecDepth 100000 in
theorem ok_X11_mean {G : GT} {d : Nat} (hd : 5 ≤ d) {w : Wd} (l1 : Int32) (l2 : Int32) {r : Int32} {w' : Wd} (h : f_X11_mean l1 l2 w = some (r, w')) : uC G yX11_mean mX11_mean d [.ref 0, .int l1, .int l2] w (some (.int r)) w' := by
  obtain ⟨d, rfl⟩ : ∃ e, d = e + 1 := ⟨d - 1, by omega⟩
  unfold f_X11_mean at h
  refine uC_of (lv := [some (.ref 0), some (.int l1), some (.int l2), none, none, none, none]) 4 pn_X11 ⟨rfl, rfl⟩ (Nat.le_of_ble_eq_true rfl) rfl ?_
  refine V.iload_n (pc := 0) dX11_mean_0 rfl ?_
  refine U.callS (pc := 1) (As := [.int l1]) (st := []) dX11_mean_1 l_RX11_192 (ok_X11_isKind (by omega) l1 ) (Nat.le_of_ble_eq_true rfl) rfl rfl (Nat.le_of_ble_eq_true rfl) ?_
  rcases ite_e h with ⟨c, h⟩ | ⟨c, h⟩
  · refine V.if_ne_f (t := 9) (pc := 4) dX11_mean_4 (by decide) c ?_
    refine V.iconst (pc := 7) dX11_mean_7 ic_m1 ?_
    obtain ⟨rfl, rfl⟩ := Prod.mk.inj (Option.some.inj h)
    exact V.iret (pc := 8) dX11_mean_8 rfl (Nat.le_refl _) (Nat.le_refl _)
  · refine V.if_ne_t (t := 9) (pc := 4) dX11_mean_4 (by decide) c ?_
    refine V.iconst (pc := 9) dX11_mean_9 ic_0 ?_
    refine V.istore_n (lv' := [some (.ref 0), some (.int l1), some (.int l2), some (.int 0), none, none, none]) (pc := 10) dX11_mean_10 (Nat.le_of_ble_eq_true rfl) rfl rfl ?_
    refine V.iconst (pc := 11) dX11_mean_11 ic_0 ?_
    refine V.istore (lv' := [some (.ref 0), some (.int l1), some (.int l2), some (.int 0), some (.int 0), none, none]) (pc := 12) dX11_mean_12 (Nat.le_of_ble_eq_true rfl) rfl rfl ?_
    refine V.aload_n (pc := 14) dX11_mean_14 rfl ?_
    refine V.getR (t := 19) (pc := 15) dX11_mean_15 f_RX11_44 k_cl11 lx_0 ly_0 rb_11_4 rr_0_4 ?_
    obtain ⟨x1, w2, ew2, h⟩ := bnd2_e h
    refine U.callV (pc := 18) (As := []) (st := []) dX11_mean_18 l_RX11_211 (ok_X3_total (by omega)  ew2) lx_19 ly_19 cn_3 (Nat.le_of_ble_eq_true rfl) rfl rfl (Nat.le_of_ble_eq_true rfl) ?_
    refine V.istore (lv' := [some (.ref 0), some (.int l1), some (.int l2), some (.int 0), some (.int 0), some (.int x1), none]) (pc := 21) dX11_mean_21 (Nat.le_of_ble_eq_true rfl) rfl rfl ?_
    refine V.iconst (pc := 23) dX11_mean_23 ic_0 ?_
    refine V.istore (lv' := [some (.ref 0), some (.int l1), some (.int l2), some (.int 0), some (.int 0), some (.int x1), some (.int 0)]) (pc := 24) dX11_mean_24 (Nat.le_of_ble_eq_true rfl) rfl rfl ?_
    exact t_X11_mean_L26 hd FU l1 l2 0 0 x1 0 w2 _ _ h
theorem dX12_mean_0 : decode cX12_mean 0 = .ok (.iload_n 1, 1) := by decide +kernel
theorem dX12_mean_1 : decode cX12_mean 1 = .ok (.invokestatic 197, 3) := by decide +kernel
theorem dX12_mean_4 : decode cX12_mean 4 = .ok (.ifCond .ne 5, 3) := by decide +kernel
theorem dX12_mean_7 : decode cX12_mean 7 = .ok (.iconst (-1), 1) := by decide +kernel
theorem dX12_mean_8 : decode cX12_mean 8 = .ok (.ireturn, 1) := by decide +kernel
theorem dX12_mean_9 : decode cX12_mean 9 = .ok (.iconst 0, 1) := by decide +kernel
theorem dX12_mean_10 : decode cX12_mean 10 = .ok (.istore_n 3, 1) := by decide +kernel
theorem dX12_mean_11 : decode cX12_mean 11 = .ok (.iconst 0, 1) := by decide +kernel
theorem dX12_mean_12 : decode cX12_mean 12 = .ok (.istore 4, 2) := by decide +kernel
theorem dX12_mean_14 : decode cX12_mean 14 = .ok (.iconst 0, 1) := by decide +kernel
theorem dX12_mean_15 : decode cX12_mean 15 = .ok (.istore 5, 2) := by decide +kernel
theorem dX12_mean_17 : decode cX12_mean 17 = .ok (.iload 5, 2) := by decide +kernel
theorem dX12_mean_19 : decode cX12_mean 19 = .ok (.aload_n 0, 1) := by decide +kernel
theorem dX12_mean_20 : decode cX12_mean 20 = .ok (.invokevirtual 143, 3) := by decide +kernel
theorem dX12_mean_23 : decode cX12_mean 23 = .ok (.if_icmp .gt 35, 3) := by decide +kernel
theorem dX12_mean_26 : decode cX12_mean 26 = .ok (.aload_n 0, 1) := by decide +kernel
theorem dX12_mean_27 : decode cX12_mean 27 = .ok (.iload 5, 2) := by decide +kernel
theorem dX12_mean_29 : decode cX12_mean 29 = .ok (.iload_n 1, 1) := by decide +kernel
theorem dX12_mean_30 : decode cX12_mean 30 = .ok (.invokevirtual 200, 3) := by decide +kernel
theorem dX12_mean_33 : decode cX12_mean 33 = .ok (.ifCond .ne 6, 3) := by decide +kernel
theorem dX12_mean_36 : decode cX12_mean 36 = .ok (.goto 16, 3) := by decide +kernel
theorem dX12_mean_39 : decode cX12_mean 39 = .ok (.iinc 3 1, 3) := by decide +kernel
theorem dX12_mean_42 : decode cX12_mean 42 = .ok (.iload 4, 2) := by decide +kernel
theorem dX12_mean_44 : decode cX12_mean 44 = .ok (.iload 5, 2) := by decide +kernel
theorem dX12_mean_46 : decode cX12_mean 46 = .ok (.invokestatic 172, 3) := by decide +kernel
theorem dX12_mean_49 : decode cX12_mean 49 = .ok (.iadd, 1) := by decide +kernel
theorem dX12_mean_50 : decode cX12_mean 50 = .ok (.istore 4, 2) := by decide +kernel
theorem dX12_mean_52 : decode cX12_mean 52 = .ok (.iinc 5 1, 3) := by decide +kernel
theorem dX12_mean_55 : decode cX12_mean 55 = .ok (.goto (-38), 3) := by decide +kernel
theorem dX12_mean_58 : decode cX12_mean 58 = .ok (.iload_n 3, 1) := by decide +kernel
theorem dX12_mean_59 : decode cX12_mean 59 = .ok (.ifCond .ne 6, 3) := by decide +kernel
theorem dX12_mean_62 : decode cX12_mean 62 = .ok (.bipush (-2), 2) := by decide +kernel
theorem dX12_mean_64 : decode cX12_mean 64 = .ok (.ireturn, 1) := by decide +kernel
theorem dX12_mean_65 : decode cX12_mean 65 = .ok (.iload 4, 2) := by decide +kernel
theorem dX12_mean_67 : decode cX12_mean 67 = .ok (.istore 5, 2) := by decide +kernel
theorem dX12_mean_69 : decode cX12_mean 69 = .ok (.iload_n 3, 1) := by decide +kernel
theorem dX12_mean_70 : decode cX12_mean 70 = .ok (.istore 6, 2) := by decide +kernel
theorem dX12_mean_72 : decode cX12_mean 72 = .ok (.iload 6, 2) := by decide +kernel
theorem dX12_mean_74 : decode cX12_mean 74 = .ok (.ifCond .eq 21, 3) := by decide +kernel
theorem dX12_mean_77 : decode cX12_mean 77 = .ok (.iload 5, 2) := by decide +kernel
theorem dX12_mean_79 : decode cX12_mean 79 = .ok (.iload 6, 2) := by decide +kernel
theorem dX12_mean_81 : decode cX12_mean 81 = .ok (.irem, 1) := by decide +kernel
theorem dX12_mean_82 : decode cX12_mean 82 = .ok (.istore 7, 2) := by decide +kernel
theorem dX12_mean_84 : decode cX12_mean 84 = .ok (.iload 6, 2) := by decide +kernel
theorem dX12_mean_86 : decode cX12_mean 86 = .ok (.istore 5, 2) := by decide +kernel
theorem dX12_mean_88 : decode cX12_mean 88 = .ok (.iload 7, 2) := by decide +kernel
theorem dX12_mean_90 : decode cX12_mean 90 = .ok (.istore 6, 2) := by decide +kernel
theorem dX12_mean_92 : decode cX12_mean 92 = .ok (.goto (-20), 3) := by decide +kernel
theorem dX12_mean_95 : decode cX12_mean 95 = .ok (.iload_n 2, 1) := by decide +kernel
theorem dX12_mean_96 : decode cX12_mean 96 = .ok (.ifCond .eq 10, 3) := by decide +kernel
theorem dX12_mean_99 : decode cX12_mean 99 = .ok (.iload_n 3, 1) := by decide +kernel
theorem dX12_mean_100 : decode cX12_mean 100 = .ok (.iload 5, 2) := by decide +kernel
theorem dX12_mean_102 : decode cX12_mean 102 = .ok (.idiv, 1) := by decide +kernel
theorem dX12_mean_103 : decode cX12_mean 103 = .ok (.goto 8, 3) := by decide +kernel
theorem dX12_mean_106 : decode cX12_mean 106 = .ok (.iload 4, 2) := by decide +kernel
theorem dX12_mean_108 : decode cX12_mean 108 = .ok (.iload 5, 2) := by decide +kernel
theorem dX12_mean_110 : decode cX12_mean 110 = .ok (.idiv, 1) := by decide +kernel
theorem dX12_mean_111 : decode cX12_mean 111 = .ok (.ireturn, 1) := by decide +kernel
def f_X12_mean_B72b (k72 : Int32 → Int32 → Int32 → Int32 → Int32 → Wd → Option Int32) (l2 : Int32) (l3 : Int32) (l4 : Int32) (l5 : Int32) (l6 : Int32) (w : Wd) : Option Int32 :=
  if l6 = 0 then
    if l2 = 0 then
      nzI l5 (some (l4 / l5))
    else
      nzI l5 (some (l3 / l5))
  else
    nzI l6 (k72 l2 l3 l4 l6 (rem32 l5 l6) w)
def f_X12_mean_L72 (n : Nat) : Int32 → Int32 → Int32 → Int32 → Int32 → Wd → Option Int32 :=
  Nat.rec (fun _ _ _ _ _ _ => none) (fun _ k => f_X12_mean_B72b k) n
set_option maxHeartbeats 4000000 in
set_option maxRecDepth 100000 in
theorem t_X12_mean_L72 {G : GT} {d : Nat} {w : Wd} (hd : 4 ≤ d + 1)  : ∀ (n : Nat) (l2 : Int32) (l3 : Int32) (l4 : Int32) (l5 : Int32) (l6 : Int32) (r : Int32), f_X12_mean_L72 n l2 l3 l4 l5 l6 w = some r → U (vf G mX12_mean (d + 1)) 72 [none, none, some (.int l2), some (.int l3), some (.int l4), some (.int l5), some (.int l6), none] [] w (some (.int r), 70, r0, w) := by
  intro n
  induction n with
  | zero => intro l2 l3 l4 l5 l6 r h; cases h
  | succ n h72 =>
    intro l2 l3 l4 l5 l6 r h
    have h : f_X12_mean_B72b (f_X12_mean_L72 n) l2 l3 l4 l5 l6 w = some r := h
    unfold f_X12_mean_B72b at h
    refine V.iload (pc := 72) dX12_mean_72 rfl ?_
    rcases ite_e h with ⟨c, h⟩ | ⟨c, h⟩
    · refine V.if_eq_t (t := 95) (pc := 74) dX12_mean_74 (by decide) c ?_
      refine V.iload_n (pc := 95) dX12_mean_95 rfl ?_
      rcases ite_e h with ⟨c, h⟩ | ⟨c, h⟩
      · refine V.if_eq_t (t := 106) (pc := 96) dX12_mean_96 (by decide) c ?_
        refine V.iload (pc := 106) dX12_mean_106 rfl ?_
        refine V.iload (pc := 108) dX12_mean_108 rfl ?_
        obtain ⟨hz, h⟩ := nzI_e h
        refine V.idiv (pc := 110) dX12_mean_110 hz ?_
        obtain rfl := Option.some.inj h
        exact V.iret (pc := 111) dX12_mean_111 rfl (Nat.le_refl _) (Nat.le_refl _)
      · refine V.if_eq_f (t := 106) (pc := 96) dX12_mean_96 (by decide) c ?_
        refine V.iload_n (pc := 99) dX12_mean_99 rfl ?_
        refine V.iload (pc := 100) dX12_mean_100 rfl ?_
        obtain ⟨hz, h⟩ := nzI_e h
        refine V.idiv (pc := 102) dX12_mean_102 hz ?_
        refine V.goto (t := 111) (pc := 103) dX12_mean_103 (by decide) ?_
        obtain rfl := Option.some.inj h
        exact V.iret (pc := 111) dX12_mean_111 rfl (Nat.le_refl _) (Nat.le_refl _)
    · refine V.if_eq_f (t := 95) (pc := 74) dX12_mean_74 (by decide) c ?_
      refine V.iload (pc := 77) dX12_mean_77 rfl ?_
      refine V.iload (pc := 79) dX12_mean_79 rfl ?_
      obtain ⟨hz, h⟩ := nzI_e h
      refine V.irem (pc := 81) dX12_mean_81 hz ?_
      refine V.istore (lv' := [none, none, some (.int l2), some (.int l3), some (.int l4), some (.int l5), some (.int l6), some (.int (rem32 l5 l6))]) (pc := 82) dX12_mean_82 (Nat.le_of_ble_eq_true rfl) rfl rfl ?_
      refine V.iload (pc := 84) dX12_mean_84 rfl ?_
      refine V.istore (lv' := [none, none, some (.int l2), some (.int l3), some (.int l4), some (.int l6), some (.int l6), some (.int (rem32 l5 l6))]) (pc := 86) dX12_mean_86 (Nat.le_of_ble_eq_true rfl) rfl rfl ?_
      refine V.iload (pc := 88) dX12_mean_88 rfl ?_
      refine V.istore (lv' := [none, none, some (.int l2), some (.int l3), some (.int l4), some (.int l6), some (.int (rem32 l5 l6)), some (.int (rem32 l5 l6))]) (pc := 90) dX12_mean_90 (Nat.le_of_ble_eq_true rfl) rfl rfl ?_
      refine V.goto (t := 72) (pc := 92) dX12_mean_92 (by decide) ?_
      refine V.weak (lv' := [none, none, some (.int l2), some (.int l3), some (.int l4), some (.int l6), some (.int (rem32 l5 l6)), none]) (And.intro rfl (And.intro rfl (And.intro rfl (And.intro rfl (And.intro rfl trivial))))) ?_
      exact h72 l2 l3 l4 l6 (rem32 l5 l6) _ h
def f_X12_mean_B17b (k17 : Int32 → Int32 → Int32 → Int32 → Int32 → Wd → Option Int32) (l1 : Int32) (l2 : Int32) (l3 : Int32) (l4 : Int32) (l5 : Int32) (w : Wd) : Option Int32 :=
  if (f_X12_all  w) < l5 then
    if l3 = 0 then
      some (-2)
    else
      f_X12_mean_L72  FU l2 l3 l4 l4 l3 w
  else
    bnd (f_X12_isOf l5 l1 w) fun x1 =>
    if x1 = 0 then
      k17 l1 l2 l3 l4 (l5 + 1) w
    else
      bnd (f_X12_ones l5) fun x2 =>
      k17 l1 l2 (l3 + 1) (l4 + x2) (l5 + 1) w
def f_X12_mean_L17 (n : Nat) : Int32 → Int32 → Int32 → Int32 → Int32 → Wd → Option Int32 :=
  Nat.rec (fun _ _ _ _ _ _ => none) (fun _ k => f_X12_mean_B17b k) n
set_option maxHeartbeats 4000000 in
set_option maxRecDepth 100000 in
theorem t_X12_mean_L17 {G : GT} {d : Nat} {w : Wd} (hd : 4 ≤ d + 1)  : ∀ (n : Nat) (l1 : Int32) (l2 : Int32) (l3 : Int32) (l4 : Int32) (l5 : Int32) (r : Int32), f_X12_mean_L17 n l1 l2 l3 l4 l5 w = some r → U (vf G mX12_mean (d + 1)) 17 [some (.ref 44), some (.int l1), some (.int l2), some (.int l3), some (.int l4), some (.int l5), none, none] [] w (some (.int r), 70, r0, w) := by
  intro n
  induction n with
  | zero => intro l1 l2 l3 l4 l5 r h; cases h
  | succ n h17 =>
    intro l1 l2 l3 l4 l5 r h
    have h : f_X12_mean_B17b (f_X12_mean_L17 n) l1 l2 l3 l4 l5 w = some r := h
    unfold f_X12_mean_B17b at h
    refine V.iload (pc := 17) dX12_mean_17 rfl ?_
    refine V.aload_n (pc := 19) dX12_mean_19 rfl ?_
    refine U.callV (pc := 20) (As := []) (st := [.int l5]) dX12_mean_20 l_RX12_143 (ok_X12_all (by omega)  ) lx_44 ly_44 cn_12 (Nat.le_of_ble_eq_true rfl) rfl rfl (Nat.le_of_ble_eq_true rfl) ?_
    rcases ite_e h with ⟨c, h⟩ | ⟨c, h⟩
    · refine V.icmp_gt_t (t := 58) (pc := 23) dX12_mean_23 (by decide) c ?_
      refine V.iload_n (pc := 58) dX12_mean_58 rfl ?_
      rcases ite_e h with ⟨c, h⟩ | ⟨c, h⟩
      · refine V.if_ne_f (t := 65) (pc := 59) dX12_mean_59 (by decide) c ?_
        refine V.bipush (pc := 62) dX12_mean_62 bp_m2 ?_
        obtain rfl := Option.some.inj h
        exact V.iret (pc := 64) dX12_mean_64 rfl (Nat.le_refl _) (Nat.le_refl _)
      · refine V.if_ne_t (t := 65) (pc := 59) dX12_mean_59 (by decide) c ?_
        refine V.iload (pc := 65) dX12_mean_65 rfl ?_
        refine V.istore (lv' := [some (.ref 44), some (.int l1), some (.int l2), some (.int l3), some (.int l4), some (.int l4), none, none]) (pc := 67) dX12_mean_67 (Nat.le_of_ble_eq_true rfl) rfl rfl ?_
        refine V.iload_n (pc := 69) dX12_mean_69 rfl ?_
        refine V.istore (lv' := [some (.ref 44), some (.int l1), some (.int l2), some (.int l3), some (.int l4), some (.int l4), some (.int l3), none]) (pc := 70) dX12_mean_70 (Nat.le_of_ble_eq_true rfl) rfl rfl ?_
        refine V.weak (lv' := [none, none, some (.int l2), some (.int l3), some (.int l4), some (.int l4), some (.int l3), none]) (And.intro rfl (And.intro rfl (And.intro rfl (And.intro rfl (And.intro rfl trivial))))) ?_
        exact t_X12_mean_L72 hd FU l2 l3 l4 l4 l3 _ h
    · refine V.icmp_gt_f (t := 58) (pc := 23) dX12_mean_23 (by decide) c ?_
      refine V.aload_n (pc := 26) dX12_mean_26 rfl ?_
      refine V.iload (pc := 27) dX12_mean_27 rfl ?_
      refine V.iload_n (pc := 29) dX12_mean_29 rfl ?_
      obtain ⟨x1, ex1, h⟩ := bnd_e h
      refine U.callV (pc := 30) (As := [.int l5, .int l1]) (st := []) dX12_mean_30 l_RX12_200 (ok_X12_isOf (by omega) l5 l1 ex1) lx_44 ly_44 cn_12 (Nat.le_of_ble_eq_true rfl) rfl rfl (Nat.le_of_ble_eq_true rfl) ?_
      rcases ite_e h with ⟨c, h⟩ | ⟨c, h⟩
      · refine V.if_ne_f (t := 39) (pc := 33) dX12_mean_33 (by decide) c ?_
        refine V.goto (t := 52) (pc := 36) dX12_mean_36 (by decide) ?_
        refine V.iinc (lv' := [some (.ref 44), some (.int l1), some (.int l2), some (.int l3), some (.int l4), some (.int (l5 + 1)), none, none]) (pc := 52) dX12_mean_52 (Nat.le_of_ble_eq_true rfl) rfl rfl (v := (l5 + 1)) (by rw [show Int32.ofInt 1 = 1 from by decide]) rfl ?_
        refine V.goto (t := 17) (pc := 55) dX12_mean_55 (by decide) ?_
        exact h17 l1 l2 l3 l4 (l5 + 1) _ h
      · refine V.if_ne_t (t := 39) (pc := 33) dX12_mean_33 (by decide) c ?_
        refine V.iinc (lv' := [some (.ref 44), some (.int l1), some (.int l2), some (.int (l3 + 1)), some (.int l4), some (.int l5), none, none]) (pc := 39) dX12_mean_39 (Nat.le_of_ble_eq_true rfl) rfl rfl (v := (l3 + 1)) (by rw [show Int32.ofInt 1 = 1 from by decide]) rfl ?_
        refine V.iload (pc := 42) dX12_mean_42 rfl ?_
        refine V.iload (pc := 44) dX12_mean_44 rfl ?_
        obtain ⟨x2, ex2, h⟩ := bnd_e h
        refine U.callS (pc := 46) (As := [.int l5]) (st := [.int l4]) dX12_mean_46 l_RX12_172 (ok_X12_ones (by omega) l5 ex2) (Nat.le_of_ble_eq_true rfl) rfl rfl (Nat.le_of_ble_eq_true rfl) ?_
        refine V.iadd (pc := 49) dX12_mean_49 ?_
        refine V.istore (lv' := [some (.ref 44), some (.int l1), some (.int l2), some (.int (l3 + 1)), some (.int (l4 + x2)), some (.int l5), none, none]) (pc := 50) dX12_mean_50 (Nat.le_of_ble_eq_true rfl) rfl rfl ?_
        refine V.iinc (lv' := [some (.ref 44), some (.int l1), some (.int l2), some (.int (l3 + 1)), some (.int (l4 + x2)), some (.int (l5 + 1)), none, none]) (pc := 52) dX12_mean_52 (Nat.le_of_ble_eq_true rfl) rfl rfl (v := (l5 + 1)) (by rw [show Int32.ofInt 1 = 1 from by decide]) rfl ?_
        refine V.goto (t := 17) (pc := 55) dX12_mean_55 (by decide) ?_
        exact h17 l1 l2 (l3 + 1) (l4 + x2) (l5 + 1) _ h
def f_X12_mean (l1 : Int32) (l2 : Int32) (w : Wd) : Option Int32 :=
  if (f_X12_isKind l1) = 0 then
    some (-1)
  else
    f_X12_mean_L17  FU l1 l2 0 0 0 w
set_option maxHeartbeats 4000000 in
set_option maxRecDepth 100000 in
theorem ok_X12_mean {G : GT} {d : Nat} (hd : 4 ≤ d) {w : Wd} (l1 : Int32) (l2 : Int32) {r : Int32} (h : f_X12_mean l1 l2 w = some r) : uC G yX12_mean mX12_mean d [.ref 44, .int l1, .int l2] w (some (.int r)) w := by
  obtain ⟨d, rfl⟩ : ∃ e, d = e + 1 := ⟨d - 1, by omega⟩
  unfold f_X12_mean at h
  refine uC_of (lv := [some (.ref 44), some (.int l1), some (.int l2), none, none, none, none, none]) 5 pn_X12 ⟨rfl, rfl⟩ (Nat.le_of_ble_eq_true rfl) rfl ?_
  refine V.iload_n (pc := 0) dX12_mean_0 rfl ?_
  refine U.callS (pc := 1) (As := [.int l1]) (st := []) dX12_mean_1 l_RX12_197 (ok_X12_isKind (by omega) l1 ) (Nat.le_of_ble_eq_true rfl) rfl rfl (Nat.le_of_ble_eq_true rfl) ?_
  rcases ite_e h with ⟨c, h⟩ | ⟨c, h⟩
  · refine V.if_ne_f (t := 9) (pc := 4) dX12_mean_4 (by decide) c ?_
    refine V.iconst (pc := 7) dX12_mean_7 ic_m1 ?_
    obtain rfl := Option.some.inj h
    exact V.iret (pc := 8) dX12_mean_8 rfl (Nat.le_refl _) (Nat.le_refl _)
  · refine V.if_ne_t (t := 9) (pc := 4) dX12_mean_4 (by decide) c ?_
    refine V.iconst (pc := 9) dX12_mean_9 ic_0 ?_
    refine V.istore_n (lv' := [some (.ref 44), some (.int l1), some (.int l2), some (.int 0), none, none, none, none]) (pc := 10) dX12_mean_10 (Nat.le_of_ble_eq_true rfl) rfl rfl ?_
    refine V.iconst (pc := 11) dX12_mean_11 ic_0 ?_
    refine V.istore (lv' := [some (.ref 44), some (.int l1), some (.int l2), some (.int 0), some (.int 0), none, none, none]) (pc := 12) dX12_mean_12 (Nat.le_of_ble_eq_true rfl) rfl rfl ?_
    refine V.iconst (pc := 14) dX12_mean_14 ic_0 ?_
    refine V.istore (lv' := [some (.ref 44), some (.int l1), some (.int l2), some (.int 0), some (.int 0), some (.int 0), none, none]) (pc := 15) dX12_mean_15 (Nat.le_of_ble_eq_true rfl) rfl rfl ?_
    exact t_X12_mean_L17 hd FU l1 l2 0 0 0 _ h
theorem dX11_usual_0 : decode cX11_usual 0 = .ok (.iload_n 1, 1) := by decide +kernel
theorem dX11_usual_1 : decode cX11_usual 1 = .ok (.invokestatic 192, 3) := by decide +kernel
theorem dX11_usual_4 : decode cX11_usual 4 = .ok (.ifCond .ne 5, 3) := by decide +kernel
theorem dX11_usual_7 : decode cX11_usual 7 = .ok (.iconst (-1), 1) := by decide +kernel
theorem dX11_usual_8 : decode cX11_usual 8 = .ok (.ireturn, 1) := by decide +kernel
theorem dX11_usual_9 : decode cX11_usual 9 = .ok (.aload_n 0, 1) := by decide +kernel
theorem dX11_usual_10 : decode cX11_usual 10 = .ok (.getfield 85, 3) := by decide +kernel
theorem dX11_usual_13 : decode cX11_usual 13 = .ok (.iconst 0, 1) := by decide +kernel
theorem dX11_usual_14 : decode cX11_usual 14 = .ok (.invokestatic 231, 3) := by decide +kernel
theorem dX11_usual_17 : decode cX11_usual 17 = .ok (.aload_n 0, 1) := by decide +kernel
theorem dX11_usual_18 : decode cX11_usual 18 = .ok (.getfield 44, 3) := by decide +kernel
theorem dX11_usual_21 : decode cX11_usual 21 = .ok (.invokevirtual 211, 3) := by decide +kernel
theorem dX11_usual_24 : decode cX11_usual 24 = .ok (.istore_n 2, 1) := by decide +kernel
theorem dX11_usual_25 : decode cX11_usual 25 = .ok (.iconst 0, 1) := by decide +kernel
theorem dX11_usual_26 : decode cX11_usual 26 = .ok (.istore_n 3, 1) := by decide +kernel
theorem dX11_usual_27 : decode cX11_usual 27 = .ok (.iload_n 3, 1) := by decide +kernel
theorem dX11_usual_28 : decode cX11_usual 28 = .ok (.iload_n 2, 1) := by decide +kernel
theorem dX11_usual_29 : decode cX11_usual 29 = .ok (.if_icmp .ge 42, 3) := by decide +kernel
theorem dX11_usual_32 : decode cX11_usual 32 = .ok (.aload_n 0, 1) := by decide +kernel
theorem dX11_usual_33 : decode cX11_usual 33 = .ok (.getfield 44, 3) := by decide +kernel
theorem dX11_usual_36 : decode cX11_usual 36 = .ok (.iload_n 3, 1) := by decide +kernel
theorem dX11_usual_37 : decode cX11_usual 37 = .ok (.iload_n 1, 1) := by decide +kernel
theorem dX11_usual_38 : decode cX11_usual 38 = .ok (.iconst (-1), 1) := by decide +kernel
theorem dX11_usual_39 : decode cX11_usual 39 = .ok (.invokevirtual 214, 3) := by decide +kernel
theorem dX11_usual_42 : decode cX11_usual 42 = .ok (.ifCond .eq 23, 3) := by decide +kernel
theorem dX11_usual_45 : decode cX11_usual 45 = .ok (.aload_n 0, 1) := by decide +kernel
theorem dX11_usual_46 : decode cX11_usual 46 = .ok (.getfield 85, 3) := by decide +kernel
theorem dX11_usual_49 : decode cX11_usual 49 = .ok (.aload_n 0, 1) := by decide +kernel
theorem dX11_usual_50 : decode cX11_usual 50 = .ok (.getfield 44, 3) := by decide +kernel
theorem dX11_usual_53 : decode cX11_usual 53 = .ok (.iload_n 3, 1) := by decide +kernel
theorem dX11_usual_54 : decode cX11_usual 54 = .ok (.invokevirtual 217, 3) := by decide +kernel
theorem dX11_usual_57 : decode cX11_usual 57 = .ok (.invokestatic 127, 3) := by decide +kernel
theorem dX11_usual_60 : decode cX11_usual 60 = .ok (.dup2, 1) := by decide +kernel
theorem dX11_usual_61 : decode cX11_usual 61 = .ok (.iaload, 1) := by decide +kernel
theorem dX11_usual_62 : decode cX11_usual 62 = .ok (.iconst 1, 1) := by decide +kernel
theorem dX11_usual_63 : decode cX11_usual 63 = .ok (.iadd, 1) := by decide +kernel
theorem dX11_usual_64 : decode cX11_usual 64 = .ok (.iastore, 1) := by decide +kernel
theorem dX11_usual_65 : decode cX11_usual 65 = .ok (.iinc 3 1, 3) := by decide +kernel
theorem dX11_usual_68 : decode cX11_usual 68 = .ok (.goto (-41), 3) := by decide +kernel
theorem dX11_usual_71 : decode cX11_usual 71 = .ok (.bipush (-2), 2) := by decide +kernel
theorem dX11_usual_73 : decode cX11_usual 73 = .ok (.istore_n 3, 1) := by decide +kernel
theorem dX11_usual_74 : decode cX11_usual 74 = .ok (.iconst 0, 1) := by decide +kernel
theorem dX11_usual_75 : decode cX11_usual 75 = .ok (.istore 4, 2) := by decide +kernel
theorem dX11_usual_77 : decode cX11_usual 77 = .ok (.iconst 0, 1) := by decide +kernel
theorem dX11_usual_78 : decode cX11_usual 78 = .ok (.istore 5, 2) := by decide +kernel
theorem dX11_usual_80 : decode cX11_usual 80 = .ok (.iload 5, 2) := by decide +kernel
theorem dX11_usual_82 : decode cX11_usual 82 = .ok (.aload_n 0, 1) := by decide +kernel
theorem dX11_usual_83 : decode cX11_usual 83 = .ok (.getfield 85, 3) := by decide +kernel
theorem dX11_usual_86 : decode cX11_usual 86 = .ok (.arraylength, 1) := by decide +kernel
theorem dX11_usual_87 : decode cX11_usual 87 = .ok (.if_icmp .ge 33, 3) := by decide +kernel
theorem dX11_usual_90 : decode cX11_usual 90 = .ok (.aload_n 0, 1) := by decide +kernel
theorem dX11_usual_91 : decode cX11_usual 91 = .ok (.getfield 85, 3) := by decide +kernel
theorem dX11_usual_94 : decode cX11_usual 94 = .ok (.iload 5, 2) := by decide +kernel
theorem dX11_usual_96 : decode cX11_usual 96 = .ok (.iaload, 1) := by decide +kernel
theorem dX11_usual_97 : decode cX11_usual 97 = .ok (.iload 4, 2) := by decide +kernel
theorem dX11_usual_99 : decode cX11_usual 99 = .ok (.if_icmp .le 15, 3) := by decide +kernel
theorem dX11_usual_102 : decode cX11_usual 102 = .ok (.aload_n 0, 1) := by decide +kernel
theorem dX11_usual_103 : decode cX11_usual 103 = .ok (.getfield 85, 3) := by decide +kernel
theorem dX11_usual_106 : decode cX11_usual 106 = .ok (.iload 5, 2) := by decide +kernel
theorem dX11_usual_108 : decode cX11_usual 108 = .ok (.iaload, 1) := by decide +kernel
theorem dX11_usual_109 : decode cX11_usual 109 = .ok (.istore 4, 2) := by decide +kernel
theorem dX11_usual_111 : decode cX11_usual 111 = .ok (.iload 5, 2) := by decide +kernel
theorem dX11_usual_113 : decode cX11_usual 113 = .ok (.istore_n 3, 1) := by decide +kernel
theorem dX11_usual_114 : decode cX11_usual 114 = .ok (.iinc 5 1, 3) := by decide +kernel
theorem dX11_usual_117 : decode cX11_usual 117 = .ok (.goto (-37), 3) := by decide +kernel
theorem dX11_usual_120 : decode cX11_usual 120 = .ok (.iload_n 3, 1) := by decide +kernel
theorem dX11_usual_121 : decode cX11_usual 121 = .ok (.ireturn, 1) := by decide +kernel
def f_X11_usual_B80b (k80 : Int32 → Int32 → Int32 → Wd → Option (Int32 × Wd)) (l3 : Int32) (l4 : Int32) (l5 : Int32) (w : Wd) : Option (Int32 × Wd) :=
  if 17 ≤ l5 then
    some (l3, w)
  else
    rdI w 43 17 l5 fun x1 =>
    if x1 ≤ l4 then
      k80 l3 l4 (l5 + 1) w
    else
      rdI w 43 17 l5 fun x2 =>
      k80 l5 x2 (l5 + 1) w
def f_X11_usual_L80 (n : Nat) : Int32 → Int32 → Int32 → Wd → Option (Int32 × Wd) :=
  Nat.rec (fun _ _ _ _ => none) (fun _ k => f_X11_usual_B80b k) n
set_option maxHeartbeats 4000000 in
set_option maxRecDepth 100000 in
theorem t_X11_usual_L80 {G : GT} {d : Nat} (hd : 5 ≤ d + 1)  : ∀ (n : Nat) (l3 : Int32) (l4 : Int32) (l5 : Int32) (w : Wd) (r : Int32) (w' : Wd), f_X11_usual_L80 n l3 l4 l5 w = some (r, w') → U (vf G mX11_usual (d + 1)) 80 [some (.ref 0), none, none, some (.int l3), some (.int l4), some (.int l5)] [] w (some (.int r), 70, r0, w') := by
  intro n
  induction n with
  | zero => intro l3 l4 l5 w r w' h; cases h
  | succ n h80 =>
    intro l3 l4 l5 w r w' h
    have h : f_X11_usual_B80b (f_X11_usual_L80 n) l3 l4 l5 w = some (r, w') := h
    unfold f_X11_usual_B80b at h
    refine V.iload (pc := 80) dX11_usual_80 rfl ?_
    refine V.aload_n (pc := 82) dX11_usual_82 rfl ?_
    refine V.getR (t := 43) (pc := 83) dX11_usual_83 f_RX11_85 k_cl11 lx_0 ly_0 rb_11_10 rr_0_10 ?_
    refine V.alen (v := 17) (pc := 86) dX11_usual_86 lx_43 ly_43 (Or.inl rfl) (by decide) ?_
    rcases ite_e h with ⟨c, h⟩ | ⟨c, h⟩
    · refine V.icmp_ge_t (t := 120) (pc := 87) dX11_usual_87 (by decide) c ?_
      refine V.iload_n (pc := 120) dX11_usual_120 rfl ?_
      obtain ⟨rfl, rfl⟩ := Prod.mk.inj (Option.some.inj h)
      exact V.iret (pc := 121) dX11_usual_121 rfl (Nat.le_refl _) (Nat.le_refl _)
    · refine V.icmp_ge_f (t := 120) (pc := 87) dX11_usual_87 (by decide) c ?_
      refine V.aload_n (pc := 90) dX11_usual_90 rfl ?_
      refine V.getR (t := 43) (pc := 91) dX11_usual_91 f_RX11_85 k_cl11 lx_0 ly_0 rb_11_10 rr_0_10 ?_
      refine V.iload (pc := 94) dX11_usual_94 rfl ?_
      obtain ⟨x1, ix1, ex1, h⟩ := rdI_e h
      refine V.ialdX (pc := 96) dX11_usual_96 lx_43 ly_43 ix1 ex1 ?_
      refine V.iload (pc := 97) dX11_usual_97 rfl ?_
      rcases ite_e h with ⟨c, h⟩ | ⟨c, h⟩
      · refine V.icmp_le_t (t := 114) (pc := 99) dX11_usual_99 (by decide) c ?_
        refine V.iinc (lv' := [some (.ref 0), none, none, some (.int l3), some (.int l4), some (.int (l5 + 1))]) (pc := 114) dX11_usual_114 (Nat.le_of_ble_eq_true rfl) rfl rfl (v := (l5 + 1)) (by rw [show Int32.ofInt 1 = 1 from by decide]) rfl ?_
        refine V.goto (t := 80) (pc := 117) dX11_usual_117 (by decide) ?_
        exact h80 l3 l4 (l5 + 1) w _ _ h
      · refine V.icmp_le_f (t := 114) (pc := 99) dX11_usual_99 (by decide) c ?_
        refine V.aload_n (pc := 102) dX11_usual_102 rfl ?_
        refine V.getR (t := 43) (pc := 103) dX11_usual_103 f_RX11_85 k_cl11 lx_0 ly_0 rb_11_10 rr_0_10 ?_
        refine V.iload (pc := 106) dX11_usual_106 rfl ?_
        obtain ⟨x2, ix2, ex2, h⟩ := rdI_e h
        refine V.ialdX (pc := 108) dX11_usual_108 lx_43 ly_43 ix2 ex2 ?_
        refine V.istore (lv' := [some (.ref 0), none, none, some (.int l3), some (.int x2), some (.int l5)]) (pc := 109) dX11_usual_109 (Nat.le_of_ble_eq_true rfl) rfl rfl ?_
        refine V.iload (pc := 111) dX11_usual_111 rfl ?_
        refine V.istore_n (lv' := [some (.ref 0), none, none, some (.int l5), some (.int x2), some (.int l5)]) (pc := 113) dX11_usual_113 (Nat.le_of_ble_eq_true rfl) rfl rfl ?_
        refine V.iinc (lv' := [some (.ref 0), none, none, some (.int l5), some (.int x2), some (.int (l5 + 1))]) (pc := 114) dX11_usual_114 (Nat.le_of_ble_eq_true rfl) rfl rfl (v := (l5 + 1)) (by rw [show Int32.ofInt 1 = 1 from by decide]) rfl ?_
        refine V.goto (t := 80) (pc := 117) dX11_usual_117 (by decide) ?_
        exact h80 l5 x2 (l5 + 1) w _ _ h
def f_X11_usual_B27b (k27 : Int32 → Int32 → Int32 → Wd → Option (Int32 × Wd)) (l1 : Int32) (l2 : Int32) (l3 : Int32) (w : Wd) : Option (Int32 × Wd) :=
  if l2 ≤ l3 then
    f_X11_usual_L80  FU (-2) 0 0 w
  else
    bnd (f_X3_fits l3 l1 (-1) w) fun x1 =>
    if x1 = 0 then
      k27 l1 l2 (l3 + 1) w
    else
      bnd (f_X3_setAt l3 w) fun x2 =>
      rdI w 43 17 (f_J6_bitCount_0f7a4 x2) fun x3 =>
      wrI w 43 17 (f_J6_bitCount_0f7a4 x2) (x3 + 1) fun w4 =>
      k27 l1 l2 (l3 + 1) w4
def f_X11_usual_L27 (n : Nat) : Int32 → Int32 → Int32 → Wd → Option (Int32 × Wd) :=
  Nat.rec (fun _ _ _ _ => none) (fun _ k => f_X11_usual_B27b k) n
set_option maxHeartbeats 4000000 in
set_option maxRecDepth 100000 in
theorem t_X11_usual_L27 {G : GT} {d : Nat} (hd : 5 ≤ d + 1)  : ∀ (n : Nat) (l1 : Int32) (l2 : Int32) (l3 : Int32) (w : Wd) (r : Int32) (w' : Wd), f_X11_usual_L27 n l1 l2 l3 w = some (r, w') → U (vf G mX11_usual (d + 1)) 27 [some (.ref 0), some (.int l1), some (.int l2), some (.int l3), none, none] [] w (some (.int r), 70, r0, w') := by
  intro n
  induction n with
  | zero => intro l1 l2 l3 w r w' h; cases h
  | succ n h27 =>
    intro l1 l2 l3 w r w' h
    have h : f_X11_usual_B27b (f_X11_usual_L27 n) l1 l2 l3 w = some (r, w') := h
    unfold f_X11_usual_B27b at h
    refine V.iload_n (pc := 27) dX11_usual_27 rfl ?_
    refine V.iload_n (pc := 28) dX11_usual_28 rfl ?_
    rcases ite_e h with ⟨c, h⟩ | ⟨c, h⟩
    · refine V.icmp_ge_t (t := 71) (pc := 29) dX11_usual_29 (by decide) c ?_
      refine V.bipush (pc := 71) dX11_usual_71 bp_m2 ?_
      refine V.istore_n (lv' := [some (.ref 0), some (.int l1), some (.int l2), some (.int (-2)), none, none]) (pc := 73) dX11_usual_73 (Nat.le_of_ble_eq_true rfl) rfl rfl ?_
      refine V.iconst (pc := 74) dX11_usual_74 ic_0 ?_
      refine V.istore (lv' := [some (.ref 0), some (.int l1), some (.int l2), some (.int (-2)), some (.int 0), none]) (pc := 75) dX11_usual_75 (Nat.le_of_ble_eq_true rfl) rfl rfl ?_
      refine V.iconst (pc := 77) dX11_usual_77 ic_0 ?_
      refine V.istore (lv' := [some (.ref 0), some (.int l1), some (.int l2), some (.int (-2)), some (.int 0), some (.int 0)]) (pc := 78) dX11_usual_78 (Nat.le_of_ble_eq_true rfl) rfl rfl ?_
      refine V.weak (lv' := [some (.ref 0), none, none, some (.int (-2)), some (.int 0), some (.int 0)]) (And.intro rfl (And.intro rfl (And.intro rfl (And.intro rfl trivial)))) ?_
      exact t_X11_usual_L80 hd FU (-2) 0 0 w _ _ h
    · refine V.icmp_ge_f (t := 71) (pc := 29) dX11_usual_29 (by decide) c ?_
      refine V.aload_n (pc := 32) dX11_usual_32 rfl ?_
      refine V.getR (t := 19) (pc := 33) dX11_usual_33 f_RX11_44 k_cl11 lx_0 ly_0 rb_11_4 rr_0_4 ?_
      refine V.iload_n (pc := 36) dX11_usual_36 rfl ?_
      refine V.iload_n (pc := 37) dX11_usual_37 rfl ?_
      refine V.iconst (pc := 38) dX11_usual_38 ic_m1 ?_
      obtain ⟨x1, ex1, h⟩ := bnd_e h
      refine U.callV (pc := 39) (As := [.int l3, .int l1, .int (-1)]) (st := []) dX11_usual_39 l_RX11_214 (ok_X3_fits (by omega) l3 l1 (-1) ex1) lx_19 ly_19 cn_3 (Nat.le_of_ble_eq_true rfl) rfl rfl (Nat.le_of_ble_eq_true rfl) ?_
      rcases ite_e h with ⟨c, h⟩ | ⟨c, h⟩
      · refine V.if_eq_t (t := 65) (pc := 42) dX11_usual_42 (by decide) c ?_
        refine V.iinc (lv' := [some (.ref 0), some (.int l1), some (.int l2), some (.int (l3 + 1)), none, none]) (pc := 65) dX11_usual_65 (Nat.le_of_ble_eq_true rfl) rfl rfl (v := (l3 + 1)) (by rw [show Int32.ofInt 1 = 1 from by decide]) rfl ?_
        refine V.goto (t := 27) (pc := 68) dX11_usual_68 (by decide) ?_
        exact h27 l1 l2 (l3 + 1) w _ _ h
      · refine V.if_eq_f (t := 65) (pc := 42) dX11_usual_42 (by decide) c ?_
        refine V.aload_n (pc := 45) dX11_usual_45 rfl ?_
        refine V.getR (t := 43) (pc := 46) dX11_usual_46 f_RX11_85 k_cl11 lx_0 ly_0 rb_11_10 rr_0_10 ?_
        refine V.aload_n (pc := 49) dX11_usual_49 rfl ?_
        refine V.getR (t := 19) (pc := 50) dX11_usual_50 f_RX11_44 k_cl11 lx_0 ly_0 rb_11_4 rr_0_4 ?_
        refine V.iload_n (pc := 53) dX11_usual_53 rfl ?_
        obtain ⟨x2, ex2, h⟩ := bnd_e h
        refine U.callV (pc := 54) (As := [.int l3]) (st := [.ref 43]) dX11_usual_54 l_RX11_217 (ok_X3_setAt (by omega) l3 ex2) lx_19 ly_19 cn_3 (Nat.le_of_ble_eq_true rfl) rfl rfl (Nat.le_of_ble_eq_true rfl) ?_
        refine U.callS (pc := 57) (As := [.int x2]) (st := [.ref 43]) dX11_usual_57 l_RX11_127 (ok_J6_bitCount_0f7a4 (by omega) x2 ) (Nat.le_of_ble_eq_true rfl) rfl rfl (Nat.le_of_ble_eq_true rfl) ?_
        refine V.dup2 (pc := 60) dX11_usual_60 rfl rfl ?_
        obtain ⟨x3, ix3, ex3, h⟩ := rdI_e h
        refine V.ialdX (pc := 61) dX11_usual_61 lx_43 ly_43 ix3 ex3 ?_
        refine V.iconst (pc := 62) dX11_usual_62 ic_1 ?_
        refine V.iadd (pc := 63) dX11_usual_63 ?_
        obtain ⟨w4, iw4, ew4, h⟩ := wrI_e h
        refine V.iastX (pc := 64) dX11_usual_64 lx_43 ly_43 iw4 ew4 ?_
        refine V.iinc (lv' := [some (.ref 0), some (.int l1), some (.int l2), some (.int (l3 + 1)), none, none]) (pc := 65) dX11_usual_65 (Nat.le_of_ble_eq_true rfl) rfl rfl (v := (l3 + 1)) (by rw [show Int32.ofInt 1 = 1 from by decide]) rfl ?_
        refine V.goto (t := 27) (pc := 68) dX11_usual_68 (by decide) ?_
        exact h27 l1 l2 (l3 + 1) w4 _ _ h
def f_X11_usual (l1 : Int32) (w : Wd) : Option (Int32 × Wd) :=
  if (f_X11_isKind l1) = 0 then
    some ((-1), w)
  else
    bnd (f_J7_fill_53178_43 0 w) fun w1 =>
    bnd2 (f_X3_total  w1) fun x2 w3 =>
    f_X11_usual_L27  FU l1 x2 0 w3
set_option maxHeartbeats 4000000 in
set_option maxRecDepth 100000 in
theorem ok_X11_usual {G : GT} {d : Nat} (hd : 5 ≤ d) {w : Wd} (l1 : Int32) {r : Int32} {w' : Wd} (h : f_X11_usual l1 w = some (r, w')) : uC G yX11_usual mX11_usual d [.ref 0, .int l1] w (some (.int r)) w' := by
  obtain ⟨d, rfl⟩ : ∃ e, d = e + 1 := ⟨d - 1, by omega⟩
  unfold f_X11_usual at h
  refine uC_of (lv := [some (.ref 0), some (.int l1), none, none, none, none]) 4 pn_X11 ⟨rfl, rfl⟩ (Nat.le_of_ble_eq_true rfl) rfl ?_
  refine V.iload_n (pc := 0) dX11_usual_0 rfl ?_
  refine U.callS (pc := 1) (As := [.int l1]) (st := []) dX11_usual_1 l_RX11_192 (ok_X11_isKind (by omega) l1 ) (Nat.le_of_ble_eq_true rfl) rfl rfl (Nat.le_of_ble_eq_true rfl) ?_
  rcases ite_e h with ⟨c, h⟩ | ⟨c, h⟩
  · refine V.if_ne_f (t := 9) (pc := 4) dX11_usual_4 (by decide) c ?_
    refine V.iconst (pc := 7) dX11_usual_7 ic_m1 ?_
    obtain ⟨rfl, rfl⟩ := Prod.mk.inj (Option.some.inj h)
    exact V.iret (pc := 8) dX11_usual_8 rfl (Nat.le_refl _) (Nat.le_refl _)
  · refine V.if_ne_t (t := 9) (pc := 4) dX11_usual_4 (by decide) c ?_
    refine V.aload_n (pc := 9) dX11_usual_9 rfl ?_
    refine V.getR (t := 43) (pc := 10) dX11_usual_10 f_RX11_85 k_cl11 lx_0 ly_0 rb_11_10 rr_0_10 ?_
    refine V.iconst (pc := 13) dX11_usual_13 ic_0 ?_
    obtain ⟨w1, ew1, h⟩ := bnd_e h
    refine U.callS (pc := 14) (As := [.ref 43, .int 0]) (st := []) dX11_usual_14 l_RX11_231 (ok_J7_fill_53178_43 (by omega) 0 ew1) (Nat.le_of_ble_eq_true rfl) rfl rfl (Nat.le_of_ble_eq_true rfl) ?_
    refine V.aload_n (pc := 17) dX11_usual_17 rfl ?_
    refine V.getR (t := 19) (pc := 18) dX11_usual_18 f_RX11_44 k_cl11 lx_0 ly_0 rb_11_4 rr_0_4 ?_
    obtain ⟨x2, w3, ew3, h⟩ := bnd2_e h
    refine U.callV (pc := 21) (As := []) (st := []) dX11_usual_21 l_RX11_211 (ok_X3_total (by omega)  ew3) lx_19 ly_19 cn_3 (Nat.le_of_ble_eq_true rfl) rfl rfl (Nat.le_of_ble_eq_true rfl) ?_
    refine V.istore_n (lv' := [some (.ref 0), some (.int l1), some (.int x2), none, none, none]) (pc := 24) dX11_usual_24 (Nat.le_of_ble_eq_true rfl) rfl rfl ?_
    refine V.iconst (pc := 25) dX11_usual_25 ic_0 ?_
    refine V.istore_n (lv' := [some (.ref 0), some (.int l1), some (.int x2), some (.int 0), none, none]) (pc := 26) dX11_usual_26 (Nat.le_of_ble_eq_true rfl) rfl rfl ?_
    exact t_X11_usual_L27 hd FU l1 x2 0 w3 _ _ h
theorem dX12_usual_0 : decode cX12_usual 0 = .ok (.iload_n 1, 1) := by decide +kernel
theorem dX12_usual_1 : decode cX12_usual 1 = .ok (.invokestatic 197, 3) := by decide +kernel
theorem dX12_usual_4 : decode cX12_usual 4 = .ok (.ifCond .ne 5, 3) := by decide +kernel
theorem dX12_usual_7 : decode cX12_usual 7 = .ok (.iconst (-1), 1) := by decide +kernel
theorem dX12_usual_8 : decode cX12_usual 8 = .ok (.ireturn, 1) := by decide +kernel
theorem dX12_usual_9 : decode cX12_usual 9 = .ok (.iconst 0, 1) := by decide +kernel
theorem dX12_usual_10 : decode cX12_usual 10 = .ok (.istore_n 2, 1) := by decide +kernel
theorem dX12_usual_11 : decode cX12_usual 11 = .ok (.iload_n 2, 1) := by decide +kernel
theorem dX12_usual_12 : decode cX12_usual 12 = .ok (.bipush 16, 2) := by decide +kernel
theorem dX12_usual_14 : decode cX12_usual 14 = .ok (.if_icmp .gt 16, 3) := by decide +kernel
theorem dX12_usual_17 : decode cX12_usual 17 = .ok (.aload_n 0, 1) := by decide +kernel
theorem dX12_usual_18 : decode cX12_usual 18 = .ok (.getfield 51, 3) := by decide +kernel
theorem dX12_usual_21 : decode cX12_usual 21 = .ok (.iload_n 2, 1) := by decide +kernel
theorem dX12_usual_22 : decode cX12_usual 22 = .ok (.iconst 0, 1) := by decide +kernel
theorem dX12_usual_23 : decode cX12_usual 23 = .ok (.iastore, 1) := by decide +kernel
theorem dX12_usual_24 : decode cX12_usual 24 = .ok (.iinc 2 1, 3) := by decide +kernel
theorem dX12_usual_27 : decode cX12_usual 27 = .ok (.goto (-16), 3) := by decide +kernel
theorem dX12_usual_30 : decode cX12_usual 30 = .ok (.iconst 0, 1) := by decide +kernel
theorem dX12_usual_31 : decode cX12_usual 31 = .ok (.istore_n 2, 1) := by decide +kernel
theorem dX12_usual_32 : decode cX12_usual 32 = .ok (.iload_n 2, 1) := by decide +kernel
theorem dX12_usual_33 : decode cX12_usual 33 = .ok (.aload_n 0, 1) := by decide +kernel
theorem dX12_usual_34 : decode cX12_usual 34 = .ok (.invokevirtual 143, 3) := by decide +kernel
theorem dX12_usual_37 : decode cX12_usual 37 = .ok (.if_icmp .gt 31, 3) := by decide +kernel
theorem dX12_usual_40 : decode cX12_usual 40 = .ok (.aload_n 0, 1) := by decide +kernel
theorem dX12_usual_41 : decode cX12_usual 41 = .ok (.iload_n 2, 1) := by decide +kernel
theorem dX12_usual_42 : decode cX12_usual 42 = .ok (.iload_n 1, 1) := by decide +kernel
theorem dX12_usual_43 : decode cX12_usual 43 = .ok (.invokevirtual 200, 3) := by decide +kernel
theorem dX12_usual_46 : decode cX12_usual 46 = .ok (.ifCond .eq 16, 3) := by decide +kernel
theorem dX12_usual_49 : decode cX12_usual 49 = .ok (.aload_n 0, 1) := by decide +kernel
theorem dX12_usual_50 : decode cX12_usual 50 = .ok (.getfield 51, 3) := by decide +kernel
theorem dX12_usual_53 : decode cX12_usual 53 = .ok (.iload_n 2, 1) := by decide +kernel
theorem dX12_usual_54 : decode cX12_usual 54 = .ok (.invokestatic 172, 3) := by decide +kernel
theorem dX12_usual_57 : decode cX12_usual 57 = .ok (.dup2, 1) := by decide +kernel
theorem dX12_usual_58 : decode cX12_usual 58 = .ok (.iaload, 1) := by decide +kernel
theorem dX12_usual_59 : decode cX12_usual 59 = .ok (.iconst 1, 1) := by decide +kernel
theorem dX12_usual_60 : decode cX12_usual 60 = .ok (.iadd, 1) := by decide +kernel
theorem dX12_usual_61 : decode cX12_usual 61 = .ok (.iastore, 1) := by decide +kernel
theorem dX12_usual_62 : decode cX12_usual 62 = .ok (.iinc 2 1, 3) := by decide +kernel
theorem dX12_usual_65 : decode cX12_usual 65 = .ok (.goto (-33), 3) := by decide +kernel
theorem dX12_usual_68 : decode cX12_usual 68 = .ok (.bipush (-2), 2) := by decide +kernel
theorem dX12_usual_70 : decode cX12_usual 70 = .ok (.istore_n 2, 1) := by decide +kernel
theorem dX12_usual_71 : decode cX12_usual 71 = .ok (.iconst 0, 1) := by decide +kernel
theorem dX12_usual_72 : decode cX12_usual 72 = .ok (.istore_n 3, 1) := by decide +kernel
theorem dX12_usual_73 : decode cX12_usual 73 = .ok (.iconst 0, 1) := by decide +kernel
theorem dX12_usual_74 : decode cX12_usual 74 = .ok (.istore 4, 2) := by decide +kernel
theorem dX12_usual_76 : decode cX12_usual 76 = .ok (.iload 4, 2) := by decide +kernel
theorem dX12_usual_78 : decode cX12_usual 78 = .ok (.aload_n 0, 1) := by decide +kernel
theorem dX12_usual_79 : decode cX12_usual 79 = .ok (.getfield 92, 3) := by decide +kernel
theorem dX12_usual_82 : decode cX12_usual 82 = .ok (.if_icmp .gt 34, 3) := by decide +kernel
theorem dX12_usual_85 : decode cX12_usual 85 = .ok (.aload_n 0, 1) := by decide +kernel
theorem dX12_usual_86 : decode cX12_usual 86 = .ok (.getfield 51, 3) := by decide +kernel
theorem dX12_usual_89 : decode cX12_usual 89 = .ok (.iload 4, 2) := by decide +kernel
theorem dX12_usual_91 : decode cX12_usual 91 = .ok (.iaload, 1) := by decide +kernel
theorem dX12_usual_92 : decode cX12_usual 92 = .ok (.iload_n 3, 1) := by decide +kernel
theorem dX12_usual_93 : decode cX12_usual 93 = .ok (.if_icmp .gt 6, 3) := by decide +kernel
theorem dX12_usual_96 : decode cX12_usual 96 = .ok (.goto 14, 3) := by decide +kernel
theorem dX12_usual_99 : decode cX12_usual 99 = .ok (.aload_n 0, 1) := by decide +kernel
theorem dX12_usual_100 : decode cX12_usual 100 = .ok (.getfield 51, 3) := by decide +kernel
theorem dX12_usual_103 : decode cX12_usual 103 = .ok (.iload 4, 2) := by decide +kernel
theorem dX12_usual_105 : decode cX12_usual 105 = .ok (.iaload, 1) := by decide +kernel
theorem dX12_usual_106 : decode cX12_usual 106 = .ok (.istore_n 3, 1) := by decide +kernel
theorem dX12_usual_107 : decode cX12_usual 107 = .ok (.iload 4, 2) := by decide +kernel
theorem dX12_usual_109 : decode cX12_usual 109 = .ok (.istore_n 2, 1) := by decide +kernel
theorem dX12_usual_110 : decode cX12_usual 110 = .ok (.iinc 4 1, 3) := by decide +kernel
theorem dX12_usual_113 : decode cX12_usual 113 = .ok (.goto (-37), 3) := by decide +kernel
theorem dX12_usual_116 : decode cX12_usual 116 = .ok (.iload_n 2, 1) := by decide +kernel
theorem dX12_usual_117 : decode cX12_usual 117 = .ok (.ireturn, 1) := by decide +kernel
def f_X12_usual_B76b (k76 : Int32 → Int32 → Int32 → Wd → Option (Int32 × Wd)) (l2 : Int32) (l3 : Int32) (l4 : Int32) (w : Wd) : Option (Int32 × Wd) :=
  if (w.1 44 1) < l4 then
    some (l2, w)
  else
    rdI w 57 17 l4 fun x1 =>
    if l3 < x1 then
      rdI w 57 17 l4 fun x2 =>
      k76 l4 x2 (l4 + 1) w
    else
      k76 l2 l3 (l4 + 1) w
def f_X12_usual_L76 (n : Nat) : Int32 → Int32 → Int32 → Wd → Option (Int32 × Wd) :=
  Nat.rec (fun _ _ _ _ => none) (fun _ k => f_X12_usual_B76b k) n
set_option maxHeartbeats 4000000 in
set_option maxRecDepth 100000 in
theorem t_X12_usual_L76 {G : GT} {d : Nat} (hd : 4 ≤ d + 1)  : ∀ (n : Nat) (l2 : Int32) (l3 : Int32) (l4 : Int32) (w : Wd) (r : Int32) (w' : Wd), f_X12_usual_L76 n l2 l3 l4 w = some (r, w') → U (vf G mX12_usual (d + 1)) 76 [some (.ref 44), none, some (.int l2), some (.int l3), some (.int l4)] [] w (some (.int r), 70, r0, w') := by
  intro n
  induction n with
  | zero => intro l2 l3 l4 w r w' h; cases h
  | succ n h76 =>
    intro l2 l3 l4 w r w' h
    have h : f_X12_usual_B76b (f_X12_usual_L76 n) l2 l3 l4 w = some (r, w') := h
    unfold f_X12_usual_B76b at h
    refine V.iload (pc := 76) dX12_usual_76 rfl ?_
    refine V.aload_n (pc := 78) dX12_usual_78 rfl ?_
    refine V.getI (pc := 79) dX12_usual_79 f_RX12_92 k_cl12 lx_44 ly_44 rb_12_1 ?_
    rcases ite_e h with ⟨c, h⟩ | ⟨c, h⟩
    · refine V.icmp_gt_t (t := 116) (pc := 82) dX12_usual_82 (by decide) c ?_
      refine V.iload_n (pc := 116) dX12_usual_116 rfl ?_
      obtain ⟨rfl, rfl⟩ := Prod.mk.inj (Option.some.inj h)
      exact V.iret (pc := 117) dX12_usual_117 rfl (Nat.le_refl _) (Nat.le_refl _)
    · refine V.icmp_gt_f (t := 116) (pc := 82) dX12_usual_82 (by decide) c ?_
      refine V.aload_n (pc := 85) dX12_usual_85 rfl ?_
      refine V.getR (t := 57) (pc := 86) dX12_usual_86 f_RX12_51 k_cl12 lx_44 ly_44 rb_12_17 rr_44_17 ?_
      refine V.iload (pc := 89) dX12_usual_89 rfl ?_
      obtain ⟨x1, ix1, ex1, h⟩ := rdI_e h
      refine V.ialdX (pc := 91) dX12_usual_91 lx_57 ly_57 ix1 ex1 ?_
      refine V.iload_n (pc := 92) dX12_usual_92 rfl ?_
      rcases ite_e h with ⟨c, h⟩ | ⟨c, h⟩
      · refine V.icmp_gt_t (t := 99) (pc := 93) dX12_usual_93 (by decide) c ?_
        refine V.aload_n (pc := 99) dX12_usual_99 rfl ?_
        refine V.getR (t := 57) (pc := 100) dX12_usual_100 f_RX12_51 k_cl12 lx_44 ly_44 rb_12_17 rr_44_17 ?_
        refine V.iload (pc := 103) dX12_usual_103 rfl ?_
        obtain ⟨x2, ix2, ex2, h⟩ := rdI_e h
        refine V.ialdX (pc := 105) dX12_usual_105 lx_57 ly_57 ix2 ex2 ?_
        refine V.istore_n (lv' := [some (.ref 44), none, some (.int l2), some (.int x2), some (.int l4)]) (pc := 106) dX12_usual_106 (Nat.le_of_ble_eq_true rfl) rfl rfl ?_
        refine V.iload (pc := 107) dX12_usual_107 rfl ?_
        refine V.istore_n (lv' := [some (.ref 44), none, some (.int l4), some (.int x2), some (.int l4)]) (pc := 109) dX12_usual_109 (Nat.le_of_ble_eq_true rfl) rfl rfl ?_
        refine V.iinc (lv' := [some (.ref 44), none, some (.int l4), some (.int x2), some (.int (l4 + 1))]) (pc := 110) dX12_usual_110 (Nat.le_of_ble_eq_true rfl) rfl rfl (v := (l4 + 1)) (by rw [show Int32.ofInt 1 = 1 from by decide]) rfl ?_
        refine V.goto (t := 76) (pc := 113) dX12_usual_113 (by decide) ?_
        exact h76 l4 x2 (l4 + 1) w _ _ h
      · refine V.icmp_gt_f (t := 99) (pc := 93) dX12_usual_93 (by decide) c ?_
        refine V.goto (t := 110) (pc := 96) dX12_usual_96 (by decide) ?_
        refine V.iinc (lv' := [some (.ref 44), none, some (.int l2), some (.int l3), some (.int (l4 + 1))]) (pc := 110) dX12_usual_110 (Nat.le_of_ble_eq_true rfl) rfl rfl (v := (l4 + 1)) (by rw [show Int32.ofInt 1 = 1 from by decide]) rfl ?_
        refine V.goto (t := 76) (pc := 113) dX12_usual_113 (by decide) ?_
        exact h76 l2 l3 (l4 + 1) w _ _ h
def f_X12_usual_B32b (k32 : Int32 → Int32 → Wd → Option (Int32 × Wd)) (l1 : Int32) (l2 : Int32) (w : Wd) : Option (Int32 × Wd) :=
  if (f_X12_all  w) < l2 then
    f_X12_usual_L76  FU (-2) 0 0 w
  else
    bnd (f_X12_isOf l2 l1 w) fun x1 =>
    if x1 = 0 then
      k32 l1 (l2 + 1) w
    else
      bnd (f_X12_ones l2) fun x2 =>
      rdI w 57 17 x2 fun x3 =>
      wrI w 57 17 x2 (x3 + 1) fun w4 =>
      k32 l1 (l2 + 1) w4
def f_X12_usual_L32 (n : Nat) : Int32 → Int32 → Wd → Option (Int32 × Wd) :=
  Nat.rec (fun _ _ _ => none) (fun _ k => f_X12_usual_B32b k) n
set_option maxHeartbeats 4000000 in
set_option maxRecDepth 100000 in
theorem t_X12_usual_L32 {G : GT} {d : Nat} (hd : 4 ≤ d + 1)  : ∀ (n : Nat) (l1 : Int32) (l2 : Int32) (w : Wd) (r : Int32) (w' : Wd), f_X12_usual_L32 n l1 l2 w = some (r, w') → U (vf G mX12_usual (d + 1)) 32 [some (.ref 44), some (.int l1), some (.int l2), none, none] [] w (some (.int r), 70, r0, w') := by
  intro n
  induction n with
  | zero => intro l1 l2 w r w' h; cases h
  | succ n h32 =>
    intro l1 l2 w r w' h
    have h : f_X12_usual_B32b (f_X12_usual_L32 n) l1 l2 w = some (r, w') := h
    unfold f_X12_usual_B32b at h
    refine V.iload_n (pc := 32) dX12_usual_32 rfl ?_
    refine V.aload_n (pc := 33) dX12_usual_33 rfl ?_
    refine U.callV (pc := 34) (As := []) (st := [.int l2]) dX12_usual_34 l_RX12_143 (ok_X12_all (by omega)  ) lx_44 ly_44 cn_12 (Nat.le_of_ble_eq_true rfl) rfl rfl (Nat.le_of_ble_eq_true rfl) ?_
    rcases ite_e h with ⟨c, h⟩ | ⟨c, h⟩
    · refine V.icmp_gt_t (t := 68) (pc := 37) dX12_usual_37 (by decide) c ?_
      refine V.bipush (pc := 68) dX12_usual_68 bp_m2 ?_
      refine V.istore_n (lv' := [some (.ref 44), some (.int l1), some (.int (-2)), none, none]) (pc := 70) dX12_usual_70 (Nat.le_of_ble_eq_true rfl) rfl rfl ?_
      refine V.iconst (pc := 71) dX12_usual_71 ic_0 ?_
      refine V.istore_n (lv' := [some (.ref 44), some (.int l1), some (.int (-2)), some (.int 0), none]) (pc := 72) dX12_usual_72 (Nat.le_of_ble_eq_true rfl) rfl rfl ?_
      refine V.iconst (pc := 73) dX12_usual_73 ic_0 ?_
      refine V.istore (lv' := [some (.ref 44), some (.int l1), some (.int (-2)), some (.int 0), some (.int 0)]) (pc := 74) dX12_usual_74 (Nat.le_of_ble_eq_true rfl) rfl rfl ?_
      refine V.weak (lv' := [some (.ref 44), none, some (.int (-2)), some (.int 0), some (.int 0)]) (And.intro rfl (And.intro rfl (And.intro rfl (And.intro rfl trivial)))) ?_
      exact t_X12_usual_L76 hd FU (-2) 0 0 w _ _ h
    · refine V.icmp_gt_f (t := 68) (pc := 37) dX12_usual_37 (by decide) c ?_
      refine V.aload_n (pc := 40) dX12_usual_40 rfl ?_
      refine V.iload_n (pc := 41) dX12_usual_41 rfl ?_
      refine V.iload_n (pc := 42) dX12_usual_42 rfl ?_
      obtain ⟨x1, ex1, h⟩ := bnd_e h
      refine U.callV (pc := 43) (As := [.int l2, .int l1]) (st := []) dX12_usual_43 l_RX12_200 (ok_X12_isOf (by omega) l2 l1 ex1) lx_44 ly_44 cn_12 (Nat.le_of_ble_eq_true rfl) rfl rfl (Nat.le_of_ble_eq_true rfl) ?_
      rcases ite_e h with ⟨c, h⟩ | ⟨c, h⟩
      · refine V.if_eq_t (t := 62) (pc := 46) dX12_usual_46 (by decide) c ?_
        refine V.iinc (lv' := [some (.ref 44), some (.int l1), some (.int (l2 + 1)), none, none]) (pc := 62) dX12_usual_62 (Nat.le_of_ble_eq_true rfl) rfl rfl (v := (l2 + 1)) (by rw [show Int32.ofInt 1 = 1 from by decide]) rfl ?_
        refine V.goto (t := 32) (pc := 65) dX12_usual_65 (by decide) ?_
        exact h32 l1 (l2 + 1) w _ _ h
      · refine V.if_eq_f (t := 62) (pc := 46) dX12_usual_46 (by decide) c ?_
        refine V.aload_n (pc := 49) dX12_usual_49 rfl ?_
        refine V.getR (t := 57) (pc := 50) dX12_usual_50 f_RX12_51 k_cl12 lx_44 ly_44 rb_12_17 rr_44_17 ?_
        refine V.iload_n (pc := 53) dX12_usual_53 rfl ?_
        obtain ⟨x2, ex2, h⟩ := bnd_e h
        refine U.callS (pc := 54) (As := [.int l2]) (st := [.ref 57]) dX12_usual_54 l_RX12_172 (ok_X12_ones (by omega) l2 ex2) (Nat.le_of_ble_eq_true rfl) rfl rfl (Nat.le_of_ble_eq_true rfl) ?_
        refine V.dup2 (pc := 57) dX12_usual_57 rfl rfl ?_
        obtain ⟨x3, ix3, ex3, h⟩ := rdI_e h
        refine V.ialdX (pc := 58) dX12_usual_58 lx_57 ly_57 ix3 ex3 ?_
        refine V.iconst (pc := 59) dX12_usual_59 ic_1 ?_
        refine V.iadd (pc := 60) dX12_usual_60 ?_
        obtain ⟨w4, iw4, ew4, h⟩ := wrI_e h
        refine V.iastX (pc := 61) dX12_usual_61 lx_57 ly_57 iw4 ew4 ?_
        refine V.iinc (lv' := [some (.ref 44), some (.int l1), some (.int (l2 + 1)), none, none]) (pc := 62) dX12_usual_62 (Nat.le_of_ble_eq_true rfl) rfl rfl (v := (l2 + 1)) (by rw [show Int32.ofInt 1 = 1 from by decide]) rfl ?_
        refine V.goto (t := 32) (pc := 65) dX12_usual_65 (by decide) ?_
        exact h32 l1 (l2 + 1) w4 _ _ h
def f_X12_usual_B11b (k11 : Int32 → Int32 → Wd → Option (Int32 × Wd)) (l1 : Int32) (l2 : Int32) (w : Wd) : Option (Int32 × Wd) :=
  if 16 < l2 then
    f_X12_usual_L32  FU l1 0 w
  else
    wrI w 57 17 l2 0 fun w1 =>
    k11 l1 (l2 + 1) w1
def f_X12_usual_L11 (n : Nat) : Int32 → Int32 → Wd → Option (Int32 × Wd) :=
  Nat.rec (fun _ _ _ => none) (fun _ k => f_X12_usual_B11b k) n
set_option maxHeartbeats 4000000 in
set_option maxRecDepth 100000 in
theorem t_X12_usual_L11 {G : GT} {d : Nat} (hd : 4 ≤ d + 1)  : ∀ (n : Nat) (l1 : Int32) (l2 : Int32) (w : Wd) (r : Int32) (w' : Wd), f_X12_usual_L11 n l1 l2 w = some (r, w') → U (vf G mX12_usual (d + 1)) 11 [some (.ref 44), some (.int l1), some (.int l2), none, none] [] w (some (.int r), 70, r0, w') := by
  intro n
  induction n with
  | zero => intro l1 l2 w r w' h; cases h
  | succ n h11 =>
    intro l1 l2 w r w' h
    have h : f_X12_usual_B11b (f_X12_usual_L11 n) l1 l2 w = some (r, w') := h
    unfold f_X12_usual_B11b at h
    refine V.iload_n (pc := 11) dX12_usual_11 rfl ?_
    refine V.bipush (pc := 12) dX12_usual_12 bp_16 ?_
    rcases ite_e h with ⟨c, h⟩ | ⟨c, h⟩
    · refine V.icmp_gt_t (t := 30) (pc := 14) dX12_usual_14 (by decide) c ?_
      refine V.iconst (pc := 30) dX12_usual_30 ic_0 ?_
      refine V.istore_n (lv' := [some (.ref 44), some (.int l1), some (.int 0), none, none]) (pc := 31) dX12_usual_31 (Nat.le_of_ble_eq_true rfl) rfl rfl ?_
      exact t_X12_usual_L32 hd FU l1 0 w _ _ h
    · refine V.icmp_gt_f (t := 30) (pc := 14) dX12_usual_14 (by decide) c ?_
      refine V.aload_n (pc := 17) dX12_usual_17 rfl ?_
      refine V.getR (t := 57) (pc := 18) dX12_usual_18 f_RX12_51 k_cl12 lx_44 ly_44 rb_12_17 rr_44_17 ?_
      refine V.iload_n (pc := 21) dX12_usual_21 rfl ?_
      refine V.iconst (pc := 22) dX12_usual_22 ic_0 ?_
      obtain ⟨w1, iw1, ew1, h⟩ := wrI_e h
      refine V.iastX (pc := 23) dX12_usual_23 lx_57 ly_57 iw1 ew1 ?_
      refine V.iinc (lv' := [some (.ref 44), some (.int l1), some (.int (l2 + 1)), none, none]) (pc := 24) dX12_usual_24 (Nat.le_of_ble_eq_true rfl) rfl rfl (v := (l2 + 1)) (by rw [show Int32.ofInt 1 = 1 from by decide]) rfl ?_
      refine V.goto (t := 11) (pc := 27) dX12_usual_27 (by decide) ?_
      exact h11 l1 (l2 + 1) w1 _ _ h
def f_X12_usual (l1 : Int32) (w : Wd) : Option (Int32 × Wd) :=
  if (f_X12_isKind l1) = 0 then
    some ((-1), w)
  else
    f_X12_usual_L11  FU l1 0 w
set_option maxHeartbeats 4000000 in
set_option maxRecDepth 100000 in
theorem ok_X12_usual {G : GT} {d : Nat} (hd : 4 ≤ d) {w : Wd} (l1 : Int32) {r : Int32} {w' : Wd} (h : f_X12_usual l1 w = some (r, w')) : uC G yX12_usual mX12_usual d [.ref 44, .int l1] w (some (.int r)) w' := by
  obtain ⟨d, rfl⟩ : ∃ e, d = e + 1 := ⟨d - 1, by omega⟩
  unfold f_X12_usual at h
  refine uC_of (lv := [some (.ref 44), some (.int l1), none, none, none]) 3 pn_X12 ⟨rfl, rfl⟩ (Nat.le_of_ble_eq_true rfl) rfl ?_
  refine V.iload_n (pc := 0) dX12_usual_0 rfl ?_
  refine U.callS (pc := 1) (As := [.int l1]) (st := []) dX12_usual_1 l_RX12_197 (ok_X12_isKind (by omega) l1 ) (Nat.le_of_ble_eq_true rfl) rfl rfl (Nat.le_of_ble_eq_true rfl) ?_
  rcases ite_e h with ⟨c, h⟩ | ⟨c, h⟩
  · refine V.if_ne_f (t := 9) (pc := 4) dX12_usual_4 (by decide) c ?_
    refine V.iconst (pc := 7) dX12_usual_7 ic_m1 ?_
    obtain ⟨rfl, rfl⟩ := Prod.mk.inj (Option.some.inj h)
    exact V.iret (pc := 8) dX12_usual_8 rfl (Nat.le_refl _) (Nat.le_refl _)
  · refine V.if_ne_t (t := 9) (pc := 4) dX12_usual_4 (by decide) c ?_
    refine V.iconst (pc := 9) dX12_usual_9 ic_0 ?_
    refine V.istore_n (lv' := [some (.ref 44), some (.int l1), some (.int 0), none, none]) (pc := 10) dX12_usual_10 (Nat.le_of_ble_eq_true rfl) rfl rfl ?_
    exact t_X12_usual_L11 hd FU l1 0 w _ _ h
def f_J7_fill_53178_22_B5b (k5 : Int32 → Int32 → Int32 → Wd → Option Wd) (l1 : Int32) (l2 : Int32) (l3 : Int32) (w : Wd) : Option Wd :=
  if l3 ≤ l2 then
    some w
  else
    wrI w 22 16 l2 l1 fun w1 =>
    k5 l1 (l2 + 1) l3 w1
def f_J7_fill_53178_22_L5 (n : Nat) : Int32 → Int32 → Int32 → Wd → Option Wd :=
  Nat.rec (fun _ _ _ _ => none) (fun _ k => f_J7_fill_53178_22_B5b k) n
set_option maxHeartbeats 4000000 in
set_option maxRecDepth 100000 in
theorem t_J7_fill_53178_22_L5 {G : GT} {d : Nat} (hd : 0 ≤ d)  : ∀ (n : Nat) (l1 : Int32) (l2 : Int32) (l3 : Int32) (w : Wd) (w' : Wd), f_J7_fill_53178_22_L5 n l1 l2 l3 w = some w' → U (vf G mJ7_fill_53178 d) 5 [some (.ref 22), some (.int l1), some (.int l2), some (.int l3)] [] w (none, 70, r0, w') := by
  intro n
  induction n with
  | zero => intro l1 l2 l3 w w' h; cases h
  | succ n h5 =>
    intro l1 l2 l3 w w' h
    have h : f_J7_fill_53178_22_B5b (f_J7_fill_53178_22_L5 n) l1 l2 l3 w = some w' := h
    unfold f_J7_fill_53178_22_B5b at h
    refine V.iload_n (pc := 5) dJ7_fill_53178_5 rfl ?_
    refine V.iload_n (pc := 6) dJ7_fill_53178_6 rfl ?_
    rcases ite_e h with ⟨c, h⟩ | ⟨c, h⟩
    · refine V.icmp_ge_t (t := 20) (pc := 7) dJ7_fill_53178_7 (by decide) c ?_
      obtain rfl := Option.some.inj h
      exact V.vret (pc := 20) dJ7_fill_53178_20 rfl (Nat.le_refl _) (Nat.le_refl _)
    · refine V.icmp_ge_f (t := 20) (pc := 7) dJ7_fill_53178_7 (by decide) c ?_
      refine V.aload_n (pc := 10) dJ7_fill_53178_10 rfl ?_
      refine V.iload_n (pc := 11) dJ7_fill_53178_11 rfl ?_
      refine V.iload_n (pc := 12) dJ7_fill_53178_12 rfl ?_
      obtain ⟨w1, iw1, ew1, h⟩ := wrI_e h
      refine V.iastX (pc := 13) dJ7_fill_53178_13 lx_22 ly_22 iw1 ew1 ?_
      refine V.iinc (lv' := [some (.ref 22), some (.int l1), some (.int (l2 + 1)), some (.int l3)]) (pc := 14) dJ7_fill_53178_14 (Nat.le_of_ble_eq_true rfl) rfl rfl (v := (l2 + 1)) (by rw [show Int32.ofInt 1 = 1 from by decide]) rfl ?_
      refine V.goto (t := 5) (pc := 17) dJ7_fill_53178_17 (by decide) ?_
      exact h5 l1 (l2 + 1) l3 w1 _ h
def f_J7_fill_53178_22 (l1 : Int32) (w : Wd) : Option Wd :=
  f_J7_fill_53178_22_L5  FU l1 0 16 w
set_option maxHeartbeats 4000000 in
set_option maxRecDepth 100000 in
theorem ok_J7_fill_53178_22 {G : GT} {d : Nat} (hd : 0 ≤ d) {w : Wd} (l1 : Int32) {w' : Wd} (h : f_J7_fill_53178_22 l1 w = some w') : uC G yJ7_fill_53178 mJ7_fill_53178 d [.ref 22, .int l1] w none w' := by
  unfold f_J7_fill_53178_22 at h
  refine uC_of (lv := [some (.ref 22), some (.int l1), none, none]) 2 pn_J7 ⟨rfl, rfl⟩ (Nat.le_of_ble_eq_true rfl) rfl ?_
  refine V.iconst (pc := 0) dJ7_fill_53178_0 ic_0 ?_
  refine V.istore_n (lv' := [some (.ref 22), some (.int l1), some (.int 0), none]) (pc := 1) dJ7_fill_53178_1 (Nat.le_of_ble_eq_true rfl) rfl rfl ?_
  refine V.aload_n (pc := 2) dJ7_fill_53178_2 rfl ?_
  refine V.alen (v := 16) (pc := 3) dJ7_fill_53178_3 lx_22 ly_22 (Or.inl rfl) (by decide) ?_
  refine V.istore_n (lv' := [some (.ref 22), some (.int l1), some (.int 0), some (.int 16)]) (pc := 4) dJ7_fill_53178_4 (Nat.le_of_ble_eq_true rfl) rfl rfl ?_
  exact t_J7_fill_53178_22_L5 hd FU l1 0 16 w _ h
theorem dX2_goesOn_0 : decode cX2_goesOn 0 = .ok (.iload_n 1, 1) := by decide +kernel
theorem dX2_goesOn_1 : decode cX2_goesOn 1 = .ok (.aload_n 0, 1) := by decide +kernel
theorem dX2_goesOn_2 : decode cX2_goesOn 2 = .ok (.getfield 18, 3) := by decide +kernel
theorem dX2_goesOn_5 : decode cX2_goesOn 5 = .ok (.getfield 48, 3) := by decide +kernel
theorem dX2_goesOn_8 : decode cX2_goesOn 8 = .ok (.if_icmp .ge 9, 3) := by decide +kernel
theorem dX2_goesOn_11 : decode cX2_goesOn 11 = .ok (.iload_n 1, 1) := by decide +kernel
theorem dX2_goesOn_12 : decode cX2_goesOn 12 = .ok (.bipush 16, 2) := by decide +kernel
theorem dX2_goesOn_14 : decode cX2_goesOn 14 = .ok (.if_icmp .lt 5, 3) := by decide +kernel
theorem dX2_goesOn_17 : decode cX2_goesOn 17 = .ok (.iconst 1, 1) := by decide +kernel
theorem dX2_goesOn_18 : decode cX2_goesOn 18 = .ok (.ireturn, 1) := by decide +kernel
theorem dX2_goesOn_19 : decode cX2_goesOn 19 = .ok (.iload_n 3, 1) := by decide +kernel
theorem dX2_goesOn_20 : decode cX2_goesOn 20 = .ok (.iload_n 1, 1) := by decide +kernel
theorem dX2_goesOn_21 : decode cX2_goesOn 21 = .ok (.ishr, 1) := by decide +kernel
theorem dX2_goesOn_22 : decode cX2_goesOn 22 = .ok (.iconst 1, 1) := by decide +kernel
theorem dX2_goesOn_23 : decode cX2_goesOn 23 = .ok (.iand, 1) := by decide +kernel
theorem dX2_goesOn_24 : decode cX2_goesOn 24 = .ok (.ifCond .ne 13, 3) := by decide +kernel
theorem dX2_goesOn_27 : decode cX2_goesOn 27 = .ok (.aload_n 0, 1) := by decide +kernel
theorem dX2_goesOn_28 : decode cX2_goesOn 28 = .ok (.iload_n 1, 1) := by decide +kernel
theorem dX2_goesOn_29 : decode cX2_goesOn 29 = .ok (.iconst 1, 1) := by decide +kernel
theorem dX2_goesOn_30 : decode cX2_goesOn 30 = .ok (.iadd, 1) := by decide +kernel
theorem dX2_goesOn_31 : decode cX2_goesOn 31 = .ok (.iload_n 2, 1) := by decide +kernel
theorem dX2_goesOn_32 : decode cX2_goesOn 32 = .ok (.iload_n 3, 1) := by decide +kernel
theorem dX2_goesOn_33 : decode cX2_goesOn 33 = .ok (.invokevirtual 35, 3) := by decide +kernel
theorem dX2_goesOn_36 : decode cX2_goesOn 36 = .ok (.ireturn, 1) := by decide +kernel
theorem dX2_goesOn_37 : decode cX2_goesOn 37 = .ok (.iconst 0, 1) := by decide +kernel
theorem dX2_goesOn_38 : decode cX2_goesOn 38 = .ok (.istore 4, 2) := by decide +kernel
theorem dX2_goesOn_40 : decode cX2_goesOn 40 = .ok (.iload 4, 2) := by decide +kernel
theorem dX2_goesOn_42 : decode cX2_goesOn 42 = .ok (.iload_n 2, 1) := by decide +kernel
theorem dX2_goesOn_43 : decode cX2_goesOn 43 = .ok (.if_icmp .gt 93, 3) := by decide +kernel
theorem dX2_goesOn_46 : decode cX2_goesOn 46 = .ok (.iload 4, 2) := by decide +kernel
theorem dX2_goesOn_48 : decode cX2_goesOn 48 = .ok (.aload_n 0, 1) := by decide +kernel
theorem dX2_goesOn_49 : decode cX2_goesOn 49 = .ok (.getfield 26, 3) := by decide +kernel
theorem dX2_goesOn_52 : decode cX2_goesOn 52 = .ok (.if_icmp .ge 84, 3) := by decide +kernel
theorem dX2_goesOn_55 : decode cX2_goesOn 55 = .ok (.aload_n 0, 1) := by decide +kernel
theorem dX2_goesOn_56 : decode cX2_goesOn 56 = .ok (.getfield 18, 3) := by decide +kernel
theorem dX2_goesOn_59 : decode cX2_goesOn 59 = .ok (.aload_n 0, 1) := by decide +kernel
theorem dX2_goesOn_60 : decode cX2_goesOn 60 = .ok (.getfield 9, 3) := by decide +kernel
theorem dX2_goesOn_63 : decode cX2_goesOn 63 = .ok (.iload 4, 2) := by decide +kernel
theorem dX2_goesOn_65 : decode cX2_goesOn 65 = .ok (.iaload, 1) := by decide +kernel
theorem dX2_goesOn_66 : decode cX2_goesOn 66 = .ok (.iload_n 1, 1) := by decide +kernel
theorem dX2_goesOn_67 : decode cX2_goesOn 67 = .ok (.invokevirtual 51, 3) := by decide +kernel
theorem dX2_goesOn_70 : decode cX2_goesOn 70 = .ok (.ifCond .eq 60, 3) := by decide +kernel
theorem dX2_goesOn_73 : decode cX2_goesOn 73 = .ok (.aload_n 0, 1) := by decide +kernel
theorem dX2_goesOn_74 : decode cX2_goesOn 74 = .ok (.getfield 9, 3) := by decide +kernel
theorem dX2_goesOn_77 : decode cX2_goesOn 77 = .ok (.iload 4, 2) := by decide +kernel
theorem dX2_goesOn_79 : decode cX2_goesOn 79 = .ok (.dup2, 1) := by decide +kernel
theorem dX2_goesOn_80 : decode cX2_goesOn 80 = .ok (.iaload, 1) := by decide +kernel
theorem dX2_goesOn_81 : decode cX2_goesOn 81 = .ok (.iconst 1, 1) := by decide +kernel
theorem dX2_goesOn_82 : decode cX2_goesOn 82 = .ok (.iload_n 1, 1) := by decide +kernel
theorem dX2_goesOn_83 : decode cX2_goesOn 83 = .ok (.ishl, 1) := by decide +kernel
theorem dX2_goesOn_84 : decode cX2_goesOn 84 = .ok (.ior, 1) := by decide +kernel
theorem dX2_goesOn_85 : decode cX2_goesOn 85 = .ok (.iastore, 1) := by decide +kernel
theorem dX2_goesOn_86 : decode cX2_goesOn 86 = .ok (.aload_n 0, 1) := by decide +kernel
theorem dX2_goesOn_87 : decode cX2_goesOn 87 = .ok (.getfield 15, 3) := by decide +kernel
theorem dX2_goesOn_90 : decode cX2_goesOn 90 = .ok (.iload_n 1, 1) := by decide +kernel
theorem dX2_goesOn_91 : decode cX2_goesOn 91 = .ok (.iload 4, 2) := by decide +kernel
theorem dX2_goesOn_93 : decode cX2_goesOn 93 = .ok (.iastore, 1) := by decide +kernel
theorem dX2_goesOn_94 : decode cX2_goesOn 94 = .ok (.aload_n 0, 1) := by decide +kernel
theorem dX2_goesOn_95 : decode cX2_goesOn 95 = .ok (.iload_n 1, 1) := by decide +kernel
theorem dX2_goesOn_96 : decode cX2_goesOn 96 = .ok (.iconst 1, 1) := by decide +kernel
theorem dX2_goesOn_97 : decode cX2_goesOn 97 = .ok (.iadd, 1) := by decide +kernel
theorem dX2_goesOn_98 : decode cX2_goesOn 98 = .ok (.iload_n 2, 1) := by decide +kernel
theorem dX2_goesOn_99 : decode cX2_goesOn 99 = .ok (.iload 4, 2) := by decide +kernel
theorem dX2_goesOn_101 : decode cX2_goesOn 101 = .ok (.iconst 1, 1) := by decide +kernel
theorem dX2_goesOn_102 : decode cX2_goesOn 102 = .ok (.iadd, 1) := by decide +kernel
theorem dX2_goesOn_103 : decode cX2_goesOn 103 = .ok (.invokestatic 55, 3) := by decide +kernel
theorem dX2_goesOn_106 : decode cX2_goesOn 106 = .ok (.iload_n 3, 1) := by decide +kernel
theorem dX2_goesOn_107 : decode cX2_goesOn 107 = .ok (.invokevirtual 35, 3) := by decide +kernel
theorem dX2_goesOn_110 : decode cX2_goesOn 110 = .ok (.ifCond .eq 5, 3) := by decide +kernel
theorem dX2_goesOn_113 : decode cX2_goesOn 113 = .ok (.iconst 1, 1) := by decide +kernel
theorem dX2_goesOn_114 : decode cX2_goesOn 114 = .ok (.ireturn, 1) := by decide +kernel
theorem dX2_goesOn_115 : decode cX2_goesOn 115 = .ok (.aload_n 0, 1) := by decide +kernel
theorem dX2_goesOn_116 : decode cX2_goesOn 116 = .ok (.getfield 9, 3) := by decide +kernel
theorem dX2_goesOn_119 : decode cX2_goesOn 119 = .ok (.iload 4, 2) := by decide +kernel
theorem dX2_goesOn_121 : decode cX2_goesOn 121 = .ok (.dup2, 1) := by decide +kernel
theorem dX2_goesOn_122 : decode cX2_goesOn 122 = .ok (.iaload, 1) := by decide +kernel
theorem dX2_goesOn_123 : decode cX2_goesOn 123 = .ok (.iconst 1, 1) := by decide +kernel
theorem dX2_goesOn_124 : decode cX2_goesOn 124 = .ok (.iload_n 1, 1) := by decide +kernel
theorem dX2_goesOn_125 : decode cX2_goesOn 125 = .ok (.ishl, 1) := by decide +kernel
theorem dX2_goesOn_126 : decode cX2_goesOn 126 = .ok (.iconst (-1), 1) := by decide +kernel
theorem dX2_goesOn_127 : decode cX2_goesOn 127 = .ok (.ixor, 1) := by decide +kernel
theorem dX2_goesOn_128 : decode cX2_goesOn 128 = .ok (.iand, 1) := by decide +kernel
theorem dX2_goesOn_129 : decode cX2_goesOn 129 = .ok (.iastore, 1) := by decide +kernel
theorem dX2_goesOn_130 : decode cX2_goesOn 130 = .ok (.iinc 4 1, 3) := by decide +kernel
theorem dX2_goesOn_133 : decode cX2_goesOn 133 = .ok (.goto (-93), 3) := by decide +kernel
theorem dX2_goesOn_136 : decode cX2_goesOn 136 = .ok (.iconst 0, 1) := by decide +kernel
theorem dX2_goesOn_137 : decode cX2_goesOn 137 = .ok (.ireturn, 1) := by decide +kernel
def f_X2_goesOn_B40b (me : Int32 → Int32 → Int32 → Wd → Option (Int32 × Wd)) (k40 : Int32 → Int32 → Int32 → Int32 → Wd → Option (Int32 × Wd)) (l1 : Int32) (l2 : Int32) (l3 : Int32) (l4 : Int32) (w : Wd) : Option (Int32 × Wd) :=
  if l2 < l4 then
    some (0, w)
  else
    if (w.1 21 4) ≤ l4 then
      some (0, w)
    else
      rdI w 22 16 l4 fun x1 =>
      bnd (f_X4_staysFree x1 l1 w) fun x2 =>
      if x2 = 0 then
        k40 l1 l2 l3 (l4 + 1) w
      else
        rdI w 22 16 l4 fun x3 =>
        wrI w 22 16 l4 (x3 ||| (1 <<< (l1 &&& 31))) fun w4 =>
        wrI w4 23 16 l1 l4 fun w5 =>
        bnd2 (me (l1 + 1) (if l2 < (l4 + 1) then (l4 + 1) else l2) l3 w5) fun x6 w7 =>
        if x6 = 0 then
          rdI w7 22 16 l4 fun x8 =>
          wrI w7 22 16 l4 (x8 &&& ((1 <<< (l1 &&& 31)) ^^^ (-1))) fun w9 =>
          k40 l1 l2 l3 (l4 + 1) w9
        else
          some (1, w7)
def f_X2_goesOn_L40 (me : Int32 → Int32 → Int32 → Wd → Option (Int32 × Wd)) (n : Nat) : Int32 → Int32 → Int32 → Int32 → Wd → Option (Int32 × Wd) :=
  Nat.rec (fun _ _ _ _ _ => none) (fun _ k => f_X2_goesOn_B40b me k) n
set_option maxHeartbeats 4000000 in
set_option maxRecDepth 100000 in
theorem t_X2_goesOn_L40 {G : GT} {d : Nat} {me : Int32 → Int32 → Int32 → Wd → Option (Int32 × Wd)} (hd : 2 ≤ d + 1) (hme : ∀ (l1 : Int32) (l2 : Int32) (l3 : Int32) (w : Wd) (r : Int32) (w' : Wd), me l1 l2 l3 w = some (r, w') → uC G yX2_goesOn mX2_goesOn d [.ref 21, .int l1, .int l2, .int l3] w (some (.int r)) w')  : ∀ (n : Nat) (l1 : Int32) (l2 : Int32) (l3 : Int32) (l4 : Int32) (w : Wd) (r : Int32) (w' : Wd), f_X2_goesOn_L40 me n l1 l2 l3 l4 w = some (r, w') → U (vf G mX2_goesOn (d + 1)) 40 [some (.ref 21), some (.int l1), some (.int l2), some (.int l3), some (.int l4)] [] w (some (.int r), 70, r0, w') := by
  intro n
  induction n with
  | zero => intro l1 l2 l3 l4 w r w' h; cases h
  | succ n h40 =>
    intro l1 l2 l3 l4 w r w' h
    have h : f_X2_goesOn_B40b me (f_X2_goesOn_L40 me n) l1 l2 l3 l4 w = some (r, w') := h
    unfold f_X2_goesOn_B40b at h
    refine V.iload (pc := 40) dX2_goesOn_40 rfl ?_
    refine V.iload_n (pc := 42) dX2_goesOn_42 rfl ?_
    rcases ite_e h with ⟨c, h⟩ | ⟨c, h⟩
    · refine V.icmp_gt_t (t := 136) (pc := 43) dX2_goesOn_43 (by decide) c ?_
      refine V.iconst (pc := 136) dX2_goesOn_136 ic_0 ?_
      obtain ⟨rfl, rfl⟩ := Prod.mk.inj (Option.some.inj h)
      exact V.zret (pc := 137) dX2_goesOn_137 rfl (Or.inl rfl) (Nat.le_refl _) (Nat.le_refl _)
    · refine V.icmp_gt_f (t := 136) (pc := 43) dX2_goesOn_43 (by decide) c ?_
      refine V.iload (pc := 46) dX2_goesOn_46 rfl ?_
      refine V.aload_n (pc := 48) dX2_goesOn_48 rfl ?_
      refine V.getI (pc := 49) dX2_goesOn_49 f_RX2_26 k_cl2 lx_21 ly_21 rb_2_4 ?_
      rcases ite_e h with ⟨c, h⟩ | ⟨c, h⟩
      · refine V.icmp_ge_t (t := 136) (pc := 52) dX2_goesOn_52 (by decide) c ?_
        refine V.iconst (pc := 136) dX2_goesOn_136 ic_0 ?_
        obtain ⟨rfl, rfl⟩ := Prod.mk.inj (Option.some.inj h)
        exact V.zret (pc := 137) dX2_goesOn_137 rfl (Or.inl rfl) (Nat.le_refl _) (Nat.le_refl _)
      · refine V.icmp_ge_f (t := 136) (pc := 52) dX2_goesOn_52 (by decide) c ?_
        refine V.aload_n (pc := 55) dX2_goesOn_55 rfl ?_
        refine V.getR (t := 6) (pc := 56) dX2_goesOn_56 f_RX2_18 k_cl2 lx_21 ly_21 rb_2_0 rr_21_0 ?_
        refine V.aload_n (pc := 59) dX2_goesOn_59 rfl ?_
        refine V.getR (t := 22) (pc := 60) dX2_goesOn_60 f_RX2_9 k_cl2 lx_21 ly_21 rb_2_1 rr_21_1 ?_
        refine V.iload (pc := 63) dX2_goesOn_63 rfl ?_
        obtain ⟨x1, ix1, ex1, h⟩ := rdI_e h
        refine V.ialdX (pc := 65) dX2_goesOn_65 lx_22 ly_22 ix1 ex1 ?_
        refine V.iload_n (pc := 66) dX2_goesOn_66 rfl ?_
        obtain ⟨x2, ex2, h⟩ := bnd_e h
        refine U.callV (pc := 67) (As := [.int x1, .int l1]) (st := []) dX2_goesOn_67 l_RX2_51 (ok_X4_staysFree (by omega) x1 l1 ex2) lx_6 ly_6 cn_4 (Nat.le_of_ble_eq_true rfl) rfl rfl (Nat.le_of_ble_eq_true rfl) ?_
        rcases ite_e h with ⟨c, h⟩ | ⟨c, h⟩
        · refine V.if_eq_t (t := 130) (pc := 70) dX2_goesOn_70 (by decide) c ?_
          refine V.iinc (lv' := [some (.ref 21), some (.int l1), some (.int l2), some (.int l3), some (.int (l4 + 1))]) (pc := 130) dX2_goesOn_130 (Nat.le_of_ble_eq_true rfl) rfl rfl (v := (l4 + 1)) (by rw [show Int32.ofInt 1 = 1 from by decide]) rfl ?_
          refine V.goto (t := 40) (pc := 133) dX2_goesOn_133 (by decide) ?_
          exact h40 l1 l2 l3 (l4 + 1) w _ _ h
        · refine V.if_eq_f (t := 130) (pc := 70) dX2_goesOn_70 (by decide) c ?_
          refine V.aload_n (pc := 73) dX2_goesOn_73 rfl ?_
          refine V.getR (t := 22) (pc := 74) dX2_goesOn_74 f_RX2_9 k_cl2 lx_21 ly_21 rb_2_1 rr_21_1 ?_
          refine V.iload (pc := 77) dX2_goesOn_77 rfl ?_
          refine V.dup2 (pc := 79) dX2_goesOn_79 rfl rfl ?_
          obtain ⟨x3, ix3, ex3, h⟩ := rdI_e h
          refine V.ialdX (pc := 80) dX2_goesOn_80 lx_22 ly_22 ix3 ex3 ?_
          refine V.iconst (pc := 81) dX2_goesOn_81 ic_1 ?_
          refine V.iload_n (pc := 82) dX2_goesOn_82 rfl ?_
          refine V.ishl (pc := 83) dX2_goesOn_83 ?_
          refine V.ior (pc := 84) dX2_goesOn_84 ?_
          obtain ⟨w4, iw4, ew4, h⟩ := wrI_e h
          refine V.iastX (pc := 85) dX2_goesOn_85 lx_22 ly_22 iw4 ew4 ?_
          refine V.aload_n (pc := 86) dX2_goesOn_86 rfl ?_
          refine V.getR (t := 23) (pc := 87) dX2_goesOn_87 f_RX2_15 k_cl2 lx_21 ly_21 rb_2_2 rr_21_2 ?_
          refine V.iload_n (pc := 90) dX2_goesOn_90 rfl ?_
          refine V.iload (pc := 91) dX2_goesOn_91 rfl ?_
          obtain ⟨w5, iw5, ew5, h⟩ := wrI_e h
          refine V.iastX (pc := 93) dX2_goesOn_93 lx_23 ly_23 iw5 ew5 ?_
          refine V.aload_n (pc := 94) dX2_goesOn_94 rfl ?_
          refine V.iload_n (pc := 95) dX2_goesOn_95 rfl ?_
          refine V.iconst (pc := 96) dX2_goesOn_96 ic_1 ?_
          refine V.iadd (pc := 97) dX2_goesOn_97 ?_
          refine V.iload_n (pc := 98) dX2_goesOn_98 rfl ?_
          refine V.iload (pc := 99) dX2_goesOn_99 rfl ?_
          refine V.iconst (pc := 101) dX2_goesOn_101 ic_1 ?_
          refine V.iadd (pc := 102) dX2_goesOn_102 ?_
          refine V.mmax (pc := 103) dX2_goesOn_103 l_RX2_55 (Nat.le_add_left 1 d) (rm_13 (Nat.le_of_ble_eq_true rfl)) ?_
          refine V.iload_n (pc := 106) dX2_goesOn_106 rfl ?_
          obtain ⟨x6, w7, ew7, h⟩ := bnd2_e h
          refine U.callV (pc := 107) (As := [.int (l1 + 1), .int (if l2 < (l4 + 1) then (l4 + 1) else l2), .int l3]) (st := []) dX2_goesOn_107 l_RX2_35 (hme (l1 + 1) (if l2 < (l4 + 1) then (l4 + 1) else l2) l3 w5 _ _ ew7) lx_21 ly_21 cn_2 (Nat.le_of_ble_eq_true rfl) rfl rfl (Nat.le_of_ble_eq_true rfl) ?_
          rcases ite_e h with ⟨c, h⟩ | ⟨c, h⟩
          · refine V.if_eq_t (t := 115) (pc := 110) dX2_goesOn_110 (by decide) c ?_
            refine V.aload_n (pc := 115) dX2_goesOn_115 rfl ?_
            refine V.getR (t := 22) (pc := 116) dX2_goesOn_116 f_RX2_9 k_cl2 lx_21 ly_21 rb_2_1 rr_21_1 ?_
            refine V.iload (pc := 119) dX2_goesOn_119 rfl ?_
            refine V.dup2 (pc := 121) dX2_goesOn_121 rfl rfl ?_
            obtain ⟨x8, ix8, ex8, h⟩ := rdI_e h
            refine V.ialdX (pc := 122) dX2_goesOn_122 lx_22 ly_22 ix8 ex8 ?_
            refine V.iconst (pc := 123) dX2_goesOn_123 ic_1 ?_
            refine V.iload_n (pc := 124) dX2_goesOn_124 rfl ?_
            refine V.ishl (pc := 125) dX2_goesOn_125 ?_
            refine V.iconst (pc := 126) dX2_goesOn_126 ic_m1 ?_
            refine V.ixor (pc := 127) dX2_goesOn_127 ?_
            refine V.iand (pc := 128) dX2_goesOn_128 ?_
            obtain ⟨w9, iw9, ew9, h⟩ := wrI_e h
            refine V.iastX (pc := 129) dX2_goesOn_129 lx_22 ly_22 iw9 ew9 ?_
            refine V.iinc (lv' := [some (.ref 21), some (.int l1), some (.int l2), some (.int l3), some (.int (l4 + 1))]) (pc := 130) dX2_goesOn_130 (Nat.le_of_ble_eq_true rfl) rfl rfl (v := (l4 + 1)) (by rw [show Int32.ofInt 1 = 1 from by decide]) rfl ?_
            refine V.goto (t := 40) (pc := 133) dX2_goesOn_133 (by decide) ?_
            exact h40 l1 l2 l3 (l4 + 1) w9 _ _ h
          · refine V.if_eq_f (t := 115) (pc := 110) dX2_goesOn_110 (by decide) c ?_
            refine V.iconst (pc := 113) dX2_goesOn_113 ic_1 ?_
            obtain ⟨rfl, rfl⟩ := Prod.mk.inj (Option.some.inj h)
            exact V.zret (pc := 114) dX2_goesOn_114 rfl (Or.inr rfl) (Nat.le_refl _) (Nat.le_refl _)
def f_X2_goesOnb (me : Int32 → Int32 → Int32 → Wd → Option (Int32 × Wd)) (l1 : Int32) (l2 : Int32) (l3 : Int32) (w : Wd) : Option (Int32 × Wd) :=
  if (w.1 6 7) ≤ l1 then
    some (1, w)
  else
    if l1 < 16 then
      if ((l3 >>> (l1 &&& 31)) &&& 1) = 0 then
        bnd2 (me (l1 + 1) l2 l3 w) fun x1 w2 =>
        chB x1 <| some (x1, w2)
      else
        f_X2_goesOn_L40 me  FU l1 l2 l3 0 w
    else
      some (1, w)
def f_X2_goesOn (n : Nat) : Int32 → Int32 → Int32 → Wd → Option (Int32 × Wd) :=
  Nat.rec (fun _ _ _ _ => none) (fun _ k => f_X2_goesOnb k) n
set_option maxHeartbeats 4000000 in
set_option maxRecDepth 100000 in
theorem ok_X2_goesOn {G : GT} : ∀ (n : Nat) {d : Nat} (hd : 2 + n ≤ d) {w : Wd} (l1 : Int32) (l2 : Int32) (l3 : Int32) {r : Int32} {w' : Wd}, f_X2_goesOn n l1 l2 l3 w = some (r, w') → uC G yX2_goesOn mX2_goesOn d [.ref 21, .int l1, .int l2, .int l3] w (some (.int r)) w' := by
  intro n
  induction n with
  | zero => intro d hd w l1 l2 l3 r w' h; cases h
  | succ n ih =>
    intro d hd w l1 l2 l3 r w' h
    obtain ⟨d, rfl⟩ : ∃ e, d = e + 1 := ⟨d - 1, by omega⟩
    have hd0 := hd
    have hd : 2 ≤ d + 1 := by omega
    have hme : ∀ (l1 : Int32) (l2 : Int32) (l3 : Int32) (w : Wd) (r : Int32) (w' : Wd), f_X2_goesOn n l1 l2 l3 w = some (r, w') → uC G yX2_goesOn mX2_goesOn d [.ref 21, .int l1, .int l2, .int l3] w (some (.int r)) w' := fun l1 l2 l3 w r w' h => ih (by omega) l1 l2 l3 h
    have h : f_X2_goesOnb (f_X2_goesOn n) l1 l2 l3 w = some (r, w') := h
    unfold f_X2_goesOnb at h
    refine uC_of (lv := [some (.ref 21), some (.int l1), some (.int l2), some (.int l3), none]) 1 pn_X2 ⟨rfl, rfl⟩ (Nat.le_of_ble_eq_true rfl) rfl ?_
    refine V.iload_n (pc := 0) dX2_goesOn_0 rfl ?_
    refine V.aload_n (pc := 1) dX2_goesOn_1 rfl ?_
    refine V.getR (t := 6) (pc := 2) dX2_goesOn_2 f_RX2_18 k_cl2 lx_21 ly_21 rb_2_0 rr_21_0 ?_
    refine V.getI (pc := 5) dX2_goesOn_5 f_RX2_48 k_cl4 lx_6 ly_6 rb_4_7 ?_
    rcases ite_e h with ⟨c, h⟩ | ⟨c, h⟩
    · refine V.icmp_ge_t (t := 17) (pc := 8) dX2_goesOn_8 (by decide) c ?_
      refine V.iconst (pc := 17) dX2_goesOn_17 ic_1 ?_
      obtain ⟨rfl, rfl⟩ := Prod.mk.inj (Option.some.inj h)
      exact V.zret (pc := 18) dX2_goesOn_18 rfl (Or.inr rfl) (Nat.le_refl _) (Nat.le_refl _)
    · refine V.icmp_ge_f (t := 17) (pc := 8) dX2_goesOn_8 (by decide) c ?_
      refine V.iload_n (pc := 11) dX2_goesOn_11 rfl ?_
      refine V.bipush (pc := 12) dX2_goesOn_12 bp_16 ?_
      rcases ite_e h with ⟨c, h⟩ | ⟨c, h⟩
      · refine V.icmp_lt_t (t := 19) (pc := 14) dX2_goesOn_14 (by decide) c ?_
        refine V.iload_n (pc := 19) dX2_goesOn_19 rfl ?_
        refine V.iload_n (pc := 20) dX2_goesOn_20 rfl ?_
        refine V.ishr (pc := 21) dX2_goesOn_21 ?_
        refine V.iconst (pc := 22) dX2_goesOn_22 ic_1 ?_
        refine V.iand (pc := 23) dX2_goesOn_23 ?_
        rcases ite_e h with ⟨c, h⟩ | ⟨c, h⟩
        · refine V.if_ne_f (t := 37) (pc := 24) dX2_goesOn_24 (by decide) c ?_
          refine V.aload_n (pc := 27) dX2_goesOn_27 rfl ?_
          refine V.iload_n (pc := 28) dX2_goesOn_28 rfl ?_
          refine V.iconst (pc := 29) dX2_goesOn_29 ic_1 ?_
          refine V.iadd (pc := 30) dX2_goesOn_30 ?_
          refine V.iload_n (pc := 31) dX2_goesOn_31 rfl ?_
          refine V.iload_n (pc := 32) dX2_goesOn_32 rfl ?_
          obtain ⟨x1, w2, ew2, h⟩ := bnd2_e h
          refine U.callV (pc := 33) (As := [.int (l1 + 1), .int l2, .int l3]) (st := []) dX2_goesOn_33 l_RX2_35 (hme (l1 + 1) l2 l3 w _ _ ew2) lx_21 ly_21 cn_2 (Nat.le_of_ble_eq_true rfl) rfl rfl (Nat.le_of_ble_eq_true rfl) ?_
          obtain ⟨hb, h⟩ := chB_e h
          obtain ⟨rfl, rfl⟩ := Prod.mk.inj (Option.some.inj h)
          exact V.zret (pc := 36) dX2_goesOn_36 rfl hb (Nat.le_refl _) (Nat.le_refl _)
        · refine V.if_ne_t (t := 37) (pc := 24) dX2_goesOn_24 (by decide) c ?_
          refine V.iconst (pc := 37) dX2_goesOn_37 ic_0 ?_
          refine V.istore (lv' := [some (.ref 21), some (.int l1), some (.int l2), some (.int l3), some (.int 0)]) (pc := 38) dX2_goesOn_38 (Nat.le_of_ble_eq_true rfl) rfl rfl ?_
          exact t_X2_goesOn_L40 hd hme FU l1 l2 l3 0 w _ _ h
      · refine V.icmp_lt_f (t := 19) (pc := 14) dX2_goesOn_14 (by decide) c ?_
        refine V.iconst (pc := 17) dX2_goesOn_17 ic_1 ?_
        obtain ⟨rfl, rfl⟩ := Prod.mk.inj (Option.some.inj h)
        exact V.zret (pc := 18) dX2_goesOn_18 rfl (Or.inr rfl) (Nat.le_refl _) (Nat.le_refl _)
theorem dX2_fewestFor_0 : decode cX2_fewestFor 0 = .ok (.aload_n 0, 1) := by decide +kernel
theorem dX2_fewestFor_1 : decode cX2_fewestFor 1 = .ok (.getfield 22, 3) := by decide +kernel
theorem dX2_fewestFor_4 : decode cX2_fewestFor 4 = .ok (.iload_n 1, 1) := by decide +kernel
theorem dX2_fewestFor_5 : decode cX2_fewestFor 5 = .ok (.if_icmp .ne 8, 3) := by decide +kernel
theorem dX2_fewestFor_8 : decode cX2_fewestFor 8 = .ok (.aload_n 0, 1) := by decide +kernel
theorem dX2_fewestFor_9 : decode cX2_fewestFor 9 = .ok (.getfield 26, 3) := by decide +kernel
theorem dX2_fewestFor_12 : decode cX2_fewestFor 12 = .ok (.ireturn, 1) := by decide +kernel
theorem dX2_fewestFor_13 : decode cX2_fewestFor 13 = .ok (.aload_n 0, 1) := by decide +kernel
theorem dX2_fewestFor_14 : decode cX2_fewestFor 14 = .ok (.iload_n 1, 1) := by decide +kernel
theorem dX2_fewestFor_15 : decode cX2_fewestFor 15 = .ok (.putfield 22, 3) := by decide +kernel
theorem dX2_fewestFor_18 : decode cX2_fewestFor 18 = .ok (.aload_n 0, 1) := by decide +kernel
theorem dX2_fewestFor_19 : decode cX2_fewestFor 19 = .ok (.iconst 0, 1) := by decide +kernel
theorem dX2_fewestFor_20 : decode cX2_fewestFor 20 = .ok (.putfield 26, 3) := by decide +kernel
theorem dX2_fewestFor_23 : decode cX2_fewestFor 23 = .ok (.iconst 0, 1) := by decide +kernel
theorem dX2_fewestFor_24 : decode cX2_fewestFor 24 = .ok (.istore_n 2, 1) := by decide +kernel
theorem dX2_fewestFor_25 : decode cX2_fewestFor 25 = .ok (.iload_n 2, 1) := by decide +kernel
theorem dX2_fewestFor_26 : decode cX2_fewestFor 26 = .ok (.bipush 16, 2) := by decide +kernel
theorem dX2_fewestFor_28 : decode cX2_fewestFor 28 = .ok (.if_icmp .ge 37, 3) := by decide +kernel
theorem dX2_fewestFor_31 : decode cX2_fewestFor 31 = .ok (.aload_n 0, 1) := by decide +kernel
theorem dX2_fewestFor_32 : decode cX2_fewestFor 32 = .ok (.iload_n 2, 1) := by decide +kernel
theorem dX2_fewestFor_33 : decode cX2_fewestFor 33 = .ok (.putfield 26, 3) := by decide +kernel
theorem dX2_fewestFor_36 : decode cX2_fewestFor 36 = .ok (.aload_n 0, 1) := by decide +kernel
theorem dX2_fewestFor_37 : decode cX2_fewestFor 37 = .ok (.getfield 9, 3) := by decide +kernel
theorem dX2_fewestFor_40 : decode cX2_fewestFor 40 = .ok (.iconst 0, 1) := by decide +kernel
theorem dX2_fewestFor_41 : decode cX2_fewestFor 41 = .ok (.invokestatic 29, 3) := by decide +kernel
theorem dX2_fewestFor_44 : decode cX2_fewestFor 44 = .ok (.aload_n 0, 1) := by decide +kernel
theorem dX2_fewestFor_45 : decode cX2_fewestFor 45 = .ok (.iconst 1, 1) := by decide +kernel
theorem dX2_fewestFor_46 : decode cX2_fewestFor 46 = .ok (.iconst 0, 1) := by decide +kernel
theorem dX2_fewestFor_47 : decode cX2_fewestFor 47 = .ok (.iload_n 1, 1) := by decide +kernel
theorem dX2_fewestFor_48 : decode cX2_fewestFor 48 = .ok (.invokevirtual 35, 3) := by decide +kernel
theorem dX2_fewestFor_51 : decode cX2_fewestFor 51 = .ok (.ifCond .eq 8, 3) := by decide +kernel
theorem dX2_fewestFor_54 : decode cX2_fewestFor 54 = .ok (.aload_n 0, 1) := by decide +kernel
theorem dX2_fewestFor_55 : decode cX2_fewestFor 55 = .ok (.getfield 26, 3) := by decide +kernel
theorem dX2_fewestFor_58 : decode cX2_fewestFor 58 = .ok (.ireturn, 1) := by decide +kernel
theorem dX2_fewestFor_59 : decode cX2_fewestFor 59 = .ok (.iinc 2 1, 3) := by decide +kernel
theorem dX2_fewestFor_62 : decode cX2_fewestFor 62 = .ok (.goto (-37), 3) := by decide +kernel
theorem dX2_fewestFor_65 : decode cX2_fewestFor 65 = .ok (.aload_n 0, 1) := by decide +kernel
theorem dX2_fewestFor_66 : decode cX2_fewestFor 66 = .ok (.getfield 26, 3) := by decide +kernel
theorem dX2_fewestFor_69 : decode cX2_fewestFor 69 = .ok (.ireturn, 1) := by decide +kernel
def f_X2_fewestFor_B25b (k25 : Int32 → Int32 → Wd → Option (Int32 × Wd)) (l1 : Int32) (l2 : Int32) (w : Wd) : Option (Int32 × Wd) :=
  if 16 ≤ l2 then
    some ((w.1 21 4), w)
  else
    letW (sI w 21 4 l2) fun w1 =>
    bnd (f_J7_fill_53178_22 0 w1) fun w2 =>
    bnd2 (f_X2_goesOn 20 1 0 l1 w2) fun x3 w4 =>
    if x3 = 0 then
      k25 l1 (l2 + 1) w4
    else
      some ((w4.1 21 4), w4)
def f_X2_fewestFor_L25 (n : Nat) : Int32 → Int32 → Wd → Option (Int32 × Wd) :=
  Nat.rec (fun _ _ _ => none) (fun _ k => f_X2_fewestFor_B25b k) n
set_option maxHeartbeats 4000000 in
set_option maxRecDepth 100000 in
theorem t_X2_fewestFor_L25 {G : GT} {d : Nat} (hd : 27 ≤ d + 1)  : ∀ (n : Nat) (l1 : Int32) (l2 : Int32) (w : Wd) (r : Int32) (w' : Wd), f_X2_fewestFor_L25 n l1 l2 w = some (r, w') → U (vf G mX2_fewestFor (d + 1)) 25 [some (.ref 21), some (.int l1), some (.int l2)] [] w (some (.int r), 70, r0, w') := by
  intro n
  induction n with
  | zero => intro l1 l2 w r w' h; cases h
  | succ n h25 =>
    intro l1 l2 w r w' h
    have h : f_X2_fewestFor_B25b (f_X2_fewestFor_L25 n) l1 l2 w = some (r, w') := h
    unfold f_X2_fewestFor_B25b at h
    refine V.iload_n (pc := 25) dX2_fewestFor_25 rfl ?_
    refine V.bipush (pc := 26) dX2_fewestFor_26 bp_16 ?_
    rcases ite_e h with ⟨c, h⟩ | ⟨c, h⟩
    · refine V.icmp_ge_t (t := 65) (pc := 28) dX2_fewestFor_28 (by decide) c ?_
      refine V.aload_n (pc := 65) dX2_fewestFor_65 rfl ?_
      refine V.getI (pc := 66) dX2_fewestFor_66 f_RX2_26 k_cl2 lx_21 ly_21 rb_2_4 ?_
      obtain ⟨rfl, rfl⟩ := Prod.mk.inj (Option.some.inj h)
      exact V.iret (pc := 69) dX2_fewestFor_69 rfl (Nat.le_refl _) (Nat.le_refl _)
    · refine V.icmp_ge_f (t := 65) (pc := 28) dX2_fewestFor_28 (by decide) c ?_
      refine V.aload_n (pc := 31) dX2_fewestFor_31 rfl ?_
      refine V.iload_n (pc := 32) dX2_fewestFor_32 rfl ?_
      obtain ⟨w1, ew1, h⟩ := letW_e h
      refine V.putIX (pc := 33) dX2_fewestFor_33 f_RX2_26 k_cl2 lx_21 ly_21 rb_2_4 (fin_I (T0 := TX2) rfl rfl rfl) ew1 ?_
      refine V.aload_n (pc := 36) dX2_fewestFor_36 rfl ?_
      refine V.getR (t := 22) (pc := 37) dX2_fewestFor_37 f_RX2_9 k_cl2 lx_21 ly_21 rb_2_1 rr_21_1 ?_
      refine V.iconst (pc := 40) dX2_fewestFor_40 ic_0 ?_
      obtain ⟨w2, ew2, h⟩ := bnd_e h
      refine U.callS (pc := 41) (As := [.ref 22, .int 0]) (st := []) dX2_fewestFor_41 l_RX2_29 (ok_J7_fill_53178_22 (by omega) 0 ew2) (Nat.le_of_ble_eq_true rfl) rfl rfl (Nat.le_of_ble_eq_true rfl) ?_
      refine V.aload_n (pc := 44) dX2_fewestFor_44 rfl ?_
      refine V.iconst (pc := 45) dX2_fewestFor_45 ic_1 ?_
      refine V.iconst (pc := 46) dX2_fewestFor_46 ic_0 ?_
      refine V.iload_n (pc := 47) dX2_fewestFor_47 rfl ?_
      obtain ⟨x3, w4, ew4, h⟩ := bnd2_e h
      refine U.callV (pc := 48) (As := [.int 1, .int 0, .int l1]) (st := []) dX2_fewestFor_48 l_RX2_35 (ok_X2_goesOn 20 (by omega) 1 0 l1 ew4) lx_21 ly_21 cn_2 (Nat.le_of_ble_eq_true rfl) rfl rfl (Nat.le_of_ble_eq_true rfl) ?_
      rcases ite_e h with ⟨c, h⟩ | ⟨c, h⟩
      · refine V.if_eq_t (t := 59) (pc := 51) dX2_fewestFor_51 (by decide) c ?_
        refine V.iinc (lv' := [some (.ref 21), some (.int l1), some (.int (l2 + 1))]) (pc := 59) dX2_fewestFor_59 (Nat.le_of_ble_eq_true rfl) rfl rfl (v := (l2 + 1)) (by rw [show Int32.ofInt 1 = 1 from by decide]) rfl ?_
        refine V.goto (t := 25) (pc := 62) dX2_fewestFor_62 (by decide) ?_
        exact h25 l1 (l2 + 1) w4 _ _ h
      · refine V.if_eq_f (t := 59) (pc := 51) dX2_fewestFor_51 (by decide) c ?_
        refine V.aload_n (pc := 54) dX2_fewestFor_54 rfl ?_
        refine V.getI (pc := 55) dX2_fewestFor_55 f_RX2_26 k_cl2 lx_21 ly_21 rb_2_4 ?_
        obtain ⟨rfl, rfl⟩ := Prod.mk.inj (Option.some.inj h)
        exact V.iret (pc := 58) dX2_fewestFor_58 rfl (Nat.le_refl _) (Nat.le_refl _)
def f_X2_fewestFor (l1 : Int32) (w : Wd) : Option (Int32 × Wd) :=
  if (w.1 21 3) = l1 then
    some ((w.1 21 4), w)
  else
    letW (sI w 21 3 l1) fun w1 =>
    letW (sI w1 21 4 0) fun w2 =>
    f_X2_fewestFor_L25  FU l1 0 w2
set_option maxHeartbeats 4000000 in
set_option maxRecDepth 100000 in
theorem ok_X2_fewestFor {G : GT} {d : Nat} (hd : 27 ≤ d) {w : Wd} (l1 : Int32) {r : Int32} {w' : Wd} (h : f_X2_fewestFor l1 w = some (r, w')) : uC G yX2_fewestFor mX2_fewestFor d [.ref 21, .int l1] w (some (.int r)) w' := by
  obtain ⟨d, rfl⟩ : ∃ e, d = e + 1 := ⟨d - 1, by omega⟩
  unfold f_X2_fewestFor at h
  refine uC_of (lv := [some (.ref 21), some (.int l1), none]) 1 pn_X2 ⟨rfl, rfl⟩ (Nat.le_of_ble_eq_true rfl) rfl ?_
  refine V.aload_n (pc := 0) dX2_fewestFor_0 rfl ?_
  refine V.getI (pc := 1) dX2_fewestFor_1 f_RX2_22 k_cl2 lx_21 ly_21 rb_2_3 ?_
  refine V.iload_n (pc := 4) dX2_fewestFor_4 rfl ?_
  rcases ite_e h with ⟨c, h⟩ | ⟨c, h⟩
  · refine V.icmp_ne_f (t := 13) (pc := 5) dX2_fewestFor_5 (by decide) c ?_
    refine V.aload_n (pc := 8) dX2_fewestFor_8 rfl ?_
    refine V.getI (pc := 9) dX2_fewestFor_9 f_RX2_26 k_cl2 lx_21 ly_21 rb_2_4 ?_
    obtain ⟨rfl, rfl⟩ := Prod.mk.inj (Option.some.inj h)
    exact V.iret (pc := 12) dX2_fewestFor_12 rfl (Nat.le_refl _) (Nat.le_refl _)
  · refine V.icmp_ne_t (t := 13) (pc := 5) dX2_fewestFor_5 (by decide) c ?_
    refine V.aload_n (pc := 13) dX2_fewestFor_13 rfl ?_
    refine V.iload_n (pc := 14) dX2_fewestFor_14 rfl ?_
    obtain ⟨w1, ew1, h⟩ := letW_e h
    refine V.putIX (pc := 15) dX2_fewestFor_15 f_RX2_22 k_cl2 lx_21 ly_21 rb_2_3 (fin_I (T0 := TX2) rfl rfl rfl) ew1 ?_
    refine V.aload_n (pc := 18) dX2_fewestFor_18 rfl ?_
    refine V.iconst (pc := 19) dX2_fewestFor_19 ic_0 ?_
    obtain ⟨w2, ew2, h⟩ := letW_e h
    refine V.putIX (pc := 20) dX2_fewestFor_20 f_RX2_26 k_cl2 lx_21 ly_21 rb_2_4 (fin_I (T0 := TX2) rfl rfl rfl) ew2 ?_
    refine V.iconst (pc := 23) dX2_fewestFor_23 ic_0 ?_
    refine V.istore_n (lv' := [some (.ref 21), some (.int l1), some (.int 0)]) (pc := 24) dX2_fewestFor_24 (Nat.le_of_ble_eq_true rfl) rfl rfl ?_
    exact t_X2_fewestFor_L25 hd FU l1 0 w2 _ _ h
theorem dX11_parts_0 : decode cX11_parts 0 = .ok (.aload_n 0, 1) := by decide +kernel
theorem dX11_parts_1 : decode cX11_parts 1 = .ok (.getfield 28, 3) := by decide +kernel
theorem dX11_parts_4 : decode cX11_parts 4 = .ok (.iload_n 1, 1) := by decide +kernel
theorem dX11_parts_5 : decode cX11_parts 5 = .ok (.invokevirtual 118, 3) := by decide +kernel
theorem dX11_parts_8 : decode cX11_parts 8 = .ok (.ifCond .ne 5, 3) := by decide +kernel
theorem dX11_parts_11 : decode cX11_parts 11 = .ok (.iconst (-1), 1) := by decide +kernel
theorem dX11_parts_12 : decode cX11_parts 12 = .ok (.ireturn, 1) := by decide +kernel
theorem dX11_parts_13 : decode cX11_parts 13 = .ok (.iload_n 1, 1) := by decide +kernel
theorem dX11_parts_14 : decode cX11_parts 14 = .ok (.iconst 1, 1) := by decide +kernel
theorem dX11_parts_15 : decode cX11_parts 15 = .ok (.iand, 1) := by decide +kernel
theorem dX11_parts_16 : decode cX11_parts 16 = .ok (.ifCond .ne 14, 3) := by decide +kernel
theorem dX11_parts_19 : decode cX11_parts 19 = .ok (.aload_n 0, 1) := by decide +kernel
theorem dX11_parts_20 : decode cX11_parts 20 = .ok (.getfield 51, 3) := by decide +kernel
theorem dX11_parts_23 : decode cX11_parts 23 = .ok (.iload_n 1, 1) := by decide +kernel
theorem dX11_parts_24 : decode cX11_parts 24 = .ok (.invokevirtual 237, 3) := by decide +kernel
theorem dX11_parts_27 : decode cX11_parts 27 = .ok (.goto 5, 3) := by decide +kernel
theorem dX11_parts_30 : decode cX11_parts 30 = .ok (.bipush (-2), 2) := by decide +kernel
theorem dX11_parts_32 : decode cX11_parts 32 = .ok (.ireturn, 1) := by decide +kernel
def f_X11_parts (l1 : Int32) (w : Wd) : Option (Int32 × Wd) :=
  if (f_X4_holdsSet l1 w) = 0 then
    some ((-1), w)
  else
    if (l1 &&& 1) = 0 then
      bnd2 (f_X2_fewestFor l1 w) fun x1 w2 =>
      some (x1, w2)
    else
      some ((-2), w)
set_option maxHeartbeats 4000000 in
set_option maxRecDepth 100000 in
theorem ok_X11_parts {G : GT} {d : Nat} (hd : 28 ≤ d) {w : Wd} (l1 : Int32) {r : Int32} {w' : Wd} (h : f_X11_parts l1 w = some (r, w')) : uC G yX11_parts mX11_parts d [.ref 0, .int l1] w (some (.int r)) w' := by
  obtain ⟨d, rfl⟩ : ∃ e, d = e + 1 := ⟨d - 1, by omega⟩
  unfold f_X11_parts at h
  refine uC_of (lv := [some (.ref 0), some (.int l1)]) 0 pn_X11 ⟨rfl, rfl⟩ (Nat.le_of_ble_eq_true rfl) rfl ?_
  refine V.aload_n (pc := 0) dX11_parts_0 rfl ?_
  refine V.getR (t := 6) (pc := 1) dX11_parts_1 f_RX11_28 k_cl11 lx_0 ly_0 rb_11_2 rr_0_2 ?_
  refine V.iload_n (pc := 4) dX11_parts_4 rfl ?_
  refine U.callV (pc := 5) (As := [.int l1]) (st := []) dX11_parts_5 l_RX11_118 (ok_X4_holdsSet (by omega) l1 ) lx_6 ly_6 cn_4 (Nat.le_of_ble_eq_true rfl) rfl rfl (Nat.le_of_ble_eq_true rfl) ?_
  rcases ite_e h with ⟨c, h⟩ | ⟨c, h⟩
  · refine V.if_ne_f (t := 13) (pc := 8) dX11_parts_8 (by decide) c ?_
    refine V.iconst (pc := 11) dX11_parts_11 ic_m1 ?_
    obtain ⟨rfl, rfl⟩ := Prod.mk.inj (Option.some.inj h)
    exact V.iret (pc := 12) dX11_parts_12 rfl (Nat.le_refl _) (Nat.le_refl _)
  · refine V.if_ne_t (t := 13) (pc := 8) dX11_parts_8 (by decide) c ?_
    refine V.iload_n (pc := 13) dX11_parts_13 rfl ?_
    refine V.iconst (pc := 14) dX11_parts_14 ic_1 ?_
    refine V.iand (pc := 15) dX11_parts_15 ?_
    rcases ite_e h with ⟨c, h⟩ | ⟨c, h⟩
    · refine V.if_ne_f (t := 30) (pc := 16) dX11_parts_16 (by decide) c ?_
      refine V.aload_n (pc := 19) dX11_parts_19 rfl ?_
      refine V.getR (t := 21) (pc := 20) dX11_parts_20 f_RX11_51 k_cl11 lx_0 ly_0 rb_11_5 rr_0_5 ?_
      refine V.iload_n (pc := 23) dX11_parts_23 rfl ?_
      obtain ⟨x1, w2, ew2, h⟩ := bnd2_e h
      refine U.callV (pc := 24) (As := [.int l1]) (st := []) dX11_parts_24 l_RX11_237 (ok_X2_fewestFor (by omega) l1 ew2) lx_21 ly_21 cn_2 (Nat.le_of_ble_eq_true rfl) rfl rfl (Nat.le_of_ble_eq_true rfl) ?_
      refine V.goto (t := 32) (pc := 27) dX11_parts_27 (by decide) ?_
      obtain ⟨rfl, rfl⟩ := Prod.mk.inj (Option.some.inj h)
      exact V.iret (pc := 32) dX11_parts_32 rfl (Nat.le_refl _) (Nat.le_refl _)
    · refine V.if_ne_t (t := 30) (pc := 16) dX11_parts_16 (by decide) c ?_
      refine V.bipush (pc := 30) dX11_parts_30 bp_m2 ?_
      obtain ⟨rfl, rfl⟩ := Prod.mk.inj (Option.some.inj h)
      exact V.iret (pc := 32) dX11_parts_32 rfl (Nat.le_refl _) (Nat.le_refl _)
theorem dX12_partsInto_0 : decode cX12_partsInto 0 = .ok (.iconst 0, 1) := by decide +kernel
theorem dX12_partsInto_1 : decode cX12_partsInto 1 = .ok (.istore_n 2, 1) := by decide +kernel
theorem dX12_partsInto_2 : decode cX12_partsInto 2 = .ok (.iload_n 2, 1) := by decide +kernel
theorem dX12_partsInto_3 : decode cX12_partsInto 3 = .ok (.bipush 16, 2) := by decide +kernel
theorem dX12_partsInto_5 : decode cX12_partsInto 5 = .ok (.if_icmp .ge 16, 3) := by decide +kernel
theorem dX12_partsInto_8 : decode cX12_partsInto 8 = .ok (.aload_n 0, 1) := by decide +kernel
theorem dX12_partsInto_9 : decode cX12_partsInto 9 = .ok (.getfield 57, 3) := by decide +kernel
theorem dX12_partsInto_12 : decode cX12_partsInto 12 = .ok (.iload_n 2, 1) := by decide +kernel
theorem dX12_partsInto_13 : decode cX12_partsInto 13 = .ok (.iconst 0, 1) := by decide +kernel
theorem dX12_partsInto_14 : decode cX12_partsInto 14 = .ok (.iastore, 1) := by decide +kernel
theorem dX12_partsInto_15 : decode cX12_partsInto 15 = .ok (.iinc 2 1, 3) := by decide +kernel
theorem dX12_partsInto_18 : decode cX12_partsInto 18 = .ok (.goto (-16), 3) := by decide +kernel
theorem dX12_partsInto_21 : decode cX12_partsInto 21 = .ok (.iconst 0, 1) := by decide +kernel
theorem dX12_partsInto_22 : decode cX12_partsInto 22 = .ok (.istore_n 2, 1) := by decide +kernel
theorem dX12_partsInto_23 : decode cX12_partsInto 23 = .ok (.iload_n 2, 1) := by decide +kernel
theorem dX12_partsInto_24 : decode cX12_partsInto 24 = .ok (.aload_n 0, 1) := by decide +kernel
theorem dX12_partsInto_25 : decode cX12_partsInto 25 = .ok (.getfield 215, 3) := by decide +kernel
theorem dX12_partsInto_28 : decode cX12_partsInto 28 = .ok (.if_icmp .ge 16, 3) := by decide +kernel
theorem dX12_partsInto_31 : decode cX12_partsInto 31 = .ok (.aload_n 0, 1) := by decide +kernel
theorem dX12_partsInto_32 : decode cX12_partsInto 32 = .ok (.getfield 54, 3) := by decide +kernel
theorem dX12_partsInto_35 : decode cX12_partsInto 35 = .ok (.iload_n 2, 1) := by decide +kernel
theorem dX12_partsInto_36 : decode cX12_partsInto 36 = .ok (.iconst (-1), 1) := by decide +kernel
theorem dX12_partsInto_37 : decode cX12_partsInto 37 = .ok (.iastore, 1) := by decide +kernel
theorem dX12_partsInto_38 : decode cX12_partsInto 38 = .ok (.iinc 2 1, 3) := by decide +kernel
theorem dX12_partsInto_41 : decode cX12_partsInto 41 = .ok (.goto (-18), 3) := by decide +kernel
theorem dX12_partsInto_44 : decode cX12_partsInto 44 = .ok (.aload_n 0, 1) := by decide +kernel
theorem dX12_partsInto_45 : decode cX12_partsInto 45 = .ok (.getfield 60, 3) := by decide +kernel
theorem dX12_partsInto_48 : decode cX12_partsInto 48 = .ok (.iconst 0, 1) := by decide +kernel
theorem dX12_partsInto_49 : decode cX12_partsInto 49 = .ok (.iconst 0, 1) := by decide +kernel
theorem dX12_partsInto_50 : decode cX12_partsInto 50 = .ok (.iastore, 1) := by decide +kernel
theorem dX12_partsInto_51 : decode cX12_partsInto 51 = .ok (.iconst 0, 1) := by decide +kernel
theorem dX12_partsInto_52 : decode cX12_partsInto 52 = .ok (.istore_n 2, 1) := by decide +kernel
theorem dX12_partsInto_53 : decode cX12_partsInto 53 = .ok (.iload_n 2, 1) := by decide +kernel
theorem dX12_partsInto_54 : decode cX12_partsInto 54 = .ok (.ifCond .lt 182, 3) := by decide +kernel
theorem dX12_partsInto_57 : decode cX12_partsInto 57 = .ok (.iload_n 2, 1) := by decide +kernel
theorem dX12_partsInto_58 : decode cX12_partsInto 58 = .ok (.aload_n 0, 1) := by decide +kernel
theorem dX12_partsInto_59 : decode cX12_partsInto 59 = .ok (.getfield 215, 3) := by decide +kernel
theorem dX12_partsInto_62 : decode cX12_partsInto 62 = .ok (.if_icmp .ge 174, 3) := by decide +kernel
theorem dX12_partsInto_65 : decode cX12_partsInto 65 = .ok (.iconst 1, 1) := by decide +kernel
theorem dX12_partsInto_66 : decode cX12_partsInto 66 = .ok (.aload_n 0, 1) := by decide +kernel
theorem dX12_partsInto_67 : decode cX12_partsInto 67 = .ok (.getfield 63, 3) := by decide +kernel
theorem dX12_partsInto_70 : decode cX12_partsInto 70 = .ok (.iload_n 2, 1) := by decide +kernel
theorem dX12_partsInto_71 : decode cX12_partsInto 71 = .ok (.iaload, 1) := by decide +kernel
theorem dX12_partsInto_72 : decode cX12_partsInto 72 = .ok (.ishl, 1) := by decide +kernel
theorem dX12_partsInto_73 : decode cX12_partsInto 73 = .ok (.istore_n 3, 1) := by decide +kernel
theorem dX12_partsInto_74 : decode cX12_partsInto 74 = .ok (.aload_n 0, 1) := by decide +kernel
theorem dX12_partsInto_75 : decode cX12_partsInto 75 = .ok (.getfield 54, 3) := by decide +kernel
theorem dX12_partsInto_78 : decode cX12_partsInto 78 = .ok (.iload_n 2, 1) := by decide +kernel
theorem dX12_partsInto_79 : decode cX12_partsInto 79 = .ok (.iaload, 1) := by decide +kernel
theorem dX12_partsInto_80 : decode cX12_partsInto 80 = .ok (.ifCond .lt 20, 3) := by decide +kernel
theorem dX12_partsInto_83 : decode cX12_partsInto 83 = .ok (.aload_n 0, 1) := by decide +kernel
theorem dX12_partsInto_84 : decode cX12_partsInto 84 = .ok (.getfield 57, 3) := by decide +kernel
theorem dX12_partsInto_87 : decode cX12_partsInto 87 = .ok (.aload_n 0, 1) := by decide +kernel
theorem dX12_partsInto_88 : decode cX12_partsInto 88 = .ok (.getfield 54, 3) := by decide +kernel
theorem dX12_partsInto_91 : decode cX12_partsInto 91 = .ok (.iload_n 2, 1) := by decide +kernel
theorem dX12_partsInto_92 : decode cX12_partsInto 92 = .ok (.iaload, 1) := by decide +kernel
theorem dX12_partsInto_93 : decode cX12_partsInto 93 = .ok (.dup2, 1) := by decide +kernel
theorem dX12_partsInto_94 : decode cX12_partsInto 94 = .ok (.iaload, 1) := by decide +kernel
theorem dX12_partsInto_95 : decode cX12_partsInto 95 = .ok (.iload_n 3, 1) := by decide +kernel
theorem dX12_partsInto_96 : decode cX12_partsInto 96 = .ok (.iconst (-1), 1) := by decide +kernel
theorem dX12_partsInto_97 : decode cX12_partsInto 97 = .ok (.ixor, 1) := by decide +kernel
theorem dX12_partsInto_98 : decode cX12_partsInto 98 = .ok (.iand, 1) := by decide +kernel
theorem dX12_partsInto_99 : decode cX12_partsInto 99 = .ok (.iastore, 1) := by decide +kernel
theorem dX12_partsInto_100 : decode cX12_partsInto 100 = .ok (.aload_n 0, 1) := by decide +kernel
theorem dX12_partsInto_101 : decode cX12_partsInto 101 = .ok (.getfield 54, 3) := by decide +kernel
theorem dX12_partsInto_104 : decode cX12_partsInto 104 = .ok (.iload_n 2, 1) := by decide +kernel
theorem dX12_partsInto_105 : decode cX12_partsInto 105 = .ok (.iaload, 1) := by decide +kernel
theorem dX12_partsInto_106 : decode cX12_partsInto 106 = .ok (.iconst 1, 1) := by decide +kernel
theorem dX12_partsInto_107 : decode cX12_partsInto 107 = .ok (.iadd, 1) := by decide +kernel
theorem dX12_partsInto_108 : decode cX12_partsInto 108 = .ok (.istore 4, 2) := by decide +kernel
theorem dX12_partsInto_110 : decode cX12_partsInto 110 = .ok (.iload 4, 2) := by decide +kernel
theorem dX12_partsInto_112 : decode cX12_partsInto 112 = .ok (.iload_n 1, 1) := by decide +kernel
theorem dX12_partsInto_113 : decode cX12_partsInto 113 = .ok (.if_icmp .ge 36, 3) := by decide +kernel
theorem dX12_partsInto_116 : decode cX12_partsInto 116 = .ok (.iload 4, 2) := by decide +kernel
theorem dX12_partsInto_118 : decode cX12_partsInto 118 = .ok (.aload_n 0, 1) := by decide +kernel
theorem dX12_partsInto_119 : decode cX12_partsInto 119 = .ok (.getfield 60, 3) := by decide +kernel
theorem dX12_partsInto_122 : decode cX12_partsInto 122 = .ok (.iload_n 2, 1) := by decide +kernel
theorem dX12_partsInto_123 : decode cX12_partsInto 123 = .ok (.iaload, 1) := by decide +kernel
theorem dX12_partsInto_124 : decode cX12_partsInto 124 = .ok (.if_icmp .gt 25, 3) := by decide +kernel
theorem dX12_partsInto_127 : decode cX12_partsInto 127 = .ok (.aload_n 0, 1) := by decide +kernel
theorem dX12_partsInto_128 : decode cX12_partsInto 128 = .ok (.aload_n 0, 1) := by decide +kernel
theorem dX12_partsInto_129 : decode cX12_partsInto 129 = .ok (.getfield 57, 3) := by decide +kernel
theorem dX12_partsInto_132 : decode cX12_partsInto 132 = .ok (.iload 4, 2) := by decide +kernel
theorem dX12_partsInto_134 : decode cX12_partsInto 134 = .ok (.iaload, 1) := by decide +kernel
theorem dX12_partsInto_135 : decode cX12_partsInto 135 = .ok (.iload_n 3, 1) := by decide +kernel
theorem dX12_partsInto_136 : decode cX12_partsInto 136 = .ok (.ior, 1) := by decide +kernel
theorem dX12_partsInto_137 : decode cX12_partsInto 137 = .ok (.invokevirtual 150, 3) := by decide +kernel
theorem dX12_partsInto_140 : decode cX12_partsInto 140 = .ok (.ifCond .ne 9, 3) := by decide +kernel
theorem dX12_partsInto_143 : decode cX12_partsInto 143 = .ok (.iinc 4 1, 3) := by decide +kernel
theorem dX12_partsInto_146 : decode cX12_partsInto 146 = .ok (.goto (-36), 3) := by decide +kernel
theorem dX12_partsInto_149 : decode cX12_partsInto 149 = .ok (.iload 4, 2) := by decide +kernel
theorem dX12_partsInto_151 : decode cX12_partsInto 151 = .ok (.iload_n 1, 1) := by decide +kernel
theorem dX12_partsInto_152 : decode cX12_partsInto 152 = .ok (.if_icmp .ge 14, 3) := by decide +kernel
theorem dX12_partsInto_155 : decode cX12_partsInto 155 = .ok (.iload 4, 2) := by decide +kernel
theorem dX12_partsInto_157 : decode cX12_partsInto 157 = .ok (.aload_n 0, 1) := by decide +kernel
theorem dX12_partsInto_158 : decode cX12_partsInto 158 = .ok (.getfield 60, 3) := by decide +kernel
theorem dX12_partsInto_161 : decode cX12_partsInto 161 = .ok (.iload_n 2, 1) := by decide +kernel
theorem dX12_partsInto_162 : decode cX12_partsInto 162 = .ok (.iaload, 1) := by decide +kernel
theorem dX12_partsInto_163 : decode cX12_partsInto 163 = .ok (.if_icmp .le 16, 3) := by decide +kernel
theorem dX12_partsInto_166 : decode cX12_partsInto 166 = .ok (.aload_n 0, 1) := by decide +kernel
theorem dX12_partsInto_167 : decode cX12_partsInto 167 = .ok (.getfield 54, 3) := by decide +kernel
theorem dX12_partsInto_170 : decode cX12_partsInto 170 = .ok (.iload_n 2, 1) := by decide +kernel
theorem dX12_partsInto_171 : decode cX12_partsInto 171 = .ok (.iconst (-1), 1) := by decide +kernel
theorem dX12_partsInto_172 : decode cX12_partsInto 172 = .ok (.iastore, 1) := by decide +kernel
theorem dX12_partsInto_173 : decode cX12_partsInto 173 = .ok (.iinc 2 (-1), 3) := by decide +kernel
theorem dX12_partsInto_176 : decode cX12_partsInto 176 = .ok (.goto (-123), 3) := by decide +kernel
theorem dX12_partsInto_179 : decode cX12_partsInto 179 = .ok (.aload_n 0, 1) := by decide +kernel
theorem dX12_partsInto_180 : decode cX12_partsInto 180 = .ok (.getfield 54, 3) := by decide +kernel
theorem dX12_partsInto_183 : decode cX12_partsInto 183 = .ok (.iload_n 2, 1) := by decide +kernel
theorem dX12_partsInto_184 : decode cX12_partsInto 184 = .ok (.iload 4, 2) := by decide +kernel
theorem dX12_partsInto_186 : decode cX12_partsInto 186 = .ok (.iastore, 1) := by decide +kernel
theorem dX12_partsInto_187 : decode cX12_partsInto 187 = .ok (.aload_n 0, 1) := by decide +kernel
theorem dX12_partsInto_188 : decode cX12_partsInto 188 = .ok (.getfield 57, 3) := by decide +kernel
theorem dX12_partsInto_191 : decode cX12_partsInto 191 = .ok (.iload 4, 2) := by decide +kernel
theorem dX12_partsInto_193 : decode cX12_partsInto 193 = .ok (.dup2, 1) := by decide +kernel
theorem dX12_partsInto_194 : decode cX12_partsInto 194 = .ok (.iaload, 1) := by decide +kernel
theorem dX12_partsInto_195 : decode cX12_partsInto 195 = .ok (.iload_n 3, 1) := by decide +kernel
theorem dX12_partsInto_196 : decode cX12_partsInto 196 = .ok (.ior, 1) := by decide +kernel
theorem dX12_partsInto_197 : decode cX12_partsInto 197 = .ok (.iastore, 1) := by decide +kernel
theorem dX12_partsInto_198 : decode cX12_partsInto 198 = .ok (.aload_n 0, 1) := by decide +kernel
theorem dX12_partsInto_199 : decode cX12_partsInto 199 = .ok (.getfield 60, 3) := by decide +kernel
theorem dX12_partsInto_202 : decode cX12_partsInto 202 = .ok (.iload_n 2, 1) := by decide +kernel
theorem dX12_partsInto_203 : decode cX12_partsInto 203 = .ok (.iconst 1, 1) := by decide +kernel
theorem dX12_partsInto_204 : decode cX12_partsInto 204 = .ok (.iadd, 1) := by decide +kernel
theorem dX12_partsInto_205 : decode cX12_partsInto 205 = .ok (.iload 4, 2) := by decide +kernel
theorem dX12_partsInto_207 : decode cX12_partsInto 207 = .ok (.aload_n 0, 1) := by decide +kernel
theorem dX12_partsInto_208 : decode cX12_partsInto 208 = .ok (.getfield 60, 3) := by decide +kernel
theorem dX12_partsInto_211 : decode cX12_partsInto 211 = .ok (.iload_n 2, 1) := by decide +kernel
theorem dX12_partsInto_212 : decode cX12_partsInto 212 = .ok (.iaload, 1) := by decide +kernel
theorem dX12_partsInto_213 : decode cX12_partsInto 213 = .ok (.if_icmp .ne 10, 3) := by decide +kernel
theorem dX12_partsInto_216 : decode cX12_partsInto 216 = .ok (.iload 4, 2) := by decide +kernel
theorem dX12_partsInto_218 : decode cX12_partsInto 218 = .ok (.iconst 1, 1) := by decide +kernel
theorem dX12_partsInto_219 : decode cX12_partsInto 219 = .ok (.iadd, 1) := by decide +kernel
theorem dX12_partsInto_220 : decode cX12_partsInto 220 = .ok (.goto 9, 3) := by decide +kernel
theorem dX12_partsInto_223 : decode cX12_partsInto 223 = .ok (.aload_n 0, 1) := by decide +kernel
theorem dX12_partsInto_224 : decode cX12_partsInto 224 = .ok (.getfield 60, 3) := by decide +kernel
theorem dX12_partsInto_227 : decode cX12_partsInto 227 = .ok (.iload_n 2, 1) := by decide +kernel
theorem dX12_partsInto_228 : decode cX12_partsInto 228 = .ok (.iaload, 1) := by decide +kernel
theorem dX12_partsInto_229 : decode cX12_partsInto 229 = .ok (.iastore, 1) := by decide +kernel
theorem dX12_partsInto_230 : decode cX12_partsInto 230 = .ok (.iinc 2 1, 3) := by decide +kernel
theorem dX12_partsInto_233 : decode cX12_partsInto 233 = .ok (.goto (-180), 3) := by decide +kernel
theorem dX12_partsInto_236 : decode cX12_partsInto 236 = .ok (.iload_n 2, 1) := by decide +kernel
theorem dX12_partsInto_237 : decode cX12_partsInto 237 = .ok (.aload_n 0, 1) := by decide +kernel
theorem dX12_partsInto_238 : decode cX12_partsInto 238 = .ok (.getfield 215, 3) := by decide +kernel
theorem dX12_partsInto_241 : decode cX12_partsInto 241 = .ok (.if_icmp .lt 7, 3) := by decide +kernel
theorem dX12_partsInto_244 : decode cX12_partsInto 244 = .ok (.iconst 1, 1) := by decide +kernel
theorem dX12_partsInto_245 : decode cX12_partsInto 245 = .ok (.goto 4, 3) := by decide +kernel
theorem dX12_partsInto_248 : decode cX12_partsInto 248 = .ok (.iconst 0, 1) := by decide +kernel
theorem dX12_partsInto_249 : decode cX12_partsInto 249 = .ok (.ireturn, 1) := by decide +kernel
def f_X12_partsInto_J149 (k53 : Int32 → Int32 → Wd → Option (Int32 × Wd)) (l1 : Int32) (l2 : Int32) (l3 : Int32) (l4 : Int32) (w : Wd) : Option (Int32 × Wd) :=
  if l1 ≤ l4 then
    wrI w 58 16 l2 (-1) fun w1 =>
    k53 l1 (l2 + (-1)) w1
  else
    rdI w 60 17 l2 fun x2 =>
    if l4 ≤ x2 then
      wrI w 58 16 l2 l4 fun w3 =>
      rdI w3 59 16 l4 fun x4 =>
      wrI w3 59 16 l4 (x4 ||| l3) fun w5 =>
      rdI w5 60 17 l2 fun x6 =>
      if l4 = x6 then
        wrI w5 60 17 (l2 + 1) (l4 + 1) fun w9 =>
        k53 l1 (l2 + 1) w9
      else
        rdI w5 60 17 l2 fun x7 =>
        wrI w5 60 17 (l2 + 1) x7 fun w8 =>
        k53 l1 (l2 + 1) w8
    else
      wrI w 58 16 l2 (-1) fun w10 =>
      k53 l1 (l2 + (-1)) w10
set_option maxHeartbeats 4000000 in
set_option maxRecDepth 100000 in
theorem t_X12_partsInto_J149 {G : GT} {d : Nat} {k53 : Int32 → Int32 → Wd → Option (Int32 × Wd)} (hd : 2 ≤ d + 1) (h53 : ∀ (l1 : Int32) (l2 : Int32) (w : Wd) (r : Int32) (w' : Wd), k53 l1 l2 w = some (r, w') → U (vf G mX12_partsInto (d + 1)) 53 [some (.ref 44), some (.int l1), some (.int l2), none, none] [] w (some (.int r), 70, r0, w')) : ∀ (l1 : Int32) (l2 : Int32) (l3 : Int32) (l4 : Int32) (w : Wd) (r : Int32) (w' : Wd), f_X12_partsInto_J149 k53 l1 l2 l3 l4 w = some (r, w') → U (vf G mX12_partsInto (d + 1)) 149 [some (.ref 44), some (.int l1), some (.int l2), some (.int l3), some (.int l4)] [] w (some (.int r), 70, r0, w') := by
  intro l1 l2 l3 l4 w r w' h
  unfold f_X12_partsInto_J149 at h
  refine V.iload (pc := 149) dX12_partsInto_149 rfl ?_
  refine V.iload_n (pc := 151) dX12_partsInto_151 rfl ?_
  rcases ite_e h with ⟨c, h⟩ | ⟨c, h⟩
  · refine V.icmp_ge_t (t := 166) (pc := 152) dX12_partsInto_152 (by decide) c ?_
    refine V.aload_n (pc := 166) dX12_partsInto_166 rfl ?_
    refine V.getR (t := 58) (pc := 167) dX12_partsInto_167 f_RX12_54 k_cl12 lx_44 ly_44 rb_12_18 rr_44_18 ?_
    refine V.iload_n (pc := 170) dX12_partsInto_170 rfl ?_
    refine V.iconst (pc := 171) dX12_partsInto_171 ic_m1 ?_
    obtain ⟨w1, iw1, ew1, h⟩ := wrI_e h
    refine V.iastX (pc := 172) dX12_partsInto_172 lx_58 ly_58 iw1 ew1 ?_
    refine V.iinc (lv' := [some (.ref 44), some (.int l1), some (.int (l2 + (-1))), some (.int l3), some (.int l4)]) (pc := 173) dX12_partsInto_173 (Nat.le_of_ble_eq_true rfl) rfl rfl (v := (l2 + (-1))) (by rw [show Int32.ofInt (-1) = (-1) from by decide]) rfl ?_
    refine V.goto (t := 53) (pc := 176) dX12_partsInto_176 (by decide) ?_
    refine V.weak (lv' := [some (.ref 44), some (.int l1), some (.int (l2 + (-1))), none, none]) (And.intro rfl (And.intro rfl (And.intro rfl trivial))) ?_
    exact h53 l1 (l2 + (-1)) w1 _ _ h
  · refine V.icmp_ge_f (t := 166) (pc := 152) dX12_partsInto_152 (by decide) c ?_
    refine V.iload (pc := 155) dX12_partsInto_155 rfl ?_
    refine V.aload_n (pc := 157) dX12_partsInto_157 rfl ?_
    refine V.getR (t := 60) (pc := 158) dX12_partsInto_158 f_RX12_60 k_cl12 lx_44 ly_44 rb_12_20 rr_44_20 ?_
    refine V.iload_n (pc := 161) dX12_partsInto_161 rfl ?_
    obtain ⟨x2, ix2, ex2, h⟩ := rdI_e h
    refine V.ialdX (pc := 162) dX12_partsInto_162 lx_60 ly_60 ix2 ex2 ?_
    rcases ite_e h with ⟨c, h⟩ | ⟨c, h⟩
    · refine V.icmp_le_t (t := 179) (pc := 163) dX12_partsInto_163 (by decide) c ?_
      refine V.aload_n (pc := 179) dX12_partsInto_179 rfl ?_
      refine V.getR (t := 58) (pc := 180) dX12_partsInto_180 f_RX12_54 k_cl12 lx_44 ly_44 rb_12_18 rr_44_18 ?_
      refine V.iload_n (pc := 183) dX12_partsInto_183 rfl ?_
      refine V.iload (pc := 184) dX12_partsInto_184 rfl ?_
      obtain ⟨w3, iw3, ew3, h⟩ := wrI_e h
      refine V.iastX (pc := 186) dX12_partsInto_186 lx_58 ly_58 iw3 ew3 ?_
      refine V.aload_n (pc := 187) dX12_partsInto_187 rfl ?_
      refine V.getR (t := 59) (pc := 188) dX12_partsInto_188 f_RX12_57 k_cl12 lx_44 ly_44 rb_12_19 rr_44_19 ?_
      refine V.iload (pc := 191) dX12_partsInto_191 rfl ?_
      refine V.dup2 (pc := 193) dX12_partsInto_193 rfl rfl ?_
      obtain ⟨x4, ix4, ex4, h⟩ := rdI_e h
      refine V.ialdX (pc := 194) dX12_partsInto_194 lx_59 ly_59 ix4 ex4 ?_
      refine V.iload_n (pc := 195) dX12_partsInto_195 rfl ?_
      refine V.ior (pc := 196) dX12_partsInto_196 ?_
      obtain ⟨w5, iw5, ew5, h⟩ := wrI_e h
      refine V.iastX (pc := 197) dX12_partsInto_197 lx_59 ly_59 iw5 ew5 ?_
      refine V.aload_n (pc := 198) dX12_partsInto_198 rfl ?_
      refine V.getR (t := 60) (pc := 199) dX12_partsInto_199 f_RX12_60 k_cl12 lx_44 ly_44 rb_12_20 rr_44_20 ?_
      refine V.iload_n (pc := 202) dX12_partsInto_202 rfl ?_
      refine V.iconst (pc := 203) dX12_partsInto_203 ic_1 ?_
      refine V.iadd (pc := 204) dX12_partsInto_204 ?_
      refine V.iload (pc := 205) dX12_partsInto_205 rfl ?_
      refine V.aload_n (pc := 207) dX12_partsInto_207 rfl ?_
      refine V.getR (t := 60) (pc := 208) dX12_partsInto_208 f_RX12_60 k_cl12 lx_44 ly_44 rb_12_20 rr_44_20 ?_
      refine V.iload_n (pc := 211) dX12_partsInto_211 rfl ?_
      obtain ⟨x6, ix6, ex6, h⟩ := rdI_e h
      refine V.ialdX (pc := 212) dX12_partsInto_212 lx_60 ly_60 ix6 ex6 ?_
      rcases ite_e h with ⟨c, h⟩ | ⟨c, h⟩
      · refine V.icmp_ne_f (t := 223) (pc := 213) dX12_partsInto_213 (by decide) c ?_
        refine V.iload (pc := 216) dX12_partsInto_216 rfl ?_
        refine V.iconst (pc := 218) dX12_partsInto_218 ic_1 ?_
        refine V.iadd (pc := 219) dX12_partsInto_219 ?_
        refine V.goto (t := 229) (pc := 220) dX12_partsInto_220 (by decide) ?_
        obtain ⟨w9, iw9, ew9, h⟩ := wrI_e h
        refine V.iastX (pc := 229) dX12_partsInto_229 lx_60 ly_60 iw9 ew9 ?_
        refine V.iinc (lv' := [some (.ref 44), some (.int l1), some (.int (l2 + 1)), some (.int l3), some (.int l4)]) (pc := 230) dX12_partsInto_230 (Nat.le_of_ble_eq_true rfl) rfl rfl (v := (l2 + 1)) (by rw [show Int32.ofInt 1 = 1 from by decide]) rfl ?_
        refine V.goto (t := 53) (pc := 233) dX12_partsInto_233 (by decide) ?_
        refine V.weak (lv' := [some (.ref 44), some (.int l1), some (.int (l2 + 1)), none, none]) (And.intro rfl (And.intro rfl (And.intro rfl trivial))) ?_
        exact h53 l1 (l2 + 1) w9 _ _ h
      · refine V.icmp_ne_t (t := 223) (pc := 213) dX12_partsInto_213 (by decide) c ?_
        refine V.aload_n (pc := 223) dX12_partsInto_223 rfl ?_
        refine V.getR (t := 60) (pc := 224) dX12_partsInto_224 f_RX12_60 k_cl12 lx_44 ly_44 rb_12_20 rr_44_20 ?_
        refine V.iload_n (pc := 227) dX12_partsInto_227 rfl ?_
        obtain ⟨x7, ix7, ex7, h⟩ := rdI_e h
        refine V.ialdX (pc := 228) dX12_partsInto_228 lx_60 ly_60 ix7 ex7 ?_
        obtain ⟨w8, iw8, ew8, h⟩ := wrI_e h
        refine V.iastX (pc := 229) dX12_partsInto_229 lx_60 ly_60 iw8 ew8 ?_
        refine V.iinc (lv' := [some (.ref 44), some (.int l1), some (.int (l2 + 1)), some (.int l3), some (.int l4)]) (pc := 230) dX12_partsInto_230 (Nat.le_of_ble_eq_true rfl) rfl rfl (v := (l2 + 1)) (by rw [show Int32.ofInt 1 = 1 from by decide]) rfl ?_
        refine V.goto (t := 53) (pc := 233) dX12_partsInto_233 (by decide) ?_
        refine V.weak (lv' := [some (.ref 44), some (.int l1), some (.int (l2 + 1)), none, none]) (And.intro rfl (And.intro rfl (And.intro rfl trivial))) ?_
        exact h53 l1 (l2 + 1) w8 _ _ h
    · refine V.icmp_le_f (t := 179) (pc := 163) dX12_partsInto_163 (by decide) c ?_
      refine V.aload_n (pc := 166) dX12_partsInto_166 rfl ?_
      refine V.getR (t := 58) (pc := 167) dX12_partsInto_167 f_RX12_54 k_cl12 lx_44 ly_44 rb_12_18 rr_44_18 ?_
      refine V.iload_n (pc := 170) dX12_partsInto_170 rfl ?_
      refine V.iconst (pc := 171) dX12_partsInto_171 ic_m1 ?_
      obtain ⟨w10, iw10, ew10, h⟩ := wrI_e h
      refine V.iastX (pc := 172) dX12_partsInto_172 lx_58 ly_58 iw10 ew10 ?_
      refine V.iinc (lv' := [some (.ref 44), some (.int l1), some (.int (l2 + (-1))), some (.int l3), some (.int l4)]) (pc := 173) dX12_partsInto_173 (Nat.le_of_ble_eq_true rfl) rfl rfl (v := (l2 + (-1))) (by rw [show Int32.ofInt (-1) = (-1) from by decide]) rfl ?_
      refine V.goto (t := 53) (pc := 176) dX12_partsInto_176 (by decide) ?_
      refine V.weak (lv' := [some (.ref 44), some (.int l1), some (.int (l2 + (-1))), none, none]) (And.intro rfl (And.intro rfl (And.intro rfl trivial))) ?_
      exact h53 l1 (l2 + (-1)) w10 _ _ h
def f_X12_partsInto_B110b (k53 : Int32 → Int32 → Wd → Option (Int32 × Wd)) (k110 : Int32 → Int32 → Int32 → Int32 → Wd → Option (Int32 × Wd)) (l1 : Int32) (l2 : Int32) (l3 : Int32) (l4 : Int32) (w : Wd) : Option (Int32 × Wd) :=
  if l1 ≤ l4 then
    f_X12_partsInto_J149 k53 l1 l2 l3 l4 w
  else
    rdI w 60 17 l2 fun x1 =>
    if x1 < l4 then
      f_X12_partsInto_J149 k53 l1 l2 l3 l4 w
    else
      rdI w 59 16 l4 fun x2 =>
      bnd (f_X12_isFree (x2 ||| l3) w) fun x3 =>
      if x3 = 0 then
        k110 l1 l2 l3 (l4 + 1) w
      else
        f_X12_partsInto_J149 k53 l1 l2 l3 l4 w
def f_X12_partsInto_L110 (k53 : Int32 → Int32 → Wd → Option (Int32 × Wd)) (n : Nat) : Int32 → Int32 → Int32 → Int32 → Wd → Option (Int32 × Wd) :=
  Nat.rec (fun _ _ _ _ _ => none) (fun _ k => f_X12_partsInto_B110b k53 k) n
set_option maxHeartbeats 4000000 in
set_option maxRecDepth 100000 in
theorem t_X12_partsInto_L110 {G : GT} {d : Nat} {k53 : Int32 → Int32 → Wd → Option (Int32 × Wd)} (hd : 2 ≤ d + 1) (h53 : ∀ (l1 : Int32) (l2 : Int32) (w : Wd) (r : Int32) (w' : Wd), k53 l1 l2 w = some (r, w') → U (vf G mX12_partsInto (d + 1)) 53 [some (.ref 44), some (.int l1), some (.int l2), none, none] [] w (some (.int r), 70, r0, w')) : ∀ (n : Nat) (l1 : Int32) (l2 : Int32) (l3 : Int32) (l4 : Int32) (w : Wd) (r : Int32) (w' : Wd), f_X12_partsInto_L110 k53 n l1 l2 l3 l4 w = some (r, w') → U (vf G mX12_partsInto (d + 1)) 110 [some (.ref 44), some (.int l1), some (.int l2), some (.int l3), some (.int l4)] [] w (some (.int r), 70, r0, w') := by
  intro n
  induction n with
  | zero => intro l1 l2 l3 l4 w r w' h; cases h
  | succ n h110 =>
    intro l1 l2 l3 l4 w r w' h
    have h : f_X12_partsInto_B110b k53 (f_X12_partsInto_L110 k53 n) l1 l2 l3 l4 w = some (r, w') := h
    unfold f_X12_partsInto_B110b at h
    refine V.iload (pc := 110) dX12_partsInto_110 rfl ?_
    refine V.iload_n (pc := 112) dX12_partsInto_112 rfl ?_
    rcases ite_e h with ⟨c, h⟩ | ⟨c, h⟩
    · refine V.icmp_ge_t (t := 149) (pc := 113) dX12_partsInto_113 (by decide) c ?_
      exact t_X12_partsInto_J149 hd h53 l1 l2 l3 l4 w _ _ h
    · refine V.icmp_ge_f (t := 149) (pc := 113) dX12_partsInto_113 (by decide) c ?_
      refine V.iload (pc := 116) dX12_partsInto_116 rfl ?_
      refine V.aload_n (pc := 118) dX12_partsInto_118 rfl ?_
      refine V.getR (t := 60) (pc := 119) dX12_partsInto_119 f_RX12_60 k_cl12 lx_44 ly_44 rb_12_20 rr_44_20 ?_
      refine V.iload_n (pc := 122) dX12_partsInto_122 rfl ?_
      obtain ⟨x1, ix1, ex1, h⟩ := rdI_e h
      refine V.ialdX (pc := 123) dX12_partsInto_123 lx_60 ly_60 ix1 ex1 ?_
      rcases ite_e h with ⟨c, h⟩ | ⟨c, h⟩
      · refine V.icmp_gt_t (t := 149) (pc := 124) dX12_partsInto_124 (by decide) c ?_
        exact t_X12_partsInto_J149 hd h53 l1 l2 l3 l4 w _ _ h
      · refine V.icmp_gt_f (t := 149) (pc := 124) dX12_partsInto_124 (by decide) c ?_
        refine V.aload_n (pc := 127) dX12_partsInto_127 rfl ?_
        refine V.aload_n (pc := 128) dX12_partsInto_128 rfl ?_
        refine V.getR (t := 59) (pc := 129) dX12_partsInto_129 f_RX12_57 k_cl12 lx_44 ly_44 rb_12_19 rr_44_19 ?_
        refine V.iload (pc := 132) dX12_partsInto_132 rfl ?_
        obtain ⟨x2, ix2, ex2, h⟩ := rdI_e h
        refine V.ialdX (pc := 134) dX12_partsInto_134 lx_59 ly_59 ix2 ex2 ?_
        refine V.iload_n (pc := 135) dX12_partsInto_135 rfl ?_
        refine V.ior (pc := 136) dX12_partsInto_136 ?_
        obtain ⟨x3, ex3, h⟩ := bnd_e h
        refine U.callV (pc := 137) (As := [.int (x2 ||| l3)]) (st := []) dX12_partsInto_137 l_RX12_150 (ok_X12_isFree (by omega) (x2 ||| l3) ex3) lx_44 ly_44 cn_12 (Nat.le_of_ble_eq_true rfl) rfl rfl (Nat.le_of_ble_eq_true rfl) ?_
        rcases ite_e h with ⟨c, h⟩ | ⟨c, h⟩
        · refine V.if_ne_f (t := 149) (pc := 140) dX12_partsInto_140 (by decide) c ?_
          refine V.iinc (lv' := [some (.ref 44), some (.int l1), some (.int l2), some (.int l3), some (.int (l4 + 1))]) (pc := 143) dX12_partsInto_143 (Nat.le_of_ble_eq_true rfl) rfl rfl (v := (l4 + 1)) (by rw [show Int32.ofInt 1 = 1 from by decide]) rfl ?_
          refine V.goto (t := 110) (pc := 146) dX12_partsInto_146 (by decide) ?_
          exact h110 l1 l2 l3 (l4 + 1) w _ _ h
        · refine V.if_ne_t (t := 149) (pc := 140) dX12_partsInto_140 (by decide) c ?_
          exact t_X12_partsInto_J149 hd h53 l1 l2 l3 l4 w _ _ h
def f_X12_partsInto_B53b (k53 : Int32 → Int32 → Wd → Option (Int32 × Wd)) (l1 : Int32) (l2 : Int32) (w : Wd) : Option (Int32 × Wd) :=
  if l2 < 0 then
    if l2 < (w.1 44 22) then
      some (0, w)
    else
      some (1, w)
  else
    if (w.1 44 22) ≤ l2 then
      if l2 < (w.1 44 22) then
        some (0, w)
      else
        some (1, w)
    else
      rdI w 61 16 l2 fun x1 =>
      rdI w 58 16 l2 fun x2 =>
      if x2 < 0 then
        rdI w 58 16 l2 fun x3 =>
        f_X12_partsInto_L110 k53 FU l1 l2 (1 <<< (x1 &&& 31)) (x3 + 1) w
      else
        rdI w 58 16 l2 fun x4 =>
        rdI w 59 16 x4 fun x5 =>
        wrI w 59 16 x4 (x5 &&& ((1 <<< (x1 &&& 31)) ^^^ (-1))) fun w6 =>
        rdI w6 58 16 l2 fun x7 =>
        f_X12_partsInto_L110 k53 FU l1 l2 (1 <<< (x1 &&& 31)) (x7 + 1) w6
def f_X12_partsInto_L53 (n : Nat) : Int32 → Int32 → Wd → Option (Int32 × Wd) :=
  Nat.rec (fun _ _ _ => none) (fun _ k => f_X12_partsInto_B53b k) n
set_option maxHeartbeats 4000000 in
set_option maxRecDepth 100000 in
theorem t_X12_partsInto_L53 {G : GT} {d : Nat} (hd : 2 ≤ d + 1)  : ∀ (n : Nat) (l1 : Int32) (l2 : Int32) (w : Wd) (r : Int32) (w' : Wd), f_X12_partsInto_L53 n l1 l2 w = some (r, w') → U (vf G mX12_partsInto (d + 1)) 53 [some (.ref 44), some (.int l1), some (.int l2), none, none] [] w (some (.int r), 70, r0, w') := by
  intro n
  induction n with
  | zero => intro l1 l2 w r w' h; cases h
  | succ n h53 =>
    intro l1 l2 w r w' h
    have h : f_X12_partsInto_B53b (f_X12_partsInto_L53 n) l1 l2 w = some (r, w') := h
    unfold f_X12_partsInto_B53b at h
    refine V.iload_n (pc := 53) dX12_partsInto_53 rfl ?_
    rcases ite_e h with ⟨c, h⟩ | ⟨c, h⟩
    · refine V.if_lt_t (t := 236) (pc := 54) dX12_partsInto_54 (by decide) c ?_
      refine V.iload_n (pc := 236) dX12_partsInto_236 rfl ?_
      refine V.aload_n (pc := 237) dX12_partsInto_237 rfl ?_
      refine V.getI (pc := 238) dX12_partsInto_238 f_RX12_215 k_cl12 lx_44 ly_44 rb_12_22 ?_
      rcases ite_e h with ⟨c, h⟩ | ⟨c, h⟩
      · refine V.icmp_lt_t (t := 248) (pc := 241) dX12_partsInto_241 (by decide) c ?_
        refine V.iconst (pc := 248) dX12_partsInto_248 ic_0 ?_
        obtain ⟨rfl, rfl⟩ := Prod.mk.inj (Option.some.inj h)
        exact V.zret (pc := 249) dX12_partsInto_249 rfl (Or.inl rfl) (Nat.le_refl _) (Nat.le_refl _)
      · refine V.icmp_lt_f (t := 248) (pc := 241) dX12_partsInto_241 (by decide) c ?_
        refine V.iconst (pc := 244) dX12_partsInto_244 ic_1 ?_
        refine V.goto (t := 249) (pc := 245) dX12_partsInto_245 (by decide) ?_
        obtain ⟨rfl, rfl⟩ := Prod.mk.inj (Option.some.inj h)
        exact V.zret (pc := 249) dX12_partsInto_249 rfl (Or.inr rfl) (Nat.le_refl _) (Nat.le_refl _)
    · refine V.if_lt_f (t := 236) (pc := 54) dX12_partsInto_54 (by decide) c ?_
      refine V.iload_n (pc := 57) dX12_partsInto_57 rfl ?_
      refine V.aload_n (pc := 58) dX12_partsInto_58 rfl ?_
      refine V.getI (pc := 59) dX12_partsInto_59 f_RX12_215 k_cl12 lx_44 ly_44 rb_12_22 ?_
      rcases ite_e h with ⟨c, h⟩ | ⟨c, h⟩
      · refine V.icmp_ge_t (t := 236) (pc := 62) dX12_partsInto_62 (by decide) c ?_
        refine V.iload_n (pc := 236) dX12_partsInto_236 rfl ?_
        refine V.aload_n (pc := 237) dX12_partsInto_237 rfl ?_
        refine V.getI (pc := 238) dX12_partsInto_238 f_RX12_215 k_cl12 lx_44 ly_44 rb_12_22 ?_
        rcases ite_e h with ⟨c, h⟩ | ⟨c, h⟩
        · refine V.icmp_lt_t (t := 248) (pc := 241) dX12_partsInto_241 (by decide) c ?_
          refine V.iconst (pc := 248) dX12_partsInto_248 ic_0 ?_
          obtain ⟨rfl, rfl⟩ := Prod.mk.inj (Option.some.inj h)
          exact V.zret (pc := 249) dX12_partsInto_249 rfl (Or.inl rfl) (Nat.le_refl _) (Nat.le_refl _)
        · refine V.icmp_lt_f (t := 248) (pc := 241) dX12_partsInto_241 (by decide) c ?_
          refine V.iconst (pc := 244) dX12_partsInto_244 ic_1 ?_
          refine V.goto (t := 249) (pc := 245) dX12_partsInto_245 (by decide) ?_
          obtain ⟨rfl, rfl⟩ := Prod.mk.inj (Option.some.inj h)
          exact V.zret (pc := 249) dX12_partsInto_249 rfl (Or.inr rfl) (Nat.le_refl _) (Nat.le_refl _)
      · refine V.icmp_ge_f (t := 236) (pc := 62) dX12_partsInto_62 (by decide) c ?_
        refine V.iconst (pc := 65) dX12_partsInto_65 ic_1 ?_
        refine V.aload_n (pc := 66) dX12_partsInto_66 rfl ?_
        refine V.getR (t := 61) (pc := 67) dX12_partsInto_67 f_RX12_63 k_cl12 lx_44 ly_44 rb_12_21 rr_44_21 ?_
        refine V.iload_n (pc := 70) dX12_partsInto_70 rfl ?_
        obtain ⟨x1, ix1, ex1, h⟩ := rdI_e h
        refine V.ialdX (pc := 71) dX12_partsInto_71 lx_61 ly_61 ix1 ex1 ?_
        refine V.ishl (pc := 72) dX12_partsInto_72 ?_
        refine V.istore_n (lv' := [some (.ref 44), some (.int l1), some (.int l2), some (.int (1 <<< (x1 &&& 31))), none]) (pc := 73) dX12_partsInto_73 (Nat.le_of_ble_eq_true rfl) rfl rfl ?_
        refine V.aload_n (pc := 74) dX12_partsInto_74 rfl ?_
        refine V.getR (t := 58) (pc := 75) dX12_partsInto_75 f_RX12_54 k_cl12 lx_44 ly_44 rb_12_18 rr_44_18 ?_
        refine V.iload_n (pc := 78) dX12_partsInto_78 rfl ?_
        obtain ⟨x2, ix2, ex2, h⟩ := rdI_e h
        refine V.ialdX (pc := 79) dX12_partsInto_79 lx_58 ly_58 ix2 ex2 ?_
        rcases ite_e h with ⟨c, h⟩ | ⟨c, h⟩
        · refine V.if_lt_t (t := 100) (pc := 80) dX12_partsInto_80 (by decide) c ?_
          refine V.aload_n (pc := 100) dX12_partsInto_100 rfl ?_
          refine V.getR (t := 58) (pc := 101) dX12_partsInto_101 f_RX12_54 k_cl12 lx_44 ly_44 rb_12_18 rr_44_18 ?_
          refine V.iload_n (pc := 104) dX12_partsInto_104 rfl ?_
          obtain ⟨x3, ix3, ex3, h⟩ := rdI_e h
          refine V.ialdX (pc := 105) dX12_partsInto_105 lx_58 ly_58 ix3 ex3 ?_
          refine V.iconst (pc := 106) dX12_partsInto_106 ic_1 ?_
          refine V.iadd (pc := 107) dX12_partsInto_107 ?_
          refine V.istore (lv' := [some (.ref 44), some (.int l1), some (.int l2), some (.int (1 <<< (x1 &&& 31))), some (.int (x3 + 1))]) (pc := 108) dX12_partsInto_108 (Nat.le_of_ble_eq_true rfl) rfl rfl ?_
          exact t_X12_partsInto_L110 hd h53 FU l1 l2 (1 <<< (x1 &&& 31)) (x3 + 1) w _ _ h
        · refine V.if_lt_f (t := 100) (pc := 80) dX12_partsInto_80 (by decide) c ?_
          refine V.aload_n (pc := 83) dX12_partsInto_83 rfl ?_
          refine V.getR (t := 59) (pc := 84) dX12_partsInto_84 f_RX12_57 k_cl12 lx_44 ly_44 rb_12_19 rr_44_19 ?_
          refine V.aload_n (pc := 87) dX12_partsInto_87 rfl ?_
          refine V.getR (t := 58) (pc := 88) dX12_partsInto_88 f_RX12_54 k_cl12 lx_44 ly_44 rb_12_18 rr_44_18 ?_
          refine V.iload_n (pc := 91) dX12_partsInto_91 rfl ?_
          obtain ⟨x4, ix4, ex4, h⟩ := rdI_e h
          refine V.ialdX (pc := 92) dX12_partsInto_92 lx_58 ly_58 ix4 ex4 ?_
          refine V.dup2 (pc := 93) dX12_partsInto_93 rfl rfl ?_
          obtain ⟨x5, ix5, ex5, h⟩ := rdI_e h
          refine V.ialdX (pc := 94) dX12_partsInto_94 lx_59 ly_59 ix5 ex5 ?_
          refine V.iload_n (pc := 95) dX12_partsInto_95 rfl ?_
          refine V.iconst (pc := 96) dX12_partsInto_96 ic_m1 ?_
          refine V.ixor (pc := 97) dX12_partsInto_97 ?_
          refine V.iand (pc := 98) dX12_partsInto_98 ?_
          obtain ⟨w6, iw6, ew6, h⟩ := wrI_e h
          refine V.iastX (pc := 99) dX12_partsInto_99 lx_59 ly_59 iw6 ew6 ?_
          refine V.aload_n (pc := 100) dX12_partsInto_100 rfl ?_
          refine V.getR (t := 58) (pc := 101) dX12_partsInto_101 f_RX12_54 k_cl12 lx_44 ly_44 rb_12_18 rr_44_18 ?_
          refine V.iload_n (pc := 104) dX12_partsInto_104 rfl ?_
          obtain ⟨x7, ix7, ex7, h⟩ := rdI_e h
          refine V.ialdX (pc := 105) dX12_partsInto_105 lx_58 ly_58 ix7 ex7 ?_
          refine V.iconst (pc := 106) dX12_partsInto_106 ic_1 ?_
          refine V.iadd (pc := 107) dX12_partsInto_107 ?_
          refine V.istore (lv' := [some (.ref 44), some (.int l1), some (.int l2), some (.int (1 <<< (x1 &&& 31))), some (.int (x7 + 1))]) (pc := 108) dX12_partsInto_108 (Nat.le_of_ble_eq_true rfl) rfl rfl ?_
          exact t_X12_partsInto_L110 hd h53 FU l1 l2 (1 <<< (x1 &&& 31)) (x7 + 1) w6 _ _ h
def f_X12_partsInto_B23b (k23 : Int32 → Int32 → Wd → Option (Int32 × Wd)) (l1 : Int32) (l2 : Int32) (w : Wd) : Option (Int32 × Wd) :=
  if (w.1 44 22) ≤ l2 then
    wrI w 60 17 0 0 fun w1 =>
    f_X12_partsInto_L53  FU l1 0 w1
  else
    wrI w 58 16 l2 (-1) fun w2 =>
    k23 l1 (l2 + 1) w2
def f_X12_partsInto_L23 (n : Nat) : Int32 → Int32 → Wd → Option (Int32 × Wd) :=
  Nat.rec (fun _ _ _ => none) (fun _ k => f_X12_partsInto_B23b k) n
set_option maxHeartbeats 4000000 in
set_option maxRecDepth 100000 in
theorem t_X12_partsInto_L23 {G : GT} {d : Nat} (hd : 2 ≤ d + 1)  : ∀ (n : Nat) (l1 : Int32) (l2 : Int32) (w : Wd) (r : Int32) (w' : Wd), f_X12_partsInto_L23 n l1 l2 w = some (r, w') → U (vf G mX12_partsInto (d + 1)) 23 [some (.ref 44), some (.int l1), some (.int l2), none, none] [] w (some (.int r), 70, r0, w') := by
  intro n
  induction n with
  | zero => intro l1 l2 w r w' h; cases h
  | succ n h23 =>
    intro l1 l2 w r w' h
    have h : f_X12_partsInto_B23b (f_X12_partsInto_L23 n) l1 l2 w = some (r, w') := h
    unfold f_X12_partsInto_B23b at h
    refine V.iload_n (pc := 23) dX12_partsInto_23 rfl ?_
    refine V.aload_n (pc := 24) dX12_partsInto_24 rfl ?_
    refine V.getI (pc := 25) dX12_partsInto_25 f_RX12_215 k_cl12 lx_44 ly_44 rb_12_22 ?_
    rcases ite_e h with ⟨c, h⟩ | ⟨c, h⟩
    · refine V.icmp_ge_t (t := 44) (pc := 28) dX12_partsInto_28 (by decide) c ?_
      refine V.aload_n (pc := 44) dX12_partsInto_44 rfl ?_
      refine V.getR (t := 60) (pc := 45) dX12_partsInto_45 f_RX12_60 k_cl12 lx_44 ly_44 rb_12_20 rr_44_20 ?_
      refine V.iconst (pc := 48) dX12_partsInto_48 ic_0 ?_
      refine V.iconst (pc := 49) dX12_partsInto_49 ic_0 ?_
      obtain ⟨w1, iw1, ew1, h⟩ := wrI_e h
      refine V.iastX (pc := 50) dX12_partsInto_50 lx_60 ly_60 iw1 ew1 ?_
      refine V.iconst (pc := 51) dX12_partsInto_51 ic_0 ?_
      refine V.istore_n (lv' := [some (.ref 44), some (.int l1), some (.int 0), none, none]) (pc := 52) dX12_partsInto_52 (Nat.le_of_ble_eq_true rfl) rfl rfl ?_
      exact t_X12_partsInto_L53 hd FU l1 0 w1 _ _ h
    · refine V.icmp_ge_f (t := 44) (pc := 28) dX12_partsInto_28 (by decide) c ?_
      refine V.aload_n (pc := 31) dX12_partsInto_31 rfl ?_
      refine V.getR (t := 58) (pc := 32) dX12_partsInto_32 f_RX12_54 k_cl12 lx_44 ly_44 rb_12_18 rr_44_18 ?_
      refine V.iload_n (pc := 35) dX12_partsInto_35 rfl ?_
      refine V.iconst (pc := 36) dX12_partsInto_36 ic_m1 ?_
      obtain ⟨w2, iw2, ew2, h⟩ := wrI_e h
      refine V.iastX (pc := 37) dX12_partsInto_37 lx_58 ly_58 iw2 ew2 ?_
      refine V.iinc (lv' := [some (.ref 44), some (.int l1), some (.int (l2 + 1)), none, none]) (pc := 38) dX12_partsInto_38 (Nat.le_of_ble_eq_true rfl) rfl rfl (v := (l2 + 1)) (by rw [show Int32.ofInt 1 = 1 from by decide]) rfl ?_
      refine V.goto (t := 23) (pc := 41) dX12_partsInto_41 (by decide) ?_
      exact h23 l1 (l2 + 1) w2 _ _ h
def f_X12_partsInto_B2b (k2 : Int32 → Int32 → Wd → Option (Int32 × Wd)) (l1 : Int32) (l2 : Int32) (w : Wd) : Option (Int32 × Wd) :=
  if 16 ≤ l2 then
    f_X12_partsInto_L23  FU l1 0 w
  else
    wrI w 59 16 l2 0 fun w1 =>
    k2 l1 (l2 + 1) w1
def f_X12_partsInto_L2 (n : Nat) : Int32 → Int32 → Wd → Option (Int32 × Wd) :=
  Nat.rec (fun _ _ _ => none) (fun _ k => f_X12_partsInto_B2b k) n
set_option maxHeartbeats 4000000 in
set_option maxRecDepth 100000 in
theorem t_X12_partsInto_L2 {G : GT} {d : Nat} (hd : 2 ≤ d + 1)  : ∀ (n : Nat) (l1 : Int32) (l2 : Int32) (w : Wd) (r : Int32) (w' : Wd), f_X12_partsInto_L2 n l1 l2 w = some (r, w') → U (vf G mX12_partsInto (d + 1)) 2 [some (.ref 44), some (.int l1), some (.int l2), none, none] [] w (some (.int r), 70, r0, w') := by
  intro n
  induction n with
  | zero => intro l1 l2 w r w' h; cases h
  | succ n h2 =>
    intro l1 l2 w r w' h
    have h : f_X12_partsInto_B2b (f_X12_partsInto_L2 n) l1 l2 w = some (r, w') := h
    unfold f_X12_partsInto_B2b at h
    refine V.iload_n (pc := 2) dX12_partsInto_2 rfl ?_
    refine V.bipush (pc := 3) dX12_partsInto_3 bp_16 ?_
    rcases ite_e h with ⟨c, h⟩ | ⟨c, h⟩
    · refine V.icmp_ge_t (t := 21) (pc := 5) dX12_partsInto_5 (by decide) c ?_
      refine V.iconst (pc := 21) dX12_partsInto_21 ic_0 ?_
      refine V.istore_n (lv' := [some (.ref 44), some (.int l1), some (.int 0), none, none]) (pc := 22) dX12_partsInto_22 (Nat.le_of_ble_eq_true rfl) rfl rfl ?_
      exact t_X12_partsInto_L23 hd FU l1 0 w _ _ h
    · refine V.icmp_ge_f (t := 21) (pc := 5) dX12_partsInto_5 (by decide) c ?_
      refine V.aload_n (pc := 8) dX12_partsInto_8 rfl ?_
      refine V.getR (t := 59) (pc := 9) dX12_partsInto_9 f_RX12_57 k_cl12 lx_44 ly_44 rb_12_19 rr_44_19 ?_
      refine V.iload_n (pc := 12) dX12_partsInto_12 rfl ?_
      refine V.iconst (pc := 13) dX12_partsInto_13 ic_0 ?_
      obtain ⟨w1, iw1, ew1, h⟩ := wrI_e h
      refine V.iastX (pc := 14) dX12_partsInto_14 lx_59 ly_59 iw1 ew1 ?_
      refine V.iinc (lv' := [some (.ref 44), some (.int l1), some (.int (l2 + 1)), none, none]) (pc := 15) dX12_partsInto_15 (Nat.le_of_ble_eq_true rfl) rfl rfl (v := (l2 + 1)) (by rw [show Int32.ofInt 1 = 1 from by decide]) rfl ?_
      refine V.goto (t := 2) (pc := 18) dX12_partsInto_18 (by decide) ?_
      exact h2 l1 (l2 + 1) w1 _ _ h
def f_X12_partsInto (l1 : Int32) (w : Wd) : Option (Int32 × Wd) :=
  f_X12_partsInto_L2  FU l1 0 w
set_option maxHeartbeats 4000000 in
set_option maxRecDepth 100000 in
theorem ok_X12_partsInto {G : GT} {d : Nat} (hd : 2 ≤ d) {w : Wd} (l1 : Int32) {r : Int32} {w' : Wd} (h : f_X12_partsInto l1 w = some (r, w')) : uC G yX12_partsInto mX12_partsInto d [.ref 44, .int l1] w (some (.int r)) w' := by
  obtain ⟨d, rfl⟩ : ∃ e, d = e + 1 := ⟨d - 1, by omega⟩
  unfold f_X12_partsInto at h
  refine uC_of (lv := [some (.ref 44), some (.int l1), none, none, none]) 3 pn_X12 ⟨rfl, rfl⟩ (Nat.le_of_ble_eq_true rfl) rfl ?_
  refine V.iconst (pc := 0) dX12_partsInto_0 ic_0 ?_
  refine V.istore_n (lv' := [some (.ref 44), some (.int l1), some (.int 0), none, none]) (pc := 1) dX12_partsInto_1 (Nat.le_of_ble_eq_true rfl) rfl rfl ?_
  exact t_X12_partsInto_L2 hd FU l1 0 w _ _ h
