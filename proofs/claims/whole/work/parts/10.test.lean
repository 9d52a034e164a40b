theorem dX4_times_0 : decode cX4_times 0 = .ok (.aload_n 0, 1) := by decide +kernel
theorem dX4_times_1 : decode cX4_times 1 = .ok (.getfield 18, 3) := by decide +kernel
theorem dX4_times_4 : decode cX4_times 4 = .ok (.iload_n 1, 1) := by decide +kernel
theorem dX4_times_5 : decode cX4_times 5 = .ok (.bipush 15, 2) := by decide +kernel
theorem dX4_times_7 : decode cX4_times 7 = .ok (.iand, 1) := by decide +kernel
theorem dX4_times_8 : decode cX4_times 8 = .ok (.bipush 16, 2) := by decide +kernel
theorem dX4_times_10 : decode cX4_times 10 = .ok (.imul, 1) := by decide +kernel
theorem dX4_times_11 : decode cX4_times 11 = .ok (.iload_n 2, 1) := by decide +kernel
theorem dX4_times_12 : decode cX4_times 12 = .ok (.bipush 15, 2) := by decide +kernel
theorem dX4_times_14 : decode cX4_times 14 = .ok (.iand, 1) := by decide +kernel
theorem dX4_times_15 : decode cX4_times 15 = .ok (.iadd, 1) := by decide +kernel
theorem dX4_times_16 : decode cX4_times 16 = .ok (.iaload, 1) := by decide +kernel
theorem dX4_times_17 : decode cX4_times 17 = .ok (.ireturn, 1) := by decide +kernel
def f_X4_times (l1 : Int32) (l2 : Int32) (w : Wd) : Option Int32 :=
  rdI w 9 256 (((l1 &&& 15) * 16) + (l2 &&& 15)) fun x1 =>
  some x1
set_option maxHeartbeats 4000000 in
set_option maxRecDepth 100000 in
theorem ok_X4_times {G : GT} {d : Nat} (hd : 0 ≤ d) {w : Wd} (l1 : Int32) (l2 : Int32) {r : Int32} (h : f_X4_times l1 l2 w = some r) : uC G yX4_times mX4_times d [.ref 6, .int l1, .int l2] w (some (.int r)) w := by
  unfold f_X4_times at h
  refine uC_of (lv := [some (.ref 6), some (.int l1), some (.int l2)]) 0 pn_X4 ⟨rfl, rfl⟩ (Nat.le_of_ble_eq_true rfl) rfl ?_
  refine V.aload_n (pc := 0) dX4_times_0 rfl ?_
  refine V.getR (t := 9) (pc := 1) dX4_times_1 f_RX4_18 k_cl4 lt_6 ly_6 rb_4_2 rr_6_2 ?_
  refine V.iload_n (pc := 4) dX4_times_4 rfl ?_
  refine V.bipush (pc := 5) dX4_times_5 bp_15 ?_
  refine V.iand (pc := 7) dX4_times_7 ?_
  refine V.bipush (pc := 8) dX4_times_8 bp_16 ?_
  refine V.imul (pc := 10) dX4_times_10 ?_
  refine V.iload_n (pc := 11) dX4_times_11 rfl ?_
  refine V.bipush (pc := 12) dX4_times_12 bp_15 ?_
  refine V.iand (pc := 14) dX4_times_14 ?_
  refine V.iadd (pc := 15) dX4_times_15 ?_
  obtain ⟨x1, ix1, ex1, h⟩ := rdI_e h
  refine V.ialdX (pc := 16) dX4_times_16 lt_9 ly_9 ix1 ex1 ?_
  cases h
  exact V.iret (pc := 17) dX4_times_17 rfl (Nat.le_refl _) (Nat.le_refl _)

theorem dX4_moved_0 : decode cX4_moved 0 = .ok (.iconst 0, 1) := by decide +kernel
theorem dX4_moved_1 : decode cX4_moved 1 = .ok (.istore 4, 2) := by decide +kernel
theorem dX4_moved_3 : decode cX4_moved 3 = .ok (.iconst 0, 1) := by decide +kernel
theorem dX4_moved_4 : decode cX4_moved 4 = .ok (.istore 5, 2) := by decide +kernel
theorem dX4_moved_6 : decode cX4_moved 6 = .ok (.iload 5, 2) := by decide +kernel
theorem dX4_moved_8 : decode cX4_moved 8 = .ok (.aload_n 0, 1) := by decide +kernel
theorem dX4_moved_9 : decode cX4_moved 9 = .ok (.getfield 30, 3) := by decide +kernel
theorem dX4_moved_12 : decode cX4_moved 12 = .ok (.if_icmp .ge 46, 3) := by decide +kernel
theorem dX4_moved_15 : decode cX4_moved 15 = .ok (.iload_n 2, 1) := by decide +kernel
theorem dX4_moved_16 : decode cX4_moved 16 = .ok (.iload 5, 2) := by decide +kernel
theorem dX4_moved_18 : decode cX4_moved 18 = .ok (.ishr, 1) := by decide +kernel
theorem dX4_moved_19 : decode cX4_moved 19 = .ok (.iconst 1, 1) := by decide +kernel
theorem dX4_moved_20 : decode cX4_moved 20 = .ok (.iand, 1) := by decide +kernel
theorem dX4_moved_21 : decode cX4_moved 21 = .ok (.ifCond .eq 31, 3) := by decide +kernel
theorem dX4_moved_24 : decode cX4_moved 24 = .ok (.iload 4, 2) := by decide +kernel
theorem dX4_moved_26 : decode cX4_moved 26 = .ok (.iconst 1, 1) := by decide +kernel
theorem dX4_moved_27 : decode cX4_moved 27 = .ok (.iload_n 3, 1) := by decide +kernel
theorem dX4_moved_28 : decode cX4_moved 28 = .ok (.ifCond .eq 13, 3) := by decide +kernel
theorem dX4_moved_31 : decode cX4_moved 31 = .ok (.aload_n 0, 1) := by decide +kernel
theorem dX4_moved_32 : decode cX4_moved 32 = .ok (.iload_n 1, 1) := by decide +kernel
theorem dX4_moved_33 : decode cX4_moved 33 = .ok (.iload 5, 2) := by decide +kernel
theorem dX4_moved_35 : decode cX4_moved 35 = .ok (.invokevirtual 58, 3) := by decide +kernel
theorem dX4_moved_38 : decode cX4_moved 38 = .ok (.goto 10, 3) := by decide +kernel
theorem dX4_moved_41 : decode cX4_moved 41 = .ok (.aload_n 0, 1) := by decide +kernel
theorem dX4_moved_42 : decode cX4_moved 42 = .ok (.iload 5, 2) := by decide +kernel
theorem dX4_moved_44 : decode cX4_moved 44 = .ok (.iload_n 1, 1) := by decide +kernel
theorem dX4_moved_45 : decode cX4_moved 45 = .ok (.invokevirtual 58, 3) := by decide +kernel
theorem dX4_moved_48 : decode cX4_moved 48 = .ok (.ishl, 1) := by decide +kernel
theorem dX4_moved_49 : decode cX4_moved 49 = .ok (.ior, 1) := by decide +kernel
theorem dX4_moved_50 : decode cX4_moved 50 = .ok (.istore 4, 2) := by decide +kernel
theorem dX4_moved_52 : decode cX4_moved 52 = .ok (.iinc 5 1, 3) := by decide +kernel
theorem dX4_moved_55 : decode cX4_moved 55 = .ok (.goto (-49), 3) := by decide +kernel
theorem dX4_moved_58 : decode cX4_moved 58 = .ok (.iload 4, 2) := by decide +kernel
theorem dX4_moved_60 : decode cX4_moved 60 = .ok (.ireturn, 1) := by decide +kernel
def f_X4_moved_B6b (k6 : Int32 → Int32 → Int32 → Int32 → Int32 → Wd → Option Int32) (l1 : Int32) (l2 : Int32) (l3 : Int32) (l4 : Int32) (l5 : Int32) (w : Wd) : Option Int32 :=
  if (w.1 6 7) ≤ l5 then
    some l4
  else
    if ((l2 >>> (l5 &&& 31)) &&& 1) = 0 then
      k6 l1 l2 l3 l4 (l5 + 1) w
    else
      if l3 = 0 then
        bnd (f_X4_times l5 l1 w) fun x1 =>
        k6 l1 l2 l3 (l4 ||| (1 <<< (x1 &&& 31))) (l5 + 1) w
      else
        bnd (f_X4_times l1 l5 w) fun x2 =>
        k6 l1 l2 l3 (l4 ||| (1 <<< (x2 &&& 31))) (l5 + 1) w
def f_X4_moved_L6 (n : Nat) : Int32 → Int32 → Int32 → Int32 → Int32 → Wd → Option Int32 :=
  Nat.rec (fun _ _ _ _ _ _ => none) (fun _ k => f_X4_moved_B6b k) n
set_option maxHeartbeats 4000000 in
set_option maxRecDepth 100000 in
theorem t_X4_moved_L6 {G : GT} {d : Nat} {w : Wd} (hd : 1 ≤ d + 1)  : ∀ (n : Nat) (l1 : Int32) (l2 : Int32) (l3 : Int32) (l4 : Int32) (l5 : Int32) (r : Int32), f_X4_moved_L6 n l1 l2 l3 l4 l5 w = some r → U (vf G mX4_moved (d + 1)) 6 [some (.ref 6), some (.int l1), some (.int l2), some (.int l3), some (.int l4), some (.int l5)] [] w (some (.int r), 70, r0, w) := by
  intro n
  induction n with
  | zero => intro l1 l2 l3 l4 l5 r h; cases h
  | succ n h6 =>
    intro l1 l2 l3 l4 l5 r h
    have h : f_X4_moved_B6b (f_X4_moved_L6 n) l1 l2 l3 l4 l5 w = some r := h
    unfold f_X4_moved_B6b at h
    refine V.iload (pc := 6) dX4_moved_6 rfl ?_
    refine V.aload_n (pc := 8) dX4_moved_8 rfl ?_
    refine V.getI (pc := 9) dX4_moved_9 f_RX4_30 k_cl4 lt_6 ly_6 rb_4_7 ?_
    rcases ite_e h with ⟨c, h⟩ | ⟨c, h⟩
    · refine V.icmp_ge_t (t := 58) (pc := 12) dX4_moved_12 (by decide) c ?_
      refine V.iload (pc := 58) dX4_moved_58 rfl ?_
      cases h
      exact V.iret (pc := 60) dX4_moved_60 rfl (Nat.le_refl _) (Nat.le_refl _)
    · refine V.icmp_ge_f (t := 58) (pc := 12) dX4_moved_12 (by decide) c ?_
      refine V.iload_n (pc := 15) dX4_moved_15 rfl ?_
      refine V.iload (pc := 16) dX4_moved_16 rfl ?_
      refine V.ishr (pc := 18) dX4_moved_18 ?_
      refine V.iconst (pc := 19) dX4_moved_19 ic_1 ?_
      refine V.iand (pc := 20) dX4_moved_20 ?_
      rcases ite_e h with ⟨c, h⟩ | ⟨c, h⟩
      · refine V.if_eq_t (t := 52) (pc := 21) dX4_moved_21 (by decide) c ?_
        refine V.iinc (lv' := [some (.ref 6), some (.int l1), some (.int l2), some (.int l3), some (.int l4), some (.int (l5 + 1))]) (pc := 52) dX4_moved_52 (Nat.le_of_ble_eq_true rfl) rfl rfl (v := (l5 + 1)) (by rw [show Int32.ofInt 1 = 1 from by decide]) rfl ?_
        refine V.goto (t := 6) (pc := 55) dX4_moved_55 (by decide) ?_
        exact h6 l1 l2 l3 l4 (l5 + 1) _ h
      · refine V.if_eq_f (t := 52) (pc := 21) dX4_moved_21 (by decide) c ?_
        refine V.iload (pc := 24) dX4_moved_24 rfl ?_
        refine V.iconst (pc := 26) dX4_moved_26 ic_1 ?_
        refine V.iload_n (pc := 27) dX4_moved_27 rfl ?_
        rcases ite_e h with ⟨c, h⟩ | ⟨c, h⟩
        · refine V.if_eq_t (t := 41) (pc := 28) dX4_moved_28 (by decide) c ?_
          refine V.aload_n (pc := 41) dX4_moved_41 rfl ?_
          refine V.iload (pc := 42) dX4_moved_42 rfl ?_
          refine V.iload_n (pc := 44) dX4_moved_44 rfl ?_
          obtain ⟨x1, ex1, h⟩ := bnd_e h
          refine U.callV (pc := 45) (As := [.int l5, .int l1]) (st := [.int 1, .int l4]) dX4_moved_45 l_RX4_58 (ok_X4_times (by omega) l5 l1 ex1) lt_6 ly_6 cn_4 (Nat.le_of_ble_eq_true rfl) rfl rfl (Nat.le_of_ble_eq_true rfl) ?_
          refine V.ishl (pc := 48) dX4_moved_48 ?_
          refine V.ior (pc := 49) dX4_moved_49 ?_
          refine V.istore (lv' := [some (.ref 6), some (.int l1), some (.int l2), some (.int l3), some (.int (l4 ||| (1 <<< (x1 &&& 31)))), some (.int l5)]) (pc := 50) dX4_moved_50 (Nat.le_of_ble_eq_true rfl) rfl rfl ?_
          refine V.iinc (lv' := [some (.ref 6), some (.int l1), some (.int l2), some (.int l3), some (.int (l4 ||| (1 <<< (x1 &&& 31)))), some (.int (l5 + 1))]) (pc := 52) dX4_moved_52 (Nat.le_of_ble_eq_true rfl) rfl rfl (v := (l5 + 1)) (by rw [show Int32.ofInt 1 = 1 from by decide]) rfl ?_
          refine V.goto (t := 6) (pc := 55) dX4_moved_55 (by decide) ?_
          exact h6 l1 l2 l3 (l4 ||| (1 <<< (x1 &&& 31))) (l5 + 1) _ h
        · refine V.if_eq_f (t := 41) (pc := 28) dX4_moved_28 (by decide) c ?_
          refine V.aload_n (pc := 31) dX4_moved_31 rfl ?_
          refine V.iload_n (pc := 32) dX4_moved_32 rfl ?_
          refine V.iload (pc := 33) dX4_moved_33 rfl ?_
          obtain ⟨x2, ex2, h⟩ := bnd_e h
          refine U.callV (pc := 35) (As := [.int l1, .int l5]) (st := [.int 1, .int l4]) dX4_moved_35 l_RX4_58 (ok_X4_times (by omega) l1 l5 ex2) lt_6 ly_6 cn_4 (Nat.le_of_ble_eq_true rfl) rfl rfl (Nat.le_of_ble_eq_true rfl) ?_
          refine V.goto (t := 48) (pc := 38) dX4_moved_38 (by decide) ?_
          refine V.ishl (pc := 48) dX4_moved_48 ?_
          refine V.ior (pc := 49) dX4_moved_49 ?_
          refine V.istore (lv' := [some (.ref 6), some (.int l1), some (.int l2), some (.int l3), some (.int (l4 ||| (1 <<< (x2 &&& 31)))), some (.int l5)]) (pc := 50) dX4_moved_50 (Nat.le_of_ble_eq_true rfl) rfl rfl ?_
          refine V.iinc (lv' := [some (.ref 6), some (.int l1), some (.int l2), some (.int l3), some (.int (l4 ||| (1 <<< (x2 &&& 31)))), some (.int (l5 + 1))]) (pc := 52) dX4_moved_52 (Nat.le_of_ble_eq_true rfl) rfl rfl (v := (l5 + 1)) (by rw [show Int32.ofInt 1 = 1 from by decide]) rfl ?_
          refine V.goto (t := 6) (pc := 55) dX4_moved_55 (by decide) ?_
          exact h6 l1 l2 l3 (l4 ||| (1 <<< (x2 &&& 31))) (l5 + 1) _ h
def f_X4_moved (l1 : Int32) (l2 : Int32) (l3 : Int32) (w : Wd) : Option Int32 :=
  f_X4_moved_L6  FU l1 l2 l3 0 0 w
set_option maxHeartbeats 4000000 in
set_option maxRecDepth 100000 in
theorem ok_X4_moved {G : GT} {d : Nat} (hd : 1 ≤ d) {w : Wd} (l1 : Int32) (l2 : Int32) (l3 : Int32) {r : Int32} (h : f_X4_moved l1 l2 l3 w = some r) : uC G yX4_moved mX4_moved d [.ref 6, .int l1, .int l2, .int l3] w (some (.int r)) w := by
  obtain ⟨d, rfl⟩ : ∃ e, d = e + 1 := ⟨d - 1, by omega⟩
  unfold f_X4_moved at h
  refine uC_of (lv := [some (.ref 6), some (.int l1), some (.int l2), some (.int l3), none, none]) 2 pn_X4 ⟨rfl, rfl⟩ (Nat.le_of_ble_eq_true rfl) rfl ?_
  refine V.iconst (pc := 0) dX4_moved_0 ic_0 ?_
  refine V.istore (lv' := [some (.ref 6), some (.int l1), some (.int l2), some (.int l3), some (.int 0), none]) (pc := 1) dX4_moved_1 (Nat.le_of_ble_eq_true rfl) rfl rfl ?_
  refine V.iconst (pc := 3) dX4_moved_3 ic_0 ?_
  refine V.istore (lv' := [some (.ref 6), some (.int l1), some (.int l2), some (.int l3), some (.int 0), some (.int 0)]) (pc := 4) dX4_moved_4 (Nat.le_of_ble_eq_true rfl) rfl rfl ?_
  exact t_X4_moved_L6 hd FU l1 l2 l3 0 0 _ h

theorem dX4_inverseOf_0 : decode cX4_inverseOf 0 = .ok (.aload_n 0, 1) := by decide +kernel
theorem dX4_inverseOf_1 : decode cX4_inverseOf 1 = .ok (.getfield 21, 3) := by decide +kernel
theorem dX4_inverseOf_4 : decode cX4_inverseOf 4 = .ok (.iload_n 1, 1) := by decide +kernel
theorem dX4_inverseOf_5 : decode cX4_inverseOf 5 = .ok (.bipush 15, 2) := by decide +kernel
theorem dX4_inverseOf_7 : decode cX4_inverseOf 7 = .ok (.iand, 1) := by decide +kernel
theorem dX4_inverseOf_8 : decode cX4_inverseOf 8 = .ok (.iaload, 1) := by decide +kernel
theorem dX4_inverseOf_9 : decode cX4_inverseOf 9 = .ok (.ireturn, 1) := by decide +kernel
def f_X4_inverseOf (l1 : Int32) (w : Wd) : Option Int32 :=
  rdI w 10 16 (l1 &&& 15) fun x1 =>
  some x1
set_option maxHeartbeats 4000000 in
set_option maxRecDepth 100000 in
theorem ok_X4_inverseOf {G : GT} {d : Nat} (hd : 0 ≤ d) {w : Wd} (l1 : Int32) {r : Int32} (h : f_X4_inverseOf l1 w = some r) : uC G yX4_inverseOf mX4_inverseOf d [.ref 6, .int l1] w (some (.int r)) w := by
  unfold f_X4_inverseOf at h
  refine uC_of (lv := [some (.ref 6), some (.int l1)]) 0 pn_X4 ⟨rfl, rfl⟩ (Nat.le_of_ble_eq_true rfl) rfl ?_
  refine V.aload_n (pc := 0) dX4_inverseOf_0 rfl ?_
  refine V.getR (t := 10) (pc := 1) dX4_inverseOf_1 f_RX4_21 k_cl4 lt_6 ly_6 rb_4_3 rr_6_3 ?_
  refine V.iload_n (pc := 4) dX4_inverseOf_4 rfl ?_
  refine V.bipush (pc := 5) dX4_inverseOf_5 bp_15 ?_
  refine V.iand (pc := 7) dX4_inverseOf_7 ?_
  obtain ⟨x1, ix1, ex1, h⟩ := rdI_e h
  refine V.ialdX (pc := 8) dX4_inverseOf_8 lt_10 ly_10 ix1 ex1 ?_
  cases h
  exact V.iret (pc := 9) dX4_inverseOf_9 rfl (Nat.le_refl _) (Nat.le_refl _)

theorem dX4_holds_0 : decode cX4_holds 0 = .ok (.iload_n 1, 1) := by decide +kernel
theorem dX4_holds_1 : decode cX4_holds 1 = .ok (.ifCond .lt 15, 3) := by decide +kernel
theorem dX4_holds_4 : decode cX4_holds 4 = .ok (.iload_n 1, 1) := by decide +kernel
theorem dX4_holds_5 : decode cX4_holds 5 = .ok (.aload_n 0, 1) := by decide +kernel
theorem dX4_holds_6 : decode cX4_holds 6 = .ok (.getfield 30, 3) := by decide +kernel
theorem dX4_holds_9 : decode cX4_holds 9 = .ok (.if_icmp .ge 7, 3) := by decide +kernel
theorem dX4_holds_12 : decode cX4_holds 12 = .ok (.iconst 1, 1) := by decide +kernel
theorem dX4_holds_13 : decode cX4_holds 13 = .ok (.goto 4, 3) := by decide +kernel
theorem dX4_holds_16 : decode cX4_holds 16 = .ok (.iconst 0, 1) := by decide +kernel
theorem dX4_holds_17 : decode cX4_holds 17 = .ok (.ireturn, 1) := by decide +kernel
def f_X4_holds (l1 : Int32) (w : Wd) : Int32 :=
  if l1 < 0 then
    (0 : Int32)
  else
    if (w.1 6 7) ≤ l1 then
      (0 : Int32)
    else
      (1 : Int32)
set_option maxHeartbeats 4000000 in
set_option maxRecDepth 100000 in
theorem ok_X4_holds {G : GT} {d : Nat} (hd : 0 ≤ d) {w : Wd} (l1 : Int32) : uC G yX4_holds mX4_holds d [.ref 6, .int l1] w (some (.int (f_X4_holds l1 w))) w := by
  suffices key : ∀ r, f_X4_holds l1 w = r → uC G yX4_holds mX4_holds d [.ref 6, .int l1] w (some (.int r)) w from key _ rfl
  intro r h
  unfold f_X4_holds at h
  refine uC_of (lv := [some (.ref 6), some (.int l1)]) 0 pn_X4 ⟨rfl, rfl⟩ (Nat.le_of_ble_eq_true rfl) rfl ?_
  refine V.iload_n (pc := 0) dX4_holds_0 rfl ?_
  rcases ite_e h with ⟨c, h⟩ | ⟨c, h⟩
  · refine V.if_lt_t (t := 16) (pc := 1) dX4_holds_1 (by decide) c ?_
    refine V.iconst (pc := 16) dX4_holds_16 ic_0 ?_
    subst h
    exact V.zret (pc := 17) dX4_holds_17 rfl (Or.inl rfl) (Nat.le_refl _) (Nat.le_refl _)
  · refine V.if_lt_f (t := 16) (pc := 1) dX4_holds_1 (by decide) c ?_
    refine V.iload_n (pc := 4) dX4_holds_4 rfl ?_
    refine V.aload_n (pc := 5) dX4_holds_5 rfl ?_
    refine V.getI (pc := 6) dX4_holds_6 f_RX4_30 k_cl4 lt_6 ly_6 rb_4_7 ?_
    rcases ite_e h with ⟨c, h⟩ | ⟨c, h⟩
    · refine V.icmp_ge_t (t := 16) (pc := 9) dX4_holds_9 (by decide) c ?_
      refine V.iconst (pc := 16) dX4_holds_16 ic_0 ?_
      subst h
      exact V.zret (pc := 17) dX4_holds_17 rfl (Or.inl rfl) (Nat.le_refl _) (Nat.le_refl _)
    · refine V.icmp_ge_f (t := 16) (pc := 9) dX4_holds_9 (by decide) c ?_
      refine V.iconst (pc := 12) dX4_holds_12 ic_1 ?_
      refine V.goto (t := 17) (pc := 13) dX4_holds_13 (by decide) ?_
      subst h
      exact V.zret (pc := 17) dX4_holds_17 rfl (Or.inr rfl) (Nat.le_refl _) (Nat.le_refl _)
theorem b_X4_holds (l1 : Int32) (w : Wd) : f_X4_holds l1 w = 0 ∨ f_X4_holds l1 w = 1 := by
  unfold f_X4_holds
  repeat' (first | exact Or.inl rfl | exact Or.inr rfl | apply b_tree)
  all_goals first | exact Or.inl rfl | exact Or.inr rfl | assumption

theorem dX4_holdsSet_0 : decode cX4_holdsSet 0 = .ok (.iload_n 1, 1) := by decide +kernel
theorem dX4_holdsSet_1 : decode cX4_holdsSet 1 = .ok (.aload_n 0, 1) := by decide +kernel
theorem dX4_holdsSet_2 : decode cX4_holdsSet 2 = .ok (.getfield 52, 3) := by decide +kernel
theorem dX4_holdsSet_5 : decode cX4_holdsSet 5 = .ok (.iconst (-1), 1) := by decide +kernel
theorem dX4_holdsSet_6 : decode cX4_holdsSet 6 = .ok (.ixor, 1) := by decide +kernel
theorem dX4_holdsSet_7 : decode cX4_holdsSet 7 = .ok (.iand, 1) := by decide +kernel
theorem dX4_holdsSet_8 : decode cX4_holdsSet 8 = .ok (.ifCond .ne 7, 3) := by decide +kernel
theorem dX4_holdsSet_11 : decode cX4_holdsSet 11 = .ok (.iconst 1, 1) := by decide +kernel
theorem dX4_holdsSet_12 : decode cX4_holdsSet 12 = .ok (.goto 4, 3) := by decide +kernel
theorem dX4_holdsSet_15 : decode cX4_holdsSet 15 = .ok (.iconst 0, 1) := by decide +kernel
theorem dX4_holdsSet_16 : decode cX4_holdsSet 16 = .ok (.ireturn, 1) := by decide +kernel
def f_X4_holdsSet (l1 : Int32) (w : Wd) : Int32 :=
  if (l1 &&& ((w.1 6 8) ^^^ (-1))) = 0 then
    (1 : Int32)
  else
    (0 : Int32)
set_option maxHeartbeats 4000000 in
set_option maxRecDepth 100000 in
theorem ok_X4_holdsSet {G : GT} {d : Nat} (hd : 0 ≤ d) {w : Wd} (l1 : Int32) : uC G yX4_holdsSet mX4_holdsSet d [.ref 6, .int l1] w (some (.int (f_X4_holdsSet l1 w))) w := by
  suffices key : ∀ r, f_X4_holdsSet l1 w = r → uC G yX4_holdsSet mX4_holdsSet d [.ref 6, .int l1] w (some (.int r)) w from key _ rfl
  intro r h
  unfold f_X4_holdsSet at h
  refine uC_of (lv := [some (.ref 6), some (.int l1)]) 0 pn_X4 ⟨rfl, rfl⟩ (Nat.le_of_ble_eq_true rfl) rfl ?_
  refine V.iload_n (pc := 0) dX4_holdsSet_0 rfl ?_
  refine V.aload_n (pc := 1) dX4_holdsSet_1 rfl ?_
  refine V.getI (pc := 2) dX4_holdsSet_2 f_RX4_52 k_cl4 lt_6 ly_6 rb_4_8 ?_
  refine V.iconst (pc := 5) dX4_holdsSet_5 ic_m1 ?_
  refine V.ixor (pc := 6) dX4_holdsSet_6 ?_
  refine V.iand (pc := 7) dX4_holdsSet_7 ?_
  rcases ite_e h with ⟨c, h⟩ | ⟨c, h⟩
  · refine V.if_ne_f (t := 15) (pc := 8) dX4_holdsSet_8 (by decide) c ?_
    refine V.iconst (pc := 11) dX4_holdsSet_11 ic_1 ?_
    refine V.goto (t := 16) (pc := 12) dX4_holdsSet_12 (by decide) ?_
    subst h
    exact V.zret (pc := 16) dX4_holdsSet_16 rfl (Or.inr rfl) (Nat.le_refl _) (Nat.le_refl _)
  · refine V.if_ne_t (t := 15) (pc := 8) dX4_holdsSet_8 (by decide) c ?_
    refine V.iconst (pc := 15) dX4_holdsSet_15 ic_0 ?_
    subst h
    exact V.zret (pc := 16) dX4_holdsSet_16 rfl (Or.inl rfl) (Nat.le_refl _) (Nat.le_refl _)
theorem b_X4_holdsSet (l1 : Int32) (w : Wd) : f_X4_holdsSet l1 w = 0 ∨ f_X4_holdsSet l1 w = 1 := by
  unfold f_X4_holdsSet
  repeat' (first | exact Or.inl rfl | exact Or.inr rfl | apply b_tree)
  all_goals first | exact Or.inl rfl | exact Or.inr rfl | assumption

theorem dX4_isFree_0 : decode cX4_isFree 0 = .ok (.iconst 0, 1) := by decide +kernel
theorem dX4_isFree_1 : decode cX4_isFree 1 = .ok (.istore_n 2, 1) := by decide +kernel
theorem dX4_isFree_2 : decode cX4_isFree 2 = .ok (.iload_n 2, 1) := by decide +kernel
theorem dX4_isFree_3 : decode cX4_isFree 3 = .ok (.aload_n 0, 1) := by decide +kernel
theorem dX4_isFree_4 : decode cX4_isFree 4 = .ok (.getfield 30, 3) := by decide +kernel
theorem dX4_isFree_7 : decode cX4_isFree 7 = .ok (.if_icmp .ge 31, 3) := by decide +kernel
theorem dX4_isFree_10 : decode cX4_isFree 10 = .ok (.iload_n 1, 1) := by decide +kernel
theorem dX4_isFree_11 : decode cX4_isFree 11 = .ok (.iload_n 2, 1) := by decide +kernel
theorem dX4_isFree_12 : decode cX4_isFree 12 = .ok (.ishr, 1) := by decide +kernel
theorem dX4_isFree_13 : decode cX4_isFree 13 = .ok (.iconst 1, 1) := by decide +kernel
theorem dX4_isFree_14 : decode cX4_isFree 14 = .ok (.iand, 1) := by decide +kernel
theorem dX4_isFree_15 : decode cX4_isFree 15 = .ok (.ifCond .eq 17, 3) := by decide +kernel
theorem dX4_isFree_18 : decode cX4_isFree 18 = .ok (.aload_n 0, 1) := by decide +kernel
theorem dX4_isFree_19 : decode cX4_isFree 19 = .ok (.iload_n 2, 1) := by decide +kernel
theorem dX4_isFree_20 : decode cX4_isFree 20 = .ok (.iload_n 1, 1) := by decide +kernel
theorem dX4_isFree_21 : decode cX4_isFree 21 = .ok (.iconst 1, 1) := by decide +kernel
theorem dX4_isFree_22 : decode cX4_isFree 22 = .ok (.invokevirtual 80, 3) := by decide +kernel
theorem dX4_isFree_25 : decode cX4_isFree 25 = .ok (.iload_n 1, 1) := by decide +kernel
theorem dX4_isFree_26 : decode cX4_isFree 26 = .ok (.iand, 1) := by decide +kernel
theorem dX4_isFree_27 : decode cX4_isFree 27 = .ok (.ifCond .eq 5, 3) := by decide +kernel
theorem dX4_isFree_30 : decode cX4_isFree 30 = .ok (.iconst 0, 1) := by decide +kernel
theorem dX4_isFree_31 : decode cX4_isFree 31 = .ok (.ireturn, 1) := by decide +kernel
theorem dX4_isFree_32 : decode cX4_isFree 32 = .ok (.iinc 2 1, 3) := by decide +kernel
theorem dX4_isFree_35 : decode cX4_isFree 35 = .ok (.goto (-33), 3) := by decide +kernel
theorem dX4_isFree_38 : decode cX4_isFree 38 = .ok (.iconst 1, 1) := by decide +kernel
theorem dX4_isFree_39 : decode cX4_isFree 39 = .ok (.ireturn, 1) := by decide +kernel
def f_X4_isFree_B2b (k2 : Int32 → Int32 → Wd → Option Int32) (l1 : Int32) (l2 : Int32) (w : Wd) : Option Int32 :=
  if (w.1 6 7) ≤ l2 then
    some 1
  else
    if ((l1 >>> (l2 &&& 31)) &&& 1) = 0 then
      k2 l1 (l2 + 1) w
    else
      bnd (f_X4_moved l2 l1 1 w) fun x1 =>
      if (x1 &&& l1) = 0 then
        k2 l1 (l2 + 1) w
      else
        some 0
def f_X4_isFree_L2 (n : Nat) : Int32 → Int32 → Wd → Option Int32 :=
  Nat.rec (fun _ _ _ => none) (fun _ k => f_X4_isFree_B2b k) n
set_option maxHeartbeats 4000000 in
set_option maxRecDepth 100000 in
theorem t_X4_isFree_L2 {G : GT} {d : Nat} {w : Wd} (hd : 2 ≤ d + 1)  : ∀ (n : Nat) (l1 : Int32) (l2 : Int32) (r : Int32), f_X4_isFree_L2 n l1 l2 w = some r → U (vf G mX4_isFree (d + 1)) 2 [some (.ref 6), some (.int l1), some (.int l2)] [] w (some (.int r), 70, r0, w) := by
  intro n
  induction n with
  | zero => intro l1 l2 r h; cases h
  | succ n h2 =>
    intro l1 l2 r h
    have h : f_X4_isFree_B2b (f_X4_isFree_L2 n) l1 l2 w = some r := h
    unfold f_X4_isFree_B2b at h
    refine V.iload_n (pc := 2) dX4_isFree_2 rfl ?_
    refine V.aload_n (pc := 3) dX4_isFree_3 rfl ?_
    refine V.getI (pc := 4) dX4_isFree_4 f_RX4_30 k_cl4 lt_6 ly_6 rb_4_7 ?_
    rcases ite_e h with ⟨c, h⟩ | ⟨c, h⟩
    · refine V.icmp_ge_t (t := 38) (pc := 7) dX4_isFree_7 (by decide) c ?_
      refine V.iconst (pc := 38) dX4_isFree_38 ic_1 ?_
      cases h
      exact V.zret (pc := 39) dX4_isFree_39 rfl (Or.inr rfl) (Nat.le_refl _) (Nat.le_refl _)
    · refine V.icmp_ge_f (t := 38) (pc := 7) dX4_isFree_7 (by decide) c ?_
      refine V.iload_n (pc := 10) dX4_isFree_10 rfl ?_
      refine V.iload_n (pc := 11) dX4_isFree_11 rfl ?_
      refine V.ishr (pc := 12) dX4_isFree_12 ?_
      refine V.iconst (pc := 13) dX4_isFree_13 ic_1 ?_
      refine V.iand (pc := 14) dX4_isFree_14 ?_
      rcases ite_e h with ⟨c, h⟩ | ⟨c, h⟩
      · refine V.if_eq_t (t := 32) (pc := 15) dX4_isFree_15 (by decide) c ?_
        refine V.iinc (lv' := [some (.ref 6), some (.int l1), some (.int (l2 + 1))]) (pc := 32) dX4_isFree_32 (Nat.le_of_ble_eq_true rfl) rfl rfl (v := (l2 + 1)) (by rw [show Int32.ofInt 1 = 1 from by decide]) rfl ?_
        refine V.goto (t := 2) (pc := 35) dX4_isFree_35 (by decide) ?_
        exact h2 l1 (l2 + 1) _ h
      · refine V.if_eq_f (t := 32) (pc := 15) dX4_isFree_15 (by decide) c ?_
        refine V.aload_n (pc := 18) dX4_isFree_18 rfl ?_
        refine V.iload_n (pc := 19) dX4_isFree_19 rfl ?_
        refine V.iload_n (pc := 20) dX4_isFree_20 rfl ?_
        refine V.iconst (pc := 21) dX4_isFree_21 ic_1 ?_
        obtain ⟨x1, ex1, h⟩ := bnd_e h
        refine U.callV (pc := 22) (As := [.int l2, .int l1, .int 1]) (st := []) dX4_isFree_22 l_RX4_80 (ok_X4_moved (by omega) l2 l1 1 ex1) lt_6 ly_6 cn_4 (Nat.le_of_ble_eq_true rfl) rfl rfl (Nat.le_of_ble_eq_true rfl) ?_
        refine V.iload_n (pc := 25) dX4_isFree_25 rfl ?_
        refine V.iand (pc := 26) dX4_isFree_26 ?_
        rcases ite_e h with ⟨c, h⟩ | ⟨c, h⟩
        · refine V.if_eq_t (t := 32) (pc := 27) dX4_isFree_27 (by decide) c ?_
          refine V.iinc (lv' := [some (.ref 6), some (.int l1), some (.int (l2 + 1))]) (pc := 32) dX4_isFree_32 (Nat.le_of_ble_eq_true rfl) rfl rfl (v := (l2 + 1)) (by rw [show Int32.ofInt 1 = 1 from by decide]) rfl ?_
          refine V.goto (t := 2) (pc := 35) dX4_isFree_35 (by decide) ?_
          exact h2 l1 (l2 + 1) _ h
        · refine V.if_eq_f (t := 32) (pc := 27) dX4_isFree_27 (by decide) c ?_
          refine V.iconst (pc := 30) dX4_isFree_30 ic_0 ?_
          cases h
          exact V.zret (pc := 31) dX4_isFree_31 rfl (Or.inl rfl) (Nat.le_refl _) (Nat.le_refl _)
def f_X4_isFree (l1 : Int32) (w : Wd) : Option Int32 :=
  f_X4_isFree_L2  FU l1 0 w
set_option maxHeartbeats 4000000 in
set_option maxRecDepth 100000 in
theorem ok_X4_isFree {G : GT} {d : Nat} (hd : 2 ≤ d) {w : Wd} (l1 : Int32) {r : Int32} (h : f_X4_isFree l1 w = some r) : uC G yX4_isFree mX4_isFree d [.ref 6, .int l1] w (some (.int r)) w := by
  obtain ⟨d, rfl⟩ : ∃ e, d = e + 1 := ⟨d - 1, by omega⟩
  unfold f_X4_isFree at h
  refine uC_of (lv := [some (.ref 6), some (.int l1), none]) 1 pn_X4 ⟨rfl, rfl⟩ (Nat.le_of_ble_eq_true rfl) rfl ?_
  refine V.iconst (pc := 0) dX4_isFree_0 ic_0 ?_
  refine V.istore_n (lv' := [some (.ref 6), some (.int l1), some (.int 0)]) (pc := 1) dX4_isFree_1 (Nat.le_of_ble_eq_true rfl) rfl rfl ?_
  exact t_X4_isFree_L2 hd FU l1 0 _ h

theorem dX4_staysFree_0 : decode cX4_staysFree 0 = .ok (.iload_n 1, 1) := by decide +kernel
theorem dX4_staysFree_1 : decode cX4_staysFree 1 = .ok (.iconst 1, 1) := by decide +kernel
theorem dX4_staysFree_2 : decode cX4_staysFree 2 = .ok (.iload_n 2, 1) := by decide +kernel
theorem dX4_staysFree_3 : decode cX4_staysFree 3 = .ok (.ishl, 1) := by decide +kernel
theorem dX4_staysFree_4 : decode cX4_staysFree 4 = .ok (.ior, 1) := by decide +kernel
theorem dX4_staysFree_5 : decode cX4_staysFree 5 = .ok (.istore_n 3, 1) := by decide +kernel
theorem dX4_staysFree_6 : decode cX4_staysFree 6 = .ok (.iload_n 3, 1) := by decide +kernel
theorem dX4_staysFree_7 : decode cX4_staysFree 7 = .ok (.aload_n 0, 1) := by decide +kernel
theorem dX4_staysFree_8 : decode cX4_staysFree 8 = .ok (.iload_n 2, 1) := by decide +kernel
theorem dX4_staysFree_9 : decode cX4_staysFree 9 = .ok (.iload_n 2, 1) := by decide +kernel
theorem dX4_staysFree_10 : decode cX4_staysFree 10 = .ok (.invokevirtual 58, 3) := by decide +kernel
theorem dX4_staysFree_13 : decode cX4_staysFree 13 = .ok (.ishr, 1) := by decide +kernel
theorem dX4_staysFree_14 : decode cX4_staysFree 14 = .ok (.iconst 1, 1) := by decide +kernel
theorem dX4_staysFree_15 : decode cX4_staysFree 15 = .ok (.iand, 1) := by decide +kernel
theorem dX4_staysFree_16 : decode cX4_staysFree 16 = .ok (.ifCond .eq 5, 3) := by decide +kernel
theorem dX4_staysFree_19 : decode cX4_staysFree 19 = .ok (.iconst 0, 1) := by decide +kernel
theorem dX4_staysFree_20 : decode cX4_staysFree 20 = .ok (.ireturn, 1) := by decide +kernel
theorem dX4_staysFree_21 : decode cX4_staysFree 21 = .ok (.iconst 0, 1) := by decide +kernel
theorem dX4_staysFree_22 : decode cX4_staysFree 22 = .ok (.istore 4, 2) := by decide +kernel
theorem dX4_staysFree_24 : decode cX4_staysFree 24 = .ok (.iload 4, 2) := by decide +kernel
theorem dX4_staysFree_26 : decode cX4_staysFree 26 = .ok (.aload_n 0, 1) := by decide +kernel
theorem dX4_staysFree_27 : decode cX4_staysFree 27 = .ok (.getfield 30, 3) := by decide +kernel
theorem dX4_staysFree_30 : decode cX4_staysFree 30 = .ok (.if_icmp .ge 62, 3) := by decide +kernel
theorem dX4_staysFree_33 : decode cX4_staysFree 33 = .ok (.iload_n 1, 1) := by decide +kernel
theorem dX4_staysFree_34 : decode cX4_staysFree 34 = .ok (.iload 4, 2) := by decide +kernel
theorem dX4_staysFree_36 : decode cX4_staysFree 36 = .ok (.ishr, 1) := by decide +kernel
theorem dX4_staysFree_37 : decode cX4_staysFree 37 = .ok (.iconst 1, 1) := by decide +kernel
theorem dX4_staysFree_38 : decode cX4_staysFree 38 = .ok (.iand, 1) := by decide +kernel
theorem dX4_staysFree_39 : decode cX4_staysFree 39 = .ok (.ifCond .eq 47, 3) := by decide +kernel
theorem dX4_staysFree_42 : decode cX4_staysFree 42 = .ok (.iload_n 3, 1) := by decide +kernel
theorem dX4_staysFree_43 : decode cX4_staysFree 43 = .ok (.aload_n 0, 1) := by decide +kernel
theorem dX4_staysFree_44 : decode cX4_staysFree 44 = .ok (.iload 4, 2) := by decide +kernel
theorem dX4_staysFree_46 : decode cX4_staysFree 46 = .ok (.iload_n 2, 1) := by decide +kernel
theorem dX4_staysFree_47 : decode cX4_staysFree 47 = .ok (.invokevirtual 58, 3) := by decide +kernel
theorem dX4_staysFree_50 : decode cX4_staysFree 50 = .ok (.ishr, 1) := by decide +kernel
theorem dX4_staysFree_51 : decode cX4_staysFree 51 = .ok (.iload_n 3, 1) := by decide +kernel
theorem dX4_staysFree_52 : decode cX4_staysFree 52 = .ok (.aload_n 0, 1) := by decide +kernel
theorem dX4_staysFree_53 : decode cX4_staysFree 53 = .ok (.iload_n 2, 1) := by decide +kernel
theorem dX4_staysFree_54 : decode cX4_staysFree 54 = .ok (.iload 4, 2) := by decide +kernel
theorem dX4_staysFree_56 : decode cX4_staysFree 56 = .ok (.invokevirtual 58, 3) := by decide +kernel
theorem dX4_staysFree_59 : decode cX4_staysFree 59 = .ok (.ishr, 1) := by decide +kernel
theorem dX4_staysFree_60 : decode cX4_staysFree 60 = .ok (.ior, 1) := by decide +kernel
theorem dX4_staysFree_61 : decode cX4_staysFree 61 = .ok (.iload_n 1, 1) := by decide +kernel
theorem dX4_staysFree_62 : decode cX4_staysFree 62 = .ok (.aload_n 0, 1) := by decide +kernel
theorem dX4_staysFree_63 : decode cX4_staysFree 63 = .ok (.aload_n 0, 1) := by decide +kernel
theorem dX4_staysFree_64 : decode cX4_staysFree 64 = .ok (.iload 4, 2) := by decide +kernel
theorem dX4_staysFree_66 : decode cX4_staysFree 66 = .ok (.invokevirtual 76, 3) := by decide +kernel
theorem dX4_staysFree_69 : decode cX4_staysFree 69 = .ok (.iload_n 2, 1) := by decide +kernel
theorem dX4_staysFree_70 : decode cX4_staysFree 70 = .ok (.invokevirtual 58, 3) := by decide +kernel
theorem dX4_staysFree_73 : decode cX4_staysFree 73 = .ok (.ishr, 1) := by decide +kernel
theorem dX4_staysFree_74 : decode cX4_staysFree 74 = .ok (.ior, 1) := by decide +kernel
theorem dX4_staysFree_75 : decode cX4_staysFree 75 = .ok (.istore 5, 2) := by decide +kernel
theorem dX4_staysFree_77 : decode cX4_staysFree 77 = .ok (.iload 5, 2) := by decide +kernel
theorem dX4_staysFree_79 : decode cX4_staysFree 79 = .ok (.iconst 1, 1) := by decide +kernel
theorem dX4_staysFree_80 : decode cX4_staysFree 80 = .ok (.iand, 1) := by decide +kernel
theorem dX4_staysFree_81 : decode cX4_staysFree 81 = .ok (.ifCond .eq 5, 3) := by decide +kernel
theorem dX4_staysFree_84 : decode cX4_staysFree 84 = .ok (.iconst 0, 1) := by decide +kernel
theorem dX4_staysFree_85 : decode cX4_staysFree 85 = .ok (.ireturn, 1) := by decide +kernel
theorem dX4_staysFree_86 : decode cX4_staysFree 86 = .ok (.iinc 4 1, 3) := by decide +kernel
theorem dX4_staysFree_89 : decode cX4_staysFree 89 = .ok (.goto (-65), 3) := by decide +kernel
theorem dX4_staysFree_92 : decode cX4_staysFree 92 = .ok (.iconst 1, 1) := by decide +kernel
theorem dX4_staysFree_93 : decode cX4_staysFree 93 = .ok (.ireturn, 1) := by decide +kernel
def f_X4_staysFree_B24b (k24 : Int32 → Int32 → Int32 → Int32 → Wd → Option Int32) (l1 : Int32) (l2 : Int32) (l3 : Int32) (l4 : Int32) (w : Wd) : Option Int32 :=
  if (w.1 6 7) ≤ l4 then
    some 1
  else
    if ((l1 >>> (l4 &&& 31)) &&& 1) = 0 then
      k24 l1 l2 l3 (l4 + 1) w
    else
      bnd (f_X4_times l4 l2 w) fun x1 =>
      bnd (f_X4_times l2 l4 w) fun x2 =>
      bnd (f_X4_inverseOf l4 w) fun x3 =>
      bnd (f_X4_times x3 l2 w) fun x4 =>
      if ((((l3 >>> (x1 &&& 31)) ||| (l3 >>> (x2 &&& 31))) ||| (l1 >>> (x4 &&& 31))) &&& 1) = 0 then
        k24 l1 l2 l3 (l4 + 1) w
      else
        some 0
def f_X4_staysFree_L24 (n : Nat) : Int32 → Int32 → Int32 → Int32 → Wd → Option Int32 :=
  Nat.rec (fun _ _ _ _ _ => none) (fun _ k => f_X4_staysFree_B24b k) n
set_option maxHeartbeats 4000000 in
set_option maxRecDepth 100000 in
theorem t_X4_staysFree_L24 {G : GT} {d : Nat} {w : Wd} (hd : 1 ≤ d + 1)  : ∀ (n : Nat) (l1 : Int32) (l2 : Int32) (l3 : Int32) (l4 : Int32) (r : Int32), f_X4_staysFree_L24 n l1 l2 l3 l4 w = some r → U (vf G mX4_staysFree (d + 1)) 24 [some (.ref 6), some (.int l1), some (.int l2), some (.int l3), some (.int l4), none] [] w (some (.int r), 70, r0, w) := by
  intro n
  induction n with
  | zero => intro l1 l2 l3 l4 r h; cases h
  | succ n h24 =>
    intro l1 l2 l3 l4 r h
    have h : f_X4_staysFree_B24b (f_X4_staysFree_L24 n) l1 l2 l3 l4 w = some r := h
    unfold f_X4_staysFree_B24b at h
    refine V.iload (pc := 24) dX4_staysFree_24 rfl ?_
    refine V.aload_n (pc := 26) dX4_staysFree_26 rfl ?_
    refine V.getI (pc := 27) dX4_staysFree_27 f_RX4_30 k_cl4 lt_6 ly_6 rb_4_7 ?_
    rcases ite_e h with ⟨c, h⟩ | ⟨c, h⟩
    · refine V.icmp_ge_t (t := 92) (pc := 30) dX4_staysFree_30 (by decide) c ?_
      refine V.iconst (pc := 92) dX4_staysFree_92 ic_1 ?_
      cases h
      exact V.zret (pc := 93) dX4_staysFree_93 rfl (Or.inr rfl) (Nat.le_refl _) (Nat.le_refl _)
    · refine V.icmp_ge_f (t := 92) (pc := 30) dX4_staysFree_30 (by decide) c ?_
      refine V.iload_n (pc := 33) dX4_staysFree_33 rfl ?_
      refine V.iload (pc := 34) dX4_staysFree_34 rfl ?_
      refine V.ishr (pc := 36) dX4_staysFree_36 ?_
      refine V.iconst (pc := 37) dX4_staysFree_37 ic_1 ?_
      refine V.iand (pc := 38) dX4_staysFree_38 ?_
      rcases ite_e h with ⟨c, h⟩ | ⟨c, h⟩
      · refine V.if_eq_t (t := 86) (pc := 39) dX4_staysFree_39 (by decide) c ?_
        refine V.iinc (lv' := [some (.ref 6), some (.int l1), some (.int l2), some (.int l3), some (.int (l4 + 1)), none]) (pc := 86) dX4_staysFree_86 (Nat.le_of_ble_eq_true rfl) rfl rfl (v := (l4 + 1)) (by rw [show Int32.ofInt 1 = 1 from by decide]) rfl ?_
        refine V.goto (t := 24) (pc := 89) dX4_staysFree_89 (by decide) ?_
        exact h24 l1 l2 l3 (l4 + 1) _ h
      · refine V.if_eq_f (t := 86) (pc := 39) dX4_staysFree_39 (by decide) c ?_
        refine V.iload_n (pc := 42) dX4_staysFree_42 rfl ?_
        refine V.aload_n (pc := 43) dX4_staysFree_43 rfl ?_
        refine V.iload (pc := 44) dX4_staysFree_44 rfl ?_
        refine V.iload_n (pc := 46) dX4_staysFree_46 rfl ?_
        obtain ⟨x1, ex1, h⟩ := bnd_e h
        refine U.callV (pc := 47) (As := [.int l4, .int l2]) (st := [.int l3]) dX4_staysFree_47 l_RX4_58 (ok_X4_times (by omega) l4 l2 ex1) lt_6 ly_6 cn_4 (Nat.le_of_ble_eq_true rfl) rfl rfl (Nat.le_of_ble_eq_true rfl) ?_
        refine V.ishr (pc := 50) dX4_staysFree_50 ?_
        refine V.iload_n (pc := 51) dX4_staysFree_51 rfl ?_
        refine V.aload_n (pc := 52) dX4_staysFree_52 rfl ?_
        refine V.iload_n (pc := 53) dX4_staysFree_53 rfl ?_
        refine V.iload (pc := 54) dX4_staysFree_54 rfl ?_
        obtain ⟨x2, ex2, h⟩ := bnd_e h
        refine U.callV (pc := 56) (As := [.int l2, .int l4]) (st := [.int l3, .int (l3 >>> (x1 &&& 31))]) dX4_staysFree_56 l_RX4_58 (ok_X4_times (by omega) l2 l4 ex2) lt_6 ly_6 cn_4 (Nat.le_of_ble_eq_true rfl) rfl rfl (Nat.le_of_ble_eq_true rfl) ?_
        refine V.ishr (pc := 59) dX4_staysFree_59 ?_
        refine V.ior (pc := 60) dX4_staysFree_60 ?_
        refine V.iload_n (pc := 61) dX4_staysFree_61 rfl ?_
        refine V.aload_n (pc := 62) dX4_staysFree_62 rfl ?_
        refine V.aload_n (pc := 63) dX4_staysFree_63 rfl ?_
        refine V.iload (pc := 64) dX4_staysFree_64 rfl ?_
        obtain ⟨x3, ex3, h⟩ := bnd_e h
        refine U.callV (pc := 66) (As := [.int l4]) (st := [.ref 6, .int l1, .int ((l3 >>> (x1 &&& 31)) ||| (l3 >>> (x2 &&& 31)))]) dX4_staysFree_66 l_RX4_76 (ok_X4_inverseOf (by omega) l4 ex3) lt_6 ly_6 cn_4 (Nat.le_of_ble_eq_true rfl) rfl rfl (Nat.le_of_ble_eq_true rfl) ?_
        refine V.iload_n (pc := 69) dX4_staysFree_69 rfl ?_
        obtain ⟨x4, ex4, h⟩ := bnd_e h
        refine U.callV (pc := 70) (As := [.int x3, .int l2]) (st := [.int l1, .int ((l3 >>> (x1 &&& 31)) ||| (l3 >>> (x2 &&& 31)))]) dX4_staysFree_70 l_RX4_58 (ok_X4_times (by omega) x3 l2 ex4) lt_6 ly_6 cn_4 (Nat.le_of_ble_eq_true rfl) rfl rfl (Nat.le_of_ble_eq_true rfl) ?_
        refine V.ishr (pc := 73) dX4_staysFree_73 ?_
        refine V.ior (pc := 74) dX4_staysFree_74 ?_
        refine V.istore (lv' := [some (.ref 6), some (.int l1), some (.int l2), some (.int l3), some (.int l4), some (.int (((l3 >>> (x1 &&& 31)) ||| (l3 >>> (x2 &&& 31))) ||| (l1 >>> (x4 &&& 31))))]) (pc := 75) dX4_staysFree_75 (Nat.le_of_ble_eq_true rfl) rfl rfl ?_
        refine V.iload (pc := 77) dX4_staysFree_77 rfl ?_
        refine V.iconst (pc := 79) dX4_staysFree_79 ic_1 ?_
        refine V.iand (pc := 80) dX4_staysFree_80 ?_
        rcases ite_e h with ⟨c, h⟩ | ⟨c, h⟩
        · refine V.if_eq_t (t := 86) (pc := 81) dX4_staysFree_81 (by decide) c ?_
          refine V.iinc (lv' := [some (.ref 6), some (.int l1), some (.int l2), some (.int l3), some (.int (l4 + 1)), some (.int (((l3 >>> (x1 &&& 31)) ||| (l3 >>> (x2 &&& 31))) ||| (l1 >>> (x4 &&& 31))))]) (pc := 86) dX4_staysFree_86 (Nat.le_of_ble_eq_true rfl) rfl rfl (v := (l4 + 1)) (by rw [show Int32.ofInt 1 = 1 from by decide]) rfl ?_
          refine V.goto (t := 24) (pc := 89) dX4_staysFree_89 (by decide) ?_
          refine V.weak (lv' := [some (.ref 6), some (.int l1), some (.int l2), some (.int l3), some (.int (l4 + 1)), none]) (And.intro rfl (And.intro rfl (And.intro rfl (And.intro rfl (And.intro rfl trivial))))) ?_
          exact h24 l1 l2 l3 (l4 + 1) _ h
        · refine V.if_eq_f (t := 86) (pc := 81) dX4_staysFree_81 (by decide) c ?_
          refine V.iconst (pc := 84) dX4_staysFree_84 ic_0 ?_
          cases h
          exact V.zret (pc := 85) dX4_staysFree_85 rfl (Or.inl rfl) (Nat.le_refl _) (Nat.le_refl _)
def f_X4_staysFree (l1 : Int32) (l2 : Int32) (w : Wd) : Option Int32 :=
  bnd (f_X4_times l2 l2 w) fun x1 =>
  if (((l1 ||| (1 <<< (l2 &&& 31))) >>> (x1 &&& 31)) &&& 1) = 0 then
    f_X4_staysFree_L24  FU l1 l2 (l1 ||| (1 <<< (l2 &&& 31))) 0 w
  else
    some 0
set_option maxHeartbeats 4000000 in
set_option maxRecDepth 100000 in
theorem ok_X4_staysFree {G : GT} {d : Nat} (hd : 1 ≤ d) {w : Wd} (l1 : Int32) (l2 : Int32) {r : Int32} (h : f_X4_staysFree l1 l2 w = some r) : uC G yX4_staysFree mX4_staysFree d [.ref 6, .int l1, .int l2] w (some (.int r)) w := by
  obtain ⟨d, rfl⟩ : ∃ e, d = e + 1 := ⟨d - 1, by omega⟩
  unfold f_X4_staysFree at h
  refine uC_of (lv := [some (.ref 6), some (.int l1), some (.int l2), none, none, none]) 3 pn_X4 ⟨rfl, rfl⟩ (Nat.le_of_ble_eq_true rfl) rfl ?_
  refine V.iload_n (pc := 0) dX4_staysFree_0 rfl ?_
  refine V.iconst (pc := 1) dX4_staysFree_1 ic_1 ?_
  refine V.iload_n (pc := 2) dX4_staysFree_2 rfl ?_
  refine V.ishl (pc := 3) dX4_staysFree_3 ?_
  refine V.ior (pc := 4) dX4_staysFree_4 ?_
  refine V.istore_n (lv' := [some (.ref 6), some (.int l1), some (.int l2), some (.int (l1 ||| (1 <<< (l2 &&& 31)))), none, none]) (pc := 5) dX4_staysFree_5 (Nat.le_of_ble_eq_true rfl) rfl rfl ?_
  refine V.iload_n (pc := 6) dX4_staysFree_6 rfl ?_
  refine V.aload_n (pc := 7) dX4_staysFree_7 rfl ?_
  refine V.iload_n (pc := 8) dX4_staysFree_8 rfl ?_
  refine V.iload_n (pc := 9) dX4_staysFree_9 rfl ?_
  obtain ⟨x1, ex1, h⟩ := bnd_e h
  refine U.callV (pc := 10) (As := [.int l2, .int l2]) (st := [.int (l1 ||| (1 <<< (l2 &&& 31)))]) dX4_staysFree_10 l_RX4_58 (ok_X4_times (by omega) l2 l2 ex1) lt_6 ly_6 cn_4 (Nat.le_of_ble_eq_true rfl) rfl rfl (Nat.le_of_ble_eq_true rfl) ?_
  refine V.ishr (pc := 13) dX4_staysFree_13 ?_
  refine V.iconst (pc := 14) dX4_staysFree_14 ic_1 ?_
  refine V.iand (pc := 15) dX4_staysFree_15 ?_
  rcases ite_e h with ⟨c, h⟩ | ⟨c, h⟩
  · refine V.if_eq_t (t := 21) (pc := 16) dX4_staysFree_16 (by decide) c ?_
    refine V.iconst (pc := 21) dX4_staysFree_21 ic_0 ?_
    refine V.istore (lv' := [some (.ref 6), some (.int l1), some (.int l2), some (.int (l1 ||| (1 <<< (l2 &&& 31)))), some (.int 0), none]) (pc := 22) dX4_staysFree_22 (Nat.le_of_ble_eq_true rfl) rfl rfl ?_
    exact t_X4_staysFree_L24 hd FU l1 l2 (l1 ||| (1 <<< (l2 &&& 31))) 0 _ h
  · refine V.if_eq_f (t := 21) (pc := 16) dX4_staysFree_16 (by decide) c ?_
    refine V.iconst (pc := 19) dX4_staysFree_19 ic_0 ?_
    cases h
    exact V.zret (pc := 20) dX4_staysFree_20 rfl (Or.inl rfl) (Nat.le_refl _) (Nat.le_refl _)

