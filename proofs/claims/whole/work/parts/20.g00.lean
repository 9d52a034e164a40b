theorem dJ7_fill_53178_0 : decode cJ7_fill_53178 0 = .ok (.iconst 0, 1) := by decide +kernel
theorem dJ7_fill_53178_1 : decode cJ7_fill_53178 1 = .ok (.istore_n 2, 1) := by decide +kernel
theorem dJ7_fill_53178_2 : decode cJ7_fill_53178 2 = .ok (.aload_n 0, 1) := by decide +kernel
theorem dJ7_fill_53178_3 : decode cJ7_fill_53178 3 = .ok (.arraylength, 1) := by decide +kernel
theorem dJ7_fill_53178_4 : decode cJ7_fill_53178 4 = .ok (.istore_n 3, 1) := by decide +kernel
theorem dJ7_fill_53178_5 : decode cJ7_fill_53178 5 = .ok (.iload_n 2, 1) := by decide +kernel
theorem dJ7_fill_53178_6 : decode cJ7_fill_53178 6 = .ok (.iload_n 3, 1) := by decide +kernel
theorem dJ7_fill_53178_7 : decode cJ7_fill_53178 7 = .ok (.if_icmp .ge 13, 3) := by decide +kernel
theorem dJ7_fill_53178_10 : decode cJ7_fill_53178 10 = .ok (.aload_n 0, 1) := by decide +kernel
theorem dJ7_fill_53178_11 : decode cJ7_fill_53178 11 = .ok (.iload_n 2, 1) := by decide +kernel
theorem dJ7_fill_53178_12 : decode cJ7_fill_53178 12 = .ok (.iload_n 1, 1) := by decide +kernel
theorem dJ7_fill_53178_13 : decode cJ7_fill_53178 13 = .ok (.iastore, 1) := by decide +kernel
theorem dJ7_fill_53178_14 : decode cJ7_fill_53178 14 = .ok (.iinc 2 1, 3) := by decide +kernel
theorem dJ7_fill_53178_17 : decode cJ7_fill_53178 17 = .ok (.goto (-12), 3) := by decide +kernel
theorem dJ7_fill_53178_20 : decode cJ7_fill_53178 20 = .ok (.return_, 1) := by decide +kernel
def f_J7_fill_53178_9_B5b (k5 : Int32 → Int32 → Int32 → Wd → Option Wd) (l1 : Int32) (l2 : Int32) (l3 : Int32) (w : Wd) : Option Wd :=
  if l3 ≤ l2 then
    some w
  else
    wrI w 9 256 l2 l1 fun w1 =>
    k5 l1 (l2 + 1) l3 w1
def f_J7_fill_53178_9_L5 (n : Nat) : Int32 → Int32 → Int32 → Wd → Option Wd :=
  Nat.rec (fun _ _ _ _ => none) (fun _ k => f_J7_fill_53178_9_B5b k) n
set_option maxHeartbeats 4000000 in
set_option maxRecDepth 100000 in
theorem t_J7_fill_53178_9_L5 {G : GT} {d : Nat} (hd : 0 ≤ d)  : ∀ (n : Nat) (l1 : Int32) (l2 : Int32) (l3 : Int32) (w : Wd) (w' : Wd), f_J7_fill_53178_9_L5 n l1 l2 l3 w = some w' → U (vf G mJ7_fill_53178 d) 5 [some (.ref 9), some (.int l1), some (.int l2), some (.int l3)] [] w (none, 70, r0, w') := by
  intro n
  induction n with
  | zero => intro l1 l2 l3 w w' h; cases h
  | succ n h5 =>
    intro l1 l2 l3 w w' h
    have h : f_J7_fill_53178_9_B5b (f_J7_fill_53178_9_L5 n) l1 l2 l3 w = some w' := h
    unfold f_J7_fill_53178_9_B5b at h
    refine V.iload_n (pc := 5) dJ7_fill_53178_5 rfl ?_
    refine V.iload_n (pc := 6) dJ7_fill_53178_6 rfl ?_
    rcases ite_e h with ⟨c, h⟩ | ⟨c, h⟩
    · refine V.icmp_ge_t (t := 20) (pc := 7) dJ7_fill_53178_7 (by decide) c ?_
      obtain rfl := Option.some.inj h
      exact V.vret (pc := 20) dJ7_fill_53178_20 rfl (Nat.le_refl _) (Nat.le_refl _)
    · refine V.icmp_ge_f (t := 20) (pc := 7) dJ7_fill_53178_7 (by decide) c ?_
      refine V.aload_n (pc := 10) dJ7_fill_53178_10 rfl ?_
      refine V.iload_n (pc := 11) dJ7_fill_53178_11 rfl ?_
      refine V.iload_n (pc := 12) dJ7_fill_53178_12 rfl ?_
      obtain ⟨w1, iw1, ew1, h⟩ := wrI_e h
      refine V.iastX (pc := 13) dJ7_fill_53178_13 lx_9 ly_9 iw1 ew1 ?_
      refine V.iinc (lv' := [some (.ref 9), some (.int l1), some (.int (l2 + 1)), some (.int l3)]) (pc := 14) dJ7_fill_53178_14 (Nat.le_of_ble_eq_true rfl) rfl rfl (v := (l2 + 1)) (by rw [show Int32.ofInt 1 = 1 from by decide]) rfl ?_
      refine V.goto (t := 5) (pc := 17) dJ7_fill_53178_17 (by decide) ?_
      exact h5 l1 (l2 + 1) l3 w1 _ h
def f_J7_fill_53178_9 (l1 : Int32) (w : Wd) : Option Wd :=
  f_J7_fill_53178_9_L5  FU l1 0 256 w
set_option maxHeartbeats 4000000 in
set_option maxRecDepth 100000 in
theorem ok_J7_fill_53178_9 {G : GT} {d : Nat} (hd : 0 ≤ d) {w : Wd} (l1 : Int32) {w' : Wd} (h : f_J7_fill_53178_9 l1 w = some w') : uC G yJ7_fill_53178 mJ7_fill_53178 d [.ref 9, .int l1] w none w' := by
  unfold f_J7_fill_53178_9 at h
  refine uC_of (lv := [some (.ref 9), some (.int l1), none, none]) 2 pn_J7 ⟨rfl, rfl⟩ (Nat.le_of_ble_eq_true rfl) rfl ?_
  refine V.iconst (pc := 0) dJ7_fill_53178_0 ic_0 ?_
  refine V.istore_n (lv' := [some (.ref 9), some (.int l1), some (.int 0), none]) (pc := 1) dJ7_fill_53178_1 (Nat.le_of_ble_eq_true rfl) rfl rfl ?_
  refine V.aload_n (pc := 2) dJ7_fill_53178_2 rfl ?_
  refine V.alen (v := 256) (pc := 3) dJ7_fill_53178_3 lx_9 ly_9 (Or.inl rfl) (by decide) ?_
  refine V.istore_n (lv' := [some (.ref 9), some (.int l1), some (.int 0), some (.int 256)]) (pc := 4) dJ7_fill_53178_4 (Nat.le_of_ble_eq_true rfl) rfl rfl ?_
  exact t_J7_fill_53178_9_L5 hd FU l1 0 256 w _ h
theorem dX4_times_0 : decode cX4_times 0 = .ok (.aload_n 0, 1) := by decide +kernel
theorem dX4_times_1 : decode cX4_times 1 = .ok (.getfield 18, 3) := by decide +kernel
theorem dX4_times_4 : decode cX4_times 4 = .ok (.iload_n 1, 1) := by decide +kernel
theorem dX4_times_5 : decode cX4_times 5 = .ok (.bipush 15, 2) := by decide +kernel
theorem dX4_times_7 : decode cX4_times 7 = .ok (.iand, 1) := by decide +kernel
theorem dX4_times_8 : decode cX4_times 8 = .ok (.bipush 16, 2) := by decide +kernel
theorem dX4_times_10 : decode cX4_times 10 = .ok (.imul, 1) := by decide +kernel
theorem dX4_times_11 : decode cX4_times 11 = .ok (.iload_n 2, 1) := by decide +kernel
theorem dX4_times_12 : decode cX4_times 12 = .ok (.bipush 15, 2) := by decide +kernel
theorem dX4_times_14 : decode cX4_times 14 = .ok (.iand, 1) := by decide +kernel
theorem dX4_times_15 : decode cX4_times 15 = .ok (.iadd, 1) := by decide +kernel
theorem dX4_times_16 : decode cX4_times 16 = .ok (.iaload, 1) := by decide +kernel
theorem dX4_times_17 : decode cX4_times 17 = .ok (.ireturn, 1) := by decide +kernel
def f_X4_times (l1 : Int32) (l2 : Int32) (w : Wd) : Option Int32 :=
  rdI w 9 256 (((l1 &&& 15) * 16) + (l2 &&& 15)) fun x1 =>
  some x1
set_option maxHeartbeats 4000000 in
set_option maxRecDepth 100000 in
theorem ok_X4_times {G : GT} {d : Nat} (hd : 0 ≤ d) {w : Wd} (l1 : Int32) (l2 : Int32) {r : Int32} (h : f_X4_times l1 l2 w = some r) : uC G yX4_times mX4_times d [.ref 6, .int l1, .int l2] w (some (.int r)) w := by
  unfold f_X4_times at h
  refine uC_of (lv := [some (.ref 6), some (.int l1), some (.int l2)]) 0 pn_X4 ⟨rfl, rfl⟩ (Nat.le_of_ble_eq_true rfl) rfl ?_
  refine V.aload_n (pc := 0) dX4_times_0 rfl ?_
  refine V.getR (t := 9) (pc := 1) dX4_times_1 f_RX4_18 k_cl4 lx_6 ly_6 rb_4_2 rr_6_2 ?_
  refine V.iload_n (pc := 4) dX4_times_4 rfl ?_
  refine V.bipush (pc := 5) dX4_times_5 bp_15 ?_
  refine V.iand (pc := 7) dX4_times_7 ?_
  refine V.bipush (pc := 8) dX4_times_8 bp_16 ?_
  refine V.imul (pc := 10) dX4_times_10 ?_
  refine V.iload_n (pc := 11) dX4_times_11 rfl ?_
  refine V.bipush (pc := 12) dX4_times_12 bp_15 ?_
  refine V.iand (pc := 14) dX4_times_14 ?_
  refine V.iadd (pc := 15) dX4_times_15 ?_
  obtain ⟨x1, ix1, ex1, h⟩ := rdI_e h
  refine V.ialdX (pc := 16) dX4_times_16 lx_9 ly_9 ix1 ex1 ?_
  obtain rfl := Option.some.inj h
  exact V.iret (pc := 17) dX4_times_17 rfl (Nat.le_refl _) (Nat.le_refl _)
theorem dX4_wrapped_0 : decode cX4_wrapped 0 = .ok (.iload_n 0, 1) := by decide +kernel
theorem dX4_wrapped_1 : decode cX4_wrapped 1 = .ok (.iload_n 1, 1) := by decide +kernel
theorem dX4_wrapped_2 : decode cX4_wrapped 2 = .ok (.if_icmp .lt 9, 3) := by decide +kernel
theorem dX4_wrapped_5 : decode cX4_wrapped 5 = .ok (.iload_n 0, 1) := by decide +kernel
theorem dX4_wrapped_6 : decode cX4_wrapped 6 = .ok (.iload_n 1, 1) := by decide +kernel
theorem dX4_wrapped_7 : decode cX4_wrapped 7 = .ok (.isub, 1) := by decide +kernel
theorem dX4_wrapped_8 : decode cX4_wrapped 8 = .ok (.goto 4, 3) := by decide +kernel
theorem dX4_wrapped_11 : decode cX4_wrapped 11 = .ok (.iload_n 0, 1) := by decide +kernel
theorem dX4_wrapped_12 : decode cX4_wrapped 12 = .ok (.ireturn, 1) := by decide +kernel
def f_X4_wrapped (l0 : Int32) (l1 : Int32) : Int32 :=
  if l0 < l1 then
    l0
  else
    (l0 - l1)
set_option maxHeartbeats 4000000 in
set_option maxRecDepth 100000 in
theorem ok_X4_wrapped {G : GT} {d : Nat} (hd : 0 ≤ d) {w : Wd} (l0 : Int32) (l1 : Int32) : uC G yX4_wrapped mX4_wrapped d [.int l0, .int l1] w (some (.int (f_X4_wrapped l0 l1))) w := by
  suffices key : ∀ r, f_X4_wrapped l0 l1 = r → uC G yX4_wrapped mX4_wrapped d [.int l0, .int l1] w (some (.int r)) w from key _ rfl
  intro r h
  unfold f_X4_wrapped at h
  refine uC_of (lv := [some (.int l0), some (.int l1)]) 0 pn_X4 ⟨rfl, rfl⟩ (Nat.le_of_ble_eq_true rfl) rfl ?_
  refine V.iload_n (pc := 0) dX4_wrapped_0 rfl ?_
  refine V.iload_n (pc := 1) dX4_wrapped_1 rfl ?_
  rcases ite_e h with ⟨c, h⟩ | ⟨c, h⟩
  · refine V.icmp_lt_t (t := 11) (pc := 2) dX4_wrapped_2 (by decide) c ?_
    refine V.iload_n (pc := 11) dX4_wrapped_11 rfl ?_
    subst h
    exact V.iret (pc := 12) dX4_wrapped_12 rfl (Nat.le_refl _) (Nat.le_refl _)
  · refine V.icmp_lt_f (t := 11) (pc := 2) dX4_wrapped_2 (by decide) c ?_
    refine V.iload_n (pc := 5) dX4_wrapped_5 rfl ?_
    refine V.iload_n (pc := 6) dX4_wrapped_6 rfl ?_
    refine V.isub (pc := 7) dX4_wrapped_7 ?_
    refine V.goto (t := 12) (pc := 8) dX4_wrapped_8 (by decide) ?_
    subst h
    exact V.iret (pc := 12) dX4_wrapped_12 rfl (Nat.le_refl _) (Nat.le_refl _)
theorem dX4_quaternionProduct_0 : decode cX4_quaternionProduct 0 = .ok (.iload_n 0, 1) := by decide +kernel
theorem dX4_quaternionProduct_1 : decode cX4_quaternionProduct 1 = .ok (.iconst 3, 1) := by decide +kernel
theorem dX4_quaternionProduct_2 : decode cX4_quaternionProduct 2 = .ok (.iand, 1) := by decide +kernel
theorem dX4_quaternionProduct_3 : decode cX4_quaternionProduct 3 = .ok (.istore_n 2, 1) := by decide +kernel
theorem dX4_quaternionProduct_4 : decode cX4_quaternionProduct 4 = .ok (.iload_n 1, 1) := by decide +kernel
theorem dX4_quaternionProduct_5 : decode cX4_quaternionProduct 5 = .ok (.iconst 3, 1) := by decide +kernel
theorem dX4_quaternionProduct_6 : decode cX4_quaternionProduct 6 = .ok (.iand, 1) := by decide +kernel
theorem dX4_quaternionProduct_7 : decode cX4_quaternionProduct 7 = .ok (.istore_n 3, 1) := by decide +kernel
theorem dX4_quaternionProduct_8 : decode cX4_quaternionProduct 8 = .ok (.iload_n 0, 1) := by decide +kernel
theorem dX4_quaternionProduct_9 : decode cX4_quaternionProduct 9 = .ok (.iload_n 1, 1) := by decide +kernel
theorem dX4_quaternionProduct_10 : decode cX4_quaternionProduct 10 = .ok (.ixor, 1) := by decide +kernel
theorem dX4_quaternionProduct_11 : decode cX4_quaternionProduct 11 = .ok (.iconst 4, 1) := by decide +kernel
theorem dX4_quaternionProduct_12 : decode cX4_quaternionProduct 12 = .ok (.iand, 1) := by decide +kernel
theorem dX4_quaternionProduct_13 : decode cX4_quaternionProduct 13 = .ok (.istore 4, 2) := by decide +kernel
theorem dX4_quaternionProduct_15 : decode cX4_quaternionProduct 15 = .ok (.iload_n 2, 1) := by decide +kernel
theorem dX4_quaternionProduct_16 : decode cX4_quaternionProduct 16 = .ok (.ifCond .eq 7, 3) := by decide +kernel
theorem dX4_quaternionProduct_19 : decode cX4_quaternionProduct 19 = .ok (.iload_n 3, 1) := by decide +kernel
theorem dX4_quaternionProduct_20 : decode cX4_quaternionProduct 20 = .ok (.ifCond .ne 10, 3) := by decide +kernel
theorem dX4_quaternionProduct_23 : decode cX4_quaternionProduct 23 = .ok (.iload_n 2, 1) := by decide +kernel
theorem dX4_quaternionProduct_24 : decode cX4_quaternionProduct 24 = .ok (.iload_n 3, 1) := by decide +kernel
theorem dX4_quaternionProduct_25 : decode cX4_quaternionProduct 25 = .ok (.iadd, 1) := by decide +kernel
theorem dX4_quaternionProduct_26 : decode cX4_quaternionProduct 26 = .ok (.iload 4, 2) := by decide +kernel
theorem dX4_quaternionProduct_28 : decode cX4_quaternionProduct 28 = .ok (.iadd, 1) := by decide +kernel
theorem dX4_quaternionProduct_29 : decode cX4_quaternionProduct 29 = .ok (.ireturn, 1) := by decide +kernel
theorem dX4_quaternionProduct_30 : decode cX4_quaternionProduct 30 = .ok (.iload_n 2, 1) := by decide +kernel
theorem dX4_quaternionProduct_31 : decode cX4_quaternionProduct 31 = .ok (.iload_n 3, 1) := by decide +kernel
theorem dX4_quaternionProduct_32 : decode cX4_quaternionProduct 32 = .ok (.if_icmp .ne 8, 3) := by decide +kernel
theorem dX4_quaternionProduct_35 : decode cX4_quaternionProduct 35 = .ok (.iload 4, 2) := by decide +kernel
theorem dX4_quaternionProduct_37 : decode cX4_quaternionProduct 37 = .ok (.iconst 4, 1) := by decide +kernel
theorem dX4_quaternionProduct_38 : decode cX4_quaternionProduct 38 = .ok (.ixor, 1) := by decide +kernel
theorem dX4_quaternionProduct_39 : decode cX4_quaternionProduct 39 = .ok (.ireturn, 1) := by decide +kernel
theorem dX4_quaternionProduct_40 : decode cX4_quaternionProduct 40 = .ok (.iload_n 3, 1) := by decide +kernel
theorem dX4_quaternionProduct_41 : decode cX4_quaternionProduct 41 = .ok (.iload_n 2, 1) := by decide +kernel
theorem dX4_quaternionProduct_42 : decode cX4_quaternionProduct 42 = .ok (.iconst 3, 1) := by decide +kernel
theorem dX4_quaternionProduct_43 : decode cX4_quaternionProduct 43 = .ok (.if_icmp .ne 7, 3) := by decide +kernel
theorem dX4_quaternionProduct_46 : decode cX4_quaternionProduct 46 = .ok (.iconst 1, 1) := by decide +kernel
theorem dX4_quaternionProduct_47 : decode cX4_quaternionProduct 47 = .ok (.goto 6, 3) := by decide +kernel
theorem dX4_quaternionProduct_50 : decode cX4_quaternionProduct 50 = .ok (.iload_n 2, 1) := by decide +kernel
theorem dX4_quaternionProduct_51 : decode cX4_quaternionProduct 51 = .ok (.iconst 1, 1) := by decide +kernel
theorem dX4_quaternionProduct_52 : decode cX4_quaternionProduct 52 = .ok (.iadd, 1) := by decide +kernel
theorem dX4_quaternionProduct_53 : decode cX4_quaternionProduct 53 = .ok (.if_icmp .ne 7, 3) := by decide +kernel
theorem dX4_quaternionProduct_56 : decode cX4_quaternionProduct 56 = .ok (.iconst 1, 1) := by decide +kernel
theorem dX4_quaternionProduct_57 : decode cX4_quaternionProduct 57 = .ok (.goto 4, 3) := by decide +kernel
theorem dX4_quaternionProduct_60 : decode cX4_quaternionProduct 60 = .ok (.iconst 0, 1) := by decide +kernel
theorem dX4_quaternionProduct_61 : decode cX4_quaternionProduct 61 = .ok (.istore 5, 2) := by decide +kernel
theorem dX4_quaternionProduct_63 : decode cX4_quaternionProduct 63 = .ok (.bipush 6, 2) := by decide +kernel
theorem dX4_quaternionProduct_65 : decode cX4_quaternionProduct 65 = .ok (.iload_n 2, 1) := by decide +kernel
theorem dX4_quaternionProduct_66 : decode cX4_quaternionProduct 66 = .ok (.isub, 1) := by decide +kernel
theorem dX4_quaternionProduct_67 : decode cX4_quaternionProduct 67 = .ok (.iload_n 3, 1) := by decide +kernel
theorem dX4_quaternionProduct_68 : decode cX4_quaternionProduct 68 = .ok (.isub, 1) := by decide +kernel
theorem dX4_quaternionProduct_69 : decode cX4_quaternionProduct 69 = .ok (.iload 5, 2) := by decide +kernel
theorem dX4_quaternionProduct_71 : decode cX4_quaternionProduct 71 = .ok (.ifCond .eq 8, 3) := by decide +kernel
theorem dX4_quaternionProduct_74 : decode cX4_quaternionProduct 74 = .ok (.iload 4, 2) := by decide +kernel
theorem dX4_quaternionProduct_76 : decode cX4_quaternionProduct 76 = .ok (.goto 7, 3) := by decide +kernel
theorem dX4_quaternionProduct_79 : decode cX4_quaternionProduct 79 = .ok (.iload 4, 2) := by decide +kernel
theorem dX4_quaternionProduct_81 : decode cX4_quaternionProduct 81 = .ok (.iconst 4, 1) := by decide +kernel
theorem dX4_quaternionProduct_82 : decode cX4_quaternionProduct 82 = .ok (.ixor, 1) := by decide +kernel
theorem dX4_quaternionProduct_83 : decode cX4_quaternionProduct 83 = .ok (.iadd, 1) := by decide +kernel
theorem dX4_quaternionProduct_84 : decode cX4_quaternionProduct 84 = .ok (.ireturn, 1) := by decide +kernel
def f_X4_quaternionProduct (l0 : Int32) (l1 : Int32) : Int32 :=
  if (l0 &&& 3) = 0 then
    (((l0 &&& 3) + (l1 &&& 3)) + ((l0 ^^^ l1) &&& 4))
  else
    if (l1 &&& 3) = 0 then
      (((l0 &&& 3) + (l1 &&& 3)) + ((l0 ^^^ l1) &&& 4))
    else
      if (l0 &&& 3) = (l1 &&& 3) then
        (((l0 ^^^ l1) &&& 4) ^^^ 4)
      else
        if (l0 &&& 3) = 3 then
          if (l1 &&& 3) = 1 then
            (((6 - (l0 &&& 3)) - (l1 &&& 3)) + ((l0 ^^^ l1) &&& 4))
          else
            (((6 - (l0 &&& 3)) - (l1 &&& 3)) + (((l0 ^^^ l1) &&& 4) ^^^ 4))
        else
          if (l1 &&& 3) = ((l0 &&& 3) + 1) then
            (((6 - (l0 &&& 3)) - (l1 &&& 3)) + ((l0 ^^^ l1) &&& 4))
          else
            (((6 - (l0 &&& 3)) - (l1 &&& 3)) + (((l0 ^^^ l1) &&& 4) ^^^ 4))
set_option maxHeartbeats 4000000 in
set_option maxRecDepth 100000 in
theorem ok_X4_quaternionProduct {G : GT} {d : Nat} (hd : 0 ≤ d) {w : Wd} (l0 : Int32) (l1 : Int32) : uC G yX4_quaternionProduct mX4_quaternionProduct d [.int l0, .int l1] w (some (.int (f_X4_quaternionProduct l0 l1))) w := by
  suffices key : ∀ r, f_X4_quaternionProduct l0 l1 = r → uC G yX4_quaternionProduct mX4_quaternionProduct d [.int l0, .int l1] w (some (.int r)) w from key _ rfl
  intro r h
  unfold f_X4_quaternionProduct at h
  refine uC_of (lv := [some (.int l0), some (.int l1), none, none, none, none]) 4 pn_X4 ⟨rfl, rfl⟩ (Nat.le_of_ble_eq_true rfl) rfl ?_
  refine V.iload_n (pc := 0) dX4_quaternionProduct_0 rfl ?_
  refine V.iconst (pc := 1) dX4_quaternionProduct_1 ic_3 ?_
  refine V.iand (pc := 2) dX4_quaternionProduct_2 ?_
  refine V.istore_n (lv' := [some (.int l0), some (.int l1), some (.int (l0 &&& 3)), none, none, none]) (pc := 3) dX4_quaternionProduct_3 (Nat.le_of_ble_eq_true rfl) rfl rfl ?_
  refine V.iload_n (pc := 4) dX4_quaternionProduct_4 rfl ?_
  refine V.iconst (pc := 5) dX4_quaternionProduct_5 ic_3 ?_
  refine V.iand (pc := 6) dX4_quaternionProduct_6 ?_
  refine V.istore_n (lv' := [some (.int l0), some (.int l1), some (.int (l0 &&& 3)), some (.int (l1 &&& 3)), none, none]) (pc := 7) dX4_quaternionProduct_7 (Nat.le_of_ble_eq_true rfl) rfl rfl ?_
  refine V.iload_n (pc := 8) dX4_quaternionProduct_8 rfl ?_
  refine V.iload_n (pc := 9) dX4_quaternionProduct_9 rfl ?_
  refine V.ixor (pc := 10) dX4_quaternionProduct_10 ?_
  refine V.iconst (pc := 11) dX4_quaternionProduct_11 ic_4 ?_
  refine V.iand (pc := 12) dX4_quaternionProduct_12 ?_
  refine V.istore (lv' := [some (.int l0), some (.int l1), some (.int (l0 &&& 3)), some (.int (l1 &&& 3)), some (.int ((l0 ^^^ l1) &&& 4)), none]) (pc := 13) dX4_quaternionProduct_13 (Nat.le_of_ble_eq_true rfl) rfl rfl ?_
  refine V.iload_n (pc := 15) dX4_quaternionProduct_15 rfl ?_
  rcases ite_e h with ⟨c, h⟩ | ⟨c, h⟩
  · refine V.if_eq_t (t := 23) (pc := 16) dX4_quaternionProduct_16 (by decide) c ?_
    refine V.iload_n (pc := 23) dX4_quaternionProduct_23 rfl ?_
    refine V.iload_n (pc := 24) dX4_quaternionProduct_24 rfl ?_
    refine V.iadd (pc := 25) dX4_quaternionProduct_25 ?_
    refine V.iload (pc := 26) dX4_quaternionProduct_26 rfl ?_
    refine V.iadd (pc := 28) dX4_quaternionProduct_28 ?_
    subst h
    exact V.iret (pc := 29) dX4_quaternionProduct_29 rfl (Nat.le_refl _) (Nat.le_refl _)
  · refine V.if_eq_f (t := 23) (pc := 16) dX4_quaternionProduct_16 (by decide) c ?_
    refine V.iload_n (pc := 19) dX4_quaternionProduct_19 rfl ?_
    rcases ite_e h with ⟨c, h⟩ | ⟨c, h⟩
    · refine V.if_ne_f (t := 30) (pc := 20) dX4_quaternionProduct_20 (by decide) c ?_
      refine V.iload_n (pc := 23) dX4_quaternionProduct_23 rfl ?_
      refine V.iload_n (pc := 24) dX4_quaternionProduct_24 rfl ?_
      refine V.iadd (pc := 25) dX4_quaternionProduct_25 ?_
      refine V.iload (pc := 26) dX4_quaternionProduct_26 rfl ?_
      refine V.iadd (pc := 28) dX4_quaternionProduct_28 ?_
      subst h
      exact V.iret (pc := 29) dX4_quaternionProduct_29 rfl (Nat.le_refl _) (Nat.le_refl _)
    · refine V.if_ne_t (t := 30) (pc := 20) dX4_quaternionProduct_20 (by decide) c ?_
      refine V.iload_n (pc := 30) dX4_quaternionProduct_30 rfl ?_
      refine V.iload_n (pc := 31) dX4_quaternionProduct_31 rfl ?_
      rcases ite_e h with ⟨c, h⟩ | ⟨c, h⟩
      · refine V.icmp_ne_f (t := 40) (pc := 32) dX4_quaternionProduct_32 (by decide) c ?_
        refine V.iload (pc := 35) dX4_quaternionProduct_35 rfl ?_
        refine V.iconst (pc := 37) dX4_quaternionProduct_37 ic_4 ?_
        refine V.ixor (pc := 38) dX4_quaternionProduct_38 ?_
        subst h
        exact V.iret (pc := 39) dX4_quaternionProduct_39 rfl (Nat.le_refl _) (Nat.le_refl _)
      · refine V.icmp_ne_t (t := 40) (pc := 32) dX4_quaternionProduct_32 (by decide) c ?_
        refine V.iload_n (pc := 40) dX4_quaternionProduct_40 rfl ?_
        refine V.iload_n (pc := 41) dX4_quaternionProduct_41 rfl ?_
        refine V.iconst (pc := 42) dX4_quaternionProduct_42 ic_3 ?_
        rcases ite_e h with ⟨c, h⟩ | ⟨c, h⟩
        · refine V.icmp_ne_f (t := 50) (pc := 43) dX4_quaternionProduct_43 (by decide) c ?_
          refine V.iconst (pc := 46) dX4_quaternionProduct_46 ic_1 ?_
          refine V.goto (t := 53) (pc := 47) dX4_quaternionProduct_47 (by decide) ?_
          rcases ite_e h with ⟨c, h⟩ | ⟨c, h⟩
          · refine V.icmp_ne_f (t := 60) (pc := 53) dX4_quaternionProduct_53 (by decide) c ?_
            refine V.iconst (pc := 56) dX4_quaternionProduct_56 ic_1 ?_
            refine V.goto (t := 61) (pc := 57) dX4_quaternionProduct_57 (by decide) ?_
            refine V.istore (lv' := [some (.int l0), some (.int l1), some (.int (l0 &&& 3)), some (.int (l1 &&& 3)), some (.int ((l0 ^^^ l1) &&& 4)), some (.int 1)]) (pc := 61) dX4_quaternionProduct_61 (Nat.le_of_ble_eq_true rfl) rfl rfl ?_
            refine V.bipush (pc := 63) dX4_quaternionProduct_63 bp_6 ?_
            refine V.iload_n (pc := 65) dX4_quaternionProduct_65 rfl ?_
            refine V.isub (pc := 66) dX4_quaternionProduct_66 ?_
            refine V.iload_n (pc := 67) dX4_quaternionProduct_67 rfl ?_
            refine V.isub (pc := 68) dX4_quaternionProduct_68 ?_
            refine V.iload (pc := 69) dX4_quaternionProduct_69 rfl ?_
            refine V.if_eq_f (t := 79) (pc := 71) dX4_quaternionProduct_71 (by decide) (by decide) ?_
            refine V.iload (pc := 74) dX4_quaternionProduct_74 rfl ?_
            refine V.goto (t := 83) (pc := 76) dX4_quaternionProduct_76 (by decide) ?_
            refine V.iadd (pc := 83) dX4_quaternionProduct_83 ?_
            subst h
            exact V.iret (pc := 84) dX4_quaternionProduct_84 rfl (Nat.le_refl _) (Nat.le_refl _)
          · refine V.icmp_ne_t (t := 60) (pc := 53) dX4_quaternionProduct_53 (by decide) c ?_
            refine V.iconst (pc := 60) dX4_quaternionProduct_60 ic_0 ?_
            refine V.istore (lv' := [some (.int l0), some (.int l1), some (.int (l0 &&& 3)), some (.int (l1 &&& 3)), some (.int ((l0 ^^^ l1) &&& 4)), some (.int 0)]) (pc := 61) dX4_quaternionProduct_61 (Nat.le_of_ble_eq_true rfl) rfl rfl ?_
            refine V.bipush (pc := 63) dX4_quaternionProduct_63 bp_6 ?_
            refine V.iload_n (pc := 65) dX4_quaternionProduct_65 rfl ?_
            refine V.isub (pc := 66) dX4_quaternionProduct_66 ?_
            refine V.iload_n (pc := 67) dX4_quaternionProduct_67 rfl ?_
            refine V.isub (pc := 68) dX4_quaternionProduct_68 ?_
            refine V.iload (pc := 69) dX4_quaternionProduct_69 rfl ?_
            refine V.if_eq_t (t := 79) (pc := 71) dX4_quaternionProduct_71 (by decide) (by decide) ?_
            refine V.iload (pc := 79) dX4_quaternionProduct_79 rfl ?_
            refine V.iconst (pc := 81) dX4_quaternionProduct_81 ic_4 ?_
            refine V.ixor (pc := 82) dX4_quaternionProduct_82 ?_
            refine V.iadd (pc := 83) dX4_quaternionProduct_83 ?_
            subst h
            exact V.iret (pc := 84) dX4_quaternionProduct_84 rfl (Nat.le_refl _) (Nat.le_refl _)
        · refine V.icmp_ne_t (t := 50) (pc := 43) dX4_quaternionProduct_43 (by decide) c ?_
          refine V.iload_n (pc := 50) dX4_quaternionProduct_50 rfl ?_
          refine V.iconst (pc := 51) dX4_quaternionProduct_51 ic_1 ?_
          refine V.iadd (pc := 52) dX4_quaternionProduct_52 ?_
          rcases ite_e h with ⟨c, h⟩ | ⟨c, h⟩
          · refine V.icmp_ne_f (t := 60) (pc := 53) dX4_quaternionProduct_53 (by decide) c ?_
            refine V.iconst (pc := 56) dX4_quaternionProduct_56 ic_1 ?_
            refine V.goto (t := 61) (pc := 57) dX4_quaternionProduct_57 (by decide) ?_
            refine V.istore (lv' := [some (.int l0), some (.int l1), some (.int (l0 &&& 3)), some (.int (l1 &&& 3)), some (.int ((l0 ^^^ l1) &&& 4)), some (.int 1)]) (pc := 61) dX4_quaternionProduct_61 (Nat.le_of_ble_eq_true rfl) rfl rfl ?_
            refine V.bipush (pc := 63) dX4_quaternionProduct_63 bp_6 ?_
            refine V.iload_n (pc := 65) dX4_quaternionProduct_65 rfl ?_
            refine V.isub (pc := 66) dX4_quaternionProduct_66 ?_
            refine V.iload_n (pc := 67) dX4_quaternionProduct_67 rfl ?_
            refine V.isub (pc := 68) dX4_quaternionProduct_68 ?_
            refine V.iload (pc := 69) dX4_quaternionProduct_69 rfl ?_
            refine V.if_eq_f (t := 79) (pc := 71) dX4_quaternionProduct_71 (by decide) (by decide) ?_
            refine V.iload (pc := 74) dX4_quaternionProduct_74 rfl ?_
            refine V.goto (t := 83) (pc := 76) dX4_quaternionProduct_76 (by decide) ?_
            refine V.iadd (pc := 83) dX4_quaternionProduct_83 ?_
            subst h
            exact V.iret (pc := 84) dX4_quaternionProduct_84 rfl (Nat.le_refl _) (Nat.le_refl _)
          · refine V.icmp_ne_t (t := 60) (pc := 53) dX4_quaternionProduct_53 (by decide) c ?_
            refine V.iconst (pc := 60) dX4_quaternionProduct_60 ic_0 ?_
            refine V.istore (lv' := [some (.int l0), some (.int l1), some (.int (l0 &&& 3)), some (.int (l1 &&& 3)), some (.int ((l0 ^^^ l1) &&& 4)), some (.int 0)]) (pc := 61) dX4_quaternionProduct_61 (Nat.le_of_ble_eq_true rfl) rfl rfl ?_
            refine V.bipush (pc := 63) dX4_quaternionProduct_63 bp_6 ?_
            refine V.iload_n (pc := 65) dX4_quaternionProduct_65 rfl ?_
            refine V.isub (pc := 66) dX4_quaternionProduct_66 ?_
            refine V.iload_n (pc := 67) dX4_quaternionProduct_67 rfl ?_
            refine V.isub (pc := 68) dX4_quaternionProduct_68 ?_
            refine V.iload (pc := 69) dX4_quaternionProduct_69 rfl ?_
            refine V.if_eq_t (t := 79) (pc := 71) dX4_quaternionProduct_71 (by decide) (by decide) ?_
            refine V.iload (pc := 79) dX4_quaternionProduct_79 rfl ?_
            refine V.iconst (pc := 81) dX4_quaternionProduct_81 ic_4 ?_
            refine V.ixor (pc := 82) dX4_quaternionProduct_82 ?_
            refine V.iadd (pc := 83) dX4_quaternionProduct_83 ?_
            subst h
            exact V.iret (pc := 84) dX4_quaternionProduct_84 rfl (Nat.le_refl _) (Nat.le_refl _)
theorem dX4_factorProduct_0 : decode cX4_factorProduct 0 = .ok (.iload_n 0, 1) := by decide +kernel
theorem dX4_factorProduct_1 : decode cX4_factorProduct 1 = .ok (.ifCond .ne 11, 3) := by decide +kernel
theorem dX4_factorProduct_4 : decode cX4_factorProduct 4 = .ok (.iload_n 2, 1) := by decide +kernel
theorem dX4_factorProduct_5 : decode cX4_factorProduct 5 = .ok (.iload_n 3, 1) := by decide +kernel
theorem dX4_factorProduct_6 : decode cX4_factorProduct 6 = .ok (.iadd, 1) := by decide +kernel
theorem dX4_factorProduct_7 : decode cX4_factorProduct 7 = .ok (.iload_n 1, 1) := by decide +kernel
theorem dX4_factorProduct_8 : decode cX4_factorProduct 8 = .ok (.invokestatic 70, 3) := by decide +kernel
theorem dX4_factorProduct_11 : decode cX4_factorProduct 11 = .ok (.ireturn, 1) := by decide +kernel
theorem dX4_factorProduct_12 : decode cX4_factorProduct 12 = .ok (.iload_n 0, 1) := by decide +kernel
theorem dX4_factorProduct_13 : decode cX4_factorProduct 13 = .ok (.iconst 2, 1) := by decide +kernel
theorem dX4_factorProduct_14 : decode cX4_factorProduct 14 = .ok (.if_icmp .ne 9, 3) := by decide +kernel
theorem dX4_factorProduct_17 : decode cX4_factorProduct 17 = .ok (.iload_n 2, 1) := by decide +kernel
theorem dX4_factorProduct_18 : decode cX4_factorProduct 18 = .ok (.iload_n 3, 1) := by decide +kernel
theorem dX4_factorProduct_19 : decode cX4_factorProduct 19 = .ok (.invokestatic 73, 3) := by decide +kernel
theorem dX4_factorProduct_22 : decode cX4_factorProduct 22 = .ok (.ireturn, 1) := by decide +kernel
theorem dX4_factorProduct_23 : decode cX4_factorProduct 23 = .ok (.iload_n 2, 1) := by decide +kernel
theorem dX4_factorProduct_24 : decode cX4_factorProduct 24 = .ok (.iload_n 1, 1) := by decide +kernel
theorem dX4_factorProduct_25 : decode cX4_factorProduct 25 = .ok (.invokestatic 70, 3) := by decide +kernel
theorem dX4_factorProduct_28 : decode cX4_factorProduct 28 = .ok (.istore 4, 2) := by decide +kernel
theorem dX4_factorProduct_30 : decode cX4_factorProduct 30 = .ok (.iload_n 3, 1) := by decide +kernel
theorem dX4_factorProduct_31 : decode cX4_factorProduct 31 = .ok (.iload_n 1, 1) := by decide +kernel
theorem dX4_factorProduct_32 : decode cX4_factorProduct 32 = .ok (.invokestatic 70, 3) := by decide +kernel
theorem dX4_factorProduct_35 : decode cX4_factorProduct 35 = .ok (.istore 5, 2) := by decide +kernel
theorem dX4_factorProduct_37 : decode cX4_factorProduct 37 = .ok (.iload_n 2, 1) := by decide +kernel
theorem dX4_factorProduct_38 : decode cX4_factorProduct 38 = .ok (.iload_n 1, 1) := by decide +kernel
theorem dX4_factorProduct_39 : decode cX4_factorProduct 39 = .ok (.if_icmp .lt 7, 3) := by decide +kernel
theorem dX4_factorProduct_42 : decode cX4_factorProduct 42 = .ok (.iconst 1, 1) := by decide +kernel
theorem dX4_factorProduct_43 : decode cX4_factorProduct 43 = .ok (.goto 4, 3) := by decide +kernel
theorem dX4_factorProduct_46 : decode cX4_factorProduct 46 = .ok (.iconst 0, 1) := by decide +kernel
theorem dX4_factorProduct_47 : decode cX4_factorProduct 47 = .ok (.istore 6, 2) := by decide +kernel
theorem dX4_factorProduct_49 : decode cX4_factorProduct 49 = .ok (.iload 6, 2) := by decide +kernel
theorem dX4_factorProduct_51 : decode cX4_factorProduct 51 = .ok (.ifCond .eq 17, 3) := by decide +kernel
theorem dX4_factorProduct_54 : decode cX4_factorProduct 54 = .ok (.iload 4, 2) := by decide +kernel
theorem dX4_factorProduct_56 : decode cX4_factorProduct 56 = .ok (.iload_n 1, 1) := by decide +kernel
theorem dX4_factorProduct_57 : decode cX4_factorProduct 57 = .ok (.iadd, 1) := by decide +kernel
theorem dX4_factorProduct_58 : decode cX4_factorProduct 58 = .ok (.iload 5, 2) := by decide +kernel
theorem dX4_factorProduct_60 : decode cX4_factorProduct 60 = .ok (.isub, 1) := by decide +kernel
theorem dX4_factorProduct_61 : decode cX4_factorProduct 61 = .ok (.iload_n 1, 1) := by decide +kernel
theorem dX4_factorProduct_62 : decode cX4_factorProduct 62 = .ok (.invokestatic 70, 3) := by decide +kernel
theorem dX4_factorProduct_65 : decode cX4_factorProduct 65 = .ok (.goto 12, 3) := by decide +kernel
theorem dX4_factorProduct_68 : decode cX4_factorProduct 68 = .ok (.iload 4, 2) := by decide +kernel
theorem dX4_factorProduct_70 : decode cX4_factorProduct 70 = .ok (.iload 5, 2) := by decide +kernel
theorem dX4_factorProduct_72 : decode cX4_factorProduct 72 = .ok (.iadd, 1) := by decide +kernel
theorem dX4_factorProduct_73 : decode cX4_factorProduct 73 = .ok (.iload_n 1, 1) := by decide +kernel
theorem dX4_factorProduct_74 : decode cX4_factorProduct 74 = .ok (.invokestatic 70, 3) := by decide +kernel
theorem dX4_factorProduct_77 : decode cX4_factorProduct 77 = .ok (.istore 7, 2) := by decide +kernel
theorem dX4_factorProduct_79 : decode cX4_factorProduct 79 = .ok (.iload 6, 2) := by decide +kernel
theorem dX4_factorProduct_81 : decode cX4_factorProduct 81 = .ok (.iload_n 3, 1) := by decide +kernel
theorem dX4_factorProduct_82 : decode cX4_factorProduct 82 = .ok (.iload_n 1, 1) := by decide +kernel
theorem dX4_factorProduct_83 : decode cX4_factorProduct 83 = .ok (.if_icmp .lt 7, 3) := by decide +kernel
theorem dX4_factorProduct_86 : decode cX4_factorProduct 86 = .ok (.iconst 1, 1) := by decide +kernel
theorem dX4_factorProduct_87 : decode cX4_factorProduct 87 = .ok (.goto 4, 3) := by decide +kernel
theorem dX4_factorProduct_90 : decode cX4_factorProduct 90 = .ok (.iconst 0, 1) := by decide +kernel
theorem dX4_factorProduct_91 : decode cX4_factorProduct 91 = .ok (.if_icmp .ne 8, 3) := by decide +kernel
theorem dX4_factorProduct_94 : decode cX4_factorProduct 94 = .ok (.iload 7, 2) := by decide +kernel
theorem dX4_factorProduct_96 : decode cX4_factorProduct 96 = .ok (.goto 7, 3) := by decide +kernel
theorem dX4_factorProduct_99 : decode cX4_factorProduct 99 = .ok (.iload 7, 2) := by decide +kernel
theorem dX4_factorProduct_101 : decode cX4_factorProduct 101 = .ok (.iload_n 1, 1) := by decide +kernel
theorem dX4_factorProduct_102 : decode cX4_factorProduct 102 = .ok (.iadd, 1) := by decide +kernel
theorem dX4_factorProduct_103 : decode cX4_factorProduct 103 = .ok (.ireturn, 1) := by decide +kernel
def f_X4_factorProduct (l0 : Int32) (l1 : Int32) (l2 : Int32) (l3 : Int32) : Int32 :=
  if l0 = 0 then
    (f_X4_wrapped (l2 + l3) l1)
  else
    if l0 = 2 then
      (f_X4_quaternionProduct l2 l3)
    else
      if l2 < l1 then
        if l3 < l1 then
          (f_X4_wrapped ((f_X4_wrapped l2 l1) + (f_X4_wrapped l3 l1)) l1)
        else
          ((f_X4_wrapped ((f_X4_wrapped l2 l1) + (f_X4_wrapped l3 l1)) l1) + l1)
      else
        if l3 < l1 then
          ((f_X4_wrapped (((f_X4_wrapped l2 l1) + l1) - (f_X4_wrapped l3 l1)) l1) + l1)
        else
          (f_X4_wrapped (((f_X4_wrapped l2 l1) + l1) - (f_X4_wrapped l3 l1)) l1)
set_option maxHeartbeats 4000000 in
set_option maxRecDepth 100000 in
theorem ok_X4_factorProduct {G : GT} {d : Nat} (hd : 1 ≤ d) {w : Wd} (l0 : Int32) (l1 : Int32) (l2 : Int32) (l3 : Int32) : uC G yX4_factorProduct mX4_factorProduct d [.int l0, .int l1, .int l2, .int l3] w (some (.int (f_X4_factorProduct l0 l1 l2 l3))) w := by
  obtain ⟨d, rfl⟩ : ∃ e, d = e + 1 := ⟨d - 1, by omega⟩
  suffices key : ∀ r, f_X4_factorProduct l0 l1 l2 l3 = r → uC G yX4_factorProduct mX4_factorProduct (d + 1) [.int l0, .int l1, .int l2, .int l3] w (some (.int r)) w from key _ rfl
  intro r h
  unfold f_X4_factorProduct at h
  refine uC_of (lv := [some (.int l0), some (.int l1), some (.int l2), some (.int l3), none, none, none, none]) 4 pn_X4 ⟨rfl, rfl⟩ (Nat.le_of_ble_eq_true rfl) rfl ?_
  refine V.iload_n (pc := 0) dX4_factorProduct_0 rfl ?_
  rcases ite_e h with ⟨c, h⟩ | ⟨c, h⟩
  · refine V.if_ne_f (t := 12) (pc := 1) dX4_factorProduct_1 (by decide) c ?_
    refine V.iload_n (pc := 4) dX4_factorProduct_4 rfl ?_
    refine V.iload_n (pc := 5) dX4_factorProduct_5 rfl ?_
    refine V.iadd (pc := 6) dX4_factorProduct_6 ?_
    refine V.iload_n (pc := 7) dX4_factorProduct_7 rfl ?_
    refine U.callS (pc := 8) (As := [.int (l2 + l3), .int l1]) (st := []) dX4_factorProduct_8 l_RX4_70 (ok_X4_wrapped (by omega) (l2 + l3) l1 ) (Nat.le_of_ble_eq_true rfl) rfl rfl (Nat.le_of_ble_eq_true rfl) ?_
    subst h
    exact V.iret (pc := 11) dX4_factorProduct_11 rfl (Nat.le_refl _) (Nat.le_refl _)
  · refine V.if_ne_t (t := 12) (pc := 1) dX4_factorProduct_1 (by decide) c ?_
    refine V.iload_n (pc := 12) dX4_factorProduct_12 rfl ?_
    refine V.iconst (pc := 13) dX4_factorProduct_13 ic_2 ?_
    rcases ite_e h with ⟨c, h⟩ | ⟨c, h⟩
    · refine V.icmp_ne_f (t := 23) (pc := 14) dX4_factorProduct_14 (by decide) c ?_
      refine V.iload_n (pc := 17) dX4_factorProduct_17 rfl ?_
      refine V.iload_n (pc := 18) dX4_factorProduct_18 rfl ?_
      refine U.callS (pc := 19) (As := [.int l2, .int l3]) (st := []) dX4_factorProduct_19 l_RX4_73 (ok_X4_quaternionProduct (by omega) l2 l3 ) (Nat.le_of_ble_eq_true rfl) rfl rfl (Nat.le_of_ble_eq_true rfl) ?_
      subst h
      exact V.iret (pc := 22) dX4_factorProduct_22 rfl (Nat.le_refl _) (Nat.le_refl _)
    · refine V.icmp_ne_t (t := 23) (pc := 14) dX4_factorProduct_14 (by decide) c ?_
      refine V.iload_n (pc := 23) dX4_factorProduct_23 rfl ?_
      refine V.iload_n (pc := 24) dX4_factorProduct_24 rfl ?_
      refine U.callS (pc := 25) (As := [.int l2, .int l1]) (st := []) dX4_factorProduct_25 l_RX4_70 (ok_X4_wrapped (by omega) l2 l1 ) (Nat.le_of_ble_eq_true rfl) rfl rfl (Nat.le_of_ble_eq_true rfl) ?_
      refine V.istore (lv' := [some (.int l0), some (.int l1), some (.int l2), some (.int l3), some (.int (f_X4_wrapped l2 l1)), none, none, none]) (pc := 28) dX4_factorProduct_28 (Nat.le_of_ble_eq_true rfl) rfl rfl ?_
      refine V.iload_n (pc := 30) dX4_factorProduct_30 rfl ?_
      refine V.iload_n (pc := 31) dX4_factorProduct_31 rfl ?_
      refine U.callS (pc := 32) (As := [.int l3, .int l1]) (st := []) dX4_factorProduct_32 l_RX4_70 (ok_X4_wrapped (by omega) l3 l1 ) (Nat.le_of_ble_eq_true rfl) rfl rfl (Nat.le_of_ble_eq_true rfl) ?_
      refine V.istore (lv' := [some (.int l0), some (.int l1), some (.int l2), some (.int l3), some (.int (f_X4_wrapped l2 l1)), some (.int (f_X4_wrapped l3 l1)), none, none]) (pc := 35) dX4_factorProduct_35 (Nat.le_of_ble_eq_true rfl) rfl rfl ?_
      refine V.iload_n (pc := 37) dX4_factorProduct_37 rfl ?_
      refine V.iload_n (pc := 38) dX4_factorProduct_38 rfl ?_
      rcases ite_e h with ⟨c, h⟩ | ⟨c, h⟩
      · refine V.icmp_lt_t (t := 46) (pc := 39) dX4_factorProduct_39 (by decide) c ?_
        refine V.iconst (pc := 46) dX4_factorProduct_46 ic_0 ?_
        refine V.istore (lv' := [some (.int l0), some (.int l1), some (.int l2), some (.int l3), some (.int (f_X4_wrapped l2 l1)), some (.int (f_X4_wrapped l3 l1)), some (.int 0), none]) (pc := 47) dX4_factorProduct_47 (Nat.le_of_ble_eq_true rfl) rfl rfl ?_
        refine V.iload (pc := 49) dX4_factorProduct_49 rfl ?_
        refine V.if_eq_t (t := 68) (pc := 51) dX4_factorProduct_51 (by decide) (by decide) ?_
        refine V.iload (pc := 68) dX4_factorProduct_68 rfl ?_
        refine V.iload (pc := 70) dX4_factorProduct_70 rfl ?_
        refine V.iadd (pc := 72) dX4_factorProduct_72 ?_
        refine V.iload_n (pc := 73) dX4_factorProduct_73 rfl ?_
        refine U.callS (pc := 74) (As := [.int ((f_X4_wrapped l2 l1) + (f_X4_wrapped l3 l1)), .int l1]) (st := []) dX4_factorProduct_74 l_RX4_70 (ok_X4_wrapped (by omega) ((f_X4_wrapped l2 l1) + (f_X4_wrapped l3 l1)) l1 ) (Nat.le_of_ble_eq_true rfl) rfl rfl (Nat.le_of_ble_eq_true rfl) ?_
        refine V.istore (lv' := [some (.int l0), some (.int l1), some (.int l2), some (.int l3), some (.int (f_X4_wrapped l2 l1)), some (.int (f_X4_wrapped l3 l1)), some (.int 0), some (.int (f_X4_wrapped ((f_X4_wrapped l2 l1) + (f_X4_wrapped l3 l1)) l1))]) (pc := 77) dX4_factorProduct_77 (Nat.le_of_ble_eq_true rfl) rfl rfl ?_
        refine V.iload (pc := 79) dX4_factorProduct_79 rfl ?_
        refine V.iload_n (pc := 81) dX4_factorProduct_81 rfl ?_
        refine V.iload_n (pc := 82) dX4_factorProduct_82 rfl ?_
        rcases ite_e h with ⟨c, h⟩ | ⟨c, h⟩
        · refine V.icmp_lt_t (t := 90) (pc := 83) dX4_factorProduct_83 (by decide) c ?_
          refine V.iconst (pc := 90) dX4_factorProduct_90 ic_0 ?_
          refine V.icmp_ne_f (t := 99) (pc := 91) dX4_factorProduct_91 (by decide) (by decide) ?_
          refine V.iload (pc := 94) dX4_factorProduct_94 rfl ?_
          refine V.goto (t := 103) (pc := 96) dX4_factorProduct_96 (by decide) ?_
          subst h
          exact V.iret (pc := 103) dX4_factorProduct_103 rfl (Nat.le_refl _) (Nat.le_refl _)
        · refine V.icmp_lt_f (t := 90) (pc := 83) dX4_factorProduct_83 (by decide) c ?_
          refine V.iconst (pc := 86) dX4_factorProduct_86 ic_1 ?_
          refine V.goto (t := 91) (pc := 87) dX4_factorProduct_87 (by decide) ?_
          refine V.icmp_ne_t (t := 99) (pc := 91) dX4_factorProduct_91 (by decide) (by decide) ?_
          refine V.iload (pc := 99) dX4_factorProduct_99 rfl ?_
          refine V.iload_n (pc := 101) dX4_factorProduct_101 rfl ?_
          refine V.iadd (pc := 102) dX4_factorProduct_102 ?_
          subst h
          exact V.iret (pc := 103) dX4_factorProduct_103 rfl (Nat.le_refl _) (Nat.le_refl _)
      · refine V.icmp_lt_f (t := 46) (pc := 39) dX4_factorProduct_39 (by decide) c ?_
        refine V.iconst (pc := 42) dX4_factorProduct_42 ic_1 ?_
        refine V.goto (t := 47) (pc := 43) dX4_factorProduct_43 (by decide) ?_
        refine V.istore (lv' := [some (.int l0), some (.int l1), some (.int l2), some (.int l3), some (.int (f_X4_wrapped l2 l1)), some (.int (f_X4_wrapped l3 l1)), some (.int 1), none]) (pc := 47) dX4_factorProduct_47 (Nat.le_of_ble_eq_true rfl) rfl rfl ?_
        refine V.iload (pc := 49) dX4_factorProduct_49 rfl ?_
        refine V.if_eq_f (t := 68) (pc := 51) dX4_factorProduct_51 (by decide) (by decide) ?_
        refine V.iload (pc := 54) dX4_factorProduct_54 rfl ?_
        refine V.iload_n (pc := 56) dX4_factorProduct_56 rfl ?_
        refine V.iadd (pc := 57) dX4_factorProduct_57 ?_
        refine V.iload (pc := 58) dX4_factorProduct_58 rfl ?_
        refine V.isub (pc := 60) dX4_factorProduct_60 ?_
        refine V.iload_n (pc := 61) dX4_factorProduct_61 rfl ?_
        refine U.callS (pc := 62) (As := [.int (((f_X4_wrapped l2 l1) + l1) - (f_X4_wrapped l3 l1)), .int l1]) (st := []) dX4_factorProduct_62 l_RX4_70 (ok_X4_wrapped (by omega) (((f_X4_wrapped l2 l1) + l1) - (f_X4_wrapped l3 l1)) l1 ) (Nat.le_of_ble_eq_true rfl) rfl rfl (Nat.le_of_ble_eq_true rfl) ?_
        refine V.goto (t := 77) (pc := 65) dX4_factorProduct_65 (by decide) ?_
        refine V.istore (lv' := [some (.int l0), some (.int l1), some (.int l2), some (.int l3), some (.int (f_X4_wrapped l2 l1)), some (.int (f_X4_wrapped l3 l1)), some (.int 1), some (.int (f_X4_wrapped (((f_X4_wrapped l2 l1) + l1) - (f_X4_wrapped l3 l1)) l1))]) (pc := 77) dX4_factorProduct_77 (Nat.le_of_ble_eq_true rfl) rfl rfl ?_
        refine V.iload (pc := 79) dX4_factorProduct_79 rfl ?_
        refine V.iload_n (pc := 81) dX4_factorProduct_81 rfl ?_
        refine V.iload_n (pc := 82) dX4_factorProduct_82 rfl ?_
        rcases ite_e h with ⟨c, h⟩ | ⟨c, h⟩
        · refine V.icmp_lt_t (t := 90) (pc := 83) dX4_factorProduct_83 (by decide) c ?_
          refine V.iconst (pc := 90) dX4_factorProduct_90 ic_0 ?_
          refine V.icmp_ne_t (t := 99) (pc := 91) dX4_factorProduct_91 (by decide) (by decide) ?_
          refine V.iload (pc := 99) dX4_factorProduct_99 rfl ?_
          refine V.iload_n (pc := 101) dX4_factorProduct_101 rfl ?_
          refine V.iadd (pc := 102) dX4_factorProduct_102 ?_
          subst h
          exact V.iret (pc := 103) dX4_factorProduct_103 rfl (Nat.le_refl _) (Nat.le_refl _)
        · refine V.icmp_lt_f (t := 90) (pc := 83) dX4_factorProduct_83 (by decide) c ?_
          refine V.iconst (pc := 86) dX4_factorProduct_86 ic_1 ?_
          refine V.goto (t := 91) (pc := 87) dX4_factorProduct_87 (by decide) ?_
          refine V.icmp_ne_f (t := 99) (pc := 91) dX4_factorProduct_91 (by decide) (by decide) ?_
          refine V.iload (pc := 94) dX4_factorProduct_94 rfl ?_
          refine V.goto (t := 103) (pc := 96) dX4_factorProduct_96 (by decide) ?_
          subst h
          exact V.iret (pc := 103) dX4_factorProduct_103 rfl (Nat.le_refl _) (Nat.le_refl _)
theorem dX4_addBlock_0 : decode cX4_addBlock 0 = .ok (.iconst 0, 1) := by decide +kernel
theorem dX4_addBlock_1 : decode cX4_addBlock 1 = .ok (.istore 5, 2) := by decide +kernel
theorem dX4_addBlock_3 : decode cX4_addBlock 3 = .ok (.iload 5, 2) := by decide +kernel
theorem dX4_addBlock_5 : decode cX4_addBlock 5 = .ok (.iload_n 1, 1) := by decide +kernel
theorem dX4_addBlock_6 : decode cX4_addBlock 6 = .ok (.if_icmp .ge 58, 3) := by decide +kernel
theorem dX4_addBlock_9 : decode cX4_addBlock 9 = .ok (.iconst 0, 1) := by decide +kernel
theorem dX4_addBlock_10 : decode cX4_addBlock 10 = .ok (.istore 6, 2) := by decide +kernel
theorem dX4_addBlock_12 : decode cX4_addBlock 12 = .ok (.iload 6, 2) := by decide +kernel
theorem dX4_addBlock_14 : decode cX4_addBlock 14 = .ok (.iload_n 1, 1) := by decide +kernel
theorem dX4_addBlock_15 : decode cX4_addBlock 15 = .ok (.if_icmp .ge 43, 3) := by decide +kernel
theorem dX4_addBlock_18 : decode cX4_addBlock 18 = .ok (.aload_n 0, 1) := by decide +kernel
theorem dX4_addBlock_19 : decode cX4_addBlock 19 = .ok (.getfield 18, 3) := by decide +kernel
theorem dX4_addBlock_22 : decode cX4_addBlock 22 = .ok (.iload_n 2, 1) := by decide +kernel
theorem dX4_addBlock_23 : decode cX4_addBlock 23 = .ok (.iload 5, 2) := by decide +kernel
theorem dX4_addBlock_25 : decode cX4_addBlock 25 = .ok (.iadd, 1) := by decide +kernel
theorem dX4_addBlock_26 : decode cX4_addBlock 26 = .ok (.bipush 15, 2) := by decide +kernel
theorem dX4_addBlock_28 : decode cX4_addBlock 28 = .ok (.iand, 1) := by decide +kernel
theorem dX4_addBlock_29 : decode cX4_addBlock 29 = .ok (.bipush 16, 2) := by decide +kernel
theorem dX4_addBlock_31 : decode cX4_addBlock 31 = .ok (.imul, 1) := by decide +kernel
theorem dX4_addBlock_32 : decode cX4_addBlock 32 = .ok (.iload_n 3, 1) := by decide +kernel
theorem dX4_addBlock_33 : decode cX4_addBlock 33 = .ok (.iload 6, 2) := by decide +kernel
theorem dX4_addBlock_35 : decode cX4_addBlock 35 = .ok (.iadd, 1) := by decide +kernel
theorem dX4_addBlock_36 : decode cX4_addBlock 36 = .ok (.bipush 15, 2) := by decide +kernel
theorem dX4_addBlock_38 : decode cX4_addBlock 38 = .ok (.iand, 1) := by decide +kernel
theorem dX4_addBlock_39 : decode cX4_addBlock 39 = .ok (.iadd, 1) := by decide +kernel
theorem dX4_addBlock_40 : decode cX4_addBlock 40 = .ok (.aload_n 0, 1) := by decide +kernel
theorem dX4_addBlock_41 : decode cX4_addBlock 41 = .ok (.iload 5, 2) := by decide +kernel
theorem dX4_addBlock_43 : decode cX4_addBlock 43 = .ok (.iload 6, 2) := by decide +kernel
theorem dX4_addBlock_45 : decode cX4_addBlock 45 = .ok (.invokevirtual 58, 3) := by decide +kernel
theorem dX4_addBlock_48 : decode cX4_addBlock 48 = .ok (.iload 4, 2) := by decide +kernel
theorem dX4_addBlock_50 : decode cX4_addBlock 50 = .ok (.iadd, 1) := by decide +kernel
theorem dX4_addBlock_51 : decode cX4_addBlock 51 = .ok (.iastore, 1) := by decide +kernel
theorem dX4_addBlock_52 : decode cX4_addBlock 52 = .ok (.iinc 6 1, 3) := by decide +kernel
theorem dX4_addBlock_55 : decode cX4_addBlock 55 = .ok (.goto (-43), 3) := by decide +kernel
theorem dX4_addBlock_58 : decode cX4_addBlock 58 = .ok (.iinc 5 1, 3) := by decide +kernel
theorem dX4_addBlock_61 : decode cX4_addBlock 61 = .ok (.goto (-58), 3) := by decide +kernel
theorem dX4_addBlock_64 : decode cX4_addBlock 64 = .ok (.return_, 1) := by decide +kernel
def f_X4_addBlock_B12b (k3 : Int32 → Int32 → Int32 → Int32 → Int32 → Wd → Option Wd) (k12 : Int32 → Int32 → Int32 → Int32 → Int32 → Int32 → Wd → Option Wd) (l1 : Int32) (l2 : Int32) (l3 : Int32) (l4 : Int32) (l5 : Int32) (l6 : Int32) (w : Wd) : Option Wd :=
  if l1 ≤ l6 then
    k3 l1 l2 l3 l4 (l5 + 1) w
  else
    bnd (f_X4_times l5 l6 w) fun x1 =>
    wrI w 9 256 ((((l2 + l5) &&& 15) * 16) + ((l3 + l6) &&& 15)) (x1 + l4) fun w2 =>
    k12 l1 l2 l3 l4 l5 (l6 + 1) w2
def f_X4_addBlock_L12 (k3 : Int32 → Int32 → Int32 → Int32 → Int32 → Wd → Option Wd) (n : Nat) : Int32 → Int32 → Int32 → Int32 → Int32 → Int32 → Wd → Option Wd :=
  Nat.rec (fun _ _ _ _ _ _ _ => none) (fun _ k => f_X4_addBlock_B12b k3 k) n
set_option maxHeartbeats 4000000 in
set_option maxRecDepth 100000 in
theorem t_X4_addBlock_L12 {G : GT} {d : Nat} {k3 : Int32 → Int32 → Int32 → Int32 → Int32 → Wd → Option Wd} (hd : 1 ≤ d + 1) (h3 : ∀ (l1 : Int32) (l2 : Int32) (l3 : Int32) (l4 : Int32) (l5 : Int32) (w : Wd) (w' : Wd), k3 l1 l2 l3 l4 l5 w = some w' → U (vf G mX4_addBlock (d + 1)) 3 [some (.ref 6), some (.int l1), some (.int l2), some (.int l3), some (.int l4), some (.int l5), none] [] w (none, 70, r0, w')) : ∀ (n : Nat) (l1 : Int32) (l2 : Int32) (l3 : Int32) (l4 : Int32) (l5 : Int32) (l6 : Int32) (w : Wd) (w' : Wd), f_X4_addBlock_L12 k3 n l1 l2 l3 l4 l5 l6 w = some w' → U (vf G mX4_addBlock (d + 1)) 12 [some (.ref 6), some (.int l1), some (.int l2), some (.int l3), some (.int l4), some (.int l5), some (.int l6)] [] w (none, 70, r0, w') := by
  intro n
  induction n with
  | zero => intro l1 l2 l3 l4 l5 l6 w w' h; cases h
  | succ n h12 =>
    intro l1 l2 l3 l4 l5 l6 w w' h
    have h : f_X4_addBlock_B12b k3 (f_X4_addBlock_L12 k3 n) l1 l2 l3 l4 l5 l6 w = some w' := h
    unfold f_X4_addBlock_B12b at h
    refine V.iload (pc := 12) dX4_addBlock_12 rfl ?_
    refine V.iload_n (pc := 14) dX4_addBlock_14 rfl ?_
    rcases ite_e h with ⟨c, h⟩ | ⟨c, h⟩
    · refine V.icmp_ge_t (t := 58) (pc := 15) dX4_addBlock_15 (by decide) c ?_
      refine V.iinc (lv' := [some (.ref 6), some (.int l1), some (.int l2), some (.int l3), some (.int l4), some (.int (l5 + 1)), some (.int l6)]) (pc := 58) dX4_addBlock_58 (Nat.le_of_ble_eq_true rfl) rfl rfl (v := (l5 + 1)) (by rw [show Int32.ofInt 1 = 1 from by decide]) rfl ?_
      refine V.goto (t := 3) (pc := 61) dX4_addBlock_61 (by decide) ?_
      refine V.weak (lv' := [some (.ref 6), some (.int l1), some (.int l2), some (.int l3), some (.int l4), some (.int (l5 + 1)), none]) (And.intro rfl (And.intro rfl (And.intro rfl (And.intro rfl (And.intro rfl (And.intro rfl trivial)))))) ?_
      exact h3 l1 l2 l3 l4 (l5 + 1) w _ h
    · refine V.icmp_ge_f (t := 58) (pc := 15) dX4_addBlock_15 (by decide) c ?_
      refine V.aload_n (pc := 18) dX4_addBlock_18 rfl ?_
      refine V.getR (t := 9) (pc := 19) dX4_addBlock_19 f_RX4_18 k_cl4 lx_6 ly_6 rb_4_2 rr_6_2 ?_
      refine V.iload_n (pc := 22) dX4_addBlock_22 rfl ?_
      refine V.iload (pc := 23) dX4_addBlock_23 rfl ?_
      refine V.iadd (pc := 25) dX4_addBlock_25 ?_
      refine V.bipush (pc := 26) dX4_addBlock_26 bp_15 ?_
      refine V.iand (pc := 28) dX4_addBlock_28 ?_
      refine V.bipush (pc := 29) dX4_addBlock_29 bp_16 ?_
      refine V.imul (pc := 31) dX4_addBlock_31 ?_
      refine V.iload_n (pc := 32) dX4_addBlock_32 rfl ?_
      refine V.iload (pc := 33) dX4_addBlock_33 rfl ?_
      refine V.iadd (pc := 35) dX4_addBlock_35 ?_
      refine V.bipush (pc := 36) dX4_addBlock_36 bp_15 ?_
      refine V.iand (pc := 38) dX4_addBlock_38 ?_
      refine V.iadd (pc := 39) dX4_addBlock_39 ?_
      refine V.aload_n (pc := 40) dX4_addBlock_40 rfl ?_
      refine V.iload (pc := 41) dX4_addBlock_41 rfl ?_
      refine V.iload (pc := 43) dX4_addBlock_43 rfl ?_
      obtain ⟨x1, ex1, h⟩ := bnd_e h
      refine U.callV (pc := 45) (As := [.int l5, .int l6]) (st := [.int ((((l2 + l5) &&& 15) * 16) + ((l3 + l6) &&& 15)), .ref 9]) dX4_addBlock_45 l_RX4_58 (ok_X4_times (by omega) l5 l6 ex1) lx_6 ly_6 cn_4 (Nat.le_of_ble_eq_true rfl) rfl rfl (Nat.le_of_ble_eq_true rfl) ?_
      refine V.iload (pc := 48) dX4_addBlock_48 rfl ?_
      refine V.iadd (pc := 50) dX4_addBlock_50 ?_
      obtain ⟨w2, iw2, ew2, h⟩ := wrI_e h
      refine V.iastX (pc := 51) dX4_addBlock_51 lx_9 ly_9 iw2 ew2 ?_
      refine V.iinc (lv' := [some (.ref 6), some (.int l1), some (.int l2), some (.int l3), some (.int l4), some (.int l5), some (.int (l6 + 1))]) (pc := 52) dX4_addBlock_52 (Nat.le_of_ble_eq_true rfl) rfl rfl (v := (l6 + 1)) (by rw [show Int32.ofInt 1 = 1 from by decide]) rfl ?_
      refine V.goto (t := 12) (pc := 55) dX4_addBlock_55 (by decide) ?_
      exact h12 l1 l2 l3 l4 l5 (l6 + 1) w2 _ h
def f_X4_addBlock_B3b (k3 : Int32 → Int32 → Int32 → Int32 → Int32 → Wd → Option Wd) (l1 : Int32) (l2 : Int32) (l3 : Int32) (l4 : Int32) (l5 : Int32) (w : Wd) : Option Wd :=
  if l1 ≤ l5 then
    some w
  else
    f_X4_addBlock_L12 k3 FU l1 l2 l3 l4 l5 0 w
def f_X4_addBlock_L3 (n : Nat) : Int32 → Int32 → Int32 → Int32 → Int32 → Wd → Option Wd :=
  Nat.rec (fun _ _ _ _ _ _ => none) (fun _ k => f_X4_addBlock_B3b k) n
set_option maxHeartbeats 4000000 in
set_option maxRecDepth 100000 in
theorem t_X4_addBlock_L3 {G : GT} {d : Nat} (hd : 1 ≤ d + 1)  : ∀ (n : Nat) (l1 : Int32) (l2 : Int32) (l3 : Int32) (l4 : Int32) (l5 : Int32) (w : Wd) (w' : Wd), f_X4_addBlock_L3 n l1 l2 l3 l4 l5 w = some w' → U (vf G mX4_addBlock (d + 1)) 3 [some (.ref 6), some (.int l1), some (.int l2), some (.int l3), some (.int l4), some (.int l5), none] [] w (none, 70, r0, w') := by
  intro n
  induction n with
  | zero => intro l1 l2 l3 l4 l5 w w' h; cases h
  | succ n h3 =>
    intro l1 l2 l3 l4 l5 w w' h
    have h : f_X4_addBlock_B3b (f_X4_addBlock_L3 n) l1 l2 l3 l4 l5 w = some w' := h
    unfold f_X4_addBlock_B3b at h
    refine V.iload (pc := 3) dX4_addBlock_3 rfl ?_
    refine V.iload_n (pc := 5) dX4_addBlock_5 rfl ?_
    rcases ite_e h with ⟨c, h⟩ | ⟨c, h⟩
    · refine V.icmp_ge_t (t := 64) (pc := 6) dX4_addBlock_6 (by decide) c ?_
      obtain rfl := Option.some.inj h
      exact V.vret (pc := 64) dX4_addBlock_64 rfl (Nat.le_refl _) (Nat.le_refl _)
    · refine V.icmp_ge_f (t := 64) (pc := 6) dX4_addBlock_6 (by decide) c ?_
      refine V.iconst (pc := 9) dX4_addBlock_9 ic_0 ?_
      refine V.istore (lv' := [some (.ref 6), some (.int l1), some (.int l2), some (.int l3), some (.int l4), some (.int l5), some (.int 0)]) (pc := 10) dX4_addBlock_10 (Nat.le_of_ble_eq_true rfl) rfl rfl ?_
      exact t_X4_addBlock_L12 hd h3 FU l1 l2 l3 l4 l5 0 w _ h
def f_X4_addBlock (l1 : Int32) (l2 : Int32) (l3 : Int32) (l4 : Int32) (w : Wd) : Option Wd :=
  f_X4_addBlock_L3  FU l1 l2 l3 l4 0 w
set_option maxHeartbeats 4000000 in
set_option maxRecDepth 100000 in
theorem ok_X4_addBlock {G : GT} {d : Nat} (hd : 1 ≤ d) {w : Wd} (l1 : Int32) (l2 : Int32) (l3 : Int32) (l4 : Int32) {w' : Wd} (h : f_X4_addBlock l1 l2 l3 l4 w = some w') : uC G yX4_addBlock mX4_addBlock d [.ref 6, .int l1, .int l2, .int l3, .int l4] w none w' := by
  obtain ⟨d, rfl⟩ : ∃ e, d = e + 1 := ⟨d - 1, by omega⟩
  unfold f_X4_addBlock at h
  refine uC_of (lv := [some (.ref 6), some (.int l1), some (.int l2), some (.int l3), some (.int l4), none, none]) 2 pn_X4 ⟨rfl, rfl⟩ (Nat.le_of_ble_eq_true rfl) rfl ?_
  refine V.iconst (pc := 0) dX4_addBlock_0 ic_0 ?_
  refine V.istore (lv' := [some (.ref 6), some (.int l1), some (.int l2), some (.int l3), some (.int l4), some (.int 0), none]) (pc := 1) dX4_addBlock_1 (Nat.le_of_ble_eq_true rfl) rfl rfl ?_
  exact t_X4_addBlock_L3 hd FU l1 l2 l3 l4 0 w _ h
theorem dX4_addFactor_0 : decode cX4_addFactor 0 = .ok (.iload_n 1, 1) := by decide +kernel
theorem dX4_addFactor_1 : decode cX4_addFactor 1 = .ok (.ifCond .ne 7, 3) := by decide +kernel
theorem dX4_addFactor_4 : decode cX4_addFactor 4 = .ok (.iload_n 2, 1) := by decide +kernel
theorem dX4_addFactor_5 : decode cX4_addFactor 5 = .ok (.goto 16, 3) := by decide +kernel
theorem dX4_addFactor_8 : decode cX4_addFactor 8 = .ok (.iload_n 1, 1) := by decide +kernel
theorem dX4_addFactor_9 : decode cX4_addFactor 9 = .ok (.iconst 1, 1) := by decide +kernel
theorem dX4_addFactor_10 : decode cX4_addFactor 10 = .ok (.if_icmp .ne 9, 3) := by decide +kernel
theorem dX4_addFactor_13 : decode cX4_addFactor 13 = .ok (.iconst 2, 1) := by decide +kernel
theorem dX4_addFactor_14 : decode cX4_addFactor 14 = .ok (.iload_n 2, 1) := by decide +kernel
theorem dX4_addFactor_15 : decode cX4_addFactor 15 = .ok (.imul, 1) := by decide +kernel
theorem dX4_addFactor_16 : decode cX4_addFactor 16 = .ok (.goto 5, 3) := by decide +kernel
theorem dX4_addFactor_19 : decode cX4_addFactor 19 = .ok (.bipush 8, 2) := by decide +kernel
theorem dX4_addFactor_21 : decode cX4_addFactor 21 = .ok (.istore_n 3, 1) := by decide +kernel
theorem dX4_addFactor_22 : decode cX4_addFactor 22 = .ok (.aload_n 0, 1) := by decide +kernel
theorem dX4_addFactor_23 : decode cX4_addFactor 23 = .ok (.getfield 30, 3) := by decide +kernel
theorem dX4_addFactor_26 : decode cX4_addFactor 26 = .ok (.istore 4, 2) := by decide +kernel
theorem dX4_addFactor_28 : decode cX4_addFactor 28 = .ok (.iconst 0, 1) := by decide +kernel
theorem dX4_addFactor_29 : decode cX4_addFactor 29 = .ok (.istore 5, 2) := by decide +kernel
theorem dX4_addFactor_31 : decode cX4_addFactor 31 = .ok (.iload 5, 2) := by decide +kernel
theorem dX4_addFactor_33 : decode cX4_addFactor 33 = .ok (.iload_n 3, 1) := by decide +kernel
theorem dX4_addFactor_34 : decode cX4_addFactor 34 = .ok (.if_icmp .ge 56, 3) := by decide +kernel
theorem dX4_addFactor_37 : decode cX4_addFactor 37 = .ok (.iconst 0, 1) := by decide +kernel
theorem dX4_addFactor_38 : decode cX4_addFactor 38 = .ok (.istore 6, 2) := by decide +kernel
theorem dX4_addFactor_40 : decode cX4_addFactor 40 = .ok (.iload 6, 2) := by decide +kernel
theorem dX4_addFactor_42 : decode cX4_addFactor 42 = .ok (.iload_n 3, 1) := by decide +kernel
theorem dX4_addFactor_43 : decode cX4_addFactor 43 = .ok (.if_icmp .ge 41, 3) := by decide +kernel
theorem dX4_addFactor_46 : decode cX4_addFactor 46 = .ok (.iload 4, 2) := by decide +kernel
theorem dX4_addFactor_48 : decode cX4_addFactor 48 = .ok (.iload_n 1, 1) := by decide +kernel
theorem dX4_addFactor_49 : decode cX4_addFactor 49 = .ok (.iload_n 2, 1) := by decide +kernel
theorem dX4_addFactor_50 : decode cX4_addFactor 50 = .ok (.iload 5, 2) := by decide +kernel
theorem dX4_addFactor_52 : decode cX4_addFactor 52 = .ok (.iload 6, 2) := by decide +kernel
theorem dX4_addFactor_54 : decode cX4_addFactor 54 = .ok (.invokestatic 62, 3) := by decide +kernel
theorem dX4_addFactor_57 : decode cX4_addFactor 57 = .ok (.imul, 1) := by decide +kernel
theorem dX4_addFactor_58 : decode cX4_addFactor 58 = .ok (.istore 7, 2) := by decide +kernel
theorem dX4_addFactor_60 : decode cX4_addFactor 60 = .ok (.aload_n 0, 1) := by decide +kernel
theorem dX4_addFactor_61 : decode cX4_addFactor 61 = .ok (.iload 4, 2) := by decide +kernel
theorem dX4_addFactor_63 : decode cX4_addFactor 63 = .ok (.iload 4, 2) := by decide +kernel
theorem dX4_addFactor_65 : decode cX4_addFactor 65 = .ok (.iload 5, 2) := by decide +kernel
theorem dX4_addFactor_67 : decode cX4_addFactor 67 = .ok (.imul, 1) := by decide +kernel
theorem dX4_addFactor_68 : decode cX4_addFactor 68 = .ok (.iload 4, 2) := by decide +kernel
theorem dX4_addFactor_70 : decode cX4_addFactor 70 = .ok (.iload 6, 2) := by decide +kernel
theorem dX4_addFactor_72 : decode cX4_addFactor 72 = .ok (.imul, 1) := by decide +kernel
theorem dX4_addFactor_73 : decode cX4_addFactor 73 = .ok (.iload 7, 2) := by decide +kernel
theorem dX4_addFactor_75 : decode cX4_addFactor 75 = .ok (.invokevirtual 66, 3) := by decide +kernel
theorem dX4_addFactor_78 : decode cX4_addFactor 78 = .ok (.iinc 6 1, 3) := by decide +kernel
theorem dX4_addFactor_81 : decode cX4_addFactor 81 = .ok (.goto (-41), 3) := by decide +kernel
theorem dX4_addFactor_84 : decode cX4_addFactor 84 = .ok (.iinc 5 1, 3) := by decide +kernel
theorem dX4_addFactor_87 : decode cX4_addFactor 87 = .ok (.goto (-56), 3) := by decide +kernel
theorem dX4_addFactor_90 : decode cX4_addFactor 90 = .ok (.aload_n 0, 1) := by decide +kernel
theorem dX4_addFactor_91 : decode cX4_addFactor 91 = .ok (.iload 4, 2) := by decide +kernel
theorem dX4_addFactor_93 : decode cX4_addFactor 93 = .ok (.iload_n 3, 1) := by decide +kernel
theorem dX4_addFactor_94 : decode cX4_addFactor 94 = .ok (.imul, 1) := by decide +kernel
theorem dX4_addFactor_95 : decode cX4_addFactor 95 = .ok (.putfield 30, 3) := by decide +kernel
theorem dX4_addFactor_98 : decode cX4_addFactor 98 = .ok (.return_, 1) := by decide +kernel
def f_X4_addFactor_B40b (k31 : Int32 → Int32 → Int32 → Int32 → Int32 → Wd → Option Wd) (k40 : Int32 → Int32 → Int32 → Int32 → Int32 → Int32 → Wd → Option Wd) (l1 : Int32) (l2 : Int32) (l3 : Int32) (l4 : Int32) (l5 : Int32) (l6 : Int32) (w : Wd) : Option Wd :=
  if l3 ≤ l6 then
    k31 l1 l2 l3 l4 (l5 + 1) w
  else
    bnd (f_X4_addBlock l4 (l4 * l5) (l4 * l6) (l4 * (f_X4_factorProduct l1 l2 l5 l6)) w) fun w1 =>
    k40 l1 l2 l3 l4 l5 (l6 + 1) w1
def f_X4_addFactor_L40 (k31 : Int32 → Int32 → Int32 → Int32 → Int32 → Wd → Option Wd) (n : Nat) : Int32 → Int32 → Int32 → Int32 → Int32 → Int32 → Wd → Option Wd :=
  Nat.rec (fun _ _ _ _ _ _ _ => none) (fun _ k => f_X4_addFactor_B40b k31 k) n
set_option maxHeartbeats 4000000 in
set_option maxRecDepth 100000 in
theorem t_X4_addFactor_L40 {G : GT} {d : Nat} {k31 : Int32 → Int32 → Int32 → Int32 → Int32 → Wd → Option Wd} (hd : 2 ≤ d + 1) (h31 : ∀ (l1 : Int32) (l2 : Int32) (l3 : Int32) (l4 : Int32) (l5 : Int32) (w : Wd) (w' : Wd), k31 l1 l2 l3 l4 l5 w = some w' → U (vf G mX4_addFactor (d + 1)) 31 [some (.ref 6), some (.int l1), some (.int l2), some (.int l3), some (.int l4), some (.int l5), none, none] [] w (none, 70, r0, w')) : ∀ (n : Nat) (l1 : Int32) (l2 : Int32) (l3 : Int32) (l4 : Int32) (l5 : Int32) (l6 : Int32) (w : Wd) (w' : Wd), f_X4_addFactor_L40 k31 n l1 l2 l3 l4 l5 l6 w = some w' → U (vf G mX4_addFactor (d + 1)) 40 [some (.ref 6), some (.int l1), some (.int l2), some (.int l3), some (.int l4), some (.int l5), some (.int l6), none] [] w (none, 70, r0, w') := by
  intro n
  induction n with
  | zero => intro l1 l2 l3 l4 l5 l6 w w' h; cases h
  | succ n h40 =>
    intro l1 l2 l3 l4 l5 l6 w w' h
    have h : f_X4_addFactor_B40b k31 (f_X4_addFactor_L40 k31 n) l1 l2 l3 l4 l5 l6 w = some w' := h
    unfold f_X4_addFactor_B40b at h
    refine V.iload (pc := 40) dX4_addFactor_40 rfl ?_
    refine V.iload_n (pc := 42) dX4_addFactor_42 rfl ?_
    rcases ite_e h with ⟨c, h⟩ | ⟨c, h⟩
    · refine V.icmp_ge_t (t := 84) (pc := 43) dX4_addFactor_43 (by decide) c ?_
      refine V.iinc (lv' := [some (.ref 6), some (.int l1), some (.int l2), some (.int l3), some (.int l4), some (.int (l5 + 1)), some (.int l6), none]) (pc := 84) dX4_addFactor_84 (Nat.le_of_ble_eq_true rfl) rfl rfl (v := (l5 + 1)) (by rw [show Int32.ofInt 1 = 1 from by decide]) rfl ?_
      refine V.goto (t := 31) (pc := 87) dX4_addFactor_87 (by decide) ?_
      refine V.weak (lv' := [some (.ref 6), some (.int l1), some (.int l2), some (.int l3), some (.int l4), some (.int (l5 + 1)), none, none]) (And.intro rfl (And.intro rfl (And.intro rfl (And.intro rfl (And.intro rfl (And.intro rfl trivial)))))) ?_
      exact h31 l1 l2 l3 l4 (l5 + 1) w _ h
    · refine V.icmp_ge_f (t := 84) (pc := 43) dX4_addFactor_43 (by decide) c ?_
      refine V.iload (pc := 46) dX4_addFactor_46 rfl ?_
      refine V.iload_n (pc := 48) dX4_addFactor_48 rfl ?_
      refine V.iload_n (pc := 49) dX4_addFactor_49 rfl ?_
      refine V.iload (pc := 50) dX4_addFactor_50 rfl ?_
      refine V.iload (pc := 52) dX4_addFactor_52 rfl ?_
      refine U.callS (pc := 54) (As := [.int l1, .int l2, .int l5, .int l6]) (st := [.int l4]) dX4_addFactor_54 l_RX4_62 (ok_X4_factorProduct (by omega) l1 l2 l5 l6 ) (Nat.le_of_ble_eq_true rfl) rfl rfl (Nat.le_of_ble_eq_true rfl) ?_
      refine V.imul (pc := 57) dX4_addFactor_57 ?_
      refine V.istore (lv' := [some (.ref 6), some (.int l1), some (.int l2), some (.int l3), some (.int l4), some (.int l5), some (.int l6), some (.int (l4 * (f_X4_factorProduct l1 l2 l5 l6)))]) (pc := 58) dX4_addFactor_58 (Nat.le_of_ble_eq_true rfl) rfl rfl ?_
      refine V.aload_n (pc := 60) dX4_addFactor_60 rfl ?_
      refine V.iload (pc := 61) dX4_addFactor_61 rfl ?_
      refine V.iload (pc := 63) dX4_addFactor_63 rfl ?_
      refine V.iload (pc := 65) dX4_addFactor_65 rfl ?_
      refine V.imul (pc := 67) dX4_addFactor_67 ?_
      refine V.iload (pc := 68) dX4_addFactor_68 rfl ?_
      refine V.iload (pc := 70) dX4_addFactor_70 rfl ?_
      refine V.imul (pc := 72) dX4_addFactor_72 ?_
      refine V.iload (pc := 73) dX4_addFactor_73 rfl ?_
      obtain ⟨w1, ew1, h⟩ := bnd_e h
      refine U.callV (pc := 75) (As := [.int l4, .int (l4 * l5), .int (l4 * l6), .int (l4 * (f_X4_factorProduct l1 l2 l5 l6))]) (st := []) dX4_addFactor_75 l_RX4_66 (ok_X4_addBlock (by omega) l4 (l4 * l5) (l4 * l6) (l4 * (f_X4_factorProduct l1 l2 l5 l6)) ew1) lx_6 ly_6 cn_4 (Nat.le_of_ble_eq_true rfl) rfl rfl (Nat.le_of_ble_eq_true rfl) ?_
      refine V.iinc (lv' := [some (.ref 6), some (.int l1), some (.int l2), some (.int l3), some (.int l4), some (.int l5), some (.int (l6 + 1)), some (.int (l4 * (f_X4_factorProduct l1 l2 l5 l6)))]) (pc := 78) dX4_addFactor_78 (Nat.le_of_ble_eq_true rfl) rfl rfl (v := (l6 + 1)) (by rw [show Int32.ofInt 1 = 1 from by decide]) rfl ?_
      refine V.goto (t := 40) (pc := 81) dX4_addFactor_81 (by decide) ?_
      refine V.weak (lv' := [some (.ref 6), some (.int l1), some (.int l2), some (.int l3), some (.int l4), some (.int l5), some (.int (l6 + 1)), none]) (And.intro rfl (And.intro rfl (And.intro rfl (And.intro rfl (And.intro rfl (And.intro rfl (And.intro rfl trivial))))))) ?_
      exact h40 l1 l2 l3 l4 l5 (l6 + 1) w1 _ h
def f_X4_addFactor_B31b (k31 : Int32 → Int32 → Int32 → Int32 → Int32 → Wd → Option Wd) (l1 : Int32) (l2 : Int32) (l3 : Int32) (l4 : Int32) (l5 : Int32) (w : Wd) : Option Wd :=
  if l3 ≤ l5 then
    letW (sI w 6 7 (l4 * l3)) fun w1 =>
    some w1
  else
    f_X4_addFactor_L40 k31 FU l1 l2 l3 l4 l5 0 w
def f_X4_addFactor_L31 (n : Nat) : Int32 → Int32 → Int32 → Int32 → Int32 → Wd → Option Wd :=
  Nat.rec (fun _ _ _ _ _ _ => none) (fun _ k => f_X4_addFactor_B31b k) n
set_option maxHeartbeats 4000000 in
set_option maxRecDepth 100000 in
theorem t_X4_addFactor_L31 {G : GT} {d : Nat} (hd : 2 ≤ d + 1)  : ∀ (n : Nat) (l1 : Int32) (l2 : Int32) (l3 : Int32) (l4 : Int32) (l5 : Int32) (w : Wd) (w' : Wd), f_X4_addFactor_L31 n l1 l2 l3 l4 l5 w = some w' → U (vf G mX4_addFactor (d + 1)) 31 [some (.ref 6), some (.int l1), some (.int l2), some (.int l3), some (.int l4), some (.int l5), none, none] [] w (none, 70, r0, w') := by
  intro n
  induction n with
  | zero => intro l1 l2 l3 l4 l5 w w' h; cases h
  | succ n h31 =>
    intro l1 l2 l3 l4 l5 w w' h
    have h : f_X4_addFactor_B31b (f_X4_addFactor_L31 n) l1 l2 l3 l4 l5 w = some w' := h
    unfold f_X4_addFactor_B31b at h
    refine V.iload (pc := 31) dX4_addFactor_31 rfl ?_
    refine V.iload_n (pc := 33) dX4_addFactor_33 rfl ?_
    rcases ite_e h with ⟨c, h⟩ | ⟨c, h⟩
    · refine V.icmp_ge_t (t := 90) (pc := 34) dX4_addFactor_34 (by decide) c ?_
      refine V.aload_n (pc := 90) dX4_addFactor_90 rfl ?_
      refine V.iload (pc := 91) dX4_addFactor_91 rfl ?_
      refine V.iload_n (pc := 93) dX4_addFactor_93 rfl ?_
      refine V.imul (pc := 94) dX4_addFactor_94 ?_
      obtain ⟨w1, ew1, h⟩ := letW_e h
      refine V.putIX (pc := 95) dX4_addFactor_95 f_RX4_30 k_cl4 lx_6 ly_6 rb_4_7 (fin_I (T0 := TX4) rfl rfl rfl) ew1 ?_
      obtain rfl := Option.some.inj h
      exact V.vret (pc := 98) dX4_addFactor_98 rfl (Nat.le_refl _) (Nat.le_refl _)
    · refine V.icmp_ge_f (t := 90) (pc := 34) dX4_addFactor_34 (by decide) c ?_
      refine V.iconst (pc := 37) dX4_addFactor_37 ic_0 ?_
      refine V.istore (lv' := [some (.ref 6), some (.int l1), some (.int l2), some (.int l3), some (.int l4), some (.int l5), some (.int 0), none]) (pc := 38) dX4_addFactor_38 (Nat.le_of_ble_eq_true rfl) rfl rfl ?_
      exact t_X4_addFactor_L40 hd h31 FU l1 l2 l3 l4 l5 0 w _ h
def f_X4_addFactor (l1 : Int32) (l2 : Int32) (w : Wd) : Option Wd :=
  if l1 = 0 then
    f_X4_addFactor_L31  FU l1 l2 l2 (w.1 6 7) 0 w
  else
    if l1 = 1 then
      f_X4_addFactor_L31  FU l1 l2 (2 * l2) (w.1 6 7) 0 w
    else
      f_X4_addFactor_L31  FU l1 l2 8 (w.1 6 7) 0 w
set_option maxHeartbeats 4000000 in
set_option maxRecDepth 100000 in
theorem ok_X4_addFactor {G : GT} {d : Nat} (hd : 2 ≤ d) {w : Wd} (l1 : Int32) (l2 : Int32) {w' : Wd} (h : f_X4_addFactor l1 l2 w = some w') : uC G yX4_addFactor mX4_addFactor d [.ref 6, .int l1, .int l2] w none w' := by
  obtain ⟨d, rfl⟩ : ∃ e, d = e + 1 := ⟨d - 1, by omega⟩
  unfold f_X4_addFactor at h
  refine uC_of (lv := [some (.ref 6), some (.int l1), some (.int l2), none, none, none, none, none]) 5 pn_X4 ⟨rfl, rfl⟩ (Nat.le_of_ble_eq_true rfl) rfl ?_
  refine V.iload_n (pc := 0) dX4_addFactor_0 rfl ?_
  rcases ite_e h with ⟨c, h⟩ | ⟨c, h⟩
  · refine V.if_ne_f (t := 8) (pc := 1) dX4_addFactor_1 (by decide) c ?_
    refine V.iload_n (pc := 4) dX4_addFactor_4 rfl ?_
    refine V.goto (t := 21) (pc := 5) dX4_addFactor_5 (by decide) ?_
    refine V.istore_n (lv' := [some (.ref 6), some (.int l1), some (.int l2), some (.int l2), none, none, none, none]) (pc := 21) dX4_addFactor_21 (Nat.le_of_ble_eq_true rfl) rfl rfl ?_
    refine V.aload_n (pc := 22) dX4_addFactor_22 rfl ?_
    refine V.getI (pc := 23) dX4_addFactor_23 f_RX4_30 k_cl4 lx_6 ly_6 rb_4_7 ?_
    refine V.istore (lv' := [some (.ref 6), some (.int l1), some (.int l2), some (.int l2), some (.int (w.1 6 7)), none, none, none]) (pc := 26) dX4_addFactor_26 (Nat.le_of_ble_eq_true rfl) rfl rfl ?_
    refine V.iconst (pc := 28) dX4_addFactor_28 ic_0 ?_
    refine V.istore (lv' := [some (.ref 6), some (.int l1), some (.int l2), some (.int l2), some (.int (w.1 6 7)), some (.int 0), none, none]) (pc := 29) dX4_addFactor_29 (Nat.le_of_ble_eq_true rfl) rfl rfl ?_
    exact t_X4_addFactor_L31 hd FU l1 l2 l2 (w.1 6 7) 0 w _ h
  · refine V.if_ne_t (t := 8) (pc := 1) dX4_addFactor_1 (by decide) c ?_
    refine V.iload_n (pc := 8) dX4_addFactor_8 rfl ?_
    refine V.iconst (pc := 9) dX4_addFactor_9 ic_1 ?_
    rcases ite_e h with ⟨c, h⟩ | ⟨c, h⟩
    · refine V.icmp_ne_f (t := 19) (pc := 10) dX4_addFactor_10 (by decide) c ?_
      refine V.iconst (pc := 13) dX4_addFactor_13 ic_2 ?_
      refine V.iload_n (pc := 14) dX4_addFactor_14 rfl ?_
      refine V.imul (pc := 15) dX4_addFactor_15 ?_
      refine V.goto (t := 21) (pc := 16) dX4_addFactor_16 (by decide) ?_
      refine V.istore_n (lv' := [some (.ref 6), some (.int l1), some (.int l2), some (.int (2 * l2)), none, none, none, none]) (pc := 21) dX4_addFactor_21 (Nat.le_of_ble_eq_true rfl) rfl rfl ?_
      refine V.aload_n (pc := 22) dX4_addFactor_22 rfl ?_
      refine V.getI (pc := 23) dX4_addFactor_23 f_RX4_30 k_cl4 lx_6 ly_6 rb_4_7 ?_
      refine V.istore (lv' := [some (.ref 6), some (.int l1), some (.int l2), some (.int (2 * l2)), some (.int (w.1 6 7)), none, none, none]) (pc := 26) dX4_addFactor_26 (Nat.le_of_ble_eq_true rfl) rfl rfl ?_
      refine V.iconst (pc := 28) dX4_addFactor_28 ic_0 ?_
      refine V.istore (lv' := [some (.ref 6), some (.int l1), some (.int l2), some (.int (2 * l2)), some (.int (w.1 6 7)), some (.int 0), none, none]) (pc := 29) dX4_addFactor_29 (Nat.le_of_ble_eq_true rfl) rfl rfl ?_
      exact t_X4_addFactor_L31 hd FU l1 l2 (2 * l2) (w.1 6 7) 0 w _ h
    · refine V.icmp_ne_t (t := 19) (pc := 10) dX4_addFactor_10 (by decide) c ?_
      refine V.bipush (pc := 19) dX4_addFactor_19 bp_8 ?_
      refine V.istore_n (lv' := [some (.ref 6), some (.int l1), some (.int l2), some (.int 8), none, none, none, none]) (pc := 21) dX4_addFactor_21 (Nat.le_of_ble_eq_true rfl) rfl rfl ?_
      refine V.aload_n (pc := 22) dX4_addFactor_22 rfl ?_
      refine V.getI (pc := 23) dX4_addFactor_23 f_RX4_30 k_cl4 lx_6 ly_6 rb_4_7 ?_
      refine V.istore (lv' := [some (.ref 6), some (.int l1), some (.int l2), some (.int 8), some (.int (w.1 6 7)), none, none, none]) (pc := 26) dX4_addFactor_26 (Nat.le_of_ble_eq_true rfl) rfl rfl ?_
      refine V.iconst (pc := 28) dX4_addFactor_28 ic_0 ?_
      refine V.istore (lv' := [some (.ref 6), some (.int l1), some (.int l2), some (.int 8), some (.int (w.1 6 7)), some (.int 0), none, none]) (pc := 29) dX4_addFactor_29 (Nat.le_of_ble_eq_true rfl) rfl rfl ?_
      exact t_X4_addFactor_L31 hd FU l1 l2 8 (w.1 6 7) 0 w _ h
theorem dX4_load_0 : decode cX4_load 0 = .ok (.aload_n 0, 1) := by decide +kernel
theorem dX4_load_1 : decode cX4_load 1 = .ok (.iconst 1, 1) := by decide +kernel
theorem dX4_load_2 : decode cX4_load 2 = .ok (.putfield 30, 3) := by decide +kernel
theorem dX4_load_5 : decode cX4_load 5 = .ok (.aload_n 0, 1) := by decide +kernel
theorem dX4_load_6 : decode cX4_load 6 = .ok (.getfield 18, 3) := by decide +kernel
theorem dX4_load_9 : decode cX4_load 9 = .ok (.iconst 0, 1) := by decide +kernel
theorem dX4_load_10 : decode cX4_load 10 = .ok (.invokestatic 34, 3) := by decide +kernel
theorem dX4_load_13 : decode cX4_load 13 = .ok (.aload_n 0, 1) := by decide +kernel
theorem dX4_load_14 : decode cX4_load 14 = .ok (.aload_n 1, 1) := by decide +kernel
theorem dX4_load_15 : decode cX4_load 15 = .ok (.getfield 40, 3) := by decide +kernel
theorem dX4_load_18 : decode cX4_load 18 = .ok (.putfield 45, 3) := by decide +kernel
theorem dX4_load_21 : decode cX4_load 21 = .ok (.iconst 0, 1) := by decide +kernel
theorem dX4_load_22 : decode cX4_load 22 = .ok (.istore_n 2, 1) := by decide +kernel
theorem dX4_load_23 : decode cX4_load 23 = .ok (.iload_n 2, 1) := by decide +kernel
theorem dX4_load_24 : decode cX4_load 24 = .ok (.aload_n 0, 1) := by decide +kernel
theorem dX4_load_25 : decode cX4_load 25 = .ok (.getfield 45, 3) := by decide +kernel
theorem dX4_load_28 : decode cX4_load 28 = .ok (.if_icmp .ge 49, 3) := by decide +kernel
theorem dX4_load_31 : decode cX4_load 31 = .ok (.aload_n 0, 1) := by decide +kernel
theorem dX4_load_32 : decode cX4_load 32 = .ok (.getfield 9, 3) := by decide +kernel
theorem dX4_load_35 : decode cX4_load 35 = .ok (.iload_n 2, 1) := by decide +kernel
theorem dX4_load_36 : decode cX4_load 36 = .ok (.aload_n 1, 1) := by decide +kernel
theorem dX4_load_37 : decode cX4_load 37 = .ok (.getfield 46, 3) := by decide +kernel
theorem dX4_load_40 : decode cX4_load 40 = .ok (.iload_n 2, 1) := by decide +kernel
theorem dX4_load_41 : decode cX4_load 41 = .ok (.iaload, 1) := by decide +kernel
theorem dX4_load_42 : decode cX4_load 42 = .ok (.iastore, 1) := by decide +kernel
theorem dX4_load_43 : decode cX4_load 43 = .ok (.aload_n 0, 1) := by decide +kernel
theorem dX4_load_44 : decode cX4_load 44 = .ok (.getfield 15, 3) := by decide +kernel
theorem dX4_load_47 : decode cX4_load 47 = .ok (.iload_n 2, 1) := by decide +kernel
theorem dX4_load_48 : decode cX4_load 48 = .ok (.aload_n 1, 1) := by decide +kernel
theorem dX4_load_49 : decode cX4_load 49 = .ok (.getfield 47, 3) := by decide +kernel
theorem dX4_load_52 : decode cX4_load 52 = .ok (.iload_n 2, 1) := by decide +kernel
theorem dX4_load_53 : decode cX4_load 53 = .ok (.iaload, 1) := by decide +kernel
theorem dX4_load_54 : decode cX4_load 54 = .ok (.iastore, 1) := by decide +kernel
theorem dX4_load_55 : decode cX4_load 55 = .ok (.aload_n 0, 1) := by decide +kernel
theorem dX4_load_56 : decode cX4_load 56 = .ok (.aload_n 0, 1) := by decide +kernel
theorem dX4_load_57 : decode cX4_load 57 = .ok (.getfield 9, 3) := by decide +kernel
theorem dX4_load_60 : decode cX4_load 60 = .ok (.iload_n 2, 1) := by decide +kernel
theorem dX4_load_61 : decode cX4_load 61 = .ok (.iaload, 1) := by decide +kernel
theorem dX4_load_62 : decode cX4_load 62 = .ok (.aload_n 0, 1) := by decide +kernel
theorem dX4_load_63 : decode cX4_load 63 = .ok (.getfield 15, 3) := by decide +kernel
theorem dX4_load_66 : decode cX4_load 66 = .ok (.iload_n 2, 1) := by decide +kernel
theorem dX4_load_67 : decode cX4_load 67 = .ok (.iaload, 1) := by decide +kernel
theorem dX4_load_68 : decode cX4_load 68 = .ok (.invokevirtual 48, 3) := by decide +kernel
theorem dX4_load_71 : decode cX4_load 71 = .ok (.iinc 2 1, 3) := by decide +kernel
theorem dX4_load_74 : decode cX4_load 74 = .ok (.goto (-51), 3) := by decide +kernel
theorem dX4_load_77 : decode cX4_load 77 = .ok (.aload_n 0, 1) := by decide +kernel
theorem dX4_load_78 : decode cX4_load 78 = .ok (.iconst 1, 1) := by decide +kernel
theorem dX4_load_79 : decode cX4_load 79 = .ok (.aload_n 0, 1) := by decide +kernel
theorem dX4_load_80 : decode cX4_load 80 = .ok (.getfield 30, 3) := by decide +kernel
theorem dX4_load_83 : decode cX4_load 83 = .ok (.ishl, 1) := by decide +kernel
theorem dX4_load_84 : decode cX4_load 84 = .ok (.iconst 1, 1) := by decide +kernel
theorem dX4_load_85 : decode cX4_load 85 = .ok (.isub, 1) := by decide +kernel
theorem dX4_load_86 : decode cX4_load 86 = .ok (.putfield 52, 3) := by decide +kernel
theorem dX4_load_89 : decode cX4_load 89 = .ok (.aload_n 0, 1) := by decide +kernel
theorem dX4_load_90 : decode cX4_load 90 = .ok (.iconst (-1), 1) := by decide +kernel
theorem dX4_load_91 : decode cX4_load 91 = .ok (.putfield 55, 3) := by decide +kernel
theorem dX4_load_94 : decode cX4_load 94 = .ok (.iconst 0, 1) := by decide +kernel
theorem dX4_load_95 : decode cX4_load 95 = .ok (.istore_n 2, 1) := by decide +kernel
theorem dX4_load_96 : decode cX4_load 96 = .ok (.iload_n 2, 1) := by decide +kernel
theorem dX4_load_97 : decode cX4_load 97 = .ok (.aload_n 0, 1) := by decide +kernel
theorem dX4_load_98 : decode cX4_load 98 = .ok (.getfield 30, 3) := by decide +kernel
theorem dX4_load_101 : decode cX4_load 101 = .ok (.if_icmp .ge 41, 3) := by decide +kernel
theorem dX4_load_104 : decode cX4_load 104 = .ok (.iconst 0, 1) := by decide +kernel
theorem dX4_load_105 : decode cX4_load 105 = .ok (.istore_n 3, 1) := by decide +kernel
theorem dX4_load_106 : decode cX4_load 106 = .ok (.iload_n 3, 1) := by decide +kernel
theorem dX4_load_107 : decode cX4_load 107 = .ok (.aload_n 0, 1) := by decide +kernel
theorem dX4_load_108 : decode cX4_load 108 = .ok (.getfield 30, 3) := by decide +kernel
theorem dX4_load_111 : decode cX4_load 111 = .ok (.if_icmp .ge 25, 3) := by decide +kernel
theorem dX4_load_114 : decode cX4_load 114 = .ok (.aload_n 0, 1) := by decide +kernel
theorem dX4_load_115 : decode cX4_load 115 = .ok (.iload_n 2, 1) := by decide +kernel
theorem dX4_load_116 : decode cX4_load 116 = .ok (.iload_n 3, 1) := by decide +kernel
theorem dX4_load_117 : decode cX4_load 117 = .ok (.invokevirtual 58, 3) := by decide +kernel
theorem dX4_load_120 : decode cX4_load 120 = .ok (.ifCond .ne 10, 3) := by decide +kernel
theorem dX4_load_123 : decode cX4_load 123 = .ok (.aload_n 0, 1) := by decide +kernel
theorem dX4_load_124 : decode cX4_load 124 = .ok (.getfield 21, 3) := by decide +kernel
theorem dX4_load_127 : decode cX4_load 127 = .ok (.iload_n 2, 1) := by decide +kernel
theorem dX4_load_128 : decode cX4_load 128 = .ok (.iload_n 3, 1) := by decide +kernel
theorem dX4_load_129 : decode cX4_load 129 = .ok (.iastore, 1) := by decide +kernel
theorem dX4_load_130 : decode cX4_load 130 = .ok (.iinc 3 1, 3) := by decide +kernel
theorem dX4_load_133 : decode cX4_load 133 = .ok (.goto (-27), 3) := by decide +kernel
theorem dX4_load_136 : decode cX4_load 136 = .ok (.iinc 2 1, 3) := by decide +kernel
theorem dX4_load_139 : decode cX4_load 139 = .ok (.goto (-43), 3) := by decide +kernel
theorem dX4_load_142 : decode cX4_load 142 = .ok (.return_, 1) := by decide +kernel
def f_X4_load_3_B106b (k96 : Int32 → Wd → Option Wd) (k106 : Int32 → Int32 → Wd → Option Wd) (l2 : Int32) (l3 : Int32) (w : Wd) : Option Wd :=
  if (w.1 6 7) ≤ l3 then
    k96 (l2 + 1) w
  else
    bnd (f_X4_times l2 l3 w) fun x1 =>
    if x1 = 0 then
      wrI w 10 16 l2 l3 fun w2 =>
      k106 l2 (l3 + 1) w2
    else
      k106 l2 (l3 + 1) w
def f_X4_load_3_L106 (k96 : Int32 → Wd → Option Wd) (n : Nat) : Int32 → Int32 → Wd → Option Wd :=
  Nat.rec (fun _ _ _ => none) (fun _ k => f_X4_load_3_B106b k96 k) n
set_option maxHeartbeats 4000000 in
set_option maxRecDepth 100000 in
theorem t_X4_load_3_L106 {G : GT} {d : Nat} {k96 : Int32 → Wd → Option Wd} (hd : 3 ≤ d + 1) (h96 : ∀ (l2 : Int32) (w : Wd) (w' : Wd), k96 l2 w = some w' → U (vf G mX4_load (d + 1)) 96 [some (.ref 6), none, some (.int l2), none] [] w (none, 70, r0, w')) : ∀ (n : Nat) (l2 : Int32) (l3 : Int32) (w : Wd) (w' : Wd), f_X4_load_3_L106 k96 n l2 l3 w = some w' → U (vf G mX4_load (d + 1)) 106 [some (.ref 6), none, some (.int l2), some (.int l3)] [] w (none, 70, r0, w') := by
  intro n
  induction n with
  | zero => intro l2 l3 w w' h; cases h
  | succ n h106 =>
    intro l2 l3 w w' h
    have h : f_X4_load_3_B106b k96 (f_X4_load_3_L106 k96 n) l2 l3 w = some w' := h
    unfold f_X4_load_3_B106b at h
    refine V.iload_n (pc := 106) dX4_load_106 rfl ?_
    refine V.aload_n (pc := 107) dX4_load_107 rfl ?_
    refine V.getI (pc := 108) dX4_load_108 f_RX4_30 k_cl4 lx_6 ly_6 rb_4_7 ?_
    rcases ite_e h with ⟨c, h⟩ | ⟨c, h⟩
    · refine V.icmp_ge_t (t := 136) (pc := 111) dX4_load_111 (by decide) c ?_
      refine V.iinc (lv' := [some (.ref 6), none, some (.int (l2 + 1)), some (.int l3)]) (pc := 136) dX4_load_136 (Nat.le_of_ble_eq_true rfl) rfl rfl (v := (l2 + 1)) (by rw [show Int32.ofInt 1 = 1 from by decide]) rfl ?_
      refine V.goto (t := 96) (pc := 139) dX4_load_139 (by decide) ?_
      refine V.weak (lv' := [some (.ref 6), none, some (.int (l2 + 1)), none]) (And.intro rfl (And.intro rfl trivial)) ?_
      exact h96 (l2 + 1) w _ h
    · refine V.icmp_ge_f (t := 136) (pc := 111) dX4_load_111 (by decide) c ?_
      refine V.aload_n (pc := 114) dX4_load_114 rfl ?_
      refine V.iload_n (pc := 115) dX4_load_115 rfl ?_
      refine V.iload_n (pc := 116) dX4_load_116 rfl ?_
      obtain ⟨x1, ex1, h⟩ := bnd_e h
      refine U.callV (pc := 117) (As := [.int l2, .int l3]) (st := []) dX4_load_117 l_RX4_58 (ok_X4_times (by omega) l2 l3 ex1) lx_6 ly_6 cn_4 (Nat.le_of_ble_eq_true rfl) rfl rfl (Nat.le_of_ble_eq_true rfl) ?_
      rcases ite_e h with ⟨c, h⟩ | ⟨c, h⟩
      · refine V.if_ne_f (t := 130) (pc := 120) dX4_load_120 (by decide) c ?_
        refine V.aload_n (pc := 123) dX4_load_123 rfl ?_
        refine V.getR (t := 10) (pc := 124) dX4_load_124 f_RX4_21 k_cl4 lx_6 ly_6 rb_4_3 rr_6_3 ?_
        refine V.iload_n (pc := 127) dX4_load_127 rfl ?_
        refine V.iload_n (pc := 128) dX4_load_128 rfl ?_
        obtain ⟨w2, iw2, ew2, h⟩ := wrI_e h
        refine V.iastX (pc := 129) dX4_load_129 lx_10 ly_10 iw2 ew2 ?_
        refine V.iinc (lv' := [some (.ref 6), none, some (.int l2), some (.int (l3 + 1))]) (pc := 130) dX4_load_130 (Nat.le_of_ble_eq_true rfl) rfl rfl (v := (l3 + 1)) (by rw [show Int32.ofInt 1 = 1 from by decide]) rfl ?_
        refine V.goto (t := 106) (pc := 133) dX4_load_133 (by decide) ?_
        exact h106 l2 (l3 + 1) w2 _ h
      · refine V.if_ne_t (t := 130) (pc := 120) dX4_load_120 (by decide) c ?_
        refine V.iinc (lv' := [some (.ref 6), none, some (.int l2), some (.int (l3 + 1))]) (pc := 130) dX4_load_130 (Nat.le_of_ble_eq_true rfl) rfl rfl (v := (l3 + 1)) (by rw [show Int32.ofInt 1 = 1 from by decide]) rfl ?_
        refine V.goto (t := 106) (pc := 133) dX4_load_133 (by decide) ?_
        exact h106 l2 (l3 + 1) w _ h
def f_X4_load_3_B96b (k96 : Int32 → Wd → Option Wd) (l2 : Int32) (w : Wd) : Option Wd :=
  if (w.1 6 7) ≤ l2 then
    some w
  else
    f_X4_load_3_L106 k96 FU l2 0 w
def f_X4_load_3_L96 (n : Nat) : Int32 → Wd → Option Wd :=
  Nat.rec (fun _ _ => none) (fun _ k => f_X4_load_3_B96b k) n
set_option maxHeartbeats 4000000 in
set_option maxRecDepth 100000 in
theorem t_X4_load_3_L96 {G : GT} {d : Nat} (hd : 3 ≤ d + 1)  : ∀ (n : Nat) (l2 : Int32) (w : Wd) (w' : Wd), f_X4_load_3_L96 n l2 w = some w' → U (vf G mX4_load (d + 1)) 96 [some (.ref 6), none, some (.int l2), none] [] w (none, 70, r0, w') := by
  intro n
  induction n with
  | zero => intro l2 w w' h; cases h
  | succ n h96 =>
    intro l2 w w' h
    have h : f_X4_load_3_B96b (f_X4_load_3_L96 n) l2 w = some w' := h
    unfold f_X4_load_3_B96b at h
    refine V.iload_n (pc := 96) dX4_load_96 rfl ?_
    refine V.aload_n (pc := 97) dX4_load_97 rfl ?_
    refine V.getI (pc := 98) dX4_load_98 f_RX4_30 k_cl4 lx_6 ly_6 rb_4_7 ?_
    rcases ite_e h with ⟨c, h⟩ | ⟨c, h⟩
    · refine V.icmp_ge_t (t := 142) (pc := 101) dX4_load_101 (by decide) c ?_
      obtain rfl := Option.some.inj h
      exact V.vret (pc := 142) dX4_load_142 rfl (Nat.le_refl _) (Nat.le_refl _)
    · refine V.icmp_ge_f (t := 142) (pc := 101) dX4_load_101 (by decide) c ?_
      refine V.iconst (pc := 104) dX4_load_104 ic_0 ?_
      refine V.istore_n (lv' := [some (.ref 6), none, some (.int l2), some (.int 0)]) (pc := 105) dX4_load_105 (Nat.le_of_ble_eq_true rfl) rfl rfl ?_
      exact t_X4_load_3_L106 hd h96 FU l2 0 w _ h
def f_X4_load_3_B23b (k23 : Int32 → Wd → Option Wd) (l2 : Int32) (w : Wd) : Option Wd :=
  if (w.1 6 6) ≤ l2 then
    letW (sI w 6 8 ((1 <<< ((w.1 6 7) &&& 31)) - 1)) fun w1 =>
    letW (sI w1 6 9 (-1)) fun w2 =>
    f_X4_load_3_L96  FU 0 w2
  else
    rdI w 4 4 l2 fun x3 =>
    wrI w 7 4 l2 x3 fun w4 =>
    rdI w4 5 4 l2 fun x5 =>
    wrI w4 8 4 l2 x5 fun w6 =>
    rdI w6 7 4 l2 fun x7 =>
    rdI w6 8 4 l2 fun x8 =>
    bnd (f_X4_addFactor x7 x8 w6) fun w9 =>
    k23 (l2 + 1) w9
def f_X4_load_3_L23 (n : Nat) : Int32 → Wd → Option Wd :=
  Nat.rec (fun _ _ => none) (fun _ k => f_X4_load_3_B23b k) n
set_option maxHeartbeats 4000000 in
set_option maxRecDepth 100000 in
theorem t_X4_load_3_L23 {G : GT} {d : Nat} (hd : 3 ≤ d + 1)  : ∀ (n : Nat) (l2 : Int32) (w : Wd) (w' : Wd), f_X4_load_3_L23 n l2 w = some w' → U (vf G mX4_load (d + 1)) 23 [some (.ref 6), some (.ref 3), some (.int l2), none] [] w (none, 70, r0, w') := by
  intro n
  induction n with
  | zero => intro l2 w w' h; cases h
  | succ n h23 =>
    intro l2 w w' h
    have h : f_X4_load_3_B23b (f_X4_load_3_L23 n) l2 w = some w' := h
    unfold f_X4_load_3_B23b at h
    refine V.iload_n (pc := 23) dX4_load_23 rfl ?_
    refine V.aload_n (pc := 24) dX4_load_24 rfl ?_
    refine V.getI (pc := 25) dX4_load_25 f_RX4_45 k_cl4 lx_6 ly_6 rb_4_6 ?_
    rcases ite_e h with ⟨c, h⟩ | ⟨c, h⟩
    · refine V.icmp_ge_t (t := 77) (pc := 28) dX4_load_28 (by decide) c ?_
      refine V.aload_n (pc := 77) dX4_load_77 rfl ?_
      refine V.iconst (pc := 78) dX4_load_78 ic_1 ?_
      refine V.aload_n (pc := 79) dX4_load_79 rfl ?_
      refine V.getI (pc := 80) dX4_load_80 f_RX4_30 k_cl4 lx_6 ly_6 rb_4_7 ?_
      refine V.ishl (pc := 83) dX4_load_83 ?_
      refine V.iconst (pc := 84) dX4_load_84 ic_1 ?_
      refine V.isub (pc := 85) dX4_load_85 ?_
      obtain ⟨w1, ew1, h⟩ := letW_e h
      refine V.putIX (pc := 86) dX4_load_86 f_RX4_52 k_cl4 lx_6 ly_6 rb_4_8 (fin_I (T0 := TX4) rfl rfl rfl) ew1 ?_
      refine V.aload_n (pc := 89) dX4_load_89 rfl ?_
      refine V.iconst (pc := 90) dX4_load_90 ic_m1 ?_
      obtain ⟨w2, ew2, h⟩ := letW_e h
      refine V.putIX (pc := 91) dX4_load_91 f_RX4_55 k_cl4 lx_6 ly_6 rb_4_9 (fin_I (T0 := TX4) rfl rfl rfl) ew2 ?_
      refine V.iconst (pc := 94) dX4_load_94 ic_0 ?_
      refine V.istore_n (lv' := [some (.ref 6), some (.ref 3), some (.int 0), none]) (pc := 95) dX4_load_95 (Nat.le_of_ble_eq_true rfl) rfl rfl ?_
      refine V.weak (lv' := [some (.ref 6), none, some (.int 0), none]) (And.intro rfl (And.intro rfl trivial)) ?_
      exact t_X4_load_3_L96 hd FU 0 w2 _ h
    · refine V.icmp_ge_f (t := 77) (pc := 28) dX4_load_28 (by decide) c ?_
      refine V.aload_n (pc := 31) dX4_load_31 rfl ?_
      refine V.getR (t := 7) (pc := 32) dX4_load_32 f_RX4_9 k_cl4 lx_6 ly_6 rb_4_0 rr_6_0 ?_
      refine V.iload_n (pc := 35) dX4_load_35 rfl ?_
      refine V.aload_n (pc := 36) dX4_load_36 rfl ?_
      refine V.getR (t := 4) (pc := 37) dX4_load_37 f_RX4_46 k_cl7 lx_3 ly_3 rb_7_1 rr_3_1 ?_
      refine V.iload_n (pc := 40) dX4_load_40 rfl ?_
      obtain ⟨x3, ix3, ex3, h⟩ := rdI_e h
      refine V.ialdX (pc := 41) dX4_load_41 lx_4 ly_4 ix3 ex3 ?_
      obtain ⟨w4, iw4, ew4, h⟩ := wrI_e h
      refine V.iastX (pc := 42) dX4_load_42 lx_7 ly_7 iw4 ew4 ?_
      refine V.aload_n (pc := 43) dX4_load_43 rfl ?_
      refine V.getR (t := 8) (pc := 44) dX4_load_44 f_RX4_15 k_cl4 lx_6 ly_6 rb_4_1 rr_6_1 ?_
      refine V.iload_n (pc := 47) dX4_load_47 rfl ?_
      refine V.aload_n (pc := 48) dX4_load_48 rfl ?_
      refine V.getR (t := 5) (pc := 49) dX4_load_49 f_RX4_47 k_cl7 lx_3 ly_3 rb_7_2 rr_3_2 ?_
      refine V.iload_n (pc := 52) dX4_load_52 rfl ?_
      obtain ⟨x5, ix5, ex5, h⟩ := rdI_e h
      refine V.ialdX (pc := 53) dX4_load_53 lx_5 ly_5 ix5 ex5 ?_
      obtain ⟨w6, iw6, ew6, h⟩ := wrI_e h
      refine V.iastX (pc := 54) dX4_load_54 lx_8 ly_8 iw6 ew6 ?_
      refine V.aload_n (pc := 55) dX4_load_55 rfl ?_
      refine V.aload_n (pc := 56) dX4_load_56 rfl ?_
      refine V.getR (t := 7) (pc := 57) dX4_load_57 f_RX4_9 k_cl4 lx_6 ly_6 rb_4_0 rr_6_0 ?_
      refine V.iload_n (pc := 60) dX4_load_60 rfl ?_
      obtain ⟨x7, ix7, ex7, h⟩ := rdI_e h
      refine V.ialdX (pc := 61) dX4_load_61 lx_7 ly_7 ix7 ex7 ?_
      refine V.aload_n (pc := 62) dX4_load_62 rfl ?_
      refine V.getR (t := 8) (pc := 63) dX4_load_63 f_RX4_15 k_cl4 lx_6 ly_6 rb_4_1 rr_6_1 ?_
      refine V.iload_n (pc := 66) dX4_load_66 rfl ?_
      obtain ⟨x8, ix8, ex8, h⟩ := rdI_e h
      refine V.ialdX (pc := 67) dX4_load_67 lx_8 ly_8 ix8 ex8 ?_
      obtain ⟨w9, ew9, h⟩ := bnd_e h
      refine U.callV (pc := 68) (As := [.int x7, .int x8]) (st := []) dX4_load_68 l_RX4_48 (ok_X4_addFactor (by omega) x7 x8 ew9) lx_6 ly_6 cn_4 (Nat.le_of_ble_eq_true rfl) rfl rfl (Nat.le_of_ble_eq_true rfl) ?_
      refine V.iinc (lv' := [some (.ref 6), some (.ref 3), some (.int (l2 + 1)), none]) (pc := 71) dX4_load_71 (Nat.le_of_ble_eq_true rfl) rfl rfl (v := (l2 + 1)) (by rw [show Int32.ofInt 1 = 1 from by decide]) rfl ?_
      refine V.goto (t := 23) (pc := 74) dX4_load_74 (by decide) ?_
      exact h23 (l2 + 1) w9 _ h
def f_X4_load_3 (w : Wd) : Option Wd :=
  letW (sI w 6 7 1) fun w1 =>
  bnd (f_J7_fill_53178_9 0 w1) fun w2 =>
  letW (sI w2 6 6 (w2.1 3 3)) fun w3 =>
  f_X4_load_3_L23  FU 0 w3
set_option maxHeartbeats 4000000 in
set_option maxRecDepth 100000 in
theorem ok_X4_load_3 {G : GT} {d : Nat} (hd : 3 ≤ d) {w : Wd}  {w' : Wd} (h : f_X4_load_3  w = some w') : uC G yX4_load mX4_load d [.ref 6, .ref 3] w none w' := by
  obtain ⟨d, rfl⟩ : ∃ e, d = e + 1 := ⟨d - 1, by omega⟩
  unfold f_X4_load_3 at h
  refine uC_of (lv := [some (.ref 6), some (.ref 3), none, none]) 2 pn_X4 ⟨rfl, rfl⟩ (Nat.le_of_ble_eq_true rfl) rfl ?_
  refine V.aload_n (pc := 0) dX4_load_0 rfl ?_
  refine V.iconst (pc := 1) dX4_load_1 ic_1 ?_
  obtain ⟨w1, ew1, h⟩ := letW_e h
  refine V.putIX (pc := 2) dX4_load_2 f_RX4_30 k_cl4 lx_6 ly_6 rb_4_7 (fin_I (T0 := TX4) rfl rfl rfl) ew1 ?_
  refine V.aload_n (pc := 5) dX4_load_5 rfl ?_
  refine V.getR (t := 9) (pc := 6) dX4_load_6 f_RX4_18 k_cl4 lx_6 ly_6 rb_4_2 rr_6_2 ?_
  refine V.iconst (pc := 9) dX4_load_9 ic_0 ?_
  obtain ⟨w2, ew2, h⟩ := bnd_e h
  refine U.callS (pc := 10) (As := [.ref 9, .int 0]) (st := []) dX4_load_10 l_RX4_34 (ok_J7_fill_53178_9 (by omega) 0 ew2) (Nat.le_of_ble_eq_true rfl) rfl rfl (Nat.le_of_ble_eq_true rfl) ?_
  refine V.aload_n (pc := 13) dX4_load_13 rfl ?_
  refine V.aload_n (pc := 14) dX4_load_14 rfl ?_
  refine V.getI (pc := 15) dX4_load_15 f_RX4_40 k_cl7 lx_3 ly_3 rb_7_3 ?_
  obtain ⟨w3, ew3, h⟩ := letW_e h
  refine V.putIX (pc := 18) dX4_load_18 f_RX4_45 k_cl4 lx_6 ly_6 rb_4_6 (fin_I (T0 := TX4) rfl rfl rfl) ew3 ?_
  refine V.iconst (pc := 21) dX4_load_21 ic_0 ?_
  refine V.istore_n (lv' := [some (.ref 6), some (.ref 3), some (.int 0), none]) (pc := 22) dX4_load_22 (Nat.le_of_ble_eq_true rfl) rfl rfl ?_
  exact t_X4_load_3_L23 hd FU 0 w3 _ h
theorem dX1_widen_0 : decode cX1_widen 0 = .ok (.iconst 0, 1) := by decide +kernel
theorem dX1_widen_1 : decode cX1_widen 1 = .ok (.istore_n 1, 1) := by decide +kernel
theorem dX1_widen_2 : decode cX1_widen 2 = .ok (.iload_n 1, 1) := by decide +kernel
theorem dX1_widen_3 : decode cX1_widen 3 = .ok (.aload_n 0, 1) := by decide +kernel
theorem dX1_widen_4 : decode cX1_widen 4 = .ok (.getfield 35, 3) := by decide +kernel
theorem dX1_widen_7 : decode cX1_widen 7 = .ok (.if_icmp .ge 119, 3) := by decide +kernel
theorem dX1_widen_10 : decode cX1_widen 10 = .ok (.iload_n 1, 1) := by decide +kernel
theorem dX1_widen_11 : decode cX1_widen 11 = .ok (.bipush 16, 2) := by decide +kernel
theorem dX1_widen_13 : decode cX1_widen 13 = .ok (.if_icmp .ge 113, 3) := by decide +kernel
theorem dX1_widen_16 : decode cX1_widen 16 = .ok (.iconst 0, 1) := by decide +kernel
theorem dX1_widen_17 : decode cX1_widen 17 = .ok (.istore_n 2, 1) := by decide +kernel
theorem dX1_widen_18 : decode cX1_widen 18 = .ok (.iload_n 2, 1) := by decide +kernel
theorem dX1_widen_19 : decode cX1_widen 19 = .ok (.aload_n 0, 1) := by decide +kernel
theorem dX1_widen_20 : decode cX1_widen 20 = .ok (.getfield 31, 3) := by decide +kernel
theorem dX1_widen_23 : decode cX1_widen 23 = .ok (.if_icmp .ge 97, 3) := by decide +kernel
theorem dX1_widen_26 : decode cX1_widen 26 = .ok (.aload_n 0, 1) := by decide +kernel
theorem dX1_widen_27 : decode cX1_widen 27 = .ok (.getfield 27, 3) := by decide +kernel
theorem dX1_widen_30 : decode cX1_widen 30 = .ok (.aload_n 0, 1) := by decide +kernel
theorem dX1_widen_31 : decode cX1_widen 31 = .ok (.getfield 18, 3) := by decide +kernel
theorem dX1_widen_34 : decode cX1_widen 34 = .ok (.iload_n 1, 1) := by decide +kernel
theorem dX1_widen_35 : decode cX1_widen 35 = .ok (.iaload, 1) := by decide +kernel
theorem dX1_widen_36 : decode cX1_widen 36 = .ok (.aload_n 0, 1) := by decide +kernel
theorem dX1_widen_37 : decode cX1_widen 37 = .ok (.getfield 9, 3) := by decide +kernel
theorem dX1_widen_40 : decode cX1_widen 40 = .ok (.iload_n 2, 1) := by decide +kernel
theorem dX1_widen_41 : decode cX1_widen 41 = .ok (.iaload, 1) := by decide +kernel
theorem dX1_widen_42 : decode cX1_widen 42 = .ok (.invokevirtual 49, 3) := by decide +kernel
theorem dX1_widen_45 : decode cX1_widen 45 = .ok (.istore_n 3, 1) := by decide +kernel
theorem dX1_widen_46 : decode cX1_widen 46 = .ok (.aload_n 0, 1) := by decide +kernel
theorem dX1_widen_47 : decode cX1_widen 47 = .ok (.getfield 38, 3) := by decide +kernel
theorem dX1_widen_50 : decode cX1_widen 50 = .ok (.iload_n 3, 1) := by decide +kernel
theorem dX1_widen_51 : decode cX1_widen 51 = .ok (.ishr, 1) := by decide +kernel
theorem dX1_widen_52 : decode cX1_widen 52 = .ok (.iconst 1, 1) := by decide +kernel
theorem dX1_widen_53 : decode cX1_widen 53 = .ok (.iand, 1) := by decide +kernel
theorem dX1_widen_54 : decode cX1_widen 54 = .ok (.ifCond .ne 60, 3) := by decide +kernel
theorem dX1_widen_57 : decode cX1_widen 57 = .ok (.aload_n 0, 1) := by decide +kernel
theorem dX1_widen_58 : decode cX1_widen 58 = .ok (.getfield 35, 3) := by decide +kernel
theorem dX1_widen_61 : decode cX1_widen 61 = .ok (.bipush 16, 2) := by decide +kernel
theorem dX1_widen_63 : decode cX1_widen 63 = .ok (.if_icmp .ge 51, 3) := by decide +kernel
theorem dX1_widen_66 : decode cX1_widen 66 = .ok (.aload_n 0, 1) := by decide +kernel
theorem dX1_widen_67 : decode cX1_widen 67 = .ok (.dup, 1) := by decide +kernel
theorem dX1_widen_68 : decode cX1_widen 68 = .ok (.getfield 38, 3) := by decide +kernel
theorem dX1_widen_71 : decode cX1_widen 71 = .ok (.iconst 1, 1) := by decide +kernel
theorem dX1_widen_72 : decode cX1_widen 72 = .ok (.iload_n 3, 1) := by decide +kernel
theorem dX1_widen_73 : decode cX1_widen 73 = .ok (.ishl, 1) := by decide +kernel
theorem dX1_widen_74 : decode cX1_widen 74 = .ok (.ior, 1) := by decide +kernel
theorem dX1_widen_75 : decode cX1_widen 75 = .ok (.putfield 38, 3) := by decide +kernel
theorem dX1_widen_78 : decode cX1_widen 78 = .ok (.aload_n 0, 1) := by decide +kernel
theorem dX1_widen_79 : decode cX1_widen 79 = .ok (.getfield 18, 3) := by decide +kernel
theorem dX1_widen_82 : decode cX1_widen 82 = .ok (.aload_n 0, 1) := by decide +kernel
theorem dX1_widen_83 : decode cX1_widen 83 = .ok (.dup, 1) := by decide +kernel
theorem dX1_widen_84 : decode cX1_widen 84 = .ok (.getfield 35, 3) := by decide +kernel
theorem dX1_widen_87 : decode cX1_widen 87 = .ok (.dup_x1, 1) := by decide +kernel
theorem dX1_widen_88 : decode cX1_widen 88 = .ok (.iconst 1, 1) := by decide +kernel
theorem dX1_widen_89 : decode cX1_widen 89 = .ok (.iadd, 1) := by decide +kernel
theorem dX1_widen_90 : decode cX1_widen 90 = .ok (.putfield 35, 3) := by decide +kernel
theorem dX1_widen_93 : decode cX1_widen 93 = .ok (.iload_n 3, 1) := by decide +kernel
theorem dX1_widen_94 : decode cX1_widen 94 = .ok (.iastore, 1) := by decide +kernel
theorem dX1_widen_95 : decode cX1_widen 95 = .ok (.aload_n 0, 1) := by decide +kernel
theorem dX1_widen_96 : decode cX1_widen 96 = .ok (.getfield 21, 3) := by decide +kernel
theorem dX1_widen_99 : decode cX1_widen 99 = .ok (.iload_n 3, 1) := by decide +kernel
theorem dX1_widen_100 : decode cX1_widen 100 = .ok (.aload_n 0, 1) := by decide +kernel
theorem dX1_widen_101 : decode cX1_widen 101 = .ok (.getfield 18, 3) := by decide +kernel
theorem dX1_widen_104 : decode cX1_widen 104 = .ok (.iload_n 1, 1) := by decide +kernel
theorem dX1_widen_105 : decode cX1_widen 105 = .ok (.iaload, 1) := by decide +kernel
theorem dX1_widen_106 : decode cX1_widen 106 = .ok (.iastore, 1) := by decide +kernel
theorem dX1_widen_107 : decode cX1_widen 107 = .ok (.aload_n 0, 1) := by decide +kernel
theorem dX1_widen_108 : decode cX1_widen 108 = .ok (.getfield 24, 3) := by decide +kernel
theorem dX1_widen_111 : decode cX1_widen 111 = .ok (.iload_n 3, 1) := by decide +kernel
theorem dX1_widen_112 : decode cX1_widen 112 = .ok (.iload_n 2, 1) := by decide +kernel
theorem dX1_widen_113 : decode cX1_widen 113 = .ok (.iastore, 1) := by decide +kernel
theorem dX1_widen_114 : decode cX1_widen 114 = .ok (.iinc 2 1, 3) := by decide +kernel
theorem dX1_widen_117 : decode cX1_widen 117 = .ok (.goto (-99), 3) := by decide +kernel
theorem dX1_widen_120 : decode cX1_widen 120 = .ok (.iinc 1 1, 3) := by decide +kernel
theorem dX1_widen_123 : decode cX1_widen 123 = .ok (.goto (-121), 3) := by decide +kernel
theorem dX1_widen_126 : decode cX1_widen 126 = .ok (.return_, 1) := by decide +kernel
def f_X1_widen_B18b (k2 : Int32 → Wd → Option Wd) (k18 : Int32 → Int32 → Wd → Option Wd) (l1 : Int32) (l2 : Int32) (w : Wd) : Option Wd :=
  if (w.1 13 6) ≤ l2 then
    k2 (l1 + 1) w
  else
    rdI w 16 16 l1 fun x1 =>
    rdI w 14 4 l2 fun x2 =>
    bnd (f_X4_times x1 x2 w) fun x3 =>
    if (((w.1 13 8) >>> (x3 &&& 31)) &&& 1) = 0 then
      if 16 ≤ (w.1 13 7) then
        k18 l1 (l2 + 1) w
      else
        letW (sI w 13 8 ((w.1 13 8) ||| (1 <<< (x3 &&& 31)))) fun w4 =>
        letW (sI w4 13 7 ((w4.1 13 7) + 1)) fun w5 =>
        wrI w5 16 16 (w4.1 13 7) x3 fun w6 =>
        rdI w6 16 16 l1 fun x7 =>
        wrI w6 17 16 x3 x7 fun w8 =>
        wrI w8 18 16 x3 l2 fun w9 =>
        k18 l1 (l2 + 1) w9
    else
      k18 l1 (l2 + 1) w
def f_X1_widen_L18 (k2 : Int32 → Wd → Option Wd) (n : Nat) : Int32 → Int32 → Wd → Option Wd :=
  Nat.rec (fun _ _ _ => none) (fun _ k => f_X1_widen_B18b k2 k) n
set_option maxHeartbeats 4000000 in
set_option maxRecDepth 100000 in
theorem t_X1_widen_L18 {G : GT} {d : Nat} {k2 : Int32 → Wd → Option Wd} (hd : 1 ≤ d + 1) (h2 : ∀ (l1 : Int32) (w : Wd) (w' : Wd), k2 l1 w = some w' → U (vf G mX1_widen (d + 1)) 2 [some (.ref 13), some (.int l1), none, none] [] w (none, 70, r0, w')) : ∀ (n : Nat) (l1 : Int32) (l2 : Int32) (w : Wd) (w' : Wd), f_X1_widen_L18 k2 n l1 l2 w = some w' → U (vf G mX1_widen (d + 1)) 18 [some (.ref 13), some (.int l1), some (.int l2), none] [] w (none, 70, r0, w') := by
  intro n
  induction n with
  | zero => intro l1 l2 w w' h; cases h
  | succ n h18 =>
    intro l1 l2 w w' h
    have h : f_X1_widen_B18b k2 (f_X1_widen_L18 k2 n) l1 l2 w = some w' := h
    unfold f_X1_widen_B18b at h
    refine V.iload_n (pc := 18) dX1_widen_18 rfl ?_
    refine V.aload_n (pc := 19) dX1_widen_19 rfl ?_
    refine V.getI (pc := 20) dX1_widen_20 f_RX1_31 k_cl1 lx_13 ly_13 rb_1_6 ?_
    rcases ite_e h with ⟨c, h⟩ | ⟨c, h⟩
    · refine V.icmp_ge_t (t := 120) (pc := 23) dX1_widen_23 (by decide) c ?_
      refine V.iinc (lv' := [some (.ref 13), some (.int (l1 + 1)), some (.int l2), none]) (pc := 120) dX1_widen_120 (Nat.le_of_ble_eq_true rfl) rfl rfl (v := (l1 + 1)) (by rw [show Int32.ofInt 1 = 1 from by decide]) rfl ?_
      refine V.goto (t := 2) (pc := 123) dX1_widen_123 (by decide) ?_
      refine V.weak (lv' := [some (.ref 13), some (.int (l1 + 1)), none, none]) (And.intro rfl (And.intro rfl trivial)) ?_
      exact h2 (l1 + 1) w _ h
    · refine V.icmp_ge_f (t := 120) (pc := 23) dX1_widen_23 (by decide) c ?_
      refine V.aload_n (pc := 26) dX1_widen_26 rfl ?_
      refine V.getR (t := 6) (pc := 27) dX1_widen_27 f_RX1_27 k_cl1 lx_13 ly_13 rb_1_0 rr_13_0 ?_
      refine V.aload_n (pc := 30) dX1_widen_30 rfl ?_
      refine V.getR (t := 16) (pc := 31) dX1_widen_31 f_RX1_18 k_cl1 lx_13 ly_13 rb_1_3 rr_13_3 ?_
      refine V.iload_n (pc := 34) dX1_widen_34 rfl ?_
      obtain ⟨x1, ix1, ex1, h⟩ := rdI_e h
      refine V.ialdX (pc := 35) dX1_widen_35 lx_16 ly_16 ix1 ex1 ?_
      refine V.aload_n (pc := 36) dX1_widen_36 rfl ?_
      refine V.getR (t := 14) (pc := 37) dX1_widen_37 f_RX1_9 k_cl1 lx_13 ly_13 rb_1_1 rr_13_1 ?_
      refine V.iload_n (pc := 40) dX1_widen_40 rfl ?_
      obtain ⟨x2, ix2, ex2, h⟩ := rdI_e h
      refine V.ialdX (pc := 41) dX1_widen_41 lx_14 ly_14 ix2 ex2 ?_
      obtain ⟨x3, ex3, h⟩ := bnd_e h
      refine U.callV (pc := 42) (As := [.int x1, .int x2]) (st := []) dX1_widen_42 l_RX1_49 (ok_X4_times (by omega) x1 x2 ex3) lx_6 ly_6 cn_4 (Nat.le_of_ble_eq_true rfl) rfl rfl (Nat.le_of_ble_eq_true rfl) ?_
      refine V.istore_n (lv' := [some (.ref 13), some (.int l1), some (.int l2), some (.int x3)]) (pc := 45) dX1_widen_45 (Nat.le_of_ble_eq_true rfl) rfl rfl ?_
      refine V.aload_n (pc := 46) dX1_widen_46 rfl ?_
      refine V.getI (pc := 47) dX1_widen_47 f_RX1_38 k_cl1 lx_13 ly_13 rb_1_8 ?_
      refine V.iload_n (pc := 50) dX1_widen_50 rfl ?_
      refine V.ishr (pc := 51) dX1_widen_51 ?_
      refine V.iconst (pc := 52) dX1_widen_52 ic_1 ?_
      refine V.iand (pc := 53) dX1_widen_53 ?_
      rcases ite_e h with ⟨c, h⟩ | ⟨c, h⟩
      · refine V.if_ne_f (t := 114) (pc := 54) dX1_widen_54 (by decide) c ?_
        refine V.aload_n (pc := 57) dX1_widen_57 rfl ?_
        refine V.getI (pc := 58) dX1_widen_58 f_RX1_35 k_cl1 lx_13 ly_13 rb_1_7 ?_
        refine V.bipush (pc := 61) dX1_widen_61 bp_16 ?_
        rcases ite_e h with ⟨c, h⟩ | ⟨c, h⟩
        · refine V.icmp_ge_t (t := 114) (pc := 63) dX1_widen_63 (by decide) c ?_
          refine V.iinc (lv' := [some (.ref 13), some (.int l1), some (.int (l2 + 1)), some (.int x3)]) (pc := 114) dX1_widen_114 (Nat.le_of_ble_eq_true rfl) rfl rfl (v := (l2 + 1)) (by rw [show Int32.ofInt 1 = 1 from by decide]) rfl ?_
          refine V.goto (t := 18) (pc := 117) dX1_widen_117 (by decide) ?_
          refine V.weak (lv' := [some (.ref 13), some (.int l1), some (.int (l2 + 1)), none]) (And.intro rfl (And.intro rfl (And.intro rfl trivial))) ?_
          exact h18 l1 (l2 + 1) w _ h
        · refine V.icmp_ge_f (t := 114) (pc := 63) dX1_widen_63 (by decide) c ?_
          refine V.aload_n (pc := 66) dX1_widen_66 rfl ?_
          refine V.dup (pc := 67) dX1_widen_67 rfl ?_
          refine V.getI (pc := 68) dX1_widen_68 f_RX1_38 k_cl1 lx_13 ly_13 rb_1_8 ?_
          refine V.iconst (pc := 71) dX1_widen_71 ic_1 ?_
          refine V.iload_n (pc := 72) dX1_widen_72 rfl ?_
          refine V.ishl (pc := 73) dX1_widen_73 ?_
          refine V.ior (pc := 74) dX1_widen_74 ?_
          obtain ⟨w4, ew4, h⟩ := letW_e h
          refine V.putIX (pc := 75) dX1_widen_75 f_RX1_38 k_cl1 lx_13 ly_13 rb_1_8 (fin_I (T0 := TX1) rfl rfl rfl) ew4 ?_
          refine V.aload_n (pc := 78) dX1_widen_78 rfl ?_
          refine V.getR (t := 16) (pc := 79) dX1_widen_79 f_RX1_18 k_cl1 lx_13 ly_13 rb_1_3 rr_13_3 ?_
          refine V.aload_n (pc := 82) dX1_widen_82 rfl ?_
          refine V.dup (pc := 83) dX1_widen_83 rfl ?_
          refine V.getI (pc := 84) dX1_widen_84 f_RX1_35 k_cl1 lx_13 ly_13 rb_1_7 ?_
          refine V.dup_x1 (pc := 87) dX1_widen_87 rfl rfl ?_
          refine V.iconst (pc := 88) dX1_widen_88 ic_1 ?_
          refine V.iadd (pc := 89) dX1_widen_89 ?_
          obtain ⟨w5, ew5, h⟩ := letW_e h
          refine V.putIX (pc := 90) dX1_widen_90 f_RX1_35 k_cl1 lx_13 ly_13 rb_1_7 (fin_I (T0 := TX1) rfl rfl rfl) ew5 ?_
          refine V.iload_n (pc := 93) dX1_widen_93 rfl ?_
          obtain ⟨w6, iw6, ew6, h⟩ := wrI_e h
          refine V.iastX (pc := 94) dX1_widen_94 lx_16 ly_16 iw6 ew6 ?_
          refine V.aload_n (pc := 95) dX1_widen_95 rfl ?_
          refine V.getR (t := 17) (pc := 96) dX1_widen_96 f_RX1_21 k_cl1 lx_13 ly_13 rb_1_4 rr_13_4 ?_
          refine V.iload_n (pc := 99) dX1_widen_99 rfl ?_
          refine V.aload_n (pc := 100) dX1_widen_100 rfl ?_
          refine V.getR (t := 16) (pc := 101) dX1_widen_101 f_RX1_18 k_cl1 lx_13 ly_13 rb_1_3 rr_13_3 ?_
          refine V.iload_n (pc := 104) dX1_widen_104 rfl ?_
          obtain ⟨x7, ix7, ex7, h⟩ := rdI_e h
          refine V.ialdX (pc := 105) dX1_widen_105 lx_16 ly_16 ix7 ex7 ?_
          obtain ⟨w8, iw8, ew8, h⟩ := wrI_e h
          refine V.iastX (pc := 106) dX1_widen_106 lx_17 ly_17 iw8 ew8 ?_
          refine V.aload_n (pc := 107) dX1_widen_107 rfl ?_
          refine V.getR (t := 18) (pc := 108) dX1_widen_108 f_RX1_24 k_cl1 lx_13 ly_13 rb_1_5 rr_13_5 ?_
          refine V.iload_n (pc := 111) dX1_widen_111 rfl ?_
          refine V.iload_n (pc := 112) dX1_widen_112 rfl ?_
          obtain ⟨w9, iw9, ew9, h⟩ := wrI_e h
          refine V.iastX (pc := 113) dX1_widen_113 lx_18 ly_18 iw9 ew9 ?_
          refine V.iinc (lv' := [some (.ref 13), some (.int l1), some (.int (l2 + 1)), some (.int x3)]) (pc := 114) dX1_widen_114 (Nat.le_of_ble_eq_true rfl) rfl rfl (v := (l2 + 1)) (by rw [show Int32.ofInt 1 = 1 from by decide]) rfl ?_
          refine V.goto (t := 18) (pc := 117) dX1_widen_117 (by decide) ?_
          refine V.weak (lv' := [some (.ref 13), some (.int l1), some (.int (l2 + 1)), none]) (And.intro rfl (And.intro rfl (And.intro rfl trivial))) ?_
          exact h18 l1 (l2 + 1) w9 _ h
      · refine V.if_ne_t (t := 114) (pc := 54) dX1_widen_54 (by decide) c ?_
        refine V.iinc (lv' := [some (.ref 13), some (.int l1), some (.int (l2 + 1)), some (.int x3)]) (pc := 114) dX1_widen_114 (Nat.le_of_ble_eq_true rfl) rfl rfl (v := (l2 + 1)) (by rw [show Int32.ofInt 1 = 1 from by decide]) rfl ?_
        refine V.goto (t := 18) (pc := 117) dX1_widen_117 (by decide) ?_
        refine V.weak (lv' := [some (.ref 13), some (.int l1), some (.int (l2 + 1)), none]) (And.intro rfl (And.intro rfl (And.intro rfl trivial))) ?_
        exact h18 l1 (l2 + 1) w _ h
def f_X1_widen_B2b (k2 : Int32 → Wd → Option Wd) (l1 : Int32) (w : Wd) : Option Wd :=
  if (w.1 13 7) ≤ l1 then
    some w
  else
    if 16 ≤ l1 then
      some w
    else
      f_X1_widen_L18 k2 FU l1 0 w
def f_X1_widen_L2 (n : Nat) : Int32 → Wd → Option Wd :=
  Nat.rec (fun _ _ => none) (fun _ k => f_X1_widen_B2b k) n
set_option maxHeartbeats 4000000 in
set_option maxRecDepth 100000 in
theorem t_X1_widen_L2 {G : GT} {d : Nat} (hd : 1 ≤ d + 1)  : ∀ (n : Nat) (l1 : Int32) (w : Wd) (w' : Wd), f_X1_widen_L2 n l1 w = some w' → U (vf G mX1_widen (d + 1)) 2 [some (.ref 13), some (.int l1), none, none] [] w (none, 70, r0, w') := by
  intro n
  induction n with
  | zero => intro l1 w w' h; cases h
  | succ n h2 =>
    intro l1 w w' h
    have h : f_X1_widen_B2b (f_X1_widen_L2 n) l1 w = some w' := h
    unfold f_X1_widen_B2b at h
    refine V.iload_n (pc := 2) dX1_widen_2 rfl ?_
    refine V.aload_n (pc := 3) dX1_widen_3 rfl ?_
    refine V.getI (pc := 4) dX1_widen_4 f_RX1_35 k_cl1 lx_13 ly_13 rb_1_7 ?_
    rcases ite_e h with ⟨c, h⟩ | ⟨c, h⟩
    · refine V.icmp_ge_t (t := 126) (pc := 7) dX1_widen_7 (by decide) c ?_
      obtain rfl := Option.some.inj h
      exact V.vret (pc := 126) dX1_widen_126 rfl (Nat.le_refl _) (Nat.le_refl _)
    · refine V.icmp_ge_f (t := 126) (pc := 7) dX1_widen_7 (by decide) c ?_
      refine V.iload_n (pc := 10) dX1_widen_10 rfl ?_
      refine V.bipush (pc := 11) dX1_widen_11 bp_16 ?_
      rcases ite_e h with ⟨c, h⟩ | ⟨c, h⟩
      · refine V.icmp_ge_t (t := 126) (pc := 13) dX1_widen_13 (by decide) c ?_
        obtain rfl := Option.some.inj h
        exact V.vret (pc := 126) dX1_widen_126 rfl (Nat.le_refl _) (Nat.le_refl _)
      · refine V.icmp_ge_f (t := 126) (pc := 13) dX1_widen_13 (by decide) c ?_
        refine V.iconst (pc := 16) dX1_widen_16 ic_0 ?_
        refine V.istore_n (lv' := [some (.ref 13), some (.int l1), some (.int 0), none]) (pc := 17) dX1_widen_17 (Nat.le_of_ble_eq_true rfl) rfl rfl ?_
        exact t_X1_widen_L18 hd h2 FU l1 0 w _ h
def f_X1_widen (w : Wd) : Option Wd :=
  f_X1_widen_L2  FU 0 w
set_option maxHeartbeats 4000000 in
set_option maxRecDepth 100000 in
theorem ok_X1_widen {G : GT} {d : Nat} (hd : 1 ≤ d) {w : Wd}  {w' : Wd} (h : f_X1_widen  w = some w') : uC G yX1_widen mX1_widen d [.ref 13] w none w' := by
  obtain ⟨d, rfl⟩ : ∃ e, d = e + 1 := ⟨d - 1, by omega⟩
  unfold f_X1_widen at h
  refine uC_of (lv := [some (.ref 13), none, none, none]) 3 pn_X1 ⟨rfl, rfl⟩ (Nat.le_of_ble_eq_true rfl) rfl ?_
  refine V.iconst (pc := 0) dX1_widen_0 ic_0 ?_
  refine V.istore_n (lv' := [some (.ref 13), some (.int 0), none, none]) (pc := 1) dX1_widen_1 (Nat.le_of_ble_eq_true rfl) rfl rfl ?_
  exact t_X1_widen_L2 hd FU 0 w _ h
theorem dX1_find_0 : decode cX1_find 0 = .ok (.aload_n 0, 1) := by decide +kernel
theorem dX1_find_1 : decode cX1_find 1 = .ok (.iconst 0, 1) := by decide +kernel
theorem dX1_find_2 : decode cX1_find 2 = .ok (.putfield 31, 3) := by decide +kernel
theorem dX1_find_5 : decode cX1_find 5 = .ok (.aload_n 0, 1) := by decide +kernel
theorem dX1_find_6 : decode cX1_find 6 = .ok (.iconst 1, 1) := by decide +kernel
theorem dX1_find_7 : decode cX1_find 7 = .ok (.putfield 35, 3) := by decide +kernel
theorem dX1_find_10 : decode cX1_find 10 = .ok (.aload_n 0, 1) := by decide +kernel
theorem dX1_find_11 : decode cX1_find 11 = .ok (.iconst 1, 1) := by decide +kernel
theorem dX1_find_12 : decode cX1_find 12 = .ok (.putfield 38, 3) := by decide +kernel
theorem dX1_find_15 : decode cX1_find 15 = .ok (.aload_n 0, 1) := by decide +kernel
theorem dX1_find_16 : decode cX1_find 16 = .ok (.getfield 18, 3) := by decide +kernel
theorem dX1_find_19 : decode cX1_find 19 = .ok (.iconst 0, 1) := by decide +kernel
theorem dX1_find_20 : decode cX1_find 20 = .ok (.iconst 0, 1) := by decide +kernel
theorem dX1_find_21 : decode cX1_find 21 = .ok (.iastore, 1) := by decide +kernel
theorem dX1_find_22 : decode cX1_find 22 = .ok (.iconst 1, 1) := by decide +kernel
theorem dX1_find_23 : decode cX1_find 23 = .ok (.istore_n 1, 1) := by decide +kernel
theorem dX1_find_24 : decode cX1_find 24 = .ok (.iload_n 1, 1) := by decide +kernel
theorem dX1_find_25 : decode cX1_find 25 = .ok (.aload_n 0, 1) := by decide +kernel
theorem dX1_find_26 : decode cX1_find 26 = .ok (.getfield 27, 3) := by decide +kernel
theorem dX1_find_29 : decode cX1_find 29 = .ok (.getfield 41, 3) := by decide +kernel
theorem dX1_find_32 : decode cX1_find 32 = .ok (.if_icmp .ge 64, 3) := by decide +kernel
theorem dX1_find_35 : decode cX1_find 35 = .ok (.aload_n 0, 1) := by decide +kernel
theorem dX1_find_36 : decode cX1_find 36 = .ok (.getfield 38, 3) := by decide +kernel
theorem dX1_find_39 : decode cX1_find 39 = .ok (.iload_n 1, 1) := by decide +kernel
theorem dX1_find_40 : decode cX1_find 40 = .ok (.ishr, 1) := by decide +kernel
theorem dX1_find_41 : decode cX1_find 41 = .ok (.iconst 1, 1) := by decide +kernel
theorem dX1_find_42 : decode cX1_find 42 = .ok (.iand, 1) := by decide +kernel
theorem dX1_find_43 : decode cX1_find 43 = .ok (.ifCond .ne 47, 3) := by decide +kernel
theorem dX1_find_46 : decode cX1_find 46 = .ok (.aload_n 0, 1) := by decide +kernel
theorem dX1_find_47 : decode cX1_find 47 = .ok (.getfield 31, 3) := by decide +kernel
theorem dX1_find_50 : decode cX1_find 50 = .ok (.iconst 4, 1) := by decide +kernel
theorem dX1_find_51 : decode cX1_find 51 = .ok (.if_icmp .ge 39, 3) := by decide +kernel
theorem dX1_find_54 : decode cX1_find 54 = .ok (.aload_n 0, 1) := by decide +kernel
theorem dX1_find_55 : decode cX1_find 55 = .ok (.getfield 9, 3) := by decide +kernel
theorem dX1_find_58 : decode cX1_find 58 = .ok (.aload_n 0, 1) := by decide +kernel
theorem dX1_find_59 : decode cX1_find 59 = .ok (.dup, 1) := by decide +kernel
theorem dX1_find_60 : decode cX1_find 60 = .ok (.getfield 31, 3) := by decide +kernel
theorem dX1_find_63 : decode cX1_find 63 = .ok (.dup_x1, 1) := by decide +kernel
theorem dX1_find_64 : decode cX1_find 64 = .ok (.iconst 1, 1) := by decide +kernel
theorem dX1_find_65 : decode cX1_find 65 = .ok (.iadd, 1) := by decide +kernel
theorem dX1_find_66 : decode cX1_find 66 = .ok (.putfield 31, 3) := by decide +kernel
theorem dX1_find_69 : decode cX1_find 69 = .ok (.iload_n 1, 1) := by decide +kernel
theorem dX1_find_70 : decode cX1_find 70 = .ok (.iastore, 1) := by decide +kernel
theorem dX1_find_71 : decode cX1_find 71 = .ok (.aload_n 0, 1) := by decide +kernel
theorem dX1_find_72 : decode cX1_find 72 = .ok (.invokevirtual 46, 3) := by decide +kernel
theorem dX1_find_75 : decode cX1_find 75 = .ok (.aload_n 0, 1) := by decide +kernel
theorem dX1_find_76 : decode cX1_find 76 = .ok (.getfield 15, 3) := by decide +kernel
theorem dX1_find_79 : decode cX1_find 79 = .ok (.aload_n 0, 1) := by decide +kernel
theorem dX1_find_80 : decode cX1_find 80 = .ok (.getfield 31, 3) := by decide +kernel
theorem dX1_find_83 : decode cX1_find 83 = .ok (.iconst 1, 1) := by decide +kernel
theorem dX1_find_84 : decode cX1_find 84 = .ok (.isub, 1) := by decide +kernel
theorem dX1_find_85 : decode cX1_find 85 = .ok (.aload_n 0, 1) := by decide +kernel
theorem dX1_find_86 : decode cX1_find 86 = .ok (.getfield 35, 3) := by decide +kernel
theorem dX1_find_89 : decode cX1_find 89 = .ok (.iastore, 1) := by decide +kernel
theorem dX1_find_90 : decode cX1_find 90 = .ok (.iinc 1 1, 3) := by decide +kernel
theorem dX1_find_93 : decode cX1_find 93 = .ok (.goto (-69), 3) := by decide +kernel
theorem dX1_find_96 : decode cX1_find 96 = .ok (.return_, 1) := by decide +kernel
def f_X1_find_B24b (k24 : Int32 → Wd → Option Wd) (l1 : Int32) (w : Wd) : Option Wd :=
  if (w.1 6 7) ≤ l1 then
    some w
  else
    if (((w.1 13 8) >>> (l1 &&& 31)) &&& 1) = 0 then
      if 4 ≤ (w.1 13 6) then
        k24 (l1 + 1) w
      else
        letW (sI w 13 6 ((w.1 13 6) + 1)) fun w1 =>
        wrI w1 14 4 (w.1 13 6) l1 fun w2 =>
        bnd (f_X1_widen  w2) fun w3 =>
        wrI w3 15 4 ((w3.1 13 6) - 1) (w3.1 13 7) fun w4 =>
        k24 (l1 + 1) w4
    else
      k24 (l1 + 1) w
def f_X1_find_L24 (n : Nat) : Int32 → Wd → Option Wd :=
  Nat.rec (fun _ _ => none) (fun _ k => f_X1_find_B24b k) n
set_option maxHeartbeats 4000000 in
set_option maxRecDepth 100000 in
theorem t_X1_find_L24 {G : GT} {d : Nat} (hd : 2 ≤ d + 1)  : ∀ (n : Nat) (l1 : Int32) (w : Wd) (w' : Wd), f_X1_find_L24 n l1 w = some w' → U (vf G mX1_find (d + 1)) 24 [some (.ref 13), some (.int l1)] [] w (none, 70, r0, w') := by
  intro n
  induction n with
  | zero => intro l1 w w' h; cases h
  | succ n h24 =>
    intro l1 w w' h
    have h : f_X1_find_B24b (f_X1_find_L24 n) l1 w = some w' := h
    unfold f_X1_find_B24b at h
    refine V.iload_n (pc := 24) dX1_find_24 rfl ?_
    refine V.aload_n (pc := 25) dX1_find_25 rfl ?_
    refine V.getR (t := 6) (pc := 26) dX1_find_26 f_RX1_27 k_cl1 lx_13 ly_13 rb_1_0 rr_13_0 ?_
    refine V.getI (pc := 29) dX1_find_29 f_RX1_41 k_cl4 lx_6 ly_6 rb_4_7 ?_
    rcases ite_e h with ⟨c, h⟩ | ⟨c, h⟩
    · refine V.icmp_ge_t (t := 96) (pc := 32) dX1_find_32 (by decide) c ?_
      obtain rfl := Option.some.inj h
      exact V.vret (pc := 96) dX1_find_96 rfl (Nat.le_refl _) (Nat.le_refl _)
    · refine V.icmp_ge_f (t := 96) (pc := 32) dX1_find_32 (by decide) c ?_
      refine V.aload_n (pc := 35) dX1_find_35 rfl ?_
      refine V.getI (pc := 36) dX1_find_36 f_RX1_38 k_cl1 lx_13 ly_13 rb_1_8 ?_
      refine V.iload_n (pc := 39) dX1_find_39 rfl ?_
      refine V.ishr (pc := 40) dX1_find_40 ?_
      refine V.iconst (pc := 41) dX1_find_41 ic_1 ?_
      refine V.iand (pc := 42) dX1_find_42 ?_
      rcases ite_e h with ⟨c, h⟩ | ⟨c, h⟩
      · refine V.if_ne_f (t := 90) (pc := 43) dX1_find_43 (by decide) c ?_
        refine V.aload_n (pc := 46) dX1_find_46 rfl ?_
        refine V.getI (pc := 47) dX1_find_47 f_RX1_31 k_cl1 lx_13 ly_13 rb_1_6 ?_
        refine V.iconst (pc := 50) dX1_find_50 ic_4 ?_
        rcases ite_e h with ⟨c, h⟩ | ⟨c, h⟩
        · refine V.icmp_ge_t (t := 90) (pc := 51) dX1_find_51 (by decide) c ?_
          refine V.iinc (lv' := [some (.ref 13), some (.int (l1 + 1))]) (pc := 90) dX1_find_90 (Nat.le_of_ble_eq_true rfl) rfl rfl (v := (l1 + 1)) (by rw [show Int32.ofInt 1 = 1 from by decide]) rfl ?_
          refine V.goto (t := 24) (pc := 93) dX1_find_93 (by decide) ?_
          exact h24 (l1 + 1) w _ h
        · refine V.icmp_ge_f (t := 90) (pc := 51) dX1_find_51 (by decide) c ?_
          refine V.aload_n (pc := 54) dX1_find_54 rfl ?_
          refine V.getR (t := 14) (pc := 55) dX1_find_55 f_RX1_9 k_cl1 lx_13 ly_13 rb_1_1 rr_13_1 ?_
          refine V.aload_n (pc := 58) dX1_find_58 rfl ?_
          refine V.dup (pc := 59) dX1_find_59 rfl ?_
          refine V.getI (pc := 60) dX1_find_60 f_RX1_31 k_cl1 lx_13 ly_13 rb_1_6 ?_
          refine V.dup_x1 (pc := 63) dX1_find_63 rfl rfl ?_
          refine V.iconst (pc := 64) dX1_find_64 ic_1 ?_
          refine V.iadd (pc := 65) dX1_find_65 ?_
          obtain ⟨w1, ew1, h⟩ := letW_e h
          refine V.putIX (pc := 66) dX1_find_66 f_RX1_31 k_cl1 lx_13 ly_13 rb_1_6 (fin_I (T0 := TX1) rfl rfl rfl) ew1 ?_
          refine V.iload_n (pc := 69) dX1_find_69 rfl ?_
          obtain ⟨w2, iw2, ew2, h⟩ := wrI_e h
          refine V.iastX (pc := 70) dX1_find_70 lx_14 ly_14 iw2 ew2 ?_
          refine V.aload_n (pc := 71) dX1_find_71 rfl ?_
          obtain ⟨w3, ew3, h⟩ := bnd_e h
          refine U.callV (pc := 72) (As := []) (st := []) dX1_find_72 l_RX1_46 (ok_X1_widen (by omega)  ew3) lx_13 ly_13 cn_1 (Nat.le_of_ble_eq_true rfl) rfl rfl (Nat.le_of_ble_eq_true rfl) ?_
          refine V.aload_n (pc := 75) dX1_find_75 rfl ?_
          refine V.getR (t := 15) (pc := 76) dX1_find_76 f_RX1_15 k_cl1 lx_13 ly_13 rb_1_2 rr_13_2 ?_
          refine V.aload_n (pc := 79) dX1_find_79 rfl ?_
          refine V.getI (pc := 80) dX1_find_80 f_RX1_31 k_cl1 lx_13 ly_13 rb_1_6 ?_
          refine V.iconst (pc := 83) dX1_find_83 ic_1 ?_
          refine V.isub (pc := 84) dX1_find_84 ?_
          refine V.aload_n (pc := 85) dX1_find_85 rfl ?_
          refine V.getI (pc := 86) dX1_find_86 f_RX1_35 k_cl1 lx_13 ly_13 rb_1_7 ?_
          obtain ⟨w4, iw4, ew4, h⟩ := wrI_e h
          refine V.iastX (pc := 89) dX1_find_89 lx_15 ly_15 iw4 ew4 ?_
          refine V.iinc (lv' := [some (.ref 13), some (.int (l1 + 1))]) (pc := 90) dX1_find_90 (Nat.le_of_ble_eq_true rfl) rfl rfl (v := (l1 + 1)) (by rw [show Int32.ofInt 1 = 1 from by decide]) rfl ?_
          refine V.goto (t := 24) (pc := 93) dX1_find_93 (by decide) ?_
          exact h24 (l1 + 1) w4 _ h
      · refine V.if_ne_t (t := 90) (pc := 43) dX1_find_43 (by decide) c ?_
        refine V.iinc (lv' := [some (.ref 13), some (.int (l1 + 1))]) (pc := 90) dX1_find_90 (Nat.le_of_ble_eq_true rfl) rfl rfl (v := (l1 + 1)) (by rw [show Int32.ofInt 1 = 1 from by decide]) rfl ?_
        refine V.goto (t := 24) (pc := 93) dX1_find_93 (by decide) ?_
        exact h24 (l1 + 1) w _ h
def f_X1_find (w : Wd) : Option Wd :=
  letW (sI w 13 6 0) fun w1 =>
  letW (sI w1 13 7 1) fun w2 =>
  letW (sI w2 13 8 1) fun w3 =>
  wrI w3 16 16 0 0 fun w4 =>
  f_X1_find_L24  FU 1 w4
set_option maxHeartbeats 4000000 in
set_option maxRecDepth 100000 in
theorem ok_X1_find {G : GT} {d : Nat} (hd : 2 ≤ d) {w : Wd}  {w' : Wd} (h : f_X1_find  w = some w') : uC G yX1_find mX1_find d [.ref 13] w none w' := by
  obtain ⟨d, rfl⟩ : ∃ e, d = e + 1 := ⟨d - 1, by omega⟩
  unfold f_X1_find at h
  refine uC_of (lv := [some (.ref 13), none]) 1 pn_X1 ⟨rfl, rfl⟩ (Nat.le_of_ble_eq_true rfl) rfl ?_
  refine V.aload_n (pc := 0) dX1_find_0 rfl ?_
  refine V.iconst (pc := 1) dX1_find_1 ic_0 ?_
  obtain ⟨w1, ew1, h⟩ := letW_e h
  refine V.putIX (pc := 2) dX1_find_2 f_RX1_31 k_cl1 lx_13 ly_13 rb_1_6 (fin_I (T0 := TX1) rfl rfl rfl) ew1 ?_
  refine V.aload_n (pc := 5) dX1_find_5 rfl ?_
  refine V.iconst (pc := 6) dX1_find_6 ic_1 ?_
  obtain ⟨w2, ew2, h⟩ := letW_e h
  refine V.putIX (pc := 7) dX1_find_7 f_RX1_35 k_cl1 lx_13 ly_13 rb_1_7 (fin_I (T0 := TX1) rfl rfl rfl) ew2 ?_
  refine V.aload_n (pc := 10) dX1_find_10 rfl ?_
  refine V.iconst (pc := 11) dX1_find_11 ic_1 ?_
  obtain ⟨w3, ew3, h⟩ := letW_e h
  refine V.putIX (pc := 12) dX1_find_12 f_RX1_38 k_cl1 lx_13 ly_13 rb_1_8 (fin_I (T0 := TX1) rfl rfl rfl) ew3 ?_
  refine V.aload_n (pc := 15) dX1_find_15 rfl ?_
  refine V.getR (t := 16) (pc := 16) dX1_find_16 f_RX1_18 k_cl1 lx_13 ly_13 rb_1_3 rr_13_3 ?_
  refine V.iconst (pc := 19) dX1_find_19 ic_0 ?_
  refine V.iconst (pc := 20) dX1_find_20 ic_0 ?_
  obtain ⟨w4, iw4, ew4, h⟩ := wrI_e h
  refine V.iastX (pc := 21) dX1_find_21 lx_16 ly_16 iw4 ew4 ?_
  refine V.iconst (pc := 22) dX1_find_22 ic_1 ?_
  refine V.istore_n (lv' := [some (.ref 13), some (.int 1)]) (pc := 23) dX1_find_23 (Nat.le_of_ble_eq_true rfl) rfl rfl ?_
  exact t_X1_find_L24 hd FU 1 w4 _ h
theorem dX3_forget_0 : decode cX3_forget 0 = .ok (.aload_n 0, 1) := by decide +kernel
theorem dX3_forget_1 : decode cX3_forget 1 = .ok (.iconst 0, 1) := by decide +kernel
theorem dX3_forget_2 : decode cX3_forget 2 = .ok (.putfield 19, 3) := by decide +kernel
theorem dX3_forget_5 : decode cX3_forget 5 = .ok (.return_, 1) := by decide +kernel
def f_X3_forget (w : Wd) : Wd :=
  letW (sI w 19 2 0) fun w1 =>
  w1
set_option maxHeartbeats 4000000 in
set_option maxRecDepth 100000 in
theorem ok_X3_forget {G : GT} {d : Nat} (hd : 0 ≤ d) {w : Wd}  {w' : Wd} (h : f_X3_forget  w = w') : uC G yX3_forget mX3_forget d [.ref 19] w none w' := by
  unfold f_X3_forget at h
  refine uC_of (lv := [some (.ref 19)]) 0 pn_X3 ⟨rfl, rfl⟩ (Nat.le_of_ble_eq_true rfl) rfl ?_
  refine V.aload_n (pc := 0) dX3_forget_0 rfl ?_
  refine V.iconst (pc := 1) dX3_forget_1 ic_0 ?_
  obtain ⟨w1, ew1, h⟩ := letW_e h
  refine V.putIX (pc := 2) dX3_forget_2 f_RX3_19 k_cl3 lx_19 ly_19 rb_3_2 (fin_I (T0 := TX3) rfl rfl rfl) ew1 ?_
  subst h
  exact V.vret (pc := 5) dX3_forget_5 rfl (Nat.le_refl _) (Nat.le_refl _)
theorem dX2_forget_0 : decode cX2_forget 0 = .ok (.aload_n 0, 1) := by decide +kernel
theorem dX2_forget_1 : decode cX2_forget 1 = .ok (.iconst (-1), 1) := by decide +kernel
theorem dX2_forget_2 : decode cX2_forget 2 = .ok (.putfield 22, 3) := by decide +kernel
theorem dX2_forget_5 : decode cX2_forget 5 = .ok (.return_, 1) := by decide +kernel
def f_X2_forget (w : Wd) : Wd :=
  letW (sI w 21 3 (-1)) fun w1 =>
  w1
set_option maxHeartbeats 4000000 in
set_option maxRecDepth 100000 in
theorem ok_X2_forget {G : GT} {d : Nat} (hd : 0 ≤ d) {w : Wd}  {w' : Wd} (h : f_X2_forget  w = w') : uC G yX2_forget mX2_forget d [.ref 21] w none w' := by
  unfold f_X2_forget at h
  refine uC_of (lv := [some (.ref 21)]) 0 pn_X2 ⟨rfl, rfl⟩ (Nat.le_of_ble_eq_true rfl) rfl ?_
  refine V.aload_n (pc := 0) dX2_forget_0 rfl ?_
  refine V.iconst (pc := 1) dX2_forget_1 ic_m1 ?_
  obtain ⟨w1, ew1, h⟩ := letW_e h
  refine V.putIX (pc := 2) dX2_forget_2 f_RX2_22 k_cl2 lx_21 ly_21 rb_2_3 (fin_I (T0 := TX2) rfl rfl rfl) ew1 ?_
  subst h
  exact V.vret (pc := 5) dX2_forget_5 rfl (Nat.le_refl _) (Nat.le_refl _)
theorem dX10_forget_0 : decode cX10_forget 0 = .ok (.aload_n 0, 1) := by decide +kernel
theorem dX10_forget_1 : decode cX10_forget 1 = .ok (.iconst 0, 1) := by decide +kernel
theorem dX10_forget_2 : decode cX10_forget 2 = .ok (.putfield 42, 3) := by decide +kernel
theorem dX10_forget_5 : decode cX10_forget 5 = .ok (.return_, 1) := by decide +kernel
def f_X10_forget (w : Wd) : Wd :=
  letW (sI w 24 8 0) fun w1 =>
  w1
set_option maxHeartbeats 4000000 in
set_option maxRecDepth 100000 in
theorem ok_X10_forget {G : GT} {d : Nat} (hd : 0 ≤ d) {w : Wd}  {w' : Wd} (h : f_X10_forget  w = w') : uC G yX10_forget mX10_forget d [.ref 24] w none w' := by
  unfold f_X10_forget at h
  refine uC_of (lv := [some (.ref 24)]) 0 pn_X10 ⟨rfl, rfl⟩ (Nat.le_of_ble_eq_true rfl) rfl ?_
  refine V.aload_n (pc := 0) dX10_forget_0 rfl ?_
  refine V.iconst (pc := 1) dX10_forget_1 ic_0 ?_
  obtain ⟨w1, ew1, h⟩ := letW_e h
  refine V.putIX (pc := 2) dX10_forget_2 f_RX10_42 k_cl10 lx_24 ly_24 rb_10_8 (fin_I (T0 := TX10) rfl rfl rfl) ew1 ?_
  subst h
  exact V.vret (pc := 5) dX10_forget_5 rfl (Nat.le_refl _) (Nat.le_refl _)
theorem dX5_forget_0 : decode cX5_forget 0 = .ok (.aload_n 0, 1) := by decide +kernel
theorem dX5_forget_1 : decode cX5_forget 1 = .ok (.getfield 28, 3) := by decide +kernel
theorem dX5_forget_4 : decode cX5_forget 4 = .ok (.iconst 0, 1) := by decide +kernel
theorem dX5_forget_5 : decode cX5_forget 5 = .ok (.putfield 32, 3) := by decide +kernel
theorem dX5_forget_8 : decode cX5_forget 8 = .ok (.return_, 1) := by decide +kernel
def f_X5_forget (w : Wd) : Wd :=
  letW (sI w 34 4 0) fun w1 =>
  w1
set_option maxHeartbeats 4000000 in
set_option maxRecDepth 100000 in
theorem ok_X5_forget {G : GT} {d : Nat} (hd : 0 ≤ d) {w : Wd}  {w' : Wd} (h : f_X5_forget  w = w') : uC G yX5_forget mX5_forget d [.ref 32] w none w' := by
  unfold f_X5_forget at h
  refine uC_of (lv := [some (.ref 32)]) 0 pn_X5 ⟨rfl, rfl⟩ (Nat.le_of_ble_eq_true rfl) rfl ?_
  refine V.aload_n (pc := 0) dX5_forget_0 rfl ?_
  refine V.getR (t := 34) (pc := 1) dX5_forget_1 f_RX5_28 k_cl5 lx_32 ly_32 rb_5_2 rr_32_2 ?_
  refine V.iconst (pc := 4) dX5_forget_4 ic_0 ?_
  obtain ⟨w1, ew1, h⟩ := letW_e h
  refine V.putIX (pc := 5) dX5_forget_5 f_RX5_32 k_cl8 lx_34 ly_34 rb_8_4 (fin_I (T0 := TX8) rfl rfl rfl) ew1 ?_
  subst h
  exact V.vret (pc := 8) dX5_forget_8 rfl (Nat.le_refl _) (Nat.le_refl _)
theorem dX0_restart_0 : decode cX0_restart 0 = .ok (.iconst 0, 1) := by decide +kernel
theorem dX0_restart_1 : decode cX0_restart 1 = .ok (.istore_n 2, 1) := by decide +kernel
theorem dX0_restart_2 : decode cX0_restart 2 = .ok (.iload_n 2, 1) := by decide +kernel
theorem dX0_restart_3 : decode cX0_restart 3 = .ok (.bipush 20, 2) := by decide +kernel
theorem dX0_restart_5 : decode cX0_restart 5 = .ok (.if_icmp .ge 26, 3) := by decide +kernel
theorem dX0_restart_8 : decode cX0_restart 8 = .ok (.aload_n 0, 1) := by decide +kernel
theorem dX0_restart_9 : decode cX0_restart 9 = .ok (.getfield 11, 3) := by decide +kernel
theorem dX0_restart_12 : decode cX0_restart 12 = .ok (.iload_n 2, 1) := by decide +kernel
theorem dX0_restart_13 : decode cX0_restart 13 = .ok (.iload_n 2, 1) := by decide +kernel
theorem dX0_restart_14 : decode cX0_restart 14 = .ok (.bipush 16, 2) := by decide +kernel
theorem dX0_restart_16 : decode cX0_restart 16 = .ok (.if_icmp .ge 7, 3) := by decide +kernel
theorem dX0_restart_19 : decode cX0_restart 19 = .ok (.iconst 1, 1) := by decide +kernel
theorem dX0_restart_20 : decode cX0_restart 20 = .ok (.goto 4, 3) := by decide +kernel
theorem dX0_restart_23 : decode cX0_restart 23 = .ok (.iconst 0, 1) := by decide +kernel
theorem dX0_restart_24 : decode cX0_restart 24 = .ok (.iastore, 1) := by decide +kernel
theorem dX0_restart_25 : decode cX0_restart 25 = .ok (.iinc 2 1, 3) := by decide +kernel
theorem dX0_restart_28 : decode cX0_restart 28 = .ok (.goto (-26), 3) := by decide +kernel
theorem dX0_restart_31 : decode cX0_restart 31 = .ok (.aload_n 0, 1) := by decide +kernel
theorem dX0_restart_32 : decode cX0_restart 32 = .ok (.getfield 11, 3) := by decide +kernel
theorem dX0_restart_35 : decode cX0_restart 35 = .ok (.bipush 19, 2) := by decide +kernel
theorem dX0_restart_37 : decode cX0_restart 37 = .ok (.iload_n 1, 1) := by decide +kernel
theorem dX0_restart_38 : decode cX0_restart 38 = .ok (.iastore, 1) := by decide +kernel
theorem dX0_restart_39 : decode cX0_restart 39 = .ok (.aload_n 0, 1) := by decide +kernel
theorem dX0_restart_40 : decode cX0_restart 40 = .ok (.iconst 0, 1) := by decide +kernel
theorem dX0_restart_41 : decode cX0_restart 41 = .ok (.putfield 21, 3) := by decide +kernel
theorem dX0_restart_44 : decode cX0_restart 44 = .ok (.return_, 1) := by decide +kernel
def f_X0_restart_B2b (k2 : Int32 → Int32 → Wd → Option Wd) (l1 : Int32) (l2 : Int32) (w : Wd) : Option Wd :=
  if 20 ≤ l2 then
    wrI w 38 20 19 l1 fun w1 =>
    letW (sI w1 37 4 0) fun w2 =>
    some w2
  else
    if 16 ≤ l2 then
      wrI w 38 20 l2 0 fun w3 =>
      k2 l1 (l2 + 1) w3
    else
      wrI w 38 20 l2 1 fun w4 =>
      k2 l1 (l2 + 1) w4
def f_X0_restart_L2 (n : Nat) : Int32 → Int32 → Wd → Option Wd :=
  Nat.rec (fun _ _ _ => none) (fun _ k => f_X0_restart_B2b k) n
set_option maxHeartbeats 4000000 in
set_option maxRecDepth 100000 in
theorem t_X0_restart_L2 {G : GT} {d : Nat} (hd : 0 ≤ d)  : ∀ (n : Nat) (l1 : Int32) (l2 : Int32) (w : Wd) (w' : Wd), f_X0_restart_L2 n l1 l2 w = some w' → U (vf G mX0_restart d) 2 [some (.ref 37), some (.int l1), some (.int l2)] [] w (none, 70, r0, w') := by
  intro n
  induction n with
  | zero => intro l1 l2 w w' h; cases h
  | succ n h2 =>
    intro l1 l2 w w' h
    have h : f_X0_restart_B2b (f_X0_restart_L2 n) l1 l2 w = some w' := h
    unfold f_X0_restart_B2b at h
    refine V.iload_n (pc := 2) dX0_restart_2 rfl ?_
    refine V.bipush (pc := 3) dX0_restart_3 bp_20 ?_
    rcases ite_e h with ⟨c, h⟩ | ⟨c, h⟩
    · refine V.icmp_ge_t (t := 31) (pc := 5) dX0_restart_5 (by decide) c ?_
      refine V.aload_n (pc := 31) dX0_restart_31 rfl ?_
      refine V.getR (t := 38) (pc := 32) dX0_restart_32 f_RX0_11 k_cl0 lx_37 ly_37 rb_0_0 rr_37_0 ?_
      refine V.bipush (pc := 35) dX0_restart_35 bp_19 ?_
      refine V.iload_n (pc := 37) dX0_restart_37 rfl ?_
      obtain ⟨w1, iw1, ew1, h⟩ := wrI_e h
      refine V.iastX (pc := 38) dX0_restart_38 lx_38 ly_38 iw1 ew1 ?_
      refine V.aload_n (pc := 39) dX0_restart_39 rfl ?_
      refine V.iconst (pc := 40) dX0_restart_40 ic_0 ?_
      obtain ⟨w2, ew2, h⟩ := letW_e h
      refine V.putIX (pc := 41) dX0_restart_41 f_RX0_21 k_cl0 lx_37 ly_37 rb_0_4 (fin_I (T0 := TX0) rfl rfl rfl) ew2 ?_
      obtain rfl := Option.some.inj h
      exact V.vret (pc := 44) dX0_restart_44 rfl (Nat.le_refl _) (Nat.le_refl _)
    · refine V.icmp_ge_f (t := 31) (pc := 5) dX0_restart_5 (by decide) c ?_
      refine V.aload_n (pc := 8) dX0_restart_8 rfl ?_
      refine V.getR (t := 38) (pc := 9) dX0_restart_9 f_RX0_11 k_cl0 lx_37 ly_37 rb_0_0 rr_37_0 ?_
      refine V.iload_n (pc := 12) dX0_restart_12 rfl ?_
      refine V.iload_n (pc := 13) dX0_restart_13 rfl ?_
      refine V.bipush (pc := 14) dX0_restart_14 bp_16 ?_
      rcases ite_e h with ⟨c, h⟩ | ⟨c, h⟩
      · refine V.icmp_ge_t (t := 23) (pc := 16) dX0_restart_16 (by decide) c ?_
        refine V.iconst (pc := 23) dX0_restart_23 ic_0 ?_
        obtain ⟨w3, iw3, ew3, h⟩ := wrI_e h
        refine V.iastX (pc := 24) dX0_restart_24 lx_38 ly_38 iw3 ew3 ?_
        refine V.iinc (lv' := [some (.ref 37), some (.int l1), some (.int (l2 + 1))]) (pc := 25) dX0_restart_25 (Nat.le_of_ble_eq_true rfl) rfl rfl (v := (l2 + 1)) (by rw [show Int32.ofInt 1 = 1 from by decide]) rfl ?_
        refine V.goto (t := 2) (pc := 28) dX0_restart_28 (by decide) ?_
        exact h2 l1 (l2 + 1) w3 _ h
      · refine V.icmp_ge_f (t := 23) (pc := 16) dX0_restart_16 (by decide) c ?_
        refine V.iconst (pc := 19) dX0_restart_19 ic_1 ?_
        refine V.goto (t := 24) (pc := 20) dX0_restart_20 (by decide) ?_
        obtain ⟨w4, iw4, ew4, h⟩ := wrI_e h
        refine V.iastX (pc := 24) dX0_restart_24 lx_38 ly_38 iw4 ew4 ?_
        refine V.iinc (lv' := [some (.ref 37), some (.int l1), some (.int (l2 + 1))]) (pc := 25) dX0_restart_25 (Nat.le_of_ble_eq_true rfl) rfl rfl (v := (l2 + 1)) (by rw [show Int32.ofInt 1 = 1 from by decide]) rfl ?_
        refine V.goto (t := 2) (pc := 28) dX0_restart_28 (by decide) ?_
        exact h2 l1 (l2 + 1) w4 _ h
def f_X0_restart (l1 : Int32) (w : Wd) : Option Wd :=
  f_X0_restart_L2  FU l1 0 w
set_option maxHeartbeats 4000000 in
set_option maxRecDepth 100000 in
theorem ok_X0_restart {G : GT} {d : Nat} (hd : 0 ≤ d) {w : Wd} (l1 : Int32) {w' : Wd} (h : f_X0_restart l1 w = some w') : uC G yX0_restart mX0_restart d [.ref 37, .int l1] w none w' := by
  unfold f_X0_restart at h
  refine uC_of (lv := [some (.ref 37), some (.int l1), none]) 1 pn_X0 ⟨rfl, rfl⟩ (Nat.le_of_ble_eq_true rfl) rfl ?_
  refine V.iconst (pc := 0) dX0_restart_0 ic_0 ?_
  refine V.istore_n (lv' := [some (.ref 37), some (.int l1), some (.int 0)]) (pc := 1) dX0_restart_1 (Nat.le_of_ble_eq_true rfl) rfl rfl ?_
  exact t_X0_restart_L2 hd FU l1 0 w _ h
theorem dX11_renew_0 : decode cX11_renew 0 = .ok (.aload_n 0, 1) := by decide +kernel
theorem dX11_renew_1 : decode cX11_renew 1 = .ok (.getfield 28, 3) := by decide +kernel
theorem dX11_renew_4 : decode cX11_renew 4 = .ok (.aload_n 0, 1) := by decide +kernel
theorem dX11_renew_5 : decode cX11_renew 5 = .ok (.getfield 21, 3) := by decide +kernel
theorem dX11_renew_8 : decode cX11_renew 8 = .ok (.invokevirtual 317, 3) := by decide +kernel
theorem dX11_renew_11 : decode cX11_renew 11 = .ok (.aload_n 0, 1) := by decide +kernel
theorem dX11_renew_12 : decode cX11_renew 12 = .ok (.getfield 37, 3) := by decide +kernel
theorem dX11_renew_15 : decode cX11_renew 15 = .ok (.invokevirtual 321, 3) := by decide +kernel
theorem dX11_renew_18 : decode cX11_renew 18 = .ok (.aload_n 0, 1) := by decide +kernel
theorem dX11_renew_19 : decode cX11_renew 19 = .ok (.getfield 44, 3) := by decide +kernel
theorem dX11_renew_22 : decode cX11_renew 22 = .ok (.invokevirtual 324, 3) := by decide +kernel
theorem dX11_renew_25 : decode cX11_renew 25 = .ok (.aload_n 0, 1) := by decide +kernel
theorem dX11_renew_26 : decode cX11_renew 26 = .ok (.getfield 51, 3) := by decide +kernel
theorem dX11_renew_29 : decode cX11_renew 29 = .ok (.invokevirtual 327, 3) := by decide +kernel
theorem dX11_renew_32 : decode cX11_renew 32 = .ok (.aload_n 0, 1) := by decide +kernel
theorem dX11_renew_33 : decode cX11_renew 33 = .ok (.getfield 60, 3) := by decide +kernel
theorem dX11_renew_36 : decode cX11_renew 36 = .ok (.invokevirtual 328, 3) := by decide +kernel
theorem dX11_renew_39 : decode cX11_renew 39 = .ok (.aload_n 0, 1) := by decide +kernel
theorem dX11_renew_40 : decode cX11_renew 40 = .ok (.getfield 67, 3) := by decide +kernel
theorem dX11_renew_43 : decode cX11_renew 43 = .ok (.invokevirtual 329, 3) := by decide +kernel
theorem dX11_renew_46 : decode cX11_renew 46 = .ok (.aload_n 0, 1) := by decide +kernel
theorem dX11_renew_47 : decode cX11_renew 47 = .ok (.getfield 74, 3) := by decide +kernel
theorem dX11_renew_50 : decode cX11_renew 50 = .ok (.aload_n 0, 1) := by decide +kernel
theorem dX11_renew_51 : decode cX11_renew 51 = .ok (.getfield 21, 3) := by decide +kernel
theorem dX11_renew_54 : decode cX11_renew 54 = .ok (.getfield 330, 3) := by decide +kernel
theorem dX11_renew_57 : decode cX11_renew 57 = .ok (.invokevirtual 332, 3) := by decide +kernel
theorem dX11_renew_60 : decode cX11_renew 60 = .ok (.return_, 1) := by decide +kernel
def f_X11_renew (w : Wd) : Option Wd :=
  bnd (f_X4_load_3  w) fun w1 =>
  bnd (f_X1_find  w1) fun w2 =>
  letW (f_X3_forget  w2) fun w3 =>
  letW (f_X2_forget  w3) fun w4 =>
  letW (f_X10_forget  w4) fun w5 =>
  letW (f_X5_forget  w5) fun w6 =>
  bnd (f_X0_restart (w6.1 3 5) w6) fun w7 =>
  some w7
set_option maxHeartbeats 4000000 in
set_option maxRecDepth 100000 in
theorem ok_X11_renew {G : GT} {d : Nat} (hd : 4 ≤ d) {w : Wd}  {w' : Wd} (h : f_X11_renew  w = some w') : uC G yX11_renew mX11_renew d [.ref 0] w none w' := by
  obtain ⟨d, rfl⟩ : ∃ e, d = e + 1 := ⟨d - 1, by omega⟩
  unfold f_X11_renew at h
  refine uC_of (lv := [some (.ref 0)]) 0 pn_X11 ⟨rfl, rfl⟩ (Nat.le_of_ble_eq_true rfl) rfl ?_
  refine V.aload_n (pc := 0) dX11_renew_0 rfl ?_
  refine V.getR (t := 6) (pc := 1) dX11_renew_1 f_RX11_28 k_cl11 lx_0 ly_0 rb_11_2 rr_0_2 ?_
  refine V.aload_n (pc := 4) dX11_renew_4 rfl ?_
  refine V.getR (t := 3) (pc := 5) dX11_renew_5 f_RX11_21 k_cl11 lx_0 ly_0 rb_11_1 rr_0_1 ?_
  obtain ⟨w1, ew1, h⟩ := bnd_e h
  refine U.callV (pc := 8) (As := [.ref 3]) (st := []) dX11_renew_8 l_RX11_317 (ok_X4_load_3 (by omega)  ew1) lx_6 ly_6 cn_4 (Nat.le_of_ble_eq_true rfl) rfl rfl (Nat.le_of_ble_eq_true rfl) ?_
  refine V.aload_n (pc := 11) dX11_renew_11 rfl ?_
  refine V.getR (t := 13) (pc := 12) dX11_renew_12 f_RX11_37 k_cl11 lx_0 ly_0 rb_11_3 rr_0_3 ?_
  obtain ⟨w2, ew2, h⟩ := bnd_e h
  refine U.callV (pc := 15) (As := []) (st := []) dX11_renew_15 l_RX11_321 (ok_X1_find (by omega)  ew2) lx_13 ly_13 cn_1 (Nat.le_of_ble_eq_true rfl) rfl rfl (Nat.le_of_ble_eq_true rfl) ?_
  refine V.aload_n (pc := 18) dX11_renew_18 rfl ?_
  refine V.getR (t := 19) (pc := 19) dX11_renew_19 f_RX11_44 k_cl11 lx_0 ly_0 rb_11_4 rr_0_4 ?_
  obtain ⟨w3, ew3, h⟩ := letW_e h
  refine U.callV (pc := 22) (As := []) (st := []) dX11_renew_22 l_RX11_324 (ok_X3_forget (by omega)  ew3) lx_19 ly_19 cn_3 (Nat.le_of_ble_eq_true rfl) rfl rfl (Nat.le_of_ble_eq_true rfl) ?_
  refine V.aload_n (pc := 25) dX11_renew_25 rfl ?_
  refine V.getR (t := 21) (pc := 26) dX11_renew_26 f_RX11_51 k_cl11 lx_0 ly_0 rb_11_5 rr_0_5 ?_
  obtain ⟨w4, ew4, h⟩ := letW_e h
  refine U.callV (pc := 29) (As := []) (st := []) dX11_renew_29 l_RX11_327 (ok_X2_forget (by omega)  ew4) lx_21 ly_21 cn_2 (Nat.le_of_ble_eq_true rfl) rfl rfl (Nat.le_of_ble_eq_true rfl) ?_
  refine V.aload_n (pc := 32) dX11_renew_32 rfl ?_
  refine V.getR (t := 24) (pc := 33) dX11_renew_33 f_RX11_60 k_cl11 lx_0 ly_0 rb_11_6 rr_0_6 ?_
  obtain ⟨w5, ew5, h⟩ := letW_e h
  refine U.callV (pc := 36) (As := []) (st := []) dX11_renew_36 l_RX11_328 (ok_X10_forget (by omega)  ew5) lx_24 ly_24 cn_10 (Nat.le_of_ble_eq_true rfl) rfl rfl (Nat.le_of_ble_eq_true rfl) ?_
  refine V.aload_n (pc := 39) dX11_renew_39 rfl ?_
  refine V.getR (t := 32) (pc := 40) dX11_renew_40 f_RX11_67 k_cl11 lx_0 ly_0 rb_11_7 rr_0_7 ?_
  obtain ⟨w6, ew6, h⟩ := letW_e h
  refine U.callV (pc := 43) (As := []) (st := []) dX11_renew_43 l_RX11_329 (ok_X5_forget (by omega)  ew6) lx_32 ly_32 cn_5 (Nat.le_of_ble_eq_true rfl) rfl rfl (Nat.le_of_ble_eq_true rfl) ?_
  refine V.aload_n (pc := 46) dX11_renew_46 rfl ?_
  refine V.getR (t := 37) (pc := 47) dX11_renew_47 f_RX11_74 k_cl11 lx_0 ly_0 rb_11_8 rr_0_8 ?_
  refine V.aload_n (pc := 50) dX11_renew_50 rfl ?_
  refine V.getR (t := 3) (pc := 51) dX11_renew_51 f_RX11_21 k_cl11 lx_0 ly_0 rb_11_1 rr_0_1 ?_
  refine V.getI (pc := 54) dX11_renew_54 f_RX11_330 k_cl7 lx_3 ly_3 rb_7_5 ?_
  obtain ⟨w7, ew7, h⟩ := bnd_e h
  refine U.callV (pc := 57) (As := [.int (w6.1 3 5)]) (st := []) dX11_renew_57 l_RX11_332 (ok_X0_restart (by omega) (w6.1 3 5) ew7) lx_37 ly_37 cn_0 (Nat.le_of_ble_eq_true rfl) rfl rfl (Nat.le_of_ble_eq_true rfl) ?_
  obtain rfl := Option.some.inj h
  exact V.vret (pc := 60) dX11_renew_60 rfl (Nat.le_refl _) (Nat.le_refl _)
theorem dX12_product0_0 : decode cX12_product0 0 = .ok (.aload_n 0, 1) := by decide +kernel
theorem dX12_product0_1 : decode cX12_product0 1 = .ok (.getfield 20, 3) := by decide +kernel
theorem dX12_product0_4 : decode cX12_product0 4 = .ok (.bipush 16, 2) := by decide +kernel
theorem dX12_product0_6 : decode cX12_product0 6 = .ok (.iload_n 1, 1) := by decide +kernel
theorem dX12_product0_7 : decode cX12_product0 7 = .ok (.imul, 1) := by decide +kernel
theorem dX12_product0_8 : decode cX12_product0 8 = .ok (.iload_n 2, 1) := by decide +kernel
theorem dX12_product0_9 : decode cX12_product0 9 = .ok (.iadd, 1) := by decide +kernel
theorem dX12_product0_10 : decode cX12_product0 10 = .ok (.iaload, 1) := by decide +kernel
theorem dX12_product0_11 : decode cX12_product0 11 = .ok (.ireturn, 1) := by decide +kernel
def f_X12_product0 (l1 : Int32) (l2 : Int32) (w : Wd) : Option Int32 :=
  rdI w 47 256 ((16 * l1) + l2) fun x1 =>
  some x1
set_option maxHeartbeats 4000000 in
set_option maxRecDepth 100000 in
theorem ok_X12_product0 {G : GT} {d : Nat} (hd : 0 ≤ d) {w : Wd} (l1 : Int32) (l2 : Int32) {r : Int32} (h : f_X12_product0 l1 l2 w = some r) : uC G yX12_product0 mX12_product0 d [.ref 44, .int l1, .int l2] w (some (.int r)) w := by
  unfold f_X12_product0 at h
  refine uC_of (lv := [some (.ref 44), some (.int l1), some (.int l2)]) 0 pn_X12 ⟨rfl, rfl⟩ (Nat.le_of_ble_eq_true rfl) rfl ?_
  refine V.aload_n (pc := 0) dX12_product0_0 rfl ?_
  refine V.getR (t := 47) (pc := 1) dX12_product0_1 f_RX12_20 k_cl12 lx_44 ly_44 rb_12_5 rr_44_5 ?_
  refine V.bipush (pc := 4) dX12_product0_4 bp_16 ?_
  refine V.iload_n (pc := 6) dX12_product0_6 rfl ?_
  refine V.imul (pc := 7) dX12_product0_7 ?_
  refine V.iload_n (pc := 8) dX12_product0_8 rfl ?_
  refine V.iadd (pc := 9) dX12_product0_9 ?_
  obtain ⟨x1, ix1, ex1, h⟩ := rdI_e h
  refine V.ialdX (pc := 10) dX12_product0_10 lx_47 ly_47 ix1 ex1 ?_
  obtain rfl := Option.some.inj h
  exact V.iret (pc := 11) dX12_product0_11 rfl (Nat.le_refl _) (Nat.le_refl _)
