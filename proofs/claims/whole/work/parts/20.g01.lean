theorem dX12_has_0 : decode cX12_has 0 = .ok (.iload_n 0, 1) := by decide +kernel
theorem dX12_has_1 : decode cX12_has 1 = .ok (.iload_n 1, 1) := by decide +kernel
theorem dX12_has_2 : decode cX12_has 2 = .ok (.ishr, 1) := by decide +kernel
theorem dX12_has_3 : decode cX12_has 3 = .ok (.iconst 1, 1) := by decide +kernel
theorem dX12_has_4 : decode cX12_has 4 = .ok (.iand, 1) := by decide +kernel
theorem dX12_has_5 : decode cX12_has 5 = .ok (.iconst 1, 1) := by decide +kernel
theorem dX12_has_6 : decode cX12_has 6 = .ok (.if_icmp .ne 7, 3) := by decide +kernel
theorem dX12_has_9 : decode cX12_has 9 = .ok (.iconst 1, 1) := by decide +kernel
theorem dX12_has_10 : decode cX12_has 10 = .ok (.goto 4, 3) := by decide +kernel
theorem dX12_has_13 : decode cX12_has 13 = .ok (.iconst 0, 1) := by decide +kernel
theorem dX12_has_14 : decode cX12_has 14 = .ok (.ireturn, 1) := by decide +kernel
def f_X12_has (l0 : Int32) (l1 : Int32) : Int32 :=
  if ((l0 >>> (l1 &&& 31)) &&& 1) = 1 then
    (1 : Int32)
  else
    (0 : Int32)
set_option maxHeartbeats 4000000 in
set_option maxRecDepth 100000 in
theorem ok_X12_has {G : GT} {d : Nat} (hd : 0 ≤ d) {w : Wd} (l0 : Int32) (l1 : Int32) : uC G yX12_has mX12_has d [.int l0, .int l1] w (some (.int (f_X12_has l0 l1))) w := by
  suffices key : ∀ r, f_X12_has l0 l1 = r → uC G yX12_has mX12_has d [.int l0, .int l1] w (some (.int r)) w from key _ rfl
  intro r h
  unfold f_X12_has at h
  refine uC_of (lv := [some (.int l0), some (.int l1)]) 0 pn_X12 ⟨rfl, rfl⟩ (Nat.le_of_ble_eq_true rfl) rfl ?_
  refine V.iload_n (pc := 0) dX12_has_0 rfl ?_
  refine V.iload_n (pc := 1) dX12_has_1 rfl ?_
  refine V.ishr (pc := 2) dX12_has_2 ?_
  refine V.iconst (pc := 3) dX12_has_3 ic_1 ?_
  refine V.iand (pc := 4) dX12_has_4 ?_
  refine V.iconst (pc := 5) dX12_has_5 ic_1 ?_
  rcases ite_e h with ⟨c, h⟩ | ⟨c, h⟩
  · refine V.icmp_ne_f (t := 13) (pc := 6) dX12_has_6 (by decide) c ?_
    refine V.iconst (pc := 9) dX12_has_9 ic_1 ?_
    refine V.goto (t := 14) (pc := 10) dX12_has_10 (by decide) ?_
    subst h
    exact V.zret (pc := 14) dX12_has_14 rfl (Or.inr rfl) (Nat.le_refl _) (Nat.le_refl _)
  · refine V.icmp_ne_t (t := 13) (pc := 6) dX12_has_6 (by decide) c ?_
    refine V.iconst (pc := 13) dX12_has_13 ic_0 ?_
    subst h
    exact V.zret (pc := 14) dX12_has_14 rfl (Or.inl rfl) (Nat.le_refl _) (Nat.le_refl _)
theorem b_X12_has (l0 : Int32) (l1 : Int32) : f_X12_has l0 l1 = 0 ∨ f_X12_has l0 l1 = 1 := by
  unfold f_X12_has
  repeat' (first | exact Or.inl rfl | exact Or.inr rfl | apply b_tree)
  all_goals first | exact Or.inl rfl | exact Or.inr rfl | assumption
theorem dX12_laysWords_0 : decode cX12_laysWords 0 = .ok (.iconst 1, 1) := by decide +kernel
theorem dX12_laysWords_1 : decode cX12_laysWords 1 = .ok (.istore_n 1, 1) := by decide +kernel
theorem dX12_laysWords_2 : decode cX12_laysWords 2 = .ok (.aload_n 0, 1) := by decide +kernel
theorem dX12_laysWords_3 : decode cX12_laysWords 3 = .ok (.getfield 33, 3) := by decide +kernel
theorem dX12_laysWords_6 : decode cX12_laysWords 6 = .ok (.iconst 0, 1) := by decide +kernel
theorem dX12_laysWords_7 : decode cX12_laysWords 7 = .ok (.iconst 0, 1) := by decide +kernel
theorem dX12_laysWords_8 : decode cX12_laysWords 8 = .ok (.iastore, 1) := by decide +kernel
theorem dX12_laysWords_9 : decode cX12_laysWords 9 = .ok (.iconst 1, 1) := by decide +kernel
theorem dX12_laysWords_10 : decode cX12_laysWords 10 = .ok (.istore_n 2, 1) := by decide +kernel
theorem dX12_laysWords_11 : decode cX12_laysWords 11 = .ok (.iconst 0, 1) := by decide +kernel
theorem dX12_laysWords_12 : decode cX12_laysWords 12 = .ok (.istore_n 3, 1) := by decide +kernel
theorem dX12_laysWords_13 : decode cX12_laysWords 13 = .ok (.iload_n 3, 1) := by decide +kernel
theorem dX12_laysWords_14 : decode cX12_laysWords 14 = .ok (.iload_n 2, 1) := by decide +kernel
theorem dX12_laysWords_15 : decode cX12_laysWords 15 = .ok (.if_icmp .ge 96, 3) := by decide +kernel
theorem dX12_laysWords_18 : decode cX12_laysWords 18 = .ok (.iconst 0, 1) := by decide +kernel
theorem dX12_laysWords_19 : decode cX12_laysWords 19 = .ok (.istore 4, 2) := by decide +kernel
theorem dX12_laysWords_21 : decode cX12_laysWords 21 = .ok (.iload 4, 2) := by decide +kernel
theorem dX12_laysWords_23 : decode cX12_laysWords 23 = .ok (.aload_n 0, 1) := by decide +kernel
theorem dX12_laysWords_24 : decode cX12_laysWords 24 = .ok (.getfield 125, 3) := by decide +kernel
theorem dX12_laysWords_27 : decode cX12_laysWords 27 = .ok (.if_icmp .ge 78, 3) := by decide +kernel
theorem dX12_laysWords_30 : decode cX12_laysWords 30 = .ok (.aload_n 0, 1) := by decide +kernel
theorem dX12_laysWords_31 : decode cX12_laysWords 31 = .ok (.aload_n 0, 1) := by decide +kernel
theorem dX12_laysWords_32 : decode cX12_laysWords 32 = .ok (.getfield 33, 3) := by decide +kernel
theorem dX12_laysWords_35 : decode cX12_laysWords 35 = .ok (.iload_n 3, 1) := by decide +kernel
theorem dX12_laysWords_36 : decode cX12_laysWords 36 = .ok (.iaload, 1) := by decide +kernel
theorem dX12_laysWords_37 : decode cX12_laysWords 37 = .ok (.aload_n 0, 1) := by decide +kernel
theorem dX12_laysWords_38 : decode cX12_laysWords 38 = .ok (.getfield 30, 3) := by decide +kernel
theorem dX12_laysWords_41 : decode cX12_laysWords 41 = .ok (.iload 4, 2) := by decide +kernel
theorem dX12_laysWords_43 : decode cX12_laysWords 43 = .ok (.iaload, 1) := by decide +kernel
theorem dX12_laysWords_44 : decode cX12_laysWords 44 = .ok (.invokevirtual 119, 3) := by decide +kernel
theorem dX12_laysWords_47 : decode cX12_laysWords 47 = .ok (.istore 5, 2) := by decide +kernel
theorem dX12_laysWords_49 : decode cX12_laysWords 49 = .ok (.iload_n 1, 1) := by decide +kernel
theorem dX12_laysWords_50 : decode cX12_laysWords 50 = .ok (.iload 5, 2) := by decide +kernel
theorem dX12_laysWords_52 : decode cX12_laysWords 52 = .ok (.invokestatic 128, 3) := by decide +kernel
theorem dX12_laysWords_55 : decode cX12_laysWords 55 = .ok (.ifCond .eq 6, 3) := by decide +kernel
theorem dX12_laysWords_58 : decode cX12_laysWords 58 = .ok (.goto 41, 3) := by decide +kernel
theorem dX12_laysWords_61 : decode cX12_laysWords 61 = .ok (.iload_n 1, 1) := by decide +kernel
theorem dX12_laysWords_62 : decode cX12_laysWords 62 = .ok (.iconst 1, 1) := by decide +kernel
theorem dX12_laysWords_63 : decode cX12_laysWords 63 = .ok (.iload 5, 2) := by decide +kernel
theorem dX12_laysWords_65 : decode cX12_laysWords 65 = .ok (.ishl, 1) := by decide +kernel
theorem dX12_laysWords_66 : decode cX12_laysWords 66 = .ok (.ior, 1) := by decide +kernel
theorem dX12_laysWords_67 : decode cX12_laysWords 67 = .ok (.istore_n 1, 1) := by decide +kernel
theorem dX12_laysWords_68 : decode cX12_laysWords 68 = .ok (.aload_n 0, 1) := by decide +kernel
theorem dX12_laysWords_69 : decode cX12_laysWords 69 = .ok (.getfield 33, 3) := by decide +kernel
theorem dX12_laysWords_72 : decode cX12_laysWords 72 = .ok (.iload_n 2, 1) := by decide +kernel
theorem dX12_laysWords_73 : decode cX12_laysWords 73 = .ok (.iload 5, 2) := by decide +kernel
theorem dX12_laysWords_75 : decode cX12_laysWords 75 = .ok (.iastore, 1) := by decide +kernel
theorem dX12_laysWords_76 : decode cX12_laysWords 76 = .ok (.aload_n 0, 1) := by decide +kernel
theorem dX12_laysWords_77 : decode cX12_laysWords 77 = .ok (.getfield 36, 3) := by decide +kernel
theorem dX12_laysWords_80 : decode cX12_laysWords 80 = .ok (.iload_n 2, 1) := by decide +kernel
theorem dX12_laysWords_81 : decode cX12_laysWords 81 = .ok (.aload_n 0, 1) := by decide +kernel
theorem dX12_laysWords_82 : decode cX12_laysWords 82 = .ok (.getfield 33, 3) := by decide +kernel
theorem dX12_laysWords_85 : decode cX12_laysWords 85 = .ok (.iload_n 3, 1) := by decide +kernel
theorem dX12_laysWords_86 : decode cX12_laysWords 86 = .ok (.iaload, 1) := by decide +kernel
theorem dX12_laysWords_87 : decode cX12_laysWords 87 = .ok (.iastore, 1) := by decide +kernel
theorem dX12_laysWords_88 : decode cX12_laysWords 88 = .ok (.aload_n 0, 1) := by decide +kernel
theorem dX12_laysWords_89 : decode cX12_laysWords 89 = .ok (.getfield 39, 3) := by decide +kernel
theorem dX12_laysWords_92 : decode cX12_laysWords 92 = .ok (.iload_n 2, 1) := by decide +kernel
theorem dX12_laysWords_93 : decode cX12_laysWords 93 = .ok (.iload 4, 2) := by decide +kernel
theorem dX12_laysWords_95 : decode cX12_laysWords 95 = .ok (.iastore, 1) := by decide +kernel
theorem dX12_laysWords_96 : decode cX12_laysWords 96 = .ok (.iinc 2 1, 3) := by decide +kernel
theorem dX12_laysWords_99 : decode cX12_laysWords 99 = .ok (.iinc 4 1, 3) := by decide +kernel
theorem dX12_laysWords_102 : decode cX12_laysWords 102 = .ok (.goto (-81), 3) := by decide +kernel
theorem dX12_laysWords_105 : decode cX12_laysWords 105 = .ok (.iinc 3 1, 3) := by decide +kernel
theorem dX12_laysWords_108 : decode cX12_laysWords 108 = .ok (.goto (-95), 3) := by decide +kernel
theorem dX12_laysWords_111 : decode cX12_laysWords 111 = .ok (.return_, 1) := by decide +kernel
def f_X12_laysWords_B21b (k13 : Int32 → Int32 → Int32 → Wd → Option Wd) (k21 : Int32 → Int32 → Int32 → Int32 → Wd → Option Wd) (l1 : Int32) (l2 : Int32) (l3 : Int32) (l4 : Int32) (w : Wd) : Option Wd :=
  if (w.1 44 9) ≤ l4 then
    k13 l1 l2 (l3 + 1) w
  else
    rdI w 51 16 l3 fun x1 =>
    rdI w 50 16 l4 fun x2 =>
    bnd (f_X12_product0 x1 x2 w) fun x3 =>
    if (f_X12_has l1 x3) = 0 then
      wrI w 51 16 l2 x3 fun w4 =>
      rdI w4 51 16 l3 fun x5 =>
      wrI w4 52 16 l2 x5 fun w6 =>
      wrI w6 53 16 l2 l4 fun w7 =>
      k21 (l1 ||| (1 <<< (x3 &&& 31))) (l2 + 1) l3 (l4 + 1) w7
    else
      k21 l1 l2 l3 (l4 + 1) w
def f_X12_laysWords_L21 (k13 : Int32 → Int32 → Int32 → Wd → Option Wd) (n : Nat) : Int32 → Int32 → Int32 → Int32 → Wd → Option Wd :=
  Nat.rec (fun _ _ _ _ _ => none) (fun _ k => f_X12_laysWords_B21b k13 k) n
set_option maxHeartbeats 4000000 in
set_option maxRecDepth 100000 in
theorem t_X12_laysWords_L21 {G : GT} {d : Nat} {k13 : Int32 → Int32 → Int32 → Wd → Option Wd} (hd : 1 ≤ d + 1) (h13 : ∀ (l1 : Int32) (l2 : Int32) (l3 : Int32) (w : Wd) (w' : Wd), k13 l1 l2 l3 w = some w' → U (vf G mX12_laysWords (d + 1)) 13 [some (.ref 44), some (.int l1), some (.int l2), some (.int l3), none, none] [] w (none, 70, r0, w')) : ∀ (n : Nat) (l1 : Int32) (l2 : Int32) (l3 : Int32) (l4 : Int32) (w : Wd) (w' : Wd), f_X12_laysWords_L21 k13 n l1 l2 l3 l4 w = some w' → U (vf G mX12_laysWords (d + 1)) 21 [some (.ref 44), some (.int l1), some (.int l2), some (.int l3), some (.int l4), none] [] w (none, 70, r0, w') := by
  intro n
  induction n with
  | zero => intro l1 l2 l3 l4 w w' h; cases h
  | succ n h21 =>
    intro l1 l2 l3 l4 w w' h
    have h : f_X12_laysWords_B21b k13 (f_X12_laysWords_L21 k13 n) l1 l2 l3 l4 w = some w' := h
    unfold f_X12_laysWords_B21b at h
    refine V.iload (pc := 21) dX12_laysWords_21 rfl ?_
    refine V.aload_n (pc := 23) dX12_laysWords_23 rfl ?_
    refine V.getI (pc := 24) dX12_laysWords_24 f_RX12_125 k_cl12 lx_44 ly_44 rb_12_9 ?_
    rcases ite_e h with ⟨c, h⟩ | ⟨c, h⟩
    · refine V.icmp_ge_t (t := 105) (pc := 27) dX12_laysWords_27 (by decide) c ?_
      refine V.iinc (lv' := [some (.ref 44), some (.int l1), some (.int l2), some (.int (l3 + 1)), some (.int l4), none]) (pc := 105) dX12_laysWords_105 (Nat.le_of_ble_eq_true rfl) rfl rfl (v := (l3 + 1)) (by rw [show Int32.ofInt 1 = 1 from by decide]) rfl ?_
      refine V.goto (t := 13) (pc := 108) dX12_laysWords_108 (by decide) ?_
      refine V.weak (lv' := [some (.ref 44), some (.int l1), some (.int l2), some (.int (l3 + 1)), none, none]) (And.intro rfl (And.intro rfl (And.intro rfl (And.intro rfl trivial)))) ?_
      exact h13 l1 l2 (l3 + 1) w _ h
    · refine V.icmp_ge_f (t := 105) (pc := 27) dX12_laysWords_27 (by decide) c ?_
      refine V.aload_n (pc := 30) dX12_laysWords_30 rfl ?_
      refine V.aload_n (pc := 31) dX12_laysWords_31 rfl ?_
      refine V.getR (t := 51) (pc := 32) dX12_laysWords_32 f_RX12_33 k_cl12 lx_44 ly_44 rb_12_10 rr_44_10 ?_
      refine V.iload_n (pc := 35) dX12_laysWords_35 rfl ?_
      obtain ⟨x1, ix1, ex1, h⟩ := rdI_e h
      refine V.ialdX (pc := 36) dX12_laysWords_36 lx_51 ly_51 ix1 ex1 ?_
      refine V.aload_n (pc := 37) dX12_laysWords_37 rfl ?_
      refine V.getR (t := 50) (pc := 38) dX12_laysWords_38 f_RX12_30 k_cl12 lx_44 ly_44 rb_12_8 rr_44_8 ?_
      refine V.iload (pc := 41) dX12_laysWords_41 rfl ?_
      obtain ⟨x2, ix2, ex2, h⟩ := rdI_e h
      refine V.ialdX (pc := 43) dX12_laysWords_43 lx_50 ly_50 ix2 ex2 ?_
      obtain ⟨x3, ex3, h⟩ := bnd_e h
      refine U.callV (pc := 44) (As := [.int x1, .int x2]) (st := []) dX12_laysWords_44 l_RX12_119 (ok_X12_product0 (by omega) x1 x2 ex3) lx_44 ly_44 cn_12 (Nat.le_of_ble_eq_true rfl) rfl rfl (Nat.le_of_ble_eq_true rfl) ?_
      refine V.istore (lv' := [some (.ref 44), some (.int l1), some (.int l2), some (.int l3), some (.int l4), some (.int x3)]) (pc := 47) dX12_laysWords_47 (Nat.le_of_ble_eq_true rfl) rfl rfl ?_
      refine V.iload_n (pc := 49) dX12_laysWords_49 rfl ?_
      refine V.iload (pc := 50) dX12_laysWords_50 rfl ?_
      refine U.callS (pc := 52) (As := [.int l1, .int x3]) (st := []) dX12_laysWords_52 l_RX12_128 (ok_X12_has (by omega) l1 x3 ) (Nat.le_of_ble_eq_true rfl) rfl rfl (Nat.le_of_ble_eq_true rfl) ?_
      rcases ite_e h with ⟨c, h⟩ | ⟨c, h⟩
      · refine V.if_eq_t (t := 61) (pc := 55) dX12_laysWords_55 (by decide) c ?_
        refine V.iload_n (pc := 61) dX12_laysWords_61 rfl ?_
        refine V.iconst (pc := 62) dX12_laysWords_62 ic_1 ?_
        refine V.iload (pc := 63) dX12_laysWords_63 rfl ?_
        refine V.ishl (pc := 65) dX12_laysWords_65 ?_
        refine V.ior (pc := 66) dX12_laysWords_66 ?_
        refine V.istore_n (lv' := [some (.ref 44), some (.int (l1 ||| (1 <<< (x3 &&& 31)))), some (.int l2), some (.int l3), some (.int l4), some (.int x3)]) (pc := 67) dX12_laysWords_67 (Nat.le_of_ble_eq_true rfl) rfl rfl ?_
        refine V.aload_n (pc := 68) dX12_laysWords_68 rfl ?_
        refine V.getR (t := 51) (pc := 69) dX12_laysWords_69 f_RX12_33 k_cl12 lx_44 ly_44 rb_12_10 rr_44_10 ?_
        refine V.iload_n (pc := 72) dX12_laysWords_72 rfl ?_
        refine V.iload (pc := 73) dX12_laysWords_73 rfl ?_
        obtain ⟨w4, iw4, ew4, h⟩ := wrI_e h
        refine V.iastX (pc := 75) dX12_laysWords_75 lx_51 ly_51 iw4 ew4 ?_
        refine V.aload_n (pc := 76) dX12_laysWords_76 rfl ?_
        refine V.getR (t := 52) (pc := 77) dX12_laysWords_77 f_RX12_36 k_cl12 lx_44 ly_44 rb_12_11 rr_44_11 ?_
        refine V.iload_n (pc := 80) dX12_laysWords_80 rfl ?_
        refine V.aload_n (pc := 81) dX12_laysWords_81 rfl ?_
        refine V.getR (t := 51) (pc := 82) dX12_laysWords_82 f_RX12_33 k_cl12 lx_44 ly_44 rb_12_10 rr_44_10 ?_
        refine V.iload_n (pc := 85) dX12_laysWords_85 rfl ?_
        obtain ⟨x5, ix5, ex5, h⟩ := rdI_e h
        refine V.ialdX (pc := 86) dX12_laysWords_86 lx_51 ly_51 ix5 ex5 ?_
        obtain ⟨w6, iw6, ew6, h⟩ := wrI_e h
        refine V.iastX (pc := 87) dX12_laysWords_87 lx_52 ly_52 iw6 ew6 ?_
        refine V.aload_n (pc := 88) dX12_laysWords_88 rfl ?_
        refine V.getR (t := 53) (pc := 89) dX12_laysWords_89 f_RX12_39 k_cl12 lx_44 ly_44 rb_12_12 rr_44_12 ?_
        refine V.iload_n (pc := 92) dX12_laysWords_92 rfl ?_
        refine V.iload (pc := 93) dX12_laysWords_93 rfl ?_
        obtain ⟨w7, iw7, ew7, h⟩ := wrI_e h
        refine V.iastX (pc := 95) dX12_laysWords_95 lx_53 ly_53 iw7 ew7 ?_
        refine V.iinc (lv' := [some (.ref 44), some (.int (l1 ||| (1 <<< (x3 &&& 31)))), some (.int (l2 + 1)), some (.int l3), some (.int l4), some (.int x3)]) (pc := 96) dX12_laysWords_96 (Nat.le_of_ble_eq_true rfl) rfl rfl (v := (l2 + 1)) (by rw [show Int32.ofInt 1 = 1 from by decide]) rfl ?_
        refine V.iinc (lv' := [some (.ref 44), some (.int (l1 ||| (1 <<< (x3 &&& 31)))), some (.int (l2 + 1)), some (.int l3), some (.int (l4 + 1)), some (.int x3)]) (pc := 99) dX12_laysWords_99 (Nat.le_of_ble_eq_true rfl) rfl rfl (v := (l4 + 1)) (by rw [show Int32.ofInt 1 = 1 from by decide]) rfl ?_
        refine V.goto (t := 21) (pc := 102) dX12_laysWords_102 (by decide) ?_
        refine V.weak (lv' := [some (.ref 44), some (.int (l1 ||| (1 <<< (x3 &&& 31)))), some (.int (l2 + 1)), some (.int l3), some (.int (l4 + 1)), none]) (And.intro rfl (And.intro rfl (And.intro rfl (And.intro rfl (And.intro rfl trivial))))) ?_
        exact h21 (l1 ||| (1 <<< (x3 &&& 31))) (l2 + 1) l3 (l4 + 1) w7 _ h
      · refine V.if_eq_f (t := 61) (pc := 55) dX12_laysWords_55 (by decide) c ?_
        refine V.goto (t := 99) (pc := 58) dX12_laysWords_58 (by decide) ?_
        refine V.iinc (lv' := [some (.ref 44), some (.int l1), some (.int l2), some (.int l3), some (.int (l4 + 1)), some (.int x3)]) (pc := 99) dX12_laysWords_99 (Nat.le_of_ble_eq_true rfl) rfl rfl (v := (l4 + 1)) (by rw [show Int32.ofInt 1 = 1 from by decide]) rfl ?_
        refine V.goto (t := 21) (pc := 102) dX12_laysWords_102 (by decide) ?_
        refine V.weak (lv' := [some (.ref 44), some (.int l1), some (.int l2), some (.int l3), some (.int (l4 + 1)), none]) (And.intro rfl (And.intro rfl (And.intro rfl (And.intro rfl (And.intro rfl trivial))))) ?_
        exact h21 l1 l2 l3 (l4 + 1) w _ h
def f_X12_laysWords_B13b (k13 : Int32 → Int32 → Int32 → Wd → Option Wd) (l1 : Int32) (l2 : Int32) (l3 : Int32) (w : Wd) : Option Wd :=
  if l2 ≤ l3 then
    some w
  else
    f_X12_laysWords_L21 k13 FU l1 l2 l3 0 w
def f_X12_laysWords_L13 (n : Nat) : Int32 → Int32 → Int32 → Wd → Option Wd :=
  Nat.rec (fun _ _ _ _ => none) (fun _ k => f_X12_laysWords_B13b k) n
set_option maxHeartbeats 4000000 in
set_option maxRecDepth 100000 in
theorem t_X12_laysWords_L13 {G : GT} {d : Nat} (hd : 1 ≤ d + 1)  : ∀ (n : Nat) (l1 : Int32) (l2 : Int32) (l3 : Int32) (w : Wd) (w' : Wd), f_X12_laysWords_L13 n l1 l2 l3 w = some w' → U (vf G mX12_laysWords (d + 1)) 13 [some (.ref 44), some (.int l1), some (.int l2), some (.int l3), none, none] [] w (none, 70, r0, w') := by
  intro n
  induction n with
  | zero => intro l1 l2 l3 w w' h; cases h
  | succ n h13 =>
    intro l1 l2 l3 w w' h
    have h : f_X12_laysWords_B13b (f_X12_laysWords_L13 n) l1 l2 l3 w = some w' := h
    unfold f_X12_laysWords_B13b at h
    refine V.iload_n (pc := 13) dX12_laysWords_13 rfl ?_
    refine V.iload_n (pc := 14) dX12_laysWords_14 rfl ?_
    rcases ite_e h with ⟨c, h⟩ | ⟨c, h⟩
    · refine V.icmp_ge_t (t := 111) (pc := 15) dX12_laysWords_15 (by decide) c ?_
      obtain rfl := Option.some.inj h
      exact V.vret (pc := 111) dX12_laysWords_111 rfl (Nat.le_refl _) (Nat.le_refl _)
    · refine V.icmp_ge_f (t := 111) (pc := 15) dX12_laysWords_15 (by decide) c ?_
      refine V.iconst (pc := 18) dX12_laysWords_18 ic_0 ?_
      refine V.istore (lv' := [some (.ref 44), some (.int l1), some (.int l2), some (.int l3), some (.int 0), none]) (pc := 19) dX12_laysWords_19 (Nat.le_of_ble_eq_true rfl) rfl rfl ?_
      exact t_X12_laysWords_L21 hd h13 FU l1 l2 l3 0 w _ h
def f_X12_laysWords (w : Wd) : Option Wd :=
  wrI w 51 16 0 0 fun w1 =>
  f_X12_laysWords_L13  FU 1 1 0 w1
set_option maxHeartbeats 4000000 in
set_option maxRecDepth 100000 in
theorem ok_X12_laysWords {G : GT} {d : Nat} (hd : 1 ≤ d) {w : Wd}  {w' : Wd} (h : f_X12_laysWords  w = some w') : uC G yX12_laysWords mX12_laysWords d [.ref 44] w none w' := by
  obtain ⟨d, rfl⟩ : ∃ e, d = e + 1 := ⟨d - 1, by omega⟩
  unfold f_X12_laysWords at h
  refine uC_of (lv := [some (.ref 44), none, none, none, none, none]) 5 pn_X12 ⟨rfl, rfl⟩ (Nat.le_of_ble_eq_true rfl) rfl ?_
  refine V.iconst (pc := 0) dX12_laysWords_0 ic_1 ?_
  refine V.istore_n (lv' := [some (.ref 44), some (.int 1), none, none, none, none]) (pc := 1) dX12_laysWords_1 (Nat.le_of_ble_eq_true rfl) rfl rfl ?_
  refine V.aload_n (pc := 2) dX12_laysWords_2 rfl ?_
  refine V.getR (t := 51) (pc := 3) dX12_laysWords_3 f_RX12_33 k_cl12 lx_44 ly_44 rb_12_10 rr_44_10 ?_
  refine V.iconst (pc := 6) dX12_laysWords_6 ic_0 ?_
  refine V.iconst (pc := 7) dX12_laysWords_7 ic_0 ?_
  obtain ⟨w1, iw1, ew1, h⟩ := wrI_e h
  refine V.iastX (pc := 8) dX12_laysWords_8 lx_51 ly_51 iw1 ew1 ?_
  refine V.iconst (pc := 9) dX12_laysWords_9 ic_1 ?_
  refine V.istore_n (lv' := [some (.ref 44), some (.int 1), some (.int 1), none, none, none]) (pc := 10) dX12_laysWords_10 (Nat.le_of_ble_eq_true rfl) rfl rfl ?_
  refine V.iconst (pc := 11) dX12_laysWords_11 ic_0 ?_
  refine V.istore_n (lv' := [some (.ref 44), some (.int 1), some (.int 1), some (.int 0), none, none]) (pc := 12) dX12_laysWords_12 (Nat.le_of_ble_eq_true rfl) rfl rfl ?_
  exact t_X12_laysWords_L13 hd FU 1 1 0 w1 _ h
theorem dX12_spanOf_0 : decode cX12_spanOf 0 = .ok (.iload_n 1, 1) := by decide +kernel
theorem dX12_spanOf_1 : decode cX12_spanOf 1 = .ok (.iconst 1, 1) := by decide +kernel
theorem dX12_spanOf_2 : decode cX12_spanOf 2 = .ok (.ior, 1) := by decide +kernel
theorem dX12_spanOf_3 : decode cX12_spanOf 3 = .ok (.istore_n 2, 1) := by decide +kernel
theorem dX12_spanOf_4 : decode cX12_spanOf 4 = .ok (.iload_n 2, 1) := by decide +kernel
theorem dX12_spanOf_5 : decode cX12_spanOf 5 = .ok (.aload_n 0, 1) := by decide +kernel
theorem dX12_spanOf_6 : decode cX12_spanOf 6 = .ok (.getfield 27, 3) := by decide +kernel
theorem dX12_spanOf_9 : decode cX12_spanOf 9 = .ok (.iload_n 2, 1) := by decide +kernel
theorem dX12_spanOf_10 : decode cX12_spanOf 10 = .ok (.iaload, 1) := by decide +kernel
theorem dX12_spanOf_11 : decode cX12_spanOf 11 = .ok (.ior, 1) := by decide +kernel
theorem dX12_spanOf_12 : decode cX12_spanOf 12 = .ok (.istore_n 3, 1) := by decide +kernel
theorem dX12_spanOf_13 : decode cX12_spanOf 13 = .ok (.iload_n 3, 1) := by decide +kernel
theorem dX12_spanOf_14 : decode cX12_spanOf 14 = .ok (.iload_n 2, 1) := by decide +kernel
theorem dX12_spanOf_15 : decode cX12_spanOf 15 = .ok (.if_icmp .eq 17, 3) := by decide +kernel
theorem dX12_spanOf_18 : decode cX12_spanOf 18 = .ok (.iload_n 3, 1) := by decide +kernel
theorem dX12_spanOf_19 : decode cX12_spanOf 19 = .ok (.istore_n 2, 1) := by decide +kernel
theorem dX12_spanOf_20 : decode cX12_spanOf 20 = .ok (.iload_n 2, 1) := by decide +kernel
theorem dX12_spanOf_21 : decode cX12_spanOf 21 = .ok (.aload_n 0, 1) := by decide +kernel
theorem dX12_spanOf_22 : decode cX12_spanOf 22 = .ok (.getfield 27, 3) := by decide +kernel
theorem dX12_spanOf_25 : decode cX12_spanOf 25 = .ok (.iload_n 2, 1) := by decide +kernel
theorem dX12_spanOf_26 : decode cX12_spanOf 26 = .ok (.iaload, 1) := by decide +kernel
theorem dX12_spanOf_27 : decode cX12_spanOf 27 = .ok (.ior, 1) := by decide +kernel
theorem dX12_spanOf_28 : decode cX12_spanOf 28 = .ok (.istore_n 3, 1) := by decide +kernel
theorem dX12_spanOf_29 : decode cX12_spanOf 29 = .ok (.goto (-16), 3) := by decide +kernel
theorem dX12_spanOf_32 : decode cX12_spanOf 32 = .ok (.iload_n 2, 1) := by decide +kernel
theorem dX12_spanOf_33 : decode cX12_spanOf 33 = .ok (.ireturn, 1) := by decide +kernel
def f_X12_spanOf_B13b (k13 : Int32 → Int32 → Wd → Option Int32) (l2 : Int32) (l3 : Int32) (w : Wd) : Option Int32 :=
  if l3 = l2 then
    some l2
  else
    rdI w 49 65536 l3 fun x1 =>
    k13 l3 (l3 ||| x1) w
def f_X12_spanOf_L13 (n : Nat) : Int32 → Int32 → Wd → Option Int32 :=
  Nat.rec (fun _ _ _ => none) (fun _ k => f_X12_spanOf_B13b k) n
set_option maxHeartbeats 4000000 in
set_option maxRecDepth 100000 in
theorem t_X12_spanOf_L13 {G : GT} {d : Nat} {w : Wd} (hd : 0 ≤ d)  : ∀ (n : Nat) (l2 : Int32) (l3 : Int32) (r : Int32), f_X12_spanOf_L13 n l2 l3 w = some r → U (vf G mX12_spanOf d) 13 [some (.ref 44), none, some (.int l2), some (.int l3)] [] w (some (.int r), 70, r0, w) := by
  intro n
  induction n with
  | zero => intro l2 l3 r h; cases h
  | succ n h13 =>
    intro l2 l3 r h
    have h : f_X12_spanOf_B13b (f_X12_spanOf_L13 n) l2 l3 w = some r := h
    unfold f_X12_spanOf_B13b at h
    refine V.iload_n (pc := 13) dX12_spanOf_13 rfl ?_
    refine V.iload_n (pc := 14) dX12_spanOf_14 rfl ?_
    rcases ite_e h with ⟨c, h⟩ | ⟨c, h⟩
    · refine V.icmp_eq_t (t := 32) (pc := 15) dX12_spanOf_15 (by decide) c ?_
      refine V.iload_n (pc := 32) dX12_spanOf_32 rfl ?_
      obtain rfl := Option.some.inj h
      exact V.iret (pc := 33) dX12_spanOf_33 rfl (Nat.le_refl _) (Nat.le_refl _)
    · refine V.icmp_eq_f (t := 32) (pc := 15) dX12_spanOf_15 (by decide) c ?_
      refine V.iload_n (pc := 18) dX12_spanOf_18 rfl ?_
      refine V.istore_n (lv' := [some (.ref 44), none, some (.int l3), some (.int l3)]) (pc := 19) dX12_spanOf_19 (Nat.le_of_ble_eq_true rfl) rfl rfl ?_
      refine V.iload_n (pc := 20) dX12_spanOf_20 rfl ?_
      refine V.aload_n (pc := 21) dX12_spanOf_21 rfl ?_
      refine V.getR (t := 49) (pc := 22) dX12_spanOf_22 f_RX12_27 k_cl12 lx_44 ly_44 rb_12_7 rr_44_7 ?_
      refine V.iload_n (pc := 25) dX12_spanOf_25 rfl ?_
      obtain ⟨x1, ix1, ex1, h⟩ := rdI_e h
      refine V.ialdX (pc := 26) dX12_spanOf_26 lx_49 ly_49 ix1 ex1 ?_
      refine V.ior (pc := 27) dX12_spanOf_27 ?_
      refine V.istore_n (lv' := [some (.ref 44), none, some (.int l3), some (.int (l3 ||| x1))]) (pc := 28) dX12_spanOf_28 (Nat.le_of_ble_eq_true rfl) rfl rfl ?_
      refine V.goto (t := 13) (pc := 29) dX12_spanOf_29 (by decide) ?_
      exact h13 l3 (l3 ||| x1) _ h
def f_X12_spanOf (l1 : Int32) (w : Wd) : Option Int32 :=
  rdI w 49 65536 (l1 ||| 1) fun x1 =>
  f_X12_spanOf_L13  FU (l1 ||| 1) ((l1 ||| 1) ||| x1) w
set_option maxHeartbeats 4000000 in
set_option maxRecDepth 100000 in
theorem ok_X12_spanOf {G : GT} {d : Nat} (hd : 0 ≤ d) {w : Wd} (l1 : Int32) {r : Int32} (h : f_X12_spanOf l1 w = some r) : uC G yX12_spanOf mX12_spanOf d [.ref 44, .int l1] w (some (.int r)) w := by
  unfold f_X12_spanOf at h
  refine uC_of (lv := [some (.ref 44), some (.int l1), none, none]) 2 pn_X12 ⟨rfl, rfl⟩ (Nat.le_of_ble_eq_true rfl) rfl ?_
  refine V.iload_n (pc := 0) dX12_spanOf_0 rfl ?_
  refine V.iconst (pc := 1) dX12_spanOf_1 ic_1 ?_
  refine V.ior (pc := 2) dX12_spanOf_2 ?_
  refine V.istore_n (lv' := [some (.ref 44), some (.int l1), some (.int (l1 ||| 1)), none]) (pc := 3) dX12_spanOf_3 (Nat.le_of_ble_eq_true rfl) rfl rfl ?_
  refine V.iload_n (pc := 4) dX12_spanOf_4 rfl ?_
  refine V.aload_n (pc := 5) dX12_spanOf_5 rfl ?_
  refine V.getR (t := 49) (pc := 6) dX12_spanOf_6 f_RX12_27 k_cl12 lx_44 ly_44 rb_12_7 rr_44_7 ?_
  refine V.iload_n (pc := 9) dX12_spanOf_9 rfl ?_
  obtain ⟨x1, ix1, ex1, h⟩ := rdI_e h
  refine V.ialdX (pc := 10) dX12_spanOf_10 lx_49 ly_49 ix1 ex1 ?_
  refine V.ior (pc := 11) dX12_spanOf_11 ?_
  refine V.istore_n (lv' := [some (.ref 44), some (.int l1), some (.int (l1 ||| 1)), some (.int ((l1 ||| 1) ||| x1))]) (pc := 12) dX12_spanOf_12 (Nat.le_of_ble_eq_true rfl) rfl rfl ?_
  refine V.weak (lv' := [some (.ref 44), none, some (.int (l1 ||| 1)), some (.int ((l1 ||| 1) ||| x1))]) (And.intro rfl (And.intro rfl (And.intro rfl trivial))) ?_
  exact t_X12_spanOf_L13 hd FU (l1 ||| 1) ((l1 ||| 1) ||| x1) _ h
theorem dX12_productsBelow_0 : decode cX12_productsBelow 0 = .ok (.aload_n 0, 1) := by decide +kernel
theorem dX12_productsBelow_1 : decode cX12_productsBelow 1 = .ok (.getfield 27, 3) := by decide +kernel
theorem dX12_productsBelow_4 : decode cX12_productsBelow 4 = .ok (.iload_n 1, 1) := by decide +kernel
theorem dX12_productsBelow_5 : decode cX12_productsBelow 5 = .ok (.iaload, 1) := by decide +kernel
theorem dX12_productsBelow_6 : decode cX12_productsBelow 6 = .ok (.iconst 1, 1) := by decide +kernel
theorem dX12_productsBelow_7 : decode cX12_productsBelow 7 = .ok (.aload_n 0, 1) := by decide +kernel
theorem dX12_productsBelow_8 : decode cX12_productsBelow 8 = .ok (.iload_n 2, 1) := by decide +kernel
theorem dX12_productsBelow_9 : decode cX12_productsBelow 9 = .ok (.iload_n 2, 1) := by decide +kernel
theorem dX12_productsBelow_10 : decode cX12_productsBelow 10 = .ok (.invokevirtual 119, 3) := by decide +kernel
theorem dX12_productsBelow_13 : decode cX12_productsBelow 13 = .ok (.ishl, 1) := by decide +kernel
theorem dX12_productsBelow_14 : decode cX12_productsBelow 14 = .ok (.ior, 1) := by decide +kernel
theorem dX12_productsBelow_15 : decode cX12_productsBelow 15 = .ok (.istore_n 3, 1) := by decide +kernel
theorem dX12_productsBelow_16 : decode cX12_productsBelow 16 = .ok (.iconst 0, 1) := by decide +kernel
theorem dX12_productsBelow_17 : decode cX12_productsBelow 17 = .ok (.istore 4, 2) := by decide +kernel
theorem dX12_productsBelow_19 : decode cX12_productsBelow 19 = .ok (.iload 4, 2) := by decide +kernel
theorem dX12_productsBelow_21 : decode cX12_productsBelow 21 = .ok (.iload_n 2, 1) := by decide +kernel
theorem dX12_productsBelow_22 : decode cX12_productsBelow 22 = .ok (.if_icmp .ge 40, 3) := by decide +kernel
theorem dX12_productsBelow_25 : decode cX12_productsBelow 25 = .ok (.iload_n 1, 1) := by decide +kernel
theorem dX12_productsBelow_26 : decode cX12_productsBelow 26 = .ok (.iload 4, 2) := by decide +kernel
theorem dX12_productsBelow_28 : decode cX12_productsBelow 28 = .ok (.invokestatic 128, 3) := by decide +kernel
theorem dX12_productsBelow_31 : decode cX12_productsBelow 31 = .ok (.ifCond .eq 25, 3) := by decide +kernel
theorem dX12_productsBelow_34 : decode cX12_productsBelow 34 = .ok (.iload_n 3, 1) := by decide +kernel
theorem dX12_productsBelow_35 : decode cX12_productsBelow 35 = .ok (.iconst 1, 1) := by decide +kernel
theorem dX12_productsBelow_36 : decode cX12_productsBelow 36 = .ok (.aload_n 0, 1) := by decide +kernel
theorem dX12_productsBelow_37 : decode cX12_productsBelow 37 = .ok (.iload_n 2, 1) := by decide +kernel
theorem dX12_productsBelow_38 : decode cX12_productsBelow 38 = .ok (.iload 4, 2) := by decide +kernel
theorem dX12_productsBelow_40 : decode cX12_productsBelow 40 = .ok (.invokevirtual 119, 3) := by decide +kernel
theorem dX12_productsBelow_43 : decode cX12_productsBelow 43 = .ok (.ishl, 1) := by decide +kernel
theorem dX12_productsBelow_44 : decode cX12_productsBelow 44 = .ok (.iconst 1, 1) := by decide +kernel
theorem dX12_productsBelow_45 : decode cX12_productsBelow 45 = .ok (.aload_n 0, 1) := by decide +kernel
theorem dX12_productsBelow_46 : decode cX12_productsBelow 46 = .ok (.iload 4, 2) := by decide +kernel
theorem dX12_productsBelow_48 : decode cX12_productsBelow 48 = .ok (.iload_n 2, 1) := by decide +kernel
theorem dX12_productsBelow_49 : decode cX12_productsBelow 49 = .ok (.invokevirtual 119, 3) := by decide +kernel
theorem dX12_productsBelow_52 : decode cX12_productsBelow 52 = .ok (.ishl, 1) := by decide +kernel
theorem dX12_productsBelow_53 : decode cX12_productsBelow 53 = .ok (.ior, 1) := by decide +kernel
theorem dX12_productsBelow_54 : decode cX12_productsBelow 54 = .ok (.ior, 1) := by decide +kernel
theorem dX12_productsBelow_55 : decode cX12_productsBelow 55 = .ok (.istore_n 3, 1) := by decide +kernel
theorem dX12_productsBelow_56 : decode cX12_productsBelow 56 = .ok (.iinc 4 1, 3) := by decide +kernel
theorem dX12_productsBelow_59 : decode cX12_productsBelow 59 = .ok (.goto (-40), 3) := by decide +kernel
theorem dX12_productsBelow_62 : decode cX12_productsBelow 62 = .ok (.iload_n 3, 1) := by decide +kernel
theorem dX12_productsBelow_63 : decode cX12_productsBelow 63 = .ok (.ireturn, 1) := by decide +kernel
def f_X12_productsBelow_B19b (k19 : Int32 → Int32 → Int32 → Int32 → Wd → Option Int32) (l1 : Int32) (l2 : Int32) (l3 : Int32) (l4 : Int32) (w : Wd) : Option Int32 :=
  if l2 ≤ l4 then
    some l3
  else
    if (f_X12_has l1 l4) = 0 then
      k19 l1 l2 l3 (l4 + 1) w
    else
      bnd (f_X12_product0 l2 l4 w) fun x1 =>
      bnd (f_X12_product0 l4 l2 w) fun x2 =>
      k19 l1 l2 (l3 ||| ((1 <<< (x1 &&& 31)) ||| (1 <<< (x2 &&& 31)))) (l4 + 1) w
def f_X12_productsBelow_L19 (n : Nat) : Int32 → Int32 → Int32 → Int32 → Wd → Option Int32 :=
  Nat.rec (fun _ _ _ _ _ => none) (fun _ k => f_X12_productsBelow_B19b k) n
set_option maxHeartbeats 4000000 in
set_option maxRecDepth 100000 in
theorem t_X12_productsBelow_L19 {G : GT} {d : Nat} {w : Wd} (hd : 1 ≤ d + 1)  : ∀ (n : Nat) (l1 : Int32) (l2 : Int32) (l3 : Int32) (l4 : Int32) (r : Int32), f_X12_productsBelow_L19 n l1 l2 l3 l4 w = some r → U (vf G mX12_productsBelow (d + 1)) 19 [some (.ref 44), some (.int l1), some (.int l2), some (.int l3), some (.int l4)] [] w (some (.int r), 70, r0, w) := by
  intro n
  induction n with
  | zero => intro l1 l2 l3 l4 r h; cases h
  | succ n h19 =>
    intro l1 l2 l3 l4 r h
    have h : f_X12_productsBelow_B19b (f_X12_productsBelow_L19 n) l1 l2 l3 l4 w = some r := h
    unfold f_X12_productsBelow_B19b at h
    refine V.iload (pc := 19) dX12_productsBelow_19 rfl ?_
    refine V.iload_n (pc := 21) dX12_productsBelow_21 rfl ?_
    rcases ite_e h with ⟨c, h⟩ | ⟨c, h⟩
    · refine V.icmp_ge_t (t := 62) (pc := 22) dX12_productsBelow_22 (by decide) c ?_
      refine V.iload_n (pc := 62) dX12_productsBelow_62 rfl ?_
      obtain rfl := Option.some.inj h
      exact V.iret (pc := 63) dX12_productsBelow_63 rfl (Nat.le_refl _) (Nat.le_refl _)
    · refine V.icmp_ge_f (t := 62) (pc := 22) dX12_productsBelow_22 (by decide) c ?_
      refine V.iload_n (pc := 25) dX12_productsBelow_25 rfl ?_
      refine V.iload (pc := 26) dX12_productsBelow_26 rfl ?_
      refine U.callS (pc := 28) (As := [.int l1, .int l4]) (st := []) dX12_productsBelow_28 l_RX12_128 (ok_X12_has (by omega) l1 l4 ) (Nat.le_of_ble_eq_true rfl) rfl rfl (Nat.le_of_ble_eq_true rfl) ?_
      rcases ite_e h with ⟨c, h⟩ | ⟨c, h⟩
      · refine V.if_eq_t (t := 56) (pc := 31) dX12_productsBelow_31 (by decide) c ?_
        refine V.iinc (lv' := [some (.ref 44), some (.int l1), some (.int l2), some (.int l3), some (.int (l4 + 1))]) (pc := 56) dX12_productsBelow_56 (Nat.le_of_ble_eq_true rfl) rfl rfl (v := (l4 + 1)) (by rw [show Int32.ofInt 1 = 1 from by decide]) rfl ?_
        refine V.goto (t := 19) (pc := 59) dX12_productsBelow_59 (by decide) ?_
        exact h19 l1 l2 l3 (l4 + 1) _ h
      · refine V.if_eq_f (t := 56) (pc := 31) dX12_productsBelow_31 (by decide) c ?_
        refine V.iload_n (pc := 34) dX12_productsBelow_34 rfl ?_
        refine V.iconst (pc := 35) dX12_productsBelow_35 ic_1 ?_
        refine V.aload_n (pc := 36) dX12_productsBelow_36 rfl ?_
        refine V.iload_n (pc := 37) dX12_productsBelow_37 rfl ?_
        refine V.iload (pc := 38) dX12_productsBelow_38 rfl ?_
        obtain ⟨x1, ex1, h⟩ := bnd_e h
        refine U.callV (pc := 40) (As := [.int l2, .int l4]) (st := [.int 1, .int l3]) dX12_productsBelow_40 l_RX12_119 (ok_X12_product0 (by omega) l2 l4 ex1) lx_44 ly_44 cn_12 (Nat.le_of_ble_eq_true rfl) rfl rfl (Nat.le_of_ble_eq_true rfl) ?_
        refine V.ishl (pc := 43) dX12_productsBelow_43 ?_
        refine V.iconst (pc := 44) dX12_productsBelow_44 ic_1 ?_
        refine V.aload_n (pc := 45) dX12_productsBelow_45 rfl ?_
        refine V.iload (pc := 46) dX12_productsBelow_46 rfl ?_
        refine V.iload_n (pc := 48) dX12_productsBelow_48 rfl ?_
        obtain ⟨x2, ex2, h⟩ := bnd_e h
        refine U.callV (pc := 49) (As := [.int l4, .int l2]) (st := [.int 1, .int (1 <<< (x1 &&& 31)), .int l3]) dX12_productsBelow_49 l_RX12_119 (ok_X12_product0 (by omega) l4 l2 ex2) lx_44 ly_44 cn_12 (Nat.le_of_ble_eq_true rfl) rfl rfl (Nat.le_of_ble_eq_true rfl) ?_
        refine V.ishl (pc := 52) dX12_productsBelow_52 ?_
        refine V.ior (pc := 53) dX12_productsBelow_53 ?_
        refine V.ior (pc := 54) dX12_productsBelow_54 ?_
        refine V.istore_n (lv' := [some (.ref 44), some (.int l1), some (.int l2), some (.int (l3 ||| ((1 <<< (x1 &&& 31)) ||| (1 <<< (x2 &&& 31))))), some (.int l4)]) (pc := 55) dX12_productsBelow_55 (Nat.le_of_ble_eq_true rfl) rfl rfl ?_
        refine V.iinc (lv' := [some (.ref 44), some (.int l1), some (.int l2), some (.int (l3 ||| ((1 <<< (x1 &&& 31)) ||| (1 <<< (x2 &&& 31))))), some (.int (l4 + 1))]) (pc := 56) dX12_productsBelow_56 (Nat.le_of_ble_eq_true rfl) rfl rfl (v := (l4 + 1)) (by rw [show Int32.ofInt 1 = 1 from by decide]) rfl ?_
        refine V.goto (t := 19) (pc := 59) dX12_productsBelow_59 (by decide) ?_
        exact h19 l1 l2 (l3 ||| ((1 <<< (x1 &&& 31)) ||| (1 <<< (x2 &&& 31)))) (l4 + 1) _ h
def f_X12_productsBelow (l1 : Int32) (l2 : Int32) (w : Wd) : Option Int32 :=
  rdI w 49 65536 l1 fun x1 =>
  bnd (f_X12_product0 l2 l2 w) fun x2 =>
  f_X12_productsBelow_L19  FU l1 l2 (x1 ||| (1 <<< (x2 &&& 31))) 0 w
set_option maxHeartbeats 4000000 in
set_option maxRecDepth 100000 in
theorem ok_X12_productsBelow {G : GT} {d : Nat} (hd : 1 ≤ d) {w : Wd} (l1 : Int32) (l2 : Int32) {r : Int32} (h : f_X12_productsBelow l1 l2 w = some r) : uC G yX12_productsBelow mX12_productsBelow d [.ref 44, .int l1, .int l2] w (some (.int r)) w := by
  obtain ⟨d, rfl⟩ : ∃ e, d = e + 1 := ⟨d - 1, by omega⟩
  unfold f_X12_productsBelow at h
  refine uC_of (lv := [some (.ref 44), some (.int l1), some (.int l2), none, none]) 2 pn_X12 ⟨rfl, rfl⟩ (Nat.le_of_ble_eq_true rfl) rfl ?_
  refine V.aload_n (pc := 0) dX12_productsBelow_0 rfl ?_
  refine V.getR (t := 49) (pc := 1) dX12_productsBelow_1 f_RX12_27 k_cl12 lx_44 ly_44 rb_12_7 rr_44_7 ?_
  refine V.iload_n (pc := 4) dX12_productsBelow_4 rfl ?_
  obtain ⟨x1, ix1, ex1, h⟩ := rdI_e h
  refine V.ialdX (pc := 5) dX12_productsBelow_5 lx_49 ly_49 ix1 ex1 ?_
  refine V.iconst (pc := 6) dX12_productsBelow_6 ic_1 ?_
  refine V.aload_n (pc := 7) dX12_productsBelow_7 rfl ?_
  refine V.iload_n (pc := 8) dX12_productsBelow_8 rfl ?_
  refine V.iload_n (pc := 9) dX12_productsBelow_9 rfl ?_
  obtain ⟨x2, ex2, h⟩ := bnd_e h
  refine U.callV (pc := 10) (As := [.int l2, .int l2]) (st := [.int 1, .int x1]) dX12_productsBelow_10 l_RX12_119 (ok_X12_product0 (by omega) l2 l2 ex2) lx_44 ly_44 cn_12 (Nat.le_of_ble_eq_true rfl) rfl rfl (Nat.le_of_ble_eq_true rfl) ?_
  refine V.ishl (pc := 13) dX12_productsBelow_13 ?_
  refine V.ior (pc := 14) dX12_productsBelow_14 ?_
  refine V.istore_n (lv' := [some (.ref 44), some (.int l1), some (.int l2), some (.int (x1 ||| (1 <<< (x2 &&& 31)))), none]) (pc := 15) dX12_productsBelow_15 (Nat.le_of_ble_eq_true rfl) rfl rfl ?_
  refine V.iconst (pc := 16) dX12_productsBelow_16 ic_0 ?_
  refine V.istore (lv' := [some (.ref 44), some (.int l1), some (.int l2), some (.int (x1 ||| (1 <<< (x2 &&& 31)))), some (.int 0)]) (pc := 17) dX12_productsBelow_17 (Nat.le_of_ble_eq_true rfl) rfl rfl ?_
  exact t_X12_productsBelow_L19 hd FU l1 l2 (x1 ||| (1 <<< (x2 &&& 31))) 0 _ h
theorem dX12_sizeOf_0 : decode cX12_sizeOf 0 = .ok (.iload_n 0, 1) := by decide +kernel
theorem dX12_sizeOf_1 : decode cX12_sizeOf 1 = .ok (.ifCond .ne 7, 3) := by decide +kernel
theorem dX12_sizeOf_4 : decode cX12_sizeOf 4 = .ok (.iload_n 1, 1) := by decide +kernel
theorem dX12_sizeOf_5 : decode cX12_sizeOf 5 = .ok (.goto 16, 3) := by decide +kernel
theorem dX12_sizeOf_8 : decode cX12_sizeOf 8 = .ok (.iload_n 0, 1) := by decide +kernel
theorem dX12_sizeOf_9 : decode cX12_sizeOf 9 = .ok (.iconst 1, 1) := by decide +kernel
theorem dX12_sizeOf_10 : decode cX12_sizeOf 10 = .ok (.if_icmp .ne 9, 3) := by decide +kernel
theorem dX12_sizeOf_13 : decode cX12_sizeOf 13 = .ok (.iconst 2, 1) := by decide +kernel
theorem dX12_sizeOf_14 : decode cX12_sizeOf 14 = .ok (.iload_n 1, 1) := by decide +kernel
theorem dX12_sizeOf_15 : decode cX12_sizeOf 15 = .ok (.imul, 1) := by decide +kernel
theorem dX12_sizeOf_16 : decode cX12_sizeOf 16 = .ok (.goto 5, 3) := by decide +kernel
theorem dX12_sizeOf_19 : decode cX12_sizeOf 19 = .ok (.bipush 8, 2) := by decide +kernel
theorem dX12_sizeOf_21 : decode cX12_sizeOf 21 = .ok (.ireturn, 1) := by decide +kernel
def f_X12_sizeOf (l0 : Int32) (l1 : Int32) : Int32 :=
  if l0 = 0 then
    l1
  else
    if l0 = 1 then
      (2 * l1)
    else
      (8 : Int32)
set_option maxHeartbeats 4000000 in
set_option maxRecDepth 100000 in
theorem ok_X12_sizeOf {G : GT} {d : Nat} (hd : 0 ≤ d) {w : Wd} (l0 : Int32) (l1 : Int32) : uC G yX12_sizeOf mX12_sizeOf d [.int l0, .int l1] w (some (.int (f_X12_sizeOf l0 l1))) w := by
  suffices key : ∀ r, f_X12_sizeOf l0 l1 = r → uC G yX12_sizeOf mX12_sizeOf d [.int l0, .int l1] w (some (.int r)) w from key _ rfl
  intro r h
  unfold f_X12_sizeOf at h
  refine uC_of (lv := [some (.int l0), some (.int l1)]) 0 pn_X12 ⟨rfl, rfl⟩ (Nat.le_of_ble_eq_true rfl) rfl ?_
  refine V.iload_n (pc := 0) dX12_sizeOf_0 rfl ?_
  rcases ite_e h with ⟨c, h⟩ | ⟨c, h⟩
  · refine V.if_ne_f (t := 8) (pc := 1) dX12_sizeOf_1 (by decide) c ?_
    refine V.iload_n (pc := 4) dX12_sizeOf_4 rfl ?_
    refine V.goto (t := 21) (pc := 5) dX12_sizeOf_5 (by decide) ?_
    subst h
    exact V.iret (pc := 21) dX12_sizeOf_21 rfl (Nat.le_refl _) (Nat.le_refl _)
  · refine V.if_ne_t (t := 8) (pc := 1) dX12_sizeOf_1 (by decide) c ?_
    refine V.iload_n (pc := 8) dX12_sizeOf_8 rfl ?_
    refine V.iconst (pc := 9) dX12_sizeOf_9 ic_1 ?_
    rcases ite_e h with ⟨c, h⟩ | ⟨c, h⟩
    · refine V.icmp_ne_f (t := 19) (pc := 10) dX12_sizeOf_10 (by decide) c ?_
      refine V.iconst (pc := 13) dX12_sizeOf_13 ic_2 ?_
      refine V.iload_n (pc := 14) dX12_sizeOf_14 rfl ?_
      refine V.imul (pc := 15) dX12_sizeOf_15 ?_
      refine V.goto (t := 21) (pc := 16) dX12_sizeOf_16 (by decide) ?_
      subst h
      exact V.iret (pc := 21) dX12_sizeOf_21 rfl (Nat.le_refl _) (Nat.le_refl _)
    · refine V.icmp_ne_t (t := 19) (pc := 10) dX12_sizeOf_10 (by decide) c ?_
      refine V.bipush (pc := 19) dX12_sizeOf_19 bp_8 ?_
      subst h
      exact V.iret (pc := 21) dX12_sizeOf_21 rfl (Nat.le_refl _) (Nat.le_refl _)
theorem dX12_ofUnits_0 : decode cX12_ofUnits 0 = .ok (.iload_n 0, 1) := by decide +kernel
theorem dX12_ofUnits_1 : decode cX12_ofUnits 1 = .ok (.iconst 4, 1) := by decide +kernel
theorem dX12_ofUnits_2 : decode cX12_ofUnits 2 = .ok (.irem, 1) := by decide +kernel
theorem dX12_ofUnits_3 : decode cX12_ofUnits 3 = .ok (.istore_n 2, 1) := by decide +kernel
theorem dX12_ofUnits_4 : decode cX12_ofUnits 4 = .ok (.iload_n 1, 1) := by decide +kernel
theorem dX12_ofUnits_5 : decode cX12_ofUnits 5 = .ok (.iconst 4, 1) := by decide +kernel
theorem dX12_ofUnits_6 : decode cX12_ofUnits 6 = .ok (.irem, 1) := by decide +kernel
theorem dX12_ofUnits_7 : decode cX12_ofUnits 7 = .ok (.istore_n 3, 1) := by decide +kernel
theorem dX12_ofUnits_8 : decode cX12_ofUnits 8 = .ok (.iload_n 0, 1) := by decide +kernel
theorem dX12_ofUnits_9 : decode cX12_ofUnits 9 = .ok (.iconst 4, 1) := by decide +kernel
theorem dX12_ofUnits_10 : decode cX12_ofUnits 10 = .ok (.idiv, 1) := by decide +kernel
theorem dX12_ofUnits_11 : decode cX12_ofUnits 11 = .ok (.iload_n 1, 1) := by decide +kernel
theorem dX12_ofUnits_12 : decode cX12_ofUnits 12 = .ok (.iconst 4, 1) := by decide +kernel
theorem dX12_ofUnits_13 : decode cX12_ofUnits 13 = .ok (.idiv, 1) := by decide +kernel
theorem dX12_ofUnits_14 : decode cX12_ofUnits 14 = .ok (.iadd, 1) := by decide +kernel
theorem dX12_ofUnits_15 : decode cX12_ofUnits 15 = .ok (.iconst 2, 1) := by decide +kernel
theorem dX12_ofUnits_16 : decode cX12_ofUnits 16 = .ok (.irem, 1) := by decide +kernel
theorem dX12_ofUnits_17 : decode cX12_ofUnits 17 = .ok (.istore 4, 2) := by decide +kernel
theorem dX12_ofUnits_19 : decode cX12_ofUnits 19 = .ok (.iload_n 2, 1) := by decide +kernel
theorem dX12_ofUnits_20 : decode cX12_ofUnits 20 = .ok (.ifCond .eq 7, 3) := by decide +kernel
theorem dX12_ofUnits_23 : decode cX12_ofUnits 23 = .ok (.iload_n 3, 1) := by decide +kernel
theorem dX12_ofUnits_24 : decode cX12_ofUnits 24 = .ok (.ifCond .ne 12, 3) := by decide +kernel
theorem dX12_ofUnits_27 : decode cX12_ofUnits 27 = .ok (.iload_n 2, 1) := by decide +kernel
theorem dX12_ofUnits_28 : decode cX12_ofUnits 28 = .ok (.iload_n 3, 1) := by decide +kernel
theorem dX12_ofUnits_29 : decode cX12_ofUnits 29 = .ok (.iadd, 1) := by decide +kernel
theorem dX12_ofUnits_30 : decode cX12_ofUnits 30 = .ok (.iconst 4, 1) := by decide +kernel
theorem dX12_ofUnits_31 : decode cX12_ofUnits 31 = .ok (.iload 4, 2) := by decide +kernel
theorem dX12_ofUnits_33 : decode cX12_ofUnits 33 = .ok (.imul, 1) := by decide +kernel
theorem dX12_ofUnits_34 : decode cX12_ofUnits 34 = .ok (.iadd, 1) := by decide +kernel
theorem dX12_ofUnits_35 : decode cX12_ofUnits 35 = .ok (.ireturn, 1) := by decide +kernel
theorem dX12_ofUnits_36 : decode cX12_ofUnits 36 = .ok (.iload_n 2, 1) := by decide +kernel
theorem dX12_ofUnits_37 : decode cX12_ofUnits 37 = .ok (.iload_n 3, 1) := by decide +kernel
theorem dX12_ofUnits_38 : decode cX12_ofUnits 38 = .ok (.if_icmp .ne 10, 3) := by decide +kernel
theorem dX12_ofUnits_41 : decode cX12_ofUnits 41 = .ok (.iconst 4, 1) := by decide +kernel
theorem dX12_ofUnits_42 : decode cX12_ofUnits 42 = .ok (.iconst 1, 1) := by decide +kernel
theorem dX12_ofUnits_43 : decode cX12_ofUnits 43 = .ok (.iload 4, 2) := by decide +kernel
theorem dX12_ofUnits_45 : decode cX12_ofUnits 45 = .ok (.isub, 1) := by decide +kernel
theorem dX12_ofUnits_46 : decode cX12_ofUnits 46 = .ok (.imul, 1) := by decide +kernel
theorem dX12_ofUnits_47 : decode cX12_ofUnits 47 = .ok (.ireturn, 1) := by decide +kernel
theorem dX12_ofUnits_48 : decode cX12_ofUnits 48 = .ok (.bipush 6, 2) := by decide +kernel
theorem dX12_ofUnits_50 : decode cX12_ofUnits 50 = .ok (.iload_n 2, 1) := by decide +kernel
theorem dX12_ofUnits_51 : decode cX12_ofUnits 51 = .ok (.isub, 1) := by decide +kernel
theorem dX12_ofUnits_52 : decode cX12_ofUnits 52 = .ok (.iload_n 3, 1) := by decide +kernel
theorem dX12_ofUnits_53 : decode cX12_ofUnits 53 = .ok (.isub, 1) := by decide +kernel
theorem dX12_ofUnits_54 : decode cX12_ofUnits 54 = .ok (.istore 5, 2) := by decide +kernel
theorem dX12_ofUnits_56 : decode cX12_ofUnits 56 = .ok (.iload_n 3, 1) := by decide +kernel
theorem dX12_ofUnits_57 : decode cX12_ofUnits 57 = .ok (.iload_n 2, 1) := by decide +kernel
theorem dX12_ofUnits_58 : decode cX12_ofUnits 58 = .ok (.iconst 3, 1) := by decide +kernel
theorem dX12_ofUnits_59 : decode cX12_ofUnits 59 = .ok (.irem, 1) := by decide +kernel
theorem dX12_ofUnits_60 : decode cX12_ofUnits 60 = .ok (.iconst 1, 1) := by decide +kernel
theorem dX12_ofUnits_61 : decode cX12_ofUnits 61 = .ok (.iadd, 1) := by decide +kernel
theorem dX12_ofUnits_62 : decode cX12_ofUnits 62 = .ok (.if_icmp .ne 7, 3) := by decide +kernel
theorem dX12_ofUnits_65 : decode cX12_ofUnits 65 = .ok (.iconst 1, 1) := by decide +kernel
theorem dX12_ofUnits_66 : decode cX12_ofUnits 66 = .ok (.goto 4, 3) := by decide +kernel
theorem dX12_ofUnits_69 : decode cX12_ofUnits 69 = .ok (.iconst 0, 1) := by decide +kernel
theorem dX12_ofUnits_70 : decode cX12_ofUnits 70 = .ok (.istore 6, 2) := by decide +kernel
theorem dX12_ofUnits_72 : decode cX12_ofUnits 72 = .ok (.iload 5, 2) := by decide +kernel
theorem dX12_ofUnits_74 : decode cX12_ofUnits 74 = .ok (.iconst 4, 1) := by decide +kernel
theorem dX12_ofUnits_75 : decode cX12_ofUnits 75 = .ok (.iload 6, 2) := by decide +kernel
theorem dX12_ofUnits_77 : decode cX12_ofUnits 77 = .ok (.ifCond .eq 8, 3) := by decide +kernel
theorem dX12_ofUnits_80 : decode cX12_ofUnits 80 = .ok (.iload 4, 2) := by decide +kernel
theorem dX12_ofUnits_82 : decode cX12_ofUnits 82 = .ok (.goto 7, 3) := by decide +kernel
theorem dX12_ofUnits_85 : decode cX12_ofUnits 85 = .ok (.iconst 1, 1) := by decide +kernel
theorem dX12_ofUnits_86 : decode cX12_ofUnits 86 = .ok (.iload 4, 2) := by decide +kernel
theorem dX12_ofUnits_88 : decode cX12_ofUnits 88 = .ok (.isub, 1) := by decide +kernel
theorem dX12_ofUnits_89 : decode cX12_ofUnits 89 = .ok (.imul, 1) := by decide +kernel
theorem dX12_ofUnits_90 : decode cX12_ofUnits 90 = .ok (.iadd, 1) := by decide +kernel
theorem dX12_ofUnits_91 : decode cX12_ofUnits 91 = .ok (.ireturn, 1) := by decide +kernel
def f_X12_ofUnits (l0 : Int32) (l1 : Int32) : Int32 :=
  if (rem32 l0 4) = 0 then
    (((rem32 l0 4) + (rem32 l1 4)) + (4 * (rem32 ((l0 / 4) + (l1 / 4)) 2)))
  else
    if (rem32 l1 4) = 0 then
      (((rem32 l0 4) + (rem32 l1 4)) + (4 * (rem32 ((l0 / 4) + (l1 / 4)) 2)))
    else
      if (rem32 l0 4) = (rem32 l1 4) then
        (4 * (1 - (rem32 ((l0 / 4) + (l1 / 4)) 2)))
      else
        if (rem32 l1 4) = ((rem32 (rem32 l0 4) 3) + 1) then
          (((6 - (rem32 l0 4)) - (rem32 l1 4)) + (4 * (rem32 ((l0 / 4) + (l1 / 4)) 2)))
        else
          (((6 - (rem32 l0 4)) - (rem32 l1 4)) + (4 * (1 - (rem32 ((l0 / 4) + (l1 / 4)) 2))))
set_option maxHeartbeats 4000000 in
set_option maxRecDepth 100000 in
theorem ok_X12_ofUnits {G : GT} {d : Nat} (hd : 0 ≤ d) {w : Wd} (l0 : Int32) (l1 : Int32) : uC G yX12_ofUnits mX12_ofUnits d [.int l0, .int l1] w (some (.int (f_X12_ofUnits l0 l1))) w := by
  suffices key : ∀ r, f_X12_ofUnits l0 l1 = r → uC G yX12_ofUnits mX12_ofUnits d [.int l0, .int l1] w (some (.int r)) w from key _ rfl
  intro r h
  unfold f_X12_ofUnits at h
  refine uC_of (lv := [some (.int l0), some (.int l1), none, none, none, none, none]) 5 pn_X12 ⟨rfl, rfl⟩ (Nat.le_of_ble_eq_true rfl) rfl ?_
  refine V.iload_n (pc := 0) dX12_ofUnits_0 rfl ?_
  refine V.iconst (pc := 1) dX12_ofUnits_1 ic_4 ?_
  refine V.irem (pc := 2) dX12_ofUnits_2 (by decide) ?_
  refine V.istore_n (lv' := [some (.int l0), some (.int l1), some (.int (rem32 l0 4)), none, none, none, none]) (pc := 3) dX12_ofUnits_3 (Nat.le_of_ble_eq_true rfl) rfl rfl ?_
  refine V.iload_n (pc := 4) dX12_ofUnits_4 rfl ?_
  refine V.iconst (pc := 5) dX12_ofUnits_5 ic_4 ?_
  refine V.irem (pc := 6) dX12_ofUnits_6 (by decide) ?_
  refine V.istore_n (lv' := [some (.int l0), some (.int l1), some (.int (rem32 l0 4)), some (.int (rem32 l1 4)), none, none, none]) (pc := 7) dX12_ofUnits_7 (Nat.le_of_ble_eq_true rfl) rfl rfl ?_
  refine V.iload_n (pc := 8) dX12_ofUnits_8 rfl ?_
  refine V.iconst (pc := 9) dX12_ofUnits_9 ic_4 ?_
  refine V.idiv (pc := 10) dX12_ofUnits_10 (by decide) ?_
  refine V.iload_n (pc := 11) dX12_ofUnits_11 rfl ?_
  refine V.iconst (pc := 12) dX12_ofUnits_12 ic_4 ?_
  refine V.idiv (pc := 13) dX12_ofUnits_13 (by decide) ?_
  refine V.iadd (pc := 14) dX12_ofUnits_14 ?_
  refine V.iconst (pc := 15) dX12_ofUnits_15 ic_2 ?_
  refine V.irem (pc := 16) dX12_ofUnits_16 (by decide) ?_
  refine V.istore (lv' := [some (.int l0), some (.int l1), some (.int (rem32 l0 4)), some (.int (rem32 l1 4)), some (.int (rem32 ((l0 / 4) + (l1 / 4)) 2)), none, none]) (pc := 17) dX12_ofUnits_17 (Nat.le_of_ble_eq_true rfl) rfl rfl ?_
  refine V.iload_n (pc := 19) dX12_ofUnits_19 rfl ?_
  rcases ite_e h with ⟨c, h⟩ | ⟨c, h⟩
  · refine V.if_eq_t (t := 27) (pc := 20) dX12_ofUnits_20 (by decide) c ?_
    refine V.iload_n (pc := 27) dX12_ofUnits_27 rfl ?_
    refine V.iload_n (pc := 28) dX12_ofUnits_28 rfl ?_
    refine V.iadd (pc := 29) dX12_ofUnits_29 ?_
    refine V.iconst (pc := 30) dX12_ofUnits_30 ic_4 ?_
    refine V.iload (pc := 31) dX12_ofUnits_31 rfl ?_
    refine V.imul (pc := 33) dX12_ofUnits_33 ?_
    refine V.iadd (pc := 34) dX12_ofUnits_34 ?_
    subst h
    exact V.iret (pc := 35) dX12_ofUnits_35 rfl (Nat.le_refl _) (Nat.le_refl _)
  · refine V.if_eq_f (t := 27) (pc := 20) dX12_ofUnits_20 (by decide) c ?_
    refine V.iload_n (pc := 23) dX12_ofUnits_23 rfl ?_
    rcases ite_e h with ⟨c, h⟩ | ⟨c, h⟩
    · refine V.if_ne_f (t := 36) (pc := 24) dX12_ofUnits_24 (by decide) c ?_
      refine V.iload_n (pc := 27) dX12_ofUnits_27 rfl ?_
      refine V.iload_n (pc := 28) dX12_ofUnits_28 rfl ?_
      refine V.iadd (pc := 29) dX12_ofUnits_29 ?_
      refine V.iconst (pc := 30) dX12_ofUnits_30 ic_4 ?_
      refine V.iload (pc := 31) dX12_ofUnits_31 rfl ?_
      refine V.imul (pc := 33) dX12_ofUnits_33 ?_
      refine V.iadd (pc := 34) dX12_ofUnits_34 ?_
      subst h
      exact V.iret (pc := 35) dX12_ofUnits_35 rfl (Nat.le_refl _) (Nat.le_refl _)
    · refine V.if_ne_t (t := 36) (pc := 24) dX12_ofUnits_24 (by decide) c ?_
      refine V.iload_n (pc := 36) dX12_ofUnits_36 rfl ?_
      refine V.iload_n (pc := 37) dX12_ofUnits_37 rfl ?_
      rcases ite_e h with ⟨c, h⟩ | ⟨c, h⟩
      · refine V.icmp_ne_f (t := 48) (pc := 38) dX12_ofUnits_38 (by decide) c ?_
        refine V.iconst (pc := 41) dX12_ofUnits_41 ic_4 ?_
        refine V.iconst (pc := 42) dX12_ofUnits_42 ic_1 ?_
        refine V.iload (pc := 43) dX12_ofUnits_43 rfl ?_
        refine V.isub (pc := 45) dX12_ofUnits_45 ?_
        refine V.imul (pc := 46) dX12_ofUnits_46 ?_
        subst h
        exact V.iret (pc := 47) dX12_ofUnits_47 rfl (Nat.le_refl _) (Nat.le_refl _)
      · refine V.icmp_ne_t (t := 48) (pc := 38) dX12_ofUnits_38 (by decide) c ?_
        refine V.bipush (pc := 48) dX12_ofUnits_48 bp_6 ?_
        refine V.iload_n (pc := 50) dX12_ofUnits_50 rfl ?_
        refine V.isub (pc := 51) dX12_ofUnits_51 ?_
        refine V.iload_n (pc := 52) dX12_ofUnits_52 rfl ?_
        refine V.isub (pc := 53) dX12_ofUnits_53 ?_
        refine V.istore (lv' := [some (.int l0), some (.int l1), some (.int (rem32 l0 4)), some (.int (rem32 l1 4)), some (.int (rem32 ((l0 / 4) + (l1 / 4)) 2)), some (.int ((6 - (rem32 l0 4)) - (rem32 l1 4))), none]) (pc := 54) dX12_ofUnits_54 (Nat.le_of_ble_eq_true rfl) rfl rfl ?_
        refine V.iload_n (pc := 56) dX12_ofUnits_56 rfl ?_
        refine V.iload_n (pc := 57) dX12_ofUnits_57 rfl ?_
        refine V.iconst (pc := 58) dX12_ofUnits_58 ic_3 ?_
        refine V.irem (pc := 59) dX12_ofUnits_59 (by decide) ?_
        refine V.iconst (pc := 60) dX12_ofUnits_60 ic_1 ?_
        refine V.iadd (pc := 61) dX12_ofUnits_61 ?_
        rcases ite_e h with ⟨c, h⟩ | ⟨c, h⟩
        · refine V.icmp_ne_f (t := 69) (pc := 62) dX12_ofUnits_62 (by decide) c ?_
          refine V.iconst (pc := 65) dX12_ofUnits_65 ic_1 ?_
          refine V.goto (t := 70) (pc := 66) dX12_ofUnits_66 (by decide) ?_
          refine V.istore (lv' := [some (.int l0), some (.int l1), some (.int (rem32 l0 4)), some (.int (rem32 l1 4)), some (.int (rem32 ((l0 / 4) + (l1 / 4)) 2)), some (.int ((6 - (rem32 l0 4)) - (rem32 l1 4))), some (.int 1)]) (pc := 70) dX12_ofUnits_70 (Nat.le_of_ble_eq_true rfl) rfl rfl ?_
          refine V.iload (pc := 72) dX12_ofUnits_72 rfl ?_
          refine V.iconst (pc := 74) dX12_ofUnits_74 ic_4 ?_
          refine V.iload (pc := 75) dX12_ofUnits_75 rfl ?_
          refine V.if_eq_f (t := 85) (pc := 77) dX12_ofUnits_77 (by decide) (by decide) ?_
          refine V.iload (pc := 80) dX12_ofUnits_80 rfl ?_
          refine V.goto (t := 89) (pc := 82) dX12_ofUnits_82 (by decide) ?_
          refine V.imul (pc := 89) dX12_ofUnits_89 ?_
          refine V.iadd (pc := 90) dX12_ofUnits_90 ?_
          subst h
          exact V.iret (pc := 91) dX12_ofUnits_91 rfl (Nat.le_refl _) (Nat.le_refl _)
        · refine V.icmp_ne_t (t := 69) (pc := 62) dX12_ofUnits_62 (by decide) c ?_
          refine V.iconst (pc := 69) dX12_ofUnits_69 ic_0 ?_
          refine V.istore (lv' := [some (.int l0), some (.int l1), some (.int (rem32 l0 4)), some (.int (rem32 l1 4)), some (.int (rem32 ((l0 / 4) + (l1 / 4)) 2)), some (.int ((6 - (rem32 l0 4)) - (rem32 l1 4))), some (.int 0)]) (pc := 70) dX12_ofUnits_70 (Nat.le_of_ble_eq_true rfl) rfl rfl ?_
          refine V.iload (pc := 72) dX12_ofUnits_72 rfl ?_
          refine V.iconst (pc := 74) dX12_ofUnits_74 ic_4 ?_
          refine V.iload (pc := 75) dX12_ofUnits_75 rfl ?_
          refine V.if_eq_t (t := 85) (pc := 77) dX12_ofUnits_77 (by decide) (by decide) ?_
          refine V.iconst (pc := 85) dX12_ofUnits_85 ic_1 ?_
          refine V.iload (pc := 86) dX12_ofUnits_86 rfl ?_
          refine V.isub (pc := 88) dX12_ofUnits_88 ?_
          refine V.imul (pc := 89) dX12_ofUnits_89 ?_
          refine V.iadd (pc := 90) dX12_ofUnits_90 ?_
          subst h
          exact V.iret (pc := 91) dX12_ofUnits_91 rfl (Nat.le_refl _) (Nat.le_refl _)
theorem dX12_inFactor_0 : decode cX12_inFactor 0 = .ok (.iload_n 0, 1) := by decide +kernel
theorem dX12_inFactor_1 : decode cX12_inFactor 1 = .ok (.ifCond .ne 9, 3) := by decide +kernel
theorem dX12_inFactor_4 : decode cX12_inFactor 4 = .ok (.iload_n 2, 1) := by decide +kernel
theorem dX12_inFactor_5 : decode cX12_inFactor 5 = .ok (.iload_n 3, 1) := by decide +kernel
theorem dX12_inFactor_6 : decode cX12_inFactor 6 = .ok (.iadd, 1) := by decide +kernel
theorem dX12_inFactor_7 : decode cX12_inFactor 7 = .ok (.iload_n 1, 1) := by decide +kernel
theorem dX12_inFactor_8 : decode cX12_inFactor 8 = .ok (.irem, 1) := by decide +kernel
theorem dX12_inFactor_9 : decode cX12_inFactor 9 = .ok (.ireturn, 1) := by decide +kernel
theorem dX12_inFactor_10 : decode cX12_inFactor 10 = .ok (.iload_n 0, 1) := by decide +kernel
theorem dX12_inFactor_11 : decode cX12_inFactor 11 = .ok (.iconst 2, 1) := by decide +kernel
theorem dX12_inFactor_12 : decode cX12_inFactor 12 = .ok (.if_icmp .ne 9, 3) := by decide +kernel
theorem dX12_inFactor_15 : decode cX12_inFactor 15 = .ok (.iload_n 2, 1) := by decide +kernel
theorem dX12_inFactor_16 : decode cX12_inFactor 16 = .ok (.iload_n 3, 1) := by decide +kernel
theorem dX12_inFactor_17 : decode cX12_inFactor 17 = .ok (.invokestatic 102, 3) := by decide +kernel
theorem dX12_inFactor_20 : decode cX12_inFactor 20 = .ok (.ireturn, 1) := by decide +kernel
theorem dX12_inFactor_21 : decode cX12_inFactor 21 = .ok (.iload_n 2, 1) := by decide +kernel
theorem dX12_inFactor_22 : decode cX12_inFactor 22 = .ok (.iload_n 1, 1) := by decide +kernel
theorem dX12_inFactor_23 : decode cX12_inFactor 23 = .ok (.irem, 1) := by decide +kernel
theorem dX12_inFactor_24 : decode cX12_inFactor 24 = .ok (.istore 4, 2) := by decide +kernel
theorem dX12_inFactor_26 : decode cX12_inFactor 26 = .ok (.iload_n 3, 1) := by decide +kernel
theorem dX12_inFactor_27 : decode cX12_inFactor 27 = .ok (.iload_n 1, 1) := by decide +kernel
theorem dX12_inFactor_28 : decode cX12_inFactor 28 = .ok (.irem, 1) := by decide +kernel
theorem dX12_inFactor_29 : decode cX12_inFactor 29 = .ok (.istore 5, 2) := by decide +kernel
theorem dX12_inFactor_31 : decode cX12_inFactor 31 = .ok (.iload_n 2, 1) := by decide +kernel
theorem dX12_inFactor_32 : decode cX12_inFactor 32 = .ok (.iload_n 1, 1) := by decide +kernel
theorem dX12_inFactor_33 : decode cX12_inFactor 33 = .ok (.idiv, 1) := by decide +kernel
theorem dX12_inFactor_34 : decode cX12_inFactor 34 = .ok (.istore 6, 2) := by decide +kernel
theorem dX12_inFactor_36 : decode cX12_inFactor 36 = .ok (.iload 6, 2) := by decide +kernel
theorem dX12_inFactor_38 : decode cX12_inFactor 38 = .ok (.ifCond .ne 13, 3) := by decide +kernel
theorem dX12_inFactor_41 : decode cX12_inFactor 41 = .ok (.iload 4, 2) := by decide +kernel
theorem dX12_inFactor_43 : decode cX12_inFactor 43 = .ok (.iload 5, 2) := by decide +kernel
theorem dX12_inFactor_45 : decode cX12_inFactor 45 = .ok (.iadd, 1) := by decide +kernel
theorem dX12_inFactor_46 : decode cX12_inFactor 46 = .ok (.iload_n 1, 1) := by decide +kernel
theorem dX12_inFactor_47 : decode cX12_inFactor 47 = .ok (.irem, 1) := by decide +kernel
theorem dX12_inFactor_48 : decode cX12_inFactor 48 = .ok (.goto 12, 3) := by decide +kernel
theorem dX12_inFactor_51 : decode cX12_inFactor 51 = .ok (.iload 4, 2) := by decide +kernel
theorem dX12_inFactor_53 : decode cX12_inFactor 53 = .ok (.iload_n 1, 1) := by decide +kernel
theorem dX12_inFactor_54 : decode cX12_inFactor 54 = .ok (.iadd, 1) := by decide +kernel
theorem dX12_inFactor_55 : decode cX12_inFactor 55 = .ok (.iload 5, 2) := by decide +kernel
theorem dX12_inFactor_57 : decode cX12_inFactor 57 = .ok (.isub, 1) := by decide +kernel
theorem dX12_inFactor_58 : decode cX12_inFactor 58 = .ok (.iload_n 1, 1) := by decide +kernel
theorem dX12_inFactor_59 : decode cX12_inFactor 59 = .ok (.irem, 1) := by decide +kernel
theorem dX12_inFactor_60 : decode cX12_inFactor 60 = .ok (.istore 7, 2) := by decide +kernel
theorem dX12_inFactor_62 : decode cX12_inFactor 62 = .ok (.iload 7, 2) := by decide +kernel
theorem dX12_inFactor_64 : decode cX12_inFactor 64 = .ok (.iload_n 1, 1) := by decide +kernel
theorem dX12_inFactor_65 : decode cX12_inFactor 65 = .ok (.iload 6, 2) := by decide +kernel
theorem dX12_inFactor_67 : decode cX12_inFactor 67 = .ok (.iload_n 3, 1) := by decide +kernel
theorem dX12_inFactor_68 : decode cX12_inFactor 68 = .ok (.iload_n 1, 1) := by decide +kernel
theorem dX12_inFactor_69 : decode cX12_inFactor 69 = .ok (.idiv, 1) := by decide +kernel
theorem dX12_inFactor_70 : decode cX12_inFactor 70 = .ok (.iadd, 1) := by decide +kernel
theorem dX12_inFactor_71 : decode cX12_inFactor 71 = .ok (.iconst 2, 1) := by decide +kernel
theorem dX12_inFactor_72 : decode cX12_inFactor 72 = .ok (.irem, 1) := by decide +kernel
theorem dX12_inFactor_73 : decode cX12_inFactor 73 = .ok (.imul, 1) := by decide +kernel
theorem dX12_inFactor_74 : decode cX12_inFactor 74 = .ok (.iadd, 1) := by decide +kernel
theorem dX12_inFactor_75 : decode cX12_inFactor 75 = .ok (.ireturn, 1) := by decide +kernel
def f_X12_inFactor (l0 : Int32) (l1 : Int32) (l2 : Int32) (l3 : Int32) : Option Int32 :=
  if l0 = 0 then
    nzI l1 (some (rem32 (l2 + l3) l1))
  else
    if l0 = 2 then
      some (f_X12_ofUnits l2 l3)
    else
      nzI l1 (nzI l1 (nzI l1 (if (l2 / l1) = 0 then
        nzI l1 (nzI l1 (some ((rem32 ((rem32 l2 l1) + (rem32 l3 l1)) l1) + (l1 * (rem32 ((l2 / l1) + (l3 / l1)) 2)))))
      else
        nzI l1 (nzI l1 (some ((rem32 (((rem32 l2 l1) + l1) - (rem32 l3 l1)) l1) + (l1 * (rem32 ((l2 / l1) + (l3 / l1)) 2))))))))
set_option maxHeartbeats 4000000 in
set_option maxRecDepth 100000 in
theorem ok_X12_inFactor {G : GT} {d : Nat} (hd : 1 ≤ d) {w : Wd} (l0 : Int32) (l1 : Int32) (l2 : Int32) (l3 : Int32) {r : Int32} (h : f_X12_inFactor l0 l1 l2 l3 = some r) : uC G yX12_inFactor mX12_inFactor d [.int l0, .int l1, .int l2, .int l3] w (some (.int r)) w := by
  obtain ⟨d, rfl⟩ : ∃ e, d = e + 1 := ⟨d - 1, by omega⟩
  unfold f_X12_inFactor at h
  refine uC_of (lv := [some (.int l0), some (.int l1), some (.int l2), some (.int l3), none, none, none, none]) 4 pn_X12 ⟨rfl, rfl⟩ (Nat.le_of_ble_eq_true rfl) rfl ?_
  refine V.iload_n (pc := 0) dX12_inFactor_0 rfl ?_
  rcases ite_e h with ⟨c, h⟩ | ⟨c, h⟩
  · refine V.if_ne_f (t := 10) (pc := 1) dX12_inFactor_1 (by decide) c ?_
    refine V.iload_n (pc := 4) dX12_inFactor_4 rfl ?_
    refine V.iload_n (pc := 5) dX12_inFactor_5 rfl ?_
    refine V.iadd (pc := 6) dX12_inFactor_6 ?_
    refine V.iload_n (pc := 7) dX12_inFactor_7 rfl ?_
    obtain ⟨hz, h⟩ := nzI_e h
    refine V.irem (pc := 8) dX12_inFactor_8 hz ?_
    obtain rfl := Option.some.inj h
    exact V.iret (pc := 9) dX12_inFactor_9 rfl (Nat.le_refl _) (Nat.le_refl _)
  · refine V.if_ne_t (t := 10) (pc := 1) dX12_inFactor_1 (by decide) c ?_
    refine V.iload_n (pc := 10) dX12_inFactor_10 rfl ?_
    refine V.iconst (pc := 11) dX12_inFactor_11 ic_2 ?_
    rcases ite_e h with ⟨c, h⟩ | ⟨c, h⟩
    · refine V.icmp_ne_f (t := 21) (pc := 12) dX12_inFactor_12 (by decide) c ?_
      refine V.iload_n (pc := 15) dX12_inFactor_15 rfl ?_
      refine V.iload_n (pc := 16) dX12_inFactor_16 rfl ?_
      refine U.callS (pc := 17) (As := [.int l2, .int l3]) (st := []) dX12_inFactor_17 l_RX12_102 (ok_X12_ofUnits (by omega) l2 l3 ) (Nat.le_of_ble_eq_true rfl) rfl rfl (Nat.le_of_ble_eq_true rfl) ?_
      obtain rfl := Option.some.inj h
      exact V.iret (pc := 20) dX12_inFactor_20 rfl (Nat.le_refl _) (Nat.le_refl _)
    · refine V.icmp_ne_t (t := 21) (pc := 12) dX12_inFactor_12 (by decide) c ?_
      refine V.iload_n (pc := 21) dX12_inFactor_21 rfl ?_
      refine V.iload_n (pc := 22) dX12_inFactor_22 rfl ?_
      obtain ⟨hz, h⟩ := nzI_e h
      refine V.irem (pc := 23) dX12_inFactor_23 hz ?_
      refine V.istore (lv' := [some (.int l0), some (.int l1), some (.int l2), some (.int l3), some (.int (rem32 l2 l1)), none, none, none]) (pc := 24) dX12_inFactor_24 (Nat.le_of_ble_eq_true rfl) rfl rfl ?_
      refine V.iload_n (pc := 26) dX12_inFactor_26 rfl ?_
      refine V.iload_n (pc := 27) dX12_inFactor_27 rfl ?_
      obtain ⟨hz, h⟩ := nzI_e h
      refine V.irem (pc := 28) dX12_inFactor_28 hz ?_
      refine V.istore (lv' := [some (.int l0), some (.int l1), some (.int l2), some (.int l3), some (.int (rem32 l2 l1)), some (.int (rem32 l3 l1)), none, none]) (pc := 29) dX12_inFactor_29 (Nat.le_of_ble_eq_true rfl) rfl rfl ?_
      refine V.iload_n (pc := 31) dX12_inFactor_31 rfl ?_
      refine V.iload_n (pc := 32) dX12_inFactor_32 rfl ?_
      obtain ⟨hz, h⟩ := nzI_e h
      refine V.idiv (pc := 33) dX12_inFactor_33 hz ?_
      refine V.istore (lv' := [some (.int l0), some (.int l1), some (.int l2), some (.int l3), some (.int (rem32 l2 l1)), some (.int (rem32 l3 l1)), some (.int (l2 / l1)), none]) (pc := 34) dX12_inFactor_34 (Nat.le_of_ble_eq_true rfl) rfl rfl ?_
      refine V.iload (pc := 36) dX12_inFactor_36 rfl ?_
      rcases ite_e h with ⟨c, h⟩ | ⟨c, h⟩
      · refine V.if_ne_f (t := 51) (pc := 38) dX12_inFactor_38 (by decide) c ?_
        refine V.iload (pc := 41) dX12_inFactor_41 rfl ?_
        refine V.iload (pc := 43) dX12_inFactor_43 rfl ?_
        refine V.iadd (pc := 45) dX12_inFactor_45 ?_
        refine V.iload_n (pc := 46) dX12_inFactor_46 rfl ?_
        obtain ⟨hz, h⟩ := nzI_e h
        refine V.irem (pc := 47) dX12_inFactor_47 hz ?_
        refine V.goto (t := 60) (pc := 48) dX12_inFactor_48 (by decide) ?_
        refine V.istore (lv' := [some (.int l0), some (.int l1), some (.int l2), some (.int l3), some (.int (rem32 l2 l1)), some (.int (rem32 l3 l1)), some (.int (l2 / l1)), some (.int (rem32 ((rem32 l2 l1) + (rem32 l3 l1)) l1))]) (pc := 60) dX12_inFactor_60 (Nat.le_of_ble_eq_true rfl) rfl rfl ?_
        refine V.iload (pc := 62) dX12_inFactor_62 rfl ?_
        refine V.iload_n (pc := 64) dX12_inFactor_64 rfl ?_
        refine V.iload (pc := 65) dX12_inFactor_65 rfl ?_
        refine V.iload_n (pc := 67) dX12_inFactor_67 rfl ?_
        refine V.iload_n (pc := 68) dX12_inFactor_68 rfl ?_
        obtain ⟨hz, h⟩ := nzI_e h
        refine V.idiv (pc := 69) dX12_inFactor_69 hz ?_
        refine V.iadd (pc := 70) dX12_inFactor_70 ?_
        refine V.iconst (pc := 71) dX12_inFactor_71 ic_2 ?_
        refine V.irem (pc := 72) dX12_inFactor_72 (by decide) ?_
        refine V.imul (pc := 73) dX12_inFactor_73 ?_
        refine V.iadd (pc := 74) dX12_inFactor_74 ?_
        obtain rfl := Option.some.inj h
        exact V.iret (pc := 75) dX12_inFactor_75 rfl (Nat.le_refl _) (Nat.le_refl _)
      · refine V.if_ne_t (t := 51) (pc := 38) dX12_inFactor_38 (by decide) c ?_
        refine V.iload (pc := 51) dX12_inFactor_51 rfl ?_
        refine V.iload_n (pc := 53) dX12_inFactor_53 rfl ?_
        refine V.iadd (pc := 54) dX12_inFactor_54 ?_
        refine V.iload (pc := 55) dX12_inFactor_55 rfl ?_
        refine V.isub (pc := 57) dX12_inFactor_57 ?_
        refine V.iload_n (pc := 58) dX12_inFactor_58 rfl ?_
        obtain ⟨hz, h⟩ := nzI_e h
        refine V.irem (pc := 59) dX12_inFactor_59 hz ?_
        refine V.istore (lv' := [some (.int l0), some (.int l1), some (.int l2), some (.int l3), some (.int (rem32 l2 l1)), some (.int (rem32 l3 l1)), some (.int (l2 / l1)), some (.int (rem32 (((rem32 l2 l1) + l1) - (rem32 l3 l1)) l1))]) (pc := 60) dX12_inFactor_60 (Nat.le_of_ble_eq_true rfl) rfl rfl ?_
        refine V.iload (pc := 62) dX12_inFactor_62 rfl ?_
        refine V.iload_n (pc := 64) dX12_inFactor_64 rfl ?_
        refine V.iload (pc := 65) dX12_inFactor_65 rfl ?_
        refine V.iload_n (pc := 67) dX12_inFactor_67 rfl ?_
        refine V.iload_n (pc := 68) dX12_inFactor_68 rfl ?_
        obtain ⟨hz, h⟩ := nzI_e h
        refine V.idiv (pc := 69) dX12_inFactor_69 hz ?_
        refine V.iadd (pc := 70) dX12_inFactor_70 ?_
        refine V.iconst (pc := 71) dX12_inFactor_71 ic_2 ?_
        refine V.irem (pc := 72) dX12_inFactor_72 (by decide) ?_
        refine V.imul (pc := 73) dX12_inFactor_73 ?_
        refine V.iadd (pc := 74) dX12_inFactor_74 ?_
        obtain rfl := Option.some.inj h
        exact V.iret (pc := 75) dX12_inFactor_75 rfl (Nat.le_refl _) (Nat.le_refl _)
theorem dX12_productBy_0 : decode cX12_productBy 0 = .ok (.iconst 0, 1) := by decide +kernel
theorem dX12_productBy_1 : decode cX12_productBy 1 = .ok (.istore_n 3, 1) := by decide +kernel
theorem dX12_productBy_2 : decode cX12_productBy 2 = .ok (.iconst 1, 1) := by decide +kernel
theorem dX12_productBy_3 : decode cX12_productBy 3 = .ok (.istore 4, 2) := by decide +kernel
theorem dX12_productBy_5 : decode cX12_productBy 5 = .ok (.iconst 0, 1) := by decide +kernel
theorem dX12_productBy_6 : decode cX12_productBy 6 = .ok (.istore 5, 2) := by decide +kernel
theorem dX12_productBy_8 : decode cX12_productBy 8 = .ok (.iload 5, 2) := by decide +kernel
theorem dX12_productBy_10 : decode cX12_productBy 10 = .ok (.aload_n 0, 1) := by decide +kernel
theorem dX12_productBy_11 : decode cX12_productBy 11 = .ok (.getfield 106, 3) := by decide +kernel
theorem dX12_productBy_14 : decode cX12_productBy 14 = .ok (.if_icmp .ge 72, 3) := by decide +kernel
theorem dX12_productBy_17 : decode cX12_productBy 17 = .ok (.aload_n 0, 1) := by decide +kernel
theorem dX12_productBy_18 : decode cX12_productBy 18 = .ok (.getfield 13, 3) := by decide +kernel
theorem dX12_productBy_21 : decode cX12_productBy 21 = .ok (.iload 5, 2) := by decide +kernel
theorem dX12_productBy_23 : decode cX12_productBy 23 = .ok (.iaload, 1) := by decide +kernel
theorem dX12_productBy_24 : decode cX12_productBy 24 = .ok (.aload_n 0, 1) := by decide +kernel
theorem dX12_productBy_25 : decode cX12_productBy 25 = .ok (.getfield 17, 3) := by decide +kernel
theorem dX12_productBy_28 : decode cX12_productBy 28 = .ok (.iload 5, 2) := by decide +kernel
theorem dX12_productBy_30 : decode cX12_productBy 30 = .ok (.iaload, 1) := by decide +kernel
theorem dX12_productBy_31 : decode cX12_productBy 31 = .ok (.invokestatic 109, 3) := by decide +kernel
theorem dX12_productBy_34 : decode cX12_productBy 34 = .ok (.istore 6, 2) := by decide +kernel
theorem dX12_productBy_36 : decode cX12_productBy 36 = .ok (.iload_n 3, 1) := by decide +kernel
theorem dX12_productBy_37 : decode cX12_productBy 37 = .ok (.iload 4, 2) := by decide +kernel
theorem dX12_productBy_39 : decode cX12_productBy 39 = .ok (.aload_n 0, 1) := by decide +kernel
theorem dX12_productBy_40 : decode cX12_productBy 40 = .ok (.getfield 13, 3) := by decide +kernel
theorem dX12_productBy_43 : decode cX12_productBy 43 = .ok (.iload 5, 2) := by decide +kernel
theorem dX12_productBy_45 : decode cX12_productBy 45 = .ok (.iaload, 1) := by decide +kernel
theorem dX12_productBy_46 : decode cX12_productBy 46 = .ok (.aload_n 0, 1) := by decide +kernel
theorem dX12_productBy_47 : decode cX12_productBy 47 = .ok (.getfield 17, 3) := by decide +kernel
theorem dX12_productBy_50 : decode cX12_productBy 50 = .ok (.iload 5, 2) := by decide +kernel
theorem dX12_productBy_52 : decode cX12_productBy 52 = .ok (.iaload, 1) := by decide +kernel
theorem dX12_productBy_53 : decode cX12_productBy 53 = .ok (.iload_n 1, 1) := by decide +kernel
theorem dX12_productBy_54 : decode cX12_productBy 54 = .ok (.iload 4, 2) := by decide +kernel
theorem dX12_productBy_56 : decode cX12_productBy 56 = .ok (.idiv, 1) := by decide +kernel
theorem dX12_productBy_57 : decode cX12_productBy 57 = .ok (.iload 6, 2) := by decide +kernel
theorem dX12_productBy_59 : decode cX12_productBy 59 = .ok (.irem, 1) := by decide +kernel
theorem dX12_productBy_60 : decode cX12_productBy 60 = .ok (.iload_n 2, 1) := by decide +kernel
theorem dX12_productBy_61 : decode cX12_productBy 61 = .ok (.iload 4, 2) := by decide +kernel
theorem dX12_productBy_63 : decode cX12_productBy 63 = .ok (.idiv, 1) := by decide +kernel
theorem dX12_productBy_64 : decode cX12_productBy 64 = .ok (.iload 6, 2) := by decide +kernel
theorem dX12_productBy_66 : decode cX12_productBy 66 = .ok (.irem, 1) := by decide +kernel
theorem dX12_productBy_67 : decode cX12_productBy 67 = .ok (.invokestatic 112, 3) := by decide +kernel
theorem dX12_productBy_70 : decode cX12_productBy 70 = .ok (.imul, 1) := by decide +kernel
theorem dX12_productBy_71 : decode cX12_productBy 71 = .ok (.iadd, 1) := by decide +kernel
theorem dX12_productBy_72 : decode cX12_productBy 72 = .ok (.istore_n 3, 1) := by decide +kernel
theorem dX12_productBy_73 : decode cX12_productBy 73 = .ok (.iload 4, 2) := by decide +kernel
theorem dX12_productBy_75 : decode cX12_productBy 75 = .ok (.iload 6, 2) := by decide +kernel
theorem dX12_productBy_77 : decode cX12_productBy 77 = .ok (.imul, 1) := by decide +kernel
theorem dX12_productBy_78 : decode cX12_productBy 78 = .ok (.istore 4, 2) := by decide +kernel
theorem dX12_productBy_80 : decode cX12_productBy 80 = .ok (.iinc 5 1, 3) := by decide +kernel
theorem dX12_productBy_83 : decode cX12_productBy 83 = .ok (.goto (-75), 3) := by decide +kernel
theorem dX12_productBy_86 : decode cX12_productBy 86 = .ok (.iload_n 3, 1) := by decide +kernel
theorem dX12_productBy_87 : decode cX12_productBy 87 = .ok (.ireturn, 1) := by decide +kernel
def f_X12_productBy_B8b (k8 : Int32 → Int32 → Int32 → Int32 → Int32 → Wd → Option Int32) (l1 : Int32) (l2 : Int32) (l3 : Int32) (l4 : Int32) (l5 : Int32) (w : Wd) : Option Int32 :=
  if (w.1 44 2) ≤ l5 then
    some l3
  else
    rdI w 45 4 l5 fun x1 =>
    rdI w 46 4 l5 fun x2 =>
    rdI w 45 4 l5 fun x3 =>
    rdI w 46 4 l5 fun x4 =>
    nzI l4 (nzI (f_X12_sizeOf x1 x2) (nzI l4 (nzI (f_X12_sizeOf x1 x2) (bnd (f_X12_inFactor x3 x4 (rem32 (l1 / l4) (f_X12_sizeOf x1 x2)) (rem32 (l2 / l4) (f_X12_sizeOf x1 x2))) fun x5 =>
    k8 l1 l2 (l3 + (l4 * x5)) (l4 * (f_X12_sizeOf x1 x2)) (l5 + 1) w))))
def f_X12_productBy_L8 (n : Nat) : Int32 → Int32 → Int32 → Int32 → Int32 → Wd → Option Int32 :=
  Nat.rec (fun _ _ _ _ _ _ => none) (fun _ k => f_X12_productBy_B8b k) n
set_option maxHeartbeats 4000000 in
set_option maxRecDepth 100000 in
theorem t_X12_productBy_L8 {G : GT} {d : Nat} {w : Wd} (hd : 2 ≤ d + 1)  : ∀ (n : Nat) (l1 : Int32) (l2 : Int32) (l3 : Int32) (l4 : Int32) (l5 : Int32) (r : Int32), f_X12_productBy_L8 n l1 l2 l3 l4 l5 w = some r → U (vf G mX12_productBy (d + 1)) 8 [some (.ref 44), some (.int l1), some (.int l2), some (.int l3), some (.int l4), some (.int l5), none] [] w (some (.int r), 70, r0, w) := by
  intro n
  induction n with
  | zero => intro l1 l2 l3 l4 l5 r h; cases h
  | succ n h8 =>
    intro l1 l2 l3 l4 l5 r h
    have h : f_X12_productBy_B8b (f_X12_productBy_L8 n) l1 l2 l3 l4 l5 w = some r := h
    unfold f_X12_productBy_B8b at h
    refine V.iload (pc := 8) dX12_productBy_8 rfl ?_
    refine V.aload_n (pc := 10) dX12_productBy_10 rfl ?_
    refine V.getI (pc := 11) dX12_productBy_11 f_RX12_106 k_cl12 lx_44 ly_44 rb_12_2 ?_
    rcases ite_e h with ⟨c, h⟩ | ⟨c, h⟩
    · refine V.icmp_ge_t (t := 86) (pc := 14) dX12_productBy_14 (by decide) c ?_
      refine V.iload_n (pc := 86) dX12_productBy_86 rfl ?_
      obtain rfl := Option.some.inj h
      exact V.iret (pc := 87) dX12_productBy_87 rfl (Nat.le_refl _) (Nat.le_refl _)
    · refine V.icmp_ge_f (t := 86) (pc := 14) dX12_productBy_14 (by decide) c ?_
      refine V.aload_n (pc := 17) dX12_productBy_17 rfl ?_
      refine V.getR (t := 45) (pc := 18) dX12_productBy_18 f_RX12_13 k_cl12 lx_44 ly_44 rb_12_3 rr_44_3 ?_
      refine V.iload (pc := 21) dX12_productBy_21 rfl ?_
      obtain ⟨x1, ix1, ex1, h⟩ := rdI_e h
      refine V.ialdX (pc := 23) dX12_productBy_23 lx_45 ly_45 ix1 ex1 ?_
      refine V.aload_n (pc := 24) dX12_productBy_24 rfl ?_
      refine V.getR (t := 46) (pc := 25) dX12_productBy_25 f_RX12_17 k_cl12 lx_44 ly_44 rb_12_4 rr_44_4 ?_
      refine V.iload (pc := 28) dX12_productBy_28 rfl ?_
      obtain ⟨x2, ix2, ex2, h⟩ := rdI_e h
      refine V.ialdX (pc := 30) dX12_productBy_30 lx_46 ly_46 ix2 ex2 ?_
      refine U.callS (pc := 31) (As := [.int x1, .int x2]) (st := []) dX12_productBy_31 l_RX12_109 (ok_X12_sizeOf (by omega) x1 x2 ) (Nat.le_of_ble_eq_true rfl) rfl rfl (Nat.le_of_ble_eq_true rfl) ?_
      refine V.istore (lv' := [some (.ref 44), some (.int l1), some (.int l2), some (.int l3), some (.int l4), some (.int l5), some (.int (f_X12_sizeOf x1 x2))]) (pc := 34) dX12_productBy_34 (Nat.le_of_ble_eq_true rfl) rfl rfl ?_
      refine V.iload_n (pc := 36) dX12_productBy_36 rfl ?_
      refine V.iload (pc := 37) dX12_productBy_37 rfl ?_
      refine V.aload_n (pc := 39) dX12_productBy_39 rfl ?_
      refine V.getR (t := 45) (pc := 40) dX12_productBy_40 f_RX12_13 k_cl12 lx_44 ly_44 rb_12_3 rr_44_3 ?_
      refine V.iload (pc := 43) dX12_productBy_43 rfl ?_
      obtain ⟨x3, ix3, ex3, h⟩ := rdI_e h
      refine V.ialdX (pc := 45) dX12_productBy_45 lx_45 ly_45 ix3 ex3 ?_
      refine V.aload_n (pc := 46) dX12_productBy_46 rfl ?_
      refine V.getR (t := 46) (pc := 47) dX12_productBy_47 f_RX12_17 k_cl12 lx_44 ly_44 rb_12_4 rr_44_4 ?_
      refine V.iload (pc := 50) dX12_productBy_50 rfl ?_
      obtain ⟨x4, ix4, ex4, h⟩ := rdI_e h
      refine V.ialdX (pc := 52) dX12_productBy_52 lx_46 ly_46 ix4 ex4 ?_
      refine V.iload_n (pc := 53) dX12_productBy_53 rfl ?_
      refine V.iload (pc := 54) dX12_productBy_54 rfl ?_
      obtain ⟨hz, h⟩ := nzI_e h
      refine V.idiv (pc := 56) dX12_productBy_56 hz ?_
      refine V.iload (pc := 57) dX12_productBy_57 rfl ?_
      obtain ⟨hz, h⟩ := nzI_e h
      refine V.irem (pc := 59) dX12_productBy_59 hz ?_
      refine V.iload_n (pc := 60) dX12_productBy_60 rfl ?_
      refine V.iload (pc := 61) dX12_productBy_61 rfl ?_
      obtain ⟨hz, h⟩ := nzI_e h
      refine V.idiv (pc := 63) dX12_productBy_63 hz ?_
      refine V.iload (pc := 64) dX12_productBy_64 rfl ?_
      obtain ⟨hz, h⟩ := nzI_e h
      refine V.irem (pc := 66) dX12_productBy_66 hz ?_
      obtain ⟨x5, ex5, h⟩ := bnd_e h
      refine U.callS (pc := 67) (As := [.int x3, .int x4, .int (rem32 (l1 / l4) (f_X12_sizeOf x1 x2)), .int (rem32 (l2 / l4) (f_X12_sizeOf x1 x2))]) (st := [.int l4, .int l3]) dX12_productBy_67 l_RX12_112 (ok_X12_inFactor (by omega) x3 x4 (rem32 (l1 / l4) (f_X12_sizeOf x1 x2)) (rem32 (l2 / l4) (f_X12_sizeOf x1 x2)) ex5) (Nat.le_of_ble_eq_true rfl) rfl rfl (Nat.le_of_ble_eq_true rfl) ?_
      refine V.imul (pc := 70) dX12_productBy_70 ?_
      refine V.iadd (pc := 71) dX12_productBy_71 ?_
      refine V.istore_n (lv' := [some (.ref 44), some (.int l1), some (.int l2), some (.int (l3 + (l4 * x5))), some (.int l4), some (.int l5), some (.int (f_X12_sizeOf x1 x2))]) (pc := 72) dX12_productBy_72 (Nat.le_of_ble_eq_true rfl) rfl rfl ?_
      refine V.iload (pc := 73) dX12_productBy_73 rfl ?_
      refine V.iload (pc := 75) dX12_productBy_75 rfl ?_
      refine V.imul (pc := 77) dX12_productBy_77 ?_
      refine V.istore (lv' := [some (.ref 44), some (.int l1), some (.int l2), some (.int (l3 + (l4 * x5))), some (.int (l4 * (f_X12_sizeOf x1 x2))), some (.int l5), some (.int (f_X12_sizeOf x1 x2))]) (pc := 78) dX12_productBy_78 (Nat.le_of_ble_eq_true rfl) rfl rfl ?_
      refine V.iinc (lv' := [some (.ref 44), some (.int l1), some (.int l2), some (.int (l3 + (l4 * x5))), some (.int (l4 * (f_X12_sizeOf x1 x2))), some (.int (l5 + 1)), some (.int (f_X12_sizeOf x1 x2))]) (pc := 80) dX12_productBy_80 (Nat.le_of_ble_eq_true rfl) rfl rfl (v := (l5 + 1)) (by rw [show Int32.ofInt 1 = 1 from by decide]) rfl ?_
      refine V.goto (t := 8) (pc := 83) dX12_productBy_83 (by decide) ?_
      refine V.weak (lv' := [some (.ref 44), some (.int l1), some (.int l2), some (.int (l3 + (l4 * x5))), some (.int (l4 * (f_X12_sizeOf x1 x2))), some (.int (l5 + 1)), none]) (And.intro rfl (And.intro rfl (And.intro rfl (And.intro rfl (And.intro rfl (And.intro rfl trivial)))))) ?_
      exact h8 l1 l2 (l3 + (l4 * x5)) (l4 * (f_X12_sizeOf x1 x2)) (l5 + 1) _ h
def f_X12_productBy (l1 : Int32) (l2 : Int32) (w : Wd) : Option Int32 :=
  f_X12_productBy_L8  FU l1 l2 0 1 0 w
set_option maxHeartbeats 4000000 in
set_option maxRecDepth 100000 in
theorem ok_X12_productBy {G : GT} {d : Nat} (hd : 2 ≤ d) {w : Wd} (l1 : Int32) (l2 : Int32) {r : Int32} (h : f_X12_productBy l1 l2 w = some r) : uC G yX12_productBy mX12_productBy d [.ref 44, .int l1, .int l2] w (some (.int r)) w := by
  obtain ⟨d, rfl⟩ : ∃ e, d = e + 1 := ⟨d - 1, by omega⟩
  unfold f_X12_productBy at h
  refine uC_of (lv := [some (.ref 44), some (.int l1), some (.int l2), none, none, none, none]) 4 pn_X12 ⟨rfl, rfl⟩ (Nat.le_of_ble_eq_true rfl) rfl ?_
  refine V.iconst (pc := 0) dX12_productBy_0 ic_0 ?_
  refine V.istore_n (lv' := [some (.ref 44), some (.int l1), some (.int l2), some (.int 0), none, none, none]) (pc := 1) dX12_productBy_1 (Nat.le_of_ble_eq_true rfl) rfl rfl ?_
  refine V.iconst (pc := 2) dX12_productBy_2 ic_1 ?_
  refine V.istore (lv' := [some (.ref 44), some (.int l1), some (.int l2), some (.int 0), some (.int 1), none, none]) (pc := 3) dX12_productBy_3 (Nat.le_of_ble_eq_true rfl) rfl rfl ?_
  refine V.iconst (pc := 5) dX12_productBy_5 ic_0 ?_
  refine V.istore (lv' := [some (.ref 44), some (.int l1), some (.int l2), some (.int 0), some (.int 1), some (.int 0), none]) (pc := 6) dX12_productBy_6 (Nat.le_of_ble_eq_true rfl) rfl rfl ?_
  exact t_X12_productBy_L8 hd FU l1 l2 0 1 0 _ h
theorem dX12_laysGroup_0 : decode cX12_laysGroup 0 = .ok (.iconst 0, 1) := by decide +kernel
theorem dX12_laysGroup_1 : decode cX12_laysGroup 1 = .ok (.istore_n 1, 1) := by decide +kernel
theorem dX12_laysGroup_2 : decode cX12_laysGroup 2 = .ok (.iload_n 1, 1) := by decide +kernel
theorem dX12_laysGroup_3 : decode cX12_laysGroup 3 = .ok (.aload_n 0, 1) := by decide +kernel
theorem dX12_laysGroup_4 : decode cX12_laysGroup 4 = .ok (.getfield 92, 3) := by decide +kernel
theorem dX12_laysGroup_7 : decode cX12_laysGroup 7 = .ok (.if_icmp .ge 42, 3) := by decide +kernel
theorem dX12_laysGroup_10 : decode cX12_laysGroup 10 = .ok (.iconst 0, 1) := by decide +kernel
theorem dX12_laysGroup_11 : decode cX12_laysGroup 11 = .ok (.istore_n 2, 1) := by decide +kernel
theorem dX12_laysGroup_12 : decode cX12_laysGroup 12 = .ok (.iload_n 2, 1) := by decide +kernel
theorem dX12_laysGroup_13 : decode cX12_laysGroup 13 = .ok (.aload_n 0, 1) := by decide +kernel
theorem dX12_laysGroup_14 : decode cX12_laysGroup 14 = .ok (.getfield 92, 3) := by decide +kernel
theorem dX12_laysGroup_17 : decode cX12_laysGroup 17 = .ok (.if_icmp .ge 26, 3) := by decide +kernel
theorem dX12_laysGroup_20 : decode cX12_laysGroup 20 = .ok (.aload_n 0, 1) := by decide +kernel
theorem dX12_laysGroup_21 : decode cX12_laysGroup 21 = .ok (.getfield 20, 3) := by decide +kernel
theorem dX12_laysGroup_24 : decode cX12_laysGroup 24 = .ok (.bipush 16, 2) := by decide +kernel
theorem dX12_laysGroup_26 : decode cX12_laysGroup 26 = .ok (.iload_n 1, 1) := by decide +kernel
theorem dX12_laysGroup_27 : decode cX12_laysGroup 27 = .ok (.imul, 1) := by decide +kernel
theorem dX12_laysGroup_28 : decode cX12_laysGroup 28 = .ok (.iload_n 2, 1) := by decide +kernel
theorem dX12_laysGroup_29 : decode cX12_laysGroup 29 = .ok (.iadd, 1) := by decide +kernel
theorem dX12_laysGroup_30 : decode cX12_laysGroup 30 = .ok (.aload_n 0, 1) := by decide +kernel
theorem dX12_laysGroup_31 : decode cX12_laysGroup 31 = .ok (.iload_n 1, 1) := by decide +kernel
theorem dX12_laysGroup_32 : decode cX12_laysGroup 32 = .ok (.iload_n 2, 1) := by decide +kernel
theorem dX12_laysGroup_33 : decode cX12_laysGroup 33 = .ok (.invokevirtual 116, 3) := by decide +kernel
theorem dX12_laysGroup_36 : decode cX12_laysGroup 36 = .ok (.iastore, 1) := by decide +kernel
theorem dX12_laysGroup_37 : decode cX12_laysGroup 37 = .ok (.iinc 2 1, 3) := by decide +kernel
theorem dX12_laysGroup_40 : decode cX12_laysGroup 40 = .ok (.goto (-28), 3) := by decide +kernel
theorem dX12_laysGroup_43 : decode cX12_laysGroup 43 = .ok (.iinc 1 1, 3) := by decide +kernel
theorem dX12_laysGroup_46 : decode cX12_laysGroup 46 = .ok (.goto (-44), 3) := by decide +kernel
theorem dX12_laysGroup_49 : decode cX12_laysGroup 49 = .ok (.iconst 0, 1) := by decide +kernel
theorem dX12_laysGroup_50 : decode cX12_laysGroup 50 = .ok (.istore_n 1, 1) := by decide +kernel
theorem dX12_laysGroup_51 : decode cX12_laysGroup 51 = .ok (.iload_n 1, 1) := by decide +kernel
theorem dX12_laysGroup_52 : decode cX12_laysGroup 52 = .ok (.aload_n 0, 1) := by decide +kernel
theorem dX12_laysGroup_53 : decode cX12_laysGroup 53 = .ok (.getfield 92, 3) := by decide +kernel
theorem dX12_laysGroup_56 : decode cX12_laysGroup 56 = .ok (.if_icmp .ge 41, 3) := by decide +kernel
theorem dX12_laysGroup_59 : decode cX12_laysGroup 59 = .ok (.iconst 0, 1) := by decide +kernel
theorem dX12_laysGroup_60 : decode cX12_laysGroup 60 = .ok (.istore_n 2, 1) := by decide +kernel
theorem dX12_laysGroup_61 : decode cX12_laysGroup 61 = .ok (.iload_n 2, 1) := by decide +kernel
theorem dX12_laysGroup_62 : decode cX12_laysGroup 62 = .ok (.aload_n 0, 1) := by decide +kernel
theorem dX12_laysGroup_63 : decode cX12_laysGroup 63 = .ok (.getfield 92, 3) := by decide +kernel
theorem dX12_laysGroup_66 : decode cX12_laysGroup 66 = .ok (.if_icmp .ge 25, 3) := by decide +kernel
theorem dX12_laysGroup_69 : decode cX12_laysGroup 69 = .ok (.aload_n 0, 1) := by decide +kernel
theorem dX12_laysGroup_70 : decode cX12_laysGroup 70 = .ok (.iload_n 1, 1) := by decide +kernel
theorem dX12_laysGroup_71 : decode cX12_laysGroup 71 = .ok (.iload_n 2, 1) := by decide +kernel
theorem dX12_laysGroup_72 : decode cX12_laysGroup 72 = .ok (.invokevirtual 119, 3) := by decide +kernel
theorem dX12_laysGroup_75 : decode cX12_laysGroup 75 = .ok (.ifCond .ne 10, 3) := by decide +kernel
theorem dX12_laysGroup_78 : decode cX12_laysGroup 78 = .ok (.aload_n 0, 1) := by decide +kernel
theorem dX12_laysGroup_79 : decode cX12_laysGroup 79 = .ok (.getfield 23, 3) := by decide +kernel
theorem dX12_laysGroup_82 : decode cX12_laysGroup 82 = .ok (.iload_n 1, 1) := by decide +kernel
theorem dX12_laysGroup_83 : decode cX12_laysGroup 83 = .ok (.iload_n 2, 1) := by decide +kernel
theorem dX12_laysGroup_84 : decode cX12_laysGroup 84 = .ok (.iastore, 1) := by decide +kernel
theorem dX12_laysGroup_85 : decode cX12_laysGroup 85 = .ok (.iinc 2 1, 3) := by decide +kernel
theorem dX12_laysGroup_88 : decode cX12_laysGroup 88 = .ok (.goto (-27), 3) := by decide +kernel
theorem dX12_laysGroup_91 : decode cX12_laysGroup 91 = .ok (.iinc 1 1, 3) := by decide +kernel
theorem dX12_laysGroup_94 : decode cX12_laysGroup 94 = .ok (.goto (-43), 3) := by decide +kernel
theorem dX12_laysGroup_97 : decode cX12_laysGroup 97 = .ok (.aload_n 0, 1) := by decide +kernel
theorem dX12_laysGroup_98 : decode cX12_laysGroup 98 = .ok (.getfield 27, 3) := by decide +kernel
theorem dX12_laysGroup_101 : decode cX12_laysGroup 101 = .ok (.iconst 0, 1) := by decide +kernel
theorem dX12_laysGroup_102 : decode cX12_laysGroup 102 = .ok (.iconst 0, 1) := by decide +kernel
theorem dX12_laysGroup_103 : decode cX12_laysGroup 103 = .ok (.iastore, 1) := by decide +kernel
theorem dX12_laysGroup_104 : decode cX12_laysGroup 104 = .ok (.iconst 0, 1) := by decide +kernel
theorem dX12_laysGroup_105 : decode cX12_laysGroup 105 = .ok (.istore_n 1, 1) := by decide +kernel
theorem dX12_laysGroup_106 : decode cX12_laysGroup 106 = .ok (.iload_n 1, 1) := by decide +kernel
theorem dX12_laysGroup_107 : decode cX12_laysGroup 107 = .ok (.aload_n 0, 1) := by decide +kernel
theorem dX12_laysGroup_108 : decode cX12_laysGroup 108 = .ok (.getfield 92, 3) := by decide +kernel
theorem dX12_laysGroup_111 : decode cX12_laysGroup 111 = .ok (.if_icmp .ge 42, 3) := by decide +kernel
theorem dX12_laysGroup_114 : decode cX12_laysGroup 114 = .ok (.iconst 1, 1) := by decide +kernel
theorem dX12_laysGroup_115 : decode cX12_laysGroup 115 = .ok (.iload_n 1, 1) := by decide +kernel
theorem dX12_laysGroup_116 : decode cX12_laysGroup 116 = .ok (.ishl, 1) := by decide +kernel
theorem dX12_laysGroup_117 : decode cX12_laysGroup 117 = .ok (.istore_n 2, 1) := by decide +kernel
theorem dX12_laysGroup_118 : decode cX12_laysGroup 118 = .ok (.iload_n 2, 1) := by decide +kernel
theorem dX12_laysGroup_119 : decode cX12_laysGroup 119 = .ok (.iconst 2, 1) := by decide +kernel
theorem dX12_laysGroup_120 : decode cX12_laysGroup 120 = .ok (.iload_n 1, 1) := by decide +kernel
theorem dX12_laysGroup_121 : decode cX12_laysGroup 121 = .ok (.ishl, 1) := by decide +kernel
theorem dX12_laysGroup_122 : decode cX12_laysGroup 122 = .ok (.if_icmp .ge 25, 3) := by decide +kernel
theorem dX12_laysGroup_125 : decode cX12_laysGroup 125 = .ok (.aload_n 0, 1) := by decide +kernel
theorem dX12_laysGroup_126 : decode cX12_laysGroup 126 = .ok (.getfield 27, 3) := by decide +kernel
theorem dX12_laysGroup_129 : decode cX12_laysGroup 129 = .ok (.iload_n 2, 1) := by decide +kernel
theorem dX12_laysGroup_130 : decode cX12_laysGroup 130 = .ok (.aload_n 0, 1) := by decide +kernel
theorem dX12_laysGroup_131 : decode cX12_laysGroup 131 = .ok (.iload_n 2, 1) := by decide +kernel
theorem dX12_laysGroup_132 : decode cX12_laysGroup 132 = .ok (.iconst 1, 1) := by decide +kernel
theorem dX12_laysGroup_133 : decode cX12_laysGroup 133 = .ok (.iload_n 1, 1) := by decide +kernel
theorem dX12_laysGroup_134 : decode cX12_laysGroup 134 = .ok (.ishl, 1) := by decide +kernel
theorem dX12_laysGroup_135 : decode cX12_laysGroup 135 = .ok (.ixor, 1) := by decide +kernel
theorem dX12_laysGroup_136 : decode cX12_laysGroup 136 = .ok (.iload_n 1, 1) := by decide +kernel
theorem dX12_laysGroup_137 : decode cX12_laysGroup 137 = .ok (.invokevirtual 122, 3) := by decide +kernel
theorem dX12_laysGroup_140 : decode cX12_laysGroup 140 = .ok (.iastore, 1) := by decide +kernel
theorem dX12_laysGroup_141 : decode cX12_laysGroup 141 = .ok (.iinc 2 1, 3) := by decide +kernel
theorem dX12_laysGroup_144 : decode cX12_laysGroup 144 = .ok (.goto (-26), 3) := by decide +kernel
theorem dX12_laysGroup_147 : decode cX12_laysGroup 147 = .ok (.iinc 1 1, 3) := by decide +kernel
theorem dX12_laysGroup_150 : decode cX12_laysGroup 150 = .ok (.goto (-44), 3) := by decide +kernel
theorem dX12_laysGroup_153 : decode cX12_laysGroup 153 = .ok (.aload_n 0, 1) := by decide +kernel
theorem dX12_laysGroup_154 : decode cX12_laysGroup 154 = .ok (.iconst 0, 1) := by decide +kernel
theorem dX12_laysGroup_155 : decode cX12_laysGroup 155 = .ok (.putfield 125, 3) := by decide +kernel
theorem dX12_laysGroup_158 : decode cX12_laysGroup 158 = .ok (.iconst 1, 1) := by decide +kernel
theorem dX12_laysGroup_159 : decode cX12_laysGroup 159 = .ok (.istore_n 1, 1) := by decide +kernel
theorem dX12_laysGroup_160 : decode cX12_laysGroup 160 = .ok (.iconst 1, 1) := by decide +kernel
theorem dX12_laysGroup_161 : decode cX12_laysGroup 161 = .ok (.istore_n 2, 1) := by decide +kernel
theorem dX12_laysGroup_162 : decode cX12_laysGroup 162 = .ok (.iload_n 2, 1) := by decide +kernel
theorem dX12_laysGroup_163 : decode cX12_laysGroup 163 = .ok (.aload_n 0, 1) := by decide +kernel
theorem dX12_laysGroup_164 : decode cX12_laysGroup 164 = .ok (.getfield 92, 3) := by decide +kernel
theorem dX12_laysGroup_167 : decode cX12_laysGroup 167 = .ok (.if_icmp .ge 50, 3) := by decide +kernel
theorem dX12_laysGroup_170 : decode cX12_laysGroup 170 = .ok (.iload_n 1, 1) := by decide +kernel
theorem dX12_laysGroup_171 : decode cX12_laysGroup 171 = .ok (.iload_n 2, 1) := by decide +kernel
theorem dX12_laysGroup_172 : decode cX12_laysGroup 172 = .ok (.invokestatic 128, 3) := by decide +kernel
theorem dX12_laysGroup_175 : decode cX12_laysGroup 175 = .ok (.ifCond .eq 6, 3) := by decide +kernel
theorem dX12_laysGroup_178 : decode cX12_laysGroup 178 = .ok (.goto 33, 3) := by decide +kernel
theorem dX12_laysGroup_181 : decode cX12_laysGroup 181 = .ok (.aload_n 0, 1) := by decide +kernel
theorem dX12_laysGroup_182 : decode cX12_laysGroup 182 = .ok (.getfield 30, 3) := by decide +kernel
theorem dX12_laysGroup_185 : decode cX12_laysGroup 185 = .ok (.aload_n 0, 1) := by decide +kernel
theorem dX12_laysGroup_186 : decode cX12_laysGroup 186 = .ok (.getfield 125, 3) := by decide +kernel
theorem dX12_laysGroup_189 : decode cX12_laysGroup 189 = .ok (.iload_n 2, 1) := by decide +kernel
theorem dX12_laysGroup_190 : decode cX12_laysGroup 190 = .ok (.iastore, 1) := by decide +kernel
theorem dX12_laysGroup_191 : decode cX12_laysGroup 191 = .ok (.aload_n 0, 1) := by decide +kernel
theorem dX12_laysGroup_192 : decode cX12_laysGroup 192 = .ok (.dup, 1) := by decide +kernel
theorem dX12_laysGroup_193 : decode cX12_laysGroup 193 = .ok (.getfield 125, 3) := by decide +kernel
theorem dX12_laysGroup_196 : decode cX12_laysGroup 196 = .ok (.iconst 1, 1) := by decide +kernel
theorem dX12_laysGroup_197 : decode cX12_laysGroup 197 = .ok (.iadd, 1) := by decide +kernel
theorem dX12_laysGroup_198 : decode cX12_laysGroup 198 = .ok (.putfield 125, 3) := by decide +kernel
theorem dX12_laysGroup_201 : decode cX12_laysGroup 201 = .ok (.aload_n 0, 1) := by decide +kernel
theorem dX12_laysGroup_202 : decode cX12_laysGroup 202 = .ok (.iload_n 1, 1) := by decide +kernel
theorem dX12_laysGroup_203 : decode cX12_laysGroup 203 = .ok (.iconst 1, 1) := by decide +kernel
theorem dX12_laysGroup_204 : decode cX12_laysGroup 204 = .ok (.iload_n 2, 1) := by decide +kernel
theorem dX12_laysGroup_205 : decode cX12_laysGroup 205 = .ok (.ishl, 1) := by decide +kernel
theorem dX12_laysGroup_206 : decode cX12_laysGroup 206 = .ok (.ior, 1) := by decide +kernel
theorem dX12_laysGroup_207 : decode cX12_laysGroup 207 = .ok (.invokevirtual 132, 3) := by decide +kernel
theorem dX12_laysGroup_210 : decode cX12_laysGroup 210 = .ok (.istore_n 1, 1) := by decide +kernel
theorem dX12_laysGroup_211 : decode cX12_laysGroup 211 = .ok (.iinc 2 1, 3) := by decide +kernel
theorem dX12_laysGroup_214 : decode cX12_laysGroup 214 = .ok (.goto (-52), 3) := by decide +kernel
theorem dX12_laysGroup_217 : decode cX12_laysGroup 217 = .ok (.aload_n 0, 1) := by decide +kernel
theorem dX12_laysGroup_218 : decode cX12_laysGroup 218 = .ok (.invokevirtual 136, 3) := by decide +kernel
theorem dX12_laysGroup_221 : decode cX12_laysGroup 221 = .ok (.return_, 1) := by decide +kernel
def f_X12_laysGroup_B162b (k162 : Int32 → Int32 → Wd → Option Wd) (l1 : Int32) (l2 : Int32) (w : Wd) : Option Wd :=
  if (w.1 44 1) ≤ l2 then
    bnd (f_X12_laysWords  w) fun w1 =>
    some w1
  else
    if (f_X12_has l1 l2) = 0 then
      wrI w 50 16 (w.1 44 9) l2 fun w2 =>
      letW (sI w2 44 9 ((w2.1 44 9) + 1)) fun w3 =>
      bnd (f_X12_spanOf (l1 ||| (1 <<< (l2 &&& 31))) w3) fun x4 =>
      k162 x4 (l2 + 1) w3
    else
      k162 l1 (l2 + 1) w
def f_X12_laysGroup_L162 (n : Nat) : Int32 → Int32 → Wd → Option Wd :=
  Nat.rec (fun _ _ _ => none) (fun _ k => f_X12_laysGroup_B162b k) n
set_option maxHeartbeats 4000000 in
set_option maxRecDepth 100000 in
theorem t_X12_laysGroup_L162 {G : GT} {d : Nat} (hd : 3 ≤ d + 1)  : ∀ (n : Nat) (l1 : Int32) (l2 : Int32) (w : Wd) (w' : Wd), f_X12_laysGroup_L162 n l1 l2 w = some w' → U (vf G mX12_laysGroup (d + 1)) 162 [some (.ref 44), some (.int l1), some (.int l2)] [] w (none, 70, r0, w') := by
  intro n
  induction n with
  | zero => intro l1 l2 w w' h; cases h
  | succ n h162 =>
    intro l1 l2 w w' h
    have h : f_X12_laysGroup_B162b (f_X12_laysGroup_L162 n) l1 l2 w = some w' := h
    unfold f_X12_laysGroup_B162b at h
    refine V.iload_n (pc := 162) dX12_laysGroup_162 rfl ?_
    refine V.aload_n (pc := 163) dX12_laysGroup_163 rfl ?_
    refine V.getI (pc := 164) dX12_laysGroup_164 f_RX12_92 k_cl12 lx_44 ly_44 rb_12_1 ?_
    rcases ite_e h with ⟨c, h⟩ | ⟨c, h⟩
    · refine V.icmp_ge_t (t := 217) (pc := 167) dX12_laysGroup_167 (by decide) c ?_
      refine V.aload_n (pc := 217) dX12_laysGroup_217 rfl ?_
      obtain ⟨w1, ew1, h⟩ := bnd_e h
      refine U.callV (pc := 218) (As := []) (st := []) dX12_laysGroup_218 l_RX12_136 (ok_X12_laysWords (by omega)  ew1) lx_44 ly_44 cn_12 (Nat.le_of_ble_eq_true rfl) rfl rfl (Nat.le_of_ble_eq_true rfl) ?_
      obtain rfl := Option.some.inj h
      exact V.vret (pc := 221) dX12_laysGroup_221 rfl (Nat.le_refl _) (Nat.le_refl _)
    · refine V.icmp_ge_f (t := 217) (pc := 167) dX12_laysGroup_167 (by decide) c ?_
      refine V.iload_n (pc := 170) dX12_laysGroup_170 rfl ?_
      refine V.iload_n (pc := 171) dX12_laysGroup_171 rfl ?_
      refine U.callS (pc := 172) (As := [.int l1, .int l2]) (st := []) dX12_laysGroup_172 l_RX12_128 (ok_X12_has (by omega) l1 l2 ) (Nat.le_of_ble_eq_true rfl) rfl rfl (Nat.le_of_ble_eq_true rfl) ?_
      rcases ite_e h with ⟨c, h⟩ | ⟨c, h⟩
      · refine V.if_eq_t (t := 181) (pc := 175) dX12_laysGroup_175 (by decide) c ?_
        refine V.aload_n (pc := 181) dX12_laysGroup_181 rfl ?_
        refine V.getR (t := 50) (pc := 182) dX12_laysGroup_182 f_RX12_30 k_cl12 lx_44 ly_44 rb_12_8 rr_44_8 ?_
        refine V.aload_n (pc := 185) dX12_laysGroup_185 rfl ?_
        refine V.getI (pc := 186) dX12_laysGroup_186 f_RX12_125 k_cl12 lx_44 ly_44 rb_12_9 ?_
        refine V.iload_n (pc := 189) dX12_laysGroup_189 rfl ?_
        obtain ⟨w2, iw2, ew2, h⟩ := wrI_e h
        refine V.iastX (pc := 190) dX12_laysGroup_190 lx_50 ly_50 iw2 ew2 ?_
        refine V.aload_n (pc := 191) dX12_laysGroup_191 rfl ?_
        refine V.dup (pc := 192) dX12_laysGroup_192 rfl ?_
        refine V.getI (pc := 193) dX12_laysGroup_193 f_RX12_125 k_cl12 lx_44 ly_44 rb_12_9 ?_
        refine V.iconst (pc := 196) dX12_laysGroup_196 ic_1 ?_
        refine V.iadd (pc := 197) dX12_laysGroup_197 ?_
        obtain ⟨w3, ew3, h⟩ := letW_e h
        refine V.putIX (pc := 198) dX12_laysGroup_198 f_RX12_125 k_cl12 lx_44 ly_44 rb_12_9 (fin_I (T0 := TX12) rfl rfl rfl) ew3 ?_
        refine V.aload_n (pc := 201) dX12_laysGroup_201 rfl ?_
        refine V.iload_n (pc := 202) dX12_laysGroup_202 rfl ?_
        refine V.iconst (pc := 203) dX12_laysGroup_203 ic_1 ?_
        refine V.iload_n (pc := 204) dX12_laysGroup_204 rfl ?_
        refine V.ishl (pc := 205) dX12_laysGroup_205 ?_
        refine V.ior (pc := 206) dX12_laysGroup_206 ?_
        obtain ⟨x4, ex4, h⟩ := bnd_e h
        refine U.callV (pc := 207) (As := [.int (l1 ||| (1 <<< (l2 &&& 31)))]) (st := []) dX12_laysGroup_207 l_RX12_132 (ok_X12_spanOf (by omega) (l1 ||| (1 <<< (l2 &&& 31))) ex4) lx_44 ly_44 cn_12 (Nat.le_of_ble_eq_true rfl) rfl rfl (Nat.le_of_ble_eq_true rfl) ?_
        refine V.istore_n (lv' := [some (.ref 44), some (.int x4), some (.int l2)]) (pc := 210) dX12_laysGroup_210 (Nat.le_of_ble_eq_true rfl) rfl rfl ?_
        refine V.iinc (lv' := [some (.ref 44), some (.int x4), some (.int (l2 + 1))]) (pc := 211) dX12_laysGroup_211 (Nat.le_of_ble_eq_true rfl) rfl rfl (v := (l2 + 1)) (by rw [show Int32.ofInt 1 = 1 from by decide]) rfl ?_
        refine V.goto (t := 162) (pc := 214) dX12_laysGroup_214 (by decide) ?_
        exact h162 x4 (l2 + 1) w3 _ h
      · refine V.if_eq_f (t := 181) (pc := 175) dX12_laysGroup_175 (by decide) c ?_
        refine V.goto (t := 211) (pc := 178) dX12_laysGroup_178 (by decide) ?_
        refine V.iinc (lv' := [some (.ref 44), some (.int l1), some (.int (l2 + 1))]) (pc := 211) dX12_laysGroup_211 (Nat.le_of_ble_eq_true rfl) rfl rfl (v := (l2 + 1)) (by rw [show Int32.ofInt 1 = 1 from by decide]) rfl ?_
        refine V.goto (t := 162) (pc := 214) dX12_laysGroup_214 (by decide) ?_
        exact h162 l1 (l2 + 1) w _ h
def f_X12_laysGroup_B118b (k106 : Int32 → Wd → Option Wd) (k118 : Int32 → Int32 → Wd → Option Wd) (l1 : Int32) (l2 : Int32) (w : Wd) : Option Wd :=
  if (2 <<< (l1 &&& 31)) ≤ l2 then
    k106 (l1 + 1) w
  else
    bnd (f_X12_productsBelow (l2 ^^^ (1 <<< (l1 &&& 31))) l1 w) fun x1 =>
    wrI w 49 65536 l2 x1 fun w2 =>
    k118 l1 (l2 + 1) w2
def f_X12_laysGroup_L118 (k106 : Int32 → Wd → Option Wd) (n : Nat) : Int32 → Int32 → Wd → Option Wd :=
  Nat.rec (fun _ _ _ => none) (fun _ k => f_X12_laysGroup_B118b k106 k) n
set_option maxHeartbeats 4000000 in
set_option maxRecDepth 100000 in
theorem t_X12_laysGroup_L118 {G : GT} {d : Nat} {k106 : Int32 → Wd → Option Wd} (hd : 3 ≤ d + 1) (h106 : ∀ (l1 : Int32) (w : Wd) (w' : Wd), k106 l1 w = some w' → U (vf G mX12_laysGroup (d + 1)) 106 [some (.ref 44), some (.int l1), none] [] w (none, 70, r0, w')) : ∀ (n : Nat) (l1 : Int32) (l2 : Int32) (w : Wd) (w' : Wd), f_X12_laysGroup_L118 k106 n l1 l2 w = some w' → U (vf G mX12_laysGroup (d + 1)) 118 [some (.ref 44), some (.int l1), some (.int l2)] [] w (none, 70, r0, w') := by
  intro n
  induction n with
  | zero => intro l1 l2 w w' h; cases h
  | succ n h118 =>
    intro l1 l2 w w' h
    have h : f_X12_laysGroup_B118b k106 (f_X12_laysGroup_L118 k106 n) l1 l2 w = some w' := h
    unfold f_X12_laysGroup_B118b at h
    refine V.iload_n (pc := 118) dX12_laysGroup_118 rfl ?_
    refine V.iconst (pc := 119) dX12_laysGroup_119 ic_2 ?_
    refine V.iload_n (pc := 120) dX12_laysGroup_120 rfl ?_
    refine V.ishl (pc := 121) dX12_laysGroup_121 ?_
    rcases ite_e h with ⟨c, h⟩ | ⟨c, h⟩
    · refine V.icmp_ge_t (t := 147) (pc := 122) dX12_laysGroup_122 (by decide) c ?_
      refine V.iinc (lv' := [some (.ref 44), some (.int (l1 + 1)), some (.int l2)]) (pc := 147) dX12_laysGroup_147 (Nat.le_of_ble_eq_true rfl) rfl rfl (v := (l1 + 1)) (by rw [show Int32.ofInt 1 = 1 from by decide]) rfl ?_
      refine V.goto (t := 106) (pc := 150) dX12_laysGroup_150 (by decide) ?_
      refine V.weak (lv' := [some (.ref 44), some (.int (l1 + 1)), none]) (And.intro rfl (And.intro rfl trivial)) ?_
      exact h106 (l1 + 1) w _ h
    · refine V.icmp_ge_f (t := 147) (pc := 122) dX12_laysGroup_122 (by decide) c ?_
      refine V.aload_n (pc := 125) dX12_laysGroup_125 rfl ?_
      refine V.getR (t := 49) (pc := 126) dX12_laysGroup_126 f_RX12_27 k_cl12 lx_44 ly_44 rb_12_7 rr_44_7 ?_
      refine V.iload_n (pc := 129) dX12_laysGroup_129 rfl ?_
      refine V.aload_n (pc := 130) dX12_laysGroup_130 rfl ?_
      refine V.iload_n (pc := 131) dX12_laysGroup_131 rfl ?_
      refine V.iconst (pc := 132) dX12_laysGroup_132 ic_1 ?_
      refine V.iload_n (pc := 133) dX12_laysGroup_133 rfl ?_
      refine V.ishl (pc := 134) dX12_laysGroup_134 ?_
      refine V.ixor (pc := 135) dX12_laysGroup_135 ?_
      refine V.iload_n (pc := 136) dX12_laysGroup_136 rfl ?_
      obtain ⟨x1, ex1, h⟩ := bnd_e h
      refine U.callV (pc := 137) (As := [.int (l2 ^^^ (1 <<< (l1 &&& 31))), .int l1]) (st := [.int l2, .ref 49]) dX12_laysGroup_137 l_RX12_122 (ok_X12_productsBelow (by omega) (l2 ^^^ (1 <<< (l1 &&& 31))) l1 ex1) lx_44 ly_44 cn_12 (Nat.le_of_ble_eq_true rfl) rfl rfl (Nat.le_of_ble_eq_true rfl) ?_
      obtain ⟨w2, iw2, ew2, h⟩ := wrI_e h
      refine V.iastX (pc := 140) dX12_laysGroup_140 lx_49 ly_49 iw2 ew2 ?_
      refine V.iinc (lv' := [some (.ref 44), some (.int l1), some (.int (l2 + 1))]) (pc := 141) dX12_laysGroup_141 (Nat.le_of_ble_eq_true rfl) rfl rfl (v := (l2 + 1)) (by rw [show Int32.ofInt 1 = 1 from by decide]) rfl ?_
      refine V.goto (t := 118) (pc := 144) dX12_laysGroup_144 (by decide) ?_
      exact h118 l1 (l2 + 1) w2 _ h
def f_X12_laysGroup_B106b (k106 : Int32 → Wd → Option Wd) (l1 : Int32) (w : Wd) : Option Wd :=
  if (w.1 44 1) ≤ l1 then
    letW (sI w 44 9 0) fun w1 =>
    f_X12_laysGroup_L162  FU 1 1 w1
  else
    f_X12_laysGroup_L118 k106 FU l1 (1 <<< (l1 &&& 31)) w
def f_X12_laysGroup_L106 (n : Nat) : Int32 → Wd → Option Wd :=
  Nat.rec (fun _ _ => none) (fun _ k => f_X12_laysGroup_B106b k) n
set_option maxHeartbeats 4000000 in
set_option maxRecDepth 100000 in
theorem t_X12_laysGroup_L106 {G : GT} {d : Nat} (hd : 3 ≤ d + 1)  : ∀ (n : Nat) (l1 : Int32) (w : Wd) (w' : Wd), f_X12_laysGroup_L106 n l1 w = some w' → U (vf G mX12_laysGroup (d + 1)) 106 [some (.ref 44), some (.int l1), none] [] w (none, 70, r0, w') := by
  intro n
  induction n with
  | zero => intro l1 w w' h; cases h
  | succ n h106 =>
    intro l1 w w' h
    have h : f_X12_laysGroup_B106b (f_X12_laysGroup_L106 n) l1 w = some w' := h
    unfold f_X12_laysGroup_B106b at h
    refine V.iload_n (pc := 106) dX12_laysGroup_106 rfl ?_
    refine V.aload_n (pc := 107) dX12_laysGroup_107 rfl ?_
    refine V.getI (pc := 108) dX12_laysGroup_108 f_RX12_92 k_cl12 lx_44 ly_44 rb_12_1 ?_
    rcases ite_e h with ⟨c, h⟩ | ⟨c, h⟩
    · refine V.icmp_ge_t (t := 153) (pc := 111) dX12_laysGroup_111 (by decide) c ?_
      refine V.aload_n (pc := 153) dX12_laysGroup_153 rfl ?_
      refine V.iconst (pc := 154) dX12_laysGroup_154 ic_0 ?_
      obtain ⟨w1, ew1, h⟩ := letW_e h
      refine V.putIX (pc := 155) dX12_laysGroup_155 f_RX12_125 k_cl12 lx_44 ly_44 rb_12_9 (fin_I (T0 := TX12) rfl rfl rfl) ew1 ?_
      refine V.iconst (pc := 158) dX12_laysGroup_158 ic_1 ?_
      refine V.istore_n (lv' := [some (.ref 44), some (.int 1), none]) (pc := 159) dX12_laysGroup_159 (Nat.le_of_ble_eq_true rfl) rfl rfl ?_
      refine V.iconst (pc := 160) dX12_laysGroup_160 ic_1 ?_
      refine V.istore_n (lv' := [some (.ref 44), some (.int 1), some (.int 1)]) (pc := 161) dX12_laysGroup_161 (Nat.le_of_ble_eq_true rfl) rfl rfl ?_
      exact t_X12_laysGroup_L162 hd FU 1 1 w1 _ h
    · refine V.icmp_ge_f (t := 153) (pc := 111) dX12_laysGroup_111 (by decide) c ?_
      refine V.iconst (pc := 114) dX12_laysGroup_114 ic_1 ?_
      refine V.iload_n (pc := 115) dX12_laysGroup_115 rfl ?_
      refine V.ishl (pc := 116) dX12_laysGroup_116 ?_
      refine V.istore_n (lv' := [some (.ref 44), some (.int l1), some (.int (1 <<< (l1 &&& 31)))]) (pc := 117) dX12_laysGroup_117 (Nat.le_of_ble_eq_true rfl) rfl rfl ?_
      exact t_X12_laysGroup_L118 hd h106 FU l1 (1 <<< (l1 &&& 31)) w _ h
def f_X12_laysGroup_B61b (k51 : Int32 → Wd → Option Wd) (k61 : Int32 → Int32 → Wd → Option Wd) (l1 : Int32) (l2 : Int32) (w : Wd) : Option Wd :=
  if (w.1 44 1) ≤ l2 then
    k51 (l1 + 1) w
  else
    bnd (f_X12_product0 l1 l2 w) fun x1 =>
    if x1 = 0 then
      wrI w 48 16 l1 l2 fun w2 =>
      k61 l1 (l2 + 1) w2
    else
      k61 l1 (l2 + 1) w
def f_X12_laysGroup_L61 (k51 : Int32 → Wd → Option Wd) (n : Nat) : Int32 → Int32 → Wd → Option Wd :=
  Nat.rec (fun _ _ _ => none) (fun _ k => f_X12_laysGroup_B61b k51 k) n
set_option maxHeartbeats 4000000 in
set_option maxRecDepth 100000 in
theorem t_X12_laysGroup_L61 {G : GT} {d : Nat} {k51 : Int32 → Wd → Option Wd} (hd : 3 ≤ d + 1) (h51 : ∀ (l1 : Int32) (w : Wd) (w' : Wd), k51 l1 w = some w' → U (vf G mX12_laysGroup (d + 1)) 51 [some (.ref 44), some (.int l1), none] [] w (none, 70, r0, w')) : ∀ (n : Nat) (l1 : Int32) (l2 : Int32) (w : Wd) (w' : Wd), f_X12_laysGroup_L61 k51 n l1 l2 w = some w' → U (vf G mX12_laysGroup (d + 1)) 61 [some (.ref 44), some (.int l1), some (.int l2)] [] w (none, 70, r0, w') := by
  intro n
  induction n with
  | zero => intro l1 l2 w w' h; cases h
  | succ n h61 =>
    intro l1 l2 w w' h
    have h : f_X12_laysGroup_B61b k51 (f_X12_laysGroup_L61 k51 n) l1 l2 w = some w' := h
    unfold f_X12_laysGroup_B61b at h
    refine V.iload_n (pc := 61) dX12_laysGroup_61 rfl ?_
    refine V.aload_n (pc := 62) dX12_laysGroup_62 rfl ?_
    refine V.getI (pc := 63) dX12_laysGroup_63 f_RX12_92 k_cl12 lx_44 ly_44 rb_12_1 ?_
    rcases ite_e h with ⟨c, h⟩ | ⟨c, h⟩
    · refine V.icmp_ge_t (t := 91) (pc := 66) dX12_laysGroup_66 (by decide) c ?_
      refine V.iinc (lv' := [some (.ref 44), some (.int (l1 + 1)), some (.int l2)]) (pc := 91) dX12_laysGroup_91 (Nat.le_of_ble_eq_true rfl) rfl rfl (v := (l1 + 1)) (by rw [show Int32.ofInt 1 = 1 from by decide]) rfl ?_
      refine V.goto (t := 51) (pc := 94) dX12_laysGroup_94 (by decide) ?_
      refine V.weak (lv' := [some (.ref 44), some (.int (l1 + 1)), none]) (And.intro rfl (And.intro rfl trivial)) ?_
      exact h51 (l1 + 1) w _ h
    · refine V.icmp_ge_f (t := 91) (pc := 66) dX12_laysGroup_66 (by decide) c ?_
      refine V.aload_n (pc := 69) dX12_laysGroup_69 rfl ?_
      refine V.iload_n (pc := 70) dX12_laysGroup_70 rfl ?_
      refine V.iload_n (pc := 71) dX12_laysGroup_71 rfl ?_
      obtain ⟨x1, ex1, h⟩ := bnd_e h
      refine U.callV (pc := 72) (As := [.int l1, .int l2]) (st := []) dX12_laysGroup_72 l_RX12_119 (ok_X12_product0 (by omega) l1 l2 ex1) lx_44 ly_44 cn_12 (Nat.le_of_ble_eq_true rfl) rfl rfl (Nat.le_of_ble_eq_true rfl) ?_
      rcases ite_e h with ⟨c, h⟩ | ⟨c, h⟩
      · refine V.if_ne_f (t := 85) (pc := 75) dX12_laysGroup_75 (by decide) c ?_
        refine V.aload_n (pc := 78) dX12_laysGroup_78 rfl ?_
        refine V.getR (t := 48) (pc := 79) dX12_laysGroup_79 f_RX12_23 k_cl12 lx_44 ly_44 rb_12_6 rr_44_6 ?_
        refine V.iload_n (pc := 82) dX12_laysGroup_82 rfl ?_
        refine V.iload_n (pc := 83) dX12_laysGroup_83 rfl ?_
        obtain ⟨w2, iw2, ew2, h⟩ := wrI_e h
        refine V.iastX (pc := 84) dX12_laysGroup_84 lx_48 ly_48 iw2 ew2 ?_
        refine V.iinc (lv' := [some (.ref 44), some (.int l1), some (.int (l2 + 1))]) (pc := 85) dX12_laysGroup_85 (Nat.le_of_ble_eq_true rfl) rfl rfl (v := (l2 + 1)) (by rw [show Int32.ofInt 1 = 1 from by decide]) rfl ?_
        refine V.goto (t := 61) (pc := 88) dX12_laysGroup_88 (by decide) ?_
        exact h61 l1 (l2 + 1) w2 _ h
      · refine V.if_ne_t (t := 85) (pc := 75) dX12_laysGroup_75 (by decide) c ?_
        refine V.iinc (lv' := [some (.ref 44), some (.int l1), some (.int (l2 + 1))]) (pc := 85) dX12_laysGroup_85 (Nat.le_of_ble_eq_true rfl) rfl rfl (v := (l2 + 1)) (by rw [show Int32.ofInt 1 = 1 from by decide]) rfl ?_
        refine V.goto (t := 61) (pc := 88) dX12_laysGroup_88 (by decide) ?_
        exact h61 l1 (l2 + 1) w _ h
def f_X12_laysGroup_B51b (k51 : Int32 → Wd → Option Wd) (l1 : Int32) (w : Wd) : Option Wd :=
  if (w.1 44 1) ≤ l1 then
    wrI w 49 65536 0 0 fun w1 =>
    f_X12_laysGroup_L106  FU 0 w1
  else
    f_X12_laysGroup_L61 k51 FU l1 0 w
def f_X12_laysGroup_L51 (n : Nat) : Int32 → Wd → Option Wd :=
  Nat.rec (fun _ _ => none) (fun _ k => f_X12_laysGroup_B51b k) n
set_option maxHeartbeats 4000000 in
set_option maxRecDepth 100000 in
theorem t_X12_laysGroup_L51 {G : GT} {d : Nat} (hd : 3 ≤ d + 1)  : ∀ (n : Nat) (l1 : Int32) (w : Wd) (w' : Wd), f_X12_laysGroup_L51 n l1 w = some w' → U (vf G mX12_laysGroup (d + 1)) 51 [some (.ref 44), some (.int l1), none] [] w (none, 70, r0, w') := by
  intro n
  induction n with
  | zero => intro l1 w w' h; cases h
  | succ n h51 =>
    intro l1 w w' h
    have h : f_X12_laysGroup_B51b (f_X12_laysGroup_L51 n) l1 w = some w' := h
    unfold f_X12_laysGroup_B51b at h
    refine V.iload_n (pc := 51) dX12_laysGroup_51 rfl ?_
    refine V.aload_n (pc := 52) dX12_laysGroup_52 rfl ?_
    refine V.getI (pc := 53) dX12_laysGroup_53 f_RX12_92 k_cl12 lx_44 ly_44 rb_12_1 ?_
    rcases ite_e h with ⟨c, h⟩ | ⟨c, h⟩
    · refine V.icmp_ge_t (t := 97) (pc := 56) dX12_laysGroup_56 (by decide) c ?_
      refine V.aload_n (pc := 97) dX12_laysGroup_97 rfl ?_
      refine V.getR (t := 49) (pc := 98) dX12_laysGroup_98 f_RX12_27 k_cl12 lx_44 ly_44 rb_12_7 rr_44_7 ?_
      refine V.iconst (pc := 101) dX12_laysGroup_101 ic_0 ?_
      refine V.iconst (pc := 102) dX12_laysGroup_102 ic_0 ?_
      obtain ⟨w1, iw1, ew1, h⟩ := wrI_e h
      refine V.iastX (pc := 103) dX12_laysGroup_103 lx_49 ly_49 iw1 ew1 ?_
      refine V.iconst (pc := 104) dX12_laysGroup_104 ic_0 ?_
      refine V.istore_n (lv' := [some (.ref 44), some (.int 0), none]) (pc := 105) dX12_laysGroup_105 (Nat.le_of_ble_eq_true rfl) rfl rfl ?_
      exact t_X12_laysGroup_L106 hd FU 0 w1 _ h
    · refine V.icmp_ge_f (t := 97) (pc := 56) dX12_laysGroup_56 (by decide) c ?_
      refine V.iconst (pc := 59) dX12_laysGroup_59 ic_0 ?_
      refine V.istore_n (lv' := [some (.ref 44), some (.int l1), some (.int 0)]) (pc := 60) dX12_laysGroup_60 (Nat.le_of_ble_eq_true rfl) rfl rfl ?_
      exact t_X12_laysGroup_L61 hd h51 FU l1 0 w _ h
def f_X12_laysGroup_B12b (k2 : Int32 → Wd → Option Wd) (k12 : Int32 → Int32 → Wd → Option Wd) (l1 : Int32) (l2 : Int32) (w : Wd) : Option Wd :=
  if (w.1 44 1) ≤ l2 then
    k2 (l1 + 1) w
  else
    bnd (f_X12_productBy l1 l2 w) fun x1 =>
    wrI w 47 256 ((16 * l1) + l2) x1 fun w2 =>
    k12 l1 (l2 + 1) w2
def f_X12_laysGroup_L12 (k2 : Int32 → Wd → Option Wd) (n : Nat) : Int32 → Int32 → Wd → Option Wd :=
  Nat.rec (fun _ _ _ => none) (fun _ k => f_X12_laysGroup_B12b k2 k) n
set_option maxHeartbeats 4000000 in
set_option maxRecDepth 100000 in
theorem t_X12_laysGroup_L12 {G : GT} {d : Nat} {k2 : Int32 → Wd → Option Wd} (hd : 3 ≤ d + 1) (h2 : ∀ (l1 : Int32) (w : Wd) (w' : Wd), k2 l1 w = some w' → U (vf G mX12_laysGroup (d + 1)) 2 [some (.ref 44), some (.int l1), none] [] w (none, 70, r0, w')) : ∀ (n : Nat) (l1 : Int32) (l2 : Int32) (w : Wd) (w' : Wd), f_X12_laysGroup_L12 k2 n l1 l2 w = some w' → U (vf G mX12_laysGroup (d + 1)) 12 [some (.ref 44), some (.int l1), some (.int l2)] [] w (none, 70, r0, w') := by
  intro n
  induction n with
  | zero => intro l1 l2 w w' h; cases h
  | succ n h12 =>
    intro l1 l2 w w' h
    have h : f_X12_laysGroup_B12b k2 (f_X12_laysGroup_L12 k2 n) l1 l2 w = some w' := h
    unfold f_X12_laysGroup_B12b at h
    refine V.iload_n (pc := 12) dX12_laysGroup_12 rfl ?_
    refine V.aload_n (pc := 13) dX12_laysGroup_13 rfl ?_
    refine V.getI (pc := 14) dX12_laysGroup_14 f_RX12_92 k_cl12 lx_44 ly_44 rb_12_1 ?_
    rcases ite_e h with ⟨c, h⟩ | ⟨c, h⟩
    · refine V.icmp_ge_t (t := 43) (pc := 17) dX12_laysGroup_17 (by decide) c ?_
      refine V.iinc (lv' := [some (.ref 44), some (.int (l1 + 1)), some (.int l2)]) (pc := 43) dX12_laysGroup_43 (Nat.le_of_ble_eq_true rfl) rfl rfl (v := (l1 + 1)) (by rw [show Int32.ofInt 1 = 1 from by decide]) rfl ?_
      refine V.goto (t := 2) (pc := 46) dX12_laysGroup_46 (by decide) ?_
      refine V.weak (lv' := [some (.ref 44), some (.int (l1 + 1)), none]) (And.intro rfl (And.intro rfl trivial)) ?_
      exact h2 (l1 + 1) w _ h
    · refine V.icmp_ge_f (t := 43) (pc := 17) dX12_laysGroup_17 (by decide) c ?_
      refine V.aload_n (pc := 20) dX12_laysGroup_20 rfl ?_
      refine V.getR (t := 47) (pc := 21) dX12_laysGroup_21 f_RX12_20 k_cl12 lx_44 ly_44 rb_12_5 rr_44_5 ?_
      refine V.bipush (pc := 24) dX12_laysGroup_24 bp_16 ?_
      refine V.iload_n (pc := 26) dX12_laysGroup_26 rfl ?_
      refine V.imul (pc := 27) dX12_laysGroup_27 ?_
      refine V.iload_n (pc := 28) dX12_laysGroup_28 rfl ?_
      refine V.iadd (pc := 29) dX12_laysGroup_29 ?_
      refine V.aload_n (pc := 30) dX12_laysGroup_30 rfl ?_
      refine V.iload_n (pc := 31) dX12_laysGroup_31 rfl ?_
      refine V.iload_n (pc := 32) dX12_laysGroup_32 rfl ?_
      obtain ⟨x1, ex1, h⟩ := bnd_e h
      refine U.callV (pc := 33) (As := [.int l1, .int l2]) (st := [.int ((16 * l1) + l2), .ref 47]) dX12_laysGroup_33 l_RX12_116 (ok_X12_productBy (by omega) l1 l2 ex1) lx_44 ly_44 cn_12 (Nat.le_of_ble_eq_true rfl) rfl rfl (Nat.le_of_ble_eq_true rfl) ?_
      obtain ⟨w2, iw2, ew2, h⟩ := wrI_e h
      refine V.iastX (pc := 36) dX12_laysGroup_36 lx_47 ly_47 iw2 ew2 ?_
      refine V.iinc (lv' := [some (.ref 44), some (.int l1), some (.int (l2 + 1))]) (pc := 37) dX12_laysGroup_37 (Nat.le_of_ble_eq_true rfl) rfl rfl (v := (l2 + 1)) (by rw [show Int32.ofInt 1 = 1 from by decide]) rfl ?_
      refine V.goto (t := 12) (pc := 40) dX12_laysGroup_40 (by decide) ?_
      exact h12 l1 (l2 + 1) w2 _ h
def f_X12_laysGroup_B2b (k2 : Int32 → Wd → Option Wd) (l1 : Int32) (w : Wd) : Option Wd :=
  if (w.1 44 1) ≤ l1 then
    f_X12_laysGroup_L51  FU 0 w
  else
    f_X12_laysGroup_L12 k2 FU l1 0 w
def f_X12_laysGroup_L2 (n : Nat) : Int32 → Wd → Option Wd :=
  Nat.rec (fun _ _ => none) (fun _ k => f_X12_laysGroup_B2b k) n
set_option maxHeartbeats 4000000 in
set_option maxRecDepth 100000 in
theorem t_X12_laysGroup_L2 {G : GT} {d : Nat} (hd : 3 ≤ d + 1)  : ∀ (n : Nat) (l1 : Int32) (w : Wd) (w' : Wd), f_X12_laysGroup_L2 n l1 w = some w' → U (vf G mX12_laysGroup (d + 1)) 2 [some (.ref 44), some (.int l1), none] [] w (none, 70, r0, w') := by
  intro n
  induction n with
  | zero => intro l1 w w' h; cases h
  | succ n h2 =>
    intro l1 w w' h
    have h : f_X12_laysGroup_B2b (f_X12_laysGroup_L2 n) l1 w = some w' := h
    unfold f_X12_laysGroup_B2b at h
    refine V.iload_n (pc := 2) dX12_laysGroup_2 rfl ?_
    refine V.aload_n (pc := 3) dX12_laysGroup_3 rfl ?_
    refine V.getI (pc := 4) dX12_laysGroup_4 f_RX12_92 k_cl12 lx_44 ly_44 rb_12_1 ?_
    rcases ite_e h with ⟨c, h⟩ | ⟨c, h⟩
    · refine V.icmp_ge_t (t := 49) (pc := 7) dX12_laysGroup_7 (by decide) c ?_
      refine V.iconst (pc := 49) dX12_laysGroup_49 ic_0 ?_
      refine V.istore_n (lv' := [some (.ref 44), some (.int 0), none]) (pc := 50) dX12_laysGroup_50 (Nat.le_of_ble_eq_true rfl) rfl rfl ?_
      exact t_X12_laysGroup_L51 hd FU 0 w _ h
    · refine V.icmp_ge_f (t := 49) (pc := 7) dX12_laysGroup_7 (by decide) c ?_
      refine V.iconst (pc := 10) dX12_laysGroup_10 ic_0 ?_
      refine V.istore_n (lv' := [some (.ref 44), some (.int l1), some (.int 0)]) (pc := 11) dX12_laysGroup_11 (Nat.le_of_ble_eq_true rfl) rfl rfl ?_
      exact t_X12_laysGroup_L12 hd h2 FU l1 0 w _ h
def f_X12_laysGroup (w : Wd) : Option Wd :=
  f_X12_laysGroup_L2  FU 0 w
set_option maxHeartbeats 4000000 in
set_option maxRecDepth 100000 in
theorem ok_X12_laysGroup {G : GT} {d : Nat} (hd : 3 ≤ d) {w : Wd}  {w' : Wd} (h : f_X12_laysGroup  w = some w') : uC G yX12_laysGroup mX12_laysGroup d [.ref 44] w none w' := by
  obtain ⟨d, rfl⟩ : ∃ e, d = e + 1 := ⟨d - 1, by omega⟩
  unfold f_X12_laysGroup at h
  refine uC_of (lv := [some (.ref 44), none, none]) 2 pn_X12 ⟨rfl, rfl⟩ (Nat.le_of_ble_eq_true rfl) rfl ?_
  refine V.iconst (pc := 0) dX12_laysGroup_0 ic_0 ?_
  refine V.istore_n (lv' := [some (.ref 44), some (.int 0), none]) (pc := 1) dX12_laysGroup_1 (Nat.le_of_ble_eq_true rfl) rfl rfl ?_
  exact t_X12_laysGroup_L2 hd FU 0 w _ h
theorem dX12_startsRow_0 : decode cX12_startsRow 0 = .ok (.iconst 0, 1) := by decide +kernel
theorem dX12_startsRow_1 : decode cX12_startsRow 1 = .ok (.istore_n 2, 1) := by decide +kernel
theorem dX12_startsRow_2 : decode cX12_startsRow 2 = .ok (.iload_n 2, 1) := by decide +kernel
theorem dX12_startsRow_3 : decode cX12_startsRow 3 = .ok (.bipush 20, 2) := by decide +kernel
theorem dX12_startsRow_5 : decode cX12_startsRow 5 = .ok (.if_icmp .ge 25, 3) := by decide +kernel
theorem dX12_startsRow_8 : decode cX12_startsRow 8 = .ok (.aload_n 0, 1) := by decide +kernel
theorem dX12_startsRow_9 : decode cX12_startsRow 9 = .ok (.getfield 42, 3) := by decide +kernel
theorem dX12_startsRow_12 : decode cX12_startsRow 12 = .ok (.iload_n 2, 1) := by decide +kernel
theorem dX12_startsRow_13 : decode cX12_startsRow 13 = .ok (.iload_n 2, 1) := by decide +kernel
theorem dX12_startsRow_14 : decode cX12_startsRow 14 = .ok (.iconst 4, 1) := by decide +kernel
theorem dX12_startsRow_15 : decode cX12_startsRow 15 = .ok (.if_icmp .ge 7, 3) := by decide +kernel
theorem dX12_startsRow_18 : decode cX12_startsRow 18 = .ok (.iconst 0, 1) := by decide +kernel
theorem dX12_startsRow_19 : decode cX12_startsRow 19 = .ok (.goto 4, 3) := by decide +kernel
theorem dX12_startsRow_22 : decode cX12_startsRow 22 = .ok (.iconst 1, 1) := by decide +kernel
theorem dX12_startsRow_23 : decode cX12_startsRow 23 = .ok (.iastore, 1) := by decide +kernel
theorem dX12_startsRow_24 : decode cX12_startsRow 24 = .ok (.iinc 2 1, 3) := by decide +kernel
theorem dX12_startsRow_27 : decode cX12_startsRow 27 = .ok (.goto (-25), 3) := by decide +kernel
theorem dX12_startsRow_30 : decode cX12_startsRow 30 = .ok (.aload_n 0, 1) := by decide +kernel
theorem dX12_startsRow_31 : decode cX12_startsRow 31 = .ok (.getfield 42, 3) := by decide +kernel
theorem dX12_startsRow_34 : decode cX12_startsRow 34 = .ok (.iconst 0, 1) := by decide +kernel
theorem dX12_startsRow_35 : decode cX12_startsRow 35 = .ok (.iload_n 1, 1) := by decide +kernel
theorem dX12_startsRow_36 : decode cX12_startsRow 36 = .ok (.iastore, 1) := by decide +kernel
theorem dX12_startsRow_37 : decode cX12_startsRow 37 = .ok (.return_, 1) := by decide +kernel
def f_X12_startsRow_B2b (k2 : Int32 → Int32 → Wd → Option Wd) (l1 : Int32) (l2 : Int32) (w : Wd) : Option Wd :=
  if 20 ≤ l2 then
    wrI w 54 20 0 l1 fun w1 =>
    some w1
  else
    if 4 ≤ l2 then
      wrI w 54 20 l2 1 fun w2 =>
      k2 l1 (l2 + 1) w2
    else
      wrI w 54 20 l2 0 fun w3 =>
      k2 l1 (l2 + 1) w3
def f_X12_startsRow_L2 (n : Nat) : Int32 → Int32 → Wd → Option Wd :=
  Nat.rec (fun _ _ _ => none) (fun _ k => f_X12_startsRow_B2b k) n
set_option maxHeartbeats 4000000 in
set_option maxRecDepth 100000 in
theorem t_X12_startsRow_L2 {G : GT} {d : Nat} (hd : 0 ≤ d)  : ∀ (n : Nat) (l1 : Int32) (l2 : Int32) (w : Wd) (w' : Wd), f_X12_startsRow_L2 n l1 l2 w = some w' → U (vf G mX12_startsRow d) 2 [some (.ref 44), some (.int l1), some (.int l2)] [] w (none, 70, r0, w') := by
  intro n
  induction n with
  | zero => intro l1 l2 w w' h; cases h
  | succ n h2 =>
    intro l1 l2 w w' h
    have h : f_X12_startsRow_B2b (f_X12_startsRow_L2 n) l1 l2 w = some w' := h
    unfold f_X12_startsRow_B2b at h
    refine V.iload_n (pc := 2) dX12_startsRow_2 rfl ?_
    refine V.bipush (pc := 3) dX12_startsRow_3 bp_20 ?_
    rcases ite_e h with ⟨c, h⟩ | ⟨c, h⟩
    · refine V.icmp_ge_t (t := 30) (pc := 5) dX12_startsRow_5 (by decide) c ?_
      refine V.aload_n (pc := 30) dX12_startsRow_30 rfl ?_
      refine V.getR (t := 54) (pc := 31) dX12_startsRow_31 f_RX12_42 k_cl12 lx_44 ly_44 rb_12_13 rr_44_13 ?_
      refine V.iconst (pc := 34) dX12_startsRow_34 ic_0 ?_
      refine V.iload_n (pc := 35) dX12_startsRow_35 rfl ?_
      obtain ⟨w1, iw1, ew1, h⟩ := wrI_e h
      refine V.iastX (pc := 36) dX12_startsRow_36 lx_54 ly_54 iw1 ew1 ?_
      obtain rfl := Option.some.inj h
      exact V.vret (pc := 37) dX12_startsRow_37 rfl (Nat.le_refl _) (Nat.le_refl _)
    · refine V.icmp_ge_f (t := 30) (pc := 5) dX12_startsRow_5 (by decide) c ?_
      refine V.aload_n (pc := 8) dX12_startsRow_8 rfl ?_
      refine V.getR (t := 54) (pc := 9) dX12_startsRow_9 f_RX12_42 k_cl12 lx_44 ly_44 rb_12_13 rr_44_13 ?_
      refine V.iload_n (pc := 12) dX12_startsRow_12 rfl ?_
      refine V.iload_n (pc := 13) dX12_startsRow_13 rfl ?_
      refine V.iconst (pc := 14) dX12_startsRow_14 ic_4 ?_
      rcases ite_e h with ⟨c, h⟩ | ⟨c, h⟩
      · refine V.icmp_ge_t (t := 22) (pc := 15) dX12_startsRow_15 (by decide) c ?_
        refine V.iconst (pc := 22) dX12_startsRow_22 ic_1 ?_
        obtain ⟨w2, iw2, ew2, h⟩ := wrI_e h
        refine V.iastX (pc := 23) dX12_startsRow_23 lx_54 ly_54 iw2 ew2 ?_
        refine V.iinc (lv' := [some (.ref 44), some (.int l1), some (.int (l2 + 1))]) (pc := 24) dX12_startsRow_24 (Nat.le_of_ble_eq_true rfl) rfl rfl (v := (l2 + 1)) (by rw [show Int32.ofInt 1 = 1 from by decide]) rfl ?_
        refine V.goto (t := 2) (pc := 27) dX12_startsRow_27 (by decide) ?_
        exact h2 l1 (l2 + 1) w2 _ h
      · refine V.icmp_ge_f (t := 22) (pc := 15) dX12_startsRow_15 (by decide) c ?_
        refine V.iconst (pc := 18) dX12_startsRow_18 ic_0 ?_
        refine V.goto (t := 23) (pc := 19) dX12_startsRow_19 (by decide) ?_
        obtain ⟨w3, iw3, ew3, h⟩ := wrI_e h
        refine V.iastX (pc := 23) dX12_startsRow_23 lx_54 ly_54 iw3 ew3 ?_
        refine V.iinc (lv' := [some (.ref 44), some (.int l1), some (.int (l2 + 1))]) (pc := 24) dX12_startsRow_24 (Nat.le_of_ble_eq_true rfl) rfl rfl (v := (l2 + 1)) (by rw [show Int32.ofInt 1 = 1 from by decide]) rfl ?_
        refine V.goto (t := 2) (pc := 27) dX12_startsRow_27 (by decide) ?_
        exact h2 l1 (l2 + 1) w3 _ h
def f_X12_startsRow (l1 : Int32) (w : Wd) : Option Wd :=
  f_X12_startsRow_L2  FU l1 0 w
set_option maxHeartbeats 4000000 in
set_option maxRecDepth 100000 in
theorem ok_X12_startsRow {G : GT} {d : Nat} (hd : 0 ≤ d) {w : Wd} (l1 : Int32) {w' : Wd} (h : f_X12_startsRow l1 w = some w') : uC G yX12_startsRow mX12_startsRow d [.ref 44, .int l1] w none w' := by
  unfold f_X12_startsRow at h
  refine uC_of (lv := [some (.ref 44), some (.int l1), none]) 1 pn_X12 ⟨rfl, rfl⟩ (Nat.le_of_ble_eq_true rfl) rfl ?_
  refine V.iconst (pc := 0) dX12_startsRow_0 ic_0 ?_
  refine V.istore_n (lv' := [some (.ref 44), some (.int l1), some (.int 0)]) (pc := 1) dX12_startsRow_1 (Nat.le_of_ble_eq_true rfl) rfl rfl ?_
  exact t_X12_startsRow_L2 hd FU l1 0 w _ h
theorem dX9_addFour_0 : decode cX9_addFour 0 = .ok (.bipush 24, 2) := by decide +kernel
theorem dX9_addFour_2 : decode cX9_addFour 2 = .ok (.istore_n 2, 1) := by decide +kernel
theorem dX9_addFour_3 : decode cX9_addFour 3 = .ok (.iload_n 2, 1) := by decide +kernel
theorem dX9_addFour_4 : decode cX9_addFour 4 = .ok (.ifCond .lt 49, 3) := by decide +kernel
theorem dX9_addFour_7 : decode cX9_addFour 7 = .ok (.aload_n 0, 1) := by decide +kernel
theorem dX9_addFour_8 : decode cX9_addFour 8 = .ok (.getfield 15, 3) := by decide +kernel
theorem dX9_addFour_11 : decode cX9_addFour 11 = .ok (.ifCond .lt 36, 3) := by decide +kernel
theorem dX9_addFour_14 : decode cX9_addFour 14 = .ok (.aload_n 0, 1) := by decide +kernel
theorem dX9_addFour_15 : decode cX9_addFour 15 = .ok (.getfield 15, 3) := by decide +kernel
theorem dX9_addFour_18 : decode cX9_addFour 18 = .ok (.sipush 200, 3) := by decide +kernel
theorem dX9_addFour_21 : decode cX9_addFour 21 = .ok (.if_icmp .ge 26, 3) := by decide +kernel
theorem dX9_addFour_24 : decode cX9_addFour 24 = .ok (.aload_n 0, 1) := by decide +kernel
theorem dX9_addFour_25 : decode cX9_addFour 25 = .ok (.getfield 11, 3) := by decide +kernel
theorem dX9_addFour_28 : decode cX9_addFour 28 = .ok (.aload_n 0, 1) := by decide +kernel
theorem dX9_addFour_29 : decode cX9_addFour 29 = .ok (.dup, 1) := by decide +kernel
theorem dX9_addFour_30 : decode cX9_addFour 30 = .ok (.getfield 15, 3) := by decide +kernel
theorem dX9_addFour_33 : decode cX9_addFour 33 = .ok (.dup_x1, 1) := by decide +kernel
theorem dX9_addFour_34 : decode cX9_addFour 34 = .ok (.iconst 1, 1) := by decide +kernel
theorem dX9_addFour_35 : decode cX9_addFour 35 = .ok (.iadd, 1) := by decide +kernel
theorem dX9_addFour_36 : decode cX9_addFour 36 = .ok (.putfield 15, 3) := by decide +kernel
theorem dX9_addFour_39 : decode cX9_addFour 39 = .ok (.iload_n 1, 1) := by decide +kernel
theorem dX9_addFour_40 : decode cX9_addFour 40 = .ok (.iload_n 2, 1) := by decide +kernel
theorem dX9_addFour_41 : decode cX9_addFour 41 = .ok (.iushr, 1) := by decide +kernel
theorem dX9_addFour_42 : decode cX9_addFour 42 = .ok (.sipush 255, 3) := by decide +kernel
theorem dX9_addFour_45 : decode cX9_addFour 45 = .ok (.iand, 1) := by decide +kernel
theorem dX9_addFour_46 : decode cX9_addFour 46 = .ok (.iastore, 1) := by decide +kernel
theorem dX9_addFour_47 : decode cX9_addFour 47 = .ok (.iinc 2 (-8), 3) := by decide +kernel
theorem dX9_addFour_50 : decode cX9_addFour 50 = .ok (.goto (-47), 3) := by decide +kernel
theorem dX9_addFour_53 : decode cX9_addFour 53 = .ok (.return_, 1) := by decide +kernel
def f_X9_addFour_B3b (k3 : Int32 → Int32 → Wd → Option Wd) (l1 : Int32) (l2 : Int32) (w : Wd) : Option Wd :=
  if l2 < 0 then
    some w
  else
    if (w.1 1 1) < 0 then
      k3 l1 (l2 + (-8)) w
    else
      if 200 ≤ (w.1 1 1) then
        k3 l1 (l2 + (-8)) w
      else
        letW (sI w 1 1 ((w.1 1 1) + 1)) fun w1 =>
        wrI w1 2 200 (w.1 1 1) (((l1.toUInt32 >>> (l2.toUInt32 &&& Int32.toUInt32 31)).toInt32) &&& 255) fun w2 =>
        k3 l1 (l2 + (-8)) w2
def f_X9_addFour_L3 (n : Nat) : Int32 → Int32 → Wd → Option Wd :=
  Nat.rec (fun _ _ _ => none) (fun _ k => f_X9_addFour_B3b k) n
set_option maxHeartbeats 4000000 in
set_option maxRecDepth 100000 in
theorem t_X9_addFour_L3 {G : GT} {d : Nat} (hd : 0 ≤ d)  : ∀ (n : Nat) (l1 : Int32) (l2 : Int32) (w : Wd) (w' : Wd), f_X9_addFour_L3 n l1 l2 w = some w' → U (vf G mX9_addFour d) 3 [some (.ref 1), some (.int l1), some (.int l2)] [] w (none, 70, r0, w') := by
  intro n
  induction n with
  | zero => intro l1 l2 w w' h; cases h
  | succ n h3 =>
    intro l1 l2 w w' h
    have h : f_X9_addFour_B3b (f_X9_addFour_L3 n) l1 l2 w = some w' := h
    unfold f_X9_addFour_B3b at h
    refine V.iload_n (pc := 3) dX9_addFour_3 rfl ?_
    rcases ite_e h with ⟨c, h⟩ | ⟨c, h⟩
    · refine V.if_lt_t (t := 53) (pc := 4) dX9_addFour_4 (by decide) c ?_
      obtain rfl := Option.some.inj h
      exact V.vret (pc := 53) dX9_addFour_53 rfl (Nat.le_refl _) (Nat.le_refl _)
    · refine V.if_lt_f (t := 53) (pc := 4) dX9_addFour_4 (by decide) c ?_
      refine V.aload_n (pc := 7) dX9_addFour_7 rfl ?_
      refine V.getI (pc := 8) dX9_addFour_8 f_RX9_15 k_cl9 lx_1 ly_1 rb_9_1 ?_
      rcases ite_e h with ⟨c, h⟩ | ⟨c, h⟩
      · refine V.if_lt_t (t := 47) (pc := 11) dX9_addFour_11 (by decide) c ?_
        refine V.iinc (lv' := [some (.ref 1), some (.int l1), some (.int (l2 + (-8)))]) (pc := 47) dX9_addFour_47 (Nat.le_of_ble_eq_true rfl) rfl rfl (v := (l2 + (-8))) (by rw [show Int32.ofInt (-8) = (-8) from by decide]) rfl ?_
        refine V.goto (t := 3) (pc := 50) dX9_addFour_50 (by decide) ?_
        exact h3 l1 (l2 + (-8)) w _ h
      · refine V.if_lt_f (t := 47) (pc := 11) dX9_addFour_11 (by decide) c ?_
        refine V.aload_n (pc := 14) dX9_addFour_14 rfl ?_
        refine V.getI (pc := 15) dX9_addFour_15 f_RX9_15 k_cl9 lx_1 ly_1 rb_9_1 ?_
        refine V.sipush (pc := 18) dX9_addFour_18 sp_200 ?_
        rcases ite_e h with ⟨c, h⟩ | ⟨c, h⟩
        · refine V.icmp_ge_t (t := 47) (pc := 21) dX9_addFour_21 (by decide) c ?_
          refine V.iinc (lv' := [some (.ref 1), some (.int l1), some (.int (l2 + (-8)))]) (pc := 47) dX9_addFour_47 (Nat.le_of_ble_eq_true rfl) rfl rfl (v := (l2 + (-8))) (by rw [show Int32.ofInt (-8) = (-8) from by decide]) rfl ?_
          refine V.goto (t := 3) (pc := 50) dX9_addFour_50 (by decide) ?_
          exact h3 l1 (l2 + (-8)) w _ h
        · refine V.icmp_ge_f (t := 47) (pc := 21) dX9_addFour_21 (by decide) c ?_
          refine V.aload_n (pc := 24) dX9_addFour_24 rfl ?_
          refine V.getR (t := 2) (pc := 25) dX9_addFour_25 f_RX9_11 k_cl9 lx_1 ly_1 rb_9_0 rr_1_0 ?_
          refine V.aload_n (pc := 28) dX9_addFour_28 rfl ?_
          refine V.dup (pc := 29) dX9_addFour_29 rfl ?_
          refine V.getI (pc := 30) dX9_addFour_30 f_RX9_15 k_cl9 lx_1 ly_1 rb_9_1 ?_
          refine V.dup_x1 (pc := 33) dX9_addFour_33 rfl rfl ?_
          refine V.iconst (pc := 34) dX9_addFour_34 ic_1 ?_
          refine V.iadd (pc := 35) dX9_addFour_35 ?_
          obtain ⟨w1, ew1, h⟩ := letW_e h
          refine V.putIX (pc := 36) dX9_addFour_36 f_RX9_15 k_cl9 lx_1 ly_1 rb_9_1 (fin_I (T0 := TX9) rfl rfl rfl) ew1 ?_
          refine V.iload_n (pc := 39) dX9_addFour_39 rfl ?_
          refine V.iload_n (pc := 40) dX9_addFour_40 rfl ?_
          refine V.iushr (pc := 41) dX9_addFour_41 ?_
          refine V.sipush (pc := 42) dX9_addFour_42 sp_255 ?_
          refine V.iand (pc := 45) dX9_addFour_45 ?_
          obtain ⟨w2, iw2, ew2, h⟩ := wrI_e h
          refine V.iastX (pc := 46) dX9_addFour_46 lx_2 ly_2 iw2 ew2 ?_
          refine V.iinc (lv' := [some (.ref 1), some (.int l1), some (.int (l2 + (-8)))]) (pc := 47) dX9_addFour_47 (Nat.le_of_ble_eq_true rfl) rfl rfl (v := (l2 + (-8))) (by rw [show Int32.ofInt (-8) = (-8) from by decide]) rfl ?_
          refine V.goto (t := 3) (pc := 50) dX9_addFour_50 (by decide) ?_
          exact h3 l1 (l2 + (-8)) w2 _ h
def f_X9_addFour (l1 : Int32) (w : Wd) : Option Wd :=
  f_X9_addFour_L3  FU l1 24 w
set_option maxHeartbeats 4000000 in
set_option maxRecDepth 100000 in
theorem ok_X9_addFour {G : GT} {d : Nat} (hd : 0 ≤ d) {w : Wd} (l1 : Int32) {w' : Wd} (h : f_X9_addFour l1 w = some w') : uC G yX9_addFour mX9_addFour d [.ref 1, .int l1] w none w' := by
  unfold f_X9_addFour at h
  refine uC_of (lv := [some (.ref 1), some (.int l1), none]) 1 pn_X9 ⟨rfl, rfl⟩ (Nat.le_of_ble_eq_true rfl) rfl ?_
  refine V.bipush (pc := 0) dX9_addFour_0 bp_24 ?_
  refine V.istore_n (lv' := [some (.ref 1), some (.int l1), some (.int 24)]) (pc := 2) dX9_addFour_2 (Nat.le_of_ble_eq_true rfl) rfl rfl ?_
  exact t_X9_addFour_L3 hd FU l1 24 w _ h
theorem dX11_feed_0 : decode cX11_feed 0 = .ok (.aload_n 0, 1) := by decide +kernel
theorem dX11_feed_1 : decode cX11_feed 1 = .ok (.getfield 10, 3) := by decide +kernel
theorem dX11_feed_4 : decode cX11_feed 4 = .ok (.getfield 92, 3) := by decide +kernel
theorem dX11_feed_7 : decode cX11_feed 7 = .ok (.bipush 20, 2) := by decide +kernel
theorem dX11_feed_9 : decode cX11_feed 9 = .ok (.iadd, 1) := by decide +kernel
theorem dX11_feed_10 : decode cX11_feed 10 = .ok (.sipush 200, 3) := by decide +kernel
theorem dX11_feed_13 : decode cX11_feed 13 = .ok (.if_icmp .le 5, 3) := by decide +kernel
theorem dX11_feed_16 : decode cX11_feed 16 = .ok (.iconst (-1), 1) := by decide +kernel
theorem dX11_feed_17 : decode cX11_feed 17 = .ok (.ireturn, 1) := by decide +kernel
theorem dX11_feed_18 : decode cX11_feed 18 = .ok (.aload_n 0, 1) := by decide +kernel
theorem dX11_feed_19 : decode cX11_feed 19 = .ok (.getfield 10, 3) := by decide +kernel
theorem dX11_feed_22 : decode cX11_feed 22 = .ok (.iload_n 1, 1) := by decide +kernel
theorem dX11_feed_23 : decode cX11_feed 23 = .ok (.invokevirtual 96, 3) := by decide +kernel
theorem dX11_feed_26 : decode cX11_feed 26 = .ok (.aload_n 0, 1) := by decide +kernel
theorem dX11_feed_27 : decode cX11_feed 27 = .ok (.getfield 10, 3) := by decide +kernel
theorem dX11_feed_30 : decode cX11_feed 30 = .ok (.iload_n 2, 1) := by decide +kernel
theorem dX11_feed_31 : decode cX11_feed 31 = .ok (.invokevirtual 96, 3) := by decide +kernel
theorem dX11_feed_34 : decode cX11_feed 34 = .ok (.aload_n 0, 1) := by decide +kernel
theorem dX11_feed_35 : decode cX11_feed 35 = .ok (.getfield 10, 3) := by decide +kernel
theorem dX11_feed_38 : decode cX11_feed 38 = .ok (.iload_n 3, 1) := by decide +kernel
theorem dX11_feed_39 : decode cX11_feed 39 = .ok (.invokevirtual 96, 3) := by decide +kernel
theorem dX11_feed_42 : decode cX11_feed 42 = .ok (.aload_n 0, 1) := by decide +kernel
theorem dX11_feed_43 : decode cX11_feed 43 = .ok (.getfield 10, 3) := by decide +kernel
theorem dX11_feed_46 : decode cX11_feed 46 = .ok (.iload 4, 2) := by decide +kernel
theorem dX11_feed_48 : decode cX11_feed 48 = .ok (.invokevirtual 96, 3) := by decide +kernel
theorem dX11_feed_51 : decode cX11_feed 51 = .ok (.aload_n 0, 1) := by decide +kernel
theorem dX11_feed_52 : decode cX11_feed 52 = .ok (.getfield 10, 3) := by decide +kernel
theorem dX11_feed_55 : decode cX11_feed 55 = .ok (.iload 5, 2) := by decide +kernel
theorem dX11_feed_57 : decode cX11_feed 57 = .ok (.invokevirtual 96, 3) := by decide +kernel
theorem dX11_feed_60 : decode cX11_feed 60 = .ok (.aload_n 0, 1) := by decide +kernel
theorem dX11_feed_61 : decode cX11_feed 61 = .ok (.getfield 10, 3) := by decide +kernel
theorem dX11_feed_64 : decode cX11_feed 64 = .ok (.getfield 92, 3) := by decide +kernel
theorem dX11_feed_67 : decode cX11_feed 67 = .ok (.ireturn, 1) := by decide +kernel
def f_X11_feed (l1 : Int32) (l2 : Int32) (l3 : Int32) (l4 : Int32) (l5 : Int32) (w : Wd) : Option (Int32 × Wd) :=
  if ((w.1 1 1) + 20) ≤ 200 then
    bnd (f_X9_addFour l1 w) fun w1 =>
    bnd (f_X9_addFour l2 w1) fun w2 =>
    bnd (f_X9_addFour l3 w2) fun w3 =>
    bnd (f_X9_addFour l4 w3) fun w4 =>
    bnd (f_X9_addFour l5 w4) fun w5 =>
    some ((w5.1 1 1), w5)
  else
    some ((-1), w)
set_option maxHeartbeats 4000000 in
set_option maxRecDepth 100000 in
theorem ok_X11_feed {G : GT} {d : Nat} (hd : 1 ≤ d) {w : Wd} (l1 : Int32) (l2 : Int32) (l3 : Int32) (l4 : Int32) (l5 : Int32) {r : Int32} {w' : Wd} (h : f_X11_feed l1 l2 l3 l4 l5 w = some (r, w')) : uC G yX11_feed mX11_feed d [.ref 0, .int l1, .int l2, .int l3, .int l4, .int l5] w (some (.int r)) w' := by
  obtain ⟨d, rfl⟩ : ∃ e, d = e + 1 := ⟨d - 1, by omega⟩
  unfold f_X11_feed at h
  refine uC_of (lv := [some (.ref 0), some (.int l1), some (.int l2), some (.int l3), some (.int l4), some (.int l5)]) 0 pn_X11 ⟨rfl, rfl⟩ (Nat.le_of_ble_eq_true rfl) rfl ?_
  refine V.aload_n (pc := 0) dX11_feed_0 rfl ?_
  refine V.getR (t := 1) (pc := 1) dX11_feed_1 f_RX11_10 k_cl11 lx_0 ly_0 rb_11_0 rr_0_0 ?_
  refine V.getI (pc := 4) dX11_feed_4 f_RX11_92 k_cl9 lx_1 ly_1 rb_9_1 ?_
  refine V.bipush (pc := 7) dX11_feed_7 bp_20 ?_
  refine V.iadd (pc := 9) dX11_feed_9 ?_
  refine V.sipush (pc := 10) dX11_feed_10 sp_200 ?_
  rcases ite_e h with ⟨c, h⟩ | ⟨c, h⟩
  · refine V.icmp_le_t (t := 18) (pc := 13) dX11_feed_13 (by decide) c ?_
    refine V.aload_n (pc := 18) dX11_feed_18 rfl ?_
    refine V.getR (t := 1) (pc := 19) dX11_feed_19 f_RX11_10 k_cl11 lx_0 ly_0 rb_11_0 rr_0_0 ?_
    refine V.iload_n (pc := 22) dX11_feed_22 rfl ?_
    obtain ⟨w1, ew1, h⟩ := bnd_e h
    refine U.callV (pc := 23) (As := [.int l1]) (st := []) dX11_feed_23 l_RX11_96 (ok_X9_addFour (by omega) l1 ew1) lx_1 ly_1 cn_9 (Nat.le_of_ble_eq_true rfl) rfl rfl (Nat.le_of_ble_eq_true rfl) ?_
    refine V.aload_n (pc := 26) dX11_feed_26 rfl ?_
    refine V.getR (t := 1) (pc := 27) dX11_feed_27 f_RX11_10 k_cl11 lx_0 ly_0 rb_11_0 rr_0_0 ?_
    refine V.iload_n (pc := 30) dX11_feed_30 rfl ?_
    obtain ⟨w2, ew2, h⟩ := bnd_e h
    refine U.callV (pc := 31) (As := [.int l2]) (st := []) dX11_feed_31 l_RX11_96 (ok_X9_addFour (by omega) l2 ew2) lx_1 ly_1 cn_9 (Nat.le_of_ble_eq_true rfl) rfl rfl (Nat.le_of_ble_eq_true rfl) ?_
    refine V.aload_n (pc := 34) dX11_feed_34 rfl ?_
    refine V.getR (t := 1) (pc := 35) dX11_feed_35 f_RX11_10 k_cl11 lx_0 ly_0 rb_11_0 rr_0_0 ?_
    refine V.iload_n (pc := 38) dX11_feed_38 rfl ?_
    obtain ⟨w3, ew3, h⟩ := bnd_e h
    refine U.callV (pc := 39) (As := [.int l3]) (st := []) dX11_feed_39 l_RX11_96 (ok_X9_addFour (by omega) l3 ew3) lx_1 ly_1 cn_9 (Nat.le_of_ble_eq_true rfl) rfl rfl (Nat.le_of_ble_eq_true rfl) ?_
    refine V.aload_n (pc := 42) dX11_feed_42 rfl ?_
    refine V.getR (t := 1) (pc := 43) dX11_feed_43 f_RX11_10 k_cl11 lx_0 ly_0 rb_11_0 rr_0_0 ?_
    refine V.iload (pc := 46) dX11_feed_46 rfl ?_
    obtain ⟨w4, ew4, h⟩ := bnd_e h
    refine U.callV (pc := 48) (As := [.int l4]) (st := []) dX11_feed_48 l_RX11_96 (ok_X9_addFour (by omega) l4 ew4) lx_1 ly_1 cn_9 (Nat.le_of_ble_eq_true rfl) rfl rfl (Nat.le_of_ble_eq_true rfl) ?_
    refine V.aload_n (pc := 51) dX11_feed_51 rfl ?_
    refine V.getR (t := 1) (pc := 52) dX11_feed_52 f_RX11_10 k_cl11 lx_0 ly_0 rb_11_0 rr_0_0 ?_
    refine V.iload (pc := 55) dX11_feed_55 rfl ?_
    obtain ⟨w5, ew5, h⟩ := bnd_e h
    refine U.callV (pc := 57) (As := [.int l5]) (st := []) dX11_feed_57 l_RX11_96 (ok_X9_addFour (by omega) l5 ew5) lx_1 ly_1 cn_9 (Nat.le_of_ble_eq_true rfl) rfl rfl (Nat.le_of_ble_eq_true rfl) ?_
    refine V.aload_n (pc := 60) dX11_feed_60 rfl ?_
    refine V.getR (t := 1) (pc := 61) dX11_feed_61 f_RX11_10 k_cl11 lx_0 ly_0 rb_11_0 rr_0_0 ?_
    refine V.getI (pc := 64) dX11_feed_64 f_RX11_92 k_cl9 lx_1 ly_1 rb_9_1 ?_
    obtain ⟨rfl, rfl⟩ := Prod.mk.inj (Option.some.inj h)
    exact V.iret (pc := 67) dX11_feed_67 rfl (Nat.le_refl _) (Nat.le_refl _)
  · refine V.icmp_le_f (t := 18) (pc := 13) dX11_feed_13 (by decide) c ?_
    refine V.iconst (pc := 16) dX11_feed_16 ic_m1 ?_
    obtain ⟨rfl, rfl⟩ := Prod.mk.inj (Option.some.inj h)
    exact V.iret (pc := 17) dX11_feed_17 rfl (Nat.le_refl _) (Nat.le_refl _)
theorem dX12_feed_0 : decode cX12_feed 0 = .ok (.aload_n 0, 1) := by decide +kernel
theorem dX12_feed_1 : decode cX12_feed 1 = .ok (.getfield 286, 3) := by decide +kernel
theorem dX12_feed_4 : decode cX12_feed 4 = .ok (.bipush 20, 2) := by decide +kernel
theorem dX12_feed_6 : decode cX12_feed 6 = .ok (.iadd, 1) := by decide +kernel
theorem dX12_feed_7 : decode cX12_feed 7 = .ok (.sipush 200, 3) := by decide +kernel
theorem dX12_feed_10 : decode cX12_feed 10 = .ok (.if_icmp .le 5, 3) := by decide +kernel
theorem dX12_feed_13 : decode cX12_feed 13 = .ok (.iconst (-1), 1) := by decide +kernel
theorem dX12_feed_14 : decode cX12_feed 14 = .ok (.ireturn, 1) := by decide +kernel
theorem dX12_feed_15 : decode cX12_feed 15 = .ok (.iconst 0, 1) := by decide +kernel
theorem dX12_feed_16 : decode cX12_feed 16 = .ok (.istore 6, 2) := by decide +kernel
theorem dX12_feed_18 : decode cX12_feed 18 = .ok (.iload 6, 2) := by decide +kernel
theorem dX12_feed_20 : decode cX12_feed 20 = .ok (.bipush 20, 2) := by decide +kernel
theorem dX12_feed_22 : decode cX12_feed 22 = .ok (.if_icmp .ge 93, 3) := by decide +kernel
theorem dX12_feed_25 : decode cX12_feed 25 = .ok (.iload 6, 2) := by decide +kernel
theorem dX12_feed_27 : decode cX12_feed 27 = .ok (.iconst 4, 1) := by decide +kernel
theorem dX12_feed_28 : decode cX12_feed 28 = .ok (.if_icmp .ge 7, 3) := by decide +kernel
theorem dX12_feed_31 : decode cX12_feed 31 = .ok (.iload_n 1, 1) := by decide +kernel
theorem dX12_feed_32 : decode cX12_feed 32 = .ok (.goto 39, 3) := by decide +kernel
theorem dX12_feed_35 : decode cX12_feed 35 = .ok (.iload 6, 2) := by decide +kernel
theorem dX12_feed_37 : decode cX12_feed 37 = .ok (.bipush 8, 2) := by decide +kernel
theorem dX12_feed_39 : decode cX12_feed 39 = .ok (.if_icmp .ge 7, 3) := by decide +kernel
theorem dX12_feed_42 : decode cX12_feed 42 = .ok (.iload_n 2, 1) := by decide +kernel
theorem dX12_feed_43 : decode cX12_feed 43 = .ok (.goto 28, 3) := by decide +kernel
theorem dX12_feed_46 : decode cX12_feed 46 = .ok (.iload 6, 2) := by decide +kernel
theorem dX12_feed_48 : decode cX12_feed 48 = .ok (.bipush 12, 2) := by decide +kernel
theorem dX12_feed_50 : decode cX12_feed 50 = .ok (.if_icmp .ge 7, 3) := by decide +kernel
theorem dX12_feed_53 : decode cX12_feed 53 = .ok (.iload_n 3, 1) := by decide +kernel
theorem dX12_feed_54 : decode cX12_feed 54 = .ok (.goto 17, 3) := by decide +kernel
theorem dX12_feed_57 : decode cX12_feed 57 = .ok (.iload 6, 2) := by decide +kernel
theorem dX12_feed_59 : decode cX12_feed 59 = .ok (.bipush 16, 2) := by decide +kernel
theorem dX12_feed_61 : decode cX12_feed 61 = .ok (.if_icmp .ge 8, 3) := by decide +kernel
theorem dX12_feed_64 : decode cX12_feed 64 = .ok (.iload 4, 2) := by decide +kernel
theorem dX12_feed_66 : decode cX12_feed 66 = .ok (.goto 5, 3) := by decide +kernel
theorem dX12_feed_69 : decode cX12_feed 69 = .ok (.iload 5, 2) := by decide +kernel
theorem dX12_feed_71 : decode cX12_feed 71 = .ok (.istore 7, 2) := by decide +kernel
theorem dX12_feed_73 : decode cX12_feed 73 = .ok (.aload_n 0, 1) := by decide +kernel
theorem dX12_feed_74 : decode cX12_feed 74 = .ok (.getfield 79, 3) := by decide +kernel
theorem dX12_feed_77 : decode cX12_feed 77 = .ok (.aload_n 0, 1) := by decide +kernel
theorem dX12_feed_78 : decode cX12_feed 78 = .ok (.getfield 286, 3) := by decide +kernel
theorem dX12_feed_81 : decode cX12_feed 81 = .ok (.iload 7, 2) := by decide +kernel
theorem dX12_feed_83 : decode cX12_feed 83 = .ok (.bipush 24, 2) := by decide +kernel
theorem dX12_feed_85 : decode cX12_feed 85 = .ok (.bipush 8, 2) := by decide +kernel
theorem dX12_feed_87 : decode cX12_feed 87 = .ok (.iload 6, 2) := by decide +kernel
theorem dX12_feed_89 : decode cX12_feed 89 = .ok (.iconst 4, 1) := by decide +kernel
theorem dX12_feed_90 : decode cX12_feed 90 = .ok (.irem, 1) := by decide +kernel
theorem dX12_feed_91 : decode cX12_feed 91 = .ok (.imul, 1) := by decide +kernel
theorem dX12_feed_92 : decode cX12_feed 92 = .ok (.isub, 1) := by decide +kernel
theorem dX12_feed_93 : decode cX12_feed 93 = .ok (.ishr, 1) := by decide +kernel
theorem dX12_feed_94 : decode cX12_feed 94 = .ok (.sipush 255, 3) := by decide +kernel
theorem dX12_feed_97 : decode cX12_feed 97 = .ok (.iand, 1) := by decide +kernel
theorem dX12_feed_98 : decode cX12_feed 98 = .ok (.iastore, 1) := by decide +kernel
theorem dX12_feed_99 : decode cX12_feed 99 = .ok (.aload_n 0, 1) := by decide +kernel
theorem dX12_feed_100 : decode cX12_feed 100 = .ok (.dup, 1) := by decide +kernel
theorem dX12_feed_101 : decode cX12_feed 101 = .ok (.getfield 286, 3) := by decide +kernel
theorem dX12_feed_104 : decode cX12_feed 104 = .ok (.iconst 1, 1) := by decide +kernel
theorem dX12_feed_105 : decode cX12_feed 105 = .ok (.iadd, 1) := by decide +kernel
theorem dX12_feed_106 : decode cX12_feed 106 = .ok (.putfield 286, 3) := by decide +kernel
theorem dX12_feed_109 : decode cX12_feed 109 = .ok (.iinc 6 1, 3) := by decide +kernel
theorem dX12_feed_112 : decode cX12_feed 112 = .ok (.goto (-94), 3) := by decide +kernel
theorem dX12_feed_115 : decode cX12_feed 115 = .ok (.aload_n 0, 1) := by decide +kernel
theorem dX12_feed_116 : decode cX12_feed 116 = .ok (.getfield 286, 3) := by decide +kernel
theorem dX12_feed_119 : decode cX12_feed 119 = .ok (.ireturn, 1) := by decide +kernel
def f_X12_feed_B18b (k18 : Int32 → Int32 → Int32 → Int32 → Int32 → Int32 → Wd → Option (Int32 × Wd)) (l1 : Int32) (l2 : Int32) (l3 : Int32) (l4 : Int32) (l5 : Int32) (l6 : Int32) (w : Wd) : Option (Int32 × Wd) :=
  if 20 ≤ l6 then
    some ((w.1 44 30), w)
  else
    if 4 ≤ l6 then
      if 8 ≤ l6 then
        if 12 ≤ l6 then
          if 16 ≤ l6 then
            wrI w 66 200 (w.1 44 30) ((l5 >>> ((24 - (8 * (rem32 l6 4))) &&& 31)) &&& 255) fun w1 =>
            letW (sI w1 44 30 ((w1.1 44 30) + 1)) fun w2 =>
            k18 l1 l2 l3 l4 l5 (l6 + 1) w2
          else
            wrI w 66 200 (w.1 44 30) ((l4 >>> ((24 - (8 * (rem32 l6 4))) &&& 31)) &&& 255) fun w3 =>
            letW (sI w3 44 30 ((w3.1 44 30) + 1)) fun w4 =>
            k18 l1 l2 l3 l4 l5 (l6 + 1) w4
        else
          wrI w 66 200 (w.1 44 30) ((l3 >>> ((24 - (8 * (rem32 l6 4))) &&& 31)) &&& 255) fun w5 =>
          letW (sI w5 44 30 ((w5.1 44 30) + 1)) fun w6 =>
          k18 l1 l2 l3 l4 l5 (l6 + 1) w6
      else
        wrI w 66 200 (w.1 44 30) ((l2 >>> ((24 - (8 * (rem32 l6 4))) &&& 31)) &&& 255) fun w7 =>
        letW (sI w7 44 30 ((w7.1 44 30) + 1)) fun w8 =>
        k18 l1 l2 l3 l4 l5 (l6 + 1) w8
    else
      wrI w 66 200 (w.1 44 30) ((l1 >>> ((24 - (8 * (rem32 l6 4))) &&& 31)) &&& 255) fun w9 =>
      letW (sI w9 44 30 ((w9.1 44 30) + 1)) fun w10 =>
      k18 l1 l2 l3 l4 l5 (l6 + 1) w10
def f_X12_feed_L18 (n : Nat) : Int32 → Int32 → Int32 → Int32 → Int32 → Int32 → Wd → Option (Int32 × Wd) :=
  Nat.rec (fun _ _ _ _ _ _ _ => none) (fun _ k => f_X12_feed_B18b k) n
set_option maxHeartbeats 4000000 in
set_option maxRecDepth 100000 in
theorem t_X12_feed_L18 {G : GT} {d : Nat} (hd : 0 ≤ d)  : ∀ (n : Nat) (l1 : Int32) (l2 : Int32) (l3 : Int32) (l4 : Int32) (l5 : Int32) (l6 : Int32) (w : Wd) (r : Int32) (w' : Wd), f_X12_feed_L18 n l1 l2 l3 l4 l5 l6 w = some (r, w') → U (vf G mX12_feed d) 18 [some (.ref 44), some (.int l1), some (.int l2), some (.int l3), some (.int l4), some (.int l5), some (.int l6), none] [] w (some (.int r), 70, r0, w') := by
  intro n
  induction n with
  | zero => intro l1 l2 l3 l4 l5 l6 w r w' h; cases h
  | succ n h18 =>
    intro l1 l2 l3 l4 l5 l6 w r w' h
    have h : f_X12_feed_B18b (f_X12_feed_L18 n) l1 l2 l3 l4 l5 l6 w = some (r, w') := h
    unfold f_X12_feed_B18b at h
    refine V.iload (pc := 18) dX12_feed_18 rfl ?_
    refine V.bipush (pc := 20) dX12_feed_20 bp_20 ?_
    rcases ite_e h with ⟨c, h⟩ | ⟨c, h⟩
    · refine V.icmp_ge_t (t := 115) (pc := 22) dX12_feed_22 (by decide) c ?_
      refine V.aload_n (pc := 115) dX12_feed_115 rfl ?_
      refine V.getI (pc := 116) dX12_feed_116 f_RX12_286 k_cl12 lx_44 ly_44 rb_12_30 ?_
      obtain ⟨rfl, rfl⟩ := Prod.mk.inj (Option.some.inj h)
      exact V.iret (pc := 119) dX12_feed_119 rfl (Nat.le_refl _) (Nat.le_refl _)
    · refine V.icmp_ge_f (t := 115) (pc := 22) dX12_feed_22 (by decide) c ?_
      refine V.iload (pc := 25) dX12_feed_25 rfl ?_
      refine V.iconst (pc := 27) dX12_feed_27 ic_4 ?_
      rcases ite_e h with ⟨c, h⟩ | ⟨c, h⟩
      · refine V.icmp_ge_t (t := 35) (pc := 28) dX12_feed_28 (by decide) c ?_
        refine V.iload (pc := 35) dX12_feed_35 rfl ?_
        refine V.bipush (pc := 37) dX12_feed_37 bp_8 ?_
        rcases ite_e h with ⟨c, h⟩ | ⟨c, h⟩
        · refine V.icmp_ge_t (t := 46) (pc := 39) dX12_feed_39 (by decide) c ?_
          refine V.iload (pc := 46) dX12_feed_46 rfl ?_
          refine V.bipush (pc := 48) dX12_feed_48 bp_12 ?_
          rcases ite_e h with ⟨c, h⟩ | ⟨c, h⟩
          · refine V.icmp_ge_t (t := 57) (pc := 50) dX12_feed_50 (by decide) c ?_
            refine V.iload (pc := 57) dX12_feed_57 rfl ?_
            refine V.bipush (pc := 59) dX12_feed_59 bp_16 ?_
            rcases ite_e h with ⟨c, h⟩ | ⟨c, h⟩
            · refine V.icmp_ge_t (t := 69) (pc := 61) dX12_feed_61 (by decide) c ?_
              refine V.iload (pc := 69) dX12_feed_69 rfl ?_
              refine V.istore (lv' := [some (.ref 44), some (.int l1), some (.int l2), some (.int l3), some (.int l4), some (.int l5), some (.int l6), some (.int l5)]) (pc := 71) dX12_feed_71 (Nat.le_of_ble_eq_true rfl) rfl rfl ?_
              refine V.aload_n (pc := 73) dX12_feed_73 rfl ?_
              refine V.getR (t := 66) (pc := 74) dX12_feed_74 f_RX12_79 k_cl12 lx_44 ly_44 rb_12_29 rr_44_29 ?_
              refine V.aload_n (pc := 77) dX12_feed_77 rfl ?_
              refine V.getI (pc := 78) dX12_feed_78 f_RX12_286 k_cl12 lx_44 ly_44 rb_12_30 ?_
              refine V.iload (pc := 81) dX12_feed_81 rfl ?_
              refine V.bipush (pc := 83) dX12_feed_83 bp_24 ?_
              refine V.bipush (pc := 85) dX12_feed_85 bp_8 ?_
              refine V.iload (pc := 87) dX12_feed_87 rfl ?_
              refine V.iconst (pc := 89) dX12_feed_89 ic_4 ?_
              refine V.irem (pc := 90) dX12_feed_90 (by decide) ?_
              refine V.imul (pc := 91) dX12_feed_91 ?_
              refine V.isub (pc := 92) dX12_feed_92 ?_
              refine V.ishr (pc := 93) dX12_feed_93 ?_
              refine V.sipush (pc := 94) dX12_feed_94 sp_255 ?_
              refine V.iand (pc := 97) dX12_feed_97 ?_
              obtain ⟨w1, iw1, ew1, h⟩ := wrI_e h
              refine V.iastX (pc := 98) dX12_feed_98 lx_66 ly_66 iw1 ew1 ?_
              refine V.aload_n (pc := 99) dX12_feed_99 rfl ?_
              refine V.dup (pc := 100) dX12_feed_100 rfl ?_
              refine V.getI (pc := 101) dX12_feed_101 f_RX12_286 k_cl12 lx_44 ly_44 rb_12_30 ?_
              refine V.iconst (pc := 104) dX12_feed_104 ic_1 ?_
              refine V.iadd (pc := 105) dX12_feed_105 ?_
              obtain ⟨w2, ew2, h⟩ := letW_e h
              refine V.putIX (pc := 106) dX12_feed_106 f_RX12_286 k_cl12 lx_44 ly_44 rb_12_30 (fin_I (T0 := TX12) rfl rfl rfl) ew2 ?_
              refine V.iinc (lv' := [some (.ref 44), some (.int l1), some (.int l2), some (.int l3), some (.int l4), some (.int l5), some (.int (l6 + 1)), some (.int l5)]) (pc := 109) dX12_feed_109 (Nat.le_of_ble_eq_true rfl) rfl rfl (v := (l6 + 1)) (by rw [show Int32.ofInt 1 = 1 from by decide]) rfl ?_
              refine V.goto (t := 18) (pc := 112) dX12_feed_112 (by decide) ?_
              refine V.weak (lv' := [some (.ref 44), some (.int l1), some (.int l2), some (.int l3), some (.int l4), some (.int l5), some (.int (l6 + 1)), none]) (And.intro rfl (And.intro rfl (And.intro rfl (And.intro rfl (And.intro rfl (And.intro rfl (And.intro rfl trivial))))))) ?_
              exact h18 l1 l2 l3 l4 l5 (l6 + 1) w2 _ _ h
            · refine V.icmp_ge_f (t := 69) (pc := 61) dX12_feed_61 (by decide) c ?_
              refine V.iload (pc := 64) dX12_feed_64 rfl ?_
              refine V.goto (t := 71) (pc := 66) dX12_feed_66 (by decide) ?_
              refine V.istore (lv' := [some (.ref 44), some (.int l1), some (.int l2), some (.int l3), some (.int l4), some (.int l5), some (.int l6), some (.int l4)]) (pc := 71) dX12_feed_71 (Nat.le_of_ble_eq_true rfl) rfl rfl ?_
              refine V.aload_n (pc := 73) dX12_feed_73 rfl ?_
              refine V.getR (t := 66) (pc := 74) dX12_feed_74 f_RX12_79 k_cl12 lx_44 ly_44 rb_12_29 rr_44_29 ?_
              refine V.aload_n (pc := 77) dX12_feed_77 rfl ?_
              refine V.getI (pc := 78) dX12_feed_78 f_RX12_286 k_cl12 lx_44 ly_44 rb_12_30 ?_
              refine V.iload (pc := 81) dX12_feed_81 rfl ?_
              refine V.bipush (pc := 83) dX12_feed_83 bp_24 ?_
              refine V.bipush (pc := 85) dX12_feed_85 bp_8 ?_
              refine V.iload (pc := 87) dX12_feed_87 rfl ?_
              refine V.iconst (pc := 89) dX12_feed_89 ic_4 ?_
              refine V.irem (pc := 90) dX12_feed_90 (by decide) ?_
              refine V.imul (pc := 91) dX12_feed_91 ?_
              refine V.isub (pc := 92) dX12_feed_92 ?_
              refine V.ishr (pc := 93) dX12_feed_93 ?_
              refine V.sipush (pc := 94) dX12_feed_94 sp_255 ?_
              refine V.iand (pc := 97) dX12_feed_97 ?_
              obtain ⟨w3, iw3, ew3, h⟩ := wrI_e h
              refine V.iastX (pc := 98) dX12_feed_98 lx_66 ly_66 iw3 ew3 ?_
              refine V.aload_n (pc := 99) dX12_feed_99 rfl ?_
              refine V.dup (pc := 100) dX12_feed_100 rfl ?_
              refine V.getI (pc := 101) dX12_feed_101 f_RX12_286 k_cl12 lx_44 ly_44 rb_12_30 ?_
              refine V.iconst (pc := 104) dX12_feed_104 ic_1 ?_
              refine V.iadd (pc := 105) dX12_feed_105 ?_
              obtain ⟨w4, ew4, h⟩ := letW_e h
              refine V.putIX (pc := 106) dX12_feed_106 f_RX12_286 k_cl12 lx_44 ly_44 rb_12_30 (fin_I (T0 := TX12) rfl rfl rfl) ew4 ?_
              refine V.iinc (lv' := [some (.ref 44), some (.int l1), some (.int l2), some (.int l3), some (.int l4), some (.int l5), some (.int (l6 + 1)), some (.int l4)]) (pc := 109) dX12_feed_109 (Nat.le_of_ble_eq_true rfl) rfl rfl (v := (l6 + 1)) (by rw [show Int32.ofInt 1 = 1 from by decide]) rfl ?_
              refine V.goto (t := 18) (pc := 112) dX12_feed_112 (by decide) ?_
              refine V.weak (lv' := [some (.ref 44), some (.int l1), some (.int l2), some (.int l3), some (.int l4), some (.int l5), some (.int (l6 + 1)), none]) (And.intro rfl (And.intro rfl (And.intro rfl (And.intro rfl (And.intro rfl (And.intro rfl (And.intro rfl trivial))))))) ?_
              exact h18 l1 l2 l3 l4 l5 (l6 + 1) w4 _ _ h
          · refine V.icmp_ge_f (t := 57) (pc := 50) dX12_feed_50 (by decide) c ?_
            refine V.iload_n (pc := 53) dX12_feed_53 rfl ?_
            refine V.goto (t := 71) (pc := 54) dX12_feed_54 (by decide) ?_
            refine V.istore (lv' := [some (.ref 44), some (.int l1), some (.int l2), some (.int l3), some (.int l4), some (.int l5), some (.int l6), some (.int l3)]) (pc := 71) dX12_feed_71 (Nat.le_of_ble_eq_true rfl) rfl rfl ?_
            refine V.aload_n (pc := 73) dX12_feed_73 rfl ?_
            refine V.getR (t := 66) (pc := 74) dX12_feed_74 f_RX12_79 k_cl12 lx_44 ly_44 rb_12_29 rr_44_29 ?_
            refine V.aload_n (pc := 77) dX12_feed_77 rfl ?_
            refine V.getI (pc := 78) dX12_feed_78 f_RX12_286 k_cl12 lx_44 ly_44 rb_12_30 ?_
            refine V.iload (pc := 81) dX12_feed_81 rfl ?_
            refine V.bipush (pc := 83) dX12_feed_83 bp_24 ?_
            refine V.bipush (pc := 85) dX12_feed_85 bp_8 ?_
            refine V.iload (pc := 87) dX12_feed_87 rfl ?_
            refine V.iconst (pc := 89) dX12_feed_89 ic_4 ?_
            refine V.irem (pc := 90) dX12_feed_90 (by decide) ?_
            refine V.imul (pc := 91) dX12_feed_91 ?_
            refine V.isub (pc := 92) dX12_feed_92 ?_
            refine V.ishr (pc := 93) dX12_feed_93 ?_
            refine V.sipush (pc := 94) dX12_feed_94 sp_255 ?_
            refine V.iand (pc := 97) dX12_feed_97 ?_
            obtain ⟨w5, iw5, ew5, h⟩ := wrI_e h
            refine V.iastX (pc := 98) dX12_feed_98 lx_66 ly_66 iw5 ew5 ?_
            refine V.aload_n (pc := 99) dX12_feed_99 rfl ?_
            refine V.dup (pc := 100) dX12_feed_100 rfl ?_
            refine V.getI (pc := 101) dX12_feed_101 f_RX12_286 k_cl12 lx_44 ly_44 rb_12_30 ?_
            refine V.iconst (pc := 104) dX12_feed_104 ic_1 ?_
            refine V.iadd (pc := 105) dX12_feed_105 ?_
            obtain ⟨w6, ew6, h⟩ := letW_e h
            refine V.putIX (pc := 106) dX12_feed_106 f_RX12_286 k_cl12 lx_44 ly_44 rb_12_30 (fin_I (T0 := TX12) rfl rfl rfl) ew6 ?_
            refine V.iinc (lv' := [some (.ref 44), some (.int l1), some (.int l2), some (.int l3), some (.int l4), some (.int l5), some (.int (l6 + 1)), some (.int l3)]) (pc := 109) dX12_feed_109 (Nat.le_of_ble_eq_true rfl) rfl rfl (v := (l6 + 1)) (by rw [show Int32.ofInt 1 = 1 from by decide]) rfl ?_
            refine V.goto (t := 18) (pc := 112) dX12_feed_112 (by decide) ?_
            refine V.weak (lv' := [some (.ref 44), some (.int l1), some (.int l2), some (.int l3), some (.int l4), some (.int l5), some (.int (l6 + 1)), none]) (And.intro rfl (And.intro rfl (And.intro rfl (And.intro rfl (And.intro rfl (And.intro rfl (And.intro rfl trivial))))))) ?_
            exact h18 l1 l2 l3 l4 l5 (l6 + 1) w6 _ _ h
        · refine V.icmp_ge_f (t := 46) (pc := 39) dX12_feed_39 (by decide) c ?_
          refine V.iload_n (pc := 42) dX12_feed_42 rfl ?_
          refine V.goto (t := 71) (pc := 43) dX12_feed_43 (by decide) ?_
          refine V.istore (lv' := [some (.ref 44), some (.int l1), some (.int l2), some (.int l3), some (.int l4), some (.int l5), some (.int l6), some (.int l2)]) (pc := 71) dX12_feed_71 (Nat.le_of_ble_eq_true rfl) rfl rfl ?_
          refine V.aload_n (pc := 73) dX12_feed_73 rfl ?_
          refine V.getR (t := 66) (pc := 74) dX12_feed_74 f_RX12_79 k_cl12 lx_44 ly_44 rb_12_29 rr_44_29 ?_
          refine V.aload_n (pc := 77) dX12_feed_77 rfl ?_
          refine V.getI (pc := 78) dX12_feed_78 f_RX12_286 k_cl12 lx_44 ly_44 rb_12_30 ?_
          refine V.iload (pc := 81) dX12_feed_81 rfl ?_
          refine V.bipush (pc := 83) dX12_feed_83 bp_24 ?_
          refine V.bipush (pc := 85) dX12_feed_85 bp_8 ?_
          refine V.iload (pc := 87) dX12_feed_87 rfl ?_
          refine V.iconst (pc := 89) dX12_feed_89 ic_4 ?_
          refine V.irem (pc := 90) dX12_feed_90 (by decide) ?_
          refine V.imul (pc := 91) dX12_feed_91 ?_
          refine V.isub (pc := 92) dX12_feed_92 ?_
          refine V.ishr (pc := 93) dX12_feed_93 ?_
          refine V.sipush (pc := 94) dX12_feed_94 sp_255 ?_
          refine V.iand (pc := 97) dX12_feed_97 ?_
          obtain ⟨w7, iw7, ew7, h⟩ := wrI_e h
          refine V.iastX (pc := 98) dX12_feed_98 lx_66 ly_66 iw7 ew7 ?_
          refine V.aload_n (pc := 99) dX12_feed_99 rfl ?_
          refine V.dup (pc := 100) dX12_feed_100 rfl ?_
          refine V.getI (pc := 101) dX12_feed_101 f_RX12_286 k_cl12 lx_44 ly_44 rb_12_30 ?_
          refine V.iconst (pc := 104) dX12_feed_104 ic_1 ?_
          refine V.iadd (pc := 105) dX12_feed_105 ?_
          obtain ⟨w8, ew8, h⟩ := letW_e h
          refine V.putIX (pc := 106) dX12_feed_106 f_RX12_286 k_cl12 lx_44 ly_44 rb_12_30 (fin_I (T0 := TX12) rfl rfl rfl) ew8 ?_
          refine V.iinc (lv' := [some (.ref 44), some (.int l1), some (.int l2), some (.int l3), some (.int l4), some (.int l5), some (.int (l6 + 1)), some (.int l2)]) (pc := 109) dX12_feed_109 (Nat.le_of_ble_eq_true rfl) rfl rfl (v := (l6 + 1)) (by rw [show Int32.ofInt 1 = 1 from by decide]) rfl ?_
          refine V.goto (t := 18) (pc := 112) dX12_feed_112 (by decide) ?_
          refine V.weak (lv' := [some (.ref 44), some (.int l1), some (.int l2), some (.int l3), some (.int l4), some (.int l5), some (.int (l6 + 1)), none]) (And.intro rfl (And.intro rfl (And.intro rfl (And.intro rfl (And.intro rfl (And.intro rfl (And.intro rfl trivial))))))) ?_
          exact h18 l1 l2 l3 l4 l5 (l6 + 1) w8 _ _ h
      · refine V.icmp_ge_f (t := 35) (pc := 28) dX12_feed_28 (by decide) c ?_
        refine V.iload_n (pc := 31) dX12_feed_31 rfl ?_
        refine V.goto (t := 71) (pc := 32) dX12_feed_32 (by decide) ?_
        refine V.istore (lv' := [some (.ref 44), some (.int l1), some (.int l2), some (.int l3), some (.int l4), some (.int l5), some (.int l6), some (.int l1)]) (pc := 71) dX12_feed_71 (Nat.le_of_ble_eq_true rfl) rfl rfl ?_
        refine V.aload_n (pc := 73) dX12_feed_73 rfl ?_
        refine V.getR (t := 66) (pc := 74) dX12_feed_74 f_RX12_79 k_cl12 lx_44 ly_44 rb_12_29 rr_44_29 ?_
        refine V.aload_n (pc := 77) dX12_feed_77 rfl ?_
        refine V.getI (pc := 78) dX12_feed_78 f_RX12_286 k_cl12 lx_44 ly_44 rb_12_30 ?_
        refine V.iload (pc := 81) dX12_feed_81 rfl ?_
        refine V.bipush (pc := 83) dX12_feed_83 bp_24 ?_
        refine V.bipush (pc := 85) dX12_feed_85 bp_8 ?_
        refine V.iload (pc := 87) dX12_feed_87 rfl ?_
        refine V.iconst (pc := 89) dX12_feed_89 ic_4 ?_
        refine V.irem (pc := 90) dX12_feed_90 (by decide) ?_
        refine V.imul (pc := 91) dX12_feed_91 ?_
        refine V.isub (pc := 92) dX12_feed_92 ?_
        refine V.ishr (pc := 93) dX12_feed_93 ?_
        refine V.sipush (pc := 94) dX12_feed_94 sp_255 ?_
        refine V.iand (pc := 97) dX12_feed_97 ?_
        obtain ⟨w9, iw9, ew9, h⟩ := wrI_e h
        refine V.iastX (pc := 98) dX12_feed_98 lx_66 ly_66 iw9 ew9 ?_
        refine V.aload_n (pc := 99) dX12_feed_99 rfl ?_
        refine V.dup (pc := 100) dX12_feed_100 rfl ?_
        refine V.getI (pc := 101) dX12_feed_101 f_RX12_286 k_cl12 lx_44 ly_44 rb_12_30 ?_
        refine V.iconst (pc := 104) dX12_feed_104 ic_1 ?_
        refine V.iadd (pc := 105) dX12_feed_105 ?_
        obtain ⟨w10, ew10, h⟩ := letW_e h
        refine V.putIX (pc := 106) dX12_feed_106 f_RX12_286 k_cl12 lx_44 ly_44 rb_12_30 (fin_I (T0 := TX12) rfl rfl rfl) ew10 ?_
        refine V.iinc (lv' := [some (.ref 44), some (.int l1), some (.int l2), some (.int l3), some (.int l4), some (.int l5), some (.int (l6 + 1)), some (.int l1)]) (pc := 109) dX12_feed_109 (Nat.le_of_ble_eq_true rfl) rfl rfl (v := (l6 + 1)) (by rw [show Int32.ofInt 1 = 1 from by decide]) rfl ?_
        refine V.goto (t := 18) (pc := 112) dX12_feed_112 (by decide) ?_
        refine V.weak (lv' := [some (.ref 44), some (.int l1), some (.int l2), some (.int l3), some (.int l4), some (.int l5), some (.int (l6 + 1)), none]) (And.intro rfl (And.intro rfl (And.intro rfl (And.intro rfl (And.intro rfl (And.intro rfl (And.intro rfl trivial))))))) ?_
        exact h18 l1 l2 l3 l4 l5 (l6 + 1) w10 _ _ h
def f_X12_feed (l1 : Int32) (l2 : Int32) (l3 : Int32) (l4 : Int32) (l5 : Int32) (w : Wd) : Option (Int32 × Wd) :=
  if ((w.1 44 30) + 20) ≤ 200 then
    f_X12_feed_L18  FU l1 l2 l3 l4 l5 0 w
  else
    some ((-1), w)
set_option maxHeartbeats 4000000 in
set_option maxRecDepth 100000 in
theorem ok_X12_feed {G : GT} {d : Nat} (hd : 0 ≤ d) {w : Wd} (l1 : Int32) (l2 : Int32) (l3 : Int32) (l4 : Int32) (l5 : Int32) {r : Int32} {w' : Wd} (h : f_X12_feed l1 l2 l3 l4 l5 w = some (r, w')) : uC G yX12_feed mX12_feed d [.ref 44, .int l1, .int l2, .int l3, .int l4, .int l5] w (some (.int r)) w' := by
  unfold f_X12_feed at h
  refine uC_of (lv := [some (.ref 44), some (.int l1), some (.int l2), some (.int l3), some (.int l4), some (.int l5), none, none]) 2 pn_X12 ⟨rfl, rfl⟩ (Nat.le_of_ble_eq_true rfl) rfl ?_
  refine V.aload_n (pc := 0) dX12_feed_0 rfl ?_
  refine V.getI (pc := 1) dX12_feed_1 f_RX12_286 k_cl12 lx_44 ly_44 rb_12_30 ?_
  refine V.bipush (pc := 4) dX12_feed_4 bp_20 ?_
  refine V.iadd (pc := 6) dX12_feed_6 ?_
  refine V.sipush (pc := 7) dX12_feed_7 sp_200 ?_
  rcases ite_e h with ⟨c, h⟩ | ⟨c, h⟩
  · refine V.icmp_le_t (t := 15) (pc := 10) dX12_feed_10 (by decide) c ?_
    refine V.iconst (pc := 15) dX12_feed_15 ic_0 ?_
    refine V.istore (lv' := [some (.ref 44), some (.int l1), some (.int l2), some (.int l3), some (.int l4), some (.int l5), some (.int 0), none]) (pc := 16) dX12_feed_16 (Nat.le_of_ble_eq_true rfl) rfl rfl ?_
    exact t_X12_feed_L18 hd FU l1 l2 l3 l4 l5 0 w _ _ h
  · refine V.icmp_le_f (t := 15) (pc := 10) dX12_feed_10 (by decide) c ?_
    refine V.iconst (pc := 13) dX12_feed_13 ic_m1 ?_
    obtain ⟨rfl, rfl⟩ := Prod.mk.inj (Option.some.inj h)
    exact V.iret (pc := 14) dX12_feed_14 rfl (Nat.le_refl _) (Nat.le_refl _)
