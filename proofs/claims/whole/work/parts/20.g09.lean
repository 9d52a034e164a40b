theorem dX12_even_0 : decode cX12_even 0 = .ok (.aload_n 0, 1) := by decide +kernel
theorem dX12_even_1 : decode cX12_even 1 = .ok (.iload_n 1, 1) := by decide +kernel
theorem dX12_even_2 : decode cX12_even 2 = .ok (.invokevirtual 169, 3) := by decide +kernel
theorem dX12_even_5 : decode cX12_even 5 = .ok (.ifCond .eq 20, 3) := by decide +kernel
theorem dX12_even_8 : decode cX12_even 8 = .ok (.aload_n 0, 1) := by decide +kernel
theorem dX12_even_9 : decode cX12_even 9 = .ok (.iload_n 1, 1) := by decide +kernel
theorem dX12_even_10 : decode cX12_even 10 = .ok (.invokevirtual 182, 3) := by decide +kernel
theorem dX12_even_13 : decode cX12_even 13 = .ok (.iload_n 1, 1) := by decide +kernel
theorem dX12_even_14 : decode cX12_even 14 = .ok (.if_icmp .ne 7, 3) := by decide +kernel
theorem dX12_even_17 : decode cX12_even 17 = .ok (.iconst 1, 1) := by decide +kernel
theorem dX12_even_18 : decode cX12_even 18 = .ok (.goto 8, 3) := by decide +kernel
theorem dX12_even_21 : decode cX12_even 21 = .ok (.iconst 0, 1) := by decide +kernel
theorem dX12_even_22 : decode cX12_even 22 = .ok (.goto 4, 3) := by decide +kernel
theorem dX12_even_25 : decode cX12_even 25 = .ok (.iconst (-1), 1) := by decide +kernel
theorem dX12_even_26 : decode cX12_even 26 = .ok (.ireturn, 1) := by decide +kernel
def f_X12_even (l1 : Int32) (w : Wd) : Option Int32 :=
  if (f_X12_isSet l1 w) = 0 then
    some (-1)
  else
    bnd (f_X12_inverses l1 w) fun x1 =>
    if x1 = l1 then
      some 1
    else
      some 0
set_option maxHeartbeats 4000000 in
set_option maxRecDepth 100000 in
theorem ok_X12_even {G : GT} {d : Nat} (hd : 2 ≤ d) {w : Wd} (l1 : Int32) {r : Int32} (h : f_X12_even l1 w = some r) : uC G yX12_even mX12_even d [.ref 44, .int l1] w (some (.int r)) w := by
  obtain ⟨d, rfl⟩ : ∃ e, d = e + 1 := ⟨d - 1, by omega⟩
  unfold f_X12_even at h
  refine uC_of (lv := [some (.ref 44), some (.int l1)]) 0 pn_X12 ⟨rfl, rfl⟩ (Nat.le_of_ble_eq_true rfl) rfl ?_
  refine V.aload_n (pc := 0) dX12_even_0 rfl ?_
  refine V.iload_n (pc := 1) dX12_even_1 rfl ?_
  refine U.callV (pc := 2) (As := [.int l1]) (st := []) dX12_even_2 l_RX12_169 (ok_X12_isSet (by omega) l1 ) lx_44 ly_44 cn_12 (Nat.le_of_ble_eq_true rfl) rfl rfl (Nat.le_of_ble_eq_true rfl) ?_
  rcases ite_e h with ⟨c, h⟩ | ⟨c, h⟩
  · refine V.if_eq_t (t := 25) (pc := 5) dX12_even_5 (by decide) c ?_
    refine V.iconst (pc := 25) dX12_even_25 ic_m1 ?_
    obtain rfl := Option.some.inj h
    exact V.iret (pc := 26) dX12_even_26 rfl (Nat.le_refl _) (Nat.le_refl _)
  · refine V.if_eq_f (t := 25) (pc := 5) dX12_even_5 (by decide) c ?_
    refine V.aload_n (pc := 8) dX12_even_8 rfl ?_
    refine V.iload_n (pc := 9) dX12_even_9 rfl ?_
    obtain ⟨x1, ex1, h⟩ := bnd_e h
    refine U.callV (pc := 10) (As := [.int l1]) (st := []) dX12_even_10 l_RX12_182 (ok_X12_inverses (by omega) l1 ex1) lx_44 ly_44 cn_12 (Nat.le_of_ble_eq_true rfl) rfl rfl (Nat.le_of_ble_eq_true rfl) ?_
    refine V.iload_n (pc := 13) dX12_even_13 rfl ?_
    rcases ite_e h with ⟨c, h⟩ | ⟨c, h⟩
    · refine V.icmp_ne_f (t := 21) (pc := 14) dX12_even_14 (by decide) c ?_
      refine V.iconst (pc := 17) dX12_even_17 ic_1 ?_
      refine V.goto (t := 26) (pc := 18) dX12_even_18 (by decide) ?_
      obtain rfl := Option.some.inj h
      exact V.iret (pc := 26) dX12_even_26 rfl (Nat.le_refl _) (Nat.le_refl _)
    · refine V.icmp_ne_t (t := 21) (pc := 14) dX12_even_14 (by decide) c ?_
      refine V.iconst (pc := 21) dX12_even_21 ic_0 ?_
      refine V.goto (t := 26) (pc := 22) dX12_even_22 (by decide) ?_
      obtain rfl := Option.some.inj h
      exact V.iret (pc := 26) dX12_even_26 rfl (Nat.le_refl _) (Nat.le_refl _)
theorem dX11_copies_0 : decode cX11_copies 0 = .ok (.aload_n 0, 1) := by decide +kernel
theorem dX11_copies_1 : decode cX11_copies 1 = .ok (.getfield 28, 3) := by decide +kernel
theorem dX11_copies_4 : decode cX11_copies 4 = .ok (.iload_n 1, 1) := by decide +kernel
theorem dX11_copies_5 : decode cX11_copies 5 = .ok (.invokevirtual 118, 3) := by decide +kernel
theorem dX11_copies_8 : decode cX11_copies 8 = .ok (.ifCond .ne 5, 3) := by decide +kernel
theorem dX11_copies_11 : decode cX11_copies 11 = .ok (.iconst (-1), 1) := by decide +kernel
theorem dX11_copies_12 : decode cX11_copies 12 = .ok (.ireturn, 1) := by decide +kernel
theorem dX11_copies_13 : decode cX11_copies 13 = .ok (.iconst 0, 1) := by decide +kernel
theorem dX11_copies_14 : decode cX11_copies 14 = .ok (.istore_n 2, 1) := by decide +kernel
theorem dX11_copies_15 : decode cX11_copies 15 = .ok (.iconst 0, 1) := by decide +kernel
theorem dX11_copies_16 : decode cX11_copies 16 = .ok (.istore_n 3, 1) := by decide +kernel
theorem dX11_copies_17 : decode cX11_copies 17 = .ok (.iload_n 3, 1) := by decide +kernel
theorem dX11_copies_18 : decode cX11_copies 18 = .ok (.aload_n 0, 1) := by decide +kernel
theorem dX11_copies_19 : decode cX11_copies 19 = .ok (.getfield 28, 3) := by decide +kernel
theorem dX11_copies_22 : decode cX11_copies 22 = .ok (.getfield 104, 3) := by decide +kernel
theorem dX11_copies_25 : decode cX11_copies 25 = .ok (.if_icmp .ge 79, 3) := by decide +kernel
theorem dX11_copies_28 : decode cX11_copies 28 = .ok (.aload_n 0, 1) := by decide +kernel
theorem dX11_copies_29 : decode cX11_copies 29 = .ok (.getfield 28, 3) := by decide +kernel
theorem dX11_copies_32 : decode cX11_copies 32 = .ok (.iload_n 3, 1) := by decide +kernel
theorem dX11_copies_33 : decode cX11_copies 33 = .ok (.iload_n 1, 1) := by decide +kernel
theorem dX11_copies_34 : decode cX11_copies 34 = .ok (.iconst 1, 1) := by decide +kernel
theorem dX11_copies_35 : decode cX11_copies 35 = .ok (.invokevirtual 136, 3) := by decide +kernel
theorem dX11_copies_38 : decode cX11_copies 38 = .ok (.istore 4, 2) := by decide +kernel
theorem dX11_copies_40 : decode cX11_copies 40 = .ok (.iconst 1, 1) := by decide +kernel
theorem dX11_copies_41 : decode cX11_copies 41 = .ok (.istore 5, 2) := by decide +kernel
theorem dX11_copies_43 : decode cX11_copies 43 = .ok (.iconst 0, 1) := by decide +kernel
theorem dX11_copies_44 : decode cX11_copies 44 = .ok (.istore 6, 2) := by decide +kernel
theorem dX11_copies_46 : decode cX11_copies 46 = .ok (.iload 6, 2) := by decide +kernel
theorem dX11_copies_48 : decode cX11_copies 48 = .ok (.iload_n 2, 1) := by decide +kernel
theorem dX11_copies_49 : decode cX11_copies 49 = .ok (.if_icmp .ge 33, 3) := by decide +kernel
theorem dX11_copies_52 : decode cX11_copies 52 = .ok (.iload 5, 2) := by decide +kernel
theorem dX11_copies_54 : decode cX11_copies 54 = .ok (.ifCond .eq 28, 3) := by decide +kernel
theorem dX11_copies_57 : decode cX11_copies 57 = .ok (.aload_n 0, 1) := by decide +kernel
theorem dX11_copies_58 : decode cX11_copies 58 = .ok (.getfield 85, 3) := by decide +kernel
theorem dX11_copies_61 : decode cX11_copies 61 = .ok (.iload 6, 2) := by decide +kernel
theorem dX11_copies_63 : decode cX11_copies 63 = .ok (.iaload, 1) := by decide +kernel
theorem dX11_copies_64 : decode cX11_copies 64 = .ok (.iload 4, 2) := by decide +kernel
theorem dX11_copies_66 : decode cX11_copies 66 = .ok (.if_icmp .eq 7, 3) := by decide +kernel
theorem dX11_copies_69 : decode cX11_copies 69 = .ok (.iconst 1, 1) := by decide +kernel
theorem dX11_copies_70 : decode cX11_copies 70 = .ok (.goto 4, 3) := by decide +kernel
theorem dX11_copies_73 : decode cX11_copies 73 = .ok (.iconst 0, 1) := by decide +kernel
theorem dX11_copies_74 : decode cX11_copies 74 = .ok (.istore 5, 2) := by decide +kernel
theorem dX11_copies_76 : decode cX11_copies 76 = .ok (.iinc 6 1, 3) := by decide +kernel
theorem dX11_copies_79 : decode cX11_copies 79 = .ok (.goto (-33), 3) := by decide +kernel
theorem dX11_copies_82 : decode cX11_copies 82 = .ok (.iload 5, 2) := by decide +kernel
theorem dX11_copies_84 : decode cX11_copies 84 = .ok (.ifCond .eq 14, 3) := by decide +kernel
theorem dX11_copies_87 : decode cX11_copies 87 = .ok (.aload_n 0, 1) := by decide +kernel
theorem dX11_copies_88 : decode cX11_copies 88 = .ok (.getfield 85, 3) := by decide +kernel
theorem dX11_copies_91 : decode cX11_copies 91 = .ok (.iload_n 2, 1) := by decide +kernel
theorem dX11_copies_92 : decode cX11_copies 92 = .ok (.iinc 2 1, 3) := by decide +kernel
theorem dX11_copies_95 : decode cX11_copies 95 = .ok (.iload 4, 2) := by decide +kernel
theorem dX11_copies_97 : decode cX11_copies 97 = .ok (.iastore, 1) := by decide +kernel
theorem dX11_copies_98 : decode cX11_copies 98 = .ok (.iinc 3 1, 3) := by decide +kernel
theorem dX11_copies_101 : decode cX11_copies 101 = .ok (.goto (-84), 3) := by decide +kernel
theorem dX11_copies_104 : decode cX11_copies 104 = .ok (.iload_n 2, 1) := by decide +kernel
theorem dX11_copies_105 : decode cX11_copies 105 = .ok (.ireturn, 1) := by decide +kernel
def f_X11_copies_B46b (k17 : Int32 → Int32 → Int32 → Wd → Option (Int32 × Wd)) (k46 : Int32 → Int32 → Int32 → Int32 → Int32 → Int32 → Wd → Option (Int32 × Wd)) (l1 : Int32) (l2 : Int32) (l3 : Int32) (l4 : Int32) (l5 : Int32) (l6 : Int32) (w : Wd) : Option (Int32 × Wd) :=
  if l2 ≤ l6 then
    if l5 = 0 then
      k17 l1 l2 (l3 + 1) w
    else
      wrI w 43 17 l2 l4 fun w1 =>
      k17 l1 (l2 + 1) (l3 + 1) w1
  else
    if l5 = 0 then
      if l5 = 0 then
        k17 l1 l2 (l3 + 1) w
      else
        wrI w 43 17 l2 l4 fun w2 =>
        k17 l1 (l2 + 1) (l3 + 1) w2
    else
      rdI w 43 17 l6 fun x3 =>
      if x3 = l4 then
        k46 l1 l2 l3 l4 0 (l6 + 1) w
      else
        k46 l1 l2 l3 l4 1 (l6 + 1) w
def f_X11_copies_L46 (k17 : Int32 → Int32 → Int32 → Wd → Option (Int32 × Wd)) (n : Nat) : Int32 → Int32 → Int32 → Int32 → Int32 → Int32 → Wd → Option (Int32 × Wd) :=
  Nat.rec (fun _ _ _ _ _ _ _ => none) (fun _ k => f_X11_copies_B46b k17 k) n
set_option maxHeartbeats 4000000 in
set_option maxRecDepth 100000 in
theorem t_X11_copies_L46 {G : GT} {d : Nat} {k17 : Int32 → Int32 → Int32 → Wd → Option (Int32 × Wd)} (hd : 2 ≤ d + 1) (h17 : ∀ (l1 : Int32) (l2 : Int32) (l3 : Int32) (w : Wd) (r : Int32) (w' : Wd), k17 l1 l2 l3 w = some (r, w') → U (vf G mX11_copies (d + 1)) 17 [some (.ref 0), some (.int l1), some (.int l2), some (.int l3), none, none, none] [] w (some (.int r), 70, r0, w')) : ∀ (n : Nat) (l1 : Int32) (l2 : Int32) (l3 : Int32) (l4 : Int32) (l5 : Int32) (l6 : Int32) (w : Wd) (r : Int32) (w' : Wd), f_X11_copies_L46 k17 n l1 l2 l3 l4 l5 l6 w = some (r, w') → U (vf G mX11_copies (d + 1)) 46 [some (.ref 0), some (.int l1), some (.int l2), some (.int l3), some (.int l4), some (.int l5), some (.int l6)] [] w (some (.int r), 70, r0, w') := by
  intro n
  induction n with
  | zero => intro l1 l2 l3 l4 l5 l6 w r w' h; cases h
  | succ n h46 =>
    intro l1 l2 l3 l4 l5 l6 w r w' h
    have h : f_X11_copies_B46b k17 (f_X11_copies_L46 k17 n) l1 l2 l3 l4 l5 l6 w = some (r, w') := h
    unfold f_X11_copies_B46b at h
    refine V.iload (pc := 46) dX11_copies_46 rfl ?_
    refine V.iload_n (pc := 48) dX11_copies_48 rfl ?_
    rcases ite_e h with ⟨c, h⟩ | ⟨c, h⟩
    · refine V.icmp_ge_t (t := 82) (pc := 49) dX11_copies_49 (by decide) c ?_
      refine V.iload (pc := 82) dX11_copies_82 rfl ?_
      rcases ite_e h with ⟨c, h⟩ | ⟨c, h⟩
      · refine V.if_eq_t (t := 98) (pc := 84) dX11_copies_84 (by decide) c ?_
        refine V.iinc (lv' := [some (.ref 0), some (.int l1), some (.int l2), some (.int (l3 + 1)), some (.int l4), some (.int l5), some (.int l6)]) (pc := 98) dX11_copies_98 (Nat.le_of_ble_eq_true rfl) rfl rfl (v := (l3 + 1)) (by rw [show Int32.ofInt 1 = 1 from by decide]) rfl ?_
        refine V.goto (t := 17) (pc := 101) dX11_copies_101 (by decide) ?_
        refine V.weak (lv' := [some (.ref 0), some (.int l1), some (.int l2), some (.int (l3 + 1)), none, none, none]) (And.intro rfl (And.intro rfl (And.intro rfl (And.intro rfl trivial)))) ?_
        exact h17 l1 l2 (l3 + 1) w _ _ h
      · refine V.if_eq_f (t := 98) (pc := 84) dX11_copies_84 (by decide) c ?_
        refine V.aload_n (pc := 87) dX11_copies_87 rfl ?_
        refine V.getR (t := 43) (pc := 88) dX11_copies_88 f_RX11_85 k_cl11 lx_0 ly_0 rb_11_10 rr_0_10 ?_
        refine V.iload_n (pc := 91) dX11_copies_91 rfl ?_
        refine V.iinc (lv' := [some (.ref 0), some (.int l1), some (.int (l2 + 1)), some (.int l3), some (.int l4), some (.int l5), some (.int l6)]) (pc := 92) dX11_copies_92 (Nat.le_of_ble_eq_true rfl) rfl rfl (v := (l2 + 1)) (by rw [show Int32.ofInt 1 = 1 from by decide]) rfl ?_
        refine V.iload (pc := 95) dX11_copies_95 rfl ?_
        obtain ⟨w1, iw1, ew1, h⟩ := wrI_e h
        refine V.iastX (pc := 97) dX11_copies_97 lx_43 ly_43 iw1 ew1 ?_
        refine V.iinc (lv' := [some (.ref 0), some (.int l1), some (.int (l2 + 1)), some (.int (l3 + 1)), some (.int l4), some (.int l5), some (.int l6)]) (pc := 98) dX11_copies_98 (Nat.le_of_ble_eq_true rfl) rfl rfl (v := (l3 + 1)) (by rw [show Int32.ofInt 1 = 1 from by decide]) rfl ?_
        refine V.goto (t := 17) (pc := 101) dX11_copies_101 (by decide) ?_
        refine V.weak (lv' := [some (.ref 0), some (.int l1), some (.int (l2 + 1)), some (.int (l3 + 1)), none, none, none]) (And.intro rfl (And.intro rfl (And.intro rfl (And.intro rfl trivial)))) ?_
        exact h17 l1 (l2 + 1) (l3 + 1) w1 _ _ h
    · refine V.icmp_ge_f (t := 82) (pc := 49) dX11_copies_49 (by decide) c ?_
      refine V.iload (pc := 52) dX11_copies_52 rfl ?_
      rcases ite_e h with ⟨c, h⟩ | ⟨c, h⟩
      · refine V.if_eq_t (t := 82) (pc := 54) dX11_copies_54 (by decide) c ?_
        refine V.iload (pc := 82) dX11_copies_82 rfl ?_
        rcases ite_e h with ⟨c, h⟩ | ⟨c, h⟩
        · refine V.if_eq_t (t := 98) (pc := 84) dX11_copies_84 (by decide) c ?_
          refine V.iinc (lv' := [some (.ref 0), some (.int l1), some (.int l2), some (.int (l3 + 1)), some (.int l4), some (.int l5), some (.int l6)]) (pc := 98) dX11_copies_98 (Nat.le_of_ble_eq_true rfl) rfl rfl (v := (l3 + 1)) (by rw [show Int32.ofInt 1 = 1 from by decide]) rfl ?_
          refine V.goto (t := 17) (pc := 101) dX11_copies_101 (by decide) ?_
          refine V.weak (lv' := [some (.ref 0), some (.int l1), some (.int l2), some (.int (l3 + 1)), none, none, none]) (And.intro rfl (And.intro rfl (And.intro rfl (And.intro rfl trivial)))) ?_
          exact h17 l1 l2 (l3 + 1) w _ _ h
        · refine V.if_eq_f (t := 98) (pc := 84) dX11_copies_84 (by decide) c ?_
          refine V.aload_n (pc := 87) dX11_copies_87 rfl ?_
          refine V.getR (t := 43) (pc := 88) dX11_copies_88 f_RX11_85 k_cl11 lx_0 ly_0 rb_11_10 rr_0_10 ?_
          refine V.iload_n (pc := 91) dX11_copies_91 rfl ?_
          refine V.iinc (lv' := [some (.ref 0), some (.int l1), some (.int (l2 + 1)), some (.int l3), some (.int l4), some (.int l5), some (.int l6)]) (pc := 92) dX11_copies_92 (Nat.le_of_ble_eq_true rfl) rfl rfl (v := (l2 + 1)) (by rw [show Int32.ofInt 1 = 1 from by decide]) rfl ?_
          refine V.iload (pc := 95) dX11_copies_95 rfl ?_
          obtain ⟨w2, iw2, ew2, h⟩ := wrI_e h
          refine V.iastX (pc := 97) dX11_copies_97 lx_43 ly_43 iw2 ew2 ?_
          refine V.iinc (lv' := [some (.ref 0), some (.int l1), some (.int (l2 + 1)), some (.int (l3 + 1)), some (.int l4), some (.int l5), some (.int l6)]) (pc := 98) dX11_copies_98 (Nat.le_of_ble_eq_true rfl) rfl rfl (v := (l3 + 1)) (by rw [show Int32.ofInt 1 = 1 from by decide]) rfl ?_
          refine V.goto (t := 17) (pc := 101) dX11_copies_101 (by decide) ?_
          refine V.weak (lv' := [some (.ref 0), some (.int l1), some (.int (l2 + 1)), some (.int (l3 + 1)), none, none, none]) (And.intro rfl (And.intro rfl (And.intro rfl (And.intro rfl trivial)))) ?_
          exact h17 l1 (l2 + 1) (l3 + 1) w2 _ _ h
      · refine V.if_eq_f (t := 82) (pc := 54) dX11_copies_54 (by decide) c ?_
        refine V.aload_n (pc := 57) dX11_copies_57 rfl ?_
        refine V.getR (t := 43) (pc := 58) dX11_copies_58 f_RX11_85 k_cl11 lx_0 ly_0 rb_11_10 rr_0_10 ?_
        refine V.iload (pc := 61) dX11_copies_61 rfl ?_
        obtain ⟨x3, ix3, ex3, h⟩ := rdI_e h
        refine V.ialdX (pc := 63) dX11_copies_63 lx_43 ly_43 ix3 ex3 ?_
        refine V.iload (pc := 64) dX11_copies_64 rfl ?_
        rcases ite_e h with ⟨c, h⟩ | ⟨c, h⟩
        · refine V.icmp_eq_t (t := 73) (pc := 66) dX11_copies_66 (by decide) c ?_
          refine V.iconst (pc := 73) dX11_copies_73 ic_0 ?_
          refine V.istore (lv' := [some (.ref 0), some (.int l1), some (.int l2), some (.int l3), some (.int l4), some (.int 0), some (.int l6)]) (pc := 74) dX11_copies_74 (Nat.le_of_ble_eq_true rfl) rfl rfl ?_
          refine V.iinc (lv' := [some (.ref 0), some (.int l1), some (.int l2), some (.int l3), some (.int l4), some (.int 0), some (.int (l6 + 1))]) (pc := 76) dX11_copies_76 (Nat.le_of_ble_eq_true rfl) rfl rfl (v := (l6 + 1)) (by rw [show Int32.ofInt 1 = 1 from by decide]) rfl ?_
          refine V.goto (t := 46) (pc := 79) dX11_copies_79 (by decide) ?_
          exact h46 l1 l2 l3 l4 0 (l6 + 1) w _ _ h
        · refine V.icmp_eq_f (t := 73) (pc := 66) dX11_copies_66 (by decide) c ?_
          refine V.iconst (pc := 69) dX11_copies_69 ic_1 ?_
          refine V.goto (t := 74) (pc := 70) dX11_copies_70 (by decide) ?_
          refine V.istore (lv' := [some (.ref 0), some (.int l1), some (.int l2), some (.int l3), some (.int l4), some (.int 1), some (.int l6)]) (pc := 74) dX11_copies_74 (Nat.le_of_ble_eq_true rfl) rfl rfl ?_
          refine V.iinc (lv' := [some (.ref 0), some (.int l1), some (.int l2), some (.int l3), some (.int l4), some (.int 1), some (.int (l6 + 1))]) (pc := 76) dX11_copies_76 (Nat.le_of_ble_eq_true rfl) rfl rfl (v := (l6 + 1)) (by rw [show Int32.ofInt 1 = 1 from by decide]) rfl ?_
          refine V.goto (t := 46) (pc := 79) dX11_copies_79 (by decide) ?_
          exact h46 l1 l2 l3 l4 1 (l6 + 1) w _ _ h
def f_X11_copies_B17b (k17 : Int32 → Int32 → Int32 → Wd → Option (Int32 × Wd)) (l1 : Int32) (l2 : Int32) (l3 : Int32) (w : Wd) : Option (Int32 × Wd) :=
  if (w.1 6 7) ≤ l3 then
    some (l2, w)
  else
    bnd (f_X4_moved l3 l1 1 w) fun x1 =>
    f_X11_copies_L46 k17 FU l1 l2 l3 x1 1 0 w
def f_X11_copies_L17 (n : Nat) : Int32 → Int32 → Int32 → Wd → Option (Int32 × Wd) :=
  Nat.rec (fun _ _ _ _ => none) (fun _ k => f_X11_copies_B17b k) n
set_option maxHeartbeats 4000000 in
set_option maxRecDepth 100000 in
theorem t_X11_copies_L17 {G : GT} {d : Nat} (hd : 2 ≤ d + 1)  : ∀ (n : Nat) (l1 : Int32) (l2 : Int32) (l3 : Int32) (w : Wd) (r : Int32) (w' : Wd), f_X11_copies_L17 n l1 l2 l3 w = some (r, w') → U (vf G mX11_copies (d + 1)) 17 [some (.ref 0), some (.int l1), some (.int l2), some (.int l3), none, none, none] [] w (some (.int r), 70, r0, w') := by
  intro n
  induction n with
  | zero => intro l1 l2 l3 w r w' h; cases h
  | succ n h17 =>
    intro l1 l2 l3 w r w' h
    have h : f_X11_copies_B17b (f_X11_copies_L17 n) l1 l2 l3 w = some (r, w') := h
    unfold f_X11_copies_B17b at h
    refine V.iload_n (pc := 17) dX11_copies_17 rfl ?_
    refine V.aload_n (pc := 18) dX11_copies_18 rfl ?_
    refine V.getR (t := 6) (pc := 19) dX11_copies_19 f_RX11_28 k_cl11 lx_0 ly_0 rb_11_2 rr_0_2 ?_
    refine V.getI (pc := 22) dX11_copies_22 f_RX11_104 k_cl4 lx_6 ly_6 rb_4_7 ?_
    rcases ite_e h with ⟨c, h⟩ | ⟨c, h⟩
    · refine V.icmp_ge_t (t := 104) (pc := 25) dX11_copies_25 (by decide) c ?_
      refine V.iload_n (pc := 104) dX11_copies_104 rfl ?_
      obtain ⟨rfl, rfl⟩ := Prod.mk.inj (Option.some.inj h)
      exact V.iret (pc := 105) dX11_copies_105 rfl (Nat.le_refl _) (Nat.le_refl _)
    · refine V.icmp_ge_f (t := 104) (pc := 25) dX11_copies_25 (by decide) c ?_
      refine V.aload_n (pc := 28) dX11_copies_28 rfl ?_
      refine V.getR (t := 6) (pc := 29) dX11_copies_29 f_RX11_28 k_cl11 lx_0 ly_0 rb_11_2 rr_0_2 ?_
      refine V.iload_n (pc := 32) dX11_copies_32 rfl ?_
      refine V.iload_n (pc := 33) dX11_copies_33 rfl ?_
      refine V.iconst (pc := 34) dX11_copies_34 ic_1 ?_
      obtain ⟨x1, ex1, h⟩ := bnd_e h
      refine U.callV (pc := 35) (As := [.int l3, .int l1, .int 1]) (st := []) dX11_copies_35 l_RX11_136 (ok_X4_moved (by omega) l3 l1 1 ex1) lx_6 ly_6 cn_4 (Nat.le_of_ble_eq_true rfl) rfl rfl (Nat.le_of_ble_eq_true rfl) ?_
      refine V.istore (lv' := [some (.ref 0), some (.int l1), some (.int l2), some (.int l3), some (.int x1), none, none]) (pc := 38) dX11_copies_38 (Nat.le_of_ble_eq_true rfl) rfl rfl ?_
      refine V.iconst (pc := 40) dX11_copies_40 ic_1 ?_
      refine V.istore (lv' := [some (.ref 0), some (.int l1), some (.int l2), some (.int l3), some (.int x1), some (.int 1), none]) (pc := 41) dX11_copies_41 (Nat.le_of_ble_eq_true rfl) rfl rfl ?_
      refine V.iconst (pc := 43) dX11_copies_43 ic_0 ?_
      refine V.istore (lv' := [some (.ref 0), some (.int l1), some (.int l2), some (.int l3), some (.int x1), some (.int 1), some (.int 0)]) (pc := 44) dX11_copies_44 (Nat.le_of_ble_eq_true rfl) rfl rfl ?_
      exact t_X11_copies_L46 hd h17 FU l1 l2 l3 x1 1 0 w _ _ h
def f_X11_copies (l1 : Int32) (w : Wd) : Option (Int32 × Wd) :=
  if (f_X4_holdsSet l1 w) = 0 then
    some ((-1), w)
  else
    f_X11_copies_L17  FU l1 0 0 w
set_option maxHeartbeats 4000000 in
set_option maxRecDepth 100000 in
theorem ok_X11_copies {G : GT} {d : Nat} (hd : 2 ≤ d) {w : Wd} (l1 : Int32) {r : Int32} {w' : Wd} (h : f_X11_copies l1 w = some (r, w')) : uC G yX11_copies mX11_copies d [.ref 0, .int l1] w (some (.int r)) w' := by
  obtain ⟨d, rfl⟩ : ∃ e, d = e + 1 := ⟨d - 1, by omega⟩
  unfold f_X11_copies at h
  refine uC_of (lv := [some (.ref 0), some (.int l1), none, none, none, none, none]) 5 pn_X11 ⟨rfl, rfl⟩ (Nat.le_of_ble_eq_true rfl) rfl ?_
  refine V.aload_n (pc := 0) dX11_copies_0 rfl ?_
  refine V.getR (t := 6) (pc := 1) dX11_copies_1 f_RX11_28 k_cl11 lx_0 ly_0 rb_11_2 rr_0_2 ?_
  refine V.iload_n (pc := 4) dX11_copies_4 rfl ?_
  refine U.callV (pc := 5) (As := [.int l1]) (st := []) dX11_copies_5 l_RX11_118 (ok_X4_holdsSet (by omega) l1 ) lx_6 ly_6 cn_4 (Nat.le_of_ble_eq_true rfl) rfl rfl (Nat.le_of_ble_eq_true rfl) ?_
  rcases ite_e h with ⟨c, h⟩ | ⟨c, h⟩
  · refine V.if_ne_f (t := 13) (pc := 8) dX11_copies_8 (by decide) c ?_
    refine V.iconst (pc := 11) dX11_copies_11 ic_m1 ?_
    obtain ⟨rfl, rfl⟩ := Prod.mk.inj (Option.some.inj h)
    exact V.iret (pc := 12) dX11_copies_12 rfl (Nat.le_refl _) (Nat.le_refl _)
  · refine V.if_ne_t (t := 13) (pc := 8) dX11_copies_8 (by decide) c ?_
    refine V.iconst (pc := 13) dX11_copies_13 ic_0 ?_
    refine V.istore_n (lv' := [some (.ref 0), some (.int l1), some (.int 0), none, none, none, none]) (pc := 14) dX11_copies_14 (Nat.le_of_ble_eq_true rfl) rfl rfl ?_
    refine V.iconst (pc := 15) dX11_copies_15 ic_0 ?_
    refine V.istore_n (lv' := [some (.ref 0), some (.int l1), some (.int 0), some (.int 0), none, none, none]) (pc := 16) dX11_copies_16 (Nat.le_of_ble_eq_true rfl) rfl rfl ?_
    exact t_X11_copies_L17 hd FU l1 0 0 w _ _ h
theorem dX12_copies_0 : decode cX12_copies 0 = .ok (.aload_n 0, 1) := by decide +kernel
theorem dX12_copies_1 : decode cX12_copies 1 = .ok (.iload_n 1, 1) := by decide +kernel
theorem dX12_copies_2 : decode cX12_copies 2 = .ok (.invokevirtual 169, 3) := by decide +kernel
theorem dX12_copies_5 : decode cX12_copies 5 = .ok (.ifCond .ne 5, 3) := by decide +kernel
theorem dX12_copies_8 : decode cX12_copies 8 = .ok (.iconst (-1), 1) := by decide +kernel
theorem dX12_copies_9 : decode cX12_copies 9 = .ok (.ireturn, 1) := by decide +kernel
theorem dX12_copies_10 : decode cX12_copies 10 = .ok (.iconst 0, 1) := by decide +kernel
theorem dX12_copies_11 : decode cX12_copies 11 = .ok (.istore_n 2, 1) := by decide +kernel
theorem dX12_copies_12 : decode cX12_copies 12 = .ok (.iconst 0, 1) := by decide +kernel
theorem dX12_copies_13 : decode cX12_copies 13 = .ok (.istore_n 3, 1) := by decide +kernel
theorem dX12_copies_14 : decode cX12_copies 14 = .ok (.iload_n 3, 1) := by decide +kernel
theorem dX12_copies_15 : decode cX12_copies 15 = .ok (.aload_n 0, 1) := by decide +kernel
theorem dX12_copies_16 : decode cX12_copies 16 = .ok (.getfield 92, 3) := by decide +kernel
theorem dX12_copies_19 : decode cX12_copies 19 = .ok (.if_icmp .ge 65, 3) := by decide +kernel
theorem dX12_copies_22 : decode cX12_copies 22 = .ok (.iconst 1, 1) := by decide +kernel
theorem dX12_copies_23 : decode cX12_copies 23 = .ok (.istore 4, 2) := by decide +kernel
theorem dX12_copies_25 : decode cX12_copies 25 = .ok (.iconst 0, 1) := by decide +kernel
theorem dX12_copies_26 : decode cX12_copies 26 = .ok (.istore 5, 2) := by decide +kernel
theorem dX12_copies_28 : decode cX12_copies 28 = .ok (.iload 5, 2) := by decide +kernel
theorem dX12_copies_30 : decode cX12_copies 30 = .ok (.iload_n 3, 1) := by decide +kernel
theorem dX12_copies_31 : decode cX12_copies 31 = .ok (.if_icmp .ge 39, 3) := by decide +kernel
theorem dX12_copies_34 : decode cX12_copies 34 = .ok (.iload 4, 2) := by decide +kernel
theorem dX12_copies_36 : decode cX12_copies 36 = .ok (.ifCond .eq 25, 3) := by decide +kernel
theorem dX12_copies_39 : decode cX12_copies 39 = .ok (.aload_n 0, 1) := by decide +kernel
theorem dX12_copies_40 : decode cX12_copies 40 = .ok (.iload_n 1, 1) := by decide +kernel
theorem dX12_copies_41 : decode cX12_copies 41 = .ok (.iload 5, 2) := by decide +kernel
theorem dX12_copies_43 : decode cX12_copies 43 = .ok (.iconst 1, 1) := by decide +kernel
theorem dX12_copies_44 : decode cX12_copies 44 = .ok (.invokevirtual 178, 3) := by decide +kernel
theorem dX12_copies_47 : decode cX12_copies 47 = .ok (.aload_n 0, 1) := by decide +kernel
theorem dX12_copies_48 : decode cX12_copies 48 = .ok (.iload_n 1, 1) := by decide +kernel
theorem dX12_copies_49 : decode cX12_copies 49 = .ok (.iload_n 3, 1) := by decide +kernel
theorem dX12_copies_50 : decode cX12_copies 50 = .ok (.iconst 1, 1) := by decide +kernel
theorem dX12_copies_51 : decode cX12_copies 51 = .ok (.invokevirtual 178, 3) := by decide +kernel
theorem dX12_copies_54 : decode cX12_copies 54 = .ok (.if_icmp .eq 7, 3) := by decide +kernel
theorem dX12_copies_57 : decode cX12_copies 57 = .ok (.iconst 1, 1) := by decide +kernel
theorem dX12_copies_58 : decode cX12_copies 58 = .ok (.goto 4, 3) := by decide +kernel
theorem dX12_copies_61 : decode cX12_copies 61 = .ok (.iconst 0, 1) := by decide +kernel
theorem dX12_copies_62 : decode cX12_copies 62 = .ok (.istore 4, 2) := by decide +kernel
theorem dX12_copies_64 : decode cX12_copies 64 = .ok (.iinc 5 1, 3) := by decide +kernel
theorem dX12_copies_67 : decode cX12_copies 67 = .ok (.goto (-39), 3) := by decide +kernel
theorem dX12_copies_70 : decode cX12_copies 70 = .ok (.iload 4, 2) := by decide +kernel
theorem dX12_copies_72 : decode cX12_copies 72 = .ok (.ifCond .eq 6, 3) := by decide +kernel
theorem dX12_copies_75 : decode cX12_copies 75 = .ok (.iinc 2 1, 3) := by decide +kernel
theorem dX12_copies_78 : decode cX12_copies 78 = .ok (.iinc 3 1, 3) := by decide +kernel
theorem dX12_copies_81 : decode cX12_copies 81 = .ok (.goto (-67), 3) := by decide +kernel
theorem dX12_copies_84 : decode cX12_copies 84 = .ok (.iload_n 2, 1) := by decide +kernel
theorem dX12_copies_85 : decode cX12_copies 85 = .ok (.ireturn, 1) := by decide +kernel
def f_X12_copies_B28b (k14 : Int32 → Int32 → Int32 → Wd → Option Int32) (k28 : Int32 → Int32 → Int32 → Int32 → Int32 → Wd → Option Int32) (l1 : Int32) (l2 : Int32) (l3 : Int32) (l4 : Int32) (l5 : Int32) (w : Wd) : Option Int32 :=
  if l3 ≤ l5 then
    if l4 = 0 then
      k14 l1 l2 (l3 + 1) w
    else
      k14 l1 (l2 + 1) (l3 + 1) w
  else
    if l4 = 0 then
      k28 l1 l2 l3 0 (l5 + 1) w
    else
      bnd (f_X12_shifted l1 l5 1 w) fun x1 =>
      bnd (f_X12_shifted l1 l3 1 w) fun x2 =>
      if x1 = x2 then
        k28 l1 l2 l3 0 (l5 + 1) w
      else
        k28 l1 l2 l3 1 (l5 + 1) w
def f_X12_copies_L28 (k14 : Int32 → Int32 → Int32 → Wd → Option Int32) (n : Nat) : Int32 → Int32 → Int32 → Int32 → Int32 → Wd → Option Int32 :=
  Nat.rec (fun _ _ _ _ _ _ => none) (fun _ k => f_X12_copies_B28b k14 k) n
set_option maxHeartbeats 4000000 in
set_option maxRecDepth 100000 in
theorem t_X12_copies_L28 {G : GT} {d : Nat} {k14 : Int32 → Int32 → Int32 → Wd → Option Int32} {w : Wd} (hd : 2 ≤ d + 1) (h14 : ∀ (l1 : Int32) (l2 : Int32) (l3 : Int32) (r : Int32), k14 l1 l2 l3 w = some r → U (vf G mX12_copies (d + 1)) 14 [some (.ref 44), some (.int l1), some (.int l2), some (.int l3), none, none] [] w (some (.int r), 70, r0, w)) : ∀ (n : Nat) (l1 : Int32) (l2 : Int32) (l3 : Int32) (l4 : Int32) (l5 : Int32) (r : Int32), f_X12_copies_L28 k14 n l1 l2 l3 l4 l5 w = some r → U (vf G mX12_copies (d + 1)) 28 [some (.ref 44), some (.int l1), some (.int l2), some (.int l3), some (.int l4), some (.int l5)] [] w (some (.int r), 70, r0, w) := by
  intro n
  induction n with
  | zero => intro l1 l2 l3 l4 l5 r h; cases h
  | succ n h28 =>
    intro l1 l2 l3 l4 l5 r h
    have h : f_X12_copies_B28b k14 (f_X12_copies_L28 k14 n) l1 l2 l3 l4 l5 w = some r := h
    unfold f_X12_copies_B28b at h
    refine V.iload (pc := 28) dX12_copies_28 rfl ?_
    refine V.iload_n (pc := 30) dX12_copies_30 rfl ?_
    rcases ite_e h with ⟨c, h⟩ | ⟨c, h⟩
    · refine V.icmp_ge_t (t := 70) (pc := 31) dX12_copies_31 (by decide) c ?_
      refine V.iload (pc := 70) dX12_copies_70 rfl ?_
      rcases ite_e h with ⟨c, h⟩ | ⟨c, h⟩
      · refine V.if_eq_t (t := 78) (pc := 72) dX12_copies_72 (by decide) c ?_
        refine V.iinc (lv' := [some (.ref 44), some (.int l1), some (.int l2), some (.int (l3 + 1)), some (.int l4), some (.int l5)]) (pc := 78) dX12_copies_78 (Nat.le_of_ble_eq_true rfl) rfl rfl (v := (l3 + 1)) (by rw [show Int32.ofInt 1 = 1 from by decide]) rfl ?_
        refine V.goto (t := 14) (pc := 81) dX12_copies_81 (by decide) ?_
        refine V.weak (lv' := [some (.ref 44), some (.int l1), some (.int l2), some (.int (l3 + 1)), none, none]) (And.intro rfl (And.intro rfl (And.intro rfl (And.intro rfl trivial)))) ?_
        exact h14 l1 l2 (l3 + 1) _ h
      · refine V.if_eq_f (t := 78) (pc := 72) dX12_copies_72 (by decide) c ?_
        refine V.iinc (lv' := [some (.ref 44), some (.int l1), some (.int (l2 + 1)), some (.int l3), some (.int l4), some (.int l5)]) (pc := 75) dX12_copies_75 (Nat.le_of_ble_eq_true rfl) rfl rfl (v := (l2 + 1)) (by rw [show Int32.ofInt 1 = 1 from by decide]) rfl ?_
        refine V.iinc (lv' := [some (.ref 44), some (.int l1), some (.int (l2 + 1)), some (.int (l3 + 1)), some (.int l4), some (.int l5)]) (pc := 78) dX12_copies_78 (Nat.le_of_ble_eq_true rfl) rfl rfl (v := (l3 + 1)) (by rw [show Int32.ofInt 1 = 1 from by decide]) rfl ?_
        refine V.goto (t := 14) (pc := 81) dX12_copies_81 (by decide) ?_
        refine V.weak (lv' := [some (.ref 44), some (.int l1), some (.int (l2 + 1)), some (.int (l3 + 1)), none, none]) (And.intro rfl (And.intro rfl (And.intro rfl (And.intro rfl trivial)))) ?_
        exact h14 l1 (l2 + 1) (l3 + 1) _ h
    · refine V.icmp_ge_f (t := 70) (pc := 31) dX12_copies_31 (by decide) c ?_
      refine V.iload (pc := 34) dX12_copies_34 rfl ?_
      rcases ite_e h with ⟨c, h⟩ | ⟨c, h⟩
      · refine V.if_eq_t (t := 61) (pc := 36) dX12_copies_36 (by decide) c ?_
        refine V.iconst (pc := 61) dX12_copies_61 ic_0 ?_
        refine V.istore (lv' := [some (.ref 44), some (.int l1), some (.int l2), some (.int l3), some (.int 0), some (.int l5)]) (pc := 62) dX12_copies_62 (Nat.le_of_ble_eq_true rfl) rfl rfl ?_
        refine V.iinc (lv' := [some (.ref 44), some (.int l1), some (.int l2), some (.int l3), some (.int 0), some (.int (l5 + 1))]) (pc := 64) dX12_copies_64 (Nat.le_of_ble_eq_true rfl) rfl rfl (v := (l5 + 1)) (by rw [show Int32.ofInt 1 = 1 from by decide]) rfl ?_
        refine V.goto (t := 28) (pc := 67) dX12_copies_67 (by decide) ?_
        exact h28 l1 l2 l3 0 (l5 + 1) _ h
      · refine V.if_eq_f (t := 61) (pc := 36) dX12_copies_36 (by decide) c ?_
        refine V.aload_n (pc := 39) dX12_copies_39 rfl ?_
        refine V.iload_n (pc := 40) dX12_copies_40 rfl ?_
        refine V.iload (pc := 41) dX12_copies_41 rfl ?_
        refine V.iconst (pc := 43) dX12_copies_43 ic_1 ?_
        obtain ⟨x1, ex1, h⟩ := bnd_e h
        refine U.callV (pc := 44) (As := [.int l1, .int l5, .int 1]) (st := []) dX12_copies_44 l_RX12_178 (ok_X12_shifted (by omega) l1 l5 1 ex1) lx_44 ly_44 cn_12 (Nat.le_of_ble_eq_true rfl) rfl rfl (Nat.le_of_ble_eq_true rfl) ?_
        refine V.aload_n (pc := 47) dX12_copies_47 rfl ?_
        refine V.iload_n (pc := 48) dX12_copies_48 rfl ?_
        refine V.iload_n (pc := 49) dX12_copies_49 rfl ?_
        refine V.iconst (pc := 50) dX12_copies_50 ic_1 ?_
        obtain ⟨x2, ex2, h⟩ := bnd_e h
        refine U.callV (pc := 51) (As := [.int l1, .int l3, .int 1]) (st := [.int x1]) dX12_copies_51 l_RX12_178 (ok_X12_shifted (by omega) l1 l3 1 ex2) lx_44 ly_44 cn_12 (Nat.le_of_ble_eq_true rfl) rfl rfl (Nat.le_of_ble_eq_true rfl) ?_
        rcases ite_e h with ⟨c, h⟩ | ⟨c, h⟩
        · refine V.icmp_eq_t (t := 61) (pc := 54) dX12_copies_54 (by decide) c ?_
          refine V.iconst (pc := 61) dX12_copies_61 ic_0 ?_
          refine V.istore (lv' := [some (.ref 44), some (.int l1), some (.int l2), some (.int l3), some (.int 0), some (.int l5)]) (pc := 62) dX12_copies_62 (Nat.le_of_ble_eq_true rfl) rfl rfl ?_
          refine V.iinc (lv' := [some (.ref 44), some (.int l1), some (.int l2), some (.int l3), some (.int 0), some (.int (l5 + 1))]) (pc := 64) dX12_copies_64 (Nat.le_of_ble_eq_true rfl) rfl rfl (v := (l5 + 1)) (by rw [show Int32.ofInt 1 = 1 from by decide]) rfl ?_
          refine V.goto (t := 28) (pc := 67) dX12_copies_67 (by decide) ?_
          exact h28 l1 l2 l3 0 (l5 + 1) _ h
        · refine V.icmp_eq_f (t := 61) (pc := 54) dX12_copies_54 (by decide) c ?_
          refine V.iconst (pc := 57) dX12_copies_57 ic_1 ?_
          refine V.goto (t := 62) (pc := 58) dX12_copies_58 (by decide) ?_
          refine V.istore (lv' := [some (.ref 44), some (.int l1), some (.int l2), some (.int l3), some (.int 1), some (.int l5)]) (pc := 62) dX12_copies_62 (Nat.le_of_ble_eq_true rfl) rfl rfl ?_
          refine V.iinc (lv' := [some (.ref 44), some (.int l1), some (.int l2), some (.int l3), some (.int 1), some (.int (l5 + 1))]) (pc := 64) dX12_copies_64 (Nat.le_of_ble_eq_true rfl) rfl rfl (v := (l5 + 1)) (by rw [show Int32.ofInt 1 = 1 from by decide]) rfl ?_
          refine V.goto (t := 28) (pc := 67) dX12_copies_67 (by decide) ?_
          exact h28 l1 l2 l3 1 (l5 + 1) _ h
def f_X12_copies_B14b (k14 : Int32 → Int32 → Int32 → Wd → Option Int32) (l1 : Int32) (l2 : Int32) (l3 : Int32) (w : Wd) : Option Int32 :=
  if (w.1 44 1) ≤ l3 then
    some l2
  else
    f_X12_copies_L28 k14 FU l1 l2 l3 1 0 w
def f_X12_copies_L14 (n : Nat) : Int32 → Int32 → Int32 → Wd → Option Int32 :=
  Nat.rec (fun _ _ _ _ => none) (fun _ k => f_X12_copies_B14b k) n
set_option maxHeartbeats 4000000 in
set_option maxRecDepth 100000 in
theorem t_X12_copies_L14 {G : GT} {d : Nat} {w : Wd} (hd : 2 ≤ d + 1)  : ∀ (n : Nat) (l1 : Int32) (l2 : Int32) (l3 : Int32) (r : Int32), f_X12_copies_L14 n l1 l2 l3 w = some r → U (vf G mX12_copies (d + 1)) 14 [some (.ref 44), some (.int l1), some (.int l2), some (.int l3), none, none] [] w (some (.int r), 70, r0, w) := by
  intro n
  induction n with
  | zero => intro l1 l2 l3 r h; cases h
  | succ n h14 =>
    intro l1 l2 l3 r h
    have h : f_X12_copies_B14b (f_X12_copies_L14 n) l1 l2 l3 w = some r := h
    unfold f_X12_copies_B14b at h
    refine V.iload_n (pc := 14) dX12_copies_14 rfl ?_
    refine V.aload_n (pc := 15) dX12_copies_15 rfl ?_
    refine V.getI (pc := 16) dX12_copies_16 f_RX12_92 k_cl12 lx_44 ly_44 rb_12_1 ?_
    rcases ite_e h with ⟨c, h⟩ | ⟨c, h⟩
    · refine V.icmp_ge_t (t := 84) (pc := 19) dX12_copies_19 (by decide) c ?_
      refine V.iload_n (pc := 84) dX12_copies_84 rfl ?_
      obtain rfl := Option.some.inj h
      exact V.iret (pc := 85) dX12_copies_85 rfl (Nat.le_refl _) (Nat.le_refl _)
    · refine V.icmp_ge_f (t := 84) (pc := 19) dX12_copies_19 (by decide) c ?_
      refine V.iconst (pc := 22) dX12_copies_22 ic_1 ?_
      refine V.istore (lv' := [some (.ref 44), some (.int l1), some (.int l2), some (.int l3), some (.int 1), none]) (pc := 23) dX12_copies_23 (Nat.le_of_ble_eq_true rfl) rfl rfl ?_
      refine V.iconst (pc := 25) dX12_copies_25 ic_0 ?_
      refine V.istore (lv' := [some (.ref 44), some (.int l1), some (.int l2), some (.int l3), some (.int 1), some (.int 0)]) (pc := 26) dX12_copies_26 (Nat.le_of_ble_eq_true rfl) rfl rfl ?_
      exact t_X12_copies_L28 hd h14 FU l1 l2 l3 1 0 _ h
def f_X12_copies (l1 : Int32) (w : Wd) : Option Int32 :=
  if (f_X12_isSet l1 w) = 0 then
    some (-1)
  else
    f_X12_copies_L14  FU l1 0 0 w
set_option maxHeartbeats 4000000 in
set_option maxRecDepth 100000 in
theorem ok_X12_copies {G : GT} {d : Nat} (hd : 2 ≤ d) {w : Wd} (l1 : Int32) {r : Int32} (h : f_X12_copies l1 w = some r) : uC G yX12_copies mX12_copies d [.ref 44, .int l1] w (some (.int r)) w := by
  obtain ⟨d, rfl⟩ : ∃ e, d = e + 1 := ⟨d - 1, by omega⟩
  unfold f_X12_copies at h
  refine uC_of (lv := [some (.ref 44), some (.int l1), none, none, none, none]) 4 pn_X12 ⟨rfl, rfl⟩ (Nat.le_of_ble_eq_true rfl) rfl ?_
  refine V.aload_n (pc := 0) dX12_copies_0 rfl ?_
  refine V.iload_n (pc := 1) dX12_copies_1 rfl ?_
  refine U.callV (pc := 2) (As := [.int l1]) (st := []) dX12_copies_2 l_RX12_169 (ok_X12_isSet (by omega) l1 ) lx_44 ly_44 cn_12 (Nat.le_of_ble_eq_true rfl) rfl rfl (Nat.le_of_ble_eq_true rfl) ?_
  rcases ite_e h with ⟨c, h⟩ | ⟨c, h⟩
  · refine V.if_ne_f (t := 10) (pc := 5) dX12_copies_5 (by decide) c ?_
    refine V.iconst (pc := 8) dX12_copies_8 ic_m1 ?_
    obtain rfl := Option.some.inj h
    exact V.iret (pc := 9) dX12_copies_9 rfl (Nat.le_refl _) (Nat.le_refl _)
  · refine V.if_ne_t (t := 10) (pc := 5) dX12_copies_5 (by decide) c ?_
    refine V.iconst (pc := 10) dX12_copies_10 ic_0 ?_
    refine V.istore_n (lv' := [some (.ref 44), some (.int l1), some (.int 0), none, none, none]) (pc := 11) dX12_copies_11 (Nat.le_of_ble_eq_true rfl) rfl rfl ?_
    refine V.iconst (pc := 12) dX12_copies_12 ic_0 ?_
    refine V.istore_n (lv' := [some (.ref 44), some (.int l1), some (.int 0), some (.int 0), none, none]) (pc := 13) dX12_copies_13 (Nat.le_of_ble_eq_true rfl) rfl rfl ?_
    exact t_X12_copies_L14 hd FU l1 0 0 _ h
theorem dX4_openOf_0 : decode cX4_openOf 0 = .ok (.aload_n 0, 1) := by decide +kernel
theorem dX4_openOf_1 : decode cX4_openOf 1 = .ok (.iload_n 1, 1) := by decide +kernel
theorem dX4_openOf_2 : decode cX4_openOf 2 = .ok (.invokevirtual 99, 3) := by decide +kernel
theorem dX4_openOf_5 : decode cX4_openOf 5 = .ok (.ifCond .ne 5, 3) := by decide +kernel
theorem dX4_openOf_8 : decode cX4_openOf 8 = .ok (.iconst 0, 1) := by decide +kernel
theorem dX4_openOf_9 : decode cX4_openOf 9 = .ok (.ireturn, 1) := by decide +kernel
theorem dX4_openOf_10 : decode cX4_openOf 10 = .ok (.iconst 0, 1) := by decide +kernel
theorem dX4_openOf_11 : decode cX4_openOf 11 = .ok (.istore_n 2, 1) := by decide +kernel
theorem dX4_openOf_12 : decode cX4_openOf 12 = .ok (.iconst 0, 1) := by decide +kernel
theorem dX4_openOf_13 : decode cX4_openOf 13 = .ok (.istore_n 3, 1) := by decide +kernel
theorem dX4_openOf_14 : decode cX4_openOf 14 = .ok (.iload_n 3, 1) := by decide +kernel
theorem dX4_openOf_15 : decode cX4_openOf 15 = .ok (.aload_n 0, 1) := by decide +kernel
theorem dX4_openOf_16 : decode cX4_openOf 16 = .ok (.getfield 30, 3) := by decide +kernel
theorem dX4_openOf_19 : decode cX4_openOf 19 = .ok (.if_icmp .ge 32, 3) := by decide +kernel
theorem dX4_openOf_22 : decode cX4_openOf 22 = .ok (.iload_n 1, 1) := by decide +kernel
theorem dX4_openOf_23 : decode cX4_openOf 23 = .ok (.iload_n 3, 1) := by decide +kernel
theorem dX4_openOf_24 : decode cX4_openOf 24 = .ok (.ishr, 1) := by decide +kernel
theorem dX4_openOf_25 : decode cX4_openOf 25 = .ok (.iconst 1, 1) := by decide +kernel
theorem dX4_openOf_26 : decode cX4_openOf 26 = .ok (.iand, 1) := by decide +kernel
theorem dX4_openOf_27 : decode cX4_openOf 27 = .ok (.ifCond .ne 18, 3) := by decide +kernel
theorem dX4_openOf_30 : decode cX4_openOf 30 = .ok (.aload_n 0, 1) := by decide +kernel
theorem dX4_openOf_31 : decode cX4_openOf 31 = .ok (.iload_n 1, 1) := by decide +kernel
theorem dX4_openOf_32 : decode cX4_openOf 32 = .ok (.iload_n 3, 1) := by decide +kernel
theorem dX4_openOf_33 : decode cX4_openOf 33 = .ok (.invokevirtual 103, 3) := by decide +kernel
theorem dX4_openOf_36 : decode cX4_openOf 36 = .ok (.ifCond .eq 9, 3) := by decide +kernel
theorem dX4_openOf_39 : decode cX4_openOf 39 = .ok (.iload_n 2, 1) := by decide +kernel
theorem dX4_openOf_40 : decode cX4_openOf 40 = .ok (.iconst 1, 1) := by decide +kernel
theorem dX4_openOf_41 : decode cX4_openOf 41 = .ok (.iload_n 3, 1) := by decide +kernel
theorem dX4_openOf_42 : decode cX4_openOf 42 = .ok (.ishl, 1) := by decide +kernel
theorem dX4_openOf_43 : decode cX4_openOf 43 = .ok (.ior, 1) := by decide +kernel
theorem dX4_openOf_44 : decode cX4_openOf 44 = .ok (.istore_n 2, 1) := by decide +kernel
theorem dX4_openOf_45 : decode cX4_openOf 45 = .ok (.iinc 3 1, 3) := by decide +kernel
theorem dX4_openOf_48 : decode cX4_openOf 48 = .ok (.goto (-34), 3) := by decide +kernel
theorem dX4_openOf_51 : decode cX4_openOf 51 = .ok (.iload_n 2, 1) := by decide +kernel
theorem dX4_openOf_52 : decode cX4_openOf 52 = .ok (.ireturn, 1) := by decide +kernel
def f_X4_openOf_B14b (k14 : Int32 → Int32 → Int32 → Wd → Option Int32) (l1 : Int32) (l2 : Int32) (l3 : Int32) (w : Wd) : Option Int32 :=
  if (w.1 6 7) ≤ l3 then
    some l2
  else
    if ((l1 >>> (l3 &&& 31)) &&& 1) = 0 then
      bnd (f_X4_staysFree l1 l3 w) fun x1 =>
      if x1 = 0 then
        k14 l1 l2 (l3 + 1) w
      else
        k14 l1 (l2 ||| (1 <<< (l3 &&& 31))) (l3 + 1) w
    else
      k14 l1 l2 (l3 + 1) w
def f_X4_openOf_L14 (n : Nat) : Int32 → Int32 → Int32 → Wd → Option Int32 :=
  Nat.rec (fun _ _ _ _ => none) (fun _ k => f_X4_openOf_B14b k) n
set_option maxHeartbeats 4000000 in
set_option maxRecDepth 100000 in
theorem t_X4_openOf_L14 {G : GT} {d : Nat} {w : Wd} (hd : 3 ≤ d + 1)  : ∀ (n : Nat) (l1 : Int32) (l2 : Int32) (l3 : Int32) (r : Int32), f_X4_openOf_L14 n l1 l2 l3 w = some r → U (vf G mX4_openOf (d + 1)) 14 [some (.ref 6), some (.int l1), some (.int l2), some (.int l3)] [] w (some (.int r), 70, r0, w) := by
  intro n
  induction n with
  | zero => intro l1 l2 l3 r h; cases h
  | succ n h14 =>
    intro l1 l2 l3 r h
    have h : f_X4_openOf_B14b (f_X4_openOf_L14 n) l1 l2 l3 w = some r := h
    unfold f_X4_openOf_B14b at h
    refine V.iload_n (pc := 14) dX4_openOf_14 rfl ?_
    refine V.aload_n (pc := 15) dX4_openOf_15 rfl ?_
    refine V.getI (pc := 16) dX4_openOf_16 f_RX4_30 k_cl4 lx_6 ly_6 rb_4_7 ?_
    rcases ite_e h with ⟨c, h⟩ | ⟨c, h⟩
    · refine V.icmp_ge_t (t := 51) (pc := 19) dX4_openOf_19 (by decide) c ?_
      refine V.iload_n (pc := 51) dX4_openOf_51 rfl ?_
      obtain rfl := Option.some.inj h
      exact V.iret (pc := 52) dX4_openOf_52 rfl (Nat.le_refl _) (Nat.le_refl _)
    · refine V.icmp_ge_f (t := 51) (pc := 19) dX4_openOf_19 (by decide) c ?_
      refine V.iload_n (pc := 22) dX4_openOf_22 rfl ?_
      refine V.iload_n (pc := 23) dX4_openOf_23 rfl ?_
      refine V.ishr (pc := 24) dX4_openOf_24 ?_
      refine V.iconst (pc := 25) dX4_openOf_25 ic_1 ?_
      refine V.iand (pc := 26) dX4_openOf_26 ?_
      rcases ite_e h with ⟨c, h⟩ | ⟨c, h⟩
      · refine V.if_ne_f (t := 45) (pc := 27) dX4_openOf_27 (by decide) c ?_
        refine V.aload_n (pc := 30) dX4_openOf_30 rfl ?_
        refine V.iload_n (pc := 31) dX4_openOf_31 rfl ?_
        refine V.iload_n (pc := 32) dX4_openOf_32 rfl ?_
        obtain ⟨x1, ex1, h⟩ := bnd_e h
        refine U.callV (pc := 33) (As := [.int l1, .int l3]) (st := []) dX4_openOf_33 l_RX4_103 (ok_X4_staysFree (by omega) l1 l3 ex1) lx_6 ly_6 cn_4 (Nat.le_of_ble_eq_true rfl) rfl rfl (Nat.le_of_ble_eq_true rfl) ?_
        rcases ite_e h with ⟨c, h⟩ | ⟨c, h⟩
        · refine V.if_eq_t (t := 45) (pc := 36) dX4_openOf_36 (by decide) c ?_
          refine V.iinc (lv' := [some (.ref 6), some (.int l1), some (.int l2), some (.int (l3 + 1))]) (pc := 45) dX4_openOf_45 (Nat.le_of_ble_eq_true rfl) rfl rfl (v := (l3 + 1)) (by rw [show Int32.ofInt 1 = 1 from by decide]) rfl ?_
          refine V.goto (t := 14) (pc := 48) dX4_openOf_48 (by decide) ?_
          exact h14 l1 l2 (l3 + 1) _ h
        · refine V.if_eq_f (t := 45) (pc := 36) dX4_openOf_36 (by decide) c ?_
          refine V.iload_n (pc := 39) dX4_openOf_39 rfl ?_
          refine V.iconst (pc := 40) dX4_openOf_40 ic_1 ?_
          refine V.iload_n (pc := 41) dX4_openOf_41 rfl ?_
          refine V.ishl (pc := 42) dX4_openOf_42 ?_
          refine V.ior (pc := 43) dX4_openOf_43 ?_
          refine V.istore_n (lv' := [some (.ref 6), some (.int l1), some (.int (l2 ||| (1 <<< (l3 &&& 31)))), some (.int l3)]) (pc := 44) dX4_openOf_44 (Nat.le_of_ble_eq_true rfl) rfl rfl ?_
          refine V.iinc (lv' := [some (.ref 6), some (.int l1), some (.int (l2 ||| (1 <<< (l3 &&& 31)))), some (.int (l3 + 1))]) (pc := 45) dX4_openOf_45 (Nat.le_of_ble_eq_true rfl) rfl rfl (v := (l3 + 1)) (by rw [show Int32.ofInt 1 = 1 from by decide]) rfl ?_
          refine V.goto (t := 14) (pc := 48) dX4_openOf_48 (by decide) ?_
          exact h14 l1 (l2 ||| (1 <<< (l3 &&& 31))) (l3 + 1) _ h
      · refine V.if_ne_t (t := 45) (pc := 27) dX4_openOf_27 (by decide) c ?_
        refine V.iinc (lv' := [some (.ref 6), some (.int l1), some (.int l2), some (.int (l3 + 1))]) (pc := 45) dX4_openOf_45 (Nat.le_of_ble_eq_true rfl) rfl rfl (v := (l3 + 1)) (by rw [show Int32.ofInt 1 = 1 from by decide]) rfl ?_
        refine V.goto (t := 14) (pc := 48) dX4_openOf_48 (by decide) ?_
        exact h14 l1 l2 (l3 + 1) _ h
def f_X4_openOf (l1 : Int32) (w : Wd) : Option Int32 :=
  bnd (f_X4_isFree l1 w) fun x1 =>
  if x1 = 0 then
    some 0
  else
    f_X4_openOf_L14  FU l1 0 0 w
set_option maxHeartbeats 4000000 in
set_option maxRecDepth 100000 in
theorem ok_X4_openOf {G : GT} {d : Nat} (hd : 3 ≤ d) {w : Wd} (l1 : Int32) {r : Int32} (h : f_X4_openOf l1 w = some r) : uC G yX4_openOf mX4_openOf d [.ref 6, .int l1] w (some (.int r)) w := by
  obtain ⟨d, rfl⟩ : ∃ e, d = e + 1 := ⟨d - 1, by omega⟩
  unfold f_X4_openOf at h
  refine uC_of (lv := [some (.ref 6), some (.int l1), none, none]) 2 pn_X4 ⟨rfl, rfl⟩ (Nat.le_of_ble_eq_true rfl) rfl ?_
  refine V.aload_n (pc := 0) dX4_openOf_0 rfl ?_
  refine V.iload_n (pc := 1) dX4_openOf_1 rfl ?_
  obtain ⟨x1, ex1, h⟩ := bnd_e h
  refine U.callV (pc := 2) (As := [.int l1]) (st := []) dX4_openOf_2 l_RX4_99 (ok_X4_isFree (by omega) l1 ex1) lx_6 ly_6 cn_4 (Nat.le_of_ble_eq_true rfl) rfl rfl (Nat.le_of_ble_eq_true rfl) ?_
  rcases ite_e h with ⟨c, h⟩ | ⟨c, h⟩
  · refine V.if_ne_f (t := 10) (pc := 5) dX4_openOf_5 (by decide) c ?_
    refine V.iconst (pc := 8) dX4_openOf_8 ic_0 ?_
    obtain rfl := Option.some.inj h
    exact V.iret (pc := 9) dX4_openOf_9 rfl (Nat.le_refl _) (Nat.le_refl _)
  · refine V.if_ne_t (t := 10) (pc := 5) dX4_openOf_5 (by decide) c ?_
    refine V.iconst (pc := 10) dX4_openOf_10 ic_0 ?_
    refine V.istore_n (lv' := [some (.ref 6), some (.int l1), some (.int 0), none]) (pc := 11) dX4_openOf_11 (Nat.le_of_ble_eq_true rfl) rfl rfl ?_
    refine V.iconst (pc := 12) dX4_openOf_12 ic_0 ?_
    refine V.istore_n (lv' := [some (.ref 6), some (.int l1), some (.int 0), some (.int 0)]) (pc := 13) dX4_openOf_13 (Nat.le_of_ble_eq_true rfl) rfl rfl ?_
    exact t_X4_openOf_L14 hd FU l1 0 0 _ h
theorem dX11_open_0 : decode cX11_open 0 = .ok (.aload_n 0, 1) := by decide +kernel
theorem dX11_open_1 : decode cX11_open 1 = .ok (.getfield 28, 3) := by decide +kernel
theorem dX11_open_4 : decode cX11_open 4 = .ok (.iload_n 1, 1) := by decide +kernel
theorem dX11_open_5 : decode cX11_open 5 = .ok (.invokevirtual 118, 3) := by decide +kernel
theorem dX11_open_8 : decode cX11_open 8 = .ok (.ifCond .eq 14, 3) := by decide +kernel
theorem dX11_open_11 : decode cX11_open 11 = .ok (.aload_n 0, 1) := by decide +kernel
theorem dX11_open_12 : decode cX11_open 12 = .ok (.getfield 28, 3) := by decide +kernel
theorem dX11_open_15 : decode cX11_open 15 = .ok (.iload_n 1, 1) := by decide +kernel
theorem dX11_open_16 : decode cX11_open 16 = .ok (.invokevirtual 205, 3) := by decide +kernel
theorem dX11_open_19 : decode cX11_open 19 = .ok (.goto 4, 3) := by decide +kernel
theorem dX11_open_22 : decode cX11_open 22 = .ok (.iconst (-1), 1) := by decide +kernel
theorem dX11_open_23 : decode cX11_open 23 = .ok (.ireturn, 1) := by decide +kernel
def f_X11_open (l1 : Int32) (w : Wd) : Option Int32 :=
  if (f_X4_holdsSet l1 w) = 0 then
    some (-1)
  else
    bnd (f_X4_openOf l1 w) fun x1 =>
    some x1
set_option maxHeartbeats 4000000 in
set_option maxRecDepth 100000 in
theorem ok_X11_open {G : GT} {d : Nat} (hd : 4 ≤ d) {w : Wd} (l1 : Int32) {r : Int32} (h : f_X11_open l1 w = some r) : uC G yX11_open mX11_open d [.ref 0, .int l1] w (some (.int r)) w := by
  obtain ⟨d, rfl⟩ : ∃ e, d = e + 1 := ⟨d - 1, by omega⟩
  unfold f_X11_open at h
  refine uC_of (lv := [some (.ref 0), some (.int l1)]) 0 pn_X11 ⟨rfl, rfl⟩ (Nat.le_of_ble_eq_true rfl) rfl ?_
  refine V.aload_n (pc := 0) dX11_open_0 rfl ?_
  refine V.getR (t := 6) (pc := 1) dX11_open_1 f_RX11_28 k_cl11 lx_0 ly_0 rb_11_2 rr_0_2 ?_
  refine V.iload_n (pc := 4) dX11_open_4 rfl ?_
  refine U.callV (pc := 5) (As := [.int l1]) (st := []) dX11_open_5 l_RX11_118 (ok_X4_holdsSet (by omega) l1 ) lx_6 ly_6 cn_4 (Nat.le_of_ble_eq_true rfl) rfl rfl (Nat.le_of_ble_eq_true rfl) ?_
  rcases ite_e h with ⟨c, h⟩ | ⟨c, h⟩
  · refine V.if_eq_t (t := 22) (pc := 8) dX11_open_8 (by decide) c ?_
    refine V.iconst (pc := 22) dX11_open_22 ic_m1 ?_
    obtain rfl := Option.some.inj h
    exact V.iret (pc := 23) dX11_open_23 rfl (Nat.le_refl _) (Nat.le_refl _)
  · refine V.if_eq_f (t := 22) (pc := 8) dX11_open_8 (by decide) c ?_
    refine V.aload_n (pc := 11) dX11_open_11 rfl ?_
    refine V.getR (t := 6) (pc := 12) dX11_open_12 f_RX11_28 k_cl11 lx_0 ly_0 rb_11_2 rr_0_2 ?_
    refine V.iload_n (pc := 15) dX11_open_15 rfl ?_
    obtain ⟨x1, ex1, h⟩ := bnd_e h
    refine U.callV (pc := 16) (As := [.int l1]) (st := []) dX11_open_16 l_RX11_205 (ok_X4_openOf (by omega) l1 ex1) lx_6 ly_6 cn_4 (Nat.le_of_ble_eq_true rfl) rfl rfl (Nat.le_of_ble_eq_true rfl) ?_
    refine V.goto (t := 23) (pc := 19) dX11_open_19 (by decide) ?_
    obtain rfl := Option.some.inj h
    exact V.iret (pc := 23) dX11_open_23 rfl (Nat.le_refl _) (Nat.le_refl _)
theorem dX12_open_0 : decode cX12_open 0 = .ok (.aload_n 0, 1) := by decide +kernel
theorem dX12_open_1 : decode cX12_open 1 = .ok (.iload_n 1, 1) := by decide +kernel
theorem dX12_open_2 : decode cX12_open 2 = .ok (.invokevirtual 169, 3) := by decide +kernel
theorem dX12_open_5 : decode cX12_open 5 = .ok (.ifCond .eq 11, 3) := by decide +kernel
theorem dX12_open_8 : decode cX12_open 8 = .ok (.aload_n 0, 1) := by decide +kernel
theorem dX12_open_9 : decode cX12_open 9 = .ok (.iload_n 1, 1) := by decide +kernel
theorem dX12_open_10 : decode cX12_open 10 = .ok (.invokevirtual 154, 3) := by decide +kernel
theorem dX12_open_13 : decode cX12_open 13 = .ok (.goto 4, 3) := by decide +kernel
theorem dX12_open_16 : decode cX12_open 16 = .ok (.iconst (-1), 1) := by decide +kernel
theorem dX12_open_17 : decode cX12_open 17 = .ok (.ireturn, 1) := by decide +kernel
def f_X12_open (l1 : Int32) (w : Wd) : Option Int32 :=
  if (f_X12_isSet l1 w) = 0 then
    some (-1)
  else
    bnd (f_X12_openTo l1 w) fun x1 =>
    some x1
set_option maxHeartbeats 4000000 in
set_option maxRecDepth 100000 in
theorem ok_X12_open {G : GT} {d : Nat} (hd : 3 ≤ d) {w : Wd} (l1 : Int32) {r : Int32} (h : f_X12_open l1 w = some r) : uC G yX12_open mX12_open d [.ref 44, .int l1] w (some (.int r)) w := by
  obtain ⟨d, rfl⟩ : ∃ e, d = e + 1 := ⟨d - 1, by omega⟩
  unfold f_X12_open at h
  refine uC_of (lv := [some (.ref 44), some (.int l1)]) 0 pn_X12 ⟨rfl, rfl⟩ (Nat.le_of_ble_eq_true rfl) rfl ?_
  refine V.aload_n (pc := 0) dX12_open_0 rfl ?_
  refine V.iload_n (pc := 1) dX12_open_1 rfl ?_
  refine U.callV (pc := 2) (As := [.int l1]) (st := []) dX12_open_2 l_RX12_169 (ok_X12_isSet (by omega) l1 ) lx_44 ly_44 cn_12 (Nat.le_of_ble_eq_true rfl) rfl rfl (Nat.le_of_ble_eq_true rfl) ?_
  rcases ite_e h with ⟨c, h⟩ | ⟨c, h⟩
  · refine V.if_eq_t (t := 16) (pc := 5) dX12_open_5 (by decide) c ?_
    refine V.iconst (pc := 16) dX12_open_16 ic_m1 ?_
    obtain rfl := Option.some.inj h
    exact V.iret (pc := 17) dX12_open_17 rfl (Nat.le_refl _) (Nat.le_refl _)
  · refine V.if_eq_f (t := 16) (pc := 5) dX12_open_5 (by decide) c ?_
    refine V.aload_n (pc := 8) dX12_open_8 rfl ?_
    refine V.iload_n (pc := 9) dX12_open_9 rfl ?_
    obtain ⟨x1, ex1, h⟩ := bnd_e h
    refine U.callV (pc := 10) (As := [.int l1]) (st := []) dX12_open_10 l_RX12_154 (ok_X12_openTo (by omega) l1 ex1) lx_44 ly_44 cn_12 (Nat.le_of_ble_eq_true rfl) rfl rfl (Nat.le_of_ble_eq_true rfl) ?_
    refine V.goto (t := 17) (pc := 13) dX12_open_13 (by decide) ?_
    obtain rfl := Option.some.inj h
    exact V.iret (pc := 17) dX12_open_17 rfl (Nat.le_refl _) (Nat.le_refl _)
theorem dX11_period_0 : decode cX11_period 0 = .ok (.aload_n 0, 1) := by decide +kernel
theorem dX11_period_1 : decode cX11_period 1 = .ok (.getfield 28, 3) := by decide +kernel
theorem dX11_period_4 : decode cX11_period 4 = .ok (.iload_n 1, 1) := by decide +kernel
theorem dX11_period_5 : decode cX11_period 5 = .ok (.invokevirtual 118, 3) := by decide +kernel
theorem dX11_period_8 : decode cX11_period 8 = .ok (.ifCond .ne 5, 3) := by decide +kernel
theorem dX11_period_11 : decode cX11_period 11 = .ok (.iconst (-1), 1) := by decide +kernel
theorem dX11_period_12 : decode cX11_period 12 = .ok (.ireturn, 1) := by decide +kernel
theorem dX11_period_13 : decode cX11_period 13 = .ok (.iconst 0, 1) := by decide +kernel
theorem dX11_period_14 : decode cX11_period 14 = .ok (.istore_n 3, 1) := by decide +kernel
theorem dX11_period_15 : decode cX11_period 15 = .ok (.iconst 0, 1) := by decide +kernel
theorem dX11_period_16 : decode cX11_period 16 = .ok (.istore 4, 2) := by decide +kernel
theorem dX11_period_18 : decode cX11_period 18 = .ok (.iload 4, 2) := by decide +kernel
theorem dX11_period_20 : decode cX11_period 20 = .ok (.aload_n 0, 1) := by decide +kernel
theorem dX11_period_21 : decode cX11_period 21 = .ok (.getfield 28, 3) := by decide +kernel
theorem dX11_period_24 : decode cX11_period 24 = .ok (.getfield 104, 3) := by decide +kernel
theorem dX11_period_27 : decode cX11_period 27 = .ok (.if_icmp .ge 31, 3) := by decide +kernel
theorem dX11_period_30 : decode cX11_period 30 = .ok (.aload_n 0, 1) := by decide +kernel
theorem dX11_period_31 : decode cX11_period 31 = .ok (.getfield 28, 3) := by decide +kernel
theorem dX11_period_34 : decode cX11_period 34 = .ok (.iload 4, 2) := by decide +kernel
theorem dX11_period_36 : decode cX11_period 36 = .ok (.iload_n 1, 1) := by decide +kernel
theorem dX11_period_37 : decode cX11_period 37 = .ok (.iload_n 2, 1) := by decide +kernel
theorem dX11_period_38 : decode cX11_period 38 = .ok (.invokevirtual 136, 3) := by decide +kernel
theorem dX11_period_41 : decode cX11_period 41 = .ok (.iload_n 1, 1) := by decide +kernel
theorem dX11_period_42 : decode cX11_period 42 = .ok (.if_icmp .ne 10, 3) := by decide +kernel
theorem dX11_period_45 : decode cX11_period 45 = .ok (.iload_n 3, 1) := by decide +kernel
theorem dX11_period_46 : decode cX11_period 46 = .ok (.iconst 1, 1) := by decide +kernel
theorem dX11_period_47 : decode cX11_period 47 = .ok (.iload 4, 2) := by decide +kernel
theorem dX11_period_49 : decode cX11_period 49 = .ok (.ishl, 1) := by decide +kernel
theorem dX11_period_50 : decode cX11_period 50 = .ok (.ior, 1) := by decide +kernel
theorem dX11_period_51 : decode cX11_period 51 = .ok (.istore_n 3, 1) := by decide +kernel
theorem dX11_period_52 : decode cX11_period 52 = .ok (.iinc 4 1, 3) := by decide +kernel
theorem dX11_period_55 : decode cX11_period 55 = .ok (.goto (-37), 3) := by decide +kernel
theorem dX11_period_58 : decode cX11_period 58 = .ok (.iload_n 3, 1) := by decide +kernel
theorem dX11_period_59 : decode cX11_period 59 = .ok (.ireturn, 1) := by decide +kernel
def f_X11_period_B18b (k18 : Int32 → Int32 → Int32 → Int32 → Wd → Option Int32) (l1 : Int32) (l2 : Int32) (l3 : Int32) (l4 : Int32) (w : Wd) : Option Int32 :=
  if (w.1 6 7) ≤ l4 then
    some l3
  else
    bnd (f_X4_moved l4 l1 l2 w) fun x1 =>
    if x1 = l1 then
      k18 l1 l2 (l3 ||| (1 <<< (l4 &&& 31))) (l4 + 1) w
    else
      k18 l1 l2 l3 (l4 + 1) w
def f_X11_period_L18 (n : Nat) : Int32 → Int32 → Int32 → Int32 → Wd → Option Int32 :=
  Nat.rec (fun _ _ _ _ _ => none) (fun _ k => f_X11_period_B18b k) n
set_option maxHeartbeats 4000000 in
set_option maxRecDepth 100000 in
theorem t_X11_period_L18 {G : GT} {d : Nat} {w : Wd} (hd : 2 ≤ d + 1)  : ∀ (n : Nat) (l1 : Int32) (l2 : Int32) (l3 : Int32) (l4 : Int32) (r : Int32), f_X11_period_L18 n l1 l2 l3 l4 w = some r → U (vf G mX11_period (d + 1)) 18 [some (.ref 0), some (.int l1), some (.int l2), some (.int l3), some (.int l4)] [] w (some (.int r), 70, r0, w) := by
  intro n
  induction n with
  | zero => intro l1 l2 l3 l4 r h; cases h
  | succ n h18 =>
    intro l1 l2 l3 l4 r h
    have h : f_X11_period_B18b (f_X11_period_L18 n) l1 l2 l3 l4 w = some r := h
    unfold f_X11_period_B18b at h
    refine V.iload (pc := 18) dX11_period_18 rfl ?_
    refine V.aload_n (pc := 20) dX11_period_20 rfl ?_
    refine V.getR (t := 6) (pc := 21) dX11_period_21 f_RX11_28 k_cl11 lx_0 ly_0 rb_11_2 rr_0_2 ?_
    refine V.getI (pc := 24) dX11_period_24 f_RX11_104 k_cl4 lx_6 ly_6 rb_4_7 ?_
    rcases ite_e h with ⟨c, h⟩ | ⟨c, h⟩
    · refine V.icmp_ge_t (t := 58) (pc := 27) dX11_period_27 (by decide) c ?_
      refine V.iload_n (pc := 58) dX11_period_58 rfl ?_
      obtain rfl := Option.some.inj h
      exact V.iret (pc := 59) dX11_period_59 rfl (Nat.le_refl _) (Nat.le_refl _)
    · refine V.icmp_ge_f (t := 58) (pc := 27) dX11_period_27 (by decide) c ?_
      refine V.aload_n (pc := 30) dX11_period_30 rfl ?_
      refine V.getR (t := 6) (pc := 31) dX11_period_31 f_RX11_28 k_cl11 lx_0 ly_0 rb_11_2 rr_0_2 ?_
      refine V.iload (pc := 34) dX11_period_34 rfl ?_
      refine V.iload_n (pc := 36) dX11_period_36 rfl ?_
      refine V.iload_n (pc := 37) dX11_period_37 rfl ?_
      obtain ⟨x1, ex1, h⟩ := bnd_e h
      refine U.callV (pc := 38) (As := [.int l4, .int l1, .int l2]) (st := []) dX11_period_38 l_RX11_136 (ok_X4_moved (by omega) l4 l1 l2 ex1) lx_6 ly_6 cn_4 (Nat.le_of_ble_eq_true rfl) rfl rfl (Nat.le_of_ble_eq_true rfl) ?_
      refine V.iload_n (pc := 41) dX11_period_41 rfl ?_
      rcases ite_e h with ⟨c, h⟩ | ⟨c, h⟩
      · refine V.icmp_ne_f (t := 52) (pc := 42) dX11_period_42 (by decide) c ?_
        refine V.iload_n (pc := 45) dX11_period_45 rfl ?_
        refine V.iconst (pc := 46) dX11_period_46 ic_1 ?_
        refine V.iload (pc := 47) dX11_period_47 rfl ?_
        refine V.ishl (pc := 49) dX11_period_49 ?_
        refine V.ior (pc := 50) dX11_period_50 ?_
        refine V.istore_n (lv' := [some (.ref 0), some (.int l1), some (.int l2), some (.int (l3 ||| (1 <<< (l4 &&& 31)))), some (.int l4)]) (pc := 51) dX11_period_51 (Nat.le_of_ble_eq_true rfl) rfl rfl ?_
        refine V.iinc (lv' := [some (.ref 0), some (.int l1), some (.int l2), some (.int (l3 ||| (1 <<< (l4 &&& 31)))), some (.int (l4 + 1))]) (pc := 52) dX11_period_52 (Nat.le_of_ble_eq_true rfl) rfl rfl (v := (l4 + 1)) (by rw [show Int32.ofInt 1 = 1 from by decide]) rfl ?_
        refine V.goto (t := 18) (pc := 55) dX11_period_55 (by decide) ?_
        exact h18 l1 l2 (l3 ||| (1 <<< (l4 &&& 31))) (l4 + 1) _ h
      · refine V.icmp_ne_t (t := 52) (pc := 42) dX11_period_42 (by decide) c ?_
        refine V.iinc (lv' := [some (.ref 0), some (.int l1), some (.int l2), some (.int l3), some (.int (l4 + 1))]) (pc := 52) dX11_period_52 (Nat.le_of_ble_eq_true rfl) rfl rfl (v := (l4 + 1)) (by rw [show Int32.ofInt 1 = 1 from by decide]) rfl ?_
        refine V.goto (t := 18) (pc := 55) dX11_period_55 (by decide) ?_
        exact h18 l1 l2 l3 (l4 + 1) _ h
def f_X11_period (l1 : Int32) (l2 : Int32) (w : Wd) : Option Int32 :=
  if (f_X4_holdsSet l1 w) = 0 then
    some (-1)
  else
    f_X11_period_L18  FU l1 l2 0 0 w
set_option maxHeartbeats 4000000 in
set_option maxRecDepth 100000 in
theorem ok_X11_period {G : GT} {d : Nat} (hd : 2 ≤ d) {w : Wd} (l1 : Int32) (l2 : Int32) {r : Int32} (h : f_X11_period l1 l2 w = some r) : uC G yX11_period mX11_period d [.ref 0, .int l1, .int l2] w (some (.int r)) w := by
  obtain ⟨d, rfl⟩ : ∃ e, d = e + 1 := ⟨d - 1, by omega⟩
  unfold f_X11_period at h
  refine uC_of (lv := [some (.ref 0), some (.int l1), some (.int l2), none, none]) 2 pn_X11 ⟨rfl, rfl⟩ (Nat.le_of_ble_eq_true rfl) rfl ?_
  refine V.aload_n (pc := 0) dX11_period_0 rfl ?_
  refine V.getR (t := 6) (pc := 1) dX11_period_1 f_RX11_28 k_cl11 lx_0 ly_0 rb_11_2 rr_0_2 ?_
  refine V.iload_n (pc := 4) dX11_period_4 rfl ?_
  refine U.callV (pc := 5) (As := [.int l1]) (st := []) dX11_period_5 l_RX11_118 (ok_X4_holdsSet (by omega) l1 ) lx_6 ly_6 cn_4 (Nat.le_of_ble_eq_true rfl) rfl rfl (Nat.le_of_ble_eq_true rfl) ?_
  rcases ite_e h with ⟨c, h⟩ | ⟨c, h⟩
  · refine V.if_ne_f (t := 13) (pc := 8) dX11_period_8 (by decide) c ?_
    refine V.iconst (pc := 11) dX11_period_11 ic_m1 ?_
    obtain rfl := Option.some.inj h
    exact V.iret (pc := 12) dX11_period_12 rfl (Nat.le_refl _) (Nat.le_refl _)
  · refine V.if_ne_t (t := 13) (pc := 8) dX11_period_8 (by decide) c ?_
    refine V.iconst (pc := 13) dX11_period_13 ic_0 ?_
    refine V.istore_n (lv' := [some (.ref 0), some (.int l1), some (.int l2), some (.int 0), none]) (pc := 14) dX11_period_14 (Nat.le_of_ble_eq_true rfl) rfl rfl ?_
    refine V.iconst (pc := 15) dX11_period_15 ic_0 ?_
    refine V.istore (lv' := [some (.ref 0), some (.int l1), some (.int l2), some (.int 0), some (.int 0)]) (pc := 16) dX11_period_16 (Nat.le_of_ble_eq_true rfl) rfl rfl ?_
    exact t_X11_period_L18 hd FU l1 l2 0 0 _ h
theorem dX12_period_0 : decode cX12_period 0 = .ok (.aload_n 0, 1) := by decide +kernel
theorem dX12_period_1 : decode cX12_period 1 = .ok (.iload_n 1, 1) := by decide +kernel
theorem dX12_period_2 : decode cX12_period 2 = .ok (.invokevirtual 169, 3) := by decide +kernel
theorem dX12_period_5 : decode cX12_period 5 = .ok (.ifCond .ne 5, 3) := by decide +kernel
theorem dX12_period_8 : decode cX12_period 8 = .ok (.iconst (-1), 1) := by decide +kernel
theorem dX12_period_9 : decode cX12_period 9 = .ok (.ireturn, 1) := by decide +kernel
theorem dX12_period_10 : decode cX12_period 10 = .ok (.iconst 0, 1) := by decide +kernel
theorem dX12_period_11 : decode cX12_period 11 = .ok (.istore_n 3, 1) := by decide +kernel
theorem dX12_period_12 : decode cX12_period 12 = .ok (.iconst 0, 1) := by decide +kernel
theorem dX12_period_13 : decode cX12_period 13 = .ok (.istore 4, 2) := by decide +kernel
theorem dX12_period_15 : decode cX12_period 15 = .ok (.iload 4, 2) := by decide +kernel
theorem dX12_period_17 : decode cX12_period 17 = .ok (.aload_n 0, 1) := by decide +kernel
theorem dX12_period_18 : decode cX12_period 18 = .ok (.getfield 92, 3) := by decide +kernel
theorem dX12_period_21 : decode cX12_period 21 = .ok (.if_icmp .ge 28, 3) := by decide +kernel
theorem dX12_period_24 : decode cX12_period 24 = .ok (.aload_n 0, 1) := by decide +kernel
theorem dX12_period_25 : decode cX12_period 25 = .ok (.iload_n 1, 1) := by decide +kernel
theorem dX12_period_26 : decode cX12_period 26 = .ok (.iload 4, 2) := by decide +kernel
theorem dX12_period_28 : decode cX12_period 28 = .ok (.iload_n 2, 1) := by decide +kernel
theorem dX12_period_29 : decode cX12_period 29 = .ok (.invokevirtual 178, 3) := by decide +kernel
theorem dX12_period_32 : decode cX12_period 32 = .ok (.iload_n 1, 1) := by decide +kernel
theorem dX12_period_33 : decode cX12_period 33 = .ok (.if_icmp .ne 10, 3) := by decide +kernel
theorem dX12_period_36 : decode cX12_period 36 = .ok (.iload_n 3, 1) := by decide +kernel
theorem dX12_period_37 : decode cX12_period 37 = .ok (.iconst 1, 1) := by decide +kernel
theorem dX12_period_38 : decode cX12_period 38 = .ok (.iload 4, 2) := by decide +kernel
theorem dX12_period_40 : decode cX12_period 40 = .ok (.ishl, 1) := by decide +kernel
theorem dX12_period_41 : decode cX12_period 41 = .ok (.ior, 1) := by decide +kernel
theorem dX12_period_42 : decode cX12_period 42 = .ok (.istore_n 3, 1) := by decide +kernel
theorem dX12_period_43 : decode cX12_period 43 = .ok (.iinc 4 1, 3) := by decide +kernel
theorem dX12_period_46 : decode cX12_period 46 = .ok (.goto (-31), 3) := by decide +kernel
theorem dX12_period_49 : decode cX12_period 49 = .ok (.iload_n 3, 1) := by decide +kernel
theorem dX12_period_50 : decode cX12_period 50 = .ok (.ireturn, 1) := by decide +kernel
def f_X12_period_B15b (k15 : Int32 → Int32 → Int32 → Int32 → Wd → Option Int32) (l1 : Int32) (l2 : Int32) (l3 : Int32) (l4 : Int32) (w : Wd) : Option Int32 :=
  if (w.1 44 1) ≤ l4 then
    some l3
  else
    bnd (f_X12_shifted l1 l4 l2 w) fun x1 =>
    if x1 = l1 then
      k15 l1 l2 (l3 ||| (1 <<< (l4 &&& 31))) (l4 + 1) w
    else
      k15 l1 l2 l3 (l4 + 1) w
def f_X12_period_L15 (n : Nat) : Int32 → Int32 → Int32 → Int32 → Wd → Option Int32 :=
  Nat.rec (fun _ _ _ _ _ => none) (fun _ k => f_X12_period_B15b k) n
set_option maxHeartbeats 4000000 in
set_option maxRecDepth 100000 in
theorem t_X12_period_L15 {G : GT} {d : Nat} {w : Wd} (hd : 2 ≤ d + 1)  : ∀ (n : Nat) (l1 : Int32) (l2 : Int32) (l3 : Int32) (l4 : Int32) (r : Int32), f_X12_period_L15 n l1 l2 l3 l4 w = some r → U (vf G mX12_period (d + 1)) 15 [some (.ref 44), some (.int l1), some (.int l2), some (.int l3), some (.int l4)] [] w (some (.int r), 70, r0, w) := by
  intro n
  induction n with
  | zero => intro l1 l2 l3 l4 r h; cases h
  | succ n h15 =>
    intro l1 l2 l3 l4 r h
    have h : f_X12_period_B15b (f_X12_period_L15 n) l1 l2 l3 l4 w = some r := h
    unfold f_X12_period_B15b at h
    refine V.iload (pc := 15) dX12_period_15 rfl ?_
    refine V.aload_n (pc := 17) dX12_period_17 rfl ?_
    refine V.getI (pc := 18) dX12_period_18 f_RX12_92 k_cl12 lx_44 ly_44 rb_12_1 ?_
    rcases ite_e h with ⟨c, h⟩ | ⟨c, h⟩
    · refine V.icmp_ge_t (t := 49) (pc := 21) dX12_period_21 (by decide) c ?_
      refine V.iload_n (pc := 49) dX12_period_49 rfl ?_
      obtain rfl := Option.some.inj h
      exact V.iret (pc := 50) dX12_period_50 rfl (Nat.le_refl _) (Nat.le_refl _)
    · refine V.icmp_ge_f (t := 49) (pc := 21) dX12_period_21 (by decide) c ?_
      refine V.aload_n (pc := 24) dX12_period_24 rfl ?_
      refine V.iload_n (pc := 25) dX12_period_25 rfl ?_
      refine V.iload (pc := 26) dX12_period_26 rfl ?_
      refine V.iload_n (pc := 28) dX12_period_28 rfl ?_
      obtain ⟨x1, ex1, h⟩ := bnd_e h
      refine U.callV (pc := 29) (As := [.int l1, .int l4, .int l2]) (st := []) dX12_period_29 l_RX12_178 (ok_X12_shifted (by omega) l1 l4 l2 ex1) lx_44 ly_44 cn_12 (Nat.le_of_ble_eq_true rfl) rfl rfl (Nat.le_of_ble_eq_true rfl) ?_
      refine V.iload_n (pc := 32) dX12_period_32 rfl ?_
      rcases ite_e h with ⟨c, h⟩ | ⟨c, h⟩
      · refine V.icmp_ne_f (t := 43) (pc := 33) dX12_period_33 (by decide) c ?_
        refine V.iload_n (pc := 36) dX12_period_36 rfl ?_
        refine V.iconst (pc := 37) dX12_period_37 ic_1 ?_
        refine V.iload (pc := 38) dX12_period_38 rfl ?_
        refine V.ishl (pc := 40) dX12_period_40 ?_
        refine V.ior (pc := 41) dX12_period_41 ?_
        refine V.istore_n (lv' := [some (.ref 44), some (.int l1), some (.int l2), some (.int (l3 ||| (1 <<< (l4 &&& 31)))), some (.int l4)]) (pc := 42) dX12_period_42 (Nat.le_of_ble_eq_true rfl) rfl rfl ?_
        refine V.iinc (lv' := [some (.ref 44), some (.int l1), some (.int l2), some (.int (l3 ||| (1 <<< (l4 &&& 31)))), some (.int (l4 + 1))]) (pc := 43) dX12_period_43 (Nat.le_of_ble_eq_true rfl) rfl rfl (v := (l4 + 1)) (by rw [show Int32.ofInt 1 = 1 from by decide]) rfl ?_
        refine V.goto (t := 15) (pc := 46) dX12_period_46 (by decide) ?_
        exact h15 l1 l2 (l3 ||| (1 <<< (l4 &&& 31))) (l4 + 1) _ h
      · refine V.icmp_ne_t (t := 43) (pc := 33) dX12_period_33 (by decide) c ?_
        refine V.iinc (lv' := [some (.ref 44), some (.int l1), some (.int l2), some (.int l3), some (.int (l4 + 1))]) (pc := 43) dX12_period_43 (Nat.le_of_ble_eq_true rfl) rfl rfl (v := (l4 + 1)) (by rw [show Int32.ofInt 1 = 1 from by decide]) rfl ?_
        refine V.goto (t := 15) (pc := 46) dX12_period_46 (by decide) ?_
        exact h15 l1 l2 l3 (l4 + 1) _ h
def f_X12_period (l1 : Int32) (l2 : Int32) (w : Wd) : Option Int32 :=
  if (f_X12_isSet l1 w) = 0 then
    some (-1)
  else
    f_X12_period_L15  FU l1 l2 0 0 w
set_option maxHeartbeats 4000000 in
set_option maxRecDepth 100000 in
theorem ok_X12_period {G : GT} {d : Nat} (hd : 2 ≤ d) {w : Wd} (l1 : Int32) (l2 : Int32) {r : Int32} (h : f_X12_period l1 l2 w = some r) : uC G yX12_period mX12_period d [.ref 44, .int l1, .int l2] w (some (.int r)) w := by
  obtain ⟨d, rfl⟩ : ∃ e, d = e + 1 := ⟨d - 1, by omega⟩
  unfold f_X12_period at h
  refine uC_of (lv := [some (.ref 44), some (.int l1), some (.int l2), none, none]) 2 pn_X12 ⟨rfl, rfl⟩ (Nat.le_of_ble_eq_true rfl) rfl ?_
  refine V.aload_n (pc := 0) dX12_period_0 rfl ?_
  refine V.iload_n (pc := 1) dX12_period_1 rfl ?_
  refine U.callV (pc := 2) (As := [.int l1]) (st := []) dX12_period_2 l_RX12_169 (ok_X12_isSet (by omega) l1 ) lx_44 ly_44 cn_12 (Nat.le_of_ble_eq_true rfl) rfl rfl (Nat.le_of_ble_eq_true rfl) ?_
  rcases ite_e h with ⟨c, h⟩ | ⟨c, h⟩
  · refine V.if_ne_f (t := 10) (pc := 5) dX12_period_5 (by decide) c ?_
    refine V.iconst (pc := 8) dX12_period_8 ic_m1 ?_
    obtain rfl := Option.some.inj h
    exact V.iret (pc := 9) dX12_period_9 rfl (Nat.le_refl _) (Nat.le_refl _)
  · refine V.if_ne_t (t := 10) (pc := 5) dX12_period_5 (by decide) c ?_
    refine V.iconst (pc := 10) dX12_period_10 ic_0 ?_
    refine V.istore_n (lv' := [some (.ref 44), some (.int l1), some (.int l2), some (.int 0), none]) (pc := 11) dX12_period_11 (Nat.le_of_ble_eq_true rfl) rfl rfl ?_
    refine V.iconst (pc := 12) dX12_period_12 ic_0 ?_
    refine V.istore (lv' := [some (.ref 44), some (.int l1), some (.int l2), some (.int 0), some (.int 0)]) (pc := 13) dX12_period_13 (Nat.le_of_ble_eq_true rfl) rfl rfl ?_
    exact t_X12_period_L15 hd FU l1 l2 0 0 _ h
theorem dX4_waysOf_0 : decode cX4_waysOf 0 = .ok (.iconst 0, 1) := by decide +kernel
theorem dX4_waysOf_1 : decode cX4_waysOf 1 = .ok (.istore_n 3, 1) := by decide +kernel
theorem dX4_waysOf_2 : decode cX4_waysOf 2 = .ok (.iconst 0, 1) := by decide +kernel
theorem dX4_waysOf_3 : decode cX4_waysOf 3 = .ok (.istore 4, 2) := by decide +kernel
theorem dX4_waysOf_5 : decode cX4_waysOf 5 = .ok (.iload 4, 2) := by decide +kernel
theorem dX4_waysOf_7 : decode cX4_waysOf 7 = .ok (.aload_n 0, 1) := by decide +kernel
theorem dX4_waysOf_8 : decode cX4_waysOf 8 = .ok (.getfield 30, 3) := by decide +kernel
theorem dX4_waysOf_11 : decode cX4_waysOf 11 = .ok (.if_icmp .ge 36, 3) := by decide +kernel
theorem dX4_waysOf_14 : decode cX4_waysOf 14 = .ok (.aload_n 0, 1) := by decide +kernel
theorem dX4_waysOf_15 : decode cX4_waysOf 15 = .ok (.aload_n 0, 1) := by decide +kernel
theorem dX4_waysOf_16 : decode cX4_waysOf 16 = .ok (.iload 4, 2) := by decide +kernel
theorem dX4_waysOf_18 : decode cX4_waysOf 18 = .ok (.invokevirtual 76, 3) := by decide +kernel
theorem dX4_waysOf_21 : decode cX4_waysOf 21 = .ok (.iload_n 2, 1) := by decide +kernel
theorem dX4_waysOf_22 : decode cX4_waysOf 22 = .ok (.invokevirtual 58, 3) := by decide +kernel
theorem dX4_waysOf_25 : decode cX4_waysOf 25 = .ok (.istore 5, 2) := by decide +kernel
theorem dX4_waysOf_27 : decode cX4_waysOf 27 = .ok (.iload_n 3, 1) := by decide +kernel
theorem dX4_waysOf_28 : decode cX4_waysOf 28 = .ok (.iload_n 1, 1) := by decide +kernel
theorem dX4_waysOf_29 : decode cX4_waysOf 29 = .ok (.iload 4, 2) := by decide +kernel
theorem dX4_waysOf_31 : decode cX4_waysOf 31 = .ok (.ishr, 1) := by decide +kernel
theorem dX4_waysOf_32 : decode cX4_waysOf 32 = .ok (.iload_n 1, 1) := by decide +kernel
theorem dX4_waysOf_33 : decode cX4_waysOf 33 = .ok (.iload 5, 2) := by decide +kernel
theorem dX4_waysOf_35 : decode cX4_waysOf 35 = .ok (.ishr, 1) := by decide +kernel
theorem dX4_waysOf_36 : decode cX4_waysOf 36 = .ok (.iand, 1) := by decide +kernel
theorem dX4_waysOf_37 : decode cX4_waysOf 37 = .ok (.iconst 1, 1) := by decide +kernel
theorem dX4_waysOf_38 : decode cX4_waysOf 38 = .ok (.iand, 1) := by decide +kernel
theorem dX4_waysOf_39 : decode cX4_waysOf 39 = .ok (.iadd, 1) := by decide +kernel
theorem dX4_waysOf_40 : decode cX4_waysOf 40 = .ok (.istore_n 3, 1) := by decide +kernel
theorem dX4_waysOf_41 : decode cX4_waysOf 41 = .ok (.iinc 4 1, 3) := by decide +kernel
theorem dX4_waysOf_44 : decode cX4_waysOf 44 = .ok (.goto (-39), 3) := by decide +kernel
theorem dX4_waysOf_47 : decode cX4_waysOf 47 = .ok (.iload_n 3, 1) := by decide +kernel
theorem dX4_waysOf_48 : decode cX4_waysOf 48 = .ok (.ireturn, 1) := by decide +kernel
def f_X4_waysOf_B5b (k5 : Int32 → Int32 → Int32 → Int32 → Wd → Option Int32) (l1 : Int32) (l2 : Int32) (l3 : Int32) (l4 : Int32) (w : Wd) : Option Int32 :=
  if (w.1 6 7) ≤ l4 then
    some l3
  else
    bnd (f_X4_inverseOf l4 w) fun x1 =>
    bnd (f_X4_times x1 l2 w) fun x2 =>
    k5 l1 l2 (l3 + (((l1 >>> (l4 &&& 31)) &&& (l1 >>> (x2 &&& 31))) &&& 1)) (l4 + 1) w
def f_X4_waysOf_L5 (n : Nat) : Int32 → Int32 → Int32 → Int32 → Wd → Option Int32 :=
  Nat.rec (fun _ _ _ _ _ => none) (fun _ k => f_X4_waysOf_B5b k) n
set_option maxHeartbeats 4000000 in
set_option maxRecDepth 100000 in
theorem t_X4_waysOf_L5 {G : GT} {d : Nat} {w : Wd} (hd : 1 ≤ d + 1)  : ∀ (n : Nat) (l1 : Int32) (l2 : Int32) (l3 : Int32) (l4 : Int32) (r : Int32), f_X4_waysOf_L5 n l1 l2 l3 l4 w = some r → U (vf G mX4_waysOf (d + 1)) 5 [some (.ref 6), some (.int l1), some (.int l2), some (.int l3), some (.int l4), none] [] w (some (.int r), 70, r0, w) := by
  intro n
  induction n with
  | zero => intro l1 l2 l3 l4 r h; cases h
  | succ n h5 =>
    intro l1 l2 l3 l4 r h
    have h : f_X4_waysOf_B5b (f_X4_waysOf_L5 n) l1 l2 l3 l4 w = some r := h
    unfold f_X4_waysOf_B5b at h
    refine V.iload (pc := 5) dX4_waysOf_5 rfl ?_
    refine V.aload_n (pc := 7) dX4_waysOf_7 rfl ?_
    refine V.getI (pc := 8) dX4_waysOf_8 f_RX4_30 k_cl4 lx_6 ly_6 rb_4_7 ?_
    rcases ite_e h with ⟨c, h⟩ | ⟨c, h⟩
    · refine V.icmp_ge_t (t := 47) (pc := 11) dX4_waysOf_11 (by decide) c ?_
      refine V.iload_n (pc := 47) dX4_waysOf_47 rfl ?_
      obtain rfl := Option.some.inj h
      exact V.iret (pc := 48) dX4_waysOf_48 rfl (Nat.le_refl _) (Nat.le_refl _)
    · refine V.icmp_ge_f (t := 47) (pc := 11) dX4_waysOf_11 (by decide) c ?_
      refine V.aload_n (pc := 14) dX4_waysOf_14 rfl ?_
      refine V.aload_n (pc := 15) dX4_waysOf_15 rfl ?_
      refine V.iload (pc := 16) dX4_waysOf_16 rfl ?_
      obtain ⟨x1, ex1, h⟩ := bnd_e h
      refine U.callV (pc := 18) (As := [.int l4]) (st := [.ref 6]) dX4_waysOf_18 l_RX4_76 (ok_X4_inverseOf (by omega) l4 ex1) lx_6 ly_6 cn_4 (Nat.le_of_ble_eq_true rfl) rfl rfl (Nat.le_of_ble_eq_true rfl) ?_
      refine V.iload_n (pc := 21) dX4_waysOf_21 rfl ?_
      obtain ⟨x2, ex2, h⟩ := bnd_e h
      refine U.callV (pc := 22) (As := [.int x1, .int l2]) (st := []) dX4_waysOf_22 l_RX4_58 (ok_X4_times (by omega) x1 l2 ex2) lx_6 ly_6 cn_4 (Nat.le_of_ble_eq_true rfl) rfl rfl (Nat.le_of_ble_eq_true rfl) ?_
      refine V.istore (lv' := [some (.ref 6), some (.int l1), some (.int l2), some (.int l3), some (.int l4), some (.int x2)]) (pc := 25) dX4_waysOf_25 (Nat.le_of_ble_eq_true rfl) rfl rfl ?_
      refine V.iload_n (pc := 27) dX4_waysOf_27 rfl ?_
      refine V.iload_n (pc := 28) dX4_waysOf_28 rfl ?_
      refine V.iload (pc := 29) dX4_waysOf_29 rfl ?_
      refine V.ishr (pc := 31) dX4_waysOf_31 ?_
      refine V.iload_n (pc := 32) dX4_waysOf_32 rfl ?_
      refine V.iload (pc := 33) dX4_waysOf_33 rfl ?_
      refine V.ishr (pc := 35) dX4_waysOf_35 ?_
      refine V.iand (pc := 36) dX4_waysOf_36 ?_
      refine V.iconst (pc := 37) dX4_waysOf_37 ic_1 ?_
      refine V.iand (pc := 38) dX4_waysOf_38 ?_
      refine V.iadd (pc := 39) dX4_waysOf_39 ?_
      refine V.istore_n (lv' := [some (.ref 6), some (.int l1), some (.int l2), some (.int (l3 + (((l1 >>> (l4 &&& 31)) &&& (l1 >>> (x2 &&& 31))) &&& 1))), some (.int l4), some (.int x2)]) (pc := 40) dX4_waysOf_40 (Nat.le_of_ble_eq_true rfl) rfl rfl ?_
      refine V.iinc (lv' := [some (.ref 6), some (.int l1), some (.int l2), some (.int (l3 + (((l1 >>> (l4 &&& 31)) &&& (l1 >>> (x2 &&& 31))) &&& 1))), some (.int (l4 + 1)), some (.int x2)]) (pc := 41) dX4_waysOf_41 (Nat.le_of_ble_eq_true rfl) rfl rfl (v := (l4 + 1)) (by rw [show Int32.ofInt 1 = 1 from by decide]) rfl ?_
      refine V.goto (t := 5) (pc := 44) dX4_waysOf_44 (by decide) ?_
      refine V.weak (lv' := [some (.ref 6), some (.int l1), some (.int l2), some (.int (l3 + (((l1 >>> (l4 &&& 31)) &&& (l1 >>> (x2 &&& 31))) &&& 1))), some (.int (l4 + 1)), none]) (And.intro rfl (And.intro rfl (And.intro rfl (And.intro rfl (And.intro rfl trivial))))) ?_
      exact h5 l1 l2 (l3 + (((l1 >>> (l4 &&& 31)) &&& (l1 >>> (x2 &&& 31))) &&& 1)) (l4 + 1) _ h
def f_X4_waysOf (l1 : Int32) (l2 : Int32) (w : Wd) : Option Int32 :=
  f_X4_waysOf_L5  FU l1 l2 0 0 w
set_option maxHeartbeats 4000000 in
set_option maxRecDepth 100000 in
theorem ok_X4_waysOf {G : GT} {d : Nat} (hd : 1 ≤ d) {w : Wd} (l1 : Int32) (l2 : Int32) {r : Int32} (h : f_X4_waysOf l1 l2 w = some r) : uC G yX4_waysOf mX4_waysOf d [.ref 6, .int l1, .int l2] w (some (.int r)) w := by
  obtain ⟨d, rfl⟩ : ∃ e, d = e + 1 := ⟨d - 1, by omega⟩
  unfold f_X4_waysOf at h
  refine uC_of (lv := [some (.ref 6), some (.int l1), some (.int l2), none, none, none]) 3 pn_X4 ⟨rfl, rfl⟩ (Nat.le_of_ble_eq_true rfl) rfl ?_
  refine V.iconst (pc := 0) dX4_waysOf_0 ic_0 ?_
  refine V.istore_n (lv' := [some (.ref 6), some (.int l1), some (.int l2), some (.int 0), none, none]) (pc := 1) dX4_waysOf_1 (Nat.le_of_ble_eq_true rfl) rfl rfl ?_
  refine V.iconst (pc := 2) dX4_waysOf_2 ic_0 ?_
  refine V.istore (lv' := [some (.ref 6), some (.int l1), some (.int l2), some (.int 0), some (.int 0), none]) (pc := 3) dX4_waysOf_3 (Nat.le_of_ble_eq_true rfl) rfl rfl ?_
  exact t_X4_waysOf_L5 hd FU l1 l2 0 0 _ h
theorem dX11_ways_0 : decode cX11_ways 0 = .ok (.aload_n 0, 1) := by decide +kernel
theorem dX11_ways_1 : decode cX11_ways 1 = .ok (.getfield 28, 3) := by decide +kernel
theorem dX11_ways_4 : decode cX11_ways 4 = .ok (.iload_n 1, 1) := by decide +kernel
theorem dX11_ways_5 : decode cX11_ways 5 = .ok (.invokevirtual 118, 3) := by decide +kernel
theorem dX11_ways_8 : decode cX11_ways 8 = .ok (.ifCond .eq 26, 3) := by decide +kernel
theorem dX11_ways_11 : decode cX11_ways 11 = .ok (.aload_n 0, 1) := by decide +kernel
theorem dX11_ways_12 : decode cX11_ways 12 = .ok (.getfield 28, 3) := by decide +kernel
theorem dX11_ways_15 : decode cX11_ways 15 = .ok (.iload_n 2, 1) := by decide +kernel
theorem dX11_ways_16 : decode cX11_ways 16 = .ok (.invokevirtual 107, 3) := by decide +kernel
theorem dX11_ways_19 : decode cX11_ways 19 = .ok (.ifCond .eq 15, 3) := by decide +kernel
theorem dX11_ways_22 : decode cX11_ways 22 = .ok (.aload_n 0, 1) := by decide +kernel
theorem dX11_ways_23 : decode cX11_ways 23 = .ok (.getfield 28, 3) := by decide +kernel
theorem dX11_ways_26 : decode cX11_ways 26 = .ok (.iload_n 1, 1) := by decide +kernel
theorem dX11_ways_27 : decode cX11_ways 27 = .ok (.iload_n 2, 1) := by decide +kernel
theorem dX11_ways_28 : decode cX11_ways 28 = .ok (.invokevirtual 208, 3) := by decide +kernel
theorem dX11_ways_31 : decode cX11_ways 31 = .ok (.goto 4, 3) := by decide +kernel
theorem dX11_ways_34 : decode cX11_ways 34 = .ok (.iconst (-1), 1) := by decide +kernel
theorem dX11_ways_35 : decode cX11_ways 35 = .ok (.ireturn, 1) := by decide +kernel
def f_X11_ways (l1 : Int32) (l2 : Int32) (w : Wd) : Option Int32 :=
  if (f_X4_holdsSet l1 w) = 0 then
    some (-1)
  else
    if (f_X4_holds l2 w) = 0 then
      some (-1)
    else
      bnd (f_X4_waysOf l1 l2 w) fun x1 =>
      some x1
set_option maxHeartbeats 4000000 in
set_option maxRecDepth 100000 in
theorem ok_X11_ways {G : GT} {d : Nat} (hd : 2 ≤ d) {w : Wd} (l1 : Int32) (l2 : Int32) {r : Int32} (h : f_X11_ways l1 l2 w = some r) : uC G yX11_ways mX11_ways d [.ref 0, .int l1, .int l2] w (some (.int r)) w := by
  obtain ⟨d, rfl⟩ : ∃ e, d = e + 1 := ⟨d - 1, by omega⟩
  unfold f_X11_ways at h
  refine uC_of (lv := [some (.ref 0), some (.int l1), some (.int l2)]) 0 pn_X11 ⟨rfl, rfl⟩ (Nat.le_of_ble_eq_true rfl) rfl ?_
  refine V.aload_n (pc := 0) dX11_ways_0 rfl ?_
  refine V.getR (t := 6) (pc := 1) dX11_ways_1 f_RX11_28 k_cl11 lx_0 ly_0 rb_11_2 rr_0_2 ?_
  refine V.iload_n (pc := 4) dX11_ways_4 rfl ?_
  refine U.callV (pc := 5) (As := [.int l1]) (st := []) dX11_ways_5 l_RX11_118 (ok_X4_holdsSet (by omega) l1 ) lx_6 ly_6 cn_4 (Nat.le_of_ble_eq_true rfl) rfl rfl (Nat.le_of_ble_eq_true rfl) ?_
  rcases ite_e h with ⟨c, h⟩ | ⟨c, h⟩
  · refine V.if_eq_t (t := 34) (pc := 8) dX11_ways_8 (by decide) c ?_
    refine V.iconst (pc := 34) dX11_ways_34 ic_m1 ?_
    obtain rfl := Option.some.inj h
    exact V.iret (pc := 35) dX11_ways_35 rfl (Nat.le_refl _) (Nat.le_refl _)
  · refine V.if_eq_f (t := 34) (pc := 8) dX11_ways_8 (by decide) c ?_
    refine V.aload_n (pc := 11) dX11_ways_11 rfl ?_
    refine V.getR (t := 6) (pc := 12) dX11_ways_12 f_RX11_28 k_cl11 lx_0 ly_0 rb_11_2 rr_0_2 ?_
    refine V.iload_n (pc := 15) dX11_ways_15 rfl ?_
    refine U.callV (pc := 16) (As := [.int l2]) (st := []) dX11_ways_16 l_RX11_107 (ok_X4_holds (by omega) l2 ) lx_6 ly_6 cn_4 (Nat.le_of_ble_eq_true rfl) rfl rfl (Nat.le_of_ble_eq_true rfl) ?_
    rcases ite_e h with ⟨c, h⟩ | ⟨c, h⟩
    · refine V.if_eq_t (t := 34) (pc := 19) dX11_ways_19 (by decide) c ?_
      refine V.iconst (pc := 34) dX11_ways_34 ic_m1 ?_
      obtain rfl := Option.some.inj h
      exact V.iret (pc := 35) dX11_ways_35 rfl (Nat.le_refl _) (Nat.le_refl _)
    · refine V.if_eq_f (t := 34) (pc := 19) dX11_ways_19 (by decide) c ?_
      refine V.aload_n (pc := 22) dX11_ways_22 rfl ?_
      refine V.getR (t := 6) (pc := 23) dX11_ways_23 f_RX11_28 k_cl11 lx_0 ly_0 rb_11_2 rr_0_2 ?_
      refine V.iload_n (pc := 26) dX11_ways_26 rfl ?_
      refine V.iload_n (pc := 27) dX11_ways_27 rfl ?_
      obtain ⟨x1, ex1, h⟩ := bnd_e h
      refine U.callV (pc := 28) (As := [.int l1, .int l2]) (st := []) dX11_ways_28 l_RX11_208 (ok_X4_waysOf (by omega) l1 l2 ex1) lx_6 ly_6 cn_4 (Nat.le_of_ble_eq_true rfl) rfl rfl (Nat.le_of_ble_eq_true rfl) ?_
      refine V.goto (t := 35) (pc := 31) dX11_ways_31 (by decide) ?_
      obtain rfl := Option.some.inj h
      exact V.iret (pc := 35) dX11_ways_35 rfl (Nat.le_refl _) (Nat.le_refl _)
theorem dX12_waysOf_0 : decode cX12_waysOf 0 = .ok (.iconst 0, 1) := by decide +kernel
theorem dX12_waysOf_1 : decode cX12_waysOf 1 = .ok (.istore_n 3, 1) := by decide +kernel
theorem dX12_waysOf_2 : decode cX12_waysOf 2 = .ok (.iconst 0, 1) := by decide +kernel
theorem dX12_waysOf_3 : decode cX12_waysOf 3 = .ok (.istore 4, 2) := by decide +kernel
theorem dX12_waysOf_5 : decode cX12_waysOf 5 = .ok (.iload 4, 2) := by decide +kernel
theorem dX12_waysOf_7 : decode cX12_waysOf 7 = .ok (.aload_n 0, 1) := by decide +kernel
theorem dX12_waysOf_8 : decode cX12_waysOf 8 = .ok (.getfield 92, 3) := by decide +kernel
theorem dX12_waysOf_11 : decode cX12_waysOf 11 = .ok (.if_icmp .ge 60, 3) := by decide +kernel
theorem dX12_waysOf_14 : decode cX12_waysOf 14 = .ok (.iconst 0, 1) := by decide +kernel
theorem dX12_waysOf_15 : decode cX12_waysOf 15 = .ok (.istore 5, 2) := by decide +kernel
theorem dX12_waysOf_17 : decode cX12_waysOf 17 = .ok (.iload 5, 2) := by decide +kernel
theorem dX12_waysOf_19 : decode cX12_waysOf 19 = .ok (.aload_n 0, 1) := by decide +kernel
theorem dX12_waysOf_20 : decode cX12_waysOf 20 = .ok (.getfield 92, 3) := by decide +kernel
theorem dX12_waysOf_23 : decode cX12_waysOf 23 = .ok (.if_icmp .ge 42, 3) := by decide +kernel
theorem dX12_waysOf_26 : decode cX12_waysOf 26 = .ok (.iload_n 1, 1) := by decide +kernel
theorem dX12_waysOf_27 : decode cX12_waysOf 27 = .ok (.iload 4, 2) := by decide +kernel
theorem dX12_waysOf_29 : decode cX12_waysOf 29 = .ok (.invokestatic 128, 3) := by decide +kernel
theorem dX12_waysOf_32 : decode cX12_waysOf 32 = .ok (.ifCond .eq 27, 3) := by decide +kernel
theorem dX12_waysOf_35 : decode cX12_waysOf 35 = .ok (.iload_n 1, 1) := by decide +kernel
theorem dX12_waysOf_36 : decode cX12_waysOf 36 = .ok (.iload 5, 2) := by decide +kernel
theorem dX12_waysOf_38 : decode cX12_waysOf 38 = .ok (.invokestatic 128, 3) := by decide +kernel
theorem dX12_waysOf_41 : decode cX12_waysOf 41 = .ok (.ifCond .eq 18, 3) := by decide +kernel
theorem dX12_waysOf_44 : decode cX12_waysOf 44 = .ok (.aload_n 0, 1) := by decide +kernel
theorem dX12_waysOf_45 : decode cX12_waysOf 45 = .ok (.iload 4, 2) := by decide +kernel
theorem dX12_waysOf_47 : decode cX12_waysOf 47 = .ok (.iload 5, 2) := by decide +kernel
theorem dX12_waysOf_49 : decode cX12_waysOf 49 = .ok (.invokevirtual 119, 3) := by decide +kernel
theorem dX12_waysOf_52 : decode cX12_waysOf 52 = .ok (.iload_n 2, 1) := by decide +kernel
theorem dX12_waysOf_53 : decode cX12_waysOf 53 = .ok (.if_icmp .ne 6, 3) := by decide +kernel
theorem dX12_waysOf_56 : decode cX12_waysOf 56 = .ok (.iinc 3 1, 3) := by decide +kernel
theorem dX12_waysOf_59 : decode cX12_waysOf 59 = .ok (.iinc 5 1, 3) := by decide +kernel
theorem dX12_waysOf_62 : decode cX12_waysOf 62 = .ok (.goto (-45), 3) := by decide +kernel
theorem dX12_waysOf_65 : decode cX12_waysOf 65 = .ok (.iinc 4 1, 3) := by decide +kernel
theorem dX12_waysOf_68 : decode cX12_waysOf 68 = .ok (.goto (-63), 3) := by decide +kernel
theorem dX12_waysOf_71 : decode cX12_waysOf 71 = .ok (.iload_n 3, 1) := by decide +kernel
theorem dX12_waysOf_72 : decode cX12_waysOf 72 = .ok (.ireturn, 1) := by decide +kernel
def f_X12_waysOf_B17b (k5 : Int32 → Int32 → Int32 → Int32 → Wd → Option Int32) (k17 : Int32 → Int32 → Int32 → Int32 → Int32 → Wd → Option Int32) (l1 : Int32) (l2 : Int32) (l3 : Int32) (l4 : Int32) (l5 : Int32) (w : Wd) : Option Int32 :=
  if (w.1 44 1) ≤ l5 then
    k5 l1 l2 l3 (l4 + 1) w
  else
    if (f_X12_has l1 l4) = 0 then
      k17 l1 l2 l3 l4 (l5 + 1) w
    else
      if (f_X12_has l1 l5) = 0 then
        k17 l1 l2 l3 l4 (l5 + 1) w
      else
        bnd (f_X12_product0 l4 l5 w) fun x1 =>
        if x1 = l2 then
          k17 l1 l2 (l3 + 1) l4 (l5 + 1) w
        else
          k17 l1 l2 l3 l4 (l5 + 1) w
def f_X12_waysOf_L17 (k5 : Int32 → Int32 → Int32 → Int32 → Wd → Option Int32) (n : Nat) : Int32 → Int32 → Int32 → Int32 → Int32 → Wd → Option Int32 :=
  Nat.rec (fun _ _ _ _ _ _ => none) (fun _ k => f_X12_waysOf_B17b k5 k) n
set_option maxHeartbeats 4000000 in
set_option maxRecDepth 100000 in
theorem t_X12_waysOf_L17 {G : GT} {d : Nat} {k5 : Int32 → Int32 → Int32 → Int32 → Wd → Option Int32} {w : Wd} (hd : 1 ≤ d + 1) (h5 : ∀ (l1 : Int32) (l2 : Int32) (l3 : Int32) (l4 : Int32) (r : Int32), k5 l1 l2 l3 l4 w = some r → U (vf G mX12_waysOf (d + 1)) 5 [some (.ref 44), some (.int l1), some (.int l2), some (.int l3), some (.int l4), none] [] w (some (.int r), 70, r0, w)) : ∀ (n : Nat) (l1 : Int32) (l2 : Int32) (l3 : Int32) (l4 : Int32) (l5 : Int32) (r : Int32), f_X12_waysOf_L17 k5 n l1 l2 l3 l4 l5 w = some r → U (vf G mX12_waysOf (d + 1)) 17 [some (.ref 44), some (.int l1), some (.int l2), some (.int l3), some (.int l4), some (.int l5)] [] w (some (.int r), 70, r0, w) := by
  intro n
  induction n with
  | zero => intro l1 l2 l3 l4 l5 r h; cases h
  | succ n h17 =>
    intro l1 l2 l3 l4 l5 r h
    have h : f_X12_waysOf_B17b k5 (f_X12_waysOf_L17 k5 n) l1 l2 l3 l4 l5 w = some r := h
    unfold f_X12_waysOf_B17b at h
    refine V.iload (pc := 17) dX12_waysOf_17 rfl ?_
    refine V.aload_n (pc := 19) dX12_waysOf_19 rfl ?_
    refine V.getI (pc := 20) dX12_waysOf_20 f_RX12_92 k_cl12 lx_44 ly_44 rb_12_1 ?_
    rcases ite_e h with ⟨c, h⟩ | ⟨c, h⟩
    · refine V.icmp_ge_t (t := 65) (pc := 23) dX12_waysOf_23 (by decide) c ?_
      refine V.iinc (lv' := [some (.ref 44), some (.int l1), some (.int l2), some (.int l3), some (.int (l4 + 1)), some (.int l5)]) (pc := 65) dX12_waysOf_65 (Nat.le_of_ble_eq_true rfl) rfl rfl (v := (l4 + 1)) (by rw [show Int32.ofInt 1 = 1 from by decide]) rfl ?_
      refine V.goto (t := 5) (pc := 68) dX12_waysOf_68 (by decide) ?_
      refine V.weak (lv' := [some (.ref 44), some (.int l1), some (.int l2), some (.int l3), some (.int (l4 + 1)), none]) (And.intro rfl (And.intro rfl (And.intro rfl (And.intro rfl (And.intro rfl trivial))))) ?_
      exact h5 l1 l2 l3 (l4 + 1) _ h
    · refine V.icmp_ge_f (t := 65) (pc := 23) dX12_waysOf_23 (by decide) c ?_
      refine V.iload_n (pc := 26) dX12_waysOf_26 rfl ?_
      refine V.iload (pc := 27) dX12_waysOf_27 rfl ?_
      refine U.callS (pc := 29) (As := [.int l1, .int l4]) (st := []) dX12_waysOf_29 l_RX12_128 (ok_X12_has (by omega) l1 l4 ) (Nat.le_of_ble_eq_true rfl) rfl rfl (Nat.le_of_ble_eq_true rfl) ?_
      rcases ite_e h with ⟨c, h⟩ | ⟨c, h⟩
      · refine V.if_eq_t (t := 59) (pc := 32) dX12_waysOf_32 (by decide) c ?_
        refine V.iinc (lv' := [some (.ref 44), some (.int l1), some (.int l2), some (.int l3), some (.int l4), some (.int (l5 + 1))]) (pc := 59) dX12_waysOf_59 (Nat.le_of_ble_eq_true rfl) rfl rfl (v := (l5 + 1)) (by rw [show Int32.ofInt 1 = 1 from by decide]) rfl ?_
        refine V.goto (t := 17) (pc := 62) dX12_waysOf_62 (by decide) ?_
        exact h17 l1 l2 l3 l4 (l5 + 1) _ h
      · refine V.if_eq_f (t := 59) (pc := 32) dX12_waysOf_32 (by decide) c ?_
        refine V.iload_n (pc := 35) dX12_waysOf_35 rfl ?_
        refine V.iload (pc := 36) dX12_waysOf_36 rfl ?_
        refine U.callS (pc := 38) (As := [.int l1, .int l5]) (st := []) dX12_waysOf_38 l_RX12_128 (ok_X12_has (by omega) l1 l5 ) (Nat.le_of_ble_eq_true rfl) rfl rfl (Nat.le_of_ble_eq_true rfl) ?_
        rcases ite_e h with ⟨c, h⟩ | ⟨c, h⟩
        · refine V.if_eq_t (t := 59) (pc := 41) dX12_waysOf_41 (by decide) c ?_
          refine V.iinc (lv' := [some (.ref 44), some (.int l1), some (.int l2), some (.int l3), some (.int l4), some (.int (l5 + 1))]) (pc := 59) dX12_waysOf_59 (Nat.le_of_ble_eq_true rfl) rfl rfl (v := (l5 + 1)) (by rw [show Int32.ofInt 1 = 1 from by decide]) rfl ?_
          refine V.goto (t := 17) (pc := 62) dX12_waysOf_62 (by decide) ?_
          exact h17 l1 l2 l3 l4 (l5 + 1) _ h
        · refine V.if_eq_f (t := 59) (pc := 41) dX12_waysOf_41 (by decide) c ?_
          refine V.aload_n (pc := 44) dX12_waysOf_44 rfl ?_
          refine V.iload (pc := 45) dX12_waysOf_45 rfl ?_
          refine V.iload (pc := 47) dX12_waysOf_47 rfl ?_
          obtain ⟨x1, ex1, h⟩ := bnd_e h
          refine U.callV (pc := 49) (As := [.int l4, .int l5]) (st := []) dX12_waysOf_49 l_RX12_119 (ok_X12_product0 (by omega) l4 l5 ex1) lx_44 ly_44 cn_12 (Nat.le_of_ble_eq_true rfl) rfl rfl (Nat.le_of_ble_eq_true rfl) ?_
          refine V.iload_n (pc := 52) dX12_waysOf_52 rfl ?_
          rcases ite_e h with ⟨c, h⟩ | ⟨c, h⟩
          · refine V.icmp_ne_f (t := 59) (pc := 53) dX12_waysOf_53 (by decide) c ?_
            refine V.iinc (lv' := [some (.ref 44), some (.int l1), some (.int l2), some (.int (l3 + 1)), some (.int l4), some (.int l5)]) (pc := 56) dX12_waysOf_56 (Nat.le_of_ble_eq_true rfl) rfl rfl (v := (l3 + 1)) (by rw [show Int32.ofInt 1 = 1 from by decide]) rfl ?_
            refine V.iinc (lv' := [some (.ref 44), some (.int l1), some (.int l2), some (.int (l3 + 1)), some (.int l4), some (.int (l5 + 1))]) (pc := 59) dX12_waysOf_59 (Nat.le_of_ble_eq_true rfl) rfl rfl (v := (l5 + 1)) (by rw [show Int32.ofInt 1 = 1 from by decide]) rfl ?_
            refine V.goto (t := 17) (pc := 62) dX12_waysOf_62 (by decide) ?_
            exact h17 l1 l2 (l3 + 1) l4 (l5 + 1) _ h
          · refine V.icmp_ne_t (t := 59) (pc := 53) dX12_waysOf_53 (by decide) c ?_
            refine V.iinc (lv' := [some (.ref 44), some (.int l1), some (.int l2), some (.int l3), some (.int l4), some (.int (l5 + 1))]) (pc := 59) dX12_waysOf_59 (Nat.le_of_ble_eq_true rfl) rfl rfl (v := (l5 + 1)) (by rw [show Int32.ofInt 1 = 1 from by decide]) rfl ?_
            refine V.goto (t := 17) (pc := 62) dX12_waysOf_62 (by decide) ?_
            exact h17 l1 l2 l3 l4 (l5 + 1) _ h
def f_X12_waysOf_B5b (k5 : Int32 → Int32 → Int32 → Int32 → Wd → Option Int32) (l1 : Int32) (l2 : Int32) (l3 : Int32) (l4 : Int32) (w : Wd) : Option Int32 :=
  if (w.1 44 1) ≤ l4 then
    some l3
  else
    f_X12_waysOf_L17 k5 FU l1 l2 l3 l4 0 w
def f_X12_waysOf_L5 (n : Nat) : Int32 → Int32 → Int32 → Int32 → Wd → Option Int32 :=
  Nat.rec (fun _ _ _ _ _ => none) (fun _ k => f_X12_waysOf_B5b k) n
set_option maxHeartbeats 4000000 in
set_option maxRecDepth 100000 in
theorem t_X12_waysOf_L5 {G : GT} {d : Nat} {w : Wd} (hd : 1 ≤ d + 1)  : ∀ (n : Nat) (l1 : Int32) (l2 : Int32) (l3 : Int32) (l4 : Int32) (r : Int32), f_X12_waysOf_L5 n l1 l2 l3 l4 w = some r → U (vf G mX12_waysOf (d + 1)) 5 [some (.ref 44), some (.int l1), some (.int l2), some (.int l3), some (.int l4), none] [] w (some (.int r), 70, r0, w) := by
  intro n
  induction n with
  | zero => intro l1 l2 l3 l4 r h; cases h
  | succ n h5 =>
    intro l1 l2 l3 l4 r h
    have h : f_X12_waysOf_B5b (f_X12_waysOf_L5 n) l1 l2 l3 l4 w = some r := h
    unfold f_X12_waysOf_B5b at h
    refine V.iload (pc := 5) dX12_waysOf_5 rfl ?_
    refine V.aload_n (pc := 7) dX12_waysOf_7 rfl ?_
    refine V.getI (pc := 8) dX12_waysOf_8 f_RX12_92 k_cl12 lx_44 ly_44 rb_12_1 ?_
    rcases ite_e h with ⟨c, h⟩ | ⟨c, h⟩
    · refine V.icmp_ge_t (t := 71) (pc := 11) dX12_waysOf_11 (by decide) c ?_
      refine V.iload_n (pc := 71) dX12_waysOf_71 rfl ?_
      obtain rfl := Option.some.inj h
      exact V.iret (pc := 72) dX12_waysOf_72 rfl (Nat.le_refl _) (Nat.le_refl _)
    · refine V.icmp_ge_f (t := 71) (pc := 11) dX12_waysOf_11 (by decide) c ?_
      refine V.iconst (pc := 14) dX12_waysOf_14 ic_0 ?_
      refine V.istore (lv' := [some (.ref 44), some (.int l1), some (.int l2), some (.int l3), some (.int l4), some (.int 0)]) (pc := 15) dX12_waysOf_15 (Nat.le_of_ble_eq_true rfl) rfl rfl ?_
      exact t_X12_waysOf_L17 hd h5 FU l1 l2 l3 l4 0 _ h
def f_X12_waysOf (l1 : Int32) (l2 : Int32) (w : Wd) : Option Int32 :=
  f_X12_waysOf_L5  FU l1 l2 0 0 w
set_option maxHeartbeats 4000000 in
set_option maxRecDepth 100000 in
theorem ok_X12_waysOf {G : GT} {d : Nat} (hd : 1 ≤ d) {w : Wd} (l1 : Int32) (l2 : Int32) {r : Int32} (h : f_X12_waysOf l1 l2 w = some r) : uC G yX12_waysOf mX12_waysOf d [.ref 44, .int l1, .int l2] w (some (.int r)) w := by
  obtain ⟨d, rfl⟩ : ∃ e, d = e + 1 := ⟨d - 1, by omega⟩
  unfold f_X12_waysOf at h
  refine uC_of (lv := [some (.ref 44), some (.int l1), some (.int l2), none, none, none]) 3 pn_X12 ⟨rfl, rfl⟩ (Nat.le_of_ble_eq_true rfl) rfl ?_
  refine V.iconst (pc := 0) dX12_waysOf_0 ic_0 ?_
  refine V.istore_n (lv' := [some (.ref 44), some (.int l1), some (.int l2), some (.int 0), none, none]) (pc := 1) dX12_waysOf_1 (Nat.le_of_ble_eq_true rfl) rfl rfl ?_
  refine V.iconst (pc := 2) dX12_waysOf_2 ic_0 ?_
  refine V.istore (lv' := [some (.ref 44), some (.int l1), some (.int l2), some (.int 0), some (.int 0), none]) (pc := 3) dX12_waysOf_3 (Nat.le_of_ble_eq_true rfl) rfl rfl ?_
  exact t_X12_waysOf_L5 hd FU l1 l2 0 0 _ h
theorem dX12_ways_0 : decode cX12_ways 0 = .ok (.aload_n 0, 1) := by decide +kernel
theorem dX12_ways_1 : decode cX12_ways 1 = .ok (.iload_n 1, 1) := by decide +kernel
theorem dX12_ways_2 : decode cX12_ways 2 = .ok (.invokevirtual 169, 3) := by decide +kernel
theorem dX12_ways_5 : decode cX12_ways 5 = .ok (.ifCond .eq 20, 3) := by decide +kernel
theorem dX12_ways_8 : decode cX12_ways 8 = .ok (.aload_n 0, 1) := by decide +kernel
theorem dX12_ways_9 : decode cX12_ways 9 = .ok (.iload_n 2, 1) := by decide +kernel
theorem dX12_ways_10 : decode cX12_ways 10 = .ok (.invokevirtual 163, 3) := by decide +kernel
theorem dX12_ways_13 : decode cX12_ways 13 = .ok (.ifCond .eq 12, 3) := by decide +kernel
theorem dX12_ways_16 : decode cX12_ways 16 = .ok (.aload_n 0, 1) := by decide +kernel
theorem dX12_ways_17 : decode cX12_ways 17 = .ok (.iload_n 1, 1) := by decide +kernel
theorem dX12_ways_18 : decode cX12_ways 18 = .ok (.iload_n 2, 1) := by decide +kernel
theorem dX12_ways_19 : decode cX12_ways 19 = .ok (.invokevirtual 212, 3) := by decide +kernel
theorem dX12_ways_22 : decode cX12_ways 22 = .ok (.goto 4, 3) := by decide +kernel
theorem dX12_ways_25 : decode cX12_ways 25 = .ok (.iconst (-1), 1) := by decide +kernel
theorem dX12_ways_26 : decode cX12_ways 26 = .ok (.ireturn, 1) := by decide +kernel
def f_X12_ways (l1 : Int32) (l2 : Int32) (w : Wd) : Option Int32 :=
  if (f_X12_isSet l1 w) = 0 then
    some (-1)
  else
    if (f_X12_isElement l2 w) = 0 then
      some (-1)
    else
      bnd (f_X12_waysOf l1 l2 w) fun x1 =>
      some x1
set_option maxHeartbeats 4000000 in
set_option maxRecDepth 100000 in
theorem ok_X12_ways {G : GT} {d : Nat} (hd : 2 ≤ d) {w : Wd} (l1 : Int32) (l2 : Int32) {r : Int32} (h : f_X12_ways l1 l2 w = some r) : uC G yX12_ways mX12_ways d [.ref 44, .int l1, .int l2] w (some (.int r)) w := by
  obtain ⟨d, rfl⟩ : ∃ e, d = e + 1 := ⟨d - 1, by omega⟩
  unfold f_X12_ways at h
  refine uC_of (lv := [some (.ref 44), some (.int l1), some (.int l2)]) 0 pn_X12 ⟨rfl, rfl⟩ (Nat.le_of_ble_eq_true rfl) rfl ?_
  refine V.aload_n (pc := 0) dX12_ways_0 rfl ?_
  refine V.iload_n (pc := 1) dX12_ways_1 rfl ?_
  refine U.callV (pc := 2) (As := [.int l1]) (st := []) dX12_ways_2 l_RX12_169 (ok_X12_isSet (by omega) l1 ) lx_44 ly_44 cn_12 (Nat.le_of_ble_eq_true rfl) rfl rfl (Nat.le_of_ble_eq_true rfl) ?_
  rcases ite_e h with ⟨c, h⟩ | ⟨c, h⟩
  · refine V.if_eq_t (t := 25) (pc := 5) dX12_ways_5 (by decide) c ?_
    refine V.iconst (pc := 25) dX12_ways_25 ic_m1 ?_
    obtain rfl := Option.some.inj h
    exact V.iret (pc := 26) dX12_ways_26 rfl (Nat.le_refl _) (Nat.le_refl _)
  · refine V.if_eq_f (t := 25) (pc := 5) dX12_ways_5 (by decide) c ?_
    refine V.aload_n (pc := 8) dX12_ways_8 rfl ?_
    refine V.iload_n (pc := 9) dX12_ways_9 rfl ?_
    refine U.callV (pc := 10) (As := [.int l2]) (st := []) dX12_ways_10 l_RX12_163 (ok_X12_isElement (by omega) l2 ) lx_44 ly_44 cn_12 (Nat.le_of_ble_eq_true rfl) rfl rfl (Nat.le_of_ble_eq_true rfl) ?_
    rcases ite_e h with ⟨c, h⟩ | ⟨c, h⟩
    · refine V.if_eq_t (t := 25) (pc := 13) dX12_ways_13 (by decide) c ?_
      refine V.iconst (pc := 25) dX12_ways_25 ic_m1 ?_
      obtain rfl := Option.some.inj h
      exact V.iret (pc := 26) dX12_ways_26 rfl (Nat.le_refl _) (Nat.le_refl _)
    · refine V.if_eq_f (t := 25) (pc := 13) dX12_ways_13 (by decide) c ?_
      refine V.aload_n (pc := 16) dX12_ways_16 rfl ?_
      refine V.iload_n (pc := 17) dX12_ways_17 rfl ?_
      refine V.iload_n (pc := 18) dX12_ways_18 rfl ?_
      obtain ⟨x1, ex1, h⟩ := bnd_e h
      refine U.callV (pc := 19) (As := [.int l1, .int l2]) (st := []) dX12_ways_19 l_RX12_212 (ok_X12_waysOf (by omega) l1 l2 ex1) lx_44 ly_44 cn_12 (Nat.le_of_ble_eq_true rfl) rfl rfl (Nat.le_of_ble_eq_true rfl) ?_
      refine V.goto (t := 26) (pc := 22) dX12_ways_22 (by decide) ?_
      obtain rfl := Option.some.inj h
      exact V.iret (pc := 26) dX12_ways_26 rfl (Nat.le_refl _) (Nat.le_refl _)
theorem dX11_energy_0 : decode cX11_energy 0 = .ok (.aload_n 0, 1) := by decide +kernel
theorem dX11_energy_1 : decode cX11_energy 1 = .ok (.getfield 28, 3) := by decide +kernel
theorem dX11_energy_4 : decode cX11_energy 4 = .ok (.iload_n 1, 1) := by decide +kernel
theorem dX11_energy_5 : decode cX11_energy 5 = .ok (.invokevirtual 118, 3) := by decide +kernel
theorem dX11_energy_8 : decode cX11_energy 8 = .ok (.ifCond .ne 5, 3) := by decide +kernel
theorem dX11_energy_11 : decode cX11_energy 11 = .ok (.iconst (-1), 1) := by decide +kernel
theorem dX11_energy_12 : decode cX11_energy 12 = .ok (.ireturn, 1) := by decide +kernel
theorem dX11_energy_13 : decode cX11_energy 13 = .ok (.iconst 0, 1) := by decide +kernel
theorem dX11_energy_14 : decode cX11_energy 14 = .ok (.istore_n 2, 1) := by decide +kernel
theorem dX11_energy_15 : decode cX11_energy 15 = .ok (.iconst 0, 1) := by decide +kernel
theorem dX11_energy_16 : decode cX11_energy 16 = .ok (.istore_n 3, 1) := by decide +kernel
theorem dX11_energy_17 : decode cX11_energy 17 = .ok (.iload_n 3, 1) := by decide +kernel
theorem dX11_energy_18 : decode cX11_energy 18 = .ok (.aload_n 0, 1) := by decide +kernel
theorem dX11_energy_19 : decode cX11_energy 19 = .ok (.getfield 28, 3) := by decide +kernel
theorem dX11_energy_22 : decode cX11_energy 22 = .ok (.getfield 104, 3) := by decide +kernel
theorem dX11_energy_25 : decode cX11_energy 25 = .ok (.if_icmp .ge 28, 3) := by decide +kernel
theorem dX11_energy_28 : decode cX11_energy 28 = .ok (.aload_n 0, 1) := by decide +kernel
theorem dX11_energy_29 : decode cX11_energy 29 = .ok (.getfield 28, 3) := by decide +kernel
theorem dX11_energy_32 : decode cX11_energy 32 = .ok (.iload_n 1, 1) := by decide +kernel
theorem dX11_energy_33 : decode cX11_energy 33 = .ok (.iload_n 3, 1) := by decide +kernel
theorem dX11_energy_34 : decode cX11_energy 34 = .ok (.invokevirtual 208, 3) := by decide +kernel
theorem dX11_energy_37 : decode cX11_energy 37 = .ok (.istore 4, 2) := by decide +kernel
theorem dX11_energy_39 : decode cX11_energy 39 = .ok (.iload_n 2, 1) := by decide +kernel
theorem dX11_energy_40 : decode cX11_energy 40 = .ok (.iload 4, 2) := by decide +kernel
theorem dX11_energy_42 : decode cX11_energy 42 = .ok (.iload 4, 2) := by decide +kernel
theorem dX11_energy_44 : decode cX11_energy 44 = .ok (.imul, 1) := by decide +kernel
theorem dX11_energy_45 : decode cX11_energy 45 = .ok (.iadd, 1) := by decide +kernel
theorem dX11_energy_46 : decode cX11_energy 46 = .ok (.istore_n 2, 1) := by decide +kernel
theorem dX11_energy_47 : decode cX11_energy 47 = .ok (.iinc 3 1, 3) := by decide +kernel
theorem dX11_energy_50 : decode cX11_energy 50 = .ok (.goto (-33), 3) := by decide +kernel
theorem dX11_energy_53 : decode cX11_energy 53 = .ok (.iload_n 2, 1) := by decide +kernel
theorem dX11_energy_54 : decode cX11_energy 54 = .ok (.ireturn, 1) := by decide +kernel
def f_X11_energy_B17b (k17 : Int32 → Int32 → Int32 → Wd → Option Int32) (l1 : Int32) (l2 : Int32) (l3 : Int32) (w : Wd) : Option Int32 :=
  if (w.1 6 7) ≤ l3 then
    some l2
  else
    bnd (f_X4_waysOf l1 l3 w) fun x1 =>
    k17 l1 (l2 + (x1 * x1)) (l3 + 1) w
def f_X11_energy_L17 (n : Nat) : Int32 → Int32 → Int32 → Wd → Option Int32 :=
  Nat.rec (fun _ _ _ _ => none) (fun _ k => f_X11_energy_B17b k) n
set_option maxHeartbeats 4000000 in
set_option maxRecDepth 100000 in
theorem t_X11_energy_L17 {G : GT} {d : Nat} {w : Wd} (hd : 2 ≤ d + 1)  : ∀ (n : Nat) (l1 : Int32) (l2 : Int32) (l3 : Int32) (r : Int32), f_X11_energy_L17 n l1 l2 l3 w = some r → U (vf G mX11_energy (d + 1)) 17 [some (.ref 0), some (.int l1), some (.int l2), some (.int l3), none] [] w (some (.int r), 70, r0, w) := by
  intro n
  induction n with
  | zero => intro l1 l2 l3 r h; cases h
  | succ n h17 =>
    intro l1 l2 l3 r h
    have h : f_X11_energy_B17b (f_X11_energy_L17 n) l1 l2 l3 w = some r := h
    unfold f_X11_energy_B17b at h
    refine V.iload_n (pc := 17) dX11_energy_17 rfl ?_
    refine V.aload_n (pc := 18) dX11_energy_18 rfl ?_
    refine V.getR (t := 6) (pc := 19) dX11_energy_19 f_RX11_28 k_cl11 lx_0 ly_0 rb_11_2 rr_0_2 ?_
    refine V.getI (pc := 22) dX11_energy_22 f_RX11_104 k_cl4 lx_6 ly_6 rb_4_7 ?_
    rcases ite_e h with ⟨c, h⟩ | ⟨c, h⟩
    · refine V.icmp_ge_t (t := 53) (pc := 25) dX11_energy_25 (by decide) c ?_
      refine V.iload_n (pc := 53) dX11_energy_53 rfl ?_
      obtain rfl := Option.some.inj h
      exact V.iret (pc := 54) dX11_energy_54 rfl (Nat.le_refl _) (Nat.le_refl _)
    · refine V.icmp_ge_f (t := 53) (pc := 25) dX11_energy_25 (by decide) c ?_
      refine V.aload_n (pc := 28) dX11_energy_28 rfl ?_
      refine V.getR (t := 6) (pc := 29) dX11_energy_29 f_RX11_28 k_cl11 lx_0 ly_0 rb_11_2 rr_0_2 ?_
      refine V.iload_n (pc := 32) dX11_energy_32 rfl ?_
      refine V.iload_n (pc := 33) dX11_energy_33 rfl ?_
      obtain ⟨x1, ex1, h⟩ := bnd_e h
      refine U.callV (pc := 34) (As := [.int l1, .int l3]) (st := []) dX11_energy_34 l_RX11_208 (ok_X4_waysOf (by omega) l1 l3 ex1) lx_6 ly_6 cn_4 (Nat.le_of_ble_eq_true rfl) rfl rfl (Nat.le_of_ble_eq_true rfl) ?_
      refine V.istore (lv' := [some (.ref 0), some (.int l1), some (.int l2), some (.int l3), some (.int x1)]) (pc := 37) dX11_energy_37 (Nat.le_of_ble_eq_true rfl) rfl rfl ?_
      refine V.iload_n (pc := 39) dX11_energy_39 rfl ?_
      refine V.iload (pc := 40) dX11_energy_40 rfl ?_
      refine V.iload (pc := 42) dX11_energy_42 rfl ?_
      refine V.imul (pc := 44) dX11_energy_44 ?_
      refine V.iadd (pc := 45) dX11_energy_45 ?_
      refine V.istore_n (lv' := [some (.ref 0), some (.int l1), some (.int (l2 + (x1 * x1))), some (.int l3), some (.int x1)]) (pc := 46) dX11_energy_46 (Nat.le_of_ble_eq_true rfl) rfl rfl ?_
      refine V.iinc (lv' := [some (.ref 0), some (.int l1), some (.int (l2 + (x1 * x1))), some (.int (l3 + 1)), some (.int x1)]) (pc := 47) dX11_energy_47 (Nat.le_of_ble_eq_true rfl) rfl rfl (v := (l3 + 1)) (by rw [show Int32.ofInt 1 = 1 from by decide]) rfl ?_
      refine V.goto (t := 17) (pc := 50) dX11_energy_50 (by decide) ?_
      refine V.weak (lv' := [some (.ref 0), some (.int l1), some (.int (l2 + (x1 * x1))), some (.int (l3 + 1)), none]) (And.intro rfl (And.intro rfl (And.intro rfl (And.intro rfl trivial)))) ?_
      exact h17 l1 (l2 + (x1 * x1)) (l3 + 1) _ h
def f_X11_energy (l1 : Int32) (w : Wd) : Option Int32 :=
  if (f_X4_holdsSet l1 w) = 0 then
    some (-1)
  else
    f_X11_energy_L17  FU l1 0 0 w
set_option maxHeartbeats 4000000 in
set_option maxRecDepth 100000 in
theorem ok_X11_energy {G : GT} {d : Nat} (hd : 2 ≤ d) {w : Wd} (l1 : Int32) {r : Int32} (h : f_X11_energy l1 w = some r) : uC G yX11_energy mX11_energy d [.ref 0, .int l1] w (some (.int r)) w := by
  obtain ⟨d, rfl⟩ : ∃ e, d = e + 1 := ⟨d - 1, by omega⟩
  unfold f_X11_energy at h
  refine uC_of (lv := [some (.ref 0), some (.int l1), none, none, none]) 3 pn_X11 ⟨rfl, rfl⟩ (Nat.le_of_ble_eq_true rfl) rfl ?_
  refine V.aload_n (pc := 0) dX11_energy_0 rfl ?_
  refine V.getR (t := 6) (pc := 1) dX11_energy_1 f_RX11_28 k_cl11 lx_0 ly_0 rb_11_2 rr_0_2 ?_
  refine V.iload_n (pc := 4) dX11_energy_4 rfl ?_
  refine U.callV (pc := 5) (As := [.int l1]) (st := []) dX11_energy_5 l_RX11_118 (ok_X4_holdsSet (by omega) l1 ) lx_6 ly_6 cn_4 (Nat.le_of_ble_eq_true rfl) rfl rfl (Nat.le_of_ble_eq_true rfl) ?_
  rcases ite_e h with ⟨c, h⟩ | ⟨c, h⟩
  · refine V.if_ne_f (t := 13) (pc := 8) dX11_energy_8 (by decide) c ?_
    refine V.iconst (pc := 11) dX11_energy_11 ic_m1 ?_
    obtain rfl := Option.some.inj h
    exact V.iret (pc := 12) dX11_energy_12 rfl (Nat.le_refl _) (Nat.le_refl _)
  · refine V.if_ne_t (t := 13) (pc := 8) dX11_energy_8 (by decide) c ?_
    refine V.iconst (pc := 13) dX11_energy_13 ic_0 ?_
    refine V.istore_n (lv' := [some (.ref 0), some (.int l1), some (.int 0), none, none]) (pc := 14) dX11_energy_14 (Nat.le_of_ble_eq_true rfl) rfl rfl ?_
    refine V.iconst (pc := 15) dX11_energy_15 ic_0 ?_
    refine V.istore_n (lv' := [some (.ref 0), some (.int l1), some (.int 0), some (.int 0), none]) (pc := 16) dX11_energy_16 (Nat.le_of_ble_eq_true rfl) rfl rfl ?_
    exact t_X11_energy_L17 hd FU l1 0 0 _ h
theorem dX12_energy_0 : decode cX12_energy 0 = .ok (.aload_n 0, 1) := by decide +kernel
theorem dX12_energy_1 : decode cX12_energy 1 = .ok (.iload_n 1, 1) := by decide +kernel
theorem dX12_energy_2 : decode cX12_energy 2 = .ok (.invokevirtual 169, 3) := by decide +kernel
theorem dX12_energy_5 : decode cX12_energy 5 = .ok (.ifCond .ne 5, 3) := by decide +kernel
theorem dX12_energy_8 : decode cX12_energy 8 = .ok (.iconst (-1), 1) := by decide +kernel
theorem dX12_energy_9 : decode cX12_energy 9 = .ok (.ireturn, 1) := by decide +kernel
theorem dX12_energy_10 : decode cX12_energy 10 = .ok (.iconst 0, 1) := by decide +kernel
theorem dX12_energy_11 : decode cX12_energy 11 = .ok (.istore_n 2, 1) := by decide +kernel
theorem dX12_energy_12 : decode cX12_energy 12 = .ok (.iconst 0, 1) := by decide +kernel
theorem dX12_energy_13 : decode cX12_energy 13 = .ok (.istore_n 3, 1) := by decide +kernel
theorem dX12_energy_14 : decode cX12_energy 14 = .ok (.iload_n 3, 1) := by decide +kernel
theorem dX12_energy_15 : decode cX12_energy 15 = .ok (.aload_n 0, 1) := by decide +kernel
theorem dX12_energy_16 : decode cX12_energy 16 = .ok (.getfield 92, 3) := by decide +kernel
theorem dX12_energy_19 : decode cX12_energy 19 = .ok (.if_icmp .ge 25, 3) := by decide +kernel
theorem dX12_energy_22 : decode cX12_energy 22 = .ok (.iload_n 2, 1) := by decide +kernel
theorem dX12_energy_23 : decode cX12_energy 23 = .ok (.aload_n 0, 1) := by decide +kernel
theorem dX12_energy_24 : decode cX12_energy 24 = .ok (.iload_n 1, 1) := by decide +kernel
theorem dX12_energy_25 : decode cX12_energy 25 = .ok (.iload_n 3, 1) := by decide +kernel
theorem dX12_energy_26 : decode cX12_energy 26 = .ok (.invokevirtual 212, 3) := by decide +kernel
theorem dX12_energy_29 : decode cX12_energy 29 = .ok (.aload_n 0, 1) := by decide +kernel
theorem dX12_energy_30 : decode cX12_energy 30 = .ok (.iload_n 1, 1) := by decide +kernel
theorem dX12_energy_31 : decode cX12_energy 31 = .ok (.iload_n 3, 1) := by decide +kernel
theorem dX12_energy_32 : decode cX12_energy 32 = .ok (.invokevirtual 212, 3) := by decide +kernel
theorem dX12_energy_35 : decode cX12_energy 35 = .ok (.imul, 1) := by decide +kernel
theorem dX12_energy_36 : decode cX12_energy 36 = .ok (.iadd, 1) := by decide +kernel
theorem dX12_energy_37 : decode cX12_energy 37 = .ok (.istore_n 2, 1) := by decide +kernel
theorem dX12_energy_38 : decode cX12_energy 38 = .ok (.iinc 3 1, 3) := by decide +kernel
theorem dX12_energy_41 : decode cX12_energy 41 = .ok (.goto (-27), 3) := by decide +kernel
theorem dX12_energy_44 : decode cX12_energy 44 = .ok (.iload_n 2, 1) := by decide +kernel
theorem dX12_energy_45 : decode cX12_energy 45 = .ok (.ireturn, 1) := by decide +kernel
def f_X12_energy_B14b (k14 : Int32 → Int32 → Int32 → Wd → Option Int32) (l1 : Int32) (l2 : Int32) (l3 : Int32) (w : Wd) : Option Int32 :=
  if (w.1 44 1) ≤ l3 then
    some l2
  else
    bnd (f_X12_waysOf l1 l3 w) fun x1 =>
    bnd (f_X12_waysOf l1 l3 w) fun x2 =>
    k14 l1 (l2 + (x1 * x2)) (l3 + 1) w
def f_X12_energy_L14 (n : Nat) : Int32 → Int32 → Int32 → Wd → Option Int32 :=
  Nat.rec (fun _ _ _ _ => none) (fun _ k => f_X12_energy_B14b k) n
set_option maxHeartbeats 4000000 in
set_option maxRecDepth 100000 in
theorem t_X12_energy_L14 {G : GT} {d : Nat} {w : Wd} (hd : 2 ≤ d + 1)  : ∀ (n : Nat) (l1 : Int32) (l2 : Int32) (l3 : Int32) (r : Int32), f_X12_energy_L14 n l1 l2 l3 w = some r → U (vf G mX12_energy (d + 1)) 14 [some (.ref 44), some (.int l1), some (.int l2), some (.int l3)] [] w (some (.int r), 70, r0, w) := by
  intro n
  induction n with
  | zero => intro l1 l2 l3 r h; cases h
  | succ n h14 =>
    intro l1 l2 l3 r h
    have h : f_X12_energy_B14b (f_X12_energy_L14 n) l1 l2 l3 w = some r := h
    unfold f_X12_energy_B14b at h
    refine V.iload_n (pc := 14) dX12_energy_14 rfl ?_
    refine V.aload_n (pc := 15) dX12_energy_15 rfl ?_
    refine V.getI (pc := 16) dX12_energy_16 f_RX12_92 k_cl12 lx_44 ly_44 rb_12_1 ?_
    rcases ite_e h with ⟨c, h⟩ | ⟨c, h⟩
    · refine V.icmp_ge_t (t := 44) (pc := 19) dX12_energy_19 (by decide) c ?_
      refine V.iload_n (pc := 44) dX12_energy_44 rfl ?_
      obtain rfl := Option.some.inj h
      exact V.iret (pc := 45) dX12_energy_45 rfl (Nat.le_refl _) (Nat.le_refl _)
    · refine V.icmp_ge_f (t := 44) (pc := 19) dX12_energy_19 (by decide) c ?_
      refine V.iload_n (pc := 22) dX12_energy_22 rfl ?_
      refine V.aload_n (pc := 23) dX12_energy_23 rfl ?_
      refine V.iload_n (pc := 24) dX12_energy_24 rfl ?_
      refine V.iload_n (pc := 25) dX12_energy_25 rfl ?_
      obtain ⟨x1, ex1, h⟩ := bnd_e h
      refine U.callV (pc := 26) (As := [.int l1, .int l3]) (st := [.int l2]) dX12_energy_26 l_RX12_212 (ok_X12_waysOf (by omega) l1 l3 ex1) lx_44 ly_44 cn_12 (Nat.le_of_ble_eq_true rfl) rfl rfl (Nat.le_of_ble_eq_true rfl) ?_
      refine V.aload_n (pc := 29) dX12_energy_29 rfl ?_
      refine V.iload_n (pc := 30) dX12_energy_30 rfl ?_
      refine V.iload_n (pc := 31) dX12_energy_31 rfl ?_
      obtain ⟨x2, ex2, h⟩ := bnd_e h
      refine U.callV (pc := 32) (As := [.int l1, .int l3]) (st := [.int x1, .int l2]) dX12_energy_32 l_RX12_212 (ok_X12_waysOf (by omega) l1 l3 ex2) lx_44 ly_44 cn_12 (Nat.le_of_ble_eq_true rfl) rfl rfl (Nat.le_of_ble_eq_true rfl) ?_
      refine V.imul (pc := 35) dX12_energy_35 ?_
      refine V.iadd (pc := 36) dX12_energy_36 ?_
      refine V.istore_n (lv' := [some (.ref 44), some (.int l1), some (.int (l2 + (x1 * x2))), some (.int l3)]) (pc := 37) dX12_energy_37 (Nat.le_of_ble_eq_true rfl) rfl rfl ?_
      refine V.iinc (lv' := [some (.ref 44), some (.int l1), some (.int (l2 + (x1 * x2))), some (.int (l3 + 1))]) (pc := 38) dX12_energy_38 (Nat.le_of_ble_eq_true rfl) rfl rfl (v := (l3 + 1)) (by rw [show Int32.ofInt 1 = 1 from by decide]) rfl ?_
      refine V.goto (t := 14) (pc := 41) dX12_energy_41 (by decide) ?_
      exact h14 l1 (l2 + (x1 * x2)) (l3 + 1) _ h
def f_X12_energy (l1 : Int32) (w : Wd) : Option Int32 :=
  if (f_X12_isSet l1 w) = 0 then
    some (-1)
  else
    f_X12_energy_L14  FU l1 0 0 w
set_option maxHeartbeats 4000000 in
set_option maxRecDepth 100000 in
theorem ok_X12_energy {G : GT} {d : Nat} (hd : 2 ≤ d) {w : Wd} (l1 : Int32) {r : Int32} (h : f_X12_energy l1 w = some r) : uC G yX12_energy mX12_energy d [.ref 44, .int l1] w (some (.int r)) w := by
  obtain ⟨d, rfl⟩ : ∃ e, d = e + 1 := ⟨d - 1, by omega⟩
  unfold f_X12_energy at h
  refine uC_of (lv := [some (.ref 44), some (.int l1), none, none]) 2 pn_X12 ⟨rfl, rfl⟩ (Nat.le_of_ble_eq_true rfl) rfl ?_
  refine V.aload_n (pc := 0) dX12_energy_0 rfl ?_
  refine V.iload_n (pc := 1) dX12_energy_1 rfl ?_
  refine U.callV (pc := 2) (As := [.int l1]) (st := []) dX12_energy_2 l_RX12_169 (ok_X12_isSet (by omega) l1 ) lx_44 ly_44 cn_12 (Nat.le_of_ble_eq_true rfl) rfl rfl (Nat.le_of_ble_eq_true rfl) ?_
  rcases ite_e h with ⟨c, h⟩ | ⟨c, h⟩
  · refine V.if_ne_f (t := 10) (pc := 5) dX12_energy_5 (by decide) c ?_
    refine V.iconst (pc := 8) dX12_energy_8 ic_m1 ?_
    obtain rfl := Option.some.inj h
    exact V.iret (pc := 9) dX12_energy_9 rfl (Nat.le_refl _) (Nat.le_refl _)
  · refine V.if_ne_t (t := 10) (pc := 5) dX12_energy_5 (by decide) c ?_
    refine V.iconst (pc := 10) dX12_energy_10 ic_0 ?_
    refine V.istore_n (lv' := [some (.ref 44), some (.int l1), some (.int 0), none]) (pc := 11) dX12_energy_11 (Nat.le_of_ble_eq_true rfl) rfl rfl ?_
    refine V.iconst (pc := 12) dX12_energy_12 ic_0 ?_
    refine V.istore_n (lv' := [some (.ref 44), some (.int l1), some (.int 0), some (.int 0)]) (pc := 13) dX12_energy_13 (Nat.le_of_ble_eq_true rfl) rfl rfl ?_
    exact t_X12_energy_L14 hd FU l1 0 0 _ h
theorem dX3_total_0 : decode cX3_total 0 = .ok (.aload_n 0, 1) := by decide +kernel
theorem dX3_total_1 : decode cX3_total 1 = .ok (.getfield 19, 3) := by decide +kernel
theorem dX3_total_4 : decode cX3_total 4 = .ok (.ifCond .le 8, 3) := by decide +kernel
theorem dX3_total_7 : decode cX3_total 7 = .ok (.aload_n 0, 1) := by decide +kernel
theorem dX3_total_8 : decode cX3_total 8 = .ok (.getfield 19, 3) := by decide +kernel
theorem dX3_total_11 : decode cX3_total 11 = .ok (.ireturn, 1) := by decide +kernel
theorem dX3_total_12 : decode cX3_total 12 = .ok (.aload_n 0, 1) := by decide +kernel
theorem dX3_total_13 : decode cX3_total 13 = .ok (.getfield 11, 3) := by decide +kernel
theorem dX3_total_16 : decode cX3_total 16 = .ok (.iconst 0, 1) := by decide +kernel
theorem dX3_total_17 : decode cX3_total 17 = .ok (.iconst 0, 1) := by decide +kernel
theorem dX3_total_18 : decode cX3_total 18 = .ok (.iastore, 1) := by decide +kernel
theorem dX3_total_19 : decode cX3_total 19 = .ok (.aload_n 0, 1) := by decide +kernel
theorem dX3_total_20 : decode cX3_total 20 = .ok (.iconst 1, 1) := by decide +kernel
theorem dX3_total_21 : decode cX3_total 21 = .ok (.putfield 19, 3) := by decide +kernel
theorem dX3_total_24 : decode cX3_total 24 = .ok (.iconst 1, 1) := by decide +kernel
theorem dX3_total_25 : decode cX3_total 25 = .ok (.istore_n 1, 1) := by decide +kernel
theorem dX3_total_26 : decode cX3_total 26 = .ok (.iload_n 1, 1) := by decide +kernel
theorem dX3_total_27 : decode cX3_total 27 = .ok (.aload_n 0, 1) := by decide +kernel
theorem dX3_total_28 : decode cX3_total 28 = .ok (.getfield 15, 3) := by decide +kernel
theorem dX3_total_31 : decode cX3_total 31 = .ok (.getfield 23, 3) := by decide +kernel
theorem dX3_total_34 : decode cX3_total 34 = .ok (.if_icmp .ge 80, 3) := by decide +kernel
theorem dX3_total_37 : decode cX3_total 37 = .ok (.aload_n 0, 1) := by decide +kernel
theorem dX3_total_38 : decode cX3_total 38 = .ok (.getfield 19, 3) := by decide +kernel
theorem dX3_total_41 : decode cX3_total 41 = .ok (.istore_n 2, 1) := by decide +kernel
theorem dX3_total_42 : decode cX3_total 42 = .ok (.iconst 0, 1) := by decide +kernel
theorem dX3_total_43 : decode cX3_total 43 = .ok (.istore_n 3, 1) := by decide +kernel
theorem dX3_total_44 : decode cX3_total 44 = .ok (.iload_n 3, 1) := by decide +kernel
theorem dX3_total_45 : decode cX3_total 45 = .ok (.iload_n 2, 1) := by decide +kernel
theorem dX3_total_46 : decode cX3_total 46 = .ok (.if_icmp .ge 62, 3) := by decide +kernel
theorem dX3_total_49 : decode cX3_total 49 = .ok (.aload_n 0, 1) := by decide +kernel
theorem dX3_total_50 : decode cX3_total 50 = .ok (.getfield 19, 3) := by decide +kernel
theorem dX3_total_53 : decode cX3_total 53 = .ok (.sipush 3072, 3) := by decide +kernel
theorem dX3_total_56 : decode cX3_total 56 = .ok (.if_icmp .ge 52, 3) := by decide +kernel
theorem dX3_total_59 : decode cX3_total 59 = .ok (.aload_n 0, 1) := by decide +kernel
theorem dX3_total_60 : decode cX3_total 60 = .ok (.getfield 15, 3) := by decide +kernel
theorem dX3_total_63 : decode cX3_total 63 = .ok (.aload_n 0, 1) := by decide +kernel
theorem dX3_total_64 : decode cX3_total 64 = .ok (.getfield 11, 3) := by decide +kernel
theorem dX3_total_67 : decode cX3_total 67 = .ok (.iload_n 3, 1) := by decide +kernel
theorem dX3_total_68 : decode cX3_total 68 = .ok (.iaload, 1) := by decide +kernel
theorem dX3_total_69 : decode cX3_total 69 = .ok (.iload_n 1, 1) := by decide +kernel
theorem dX3_total_70 : decode cX3_total 70 = .ok (.invokevirtual 28, 3) := by decide +kernel
theorem dX3_total_73 : decode cX3_total 73 = .ok (.ifCond .eq 29, 3) := by decide +kernel
theorem dX3_total_76 : decode cX3_total 76 = .ok (.aload_n 0, 1) := by decide +kernel
theorem dX3_total_77 : decode cX3_total 77 = .ok (.getfield 11, 3) := by decide +kernel
theorem dX3_total_80 : decode cX3_total 80 = .ok (.aload_n 0, 1) := by decide +kernel
theorem dX3_total_81 : decode cX3_total 81 = .ok (.dup, 1) := by decide +kernel
theorem dX3_total_82 : decode cX3_total 82 = .ok (.getfield 19, 3) := by decide +kernel
theorem dX3_total_85 : decode cX3_total 85 = .ok (.dup_x1, 1) := by decide +kernel
theorem dX3_total_86 : decode cX3_total 86 = .ok (.iconst 1, 1) := by decide +kernel
theorem dX3_total_87 : decode cX3_total 87 = .ok (.iadd, 1) := by decide +kernel
theorem dX3_total_88 : decode cX3_total 88 = .ok (.putfield 19, 3) := by decide +kernel
theorem dX3_total_91 : decode cX3_total 91 = .ok (.aload_n 0, 1) := by decide +kernel
theorem dX3_total_92 : decode cX3_total 92 = .ok (.getfield 11, 3) := by decide +kernel
theorem dX3_total_95 : decode cX3_total 95 = .ok (.iload_n 3, 1) := by decide +kernel
theorem dX3_total_96 : decode cX3_total 96 = .ok (.iaload, 1) := by decide +kernel
theorem dX3_total_97 : decode cX3_total 97 = .ok (.iconst 1, 1) := by decide +kernel
theorem dX3_total_98 : decode cX3_total 98 = .ok (.iload_n 1, 1) := by decide +kernel
theorem dX3_total_99 : decode cX3_total 99 = .ok (.ishl, 1) := by decide +kernel
theorem dX3_total_100 : decode cX3_total 100 = .ok (.ior, 1) := by decide +kernel
theorem dX3_total_101 : decode cX3_total 101 = .ok (.iastore, 1) := by decide +kernel
theorem dX3_total_102 : decode cX3_total 102 = .ok (.iinc 3 1, 3) := by decide +kernel
theorem dX3_total_105 : decode cX3_total 105 = .ok (.goto (-61), 3) := by decide +kernel
theorem dX3_total_108 : decode cX3_total 108 = .ok (.iinc 1 1, 3) := by decide +kernel
theorem dX3_total_111 : decode cX3_total 111 = .ok (.goto (-85), 3) := by decide +kernel
theorem dX3_total_114 : decode cX3_total 114 = .ok (.iconst 0, 1) := by decide +kernel
theorem dX3_total_115 : decode cX3_total 115 = .ok (.istore_n 1, 1) := by decide +kernel
theorem dX3_total_116 : decode cX3_total 116 = .ok (.iload_n 1, 1) := by decide +kernel
theorem dX3_total_117 : decode cX3_total 117 = .ok (.aload_n 0, 1) := by decide +kernel
theorem dX3_total_118 : decode cX3_total 118 = .ok (.getfield 19, 3) := by decide +kernel
theorem dX3_total_121 : decode cX3_total 121 = .ok (.if_icmp .ge 34, 3) := by decide +kernel
theorem dX3_total_124 : decode cX3_total 124 = .ok (.aload_n 0, 1) := by decide +kernel
theorem dX3_total_125 : decode cX3_total 125 = .ok (.getfield 11, 3) := by decide +kernel
theorem dX3_total_128 : decode cX3_total 128 = .ok (.iload_n 1, 1) := by decide +kernel
theorem dX3_total_129 : decode cX3_total 129 = .ok (.dup2, 1) := by decide +kernel
theorem dX3_total_130 : decode cX3_total 130 = .ok (.iaload, 1) := by decide +kernel
theorem dX3_total_131 : decode cX3_total 131 = .ok (.aload_n 0, 1) := by decide +kernel
theorem dX3_total_132 : decode cX3_total 132 = .ok (.getfield 15, 3) := by decide +kernel
theorem dX3_total_135 : decode cX3_total 135 = .ok (.aload_n 0, 1) := by decide +kernel
theorem dX3_total_136 : decode cX3_total 136 = .ok (.getfield 11, 3) := by decide +kernel
theorem dX3_total_139 : decode cX3_total 139 = .ok (.iload_n 1, 1) := by decide +kernel
theorem dX3_total_140 : decode cX3_total 140 = .ok (.iaload, 1) := by decide +kernel
theorem dX3_total_141 : decode cX3_total 141 = .ok (.invokevirtual 32, 3) := by decide +kernel
theorem dX3_total_144 : decode cX3_total 144 = .ok (.bipush 16, 2) := by decide +kernel
theorem dX3_total_146 : decode cX3_total 146 = .ok (.ishl, 1) := by decide +kernel
theorem dX3_total_147 : decode cX3_total 147 = .ok (.ior, 1) := by decide +kernel
theorem dX3_total_148 : decode cX3_total 148 = .ok (.iastore, 1) := by decide +kernel
theorem dX3_total_149 : decode cX3_total 149 = .ok (.iinc 1 1, 3) := by decide +kernel
theorem dX3_total_152 : decode cX3_total 152 = .ok (.goto (-36), 3) := by decide +kernel
theorem dX3_total_155 : decode cX3_total 155 = .ok (.aload_n 0, 1) := by decide +kernel
theorem dX3_total_156 : decode cX3_total 156 = .ok (.getfield 19, 3) := by decide +kernel
theorem dX3_total_159 : decode cX3_total 159 = .ok (.ireturn, 1) := by decide +kernel
def f_X3_total_B116b (k116 : Int32 → Wd → Option (Int32 × Wd)) (l1 : Int32) (w : Wd) : Option (Int32 × Wd) :=
  if (w.1 19 2) ≤ l1 then
    some ((w.1 19 2), w)
  else
    rdI w 20 3072 l1 fun x1 =>
    rdI w 20 3072 l1 fun x2 =>
    bnd (f_X4_kindOf x2 w) fun x3 =>
    wrI w 20 3072 l1 (x1 ||| (x3 <<< (16 &&& 31))) fun w4 =>
    k116 (l1 + 1) w4
def f_X3_total_L116 (n : Nat) : Int32 → Wd → Option (Int32 × Wd) :=
  Nat.rec (fun _ _ => none) (fun _ k => f_X3_total_B116b k) n
set_option maxHeartbeats 4000000 in
set_option maxRecDepth 100000 in
theorem t_X3_total_L116 {G : GT} {d : Nat} (hd : 4 ≤ d + 1)  : ∀ (n : Nat) (l1 : Int32) (w : Wd) (r : Int32) (w' : Wd), f_X3_total_L116 n l1 w = some (r, w') → U (vf G mX3_total (d + 1)) 116 [some (.ref 19), some (.int l1), none, none] [] w (some (.int r), 70, r0, w') := by
  intro n
  induction n with
  | zero => intro l1 w r w' h; cases h
  | succ n h116 =>
    intro l1 w r w' h
    have h : f_X3_total_B116b (f_X3_total_L116 n) l1 w = some (r, w') := h
    unfold f_X3_total_B116b at h
    refine V.iload_n (pc := 116) dX3_total_116 rfl ?_
    refine V.aload_n (pc := 117) dX3_total_117 rfl ?_
    refine V.getI (pc := 118) dX3_total_118 f_RX3_19 k_cl3 lx_19 ly_19 rb_3_2 ?_
    rcases ite_e h with ⟨c, h⟩ | ⟨c, h⟩
    · refine V.icmp_ge_t (t := 155) (pc := 121) dX3_total_121 (by decide) c ?_
      refine V.aload_n (pc := 155) dX3_total_155 rfl ?_
      refine V.getI (pc := 156) dX3_total_156 f_RX3_19 k_cl3 lx_19 ly_19 rb_3_2 ?_
      obtain ⟨rfl, rfl⟩ := Prod.mk.inj (Option.some.inj h)
      exact V.iret (pc := 159) dX3_total_159 rfl (Nat.le_refl _) (Nat.le_refl _)
    · refine V.icmp_ge_f (t := 155) (pc := 121) dX3_total_121 (by decide) c ?_
      refine V.aload_n (pc := 124) dX3_total_124 rfl ?_
      refine V.getR (t := 20) (pc := 125) dX3_total_125 f_RX3_11 k_cl3 lx_19 ly_19 rb_3_1 rr_19_1 ?_
      refine V.iload_n (pc := 128) dX3_total_128 rfl ?_
      refine V.dup2 (pc := 129) dX3_total_129 rfl rfl ?_
      obtain ⟨x1, ix1, ex1, h⟩ := rdI_e h
      refine V.ialdX (pc := 130) dX3_total_130 lx_20 ly_20 ix1 ex1 ?_
      refine V.aload_n (pc := 131) dX3_total_131 rfl ?_
      refine V.getR (t := 6) (pc := 132) dX3_total_132 f_RX3_15 k_cl3 lx_19 ly_19 rb_3_0 rr_19_0 ?_
      refine V.aload_n (pc := 135) dX3_total_135 rfl ?_
      refine V.getR (t := 20) (pc := 136) dX3_total_136 f_RX3_11 k_cl3 lx_19 ly_19 rb_3_1 rr_19_1 ?_
      refine V.iload_n (pc := 139) dX3_total_139 rfl ?_
      obtain ⟨x2, ix2, ex2, h⟩ := rdI_e h
      refine V.ialdX (pc := 140) dX3_total_140 lx_20 ly_20 ix2 ex2 ?_
      obtain ⟨x3, ex3, h⟩ := bnd_e h
      refine U.callV (pc := 141) (As := [.int x2]) (st := [.int x1, .int l1, .ref 20]) dX3_total_141 l_RX3_32 (ok_X4_kindOf (by omega) x2 ex3) lx_6 ly_6 cn_4 (Nat.le_of_ble_eq_true rfl) rfl rfl (Nat.le_of_ble_eq_true rfl) ?_
      refine V.bipush (pc := 144) dX3_total_144 bp_16 ?_
      refine V.ishl (pc := 146) dX3_total_146 ?_
      refine V.ior (pc := 147) dX3_total_147 ?_
      obtain ⟨w4, iw4, ew4, h⟩ := wrI_e h
      refine V.iastX (pc := 148) dX3_total_148 lx_20 ly_20 iw4 ew4 ?_
      refine V.iinc (lv' := [some (.ref 19), some (.int (l1 + 1)), none, none]) (pc := 149) dX3_total_149 (Nat.le_of_ble_eq_true rfl) rfl rfl (v := (l1 + 1)) (by rw [show Int32.ofInt 1 = 1 from by decide]) rfl ?_
      refine V.goto (t := 116) (pc := 152) dX3_total_152 (by decide) ?_
      exact h116 (l1 + 1) w4 _ _ h
def f_X3_total_B44b (k26 : Int32 → Wd → Option (Int32 × Wd)) (k44 : Int32 → Int32 → Int32 → Wd → Option (Int32 × Wd)) (l1 : Int32) (l2 : Int32) (l3 : Int32) (w : Wd) : Option (Int32 × Wd) :=
  if l2 ≤ l3 then
    k26 (l1 + 1) w
  else
    if 3072 ≤ (w.1 19 2) then
      k26 (l1 + 1) w
    else
      rdI w 20 3072 l3 fun x1 =>
      bnd (f_X4_staysFree x1 l1 w) fun x2 =>
      if x2 = 0 then
        k44 l1 l2 (l3 + 1) w
      else
        letW (sI w 19 2 ((w.1 19 2) + 1)) fun w3 =>
        rdI w3 20 3072 l3 fun x4 =>
        wrI w3 20 3072 (w.1 19 2) (x4 ||| (1 <<< (l1 &&& 31))) fun w5 =>
        k44 l1 l2 (l3 + 1) w5
def f_X3_total_L44 (k26 : Int32 → Wd → Option (Int32 × Wd)) (n : Nat) : Int32 → Int32 → Int32 → Wd → Option (Int32 × Wd) :=
  Nat.rec (fun _ _ _ _ => none) (fun _ k => f_X3_total_B44b k26 k) n
set_option maxHeartbeats 4000000 in
set_option maxRecDepth 100000 in
theorem t_X3_total_L44 {G : GT} {d : Nat} {k26 : Int32 → Wd → Option (Int32 × Wd)} (hd : 4 ≤ d + 1) (h26 : ∀ (l1 : Int32) (w : Wd) (r : Int32) (w' : Wd), k26 l1 w = some (r, w') → U (vf G mX3_total (d + 1)) 26 [some (.ref 19), some (.int l1), none, none] [] w (some (.int r), 70, r0, w')) : ∀ (n : Nat) (l1 : Int32) (l2 : Int32) (l3 : Int32) (w : Wd) (r : Int32) (w' : Wd), f_X3_total_L44 k26 n l1 l2 l3 w = some (r, w') → U (vf G mX3_total (d + 1)) 44 [some (.ref 19), some (.int l1), some (.int l2), some (.int l3)] [] w (some (.int r), 70, r0, w') := by
  intro n
  induction n with
  | zero => intro l1 l2 l3 w r w' h; cases h
  | succ n h44 =>
    intro l1 l2 l3 w r w' h
    have h : f_X3_total_B44b k26 (f_X3_total_L44 k26 n) l1 l2 l3 w = some (r, w') := h
    unfold f_X3_total_B44b at h
    refine V.iload_n (pc := 44) dX3_total_44 rfl ?_
    refine V.iload_n (pc := 45) dX3_total_45 rfl ?_
    rcases ite_e h with ⟨c, h⟩ | ⟨c, h⟩
    · refine V.icmp_ge_t (t := 108) (pc := 46) dX3_total_46 (by decide) c ?_
      refine V.iinc (lv' := [some (.ref 19), some (.int (l1 + 1)), some (.int l2), some (.int l3)]) (pc := 108) dX3_total_108 (Nat.le_of_ble_eq_true rfl) rfl rfl (v := (l1 + 1)) (by rw [show Int32.ofInt 1 = 1 from by decide]) rfl ?_
      refine V.goto (t := 26) (pc := 111) dX3_total_111 (by decide) ?_
      refine V.weak (lv' := [some (.ref 19), some (.int (l1 + 1)), none, none]) (And.intro rfl (And.intro rfl trivial)) ?_
      exact h26 (l1 + 1) w _ _ h
    · refine V.icmp_ge_f (t := 108) (pc := 46) dX3_total_46 (by decide) c ?_
      refine V.aload_n (pc := 49) dX3_total_49 rfl ?_
      refine V.getI (pc := 50) dX3_total_50 f_RX3_19 k_cl3 lx_19 ly_19 rb_3_2 ?_
      refine V.sipush (pc := 53) dX3_total_53 sp_3072 ?_
      rcases ite_e h with ⟨c, h⟩ | ⟨c, h⟩
      · refine V.icmp_ge_t (t := 108) (pc := 56) dX3_total_56 (by decide) c ?_
        refine V.iinc (lv' := [some (.ref 19), some (.int (l1 + 1)), some (.int l2), some (.int l3)]) (pc := 108) dX3_total_108 (Nat.le_of_ble_eq_true rfl) rfl rfl (v := (l1 + 1)) (by rw [show Int32.ofInt 1 = 1 from by decide]) rfl ?_
        refine V.goto (t := 26) (pc := 111) dX3_total_111 (by decide) ?_
        refine V.weak (lv' := [some (.ref 19), some (.int (l1 + 1)), none, none]) (And.intro rfl (And.intro rfl trivial)) ?_
        exact h26 (l1 + 1) w _ _ h
      · refine V.icmp_ge_f (t := 108) (pc := 56) dX3_total_56 (by decide) c ?_
        refine V.aload_n (pc := 59) dX3_total_59 rfl ?_
        refine V.getR (t := 6) (pc := 60) dX3_total_60 f_RX3_15 k_cl3 lx_19 ly_19 rb_3_0 rr_19_0 ?_
        refine V.aload_n (pc := 63) dX3_total_63 rfl ?_
        refine V.getR (t := 20) (pc := 64) dX3_total_64 f_RX3_11 k_cl3 lx_19 ly_19 rb_3_1 rr_19_1 ?_
        refine V.iload_n (pc := 67) dX3_total_67 rfl ?_
        obtain ⟨x1, ix1, ex1, h⟩ := rdI_e h
        refine V.ialdX (pc := 68) dX3_total_68 lx_20 ly_20 ix1 ex1 ?_
        refine V.iload_n (pc := 69) dX3_total_69 rfl ?_
        obtain ⟨x2, ex2, h⟩ := bnd_e h
        refine U.callV (pc := 70) (As := [.int x1, .int l1]) (st := []) dX3_total_70 l_RX3_28 (ok_X4_staysFree (by omega) x1 l1 ex2) lx_6 ly_6 cn_4 (Nat.le_of_ble_eq_true rfl) rfl rfl (Nat.le_of_ble_eq_true rfl) ?_
        rcases ite_e h with ⟨c, h⟩ | ⟨c, h⟩
        · refine V.if_eq_t (t := 102) (pc := 73) dX3_total_73 (by decide) c ?_
          refine V.iinc (lv' := [some (.ref 19), some (.int l1), some (.int l2), some (.int (l3 + 1))]) (pc := 102) dX3_total_102 (Nat.le_of_ble_eq_true rfl) rfl rfl (v := (l3 + 1)) (by rw [show Int32.ofInt 1 = 1 from by decide]) rfl ?_
          refine V.goto (t := 44) (pc := 105) dX3_total_105 (by decide) ?_
          exact h44 l1 l2 (l3 + 1) w _ _ h
        · refine V.if_eq_f (t := 102) (pc := 73) dX3_total_73 (by decide) c ?_
          refine V.aload_n (pc := 76) dX3_total_76 rfl ?_
          refine V.getR (t := 20) (pc := 77) dX3_total_77 f_RX3_11 k_cl3 lx_19 ly_19 rb_3_1 rr_19_1 ?_
          refine V.aload_n (pc := 80) dX3_total_80 rfl ?_
          refine V.dup (pc := 81) dX3_total_81 rfl ?_
          refine V.getI (pc := 82) dX3_total_82 f_RX3_19 k_cl3 lx_19 ly_19 rb_3_2 ?_
          refine V.dup_x1 (pc := 85) dX3_total_85 rfl rfl ?_
          refine V.iconst (pc := 86) dX3_total_86 ic_1 ?_
          refine V.iadd (pc := 87) dX3_total_87 ?_
          obtain ⟨w3, ew3, h⟩ := letW_e h
          refine V.putIX (pc := 88) dX3_total_88 f_RX3_19 k_cl3 lx_19 ly_19 rb_3_2 (fin_I (T0 := TX3) rfl rfl rfl) ew3 ?_
          refine V.aload_n (pc := 91) dX3_total_91 rfl ?_
          refine V.getR (t := 20) (pc := 92) dX3_total_92 f_RX3_11 k_cl3 lx_19 ly_19 rb_3_1 rr_19_1 ?_
          refine V.iload_n (pc := 95) dX3_total_95 rfl ?_
          obtain ⟨x4, ix4, ex4, h⟩ := rdI_e h
          refine V.ialdX (pc := 96) dX3_total_96 lx_20 ly_20 ix4 ex4 ?_
          refine V.iconst (pc := 97) dX3_total_97 ic_1 ?_
          refine V.iload_n (pc := 98) dX3_total_98 rfl ?_
          refine V.ishl (pc := 99) dX3_total_99 ?_
          refine V.ior (pc := 100) dX3_total_100 ?_
          obtain ⟨w5, iw5, ew5, h⟩ := wrI_e h
          refine V.iastX (pc := 101) dX3_total_101 lx_20 ly_20 iw5 ew5 ?_
          refine V.iinc (lv' := [some (.ref 19), some (.int l1), some (.int l2), some (.int (l3 + 1))]) (pc := 102) dX3_total_102 (Nat.le_of_ble_eq_true rfl) rfl rfl (v := (l3 + 1)) (by rw [show Int32.ofInt 1 = 1 from by decide]) rfl ?_
          refine V.goto (t := 44) (pc := 105) dX3_total_105 (by decide) ?_
          exact h44 l1 l2 (l3 + 1) w5 _ _ h
def f_X3_total_B26b (k26 : Int32 → Wd → Option (Int32 × Wd)) (l1 : Int32) (w : Wd) : Option (Int32 × Wd) :=
  if (w.1 6 7) ≤ l1 then
    f_X3_total_L116  FU 0 w
  else
    f_X3_total_L44 k26 FU l1 (w.1 19 2) 0 w
def f_X3_total_L26 (n : Nat) : Int32 → Wd → Option (Int32 × Wd) :=
  Nat.rec (fun _ _ => none) (fun _ k => f_X3_total_B26b k) n
set_option maxHeartbeats 4000000 in
set_option maxRecDepth 100000 in
theorem t_X3_total_L26 {G : GT} {d : Nat} (hd : 4 ≤ d + 1)  : ∀ (n : Nat) (l1 : Int32) (w : Wd) (r : Int32) (w' : Wd), f_X3_total_L26 n l1 w = some (r, w') → U (vf G mX3_total (d + 1)) 26 [some (.ref 19), some (.int l1), none, none] [] w (some (.int r), 70, r0, w') := by
  intro n
  induction n with
  | zero => intro l1 w r w' h; cases h
  | succ n h26 =>
    intro l1 w r w' h
    have h : f_X3_total_B26b (f_X3_total_L26 n) l1 w = some (r, w') := h
    unfold f_X3_total_B26b at h
    refine V.iload_n (pc := 26) dX3_total_26 rfl ?_
    refine V.aload_n (pc := 27) dX3_total_27 rfl ?_
    refine V.getR (t := 6) (pc := 28) dX3_total_28 f_RX3_15 k_cl3 lx_19 ly_19 rb_3_0 rr_19_0 ?_
    refine V.getI (pc := 31) dX3_total_31 f_RX3_23 k_cl4 lx_6 ly_6 rb_4_7 ?_
    rcases ite_e h with ⟨c, h⟩ | ⟨c, h⟩
    · refine V.icmp_ge_t (t := 114) (pc := 34) dX3_total_34 (by decide) c ?_
      refine V.iconst (pc := 114) dX3_total_114 ic_0 ?_
      refine V.istore_n (lv' := [some (.ref 19), some (.int 0), none, none]) (pc := 115) dX3_total_115 (Nat.le_of_ble_eq_true rfl) rfl rfl ?_
      exact t_X3_total_L116 hd FU 0 w _ _ h
    · refine V.icmp_ge_f (t := 114) (pc := 34) dX3_total_34 (by decide) c ?_
      refine V.aload_n (pc := 37) dX3_total_37 rfl ?_
      refine V.getI (pc := 38) dX3_total_38 f_RX3_19 k_cl3 lx_19 ly_19 rb_3_2 ?_
      refine V.istore_n (lv' := [some (.ref 19), some (.int l1), some (.int (w.1 19 2)), none]) (pc := 41) dX3_total_41 (Nat.le_of_ble_eq_true rfl) rfl rfl ?_
      refine V.iconst (pc := 42) dX3_total_42 ic_0 ?_
      refine V.istore_n (lv' := [some (.ref 19), some (.int l1), some (.int (w.1 19 2)), some (.int 0)]) (pc := 43) dX3_total_43 (Nat.le_of_ble_eq_true rfl) rfl rfl ?_
      exact t_X3_total_L44 hd h26 FU l1 (w.1 19 2) 0 w _ _ h
def f_X3_total (w : Wd) : Option (Int32 × Wd) :=
  if (w.1 19 2) ≤ 0 then
    wrI w 20 3072 0 0 fun w1 =>
    letW (sI w1 19 2 1) fun w2 =>
    f_X3_total_L26  FU 1 w2
  else
    some ((w.1 19 2), w)
set_option maxHeartbeats 4000000 in
set_option maxRecDepth 100000 in
theorem ok_X3_total {G : GT} {d : Nat} (hd : 4 ≤ d) {w : Wd}  {r : Int32} {w' : Wd} (h : f_X3_total  w = some (r, w')) : uC G yX3_total mX3_total d [.ref 19] w (some (.int r)) w' := by
  obtain ⟨d, rfl⟩ : ∃ e, d = e + 1 := ⟨d - 1, by omega⟩
  unfold f_X3_total at h
  refine uC_of (lv := [some (.ref 19), none, none, none]) 3 pn_X3 ⟨rfl, rfl⟩ (Nat.le_of_ble_eq_true rfl) rfl ?_
  refine V.aload_n (pc := 0) dX3_total_0 rfl ?_
  refine V.getI (pc := 1) dX3_total_1 f_RX3_19 k_cl3 lx_19 ly_19 rb_3_2 ?_
  rcases ite_e h with ⟨c, h⟩ | ⟨c, h⟩
  · refine V.if_le_t (t := 12) (pc := 4) dX3_total_4 (by decide) c ?_
    refine V.aload_n (pc := 12) dX3_total_12 rfl ?_
    refine V.getR (t := 20) (pc := 13) dX3_total_13 f_RX3_11 k_cl3 lx_19 ly_19 rb_3_1 rr_19_1 ?_
    refine V.iconst (pc := 16) dX3_total_16 ic_0 ?_
    refine V.iconst (pc := 17) dX3_total_17 ic_0 ?_
    obtain ⟨w1, iw1, ew1, h⟩ := wrI_e h
    refine V.iastX (pc := 18) dX3_total_18 lx_20 ly_20 iw1 ew1 ?_
    refine V.aload_n (pc := 19) dX3_total_19 rfl ?_
    refine V.iconst (pc := 20) dX3_total_20 ic_1 ?_
    obtain ⟨w2, ew2, h⟩ := letW_e h
    refine V.putIX (pc := 21) dX3_total_21 f_RX3_19 k_cl3 lx_19 ly_19 rb_3_2 (fin_I (T0 := TX3) rfl rfl rfl) ew2 ?_
    refine V.iconst (pc := 24) dX3_total_24 ic_1 ?_
    refine V.istore_n (lv' := [some (.ref 19), some (.int 1), none, none]) (pc := 25) dX3_total_25 (Nat.le_of_ble_eq_true rfl) rfl rfl ?_
    exact t_X3_total_L26 hd FU 1 w2 _ _ h
  · refine V.if_le_f (t := 12) (pc := 4) dX3_total_4 (by decide) c ?_
    refine V.aload_n (pc := 7) dX3_total_7 rfl ?_
    refine V.getI (pc := 8) dX3_total_8 f_RX3_19 k_cl3 lx_19 ly_19 rb_3_2 ?_
    obtain ⟨rfl, rfl⟩ := Prod.mk.inj (Option.some.inj h)
    exact V.iret (pc := 11) dX3_total_11 rfl (Nat.le_refl _) (Nat.le_refl _)
theorem dX3_setAt_0 : decode cX3_setAt 0 = .ok (.iload_n 1, 1) := by decide +kernel
theorem dX3_setAt_1 : decode cX3_setAt 1 = .ok (.ifCond .lt 23, 3) := by decide +kernel
theorem dX3_setAt_4 : decode cX3_setAt 4 = .ok (.iload_n 1, 1) := by decide +kernel
theorem dX3_setAt_5 : decode cX3_setAt 5 = .ok (.aload_n 0, 1) := by decide +kernel
theorem dX3_setAt_6 : decode cX3_setAt 6 = .ok (.getfield 19, 3) := by decide +kernel
theorem dX3_setAt_9 : decode cX3_setAt 9 = .ok (.if_icmp .ge 15, 3) := by decide +kernel
theorem dX3_setAt_12 : decode cX3_setAt 12 = .ok (.aload_n 0, 1) := by decide +kernel
theorem dX3_setAt_13 : decode cX3_setAt 13 = .ok (.getfield 11, 3) := by decide +kernel
theorem dX3_setAt_16 : decode cX3_setAt 16 = .ok (.iload_n 1, 1) := by decide +kernel
theorem dX3_setAt_17 : decode cX3_setAt 17 = .ok (.iaload, 1) := by decide +kernel
theorem dX3_setAt_18 : decode cX3_setAt 18 = .ok (.ldc 36, 2) := by decide +kernel
theorem dX3_setAt_20 : decode cX3_setAt 20 = .ok (.iand, 1) := by decide +kernel
theorem dX3_setAt_21 : decode cX3_setAt 21 = .ok (.goto 4, 3) := by decide +kernel
theorem dX3_setAt_24 : decode cX3_setAt 24 = .ok (.iconst 0, 1) := by decide +kernel
theorem dX3_setAt_25 : decode cX3_setAt 25 = .ok (.ireturn, 1) := by decide +kernel
def f_X3_setAt (l1 : Int32) (w : Wd) : Option Int32 :=
  if l1 < 0 then
    some 0
  else
    if (w.1 19 2) ≤ l1 then
      some 0
    else
      rdI w 20 3072 l1 fun x1 =>
      some (x1 &&& 65535)
set_option maxHeartbeats 4000000 in
set_option maxRecDepth 100000 in
theorem ok_X3_setAt {G : GT} {d : Nat} (hd : 0 ≤ d) {w : Wd} (l1 : Int32) {r : Int32} (h : f_X3_setAt l1 w = some r) : uC G yX3_setAt mX3_setAt d [.ref 19, .int l1] w (some (.int r)) w := by
  unfold f_X3_setAt at h
  refine uC_of (lv := [some (.ref 19), some (.int l1)]) 0 pn_X3 ⟨rfl, rfl⟩ (Nat.le_of_ble_eq_true rfl) rfl ?_
  refine V.iload_n (pc := 0) dX3_setAt_0 rfl ?_
  rcases ite_e h with ⟨c, h⟩ | ⟨c, h⟩
  · refine V.if_lt_t (t := 24) (pc := 1) dX3_setAt_1 (by decide) c ?_
    refine V.iconst (pc := 24) dX3_setAt_24 ic_0 ?_
    obtain rfl := Option.some.inj h
    exact V.iret (pc := 25) dX3_setAt_25 rfl (Nat.le_refl _) (Nat.le_refl _)
  · refine V.if_lt_f (t := 24) (pc := 1) dX3_setAt_1 (by decide) c ?_
    refine V.iload_n (pc := 4) dX3_setAt_4 rfl ?_
    refine V.aload_n (pc := 5) dX3_setAt_5 rfl ?_
    refine V.getI (pc := 6) dX3_setAt_6 f_RX3_19 k_cl3 lx_19 ly_19 rb_3_2 ?_
    rcases ite_e h with ⟨c, h⟩ | ⟨c, h⟩
    · refine V.icmp_ge_t (t := 24) (pc := 9) dX3_setAt_9 (by decide) c ?_
      refine V.iconst (pc := 24) dX3_setAt_24 ic_0 ?_
      obtain rfl := Option.some.inj h
      exact V.iret (pc := 25) dX3_setAt_25 rfl (Nat.le_refl _) (Nat.le_refl _)
    · refine V.icmp_ge_f (t := 24) (pc := 9) dX3_setAt_9 (by decide) c ?_
      refine V.aload_n (pc := 12) dX3_setAt_12 rfl ?_
      refine V.getR (t := 20) (pc := 13) dX3_setAt_13 f_RX3_11 k_cl3 lx_19 ly_19 rb_3_1 rr_19_1 ?_
      refine V.iload_n (pc := 16) dX3_setAt_16 rfl ?_
      obtain ⟨x1, ix1, ex1, h⟩ := rdI_e h
      refine V.ialdX (pc := 17) dX3_setAt_17 lx_20 ly_20 ix1 ex1 ?_
      refine V.ldc (pc := 18) dX3_setAt_18 c_RX3_36 ?_
      refine V.iand (pc := 20) dX3_setAt_20 ?_
      refine V.goto (t := 25) (pc := 21) dX3_setAt_21 (by decide) ?_
      obtain rfl := Option.some.inj h
      exact V.iret (pc := 25) dX3_setAt_25 rfl (Nat.le_refl _) (Nat.le_refl _)
