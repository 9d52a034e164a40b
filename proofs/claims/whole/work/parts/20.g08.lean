theorem dX11_covers_0 : decode cX11_covers 0 = .ok (.aload_n 0, 1) := by decide +kernel
theorem dX11_covers_1 : decode cX11_covers 1 = .ok (.getfield 28, 3) := by decide +kernel
theorem dX11_covers_4 : decode cX11_covers 4 = .ok (.iload_n 1, 1) := by decide +kernel
theorem dX11_covers_5 : decode cX11_covers 5 = .ok (.invokevirtual 118, 3) := by decide +kernel
theorem dX11_covers_8 : decode cX11_covers 8 = .ok (.ifCond .ne 5, 3) := by decide +kernel
theorem dX11_covers_11 : decode cX11_covers 11 = .ok (.iconst (-1), 1) := by decide +kernel
theorem dX11_covers_12 : decode cX11_covers 12 = .ok (.ireturn, 1) := by decide +kernel
theorem dX11_covers_13 : decode cX11_covers 13 = .ok (.iload_n 1, 1) := by decide +kernel
theorem dX11_covers_14 : decode cX11_covers 14 = .ok (.istore_n 2, 1) := by decide +kernel
theorem dX11_covers_15 : decode cX11_covers 15 = .ok (.iconst 1, 1) := by decide +kernel
theorem dX11_covers_16 : decode cX11_covers 16 = .ok (.istore_n 3, 1) := by decide +kernel
theorem dX11_covers_17 : decode cX11_covers 17 = .ok (.iload_n 3, 1) := by decide +kernel
theorem dX11_covers_18 : decode cX11_covers 18 = .ok (.bipush 99, 2) := by decide +kernel
theorem dX11_covers_20 : decode cX11_covers 20 = .ok (.if_icmp .gt 51, 3) := by decide +kernel
theorem dX11_covers_23 : decode cX11_covers 23 = .ok (.iload_n 2, 1) := by decide +kernel
theorem dX11_covers_24 : decode cX11_covers 24 = .ok (.aload_n 0, 1) := by decide +kernel
theorem dX11_covers_25 : decode cX11_covers 25 = .ok (.getfield 28, 3) := by decide +kernel
theorem dX11_covers_28 : decode cX11_covers 28 = .ok (.getfield 189, 3) := by decide +kernel
theorem dX11_covers_31 : decode cX11_covers 31 = .ok (.if_icmp .ne 5, 3) := by decide +kernel
theorem dX11_covers_34 : decode cX11_covers 34 = .ok (.iload_n 3, 1) := by decide +kernel
theorem dX11_covers_35 : decode cX11_covers 35 = .ok (.ireturn, 1) := by decide +kernel
theorem dX11_covers_36 : decode cX11_covers 36 = .ok (.aload_n 0, 1) := by decide +kernel
theorem dX11_covers_37 : decode cX11_covers 37 = .ok (.getfield 28, 3) := by decide +kernel
theorem dX11_covers_40 : decode cX11_covers 40 = .ok (.iload_n 2, 1) := by decide +kernel
theorem dX11_covers_41 : decode cX11_covers 41 = .ok (.iload_n 1, 1) := by decide +kernel
theorem dX11_covers_42 : decode cX11_covers 42 = .ok (.invokevirtual 186, 3) := by decide +kernel
theorem dX11_covers_45 : decode cX11_covers 45 = .ok (.istore 4, 2) := by decide +kernel
theorem dX11_covers_47 : decode cX11_covers 47 = .ok (.iload 4, 2) := by decide +kernel
theorem dX11_covers_49 : decode cX11_covers 49 = .ok (.invokestatic 127, 3) := by decide +kernel
theorem dX11_covers_52 : decode cX11_covers 52 = .ok (.iload_n 2, 1) := by decide +kernel
theorem dX11_covers_53 : decode cX11_covers 53 = .ok (.invokestatic 127, 3) := by decide +kernel
theorem dX11_covers_56 : decode cX11_covers 56 = .ok (.if_icmp .ne 6, 3) := by decide +kernel
theorem dX11_covers_59 : decode cX11_covers 59 = .ok (.bipush (-2), 2) := by decide +kernel
theorem dX11_covers_61 : decode cX11_covers 61 = .ok (.ireturn, 1) := by decide +kernel
theorem dX11_covers_62 : decode cX11_covers 62 = .ok (.iload 4, 2) := by decide +kernel
theorem dX11_covers_64 : decode cX11_covers 64 = .ok (.istore_n 2, 1) := by decide +kernel
theorem dX11_covers_65 : decode cX11_covers 65 = .ok (.iinc 3 1, 3) := by decide +kernel
theorem dX11_covers_68 : decode cX11_covers 68 = .ok (.goto (-51), 3) := by decide +kernel
theorem dX11_covers_71 : decode cX11_covers 71 = .ok (.bipush (-2), 2) := by decide +kernel
theorem dX11_covers_73 : decode cX11_covers 73 = .ok (.ireturn, 1) := by decide +kernel
def f_X11_covers_B17b (k17 : Int32 → Int32 → Int32 → Wd → Option Int32) (l1 : Int32) (l2 : Int32) (l3 : Int32) (w : Wd) : Option Int32 :=
  if 99 < l3 then
    some (-2)
  else
    if l2 = (w.1 6 8) then
      some l3
    else
      bnd (f_X4_productsOf l2 l1 w) fun x1 =>
      if (f_J6_bitCount_0f7a4 x1) = (f_J6_bitCount_0f7a4 l2) then
        some (-2)
      else
        k17 l1 x1 (l3 + 1) w
def f_X11_covers_L17 (n : Nat) : Int32 → Int32 → Int32 → Wd → Option Int32 :=
  Nat.rec (fun _ _ _ _ => none) (fun _ k => f_X11_covers_B17b k) n
set_option maxHeartbeats 4000000 in
set_option maxRecDepth 100000 in
theorem t_X11_covers_L17 {G : GT} {d : Nat} {w : Wd} (hd : 3 ≤ d + 1)  : ∀ (n : Nat) (l1 : Int32) (l2 : Int32) (l3 : Int32) (r : Int32), f_X11_covers_L17 n l1 l2 l3 w = some r → U (vf G mX11_covers (d + 1)) 17 [some (.ref 0), some (.int l1), some (.int l2), some (.int l3), none] [] w (some (.int r), 70, r0, w) := by
  intro n
  induction n with
  | zero => intro l1 l2 l3 r h; cases h
  | succ n h17 =>
    intro l1 l2 l3 r h
    have h : f_X11_covers_B17b (f_X11_covers_L17 n) l1 l2 l3 w = some r := h
    unfold f_X11_covers_B17b at h
    refine V.iload_n (pc := 17) dX11_covers_17 rfl ?_
    refine V.bipush (pc := 18) dX11_covers_18 bp_99 ?_
    rcases ite_e h with ⟨c, h⟩ | ⟨c, h⟩
    · refine V.icmp_gt_t (t := 71) (pc := 20) dX11_covers_20 (by decide) c ?_
      refine V.bipush (pc := 71) dX11_covers_71 bp_m2 ?_
      obtain rfl := Option.some.inj h
      exact V.iret (pc := 73) dX11_covers_73 rfl (Nat.le_refl _) (Nat.le_refl _)
    · refine V.icmp_gt_f (t := 71) (pc := 20) dX11_covers_20 (by decide) c ?_
      refine V.iload_n (pc := 23) dX11_covers_23 rfl ?_
      refine V.aload_n (pc := 24) dX11_covers_24 rfl ?_
      refine V.getR (t := 6) (pc := 25) dX11_covers_25 f_RX11_28 k_cl11 lx_0 ly_0 rb_11_2 rr_0_2 ?_
      refine V.getI (pc := 28) dX11_covers_28 f_RX11_189 k_cl4 lx_6 ly_6 rb_4_8 ?_
      rcases ite_e h with ⟨c, h⟩ | ⟨c, h⟩
      · refine V.icmp_ne_f (t := 36) (pc := 31) dX11_covers_31 (by decide) c ?_
        refine V.iload_n (pc := 34) dX11_covers_34 rfl ?_
        obtain rfl := Option.some.inj h
        exact V.iret (pc := 35) dX11_covers_35 rfl (Nat.le_refl _) (Nat.le_refl _)
      · refine V.icmp_ne_t (t := 36) (pc := 31) dX11_covers_31 (by decide) c ?_
        refine V.aload_n (pc := 36) dX11_covers_36 rfl ?_
        refine V.getR (t := 6) (pc := 37) dX11_covers_37 f_RX11_28 k_cl11 lx_0 ly_0 rb_11_2 rr_0_2 ?_
        refine V.iload_n (pc := 40) dX11_covers_40 rfl ?_
        refine V.iload_n (pc := 41) dX11_covers_41 rfl ?_
        obtain ⟨x1, ex1, h⟩ := bnd_e h
        refine U.callV (pc := 42) (As := [.int l2, .int l1]) (st := []) dX11_covers_42 l_RX11_186 (ok_X4_productsOf (by omega) l2 l1 ex1) lx_6 ly_6 cn_4 (Nat.le_of_ble_eq_true rfl) rfl rfl (Nat.le_of_ble_eq_true rfl) ?_
        refine V.istore (lv' := [some (.ref 0), some (.int l1), some (.int l2), some (.int l3), some (.int x1)]) (pc := 45) dX11_covers_45 (Nat.le_of_ble_eq_true rfl) rfl rfl ?_
        refine V.iload (pc := 47) dX11_covers_47 rfl ?_
        refine U.callS (pc := 49) (As := [.int x1]) (st := []) dX11_covers_49 l_RX11_127 (ok_J6_bitCount_0f7a4 (by omega) x1 ) (Nat.le_of_ble_eq_true rfl) rfl rfl (Nat.le_of_ble_eq_true rfl) ?_
        refine V.iload_n (pc := 52) dX11_covers_52 rfl ?_
        refine U.callS (pc := 53) (As := [.int l2]) (st := [.int (f_J6_bitCount_0f7a4 x1)]) dX11_covers_53 l_RX11_127 (ok_J6_bitCount_0f7a4 (by omega) l2 ) (Nat.le_of_ble_eq_true rfl) rfl rfl (Nat.le_of_ble_eq_true rfl) ?_
        rcases ite_e h with ⟨c, h⟩ | ⟨c, h⟩
        · refine V.icmp_ne_f (t := 62) (pc := 56) dX11_covers_56 (by decide) c ?_
          refine V.bipush (pc := 59) dX11_covers_59 bp_m2 ?_
          obtain rfl := Option.some.inj h
          exact V.iret (pc := 61) dX11_covers_61 rfl (Nat.le_refl _) (Nat.le_refl _)
        · refine V.icmp_ne_t (t := 62) (pc := 56) dX11_covers_56 (by decide) c ?_
          refine V.iload (pc := 62) dX11_covers_62 rfl ?_
          refine V.istore_n (lv' := [some (.ref 0), some (.int l1), some (.int x1), some (.int l3), some (.int x1)]) (pc := 64) dX11_covers_64 (Nat.le_of_ble_eq_true rfl) rfl rfl ?_
          refine V.iinc (lv' := [some (.ref 0), some (.int l1), some (.int x1), some (.int (l3 + 1)), some (.int x1)]) (pc := 65) dX11_covers_65 (Nat.le_of_ble_eq_true rfl) rfl rfl (v := (l3 + 1)) (by rw [show Int32.ofInt 1 = 1 from by decide]) rfl ?_
          refine V.goto (t := 17) (pc := 68) dX11_covers_68 (by decide) ?_
          refine V.weak (lv' := [some (.ref 0), some (.int l1), some (.int x1), some (.int (l3 + 1)), none]) (And.intro rfl (And.intro rfl (And.intro rfl (And.intro rfl trivial)))) ?_
          exact h17 l1 x1 (l3 + 1) _ h
def f_X11_covers (l1 : Int32) (w : Wd) : Option Int32 :=
  if (f_X4_holdsSet l1 w) = 0 then
    some (-1)
  else
    f_X11_covers_L17  FU l1 l1 1 w
set_option maxHeartbeats 4000000 in
set_option maxRecDepth 100000 in
theorem ok_X11_covers {G : GT} {d : Nat} (hd : 3 ≤ d) {w : Wd} (l1 : Int32) {r : Int32} (h : f_X11_covers l1 w = some r) : uC G yX11_covers mX11_covers d [.ref 0, .int l1] w (some (.int r)) w := by
  obtain ⟨d, rfl⟩ : ∃ e, d = e + 1 := ⟨d - 1, by omega⟩
  unfold f_X11_covers at h
  refine uC_of (lv := [some (.ref 0), some (.int l1), none, none, none]) 3 pn_X11 ⟨rfl, rfl⟩ (Nat.le_of_ble_eq_true rfl) rfl ?_
  refine V.aload_n (pc := 0) dX11_covers_0 rfl ?_
  refine V.getR (t := 6) (pc := 1) dX11_covers_1 f_RX11_28 k_cl11 lx_0 ly_0 rb_11_2 rr_0_2 ?_
  refine V.iload_n (pc := 4) dX11_covers_4 rfl ?_
  refine U.callV (pc := 5) (As := [.int l1]) (st := []) dX11_covers_5 l_RX11_118 (ok_X4_holdsSet (by omega) l1 ) lx_6 ly_6 cn_4 (Nat.le_of_ble_eq_true rfl) rfl rfl (Nat.le_of_ble_eq_true rfl) ?_
  rcases ite_e h with ⟨c, h⟩ | ⟨c, h⟩
  · refine V.if_ne_f (t := 13) (pc := 8) dX11_covers_8 (by decide) c ?_
    refine V.iconst (pc := 11) dX11_covers_11 ic_m1 ?_
    obtain rfl := Option.some.inj h
    exact V.iret (pc := 12) dX11_covers_12 rfl (Nat.le_refl _) (Nat.le_refl _)
  · refine V.if_ne_t (t := 13) (pc := 8) dX11_covers_8 (by decide) c ?_
    refine V.iload_n (pc := 13) dX11_covers_13 rfl ?_
    refine V.istore_n (lv' := [some (.ref 0), some (.int l1), some (.int l1), none, none]) (pc := 14) dX11_covers_14 (Nat.le_of_ble_eq_true rfl) rfl rfl ?_
    refine V.iconst (pc := 15) dX11_covers_15 ic_1 ?_
    refine V.istore_n (lv' := [some (.ref 0), some (.int l1), some (.int l1), some (.int 1), none]) (pc := 16) dX11_covers_16 (Nat.le_of_ble_eq_true rfl) rfl rfl ?_
    exact t_X11_covers_L17 hd FU l1 l1 1 _ h
theorem dX12_covers_0 : decode cX12_covers 0 = .ok (.aload_n 0, 1) := by decide +kernel
theorem dX12_covers_1 : decode cX12_covers 1 = .ok (.iload_n 1, 1) := by decide +kernel
theorem dX12_covers_2 : decode cX12_covers 2 = .ok (.invokevirtual 169, 3) := by decide +kernel
theorem dX12_covers_5 : decode cX12_covers 5 = .ok (.ifCond .ne 5, 3) := by decide +kernel
theorem dX12_covers_8 : decode cX12_covers 8 = .ok (.iconst (-1), 1) := by decide +kernel
theorem dX12_covers_9 : decode cX12_covers 9 = .ok (.ireturn, 1) := by decide +kernel
theorem dX12_covers_10 : decode cX12_covers 10 = .ok (.iload_n 1, 1) := by decide +kernel
theorem dX12_covers_11 : decode cX12_covers 11 = .ok (.istore_n 2, 1) := by decide +kernel
theorem dX12_covers_12 : decode cX12_covers 12 = .ok (.iconst 1, 1) := by decide +kernel
theorem dX12_covers_13 : decode cX12_covers 13 = .ok (.istore_n 3, 1) := by decide +kernel
theorem dX12_covers_14 : decode cX12_covers 14 = .ok (.iload_n 3, 1) := by decide +kernel
theorem dX12_covers_15 : decode cX12_covers 15 = .ok (.bipush 99, 2) := by decide +kernel
theorem dX12_covers_17 : decode cX12_covers 17 = .ok (.if_icmp .gt 26, 3) := by decide +kernel
theorem dX12_covers_20 : decode cX12_covers 20 = .ok (.iload_n 2, 1) := by decide +kernel
theorem dX12_covers_21 : decode cX12_covers 21 = .ok (.aload_n 0, 1) := by decide +kernel
theorem dX12_covers_22 : decode cX12_covers 22 = .ok (.invokevirtual 143, 3) := by decide +kernel
theorem dX12_covers_25 : decode cX12_covers 25 = .ok (.if_icmp .ne 5, 3) := by decide +kernel
theorem dX12_covers_28 : decode cX12_covers 28 = .ok (.iload_n 3, 1) := by decide +kernel
theorem dX12_covers_29 : decode cX12_covers 29 = .ok (.ireturn, 1) := by decide +kernel
theorem dX12_covers_30 : decode cX12_covers 30 = .ok (.aload_n 0, 1) := by decide +kernel
theorem dX12_covers_31 : decode cX12_covers 31 = .ok (.iload_n 2, 1) := by decide +kernel
theorem dX12_covers_32 : decode cX12_covers 32 = .ok (.iload_n 1, 1) := by decide +kernel
theorem dX12_covers_33 : decode cX12_covers 33 = .ok (.invokevirtual 206, 3) := by decide +kernel
theorem dX12_covers_36 : decode cX12_covers 36 = .ok (.istore_n 2, 1) := by decide +kernel
theorem dX12_covers_37 : decode cX12_covers 37 = .ok (.iinc 3 1, 3) := by decide +kernel
theorem dX12_covers_40 : decode cX12_covers 40 = .ok (.goto (-26), 3) := by decide +kernel
theorem dX12_covers_43 : decode cX12_covers 43 = .ok (.bipush (-2), 2) := by decide +kernel
theorem dX12_covers_45 : decode cX12_covers 45 = .ok (.ireturn, 1) := by decide +kernel
def f_X12_covers_B14b (k14 : Int32 → Int32 → Int32 → Wd → Option Int32) (l1 : Int32) (l2 : Int32) (l3 : Int32) (w : Wd) : Option Int32 :=
  if 99 < l3 then
    some (-2)
  else
    if l2 = (f_X12_all  w) then
      some l3
    else
      bnd (f_X12_productsOfTwo l2 l1 w) fun x1 =>
      k14 l1 x1 (l3 + 1) w
def f_X12_covers_L14 (n : Nat) : Int32 → Int32 → Int32 → Wd → Option Int32 :=
  Nat.rec (fun _ _ _ _ => none) (fun _ k => f_X12_covers_B14b k) n
set_option maxHeartbeats 4000000 in
set_option maxRecDepth 100000 in
theorem t_X12_covers_L14 {G : GT} {d : Nat} {w : Wd} (hd : 3 ≤ d + 1)  : ∀ (n : Nat) (l1 : Int32) (l2 : Int32) (l3 : Int32) (r : Int32), f_X12_covers_L14 n l1 l2 l3 w = some r → U (vf G mX12_covers (d + 1)) 14 [some (.ref 44), some (.int l1), some (.int l2), some (.int l3)] [] w (some (.int r), 70, r0, w) := by
  intro n
  induction n with
  | zero => intro l1 l2 l3 r h; cases h
  | succ n h14 =>
    intro l1 l2 l3 r h
    have h : f_X12_covers_B14b (f_X12_covers_L14 n) l1 l2 l3 w = some r := h
    unfold f_X12_covers_B14b at h
    refine V.iload_n (pc := 14) dX12_covers_14 rfl ?_
    refine V.bipush (pc := 15) dX12_covers_15 bp_99 ?_
    rcases ite_e h with ⟨c, h⟩ | ⟨c, h⟩
    · refine V.icmp_gt_t (t := 43) (pc := 17) dX12_covers_17 (by decide) c ?_
      refine V.bipush (pc := 43) dX12_covers_43 bp_m2 ?_
      obtain rfl := Option.some.inj h
      exact V.iret (pc := 45) dX12_covers_45 rfl (Nat.le_refl _) (Nat.le_refl _)
    · refine V.icmp_gt_f (t := 43) (pc := 17) dX12_covers_17 (by decide) c ?_
      refine V.iload_n (pc := 20) dX12_covers_20 rfl ?_
      refine V.aload_n (pc := 21) dX12_covers_21 rfl ?_
      refine U.callV (pc := 22) (As := []) (st := [.int l2]) dX12_covers_22 l_RX12_143 (ok_X12_all (by omega)  ) lx_44 ly_44 cn_12 (Nat.le_of_ble_eq_true rfl) rfl rfl (Nat.le_of_ble_eq_true rfl) ?_
      rcases ite_e h with ⟨c, h⟩ | ⟨c, h⟩
      · refine V.icmp_ne_f (t := 30) (pc := 25) dX12_covers_25 (by decide) c ?_
        refine V.iload_n (pc := 28) dX12_covers_28 rfl ?_
        obtain rfl := Option.some.inj h
        exact V.iret (pc := 29) dX12_covers_29 rfl (Nat.le_refl _) (Nat.le_refl _)
      · refine V.icmp_ne_t (t := 30) (pc := 25) dX12_covers_25 (by decide) c ?_
        refine V.aload_n (pc := 30) dX12_covers_30 rfl ?_
        refine V.iload_n (pc := 31) dX12_covers_31 rfl ?_
        refine V.iload_n (pc := 32) dX12_covers_32 rfl ?_
        obtain ⟨x1, ex1, h⟩ := bnd_e h
        refine U.callV (pc := 33) (As := [.int l2, .int l1]) (st := []) dX12_covers_33 l_RX12_206 (ok_X12_productsOfTwo (by omega) l2 l1 ex1) lx_44 ly_44 cn_12 (Nat.le_of_ble_eq_true rfl) rfl rfl (Nat.le_of_ble_eq_true rfl) ?_
        refine V.istore_n (lv' := [some (.ref 44), some (.int l1), some (.int x1), some (.int l3)]) (pc := 36) dX12_covers_36 (Nat.le_of_ble_eq_true rfl) rfl rfl ?_
        refine V.iinc (lv' := [some (.ref 44), some (.int l1), some (.int x1), some (.int (l3 + 1))]) (pc := 37) dX12_covers_37 (Nat.le_of_ble_eq_true rfl) rfl rfl (v := (l3 + 1)) (by rw [show Int32.ofInt 1 = 1 from by decide]) rfl ?_
        refine V.goto (t := 14) (pc := 40) dX12_covers_40 (by decide) ?_
        exact h14 l1 x1 (l3 + 1) _ h
def f_X12_covers (l1 : Int32) (w : Wd) : Option Int32 :=
  if (f_X12_isSet l1 w) = 0 then
    some (-1)
  else
    f_X12_covers_L14  FU l1 l1 1 w
set_option maxHeartbeats 4000000 in
set_option maxRecDepth 100000 in
theorem ok_X12_covers {G : GT} {d : Nat} (hd : 3 ≤ d) {w : Wd} (l1 : Int32) {r : Int32} (h : f_X12_covers l1 w = some r) : uC G yX12_covers mX12_covers d [.ref 44, .int l1] w (some (.int r)) w := by
  obtain ⟨d, rfl⟩ : ∃ e, d = e + 1 := ⟨d - 1, by omega⟩
  unfold f_X12_covers at h
  refine uC_of (lv := [some (.ref 44), some (.int l1), none, none]) 2 pn_X12 ⟨rfl, rfl⟩ (Nat.le_of_ble_eq_true rfl) rfl ?_
  refine V.aload_n (pc := 0) dX12_covers_0 rfl ?_
  refine V.iload_n (pc := 1) dX12_covers_1 rfl ?_
  refine U.callV (pc := 2) (As := [.int l1]) (st := []) dX12_covers_2 l_RX12_169 (ok_X12_isSet (by omega) l1 ) lx_44 ly_44 cn_12 (Nat.le_of_ble_eq_true rfl) rfl rfl (Nat.le_of_ble_eq_true rfl) ?_
  rcases ite_e h with ⟨c, h⟩ | ⟨c, h⟩
  · refine V.if_ne_f (t := 10) (pc := 5) dX12_covers_5 (by decide) c ?_
    refine V.iconst (pc := 8) dX12_covers_8 ic_m1 ?_
    obtain rfl := Option.some.inj h
    exact V.iret (pc := 9) dX12_covers_9 rfl (Nat.le_refl _) (Nat.le_refl _)
  · refine V.if_ne_t (t := 10) (pc := 5) dX12_covers_5 (by decide) c ?_
    refine V.iload_n (pc := 10) dX12_covers_10 rfl ?_
    refine V.istore_n (lv' := [some (.ref 44), some (.int l1), some (.int l1), none]) (pc := 11) dX12_covers_11 (Nat.le_of_ble_eq_true rfl) rfl rfl ?_
    refine V.iconst (pc := 12) dX12_covers_12 ic_1 ?_
    refine V.istore_n (lv' := [some (.ref 44), some (.int l1), some (.int l1), some (.int 1)]) (pc := 13) dX12_covers_13 (Nat.le_of_ble_eq_true rfl) rfl rfl ?_
    exact t_X12_covers_L14 hd FU l1 l1 1 _ h
theorem dX11_isKind_0 : decode cX11_isKind 0 = .ok (.iload_n 0, 1) := by decide +kernel
theorem dX11_isKind_1 : decode cX11_isKind 1 = .ok (.ifCond .lt 12, 3) := by decide +kernel
theorem dX11_isKind_4 : decode cX11_isKind 4 = .ok (.iload_n 0, 1) := by decide +kernel
theorem dX11_isKind_5 : decode cX11_isKind 5 = .ok (.iconst 3, 1) := by decide +kernel
theorem dX11_isKind_6 : decode cX11_isKind 6 = .ok (.if_icmp .ge 7, 3) := by decide +kernel
theorem dX11_isKind_9 : decode cX11_isKind 9 = .ok (.iconst 1, 1) := by decide +kernel
theorem dX11_isKind_10 : decode cX11_isKind 10 = .ok (.goto 4, 3) := by decide +kernel
theorem dX11_isKind_13 : decode cX11_isKind 13 = .ok (.iconst 0, 1) := by decide +kernel
theorem dX11_isKind_14 : decode cX11_isKind 14 = .ok (.ireturn, 1) := by decide +kernel
def f_X11_isKind (l0 : Int32) : Int32 :=
  if l0 < 0 then
    (0 : Int32)
  else
    if 3 ≤ l0 then
      (0 : Int32)
    else
      (1 : Int32)
set_option maxHeartbeats 4000000 in
set_option maxRecDepth 100000 in
theorem ok_X11_isKind {G : GT} {d : Nat} (hd : 0 ≤ d) {w : Wd} (l0 : Int32) : uC G yX11_isKind mX11_isKind d [.int l0] w (some (.int (f_X11_isKind l0))) w := by
  suffices key : ∀ r, f_X11_isKind l0 = r → uC G yX11_isKind mX11_isKind d [.int l0] w (some (.int r)) w from key _ rfl
  intro r h
  unfold f_X11_isKind at h
  refine uC_of (lv := [some (.int l0)]) 0 pn_X11 ⟨rfl, rfl⟩ (Nat.le_of_ble_eq_true rfl) rfl ?_
  refine V.iload_n (pc := 0) dX11_isKind_0 rfl ?_
  rcases ite_e h with ⟨c, h⟩ | ⟨c, h⟩
  · refine V.if_lt_t (t := 13) (pc := 1) dX11_isKind_1 (by decide) c ?_
    refine V.iconst (pc := 13) dX11_isKind_13 ic_0 ?_
    subst h
    exact V.zret (pc := 14) dX11_isKind_14 rfl (Or.inl rfl) (Nat.le_refl _) (Nat.le_refl _)
  · refine V.if_lt_f (t := 13) (pc := 1) dX11_isKind_1 (by decide) c ?_
    refine V.iload_n (pc := 4) dX11_isKind_4 rfl ?_
    refine V.iconst (pc := 5) dX11_isKind_5 ic_3 ?_
    rcases ite_e h with ⟨c, h⟩ | ⟨c, h⟩
    · refine V.icmp_ge_t (t := 13) (pc := 6) dX11_isKind_6 (by decide) c ?_
      refine V.iconst (pc := 13) dX11_isKind_13 ic_0 ?_
      subst h
      exact V.zret (pc := 14) dX11_isKind_14 rfl (Or.inl rfl) (Nat.le_refl _) (Nat.le_refl _)
    · refine V.icmp_ge_f (t := 13) (pc := 6) dX11_isKind_6 (by decide) c ?_
      refine V.iconst (pc := 9) dX11_isKind_9 ic_1 ?_
      refine V.goto (t := 14) (pc := 10) dX11_isKind_10 (by decide) ?_
      subst h
      exact V.zret (pc := 14) dX11_isKind_14 rfl (Or.inr rfl) (Nat.le_refl _) (Nat.le_refl _)
theorem b_X11_isKind (l0 : Int32) : f_X11_isKind l0 = 0 ∨ f_X11_isKind l0 = 1 := by
  unfold f_X11_isKind
  repeat' (first | exact Or.inl rfl | exact Or.inr rfl | apply b_tree)
  all_goals first | exact Or.inl rfl | exact Or.inr rfl | assumption
theorem dX4_kindOf_0 : decode cX4_kindOf 0 = .ok (.iconst 0, 1) := by decide +kernel
theorem dX4_kindOf_1 : decode cX4_kindOf 1 = .ok (.istore_n 2, 1) := by decide +kernel
theorem dX4_kindOf_2 : decode cX4_kindOf 2 = .ok (.iload_n 2, 1) := by decide +kernel
theorem dX4_kindOf_3 : decode cX4_kindOf 3 = .ok (.aload_n 0, 1) := by decide +kernel
theorem dX4_kindOf_4 : decode cX4_kindOf 4 = .ok (.getfield 30, 3) := by decide +kernel
theorem dX4_kindOf_7 : decode cX4_kindOf 7 = .ok (.if_icmp .ge 28, 3) := by decide +kernel
theorem dX4_kindOf_10 : decode cX4_kindOf 10 = .ok (.iload_n 1, 1) := by decide +kernel
theorem dX4_kindOf_11 : decode cX4_kindOf 11 = .ok (.iload_n 2, 1) := by decide +kernel
theorem dX4_kindOf_12 : decode cX4_kindOf 12 = .ok (.ishr, 1) := by decide +kernel
theorem dX4_kindOf_13 : decode cX4_kindOf 13 = .ok (.iconst 1, 1) := by decide +kernel
theorem dX4_kindOf_14 : decode cX4_kindOf 14 = .ok (.iand, 1) := by decide +kernel
theorem dX4_kindOf_15 : decode cX4_kindOf 15 = .ok (.ifCond .ne 14, 3) := by decide +kernel
theorem dX4_kindOf_18 : decode cX4_kindOf 18 = .ok (.aload_n 0, 1) := by decide +kernel
theorem dX4_kindOf_19 : decode cX4_kindOf 19 = .ok (.iload_n 1, 1) := by decide +kernel
theorem dX4_kindOf_20 : decode cX4_kindOf 20 = .ok (.iload_n 2, 1) := by decide +kernel
theorem dX4_kindOf_21 : decode cX4_kindOf 21 = .ok (.invokevirtual 103, 3) := by decide +kernel
theorem dX4_kindOf_24 : decode cX4_kindOf 24 = .ok (.ifCond .eq 5, 3) := by decide +kernel
theorem dX4_kindOf_27 : decode cX4_kindOf 27 = .ok (.iconst 0, 1) := by decide +kernel
theorem dX4_kindOf_28 : decode cX4_kindOf 28 = .ok (.ireturn, 1) := by decide +kernel
theorem dX4_kindOf_29 : decode cX4_kindOf 29 = .ok (.iinc 2 1, 3) := by decide +kernel
theorem dX4_kindOf_32 : decode cX4_kindOf 32 = .ok (.goto (-30), 3) := by decide +kernel
theorem dX4_kindOf_35 : decode cX4_kindOf 35 = .ok (.aload_n 0, 1) := by decide +kernel
theorem dX4_kindOf_36 : decode cX4_kindOf 36 = .ok (.iload_n 1, 1) := by decide +kernel
theorem dX4_kindOf_37 : decode cX4_kindOf 37 = .ok (.iload_n 1, 1) := by decide +kernel
theorem dX4_kindOf_38 : decode cX4_kindOf 38 = .ok (.invokevirtual 107, 3) := by decide +kernel
theorem dX4_kindOf_41 : decode cX4_kindOf 41 = .ok (.iload_n 1, 1) := by decide +kernel
theorem dX4_kindOf_42 : decode cX4_kindOf 42 = .ok (.ior, 1) := by decide +kernel
theorem dX4_kindOf_43 : decode cX4_kindOf 43 = .ok (.aload_n 0, 1) := by decide +kernel
theorem dX4_kindOf_44 : decode cX4_kindOf 44 = .ok (.getfield 52, 3) := by decide +kernel
theorem dX4_kindOf_47 : decode cX4_kindOf 47 = .ok (.if_icmp .ne 7, 3) := by decide +kernel
theorem dX4_kindOf_50 : decode cX4_kindOf 50 = .ok (.iconst 2, 1) := by decide +kernel
theorem dX4_kindOf_51 : decode cX4_kindOf 51 = .ok (.goto 4, 3) := by decide +kernel
theorem dX4_kindOf_54 : decode cX4_kindOf 54 = .ok (.iconst 1, 1) := by decide +kernel
theorem dX4_kindOf_55 : decode cX4_kindOf 55 = .ok (.ireturn, 1) := by decide +kernel
def f_X4_kindOf_B2b (k2 : Int32 → Int32 → Wd → Option Int32) (l1 : Int32) (l2 : Int32) (w : Wd) : Option Int32 :=
  if (w.1 6 7) ≤ l2 then
    bnd (f_X4_productsOf l1 l1 w) fun x1 =>
    if (x1 ||| l1) = (w.1 6 8) then
      some 2
    else
      some 1
  else
    if ((l1 >>> (l2 &&& 31)) &&& 1) = 0 then
      bnd (f_X4_staysFree l1 l2 w) fun x2 =>
      if x2 = 0 then
        k2 l1 (l2 + 1) w
      else
        some 0
    else
      k2 l1 (l2 + 1) w
def f_X4_kindOf_L2 (n : Nat) : Int32 → Int32 → Wd → Option Int32 :=
  Nat.rec (fun _ _ _ => none) (fun _ k => f_X4_kindOf_B2b k) n
set_option maxHeartbeats 4000000 in
set_option maxRecDepth 100000 in
theorem t_X4_kindOf_L2 {G : GT} {d : Nat} {w : Wd} (hd : 3 ≤ d + 1)  : ∀ (n : Nat) (l1 : Int32) (l2 : Int32) (r : Int32), f_X4_kindOf_L2 n l1 l2 w = some r → U (vf G mX4_kindOf (d + 1)) 2 [some (.ref 6), some (.int l1), some (.int l2)] [] w (some (.int r), 70, r0, w) := by
  intro n
  induction n with
  | zero => intro l1 l2 r h; cases h
  | succ n h2 =>
    intro l1 l2 r h
    have h : f_X4_kindOf_B2b (f_X4_kindOf_L2 n) l1 l2 w = some r := h
    unfold f_X4_kindOf_B2b at h
    refine V.iload_n (pc := 2) dX4_kindOf_2 rfl ?_
    refine V.aload_n (pc := 3) dX4_kindOf_3 rfl ?_
    refine V.getI (pc := 4) dX4_kindOf_4 f_RX4_30 k_cl4 lx_6 ly_6 rb_4_7 ?_
    rcases ite_e h with ⟨c, h⟩ | ⟨c, h⟩
    · refine V.icmp_ge_t (t := 35) (pc := 7) dX4_kindOf_7 (by decide) c ?_
      refine V.aload_n (pc := 35) dX4_kindOf_35 rfl ?_
      refine V.iload_n (pc := 36) dX4_kindOf_36 rfl ?_
      refine V.iload_n (pc := 37) dX4_kindOf_37 rfl ?_
      obtain ⟨x1, ex1, h⟩ := bnd_e h
      refine U.callV (pc := 38) (As := [.int l1, .int l1]) (st := []) dX4_kindOf_38 l_RX4_107 (ok_X4_productsOf (by omega) l1 l1 ex1) lx_6 ly_6 cn_4 (Nat.le_of_ble_eq_true rfl) rfl rfl (Nat.le_of_ble_eq_true rfl) ?_
      refine V.iload_n (pc := 41) dX4_kindOf_41 rfl ?_
      refine V.ior (pc := 42) dX4_kindOf_42 ?_
      refine V.aload_n (pc := 43) dX4_kindOf_43 rfl ?_
      refine V.getI (pc := 44) dX4_kindOf_44 f_RX4_52 k_cl4 lx_6 ly_6 rb_4_8 ?_
      rcases ite_e h with ⟨c, h⟩ | ⟨c, h⟩
      · refine V.icmp_ne_f (t := 54) (pc := 47) dX4_kindOf_47 (by decide) c ?_
        refine V.iconst (pc := 50) dX4_kindOf_50 ic_2 ?_
        refine V.goto (t := 55) (pc := 51) dX4_kindOf_51 (by decide) ?_
        obtain rfl := Option.some.inj h
        exact V.iret (pc := 55) dX4_kindOf_55 rfl (Nat.le_refl _) (Nat.le_refl _)
      · refine V.icmp_ne_t (t := 54) (pc := 47) dX4_kindOf_47 (by decide) c ?_
        refine V.iconst (pc := 54) dX4_kindOf_54 ic_1 ?_
        obtain rfl := Option.some.inj h
        exact V.iret (pc := 55) dX4_kindOf_55 rfl (Nat.le_refl _) (Nat.le_refl _)
    · refine V.icmp_ge_f (t := 35) (pc := 7) dX4_kindOf_7 (by decide) c ?_
      refine V.iload_n (pc := 10) dX4_kindOf_10 rfl ?_
      refine V.iload_n (pc := 11) dX4_kindOf_11 rfl ?_
      refine V.ishr (pc := 12) dX4_kindOf_12 ?_
      refine V.iconst (pc := 13) dX4_kindOf_13 ic_1 ?_
      refine V.iand (pc := 14) dX4_kindOf_14 ?_
      rcases ite_e h with ⟨c, h⟩ | ⟨c, h⟩
      · refine V.if_ne_f (t := 29) (pc := 15) dX4_kindOf_15 (by decide) c ?_
        refine V.aload_n (pc := 18) dX4_kindOf_18 rfl ?_
        refine V.iload_n (pc := 19) dX4_kindOf_19 rfl ?_
        refine V.iload_n (pc := 20) dX4_kindOf_20 rfl ?_
        obtain ⟨x2, ex2, h⟩ := bnd_e h
        refine U.callV (pc := 21) (As := [.int l1, .int l2]) (st := []) dX4_kindOf_21 l_RX4_103 (ok_X4_staysFree (by omega) l1 l2 ex2) lx_6 ly_6 cn_4 (Nat.le_of_ble_eq_true rfl) rfl rfl (Nat.le_of_ble_eq_true rfl) ?_
        rcases ite_e h with ⟨c, h⟩ | ⟨c, h⟩
        · refine V.if_eq_t (t := 29) (pc := 24) dX4_kindOf_24 (by decide) c ?_
          refine V.iinc (lv' := [some (.ref 6), some (.int l1), some (.int (l2 + 1))]) (pc := 29) dX4_kindOf_29 (Nat.le_of_ble_eq_true rfl) rfl rfl (v := (l2 + 1)) (by rw [show Int32.ofInt 1 = 1 from by decide]) rfl ?_
          refine V.goto (t := 2) (pc := 32) dX4_kindOf_32 (by decide) ?_
          exact h2 l1 (l2 + 1) _ h
        · refine V.if_eq_f (t := 29) (pc := 24) dX4_kindOf_24 (by decide) c ?_
          refine V.iconst (pc := 27) dX4_kindOf_27 ic_0 ?_
          obtain rfl := Option.some.inj h
          exact V.iret (pc := 28) dX4_kindOf_28 rfl (Nat.le_refl _) (Nat.le_refl _)
      · refine V.if_ne_t (t := 29) (pc := 15) dX4_kindOf_15 (by decide) c ?_
        refine V.iinc (lv' := [some (.ref 6), some (.int l1), some (.int (l2 + 1))]) (pc := 29) dX4_kindOf_29 (Nat.le_of_ble_eq_true rfl) rfl rfl (v := (l2 + 1)) (by rw [show Int32.ofInt 1 = 1 from by decide]) rfl ?_
        refine V.goto (t := 2) (pc := 32) dX4_kindOf_32 (by decide) ?_
        exact h2 l1 (l2 + 1) _ h
def f_X4_kindOf (l1 : Int32) (w : Wd) : Option Int32 :=
  f_X4_kindOf_L2  FU l1 0 w
set_option maxHeartbeats 4000000 in
set_option maxRecDepth 100000 in
theorem ok_X4_kindOf {G : GT} {d : Nat} (hd : 3 ≤ d) {w : Wd} (l1 : Int32) {r : Int32} (h : f_X4_kindOf l1 w = some r) : uC G yX4_kindOf mX4_kindOf d [.ref 6, .int l1] w (some (.int r)) w := by
  obtain ⟨d, rfl⟩ : ∃ e, d = e + 1 := ⟨d - 1, by omega⟩
  unfold f_X4_kindOf at h
  refine uC_of (lv := [some (.ref 6), some (.int l1), none]) 1 pn_X4 ⟨rfl, rfl⟩ (Nat.le_of_ble_eq_true rfl) rfl ?_
  refine V.iconst (pc := 0) dX4_kindOf_0 ic_0 ?_
  refine V.istore_n (lv' := [some (.ref 6), some (.int l1), some (.int 0)]) (pc := 1) dX4_kindOf_1 (Nat.le_of_ble_eq_true rfl) rfl rfl ?_
  exact t_X4_kindOf_L2 hd FU l1 0 _ h
theorem dX11_is_0 : decode cX11_is 0 = .ok (.aload_n 0, 1) := by decide +kernel
theorem dX11_is_1 : decode cX11_is 1 = .ok (.getfield 28, 3) := by decide +kernel
theorem dX11_is_4 : decode cX11_is 4 = .ok (.iload_n 1, 1) := by decide +kernel
theorem dX11_is_5 : decode cX11_is 5 = .ok (.invokevirtual 118, 3) := by decide +kernel
theorem dX11_is_8 : decode cX11_is 8 = .ok (.ifCond .eq 10, 3) := by decide +kernel
theorem dX11_is_11 : decode cX11_is 11 = .ok (.iload_n 2, 1) := by decide +kernel
theorem dX11_is_12 : decode cX11_is 12 = .ok (.invokestatic 192, 3) := by decide +kernel
theorem dX11_is_15 : decode cX11_is 15 = .ok (.ifCond .ne 5, 3) := by decide +kernel
theorem dX11_is_18 : decode cX11_is 18 = .ok (.iconst (-1), 1) := by decide +kernel
theorem dX11_is_19 : decode cX11_is 19 = .ok (.ireturn, 1) := by decide +kernel
theorem dX11_is_20 : decode cX11_is 20 = .ok (.aload_n 0, 1) := by decide +kernel
theorem dX11_is_21 : decode cX11_is 21 = .ok (.getfield 28, 3) := by decide +kernel
theorem dX11_is_24 : decode cX11_is 24 = .ok (.iload_n 1, 1) := by decide +kernel
theorem dX11_is_25 : decode cX11_is 25 = .ok (.invokevirtual 121, 3) := by decide +kernel
theorem dX11_is_28 : decode cX11_is 28 = .ok (.ifCond .eq 19, 3) := by decide +kernel
theorem dX11_is_31 : decode cX11_is 31 = .ok (.aload_n 0, 1) := by decide +kernel
theorem dX11_is_32 : decode cX11_is 32 = .ok (.getfield 28, 3) := by decide +kernel
theorem dX11_is_35 : decode cX11_is 35 = .ok (.iload_n 1, 1) := by decide +kernel
theorem dX11_is_36 : decode cX11_is 36 = .ok (.invokevirtual 195, 3) := by decide +kernel
theorem dX11_is_39 : decode cX11_is 39 = .ok (.iload_n 2, 1) := by decide +kernel
theorem dX11_is_40 : decode cX11_is 40 = .ok (.if_icmp .lt 7, 3) := by decide +kernel
theorem dX11_is_43 : decode cX11_is 43 = .ok (.iconst 1, 1) := by decide +kernel
theorem dX11_is_44 : decode cX11_is 44 = .ok (.goto 4, 3) := by decide +kernel
theorem dX11_is_47 : decode cX11_is 47 = .ok (.iconst 0, 1) := by decide +kernel
theorem dX11_is_48 : decode cX11_is 48 = .ok (.ireturn, 1) := by decide +kernel
def f_X11_is (l1 : Int32) (l2 : Int32) (w : Wd) : Option Int32 :=
  if (f_X4_holdsSet l1 w) = 0 then
    some (-1)
  else
    if (f_X11_isKind l2) = 0 then
      some (-1)
    else
      bnd (f_X4_isFree l1 w) fun x1 =>
      if x1 = 0 then
        some 0
      else
        bnd (f_X4_kindOf l1 w) fun x2 =>
        if x2 < l2 then
          some 0
        else
          some 1
set_option maxHeartbeats 4000000 in
set_option maxRecDepth 100000 in
theorem ok_X11_is {G : GT} {d : Nat} (hd : 4 ≤ d) {w : Wd} (l1 : Int32) (l2 : Int32) {r : Int32} (h : f_X11_is l1 l2 w = some r) : uC G yX11_is mX11_is d [.ref 0, .int l1, .int l2] w (some (.int r)) w := by
  obtain ⟨d, rfl⟩ : ∃ e, d = e + 1 := ⟨d - 1, by omega⟩
  unfold f_X11_is at h
  refine uC_of (lv := [some (.ref 0), some (.int l1), some (.int l2)]) 0 pn_X11 ⟨rfl, rfl⟩ (Nat.le_of_ble_eq_true rfl) rfl ?_
  refine V.aload_n (pc := 0) dX11_is_0 rfl ?_
  refine V.getR (t := 6) (pc := 1) dX11_is_1 f_RX11_28 k_cl11 lx_0 ly_0 rb_11_2 rr_0_2 ?_
  refine V.iload_n (pc := 4) dX11_is_4 rfl ?_
  refine U.callV (pc := 5) (As := [.int l1]) (st := []) dX11_is_5 l_RX11_118 (ok_X4_holdsSet (by omega) l1 ) lx_6 ly_6 cn_4 (Nat.le_of_ble_eq_true rfl) rfl rfl (Nat.le_of_ble_eq_true rfl) ?_
  rcases ite_e h with ⟨c, h⟩ | ⟨c, h⟩
  · refine V.if_eq_t (t := 18) (pc := 8) dX11_is_8 (by decide) c ?_
    refine V.iconst (pc := 18) dX11_is_18 ic_m1 ?_
    obtain rfl := Option.some.inj h
    exact V.iret (pc := 19) dX11_is_19 rfl (Nat.le_refl _) (Nat.le_refl _)
  · refine V.if_eq_f (t := 18) (pc := 8) dX11_is_8 (by decide) c ?_
    refine V.iload_n (pc := 11) dX11_is_11 rfl ?_
    refine U.callS (pc := 12) (As := [.int l2]) (st := []) dX11_is_12 l_RX11_192 (ok_X11_isKind (by omega) l2 ) (Nat.le_of_ble_eq_true rfl) rfl rfl (Nat.le_of_ble_eq_true rfl) ?_
    rcases ite_e h with ⟨c, h⟩ | ⟨c, h⟩
    · refine V.if_ne_f (t := 20) (pc := 15) dX11_is_15 (by decide) c ?_
      refine V.iconst (pc := 18) dX11_is_18 ic_m1 ?_
      obtain rfl := Option.some.inj h
      exact V.iret (pc := 19) dX11_is_19 rfl (Nat.le_refl _) (Nat.le_refl _)
    · refine V.if_ne_t (t := 20) (pc := 15) dX11_is_15 (by decide) c ?_
      refine V.aload_n (pc := 20) dX11_is_20 rfl ?_
      refine V.getR (t := 6) (pc := 21) dX11_is_21 f_RX11_28 k_cl11 lx_0 ly_0 rb_11_2 rr_0_2 ?_
      refine V.iload_n (pc := 24) dX11_is_24 rfl ?_
      obtain ⟨x1, ex1, h⟩ := bnd_e h
      refine U.callV (pc := 25) (As := [.int l1]) (st := []) dX11_is_25 l_RX11_121 (ok_X4_isFree (by omega) l1 ex1) lx_6 ly_6 cn_4 (Nat.le_of_ble_eq_true rfl) rfl rfl (Nat.le_of_ble_eq_true rfl) ?_
      rcases ite_e h with ⟨c, h⟩ | ⟨c, h⟩
      · refine V.if_eq_t (t := 47) (pc := 28) dX11_is_28 (by decide) c ?_
        refine V.iconst (pc := 47) dX11_is_47 ic_0 ?_
        obtain rfl := Option.some.inj h
        exact V.iret (pc := 48) dX11_is_48 rfl (Nat.le_refl _) (Nat.le_refl _)
      · refine V.if_eq_f (t := 47) (pc := 28) dX11_is_28 (by decide) c ?_
        refine V.aload_n (pc := 31) dX11_is_31 rfl ?_
        refine V.getR (t := 6) (pc := 32) dX11_is_32 f_RX11_28 k_cl11 lx_0 ly_0 rb_11_2 rr_0_2 ?_
        refine V.iload_n (pc := 35) dX11_is_35 rfl ?_
        obtain ⟨x2, ex2, h⟩ := bnd_e h
        refine U.callV (pc := 36) (As := [.int l1]) (st := []) dX11_is_36 l_RX11_195 (ok_X4_kindOf (by omega) l1 ex2) lx_6 ly_6 cn_4 (Nat.le_of_ble_eq_true rfl) rfl rfl (Nat.le_of_ble_eq_true rfl) ?_
        refine V.iload_n (pc := 39) dX11_is_39 rfl ?_
        rcases ite_e h with ⟨c, h⟩ | ⟨c, h⟩
        · refine V.icmp_lt_t (t := 47) (pc := 40) dX11_is_40 (by decide) c ?_
          refine V.iconst (pc := 47) dX11_is_47 ic_0 ?_
          obtain rfl := Option.some.inj h
          exact V.iret (pc := 48) dX11_is_48 rfl (Nat.le_refl _) (Nat.le_refl _)
        · refine V.icmp_lt_f (t := 47) (pc := 40) dX11_is_40 (by decide) c ?_
          refine V.iconst (pc := 43) dX11_is_43 ic_1 ?_
          refine V.goto (t := 48) (pc := 44) dX11_is_44 (by decide) ?_
          obtain rfl := Option.some.inj h
          exact V.iret (pc := 48) dX11_is_48 rfl (Nat.le_refl _) (Nat.le_refl _)
theorem dX12_isKind_0 : decode cX12_isKind 0 = .ok (.iload_n 0, 1) := by decide +kernel
theorem dX12_isKind_1 : decode cX12_isKind 1 = .ok (.iconst 0, 1) := by decide +kernel
theorem dX12_isKind_2 : decode cX12_isKind 2 = .ok (.iconst 2, 1) := by decide +kernel
theorem dX12_isKind_3 : decode cX12_isKind 3 = .ok (.invokestatic 139, 3) := by decide +kernel
theorem dX12_isKind_6 : decode cX12_isKind 6 = .ok (.ireturn, 1) := by decide +kernel
def f_X12_isKind (l0 : Int32) : Int32 :=
  (f_X12_in l0 0 2)
set_option maxHeartbeats 4000000 in
set_option maxRecDepth 100000 in
theorem ok_X12_isKind {G : GT} {d : Nat} (hd : 1 ≤ d) {w : Wd} (l0 : Int32) : uC G yX12_isKind mX12_isKind d [.int l0] w (some (.int (f_X12_isKind l0))) w := by
  obtain ⟨d, rfl⟩ : ∃ e, d = e + 1 := ⟨d - 1, by omega⟩
  suffices key : ∀ r, f_X12_isKind l0 = r → uC G yX12_isKind mX12_isKind (d + 1) [.int l0] w (some (.int r)) w from key _ rfl
  intro r h
  unfold f_X12_isKind at h
  refine uC_of (lv := [some (.int l0)]) 0 pn_X12 ⟨rfl, rfl⟩ (Nat.le_of_ble_eq_true rfl) rfl ?_
  refine V.iload_n (pc := 0) dX12_isKind_0 rfl ?_
  refine V.iconst (pc := 1) dX12_isKind_1 ic_0 ?_
  refine V.iconst (pc := 2) dX12_isKind_2 ic_2 ?_
  refine U.callS (pc := 3) (As := [.int l0, .int 0, .int 2]) (st := []) dX12_isKind_3 l_RX12_139 (ok_X12_in (by omega) l0 0 2 ) (Nat.le_of_ble_eq_true rfl) rfl rfl (Nat.le_of_ble_eq_true rfl) ?_
  subst h
  exact V.zret (pc := 6) dX12_isKind_6 rfl (b_X12_in l0 0 2) (Nat.le_refl _) (Nat.le_refl _)
theorem b_X12_isKind (l0 : Int32) : f_X12_isKind l0 = 0 ∨ f_X12_isKind l0 = 1 := by
  unfold f_X12_isKind
  repeat' (first | exact Or.inl rfl | exact Or.inr rfl | apply b_tree)
  all_goals first | exact Or.inl rfl | exact Or.inr rfl | apply b_X12_in | assumption
theorem dX12_openTo_0 : decode cX12_openTo 0 = .ok (.iconst 0, 1) := by decide +kernel
theorem dX12_openTo_1 : decode cX12_openTo 1 = .ok (.istore_n 2, 1) := by decide +kernel
theorem dX12_openTo_2 : decode cX12_openTo 2 = .ok (.iconst 0, 1) := by decide +kernel
theorem dX12_openTo_3 : decode cX12_openTo 3 = .ok (.istore_n 3, 1) := by decide +kernel
theorem dX12_openTo_4 : decode cX12_openTo 4 = .ok (.iload_n 3, 1) := by decide +kernel
theorem dX12_openTo_5 : decode cX12_openTo 5 = .ok (.aload_n 0, 1) := by decide +kernel
theorem dX12_openTo_6 : decode cX12_openTo 6 = .ok (.getfield 92, 3) := by decide +kernel
theorem dX12_openTo_9 : decode cX12_openTo 9 = .ok (.if_icmp .ge 35, 3) := by decide +kernel
theorem dX12_openTo_12 : decode cX12_openTo 12 = .ok (.iload_n 1, 1) := by decide +kernel
theorem dX12_openTo_13 : decode cX12_openTo 13 = .ok (.iload_n 3, 1) := by decide +kernel
theorem dX12_openTo_14 : decode cX12_openTo 14 = .ok (.invokestatic 128, 3) := by decide +kernel
theorem dX12_openTo_17 : decode cX12_openTo 17 = .ok (.ifCond .ne 21, 3) := by decide +kernel
theorem dX12_openTo_20 : decode cX12_openTo 20 = .ok (.aload_n 0, 1) := by decide +kernel
theorem dX12_openTo_21 : decode cX12_openTo 21 = .ok (.iload_n 1, 1) := by decide +kernel
theorem dX12_openTo_22 : decode cX12_openTo 22 = .ok (.iconst 1, 1) := by decide +kernel
theorem dX12_openTo_23 : decode cX12_openTo 23 = .ok (.iload_n 3, 1) := by decide +kernel
theorem dX12_openTo_24 : decode cX12_openTo 24 = .ok (.ishl, 1) := by decide +kernel
theorem dX12_openTo_25 : decode cX12_openTo 25 = .ok (.ior, 1) := by decide +kernel
theorem dX12_openTo_26 : decode cX12_openTo 26 = .ok (.invokevirtual 150, 3) := by decide +kernel
theorem dX12_openTo_29 : decode cX12_openTo 29 = .ok (.ifCond .eq 9, 3) := by decide +kernel
theorem dX12_openTo_32 : decode cX12_openTo 32 = .ok (.iload_n 2, 1) := by decide +kernel
theorem dX12_openTo_33 : decode cX12_openTo 33 = .ok (.iconst 1, 1) := by decide +kernel
theorem dX12_openTo_34 : decode cX12_openTo 34 = .ok (.iload_n 3, 1) := by decide +kernel
theorem dX12_openTo_35 : decode cX12_openTo 35 = .ok (.ishl, 1) := by decide +kernel
theorem dX12_openTo_36 : decode cX12_openTo 36 = .ok (.ior, 1) := by decide +kernel
theorem dX12_openTo_37 : decode cX12_openTo 37 = .ok (.istore_n 2, 1) := by decide +kernel
theorem dX12_openTo_38 : decode cX12_openTo 38 = .ok (.iinc 3 1, 3) := by decide +kernel
theorem dX12_openTo_41 : decode cX12_openTo 41 = .ok (.goto (-37), 3) := by decide +kernel
theorem dX12_openTo_44 : decode cX12_openTo 44 = .ok (.iload_n 2, 1) := by decide +kernel
theorem dX12_openTo_45 : decode cX12_openTo 45 = .ok (.ireturn, 1) := by decide +kernel
def f_X12_openTo_B4b (k4 : Int32 → Int32 → Int32 → Wd → Option Int32) (l1 : Int32) (l2 : Int32) (l3 : Int32) (w : Wd) : Option Int32 :=
  if (w.1 44 1) ≤ l3 then
    some l2
  else
    if (f_X12_has l1 l3) = 0 then
      bnd (f_X12_isFree (l1 ||| (1 <<< (l3 &&& 31))) w) fun x1 =>
      if x1 = 0 then
        k4 l1 l2 (l3 + 1) w
      else
        k4 l1 (l2 ||| (1 <<< (l3 &&& 31))) (l3 + 1) w
    else
      k4 l1 l2 (l3 + 1) w
def f_X12_openTo_L4 (n : Nat) : Int32 → Int32 → Int32 → Wd → Option Int32 :=
  Nat.rec (fun _ _ _ _ => none) (fun _ k => f_X12_openTo_B4b k) n
set_option maxHeartbeats 4000000 in
set_option maxRecDepth 100000 in
theorem t_X12_openTo_L4 {G : GT} {d : Nat} {w : Wd} (hd : 2 ≤ d + 1)  : ∀ (n : Nat) (l1 : Int32) (l2 : Int32) (l3 : Int32) (r : Int32), f_X12_openTo_L4 n l1 l2 l3 w = some r → U (vf G mX12_openTo (d + 1)) 4 [some (.ref 44), some (.int l1), some (.int l2), some (.int l3)] [] w (some (.int r), 70, r0, w) := by
  intro n
  induction n with
  | zero => intro l1 l2 l3 r h; cases h
  | succ n h4 =>
    intro l1 l2 l3 r h
    have h : f_X12_openTo_B4b (f_X12_openTo_L4 n) l1 l2 l3 w = some r := h
    unfold f_X12_openTo_B4b at h
    refine V.iload_n (pc := 4) dX12_openTo_4 rfl ?_
    refine V.aload_n (pc := 5) dX12_openTo_5 rfl ?_
    refine V.getI (pc := 6) dX12_openTo_6 f_RX12_92 k_cl12 lx_44 ly_44 rb_12_1 ?_
    rcases ite_e h with ⟨c, h⟩ | ⟨c, h⟩
    · refine V.icmp_ge_t (t := 44) (pc := 9) dX12_openTo_9 (by decide) c ?_
      refine V.iload_n (pc := 44) dX12_openTo_44 rfl ?_
      obtain rfl := Option.some.inj h
      exact V.iret (pc := 45) dX12_openTo_45 rfl (Nat.le_refl _) (Nat.le_refl _)
    · refine V.icmp_ge_f (t := 44) (pc := 9) dX12_openTo_9 (by decide) c ?_
      refine V.iload_n (pc := 12) dX12_openTo_12 rfl ?_
      refine V.iload_n (pc := 13) dX12_openTo_13 rfl ?_
      refine U.callS (pc := 14) (As := [.int l1, .int l3]) (st := []) dX12_openTo_14 l_RX12_128 (ok_X12_has (by omega) l1 l3 ) (Nat.le_of_ble_eq_true rfl) rfl rfl (Nat.le_of_ble_eq_true rfl) ?_
      rcases ite_e h with ⟨c, h⟩ | ⟨c, h⟩
      · refine V.if_ne_f (t := 38) (pc := 17) dX12_openTo_17 (by decide) c ?_
        refine V.aload_n (pc := 20) dX12_openTo_20 rfl ?_
        refine V.iload_n (pc := 21) dX12_openTo_21 rfl ?_
        refine V.iconst (pc := 22) dX12_openTo_22 ic_1 ?_
        refine V.iload_n (pc := 23) dX12_openTo_23 rfl ?_
        refine V.ishl (pc := 24) dX12_openTo_24 ?_
        refine V.ior (pc := 25) dX12_openTo_25 ?_
        obtain ⟨x1, ex1, h⟩ := bnd_e h
        refine U.callV (pc := 26) (As := [.int (l1 ||| (1 <<< (l3 &&& 31)))]) (st := []) dX12_openTo_26 l_RX12_150 (ok_X12_isFree (by omega) (l1 ||| (1 <<< (l3 &&& 31))) ex1) lx_44 ly_44 cn_12 (Nat.le_of_ble_eq_true rfl) rfl rfl (Nat.le_of_ble_eq_true rfl) ?_
        rcases ite_e h with ⟨c, h⟩ | ⟨c, h⟩
        · refine V.if_eq_t (t := 38) (pc := 29) dX12_openTo_29 (by decide) c ?_
          refine V.iinc (lv' := [some (.ref 44), some (.int l1), some (.int l2), some (.int (l3 + 1))]) (pc := 38) dX12_openTo_38 (Nat.le_of_ble_eq_true rfl) rfl rfl (v := (l3 + 1)) (by rw [show Int32.ofInt 1 = 1 from by decide]) rfl ?_
          refine V.goto (t := 4) (pc := 41) dX12_openTo_41 (by decide) ?_
          exact h4 l1 l2 (l3 + 1) _ h
        · refine V.if_eq_f (t := 38) (pc := 29) dX12_openTo_29 (by decide) c ?_
          refine V.iload_n (pc := 32) dX12_openTo_32 rfl ?_
          refine V.iconst (pc := 33) dX12_openTo_33 ic_1 ?_
          refine V.iload_n (pc := 34) dX12_openTo_34 rfl ?_
          refine V.ishl (pc := 35) dX12_openTo_35 ?_
          refine V.ior (pc := 36) dX12_openTo_36 ?_
          refine V.istore_n (lv' := [some (.ref 44), some (.int l1), some (.int (l2 ||| (1 <<< (l3 &&& 31)))), some (.int l3)]) (pc := 37) dX12_openTo_37 (Nat.le_of_ble_eq_true rfl) rfl rfl ?_
          refine V.iinc (lv' := [some (.ref 44), some (.int l1), some (.int (l2 ||| (1 <<< (l3 &&& 31)))), some (.int (l3 + 1))]) (pc := 38) dX12_openTo_38 (Nat.le_of_ble_eq_true rfl) rfl rfl (v := (l3 + 1)) (by rw [show Int32.ofInt 1 = 1 from by decide]) rfl ?_
          refine V.goto (t := 4) (pc := 41) dX12_openTo_41 (by decide) ?_
          exact h4 l1 (l2 ||| (1 <<< (l3 &&& 31))) (l3 + 1) _ h
      · refine V.if_ne_t (t := 38) (pc := 17) dX12_openTo_17 (by decide) c ?_
        refine V.iinc (lv' := [some (.ref 44), some (.int l1), some (.int l2), some (.int (l3 + 1))]) (pc := 38) dX12_openTo_38 (Nat.le_of_ble_eq_true rfl) rfl rfl (v := (l3 + 1)) (by rw [show Int32.ofInt 1 = 1 from by decide]) rfl ?_
        refine V.goto (t := 4) (pc := 41) dX12_openTo_41 (by decide) ?_
        exact h4 l1 l2 (l3 + 1) _ h
def f_X12_openTo (l1 : Int32) (w : Wd) : Option Int32 :=
  f_X12_openTo_L4  FU l1 0 0 w
set_option maxHeartbeats 4000000 in
set_option maxRecDepth 100000 in
theorem ok_X12_openTo {G : GT} {d : Nat} (hd : 2 ≤ d) {w : Wd} (l1 : Int32) {r : Int32} (h : f_X12_openTo l1 w = some r) : uC G yX12_openTo mX12_openTo d [.ref 44, .int l1] w (some (.int r)) w := by
  obtain ⟨d, rfl⟩ : ∃ e, d = e + 1 := ⟨d - 1, by omega⟩
  unfold f_X12_openTo at h
  refine uC_of (lv := [some (.ref 44), some (.int l1), none, none]) 2 pn_X12 ⟨rfl, rfl⟩ (Nat.le_of_ble_eq_true rfl) rfl ?_
  refine V.iconst (pc := 0) dX12_openTo_0 ic_0 ?_
  refine V.istore_n (lv' := [some (.ref 44), some (.int l1), some (.int 0), none]) (pc := 1) dX12_openTo_1 (Nat.le_of_ble_eq_true rfl) rfl rfl ?_
  refine V.iconst (pc := 2) dX12_openTo_2 ic_0 ?_
  refine V.istore_n (lv' := [some (.ref 44), some (.int l1), some (.int 0), some (.int 0)]) (pc := 3) dX12_openTo_3 (Nat.le_of_ble_eq_true rfl) rfl rfl ?_
  exact t_X12_openTo_L4 hd FU l1 0 0 _ h
theorem dX12_isOf_0 : decode cX12_isOf 0 = .ok (.aload_n 0, 1) := by decide +kernel
theorem dX12_isOf_1 : decode cX12_isOf 1 = .ok (.iload_n 1, 1) := by decide +kernel
theorem dX12_isOf_2 : decode cX12_isOf 2 = .ok (.invokevirtual 150, 3) := by decide +kernel
theorem dX12_isOf_5 : decode cX12_isOf 5 = .ok (.ifCond .ne 5, 3) := by decide +kernel
theorem dX12_isOf_8 : decode cX12_isOf 8 = .ok (.iconst 0, 1) := by decide +kernel
theorem dX12_isOf_9 : decode cX12_isOf 9 = .ok (.ireturn, 1) := by decide +kernel
theorem dX12_isOf_10 : decode cX12_isOf 10 = .ok (.iload_n 2, 1) := by decide +kernel
theorem dX12_isOf_11 : decode cX12_isOf 11 = .ok (.ifCond .eq 36, 3) := by decide +kernel
theorem dX12_isOf_14 : decode cX12_isOf 14 = .ok (.iload_n 2, 1) := by decide +kernel
theorem dX12_isOf_15 : decode cX12_isOf 15 = .ok (.iconst 1, 1) := by decide +kernel
theorem dX12_isOf_16 : decode cX12_isOf 16 = .ok (.if_icmp .ne 14, 3) := by decide +kernel
theorem dX12_isOf_19 : decode cX12_isOf 19 = .ok (.aload_n 0, 1) := by decide +kernel
theorem dX12_isOf_20 : decode cX12_isOf 20 = .ok (.iload_n 1, 1) := by decide +kernel
theorem dX12_isOf_21 : decode cX12_isOf 21 = .ok (.invokevirtual 154, 3) := by decide +kernel
theorem dX12_isOf_24 : decode cX12_isOf 24 = .ok (.ifCond .ne 27, 3) := by decide +kernel
theorem dX12_isOf_27 : decode cX12_isOf 27 = .ok (.goto 20, 3) := by decide +kernel
theorem dX12_isOf_30 : decode cX12_isOf 30 = .ok (.aload_n 0, 1) := by decide +kernel
theorem dX12_isOf_31 : decode cX12_isOf 31 = .ok (.getfield 27, 3) := by decide +kernel
theorem dX12_isOf_34 : decode cX12_isOf 34 = .ok (.iload_n 1, 1) := by decide +kernel
theorem dX12_isOf_35 : decode cX12_isOf 35 = .ok (.iaload, 1) := by decide +kernel
theorem dX12_isOf_36 : decode cX12_isOf 36 = .ok (.aload_n 0, 1) := by decide +kernel
theorem dX12_isOf_37 : decode cX12_isOf 37 = .ok (.invokevirtual 143, 3) := by decide +kernel
theorem dX12_isOf_40 : decode cX12_isOf 40 = .ok (.iload_n 1, 1) := by decide +kernel
theorem dX12_isOf_41 : decode cX12_isOf 41 = .ok (.iconst (-1), 1) := by decide +kernel
theorem dX12_isOf_42 : decode cX12_isOf 42 = .ok (.ixor, 1) := by decide +kernel
theorem dX12_isOf_43 : decode cX12_isOf 43 = .ok (.iand, 1) := by decide +kernel
theorem dX12_isOf_44 : decode cX12_isOf 44 = .ok (.if_icmp .ne 7, 3) := by decide +kernel
theorem dX12_isOf_47 : decode cX12_isOf 47 = .ok (.iconst 1, 1) := by decide +kernel
theorem dX12_isOf_48 : decode cX12_isOf 48 = .ok (.goto 4, 3) := by decide +kernel
theorem dX12_isOf_51 : decode cX12_isOf 51 = .ok (.iconst 0, 1) := by decide +kernel
theorem dX12_isOf_52 : decode cX12_isOf 52 = .ok (.ireturn, 1) := by decide +kernel
def f_X12_isOf (l1 : Int32) (l2 : Int32) (w : Wd) : Option Int32 :=
  bnd (f_X12_isFree l1 w) fun x1 =>
  if x1 = 0 then
    some 0
  else
    if l2 = 0 then
      some 1
    else
      if l2 = 1 then
        bnd (f_X12_openTo l1 w) fun x3 =>
        if x3 = 0 then
          some 1
        else
          some 0
      else
        rdI w 49 65536 l1 fun x2 =>
        if x2 = ((f_X12_all  w) &&& (l1 ^^^ (-1))) then
          some 1
        else
          some 0
set_option maxHeartbeats 4000000 in
set_option maxRecDepth 100000 in
theorem ok_X12_isOf {G : GT} {d : Nat} (hd : 3 ≤ d) {w : Wd} (l1 : Int32) (l2 : Int32) {r : Int32} (h : f_X12_isOf l1 l2 w = some r) : uC G yX12_isOf mX12_isOf d [.ref 44, .int l1, .int l2] w (some (.int r)) w := by
  obtain ⟨d, rfl⟩ : ∃ e, d = e + 1 := ⟨d - 1, by omega⟩
  unfold f_X12_isOf at h
  refine uC_of (lv := [some (.ref 44), some (.int l1), some (.int l2)]) 0 pn_X12 ⟨rfl, rfl⟩ (Nat.le_of_ble_eq_true rfl) rfl ?_
  refine V.aload_n (pc := 0) dX12_isOf_0 rfl ?_
  refine V.iload_n (pc := 1) dX12_isOf_1 rfl ?_
  obtain ⟨x1, ex1, h⟩ := bnd_e h
  refine U.callV (pc := 2) (As := [.int l1]) (st := []) dX12_isOf_2 l_RX12_150 (ok_X12_isFree (by omega) l1 ex1) lx_44 ly_44 cn_12 (Nat.le_of_ble_eq_true rfl) rfl rfl (Nat.le_of_ble_eq_true rfl) ?_
  rcases ite_e h with ⟨c, h⟩ | ⟨c, h⟩
  · refine V.if_ne_f (t := 10) (pc := 5) dX12_isOf_5 (by decide) c ?_
    refine V.iconst (pc := 8) dX12_isOf_8 ic_0 ?_
    obtain rfl := Option.some.inj h
    exact V.zret (pc := 9) dX12_isOf_9 rfl (Or.inl rfl) (Nat.le_refl _) (Nat.le_refl _)
  · refine V.if_ne_t (t := 10) (pc := 5) dX12_isOf_5 (by decide) c ?_
    refine V.iload_n (pc := 10) dX12_isOf_10 rfl ?_
    rcases ite_e h with ⟨c, h⟩ | ⟨c, h⟩
    · refine V.if_eq_t (t := 47) (pc := 11) dX12_isOf_11 (by decide) c ?_
      refine V.iconst (pc := 47) dX12_isOf_47 ic_1 ?_
      refine V.goto (t := 52) (pc := 48) dX12_isOf_48 (by decide) ?_
      obtain rfl := Option.some.inj h
      exact V.zret (pc := 52) dX12_isOf_52 rfl (Or.inr rfl) (Nat.le_refl _) (Nat.le_refl _)
    · refine V.if_eq_f (t := 47) (pc := 11) dX12_isOf_11 (by decide) c ?_
      refine V.iload_n (pc := 14) dX12_isOf_14 rfl ?_
      refine V.iconst (pc := 15) dX12_isOf_15 ic_1 ?_
      rcases ite_e h with ⟨c, h⟩ | ⟨c, h⟩
      · refine V.icmp_ne_f (t := 30) (pc := 16) dX12_isOf_16 (by decide) c ?_
        refine V.aload_n (pc := 19) dX12_isOf_19 rfl ?_
        refine V.iload_n (pc := 20) dX12_isOf_20 rfl ?_
        obtain ⟨x3, ex3, h⟩ := bnd_e h
        refine U.callV (pc := 21) (As := [.int l1]) (st := []) dX12_isOf_21 l_RX12_154 (ok_X12_openTo (by omega) l1 ex3) lx_44 ly_44 cn_12 (Nat.le_of_ble_eq_true rfl) rfl rfl (Nat.le_of_ble_eq_true rfl) ?_
        rcases ite_e h with ⟨c, h⟩ | ⟨c, h⟩
        · refine V.if_ne_f (t := 51) (pc := 24) dX12_isOf_24 (by decide) c ?_
          refine V.goto (t := 47) (pc := 27) dX12_isOf_27 (by decide) ?_
          refine V.iconst (pc := 47) dX12_isOf_47 ic_1 ?_
          refine V.goto (t := 52) (pc := 48) dX12_isOf_48 (by decide) ?_
          obtain rfl := Option.some.inj h
          exact V.zret (pc := 52) dX12_isOf_52 rfl (Or.inr rfl) (Nat.le_refl _) (Nat.le_refl _)
        · refine V.if_ne_t (t := 51) (pc := 24) dX12_isOf_24 (by decide) c ?_
          refine V.iconst (pc := 51) dX12_isOf_51 ic_0 ?_
          obtain rfl := Option.some.inj h
          exact V.zret (pc := 52) dX12_isOf_52 rfl (Or.inl rfl) (Nat.le_refl _) (Nat.le_refl _)
      · refine V.icmp_ne_t (t := 30) (pc := 16) dX12_isOf_16 (by decide) c ?_
        refine V.aload_n (pc := 30) dX12_isOf_30 rfl ?_
        refine V.getR (t := 49) (pc := 31) dX12_isOf_31 f_RX12_27 k_cl12 lx_44 ly_44 rb_12_7 rr_44_7 ?_
        refine V.iload_n (pc := 34) dX12_isOf_34 rfl ?_
        obtain ⟨x2, ix2, ex2, h⟩ := rdI_e h
        refine V.ialdX (pc := 35) dX12_isOf_35 lx_49 ly_49 ix2 ex2 ?_
        refine V.aload_n (pc := 36) dX12_isOf_36 rfl ?_
        refine U.callV (pc := 37) (As := []) (st := [.int x2]) dX12_isOf_37 l_RX12_143 (ok_X12_all (by omega)  ) lx_44 ly_44 cn_12 (Nat.le_of_ble_eq_true rfl) rfl rfl (Nat.le_of_ble_eq_true rfl) ?_
        refine V.iload_n (pc := 40) dX12_isOf_40 rfl ?_
        refine V.iconst (pc := 41) dX12_isOf_41 ic_m1 ?_
        refine V.ixor (pc := 42) dX12_isOf_42 ?_
        refine V.iand (pc := 43) dX12_isOf_43 ?_
        rcases ite_e h with ⟨c, h⟩ | ⟨c, h⟩
        · refine V.icmp_ne_f (t := 51) (pc := 44) dX12_isOf_44 (by decide) c ?_
          refine V.iconst (pc := 47) dX12_isOf_47 ic_1 ?_
          refine V.goto (t := 52) (pc := 48) dX12_isOf_48 (by decide) ?_
          obtain rfl := Option.some.inj h
          exact V.zret (pc := 52) dX12_isOf_52 rfl (Or.inr rfl) (Nat.le_refl _) (Nat.le_refl _)
        · refine V.icmp_ne_t (t := 51) (pc := 44) dX12_isOf_44 (by decide) c ?_
          refine V.iconst (pc := 51) dX12_isOf_51 ic_0 ?_
          obtain rfl := Option.some.inj h
          exact V.zret (pc := 52) dX12_isOf_52 rfl (Or.inl rfl) (Nat.le_refl _) (Nat.le_refl _)
theorem dX12_is_0 : decode cX12_is 0 = .ok (.aload_n 0, 1) := by decide +kernel
theorem dX12_is_1 : decode cX12_is 1 = .ok (.iload_n 1, 1) := by decide +kernel
theorem dX12_is_2 : decode cX12_is 2 = .ok (.invokevirtual 169, 3) := by decide +kernel
theorem dX12_is_5 : decode cX12_is 5 = .ok (.ifCond .eq 27, 3) := by decide +kernel
theorem dX12_is_8 : decode cX12_is 8 = .ok (.iload_n 2, 1) := by decide +kernel
theorem dX12_is_9 : decode cX12_is 9 = .ok (.invokestatic 197, 3) := by decide +kernel
theorem dX12_is_12 : decode cX12_is 12 = .ok (.ifCond .eq 20, 3) := by decide +kernel
theorem dX12_is_15 : decode cX12_is 15 = .ok (.aload_n 0, 1) := by decide +kernel
theorem dX12_is_16 : decode cX12_is 16 = .ok (.iload_n 1, 1) := by decide +kernel
theorem dX12_is_17 : decode cX12_is 17 = .ok (.iload_n 2, 1) := by decide +kernel
theorem dX12_is_18 : decode cX12_is 18 = .ok (.invokevirtual 200, 3) := by decide +kernel
theorem dX12_is_21 : decode cX12_is 21 = .ok (.ifCond .eq 7, 3) := by decide +kernel
theorem dX12_is_24 : decode cX12_is 24 = .ok (.iconst 1, 1) := by decide +kernel
theorem dX12_is_25 : decode cX12_is 25 = .ok (.goto 8, 3) := by decide +kernel
theorem dX12_is_28 : decode cX12_is 28 = .ok (.iconst 0, 1) := by decide +kernel
theorem dX12_is_29 : decode cX12_is 29 = .ok (.goto 4, 3) := by decide +kernel
theorem dX12_is_32 : decode cX12_is 32 = .ok (.iconst (-1), 1) := by decide +kernel
theorem dX12_is_33 : decode cX12_is 33 = .ok (.ireturn, 1) := by decide +kernel
def f_X12_is (l1 : Int32) (l2 : Int32) (w : Wd) : Option Int32 :=
  if (f_X12_isSet l1 w) = 0 then
    some (-1)
  else
    if (f_X12_isKind l2) = 0 then
      some (-1)
    else
      bnd (f_X12_isOf l1 l2 w) fun x1 =>
      if x1 = 0 then
        some 0
      else
        some 1
set_option maxHeartbeats 4000000 in
set_option maxRecDepth 100000 in
theorem ok_X12_is {G : GT} {d : Nat} (hd : 4 ≤ d) {w : Wd} (l1 : Int32) (l2 : Int32) {r : Int32} (h : f_X12_is l1 l2 w = some r) : uC G yX12_is mX12_is d [.ref 44, .int l1, .int l2] w (some (.int r)) w := by
  obtain ⟨d, rfl⟩ : ∃ e, d = e + 1 := ⟨d - 1, by omega⟩
  unfold f_X12_is at h
  refine uC_of (lv := [some (.ref 44), some (.int l1), some (.int l2)]) 0 pn_X12 ⟨rfl, rfl⟩ (Nat.le_of_ble_eq_true rfl) rfl ?_
  refine V.aload_n (pc := 0) dX12_is_0 rfl ?_
  refine V.iload_n (pc := 1) dX12_is_1 rfl ?_
  refine U.callV (pc := 2) (As := [.int l1]) (st := []) dX12_is_2 l_RX12_169 (ok_X12_isSet (by omega) l1 ) lx_44 ly_44 cn_12 (Nat.le_of_ble_eq_true rfl) rfl rfl (Nat.le_of_ble_eq_true rfl) ?_
  rcases ite_e h with ⟨c, h⟩ | ⟨c, h⟩
  · refine V.if_eq_t (t := 32) (pc := 5) dX12_is_5 (by decide) c ?_
    refine V.iconst (pc := 32) dX12_is_32 ic_m1 ?_
    obtain rfl := Option.some.inj h
    exact V.iret (pc := 33) dX12_is_33 rfl (Nat.le_refl _) (Nat.le_refl _)
  · refine V.if_eq_f (t := 32) (pc := 5) dX12_is_5 (by decide) c ?_
    refine V.iload_n (pc := 8) dX12_is_8 rfl ?_
    refine U.callS (pc := 9) (As := [.int l2]) (st := []) dX12_is_9 l_RX12_197 (ok_X12_isKind (by omega) l2 ) (Nat.le_of_ble_eq_true rfl) rfl rfl (Nat.le_of_ble_eq_true rfl) ?_
    rcases ite_e h with ⟨c, h⟩ | ⟨c, h⟩
    · refine V.if_eq_t (t := 32) (pc := 12) dX12_is_12 (by decide) c ?_
      refine V.iconst (pc := 32) dX12_is_32 ic_m1 ?_
      obtain rfl := Option.some.inj h
      exact V.iret (pc := 33) dX12_is_33 rfl (Nat.le_refl _) (Nat.le_refl _)
    · refine V.if_eq_f (t := 32) (pc := 12) dX12_is_12 (by decide) c ?_
      refine V.aload_n (pc := 15) dX12_is_15 rfl ?_
      refine V.iload_n (pc := 16) dX12_is_16 rfl ?_
      refine V.iload_n (pc := 17) dX12_is_17 rfl ?_
      obtain ⟨x1, ex1, h⟩ := bnd_e h
      refine U.callV (pc := 18) (As := [.int l1, .int l2]) (st := []) dX12_is_18 l_RX12_200 (ok_X12_isOf (by omega) l1 l2 ex1) lx_44 ly_44 cn_12 (Nat.le_of_ble_eq_true rfl) rfl rfl (Nat.le_of_ble_eq_true rfl) ?_
      rcases ite_e h with ⟨c, h⟩ | ⟨c, h⟩
      · refine V.if_eq_t (t := 28) (pc := 21) dX12_is_21 (by decide) c ?_
        refine V.iconst (pc := 28) dX12_is_28 ic_0 ?_
        refine V.goto (t := 33) (pc := 29) dX12_is_29 (by decide) ?_
        obtain rfl := Option.some.inj h
        exact V.iret (pc := 33) dX12_is_33 rfl (Nat.le_refl _) (Nat.le_refl _)
      · refine V.if_eq_f (t := 28) (pc := 21) dX12_is_21 (by decide) c ?_
        refine V.iconst (pc := 24) dX12_is_24 ic_1 ?_
        refine V.goto (t := 33) (pc := 25) dX12_is_25 (by decide) ?_
        obtain rfl := Option.some.inj h
        exact V.iret (pc := 33) dX12_is_33 rfl (Nat.le_refl _) (Nat.le_refl _)
theorem dX4_countTriples_0 : decode cX4_countTriples 0 = .ok (.iconst 0, 1) := by decide +kernel
theorem dX4_countTriples_1 : decode cX4_countTriples 1 = .ok (.istore_n 2, 1) := by decide +kernel
theorem dX4_countTriples_2 : decode cX4_countTriples 2 = .ok (.iconst 0, 1) := by decide +kernel
theorem dX4_countTriples_3 : decode cX4_countTriples 3 = .ok (.istore_n 3, 1) := by decide +kernel
theorem dX4_countTriples_4 : decode cX4_countTriples 4 = .ok (.iload_n 3, 1) := by decide +kernel
theorem dX4_countTriples_5 : decode cX4_countTriples 5 = .ok (.aload_n 0, 1) := by decide +kernel
theorem dX4_countTriples_6 : decode cX4_countTriples 6 = .ok (.getfield 30, 3) := by decide +kernel
theorem dX4_countTriples_9 : decode cX4_countTriples 9 = .ok (.if_icmp .ge 32, 3) := by decide +kernel
theorem dX4_countTriples_12 : decode cX4_countTriples 12 = .ok (.iload_n 1, 1) := by decide +kernel
theorem dX4_countTriples_13 : decode cX4_countTriples 13 = .ok (.iload_n 3, 1) := by decide +kernel
theorem dX4_countTriples_14 : decode cX4_countTriples 14 = .ok (.ishr, 1) := by decide +kernel
theorem dX4_countTriples_15 : decode cX4_countTriples 15 = .ok (.iconst 1, 1) := by decide +kernel
theorem dX4_countTriples_16 : decode cX4_countTriples 16 = .ok (.iand, 1) := by decide +kernel
theorem dX4_countTriples_17 : decode cX4_countTriples 17 = .ok (.ifCond .eq 18, 3) := by decide +kernel
theorem dX4_countTriples_20 : decode cX4_countTriples 20 = .ok (.iload_n 2, 1) := by decide +kernel
theorem dX4_countTriples_21 : decode cX4_countTriples 21 = .ok (.aload_n 0, 1) := by decide +kernel
theorem dX4_countTriples_22 : decode cX4_countTriples 22 = .ok (.iload_n 3, 1) := by decide +kernel
theorem dX4_countTriples_23 : decode cX4_countTriples 23 = .ok (.iload_n 1, 1) := by decide +kernel
theorem dX4_countTriples_24 : decode cX4_countTriples 24 = .ok (.iconst 1, 1) := by decide +kernel
theorem dX4_countTriples_25 : decode cX4_countTriples 25 = .ok (.invokevirtual 80, 3) := by decide +kernel
theorem dX4_countTriples_28 : decode cX4_countTriples 28 = .ok (.iload_n 1, 1) := by decide +kernel
theorem dX4_countTriples_29 : decode cX4_countTriples 29 = .ok (.iand, 1) := by decide +kernel
theorem dX4_countTriples_30 : decode cX4_countTriples 30 = .ok (.invokestatic 94, 3) := by decide +kernel
theorem dX4_countTriples_33 : decode cX4_countTriples 33 = .ok (.iadd, 1) := by decide +kernel
theorem dX4_countTriples_34 : decode cX4_countTriples 34 = .ok (.istore_n 2, 1) := by decide +kernel
theorem dX4_countTriples_35 : decode cX4_countTriples 35 = .ok (.iinc 3 1, 3) := by decide +kernel
theorem dX4_countTriples_38 : decode cX4_countTriples 38 = .ok (.goto (-34), 3) := by decide +kernel
theorem dX4_countTriples_41 : decode cX4_countTriples 41 = .ok (.iload_n 2, 1) := by decide +kernel
theorem dX4_countTriples_42 : decode cX4_countTriples 42 = .ok (.ireturn, 1) := by decide +kernel
def f_X4_countTriples_B4b (k4 : Int32 → Int32 → Int32 → Wd → Option Int32) (l1 : Int32) (l2 : Int32) (l3 : Int32) (w : Wd) : Option Int32 :=
  if (w.1 6 7) ≤ l3 then
    some l2
  else
    if ((l1 >>> (l3 &&& 31)) &&& 1) = 0 then
      k4 l1 l2 (l3 + 1) w
    else
      bnd (f_X4_moved l3 l1 1 w) fun x1 =>
      k4 l1 (l2 + (f_J6_bitCount_0f7a4 (x1 &&& l1))) (l3 + 1) w
def f_X4_countTriples_L4 (n : Nat) : Int32 → Int32 → Int32 → Wd → Option Int32 :=
  Nat.rec (fun _ _ _ _ => none) (fun _ k => f_X4_countTriples_B4b k) n
set_option maxHeartbeats 4000000 in
set_option maxRecDepth 100000 in
theorem t_X4_countTriples_L4 {G : GT} {d : Nat} {w : Wd} (hd : 2 ≤ d + 1)  : ∀ (n : Nat) (l1 : Int32) (l2 : Int32) (l3 : Int32) (r : Int32), f_X4_countTriples_L4 n l1 l2 l3 w = some r → U (vf G mX4_countTriples (d + 1)) 4 [some (.ref 6), some (.int l1), some (.int l2), some (.int l3)] [] w (some (.int r), 70, r0, w) := by
  intro n
  induction n with
  | zero => intro l1 l2 l3 r h; cases h
  | succ n h4 =>
    intro l1 l2 l3 r h
    have h : f_X4_countTriples_B4b (f_X4_countTriples_L4 n) l1 l2 l3 w = some r := h
    unfold f_X4_countTriples_B4b at h
    refine V.iload_n (pc := 4) dX4_countTriples_4 rfl ?_
    refine V.aload_n (pc := 5) dX4_countTriples_5 rfl ?_
    refine V.getI (pc := 6) dX4_countTriples_6 f_RX4_30 k_cl4 lx_6 ly_6 rb_4_7 ?_
    rcases ite_e h with ⟨c, h⟩ | ⟨c, h⟩
    · refine V.icmp_ge_t (t := 41) (pc := 9) dX4_countTriples_9 (by decide) c ?_
      refine V.iload_n (pc := 41) dX4_countTriples_41 rfl ?_
      obtain rfl := Option.some.inj h
      exact V.iret (pc := 42) dX4_countTriples_42 rfl (Nat.le_refl _) (Nat.le_refl _)
    · refine V.icmp_ge_f (t := 41) (pc := 9) dX4_countTriples_9 (by decide) c ?_
      refine V.iload_n (pc := 12) dX4_countTriples_12 rfl ?_
      refine V.iload_n (pc := 13) dX4_countTriples_13 rfl ?_
      refine V.ishr (pc := 14) dX4_countTriples_14 ?_
      refine V.iconst (pc := 15) dX4_countTriples_15 ic_1 ?_
      refine V.iand (pc := 16) dX4_countTriples_16 ?_
      rcases ite_e h with ⟨c, h⟩ | ⟨c, h⟩
      · refine V.if_eq_t (t := 35) (pc := 17) dX4_countTriples_17 (by decide) c ?_
        refine V.iinc (lv' := [some (.ref 6), some (.int l1), some (.int l2), some (.int (l3 + 1))]) (pc := 35) dX4_countTriples_35 (Nat.le_of_ble_eq_true rfl) rfl rfl (v := (l3 + 1)) (by rw [show Int32.ofInt 1 = 1 from by decide]) rfl ?_
        refine V.goto (t := 4) (pc := 38) dX4_countTriples_38 (by decide) ?_
        exact h4 l1 l2 (l3 + 1) _ h
      · refine V.if_eq_f (t := 35) (pc := 17) dX4_countTriples_17 (by decide) c ?_
        refine V.iload_n (pc := 20) dX4_countTriples_20 rfl ?_
        refine V.aload_n (pc := 21) dX4_countTriples_21 rfl ?_
        refine V.iload_n (pc := 22) dX4_countTriples_22 rfl ?_
        refine V.iload_n (pc := 23) dX4_countTriples_23 rfl ?_
        refine V.iconst (pc := 24) dX4_countTriples_24 ic_1 ?_
        obtain ⟨x1, ex1, h⟩ := bnd_e h
        refine U.callV (pc := 25) (As := [.int l3, .int l1, .int 1]) (st := [.int l2]) dX4_countTriples_25 l_RX4_80 (ok_X4_moved (by omega) l3 l1 1 ex1) lx_6 ly_6 cn_4 (Nat.le_of_ble_eq_true rfl) rfl rfl (Nat.le_of_ble_eq_true rfl) ?_
        refine V.iload_n (pc := 28) dX4_countTriples_28 rfl ?_
        refine V.iand (pc := 29) dX4_countTriples_29 ?_
        refine U.callS (pc := 30) (As := [.int (x1 &&& l1)]) (st := [.int l2]) dX4_countTriples_30 l_RX4_94 (ok_J6_bitCount_0f7a4 (by omega) (x1 &&& l1) ) (Nat.le_of_ble_eq_true rfl) rfl rfl (Nat.le_of_ble_eq_true rfl) ?_
        refine V.iadd (pc := 33) dX4_countTriples_33 ?_
        refine V.istore_n (lv' := [some (.ref 6), some (.int l1), some (.int (l2 + (f_J6_bitCount_0f7a4 (x1 &&& l1)))), some (.int l3)]) (pc := 34) dX4_countTriples_34 (Nat.le_of_ble_eq_true rfl) rfl rfl ?_
        refine V.iinc (lv' := [some (.ref 6), some (.int l1), some (.int (l2 + (f_J6_bitCount_0f7a4 (x1 &&& l1)))), some (.int (l3 + 1))]) (pc := 35) dX4_countTriples_35 (Nat.le_of_ble_eq_true rfl) rfl rfl (v := (l3 + 1)) (by rw [show Int32.ofInt 1 = 1 from by decide]) rfl ?_
        refine V.goto (t := 4) (pc := 38) dX4_countTriples_38 (by decide) ?_
        exact h4 l1 (l2 + (f_J6_bitCount_0f7a4 (x1 &&& l1))) (l3 + 1) _ h
def f_X4_countTriples (l1 : Int32) (w : Wd) : Option Int32 :=
  f_X4_countTriples_L4  FU l1 0 0 w
set_option maxHeartbeats 4000000 in
set_option maxRecDepth 100000 in
theorem ok_X4_countTriples {G : GT} {d : Nat} (hd : 2 ≤ d) {w : Wd} (l1 : Int32) {r : Int32} (h : f_X4_countTriples l1 w = some r) : uC G yX4_countTriples mX4_countTriples d [.ref 6, .int l1] w (some (.int r)) w := by
  obtain ⟨d, rfl⟩ : ∃ e, d = e + 1 := ⟨d - 1, by omega⟩
  unfold f_X4_countTriples at h
  refine uC_of (lv := [some (.ref 6), some (.int l1), none, none]) 2 pn_X4 ⟨rfl, rfl⟩ (Nat.le_of_ble_eq_true rfl) rfl ?_
  refine V.iconst (pc := 0) dX4_countTriples_0 ic_0 ?_
  refine V.istore_n (lv' := [some (.ref 6), some (.int l1), some (.int 0), none]) (pc := 1) dX4_countTriples_1 (Nat.le_of_ble_eq_true rfl) rfl rfl ?_
  refine V.iconst (pc := 2) dX4_countTriples_2 ic_0 ?_
  refine V.istore_n (lv' := [some (.ref 6), some (.int l1), some (.int 0), some (.int 0)]) (pc := 3) dX4_countTriples_3 (Nat.le_of_ble_eq_true rfl) rfl rfl ?_
  exact t_X4_countTriples_L4 hd FU l1 0 0 _ h
theorem dX11_triples_0 : decode cX11_triples 0 = .ok (.aload_n 0, 1) := by decide +kernel
theorem dX11_triples_1 : decode cX11_triples 1 = .ok (.getfield 28, 3) := by decide +kernel
theorem dX11_triples_4 : decode cX11_triples 4 = .ok (.iload_n 1, 1) := by decide +kernel
theorem dX11_triples_5 : decode cX11_triples 5 = .ok (.invokevirtual 118, 3) := by decide +kernel
theorem dX11_triples_8 : decode cX11_triples 8 = .ok (.ifCond .eq 14, 3) := by decide +kernel
theorem dX11_triples_11 : decode cX11_triples 11 = .ok (.aload_n 0, 1) := by decide +kernel
theorem dX11_triples_12 : decode cX11_triples 12 = .ok (.getfield 28, 3) := by decide +kernel
theorem dX11_triples_15 : decode cX11_triples 15 = .ok (.iload_n 1, 1) := by decide +kernel
theorem dX11_triples_16 : decode cX11_triples 16 = .ok (.invokevirtual 198, 3) := by decide +kernel
theorem dX11_triples_19 : decode cX11_triples 19 = .ok (.goto 4, 3) := by decide +kernel
theorem dX11_triples_22 : decode cX11_triples 22 = .ok (.iconst (-1), 1) := by decide +kernel
theorem dX11_triples_23 : decode cX11_triples 23 = .ok (.ireturn, 1) := by decide +kernel
def f_X11_triples (l1 : Int32) (w : Wd) : Option Int32 :=
  if (f_X4_holdsSet l1 w) = 0 then
    some (-1)
  else
    bnd (f_X4_countTriples l1 w) fun x1 =>
    some x1
set_option maxHeartbeats 4000000 in
set_option maxRecDepth 100000 in
theorem ok_X11_triples {G : GT} {d : Nat} (hd : 3 ≤ d) {w : Wd} (l1 : Int32) {r : Int32} (h : f_X11_triples l1 w = some r) : uC G yX11_triples mX11_triples d [.ref 0, .int l1] w (some (.int r)) w := by
  obtain ⟨d, rfl⟩ : ∃ e, d = e + 1 := ⟨d - 1, by omega⟩
  unfold f_X11_triples at h
  refine uC_of (lv := [some (.ref 0), some (.int l1)]) 0 pn_X11 ⟨rfl, rfl⟩ (Nat.le_of_ble_eq_true rfl) rfl ?_
  refine V.aload_n (pc := 0) dX11_triples_0 rfl ?_
  refine V.getR (t := 6) (pc := 1) dX11_triples_1 f_RX11_28 k_cl11 lx_0 ly_0 rb_11_2 rr_0_2 ?_
  refine V.iload_n (pc := 4) dX11_triples_4 rfl ?_
  refine U.callV (pc := 5) (As := [.int l1]) (st := []) dX11_triples_5 l_RX11_118 (ok_X4_holdsSet (by omega) l1 ) lx_6 ly_6 cn_4 (Nat.le_of_ble_eq_true rfl) rfl rfl (Nat.le_of_ble_eq_true rfl) ?_
  rcases ite_e h with ⟨c, h⟩ | ⟨c, h⟩
  · refine V.if_eq_t (t := 22) (pc := 8) dX11_triples_8 (by decide) c ?_
    refine V.iconst (pc := 22) dX11_triples_22 ic_m1 ?_
    obtain rfl := Option.some.inj h
    exact V.iret (pc := 23) dX11_triples_23 rfl (Nat.le_refl _) (Nat.le_refl _)
  · refine V.if_eq_f (t := 22) (pc := 8) dX11_triples_8 (by decide) c ?_
    refine V.aload_n (pc := 11) dX11_triples_11 rfl ?_
    refine V.getR (t := 6) (pc := 12) dX11_triples_12 f_RX11_28 k_cl11 lx_0 ly_0 rb_11_2 rr_0_2 ?_
    refine V.iload_n (pc := 15) dX11_triples_15 rfl ?_
    obtain ⟨x1, ex1, h⟩ := bnd_e h
    refine U.callV (pc := 16) (As := [.int l1]) (st := []) dX11_triples_16 l_RX11_198 (ok_X4_countTriples (by omega) l1 ex1) lx_6 ly_6 cn_4 (Nat.le_of_ble_eq_true rfl) rfl rfl (Nat.le_of_ble_eq_true rfl) ?_
    refine V.goto (t := 23) (pc := 19) dX11_triples_19 (by decide) ?_
    obtain rfl := Option.some.inj h
    exact V.iret (pc := 23) dX11_triples_23 rfl (Nat.le_refl _) (Nat.le_refl _)
theorem dX12_triplesOf_0 : decode cX12_triplesOf 0 = .ok (.iconst 0, 1) := by decide +kernel
theorem dX12_triplesOf_1 : decode cX12_triplesOf 1 = .ok (.istore_n 2, 1) := by decide +kernel
theorem dX12_triplesOf_2 : decode cX12_triplesOf 2 = .ok (.iconst 0, 1) := by decide +kernel
theorem dX12_triplesOf_3 : decode cX12_triplesOf 3 = .ok (.istore_n 3, 1) := by decide +kernel
theorem dX12_triplesOf_4 : decode cX12_triplesOf 4 = .ok (.iload_n 3, 1) := by decide +kernel
theorem dX12_triplesOf_5 : decode cX12_triplesOf 5 = .ok (.aload_n 0, 1) := by decide +kernel
theorem dX12_triplesOf_6 : decode cX12_triplesOf 6 = .ok (.getfield 92, 3) := by decide +kernel
theorem dX12_triplesOf_9 : decode cX12_triplesOf 9 = .ok (.if_icmp .ge 61, 3) := by decide +kernel
theorem dX12_triplesOf_12 : decode cX12_triplesOf 12 = .ok (.iconst 0, 1) := by decide +kernel
theorem dX12_triplesOf_13 : decode cX12_triplesOf 13 = .ok (.istore 4, 2) := by decide +kernel
theorem dX12_triplesOf_15 : decode cX12_triplesOf 15 = .ok (.iload 4, 2) := by decide +kernel
theorem dX12_triplesOf_17 : decode cX12_triplesOf 17 = .ok (.aload_n 0, 1) := by decide +kernel
theorem dX12_triplesOf_18 : decode cX12_triplesOf 18 = .ok (.getfield 92, 3) := by decide +kernel
theorem dX12_triplesOf_21 : decode cX12_triplesOf 21 = .ok (.if_icmp .ge 43, 3) := by decide +kernel
theorem dX12_triplesOf_24 : decode cX12_triplesOf 24 = .ok (.iload_n 1, 1) := by decide +kernel
theorem dX12_triplesOf_25 : decode cX12_triplesOf 25 = .ok (.iload_n 3, 1) := by decide +kernel
theorem dX12_triplesOf_26 : decode cX12_triplesOf 26 = .ok (.invokestatic 128, 3) := by decide +kernel
theorem dX12_triplesOf_29 : decode cX12_triplesOf 29 = .ok (.ifCond .eq 29, 3) := by decide +kernel
theorem dX12_triplesOf_32 : decode cX12_triplesOf 32 = .ok (.iload_n 1, 1) := by decide +kernel
theorem dX12_triplesOf_33 : decode cX12_triplesOf 33 = .ok (.iload 4, 2) := by decide +kernel
theorem dX12_triplesOf_35 : decode cX12_triplesOf 35 = .ok (.invokestatic 128, 3) := by decide +kernel
theorem dX12_triplesOf_38 : decode cX12_triplesOf 38 = .ok (.ifCond .eq 20, 3) := by decide +kernel
theorem dX12_triplesOf_41 : decode cX12_triplesOf 41 = .ok (.iload_n 1, 1) := by decide +kernel
theorem dX12_triplesOf_42 : decode cX12_triplesOf 42 = .ok (.aload_n 0, 1) := by decide +kernel
theorem dX12_triplesOf_43 : decode cX12_triplesOf 43 = .ok (.iload_n 3, 1) := by decide +kernel
theorem dX12_triplesOf_44 : decode cX12_triplesOf 44 = .ok (.iload 4, 2) := by decide +kernel
theorem dX12_triplesOf_46 : decode cX12_triplesOf 46 = .ok (.invokevirtual 119, 3) := by decide +kernel
theorem dX12_triplesOf_49 : decode cX12_triplesOf 49 = .ok (.invokestatic 128, 3) := by decide +kernel
theorem dX12_triplesOf_52 : decode cX12_triplesOf 52 = .ok (.ifCond .eq 6, 3) := by decide +kernel
theorem dX12_triplesOf_55 : decode cX12_triplesOf 55 = .ok (.iinc 2 1, 3) := by decide +kernel
theorem dX12_triplesOf_58 : decode cX12_triplesOf 58 = .ok (.iinc 4 1, 3) := by decide +kernel
theorem dX12_triplesOf_61 : decode cX12_triplesOf 61 = .ok (.goto (-46), 3) := by decide +kernel
theorem dX12_triplesOf_64 : decode cX12_triplesOf 64 = .ok (.iinc 3 1, 3) := by decide +kernel
theorem dX12_triplesOf_67 : decode cX12_triplesOf 67 = .ok (.goto (-63), 3) := by decide +kernel
theorem dX12_triplesOf_70 : decode cX12_triplesOf 70 = .ok (.iload_n 2, 1) := by decide +kernel
theorem dX12_triplesOf_71 : decode cX12_triplesOf 71 = .ok (.ireturn, 1) := by decide +kernel
def f_X12_triplesOf_B15b (k4 : Int32 → Int32 → Int32 → Wd → Option Int32) (k15 : Int32 → Int32 → Int32 → Int32 → Wd → Option Int32) (l1 : Int32) (l2 : Int32) (l3 : Int32) (l4 : Int32) (w : Wd) : Option Int32 :=
  if (w.1 44 1) ≤ l4 then
    k4 l1 l2 (l3 + 1) w
  else
    if (f_X12_has l1 l3) = 0 then
      k15 l1 l2 l3 (l4 + 1) w
    else
      if (f_X12_has l1 l4) = 0 then
        k15 l1 l2 l3 (l4 + 1) w
      else
        bnd (f_X12_product0 l3 l4 w) fun x1 =>
        if (f_X12_has l1 x1) = 0 then
          k15 l1 l2 l3 (l4 + 1) w
        else
          k15 l1 (l2 + 1) l3 (l4 + 1) w
def f_X12_triplesOf_L15 (k4 : Int32 → Int32 → Int32 → Wd → Option Int32) (n : Nat) : Int32 → Int32 → Int32 → Int32 → Wd → Option Int32 :=
  Nat.rec (fun _ _ _ _ _ => none) (fun _ k => f_X12_triplesOf_B15b k4 k) n
set_option maxHeartbeats 4000000 in
set_option maxRecDepth 100000 in
theorem t_X12_triplesOf_L15 {G : GT} {d : Nat} {k4 : Int32 → Int32 → Int32 → Wd → Option Int32} {w : Wd} (hd : 1 ≤ d + 1) (h4 : ∀ (l1 : Int32) (l2 : Int32) (l3 : Int32) (r : Int32), k4 l1 l2 l3 w = some r → U (vf G mX12_triplesOf (d + 1)) 4 [some (.ref 44), some (.int l1), some (.int l2), some (.int l3), none] [] w (some (.int r), 70, r0, w)) : ∀ (n : Nat) (l1 : Int32) (l2 : Int32) (l3 : Int32) (l4 : Int32) (r : Int32), f_X12_triplesOf_L15 k4 n l1 l2 l3 l4 w = some r → U (vf G mX12_triplesOf (d + 1)) 15 [some (.ref 44), some (.int l1), some (.int l2), some (.int l3), some (.int l4)] [] w (some (.int r), 70, r0, w) := by
  intro n
  induction n with
  | zero => intro l1 l2 l3 l4 r h; cases h
  | succ n h15 =>
    intro l1 l2 l3 l4 r h
    have h : f_X12_triplesOf_B15b k4 (f_X12_triplesOf_L15 k4 n) l1 l2 l3 l4 w = some r := h
    unfold f_X12_triplesOf_B15b at h
    refine V.iload (pc := 15) dX12_triplesOf_15 rfl ?_
    refine V.aload_n (pc := 17) dX12_triplesOf_17 rfl ?_
    refine V.getI (pc := 18) dX12_triplesOf_18 f_RX12_92 k_cl12 lx_44 ly_44 rb_12_1 ?_
    rcases ite_e h with ⟨c, h⟩ | ⟨c, h⟩
    · refine V.icmp_ge_t (t := 64) (pc := 21) dX12_triplesOf_21 (by decide) c ?_
      refine V.iinc (lv' := [some (.ref 44), some (.int l1), some (.int l2), some (.int (l3 + 1)), some (.int l4)]) (pc := 64) dX12_triplesOf_64 (Nat.le_of_ble_eq_true rfl) rfl rfl (v := (l3 + 1)) (by rw [show Int32.ofInt 1 = 1 from by decide]) rfl ?_
      refine V.goto (t := 4) (pc := 67) dX12_triplesOf_67 (by decide) ?_
      refine V.weak (lv' := [some (.ref 44), some (.int l1), some (.int l2), some (.int (l3 + 1)), none]) (And.intro rfl (And.intro rfl (And.intro rfl (And.intro rfl trivial)))) ?_
      exact h4 l1 l2 (l3 + 1) _ h
    · refine V.icmp_ge_f (t := 64) (pc := 21) dX12_triplesOf_21 (by decide) c ?_
      refine V.iload_n (pc := 24) dX12_triplesOf_24 rfl ?_
      refine V.iload_n (pc := 25) dX12_triplesOf_25 rfl ?_
      refine U.callS (pc := 26) (As := [.int l1, .int l3]) (st := []) dX12_triplesOf_26 l_RX12_128 (ok_X12_has (by omega) l1 l3 ) (Nat.le_of_ble_eq_true rfl) rfl rfl (Nat.le_of_ble_eq_true rfl) ?_
      rcases ite_e h with ⟨c, h⟩ | ⟨c, h⟩
      · refine V.if_eq_t (t := 58) (pc := 29) dX12_triplesOf_29 (by decide) c ?_
        refine V.iinc (lv' := [some (.ref 44), some (.int l1), some (.int l2), some (.int l3), some (.int (l4 + 1))]) (pc := 58) dX12_triplesOf_58 (Nat.le_of_ble_eq_true rfl) rfl rfl (v := (l4 + 1)) (by rw [show Int32.ofInt 1 = 1 from by decide]) rfl ?_
        refine V.goto (t := 15) (pc := 61) dX12_triplesOf_61 (by decide) ?_
        exact h15 l1 l2 l3 (l4 + 1) _ h
      · refine V.if_eq_f (t := 58) (pc := 29) dX12_triplesOf_29 (by decide) c ?_
        refine V.iload_n (pc := 32) dX12_triplesOf_32 rfl ?_
        refine V.iload (pc := 33) dX12_triplesOf_33 rfl ?_
        refine U.callS (pc := 35) (As := [.int l1, .int l4]) (st := []) dX12_triplesOf_35 l_RX12_128 (ok_X12_has (by omega) l1 l4 ) (Nat.le_of_ble_eq_true rfl) rfl rfl (Nat.le_of_ble_eq_true rfl) ?_
        rcases ite_e h with ⟨c, h⟩ | ⟨c, h⟩
        · refine V.if_eq_t (t := 58) (pc := 38) dX12_triplesOf_38 (by decide) c ?_
          refine V.iinc (lv' := [some (.ref 44), some (.int l1), some (.int l2), some (.int l3), some (.int (l4 + 1))]) (pc := 58) dX12_triplesOf_58 (Nat.le_of_ble_eq_true rfl) rfl rfl (v := (l4 + 1)) (by rw [show Int32.ofInt 1 = 1 from by decide]) rfl ?_
          refine V.goto (t := 15) (pc := 61) dX12_triplesOf_61 (by decide) ?_
          exact h15 l1 l2 l3 (l4 + 1) _ h
        · refine V.if_eq_f (t := 58) (pc := 38) dX12_triplesOf_38 (by decide) c ?_
          refine V.iload_n (pc := 41) dX12_triplesOf_41 rfl ?_
          refine V.aload_n (pc := 42) dX12_triplesOf_42 rfl ?_
          refine V.iload_n (pc := 43) dX12_triplesOf_43 rfl ?_
          refine V.iload (pc := 44) dX12_triplesOf_44 rfl ?_
          obtain ⟨x1, ex1, h⟩ := bnd_e h
          refine U.callV (pc := 46) (As := [.int l3, .int l4]) (st := [.int l1]) dX12_triplesOf_46 l_RX12_119 (ok_X12_product0 (by omega) l3 l4 ex1) lx_44 ly_44 cn_12 (Nat.le_of_ble_eq_true rfl) rfl rfl (Nat.le_of_ble_eq_true rfl) ?_
          refine U.callS (pc := 49) (As := [.int l1, .int x1]) (st := []) dX12_triplesOf_49 l_RX12_128 (ok_X12_has (by omega) l1 x1 ) (Nat.le_of_ble_eq_true rfl) rfl rfl (Nat.le_of_ble_eq_true rfl) ?_
          rcases ite_e h with ⟨c, h⟩ | ⟨c, h⟩
          · refine V.if_eq_t (t := 58) (pc := 52) dX12_triplesOf_52 (by decide) c ?_
            refine V.iinc (lv' := [some (.ref 44), some (.int l1), some (.int l2), some (.int l3), some (.int (l4 + 1))]) (pc := 58) dX12_triplesOf_58 (Nat.le_of_ble_eq_true rfl) rfl rfl (v := (l4 + 1)) (by rw [show Int32.ofInt 1 = 1 from by decide]) rfl ?_
            refine V.goto (t := 15) (pc := 61) dX12_triplesOf_61 (by decide) ?_
            exact h15 l1 l2 l3 (l4 + 1) _ h
          · refine V.if_eq_f (t := 58) (pc := 52) dX12_triplesOf_52 (by decide) c ?_
            refine V.iinc (lv' := [some (.ref 44), some (.int l1), some (.int (l2 + 1)), some (.int l3), some (.int l4)]) (pc := 55) dX12_triplesOf_55 (Nat.le_of_ble_eq_true rfl) rfl rfl (v := (l2 + 1)) (by rw [show Int32.ofInt 1 = 1 from by decide]) rfl ?_
            refine V.iinc (lv' := [some (.ref 44), some (.int l1), some (.int (l2 + 1)), some (.int l3), some (.int (l4 + 1))]) (pc := 58) dX12_triplesOf_58 (Nat.le_of_ble_eq_true rfl) rfl rfl (v := (l4 + 1)) (by rw [show Int32.ofInt 1 = 1 from by decide]) rfl ?_
            refine V.goto (t := 15) (pc := 61) dX12_triplesOf_61 (by decide) ?_
            exact h15 l1 (l2 + 1) l3 (l4 + 1) _ h
def f_X12_triplesOf_B4b (k4 : Int32 → Int32 → Int32 → Wd → Option Int32) (l1 : Int32) (l2 : Int32) (l3 : Int32) (w : Wd) : Option Int32 :=
  if (w.1 44 1) ≤ l3 then
    some l2
  else
    f_X12_triplesOf_L15 k4 FU l1 l2 l3 0 w
def f_X12_triplesOf_L4 (n : Nat) : Int32 → Int32 → Int32 → Wd → Option Int32 :=
  Nat.rec (fun _ _ _ _ => none) (fun _ k => f_X12_triplesOf_B4b k) n
set_option maxHeartbeats 4000000 in
set_option maxRecDepth 100000 in
theorem t_X12_triplesOf_L4 {G : GT} {d : Nat} {w : Wd} (hd : 1 ≤ d + 1)  : ∀ (n : Nat) (l1 : Int32) (l2 : Int32) (l3 : Int32) (r : Int32), f_X12_triplesOf_L4 n l1 l2 l3 w = some r → U (vf G mX12_triplesOf (d + 1)) 4 [some (.ref 44), some (.int l1), some (.int l2), some (.int l3), none] [] w (some (.int r), 70, r0, w) := by
  intro n
  induction n with
  | zero => intro l1 l2 l3 r h; cases h
  | succ n h4 =>
    intro l1 l2 l3 r h
    have h : f_X12_triplesOf_B4b (f_X12_triplesOf_L4 n) l1 l2 l3 w = some r := h
    unfold f_X12_triplesOf_B4b at h
    refine V.iload_n (pc := 4) dX12_triplesOf_4 rfl ?_
    refine V.aload_n (pc := 5) dX12_triplesOf_5 rfl ?_
    refine V.getI (pc := 6) dX12_triplesOf_6 f_RX12_92 k_cl12 lx_44 ly_44 rb_12_1 ?_
    rcases ite_e h with ⟨c, h⟩ | ⟨c, h⟩
    · refine V.icmp_ge_t (t := 70) (pc := 9) dX12_triplesOf_9 (by decide) c ?_
      refine V.iload_n (pc := 70) dX12_triplesOf_70 rfl ?_
      obtain rfl := Option.some.inj h
      exact V.iret (pc := 71) dX12_triplesOf_71 rfl (Nat.le_refl _) (Nat.le_refl _)
    · refine V.icmp_ge_f (t := 70) (pc := 9) dX12_triplesOf_9 (by decide) c ?_
      refine V.iconst (pc := 12) dX12_triplesOf_12 ic_0 ?_
      refine V.istore (lv' := [some (.ref 44), some (.int l1), some (.int l2), some (.int l3), some (.int 0)]) (pc := 13) dX12_triplesOf_13 (Nat.le_of_ble_eq_true rfl) rfl rfl ?_
      exact t_X12_triplesOf_L15 hd h4 FU l1 l2 l3 0 _ h
def f_X12_triplesOf (l1 : Int32) (w : Wd) : Option Int32 :=
  f_X12_triplesOf_L4  FU l1 0 0 w
set_option maxHeartbeats 4000000 in
set_option maxRecDepth 100000 in
theorem ok_X12_triplesOf {G : GT} {d : Nat} (hd : 1 ≤ d) {w : Wd} (l1 : Int32) {r : Int32} (h : f_X12_triplesOf l1 w = some r) : uC G yX12_triplesOf mX12_triplesOf d [.ref 44, .int l1] w (some (.int r)) w := by
  obtain ⟨d, rfl⟩ : ∃ e, d = e + 1 := ⟨d - 1, by omega⟩
  unfold f_X12_triplesOf at h
  refine uC_of (lv := [some (.ref 44), some (.int l1), none, none, none]) 3 pn_X12 ⟨rfl, rfl⟩ (Nat.le_of_ble_eq_true rfl) rfl ?_
  refine V.iconst (pc := 0) dX12_triplesOf_0 ic_0 ?_
  refine V.istore_n (lv' := [some (.ref 44), some (.int l1), some (.int 0), none, none]) (pc := 1) dX12_triplesOf_1 (Nat.le_of_ble_eq_true rfl) rfl rfl ?_
  refine V.iconst (pc := 2) dX12_triplesOf_2 ic_0 ?_
  refine V.istore_n (lv' := [some (.ref 44), some (.int l1), some (.int 0), some (.int 0), none]) (pc := 3) dX12_triplesOf_3 (Nat.le_of_ble_eq_true rfl) rfl rfl ?_
  exact t_X12_triplesOf_L4 hd FU l1 0 0 _ h
theorem dX12_triples_0 : decode cX12_triples 0 = .ok (.aload_n 0, 1) := by decide +kernel
theorem dX12_triples_1 : decode cX12_triples 1 = .ok (.iload_n 1, 1) := by decide +kernel
theorem dX12_triples_2 : decode cX12_triples 2 = .ok (.invokevirtual 169, 3) := by decide +kernel
theorem dX12_triples_5 : decode cX12_triples 5 = .ok (.ifCond .eq 11, 3) := by decide +kernel
theorem dX12_triples_8 : decode cX12_triples 8 = .ok (.aload_n 0, 1) := by decide +kernel
theorem dX12_triples_9 : decode cX12_triples 9 = .ok (.iload_n 1, 1) := by decide +kernel
theorem dX12_triples_10 : decode cX12_triples 10 = .ok (.invokevirtual 203, 3) := by decide +kernel
theorem dX12_triples_13 : decode cX12_triples 13 = .ok (.goto 4, 3) := by decide +kernel
theorem dX12_triples_16 : decode cX12_triples 16 = .ok (.iconst (-1), 1) := by decide +kernel
theorem dX12_triples_17 : decode cX12_triples 17 = .ok (.ireturn, 1) := by decide +kernel
def f_X12_triples (l1 : Int32) (w : Wd) : Option Int32 :=
  if (f_X12_isSet l1 w) = 0 then
    some (-1)
  else
    bnd (f_X12_triplesOf l1 w) fun x1 =>
    some x1
set_option maxHeartbeats 4000000 in
set_option maxRecDepth 100000 in
theorem ok_X12_triples {G : GT} {d : Nat} (hd : 2 ≤ d) {w : Wd} (l1 : Int32) {r : Int32} (h : f_X12_triples l1 w = some r) : uC G yX12_triples mX12_triples d [.ref 44, .int l1] w (some (.int r)) w := by
  obtain ⟨d, rfl⟩ : ∃ e, d = e + 1 := ⟨d - 1, by omega⟩
  unfold f_X12_triples at h
  refine uC_of (lv := [some (.ref 44), some (.int l1)]) 0 pn_X12 ⟨rfl, rfl⟩ (Nat.le_of_ble_eq_true rfl) rfl ?_
  refine V.aload_n (pc := 0) dX12_triples_0 rfl ?_
  refine V.iload_n (pc := 1) dX12_triples_1 rfl ?_
  refine U.callV (pc := 2) (As := [.int l1]) (st := []) dX12_triples_2 l_RX12_169 (ok_X12_isSet (by omega) l1 ) lx_44 ly_44 cn_12 (Nat.le_of_ble_eq_true rfl) rfl rfl (Nat.le_of_ble_eq_true rfl) ?_
  rcases ite_e h with ⟨c, h⟩ | ⟨c, h⟩
  · refine V.if_eq_t (t := 16) (pc := 5) dX12_triples_5 (by decide) c ?_
    refine V.iconst (pc := 16) dX12_triples_16 ic_m1 ?_
    obtain rfl := Option.some.inj h
    exact V.iret (pc := 17) dX12_triples_17 rfl (Nat.le_refl _) (Nat.le_refl _)
  · refine V.if_eq_f (t := 16) (pc := 5) dX12_triples_5 (by decide) c ?_
    refine V.aload_n (pc := 8) dX12_triples_8 rfl ?_
    refine V.iload_n (pc := 9) dX12_triples_9 rfl ?_
    obtain ⟨x1, ex1, h⟩ := bnd_e h
    refine U.callV (pc := 10) (As := [.int l1]) (st := []) dX12_triples_10 l_RX12_203 (ok_X12_triplesOf (by omega) l1 ex1) lx_44 ly_44 cn_12 (Nat.le_of_ble_eq_true rfl) rfl rfl (Nat.le_of_ble_eq_true rfl) ?_
    refine V.goto (t := 17) (pc := 13) dX12_triples_13 (by decide) ?_
    obtain rfl := Option.some.inj h
    exact V.iret (pc := 17) dX12_triples_17 rfl (Nat.le_refl _) (Nat.le_refl _)
theorem dX11_triple_0 : decode cX11_triple 0 = .ok (.aload_n 0, 1) := by decide +kernel
theorem dX11_triple_1 : decode cX11_triple 1 = .ok (.getfield 28, 3) := by decide +kernel
theorem dX11_triple_4 : decode cX11_triple 4 = .ok (.iload_n 1, 1) := by decide +kernel
theorem dX11_triple_5 : decode cX11_triple 5 = .ok (.invokevirtual 118, 3) := by decide +kernel
theorem dX11_triple_8 : decode cX11_triple 8 = .ok (.ifCond .eq 12, 3) := by decide +kernel
theorem dX11_triple_11 : decode cX11_triple 11 = .ok (.iload_n 2, 1) := by decide +kernel
theorem dX11_triple_12 : decode cX11_triple 12 = .ok (.ifCond .lt 8, 3) := by decide +kernel
theorem dX11_triple_15 : decode cX11_triple 15 = .ok (.iload_n 2, 1) := by decide +kernel
theorem dX11_triple_16 : decode cX11_triple 16 = .ok (.iconst 2, 1) := by decide +kernel
theorem dX11_triple_17 : decode cX11_triple 17 = .ok (.if_icmp .le 5, 3) := by decide +kernel
theorem dX11_triple_20 : decode cX11_triple 20 = .ok (.iconst (-1), 1) := by decide +kernel
theorem dX11_triple_21 : decode cX11_triple 21 = .ok (.ireturn, 1) := by decide +kernel
theorem dX11_triple_22 : decode cX11_triple 22 = .ok (.iconst 0, 1) := by decide +kernel
theorem dX11_triple_23 : decode cX11_triple 23 = .ok (.istore_n 3, 1) := by decide +kernel
theorem dX11_triple_24 : decode cX11_triple 24 = .ok (.iload_n 3, 1) := by decide +kernel
theorem dX11_triple_25 : decode cX11_triple 25 = .ok (.aload_n 0, 1) := by decide +kernel
theorem dX11_triple_26 : decode cX11_triple 26 = .ok (.getfield 28, 3) := by decide +kernel
theorem dX11_triple_29 : decode cX11_triple 29 = .ok (.getfield 104, 3) := by decide +kernel
theorem dX11_triple_32 : decode cX11_triple 32 = .ok (.if_icmp .ge 73, 3) := by decide +kernel
theorem dX11_triple_35 : decode cX11_triple 35 = .ok (.iconst 0, 1) := by decide +kernel
theorem dX11_triple_36 : decode cX11_triple 36 = .ok (.istore 4, 2) := by decide +kernel
theorem dX11_triple_38 : decode cX11_triple 38 = .ok (.iload 4, 2) := by decide +kernel
theorem dX11_triple_40 : decode cX11_triple 40 = .ok (.aload_n 0, 1) := by decide +kernel
theorem dX11_triple_41 : decode cX11_triple 41 = .ok (.getfield 28, 3) := by decide +kernel
theorem dX11_triple_44 : decode cX11_triple 44 = .ok (.getfield 104, 3) := by decide +kernel
theorem dX11_triple_47 : decode cX11_triple 47 = .ok (.if_icmp .ge 52, 3) := by decide +kernel
theorem dX11_triple_50 : decode cX11_triple 50 = .ok (.aload_n 0, 1) := by decide +kernel
theorem dX11_triple_51 : decode cX11_triple 51 = .ok (.getfield 28, 3) := by decide +kernel
theorem dX11_triple_54 : decode cX11_triple 54 = .ok (.iload_n 1, 1) := by decide +kernel
theorem dX11_triple_55 : decode cX11_triple 55 = .ok (.iload_n 3, 1) := by decide +kernel
theorem dX11_triple_56 : decode cX11_triple 56 = .ok (.iload 4, 2) := by decide +kernel
theorem dX11_triple_58 : decode cX11_triple 58 = .ok (.invokevirtual 201, 3) := by decide +kernel
theorem dX11_triple_61 : decode cX11_triple 61 = .ok (.ifCond .eq 32, 3) := by decide +kernel
theorem dX11_triple_64 : decode cX11_triple 64 = .ok (.iload_n 2, 1) := by decide +kernel
theorem dX11_triple_65 : decode cX11_triple 65 = .ok (.ifCond .ne 7, 3) := by decide +kernel
theorem dX11_triple_68 : decode cX11_triple 68 = .ok (.iload_n 3, 1) := by decide +kernel
theorem dX11_triple_69 : decode cX11_triple 69 = .ok (.goto 23, 3) := by decide +kernel
theorem dX11_triple_72 : decode cX11_triple 72 = .ok (.iload_n 2, 1) := by decide +kernel
theorem dX11_triple_73 : decode cX11_triple 73 = .ok (.iconst 1, 1) := by decide +kernel
theorem dX11_triple_74 : decode cX11_triple 74 = .ok (.if_icmp .ne 8, 3) := by decide +kernel
theorem dX11_triple_77 : decode cX11_triple 77 = .ok (.iload 4, 2) := by decide +kernel
theorem dX11_triple_79 : decode cX11_triple 79 = .ok (.goto 13, 3) := by decide +kernel
theorem dX11_triple_82 : decode cX11_triple 82 = .ok (.aload_n 0, 1) := by decide +kernel
theorem dX11_triple_83 : decode cX11_triple 83 = .ok (.getfield 28, 3) := by decide +kernel
theorem dX11_triple_86 : decode cX11_triple 86 = .ok (.iload_n 3, 1) := by decide +kernel
theorem dX11_triple_87 : decode cX11_triple 87 = .ok (.iload 4, 2) := by decide +kernel
theorem dX11_triple_89 : decode cX11_triple 89 = .ok (.invokevirtual 159, 3) := by decide +kernel
theorem dX11_triple_92 : decode cX11_triple 92 = .ok (.ireturn, 1) := by decide +kernel
theorem dX11_triple_93 : decode cX11_triple 93 = .ok (.iinc 4 1, 3) := by decide +kernel
theorem dX11_triple_96 : decode cX11_triple 96 = .ok (.goto (-58), 3) := by decide +kernel
theorem dX11_triple_99 : decode cX11_triple 99 = .ok (.iinc 3 1, 3) := by decide +kernel
theorem dX11_triple_102 : decode cX11_triple 102 = .ok (.goto (-78), 3) := by decide +kernel
theorem dX11_triple_105 : decode cX11_triple 105 = .ok (.bipush (-2), 2) := by decide +kernel
theorem dX11_triple_107 : decode cX11_triple 107 = .ok (.ireturn, 1) := by decide +kernel
def f_X11_triple_B38b (k24 : Int32 → Int32 → Int32 → Wd → Option Int32) (k38 : Int32 → Int32 → Int32 → Int32 → Wd → Option Int32) (l1 : Int32) (l2 : Int32) (l3 : Int32) (l4 : Int32) (w : Wd) : Option Int32 :=
  if (w.1 6 7) ≤ l4 then
    k24 l1 l2 (l3 + 1) w
  else
    bnd (f_X4_isTriple l1 l3 l4 w) fun x1 =>
    if x1 = 0 then
      k38 l1 l2 l3 (l4 + 1) w
    else
      if l2 = 0 then
        some l3
      else
        if l2 = 1 then
          some l4
        else
          bnd (f_X4_times l3 l4 w) fun x2 =>
          some x2
def f_X11_triple_L38 (k24 : Int32 → Int32 → Int32 → Wd → Option Int32) (n : Nat) : Int32 → Int32 → Int32 → Int32 → Wd → Option Int32 :=
  Nat.rec (fun _ _ _ _ _ => none) (fun _ k => f_X11_triple_B38b k24 k) n
set_option maxHeartbeats 4000000 in
set_option maxRecDepth 100000 in
theorem t_X11_triple_L38 {G : GT} {d : Nat} {k24 : Int32 → Int32 → Int32 → Wd → Option Int32} {w : Wd} (hd : 2 ≤ d + 1) (h24 : ∀ (l1 : Int32) (l2 : Int32) (l3 : Int32) (r : Int32), k24 l1 l2 l3 w = some r → U (vf G mX11_triple (d + 1)) 24 [some (.ref 0), some (.int l1), some (.int l2), some (.int l3), none] [] w (some (.int r), 70, r0, w)) : ∀ (n : Nat) (l1 : Int32) (l2 : Int32) (l3 : Int32) (l4 : Int32) (r : Int32), f_X11_triple_L38 k24 n l1 l2 l3 l4 w = some r → U (vf G mX11_triple (d + 1)) 38 [some (.ref 0), some (.int l1), some (.int l2), some (.int l3), some (.int l4)] [] w (some (.int r), 70, r0, w) := by
  intro n
  induction n with
  | zero => intro l1 l2 l3 l4 r h; cases h
  | succ n h38 =>
    intro l1 l2 l3 l4 r h
    have h : f_X11_triple_B38b k24 (f_X11_triple_L38 k24 n) l1 l2 l3 l4 w = some r := h
    unfold f_X11_triple_B38b at h
    refine V.iload (pc := 38) dX11_triple_38 rfl ?_
    refine V.aload_n (pc := 40) dX11_triple_40 rfl ?_
    refine V.getR (t := 6) (pc := 41) dX11_triple_41 f_RX11_28 k_cl11 lx_0 ly_0 rb_11_2 rr_0_2 ?_
    refine V.getI (pc := 44) dX11_triple_44 f_RX11_104 k_cl4 lx_6 ly_6 rb_4_7 ?_
    rcases ite_e h with ⟨c, h⟩ | ⟨c, h⟩
    · refine V.icmp_ge_t (t := 99) (pc := 47) dX11_triple_47 (by decide) c ?_
      refine V.iinc (lv' := [some (.ref 0), some (.int l1), some (.int l2), some (.int (l3 + 1)), some (.int l4)]) (pc := 99) dX11_triple_99 (Nat.le_of_ble_eq_true rfl) rfl rfl (v := (l3 + 1)) (by rw [show Int32.ofInt 1 = 1 from by decide]) rfl ?_
      refine V.goto (t := 24) (pc := 102) dX11_triple_102 (by decide) ?_
      refine V.weak (lv' := [some (.ref 0), some (.int l1), some (.int l2), some (.int (l3 + 1)), none]) (And.intro rfl (And.intro rfl (And.intro rfl (And.intro rfl trivial)))) ?_
      exact h24 l1 l2 (l3 + 1) _ h
    · refine V.icmp_ge_f (t := 99) (pc := 47) dX11_triple_47 (by decide) c ?_
      refine V.aload_n (pc := 50) dX11_triple_50 rfl ?_
      refine V.getR (t := 6) (pc := 51) dX11_triple_51 f_RX11_28 k_cl11 lx_0 ly_0 rb_11_2 rr_0_2 ?_
      refine V.iload_n (pc := 54) dX11_triple_54 rfl ?_
      refine V.iload_n (pc := 55) dX11_triple_55 rfl ?_
      refine V.iload (pc := 56) dX11_triple_56 rfl ?_
      obtain ⟨x1, ex1, h⟩ := bnd_e h
      refine U.callV (pc := 58) (As := [.int l1, .int l3, .int l4]) (st := []) dX11_triple_58 l_RX11_201 (ok_X4_isTriple (by omega) l1 l3 l4 ex1) lx_6 ly_6 cn_4 (Nat.le_of_ble_eq_true rfl) rfl rfl (Nat.le_of_ble_eq_true rfl) ?_
      rcases ite_e h with ⟨c, h⟩ | ⟨c, h⟩
      · refine V.if_eq_t (t := 93) (pc := 61) dX11_triple_61 (by decide) c ?_
        refine V.iinc (lv' := [some (.ref 0), some (.int l1), some (.int l2), some (.int l3), some (.int (l4 + 1))]) (pc := 93) dX11_triple_93 (Nat.le_of_ble_eq_true rfl) rfl rfl (v := (l4 + 1)) (by rw [show Int32.ofInt 1 = 1 from by decide]) rfl ?_
        refine V.goto (t := 38) (pc := 96) dX11_triple_96 (by decide) ?_
        exact h38 l1 l2 l3 (l4 + 1) _ h
      · refine V.if_eq_f (t := 93) (pc := 61) dX11_triple_61 (by decide) c ?_
        refine V.iload_n (pc := 64) dX11_triple_64 rfl ?_
        rcases ite_e h with ⟨c, h⟩ | ⟨c, h⟩
        · refine V.if_ne_f (t := 72) (pc := 65) dX11_triple_65 (by decide) c ?_
          refine V.iload_n (pc := 68) dX11_triple_68 rfl ?_
          refine V.goto (t := 92) (pc := 69) dX11_triple_69 (by decide) ?_
          obtain rfl := Option.some.inj h
          exact V.iret (pc := 92) dX11_triple_92 rfl (Nat.le_refl _) (Nat.le_refl _)
        · refine V.if_ne_t (t := 72) (pc := 65) dX11_triple_65 (by decide) c ?_
          refine V.iload_n (pc := 72) dX11_triple_72 rfl ?_
          refine V.iconst (pc := 73) dX11_triple_73 ic_1 ?_
          rcases ite_e h with ⟨c, h⟩ | ⟨c, h⟩
          · refine V.icmp_ne_f (t := 82) (pc := 74) dX11_triple_74 (by decide) c ?_
            refine V.iload (pc := 77) dX11_triple_77 rfl ?_
            refine V.goto (t := 92) (pc := 79) dX11_triple_79 (by decide) ?_
            obtain rfl := Option.some.inj h
            exact V.iret (pc := 92) dX11_triple_92 rfl (Nat.le_refl _) (Nat.le_refl _)
          · refine V.icmp_ne_t (t := 82) (pc := 74) dX11_triple_74 (by decide) c ?_
            refine V.aload_n (pc := 82) dX11_triple_82 rfl ?_
            refine V.getR (t := 6) (pc := 83) dX11_triple_83 f_RX11_28 k_cl11 lx_0 ly_0 rb_11_2 rr_0_2 ?_
            refine V.iload_n (pc := 86) dX11_triple_86 rfl ?_
            refine V.iload (pc := 87) dX11_triple_87 rfl ?_
            obtain ⟨x2, ex2, h⟩ := bnd_e h
            refine U.callV (pc := 89) (As := [.int l3, .int l4]) (st := []) dX11_triple_89 l_RX11_159 (ok_X4_times (by omega) l3 l4 ex2) lx_6 ly_6 cn_4 (Nat.le_of_ble_eq_true rfl) rfl rfl (Nat.le_of_ble_eq_true rfl) ?_
            obtain rfl := Option.some.inj h
            exact V.iret (pc := 92) dX11_triple_92 rfl (Nat.le_refl _) (Nat.le_refl _)
def f_X11_triple_B24b (k24 : Int32 → Int32 → Int32 → Wd → Option Int32) (l1 : Int32) (l2 : Int32) (l3 : Int32) (w : Wd) : Option Int32 :=
  if (w.1 6 7) ≤ l3 then
    some (-2)
  else
    f_X11_triple_L38 k24 FU l1 l2 l3 0 w
def f_X11_triple_L24 (n : Nat) : Int32 → Int32 → Int32 → Wd → Option Int32 :=
  Nat.rec (fun _ _ _ _ => none) (fun _ k => f_X11_triple_B24b k) n
set_option maxHeartbeats 4000000 in
set_option maxRecDepth 100000 in
theorem t_X11_triple_L24 {G : GT} {d : Nat} {w : Wd} (hd : 2 ≤ d + 1)  : ∀ (n : Nat) (l1 : Int32) (l2 : Int32) (l3 : Int32) (r : Int32), f_X11_triple_L24 n l1 l2 l3 w = some r → U (vf G mX11_triple (d + 1)) 24 [some (.ref 0), some (.int l1), some (.int l2), some (.int l3), none] [] w (some (.int r), 70, r0, w) := by
  intro n
  induction n with
  | zero => intro l1 l2 l3 r h; cases h
  | succ n h24 =>
    intro l1 l2 l3 r h
    have h : f_X11_triple_B24b (f_X11_triple_L24 n) l1 l2 l3 w = some r := h
    unfold f_X11_triple_B24b at h
    refine V.iload_n (pc := 24) dX11_triple_24 rfl ?_
    refine V.aload_n (pc := 25) dX11_triple_25 rfl ?_
    refine V.getR (t := 6) (pc := 26) dX11_triple_26 f_RX11_28 k_cl11 lx_0 ly_0 rb_11_2 rr_0_2 ?_
    refine V.getI (pc := 29) dX11_triple_29 f_RX11_104 k_cl4 lx_6 ly_6 rb_4_7 ?_
    rcases ite_e h with ⟨c, h⟩ | ⟨c, h⟩
    · refine V.icmp_ge_t (t := 105) (pc := 32) dX11_triple_32 (by decide) c ?_
      refine V.bipush (pc := 105) dX11_triple_105 bp_m2 ?_
      obtain rfl := Option.some.inj h
      exact V.iret (pc := 107) dX11_triple_107 rfl (Nat.le_refl _) (Nat.le_refl _)
    · refine V.icmp_ge_f (t := 105) (pc := 32) dX11_triple_32 (by decide) c ?_
      refine V.iconst (pc := 35) dX11_triple_35 ic_0 ?_
      refine V.istore (lv' := [some (.ref 0), some (.int l1), some (.int l2), some (.int l3), some (.int 0)]) (pc := 36) dX11_triple_36 (Nat.le_of_ble_eq_true rfl) rfl rfl ?_
      exact t_X11_triple_L38 hd h24 FU l1 l2 l3 0 _ h
def f_X11_triple (l1 : Int32) (l2 : Int32) (w : Wd) : Option Int32 :=
  if (f_X4_holdsSet l1 w) = 0 then
    some (-1)
  else
    if l2 < 0 then
      some (-1)
    else
      if l2 ≤ 2 then
        f_X11_triple_L24  FU l1 l2 0 w
      else
        some (-1)
set_option maxHeartbeats 4000000 in
set_option maxRecDepth 100000 in
theorem ok_X11_triple {G : GT} {d : Nat} (hd : 2 ≤ d) {w : Wd} (l1 : Int32) (l2 : Int32) {r : Int32} (h : f_X11_triple l1 l2 w = some r) : uC G yX11_triple mX11_triple d [.ref 0, .int l1, .int l2] w (some (.int r)) w := by
  obtain ⟨d, rfl⟩ : ∃ e, d = e + 1 := ⟨d - 1, by omega⟩
  unfold f_X11_triple at h
  refine uC_of (lv := [some (.ref 0), some (.int l1), some (.int l2), none, none]) 2 pn_X11 ⟨rfl, rfl⟩ (Nat.le_of_ble_eq_true rfl) rfl ?_
  refine V.aload_n (pc := 0) dX11_triple_0 rfl ?_
  refine V.getR (t := 6) (pc := 1) dX11_triple_1 f_RX11_28 k_cl11 lx_0 ly_0 rb_11_2 rr_0_2 ?_
  refine V.iload_n (pc := 4) dX11_triple_4 rfl ?_
  refine U.callV (pc := 5) (As := [.int l1]) (st := []) dX11_triple_5 l_RX11_118 (ok_X4_holdsSet (by omega) l1 ) lx_6 ly_6 cn_4 (Nat.le_of_ble_eq_true rfl) rfl rfl (Nat.le_of_ble_eq_true rfl) ?_
  rcases ite_e h with ⟨c, h⟩ | ⟨c, h⟩
  · refine V.if_eq_t (t := 20) (pc := 8) dX11_triple_8 (by decide) c ?_
    refine V.iconst (pc := 20) dX11_triple_20 ic_m1 ?_
    obtain rfl := Option.some.inj h
    exact V.iret (pc := 21) dX11_triple_21 rfl (Nat.le_refl _) (Nat.le_refl _)
  · refine V.if_eq_f (t := 20) (pc := 8) dX11_triple_8 (by decide) c ?_
    refine V.iload_n (pc := 11) dX11_triple_11 rfl ?_
    rcases ite_e h with ⟨c, h⟩ | ⟨c, h⟩
    · refine V.if_lt_t (t := 20) (pc := 12) dX11_triple_12 (by decide) c ?_
      refine V.iconst (pc := 20) dX11_triple_20 ic_m1 ?_
      obtain rfl := Option.some.inj h
      exact V.iret (pc := 21) dX11_triple_21 rfl (Nat.le_refl _) (Nat.le_refl _)
    · refine V.if_lt_f (t := 20) (pc := 12) dX11_triple_12 (by decide) c ?_
      refine V.iload_n (pc := 15) dX11_triple_15 rfl ?_
      refine V.iconst (pc := 16) dX11_triple_16 ic_2 ?_
      rcases ite_e h with ⟨c, h⟩ | ⟨c, h⟩
      · refine V.icmp_le_t (t := 22) (pc := 17) dX11_triple_17 (by decide) c ?_
        refine V.iconst (pc := 22) dX11_triple_22 ic_0 ?_
        refine V.istore_n (lv' := [some (.ref 0), some (.int l1), some (.int l2), some (.int 0), none]) (pc := 23) dX11_triple_23 (Nat.le_of_ble_eq_true rfl) rfl rfl ?_
        exact t_X11_triple_L24 hd FU l1 l2 0 _ h
      · refine V.icmp_le_f (t := 22) (pc := 17) dX11_triple_17 (by decide) c ?_
        refine V.iconst (pc := 20) dX11_triple_20 ic_m1 ?_
        obtain rfl := Option.some.inj h
        exact V.iret (pc := 21) dX11_triple_21 rfl (Nat.le_refl _) (Nat.le_refl _)
theorem dX12_triple_0 : decode cX12_triple 0 = .ok (.aload_n 0, 1) := by decide +kernel
theorem dX12_triple_1 : decode cX12_triple 1 = .ok (.iload_n 1, 1) := by decide +kernel
theorem dX12_triple_2 : decode cX12_triple 2 = .ok (.invokevirtual 169, 3) := by decide +kernel
theorem dX12_triple_5 : decode cX12_triple 5 = .ok (.ifCond .eq 12, 3) := by decide +kernel
theorem dX12_triple_8 : decode cX12_triple 8 = .ok (.iload_n 2, 1) := by decide +kernel
theorem dX12_triple_9 : decode cX12_triple 9 = .ok (.iconst 0, 1) := by decide +kernel
theorem dX12_triple_10 : decode cX12_triple 10 = .ok (.iconst 2, 1) := by decide +kernel
theorem dX12_triple_11 : decode cX12_triple 11 = .ok (.invokestatic 139, 3) := by decide +kernel
theorem dX12_triple_14 : decode cX12_triple 14 = .ok (.ifCond .ne 5, 3) := by decide +kernel
theorem dX12_triple_17 : decode cX12_triple 17 = .ok (.iconst (-1), 1) := by decide +kernel
theorem dX12_triple_18 : decode cX12_triple 18 = .ok (.ireturn, 1) := by decide +kernel
theorem dX12_triple_19 : decode cX12_triple 19 = .ok (.iconst 0, 1) := by decide +kernel
theorem dX12_triple_20 : decode cX12_triple 20 = .ok (.istore_n 3, 1) := by decide +kernel
theorem dX12_triple_21 : decode cX12_triple 21 = .ok (.iload_n 3, 1) := by decide +kernel
theorem dX12_triple_22 : decode cX12_triple 22 = .ok (.aload_n 0, 1) := by decide +kernel
theorem dX12_triple_23 : decode cX12_triple 23 = .ok (.getfield 92, 3) := by decide +kernel
theorem dX12_triple_26 : decode cX12_triple 26 = .ok (.if_icmp .ge 84, 3) := by decide +kernel
theorem dX12_triple_29 : decode cX12_triple 29 = .ok (.iconst 0, 1) := by decide +kernel
theorem dX12_triple_30 : decode cX12_triple 30 = .ok (.istore 4, 2) := by decide +kernel
theorem dX12_triple_32 : decode cX12_triple 32 = .ok (.iload 4, 2) := by decide +kernel
theorem dX12_triple_34 : decode cX12_triple 34 = .ok (.aload_n 0, 1) := by decide +kernel
theorem dX12_triple_35 : decode cX12_triple 35 = .ok (.getfield 92, 3) := by decide +kernel
theorem dX12_triple_38 : decode cX12_triple 38 = .ok (.if_icmp .ge 66, 3) := by decide +kernel
theorem dX12_triple_41 : decode cX12_triple 41 = .ok (.iload_n 1, 1) := by decide +kernel
theorem dX12_triple_42 : decode cX12_triple 42 = .ok (.iload_n 3, 1) := by decide +kernel
theorem dX12_triple_43 : decode cX12_triple 43 = .ok (.invokestatic 128, 3) := by decide +kernel
theorem dX12_triple_46 : decode cX12_triple 46 = .ok (.ifCond .eq 52, 3) := by decide +kernel
theorem dX12_triple_49 : decode cX12_triple 49 = .ok (.iload_n 1, 1) := by decide +kernel
theorem dX12_triple_50 : decode cX12_triple 50 = .ok (.iload 4, 2) := by decide +kernel
theorem dX12_triple_52 : decode cX12_triple 52 = .ok (.invokestatic 128, 3) := by decide +kernel
theorem dX12_triple_55 : decode cX12_triple 55 = .ok (.ifCond .eq 43, 3) := by decide +kernel
theorem dX12_triple_58 : decode cX12_triple 58 = .ok (.iload_n 1, 1) := by decide +kernel
theorem dX12_triple_59 : decode cX12_triple 59 = .ok (.aload_n 0, 1) := by decide +kernel
theorem dX12_triple_60 : decode cX12_triple 60 = .ok (.iload_n 3, 1) := by decide +kernel
theorem dX12_triple_61 : decode cX12_triple 61 = .ok (.iload 4, 2) := by decide +kernel
theorem dX12_triple_63 : decode cX12_triple 63 = .ok (.invokevirtual 119, 3) := by decide +kernel
theorem dX12_triple_66 : decode cX12_triple 66 = .ok (.invokestatic 128, 3) := by decide +kernel
theorem dX12_triple_69 : decode cX12_triple 69 = .ok (.ifCond .eq 29, 3) := by decide +kernel
theorem dX12_triple_72 : decode cX12_triple 72 = .ok (.iload_n 2, 1) := by decide +kernel
theorem dX12_triple_73 : decode cX12_triple 73 = .ok (.ifCond .ne 7, 3) := by decide +kernel
theorem dX12_triple_76 : decode cX12_triple 76 = .ok (.iload_n 3, 1) := by decide +kernel
theorem dX12_triple_77 : decode cX12_triple 77 = .ok (.goto 20, 3) := by decide +kernel
theorem dX12_triple_80 : decode cX12_triple 80 = .ok (.iload_n 2, 1) := by decide +kernel
theorem dX12_triple_81 : decode cX12_triple 81 = .ok (.iconst 1, 1) := by decide +kernel
theorem dX12_triple_82 : decode cX12_triple 82 = .ok (.if_icmp .ne 8, 3) := by decide +kernel
theorem dX12_triple_85 : decode cX12_triple 85 = .ok (.iload 4, 2) := by decide +kernel
theorem dX12_triple_87 : decode cX12_triple 87 = .ok (.goto 10, 3) := by decide +kernel
theorem dX12_triple_90 : decode cX12_triple 90 = .ok (.aload_n 0, 1) := by decide +kernel
theorem dX12_triple_91 : decode cX12_triple 91 = .ok (.iload_n 3, 1) := by decide +kernel
theorem dX12_triple_92 : decode cX12_triple 92 = .ok (.iload 4, 2) := by decide +kernel
theorem dX12_triple_94 : decode cX12_triple 94 = .ok (.invokevirtual 119, 3) := by decide +kernel
theorem dX12_triple_97 : decode cX12_triple 97 = .ok (.ireturn, 1) := by decide +kernel
theorem dX12_triple_98 : decode cX12_triple 98 = .ok (.iinc 4 1, 3) := by decide +kernel
theorem dX12_triple_101 : decode cX12_triple 101 = .ok (.goto (-69), 3) := by decide +kernel
theorem dX12_triple_104 : decode cX12_triple 104 = .ok (.iinc 3 1, 3) := by decide +kernel
theorem dX12_triple_107 : decode cX12_triple 107 = .ok (.goto (-86), 3) := by decide +kernel
theorem dX12_triple_110 : decode cX12_triple 110 = .ok (.bipush (-2), 2) := by decide +kernel
theorem dX12_triple_112 : decode cX12_triple 112 = .ok (.ireturn, 1) := by decide +kernel
def f_X12_triple_B32b (k21 : Int32 → Int32 → Int32 → Wd → Option Int32) (k32 : Int32 → Int32 → Int32 → Int32 → Wd → Option Int32) (l1 : Int32) (l2 : Int32) (l3 : Int32) (l4 : Int32) (w : Wd) : Option Int32 :=
  if (w.1 44 1) ≤ l4 then
    k21 l1 l2 (l3 + 1) w
  else
    if (f_X12_has l1 l3) = 0 then
      k32 l1 l2 l3 (l4 + 1) w
    else
      if (f_X12_has l1 l4) = 0 then
        k32 l1 l2 l3 (l4 + 1) w
      else
        bnd (f_X12_product0 l3 l4 w) fun x1 =>
        if (f_X12_has l1 x1) = 0 then
          k32 l1 l2 l3 (l4 + 1) w
        else
          if l2 = 0 then
            some l3
          else
            if l2 = 1 then
              some l4
            else
              bnd (f_X12_product0 l3 l4 w) fun x2 =>
              some x2
def f_X12_triple_L32 (k21 : Int32 → Int32 → Int32 → Wd → Option Int32) (n : Nat) : Int32 → Int32 → Int32 → Int32 → Wd → Option Int32 :=
  Nat.rec (fun _ _ _ _ _ => none) (fun _ k => f_X12_triple_B32b k21 k) n
set_option maxHeartbeats 4000000 in
set_option maxRecDepth 100000 in
theorem t_X12_triple_L32 {G : GT} {d : Nat} {k21 : Int32 → Int32 → Int32 → Wd → Option Int32} {w : Wd} (hd : 2 ≤ d + 1) (h21 : ∀ (l1 : Int32) (l2 : Int32) (l3 : Int32) (r : Int32), k21 l1 l2 l3 w = some r → U (vf G mX12_triple (d + 1)) 21 [some (.ref 44), some (.int l1), some (.int l2), some (.int l3), none] [] w (some (.int r), 70, r0, w)) : ∀ (n : Nat) (l1 : Int32) (l2 : Int32) (l3 : Int32) (l4 : Int32) (r : Int32), f_X12_triple_L32 k21 n l1 l2 l3 l4 w = some r → U (vf G mX12_triple (d + 1)) 32 [some (.ref 44), some (.int l1), some (.int l2), some (.int l3), some (.int l4)] [] w (some (.int r), 70, r0, w) := by
  intro n
  induction n with
  | zero => intro l1 l2 l3 l4 r h; cases h
  | succ n h32 =>
    intro l1 l2 l3 l4 r h
    have h : f_X12_triple_B32b k21 (f_X12_triple_L32 k21 n) l1 l2 l3 l4 w = some r := h
    unfold f_X12_triple_B32b at h
    refine V.iload (pc := 32) dX12_triple_32 rfl ?_
    refine V.aload_n (pc := 34) dX12_triple_34 rfl ?_
    refine V.getI (pc := 35) dX12_triple_35 f_RX12_92 k_cl12 lx_44 ly_44 rb_12_1 ?_
    rcases ite_e h with ⟨c, h⟩ | ⟨c, h⟩
    · refine V.icmp_ge_t (t := 104) (pc := 38) dX12_triple_38 (by decide) c ?_
      refine V.iinc (lv' := [some (.ref 44), some (.int l1), some (.int l2), some (.int (l3 + 1)), some (.int l4)]) (pc := 104) dX12_triple_104 (Nat.le_of_ble_eq_true rfl) rfl rfl (v := (l3 + 1)) (by rw [show Int32.ofInt 1 = 1 from by decide]) rfl ?_
      refine V.goto (t := 21) (pc := 107) dX12_triple_107 (by decide) ?_
      refine V.weak (lv' := [some (.ref 44), some (.int l1), some (.int l2), some (.int (l3 + 1)), none]) (And.intro rfl (And.intro rfl (And.intro rfl (And.intro rfl trivial)))) ?_
      exact h21 l1 l2 (l3 + 1) _ h
    · refine V.icmp_ge_f (t := 104) (pc := 38) dX12_triple_38 (by decide) c ?_
      refine V.iload_n (pc := 41) dX12_triple_41 rfl ?_
      refine V.iload_n (pc := 42) dX12_triple_42 rfl ?_
      refine U.callS (pc := 43) (As := [.int l1, .int l3]) (st := []) dX12_triple_43 l_RX12_128 (ok_X12_has (by omega) l1 l3 ) (Nat.le_of_ble_eq_true rfl) rfl rfl (Nat.le_of_ble_eq_true rfl) ?_
      rcases ite_e h with ⟨c, h⟩ | ⟨c, h⟩
      · refine V.if_eq_t (t := 98) (pc := 46) dX12_triple_46 (by decide) c ?_
        refine V.iinc (lv' := [some (.ref 44), some (.int l1), some (.int l2), some (.int l3), some (.int (l4 + 1))]) (pc := 98) dX12_triple_98 (Nat.le_of_ble_eq_true rfl) rfl rfl (v := (l4 + 1)) (by rw [show Int32.ofInt 1 = 1 from by decide]) rfl ?_
        refine V.goto (t := 32) (pc := 101) dX12_triple_101 (by decide) ?_
        exact h32 l1 l2 l3 (l4 + 1) _ h
      · refine V.if_eq_f (t := 98) (pc := 46) dX12_triple_46 (by decide) c ?_
        refine V.iload_n (pc := 49) dX12_triple_49 rfl ?_
        refine V.iload (pc := 50) dX12_triple_50 rfl ?_
        refine U.callS (pc := 52) (As := [.int l1, .int l4]) (st := []) dX12_triple_52 l_RX12_128 (ok_X12_has (by omega) l1 l4 ) (Nat.le_of_ble_eq_true rfl) rfl rfl (Nat.le_of_ble_eq_true rfl) ?_
        rcases ite_e h with ⟨c, h⟩ | ⟨c, h⟩
        · refine V.if_eq_t (t := 98) (pc := 55) dX12_triple_55 (by decide) c ?_
          refine V.iinc (lv' := [some (.ref 44), some (.int l1), some (.int l2), some (.int l3), some (.int (l4 + 1))]) (pc := 98) dX12_triple_98 (Nat.le_of_ble_eq_true rfl) rfl rfl (v := (l4 + 1)) (by rw [show Int32.ofInt 1 = 1 from by decide]) rfl ?_
          refine V.goto (t := 32) (pc := 101) dX12_triple_101 (by decide) ?_
          exact h32 l1 l2 l3 (l4 + 1) _ h
        · refine V.if_eq_f (t := 98) (pc := 55) dX12_triple_55 (by decide) c ?_
          refine V.iload_n (pc := 58) dX12_triple_58 rfl ?_
          refine V.aload_n (pc := 59) dX12_triple_59 rfl ?_
          refine V.iload_n (pc := 60) dX12_triple_60 rfl ?_
          refine V.iload (pc := 61) dX12_triple_61 rfl ?_
          obtain ⟨x1, ex1, h⟩ := bnd_e h
          refine U.callV (pc := 63) (As := [.int l3, .int l4]) (st := [.int l1]) dX12_triple_63 l_RX12_119 (ok_X12_product0 (by omega) l3 l4 ex1) lx_44 ly_44 cn_12 (Nat.le_of_ble_eq_true rfl) rfl rfl (Nat.le_of_ble_eq_true rfl) ?_
          refine U.callS (pc := 66) (As := [.int l1, .int x1]) (st := []) dX12_triple_66 l_RX12_128 (ok_X12_has (by omega) l1 x1 ) (Nat.le_of_ble_eq_true rfl) rfl rfl (Nat.le_of_ble_eq_true rfl) ?_
          rcases ite_e h with ⟨c, h⟩ | ⟨c, h⟩
          · refine V.if_eq_t (t := 98) (pc := 69) dX12_triple_69 (by decide) c ?_
            refine V.iinc (lv' := [some (.ref 44), some (.int l1), some (.int l2), some (.int l3), some (.int (l4 + 1))]) (pc := 98) dX12_triple_98 (Nat.le_of_ble_eq_true rfl) rfl rfl (v := (l4 + 1)) (by rw [show Int32.ofInt 1 = 1 from by decide]) rfl ?_
            refine V.goto (t := 32) (pc := 101) dX12_triple_101 (by decide) ?_
            exact h32 l1 l2 l3 (l4 + 1) _ h
          · refine V.if_eq_f (t := 98) (pc := 69) dX12_triple_69 (by decide) c ?_
            refine V.iload_n (pc := 72) dX12_triple_72 rfl ?_
            rcases ite_e h with ⟨c, h⟩ | ⟨c, h⟩
            · refine V.if_ne_f (t := 80) (pc := 73) dX12_triple_73 (by decide) c ?_
              refine V.iload_n (pc := 76) dX12_triple_76 rfl ?_
              refine V.goto (t := 97) (pc := 77) dX12_triple_77 (by decide) ?_
              obtain rfl := Option.some.inj h
              exact V.iret (pc := 97) dX12_triple_97 rfl (Nat.le_refl _) (Nat.le_refl _)
            · refine V.if_ne_t (t := 80) (pc := 73) dX12_triple_73 (by decide) c ?_
              refine V.iload_n (pc := 80) dX12_triple_80 rfl ?_
              refine V.iconst (pc := 81) dX12_triple_81 ic_1 ?_
              rcases ite_e h with ⟨c, h⟩ | ⟨c, h⟩
              · refine V.icmp_ne_f (t := 90) (pc := 82) dX12_triple_82 (by decide) c ?_
                refine V.iload (pc := 85) dX12_triple_85 rfl ?_
                refine V.goto (t := 97) (pc := 87) dX12_triple_87 (by decide) ?_
                obtain rfl := Option.some.inj h
                exact V.iret (pc := 97) dX12_triple_97 rfl (Nat.le_refl _) (Nat.le_refl _)
              · refine V.icmp_ne_t (t := 90) (pc := 82) dX12_triple_82 (by decide) c ?_
                refine V.aload_n (pc := 90) dX12_triple_90 rfl ?_
                refine V.iload_n (pc := 91) dX12_triple_91 rfl ?_
                refine V.iload (pc := 92) dX12_triple_92 rfl ?_
                obtain ⟨x2, ex2, h⟩ := bnd_e h
                refine U.callV (pc := 94) (As := [.int l3, .int l4]) (st := []) dX12_triple_94 l_RX12_119 (ok_X12_product0 (by omega) l3 l4 ex2) lx_44 ly_44 cn_12 (Nat.le_of_ble_eq_true rfl) rfl rfl (Nat.le_of_ble_eq_true rfl) ?_
                obtain rfl := Option.some.inj h
                exact V.iret (pc := 97) dX12_triple_97 rfl (Nat.le_refl _) (Nat.le_refl _)
def f_X12_triple_B21b (k21 : Int32 → Int32 → Int32 → Wd → Option Int32) (l1 : Int32) (l2 : Int32) (l3 : Int32) (w : Wd) : Option Int32 :=
  if (w.1 44 1) ≤ l3 then
    some (-2)
  else
    f_X12_triple_L32 k21 FU l1 l2 l3 0 w
def f_X12_triple_L21 (n : Nat) : Int32 → Int32 → Int32 → Wd → Option Int32 :=
  Nat.rec (fun _ _ _ _ => none) (fun _ k => f_X12_triple_B21b k) n
set_option maxHeartbeats 4000000 in
set_option maxRecDepth 100000 in
theorem t_X12_triple_L21 {G : GT} {d : Nat} {w : Wd} (hd : 2 ≤ d + 1)  : ∀ (n : Nat) (l1 : Int32) (l2 : Int32) (l3 : Int32) (r : Int32), f_X12_triple_L21 n l1 l2 l3 w = some r → U (vf G mX12_triple (d + 1)) 21 [some (.ref 44), some (.int l1), some (.int l2), some (.int l3), none] [] w (some (.int r), 70, r0, w) := by
  intro n
  induction n with
  | zero => intro l1 l2 l3 r h; cases h
  | succ n h21 =>
    intro l1 l2 l3 r h
    have h : f_X12_triple_B21b (f_X12_triple_L21 n) l1 l2 l3 w = some r := h
    unfold f_X12_triple_B21b at h
    refine V.iload_n (pc := 21) dX12_triple_21 rfl ?_
    refine V.aload_n (pc := 22) dX12_triple_22 rfl ?_
    refine V.getI (pc := 23) dX12_triple_23 f_RX12_92 k_cl12 lx_44 ly_44 rb_12_1 ?_
    rcases ite_e h with ⟨c, h⟩ | ⟨c, h⟩
    · refine V.icmp_ge_t (t := 110) (pc := 26) dX12_triple_26 (by decide) c ?_
      refine V.bipush (pc := 110) dX12_triple_110 bp_m2 ?_
      obtain rfl := Option.some.inj h
      exact V.iret (pc := 112) dX12_triple_112 rfl (Nat.le_refl _) (Nat.le_refl _)
    · refine V.icmp_ge_f (t := 110) (pc := 26) dX12_triple_26 (by decide) c ?_
      refine V.iconst (pc := 29) dX12_triple_29 ic_0 ?_
      refine V.istore (lv' := [some (.ref 44), some (.int l1), some (.int l2), some (.int l3), some (.int 0)]) (pc := 30) dX12_triple_30 (Nat.le_of_ble_eq_true rfl) rfl rfl ?_
      exact t_X12_triple_L32 hd h21 FU l1 l2 l3 0 _ h
def f_X12_triple (l1 : Int32) (l2 : Int32) (w : Wd) : Option Int32 :=
  if (f_X12_isSet l1 w) = 0 then
    some (-1)
  else
    if (f_X12_in l2 0 2) = 0 then
      some (-1)
    else
      f_X12_triple_L21  FU l1 l2 0 w
set_option maxHeartbeats 4000000 in
set_option maxRecDepth 100000 in
theorem ok_X12_triple {G : GT} {d : Nat} (hd : 2 ≤ d) {w : Wd} (l1 : Int32) (l2 : Int32) {r : Int32} (h : f_X12_triple l1 l2 w = some r) : uC G yX12_triple mX12_triple d [.ref 44, .int l1, .int l2] w (some (.int r)) w := by
  obtain ⟨d, rfl⟩ : ∃ e, d = e + 1 := ⟨d - 1, by omega⟩
  unfold f_X12_triple at h
  refine uC_of (lv := [some (.ref 44), some (.int l1), some (.int l2), none, none]) 2 pn_X12 ⟨rfl, rfl⟩ (Nat.le_of_ble_eq_true rfl) rfl ?_
  refine V.aload_n (pc := 0) dX12_triple_0 rfl ?_
  refine V.iload_n (pc := 1) dX12_triple_1 rfl ?_
  refine U.callV (pc := 2) (As := [.int l1]) (st := []) dX12_triple_2 l_RX12_169 (ok_X12_isSet (by omega) l1 ) lx_44 ly_44 cn_12 (Nat.le_of_ble_eq_true rfl) rfl rfl (Nat.le_of_ble_eq_true rfl) ?_
  rcases ite_e h with ⟨c, h⟩ | ⟨c, h⟩
  · refine V.if_eq_t (t := 17) (pc := 5) dX12_triple_5 (by decide) c ?_
    refine V.iconst (pc := 17) dX12_triple_17 ic_m1 ?_
    obtain rfl := Option.some.inj h
    exact V.iret (pc := 18) dX12_triple_18 rfl (Nat.le_refl _) (Nat.le_refl _)
  · refine V.if_eq_f (t := 17) (pc := 5) dX12_triple_5 (by decide) c ?_
    refine V.iload_n (pc := 8) dX12_triple_8 rfl ?_
    refine V.iconst (pc := 9) dX12_triple_9 ic_0 ?_
    refine V.iconst (pc := 10) dX12_triple_10 ic_2 ?_
    refine U.callS (pc := 11) (As := [.int l2, .int 0, .int 2]) (st := []) dX12_triple_11 l_RX12_139 (ok_X12_in (by omega) l2 0 2 ) (Nat.le_of_ble_eq_true rfl) rfl rfl (Nat.le_of_ble_eq_true rfl) ?_
    rcases ite_e h with ⟨c, h⟩ | ⟨c, h⟩
    · refine V.if_ne_f (t := 19) (pc := 14) dX12_triple_14 (by decide) c ?_
      refine V.iconst (pc := 17) dX12_triple_17 ic_m1 ?_
      obtain rfl := Option.some.inj h
      exact V.iret (pc := 18) dX12_triple_18 rfl (Nat.le_refl _) (Nat.le_refl _)
    · refine V.if_ne_t (t := 19) (pc := 14) dX12_triple_14 (by decide) c ?_
      refine V.iconst (pc := 19) dX12_triple_19 ic_0 ?_
      refine V.istore_n (lv' := [some (.ref 44), some (.int l1), some (.int l2), some (.int 0), none]) (pc := 20) dX12_triple_20 (Nat.le_of_ble_eq_true rfl) rfl rfl ?_
      exact t_X12_triple_L21 hd FU l1 l2 0 _ h
theorem dX11_products_0 : decode cX11_products 0 = .ok (.aload_n 0, 1) := by decide +kernel
theorem dX11_products_1 : decode cX11_products 1 = .ok (.getfield 28, 3) := by decide +kernel
theorem dX11_products_4 : decode cX11_products 4 = .ok (.iload_n 1, 1) := by decide +kernel
theorem dX11_products_5 : decode cX11_products 5 = .ok (.invokevirtual 118, 3) := by decide +kernel
theorem dX11_products_8 : decode cX11_products 8 = .ok (.ifCond .eq 26, 3) := by decide +kernel
theorem dX11_products_11 : decode cX11_products 11 = .ok (.aload_n 0, 1) := by decide +kernel
theorem dX11_products_12 : decode cX11_products 12 = .ok (.getfield 28, 3) := by decide +kernel
theorem dX11_products_15 : decode cX11_products 15 = .ok (.iload_n 2, 1) := by decide +kernel
theorem dX11_products_16 : decode cX11_products 16 = .ok (.invokevirtual 118, 3) := by decide +kernel
theorem dX11_products_19 : decode cX11_products 19 = .ok (.ifCond .eq 15, 3) := by decide +kernel
theorem dX11_products_22 : decode cX11_products 22 = .ok (.aload_n 0, 1) := by decide +kernel
theorem dX11_products_23 : decode cX11_products 23 = .ok (.getfield 28, 3) := by decide +kernel
theorem dX11_products_26 : decode cX11_products 26 = .ok (.iload_n 1, 1) := by decide +kernel
theorem dX11_products_27 : decode cX11_products 27 = .ok (.iload_n 2, 1) := by decide +kernel
theorem dX11_products_28 : decode cX11_products 28 = .ok (.invokevirtual 186, 3) := by decide +kernel
theorem dX11_products_31 : decode cX11_products 31 = .ok (.goto 4, 3) := by decide +kernel
theorem dX11_products_34 : decode cX11_products 34 = .ok (.iconst (-1), 1) := by decide +kernel
theorem dX11_products_35 : decode cX11_products 35 = .ok (.ireturn, 1) := by decide +kernel
def f_X11_products (l1 : Int32) (l2 : Int32) (w : Wd) : Option Int32 :=
  if (f_X4_holdsSet l1 w) = 0 then
    some (-1)
  else
    if (f_X4_holdsSet l2 w) = 0 then
      some (-1)
    else
      bnd (f_X4_productsOf l1 l2 w) fun x1 =>
      some x1
set_option maxHeartbeats 4000000 in
set_option maxRecDepth 100000 in
theorem ok_X11_products {G : GT} {d : Nat} (hd : 3 ≤ d) {w : Wd} (l1 : Int32) (l2 : Int32) {r : Int32} (h : f_X11_products l1 l2 w = some r) : uC G yX11_products mX11_products d [.ref 0, .int l1, .int l2] w (some (.int r)) w := by
  obtain ⟨d, rfl⟩ : ∃ e, d = e + 1 := ⟨d - 1, by omega⟩
  unfold f_X11_products at h
  refine uC_of (lv := [some (.ref 0), some (.int l1), some (.int l2)]) 0 pn_X11 ⟨rfl, rfl⟩ (Nat.le_of_ble_eq_true rfl) rfl ?_
  refine V.aload_n (pc := 0) dX11_products_0 rfl ?_
  refine V.getR (t := 6) (pc := 1) dX11_products_1 f_RX11_28 k_cl11 lx_0 ly_0 rb_11_2 rr_0_2 ?_
  refine V.iload_n (pc := 4) dX11_products_4 rfl ?_
  refine U.callV (pc := 5) (As := [.int l1]) (st := []) dX11_products_5 l_RX11_118 (ok_X4_holdsSet (by omega) l1 ) lx_6 ly_6 cn_4 (Nat.le_of_ble_eq_true rfl) rfl rfl (Nat.le_of_ble_eq_true rfl) ?_
  rcases ite_e h with ⟨c, h⟩ | ⟨c, h⟩
  · refine V.if_eq_t (t := 34) (pc := 8) dX11_products_8 (by decide) c ?_
    refine V.iconst (pc := 34) dX11_products_34 ic_m1 ?_
    obtain rfl := Option.some.inj h
    exact V.iret (pc := 35) dX11_products_35 rfl (Nat.le_refl _) (Nat.le_refl _)
  · refine V.if_eq_f (t := 34) (pc := 8) dX11_products_8 (by decide) c ?_
    refine V.aload_n (pc := 11) dX11_products_11 rfl ?_
    refine V.getR (t := 6) (pc := 12) dX11_products_12 f_RX11_28 k_cl11 lx_0 ly_0 rb_11_2 rr_0_2 ?_
    refine V.iload_n (pc := 15) dX11_products_15 rfl ?_
    refine U.callV (pc := 16) (As := [.int l2]) (st := []) dX11_products_16 l_RX11_118 (ok_X4_holdsSet (by omega) l2 ) lx_6 ly_6 cn_4 (Nat.le_of_ble_eq_true rfl) rfl rfl (Nat.le_of_ble_eq_true rfl) ?_
    rcases ite_e h with ⟨c, h⟩ | ⟨c, h⟩
    · refine V.if_eq_t (t := 34) (pc := 19) dX11_products_19 (by decide) c ?_
      refine V.iconst (pc := 34) dX11_products_34 ic_m1 ?_
      obtain rfl := Option.some.inj h
      exact V.iret (pc := 35) dX11_products_35 rfl (Nat.le_refl _) (Nat.le_refl _)
    · refine V.if_eq_f (t := 34) (pc := 19) dX11_products_19 (by decide) c ?_
      refine V.aload_n (pc := 22) dX11_products_22 rfl ?_
      refine V.getR (t := 6) (pc := 23) dX11_products_23 f_RX11_28 k_cl11 lx_0 ly_0 rb_11_2 rr_0_2 ?_
      refine V.iload_n (pc := 26) dX11_products_26 rfl ?_
      refine V.iload_n (pc := 27) dX11_products_27 rfl ?_
      obtain ⟨x1, ex1, h⟩ := bnd_e h
      refine U.callV (pc := 28) (As := [.int l1, .int l2]) (st := []) dX11_products_28 l_RX11_186 (ok_X4_productsOf (by omega) l1 l2 ex1) lx_6 ly_6 cn_4 (Nat.le_of_ble_eq_true rfl) rfl rfl (Nat.le_of_ble_eq_true rfl) ?_
      refine V.goto (t := 35) (pc := 31) dX11_products_31 (by decide) ?_
      obtain rfl := Option.some.inj h
      exact V.iret (pc := 35) dX11_products_35 rfl (Nat.le_refl _) (Nat.le_refl _)
theorem dX12_products_0 : decode cX12_products 0 = .ok (.aload_n 0, 1) := by decide +kernel
theorem dX12_products_1 : decode cX12_products 1 = .ok (.iload_n 1, 1) := by decide +kernel
theorem dX12_products_2 : decode cX12_products 2 = .ok (.invokevirtual 169, 3) := by decide +kernel
theorem dX12_products_5 : decode cX12_products 5 = .ok (.ifCond .eq 20, 3) := by decide +kernel
theorem dX12_products_8 : decode cX12_products 8 = .ok (.aload_n 0, 1) := by decide +kernel
theorem dX12_products_9 : decode cX12_products 9 = .ok (.iload_n 2, 1) := by decide +kernel
theorem dX12_products_10 : decode cX12_products 10 = .ok (.invokevirtual 169, 3) := by decide +kernel
theorem dX12_products_13 : decode cX12_products 13 = .ok (.ifCond .eq 12, 3) := by decide +kernel
theorem dX12_products_16 : decode cX12_products 16 = .ok (.aload_n 0, 1) := by decide +kernel
theorem dX12_products_17 : decode cX12_products 17 = .ok (.iload_n 1, 1) := by decide +kernel
theorem dX12_products_18 : decode cX12_products 18 = .ok (.iload_n 2, 1) := by decide +kernel
theorem dX12_products_19 : decode cX12_products 19 = .ok (.invokevirtual 206, 3) := by decide +kernel
theorem dX12_products_22 : decode cX12_products 22 = .ok (.goto 4, 3) := by decide +kernel
theorem dX12_products_25 : decode cX12_products 25 = .ok (.iconst (-1), 1) := by decide +kernel
theorem dX12_products_26 : decode cX12_products 26 = .ok (.ireturn, 1) := by decide +kernel
def f_X12_products (l1 : Int32) (l2 : Int32) (w : Wd) : Option Int32 :=
  if (f_X12_isSet l1 w) = 0 then
    some (-1)
  else
    if (f_X12_isSet l2 w) = 0 then
      some (-1)
    else
      bnd (f_X12_productsOfTwo l1 l2 w) fun x1 =>
      some x1
set_option maxHeartbeats 4000000 in
set_option maxRecDepth 100000 in
theorem ok_X12_products {G : GT} {d : Nat} (hd : 3 ≤ d) {w : Wd} (l1 : Int32) (l2 : Int32) {r : Int32} (h : f_X12_products l1 l2 w = some r) : uC G yX12_products mX12_products d [.ref 44, .int l1, .int l2] w (some (.int r)) w := by
  obtain ⟨d, rfl⟩ : ∃ e, d = e + 1 := ⟨d - 1, by omega⟩
  unfold f_X12_products at h
  refine uC_of (lv := [some (.ref 44), some (.int l1), some (.int l2)]) 0 pn_X12 ⟨rfl, rfl⟩ (Nat.le_of_ble_eq_true rfl) rfl ?_
  refine V.aload_n (pc := 0) dX12_products_0 rfl ?_
  refine V.iload_n (pc := 1) dX12_products_1 rfl ?_
  refine U.callV (pc := 2) (As := [.int l1]) (st := []) dX12_products_2 l_RX12_169 (ok_X12_isSet (by omega) l1 ) lx_44 ly_44 cn_12 (Nat.le_of_ble_eq_true rfl) rfl rfl (Nat.le_of_ble_eq_true rfl) ?_
  rcases ite_e h with ⟨c, h⟩ | ⟨c, h⟩
  · refine V.if_eq_t (t := 25) (pc := 5) dX12_products_5 (by decide) c ?_
    refine V.iconst (pc := 25) dX12_products_25 ic_m1 ?_
    obtain rfl := Option.some.inj h
    exact V.iret (pc := 26) dX12_products_26 rfl (Nat.le_refl _) (Nat.le_refl _)
  · refine V.if_eq_f (t := 25) (pc := 5) dX12_products_5 (by decide) c ?_
    refine V.aload_n (pc := 8) dX12_products_8 rfl ?_
    refine V.iload_n (pc := 9) dX12_products_9 rfl ?_
    refine U.callV (pc := 10) (As := [.int l2]) (st := []) dX12_products_10 l_RX12_169 (ok_X12_isSet (by omega) l2 ) lx_44 ly_44 cn_12 (Nat.le_of_ble_eq_true rfl) rfl rfl (Nat.le_of_ble_eq_true rfl) ?_
    rcases ite_e h with ⟨c, h⟩ | ⟨c, h⟩
    · refine V.if_eq_t (t := 25) (pc := 13) dX12_products_13 (by decide) c ?_
      refine V.iconst (pc := 25) dX12_products_25 ic_m1 ?_
      obtain rfl := Option.some.inj h
      exact V.iret (pc := 26) dX12_products_26 rfl (Nat.le_refl _) (Nat.le_refl _)
    · refine V.if_eq_f (t := 25) (pc := 13) dX12_products_13 (by decide) c ?_
      refine V.aload_n (pc := 16) dX12_products_16 rfl ?_
      refine V.iload_n (pc := 17) dX12_products_17 rfl ?_
      refine V.iload_n (pc := 18) dX12_products_18 rfl ?_
      obtain ⟨x1, ex1, h⟩ := bnd_e h
      refine U.callV (pc := 19) (As := [.int l1, .int l2]) (st := []) dX12_products_19 l_RX12_206 (ok_X12_productsOfTwo (by omega) l1 l2 ex1) lx_44 ly_44 cn_12 (Nat.le_of_ble_eq_true rfl) rfl rfl (Nat.le_of_ble_eq_true rfl) ?_
      refine V.goto (t := 26) (pc := 22) dX12_products_22 (by decide) ?_
      obtain rfl := Option.some.inj h
      exact V.iret (pc := 26) dX12_products_26 rfl (Nat.le_refl _) (Nat.le_refl _)
theorem dX11_quotients_0 : decode cX11_quotients 0 = .ok (.aload_n 0, 1) := by decide +kernel
theorem dX11_quotients_1 : decode cX11_quotients 1 = .ok (.getfield 28, 3) := by decide +kernel
theorem dX11_quotients_4 : decode cX11_quotients 4 = .ok (.iload_n 1, 1) := by decide +kernel
theorem dX11_quotients_5 : decode cX11_quotients 5 = .ok (.invokevirtual 118, 3) := by decide +kernel
theorem dX11_quotients_8 : decode cX11_quotients 8 = .ok (.ifCond .eq 22, 3) := by decide +kernel
theorem dX11_quotients_11 : decode cX11_quotients 11 = .ok (.aload_n 0, 1) := by decide +kernel
theorem dX11_quotients_12 : decode cX11_quotients 12 = .ok (.getfield 28, 3) := by decide +kernel
theorem dX11_quotients_15 : decode cX11_quotients 15 = .ok (.iload_n 1, 1) := by decide +kernel
theorem dX11_quotients_16 : decode cX11_quotients 16 = .ok (.aload_n 0, 1) := by decide +kernel
theorem dX11_quotients_17 : decode cX11_quotients 17 = .ok (.getfield 28, 3) := by decide +kernel
theorem dX11_quotients_20 : decode cX11_quotients 20 = .ok (.iload_n 1, 1) := by decide +kernel
theorem dX11_quotients_21 : decode cX11_quotients 21 = .ok (.invokevirtual 143, 3) := by decide +kernel
theorem dX11_quotients_24 : decode cX11_quotients 24 = .ok (.invokevirtual 186, 3) := by decide +kernel
theorem dX11_quotients_27 : decode cX11_quotients 27 = .ok (.goto 4, 3) := by decide +kernel
theorem dX11_quotients_30 : decode cX11_quotients 30 = .ok (.iconst (-1), 1) := by decide +kernel
theorem dX11_quotients_31 : decode cX11_quotients 31 = .ok (.ireturn, 1) := by decide +kernel
def f_X11_quotients (l1 : Int32) (w : Wd) : Option Int32 :=
  if (f_X4_holdsSet l1 w) = 0 then
    some (-1)
  else
    bnd (f_X4_inversesOf l1 w) fun x1 =>
    bnd (f_X4_productsOf l1 x1 w) fun x2 =>
    some x2
set_option maxHeartbeats 4000000 in
set_option maxRecDepth 100000 in
theorem ok_X11_quotients {G : GT} {d : Nat} (hd : 3 ≤ d) {w : Wd} (l1 : Int32) {r : Int32} (h : f_X11_quotients l1 w = some r) : uC G yX11_quotients mX11_quotients d [.ref 0, .int l1] w (some (.int r)) w := by
  obtain ⟨d, rfl⟩ : ∃ e, d = e + 1 := ⟨d - 1, by omega⟩
  unfold f_X11_quotients at h
  refine uC_of (lv := [some (.ref 0), some (.int l1)]) 0 pn_X11 ⟨rfl, rfl⟩ (Nat.le_of_ble_eq_true rfl) rfl ?_
  refine V.aload_n (pc := 0) dX11_quotients_0 rfl ?_
  refine V.getR (t := 6) (pc := 1) dX11_quotients_1 f_RX11_28 k_cl11 lx_0 ly_0 rb_11_2 rr_0_2 ?_
  refine V.iload_n (pc := 4) dX11_quotients_4 rfl ?_
  refine U.callV (pc := 5) (As := [.int l1]) (st := []) dX11_quotients_5 l_RX11_118 (ok_X4_holdsSet (by omega) l1 ) lx_6 ly_6 cn_4 (Nat.le_of_ble_eq_true rfl) rfl rfl (Nat.le_of_ble_eq_true rfl) ?_
  rcases ite_e h with ⟨c, h⟩ | ⟨c, h⟩
  · refine V.if_eq_t (t := 30) (pc := 8) dX11_quotients_8 (by decide) c ?_
    refine V.iconst (pc := 30) dX11_quotients_30 ic_m1 ?_
    obtain rfl := Option.some.inj h
    exact V.iret (pc := 31) dX11_quotients_31 rfl (Nat.le_refl _) (Nat.le_refl _)
  · refine V.if_eq_f (t := 30) (pc := 8) dX11_quotients_8 (by decide) c ?_
    refine V.aload_n (pc := 11) dX11_quotients_11 rfl ?_
    refine V.getR (t := 6) (pc := 12) dX11_quotients_12 f_RX11_28 k_cl11 lx_0 ly_0 rb_11_2 rr_0_2 ?_
    refine V.iload_n (pc := 15) dX11_quotients_15 rfl ?_
    refine V.aload_n (pc := 16) dX11_quotients_16 rfl ?_
    refine V.getR (t := 6) (pc := 17) dX11_quotients_17 f_RX11_28 k_cl11 lx_0 ly_0 rb_11_2 rr_0_2 ?_
    refine V.iload_n (pc := 20) dX11_quotients_20 rfl ?_
    obtain ⟨x1, ex1, h⟩ := bnd_e h
    refine U.callV (pc := 21) (As := [.int l1]) (st := [.int l1, .ref 6]) dX11_quotients_21 l_RX11_143 (ok_X4_inversesOf (by omega) l1 ex1) lx_6 ly_6 cn_4 (Nat.le_of_ble_eq_true rfl) rfl rfl (Nat.le_of_ble_eq_true rfl) ?_
    obtain ⟨x2, ex2, h⟩ := bnd_e h
    refine U.callV (pc := 24) (As := [.int l1, .int x1]) (st := []) dX11_quotients_24 l_RX11_186 (ok_X4_productsOf (by omega) l1 x1 ex2) lx_6 ly_6 cn_4 (Nat.le_of_ble_eq_true rfl) rfl rfl (Nat.le_of_ble_eq_true rfl) ?_
    refine V.goto (t := 31) (pc := 27) dX11_quotients_27 (by decide) ?_
    obtain rfl := Option.some.inj h
    exact V.iret (pc := 31) dX11_quotients_31 rfl (Nat.le_refl _) (Nat.le_refl _)
theorem dX12_quotients_0 : decode cX12_quotients 0 = .ok (.aload_n 0, 1) := by decide +kernel
theorem dX12_quotients_1 : decode cX12_quotients 1 = .ok (.iload_n 1, 1) := by decide +kernel
theorem dX12_quotients_2 : decode cX12_quotients 2 = .ok (.invokevirtual 169, 3) := by decide +kernel
theorem dX12_quotients_5 : decode cX12_quotients 5 = .ok (.ifCond .eq 16, 3) := by decide +kernel
theorem dX12_quotients_8 : decode cX12_quotients 8 = .ok (.aload_n 0, 1) := by decide +kernel
theorem dX12_quotients_9 : decode cX12_quotients 9 = .ok (.iload_n 1, 1) := by decide +kernel
theorem dX12_quotients_10 : decode cX12_quotients 10 = .ok (.aload_n 0, 1) := by decide +kernel
theorem dX12_quotients_11 : decode cX12_quotients 11 = .ok (.iload_n 1, 1) := by decide +kernel
theorem dX12_quotients_12 : decode cX12_quotients 12 = .ok (.invokevirtual 182, 3) := by decide +kernel
theorem dX12_quotients_15 : decode cX12_quotients 15 = .ok (.invokevirtual 206, 3) := by decide +kernel
theorem dX12_quotients_18 : decode cX12_quotients 18 = .ok (.goto 4, 3) := by decide +kernel
theorem dX12_quotients_21 : decode cX12_quotients 21 = .ok (.iconst (-1), 1) := by decide +kernel
theorem dX12_quotients_22 : decode cX12_quotients 22 = .ok (.ireturn, 1) := by decide +kernel
def f_X12_quotients (l1 : Int32) (w : Wd) : Option Int32 :=
  if (f_X12_isSet l1 w) = 0 then
    some (-1)
  else
    bnd (f_X12_inverses l1 w) fun x1 =>
    bnd (f_X12_productsOfTwo l1 x1 w) fun x2 =>
    some x2
set_option maxHeartbeats 4000000 in
set_option maxRecDepth 100000 in
theorem ok_X12_quotients {G : GT} {d : Nat} (hd : 3 ≤ d) {w : Wd} (l1 : Int32) {r : Int32} (h : f_X12_quotients l1 w = some r) : uC G yX12_quotients mX12_quotients d [.ref 44, .int l1] w (some (.int r)) w := by
  obtain ⟨d, rfl⟩ : ∃ e, d = e + 1 := ⟨d - 1, by omega⟩
  unfold f_X12_quotients at h
  refine uC_of (lv := [some (.ref 44), some (.int l1)]) 0 pn_X12 ⟨rfl, rfl⟩ (Nat.le_of_ble_eq_true rfl) rfl ?_
  refine V.aload_n (pc := 0) dX12_quotients_0 rfl ?_
  refine V.iload_n (pc := 1) dX12_quotients_1 rfl ?_
  refine U.callV (pc := 2) (As := [.int l1]) (st := []) dX12_quotients_2 l_RX12_169 (ok_X12_isSet (by omega) l1 ) lx_44 ly_44 cn_12 (Nat.le_of_ble_eq_true rfl) rfl rfl (Nat.le_of_ble_eq_true rfl) ?_
  rcases ite_e h with ⟨c, h⟩ | ⟨c, h⟩
  · refine V.if_eq_t (t := 21) (pc := 5) dX12_quotients_5 (by decide) c ?_
    refine V.iconst (pc := 21) dX12_quotients_21 ic_m1 ?_
    obtain rfl := Option.some.inj h
    exact V.iret (pc := 22) dX12_quotients_22 rfl (Nat.le_refl _) (Nat.le_refl _)
  · refine V.if_eq_f (t := 21) (pc := 5) dX12_quotients_5 (by decide) c ?_
    refine V.aload_n (pc := 8) dX12_quotients_8 rfl ?_
    refine V.iload_n (pc := 9) dX12_quotients_9 rfl ?_
    refine V.aload_n (pc := 10) dX12_quotients_10 rfl ?_
    refine V.iload_n (pc := 11) dX12_quotients_11 rfl ?_
    obtain ⟨x1, ex1, h⟩ := bnd_e h
    refine U.callV (pc := 12) (As := [.int l1]) (st := [.int l1, .ref 44]) dX12_quotients_12 l_RX12_182 (ok_X12_inverses (by omega) l1 ex1) lx_44 ly_44 cn_12 (Nat.le_of_ble_eq_true rfl) rfl rfl (Nat.le_of_ble_eq_true rfl) ?_
    obtain ⟨x2, ex2, h⟩ := bnd_e h
    refine U.callV (pc := 15) (As := [.int l1, .int x1]) (st := []) dX12_quotients_15 l_RX12_206 (ok_X12_productsOfTwo (by omega) l1 x1 ex2) lx_44 ly_44 cn_12 (Nat.le_of_ble_eq_true rfl) rfl rfl (Nat.le_of_ble_eq_true rfl) ?_
    refine V.goto (t := 22) (pc := 18) dX12_quotients_18 (by decide) ?_
    obtain rfl := Option.some.inj h
    exact V.iret (pc := 22) dX12_quotients_22 rfl (Nat.le_refl _) (Nat.le_refl _)
theorem dX11_even_0 : decode cX11_even 0 = .ok (.aload_n 0, 1) := by decide +kernel
theorem dX11_even_1 : decode cX11_even 1 = .ok (.getfield 28, 3) := by decide +kernel
theorem dX11_even_4 : decode cX11_even 4 = .ok (.iload_n 1, 1) := by decide +kernel
theorem dX11_even_5 : decode cX11_even 5 = .ok (.invokevirtual 118, 3) := by decide +kernel
theorem dX11_even_8 : decode cX11_even 8 = .ok (.ifCond .ne 5, 3) := by decide +kernel
theorem dX11_even_11 : decode cX11_even 11 = .ok (.iconst (-1), 1) := by decide +kernel
theorem dX11_even_12 : decode cX11_even 12 = .ok (.ireturn, 1) := by decide +kernel
theorem dX11_even_13 : decode cX11_even 13 = .ok (.aload_n 0, 1) := by decide +kernel
theorem dX11_even_14 : decode cX11_even 14 = .ok (.getfield 28, 3) := by decide +kernel
theorem dX11_even_17 : decode cX11_even 17 = .ok (.iload_n 1, 1) := by decide +kernel
theorem dX11_even_18 : decode cX11_even 18 = .ok (.invokevirtual 143, 3) := by decide +kernel
theorem dX11_even_21 : decode cX11_even 21 = .ok (.iload_n 1, 1) := by decide +kernel
theorem dX11_even_22 : decode cX11_even 22 = .ok (.if_icmp .ne 7, 3) := by decide +kernel
theorem dX11_even_25 : decode cX11_even 25 = .ok (.iconst 1, 1) := by decide +kernel
theorem dX11_even_26 : decode cX11_even 26 = .ok (.goto 4, 3) := by decide +kernel
theorem dX11_even_29 : decode cX11_even 29 = .ok (.iconst 0, 1) := by decide +kernel
theorem dX11_even_30 : decode cX11_even 30 = .ok (.ireturn, 1) := by decide +kernel
def f_X11_even (l1 : Int32) (w : Wd) : Option Int32 :=
  if (f_X4_holdsSet l1 w) = 0 then
    some (-1)
  else
    bnd (f_X4_inversesOf l1 w) fun x1 =>
    if x1 = l1 then
      some 1
    else
      some 0
set_option maxHeartbeats 4000000 in
set_option maxRecDepth 100000 in
theorem ok_X11_even {G : GT} {d : Nat} (hd : 2 ≤ d) {w : Wd} (l1 : Int32) {r : Int32} (h : f_X11_even l1 w = some r) : uC G yX11_even mX11_even d [.ref 0, .int l1] w (some (.int r)) w := by
  obtain ⟨d, rfl⟩ : ∃ e, d = e + 1 := ⟨d - 1, by omega⟩
  unfold f_X11_even at h
  refine uC_of (lv := [some (.ref 0), some (.int l1)]) 0 pn_X11 ⟨rfl, rfl⟩ (Nat.le_of_ble_eq_true rfl) rfl ?_
  refine V.aload_n (pc := 0) dX11_even_0 rfl ?_
  refine V.getR (t := 6) (pc := 1) dX11_even_1 f_RX11_28 k_cl11 lx_0 ly_0 rb_11_2 rr_0_2 ?_
  refine V.iload_n (pc := 4) dX11_even_4 rfl ?_
  refine U.callV (pc := 5) (As := [.int l1]) (st := []) dX11_even_5 l_RX11_118 (ok_X4_holdsSet (by omega) l1 ) lx_6 ly_6 cn_4 (Nat.le_of_ble_eq_true rfl) rfl rfl (Nat.le_of_ble_eq_true rfl) ?_
  rcases ite_e h with ⟨c, h⟩ | ⟨c, h⟩
  · refine V.if_ne_f (t := 13) (pc := 8) dX11_even_8 (by decide) c ?_
    refine V.iconst (pc := 11) dX11_even_11 ic_m1 ?_
    obtain rfl := Option.some.inj h
    exact V.iret (pc := 12) dX11_even_12 rfl (Nat.le_refl _) (Nat.le_refl _)
  · refine V.if_ne_t (t := 13) (pc := 8) dX11_even_8 (by decide) c ?_
    refine V.aload_n (pc := 13) dX11_even_13 rfl ?_
    refine V.getR (t := 6) (pc := 14) dX11_even_14 f_RX11_28 k_cl11 lx_0 ly_0 rb_11_2 rr_0_2 ?_
    refine V.iload_n (pc := 17) dX11_even_17 rfl ?_
    obtain ⟨x1, ex1, h⟩ := bnd_e h
    refine U.callV (pc := 18) (As := [.int l1]) (st := []) dX11_even_18 l_RX11_143 (ok_X4_inversesOf (by omega) l1 ex1) lx_6 ly_6 cn_4 (Nat.le_of_ble_eq_true rfl) rfl rfl (Nat.le_of_ble_eq_true rfl) ?_
    refine V.iload_n (pc := 21) dX11_even_21 rfl ?_
    rcases ite_e h with ⟨c, h⟩ | ⟨c, h⟩
    · refine V.icmp_ne_f (t := 29) (pc := 22) dX11_even_22 (by decide) c ?_
      refine V.iconst (pc := 25) dX11_even_25 ic_1 ?_
      refine V.goto (t := 30) (pc := 26) dX11_even_26 (by decide) ?_
      obtain rfl := Option.some.inj h
      exact V.iret (pc := 30) dX11_even_30 rfl (Nat.le_refl _) (Nat.le_refl _)
    · refine V.icmp_ne_t (t := 29) (pc := 22) dX11_even_22 (by decide) c ?_
      refine V.iconst (pc := 29) dX11_even_29 ic_0 ?_
      obtain rfl := Option.some.inj h
      exact V.iret (pc := 30) dX11_even_30 rfl (Nat.le_refl _) (Nat.le_refl _)
