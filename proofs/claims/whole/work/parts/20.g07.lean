theorem dX4_countSubgroups_0 : decode cX4_countSubgroups 0 = .ok (.aload_n 0, 1) := by decide +kernel
theorem dX4_countSubgroups_1 : decode cX4_countSubgroups 1 = .ok (.getfield 55, 3) := by decide +kernel
theorem dX4_countSubgroups_4 : decode cX4_countSubgroups 4 = .ok (.iconst (-1), 1) := by decide +kernel
theorem dX4_countSubgroups_5 : decode cX4_countSubgroups 5 = .ok (.if_icmp .ne 72, 3) := by decide +kernel
theorem dX4_countSubgroups_8 : decode cX4_countSubgroups 8 = .ok (.aload_n 0, 1) := by decide +kernel
theorem dX4_countSubgroups_9 : decode cX4_countSubgroups 9 = .ok (.getfield 27, 3) := by decide +kernel
theorem dX4_countSubgroups_12 : decode cX4_countSubgroups 12 = .ok (.iconst 0, 1) := by decide +kernel
theorem dX4_countSubgroups_13 : decode cX4_countSubgroups 13 = .ok (.iconst 1, 1) := by decide +kernel
theorem dX4_countSubgroups_14 : decode cX4_countSubgroups 14 = .ok (.iastore, 1) := by decide +kernel
theorem dX4_countSubgroups_15 : decode cX4_countSubgroups 15 = .ok (.aload_n 0, 1) := by decide +kernel
theorem dX4_countSubgroups_16 : decode cX4_countSubgroups 16 = .ok (.iconst 1, 1) := by decide +kernel
theorem dX4_countSubgroups_17 : decode cX4_countSubgroups 17 = .ok (.putfield 55, 3) := by decide +kernel
theorem dX4_countSubgroups_20 : decode cX4_countSubgroups 20 = .ok (.iconst 0, 1) := by decide +kernel
theorem dX4_countSubgroups_21 : decode cX4_countSubgroups 21 = .ok (.istore_n 1, 1) := by decide +kernel
theorem dX4_countSubgroups_22 : decode cX4_countSubgroups 22 = .ok (.iload_n 1, 1) := by decide +kernel
theorem dX4_countSubgroups_23 : decode cX4_countSubgroups 23 = .ok (.aload_n 0, 1) := by decide +kernel
theorem dX4_countSubgroups_24 : decode cX4_countSubgroups 24 = .ok (.getfield 55, 3) := by decide +kernel
theorem dX4_countSubgroups_27 : decode cX4_countSubgroups 27 = .ok (.if_icmp .ge 50, 3) := by decide +kernel
theorem dX4_countSubgroups_30 : decode cX4_countSubgroups 30 = .ok (.iload_n 1, 1) := by decide +kernel
theorem dX4_countSubgroups_31 : decode cX4_countSubgroups 31 = .ok (.sipush 128, 3) := by decide +kernel
theorem dX4_countSubgroups_34 : decode cX4_countSubgroups 34 = .ok (.if_icmp .ge 43, 3) := by decide +kernel
theorem dX4_countSubgroups_37 : decode cX4_countSubgroups 37 = .ok (.iconst 0, 1) := by decide +kernel
theorem dX4_countSubgroups_38 : decode cX4_countSubgroups 38 = .ok (.istore_n 2, 1) := by decide +kernel
theorem dX4_countSubgroups_39 : decode cX4_countSubgroups 39 = .ok (.iload_n 2, 1) := by decide +kernel
theorem dX4_countSubgroups_40 : decode cX4_countSubgroups 40 = .ok (.aload_n 0, 1) := by decide +kernel
theorem dX4_countSubgroups_41 : decode cX4_countSubgroups 41 = .ok (.getfield 30, 3) := by decide +kernel
theorem dX4_countSubgroups_44 : decode cX4_countSubgroups 44 = .ok (.if_icmp .ge 27, 3) := by decide +kernel
theorem dX4_countSubgroups_47 : decode cX4_countSubgroups 47 = .ok (.aload_n 0, 1) := by decide +kernel
theorem dX4_countSubgroups_48 : decode cX4_countSubgroups 48 = .ok (.aload_n 0, 1) := by decide +kernel
theorem dX4_countSubgroups_49 : decode cX4_countSubgroups 49 = .ok (.aload_n 0, 1) := by decide +kernel
theorem dX4_countSubgroups_50 : decode cX4_countSubgroups 50 = .ok (.getfield 27, 3) := by decide +kernel
theorem dX4_countSubgroups_53 : decode cX4_countSubgroups 53 = .ok (.iload_n 1, 1) := by decide +kernel
theorem dX4_countSubgroups_54 : decode cX4_countSubgroups 54 = .ok (.iaload, 1) := by decide +kernel
theorem dX4_countSubgroups_55 : decode cX4_countSubgroups 55 = .ok (.iconst 1, 1) := by decide +kernel
theorem dX4_countSubgroups_56 : decode cX4_countSubgroups 56 = .ok (.iload_n 2, 1) := by decide +kernel
theorem dX4_countSubgroups_57 : decode cX4_countSubgroups 57 = .ok (.ishl, 1) := by decide +kernel
theorem dX4_countSubgroups_58 : decode cX4_countSubgroups 58 = .ok (.ior, 1) := by decide +kernel
theorem dX4_countSubgroups_59 : decode cX4_countSubgroups 59 = .ok (.invokevirtual 87, 3) := by decide +kernel
theorem dX4_countSubgroups_62 : decode cX4_countSubgroups 62 = .ok (.invokevirtual 90, 3) := by decide +kernel
theorem dX4_countSubgroups_65 : decode cX4_countSubgroups 65 = .ok (.iinc 2 1, 3) := by decide +kernel
theorem dX4_countSubgroups_68 : decode cX4_countSubgroups 68 = .ok (.goto (-29), 3) := by decide +kernel
theorem dX4_countSubgroups_71 : decode cX4_countSubgroups 71 = .ok (.iinc 1 1, 3) := by decide +kernel
theorem dX4_countSubgroups_74 : decode cX4_countSubgroups 74 = .ok (.goto (-52), 3) := by decide +kernel
theorem dX4_countSubgroups_77 : decode cX4_countSubgroups 77 = .ok (.aload_n 0, 1) := by decide +kernel
theorem dX4_countSubgroups_78 : decode cX4_countSubgroups 78 = .ok (.getfield 55, 3) := by decide +kernel
theorem dX4_countSubgroups_81 : decode cX4_countSubgroups 81 = .ok (.ireturn, 1) := by decide +kernel
def f_X4_countSubgroups_B39b (k22 : Int32 → Wd → Option (Int32 × Wd)) (k39 : Int32 → Int32 → Wd → Option (Int32 × Wd)) (l1 : Int32) (l2 : Int32) (w : Wd) : Option (Int32 × Wd) :=
  if (w.1 6 7) ≤ l2 then
    k22 (l1 + 1) w
  else
    rdI w 12 128 l1 fun x1 =>
    bnd2 (f_X4_spanOf (x1 ||| (1 <<< (l2 &&& 31))) w) fun x2 w3 =>
    bnd (f_X4_addSubgroup x2 w3) fun w4 =>
    k39 l1 (l2 + 1) w4
def f_X4_countSubgroups_L39 (k22 : Int32 → Wd → Option (Int32 × Wd)) (n : Nat) : Int32 → Int32 → Wd → Option (Int32 × Wd) :=
  Nat.rec (fun _ _ _ => none) (fun _ k => f_X4_countSubgroups_B39b k22 k) n
set_option maxHeartbeats 4000000 in
set_option maxRecDepth 100000 in
theorem t_X4_countSubgroups_L39 {G : GT} {d : Nat} {k22 : Int32 → Wd → Option (Int32 × Wd)} (hd : 3 ≤ d + 1) (h22 : ∀ (l1 : Int32) (w : Wd) (r : Int32) (w' : Wd), k22 l1 w = some (r, w') → U (vf G mX4_countSubgroups (d + 1)) 22 [some (.ref 6), some (.int l1), none] [] w (some (.int r), 70, r0, w')) : ∀ (n : Nat) (l1 : Int32) (l2 : Int32) (w : Wd) (r : Int32) (w' : Wd), f_X4_countSubgroups_L39 k22 n l1 l2 w = some (r, w') → U (vf G mX4_countSubgroups (d + 1)) 39 [some (.ref 6), some (.int l1), some (.int l2)] [] w (some (.int r), 70, r0, w') := by
  intro n
  induction n with
  | zero => intro l1 l2 w r w' h; cases h
  | succ n h39 =>
    intro l1 l2 w r w' h
    have h : f_X4_countSubgroups_B39b k22 (f_X4_countSubgroups_L39 k22 n) l1 l2 w = some (r, w') := h
    unfold f_X4_countSubgroups_B39b at h
    refine V.iload_n (pc := 39) dX4_countSubgroups_39 rfl ?_
    refine V.aload_n (pc := 40) dX4_countSubgroups_40 rfl ?_
    refine V.getI (pc := 41) dX4_countSubgroups_41 f_RX4_30 k_cl4 lx_6 ly_6 rb_4_7 ?_
    rcases ite_e h with ⟨c, h⟩ | ⟨c, h⟩
    · refine V.icmp_ge_t (t := 71) (pc := 44) dX4_countSubgroups_44 (by decide) c ?_
      refine V.iinc (lv' := [some (.ref 6), some (.int (l1 + 1)), some (.int l2)]) (pc := 71) dX4_countSubgroups_71 (Nat.le_of_ble_eq_true rfl) rfl rfl (v := (l1 + 1)) (by rw [show Int32.ofInt 1 = 1 from by decide]) rfl ?_
      refine V.goto (t := 22) (pc := 74) dX4_countSubgroups_74 (by decide) ?_
      refine V.weak (lv' := [some (.ref 6), some (.int (l1 + 1)), none]) (And.intro rfl (And.intro rfl trivial)) ?_
      exact h22 (l1 + 1) w _ _ h
    · refine V.icmp_ge_f (t := 71) (pc := 44) dX4_countSubgroups_44 (by decide) c ?_
      refine V.aload_n (pc := 47) dX4_countSubgroups_47 rfl ?_
      refine V.aload_n (pc := 48) dX4_countSubgroups_48 rfl ?_
      refine V.aload_n (pc := 49) dX4_countSubgroups_49 rfl ?_
      refine V.getR (t := 12) (pc := 50) dX4_countSubgroups_50 f_RX4_27 k_cl4 lx_6 ly_6 rb_4_5 rr_6_5 ?_
      refine V.iload_n (pc := 53) dX4_countSubgroups_53 rfl ?_
      obtain ⟨x1, ix1, ex1, h⟩ := rdI_e h
      refine V.ialdX (pc := 54) dX4_countSubgroups_54 lx_12 ly_12 ix1 ex1 ?_
      refine V.iconst (pc := 55) dX4_countSubgroups_55 ic_1 ?_
      refine V.iload_n (pc := 56) dX4_countSubgroups_56 rfl ?_
      refine V.ishl (pc := 57) dX4_countSubgroups_57 ?_
      refine V.ior (pc := 58) dX4_countSubgroups_58 ?_
      obtain ⟨x2, w3, ew3, h⟩ := bnd2_e h
      refine U.callV (pc := 59) (As := [.int (x1 ||| (1 <<< (l2 &&& 31)))]) (st := [.ref 6]) dX4_countSubgroups_59 l_RX4_87 (ok_X4_spanOf (by omega) (x1 ||| (1 <<< (l2 &&& 31))) ew3) lx_6 ly_6 cn_4 (Nat.le_of_ble_eq_true rfl) rfl rfl (Nat.le_of_ble_eq_true rfl) ?_
      obtain ⟨w4, ew4, h⟩ := bnd_e h
      refine U.callV (pc := 62) (As := [.int x2]) (st := []) dX4_countSubgroups_62 l_RX4_90 (ok_X4_addSubgroup (by omega) x2 ew4) lx_6 ly_6 cn_4 (Nat.le_of_ble_eq_true rfl) rfl rfl (Nat.le_of_ble_eq_true rfl) ?_
      refine V.iinc (lv' := [some (.ref 6), some (.int l1), some (.int (l2 + 1))]) (pc := 65) dX4_countSubgroups_65 (Nat.le_of_ble_eq_true rfl) rfl rfl (v := (l2 + 1)) (by rw [show Int32.ofInt 1 = 1 from by decide]) rfl ?_
      refine V.goto (t := 39) (pc := 68) dX4_countSubgroups_68 (by decide) ?_
      exact h39 l1 (l2 + 1) w4 _ _ h
def f_X4_countSubgroups_B22b (k22 : Int32 → Wd → Option (Int32 × Wd)) (l1 : Int32) (w : Wd) : Option (Int32 × Wd) :=
  if (w.1 6 9) ≤ l1 then
    some ((w.1 6 9), w)
  else
    if 128 ≤ l1 then
      some ((w.1 6 9), w)
    else
      f_X4_countSubgroups_L39 k22 FU l1 0 w
def f_X4_countSubgroups_L22 (n : Nat) : Int32 → Wd → Option (Int32 × Wd) :=
  Nat.rec (fun _ _ => none) (fun _ k => f_X4_countSubgroups_B22b k) n
set_option maxHeartbeats 4000000 in
set_option maxRecDepth 100000 in
theorem t_X4_countSubgroups_L22 {G : GT} {d : Nat} (hd : 3 ≤ d + 1)  : ∀ (n : Nat) (l1 : Int32) (w : Wd) (r : Int32) (w' : Wd), f_X4_countSubgroups_L22 n l1 w = some (r, w') → U (vf G mX4_countSubgroups (d + 1)) 22 [some (.ref 6), some (.int l1), none] [] w (some (.int r), 70, r0, w') := by
  intro n
  induction n with
  | zero => intro l1 w r w' h; cases h
  | succ n h22 =>
    intro l1 w r w' h
    have h : f_X4_countSubgroups_B22b (f_X4_countSubgroups_L22 n) l1 w = some (r, w') := h
    unfold f_X4_countSubgroups_B22b at h
    refine V.iload_n (pc := 22) dX4_countSubgroups_22 rfl ?_
    refine V.aload_n (pc := 23) dX4_countSubgroups_23 rfl ?_
    refine V.getI (pc := 24) dX4_countSubgroups_24 f_RX4_55 k_cl4 lx_6 ly_6 rb_4_9 ?_
    rcases ite_e h with ⟨c, h⟩ | ⟨c, h⟩
    · refine V.icmp_ge_t (t := 77) (pc := 27) dX4_countSubgroups_27 (by decide) c ?_
      refine V.aload_n (pc := 77) dX4_countSubgroups_77 rfl ?_
      refine V.getI (pc := 78) dX4_countSubgroups_78 f_RX4_55 k_cl4 lx_6 ly_6 rb_4_9 ?_
      obtain ⟨rfl, rfl⟩ := Prod.mk.inj (Option.some.inj h)
      exact V.iret (pc := 81) dX4_countSubgroups_81 rfl (Nat.le_refl _) (Nat.le_refl _)
    · refine V.icmp_ge_f (t := 77) (pc := 27) dX4_countSubgroups_27 (by decide) c ?_
      refine V.iload_n (pc := 30) dX4_countSubgroups_30 rfl ?_
      refine V.sipush (pc := 31) dX4_countSubgroups_31 sp_128 ?_
      rcases ite_e h with ⟨c, h⟩ | ⟨c, h⟩
      · refine V.icmp_ge_t (t := 77) (pc := 34) dX4_countSubgroups_34 (by decide) c ?_
        refine V.aload_n (pc := 77) dX4_countSubgroups_77 rfl ?_
        refine V.getI (pc := 78) dX4_countSubgroups_78 f_RX4_55 k_cl4 lx_6 ly_6 rb_4_9 ?_
        obtain ⟨rfl, rfl⟩ := Prod.mk.inj (Option.some.inj h)
        exact V.iret (pc := 81) dX4_countSubgroups_81 rfl (Nat.le_refl _) (Nat.le_refl _)
      · refine V.icmp_ge_f (t := 77) (pc := 34) dX4_countSubgroups_34 (by decide) c ?_
        refine V.iconst (pc := 37) dX4_countSubgroups_37 ic_0 ?_
        refine V.istore_n (lv' := [some (.ref 6), some (.int l1), some (.int 0)]) (pc := 38) dX4_countSubgroups_38 (Nat.le_of_ble_eq_true rfl) rfl rfl ?_
        exact t_X4_countSubgroups_L39 hd h22 FU l1 0 w _ _ h
def f_X4_countSubgroups (w : Wd) : Option (Int32 × Wd) :=
  if (w.1 6 9) = (-1) then
    wrI w 12 128 0 1 fun w1 =>
    letW (sI w1 6 9 1) fun w2 =>
    f_X4_countSubgroups_L22  FU 0 w2
  else
    some ((w.1 6 9), w)
set_option maxHeartbeats 4000000 in
set_option maxRecDepth 100000 in
theorem ok_X4_countSubgroups {G : GT} {d : Nat} (hd : 3 ≤ d) {w : Wd}  {r : Int32} {w' : Wd} (h : f_X4_countSubgroups  w = some (r, w')) : uC G yX4_countSubgroups mX4_countSubgroups d [.ref 6] w (some (.int r)) w' := by
  obtain ⟨d, rfl⟩ : ∃ e, d = e + 1 := ⟨d - 1, by omega⟩
  unfold f_X4_countSubgroups at h
  refine uC_of (lv := [some (.ref 6), none, none]) 2 pn_X4 ⟨rfl, rfl⟩ (Nat.le_of_ble_eq_true rfl) rfl ?_
  refine V.aload_n (pc := 0) dX4_countSubgroups_0 rfl ?_
  refine V.getI (pc := 1) dX4_countSubgroups_1 f_RX4_55 k_cl4 lx_6 ly_6 rb_4_9 ?_
  refine V.iconst (pc := 4) dX4_countSubgroups_4 ic_m1 ?_
  rcases ite_e h with ⟨c, h⟩ | ⟨c, h⟩
  · refine V.icmp_ne_f (t := 77) (pc := 5) dX4_countSubgroups_5 (by decide) c ?_
    refine V.aload_n (pc := 8) dX4_countSubgroups_8 rfl ?_
    refine V.getR (t := 12) (pc := 9) dX4_countSubgroups_9 f_RX4_27 k_cl4 lx_6 ly_6 rb_4_5 rr_6_5 ?_
    refine V.iconst (pc := 12) dX4_countSubgroups_12 ic_0 ?_
    refine V.iconst (pc := 13) dX4_countSubgroups_13 ic_1 ?_
    obtain ⟨w1, iw1, ew1, h⟩ := wrI_e h
    refine V.iastX (pc := 14) dX4_countSubgroups_14 lx_12 ly_12 iw1 ew1 ?_
    refine V.aload_n (pc := 15) dX4_countSubgroups_15 rfl ?_
    refine V.iconst (pc := 16) dX4_countSubgroups_16 ic_1 ?_
    obtain ⟨w2, ew2, h⟩ := letW_e h
    refine V.putIX (pc := 17) dX4_countSubgroups_17 f_RX4_55 k_cl4 lx_6 ly_6 rb_4_9 (fin_I (T0 := TX4) rfl rfl rfl) ew2 ?_
    refine V.iconst (pc := 20) dX4_countSubgroups_20 ic_0 ?_
    refine V.istore_n (lv' := [some (.ref 6), some (.int 0), none]) (pc := 21) dX4_countSubgroups_21 (Nat.le_of_ble_eq_true rfl) rfl rfl ?_
    exact t_X4_countSubgroups_L22 hd FU 0 w2 _ _ h
  · refine V.icmp_ne_t (t := 77) (pc := 5) dX4_countSubgroups_5 (by decide) c ?_
    refine V.aload_n (pc := 77) dX4_countSubgroups_77 rfl ?_
    refine V.getI (pc := 78) dX4_countSubgroups_78 f_RX4_55 k_cl4 lx_6 ly_6 rb_4_9 ?_
    obtain ⟨rfl, rfl⟩ := Prod.mk.inj (Option.some.inj h)
    exact V.iret (pc := 81) dX4_countSubgroups_81 rfl (Nat.le_refl _) (Nat.le_refl _)
theorem dX11_subgroups_0 : decode cX11_subgroups 0 = .ok (.aload_n 0, 1) := by decide +kernel
theorem dX11_subgroups_1 : decode cX11_subgroups 1 = .ok (.getfield 28, 3) := by decide +kernel
theorem dX11_subgroups_4 : decode cX11_subgroups 4 = .ok (.invokevirtual 171, 3) := by decide +kernel
theorem dX11_subgroups_7 : decode cX11_subgroups 7 = .ok (.ireturn, 1) := by decide +kernel
def f_X11_subgroups (w : Wd) : Option (Int32 × Wd) :=
  bnd2 (f_X4_countSubgroups  w) fun x1 w2 =>
  some (x1, w2)
set_option maxHeartbeats 4000000 in
set_option maxRecDepth 100000 in
theorem ok_X11_subgroups {G : GT} {d : Nat} (hd : 4 ≤ d) {w : Wd}  {r : Int32} {w' : Wd} (h : f_X11_subgroups  w = some (r, w')) : uC G yX11_subgroups mX11_subgroups d [.ref 0] w (some (.int r)) w' := by
  obtain ⟨d, rfl⟩ : ∃ e, d = e + 1 := ⟨d - 1, by omega⟩
  unfold f_X11_subgroups at h
  refine uC_of (lv := [some (.ref 0)]) 0 pn_X11 ⟨rfl, rfl⟩ (Nat.le_of_ble_eq_true rfl) rfl ?_
  refine V.aload_n (pc := 0) dX11_subgroups_0 rfl ?_
  refine V.getR (t := 6) (pc := 1) dX11_subgroups_1 f_RX11_28 k_cl11 lx_0 ly_0 rb_11_2 rr_0_2 ?_
  obtain ⟨x1, w2, ew2, h⟩ := bnd2_e h
  refine U.callV (pc := 4) (As := []) (st := []) dX11_subgroups_4 l_RX11_171 (ok_X4_countSubgroups (by omega)  ew2) lx_6 ly_6 cn_4 (Nat.le_of_ble_eq_true rfl) rfl rfl (Nat.le_of_ble_eq_true rfl) ?_
  obtain ⟨rfl, rfl⟩ := Prod.mk.inj (Option.some.inj h)
  exact V.iret (pc := 7) dX11_subgroups_7 rfl (Nat.le_refl _) (Nat.le_refl _)
theorem dX12_isSubgroup_0 : decode cX12_isSubgroup 0 = .ok (.iload_n 1, 1) := by decide +kernel
theorem dX12_isSubgroup_1 : decode cX12_isSubgroup 1 = .ok (.iconst 0, 1) := by decide +kernel
theorem dX12_isSubgroup_2 : decode cX12_isSubgroup 2 = .ok (.invokestatic 128, 3) := by decide +kernel
theorem dX12_isSubgroup_5 : decode cX12_isSubgroup 5 = .ok (.ifCond .eq 20, 3) := by decide +kernel
theorem dX12_isSubgroup_8 : decode cX12_isSubgroup 8 = .ok (.aload_n 0, 1) := by decide +kernel
theorem dX12_isSubgroup_9 : decode cX12_isSubgroup 9 = .ok (.getfield 27, 3) := by decide +kernel
theorem dX12_isSubgroup_12 : decode cX12_isSubgroup 12 = .ok (.iload_n 1, 1) := by decide +kernel
theorem dX12_isSubgroup_13 : decode cX12_isSubgroup 13 = .ok (.iaload, 1) := by decide +kernel
theorem dX12_isSubgroup_14 : decode cX12_isSubgroup 14 = .ok (.iload_n 1, 1) := by decide +kernel
theorem dX12_isSubgroup_15 : decode cX12_isSubgroup 15 = .ok (.iconst (-1), 1) := by decide +kernel
theorem dX12_isSubgroup_16 : decode cX12_isSubgroup 16 = .ok (.ixor, 1) := by decide +kernel
theorem dX12_isSubgroup_17 : decode cX12_isSubgroup 17 = .ok (.iand, 1) := by decide +kernel
theorem dX12_isSubgroup_18 : decode cX12_isSubgroup 18 = .ok (.ifCond .ne 7, 3) := by decide +kernel
theorem dX12_isSubgroup_21 : decode cX12_isSubgroup 21 = .ok (.iconst 1, 1) := by decide +kernel
theorem dX12_isSubgroup_22 : decode cX12_isSubgroup 22 = .ok (.goto 4, 3) := by decide +kernel
theorem dX12_isSubgroup_25 : decode cX12_isSubgroup 25 = .ok (.iconst 0, 1) := by decide +kernel
theorem dX12_isSubgroup_26 : decode cX12_isSubgroup 26 = .ok (.ireturn, 1) := by decide +kernel
def f_X12_isSubgroup (l1 : Int32) (w : Wd) : Option Int32 :=
  if (f_X12_has l1 0) = 0 then
    some 0
  else
    rdI w 49 65536 l1 fun x1 =>
    if (x1 &&& (l1 ^^^ (-1))) = 0 then
      some 1
    else
      some 0
set_option maxHeartbeats 4000000 in
set_option maxRecDepth 100000 in
theorem ok_X12_isSubgroup {G : GT} {d : Nat} (hd : 1 ≤ d) {w : Wd} (l1 : Int32) {r : Int32} (h : f_X12_isSubgroup l1 w = some r) : uC G yX12_isSubgroup mX12_isSubgroup d [.ref 44, .int l1] w (some (.int r)) w := by
  obtain ⟨d, rfl⟩ : ∃ e, d = e + 1 := ⟨d - 1, by omega⟩
  unfold f_X12_isSubgroup at h
  refine uC_of (lv := [some (.ref 44), some (.int l1)]) 0 pn_X12 ⟨rfl, rfl⟩ (Nat.le_of_ble_eq_true rfl) rfl ?_
  refine V.iload_n (pc := 0) dX12_isSubgroup_0 rfl ?_
  refine V.iconst (pc := 1) dX12_isSubgroup_1 ic_0 ?_
  refine U.callS (pc := 2) (As := [.int l1, .int 0]) (st := []) dX12_isSubgroup_2 l_RX12_128 (ok_X12_has (by omega) l1 0 ) (Nat.le_of_ble_eq_true rfl) rfl rfl (Nat.le_of_ble_eq_true rfl) ?_
  rcases ite_e h with ⟨c, h⟩ | ⟨c, h⟩
  · refine V.if_eq_t (t := 25) (pc := 5) dX12_isSubgroup_5 (by decide) c ?_
    refine V.iconst (pc := 25) dX12_isSubgroup_25 ic_0 ?_
    obtain rfl := Option.some.inj h
    exact V.zret (pc := 26) dX12_isSubgroup_26 rfl (Or.inl rfl) (Nat.le_refl _) (Nat.le_refl _)
  · refine V.if_eq_f (t := 25) (pc := 5) dX12_isSubgroup_5 (by decide) c ?_
    refine V.aload_n (pc := 8) dX12_isSubgroup_8 rfl ?_
    refine V.getR (t := 49) (pc := 9) dX12_isSubgroup_9 f_RX12_27 k_cl12 lx_44 ly_44 rb_12_7 rr_44_7 ?_
    refine V.iload_n (pc := 12) dX12_isSubgroup_12 rfl ?_
    obtain ⟨x1, ix1, ex1, h⟩ := rdI_e h
    refine V.ialdX (pc := 13) dX12_isSubgroup_13 lx_49 ly_49 ix1 ex1 ?_
    refine V.iload_n (pc := 14) dX12_isSubgroup_14 rfl ?_
    refine V.iconst (pc := 15) dX12_isSubgroup_15 ic_m1 ?_
    refine V.ixor (pc := 16) dX12_isSubgroup_16 ?_
    refine V.iand (pc := 17) dX12_isSubgroup_17 ?_
    rcases ite_e h with ⟨c, h⟩ | ⟨c, h⟩
    · refine V.if_ne_f (t := 25) (pc := 18) dX12_isSubgroup_18 (by decide) c ?_
      refine V.iconst (pc := 21) dX12_isSubgroup_21 ic_1 ?_
      refine V.goto (t := 26) (pc := 22) dX12_isSubgroup_22 (by decide) ?_
      obtain rfl := Option.some.inj h
      exact V.zret (pc := 26) dX12_isSubgroup_26 rfl (Or.inr rfl) (Nat.le_refl _) (Nat.le_refl _)
    · refine V.if_ne_t (t := 25) (pc := 18) dX12_isSubgroup_18 (by decide) c ?_
      refine V.iconst (pc := 25) dX12_isSubgroup_25 ic_0 ?_
      obtain rfl := Option.some.inj h
      exact V.zret (pc := 26) dX12_isSubgroup_26 rfl (Or.inl rfl) (Nat.le_refl _) (Nat.le_refl _)
theorem dX12_subgroups_0 : decode cX12_subgroups 0 = .ok (.iconst 0, 1) := by decide +kernel
theorem dX12_subgroups_1 : decode cX12_subgroups 1 = .ok (.istore_n 1, 1) := by decide +kernel
theorem dX12_subgroups_2 : decode cX12_subgroups 2 = .ok (.iconst 1, 1) := by decide +kernel
theorem dX12_subgroups_3 : decode cX12_subgroups 3 = .ok (.istore_n 2, 1) := by decide +kernel
theorem dX12_subgroups_4 : decode cX12_subgroups 4 = .ok (.iload_n 2, 1) := by decide +kernel
theorem dX12_subgroups_5 : decode cX12_subgroups 5 = .ok (.aload_n 0, 1) := by decide +kernel
theorem dX12_subgroups_6 : decode cX12_subgroups 6 = .ok (.invokevirtual 143, 3) := by decide +kernel
theorem dX12_subgroups_9 : decode cX12_subgroups 9 = .ok (.if_icmp .gt 20, 3) := by decide +kernel
theorem dX12_subgroups_12 : decode cX12_subgroups 12 = .ok (.aload_n 0, 1) := by decide +kernel
theorem dX12_subgroups_13 : decode cX12_subgroups 13 = .ok (.iload_n 2, 1) := by decide +kernel
theorem dX12_subgroups_14 : decode cX12_subgroups 14 = .ok (.invokevirtual 191, 3) := by decide +kernel
theorem dX12_subgroups_17 : decode cX12_subgroups 17 = .ok (.ifCond .eq 6, 3) := by decide +kernel
theorem dX12_subgroups_20 : decode cX12_subgroups 20 = .ok (.iinc 1 1, 3) := by decide +kernel
theorem dX12_subgroups_23 : decode cX12_subgroups 23 = .ok (.iinc 2 2, 3) := by decide +kernel
theorem dX12_subgroups_26 : decode cX12_subgroups 26 = .ok (.goto (-22), 3) := by decide +kernel
theorem dX12_subgroups_29 : decode cX12_subgroups 29 = .ok (.iload_n 1, 1) := by decide +kernel
theorem dX12_subgroups_30 : decode cX12_subgroups 30 = .ok (.ireturn, 1) := by decide +kernel
def f_X12_subgroups_B4b (k4 : Int32 → Int32 → Wd → Option Int32) (l1 : Int32) (l2 : Int32) (w : Wd) : Option Int32 :=
  if (f_X12_all  w) < l2 then
    some l1
  else
    bnd (f_X12_isSubgroup l2 w) fun x1 =>
    if x1 = 0 then
      k4 l1 (l2 + 2) w
    else
      k4 (l1 + 1) (l2 + 2) w
def f_X12_subgroups_L4 (n : Nat) : Int32 → Int32 → Wd → Option Int32 :=
  Nat.rec (fun _ _ _ => none) (fun _ k => f_X12_subgroups_B4b k) n
set_option maxHeartbeats 4000000 in
set_option maxRecDepth 100000 in
theorem t_X12_subgroups_L4 {G : GT} {d : Nat} {w : Wd} (hd : 2 ≤ d + 1)  : ∀ (n : Nat) (l1 : Int32) (l2 : Int32) (r : Int32), f_X12_subgroups_L4 n l1 l2 w = some r → U (vf G mX12_subgroups (d + 1)) 4 [some (.ref 44), some (.int l1), some (.int l2)] [] w (some (.int r), 70, r0, w) := by
  intro n
  induction n with
  | zero => intro l1 l2 r h; cases h
  | succ n h4 =>
    intro l1 l2 r h
    have h : f_X12_subgroups_B4b (f_X12_subgroups_L4 n) l1 l2 w = some r := h
    unfold f_X12_subgroups_B4b at h
    refine V.iload_n (pc := 4) dX12_subgroups_4 rfl ?_
    refine V.aload_n (pc := 5) dX12_subgroups_5 rfl ?_
    refine U.callV (pc := 6) (As := []) (st := [.int l2]) dX12_subgroups_6 l_RX12_143 (ok_X12_all (by omega)  ) lx_44 ly_44 cn_12 (Nat.le_of_ble_eq_true rfl) rfl rfl (Nat.le_of_ble_eq_true rfl) ?_
    rcases ite_e h with ⟨c, h⟩ | ⟨c, h⟩
    · refine V.icmp_gt_t (t := 29) (pc := 9) dX12_subgroups_9 (by decide) c ?_
      refine V.iload_n (pc := 29) dX12_subgroups_29 rfl ?_
      obtain rfl := Option.some.inj h
      exact V.iret (pc := 30) dX12_subgroups_30 rfl (Nat.le_refl _) (Nat.le_refl _)
    · refine V.icmp_gt_f (t := 29) (pc := 9) dX12_subgroups_9 (by decide) c ?_
      refine V.aload_n (pc := 12) dX12_subgroups_12 rfl ?_
      refine V.iload_n (pc := 13) dX12_subgroups_13 rfl ?_
      obtain ⟨x1, ex1, h⟩ := bnd_e h
      refine U.callV (pc := 14) (As := [.int l2]) (st := []) dX12_subgroups_14 l_RX12_191 (ok_X12_isSubgroup (by omega) l2 ex1) lx_44 ly_44 cn_12 (Nat.le_of_ble_eq_true rfl) rfl rfl (Nat.le_of_ble_eq_true rfl) ?_
      rcases ite_e h with ⟨c, h⟩ | ⟨c, h⟩
      · refine V.if_eq_t (t := 23) (pc := 17) dX12_subgroups_17 (by decide) c ?_
        refine V.iinc (lv' := [some (.ref 44), some (.int l1), some (.int (l2 + 2))]) (pc := 23) dX12_subgroups_23 (Nat.le_of_ble_eq_true rfl) rfl rfl (v := (l2 + 2)) (by rw [show Int32.ofInt 2 = 2 from by decide]) rfl ?_
        refine V.goto (t := 4) (pc := 26) dX12_subgroups_26 (by decide) ?_
        exact h4 l1 (l2 + 2) _ h
      · refine V.if_eq_f (t := 23) (pc := 17) dX12_subgroups_17 (by decide) c ?_
        refine V.iinc (lv' := [some (.ref 44), some (.int (l1 + 1)), some (.int l2)]) (pc := 20) dX12_subgroups_20 (Nat.le_of_ble_eq_true rfl) rfl rfl (v := (l1 + 1)) (by rw [show Int32.ofInt 1 = 1 from by decide]) rfl ?_
        refine V.iinc (lv' := [some (.ref 44), some (.int (l1 + 1)), some (.int (l2 + 2))]) (pc := 23) dX12_subgroups_23 (Nat.le_of_ble_eq_true rfl) rfl rfl (v := (l2 + 2)) (by rw [show Int32.ofInt 2 = 2 from by decide]) rfl ?_
        refine V.goto (t := 4) (pc := 26) dX12_subgroups_26 (by decide) ?_
        exact h4 (l1 + 1) (l2 + 2) _ h
def f_X12_subgroups (w : Wd) : Option Int32 :=
  f_X12_subgroups_L4  FU 0 1 w
set_option maxHeartbeats 4000000 in
set_option maxRecDepth 100000 in
theorem ok_X12_subgroups {G : GT} {d : Nat} (hd : 2 ≤ d) {w : Wd}  {r : Int32} (h : f_X12_subgroups  w = some r) : uC G yX12_subgroups mX12_subgroups d [.ref 44] w (some (.int r)) w := by
  obtain ⟨d, rfl⟩ : ∃ e, d = e + 1 := ⟨d - 1, by omega⟩
  unfold f_X12_subgroups at h
  refine uC_of (lv := [some (.ref 44), none, none]) 2 pn_X12 ⟨rfl, rfl⟩ (Nat.le_of_ble_eq_true rfl) rfl ?_
  refine V.iconst (pc := 0) dX12_subgroups_0 ic_0 ?_
  refine V.istore_n (lv' := [some (.ref 44), some (.int 0), none]) (pc := 1) dX12_subgroups_1 (Nat.le_of_ble_eq_true rfl) rfl rfl ?_
  refine V.iconst (pc := 2) dX12_subgroups_2 ic_1 ?_
  refine V.istore_n (lv' := [some (.ref 44), some (.int 0), some (.int 1)]) (pc := 3) dX12_subgroups_3 (Nat.le_of_ble_eq_true rfl) rfl rfl ?_
  exact t_X12_subgroups_L4 hd FU 0 1 _ h
theorem dX4_isSubgroup_0 : decode cX4_isSubgroup 0 = .ok (.aload_n 0, 1) := by decide +kernel
theorem dX4_isSubgroup_1 : decode cX4_isSubgroup 1 = .ok (.iload_n 1, 1) := by decide +kernel
theorem dX4_isSubgroup_2 : decode cX4_isSubgroup 2 = .ok (.invokevirtual 87, 3) := by decide +kernel
theorem dX4_isSubgroup_5 : decode cX4_isSubgroup 5 = .ok (.iload_n 1, 1) := by decide +kernel
theorem dX4_isSubgroup_6 : decode cX4_isSubgroup 6 = .ok (.if_icmp .ne 7, 3) := by decide +kernel
theorem dX4_isSubgroup_9 : decode cX4_isSubgroup 9 = .ok (.iconst 1, 1) := by decide +kernel
theorem dX4_isSubgroup_10 : decode cX4_isSubgroup 10 = .ok (.goto 4, 3) := by decide +kernel
theorem dX4_isSubgroup_13 : decode cX4_isSubgroup 13 = .ok (.iconst 0, 1) := by decide +kernel
theorem dX4_isSubgroup_14 : decode cX4_isSubgroup 14 = .ok (.ireturn, 1) := by decide +kernel
def f_X4_isSubgroup (l1 : Int32) (w : Wd) : Option (Int32 × Wd) :=
  bnd2 (f_X4_spanOf l1 w) fun x1 w2 =>
  if x1 = l1 then
    some (1, w2)
  else
    some (0, w2)
set_option maxHeartbeats 4000000 in
set_option maxRecDepth 100000 in
theorem ok_X4_isSubgroup {G : GT} {d : Nat} (hd : 3 ≤ d) {w : Wd} (l1 : Int32) {r : Int32} {w' : Wd} (h : f_X4_isSubgroup l1 w = some (r, w')) : uC G yX4_isSubgroup mX4_isSubgroup d [.ref 6, .int l1] w (some (.int r)) w' := by
  obtain ⟨d, rfl⟩ : ∃ e, d = e + 1 := ⟨d - 1, by omega⟩
  unfold f_X4_isSubgroup at h
  refine uC_of (lv := [some (.ref 6), some (.int l1)]) 0 pn_X4 ⟨rfl, rfl⟩ (Nat.le_of_ble_eq_true rfl) rfl ?_
  refine V.aload_n (pc := 0) dX4_isSubgroup_0 rfl ?_
  refine V.iload_n (pc := 1) dX4_isSubgroup_1 rfl ?_
  obtain ⟨x1, w2, ew2, h⟩ := bnd2_e h
  refine U.callV (pc := 2) (As := [.int l1]) (st := []) dX4_isSubgroup_2 l_RX4_87 (ok_X4_spanOf (by omega) l1 ew2) lx_6 ly_6 cn_4 (Nat.le_of_ble_eq_true rfl) rfl rfl (Nat.le_of_ble_eq_true rfl) ?_
  refine V.iload_n (pc := 5) dX4_isSubgroup_5 rfl ?_
  rcases ite_e h with ⟨c, h⟩ | ⟨c, h⟩
  · refine V.icmp_ne_f (t := 13) (pc := 6) dX4_isSubgroup_6 (by decide) c ?_
    refine V.iconst (pc := 9) dX4_isSubgroup_9 ic_1 ?_
    refine V.goto (t := 14) (pc := 10) dX4_isSubgroup_10 (by decide) ?_
    obtain ⟨rfl, rfl⟩ := Prod.mk.inj (Option.some.inj h)
    exact V.zret (pc := 14) dX4_isSubgroup_14 rfl (Or.inr rfl) (Nat.le_refl _) (Nat.le_refl _)
  · refine V.icmp_ne_t (t := 13) (pc := 6) dX4_isSubgroup_6 (by decide) c ?_
    refine V.iconst (pc := 13) dX4_isSubgroup_13 ic_0 ?_
    obtain ⟨rfl, rfl⟩ := Prod.mk.inj (Option.some.inj h)
    exact V.zret (pc := 14) dX4_isSubgroup_14 rfl (Or.inl rfl) (Nat.le_refl _) (Nat.le_refl _)
theorem dX11_coset_0 : decode cX11_coset 0 = .ok (.aload_n 0, 1) := by decide +kernel
theorem dX11_coset_1 : decode cX11_coset 1 = .ok (.getfield 28, 3) := by decide +kernel
theorem dX11_coset_4 : decode cX11_coset 4 = .ok (.iload_n 1, 1) := by decide +kernel
theorem dX11_coset_5 : decode cX11_coset 5 = .ok (.invokevirtual 118, 3) := by decide +kernel
theorem dX11_coset_8 : decode cX11_coset 8 = .ok (.ifCond .eq 14, 3) := by decide +kernel
theorem dX11_coset_11 : decode cX11_coset 11 = .ok (.aload_n 0, 1) := by decide +kernel
theorem dX11_coset_12 : decode cX11_coset 12 = .ok (.getfield 28, 3) := by decide +kernel
theorem dX11_coset_15 : decode cX11_coset 15 = .ok (.iload_n 2, 1) := by decide +kernel
theorem dX11_coset_16 : decode cX11_coset 16 = .ok (.invokevirtual 107, 3) := by decide +kernel
theorem dX11_coset_19 : decode cX11_coset 19 = .ok (.ifCond .ne 5, 3) := by decide +kernel
theorem dX11_coset_22 : decode cX11_coset 22 = .ok (.iconst (-1), 1) := by decide +kernel
theorem dX11_coset_23 : decode cX11_coset 23 = .ok (.ireturn, 1) := by decide +kernel
theorem dX11_coset_24 : decode cX11_coset 24 = .ok (.aload_n 0, 1) := by decide +kernel
theorem dX11_coset_25 : decode cX11_coset 25 = .ok (.getfield 28, 3) := by decide +kernel
theorem dX11_coset_28 : decode cX11_coset 28 = .ok (.iload_n 1, 1) := by decide +kernel
theorem dX11_coset_29 : decode cX11_coset 29 = .ok (.invokevirtual 174, 3) := by decide +kernel
theorem dX11_coset_32 : decode cX11_coset 32 = .ok (.ifCond .eq 16, 3) := by decide +kernel
theorem dX11_coset_35 : decode cX11_coset 35 = .ok (.aload_n 0, 1) := by decide +kernel
theorem dX11_coset_36 : decode cX11_coset 36 = .ok (.getfield 28, 3) := by decide +kernel
theorem dX11_coset_39 : decode cX11_coset 39 = .ok (.iload_n 2, 1) := by decide +kernel
theorem dX11_coset_40 : decode cX11_coset 40 = .ok (.iload_n 1, 1) := by decide +kernel
theorem dX11_coset_41 : decode cX11_coset 41 = .ok (.iload_n 3, 1) := by decide +kernel
theorem dX11_coset_42 : decode cX11_coset 42 = .ok (.invokevirtual 136, 3) := by decide +kernel
theorem dX11_coset_45 : decode cX11_coset 45 = .ok (.goto 5, 3) := by decide +kernel
theorem dX11_coset_48 : decode cX11_coset 48 = .ok (.bipush (-2), 2) := by decide +kernel
theorem dX11_coset_50 : decode cX11_coset 50 = .ok (.ireturn, 1) := by decide +kernel
def f_X11_coset (l1 : Int32) (l2 : Int32) (l3 : Int32) (w : Wd) : Option (Int32 × Wd) :=
  if (f_X4_holdsSet l1 w) = 0 then
    some ((-1), w)
  else
    if (f_X4_holds l2 w) = 0 then
      some ((-1), w)
    else
      bnd2 (f_X4_isSubgroup l1 w) fun x1 w2 =>
      if x1 = 0 then
        some ((-2), w2)
      else
        bnd (f_X4_moved l2 l1 l3 w2) fun x3 =>
        some (x3, w2)
set_option maxHeartbeats 4000000 in
set_option maxRecDepth 100000 in
theorem ok_X11_coset {G : GT} {d : Nat} (hd : 4 ≤ d) {w : Wd} (l1 : Int32) (l2 : Int32) (l3 : Int32) {r : Int32} {w' : Wd} (h : f_X11_coset l1 l2 l3 w = some (r, w')) : uC G yX11_coset mX11_coset d [.ref 0, .int l1, .int l2, .int l3] w (some (.int r)) w' := by
  obtain ⟨d, rfl⟩ : ∃ e, d = e + 1 := ⟨d - 1, by omega⟩
  unfold f_X11_coset at h
  refine uC_of (lv := [some (.ref 0), some (.int l1), some (.int l2), some (.int l3)]) 0 pn_X11 ⟨rfl, rfl⟩ (Nat.le_of_ble_eq_true rfl) rfl ?_
  refine V.aload_n (pc := 0) dX11_coset_0 rfl ?_
  refine V.getR (t := 6) (pc := 1) dX11_coset_1 f_RX11_28 k_cl11 lx_0 ly_0 rb_11_2 rr_0_2 ?_
  refine V.iload_n (pc := 4) dX11_coset_4 rfl ?_
  refine U.callV (pc := 5) (As := [.int l1]) (st := []) dX11_coset_5 l_RX11_118 (ok_X4_holdsSet (by omega) l1 ) lx_6 ly_6 cn_4 (Nat.le_of_ble_eq_true rfl) rfl rfl (Nat.le_of_ble_eq_true rfl) ?_
  rcases ite_e h with ⟨c, h⟩ | ⟨c, h⟩
  · refine V.if_eq_t (t := 22) (pc := 8) dX11_coset_8 (by decide) c ?_
    refine V.iconst (pc := 22) dX11_coset_22 ic_m1 ?_
    obtain ⟨rfl, rfl⟩ := Prod.mk.inj (Option.some.inj h)
    exact V.iret (pc := 23) dX11_coset_23 rfl (Nat.le_refl _) (Nat.le_refl _)
  · refine V.if_eq_f (t := 22) (pc := 8) dX11_coset_8 (by decide) c ?_
    refine V.aload_n (pc := 11) dX11_coset_11 rfl ?_
    refine V.getR (t := 6) (pc := 12) dX11_coset_12 f_RX11_28 k_cl11 lx_0 ly_0 rb_11_2 rr_0_2 ?_
    refine V.iload_n (pc := 15) dX11_coset_15 rfl ?_
    refine U.callV (pc := 16) (As := [.int l2]) (st := []) dX11_coset_16 l_RX11_107 (ok_X4_holds (by omega) l2 ) lx_6 ly_6 cn_4 (Nat.le_of_ble_eq_true rfl) rfl rfl (Nat.le_of_ble_eq_true rfl) ?_
    rcases ite_e h with ⟨c, h⟩ | ⟨c, h⟩
    · refine V.if_ne_f (t := 24) (pc := 19) dX11_coset_19 (by decide) c ?_
      refine V.iconst (pc := 22) dX11_coset_22 ic_m1 ?_
      obtain ⟨rfl, rfl⟩ := Prod.mk.inj (Option.some.inj h)
      exact V.iret (pc := 23) dX11_coset_23 rfl (Nat.le_refl _) (Nat.le_refl _)
    · refine V.if_ne_t (t := 24) (pc := 19) dX11_coset_19 (by decide) c ?_
      refine V.aload_n (pc := 24) dX11_coset_24 rfl ?_
      refine V.getR (t := 6) (pc := 25) dX11_coset_25 f_RX11_28 k_cl11 lx_0 ly_0 rb_11_2 rr_0_2 ?_
      refine V.iload_n (pc := 28) dX11_coset_28 rfl ?_
      obtain ⟨x1, w2, ew2, h⟩ := bnd2_e h
      refine U.callV (pc := 29) (As := [.int l1]) (st := []) dX11_coset_29 l_RX11_174 (ok_X4_isSubgroup (by omega) l1 ew2) lx_6 ly_6 cn_4 (Nat.le_of_ble_eq_true rfl) rfl rfl (Nat.le_of_ble_eq_true rfl) ?_
      rcases ite_e h with ⟨c, h⟩ | ⟨c, h⟩
      · refine V.if_eq_t (t := 48) (pc := 32) dX11_coset_32 (by decide) c ?_
        refine V.bipush (pc := 48) dX11_coset_48 bp_m2 ?_
        obtain ⟨rfl, rfl⟩ := Prod.mk.inj (Option.some.inj h)
        exact V.iret (pc := 50) dX11_coset_50 rfl (Nat.le_refl _) (Nat.le_refl _)
      · refine V.if_eq_f (t := 48) (pc := 32) dX11_coset_32 (by decide) c ?_
        refine V.aload_n (pc := 35) dX11_coset_35 rfl ?_
        refine V.getR (t := 6) (pc := 36) dX11_coset_36 f_RX11_28 k_cl11 lx_0 ly_0 rb_11_2 rr_0_2 ?_
        refine V.iload_n (pc := 39) dX11_coset_39 rfl ?_
        refine V.iload_n (pc := 40) dX11_coset_40 rfl ?_
        refine V.iload_n (pc := 41) dX11_coset_41 rfl ?_
        obtain ⟨x3, ex3, h⟩ := bnd_e h
        refine U.callV (pc := 42) (As := [.int l2, .int l1, .int l3]) (st := []) dX11_coset_42 l_RX11_136 (ok_X4_moved (by omega) l2 l1 l3 ex3) lx_6 ly_6 cn_4 (Nat.le_of_ble_eq_true rfl) rfl rfl (Nat.le_of_ble_eq_true rfl) ?_
        refine V.goto (t := 50) (pc := 45) dX11_coset_45 (by decide) ?_
        obtain ⟨rfl, rfl⟩ := Prod.mk.inj (Option.some.inj h)
        exact V.iret (pc := 50) dX11_coset_50 rfl (Nat.le_refl _) (Nat.le_refl _)
theorem dX12_coset_0 : decode cX12_coset 0 = .ok (.aload_n 0, 1) := by decide +kernel
theorem dX12_coset_1 : decode cX12_coset 1 = .ok (.iload_n 1, 1) := by decide +kernel
theorem dX12_coset_2 : decode cX12_coset 2 = .ok (.invokevirtual 169, 3) := by decide +kernel
theorem dX12_coset_5 : decode cX12_coset 5 = .ok (.ifCond .eq 11, 3) := by decide +kernel
theorem dX12_coset_8 : decode cX12_coset 8 = .ok (.aload_n 0, 1) := by decide +kernel
theorem dX12_coset_9 : decode cX12_coset 9 = .ok (.iload_n 2, 1) := by decide +kernel
theorem dX12_coset_10 : decode cX12_coset 10 = .ok (.invokevirtual 163, 3) := by decide +kernel
theorem dX12_coset_13 : decode cX12_coset 13 = .ok (.ifCond .ne 5, 3) := by decide +kernel
theorem dX12_coset_16 : decode cX12_coset 16 = .ok (.iconst (-1), 1) := by decide +kernel
theorem dX12_coset_17 : decode cX12_coset 17 = .ok (.ireturn, 1) := by decide +kernel
theorem dX12_coset_18 : decode cX12_coset 18 = .ok (.aload_n 0, 1) := by decide +kernel
theorem dX12_coset_19 : decode cX12_coset 19 = .ok (.iload_n 1, 1) := by decide +kernel
theorem dX12_coset_20 : decode cX12_coset 20 = .ok (.invokevirtual 191, 3) := by decide +kernel
theorem dX12_coset_23 : decode cX12_coset 23 = .ok (.ifCond .eq 13, 3) := by decide +kernel
theorem dX12_coset_26 : decode cX12_coset 26 = .ok (.aload_n 0, 1) := by decide +kernel
theorem dX12_coset_27 : decode cX12_coset 27 = .ok (.iload_n 1, 1) := by decide +kernel
theorem dX12_coset_28 : decode cX12_coset 28 = .ok (.iload_n 2, 1) := by decide +kernel
theorem dX12_coset_29 : decode cX12_coset 29 = .ok (.iload_n 3, 1) := by decide +kernel
theorem dX12_coset_30 : decode cX12_coset 30 = .ok (.invokevirtual 178, 3) := by decide +kernel
theorem dX12_coset_33 : decode cX12_coset 33 = .ok (.goto 5, 3) := by decide +kernel
theorem dX12_coset_36 : decode cX12_coset 36 = .ok (.bipush (-2), 2) := by decide +kernel
theorem dX12_coset_38 : decode cX12_coset 38 = .ok (.ireturn, 1) := by decide +kernel
def f_X12_coset (l1 : Int32) (l2 : Int32) (l3 : Int32) (w : Wd) : Option Int32 :=
  if (f_X12_isSet l1 w) = 0 then
    some (-1)
  else
    if (f_X12_isElement l2 w) = 0 then
      some (-1)
    else
      bnd (f_X12_isSubgroup l1 w) fun x1 =>
      if x1 = 0 then
        some (-2)
      else
        bnd (f_X12_shifted l1 l2 l3 w) fun x2 =>
        some x2
set_option maxHeartbeats 4000000 in
set_option maxRecDepth 100000 in
theorem ok_X12_coset {G : GT} {d : Nat} (hd : 2 ≤ d) {w : Wd} (l1 : Int32) (l2 : Int32) (l3 : Int32) {r : Int32} (h : f_X12_coset l1 l2 l3 w = some r) : uC G yX12_coset mX12_coset d [.ref 44, .int l1, .int l2, .int l3] w (some (.int r)) w := by
  obtain ⟨d, rfl⟩ : ∃ e, d = e + 1 := ⟨d - 1, by omega⟩
  unfold f_X12_coset at h
  refine uC_of (lv := [some (.ref 44), some (.int l1), some (.int l2), some (.int l3)]) 0 pn_X12 ⟨rfl, rfl⟩ (Nat.le_of_ble_eq_true rfl) rfl ?_
  refine V.aload_n (pc := 0) dX12_coset_0 rfl ?_
  refine V.iload_n (pc := 1) dX12_coset_1 rfl ?_
  refine U.callV (pc := 2) (As := [.int l1]) (st := []) dX12_coset_2 l_RX12_169 (ok_X12_isSet (by omega) l1 ) lx_44 ly_44 cn_12 (Nat.le_of_ble_eq_true rfl) rfl rfl (Nat.le_of_ble_eq_true rfl) ?_
  rcases ite_e h with ⟨c, h⟩ | ⟨c, h⟩
  · refine V.if_eq_t (t := 16) (pc := 5) dX12_coset_5 (by decide) c ?_
    refine V.iconst (pc := 16) dX12_coset_16 ic_m1 ?_
    obtain rfl := Option.some.inj h
    exact V.iret (pc := 17) dX12_coset_17 rfl (Nat.le_refl _) (Nat.le_refl _)
  · refine V.if_eq_f (t := 16) (pc := 5) dX12_coset_5 (by decide) c ?_
    refine V.aload_n (pc := 8) dX12_coset_8 rfl ?_
    refine V.iload_n (pc := 9) dX12_coset_9 rfl ?_
    refine U.callV (pc := 10) (As := [.int l2]) (st := []) dX12_coset_10 l_RX12_163 (ok_X12_isElement (by omega) l2 ) lx_44 ly_44 cn_12 (Nat.le_of_ble_eq_true rfl) rfl rfl (Nat.le_of_ble_eq_true rfl) ?_
    rcases ite_e h with ⟨c, h⟩ | ⟨c, h⟩
    · refine V.if_ne_f (t := 18) (pc := 13) dX12_coset_13 (by decide) c ?_
      refine V.iconst (pc := 16) dX12_coset_16 ic_m1 ?_
      obtain rfl := Option.some.inj h
      exact V.iret (pc := 17) dX12_coset_17 rfl (Nat.le_refl _) (Nat.le_refl _)
    · refine V.if_ne_t (t := 18) (pc := 13) dX12_coset_13 (by decide) c ?_
      refine V.aload_n (pc := 18) dX12_coset_18 rfl ?_
      refine V.iload_n (pc := 19) dX12_coset_19 rfl ?_
      obtain ⟨x1, ex1, h⟩ := bnd_e h
      refine U.callV (pc := 20) (As := [.int l1]) (st := []) dX12_coset_20 l_RX12_191 (ok_X12_isSubgroup (by omega) l1 ex1) lx_44 ly_44 cn_12 (Nat.le_of_ble_eq_true rfl) rfl rfl (Nat.le_of_ble_eq_true rfl) ?_
      rcases ite_e h with ⟨c, h⟩ | ⟨c, h⟩
      · refine V.if_eq_t (t := 36) (pc := 23) dX12_coset_23 (by decide) c ?_
        refine V.bipush (pc := 36) dX12_coset_36 bp_m2 ?_
        obtain rfl := Option.some.inj h
        exact V.iret (pc := 38) dX12_coset_38 rfl (Nat.le_refl _) (Nat.le_refl _)
      · refine V.if_eq_f (t := 36) (pc := 23) dX12_coset_23 (by decide) c ?_
        refine V.aload_n (pc := 26) dX12_coset_26 rfl ?_
        refine V.iload_n (pc := 27) dX12_coset_27 rfl ?_
        refine V.iload_n (pc := 28) dX12_coset_28 rfl ?_
        refine V.iload_n (pc := 29) dX12_coset_29 rfl ?_
        obtain ⟨x2, ex2, h⟩ := bnd_e h
        refine U.callV (pc := 30) (As := [.int l1, .int l2, .int l3]) (st := []) dX12_coset_30 l_RX12_178 (ok_X12_shifted (by omega) l1 l2 l3 ex2) lx_44 ly_44 cn_12 (Nat.le_of_ble_eq_true rfl) rfl rfl (Nat.le_of_ble_eq_true rfl) ?_
        refine V.goto (t := 38) (pc := 33) dX12_coset_33 (by decide) ?_
        obtain rfl := Option.some.inj h
        exact V.iret (pc := 38) dX12_coset_38 rfl (Nat.le_refl _) (Nat.le_refl _)
theorem dX1_generatorAt_0 : decode cX1_generatorAt 0 = .ok (.iload_n 1, 1) := by decide +kernel
theorem dX1_generatorAt_1 : decode cX1_generatorAt 1 = .ok (.ifCond .lt 20, 3) := by decide +kernel
theorem dX1_generatorAt_4 : decode cX1_generatorAt 4 = .ok (.iload_n 1, 1) := by decide +kernel
theorem dX1_generatorAt_5 : decode cX1_generatorAt 5 = .ok (.aload_n 0, 1) := by decide +kernel
theorem dX1_generatorAt_6 : decode cX1_generatorAt 6 = .ok (.getfield 31, 3) := by decide +kernel
theorem dX1_generatorAt_9 : decode cX1_generatorAt 9 = .ok (.if_icmp .ge 12, 3) := by decide +kernel
theorem dX1_generatorAt_12 : decode cX1_generatorAt 12 = .ok (.aload_n 0, 1) := by decide +kernel
theorem dX1_generatorAt_13 : decode cX1_generatorAt 13 = .ok (.getfield 9, 3) := by decide +kernel
theorem dX1_generatorAt_16 : decode cX1_generatorAt 16 = .ok (.iload_n 1, 1) := by decide +kernel
theorem dX1_generatorAt_17 : decode cX1_generatorAt 17 = .ok (.iaload, 1) := by decide +kernel
theorem dX1_generatorAt_18 : decode cX1_generatorAt 18 = .ok (.goto 4, 3) := by decide +kernel
theorem dX1_generatorAt_21 : decode cX1_generatorAt 21 = .ok (.iconst (-1), 1) := by decide +kernel
theorem dX1_generatorAt_22 : decode cX1_generatorAt 22 = .ok (.ireturn, 1) := by decide +kernel
def f_X1_generatorAt (l1 : Int32) (w : Wd) : Option Int32 :=
  if l1 < 0 then
    some (-1)
  else
    if (w.1 13 6) ≤ l1 then
      some (-1)
    else
      rdI w 14 4 l1 fun x1 =>
      some x1
set_option maxHeartbeats 4000000 in
set_option maxRecDepth 100000 in
theorem ok_X1_generatorAt {G : GT} {d : Nat} (hd : 0 ≤ d) {w : Wd} (l1 : Int32) {r : Int32} (h : f_X1_generatorAt l1 w = some r) : uC G yX1_generatorAt mX1_generatorAt d [.ref 13, .int l1] w (some (.int r)) w := by
  unfold f_X1_generatorAt at h
  refine uC_of (lv := [some (.ref 13), some (.int l1)]) 0 pn_X1 ⟨rfl, rfl⟩ (Nat.le_of_ble_eq_true rfl) rfl ?_
  refine V.iload_n (pc := 0) dX1_generatorAt_0 rfl ?_
  rcases ite_e h with ⟨c, h⟩ | ⟨c, h⟩
  · refine V.if_lt_t (t := 21) (pc := 1) dX1_generatorAt_1 (by decide) c ?_
    refine V.iconst (pc := 21) dX1_generatorAt_21 ic_m1 ?_
    obtain rfl := Option.some.inj h
    exact V.iret (pc := 22) dX1_generatorAt_22 rfl (Nat.le_refl _) (Nat.le_refl _)
  · refine V.if_lt_f (t := 21) (pc := 1) dX1_generatorAt_1 (by decide) c ?_
    refine V.iload_n (pc := 4) dX1_generatorAt_4 rfl ?_
    refine V.aload_n (pc := 5) dX1_generatorAt_5 rfl ?_
    refine V.getI (pc := 6) dX1_generatorAt_6 f_RX1_31 k_cl1 lx_13 ly_13 rb_1_6 ?_
    rcases ite_e h with ⟨c, h⟩ | ⟨c, h⟩
    · refine V.icmp_ge_t (t := 21) (pc := 9) dX1_generatorAt_9 (by decide) c ?_
      refine V.iconst (pc := 21) dX1_generatorAt_21 ic_m1 ?_
      obtain rfl := Option.some.inj h
      exact V.iret (pc := 22) dX1_generatorAt_22 rfl (Nat.le_refl _) (Nat.le_refl _)
    · refine V.icmp_ge_f (t := 21) (pc := 9) dX1_generatorAt_9 (by decide) c ?_
      refine V.aload_n (pc := 12) dX1_generatorAt_12 rfl ?_
      refine V.getR (t := 14) (pc := 13) dX1_generatorAt_13 f_RX1_9 k_cl1 lx_13 ly_13 rb_1_1 rr_13_1 ?_
      refine V.iload_n (pc := 16) dX1_generatorAt_16 rfl ?_
      obtain ⟨x1, ix1, ex1, h⟩ := rdI_e h
      refine V.ialdX (pc := 17) dX1_generatorAt_17 lx_14 ly_14 ix1 ex1 ?_
      refine V.goto (t := 22) (pc := 18) dX1_generatorAt_18 (by decide) ?_
      obtain rfl := Option.some.inj h
      exact V.iret (pc := 22) dX1_generatorAt_22 rfl (Nat.le_refl _) (Nat.le_refl _)
theorem dX11_generator_0 : decode cX11_generator 0 = .ok (.iload_n 1, 1) := by decide +kernel
theorem dX11_generator_1 : decode cX11_generator 1 = .ok (.ifCond .ge 5, 3) := by decide +kernel
theorem dX11_generator_4 : decode cX11_generator 4 = .ok (.iconst (-1), 1) := by decide +kernel
theorem dX11_generator_5 : decode cX11_generator 5 = .ok (.ireturn, 1) := by decide +kernel
theorem dX11_generator_6 : decode cX11_generator 6 = .ok (.iload_n 1, 1) := by decide +kernel
theorem dX11_generator_7 : decode cX11_generator 7 = .ok (.aload_n 0, 1) := by decide +kernel
theorem dX11_generator_8 : decode cX11_generator 8 = .ok (.getfield 37, 3) := by decide +kernel
theorem dX11_generator_11 : decode cX11_generator 11 = .ok (.getfield 177, 3) := by decide +kernel
theorem dX11_generator_14 : decode cX11_generator 14 = .ok (.if_icmp .ge 14, 3) := by decide +kernel
theorem dX11_generator_17 : decode cX11_generator 17 = .ok (.aload_n 0, 1) := by decide +kernel
theorem dX11_generator_18 : decode cX11_generator 18 = .ok (.getfield 37, 3) := by decide +kernel
theorem dX11_generator_21 : decode cX11_generator 21 = .ok (.iload_n 1, 1) := by decide +kernel
theorem dX11_generator_22 : decode cX11_generator 22 = .ok (.invokevirtual 180, 3) := by decide +kernel
theorem dX11_generator_25 : decode cX11_generator 25 = .ok (.goto 5, 3) := by decide +kernel
theorem dX11_generator_28 : decode cX11_generator 28 = .ok (.bipush (-2), 2) := by decide +kernel
theorem dX11_generator_30 : decode cX11_generator 30 = .ok (.ireturn, 1) := by decide +kernel
def f_X11_generator (l1 : Int32) (w : Wd) : Option Int32 :=
  if 0 ≤ l1 then
    if (w.1 13 6) ≤ l1 then
      some (-2)
    else
      bnd (f_X1_generatorAt l1 w) fun x1 =>
      some x1
  else
    some (-1)
set_option maxHeartbeats 4000000 in
set_option maxRecDepth 100000 in
theorem ok_X11_generator {G : GT} {d : Nat} (hd : 1 ≤ d) {w : Wd} (l1 : Int32) {r : Int32} (h : f_X11_generator l1 w = some r) : uC G yX11_generator mX11_generator d [.ref 0, .int l1] w (some (.int r)) w := by
  obtain ⟨d, rfl⟩ : ∃ e, d = e + 1 := ⟨d - 1, by omega⟩
  unfold f_X11_generator at h
  refine uC_of (lv := [some (.ref 0), some (.int l1)]) 0 pn_X11 ⟨rfl, rfl⟩ (Nat.le_of_ble_eq_true rfl) rfl ?_
  refine V.iload_n (pc := 0) dX11_generator_0 rfl ?_
  rcases ite_e h with ⟨c, h⟩ | ⟨c, h⟩
  · refine V.if_ge_t (t := 6) (pc := 1) dX11_generator_1 (by decide) c ?_
    refine V.iload_n (pc := 6) dX11_generator_6 rfl ?_
    refine V.aload_n (pc := 7) dX11_generator_7 rfl ?_
    refine V.getR (t := 13) (pc := 8) dX11_generator_8 f_RX11_37 k_cl11 lx_0 ly_0 rb_11_3 rr_0_3 ?_
    refine V.getI (pc := 11) dX11_generator_11 f_RX11_177 k_cl1 lx_13 ly_13 rb_1_6 ?_
    rcases ite_e h with ⟨c, h⟩ | ⟨c, h⟩
    · refine V.icmp_ge_t (t := 28) (pc := 14) dX11_generator_14 (by decide) c ?_
      refine V.bipush (pc := 28) dX11_generator_28 bp_m2 ?_
      obtain rfl := Option.some.inj h
      exact V.iret (pc := 30) dX11_generator_30 rfl (Nat.le_refl _) (Nat.le_refl _)
    · refine V.icmp_ge_f (t := 28) (pc := 14) dX11_generator_14 (by decide) c ?_
      refine V.aload_n (pc := 17) dX11_generator_17 rfl ?_
      refine V.getR (t := 13) (pc := 18) dX11_generator_18 f_RX11_37 k_cl11 lx_0 ly_0 rb_11_3 rr_0_3 ?_
      refine V.iload_n (pc := 21) dX11_generator_21 rfl ?_
      obtain ⟨x1, ex1, h⟩ := bnd_e h
      refine U.callV (pc := 22) (As := [.int l1]) (st := []) dX11_generator_22 l_RX11_180 (ok_X1_generatorAt (by omega) l1 ex1) lx_13 ly_13 cn_1 (Nat.le_of_ble_eq_true rfl) rfl rfl (Nat.le_of_ble_eq_true rfl) ?_
      refine V.goto (t := 30) (pc := 25) dX11_generator_25 (by decide) ?_
      obtain rfl := Option.some.inj h
      exact V.iret (pc := 30) dX11_generator_30 rfl (Nat.le_refl _) (Nat.le_refl _)
  · refine V.if_ge_f (t := 6) (pc := 1) dX11_generator_1 (by decide) c ?_
    refine V.iconst (pc := 4) dX11_generator_4 ic_m1 ?_
    obtain rfl := Option.some.inj h
    exact V.iret (pc := 5) dX11_generator_5 rfl (Nat.le_refl _) (Nat.le_refl _)
theorem dX12_generator_0 : decode cX12_generator 0 = .ok (.iload_n 1, 1) := by decide +kernel
theorem dX12_generator_1 : decode cX12_generator 1 = .ok (.ifCond .ge 7, 3) := by decide +kernel
theorem dX12_generator_4 : decode cX12_generator 4 = .ok (.iconst (-1), 1) := by decide +kernel
theorem dX12_generator_5 : decode cX12_generator 5 = .ok (.goto 22, 3) := by decide +kernel
theorem dX12_generator_8 : decode cX12_generator 8 = .ok (.iload_n 1, 1) := by decide +kernel
theorem dX12_generator_9 : decode cX12_generator 9 = .ok (.aload_n 0, 1) := by decide +kernel
theorem dX12_generator_10 : decode cX12_generator 10 = .ok (.getfield 125, 3) := by decide +kernel
theorem dX12_generator_13 : decode cX12_generator 13 = .ok (.if_icmp .ge 12, 3) := by decide +kernel
theorem dX12_generator_16 : decode cX12_generator 16 = .ok (.aload_n 0, 1) := by decide +kernel
theorem dX12_generator_17 : decode cX12_generator 17 = .ok (.getfield 30, 3) := by decide +kernel
theorem dX12_generator_20 : decode cX12_generator 20 = .ok (.iload_n 1, 1) := by decide +kernel
theorem dX12_generator_21 : decode cX12_generator 21 = .ok (.iaload, 1) := by decide +kernel
theorem dX12_generator_22 : decode cX12_generator 22 = .ok (.goto 5, 3) := by decide +kernel
theorem dX12_generator_25 : decode cX12_generator 25 = .ok (.bipush (-2), 2) := by decide +kernel
theorem dX12_generator_27 : decode cX12_generator 27 = .ok (.ireturn, 1) := by decide +kernel
def f_X12_generator (l1 : Int32) (w : Wd) : Option Int32 :=
  if 0 ≤ l1 then
    if (w.1 44 9) ≤ l1 then
      some (-2)
    else
      rdI w 50 16 l1 fun x1 =>
      some x1
  else
    some (-1)
set_option maxHeartbeats 4000000 in
set_option maxRecDepth 100000 in
theorem ok_X12_generator {G : GT} {d : Nat} (hd : 0 ≤ d) {w : Wd} (l1 : Int32) {r : Int32} (h : f_X12_generator l1 w = some r) : uC G yX12_generator mX12_generator d [.ref 44, .int l1] w (some (.int r)) w := by
  unfold f_X12_generator at h
  refine uC_of (lv := [some (.ref 44), some (.int l1)]) 0 pn_X12 ⟨rfl, rfl⟩ (Nat.le_of_ble_eq_true rfl) rfl ?_
  refine V.iload_n (pc := 0) dX12_generator_0 rfl ?_
  rcases ite_e h with ⟨c, h⟩ | ⟨c, h⟩
  · refine V.if_ge_t (t := 8) (pc := 1) dX12_generator_1 (by decide) c ?_
    refine V.iload_n (pc := 8) dX12_generator_8 rfl ?_
    refine V.aload_n (pc := 9) dX12_generator_9 rfl ?_
    refine V.getI (pc := 10) dX12_generator_10 f_RX12_125 k_cl12 lx_44 ly_44 rb_12_9 ?_
    rcases ite_e h with ⟨c, h⟩ | ⟨c, h⟩
    · refine V.icmp_ge_t (t := 25) (pc := 13) dX12_generator_13 (by decide) c ?_
      refine V.bipush (pc := 25) dX12_generator_25 bp_m2 ?_
      obtain rfl := Option.some.inj h
      exact V.iret (pc := 27) dX12_generator_27 rfl (Nat.le_refl _) (Nat.le_refl _)
    · refine V.icmp_ge_f (t := 25) (pc := 13) dX12_generator_13 (by decide) c ?_
      refine V.aload_n (pc := 16) dX12_generator_16 rfl ?_
      refine V.getR (t := 50) (pc := 17) dX12_generator_17 f_RX12_30 k_cl12 lx_44 ly_44 rb_12_8 rr_44_8 ?_
      refine V.iload_n (pc := 20) dX12_generator_20 rfl ?_
      obtain ⟨x1, ix1, ex1, h⟩ := rdI_e h
      refine V.ialdX (pc := 21) dX12_generator_21 lx_50 ly_50 ix1 ex1 ?_
      refine V.goto (t := 27) (pc := 22) dX12_generator_22 (by decide) ?_
      obtain rfl := Option.some.inj h
      exact V.iret (pc := 27) dX12_generator_27 rfl (Nat.le_refl _) (Nat.le_refl _)
  · refine V.if_ge_f (t := 8) (pc := 1) dX12_generator_1 (by decide) c ?_
    refine V.iconst (pc := 4) dX12_generator_4 ic_m1 ?_
    refine V.goto (t := 27) (pc := 5) dX12_generator_5 (by decide) ?_
    obtain rfl := Option.some.inj h
    exact V.iret (pc := 27) dX12_generator_27 rfl (Nat.le_refl _) (Nat.le_refl _)
theorem dX4_alikeOf_0 : decode cX4_alikeOf 0 = .ok (.iconst 0, 1) := by decide +kernel
theorem dX4_alikeOf_1 : decode cX4_alikeOf 1 = .ok (.istore_n 2, 1) := by decide +kernel
theorem dX4_alikeOf_2 : decode cX4_alikeOf 2 = .ok (.iconst 0, 1) := by decide +kernel
theorem dX4_alikeOf_3 : decode cX4_alikeOf 3 = .ok (.istore_n 3, 1) := by decide +kernel
theorem dX4_alikeOf_4 : decode cX4_alikeOf 4 = .ok (.iload_n 3, 1) := by decide +kernel
theorem dX4_alikeOf_5 : decode cX4_alikeOf 5 = .ok (.aload_n 0, 1) := by decide +kernel
theorem dX4_alikeOf_6 : decode cX4_alikeOf 6 = .ok (.getfield 30, 3) := by decide +kernel
theorem dX4_alikeOf_9 : decode cX4_alikeOf 9 = .ok (.if_icmp .ge 20, 3) := by decide +kernel
theorem dX4_alikeOf_12 : decode cX4_alikeOf 12 = .ok (.iload_n 2, 1) := by decide +kernel
theorem dX4_alikeOf_13 : decode cX4_alikeOf 13 = .ok (.aload_n 0, 1) := by decide +kernel
theorem dX4_alikeOf_14 : decode cX4_alikeOf 14 = .ok (.iload_n 3, 1) := by decide +kernel
theorem dX4_alikeOf_15 : decode cX4_alikeOf 15 = .ok (.iconst 1, 1) := by decide +kernel
theorem dX4_alikeOf_16 : decode cX4_alikeOf 16 = .ok (.iload_n 1, 1) := by decide +kernel
theorem dX4_alikeOf_17 : decode cX4_alikeOf 17 = .ok (.ishl, 1) := by decide +kernel
theorem dX4_alikeOf_18 : decode cX4_alikeOf 18 = .ok (.invokevirtual 84, 3) := by decide +kernel
theorem dX4_alikeOf_21 : decode cX4_alikeOf 21 = .ok (.ior, 1) := by decide +kernel
theorem dX4_alikeOf_22 : decode cX4_alikeOf 22 = .ok (.istore_n 2, 1) := by decide +kernel
theorem dX4_alikeOf_23 : decode cX4_alikeOf 23 = .ok (.iinc 3 1, 3) := by decide +kernel
theorem dX4_alikeOf_26 : decode cX4_alikeOf 26 = .ok (.goto (-22), 3) := by decide +kernel
theorem dX4_alikeOf_29 : decode cX4_alikeOf 29 = .ok (.iload_n 2, 1) := by decide +kernel
theorem dX4_alikeOf_30 : decode cX4_alikeOf 30 = .ok (.ireturn, 1) := by decide +kernel
def f_X4_alikeOf_B4b (k4 : Int32 → Int32 → Int32 → Wd → Option Int32) (l1 : Int32) (l2 : Int32) (l3 : Int32) (w : Wd) : Option Int32 :=
  if (w.1 6 7) ≤ l3 then
    some l2
  else
    bnd (f_X4_conjugated l3 (1 <<< (l1 &&& 31)) w) fun x1 =>
    k4 l1 (l2 ||| x1) (l3 + 1) w
def f_X4_alikeOf_L4 (n : Nat) : Int32 → Int32 → Int32 → Wd → Option Int32 :=
  Nat.rec (fun _ _ _ _ => none) (fun _ k => f_X4_alikeOf_B4b k) n
set_option maxHeartbeats 4000000 in
set_option maxRecDepth 100000 in
theorem t_X4_alikeOf_L4 {G : GT} {d : Nat} {w : Wd} (hd : 3 ≤ d + 1)  : ∀ (n : Nat) (l1 : Int32) (l2 : Int32) (l3 : Int32) (r : Int32), f_X4_alikeOf_L4 n l1 l2 l3 w = some r → U (vf G mX4_alikeOf (d + 1)) 4 [some (.ref 6), some (.int l1), some (.int l2), some (.int l3)] [] w (some (.int r), 70, r0, w) := by
  intro n
  induction n with
  | zero => intro l1 l2 l3 r h; cases h
  | succ n h4 =>
    intro l1 l2 l3 r h
    have h : f_X4_alikeOf_B4b (f_X4_alikeOf_L4 n) l1 l2 l3 w = some r := h
    unfold f_X4_alikeOf_B4b at h
    refine V.iload_n (pc := 4) dX4_alikeOf_4 rfl ?_
    refine V.aload_n (pc := 5) dX4_alikeOf_5 rfl ?_
    refine V.getI (pc := 6) dX4_alikeOf_6 f_RX4_30 k_cl4 lx_6 ly_6 rb_4_7 ?_
    rcases ite_e h with ⟨c, h⟩ | ⟨c, h⟩
    · refine V.icmp_ge_t (t := 29) (pc := 9) dX4_alikeOf_9 (by decide) c ?_
      refine V.iload_n (pc := 29) dX4_alikeOf_29 rfl ?_
      obtain rfl := Option.some.inj h
      exact V.iret (pc := 30) dX4_alikeOf_30 rfl (Nat.le_refl _) (Nat.le_refl _)
    · refine V.icmp_ge_f (t := 29) (pc := 9) dX4_alikeOf_9 (by decide) c ?_
      refine V.iload_n (pc := 12) dX4_alikeOf_12 rfl ?_
      refine V.aload_n (pc := 13) dX4_alikeOf_13 rfl ?_
      refine V.iload_n (pc := 14) dX4_alikeOf_14 rfl ?_
      refine V.iconst (pc := 15) dX4_alikeOf_15 ic_1 ?_
      refine V.iload_n (pc := 16) dX4_alikeOf_16 rfl ?_
      refine V.ishl (pc := 17) dX4_alikeOf_17 ?_
      obtain ⟨x1, ex1, h⟩ := bnd_e h
      refine U.callV (pc := 18) (As := [.int l3, .int (1 <<< (l1 &&& 31))]) (st := [.int l2]) dX4_alikeOf_18 l_RX4_84 (ok_X4_conjugated (by omega) l3 (1 <<< (l1 &&& 31)) ex1) lx_6 ly_6 cn_4 (Nat.le_of_ble_eq_true rfl) rfl rfl (Nat.le_of_ble_eq_true rfl) ?_
      refine V.ior (pc := 21) dX4_alikeOf_21 ?_
      refine V.istore_n (lv' := [some (.ref 6), some (.int l1), some (.int (l2 ||| x1)), some (.int l3)]) (pc := 22) dX4_alikeOf_22 (Nat.le_of_ble_eq_true rfl) rfl rfl ?_
      refine V.iinc (lv' := [some (.ref 6), some (.int l1), some (.int (l2 ||| x1)), some (.int (l3 + 1))]) (pc := 23) dX4_alikeOf_23 (Nat.le_of_ble_eq_true rfl) rfl rfl (v := (l3 + 1)) (by rw [show Int32.ofInt 1 = 1 from by decide]) rfl ?_
      refine V.goto (t := 4) (pc := 26) dX4_alikeOf_26 (by decide) ?_
      exact h4 l1 (l2 ||| x1) (l3 + 1) _ h
def f_X4_alikeOf (l1 : Int32) (w : Wd) : Option Int32 :=
  f_X4_alikeOf_L4  FU l1 0 0 w
set_option maxHeartbeats 4000000 in
set_option maxRecDepth 100000 in
theorem ok_X4_alikeOf {G : GT} {d : Nat} (hd : 3 ≤ d) {w : Wd} (l1 : Int32) {r : Int32} (h : f_X4_alikeOf l1 w = some r) : uC G yX4_alikeOf mX4_alikeOf d [.ref 6, .int l1] w (some (.int r)) w := by
  obtain ⟨d, rfl⟩ : ∃ e, d = e + 1 := ⟨d - 1, by omega⟩
  unfold f_X4_alikeOf at h
  refine uC_of (lv := [some (.ref 6), some (.int l1), none, none]) 2 pn_X4 ⟨rfl, rfl⟩ (Nat.le_of_ble_eq_true rfl) rfl ?_
  refine V.iconst (pc := 0) dX4_alikeOf_0 ic_0 ?_
  refine V.istore_n (lv' := [some (.ref 6), some (.int l1), some (.int 0), none]) (pc := 1) dX4_alikeOf_1 (Nat.le_of_ble_eq_true rfl) rfl rfl ?_
  refine V.iconst (pc := 2) dX4_alikeOf_2 ic_0 ?_
  refine V.istore_n (lv' := [some (.ref 6), some (.int l1), some (.int 0), some (.int 0)]) (pc := 3) dX4_alikeOf_3 (Nat.le_of_ble_eq_true rfl) rfl rfl ?_
  exact t_X4_alikeOf_L4 hd FU l1 0 0 _ h
theorem dX11_alike_0 : decode cX11_alike 0 = .ok (.aload_n 0, 1) := by decide +kernel
theorem dX11_alike_1 : decode cX11_alike 1 = .ok (.getfield 28, 3) := by decide +kernel
theorem dX11_alike_4 : decode cX11_alike 4 = .ok (.iload_n 1, 1) := by decide +kernel
theorem dX11_alike_5 : decode cX11_alike 5 = .ok (.invokevirtual 107, 3) := by decide +kernel
theorem dX11_alike_8 : decode cX11_alike 8 = .ok (.ifCond .eq 14, 3) := by decide +kernel
theorem dX11_alike_11 : decode cX11_alike 11 = .ok (.aload_n 0, 1) := by decide +kernel
theorem dX11_alike_12 : decode cX11_alike 12 = .ok (.getfield 28, 3) := by decide +kernel
theorem dX11_alike_15 : decode cX11_alike 15 = .ok (.iload_n 1, 1) := by decide +kernel
theorem dX11_alike_16 : decode cX11_alike 16 = .ok (.invokevirtual 183, 3) := by decide +kernel
theorem dX11_alike_19 : decode cX11_alike 19 = .ok (.goto 4, 3) := by decide +kernel
theorem dX11_alike_22 : decode cX11_alike 22 = .ok (.iconst (-1), 1) := by decide +kernel
theorem dX11_alike_23 : decode cX11_alike 23 = .ok (.ireturn, 1) := by decide +kernel
def f_X11_alike (l1 : Int32) (w : Wd) : Option Int32 :=
  if (f_X4_holds l1 w) = 0 then
    some (-1)
  else
    bnd (f_X4_alikeOf l1 w) fun x1 =>
    some x1
set_option maxHeartbeats 4000000 in
set_option maxRecDepth 100000 in
theorem ok_X11_alike {G : GT} {d : Nat} (hd : 4 ≤ d) {w : Wd} (l1 : Int32) {r : Int32} (h : f_X11_alike l1 w = some r) : uC G yX11_alike mX11_alike d [.ref 0, .int l1] w (some (.int r)) w := by
  obtain ⟨d, rfl⟩ : ∃ e, d = e + 1 := ⟨d - 1, by omega⟩
  unfold f_X11_alike at h
  refine uC_of (lv := [some (.ref 0), some (.int l1)]) 0 pn_X11 ⟨rfl, rfl⟩ (Nat.le_of_ble_eq_true rfl) rfl ?_
  refine V.aload_n (pc := 0) dX11_alike_0 rfl ?_
  refine V.getR (t := 6) (pc := 1) dX11_alike_1 f_RX11_28 k_cl11 lx_0 ly_0 rb_11_2 rr_0_2 ?_
  refine V.iload_n (pc := 4) dX11_alike_4 rfl ?_
  refine U.callV (pc := 5) (As := [.int l1]) (st := []) dX11_alike_5 l_RX11_107 (ok_X4_holds (by omega) l1 ) lx_6 ly_6 cn_4 (Nat.le_of_ble_eq_true rfl) rfl rfl (Nat.le_of_ble_eq_true rfl) ?_
  rcases ite_e h with ⟨c, h⟩ | ⟨c, h⟩
  · refine V.if_eq_t (t := 22) (pc := 8) dX11_alike_8 (by decide) c ?_
    refine V.iconst (pc := 22) dX11_alike_22 ic_m1 ?_
    obtain rfl := Option.some.inj h
    exact V.iret (pc := 23) dX11_alike_23 rfl (Nat.le_refl _) (Nat.le_refl _)
  · refine V.if_eq_f (t := 22) (pc := 8) dX11_alike_8 (by decide) c ?_
    refine V.aload_n (pc := 11) dX11_alike_11 rfl ?_
    refine V.getR (t := 6) (pc := 12) dX11_alike_12 f_RX11_28 k_cl11 lx_0 ly_0 rb_11_2 rr_0_2 ?_
    refine V.iload_n (pc := 15) dX11_alike_15 rfl ?_
    obtain ⟨x1, ex1, h⟩ := bnd_e h
    refine U.callV (pc := 16) (As := [.int l1]) (st := []) dX11_alike_16 l_RX11_183 (ok_X4_alikeOf (by omega) l1 ex1) lx_6 ly_6 cn_4 (Nat.le_of_ble_eq_true rfl) rfl rfl (Nat.le_of_ble_eq_true rfl) ?_
    refine V.goto (t := 23) (pc := 19) dX11_alike_19 (by decide) ?_
    obtain rfl := Option.some.inj h
    exact V.iret (pc := 23) dX11_alike_23 rfl (Nat.le_refl _) (Nat.le_refl _)
theorem dX12_alikeTo_0 : decode cX12_alikeTo 0 = .ok (.iconst 0, 1) := by decide +kernel
theorem dX12_alikeTo_1 : decode cX12_alikeTo 1 = .ok (.istore_n 2, 1) := by decide +kernel
theorem dX12_alikeTo_2 : decode cX12_alikeTo 2 = .ok (.iconst 0, 1) := by decide +kernel
theorem dX12_alikeTo_3 : decode cX12_alikeTo 3 = .ok (.istore_n 3, 1) := by decide +kernel
theorem dX12_alikeTo_4 : decode cX12_alikeTo 4 = .ok (.iload_n 3, 1) := by decide +kernel
theorem dX12_alikeTo_5 : decode cX12_alikeTo 5 = .ok (.aload_n 0, 1) := by decide +kernel
theorem dX12_alikeTo_6 : decode cX12_alikeTo 6 = .ok (.getfield 92, 3) := by decide +kernel
theorem dX12_alikeTo_9 : decode cX12_alikeTo 9 = .ok (.if_icmp .ge 20, 3) := by decide +kernel
theorem dX12_alikeTo_12 : decode cX12_alikeTo 12 = .ok (.iload_n 2, 1) := by decide +kernel
theorem dX12_alikeTo_13 : decode cX12_alikeTo 13 = .ok (.iconst 1, 1) := by decide +kernel
theorem dX12_alikeTo_14 : decode cX12_alikeTo 14 = .ok (.aload_n 0, 1) := by decide +kernel
theorem dX12_alikeTo_15 : decode cX12_alikeTo 15 = .ok (.iload_n 3, 1) := by decide +kernel
theorem dX12_alikeTo_16 : decode cX12_alikeTo 16 = .ok (.iload_n 1, 1) := by decide +kernel
theorem dX12_alikeTo_17 : decode cX12_alikeTo 17 = .ok (.invokevirtual 185, 3) := by decide +kernel
theorem dX12_alikeTo_20 : decode cX12_alikeTo 20 = .ok (.ishl, 1) := by decide +kernel
theorem dX12_alikeTo_21 : decode cX12_alikeTo 21 = .ok (.ior, 1) := by decide +kernel
theorem dX12_alikeTo_22 : decode cX12_alikeTo 22 = .ok (.istore_n 2, 1) := by decide +kernel
theorem dX12_alikeTo_23 : decode cX12_alikeTo 23 = .ok (.iinc 3 1, 3) := by decide +kernel
theorem dX12_alikeTo_26 : decode cX12_alikeTo 26 = .ok (.goto (-22), 3) := by decide +kernel
theorem dX12_alikeTo_29 : decode cX12_alikeTo 29 = .ok (.iload_n 2, 1) := by decide +kernel
theorem dX12_alikeTo_30 : decode cX12_alikeTo 30 = .ok (.ireturn, 1) := by decide +kernel
def f_X12_alikeTo_B4b (k4 : Int32 → Int32 → Int32 → Wd → Option Int32) (l1 : Int32) (l2 : Int32) (l3 : Int32) (w : Wd) : Option Int32 :=
  if (w.1 44 1) ≤ l3 then
    some l2
  else
    bnd (f_X12_conjugate l3 l1 w) fun x1 =>
    k4 l1 (l2 ||| (1 <<< (x1 &&& 31))) (l3 + 1) w
def f_X12_alikeTo_L4 (n : Nat) : Int32 → Int32 → Int32 → Wd → Option Int32 :=
  Nat.rec (fun _ _ _ _ => none) (fun _ k => f_X12_alikeTo_B4b k) n
set_option maxHeartbeats 4000000 in
set_option maxRecDepth 100000 in
theorem t_X12_alikeTo_L4 {G : GT} {d : Nat} {w : Wd} (hd : 2 ≤ d + 1)  : ∀ (n : Nat) (l1 : Int32) (l2 : Int32) (l3 : Int32) (r : Int32), f_X12_alikeTo_L4 n l1 l2 l3 w = some r → U (vf G mX12_alikeTo (d + 1)) 4 [some (.ref 44), some (.int l1), some (.int l2), some (.int l3)] [] w (some (.int r), 70, r0, w) := by
  intro n
  induction n with
  | zero => intro l1 l2 l3 r h; cases h
  | succ n h4 =>
    intro l1 l2 l3 r h
    have h : f_X12_alikeTo_B4b (f_X12_alikeTo_L4 n) l1 l2 l3 w = some r := h
    unfold f_X12_alikeTo_B4b at h
    refine V.iload_n (pc := 4) dX12_alikeTo_4 rfl ?_
    refine V.aload_n (pc := 5) dX12_alikeTo_5 rfl ?_
    refine V.getI (pc := 6) dX12_alikeTo_6 f_RX12_92 k_cl12 lx_44 ly_44 rb_12_1 ?_
    rcases ite_e h with ⟨c, h⟩ | ⟨c, h⟩
    · refine V.icmp_ge_t (t := 29) (pc := 9) dX12_alikeTo_9 (by decide) c ?_
      refine V.iload_n (pc := 29) dX12_alikeTo_29 rfl ?_
      obtain rfl := Option.some.inj h
      exact V.iret (pc := 30) dX12_alikeTo_30 rfl (Nat.le_refl _) (Nat.le_refl _)
    · refine V.icmp_ge_f (t := 29) (pc := 9) dX12_alikeTo_9 (by decide) c ?_
      refine V.iload_n (pc := 12) dX12_alikeTo_12 rfl ?_
      refine V.iconst (pc := 13) dX12_alikeTo_13 ic_1 ?_
      refine V.aload_n (pc := 14) dX12_alikeTo_14 rfl ?_
      refine V.iload_n (pc := 15) dX12_alikeTo_15 rfl ?_
      refine V.iload_n (pc := 16) dX12_alikeTo_16 rfl ?_
      obtain ⟨x1, ex1, h⟩ := bnd_e h
      refine U.callV (pc := 17) (As := [.int l3, .int l1]) (st := [.int 1, .int l2]) dX12_alikeTo_17 l_RX12_185 (ok_X12_conjugate (by omega) l3 l1 ex1) lx_44 ly_44 cn_12 (Nat.le_of_ble_eq_true rfl) rfl rfl (Nat.le_of_ble_eq_true rfl) ?_
      refine V.ishl (pc := 20) dX12_alikeTo_20 ?_
      refine V.ior (pc := 21) dX12_alikeTo_21 ?_
      refine V.istore_n (lv' := [some (.ref 44), some (.int l1), some (.int (l2 ||| (1 <<< (x1 &&& 31)))), some (.int l3)]) (pc := 22) dX12_alikeTo_22 (Nat.le_of_ble_eq_true rfl) rfl rfl ?_
      refine V.iinc (lv' := [some (.ref 44), some (.int l1), some (.int (l2 ||| (1 <<< (x1 &&& 31)))), some (.int (l3 + 1))]) (pc := 23) dX12_alikeTo_23 (Nat.le_of_ble_eq_true rfl) rfl rfl (v := (l3 + 1)) (by rw [show Int32.ofInt 1 = 1 from by decide]) rfl ?_
      refine V.goto (t := 4) (pc := 26) dX12_alikeTo_26 (by decide) ?_
      exact h4 l1 (l2 ||| (1 <<< (x1 &&& 31))) (l3 + 1) _ h
def f_X12_alikeTo (l1 : Int32) (w : Wd) : Option Int32 :=
  f_X12_alikeTo_L4  FU l1 0 0 w
set_option maxHeartbeats 4000000 in
set_option maxRecDepth 100000 in
theorem ok_X12_alikeTo {G : GT} {d : Nat} (hd : 2 ≤ d) {w : Wd} (l1 : Int32) {r : Int32} (h : f_X12_alikeTo l1 w = some r) : uC G yX12_alikeTo mX12_alikeTo d [.ref 44, .int l1] w (some (.int r)) w := by
  obtain ⟨d, rfl⟩ : ∃ e, d = e + 1 := ⟨d - 1, by omega⟩
  unfold f_X12_alikeTo at h
  refine uC_of (lv := [some (.ref 44), some (.int l1), none, none]) 2 pn_X12 ⟨rfl, rfl⟩ (Nat.le_of_ble_eq_true rfl) rfl ?_
  refine V.iconst (pc := 0) dX12_alikeTo_0 ic_0 ?_
  refine V.istore_n (lv' := [some (.ref 44), some (.int l1), some (.int 0), none]) (pc := 1) dX12_alikeTo_1 (Nat.le_of_ble_eq_true rfl) rfl rfl ?_
  refine V.iconst (pc := 2) dX12_alikeTo_2 ic_0 ?_
  refine V.istore_n (lv' := [some (.ref 44), some (.int l1), some (.int 0), some (.int 0)]) (pc := 3) dX12_alikeTo_3 (Nat.le_of_ble_eq_true rfl) rfl rfl ?_
  exact t_X12_alikeTo_L4 hd FU l1 0 0 _ h
theorem dX12_alike_0 : decode cX12_alike 0 = .ok (.aload_n 0, 1) := by decide +kernel
theorem dX12_alike_1 : decode cX12_alike 1 = .ok (.iload_n 1, 1) := by decide +kernel
theorem dX12_alike_2 : decode cX12_alike 2 = .ok (.invokevirtual 163, 3) := by decide +kernel
theorem dX12_alike_5 : decode cX12_alike 5 = .ok (.ifCond .eq 11, 3) := by decide +kernel
theorem dX12_alike_8 : decode cX12_alike 8 = .ok (.aload_n 0, 1) := by decide +kernel
theorem dX12_alike_9 : decode cX12_alike 9 = .ok (.iload_n 1, 1) := by decide +kernel
theorem dX12_alike_10 : decode cX12_alike 10 = .ok (.invokevirtual 194, 3) := by decide +kernel
theorem dX12_alike_13 : decode cX12_alike 13 = .ok (.goto 4, 3) := by decide +kernel
theorem dX12_alike_16 : decode cX12_alike 16 = .ok (.iconst (-1), 1) := by decide +kernel
theorem dX12_alike_17 : decode cX12_alike 17 = .ok (.ireturn, 1) := by decide +kernel
def f_X12_alike (l1 : Int32) (w : Wd) : Option Int32 :=
  if (f_X12_isElement l1 w) = 0 then
    some (-1)
  else
    bnd (f_X12_alikeTo l1 w) fun x1 =>
    some x1
set_option maxHeartbeats 4000000 in
set_option maxRecDepth 100000 in
theorem ok_X12_alike {G : GT} {d : Nat} (hd : 3 ≤ d) {w : Wd} (l1 : Int32) {r : Int32} (h : f_X12_alike l1 w = some r) : uC G yX12_alike mX12_alike d [.ref 44, .int l1] w (some (.int r)) w := by
  obtain ⟨d, rfl⟩ : ∃ e, d = e + 1 := ⟨d - 1, by omega⟩
  unfold f_X12_alike at h
  refine uC_of (lv := [some (.ref 44), some (.int l1)]) 0 pn_X12 ⟨rfl, rfl⟩ (Nat.le_of_ble_eq_true rfl) rfl ?_
  refine V.aload_n (pc := 0) dX12_alike_0 rfl ?_
  refine V.iload_n (pc := 1) dX12_alike_1 rfl ?_
  refine U.callV (pc := 2) (As := [.int l1]) (st := []) dX12_alike_2 l_RX12_163 (ok_X12_isElement (by omega) l1 ) lx_44 ly_44 cn_12 (Nat.le_of_ble_eq_true rfl) rfl rfl (Nat.le_of_ble_eq_true rfl) ?_
  rcases ite_e h with ⟨c, h⟩ | ⟨c, h⟩
  · refine V.if_eq_t (t := 16) (pc := 5) dX12_alike_5 (by decide) c ?_
    refine V.iconst (pc := 16) dX12_alike_16 ic_m1 ?_
    obtain rfl := Option.some.inj h
    exact V.iret (pc := 17) dX12_alike_17 rfl (Nat.le_refl _) (Nat.le_refl _)
  · refine V.if_eq_f (t := 16) (pc := 5) dX12_alike_5 (by decide) c ?_
    refine V.aload_n (pc := 8) dX12_alike_8 rfl ?_
    refine V.iload_n (pc := 9) dX12_alike_9 rfl ?_
    obtain ⟨x1, ex1, h⟩ := bnd_e h
    refine U.callV (pc := 10) (As := [.int l1]) (st := []) dX12_alike_10 l_RX12_194 (ok_X12_alikeTo (by omega) l1 ex1) lx_44 ly_44 cn_12 (Nat.le_of_ble_eq_true rfl) rfl rfl (Nat.le_of_ble_eq_true rfl) ?_
    refine V.goto (t := 17) (pc := 13) dX12_alike_13 (by decide) ?_
    obtain rfl := Option.some.inj h
    exact V.iret (pc := 17) dX12_alike_17 rfl (Nat.le_refl _) (Nat.le_refl _)
theorem dX11_kin_0 : decode cX11_kin 0 = .ok (.iconst 0, 1) := by decide +kernel
theorem dX11_kin_1 : decode cX11_kin 1 = .ok (.istore_n 1, 1) := by decide +kernel
theorem dX11_kin_2 : decode cX11_kin 2 = .ok (.iconst 0, 1) := by decide +kernel
theorem dX11_kin_3 : decode cX11_kin 3 = .ok (.istore_n 2, 1) := by decide +kernel
theorem dX11_kin_4 : decode cX11_kin 4 = .ok (.iload_n 2, 1) := by decide +kernel
theorem dX11_kin_5 : decode cX11_kin 5 = .ok (.aload_n 0, 1) := by decide +kernel
theorem dX11_kin_6 : decode cX11_kin 6 = .ok (.getfield 28, 3) := by decide +kernel
theorem dX11_kin_9 : decode cX11_kin 9 = .ok (.getfield 104, 3) := by decide +kernel
theorem dX11_kin_12 : decode cX11_kin 12 = .ok (.if_icmp .ge 29, 3) := by decide +kernel
theorem dX11_kin_15 : decode cX11_kin 15 = .ok (.aload_n 0, 1) := by decide +kernel
theorem dX11_kin_16 : decode cX11_kin 16 = .ok (.getfield 28, 3) := by decide +kernel
theorem dX11_kin_19 : decode cX11_kin 19 = .ok (.iload_n 2, 1) := by decide +kernel
theorem dX11_kin_20 : decode cX11_kin 20 = .ok (.invokevirtual 183, 3) := by decide +kernel
theorem dX11_kin_23 : decode cX11_kin 23 = .ok (.iconst 1, 1) := by decide +kernel
theorem dX11_kin_24 : decode cX11_kin 24 = .ok (.iload_n 2, 1) := by decide +kernel
theorem dX11_kin_25 : decode cX11_kin 25 = .ok (.ishl, 1) := by decide +kernel
theorem dX11_kin_26 : decode cX11_kin 26 = .ok (.iconst 1, 1) := by decide +kernel
theorem dX11_kin_27 : decode cX11_kin 27 = .ok (.isub, 1) := by decide +kernel
theorem dX11_kin_28 : decode cX11_kin 28 = .ok (.iand, 1) := by decide +kernel
theorem dX11_kin_29 : decode cX11_kin 29 = .ok (.ifCond .ne 6, 3) := by decide +kernel
theorem dX11_kin_32 : decode cX11_kin 32 = .ok (.iinc 1 1, 3) := by decide +kernel
theorem dX11_kin_35 : decode cX11_kin 35 = .ok (.iinc 2 1, 3) := by decide +kernel
theorem dX11_kin_38 : decode cX11_kin 38 = .ok (.goto (-34), 3) := by decide +kernel
theorem dX11_kin_41 : decode cX11_kin 41 = .ok (.iload_n 1, 1) := by decide +kernel
theorem dX11_kin_42 : decode cX11_kin 42 = .ok (.ireturn, 1) := by decide +kernel
def f_X11_kin_B4b (k4 : Int32 → Int32 → Wd → Option Int32) (l1 : Int32) (l2 : Int32) (w : Wd) : Option Int32 :=
  if (w.1 6 7) ≤ l2 then
    some l1
  else
    bnd (f_X4_alikeOf l2 w) fun x1 =>
    if (x1 &&& ((1 <<< (l2 &&& 31)) - 1)) = 0 then
      k4 (l1 + 1) (l2 + 1) w
    else
      k4 l1 (l2 + 1) w
def f_X11_kin_L4 (n : Nat) : Int32 → Int32 → Wd → Option Int32 :=
  Nat.rec (fun _ _ _ => none) (fun _ k => f_X11_kin_B4b k) n
set_option maxHeartbeats 4000000 in
set_option maxRecDepth 100000 in
theorem t_X11_kin_L4 {G : GT} {d : Nat} {w : Wd} (hd : 4 ≤ d + 1)  : ∀ (n : Nat) (l1 : Int32) (l2 : Int32) (r : Int32), f_X11_kin_L4 n l1 l2 w = some r → U (vf G mX11_kin (d + 1)) 4 [some (.ref 0), some (.int l1), some (.int l2)] [] w (some (.int r), 70, r0, w) := by
  intro n
  induction n with
  | zero => intro l1 l2 r h; cases h
  | succ n h4 =>
    intro l1 l2 r h
    have h : f_X11_kin_B4b (f_X11_kin_L4 n) l1 l2 w = some r := h
    unfold f_X11_kin_B4b at h
    refine V.iload_n (pc := 4) dX11_kin_4 rfl ?_
    refine V.aload_n (pc := 5) dX11_kin_5 rfl ?_
    refine V.getR (t := 6) (pc := 6) dX11_kin_6 f_RX11_28 k_cl11 lx_0 ly_0 rb_11_2 rr_0_2 ?_
    refine V.getI (pc := 9) dX11_kin_9 f_RX11_104 k_cl4 lx_6 ly_6 rb_4_7 ?_
    rcases ite_e h with ⟨c, h⟩ | ⟨c, h⟩
    · refine V.icmp_ge_t (t := 41) (pc := 12) dX11_kin_12 (by decide) c ?_
      refine V.iload_n (pc := 41) dX11_kin_41 rfl ?_
      obtain rfl := Option.some.inj h
      exact V.iret (pc := 42) dX11_kin_42 rfl (Nat.le_refl _) (Nat.le_refl _)
    · refine V.icmp_ge_f (t := 41) (pc := 12) dX11_kin_12 (by decide) c ?_
      refine V.aload_n (pc := 15) dX11_kin_15 rfl ?_
      refine V.getR (t := 6) (pc := 16) dX11_kin_16 f_RX11_28 k_cl11 lx_0 ly_0 rb_11_2 rr_0_2 ?_
      refine V.iload_n (pc := 19) dX11_kin_19 rfl ?_
      obtain ⟨x1, ex1, h⟩ := bnd_e h
      refine U.callV (pc := 20) (As := [.int l2]) (st := []) dX11_kin_20 l_RX11_183 (ok_X4_alikeOf (by omega) l2 ex1) lx_6 ly_6 cn_4 (Nat.le_of_ble_eq_true rfl) rfl rfl (Nat.le_of_ble_eq_true rfl) ?_
      refine V.iconst (pc := 23) dX11_kin_23 ic_1 ?_
      refine V.iload_n (pc := 24) dX11_kin_24 rfl ?_
      refine V.ishl (pc := 25) dX11_kin_25 ?_
      refine V.iconst (pc := 26) dX11_kin_26 ic_1 ?_
      refine V.isub (pc := 27) dX11_kin_27 ?_
      refine V.iand (pc := 28) dX11_kin_28 ?_
      rcases ite_e h with ⟨c, h⟩ | ⟨c, h⟩
      · refine V.if_ne_f (t := 35) (pc := 29) dX11_kin_29 (by decide) c ?_
        refine V.iinc (lv' := [some (.ref 0), some (.int (l1 + 1)), some (.int l2)]) (pc := 32) dX11_kin_32 (Nat.le_of_ble_eq_true rfl) rfl rfl (v := (l1 + 1)) (by rw [show Int32.ofInt 1 = 1 from by decide]) rfl ?_
        refine V.iinc (lv' := [some (.ref 0), some (.int (l1 + 1)), some (.int (l2 + 1))]) (pc := 35) dX11_kin_35 (Nat.le_of_ble_eq_true rfl) rfl rfl (v := (l2 + 1)) (by rw [show Int32.ofInt 1 = 1 from by decide]) rfl ?_
        refine V.goto (t := 4) (pc := 38) dX11_kin_38 (by decide) ?_
        exact h4 (l1 + 1) (l2 + 1) _ h
      · refine V.if_ne_t (t := 35) (pc := 29) dX11_kin_29 (by decide) c ?_
        refine V.iinc (lv' := [some (.ref 0), some (.int l1), some (.int (l2 + 1))]) (pc := 35) dX11_kin_35 (Nat.le_of_ble_eq_true rfl) rfl rfl (v := (l2 + 1)) (by rw [show Int32.ofInt 1 = 1 from by decide]) rfl ?_
        refine V.goto (t := 4) (pc := 38) dX11_kin_38 (by decide) ?_
        exact h4 l1 (l2 + 1) _ h
def f_X11_kin (w : Wd) : Option Int32 :=
  f_X11_kin_L4  FU 0 0 w
set_option maxHeartbeats 4000000 in
set_option maxRecDepth 100000 in
theorem ok_X11_kin {G : GT} {d : Nat} (hd : 4 ≤ d) {w : Wd}  {r : Int32} (h : f_X11_kin  w = some r) : uC G yX11_kin mX11_kin d [.ref 0] w (some (.int r)) w := by
  obtain ⟨d, rfl⟩ : ∃ e, d = e + 1 := ⟨d - 1, by omega⟩
  unfold f_X11_kin at h
  refine uC_of (lv := [some (.ref 0), none, none]) 2 pn_X11 ⟨rfl, rfl⟩ (Nat.le_of_ble_eq_true rfl) rfl ?_
  refine V.iconst (pc := 0) dX11_kin_0 ic_0 ?_
  refine V.istore_n (lv' := [some (.ref 0), some (.int 0), none]) (pc := 1) dX11_kin_1 (Nat.le_of_ble_eq_true rfl) rfl rfl ?_
  refine V.iconst (pc := 2) dX11_kin_2 ic_0 ?_
  refine V.istore_n (lv' := [some (.ref 0), some (.int 0), some (.int 0)]) (pc := 3) dX11_kin_3 (Nat.le_of_ble_eq_true rfl) rfl rfl ?_
  exact t_X11_kin_L4 hd FU 0 0 _ h
theorem dX12_kin_0 : decode cX12_kin 0 = .ok (.iconst 0, 1) := by decide +kernel
theorem dX12_kin_1 : decode cX12_kin 1 = .ok (.istore_n 1, 1) := by decide +kernel
theorem dX12_kin_2 : decode cX12_kin 2 = .ok (.aload_n 0, 1) := by decide +kernel
theorem dX12_kin_3 : decode cX12_kin 3 = .ok (.invokevirtual 143, 3) := by decide +kernel
theorem dX12_kin_6 : decode cX12_kin 6 = .ok (.istore_n 2, 1) := by decide +kernel
theorem dX12_kin_7 : decode cX12_kin 7 = .ok (.iload_n 2, 1) := by decide +kernel
theorem dX12_kin_8 : decode cX12_kin 8 = .ok (.ifCond .eq 35, 3) := by decide +kernel
theorem dX12_kin_11 : decode cX12_kin 11 = .ok (.iconst 0, 1) := by decide +kernel
theorem dX12_kin_12 : decode cX12_kin 12 = .ok (.istore_n 3, 1) := by decide +kernel
theorem dX12_kin_13 : decode cX12_kin 13 = .ok (.iload_n 2, 1) := by decide +kernel
theorem dX12_kin_14 : decode cX12_kin 14 = .ok (.iload_n 3, 1) := by decide +kernel
theorem dX12_kin_15 : decode cX12_kin 15 = .ok (.invokestatic 128, 3) := by decide +kernel
theorem dX12_kin_18 : decode cX12_kin 18 = .ok (.ifCond .ne 9, 3) := by decide +kernel
theorem dX12_kin_21 : decode cX12_kin 21 = .ok (.iinc 3 1, 3) := by decide +kernel
theorem dX12_kin_24 : decode cX12_kin 24 = .ok (.goto (-11), 3) := by decide +kernel
theorem dX12_kin_27 : decode cX12_kin 27 = .ok (.iload_n 2, 1) := by decide +kernel
theorem dX12_kin_28 : decode cX12_kin 28 = .ok (.aload_n 0, 1) := by decide +kernel
theorem dX12_kin_29 : decode cX12_kin 29 = .ok (.iload_n 3, 1) := by decide +kernel
theorem dX12_kin_30 : decode cX12_kin 30 = .ok (.invokevirtual 194, 3) := by decide +kernel
theorem dX12_kin_33 : decode cX12_kin 33 = .ok (.iconst (-1), 1) := by decide +kernel
theorem dX12_kin_34 : decode cX12_kin 34 = .ok (.ixor, 1) := by decide +kernel
theorem dX12_kin_35 : decode cX12_kin 35 = .ok (.iand, 1) := by decide +kernel
theorem dX12_kin_36 : decode cX12_kin 36 = .ok (.istore_n 2, 1) := by decide +kernel
theorem dX12_kin_37 : decode cX12_kin 37 = .ok (.iinc 1 1, 3) := by decide +kernel
theorem dX12_kin_40 : decode cX12_kin 40 = .ok (.goto (-33), 3) := by decide +kernel
theorem dX12_kin_43 : decode cX12_kin 43 = .ok (.iload_n 1, 1) := by decide +kernel
theorem dX12_kin_44 : decode cX12_kin 44 = .ok (.ireturn, 1) := by decide +kernel
def f_X12_kin_B13b (k7 : Int32 → Int32 → Wd → Option Int32) (k13 : Int32 → Int32 → Int32 → Wd → Option Int32) (l1 : Int32) (l2 : Int32) (l3 : Int32) (w : Wd) : Option Int32 :=
  if (f_X12_has l2 l3) = 0 then
    k13 l1 l2 (l3 + 1) w
  else
    bnd (f_X12_alikeTo l3 w) fun x1 =>
    k7 (l1 + 1) (l2 &&& (x1 ^^^ (-1))) w
def f_X12_kin_L13 (k7 : Int32 → Int32 → Wd → Option Int32) (n : Nat) : Int32 → Int32 → Int32 → Wd → Option Int32 :=
  Nat.rec (fun _ _ _ _ => none) (fun _ k => f_X12_kin_B13b k7 k) n
set_option maxHeartbeats 4000000 in
set_option maxRecDepth 100000 in
theorem t_X12_kin_L13 {G : GT} {d : Nat} {k7 : Int32 → Int32 → Wd → Option Int32} {w : Wd} (hd : 3 ≤ d + 1) (h7 : ∀ (l1 : Int32) (l2 : Int32) (r : Int32), k7 l1 l2 w = some r → U (vf G mX12_kin (d + 1)) 7 [some (.ref 44), some (.int l1), some (.int l2), none] [] w (some (.int r), 70, r0, w)) : ∀ (n : Nat) (l1 : Int32) (l2 : Int32) (l3 : Int32) (r : Int32), f_X12_kin_L13 k7 n l1 l2 l3 w = some r → U (vf G mX12_kin (d + 1)) 13 [some (.ref 44), some (.int l1), some (.int l2), some (.int l3)] [] w (some (.int r), 70, r0, w) := by
  intro n
  induction n with
  | zero => intro l1 l2 l3 r h; cases h
  | succ n h13 =>
    intro l1 l2 l3 r h
    have h : f_X12_kin_B13b k7 (f_X12_kin_L13 k7 n) l1 l2 l3 w = some r := h
    unfold f_X12_kin_B13b at h
    refine V.iload_n (pc := 13) dX12_kin_13 rfl ?_
    refine V.iload_n (pc := 14) dX12_kin_14 rfl ?_
    refine U.callS (pc := 15) (As := [.int l2, .int l3]) (st := []) dX12_kin_15 l_RX12_128 (ok_X12_has (by omega) l2 l3 ) (Nat.le_of_ble_eq_true rfl) rfl rfl (Nat.le_of_ble_eq_true rfl) ?_
    rcases ite_e h with ⟨c, h⟩ | ⟨c, h⟩
    · refine V.if_ne_f (t := 27) (pc := 18) dX12_kin_18 (by decide) c ?_
      refine V.iinc (lv' := [some (.ref 44), some (.int l1), some (.int l2), some (.int (l3 + 1))]) (pc := 21) dX12_kin_21 (Nat.le_of_ble_eq_true rfl) rfl rfl (v := (l3 + 1)) (by rw [show Int32.ofInt 1 = 1 from by decide]) rfl ?_
      refine V.goto (t := 13) (pc := 24) dX12_kin_24 (by decide) ?_
      exact h13 l1 l2 (l3 + 1) _ h
    · refine V.if_ne_t (t := 27) (pc := 18) dX12_kin_18 (by decide) c ?_
      refine V.iload_n (pc := 27) dX12_kin_27 rfl ?_
      refine V.aload_n (pc := 28) dX12_kin_28 rfl ?_
      refine V.iload_n (pc := 29) dX12_kin_29 rfl ?_
      obtain ⟨x1, ex1, h⟩ := bnd_e h
      refine U.callV (pc := 30) (As := [.int l3]) (st := [.int l2]) dX12_kin_30 l_RX12_194 (ok_X12_alikeTo (by omega) l3 ex1) lx_44 ly_44 cn_12 (Nat.le_of_ble_eq_true rfl) rfl rfl (Nat.le_of_ble_eq_true rfl) ?_
      refine V.iconst (pc := 33) dX12_kin_33 ic_m1 ?_
      refine V.ixor (pc := 34) dX12_kin_34 ?_
      refine V.iand (pc := 35) dX12_kin_35 ?_
      refine V.istore_n (lv' := [some (.ref 44), some (.int l1), some (.int (l2 &&& (x1 ^^^ (-1)))), some (.int l3)]) (pc := 36) dX12_kin_36 (Nat.le_of_ble_eq_true rfl) rfl rfl ?_
      refine V.iinc (lv' := [some (.ref 44), some (.int (l1 + 1)), some (.int (l2 &&& (x1 ^^^ (-1)))), some (.int l3)]) (pc := 37) dX12_kin_37 (Nat.le_of_ble_eq_true rfl) rfl rfl (v := (l1 + 1)) (by rw [show Int32.ofInt 1 = 1 from by decide]) rfl ?_
      refine V.goto (t := 7) (pc := 40) dX12_kin_40 (by decide) ?_
      refine V.weak (lv' := [some (.ref 44), some (.int (l1 + 1)), some (.int (l2 &&& (x1 ^^^ (-1)))), none]) (And.intro rfl (And.intro rfl (And.intro rfl trivial))) ?_
      exact h7 (l1 + 1) (l2 &&& (x1 ^^^ (-1))) _ h
def f_X12_kin_B7b (k7 : Int32 → Int32 → Wd → Option Int32) (l1 : Int32) (l2 : Int32) (w : Wd) : Option Int32 :=
  if l2 = 0 then
    some l1
  else
    f_X12_kin_L13 k7 FU l1 l2 0 w
def f_X12_kin_L7 (n : Nat) : Int32 → Int32 → Wd → Option Int32 :=
  Nat.rec (fun _ _ _ => none) (fun _ k => f_X12_kin_B7b k) n
set_option maxHeartbeats 4000000 in
set_option maxRecDepth 100000 in
theorem t_X12_kin_L7 {G : GT} {d : Nat} {w : Wd} (hd : 3 ≤ d + 1)  : ∀ (n : Nat) (l1 : Int32) (l2 : Int32) (r : Int32), f_X12_kin_L7 n l1 l2 w = some r → U (vf G mX12_kin (d + 1)) 7 [some (.ref 44), some (.int l1), some (.int l2), none] [] w (some (.int r), 70, r0, w) := by
  intro n
  induction n with
  | zero => intro l1 l2 r h; cases h
  | succ n h7 =>
    intro l1 l2 r h
    have h : f_X12_kin_B7b (f_X12_kin_L7 n) l1 l2 w = some r := h
    unfold f_X12_kin_B7b at h
    refine V.iload_n (pc := 7) dX12_kin_7 rfl ?_
    rcases ite_e h with ⟨c, h⟩ | ⟨c, h⟩
    · refine V.if_eq_t (t := 43) (pc := 8) dX12_kin_8 (by decide) c ?_
      refine V.iload_n (pc := 43) dX12_kin_43 rfl ?_
      obtain rfl := Option.some.inj h
      exact V.iret (pc := 44) dX12_kin_44 rfl (Nat.le_refl _) (Nat.le_refl _)
    · refine V.if_eq_f (t := 43) (pc := 8) dX12_kin_8 (by decide) c ?_
      refine V.iconst (pc := 11) dX12_kin_11 ic_0 ?_
      refine V.istore_n (lv' := [some (.ref 44), some (.int l1), some (.int l2), some (.int 0)]) (pc := 12) dX12_kin_12 (Nat.le_of_ble_eq_true rfl) rfl rfl ?_
      exact t_X12_kin_L13 hd h7 FU l1 l2 0 _ h
def f_X12_kin (w : Wd) : Option Int32 :=
  f_X12_kin_L7  FU 0 (f_X12_all  w) w
set_option maxHeartbeats 4000000 in
set_option maxRecDepth 100000 in
theorem ok_X12_kin {G : GT} {d : Nat} (hd : 3 ≤ d) {w : Wd}  {r : Int32} (h : f_X12_kin  w = some r) : uC G yX12_kin mX12_kin d [.ref 44] w (some (.int r)) w := by
  obtain ⟨d, rfl⟩ : ∃ e, d = e + 1 := ⟨d - 1, by omega⟩
  unfold f_X12_kin at h
  refine uC_of (lv := [some (.ref 44), none, none, none]) 3 pn_X12 ⟨rfl, rfl⟩ (Nat.le_of_ble_eq_true rfl) rfl ?_
  refine V.iconst (pc := 0) dX12_kin_0 ic_0 ?_
  refine V.istore_n (lv' := [some (.ref 44), some (.int 0), none, none]) (pc := 1) dX12_kin_1 (Nat.le_of_ble_eq_true rfl) rfl rfl ?_
  refine V.aload_n (pc := 2) dX12_kin_2 rfl ?_
  refine U.callV (pc := 3) (As := []) (st := []) dX12_kin_3 l_RX12_143 (ok_X12_all (by omega)  ) lx_44 ly_44 cn_12 (Nat.le_of_ble_eq_true rfl) rfl rfl (Nat.le_of_ble_eq_true rfl) ?_
  refine V.istore_n (lv' := [some (.ref 44), some (.int 0), some (.int (f_X12_all  w)), none]) (pc := 6) dX12_kin_6 (Nat.le_of_ble_eq_true rfl) rfl rfl ?_
  exact t_X12_kin_L7 hd FU 0 (f_X12_all w) _ h
theorem dX11_normal_0 : decode cX11_normal 0 = .ok (.aload_n 0, 1) := by decide +kernel
theorem dX11_normal_1 : decode cX11_normal 1 = .ok (.getfield 28, 3) := by decide +kernel
theorem dX11_normal_4 : decode cX11_normal 4 = .ok (.iload_n 1, 1) := by decide +kernel
theorem dX11_normal_5 : decode cX11_normal 5 = .ok (.invokevirtual 118, 3) := by decide +kernel
theorem dX11_normal_8 : decode cX11_normal 8 = .ok (.ifCond .ne 5, 3) := by decide +kernel
theorem dX11_normal_11 : decode cX11_normal 11 = .ok (.iconst (-1), 1) := by decide +kernel
theorem dX11_normal_12 : decode cX11_normal 12 = .ok (.ireturn, 1) := by decide +kernel
theorem dX11_normal_13 : decode cX11_normal 13 = .ok (.aload_n 0, 1) := by decide +kernel
theorem dX11_normal_14 : decode cX11_normal 14 = .ok (.getfield 28, 3) := by decide +kernel
theorem dX11_normal_17 : decode cX11_normal 17 = .ok (.iload_n 1, 1) := by decide +kernel
theorem dX11_normal_18 : decode cX11_normal 18 = .ok (.invokevirtual 174, 3) := by decide +kernel
theorem dX11_normal_21 : decode cX11_normal 21 = .ok (.ifCond .ne 6, 3) := by decide +kernel
theorem dX11_normal_24 : decode cX11_normal 24 = .ok (.bipush (-2), 2) := by decide +kernel
theorem dX11_normal_26 : decode cX11_normal 26 = .ok (.ireturn, 1) := by decide +kernel
theorem dX11_normal_27 : decode cX11_normal 27 = .ok (.iconst 0, 1) := by decide +kernel
theorem dX11_normal_28 : decode cX11_normal 28 = .ok (.istore_n 2, 1) := by decide +kernel
theorem dX11_normal_29 : decode cX11_normal 29 = .ok (.iload_n 2, 1) := by decide +kernel
theorem dX11_normal_30 : decode cX11_normal 30 = .ok (.aload_n 0, 1) := by decide +kernel
theorem dX11_normal_31 : decode cX11_normal 31 = .ok (.getfield 28, 3) := by decide +kernel
theorem dX11_normal_34 : decode cX11_normal 34 = .ok (.getfield 104, 3) := by decide +kernel
theorem dX11_normal_37 : decode cX11_normal 37 = .ok (.if_icmp .ge 34, 3) := by decide +kernel
theorem dX11_normal_40 : decode cX11_normal 40 = .ok (.aload_n 0, 1) := by decide +kernel
theorem dX11_normal_41 : decode cX11_normal 41 = .ok (.getfield 28, 3) := by decide +kernel
theorem dX11_normal_44 : decode cX11_normal 44 = .ok (.iload_n 2, 1) := by decide +kernel
theorem dX11_normal_45 : decode cX11_normal 45 = .ok (.iload_n 1, 1) := by decide +kernel
theorem dX11_normal_46 : decode cX11_normal 46 = .ok (.iconst 1, 1) := by decide +kernel
theorem dX11_normal_47 : decode cX11_normal 47 = .ok (.invokevirtual 136, 3) := by decide +kernel
theorem dX11_normal_50 : decode cX11_normal 50 = .ok (.aload_n 0, 1) := by decide +kernel
theorem dX11_normal_51 : decode cX11_normal 51 = .ok (.getfield 28, 3) := by decide +kernel
theorem dX11_normal_54 : decode cX11_normal 54 = .ok (.iload_n 2, 1) := by decide +kernel
theorem dX11_normal_55 : decode cX11_normal 55 = .ok (.iload_n 1, 1) := by decide +kernel
theorem dX11_normal_56 : decode cX11_normal 56 = .ok (.iconst 0, 1) := by decide +kernel
theorem dX11_normal_57 : decode cX11_normal 57 = .ok (.invokevirtual 136, 3) := by decide +kernel
theorem dX11_normal_60 : decode cX11_normal 60 = .ok (.if_icmp .eq 5, 3) := by decide +kernel
theorem dX11_normal_63 : decode cX11_normal 63 = .ok (.iconst 0, 1) := by decide +kernel
theorem dX11_normal_64 : decode cX11_normal 64 = .ok (.ireturn, 1) := by decide +kernel
theorem dX11_normal_65 : decode cX11_normal 65 = .ok (.iinc 2 1, 3) := by decide +kernel
theorem dX11_normal_68 : decode cX11_normal 68 = .ok (.goto (-39), 3) := by decide +kernel
theorem dX11_normal_71 : decode cX11_normal 71 = .ok (.iconst 1, 1) := by decide +kernel
theorem dX11_normal_72 : decode cX11_normal 72 = .ok (.ireturn, 1) := by decide +kernel
def f_X11_normal_B29b (k29 : Int32 → Int32 → Wd → Option (Int32 × Wd)) (l1 : Int32) (l2 : Int32) (w : Wd) : Option (Int32 × Wd) :=
  if (w.1 6 7) ≤ l2 then
    some (1, w)
  else
    bnd (f_X4_moved l2 l1 1 w) fun x1 =>
    bnd (f_X4_moved l2 l1 0 w) fun x2 =>
    if x1 = x2 then
      k29 l1 (l2 + 1) w
    else
      some (0, w)
def f_X11_normal_L29 (n : Nat) : Int32 → Int32 → Wd → Option (Int32 × Wd) :=
  Nat.rec (fun _ _ _ => none) (fun _ k => f_X11_normal_B29b k) n
set_option maxHeartbeats 4000000 in
set_option maxRecDepth 100000 in
theorem t_X11_normal_L29 {G : GT} {d : Nat} (hd : 4 ≤ d + 1)  : ∀ (n : Nat) (l1 : Int32) (l2 : Int32) (w : Wd) (r : Int32) (w' : Wd), f_X11_normal_L29 n l1 l2 w = some (r, w') → U (vf G mX11_normal (d + 1)) 29 [some (.ref 0), some (.int l1), some (.int l2)] [] w (some (.int r), 70, r0, w') := by
  intro n
  induction n with
  | zero => intro l1 l2 w r w' h; cases h
  | succ n h29 =>
    intro l1 l2 w r w' h
    have h : f_X11_normal_B29b (f_X11_normal_L29 n) l1 l2 w = some (r, w') := h
    unfold f_X11_normal_B29b at h
    refine V.iload_n (pc := 29) dX11_normal_29 rfl ?_
    refine V.aload_n (pc := 30) dX11_normal_30 rfl ?_
    refine V.getR (t := 6) (pc := 31) dX11_normal_31 f_RX11_28 k_cl11 lx_0 ly_0 rb_11_2 rr_0_2 ?_
    refine V.getI (pc := 34) dX11_normal_34 f_RX11_104 k_cl4 lx_6 ly_6 rb_4_7 ?_
    rcases ite_e h with ⟨c, h⟩ | ⟨c, h⟩
    · refine V.icmp_ge_t (t := 71) (pc := 37) dX11_normal_37 (by decide) c ?_
      refine V.iconst (pc := 71) dX11_normal_71 ic_1 ?_
      obtain ⟨rfl, rfl⟩ := Prod.mk.inj (Option.some.inj h)
      exact V.iret (pc := 72) dX11_normal_72 rfl (Nat.le_refl _) (Nat.le_refl _)
    · refine V.icmp_ge_f (t := 71) (pc := 37) dX11_normal_37 (by decide) c ?_
      refine V.aload_n (pc := 40) dX11_normal_40 rfl ?_
      refine V.getR (t := 6) (pc := 41) dX11_normal_41 f_RX11_28 k_cl11 lx_0 ly_0 rb_11_2 rr_0_2 ?_
      refine V.iload_n (pc := 44) dX11_normal_44 rfl ?_
      refine V.iload_n (pc := 45) dX11_normal_45 rfl ?_
      refine V.iconst (pc := 46) dX11_normal_46 ic_1 ?_
      obtain ⟨x1, ex1, h⟩ := bnd_e h
      refine U.callV (pc := 47) (As := [.int l2, .int l1, .int 1]) (st := []) dX11_normal_47 l_RX11_136 (ok_X4_moved (by omega) l2 l1 1 ex1) lx_6 ly_6 cn_4 (Nat.le_of_ble_eq_true rfl) rfl rfl (Nat.le_of_ble_eq_true rfl) ?_
      refine V.aload_n (pc := 50) dX11_normal_50 rfl ?_
      refine V.getR (t := 6) (pc := 51) dX11_normal_51 f_RX11_28 k_cl11 lx_0 ly_0 rb_11_2 rr_0_2 ?_
      refine V.iload_n (pc := 54) dX11_normal_54 rfl ?_
      refine V.iload_n (pc := 55) dX11_normal_55 rfl ?_
      refine V.iconst (pc := 56) dX11_normal_56 ic_0 ?_
      obtain ⟨x2, ex2, h⟩ := bnd_e h
      refine U.callV (pc := 57) (As := [.int l2, .int l1, .int 0]) (st := [.int x1]) dX11_normal_57 l_RX11_136 (ok_X4_moved (by omega) l2 l1 0 ex2) lx_6 ly_6 cn_4 (Nat.le_of_ble_eq_true rfl) rfl rfl (Nat.le_of_ble_eq_true rfl) ?_
      rcases ite_e h with ⟨c, h⟩ | ⟨c, h⟩
      · refine V.icmp_eq_t (t := 65) (pc := 60) dX11_normal_60 (by decide) c ?_
        refine V.iinc (lv' := [some (.ref 0), some (.int l1), some (.int (l2 + 1))]) (pc := 65) dX11_normal_65 (Nat.le_of_ble_eq_true rfl) rfl rfl (v := (l2 + 1)) (by rw [show Int32.ofInt 1 = 1 from by decide]) rfl ?_
        refine V.goto (t := 29) (pc := 68) dX11_normal_68 (by decide) ?_
        exact h29 l1 (l2 + 1) w _ _ h
      · refine V.icmp_eq_f (t := 65) (pc := 60) dX11_normal_60 (by decide) c ?_
        refine V.iconst (pc := 63) dX11_normal_63 ic_0 ?_
        obtain ⟨rfl, rfl⟩ := Prod.mk.inj (Option.some.inj h)
        exact V.iret (pc := 64) dX11_normal_64 rfl (Nat.le_refl _) (Nat.le_refl _)
def f_X11_normal (l1 : Int32) (w : Wd) : Option (Int32 × Wd) :=
  if (f_X4_holdsSet l1 w) = 0 then
    some ((-1), w)
  else
    bnd2 (f_X4_isSubgroup l1 w) fun x1 w2 =>
    if x1 = 0 then
      some ((-2), w2)
    else
      f_X11_normal_L29  FU l1 0 w2
set_option maxHeartbeats 4000000 in
set_option maxRecDepth 100000 in
theorem ok_X11_normal {G : GT} {d : Nat} (hd : 4 ≤ d) {w : Wd} (l1 : Int32) {r : Int32} {w' : Wd} (h : f_X11_normal l1 w = some (r, w')) : uC G yX11_normal mX11_normal d [.ref 0, .int l1] w (some (.int r)) w' := by
  obtain ⟨d, rfl⟩ : ∃ e, d = e + 1 := ⟨d - 1, by omega⟩
  unfold f_X11_normal at h
  refine uC_of (lv := [some (.ref 0), some (.int l1), none]) 1 pn_X11 ⟨rfl, rfl⟩ (Nat.le_of_ble_eq_true rfl) rfl ?_
  refine V.aload_n (pc := 0) dX11_normal_0 rfl ?_
  refine V.getR (t := 6) (pc := 1) dX11_normal_1 f_RX11_28 k_cl11 lx_0 ly_0 rb_11_2 rr_0_2 ?_
  refine V.iload_n (pc := 4) dX11_normal_4 rfl ?_
  refine U.callV (pc := 5) (As := [.int l1]) (st := []) dX11_normal_5 l_RX11_118 (ok_X4_holdsSet (by omega) l1 ) lx_6 ly_6 cn_4 (Nat.le_of_ble_eq_true rfl) rfl rfl (Nat.le_of_ble_eq_true rfl) ?_
  rcases ite_e h with ⟨c, h⟩ | ⟨c, h⟩
  · refine V.if_ne_f (t := 13) (pc := 8) dX11_normal_8 (by decide) c ?_
    refine V.iconst (pc := 11) dX11_normal_11 ic_m1 ?_
    obtain ⟨rfl, rfl⟩ := Prod.mk.inj (Option.some.inj h)
    exact V.iret (pc := 12) dX11_normal_12 rfl (Nat.le_refl _) (Nat.le_refl _)
  · refine V.if_ne_t (t := 13) (pc := 8) dX11_normal_8 (by decide) c ?_
    refine V.aload_n (pc := 13) dX11_normal_13 rfl ?_
    refine V.getR (t := 6) (pc := 14) dX11_normal_14 f_RX11_28 k_cl11 lx_0 ly_0 rb_11_2 rr_0_2 ?_
    refine V.iload_n (pc := 17) dX11_normal_17 rfl ?_
    obtain ⟨x1, w2, ew2, h⟩ := bnd2_e h
    refine U.callV (pc := 18) (As := [.int l1]) (st := []) dX11_normal_18 l_RX11_174 (ok_X4_isSubgroup (by omega) l1 ew2) lx_6 ly_6 cn_4 (Nat.le_of_ble_eq_true rfl) rfl rfl (Nat.le_of_ble_eq_true rfl) ?_
    rcases ite_e h with ⟨c, h⟩ | ⟨c, h⟩
    · refine V.if_ne_f (t := 27) (pc := 21) dX11_normal_21 (by decide) c ?_
      refine V.bipush (pc := 24) dX11_normal_24 bp_m2 ?_
      obtain ⟨rfl, rfl⟩ := Prod.mk.inj (Option.some.inj h)
      exact V.iret (pc := 26) dX11_normal_26 rfl (Nat.le_refl _) (Nat.le_refl _)
    · refine V.if_ne_t (t := 27) (pc := 21) dX11_normal_21 (by decide) c ?_
      refine V.iconst (pc := 27) dX11_normal_27 ic_0 ?_
      refine V.istore_n (lv' := [some (.ref 0), some (.int l1), some (.int 0)]) (pc := 28) dX11_normal_28 (Nat.le_of_ble_eq_true rfl) rfl rfl ?_
      exact t_X11_normal_L29 hd FU l1 0 w2 _ _ h
theorem dX12_normal_0 : decode cX12_normal 0 = .ok (.aload_n 0, 1) := by decide +kernel
theorem dX12_normal_1 : decode cX12_normal 1 = .ok (.iload_n 1, 1) := by decide +kernel
theorem dX12_normal_2 : decode cX12_normal 2 = .ok (.invokevirtual 169, 3) := by decide +kernel
theorem dX12_normal_5 : decode cX12_normal 5 = .ok (.ifCond .ne 5, 3) := by decide +kernel
theorem dX12_normal_8 : decode cX12_normal 8 = .ok (.iconst (-1), 1) := by decide +kernel
theorem dX12_normal_9 : decode cX12_normal 9 = .ok (.ireturn, 1) := by decide +kernel
theorem dX12_normal_10 : decode cX12_normal 10 = .ok (.aload_n 0, 1) := by decide +kernel
theorem dX12_normal_11 : decode cX12_normal 11 = .ok (.iload_n 1, 1) := by decide +kernel
theorem dX12_normal_12 : decode cX12_normal 12 = .ok (.invokevirtual 191, 3) := by decide +kernel
theorem dX12_normal_15 : decode cX12_normal 15 = .ok (.ifCond .ne 6, 3) := by decide +kernel
theorem dX12_normal_18 : decode cX12_normal 18 = .ok (.bipush (-2), 2) := by decide +kernel
theorem dX12_normal_20 : decode cX12_normal 20 = .ok (.ireturn, 1) := by decide +kernel
theorem dX12_normal_21 : decode cX12_normal 21 = .ok (.iconst 0, 1) := by decide +kernel
theorem dX12_normal_22 : decode cX12_normal 22 = .ok (.istore_n 2, 1) := by decide +kernel
theorem dX12_normal_23 : decode cX12_normal 23 = .ok (.iload_n 2, 1) := by decide +kernel
theorem dX12_normal_24 : decode cX12_normal 24 = .ok (.aload_n 0, 1) := by decide +kernel
theorem dX12_normal_25 : decode cX12_normal 25 = .ok (.getfield 92, 3) := by decide +kernel
theorem dX12_normal_28 : decode cX12_normal 28 = .ok (.if_icmp .ge 28, 3) := by decide +kernel
theorem dX12_normal_31 : decode cX12_normal 31 = .ok (.aload_n 0, 1) := by decide +kernel
theorem dX12_normal_32 : decode cX12_normal 32 = .ok (.iload_n 1, 1) := by decide +kernel
theorem dX12_normal_33 : decode cX12_normal 33 = .ok (.iload_n 2, 1) := by decide +kernel
theorem dX12_normal_34 : decode cX12_normal 34 = .ok (.iconst 1, 1) := by decide +kernel
theorem dX12_normal_35 : decode cX12_normal 35 = .ok (.invokevirtual 178, 3) := by decide +kernel
theorem dX12_normal_38 : decode cX12_normal 38 = .ok (.aload_n 0, 1) := by decide +kernel
theorem dX12_normal_39 : decode cX12_normal 39 = .ok (.iload_n 1, 1) := by decide +kernel
theorem dX12_normal_40 : decode cX12_normal 40 = .ok (.iload_n 2, 1) := by decide +kernel
theorem dX12_normal_41 : decode cX12_normal 41 = .ok (.iconst 0, 1) := by decide +kernel
theorem dX12_normal_42 : decode cX12_normal 42 = .ok (.invokevirtual 178, 3) := by decide +kernel
theorem dX12_normal_45 : decode cX12_normal 45 = .ok (.if_icmp .eq 5, 3) := by decide +kernel
theorem dX12_normal_48 : decode cX12_normal 48 = .ok (.iconst 0, 1) := by decide +kernel
theorem dX12_normal_49 : decode cX12_normal 49 = .ok (.ireturn, 1) := by decide +kernel
theorem dX12_normal_50 : decode cX12_normal 50 = .ok (.iinc 2 1, 3) := by decide +kernel
theorem dX12_normal_53 : decode cX12_normal 53 = .ok (.goto (-30), 3) := by decide +kernel
theorem dX12_normal_56 : decode cX12_normal 56 = .ok (.iconst 1, 1) := by decide +kernel
theorem dX12_normal_57 : decode cX12_normal 57 = .ok (.ireturn, 1) := by decide +kernel
def f_X12_normal_B23b (k23 : Int32 → Int32 → Wd → Option Int32) (l1 : Int32) (l2 : Int32) (w : Wd) : Option Int32 :=
  if (w.1 44 1) ≤ l2 then
    some 1
  else
    bnd (f_X12_shifted l1 l2 1 w) fun x1 =>
    bnd (f_X12_shifted l1 l2 0 w) fun x2 =>
    if x1 = x2 then
      k23 l1 (l2 + 1) w
    else
      some 0
def f_X12_normal_L23 (n : Nat) : Int32 → Int32 → Wd → Option Int32 :=
  Nat.rec (fun _ _ _ => none) (fun _ k => f_X12_normal_B23b k) n
set_option maxHeartbeats 4000000 in
set_option maxRecDepth 100000 in
theorem t_X12_normal_L23 {G : GT} {d : Nat} {w : Wd} (hd : 2 ≤ d + 1)  : ∀ (n : Nat) (l1 : Int32) (l2 : Int32) (r : Int32), f_X12_normal_L23 n l1 l2 w = some r → U (vf G mX12_normal (d + 1)) 23 [some (.ref 44), some (.int l1), some (.int l2)] [] w (some (.int r), 70, r0, w) := by
  intro n
  induction n with
  | zero => intro l1 l2 r h; cases h
  | succ n h23 =>
    intro l1 l2 r h
    have h : f_X12_normal_B23b (f_X12_normal_L23 n) l1 l2 w = some r := h
    unfold f_X12_normal_B23b at h
    refine V.iload_n (pc := 23) dX12_normal_23 rfl ?_
    refine V.aload_n (pc := 24) dX12_normal_24 rfl ?_
    refine V.getI (pc := 25) dX12_normal_25 f_RX12_92 k_cl12 lx_44 ly_44 rb_12_1 ?_
    rcases ite_e h with ⟨c, h⟩ | ⟨c, h⟩
    · refine V.icmp_ge_t (t := 56) (pc := 28) dX12_normal_28 (by decide) c ?_
      refine V.iconst (pc := 56) dX12_normal_56 ic_1 ?_
      obtain rfl := Option.some.inj h
      exact V.iret (pc := 57) dX12_normal_57 rfl (Nat.le_refl _) (Nat.le_refl _)
    · refine V.icmp_ge_f (t := 56) (pc := 28) dX12_normal_28 (by decide) c ?_
      refine V.aload_n (pc := 31) dX12_normal_31 rfl ?_
      refine V.iload_n (pc := 32) dX12_normal_32 rfl ?_
      refine V.iload_n (pc := 33) dX12_normal_33 rfl ?_
      refine V.iconst (pc := 34) dX12_normal_34 ic_1 ?_
      obtain ⟨x1, ex1, h⟩ := bnd_e h
      refine U.callV (pc := 35) (As := [.int l1, .int l2, .int 1]) (st := []) dX12_normal_35 l_RX12_178 (ok_X12_shifted (by omega) l1 l2 1 ex1) lx_44 ly_44 cn_12 (Nat.le_of_ble_eq_true rfl) rfl rfl (Nat.le_of_ble_eq_true rfl) ?_
      refine V.aload_n (pc := 38) dX12_normal_38 rfl ?_
      refine V.iload_n (pc := 39) dX12_normal_39 rfl ?_
      refine V.iload_n (pc := 40) dX12_normal_40 rfl ?_
      refine V.iconst (pc := 41) dX12_normal_41 ic_0 ?_
      obtain ⟨x2, ex2, h⟩ := bnd_e h
      refine U.callV (pc := 42) (As := [.int l1, .int l2, .int 0]) (st := [.int x1]) dX12_normal_42 l_RX12_178 (ok_X12_shifted (by omega) l1 l2 0 ex2) lx_44 ly_44 cn_12 (Nat.le_of_ble_eq_true rfl) rfl rfl (Nat.le_of_ble_eq_true rfl) ?_
      rcases ite_e h with ⟨c, h⟩ | ⟨c, h⟩
      · refine V.icmp_eq_t (t := 50) (pc := 45) dX12_normal_45 (by decide) c ?_
        refine V.iinc (lv' := [some (.ref 44), some (.int l1), some (.int (l2 + 1))]) (pc := 50) dX12_normal_50 (Nat.le_of_ble_eq_true rfl) rfl rfl (v := (l2 + 1)) (by rw [show Int32.ofInt 1 = 1 from by decide]) rfl ?_
        refine V.goto (t := 23) (pc := 53) dX12_normal_53 (by decide) ?_
        exact h23 l1 (l2 + 1) _ h
      · refine V.icmp_eq_f (t := 50) (pc := 45) dX12_normal_45 (by decide) c ?_
        refine V.iconst (pc := 48) dX12_normal_48 ic_0 ?_
        obtain rfl := Option.some.inj h
        exact V.iret (pc := 49) dX12_normal_49 rfl (Nat.le_refl _) (Nat.le_refl _)
def f_X12_normal (l1 : Int32) (w : Wd) : Option Int32 :=
  if (f_X12_isSet l1 w) = 0 then
    some (-1)
  else
    bnd (f_X12_isSubgroup l1 w) fun x1 =>
    if x1 = 0 then
      some (-2)
    else
      f_X12_normal_L23  FU l1 0 w
set_option maxHeartbeats 4000000 in
set_option maxRecDepth 100000 in
theorem ok_X12_normal {G : GT} {d : Nat} (hd : 2 ≤ d) {w : Wd} (l1 : Int32) {r : Int32} (h : f_X12_normal l1 w = some r) : uC G yX12_normal mX12_normal d [.ref 44, .int l1] w (some (.int r)) w := by
  obtain ⟨d, rfl⟩ : ∃ e, d = e + 1 := ⟨d - 1, by omega⟩
  unfold f_X12_normal at h
  refine uC_of (lv := [some (.ref 44), some (.int l1), none]) 1 pn_X12 ⟨rfl, rfl⟩ (Nat.le_of_ble_eq_true rfl) rfl ?_
  refine V.aload_n (pc := 0) dX12_normal_0 rfl ?_
  refine V.iload_n (pc := 1) dX12_normal_1 rfl ?_
  refine U.callV (pc := 2) (As := [.int l1]) (st := []) dX12_normal_2 l_RX12_169 (ok_X12_isSet (by omega) l1 ) lx_44 ly_44 cn_12 (Nat.le_of_ble_eq_true rfl) rfl rfl (Nat.le_of_ble_eq_true rfl) ?_
  rcases ite_e h with ⟨c, h⟩ | ⟨c, h⟩
  · refine V.if_ne_f (t := 10) (pc := 5) dX12_normal_5 (by decide) c ?_
    refine V.iconst (pc := 8) dX12_normal_8 ic_m1 ?_
    obtain rfl := Option.some.inj h
    exact V.iret (pc := 9) dX12_normal_9 rfl (Nat.le_refl _) (Nat.le_refl _)
  · refine V.if_ne_t (t := 10) (pc := 5) dX12_normal_5 (by decide) c ?_
    refine V.aload_n (pc := 10) dX12_normal_10 rfl ?_
    refine V.iload_n (pc := 11) dX12_normal_11 rfl ?_
    obtain ⟨x1, ex1, h⟩ := bnd_e h
    refine U.callV (pc := 12) (As := [.int l1]) (st := []) dX12_normal_12 l_RX12_191 (ok_X12_isSubgroup (by omega) l1 ex1) lx_44 ly_44 cn_12 (Nat.le_of_ble_eq_true rfl) rfl rfl (Nat.le_of_ble_eq_true rfl) ?_
    rcases ite_e h with ⟨c, h⟩ | ⟨c, h⟩
    · refine V.if_ne_f (t := 21) (pc := 15) dX12_normal_15 (by decide) c ?_
      refine V.bipush (pc := 18) dX12_normal_18 bp_m2 ?_
      obtain rfl := Option.some.inj h
      exact V.iret (pc := 20) dX12_normal_20 rfl (Nat.le_refl _) (Nat.le_refl _)
    · refine V.if_ne_t (t := 21) (pc := 15) dX12_normal_15 (by decide) c ?_
      refine V.iconst (pc := 21) dX12_normal_21 ic_0 ?_
      refine V.istore_n (lv' := [some (.ref 44), some (.int l1), some (.int 0)]) (pc := 22) dX12_normal_22 (Nat.le_of_ble_eq_true rfl) rfl rfl ?_
      exact t_X12_normal_L23 hd FU l1 0 _ h
theorem dX4_productsOf_0 : decode cX4_productsOf 0 = .ok (.iconst 0, 1) := by decide +kernel
theorem dX4_productsOf_1 : decode cX4_productsOf 1 = .ok (.istore_n 3, 1) := by decide +kernel
theorem dX4_productsOf_2 : decode cX4_productsOf 2 = .ok (.iconst 0, 1) := by decide +kernel
theorem dX4_productsOf_3 : decode cX4_productsOf 3 = .ok (.istore 4, 2) := by decide +kernel
theorem dX4_productsOf_5 : decode cX4_productsOf 5 = .ok (.iload 4, 2) := by decide +kernel
theorem dX4_productsOf_7 : decode cX4_productsOf 7 = .ok (.aload_n 0, 1) := by decide +kernel
theorem dX4_productsOf_8 : decode cX4_productsOf 8 = .ok (.getfield 30, 3) := by decide +kernel
theorem dX4_productsOf_11 : decode cX4_productsOf 11 = .ok (.if_icmp .ge 29, 3) := by decide +kernel
theorem dX4_productsOf_14 : decode cX4_productsOf 14 = .ok (.iload_n 1, 1) := by decide +kernel
theorem dX4_productsOf_15 : decode cX4_productsOf 15 = .ok (.iload 4, 2) := by decide +kernel
theorem dX4_productsOf_17 : decode cX4_productsOf 17 = .ok (.ishr, 1) := by decide +kernel
theorem dX4_productsOf_18 : decode cX4_productsOf 18 = .ok (.iconst 1, 1) := by decide +kernel
theorem dX4_productsOf_19 : decode cX4_productsOf 19 = .ok (.iand, 1) := by decide +kernel
theorem dX4_productsOf_20 : decode cX4_productsOf 20 = .ok (.ifCond .eq 14, 3) := by decide +kernel
theorem dX4_productsOf_23 : decode cX4_productsOf 23 = .ok (.iload_n 3, 1) := by decide +kernel
theorem dX4_productsOf_24 : decode cX4_productsOf 24 = .ok (.aload_n 0, 1) := by decide +kernel
theorem dX4_productsOf_25 : decode cX4_productsOf 25 = .ok (.iload 4, 2) := by decide +kernel
theorem dX4_productsOf_27 : decode cX4_productsOf 27 = .ok (.iload_n 2, 1) := by decide +kernel
theorem dX4_productsOf_28 : decode cX4_productsOf 28 = .ok (.iconst 1, 1) := by decide +kernel
theorem dX4_productsOf_29 : decode cX4_productsOf 29 = .ok (.invokevirtual 80, 3) := by decide +kernel
theorem dX4_productsOf_32 : decode cX4_productsOf 32 = .ok (.ior, 1) := by decide +kernel
theorem dX4_productsOf_33 : decode cX4_productsOf 33 = .ok (.istore_n 3, 1) := by decide +kernel
theorem dX4_productsOf_34 : decode cX4_productsOf 34 = .ok (.iinc 4 1, 3) := by decide +kernel
theorem dX4_productsOf_37 : decode cX4_productsOf 37 = .ok (.goto (-32), 3) := by decide +kernel
theorem dX4_productsOf_40 : decode cX4_productsOf 40 = .ok (.iload_n 3, 1) := by decide +kernel
theorem dX4_productsOf_41 : decode cX4_productsOf 41 = .ok (.ireturn, 1) := by decide +kernel
def f_X4_productsOf_B5b (k5 : Int32 → Int32 → Int32 → Int32 → Wd → Option Int32) (l1 : Int32) (l2 : Int32) (l3 : Int32) (l4 : Int32) (w : Wd) : Option Int32 :=
  if (w.1 6 7) ≤ l4 then
    some l3
  else
    if ((l1 >>> (l4 &&& 31)) &&& 1) = 0 then
      k5 l1 l2 l3 (l4 + 1) w
    else
      bnd (f_X4_moved l4 l2 1 w) fun x1 =>
      k5 l1 l2 (l3 ||| x1) (l4 + 1) w
def f_X4_productsOf_L5 (n : Nat) : Int32 → Int32 → Int32 → Int32 → Wd → Option Int32 :=
  Nat.rec (fun _ _ _ _ _ => none) (fun _ k => f_X4_productsOf_B5b k) n
set_option maxHeartbeats 4000000 in
set_option maxRecDepth 100000 in
theorem t_X4_productsOf_L5 {G : GT} {d : Nat} {w : Wd} (hd : 2 ≤ d + 1)  : ∀ (n : Nat) (l1 : Int32) (l2 : Int32) (l3 : Int32) (l4 : Int32) (r : Int32), f_X4_productsOf_L5 n l1 l2 l3 l4 w = some r → U (vf G mX4_productsOf (d + 1)) 5 [some (.ref 6), some (.int l1), some (.int l2), some (.int l3), some (.int l4)] [] w (some (.int r), 70, r0, w) := by
  intro n
  induction n with
  | zero => intro l1 l2 l3 l4 r h; cases h
  | succ n h5 =>
    intro l1 l2 l3 l4 r h
    have h : f_X4_productsOf_B5b (f_X4_productsOf_L5 n) l1 l2 l3 l4 w = some r := h
    unfold f_X4_productsOf_B5b at h
    refine V.iload (pc := 5) dX4_productsOf_5 rfl ?_
    refine V.aload_n (pc := 7) dX4_productsOf_7 rfl ?_
    refine V.getI (pc := 8) dX4_productsOf_8 f_RX4_30 k_cl4 lx_6 ly_6 rb_4_7 ?_
    rcases ite_e h with ⟨c, h⟩ | ⟨c, h⟩
    · refine V.icmp_ge_t (t := 40) (pc := 11) dX4_productsOf_11 (by decide) c ?_
      refine V.iload_n (pc := 40) dX4_productsOf_40 rfl ?_
      obtain rfl := Option.some.inj h
      exact V.iret (pc := 41) dX4_productsOf_41 rfl (Nat.le_refl _) (Nat.le_refl _)
    · refine V.icmp_ge_f (t := 40) (pc := 11) dX4_productsOf_11 (by decide) c ?_
      refine V.iload_n (pc := 14) dX4_productsOf_14 rfl ?_
      refine V.iload (pc := 15) dX4_productsOf_15 rfl ?_
      refine V.ishr (pc := 17) dX4_productsOf_17 ?_
      refine V.iconst (pc := 18) dX4_productsOf_18 ic_1 ?_
      refine V.iand (pc := 19) dX4_productsOf_19 ?_
      rcases ite_e h with ⟨c, h⟩ | ⟨c, h⟩
      · refine V.if_eq_t (t := 34) (pc := 20) dX4_productsOf_20 (by decide) c ?_
        refine V.iinc (lv' := [some (.ref 6), some (.int l1), some (.int l2), some (.int l3), some (.int (l4 + 1))]) (pc := 34) dX4_productsOf_34 (Nat.le_of_ble_eq_true rfl) rfl rfl (v := (l4 + 1)) (by rw [show Int32.ofInt 1 = 1 from by decide]) rfl ?_
        refine V.goto (t := 5) (pc := 37) dX4_productsOf_37 (by decide) ?_
        exact h5 l1 l2 l3 (l4 + 1) _ h
      · refine V.if_eq_f (t := 34) (pc := 20) dX4_productsOf_20 (by decide) c ?_
        refine V.iload_n (pc := 23) dX4_productsOf_23 rfl ?_
        refine V.aload_n (pc := 24) dX4_productsOf_24 rfl ?_
        refine V.iload (pc := 25) dX4_productsOf_25 rfl ?_
        refine V.iload_n (pc := 27) dX4_productsOf_27 rfl ?_
        refine V.iconst (pc := 28) dX4_productsOf_28 ic_1 ?_
        obtain ⟨x1, ex1, h⟩ := bnd_e h
        refine U.callV (pc := 29) (As := [.int l4, .int l2, .int 1]) (st := [.int l3]) dX4_productsOf_29 l_RX4_80 (ok_X4_moved (by omega) l4 l2 1 ex1) lx_6 ly_6 cn_4 (Nat.le_of_ble_eq_true rfl) rfl rfl (Nat.le_of_ble_eq_true rfl) ?_
        refine V.ior (pc := 32) dX4_productsOf_32 ?_
        refine V.istore_n (lv' := [some (.ref 6), some (.int l1), some (.int l2), some (.int (l3 ||| x1)), some (.int l4)]) (pc := 33) dX4_productsOf_33 (Nat.le_of_ble_eq_true rfl) rfl rfl ?_
        refine V.iinc (lv' := [some (.ref 6), some (.int l1), some (.int l2), some (.int (l3 ||| x1)), some (.int (l4 + 1))]) (pc := 34) dX4_productsOf_34 (Nat.le_of_ble_eq_true rfl) rfl rfl (v := (l4 + 1)) (by rw [show Int32.ofInt 1 = 1 from by decide]) rfl ?_
        refine V.goto (t := 5) (pc := 37) dX4_productsOf_37 (by decide) ?_
        exact h5 l1 l2 (l3 ||| x1) (l4 + 1) _ h
def f_X4_productsOf (l1 : Int32) (l2 : Int32) (w : Wd) : Option Int32 :=
  f_X4_productsOf_L5  FU l1 l2 0 0 w
set_option maxHeartbeats 4000000 in
set_option maxRecDepth 100000 in
theorem ok_X4_productsOf {G : GT} {d : Nat} (hd : 2 ≤ d) {w : Wd} (l1 : Int32) (l2 : Int32) {r : Int32} (h : f_X4_productsOf l1 l2 w = some r) : uC G yX4_productsOf mX4_productsOf d [.ref 6, .int l1, .int l2] w (some (.int r)) w := by
  obtain ⟨d, rfl⟩ : ∃ e, d = e + 1 := ⟨d - 1, by omega⟩
  unfold f_X4_productsOf at h
  refine uC_of (lv := [some (.ref 6), some (.int l1), some (.int l2), none, none]) 2 pn_X4 ⟨rfl, rfl⟩ (Nat.le_of_ble_eq_true rfl) rfl ?_
  refine V.iconst (pc := 0) dX4_productsOf_0 ic_0 ?_
  refine V.istore_n (lv' := [some (.ref 6), some (.int l1), some (.int l2), some (.int 0), none]) (pc := 1) dX4_productsOf_1 (Nat.le_of_ble_eq_true rfl) rfl rfl ?_
  refine V.iconst (pc := 2) dX4_productsOf_2 ic_0 ?_
  refine V.istore (lv' := [some (.ref 6), some (.int l1), some (.int l2), some (.int 0), some (.int 0)]) (pc := 3) dX4_productsOf_3 (Nat.le_of_ble_eq_true rfl) rfl rfl ?_
  exact t_X4_productsOf_L5 hd FU l1 l2 0 0 _ h
theorem dX11_power_0 : decode cX11_power 0 = .ok (.aload_n 0, 1) := by decide +kernel
theorem dX11_power_1 : decode cX11_power 1 = .ok (.getfield 28, 3) := by decide +kernel
theorem dX11_power_4 : decode cX11_power 4 = .ok (.iload_n 1, 1) := by decide +kernel
theorem dX11_power_5 : decode cX11_power 5 = .ok (.invokevirtual 118, 3) := by decide +kernel
theorem dX11_power_8 : decode cX11_power 8 = .ok (.ifCond .eq 14, 3) := by decide +kernel
theorem dX11_power_11 : decode cX11_power 11 = .ok (.iload_n 2, 1) := by decide +kernel
theorem dX11_power_12 : decode cX11_power 12 = .ok (.iconst 1, 1) := by decide +kernel
theorem dX11_power_13 : decode cX11_power 13 = .ok (.if_icmp .lt 9, 3) := by decide +kernel
theorem dX11_power_16 : decode cX11_power 16 = .ok (.iload_n 2, 1) := by decide +kernel
theorem dX11_power_17 : decode cX11_power 17 = .ok (.bipush 99, 2) := by decide +kernel
theorem dX11_power_19 : decode cX11_power 19 = .ok (.if_icmp .le 5, 3) := by decide +kernel
theorem dX11_power_22 : decode cX11_power 22 = .ok (.iconst (-1), 1) := by decide +kernel
theorem dX11_power_23 : decode cX11_power 23 = .ok (.ireturn, 1) := by decide +kernel
theorem dX11_power_24 : decode cX11_power 24 = .ok (.iconst 1, 1) := by decide +kernel
theorem dX11_power_25 : decode cX11_power 25 = .ok (.istore_n 3, 1) := by decide +kernel
theorem dX11_power_26 : decode cX11_power 26 = .ok (.iload_n 1, 1) := by decide +kernel
theorem dX11_power_27 : decode cX11_power 27 = .ok (.istore 4, 2) := by decide +kernel
theorem dX11_power_29 : decode cX11_power 29 = .ok (.iload_n 2, 1) := by decide +kernel
theorem dX11_power_30 : decode cX11_power 30 = .ok (.istore 5, 2) := by decide +kernel
theorem dX11_power_32 : decode cX11_power 32 = .ok (.iload 5, 2) := by decide +kernel
theorem dX11_power_34 : decode cX11_power 34 = .ok (.ifCond .le 43, 3) := by decide +kernel
theorem dX11_power_37 : decode cX11_power 37 = .ok (.iload 5, 2) := by decide +kernel
theorem dX11_power_39 : decode cX11_power 39 = .ok (.iconst 1, 1) := by decide +kernel
theorem dX11_power_40 : decode cX11_power 40 = .ok (.iand, 1) := by decide +kernel
theorem dX11_power_41 : decode cX11_power 41 = .ok (.ifCond .eq 14, 3) := by decide +kernel
theorem dX11_power_44 : decode cX11_power 44 = .ok (.aload_n 0, 1) := by decide +kernel
theorem dX11_power_45 : decode cX11_power 45 = .ok (.getfield 28, 3) := by decide +kernel
theorem dX11_power_48 : decode cX11_power 48 = .ok (.iload_n 3, 1) := by decide +kernel
theorem dX11_power_49 : decode cX11_power 49 = .ok (.iload 4, 2) := by decide +kernel
theorem dX11_power_51 : decode cX11_power 51 = .ok (.invokevirtual 186, 3) := by decide +kernel
theorem dX11_power_54 : decode cX11_power 54 = .ok (.istore_n 3, 1) := by decide +kernel
theorem dX11_power_55 : decode cX11_power 55 = .ok (.aload_n 0, 1) := by decide +kernel
theorem dX11_power_56 : decode cX11_power 56 = .ok (.getfield 28, 3) := by decide +kernel
theorem dX11_power_59 : decode cX11_power 59 = .ok (.iload 4, 2) := by decide +kernel
theorem dX11_power_61 : decode cX11_power 61 = .ok (.iload 4, 2) := by decide +kernel
theorem dX11_power_63 : decode cX11_power 63 = .ok (.invokevirtual 186, 3) := by decide +kernel
theorem dX11_power_66 : decode cX11_power 66 = .ok (.istore 4, 2) := by decide +kernel
theorem dX11_power_68 : decode cX11_power 68 = .ok (.iload 5, 2) := by decide +kernel
theorem dX11_power_70 : decode cX11_power 70 = .ok (.iconst 1, 1) := by decide +kernel
theorem dX11_power_71 : decode cX11_power 71 = .ok (.ishr, 1) := by decide +kernel
theorem dX11_power_72 : decode cX11_power 72 = .ok (.istore 5, 2) := by decide +kernel
theorem dX11_power_74 : decode cX11_power 74 = .ok (.goto (-42), 3) := by decide +kernel
theorem dX11_power_77 : decode cX11_power 77 = .ok (.iload_n 3, 1) := by decide +kernel
theorem dX11_power_78 : decode cX11_power 78 = .ok (.ireturn, 1) := by decide +kernel
def f_X11_power_B32b (k32 : Int32 → Int32 → Int32 → Wd → Option Int32) (l3 : Int32) (l4 : Int32) (l5 : Int32) (w : Wd) : Option Int32 :=
  if l5 ≤ 0 then
    some l3
  else
    if (l5 &&& 1) = 0 then
      bnd (f_X4_productsOf l4 l4 w) fun x1 =>
      k32 l3 x1 (l5 >>> (1 &&& 31)) w
    else
      bnd (f_X4_productsOf l3 l4 w) fun x2 =>
      bnd (f_X4_productsOf l4 l4 w) fun x3 =>
      k32 x2 x3 (l5 >>> (1 &&& 31)) w
def f_X11_power_L32 (n : Nat) : Int32 → Int32 → Int32 → Wd → Option Int32 :=
  Nat.rec (fun _ _ _ _ => none) (fun _ k => f_X11_power_B32b k) n
set_option maxHeartbeats 4000000 in
set_option maxRecDepth 100000 in
theorem t_X11_power_L32 {G : GT} {d : Nat} {w : Wd} (hd : 3 ≤ d + 1)  : ∀ (n : Nat) (l3 : Int32) (l4 : Int32) (l5 : Int32) (r : Int32), f_X11_power_L32 n l3 l4 l5 w = some r → U (vf G mX11_power (d + 1)) 32 [some (.ref 0), none, none, some (.int l3), some (.int l4), some (.int l5)] [] w (some (.int r), 70, r0, w) := by
  intro n
  induction n with
  | zero => intro l3 l4 l5 r h; cases h
  | succ n h32 =>
    intro l3 l4 l5 r h
    have h : f_X11_power_B32b (f_X11_power_L32 n) l3 l4 l5 w = some r := h
    unfold f_X11_power_B32b at h
    refine V.iload (pc := 32) dX11_power_32 rfl ?_
    rcases ite_e h with ⟨c, h⟩ | ⟨c, h⟩
    · refine V.if_le_t (t := 77) (pc := 34) dX11_power_34 (by decide) c ?_
      refine V.iload_n (pc := 77) dX11_power_77 rfl ?_
      obtain rfl := Option.some.inj h
      exact V.iret (pc := 78) dX11_power_78 rfl (Nat.le_refl _) (Nat.le_refl _)
    · refine V.if_le_f (t := 77) (pc := 34) dX11_power_34 (by decide) c ?_
      refine V.iload (pc := 37) dX11_power_37 rfl ?_
      refine V.iconst (pc := 39) dX11_power_39 ic_1 ?_
      refine V.iand (pc := 40) dX11_power_40 ?_
      rcases ite_e h with ⟨c, h⟩ | ⟨c, h⟩
      · refine V.if_eq_t (t := 55) (pc := 41) dX11_power_41 (by decide) c ?_
        refine V.aload_n (pc := 55) dX11_power_55 rfl ?_
        refine V.getR (t := 6) (pc := 56) dX11_power_56 f_RX11_28 k_cl11 lx_0 ly_0 rb_11_2 rr_0_2 ?_
        refine V.iload (pc := 59) dX11_power_59 rfl ?_
        refine V.iload (pc := 61) dX11_power_61 rfl ?_
        obtain ⟨x1, ex1, h⟩ := bnd_e h
        refine U.callV (pc := 63) (As := [.int l4, .int l4]) (st := []) dX11_power_63 l_RX11_186 (ok_X4_productsOf (by omega) l4 l4 ex1) lx_6 ly_6 cn_4 (Nat.le_of_ble_eq_true rfl) rfl rfl (Nat.le_of_ble_eq_true rfl) ?_
        refine V.istore (lv' := [some (.ref 0), none, none, some (.int l3), some (.int x1), some (.int l5)]) (pc := 66) dX11_power_66 (Nat.le_of_ble_eq_true rfl) rfl rfl ?_
        refine V.iload (pc := 68) dX11_power_68 rfl ?_
        refine V.iconst (pc := 70) dX11_power_70 ic_1 ?_
        refine V.ishr (pc := 71) dX11_power_71 ?_
        refine V.istore (lv' := [some (.ref 0), none, none, some (.int l3), some (.int x1), some (.int (l5 >>> (1 &&& 31)))]) (pc := 72) dX11_power_72 (Nat.le_of_ble_eq_true rfl) rfl rfl ?_
        refine V.goto (t := 32) (pc := 74) dX11_power_74 (by decide) ?_
        exact h32 l3 x1 (l5 >>> (1 &&& 31)) _ h
      · refine V.if_eq_f (t := 55) (pc := 41) dX11_power_41 (by decide) c ?_
        refine V.aload_n (pc := 44) dX11_power_44 rfl ?_
        refine V.getR (t := 6) (pc := 45) dX11_power_45 f_RX11_28 k_cl11 lx_0 ly_0 rb_11_2 rr_0_2 ?_
        refine V.iload_n (pc := 48) dX11_power_48 rfl ?_
        refine V.iload (pc := 49) dX11_power_49 rfl ?_
        obtain ⟨x2, ex2, h⟩ := bnd_e h
        refine U.callV (pc := 51) (As := [.int l3, .int l4]) (st := []) dX11_power_51 l_RX11_186 (ok_X4_productsOf (by omega) l3 l4 ex2) lx_6 ly_6 cn_4 (Nat.le_of_ble_eq_true rfl) rfl rfl (Nat.le_of_ble_eq_true rfl) ?_
        refine V.istore_n (lv' := [some (.ref 0), none, none, some (.int x2), some (.int l4), some (.int l5)]) (pc := 54) dX11_power_54 (Nat.le_of_ble_eq_true rfl) rfl rfl ?_
        refine V.aload_n (pc := 55) dX11_power_55 rfl ?_
        refine V.getR (t := 6) (pc := 56) dX11_power_56 f_RX11_28 k_cl11 lx_0 ly_0 rb_11_2 rr_0_2 ?_
        refine V.iload (pc := 59) dX11_power_59 rfl ?_
        refine V.iload (pc := 61) dX11_power_61 rfl ?_
        obtain ⟨x3, ex3, h⟩ := bnd_e h
        refine U.callV (pc := 63) (As := [.int l4, .int l4]) (st := []) dX11_power_63 l_RX11_186 (ok_X4_productsOf (by omega) l4 l4 ex3) lx_6 ly_6 cn_4 (Nat.le_of_ble_eq_true rfl) rfl rfl (Nat.le_of_ble_eq_true rfl) ?_
        refine V.istore (lv' := [some (.ref 0), none, none, some (.int x2), some (.int x3), some (.int l5)]) (pc := 66) dX11_power_66 (Nat.le_of_ble_eq_true rfl) rfl rfl ?_
        refine V.iload (pc := 68) dX11_power_68 rfl ?_
        refine V.iconst (pc := 70) dX11_power_70 ic_1 ?_
        refine V.ishr (pc := 71) dX11_power_71 ?_
        refine V.istore (lv' := [some (.ref 0), none, none, some (.int x2), some (.int x3), some (.int (l5 >>> (1 &&& 31)))]) (pc := 72) dX11_power_72 (Nat.le_of_ble_eq_true rfl) rfl rfl ?_
        refine V.goto (t := 32) (pc := 74) dX11_power_74 (by decide) ?_
        exact h32 x2 x3 (l5 >>> (1 &&& 31)) _ h
def f_X11_power (l1 : Int32) (l2 : Int32) (w : Wd) : Option Int32 :=
  if (f_X4_holdsSet l1 w) = 0 then
    some (-1)
  else
    if l2 < 1 then
      some (-1)
    else
      if l2 ≤ 99 then
        f_X11_power_L32  FU 1 l1 l2 w
      else
        some (-1)
set_option maxHeartbeats 4000000 in
set_option maxRecDepth 100000 in
theorem ok_X11_power {G : GT} {d : Nat} (hd : 3 ≤ d) {w : Wd} (l1 : Int32) (l2 : Int32) {r : Int32} (h : f_X11_power l1 l2 w = some r) : uC G yX11_power mX11_power d [.ref 0, .int l1, .int l2] w (some (.int r)) w := by
  obtain ⟨d, rfl⟩ : ∃ e, d = e + 1 := ⟨d - 1, by omega⟩
  unfold f_X11_power at h
  refine uC_of (lv := [some (.ref 0), some (.int l1), some (.int l2), none, none, none]) 3 pn_X11 ⟨rfl, rfl⟩ (Nat.le_of_ble_eq_true rfl) rfl ?_
  refine V.aload_n (pc := 0) dX11_power_0 rfl ?_
  refine V.getR (t := 6) (pc := 1) dX11_power_1 f_RX11_28 k_cl11 lx_0 ly_0 rb_11_2 rr_0_2 ?_
  refine V.iload_n (pc := 4) dX11_power_4 rfl ?_
  refine U.callV (pc := 5) (As := [.int l1]) (st := []) dX11_power_5 l_RX11_118 (ok_X4_holdsSet (by omega) l1 ) lx_6 ly_6 cn_4 (Nat.le_of_ble_eq_true rfl) rfl rfl (Nat.le_of_ble_eq_true rfl) ?_
  rcases ite_e h with ⟨c, h⟩ | ⟨c, h⟩
  · refine V.if_eq_t (t := 22) (pc := 8) dX11_power_8 (by decide) c ?_
    refine V.iconst (pc := 22) dX11_power_22 ic_m1 ?_
    obtain rfl := Option.some.inj h
    exact V.iret (pc := 23) dX11_power_23 rfl (Nat.le_refl _) (Nat.le_refl _)
  · refine V.if_eq_f (t := 22) (pc := 8) dX11_power_8 (by decide) c ?_
    refine V.iload_n (pc := 11) dX11_power_11 rfl ?_
    refine V.iconst (pc := 12) dX11_power_12 ic_1 ?_
    rcases ite_e h with ⟨c, h⟩ | ⟨c, h⟩
    · refine V.icmp_lt_t (t := 22) (pc := 13) dX11_power_13 (by decide) c ?_
      refine V.iconst (pc := 22) dX11_power_22 ic_m1 ?_
      obtain rfl := Option.some.inj h
      exact V.iret (pc := 23) dX11_power_23 rfl (Nat.le_refl _) (Nat.le_refl _)
    · refine V.icmp_lt_f (t := 22) (pc := 13) dX11_power_13 (by decide) c ?_
      refine V.iload_n (pc := 16) dX11_power_16 rfl ?_
      refine V.bipush (pc := 17) dX11_power_17 bp_99 ?_
      rcases ite_e h with ⟨c, h⟩ | ⟨c, h⟩
      · refine V.icmp_le_t (t := 24) (pc := 19) dX11_power_19 (by decide) c ?_
        refine V.iconst (pc := 24) dX11_power_24 ic_1 ?_
        refine V.istore_n (lv' := [some (.ref 0), some (.int l1), some (.int l2), some (.int 1), none, none]) (pc := 25) dX11_power_25 (Nat.le_of_ble_eq_true rfl) rfl rfl ?_
        refine V.iload_n (pc := 26) dX11_power_26 rfl ?_
        refine V.istore (lv' := [some (.ref 0), some (.int l1), some (.int l2), some (.int 1), some (.int l1), none]) (pc := 27) dX11_power_27 (Nat.le_of_ble_eq_true rfl) rfl rfl ?_
        refine V.iload_n (pc := 29) dX11_power_29 rfl ?_
        refine V.istore (lv' := [some (.ref 0), some (.int l1), some (.int l2), some (.int 1), some (.int l1), some (.int l2)]) (pc := 30) dX11_power_30 (Nat.le_of_ble_eq_true rfl) rfl rfl ?_
        refine V.weak (lv' := [some (.ref 0), none, none, some (.int 1), some (.int l1), some (.int l2)]) (And.intro rfl (And.intro rfl (And.intro rfl (And.intro rfl trivial)))) ?_
        exact t_X11_power_L32 hd FU 1 l1 l2 _ h
      · refine V.icmp_le_f (t := 24) (pc := 19) dX11_power_19 (by decide) c ?_
        refine V.iconst (pc := 22) dX11_power_22 ic_m1 ?_
        obtain rfl := Option.some.inj h
        exact V.iret (pc := 23) dX11_power_23 rfl (Nat.le_refl _) (Nat.le_refl _)
theorem dX12_productsOfTwo_0 : decode cX12_productsOfTwo 0 = .ok (.iconst 0, 1) := by decide +kernel
theorem dX12_productsOfTwo_1 : decode cX12_productsOfTwo 1 = .ok (.istore_n 3, 1) := by decide +kernel
theorem dX12_productsOfTwo_2 : decode cX12_productsOfTwo 2 = .ok (.iconst 0, 1) := by decide +kernel
theorem dX12_productsOfTwo_3 : decode cX12_productsOfTwo 3 = .ok (.istore 4, 2) := by decide +kernel
theorem dX12_productsOfTwo_5 : decode cX12_productsOfTwo 5 = .ok (.iload 4, 2) := by decide +kernel
theorem dX12_productsOfTwo_7 : decode cX12_productsOfTwo 7 = .ok (.aload_n 0, 1) := by decide +kernel
theorem dX12_productsOfTwo_8 : decode cX12_productsOfTwo 8 = .ok (.getfield 92, 3) := by decide +kernel
theorem dX12_productsOfTwo_11 : decode cX12_productsOfTwo 11 = .ok (.if_icmp .ge 29, 3) := by decide +kernel
theorem dX12_productsOfTwo_14 : decode cX12_productsOfTwo 14 = .ok (.iload_n 1, 1) := by decide +kernel
theorem dX12_productsOfTwo_15 : decode cX12_productsOfTwo 15 = .ok (.iload 4, 2) := by decide +kernel
theorem dX12_productsOfTwo_17 : decode cX12_productsOfTwo 17 = .ok (.invokestatic 128, 3) := by decide +kernel
theorem dX12_productsOfTwo_20 : decode cX12_productsOfTwo 20 = .ok (.ifCond .eq 14, 3) := by decide +kernel
theorem dX12_productsOfTwo_23 : decode cX12_productsOfTwo 23 = .ok (.iload_n 3, 1) := by decide +kernel
theorem dX12_productsOfTwo_24 : decode cX12_productsOfTwo 24 = .ok (.aload_n 0, 1) := by decide +kernel
theorem dX12_productsOfTwo_25 : decode cX12_productsOfTwo 25 = .ok (.iload_n 2, 1) := by decide +kernel
theorem dX12_productsOfTwo_26 : decode cX12_productsOfTwo 26 = .ok (.iload 4, 2) := by decide +kernel
theorem dX12_productsOfTwo_28 : decode cX12_productsOfTwo 28 = .ok (.iconst 1, 1) := by decide +kernel
theorem dX12_productsOfTwo_29 : decode cX12_productsOfTwo 29 = .ok (.invokevirtual 178, 3) := by decide +kernel
theorem dX12_productsOfTwo_32 : decode cX12_productsOfTwo 32 = .ok (.ior, 1) := by decide +kernel
theorem dX12_productsOfTwo_33 : decode cX12_productsOfTwo 33 = .ok (.istore_n 3, 1) := by decide +kernel
theorem dX12_productsOfTwo_34 : decode cX12_productsOfTwo 34 = .ok (.iinc 4 1, 3) := by decide +kernel
theorem dX12_productsOfTwo_37 : decode cX12_productsOfTwo 37 = .ok (.goto (-32), 3) := by decide +kernel
theorem dX12_productsOfTwo_40 : decode cX12_productsOfTwo 40 = .ok (.iload_n 3, 1) := by decide +kernel
theorem dX12_productsOfTwo_41 : decode cX12_productsOfTwo 41 = .ok (.ireturn, 1) := by decide +kernel
def f_X12_productsOfTwo_B5b (k5 : Int32 → Int32 → Int32 → Int32 → Wd → Option Int32) (l1 : Int32) (l2 : Int32) (l3 : Int32) (l4 : Int32) (w : Wd) : Option Int32 :=
  if (w.1 44 1) ≤ l4 then
    some l3
  else
    if (f_X12_has l1 l4) = 0 then
      k5 l1 l2 l3 (l4 + 1) w
    else
      bnd (f_X12_shifted l2 l4 1 w) fun x1 =>
      k5 l1 l2 (l3 ||| x1) (l4 + 1) w
def f_X12_productsOfTwo_L5 (n : Nat) : Int32 → Int32 → Int32 → Int32 → Wd → Option Int32 :=
  Nat.rec (fun _ _ _ _ _ => none) (fun _ k => f_X12_productsOfTwo_B5b k) n
set_option maxHeartbeats 4000000 in
set_option maxRecDepth 100000 in
theorem t_X12_productsOfTwo_L5 {G : GT} {d : Nat} {w : Wd} (hd : 2 ≤ d + 1)  : ∀ (n : Nat) (l1 : Int32) (l2 : Int32) (l3 : Int32) (l4 : Int32) (r : Int32), f_X12_productsOfTwo_L5 n l1 l2 l3 l4 w = some r → U (vf G mX12_productsOfTwo (d + 1)) 5 [some (.ref 44), some (.int l1), some (.int l2), some (.int l3), some (.int l4)] [] w (some (.int r), 70, r0, w) := by
  intro n
  induction n with
  | zero => intro l1 l2 l3 l4 r h; cases h
  | succ n h5 =>
    intro l1 l2 l3 l4 r h
    have h : f_X12_productsOfTwo_B5b (f_X12_productsOfTwo_L5 n) l1 l2 l3 l4 w = some r := h
    unfold f_X12_productsOfTwo_B5b at h
    refine V.iload (pc := 5) dX12_productsOfTwo_5 rfl ?_
    refine V.aload_n (pc := 7) dX12_productsOfTwo_7 rfl ?_
    refine V.getI (pc := 8) dX12_productsOfTwo_8 f_RX12_92 k_cl12 lx_44 ly_44 rb_12_1 ?_
    rcases ite_e h with ⟨c, h⟩ | ⟨c, h⟩
    · refine V.icmp_ge_t (t := 40) (pc := 11) dX12_productsOfTwo_11 (by decide) c ?_
      refine V.iload_n (pc := 40) dX12_productsOfTwo_40 rfl ?_
      obtain rfl := Option.some.inj h
      exact V.iret (pc := 41) dX12_productsOfTwo_41 rfl (Nat.le_refl _) (Nat.le_refl _)
    · refine V.icmp_ge_f (t := 40) (pc := 11) dX12_productsOfTwo_11 (by decide) c ?_
      refine V.iload_n (pc := 14) dX12_productsOfTwo_14 rfl ?_
      refine V.iload (pc := 15) dX12_productsOfTwo_15 rfl ?_
      refine U.callS (pc := 17) (As := [.int l1, .int l4]) (st := []) dX12_productsOfTwo_17 l_RX12_128 (ok_X12_has (by omega) l1 l4 ) (Nat.le_of_ble_eq_true rfl) rfl rfl (Nat.le_of_ble_eq_true rfl) ?_
      rcases ite_e h with ⟨c, h⟩ | ⟨c, h⟩
      · refine V.if_eq_t (t := 34) (pc := 20) dX12_productsOfTwo_20 (by decide) c ?_
        refine V.iinc (lv' := [some (.ref 44), some (.int l1), some (.int l2), some (.int l3), some (.int (l4 + 1))]) (pc := 34) dX12_productsOfTwo_34 (Nat.le_of_ble_eq_true rfl) rfl rfl (v := (l4 + 1)) (by rw [show Int32.ofInt 1 = 1 from by decide]) rfl ?_
        refine V.goto (t := 5) (pc := 37) dX12_productsOfTwo_37 (by decide) ?_
        exact h5 l1 l2 l3 (l4 + 1) _ h
      · refine V.if_eq_f (t := 34) (pc := 20) dX12_productsOfTwo_20 (by decide) c ?_
        refine V.iload_n (pc := 23) dX12_productsOfTwo_23 rfl ?_
        refine V.aload_n (pc := 24) dX12_productsOfTwo_24 rfl ?_
        refine V.iload_n (pc := 25) dX12_productsOfTwo_25 rfl ?_
        refine V.iload (pc := 26) dX12_productsOfTwo_26 rfl ?_
        refine V.iconst (pc := 28) dX12_productsOfTwo_28 ic_1 ?_
        obtain ⟨x1, ex1, h⟩ := bnd_e h
        refine U.callV (pc := 29) (As := [.int l2, .int l4, .int 1]) (st := [.int l3]) dX12_productsOfTwo_29 l_RX12_178 (ok_X12_shifted (by omega) l2 l4 1 ex1) lx_44 ly_44 cn_12 (Nat.le_of_ble_eq_true rfl) rfl rfl (Nat.le_of_ble_eq_true rfl) ?_
        refine V.ior (pc := 32) dX12_productsOfTwo_32 ?_
        refine V.istore_n (lv' := [some (.ref 44), some (.int l1), some (.int l2), some (.int (l3 ||| x1)), some (.int l4)]) (pc := 33) dX12_productsOfTwo_33 (Nat.le_of_ble_eq_true rfl) rfl rfl ?_
        refine V.iinc (lv' := [some (.ref 44), some (.int l1), some (.int l2), some (.int (l3 ||| x1)), some (.int (l4 + 1))]) (pc := 34) dX12_productsOfTwo_34 (Nat.le_of_ble_eq_true rfl) rfl rfl (v := (l4 + 1)) (by rw [show Int32.ofInt 1 = 1 from by decide]) rfl ?_
        refine V.goto (t := 5) (pc := 37) dX12_productsOfTwo_37 (by decide) ?_
        exact h5 l1 l2 (l3 ||| x1) (l4 + 1) _ h
def f_X12_productsOfTwo (l1 : Int32) (l2 : Int32) (w : Wd) : Option Int32 :=
  f_X12_productsOfTwo_L5  FU l1 l2 0 0 w
set_option maxHeartbeats 4000000 in
set_option maxRecDepth 100000 in
theorem ok_X12_productsOfTwo {G : GT} {d : Nat} (hd : 2 ≤ d) {w : Wd} (l1 : Int32) (l2 : Int32) {r : Int32} (h : f_X12_productsOfTwo l1 l2 w = some r) : uC G yX12_productsOfTwo mX12_productsOfTwo d [.ref 44, .int l1, .int l2] w (some (.int r)) w := by
  obtain ⟨d, rfl⟩ : ∃ e, d = e + 1 := ⟨d - 1, by omega⟩
  unfold f_X12_productsOfTwo at h
  refine uC_of (lv := [some (.ref 44), some (.int l1), some (.int l2), none, none]) 2 pn_X12 ⟨rfl, rfl⟩ (Nat.le_of_ble_eq_true rfl) rfl ?_
  refine V.iconst (pc := 0) dX12_productsOfTwo_0 ic_0 ?_
  refine V.istore_n (lv' := [some (.ref 44), some (.int l1), some (.int l2), some (.int 0), none]) (pc := 1) dX12_productsOfTwo_1 (Nat.le_of_ble_eq_true rfl) rfl rfl ?_
  refine V.iconst (pc := 2) dX12_productsOfTwo_2 ic_0 ?_
  refine V.istore (lv' := [some (.ref 44), some (.int l1), some (.int l2), some (.int 0), some (.int 0)]) (pc := 3) dX12_productsOfTwo_3 (Nat.le_of_ble_eq_true rfl) rfl rfl ?_
  exact t_X12_productsOfTwo_L5 hd FU l1 l2 0 0 _ h
theorem dX12_power_0 : decode cX12_power 0 = .ok (.aload_n 0, 1) := by decide +kernel
theorem dX12_power_1 : decode cX12_power 1 = .ok (.iload_n 1, 1) := by decide +kernel
theorem dX12_power_2 : decode cX12_power 2 = .ok (.invokevirtual 169, 3) := by decide +kernel
theorem dX12_power_5 : decode cX12_power 5 = .ok (.ifCond .eq 13, 3) := by decide +kernel
theorem dX12_power_8 : decode cX12_power 8 = .ok (.iload_n 2, 1) := by decide +kernel
theorem dX12_power_9 : decode cX12_power 9 = .ok (.iconst 1, 1) := by decide +kernel
theorem dX12_power_10 : decode cX12_power 10 = .ok (.bipush 99, 2) := by decide +kernel
theorem dX12_power_12 : decode cX12_power 12 = .ok (.invokestatic 139, 3) := by decide +kernel
theorem dX12_power_15 : decode cX12_power 15 = .ok (.ifCond .ne 5, 3) := by decide +kernel
theorem dX12_power_18 : decode cX12_power 18 = .ok (.iconst (-1), 1) := by decide +kernel
theorem dX12_power_19 : decode cX12_power 19 = .ok (.ireturn, 1) := by decide +kernel
theorem dX12_power_20 : decode cX12_power 20 = .ok (.iload_n 1, 1) := by decide +kernel
theorem dX12_power_21 : decode cX12_power 21 = .ok (.istore_n 3, 1) := by decide +kernel
theorem dX12_power_22 : decode cX12_power 22 = .ok (.iconst 1, 1) := by decide +kernel
theorem dX12_power_23 : decode cX12_power 23 = .ok (.istore 4, 2) := by decide +kernel
theorem dX12_power_25 : decode cX12_power 25 = .ok (.iload 4, 2) := by decide +kernel
theorem dX12_power_27 : decode cX12_power 27 = .ok (.iload_n 2, 1) := by decide +kernel
theorem dX12_power_28 : decode cX12_power 28 = .ok (.if_icmp .ge 16, 3) := by decide +kernel
theorem dX12_power_31 : decode cX12_power 31 = .ok (.aload_n 0, 1) := by decide +kernel
theorem dX12_power_32 : decode cX12_power 32 = .ok (.iload_n 3, 1) := by decide +kernel
theorem dX12_power_33 : decode cX12_power 33 = .ok (.iload_n 1, 1) := by decide +kernel
theorem dX12_power_34 : decode cX12_power 34 = .ok (.invokevirtual 206, 3) := by decide +kernel
theorem dX12_power_37 : decode cX12_power 37 = .ok (.istore_n 3, 1) := by decide +kernel
theorem dX12_power_38 : decode cX12_power 38 = .ok (.iinc 4 1, 3) := by decide +kernel
theorem dX12_power_41 : decode cX12_power 41 = .ok (.goto (-16), 3) := by decide +kernel
theorem dX12_power_44 : decode cX12_power 44 = .ok (.iload_n 3, 1) := by decide +kernel
theorem dX12_power_45 : decode cX12_power 45 = .ok (.ireturn, 1) := by decide +kernel
def f_X12_power_B25b (k25 : Int32 → Int32 → Int32 → Int32 → Wd → Option Int32) (l1 : Int32) (l2 : Int32) (l3 : Int32) (l4 : Int32) (w : Wd) : Option Int32 :=
  if l2 ≤ l4 then
    some l3
  else
    bnd (f_X12_productsOfTwo l3 l1 w) fun x1 =>
    k25 l1 l2 x1 (l4 + 1) w
def f_X12_power_L25 (n : Nat) : Int32 → Int32 → Int32 → Int32 → Wd → Option Int32 :=
  Nat.rec (fun _ _ _ _ _ => none) (fun _ k => f_X12_power_B25b k) n
set_option maxHeartbeats 4000000 in
set_option maxRecDepth 100000 in
theorem t_X12_power_L25 {G : GT} {d : Nat} {w : Wd} (hd : 3 ≤ d + 1)  : ∀ (n : Nat) (l1 : Int32) (l2 : Int32) (l3 : Int32) (l4 : Int32) (r : Int32), f_X12_power_L25 n l1 l2 l3 l4 w = some r → U (vf G mX12_power (d + 1)) 25 [some (.ref 44), some (.int l1), some (.int l2), some (.int l3), some (.int l4)] [] w (some (.int r), 70, r0, w) := by
  intro n
  induction n with
  | zero => intro l1 l2 l3 l4 r h; cases h
  | succ n h25 =>
    intro l1 l2 l3 l4 r h
    have h : f_X12_power_B25b (f_X12_power_L25 n) l1 l2 l3 l4 w = some r := h
    unfold f_X12_power_B25b at h
    refine V.iload (pc := 25) dX12_power_25 rfl ?_
    refine V.iload_n (pc := 27) dX12_power_27 rfl ?_
    rcases ite_e h with ⟨c, h⟩ | ⟨c, h⟩
    · refine V.icmp_ge_t (t := 44) (pc := 28) dX12_power_28 (by decide) c ?_
      refine V.iload_n (pc := 44) dX12_power_44 rfl ?_
      obtain rfl := Option.some.inj h
      exact V.iret (pc := 45) dX12_power_45 rfl (Nat.le_refl _) (Nat.le_refl _)
    · refine V.icmp_ge_f (t := 44) (pc := 28) dX12_power_28 (by decide) c ?_
      refine V.aload_n (pc := 31) dX12_power_31 rfl ?_
      refine V.iload_n (pc := 32) dX12_power_32 rfl ?_
      refine V.iload_n (pc := 33) dX12_power_33 rfl ?_
      obtain ⟨x1, ex1, h⟩ := bnd_e h
      refine U.callV (pc := 34) (As := [.int l3, .int l1]) (st := []) dX12_power_34 l_RX12_206 (ok_X12_productsOfTwo (by omega) l3 l1 ex1) lx_44 ly_44 cn_12 (Nat.le_of_ble_eq_true rfl) rfl rfl (Nat.le_of_ble_eq_true rfl) ?_
      refine V.istore_n (lv' := [some (.ref 44), some (.int l1), some (.int l2), some (.int x1), some (.int l4)]) (pc := 37) dX12_power_37 (Nat.le_of_ble_eq_true rfl) rfl rfl ?_
      refine V.iinc (lv' := [some (.ref 44), some (.int l1), some (.int l2), some (.int x1), some (.int (l4 + 1))]) (pc := 38) dX12_power_38 (Nat.le_of_ble_eq_true rfl) rfl rfl (v := (l4 + 1)) (by rw [show Int32.ofInt 1 = 1 from by decide]) rfl ?_
      refine V.goto (t := 25) (pc := 41) dX12_power_41 (by decide) ?_
      exact h25 l1 l2 x1 (l4 + 1) _ h
def f_X12_power (l1 : Int32) (l2 : Int32) (w : Wd) : Option Int32 :=
  if (f_X12_isSet l1 w) = 0 then
    some (-1)
  else
    if (f_X12_in l2 1 99) = 0 then
      some (-1)
    else
      f_X12_power_L25  FU l1 l2 l1 1 w
set_option maxHeartbeats 4000000 in
set_option maxRecDepth 100000 in
theorem ok_X12_power {G : GT} {d : Nat} (hd : 3 ≤ d) {w : Wd} (l1 : Int32) (l2 : Int32) {r : Int32} (h : f_X12_power l1 l2 w = some r) : uC G yX12_power mX12_power d [.ref 44, .int l1, .int l2] w (some (.int r)) w := by
  obtain ⟨d, rfl⟩ : ∃ e, d = e + 1 := ⟨d - 1, by omega⟩
  unfold f_X12_power at h
  refine uC_of (lv := [some (.ref 44), some (.int l1), some (.int l2), none, none]) 2 pn_X12 ⟨rfl, rfl⟩ (Nat.le_of_ble_eq_true rfl) rfl ?_
  refine V.aload_n (pc := 0) dX12_power_0 rfl ?_
  refine V.iload_n (pc := 1) dX12_power_1 rfl ?_
  refine U.callV (pc := 2) (As := [.int l1]) (st := []) dX12_power_2 l_RX12_169 (ok_X12_isSet (by omega) l1 ) lx_44 ly_44 cn_12 (Nat.le_of_ble_eq_true rfl) rfl rfl (Nat.le_of_ble_eq_true rfl) ?_
  rcases ite_e h with ⟨c, h⟩ | ⟨c, h⟩
  · refine V.if_eq_t (t := 18) (pc := 5) dX12_power_5 (by decide) c ?_
    refine V.iconst (pc := 18) dX12_power_18 ic_m1 ?_
    obtain rfl := Option.some.inj h
    exact V.iret (pc := 19) dX12_power_19 rfl (Nat.le_refl _) (Nat.le_refl _)
  · refine V.if_eq_f (t := 18) (pc := 5) dX12_power_5 (by decide) c ?_
    refine V.iload_n (pc := 8) dX12_power_8 rfl ?_
    refine V.iconst (pc := 9) dX12_power_9 ic_1 ?_
    refine V.bipush (pc := 10) dX12_power_10 bp_99 ?_
    refine U.callS (pc := 12) (As := [.int l2, .int 1, .int 99]) (st := []) dX12_power_12 l_RX12_139 (ok_X12_in (by omega) l2 1 99 ) (Nat.le_of_ble_eq_true rfl) rfl rfl (Nat.le_of_ble_eq_true rfl) ?_
    rcases ite_e h with ⟨c, h⟩ | ⟨c, h⟩
    · refine V.if_ne_f (t := 20) (pc := 15) dX12_power_15 (by decide) c ?_
      refine V.iconst (pc := 18) dX12_power_18 ic_m1 ?_
      obtain rfl := Option.some.inj h
      exact V.iret (pc := 19) dX12_power_19 rfl (Nat.le_refl _) (Nat.le_refl _)
    · refine V.if_ne_t (t := 20) (pc := 15) dX12_power_15 (by decide) c ?_
      refine V.iload_n (pc := 20) dX12_power_20 rfl ?_
      refine V.istore_n (lv' := [some (.ref 44), some (.int l1), some (.int l2), some (.int l1), none]) (pc := 21) dX12_power_21 (Nat.le_of_ble_eq_true rfl) rfl rfl ?_
      refine V.iconst (pc := 22) dX12_power_22 ic_1 ?_
      refine V.istore (lv' := [some (.ref 44), some (.int l1), some (.int l2), some (.int l1), some (.int 1)]) (pc := 23) dX12_power_23 (Nat.le_of_ble_eq_true rfl) rfl rfl ?_
      exact t_X12_power_L25 hd FU l1 l2 l1 1 _ h
