theorem dX3_fits_0 : decode cX3_fits 0 = .ok (.iload_n 1, 1) := by decide +kernel
theorem dX3_fits_1 : decode cX3_fits 1 = .ok (.ifCond .lt 24, 3) := by decide +kernel
theorem dX3_fits_4 : decode cX3_fits 4 = .ok (.iload_n 1, 1) := by decide +kernel
theorem dX3_fits_5 : decode cX3_fits 5 = .ok (.aload_n 0, 1) := by decide +kernel
theorem dX3_fits_6 : decode cX3_fits 6 = .ok (.getfield 19, 3) := by decide +kernel
theorem dX3_fits_9 : decode cX3_fits 9 = .ok (.if_icmp .ge 16, 3) := by decide +kernel
theorem dX3_fits_12 : decode cX3_fits 12 = .ok (.aload_n 0, 1) := by decide +kernel
theorem dX3_fits_13 : decode cX3_fits 13 = .ok (.getfield 11, 3) := by decide +kernel
theorem dX3_fits_16 : decode cX3_fits 16 = .ok (.iload_n 1, 1) := by decide +kernel
theorem dX3_fits_17 : decode cX3_fits 17 = .ok (.iaload, 1) := by decide +kernel
theorem dX3_fits_18 : decode cX3_fits 18 = .ok (.bipush 16, 2) := by decide +kernel
theorem dX3_fits_20 : decode cX3_fits 20 = .ok (.ishr, 1) := by decide +kernel
theorem dX3_fits_21 : decode cX3_fits 21 = .ok (.iload_n 2, 1) := by decide +kernel
theorem dX3_fits_22 : decode cX3_fits 22 = .ok (.if_icmp .ge 5, 3) := by decide +kernel
theorem dX3_fits_25 : decode cX3_fits 25 = .ok (.iconst 0, 1) := by decide +kernel
theorem dX3_fits_26 : decode cX3_fits 26 = .ok (.ireturn, 1) := by decide +kernel
theorem dX3_fits_27 : decode cX3_fits 27 = .ok (.iload_n 3, 1) := by decide +kernel
theorem dX3_fits_28 : decode cX3_fits 28 = .ok (.iconst (-1), 1) := by decide +kernel
theorem dX3_fits_29 : decode cX3_fits 29 = .ok (.if_icmp .eq 15, 3) := by decide +kernel
theorem dX3_fits_32 : decode cX3_fits 32 = .ok (.aload_n 0, 1) := by decide +kernel
theorem dX3_fits_33 : decode cX3_fits 33 = .ok (.iload_n 1, 1) := by decide +kernel
theorem dX3_fits_34 : decode cX3_fits 34 = .ok (.invokevirtual 37, 3) := by decide +kernel
theorem dX3_fits_37 : decode cX3_fits 37 = .ok (.invokestatic 40, 3) := by decide +kernel
theorem dX3_fits_40 : decode cX3_fits 40 = .ok (.iload_n 3, 1) := by decide +kernel
theorem dX3_fits_41 : decode cX3_fits 41 = .ok (.if_icmp .ne 7, 3) := by decide +kernel
theorem dX3_fits_44 : decode cX3_fits 44 = .ok (.iconst 1, 1) := by decide +kernel
theorem dX3_fits_45 : decode cX3_fits 45 = .ok (.goto 4, 3) := by decide +kernel
theorem dX3_fits_48 : decode cX3_fits 48 = .ok (.iconst 0, 1) := by decide +kernel
theorem dX3_fits_49 : decode cX3_fits 49 = .ok (.ireturn, 1) := by decide +kernel
def f_X3_fits (l1 : Int32) (l2 : Int32) (l3 : Int32) (w : Wd) : Option Int32 :=
  if l1 < 0 then
    some 0
  else
    if (w.1 19 2) ≤ l1 then
      some 0
    else
      rdI w 20 3072 l1 fun x1 =>
      if l2 ≤ (x1 >>> (16 &&& 31)) then
        if l3 = (-1) then
          some 1
        else
          bnd (f_X3_setAt l1 w) fun x2 =>
          if (f_J6_bitCount_0f7a4 x2) = l3 then
            some 1
          else
            some 0
      else
        some 0
set_option maxHeartbeats 4000000 in
set_option maxRecDepth 100000 in
theorem ok_X3_fits {G : GT} {d : Nat} (hd : 1 ≤ d) {w : Wd} (l1 : Int32) (l2 : Int32) (l3 : Int32) {r : Int32} (h : f_X3_fits l1 l2 l3 w = some r) : uC G yX3_fits mX3_fits d [.ref 19, .int l1, .int l2, .int l3] w (some (.int r)) w := by
  obtain ⟨d, rfl⟩ : ∃ e, d = e + 1 := ⟨d - 1, by omega⟩
  unfold f_X3_fits at h
  refine uC_of (lv := [some (.ref 19), some (.int l1), some (.int l2), some (.int l3)]) 0 pn_X3 ⟨rfl, rfl⟩ (Nat.le_of_ble_eq_true rfl) rfl ?_
  refine V.iload_n (pc := 0) dX3_fits_0 rfl ?_
  rcases ite_e h with ⟨c, h⟩ | ⟨c, h⟩
  · refine V.if_lt_t (t := 25) (pc := 1) dX3_fits_1 (by decide) c ?_
    refine V.iconst (pc := 25) dX3_fits_25 ic_0 ?_
    obtain rfl := Option.some.inj h
    exact V.zret (pc := 26) dX3_fits_26 rfl (Or.inl rfl) (Nat.le_refl _) (Nat.le_refl _)
  · refine V.if_lt_f (t := 25) (pc := 1) dX3_fits_1 (by decide) c ?_
    refine V.iload_n (pc := 4) dX3_fits_4 rfl ?_
    refine V.aload_n (pc := 5) dX3_fits_5 rfl ?_
    refine V.getI (pc := 6) dX3_fits_6 f_RX3_19 k_cl3 lx_19 ly_19 rb_3_2 ?_
    rcases ite_e h with ⟨c, h⟩ | ⟨c, h⟩
    · refine V.icmp_ge_t (t := 25) (pc := 9) dX3_fits_9 (by decide) c ?_
      refine V.iconst (pc := 25) dX3_fits_25 ic_0 ?_
      obtain rfl := Option.some.inj h
      exact V.zret (pc := 26) dX3_fits_26 rfl (Or.inl rfl) (Nat.le_refl _) (Nat.le_refl _)
    · refine V.icmp_ge_f (t := 25) (pc := 9) dX3_fits_9 (by decide) c ?_
      refine V.aload_n (pc := 12) dX3_fits_12 rfl ?_
      refine V.getR (t := 20) (pc := 13) dX3_fits_13 f_RX3_11 k_cl3 lx_19 ly_19 rb_3_1 rr_19_1 ?_
      refine V.iload_n (pc := 16) dX3_fits_16 rfl ?_
      obtain ⟨x1, ix1, ex1, h⟩ := rdI_e h
      refine V.ialdX (pc := 17) dX3_fits_17 lx_20 ly_20 ix1 ex1 ?_
      refine V.bipush (pc := 18) dX3_fits_18 bp_16 ?_
      refine V.ishr (pc := 20) dX3_fits_20 ?_
      refine V.iload_n (pc := 21) dX3_fits_21 rfl ?_
      rcases ite_e h with ⟨c, h⟩ | ⟨c, h⟩
      · refine V.icmp_ge_t (t := 27) (pc := 22) dX3_fits_22 (by decide) c ?_
        refine V.iload_n (pc := 27) dX3_fits_27 rfl ?_
        refine V.iconst (pc := 28) dX3_fits_28 ic_m1 ?_
        rcases ite_e h with ⟨c, h⟩ | ⟨c, h⟩
        · refine V.icmp_eq_t (t := 44) (pc := 29) dX3_fits_29 (by decide) c ?_
          refine V.iconst (pc := 44) dX3_fits_44 ic_1 ?_
          refine V.goto (t := 49) (pc := 45) dX3_fits_45 (by decide) ?_
          obtain rfl := Option.some.inj h
          exact V.zret (pc := 49) dX3_fits_49 rfl (Or.inr rfl) (Nat.le_refl _) (Nat.le_refl _)
        · refine V.icmp_eq_f (t := 44) (pc := 29) dX3_fits_29 (by decide) c ?_
          refine V.aload_n (pc := 32) dX3_fits_32 rfl ?_
          refine V.iload_n (pc := 33) dX3_fits_33 rfl ?_
          obtain ⟨x2, ex2, h⟩ := bnd_e h
          refine U.callV (pc := 34) (As := [.int l1]) (st := []) dX3_fits_34 l_RX3_37 (ok_X3_setAt (by omega) l1 ex2) lx_19 ly_19 cn_3 (Nat.le_of_ble_eq_true rfl) rfl rfl (Nat.le_of_ble_eq_true rfl) ?_
          refine U.callS (pc := 37) (As := [.int x2]) (st := []) dX3_fits_37 l_RX3_40 (ok_J6_bitCount_0f7a4 (by omega) x2 ) (Nat.le_of_ble_eq_true rfl) rfl rfl (Nat.le_of_ble_eq_true rfl) ?_
          refine V.iload_n (pc := 40) dX3_fits_40 rfl ?_
          rcases ite_e h with ⟨c, h⟩ | ⟨c, h⟩
          · refine V.icmp_ne_f (t := 48) (pc := 41) dX3_fits_41 (by decide) c ?_
            refine V.iconst (pc := 44) dX3_fits_44 ic_1 ?_
            refine V.goto (t := 49) (pc := 45) dX3_fits_45 (by decide) ?_
            obtain rfl := Option.some.inj h
            exact V.zret (pc := 49) dX3_fits_49 rfl (Or.inr rfl) (Nat.le_refl _) (Nat.le_refl _)
          · refine V.icmp_ne_t (t := 48) (pc := 41) dX3_fits_41 (by decide) c ?_
            refine V.iconst (pc := 48) dX3_fits_48 ic_0 ?_
            obtain rfl := Option.some.inj h
            exact V.zret (pc := 49) dX3_fits_49 rfl (Or.inl rfl) (Nat.le_refl _) (Nat.le_refl _)
      · refine V.icmp_ge_f (t := 27) (pc := 22) dX3_fits_22 (by decide) c ?_
        refine V.iconst (pc := 25) dX3_fits_25 ic_0 ?_
        obtain rfl := Option.some.inj h
        exact V.zret (pc := 26) dX3_fits_26 rfl (Or.inl rfl) (Nat.le_refl _) (Nat.le_refl _)
theorem dX11_many_0 : decode cX11_many 0 = .ok (.iload_n 1, 1) := by decide +kernel
theorem dX11_many_1 : decode cX11_many 1 = .ok (.invokestatic 192, 3) := by decide +kernel
theorem dX11_many_4 : decode cX11_many 4 = .ok (.ifCond .eq 8, 3) := by decide +kernel
theorem dX11_many_7 : decode cX11_many 7 = .ok (.iload_n 2, 1) := by decide +kernel
theorem dX11_many_8 : decode cX11_many 8 = .ok (.iconst (-1), 1) := by decide +kernel
theorem dX11_many_9 : decode cX11_many 9 = .ok (.if_icmp .ge 5, 3) := by decide +kernel
theorem dX11_many_12 : decode cX11_many 12 = .ok (.iconst (-1), 1) := by decide +kernel
theorem dX11_many_13 : decode cX11_many 13 = .ok (.ireturn, 1) := by decide +kernel
theorem dX11_many_14 : decode cX11_many 14 = .ok (.iconst 0, 1) := by decide +kernel
theorem dX11_many_15 : decode cX11_many 15 = .ok (.istore_n 3, 1) := by decide +kernel
theorem dX11_many_16 : decode cX11_many 16 = .ok (.aload_n 0, 1) := by decide +kernel
theorem dX11_many_17 : decode cX11_many 17 = .ok (.getfield 44, 3) := by decide +kernel
theorem dX11_many_20 : decode cX11_many 20 = .ok (.invokevirtual 211, 3) := by decide +kernel
theorem dX11_many_23 : decode cX11_many 23 = .ok (.istore 4, 2) := by decide +kernel
theorem dX11_many_25 : decode cX11_many 25 = .ok (.iconst 0, 1) := by decide +kernel
theorem dX11_many_26 : decode cX11_many 26 = .ok (.istore 5, 2) := by decide +kernel
theorem dX11_many_28 : decode cX11_many 28 = .ok (.iload 5, 2) := by decide +kernel
theorem dX11_many_30 : decode cX11_many 30 = .ok (.iload 4, 2) := by decide +kernel
theorem dX11_many_32 : decode cX11_many 32 = .ok (.if_icmp .ge 26, 3) := by decide +kernel
theorem dX11_many_35 : decode cX11_many 35 = .ok (.aload_n 0, 1) := by decide +kernel
theorem dX11_many_36 : decode cX11_many 36 = .ok (.getfield 44, 3) := by decide +kernel
theorem dX11_many_39 : decode cX11_many 39 = .ok (.iload 5, 2) := by decide +kernel
theorem dX11_many_41 : decode cX11_many 41 = .ok (.iload_n 1, 1) := by decide +kernel
theorem dX11_many_42 : decode cX11_many 42 = .ok (.iload_n 2, 1) := by decide +kernel
theorem dX11_many_43 : decode cX11_many 43 = .ok (.invokevirtual 214, 3) := by decide +kernel
theorem dX11_many_46 : decode cX11_many 46 = .ok (.ifCond .eq 6, 3) := by decide +kernel
theorem dX11_many_49 : decode cX11_many 49 = .ok (.iinc 3 1, 3) := by decide +kernel
theorem dX11_many_52 : decode cX11_many 52 = .ok (.iinc 5 1, 3) := by decide +kernel
theorem dX11_many_55 : decode cX11_many 55 = .ok (.goto (-27), 3) := by decide +kernel
theorem dX11_many_58 : decode cX11_many 58 = .ok (.iload_n 3, 1) := by decide +kernel
theorem dX11_many_59 : decode cX11_many 59 = .ok (.ireturn, 1) := by decide +kernel
def f_X11_many_B28b (k28 : Int32 → Int32 → Int32 → Int32 → Int32 → Wd → Option (Int32 × Wd)) (l1 : Int32) (l2 : Int32) (l3 : Int32) (l4 : Int32) (l5 : Int32) (w : Wd) : Option (Int32 × Wd) :=
  if l4 ≤ l5 then
    some (l3, w)
  else
    bnd (f_X3_fits l5 l1 l2 w) fun x1 =>
    if x1 = 0 then
      k28 l1 l2 l3 l4 (l5 + 1) w
    else
      k28 l1 l2 (l3 + 1) l4 (l5 + 1) w
def f_X11_many_L28 (n : Nat) : Int32 → Int32 → Int32 → Int32 → Int32 → Wd → Option (Int32 × Wd) :=
  Nat.rec (fun _ _ _ _ _ _ => none) (fun _ k => f_X11_many_B28b k) n
set_option maxHeartbeats 4000000 in
set_option maxRecDepth 100000 in
theorem t_X11_many_L28 {G : GT} {d : Nat} (hd : 5 ≤ d + 1)  : ∀ (n : Nat) (l1 : Int32) (l2 : Int32) (l3 : Int32) (l4 : Int32) (l5 : Int32) (w : Wd) (r : Int32) (w' : Wd), f_X11_many_L28 n l1 l2 l3 l4 l5 w = some (r, w') → U (vf G mX11_many (d + 1)) 28 [some (.ref 0), some (.int l1), some (.int l2), some (.int l3), some (.int l4), some (.int l5)] [] w (some (.int r), 70, r0, w') := by
  intro n
  induction n with
  | zero => intro l1 l2 l3 l4 l5 w r w' h; cases h
  | succ n h28 =>
    intro l1 l2 l3 l4 l5 w r w' h
    have h : f_X11_many_B28b (f_X11_many_L28 n) l1 l2 l3 l4 l5 w = some (r, w') := h
    unfold f_X11_many_B28b at h
    refine V.iload (pc := 28) dX11_many_28 rfl ?_
    refine V.iload (pc := 30) dX11_many_30 rfl ?_
    rcases ite_e h with ⟨c, h⟩ | ⟨c, h⟩
    · refine V.icmp_ge_t (t := 58) (pc := 32) dX11_many_32 (by decide) c ?_
      refine V.iload_n (pc := 58) dX11_many_58 rfl ?_
      obtain ⟨rfl, rfl⟩ := Prod.mk.inj (Option.some.inj h)
      exact V.iret (pc := 59) dX11_many_59 rfl (Nat.le_refl _) (Nat.le_refl _)
    · refine V.icmp_ge_f (t := 58) (pc := 32) dX11_many_32 (by decide) c ?_
      refine V.aload_n (pc := 35) dX11_many_35 rfl ?_
      refine V.getR (t := 19) (pc := 36) dX11_many_36 f_RX11_44 k_cl11 lx_0 ly_0 rb_11_4 rr_0_4 ?_
      refine V.iload (pc := 39) dX11_many_39 rfl ?_
      refine V.iload_n (pc := 41) dX11_many_41 rfl ?_
      refine V.iload_n (pc := 42) dX11_many_42 rfl ?_
      obtain ⟨x1, ex1, h⟩ := bnd_e h
      refine U.callV (pc := 43) (As := [.int l5, .int l1, .int l2]) (st := []) dX11_many_43 l_RX11_214 (ok_X3_fits (by omega) l5 l1 l2 ex1) lx_19 ly_19 cn_3 (Nat.le_of_ble_eq_true rfl) rfl rfl (Nat.le_of_ble_eq_true rfl) ?_
      rcases ite_e h with ⟨c, h⟩ | ⟨c, h⟩
      · refine V.if_eq_t (t := 52) (pc := 46) dX11_many_46 (by decide) c ?_
        refine V.iinc (lv' := [some (.ref 0), some (.int l1), some (.int l2), some (.int l3), some (.int l4), some (.int (l5 + 1))]) (pc := 52) dX11_many_52 (Nat.le_of_ble_eq_true rfl) rfl rfl (v := (l5 + 1)) (by rw [show Int32.ofInt 1 = 1 from by decide]) rfl ?_
        refine V.goto (t := 28) (pc := 55) dX11_many_55 (by decide) ?_
        exact h28 l1 l2 l3 l4 (l5 + 1) w _ _ h
      · refine V.if_eq_f (t := 52) (pc := 46) dX11_many_46 (by decide) c ?_
        refine V.iinc (lv' := [some (.ref 0), some (.int l1), some (.int l2), some (.int (l3 + 1)), some (.int l4), some (.int l5)]) (pc := 49) dX11_many_49 (Nat.le_of_ble_eq_true rfl) rfl rfl (v := (l3 + 1)) (by rw [show Int32.ofInt 1 = 1 from by decide]) rfl ?_
        refine V.iinc (lv' := [some (.ref 0), some (.int l1), some (.int l2), some (.int (l3 + 1)), some (.int l4), some (.int (l5 + 1))]) (pc := 52) dX11_many_52 (Nat.le_of_ble_eq_true rfl) rfl rfl (v := (l5 + 1)) (by rw [show Int32.ofInt 1 = 1 from by decide]) rfl ?_
        refine V.goto (t := 28) (pc := 55) dX11_many_55 (by decide) ?_
        exact h28 l1 l2 (l3 + 1) l4 (l5 + 1) w _ _ h
def f_X11_many (l1 : Int32) (l2 : Int32) (w : Wd) : Option (Int32 × Wd) :=
  if (f_X11_isKind l1) = 0 then
    some ((-1), w)
  else
    if (-1) ≤ l2 then
      bnd2 (f_X3_total  w) fun x1 w2 =>
      f_X11_many_L28  FU l1 l2 0 x1 0 w2
    else
      some ((-1), w)
set_option maxHeartbeats 4000000 in
set_option maxRecDepth 100000 in
theorem ok_X11_many {G : GT} {d : Nat} (hd : 5 ≤ d) {w : Wd} (l1 : Int32) (l2 : Int32) {r : Int32} {w' : Wd} (h : f_X11_many l1 l2 w = some (r, w')) : uC G yX11_many mX11_many d [.ref 0, .int l1, .int l2] w (some (.int r)) w' := by
  obtain ⟨d, rfl⟩ : ∃ e, d = e + 1 := ⟨d - 1, by omega⟩
  unfold f_X11_many at h
  refine uC_of (lv := [some (.ref 0), some (.int l1), some (.int l2), none, none, none]) 3 pn_X11 ⟨rfl, rfl⟩ (Nat.le_of_ble_eq_true rfl) rfl ?_
  refine V.iload_n (pc := 0) dX11_many_0 rfl ?_
  refine U.callS (pc := 1) (As := [.int l1]) (st := []) dX11_many_1 l_RX11_192 (ok_X11_isKind (by omega) l1 ) (Nat.le_of_ble_eq_true rfl) rfl rfl (Nat.le_of_ble_eq_true rfl) ?_
  rcases ite_e h with ⟨c, h⟩ | ⟨c, h⟩
  · refine V.if_eq_t (t := 12) (pc := 4) dX11_many_4 (by decide) c ?_
    refine V.iconst (pc := 12) dX11_many_12 ic_m1 ?_
    obtain ⟨rfl, rfl⟩ := Prod.mk.inj (Option.some.inj h)
    exact V.iret (pc := 13) dX11_many_13 rfl (Nat.le_refl _) (Nat.le_refl _)
  · refine V.if_eq_f (t := 12) (pc := 4) dX11_many_4 (by decide) c ?_
    refine V.iload_n (pc := 7) dX11_many_7 rfl ?_
    refine V.iconst (pc := 8) dX11_many_8 ic_m1 ?_
    rcases ite_e h with ⟨c, h⟩ | ⟨c, h⟩
    · refine V.icmp_ge_t (t := 14) (pc := 9) dX11_many_9 (by decide) c ?_
      refine V.iconst (pc := 14) dX11_many_14 ic_0 ?_
      refine V.istore_n (lv' := [some (.ref 0), some (.int l1), some (.int l2), some (.int 0), none, none]) (pc := 15) dX11_many_15 (Nat.le_of_ble_eq_true rfl) rfl rfl ?_
      refine V.aload_n (pc := 16) dX11_many_16 rfl ?_
      refine V.getR (t := 19) (pc := 17) dX11_many_17 f_RX11_44 k_cl11 lx_0 ly_0 rb_11_4 rr_0_4 ?_
      obtain ⟨x1, w2, ew2, h⟩ := bnd2_e h
      refine U.callV (pc := 20) (As := []) (st := []) dX11_many_20 l_RX11_211 (ok_X3_total (by omega)  ew2) lx_19 ly_19 cn_3 (Nat.le_of_ble_eq_true rfl) rfl rfl (Nat.le_of_ble_eq_true rfl) ?_
      refine V.istore (lv' := [some (.ref 0), some (.int l1), some (.int l2), some (.int 0), some (.int x1), none]) (pc := 23) dX11_many_23 (Nat.le_of_ble_eq_true rfl) rfl rfl ?_
      refine V.iconst (pc := 25) dX11_many_25 ic_0 ?_
      refine V.istore (lv' := [some (.ref 0), some (.int l1), some (.int l2), some (.int 0), some (.int x1), some (.int 0)]) (pc := 26) dX11_many_26 (Nat.le_of_ble_eq_true rfl) rfl rfl ?_
      exact t_X11_many_L28 hd FU l1 l2 0 x1 0 w2 _ _ h
    · refine V.icmp_ge_f (t := 14) (pc := 9) dX11_many_9 (by decide) c ?_
      refine V.iconst (pc := 12) dX11_many_12 ic_m1 ?_
      obtain ⟨rfl, rfl⟩ := Prod.mk.inj (Option.some.inj h)
      exact V.iret (pc := 13) dX11_many_13 rfl (Nat.le_refl _) (Nat.le_refl _)
theorem dX12_many_0 : decode cX12_many 0 = .ok (.iload_n 1, 1) := by decide +kernel
theorem dX12_many_1 : decode cX12_many 1 = .ok (.invokestatic 197, 3) := by decide +kernel
theorem dX12_many_4 : decode cX12_many 4 = .ok (.ifCond .eq 8, 3) := by decide +kernel
theorem dX12_many_7 : decode cX12_many 7 = .ok (.iload_n 2, 1) := by decide +kernel
theorem dX12_many_8 : decode cX12_many 8 = .ok (.iconst (-1), 1) := by decide +kernel
theorem dX12_many_9 : decode cX12_many 9 = .ok (.if_icmp .ge 5, 3) := by decide +kernel
theorem dX12_many_12 : decode cX12_many 12 = .ok (.iconst (-1), 1) := by decide +kernel
theorem dX12_many_13 : decode cX12_many 13 = .ok (.ireturn, 1) := by decide +kernel
theorem dX12_many_14 : decode cX12_many 14 = .ok (.iconst 0, 1) := by decide +kernel
theorem dX12_many_15 : decode cX12_many 15 = .ok (.istore_n 3, 1) := by decide +kernel
theorem dX12_many_16 : decode cX12_many 16 = .ok (.iconst 0, 1) := by decide +kernel
theorem dX12_many_17 : decode cX12_many 17 = .ok (.istore 4, 2) := by decide +kernel
theorem dX12_many_19 : decode cX12_many 19 = .ok (.iload 4, 2) := by decide +kernel
theorem dX12_many_21 : decode cX12_many 21 = .ok (.aload_n 0, 1) := by decide +kernel
theorem dX12_many_22 : decode cX12_many 22 = .ok (.invokevirtual 143, 3) := by decide +kernel
theorem dX12_many_25 : decode cX12_many 25 = .ok (.if_icmp .gt 36, 3) := by decide +kernel
theorem dX12_many_28 : decode cX12_many 28 = .ok (.iload_n 2, 1) := by decide +kernel
theorem dX12_many_29 : decode cX12_many 29 = .ok (.iconst (-1), 1) := by decide +kernel
theorem dX12_many_30 : decode cX12_many 30 = .ok (.if_icmp .eq 12, 3) := by decide +kernel
theorem dX12_many_33 : decode cX12_many 33 = .ok (.iload 4, 2) := by decide +kernel
theorem dX12_many_35 : decode cX12_many 35 = .ok (.invokestatic 172, 3) := by decide +kernel
theorem dX12_many_38 : decode cX12_many 38 = .ok (.iload_n 2, 1) := by decide +kernel
theorem dX12_many_39 : decode cX12_many 39 = .ok (.if_icmp .ne 16, 3) := by decide +kernel
theorem dX12_many_42 : decode cX12_many 42 = .ok (.aload_n 0, 1) := by decide +kernel
theorem dX12_many_43 : decode cX12_many 43 = .ok (.iload 4, 2) := by decide +kernel
theorem dX12_many_45 : decode cX12_many 45 = .ok (.iload_n 1, 1) := by decide +kernel
theorem dX12_many_46 : decode cX12_many 46 = .ok (.invokevirtual 200, 3) := by decide +kernel
theorem dX12_many_49 : decode cX12_many 49 = .ok (.ifCond .eq 6, 3) := by decide +kernel
theorem dX12_many_52 : decode cX12_many 52 = .ok (.iinc 3 1, 3) := by decide +kernel
theorem dX12_many_55 : decode cX12_many 55 = .ok (.iinc 4 1, 3) := by decide +kernel
theorem dX12_many_58 : decode cX12_many 58 = .ok (.goto (-39), 3) := by decide +kernel
theorem dX12_many_61 : decode cX12_many 61 = .ok (.iload_n 3, 1) := by decide +kernel
theorem dX12_many_62 : decode cX12_many 62 = .ok (.ireturn, 1) := by decide +kernel
def f_X12_many_B19b (k19 : Int32 → Int32 → Int32 → Int32 → Wd → Option Int32) (l1 : Int32) (l2 : Int32) (l3 : Int32) (l4 : Int32) (w : Wd) : Option Int32 :=
  if (f_X12_all  w) < l4 then
    some l3
  else
    if l2 = (-1) then
      bnd (f_X12_isOf l4 l1 w) fun x1 =>
      if x1 = 0 then
        k19 l1 l2 l3 (l4 + 1) w
      else
        k19 l1 l2 (l3 + 1) (l4 + 1) w
    else
      bnd (f_X12_ones l4) fun x2 =>
      if x2 = l2 then
        bnd (f_X12_isOf l4 l1 w) fun x3 =>
        if x3 = 0 then
          k19 l1 l2 l3 (l4 + 1) w
        else
          k19 l1 l2 (l3 + 1) (l4 + 1) w
      else
        k19 l1 l2 l3 (l4 + 1) w
def f_X12_many_L19 (n : Nat) : Int32 → Int32 → Int32 → Int32 → Wd → Option Int32 :=
  Nat.rec (fun _ _ _ _ _ => none) (fun _ k => f_X12_many_B19b k) n
set_option maxHeartbeats 4000000 in
set_option maxRecDepth 100000 in
theorem t_X12_many_L19 {G : GT} {d : Nat} {w : Wd} (hd : 4 ≤ d + 1)  : ∀ (n : Nat) (l1 : Int32) (l2 : Int32) (l3 : Int32) (l4 : Int32) (r : Int32), f_X12_many_L19 n l1 l2 l3 l4 w = some r → U (vf G mX12_many (d + 1)) 19 [some (.ref 44), some (.int l1), some (.int l2), some (.int l3), some (.int l4)] [] w (some (.int r), 70, r0, w) := by
  intro n
  induction n with
  | zero => intro l1 l2 l3 l4 r h; cases h
  | succ n h19 =>
    intro l1 l2 l3 l4 r h
    have h : f_X12_many_B19b (f_X12_many_L19 n) l1 l2 l3 l4 w = some r := h
    unfold f_X12_many_B19b at h
    refine V.iload (pc := 19) dX12_many_19 rfl ?_
    refine V.aload_n (pc := 21) dX12_many_21 rfl ?_
    refine U.callV (pc := 22) (As := []) (st := [.int l4]) dX12_many_22 l_RX12_143 (ok_X12_all (by omega)  ) lx_44 ly_44 cn_12 (Nat.le_of_ble_eq_true rfl) rfl rfl (Nat.le_of_ble_eq_true rfl) ?_
    rcases ite_e h with ⟨c, h⟩ | ⟨c, h⟩
    · refine V.icmp_gt_t (t := 61) (pc := 25) dX12_many_25 (by decide) c ?_
      refine V.iload_n (pc := 61) dX12_many_61 rfl ?_
      obtain rfl := Option.some.inj h
      exact V.iret (pc := 62) dX12_many_62 rfl (Nat.le_refl _) (Nat.le_refl _)
    · refine V.icmp_gt_f (t := 61) (pc := 25) dX12_many_25 (by decide) c ?_
      refine V.iload_n (pc := 28) dX12_many_28 rfl ?_
      refine V.iconst (pc := 29) dX12_many_29 ic_m1 ?_
      rcases ite_e h with ⟨c, h⟩ | ⟨c, h⟩
      · refine V.icmp_eq_t (t := 42) (pc := 30) dX12_many_30 (by decide) c ?_
        refine V.aload_n (pc := 42) dX12_many_42 rfl ?_
        refine V.iload (pc := 43) dX12_many_43 rfl ?_
        refine V.iload_n (pc := 45) dX12_many_45 rfl ?_
        obtain ⟨x1, ex1, h⟩ := bnd_e h
        refine U.callV (pc := 46) (As := [.int l4, .int l1]) (st := []) dX12_many_46 l_RX12_200 (ok_X12_isOf (by omega) l4 l1 ex1) lx_44 ly_44 cn_12 (Nat.le_of_ble_eq_true rfl) rfl rfl (Nat.le_of_ble_eq_true rfl) ?_
        rcases ite_e h with ⟨c, h⟩ | ⟨c, h⟩
        · refine V.if_eq_t (t := 55) (pc := 49) dX12_many_49 (by decide) c ?_
          refine V.iinc (lv' := [some (.ref 44), some (.int l1), some (.int l2), some (.int l3), some (.int (l4 + 1))]) (pc := 55) dX12_many_55 (Nat.le_of_ble_eq_true rfl) rfl rfl (v := (l4 + 1)) (by rw [show Int32.ofInt 1 = 1 from by decide]) rfl ?_
          refine V.goto (t := 19) (pc := 58) dX12_many_58 (by decide) ?_
          exact h19 l1 l2 l3 (l4 + 1) _ h
        · refine V.if_eq_f (t := 55) (pc := 49) dX12_many_49 (by decide) c ?_
          refine V.iinc (lv' := [some (.ref 44), some (.int l1), some (.int l2), some (.int (l3 + 1)), some (.int l4)]) (pc := 52) dX12_many_52 (Nat.le_of_ble_eq_true rfl) rfl rfl (v := (l3 + 1)) (by rw [show Int32.ofInt 1 = 1 from by decide]) rfl ?_
          refine V.iinc (lv' := [some (.ref 44), some (.int l1), some (.int l2), some (.int (l3 + 1)), some (.int (l4 + 1))]) (pc := 55) dX12_many_55 (Nat.le_of_ble_eq_true rfl) rfl rfl (v := (l4 + 1)) (by rw [show Int32.ofInt 1 = 1 from by decide]) rfl ?_
          refine V.goto (t := 19) (pc := 58) dX12_many_58 (by decide) ?_
          exact h19 l1 l2 (l3 + 1) (l4 + 1) _ h
      · refine V.icmp_eq_f (t := 42) (pc := 30) dX12_many_30 (by decide) c ?_
        refine V.iload (pc := 33) dX12_many_33 rfl ?_
        obtain ⟨x2, ex2, h⟩ := bnd_e h
        refine U.callS (pc := 35) (As := [.int l4]) (st := []) dX12_many_35 l_RX12_172 (ok_X12_ones (by omega) l4 ex2) (Nat.le_of_ble_eq_true rfl) rfl rfl (Nat.le_of_ble_eq_true rfl) ?_
        refine V.iload_n (pc := 38) dX12_many_38 rfl ?_
        rcases ite_e h with ⟨c, h⟩ | ⟨c, h⟩
        · refine V.icmp_ne_f (t := 55) (pc := 39) dX12_many_39 (by decide) c ?_
          refine V.aload_n (pc := 42) dX12_many_42 rfl ?_
          refine V.iload (pc := 43) dX12_many_43 rfl ?_
          refine V.iload_n (pc := 45) dX12_many_45 rfl ?_
          obtain ⟨x3, ex3, h⟩ := bnd_e h
          refine U.callV (pc := 46) (As := [.int l4, .int l1]) (st := []) dX12_many_46 l_RX12_200 (ok_X12_isOf (by omega) l4 l1 ex3) lx_44 ly_44 cn_12 (Nat.le_of_ble_eq_true rfl) rfl rfl (Nat.le_of_ble_eq_true rfl) ?_
          rcases ite_e h with ⟨c, h⟩ | ⟨c, h⟩
          · refine V.if_eq_t (t := 55) (pc := 49) dX12_many_49 (by decide) c ?_
            refine V.iinc (lv' := [some (.ref 44), some (.int l1), some (.int l2), some (.int l3), some (.int (l4 + 1))]) (pc := 55) dX12_many_55 (Nat.le_of_ble_eq_true rfl) rfl rfl (v := (l4 + 1)) (by rw [show Int32.ofInt 1 = 1 from by decide]) rfl ?_
            refine V.goto (t := 19) (pc := 58) dX12_many_58 (by decide) ?_
            exact h19 l1 l2 l3 (l4 + 1) _ h
          · refine V.if_eq_f (t := 55) (pc := 49) dX12_many_49 (by decide) c ?_
            refine V.iinc (lv' := [some (.ref 44), some (.int l1), some (.int l2), some (.int (l3 + 1)), some (.int l4)]) (pc := 52) dX12_many_52 (Nat.le_of_ble_eq_true rfl) rfl rfl (v := (l3 + 1)) (by rw [show Int32.ofInt 1 = 1 from by decide]) rfl ?_
            refine V.iinc (lv' := [some (.ref 44), some (.int l1), some (.int l2), some (.int (l3 + 1)), some (.int (l4 + 1))]) (pc := 55) dX12_many_55 (Nat.le_of_ble_eq_true rfl) rfl rfl (v := (l4 + 1)) (by rw [show Int32.ofInt 1 = 1 from by decide]) rfl ?_
            refine V.goto (t := 19) (pc := 58) dX12_many_58 (by decide) ?_
            exact h19 l1 l2 (l3 + 1) (l4 + 1) _ h
        · refine V.icmp_ne_t (t := 55) (pc := 39) dX12_many_39 (by decide) c ?_
          refine V.iinc (lv' := [some (.ref 44), some (.int l1), some (.int l2), some (.int l3), some (.int (l4 + 1))]) (pc := 55) dX12_many_55 (Nat.le_of_ble_eq_true rfl) rfl rfl (v := (l4 + 1)) (by rw [show Int32.ofInt 1 = 1 from by decide]) rfl ?_
          refine V.goto (t := 19) (pc := 58) dX12_many_58 (by decide) ?_
          exact h19 l1 l2 l3 (l4 + 1) _ h
def f_X12_many (l1 : Int32) (l2 : Int32) (w : Wd) : Option Int32 :=
  if (f_X12_isKind l1) = 0 then
    some (-1)
  else
    if (-1) ≤ l2 then
      f_X12_many_L19  FU l1 l2 0 0 w
    else
      some (-1)
set_option maxHeartbeats 4000000 in
set_option maxRecDepth 100000 in
theorem ok_X12_many {G : GT} {d : Nat} (hd : 4 ≤ d) {w : Wd} (l1 : Int32) (l2 : Int32) {r : Int32} (h : f_X12_many l1 l2 w = some r) : uC G yX12_many mX12_many d [.ref 44, .int l1, .int l2] w (some (.int r)) w := by
  obtain ⟨d, rfl⟩ : ∃ e, d = e + 1 := ⟨d - 1, by omega⟩
  unfold f_X12_many at h
  refine uC_of (lv := [some (.ref 44), some (.int l1), some (.int l2), none, none]) 2 pn_X12 ⟨rfl, rfl⟩ (Nat.le_of_ble_eq_true rfl) rfl ?_
  refine V.iload_n (pc := 0) dX12_many_0 rfl ?_
  refine U.callS (pc := 1) (As := [.int l1]) (st := []) dX12_many_1 l_RX12_197 (ok_X12_isKind (by omega) l1 ) (Nat.le_of_ble_eq_true rfl) rfl rfl (Nat.le_of_ble_eq_true rfl) ?_
  rcases ite_e h with ⟨c, h⟩ | ⟨c, h⟩
  · refine V.if_eq_t (t := 12) (pc := 4) dX12_many_4 (by decide) c ?_
    refine V.iconst (pc := 12) dX12_many_12 ic_m1 ?_
    obtain rfl := Option.some.inj h
    exact V.iret (pc := 13) dX12_many_13 rfl (Nat.le_refl _) (Nat.le_refl _)
  · refine V.if_eq_f (t := 12) (pc := 4) dX12_many_4 (by decide) c ?_
    refine V.iload_n (pc := 7) dX12_many_7 rfl ?_
    refine V.iconst (pc := 8) dX12_many_8 ic_m1 ?_
    rcases ite_e h with ⟨c, h⟩ | ⟨c, h⟩
    · refine V.icmp_ge_t (t := 14) (pc := 9) dX12_many_9 (by decide) c ?_
      refine V.iconst (pc := 14) dX12_many_14 ic_0 ?_
      refine V.istore_n (lv' := [some (.ref 44), some (.int l1), some (.int l2), some (.int 0), none]) (pc := 15) dX12_many_15 (Nat.le_of_ble_eq_true rfl) rfl rfl ?_
      refine V.iconst (pc := 16) dX12_many_16 ic_0 ?_
      refine V.istore (lv' := [some (.ref 44), some (.int l1), some (.int l2), some (.int 0), some (.int 0)]) (pc := 17) dX12_many_17 (Nat.le_of_ble_eq_true rfl) rfl rfl ?_
      exact t_X12_many_L19 hd FU l1 l2 0 0 _ h
    · refine V.icmp_ge_f (t := 14) (pc := 9) dX12_many_9 (by decide) c ?_
      refine V.iconst (pc := 12) dX12_many_12 ic_m1 ?_
      obtain rfl := Option.some.inj h
      exact V.iret (pc := 13) dX12_many_13 rfl (Nat.le_refl _) (Nat.le_refl _)
theorem dX11_greatest_0 : decode cX11_greatest 0 = .ok (.iconst 0, 1) := by decide +kernel
theorem dX11_greatest_1 : decode cX11_greatest 1 = .ok (.istore_n 1, 1) := by decide +kernel
theorem dX11_greatest_2 : decode cX11_greatest 2 = .ok (.aload_n 0, 1) := by decide +kernel
theorem dX11_greatest_3 : decode cX11_greatest 3 = .ok (.getfield 44, 3) := by decide +kernel
theorem dX11_greatest_6 : decode cX11_greatest 6 = .ok (.invokevirtual 211, 3) := by decide +kernel
theorem dX11_greatest_9 : decode cX11_greatest 9 = .ok (.istore_n 2, 1) := by decide +kernel
theorem dX11_greatest_10 : decode cX11_greatest 10 = .ok (.iconst 0, 1) := by decide +kernel
theorem dX11_greatest_11 : decode cX11_greatest 11 = .ok (.istore_n 3, 1) := by decide +kernel
theorem dX11_greatest_12 : decode cX11_greatest 12 = .ok (.iload_n 3, 1) := by decide +kernel
theorem dX11_greatest_13 : decode cX11_greatest 13 = .ok (.iload_n 2, 1) := by decide +kernel
theorem dX11_greatest_14 : decode cX11_greatest 14 = .ok (.if_icmp .ge 25, 3) := by decide +kernel
theorem dX11_greatest_17 : decode cX11_greatest 17 = .ok (.iload_n 1, 1) := by decide +kernel
theorem dX11_greatest_18 : decode cX11_greatest 18 = .ok (.aload_n 0, 1) := by decide +kernel
theorem dX11_greatest_19 : decode cX11_greatest 19 = .ok (.getfield 44, 3) := by decide +kernel
theorem dX11_greatest_22 : decode cX11_greatest 22 = .ok (.iload_n 3, 1) := by decide +kernel
theorem dX11_greatest_23 : decode cX11_greatest 23 = .ok (.invokevirtual 217, 3) := by decide +kernel
theorem dX11_greatest_26 : decode cX11_greatest 26 = .ok (.invokestatic 127, 3) := by decide +kernel
theorem dX11_greatest_29 : decode cX11_greatest 29 = .ok (.invokestatic 220, 3) := by decide +kernel
theorem dX11_greatest_32 : decode cX11_greatest 32 = .ok (.istore_n 1, 1) := by decide +kernel
theorem dX11_greatest_33 : decode cX11_greatest 33 = .ok (.iinc 3 1, 3) := by decide +kernel
theorem dX11_greatest_36 : decode cX11_greatest 36 = .ok (.goto (-24), 3) := by decide +kernel
theorem dX11_greatest_39 : decode cX11_greatest 39 = .ok (.iload_n 1, 1) := by decide +kernel
theorem dX11_greatest_40 : decode cX11_greatest 40 = .ok (.ireturn, 1) := by decide +kernel
def f_X11_greatest_B12b (k12 : Int32 → Int32 → Int32 → Wd → Option (Int32 × Wd)) (l1 : Int32) (l2 : Int32) (l3 : Int32) (w : Wd) : Option (Int32 × Wd) :=
  if l2 ≤ l3 then
    some (l1, w)
  else
    bnd (f_X3_setAt l3 w) fun x1 =>
    k12 (if l1 < (f_J6_bitCount_0f7a4 x1) then (f_J6_bitCount_0f7a4 x1) else l1) l2 (l3 + 1) w
def f_X11_greatest_L12 (n : Nat) : Int32 → Int32 → Int32 → Wd → Option (Int32 × Wd) :=
  Nat.rec (fun _ _ _ _ => none) (fun _ k => f_X11_greatest_B12b k) n
set_option maxHeartbeats 4000000 in
set_option maxRecDepth 100000 in
theorem t_X11_greatest_L12 {G : GT} {d : Nat} (hd : 5 ≤ d + 1)  : ∀ (n : Nat) (l1 : Int32) (l2 : Int32) (l3 : Int32) (w : Wd) (r : Int32) (w' : Wd), f_X11_greatest_L12 n l1 l2 l3 w = some (r, w') → U (vf G mX11_greatest (d + 1)) 12 [some (.ref 0), some (.int l1), some (.int l2), some (.int l3)] [] w (some (.int r), 70, r0, w') := by
  intro n
  induction n with
  | zero => intro l1 l2 l3 w r w' h; cases h
  | succ n h12 =>
    intro l1 l2 l3 w r w' h
    have h : f_X11_greatest_B12b (f_X11_greatest_L12 n) l1 l2 l3 w = some (r, w') := h
    unfold f_X11_greatest_B12b at h
    refine V.iload_n (pc := 12) dX11_greatest_12 rfl ?_
    refine V.iload_n (pc := 13) dX11_greatest_13 rfl ?_
    rcases ite_e h with ⟨c, h⟩ | ⟨c, h⟩
    · refine V.icmp_ge_t (t := 39) (pc := 14) dX11_greatest_14 (by decide) c ?_
      refine V.iload_n (pc := 39) dX11_greatest_39 rfl ?_
      obtain ⟨rfl, rfl⟩ := Prod.mk.inj (Option.some.inj h)
      exact V.iret (pc := 40) dX11_greatest_40 rfl (Nat.le_refl _) (Nat.le_refl _)
    · refine V.icmp_ge_f (t := 39) (pc := 14) dX11_greatest_14 (by decide) c ?_
      refine V.iload_n (pc := 17) dX11_greatest_17 rfl ?_
      refine V.aload_n (pc := 18) dX11_greatest_18 rfl ?_
      refine V.getR (t := 19) (pc := 19) dX11_greatest_19 f_RX11_44 k_cl11 lx_0 ly_0 rb_11_4 rr_0_4 ?_
      refine V.iload_n (pc := 22) dX11_greatest_22 rfl ?_
      obtain ⟨x1, ex1, h⟩ := bnd_e h
      refine U.callV (pc := 23) (As := [.int l3]) (st := [.int l1]) dX11_greatest_23 l_RX11_217 (ok_X3_setAt (by omega) l3 ex1) lx_19 ly_19 cn_3 (Nat.le_of_ble_eq_true rfl) rfl rfl (Nat.le_of_ble_eq_true rfl) ?_
      refine U.callS (pc := 26) (As := [.int x1]) (st := [.int l1]) dX11_greatest_26 l_RX11_127 (ok_J6_bitCount_0f7a4 (by omega) x1 ) (Nat.le_of_ble_eq_true rfl) rfl rfl (Nat.le_of_ble_eq_true rfl) ?_
      refine V.mmax (pc := 29) dX11_greatest_29 l_RX11_220 (Nat.le_add_left 1 d) (rm_13 (Nat.le_of_ble_eq_true rfl)) ?_
      refine V.istore_n (lv' := [some (.ref 0), some (.int (if l1 < (f_J6_bitCount_0f7a4 x1) then (f_J6_bitCount_0f7a4 x1) else l1)), some (.int l2), some (.int l3)]) (pc := 32) dX11_greatest_32 (Nat.le_of_ble_eq_true rfl) rfl rfl ?_
      refine V.iinc (lv' := [some (.ref 0), some (.int (if l1 < (f_J6_bitCount_0f7a4 x1) then (f_J6_bitCount_0f7a4 x1) else l1)), some (.int l2), some (.int (l3 + 1))]) (pc := 33) dX11_greatest_33 (Nat.le_of_ble_eq_true rfl) rfl rfl (v := (l3 + 1)) (by rw [show Int32.ofInt 1 = 1 from by decide]) rfl ?_
      refine V.goto (t := 12) (pc := 36) dX11_greatest_36 (by decide) ?_
      exact h12 (if l1 < (f_J6_bitCount_0f7a4 x1) then (f_J6_bitCount_0f7a4 x1) else l1) l2 (l3 + 1) w _ _ h
def f_X11_greatest (w : Wd) : Option (Int32 × Wd) :=
  bnd2 (f_X3_total  w) fun x1 w2 =>
  f_X11_greatest_L12  FU 0 x1 0 w2
set_option maxHeartbeats 4000000 in
set_option maxRecDepth 100000 in
theorem ok_X11_greatest {G : GT} {d : Nat} (hd : 5 ≤ d) {w : Wd}  {r : Int32} {w' : Wd} (h : f_X11_greatest  w = some (r, w')) : uC G yX11_greatest mX11_greatest d [.ref 0] w (some (.int r)) w' := by
  obtain ⟨d, rfl⟩ : ∃ e, d = e + 1 := ⟨d - 1, by omega⟩
  unfold f_X11_greatest at h
  refine uC_of (lv := [some (.ref 0), none, none, none]) 3 pn_X11 ⟨rfl, rfl⟩ (Nat.le_of_ble_eq_true rfl) rfl ?_
  refine V.iconst (pc := 0) dX11_greatest_0 ic_0 ?_
  refine V.istore_n (lv' := [some (.ref 0), some (.int 0), none, none]) (pc := 1) dX11_greatest_1 (Nat.le_of_ble_eq_true rfl) rfl rfl ?_
  refine V.aload_n (pc := 2) dX11_greatest_2 rfl ?_
  refine V.getR (t := 19) (pc := 3) dX11_greatest_3 f_RX11_44 k_cl11 lx_0 ly_0 rb_11_4 rr_0_4 ?_
  obtain ⟨x1, w2, ew2, h⟩ := bnd2_e h
  refine U.callV (pc := 6) (As := []) (st := []) dX11_greatest_6 l_RX11_211 (ok_X3_total (by omega)  ew2) lx_19 ly_19 cn_3 (Nat.le_of_ble_eq_true rfl) rfl rfl (Nat.le_of_ble_eq_true rfl) ?_
  refine V.istore_n (lv' := [some (.ref 0), some (.int 0), some (.int x1), none]) (pc := 9) dX11_greatest_9 (Nat.le_of_ble_eq_true rfl) rfl rfl ?_
  refine V.iconst (pc := 10) dX11_greatest_10 ic_0 ?_
  refine V.istore_n (lv' := [some (.ref 0), some (.int 0), some (.int x1), some (.int 0)]) (pc := 11) dX11_greatest_11 (Nat.le_of_ble_eq_true rfl) rfl rfl ?_
  exact t_X11_greatest_L12 hd FU 0 x1 0 w2 _ _ h
theorem dX12_greatest_0 : decode cX12_greatest 0 = .ok (.iconst 0, 1) := by decide +kernel
theorem dX12_greatest_1 : decode cX12_greatest 1 = .ok (.istore_n 1, 1) := by decide +kernel
theorem dX12_greatest_2 : decode cX12_greatest 2 = .ok (.iconst 0, 1) := by decide +kernel
theorem dX12_greatest_3 : decode cX12_greatest 3 = .ok (.istore_n 2, 1) := by decide +kernel
theorem dX12_greatest_4 : decode cX12_greatest 4 = .ok (.iload_n 2, 1) := by decide +kernel
theorem dX12_greatest_5 : decode cX12_greatest 5 = .ok (.aload_n 0, 1) := by decide +kernel
theorem dX12_greatest_6 : decode cX12_greatest 6 = .ok (.invokevirtual 143, 3) := by decide +kernel
theorem dX12_greatest_9 : decode cX12_greatest 9 = .ok (.if_icmp .gt 30, 3) := by decide +kernel
theorem dX12_greatest_12 : decode cX12_greatest 12 = .ok (.iload_n 2, 1) := by decide +kernel
theorem dX12_greatest_13 : decode cX12_greatest 13 = .ok (.invokestatic 172, 3) := by decide +kernel
theorem dX12_greatest_16 : decode cX12_greatest 16 = .ok (.iload_n 1, 1) := by decide +kernel
theorem dX12_greatest_17 : decode cX12_greatest 17 = .ok (.if_icmp .le 16, 3) := by decide +kernel
theorem dX12_greatest_20 : decode cX12_greatest 20 = .ok (.aload_n 0, 1) := by decide +kernel
theorem dX12_greatest_21 : decode cX12_greatest 21 = .ok (.iload_n 2, 1) := by decide +kernel
theorem dX12_greatest_22 : decode cX12_greatest 22 = .ok (.invokevirtual 150, 3) := by decide +kernel
theorem dX12_greatest_25 : decode cX12_greatest 25 = .ok (.ifCond .eq 8, 3) := by decide +kernel
theorem dX12_greatest_28 : decode cX12_greatest 28 = .ok (.iload_n 2, 1) := by decide +kernel
theorem dX12_greatest_29 : decode cX12_greatest 29 = .ok (.invokestatic 172, 3) := by decide +kernel
theorem dX12_greatest_32 : decode cX12_greatest 32 = .ok (.istore_n 1, 1) := by decide +kernel
theorem dX12_greatest_33 : decode cX12_greatest 33 = .ok (.iinc 2 1, 3) := by decide +kernel
theorem dX12_greatest_36 : decode cX12_greatest 36 = .ok (.goto (-32), 3) := by decide +kernel
theorem dX12_greatest_39 : decode cX12_greatest 39 = .ok (.iload_n 1, 1) := by decide +kernel
theorem dX12_greatest_40 : decode cX12_greatest 40 = .ok (.ireturn, 1) := by decide +kernel
def f_X12_greatest_B4b (k4 : Int32 → Int32 → Wd → Option Int32) (l1 : Int32) (l2 : Int32) (w : Wd) : Option Int32 :=
  if (f_X12_all  w) < l2 then
    some l1
  else
    bnd (f_X12_ones l2) fun x1 =>
    if x1 ≤ l1 then
      k4 l1 (l2 + 1) w
    else
      bnd (f_X12_isFree l2 w) fun x2 =>
      if x2 = 0 then
        k4 l1 (l2 + 1) w
      else
        bnd (f_X12_ones l2) fun x3 =>
        k4 x3 (l2 + 1) w
def f_X12_greatest_L4 (n : Nat) : Int32 → Int32 → Wd → Option Int32 :=
  Nat.rec (fun _ _ _ => none) (fun _ k => f_X12_greatest_B4b k) n
set_option maxHeartbeats 4000000 in
set_option maxRecDepth 100000 in
theorem t_X12_greatest_L4 {G : GT} {d : Nat} {w : Wd} (hd : 2 ≤ d + 1)  : ∀ (n : Nat) (l1 : Int32) (l2 : Int32) (r : Int32), f_X12_greatest_L4 n l1 l2 w = some r → U (vf G mX12_greatest (d + 1)) 4 [some (.ref 44), some (.int l1), some (.int l2)] [] w (some (.int r), 70, r0, w) := by
  intro n
  induction n with
  | zero => intro l1 l2 r h; cases h
  | succ n h4 =>
    intro l1 l2 r h
    have h : f_X12_greatest_B4b (f_X12_greatest_L4 n) l1 l2 w = some r := h
    unfold f_X12_greatest_B4b at h
    refine V.iload_n (pc := 4) dX12_greatest_4 rfl ?_
    refine V.aload_n (pc := 5) dX12_greatest_5 rfl ?_
    refine U.callV (pc := 6) (As := []) (st := [.int l2]) dX12_greatest_6 l_RX12_143 (ok_X12_all (by omega)  ) lx_44 ly_44 cn_12 (Nat.le_of_ble_eq_true rfl) rfl rfl (Nat.le_of_ble_eq_true rfl) ?_
    rcases ite_e h with ⟨c, h⟩ | ⟨c, h⟩
    · refine V.icmp_gt_t (t := 39) (pc := 9) dX12_greatest_9 (by decide) c ?_
      refine V.iload_n (pc := 39) dX12_greatest_39 rfl ?_
      obtain rfl := Option.some.inj h
      exact V.iret (pc := 40) dX12_greatest_40 rfl (Nat.le_refl _) (Nat.le_refl _)
    · refine V.icmp_gt_f (t := 39) (pc := 9) dX12_greatest_9 (by decide) c ?_
      refine V.iload_n (pc := 12) dX12_greatest_12 rfl ?_
      obtain ⟨x1, ex1, h⟩ := bnd_e h
      refine U.callS (pc := 13) (As := [.int l2]) (st := []) dX12_greatest_13 l_RX12_172 (ok_X12_ones (by omega) l2 ex1) (Nat.le_of_ble_eq_true rfl) rfl rfl (Nat.le_of_ble_eq_true rfl) ?_
      refine V.iload_n (pc := 16) dX12_greatest_16 rfl ?_
      rcases ite_e h with ⟨c, h⟩ | ⟨c, h⟩
      · refine V.icmp_le_t (t := 33) (pc := 17) dX12_greatest_17 (by decide) c ?_
        refine V.iinc (lv' := [some (.ref 44), some (.int l1), some (.int (l2 + 1))]) (pc := 33) dX12_greatest_33 (Nat.le_of_ble_eq_true rfl) rfl rfl (v := (l2 + 1)) (by rw [show Int32.ofInt 1 = 1 from by decide]) rfl ?_
        refine V.goto (t := 4) (pc := 36) dX12_greatest_36 (by decide) ?_
        exact h4 l1 (l2 + 1) _ h
      · refine V.icmp_le_f (t := 33) (pc := 17) dX12_greatest_17 (by decide) c ?_
        refine V.aload_n (pc := 20) dX12_greatest_20 rfl ?_
        refine V.iload_n (pc := 21) dX12_greatest_21 rfl ?_
        obtain ⟨x2, ex2, h⟩ := bnd_e h
        refine U.callV (pc := 22) (As := [.int l2]) (st := []) dX12_greatest_22 l_RX12_150 (ok_X12_isFree (by omega) l2 ex2) lx_44 ly_44 cn_12 (Nat.le_of_ble_eq_true rfl) rfl rfl (Nat.le_of_ble_eq_true rfl) ?_
        rcases ite_e h with ⟨c, h⟩ | ⟨c, h⟩
        · refine V.if_eq_t (t := 33) (pc := 25) dX12_greatest_25 (by decide) c ?_
          refine V.iinc (lv' := [some (.ref 44), some (.int l1), some (.int (l2 + 1))]) (pc := 33) dX12_greatest_33 (Nat.le_of_ble_eq_true rfl) rfl rfl (v := (l2 + 1)) (by rw [show Int32.ofInt 1 = 1 from by decide]) rfl ?_
          refine V.goto (t := 4) (pc := 36) dX12_greatest_36 (by decide) ?_
          exact h4 l1 (l2 + 1) _ h
        · refine V.if_eq_f (t := 33) (pc := 25) dX12_greatest_25 (by decide) c ?_
          refine V.iload_n (pc := 28) dX12_greatest_28 rfl ?_
          obtain ⟨x3, ex3, h⟩ := bnd_e h
          refine U.callS (pc := 29) (As := [.int l2]) (st := []) dX12_greatest_29 l_RX12_172 (ok_X12_ones (by omega) l2 ex3) (Nat.le_of_ble_eq_true rfl) rfl rfl (Nat.le_of_ble_eq_true rfl) ?_
          refine V.istore_n (lv' := [some (.ref 44), some (.int x3), some (.int l2)]) (pc := 32) dX12_greatest_32 (Nat.le_of_ble_eq_true rfl) rfl rfl ?_
          refine V.iinc (lv' := [some (.ref 44), some (.int x3), some (.int (l2 + 1))]) (pc := 33) dX12_greatest_33 (Nat.le_of_ble_eq_true rfl) rfl rfl (v := (l2 + 1)) (by rw [show Int32.ofInt 1 = 1 from by decide]) rfl ?_
          refine V.goto (t := 4) (pc := 36) dX12_greatest_36 (by decide) ?_
          exact h4 x3 (l2 + 1) _ h
def f_X12_greatest (w : Wd) : Option Int32 :=
  f_X12_greatest_L4  FU 0 0 w
set_option maxHeartbeats 4000000 in
set_option maxRecDepth 100000 in
theorem ok_X12_greatest {G : GT} {d : Nat} (hd : 2 ≤ d) {w : Wd}  {r : Int32} (h : f_X12_greatest  w = some r) : uC G yX12_greatest mX12_greatest d [.ref 44] w (some (.int r)) w := by
  obtain ⟨d, rfl⟩ : ∃ e, d = e + 1 := ⟨d - 1, by omega⟩
  unfold f_X12_greatest at h
  refine uC_of (lv := [some (.ref 44), none, none]) 2 pn_X12 ⟨rfl, rfl⟩ (Nat.le_of_ble_eq_true rfl) rfl ?_
  refine V.iconst (pc := 0) dX12_greatest_0 ic_0 ?_
  refine V.istore_n (lv' := [some (.ref 44), some (.int 0), none]) (pc := 1) dX12_greatest_1 (Nat.le_of_ble_eq_true rfl) rfl rfl ?_
  refine V.iconst (pc := 2) dX12_greatest_2 ic_0 ?_
  refine V.istore_n (lv' := [some (.ref 44), some (.int 0), some (.int 0)]) (pc := 3) dX12_greatest_3 (Nat.le_of_ble_eq_true rfl) rfl rfl ?_
  exact t_X12_greatest_L4 hd FU 0 0 _ h
theorem dX11_nth_0 : decode cX11_nth 0 = .ok (.iload_n 1, 1) := by decide +kernel
theorem dX11_nth_1 : decode cX11_nth 1 = .ok (.invokestatic 192, 3) := by decide +kernel
theorem dX11_nth_4 : decode cX11_nth 4 = .ok (.ifCond .eq 11, 3) := by decide +kernel
theorem dX11_nth_7 : decode cX11_nth 7 = .ok (.iload_n 2, 1) := by decide +kernel
theorem dX11_nth_8 : decode cX11_nth 8 = .ok (.ifCond .lt 7, 3) := by decide +kernel
theorem dX11_nth_11 : decode cX11_nth 11 = .ok (.iload_n 3, 1) := by decide +kernel
theorem dX11_nth_12 : decode cX11_nth 12 = .ok (.ifCond .ge 5, 3) := by decide +kernel
theorem dX11_nth_15 : decode cX11_nth 15 = .ok (.iconst (-1), 1) := by decide +kernel
theorem dX11_nth_16 : decode cX11_nth 16 = .ok (.ireturn, 1) := by decide +kernel
theorem dX11_nth_17 : decode cX11_nth 17 = .ok (.iconst 0, 1) := by decide +kernel
theorem dX11_nth_18 : decode cX11_nth 18 = .ok (.istore 4, 2) := by decide +kernel
theorem dX11_nth_20 : decode cX11_nth 20 = .ok (.aload_n 0, 1) := by decide +kernel
theorem dX11_nth_21 : decode cX11_nth 21 = .ok (.getfield 44, 3) := by decide +kernel
theorem dX11_nth_24 : decode cX11_nth 24 = .ok (.invokevirtual 211, 3) := by decide +kernel
theorem dX11_nth_27 : decode cX11_nth 27 = .ok (.istore 5, 2) := by decide +kernel
theorem dX11_nth_29 : decode cX11_nth 29 = .ok (.iconst 0, 1) := by decide +kernel
theorem dX11_nth_30 : decode cX11_nth 30 = .ok (.istore 6, 2) := by decide +kernel
theorem dX11_nth_32 : decode cX11_nth 32 = .ok (.iload 6, 2) := by decide +kernel
theorem dX11_nth_34 : decode cX11_nth 34 = .ok (.iload 5, 2) := by decide +kernel
theorem dX11_nth_36 : decode cX11_nth 36 = .ok (.if_icmp .ge 42, 3) := by decide +kernel
theorem dX11_nth_39 : decode cX11_nth 39 = .ok (.aload_n 0, 1) := by decide +kernel
theorem dX11_nth_40 : decode cX11_nth 40 = .ok (.getfield 44, 3) := by decide +kernel
theorem dX11_nth_43 : decode cX11_nth 43 = .ok (.iload 6, 2) := by decide +kernel
theorem dX11_nth_45 : decode cX11_nth 45 = .ok (.iload_n 1, 1) := by decide +kernel
theorem dX11_nth_46 : decode cX11_nth 46 = .ok (.iload_n 2, 1) := by decide +kernel
theorem dX11_nth_47 : decode cX11_nth 47 = .ok (.invokevirtual 214, 3) := by decide +kernel
theorem dX11_nth_50 : decode cX11_nth 50 = .ok (.ifCond .eq 22, 3) := by decide +kernel
theorem dX11_nth_53 : decode cX11_nth 53 = .ok (.iload 4, 2) := by decide +kernel
theorem dX11_nth_55 : decode cX11_nth 55 = .ok (.iload_n 3, 1) := by decide +kernel
theorem dX11_nth_56 : decode cX11_nth 56 = .ok (.if_icmp .ne 13, 3) := by decide +kernel
theorem dX11_nth_59 : decode cX11_nth 59 = .ok (.aload_n 0, 1) := by decide +kernel
theorem dX11_nth_60 : decode cX11_nth 60 = .ok (.getfield 44, 3) := by decide +kernel
theorem dX11_nth_63 : decode cX11_nth 63 = .ok (.iload 6, 2) := by decide +kernel
theorem dX11_nth_65 : decode cX11_nth 65 = .ok (.invokevirtual 217, 3) := by decide +kernel
theorem dX11_nth_68 : decode cX11_nth 68 = .ok (.ireturn, 1) := by decide +kernel
theorem dX11_nth_69 : decode cX11_nth 69 = .ok (.iinc 4 1, 3) := by decide +kernel
theorem dX11_nth_72 : decode cX11_nth 72 = .ok (.iinc 6 1, 3) := by decide +kernel
theorem dX11_nth_75 : decode cX11_nth 75 = .ok (.goto (-43), 3) := by decide +kernel
theorem dX11_nth_78 : decode cX11_nth 78 = .ok (.bipush (-2), 2) := by decide +kernel
theorem dX11_nth_80 : decode cX11_nth 80 = .ok (.ireturn, 1) := by decide +kernel
def f_X11_nth_B32b (k32 : Int32 → Int32 → Int32 → Int32 → Int32 → Int32 → Wd → Option (Int32 × Wd)) (l1 : Int32) (l2 : Int32) (l3 : Int32) (l4 : Int32) (l5 : Int32) (l6 : Int32) (w : Wd) : Option (Int32 × Wd) :=
  if l5 ≤ l6 then
    some ((-2), w)
  else
    bnd (f_X3_fits l6 l1 l2 w) fun x1 =>
    if x1 = 0 then
      k32 l1 l2 l3 l4 l5 (l6 + 1) w
    else
      if l4 = l3 then
        bnd (f_X3_setAt l6 w) fun x2 =>
        some (x2, w)
      else
        k32 l1 l2 l3 (l4 + 1) l5 (l6 + 1) w
def f_X11_nth_L32 (n : Nat) : Int32 → Int32 → Int32 → Int32 → Int32 → Int32 → Wd → Option (Int32 × Wd) :=
  Nat.rec (fun _ _ _ _ _ _ _ => none) (fun _ k => f_X11_nth_B32b k) n
set_option maxHeartbeats 4000000 in
set_option maxRecDepth 100000 in
theorem t_X11_nth_L32 {G : GT} {d : Nat} (hd : 5 ≤ d + 1)  : ∀ (n : Nat) (l1 : Int32) (l2 : Int32) (l3 : Int32) (l4 : Int32) (l5 : Int32) (l6 : Int32) (w : Wd) (r : Int32) (w' : Wd), f_X11_nth_L32 n l1 l2 l3 l4 l5 l6 w = some (r, w') → U (vf G mX11_nth (d + 1)) 32 [some (.ref 0), some (.int l1), some (.int l2), some (.int l3), some (.int l4), some (.int l5), some (.int l6)] [] w (some (.int r), 70, r0, w') := by
  intro n
  induction n with
  | zero => intro l1 l2 l3 l4 l5 l6 w r w' h; cases h
  | succ n h32 =>
    intro l1 l2 l3 l4 l5 l6 w r w' h
    have h : f_X11_nth_B32b (f_X11_nth_L32 n) l1 l2 l3 l4 l5 l6 w = some (r, w') := h
    unfold f_X11_nth_B32b at h
    refine V.iload (pc := 32) dX11_nth_32 rfl ?_
    refine V.iload (pc := 34) dX11_nth_34 rfl ?_
    rcases ite_e h with ⟨c, h⟩ | ⟨c, h⟩
    · refine V.icmp_ge_t (t := 78) (pc := 36) dX11_nth_36 (by decide) c ?_
      refine V.bipush (pc := 78) dX11_nth_78 bp_m2 ?_
      obtain ⟨rfl, rfl⟩ := Prod.mk.inj (Option.some.inj h)
      exact V.iret (pc := 80) dX11_nth_80 rfl (Nat.le_refl _) (Nat.le_refl _)
    · refine V.icmp_ge_f (t := 78) (pc := 36) dX11_nth_36 (by decide) c ?_
      refine V.aload_n (pc := 39) dX11_nth_39 rfl ?_
      refine V.getR (t := 19) (pc := 40) dX11_nth_40 f_RX11_44 k_cl11 lx_0 ly_0 rb_11_4 rr_0_4 ?_
      refine V.iload (pc := 43) dX11_nth_43 rfl ?_
      refine V.iload_n (pc := 45) dX11_nth_45 rfl ?_
      refine V.iload_n (pc := 46) dX11_nth_46 rfl ?_
      obtain ⟨x1, ex1, h⟩ := bnd_e h
      refine U.callV (pc := 47) (As := [.int l6, .int l1, .int l2]) (st := []) dX11_nth_47 l_RX11_214 (ok_X3_fits (by omega) l6 l1 l2 ex1) lx_19 ly_19 cn_3 (Nat.le_of_ble_eq_true rfl) rfl rfl (Nat.le_of_ble_eq_true rfl) ?_
      rcases ite_e h with ⟨c, h⟩ | ⟨c, h⟩
      · refine V.if_eq_t (t := 72) (pc := 50) dX11_nth_50 (by decide) c ?_
        refine V.iinc (lv' := [some (.ref 0), some (.int l1), some (.int l2), some (.int l3), some (.int l4), some (.int l5), some (.int (l6 + 1))]) (pc := 72) dX11_nth_72 (Nat.le_of_ble_eq_true rfl) rfl rfl (v := (l6 + 1)) (by rw [show Int32.ofInt 1 = 1 from by decide]) rfl ?_
        refine V.goto (t := 32) (pc := 75) dX11_nth_75 (by decide) ?_
        exact h32 l1 l2 l3 l4 l5 (l6 + 1) w _ _ h
      · refine V.if_eq_f (t := 72) (pc := 50) dX11_nth_50 (by decide) c ?_
        refine V.iload (pc := 53) dX11_nth_53 rfl ?_
        refine V.iload_n (pc := 55) dX11_nth_55 rfl ?_
        rcases ite_e h with ⟨c, h⟩ | ⟨c, h⟩
        · refine V.icmp_ne_f (t := 69) (pc := 56) dX11_nth_56 (by decide) c ?_
          refine V.aload_n (pc := 59) dX11_nth_59 rfl ?_
          refine V.getR (t := 19) (pc := 60) dX11_nth_60 f_RX11_44 k_cl11 lx_0 ly_0 rb_11_4 rr_0_4 ?_
          refine V.iload (pc := 63) dX11_nth_63 rfl ?_
          obtain ⟨x2, ex2, h⟩ := bnd_e h
          refine U.callV (pc := 65) (As := [.int l6]) (st := []) dX11_nth_65 l_RX11_217 (ok_X3_setAt (by omega) l6 ex2) lx_19 ly_19 cn_3 (Nat.le_of_ble_eq_true rfl) rfl rfl (Nat.le_of_ble_eq_true rfl) ?_
          obtain ⟨rfl, rfl⟩ := Prod.mk.inj (Option.some.inj h)
          exact V.iret (pc := 68) dX11_nth_68 rfl (Nat.le_refl _) (Nat.le_refl _)
        · refine V.icmp_ne_t (t := 69) (pc := 56) dX11_nth_56 (by decide) c ?_
          refine V.iinc (lv' := [some (.ref 0), some (.int l1), some (.int l2), some (.int l3), some (.int (l4 + 1)), some (.int l5), some (.int l6)]) (pc := 69) dX11_nth_69 (Nat.le_of_ble_eq_true rfl) rfl rfl (v := (l4 + 1)) (by rw [show Int32.ofInt 1 = 1 from by decide]) rfl ?_
          refine V.iinc (lv' := [some (.ref 0), some (.int l1), some (.int l2), some (.int l3), some (.int (l4 + 1)), some (.int l5), some (.int (l6 + 1))]) (pc := 72) dX11_nth_72 (Nat.le_of_ble_eq_true rfl) rfl rfl (v := (l6 + 1)) (by rw [show Int32.ofInt 1 = 1 from by decide]) rfl ?_
          refine V.goto (t := 32) (pc := 75) dX11_nth_75 (by decide) ?_
          exact h32 l1 l2 l3 (l4 + 1) l5 (l6 + 1) w _ _ h
def f_X11_nth (l1 : Int32) (l2 : Int32) (l3 : Int32) (w : Wd) : Option (Int32 × Wd) :=
  if (f_X11_isKind l1) = 0 then
    some ((-1), w)
  else
    if l2 < 0 then
      some ((-1), w)
    else
      if 0 ≤ l3 then
        bnd2 (f_X3_total  w) fun x1 w2 =>
        f_X11_nth_L32  FU l1 l2 l3 0 x1 0 w2
      else
        some ((-1), w)
set_option maxHeartbeats 4000000 in
set_option maxRecDepth 100000 in
theorem ok_X11_nth {G : GT} {d : Nat} (hd : 5 ≤ d) {w : Wd} (l1 : Int32) (l2 : Int32) (l3 : Int32) {r : Int32} {w' : Wd} (h : f_X11_nth l1 l2 l3 w = some (r, w')) : uC G yX11_nth mX11_nth d [.ref 0, .int l1, .int l2, .int l3] w (some (.int r)) w' := by
  obtain ⟨d, rfl⟩ : ∃ e, d = e + 1 := ⟨d - 1, by omega⟩
  unfold f_X11_nth at h
  refine uC_of (lv := [some (.ref 0), some (.int l1), some (.int l2), some (.int l3), none, none, none]) 3 pn_X11 ⟨rfl, rfl⟩ (Nat.le_of_ble_eq_true rfl) rfl ?_
  refine V.iload_n (pc := 0) dX11_nth_0 rfl ?_
  refine U.callS (pc := 1) (As := [.int l1]) (st := []) dX11_nth_1 l_RX11_192 (ok_X11_isKind (by omega) l1 ) (Nat.le_of_ble_eq_true rfl) rfl rfl (Nat.le_of_ble_eq_true rfl) ?_
  rcases ite_e h with ⟨c, h⟩ | ⟨c, h⟩
  · refine V.if_eq_t (t := 15) (pc := 4) dX11_nth_4 (by decide) c ?_
    refine V.iconst (pc := 15) dX11_nth_15 ic_m1 ?_
    obtain ⟨rfl, rfl⟩ := Prod.mk.inj (Option.some.inj h)
    exact V.iret (pc := 16) dX11_nth_16 rfl (Nat.le_refl _) (Nat.le_refl _)
  · refine V.if_eq_f (t := 15) (pc := 4) dX11_nth_4 (by decide) c ?_
    refine V.iload_n (pc := 7) dX11_nth_7 rfl ?_
    rcases ite_e h with ⟨c, h⟩ | ⟨c, h⟩
    · refine V.if_lt_t (t := 15) (pc := 8) dX11_nth_8 (by decide) c ?_
      refine V.iconst (pc := 15) dX11_nth_15 ic_m1 ?_
      obtain ⟨rfl, rfl⟩ := Prod.mk.inj (Option.some.inj h)
      exact V.iret (pc := 16) dX11_nth_16 rfl (Nat.le_refl _) (Nat.le_refl _)
    · refine V.if_lt_f (t := 15) (pc := 8) dX11_nth_8 (by decide) c ?_
      refine V.iload_n (pc := 11) dX11_nth_11 rfl ?_
      rcases ite_e h with ⟨c, h⟩ | ⟨c, h⟩
      · refine V.if_ge_t (t := 17) (pc := 12) dX11_nth_12 (by decide) c ?_
        refine V.iconst (pc := 17) dX11_nth_17 ic_0 ?_
        refine V.istore (lv' := [some (.ref 0), some (.int l1), some (.int l2), some (.int l3), some (.int 0), none, none]) (pc := 18) dX11_nth_18 (Nat.le_of_ble_eq_true rfl) rfl rfl ?_
        refine V.aload_n (pc := 20) dX11_nth_20 rfl ?_
        refine V.getR (t := 19) (pc := 21) dX11_nth_21 f_RX11_44 k_cl11 lx_0 ly_0 rb_11_4 rr_0_4 ?_
        obtain ⟨x1, w2, ew2, h⟩ := bnd2_e h
        refine U.callV (pc := 24) (As := []) (st := []) dX11_nth_24 l_RX11_211 (ok_X3_total (by omega)  ew2) lx_19 ly_19 cn_3 (Nat.le_of_ble_eq_true rfl) rfl rfl (Nat.le_of_ble_eq_true rfl) ?_
        refine V.istore (lv' := [some (.ref 0), some (.int l1), some (.int l2), some (.int l3), some (.int 0), some (.int x1), none]) (pc := 27) dX11_nth_27 (Nat.le_of_ble_eq_true rfl) rfl rfl ?_
        refine V.iconst (pc := 29) dX11_nth_29 ic_0 ?_
        refine V.istore (lv' := [some (.ref 0), some (.int l1), some (.int l2), some (.int l3), some (.int 0), some (.int x1), some (.int 0)]) (pc := 30) dX11_nth_30 (Nat.le_of_ble_eq_true rfl) rfl rfl ?_
        exact t_X11_nth_L32 hd FU l1 l2 l3 0 x1 0 w2 _ _ h
      · refine V.if_ge_f (t := 17) (pc := 12) dX11_nth_12 (by decide) c ?_
        refine V.iconst (pc := 15) dX11_nth_15 ic_m1 ?_
        obtain ⟨rfl, rfl⟩ := Prod.mk.inj (Option.some.inj h)
        exact V.iret (pc := 16) dX11_nth_16 rfl (Nat.le_refl _) (Nat.le_refl _)
theorem dX12_nth_0 : decode cX12_nth 0 = .ok (.iload_n 1, 1) := by decide +kernel
theorem dX12_nth_1 : decode cX12_nth 1 = .ok (.invokestatic 197, 3) := by decide +kernel
theorem dX12_nth_4 : decode cX12_nth 4 = .ok (.ifCond .eq 11, 3) := by decide +kernel
theorem dX12_nth_7 : decode cX12_nth 7 = .ok (.iload_n 2, 1) := by decide +kernel
theorem dX12_nth_8 : decode cX12_nth 8 = .ok (.ifCond .lt 7, 3) := by decide +kernel
theorem dX12_nth_11 : decode cX12_nth 11 = .ok (.iload_n 3, 1) := by decide +kernel
theorem dX12_nth_12 : decode cX12_nth 12 = .ok (.ifCond .ge 5, 3) := by decide +kernel
theorem dX12_nth_15 : decode cX12_nth 15 = .ok (.iconst (-1), 1) := by decide +kernel
theorem dX12_nth_16 : decode cX12_nth 16 = .ok (.ireturn, 1) := by decide +kernel
theorem dX12_nth_17 : decode cX12_nth 17 = .ok (.iload_n 3, 1) := by decide +kernel
theorem dX12_nth_18 : decode cX12_nth 18 = .ok (.istore 4, 2) := by decide +kernel
theorem dX12_nth_20 : decode cX12_nth 20 = .ok (.iconst 0, 1) := by decide +kernel
theorem dX12_nth_21 : decode cX12_nth 21 = .ok (.istore 5, 2) := by decide +kernel
theorem dX12_nth_23 : decode cX12_nth 23 = .ok (.iload 5, 2) := by decide +kernel
theorem dX12_nth_25 : decode cX12_nth 25 = .ok (.aload_n 0, 1) := by decide +kernel
theorem dX12_nth_26 : decode cX12_nth 26 = .ok (.invokevirtual 143, 3) := by decide +kernel
theorem dX12_nth_29 : decode cX12_nth 29 = .ok (.if_icmp .gt 42, 3) := by decide +kernel
theorem dX12_nth_32 : decode cX12_nth 32 = .ok (.iload 5, 2) := by decide +kernel
theorem dX12_nth_34 : decode cX12_nth 34 = .ok (.invokestatic 172, 3) := by decide +kernel
theorem dX12_nth_37 : decode cX12_nth 37 = .ok (.iload_n 2, 1) := by decide +kernel
theorem dX12_nth_38 : decode cX12_nth 38 = .ok (.if_icmp .ne 27, 3) := by decide +kernel
theorem dX12_nth_41 : decode cX12_nth 41 = .ok (.aload_n 0, 1) := by decide +kernel
theorem dX12_nth_42 : decode cX12_nth 42 = .ok (.iload 5, 2) := by decide +kernel
theorem dX12_nth_44 : decode cX12_nth 44 = .ok (.iload_n 1, 1) := by decide +kernel
theorem dX12_nth_45 : decode cX12_nth 45 = .ok (.invokevirtual 200, 3) := by decide +kernel
theorem dX12_nth_48 : decode cX12_nth 48 = .ok (.ifCond .ne 6, 3) := by decide +kernel
theorem dX12_nth_51 : decode cX12_nth 51 = .ok (.goto 14, 3) := by decide +kernel
theorem dX12_nth_54 : decode cX12_nth 54 = .ok (.iload 4, 2) := by decide +kernel
theorem dX12_nth_56 : decode cX12_nth 56 = .ok (.ifCond .ne 6, 3) := by decide +kernel
theorem dX12_nth_59 : decode cX12_nth 59 = .ok (.iload 5, 2) := by decide +kernel
theorem dX12_nth_61 : decode cX12_nth 61 = .ok (.ireturn, 1) := by decide +kernel
theorem dX12_nth_62 : decode cX12_nth 62 = .ok (.iinc 4 (-1), 3) := by decide +kernel
theorem dX12_nth_65 : decode cX12_nth 65 = .ok (.iinc 5 1, 3) := by decide +kernel
theorem dX12_nth_68 : decode cX12_nth 68 = .ok (.goto (-45), 3) := by decide +kernel
theorem dX12_nth_71 : decode cX12_nth 71 = .ok (.bipush (-2), 2) := by decide +kernel
theorem dX12_nth_73 : decode cX12_nth 73 = .ok (.ireturn, 1) := by decide +kernel
def f_X12_nth_B23b (k23 : Int32 → Int32 → Int32 → Int32 → Wd → Option Int32) (l1 : Int32) (l2 : Int32) (l4 : Int32) (l5 : Int32) (w : Wd) : Option Int32 :=
  if (f_X12_all  w) < l5 then
    some (-2)
  else
    bnd (f_X12_ones l5) fun x1 =>
    if x1 = l2 then
      bnd (f_X12_isOf l5 l1 w) fun x2 =>
      if x2 = 0 then
        k23 l1 l2 l4 (l5 + 1) w
      else
        if l4 = 0 then
          some l5
        else
          k23 l1 l2 (l4 + (-1)) (l5 + 1) w
    else
      k23 l1 l2 l4 (l5 + 1) w
def f_X12_nth_L23 (n : Nat) : Int32 → Int32 → Int32 → Int32 → Wd → Option Int32 :=
  Nat.rec (fun _ _ _ _ _ => none) (fun _ k => f_X12_nth_B23b k) n
set_option maxHeartbeats 4000000 in
set_option maxRecDepth 100000 in
theorem t_X12_nth_L23 {G : GT} {d : Nat} {w : Wd} (hd : 4 ≤ d + 1)  : ∀ (n : Nat) (l1 : Int32) (l2 : Int32) (l4 : Int32) (l5 : Int32) (r : Int32), f_X12_nth_L23 n l1 l2 l4 l5 w = some r → U (vf G mX12_nth (d + 1)) 23 [some (.ref 44), some (.int l1), some (.int l2), none, some (.int l4), some (.int l5)] [] w (some (.int r), 70, r0, w) := by
  intro n
  induction n with
  | zero => intro l1 l2 l4 l5 r h; cases h
  | succ n h23 =>
    intro l1 l2 l4 l5 r h
    have h : f_X12_nth_B23b (f_X12_nth_L23 n) l1 l2 l4 l5 w = some r := h
    unfold f_X12_nth_B23b at h
    refine V.iload (pc := 23) dX12_nth_23 rfl ?_
    refine V.aload_n (pc := 25) dX12_nth_25 rfl ?_
    refine U.callV (pc := 26) (As := []) (st := [.int l5]) dX12_nth_26 l_RX12_143 (ok_X12_all (by omega)  ) lx_44 ly_44 cn_12 (Nat.le_of_ble_eq_true rfl) rfl rfl (Nat.le_of_ble_eq_true rfl) ?_
    rcases ite_e h with ⟨c, h⟩ | ⟨c, h⟩
    · refine V.icmp_gt_t (t := 71) (pc := 29) dX12_nth_29 (by decide) c ?_
      refine V.bipush (pc := 71) dX12_nth_71 bp_m2 ?_
      obtain rfl := Option.some.inj h
      exact V.iret (pc := 73) dX12_nth_73 rfl (Nat.le_refl _) (Nat.le_refl _)
    · refine V.icmp_gt_f (t := 71) (pc := 29) dX12_nth_29 (by decide) c ?_
      refine V.iload (pc := 32) dX12_nth_32 rfl ?_
      obtain ⟨x1, ex1, h⟩ := bnd_e h
      refine U.callS (pc := 34) (As := [.int l5]) (st := []) dX12_nth_34 l_RX12_172 (ok_X12_ones (by omega) l5 ex1) (Nat.le_of_ble_eq_true rfl) rfl rfl (Nat.le_of_ble_eq_true rfl) ?_
      refine V.iload_n (pc := 37) dX12_nth_37 rfl ?_
      rcases ite_e h with ⟨c, h⟩ | ⟨c, h⟩
      · refine V.icmp_ne_f (t := 65) (pc := 38) dX12_nth_38 (by decide) c ?_
        refine V.aload_n (pc := 41) dX12_nth_41 rfl ?_
        refine V.iload (pc := 42) dX12_nth_42 rfl ?_
        refine V.iload_n (pc := 44) dX12_nth_44 rfl ?_
        obtain ⟨x2, ex2, h⟩ := bnd_e h
        refine U.callV (pc := 45) (As := [.int l5, .int l1]) (st := []) dX12_nth_45 l_RX12_200 (ok_X12_isOf (by omega) l5 l1 ex2) lx_44 ly_44 cn_12 (Nat.le_of_ble_eq_true rfl) rfl rfl (Nat.le_of_ble_eq_true rfl) ?_
        rcases ite_e h with ⟨c, h⟩ | ⟨c, h⟩
        · refine V.if_ne_f (t := 54) (pc := 48) dX12_nth_48 (by decide) c ?_
          refine V.goto (t := 65) (pc := 51) dX12_nth_51 (by decide) ?_
          refine V.iinc (lv' := [some (.ref 44), some (.int l1), some (.int l2), none, some (.int l4), some (.int (l5 + 1))]) (pc := 65) dX12_nth_65 (Nat.le_of_ble_eq_true rfl) rfl rfl (v := (l5 + 1)) (by rw [show Int32.ofInt 1 = 1 from by decide]) rfl ?_
          refine V.goto (t := 23) (pc := 68) dX12_nth_68 (by decide) ?_
          exact h23 l1 l2 l4 (l5 + 1) _ h
        · refine V.if_ne_t (t := 54) (pc := 48) dX12_nth_48 (by decide) c ?_
          refine V.iload (pc := 54) dX12_nth_54 rfl ?_
          rcases ite_e h with ⟨c, h⟩ | ⟨c, h⟩
          · refine V.if_ne_f (t := 62) (pc := 56) dX12_nth_56 (by decide) c ?_
            refine V.iload (pc := 59) dX12_nth_59 rfl ?_
            obtain rfl := Option.some.inj h
            exact V.iret (pc := 61) dX12_nth_61 rfl (Nat.le_refl _) (Nat.le_refl _)
          · refine V.if_ne_t (t := 62) (pc := 56) dX12_nth_56 (by decide) c ?_
            refine V.iinc (lv' := [some (.ref 44), some (.int l1), some (.int l2), none, some (.int (l4 + (-1))), some (.int l5)]) (pc := 62) dX12_nth_62 (Nat.le_of_ble_eq_true rfl) rfl rfl (v := (l4 + (-1))) (by rw [show Int32.ofInt (-1) = (-1) from by decide]) rfl ?_
            refine V.iinc (lv' := [some (.ref 44), some (.int l1), some (.int l2), none, some (.int (l4 + (-1))), some (.int (l5 + 1))]) (pc := 65) dX12_nth_65 (Nat.le_of_ble_eq_true rfl) rfl rfl (v := (l5 + 1)) (by rw [show Int32.ofInt 1 = 1 from by decide]) rfl ?_
            refine V.goto (t := 23) (pc := 68) dX12_nth_68 (by decide) ?_
            exact h23 l1 l2 (l4 + (-1)) (l5 + 1) _ h
      · refine V.icmp_ne_t (t := 65) (pc := 38) dX12_nth_38 (by decide) c ?_
        refine V.iinc (lv' := [some (.ref 44), some (.int l1), some (.int l2), none, some (.int l4), some (.int (l5 + 1))]) (pc := 65) dX12_nth_65 (Nat.le_of_ble_eq_true rfl) rfl rfl (v := (l5 + 1)) (by rw [show Int32.ofInt 1 = 1 from by decide]) rfl ?_
        refine V.goto (t := 23) (pc := 68) dX12_nth_68 (by decide) ?_
        exact h23 l1 l2 l4 (l5 + 1) _ h
def f_X12_nth (l1 : Int32) (l2 : Int32) (l3 : Int32) (w : Wd) : Option Int32 :=
  if (f_X12_isKind l1) = 0 then
    some (-1)
  else
    if l2 < 0 then
      some (-1)
    else
      if 0 ≤ l3 then
        f_X12_nth_L23  FU l1 l2 l3 0 w
      else
        some (-1)
set_option maxHeartbeats 4000000 in
set_option maxRecDepth 100000 in
theorem ok_X12_nth {G : GT} {d : Nat} (hd : 4 ≤ d) {w : Wd} (l1 : Int32) (l2 : Int32) (l3 : Int32) {r : Int32} (h : f_X12_nth l1 l2 l3 w = some r) : uC G yX12_nth mX12_nth d [.ref 44, .int l1, .int l2, .int l3] w (some (.int r)) w := by
  obtain ⟨d, rfl⟩ : ∃ e, d = e + 1 := ⟨d - 1, by omega⟩
  unfold f_X12_nth at h
  refine uC_of (lv := [some (.ref 44), some (.int l1), some (.int l2), some (.int l3), none, none]) 2 pn_X12 ⟨rfl, rfl⟩ (Nat.le_of_ble_eq_true rfl) rfl ?_
  refine V.iload_n (pc := 0) dX12_nth_0 rfl ?_
  refine U.callS (pc := 1) (As := [.int l1]) (st := []) dX12_nth_1 l_RX12_197 (ok_X12_isKind (by omega) l1 ) (Nat.le_of_ble_eq_true rfl) rfl rfl (Nat.le_of_ble_eq_true rfl) ?_
  rcases ite_e h with ⟨c, h⟩ | ⟨c, h⟩
  · refine V.if_eq_t (t := 15) (pc := 4) dX12_nth_4 (by decide) c ?_
    refine V.iconst (pc := 15) dX12_nth_15 ic_m1 ?_
    obtain rfl := Option.some.inj h
    exact V.iret (pc := 16) dX12_nth_16 rfl (Nat.le_refl _) (Nat.le_refl _)
  · refine V.if_eq_f (t := 15) (pc := 4) dX12_nth_4 (by decide) c ?_
    refine V.iload_n (pc := 7) dX12_nth_7 rfl ?_
    rcases ite_e h with ⟨c, h⟩ | ⟨c, h⟩
    · refine V.if_lt_t (t := 15) (pc := 8) dX12_nth_8 (by decide) c ?_
      refine V.iconst (pc := 15) dX12_nth_15 ic_m1 ?_
      obtain rfl := Option.some.inj h
      exact V.iret (pc := 16) dX12_nth_16 rfl (Nat.le_refl _) (Nat.le_refl _)
    · refine V.if_lt_f (t := 15) (pc := 8) dX12_nth_8 (by decide) c ?_
      refine V.iload_n (pc := 11) dX12_nth_11 rfl ?_
      rcases ite_e h with ⟨c, h⟩ | ⟨c, h⟩
      · refine V.if_ge_t (t := 17) (pc := 12) dX12_nth_12 (by decide) c ?_
        refine V.iload_n (pc := 17) dX12_nth_17 rfl ?_
        refine V.istore (lv' := [some (.ref 44), some (.int l1), some (.int l2), some (.int l3), some (.int l3), none]) (pc := 18) dX12_nth_18 (Nat.le_of_ble_eq_true rfl) rfl rfl ?_
        refine V.iconst (pc := 20) dX12_nth_20 ic_0 ?_
        refine V.istore (lv' := [some (.ref 44), some (.int l1), some (.int l2), some (.int l3), some (.int l3), some (.int 0)]) (pc := 21) dX12_nth_21 (Nat.le_of_ble_eq_true rfl) rfl rfl ?_
        refine V.weak (lv' := [some (.ref 44), some (.int l1), some (.int l2), none, some (.int l3), some (.int 0)]) (And.intro rfl (And.intro rfl (And.intro rfl (And.intro rfl (And.intro rfl trivial))))) ?_
        exact t_X12_nth_L23 hd FU l1 l2 l3 0 _ h
      · refine V.if_ge_f (t := 17) (pc := 12) dX12_nth_12 (by decide) c ?_
        refine V.iconst (pc := 15) dX12_nth_15 ic_m1 ?_
        obtain rfl := Option.some.inj h
        exact V.iret (pc := 16) dX12_nth_16 rfl (Nat.le_refl _) (Nat.le_refl _)
theorem dX11_within_0 : decode cX11_within 0 = .ok (.aload_n 0, 1) := by decide +kernel
theorem dX11_within_1 : decode cX11_within 1 = .ok (.getfield 28, 3) := by decide +kernel
theorem dX11_within_4 : decode cX11_within 4 = .ok (.iload_n 1, 1) := by decide +kernel
theorem dX11_within_5 : decode cX11_within 5 = .ok (.invokevirtual 118, 3) := by decide +kernel
theorem dX11_within_8 : decode cX11_within 8 = .ok (.ifCond .ne 5, 3) := by decide +kernel
theorem dX11_within_11 : decode cX11_within 11 = .ok (.iconst (-1), 1) := by decide +kernel
theorem dX11_within_12 : decode cX11_within 12 = .ok (.ireturn, 1) := by decide +kernel
theorem dX11_within_13 : decode cX11_within 13 = .ok (.iconst 0, 1) := by decide +kernel
theorem dX11_within_14 : decode cX11_within 14 = .ok (.istore_n 3, 1) := by decide +kernel
theorem dX11_within_15 : decode cX11_within 15 = .ok (.aload_n 0, 1) := by decide +kernel
theorem dX11_within_16 : decode cX11_within 16 = .ok (.getfield 44, 3) := by decide +kernel
theorem dX11_within_19 : decode cX11_within 19 = .ok (.invokevirtual 211, 3) := by decide +kernel
theorem dX11_within_22 : decode cX11_within 22 = .ok (.istore 4, 2) := by decide +kernel
theorem dX11_within_24 : decode cX11_within 24 = .ok (.iconst 0, 1) := by decide +kernel
theorem dX11_within_25 : decode cX11_within 25 = .ok (.istore 5, 2) := by decide +kernel
theorem dX11_within_27 : decode cX11_within 27 = .ok (.iload 5, 2) := by decide +kernel
theorem dX11_within_29 : decode cX11_within 29 = .ok (.iload 4, 2) := by decide +kernel
theorem dX11_within_31 : decode cX11_within 31 = .ok (.if_icmp .ge 49, 3) := by decide +kernel
theorem dX11_within_34 : decode cX11_within 34 = .ok (.aload_n 0, 1) := by decide +kernel
theorem dX11_within_35 : decode cX11_within 35 = .ok (.getfield 44, 3) := by decide +kernel
theorem dX11_within_38 : decode cX11_within 38 = .ok (.iload 5, 2) := by decide +kernel
theorem dX11_within_40 : decode cX11_within 40 = .ok (.invokevirtual 217, 3) := by decide +kernel
theorem dX11_within_43 : decode cX11_within 43 = .ok (.istore 6, 2) := by decide +kernel
theorem dX11_within_45 : decode cX11_within 45 = .ok (.iload_n 2, 1) := by decide +kernel
theorem dX11_within_46 : decode cX11_within 46 = .ok (.ifCond .eq 12, 3) := by decide +kernel
theorem dX11_within_49 : decode cX11_within 49 = .ok (.iload_n 1, 1) := by decide +kernel
theorem dX11_within_50 : decode cX11_within 50 = .ok (.iload 6, 2) := by decide +kernel
theorem dX11_within_52 : decode cX11_within 52 = .ok (.iconst (-1), 1) := by decide +kernel
theorem dX11_within_53 : decode cX11_within 53 = .ok (.ixor, 1) := by decide +kernel
theorem dX11_within_54 : decode cX11_within 54 = .ok (.iand, 1) := by decide +kernel
theorem dX11_within_55 : decode cX11_within 55 = .ok (.goto 9, 3) := by decide +kernel
theorem dX11_within_58 : decode cX11_within 58 = .ok (.iload 6, 2) := by decide +kernel
theorem dX11_within_60 : decode cX11_within 60 = .ok (.iload_n 1, 1) := by decide +kernel
theorem dX11_within_61 : decode cX11_within 61 = .ok (.iconst (-1), 1) := by decide +kernel
theorem dX11_within_62 : decode cX11_within 62 = .ok (.ixor, 1) := by decide +kernel
theorem dX11_within_63 : decode cX11_within 63 = .ok (.iand, 1) := by decide +kernel
theorem dX11_within_64 : decode cX11_within 64 = .ok (.istore 7, 2) := by decide +kernel
theorem dX11_within_66 : decode cX11_within 66 = .ok (.iload 7, 2) := by decide +kernel
theorem dX11_within_68 : decode cX11_within 68 = .ok (.ifCond .ne 6, 3) := by decide +kernel
theorem dX11_within_71 : decode cX11_within 71 = .ok (.iinc 3 1, 3) := by decide +kernel
theorem dX11_within_74 : decode cX11_within 74 = .ok (.iinc 5 1, 3) := by decide +kernel
theorem dX11_within_77 : decode cX11_within 77 = .ok (.goto (-50), 3) := by decide +kernel
theorem dX11_within_80 : decode cX11_within 80 = .ok (.iload_n 3, 1) := by decide +kernel
theorem dX11_within_81 : decode cX11_within 81 = .ok (.ireturn, 1) := by decide +kernel
def f_X11_within_B27b (k27 : Int32 → Int32 → Int32 → Int32 → Int32 → Wd → Option (Int32 × Wd)) (l1 : Int32) (l2 : Int32) (l3 : Int32) (l4 : Int32) (l5 : Int32) (w : Wd) : Option (Int32 × Wd) :=
  if l4 ≤ l5 then
    some (l3, w)
  else
    bnd (f_X3_setAt l5 w) fun x1 =>
    if l2 = 0 then
      if (x1 &&& (l1 ^^^ (-1))) = 0 then
        k27 l1 l2 (l3 + 1) l4 (l5 + 1) w
      else
        k27 l1 l2 l3 l4 (l5 + 1) w
    else
      if (l1 &&& (x1 ^^^ (-1))) = 0 then
        k27 l1 l2 (l3 + 1) l4 (l5 + 1) w
      else
        k27 l1 l2 l3 l4 (l5 + 1) w
def f_X11_within_L27 (n : Nat) : Int32 → Int32 → Int32 → Int32 → Int32 → Wd → Option (Int32 × Wd) :=
  Nat.rec (fun _ _ _ _ _ _ => none) (fun _ k => f_X11_within_B27b k) n
set_option maxHeartbeats 4000000 in
set_option maxRecDepth 100000 in
theorem t_X11_within_L27 {G : GT} {d : Nat} (hd : 5 ≤ d + 1)  : ∀ (n : Nat) (l1 : Int32) (l2 : Int32) (l3 : Int32) (l4 : Int32) (l5 : Int32) (w : Wd) (r : Int32) (w' : Wd), f_X11_within_L27 n l1 l2 l3 l4 l5 w = some (r, w') → U (vf G mX11_within (d + 1)) 27 [some (.ref 0), some (.int l1), some (.int l2), some (.int l3), some (.int l4), some (.int l5), none, none] [] w (some (.int r), 70, r0, w') := by
  intro n
  induction n with
  | zero => intro l1 l2 l3 l4 l5 w r w' h; cases h
  | succ n h27 =>
    intro l1 l2 l3 l4 l5 w r w' h
    have h : f_X11_within_B27b (f_X11_within_L27 n) l1 l2 l3 l4 l5 w = some (r, w') := h
    unfold f_X11_within_B27b at h
    refine V.iload (pc := 27) dX11_within_27 rfl ?_
    refine V.iload (pc := 29) dX11_within_29 rfl ?_
    rcases ite_e h with ⟨c, h⟩ | ⟨c, h⟩
    · refine V.icmp_ge_t (t := 80) (pc := 31) dX11_within_31 (by decide) c ?_
      refine V.iload_n (pc := 80) dX11_within_80 rfl ?_
      obtain ⟨rfl, rfl⟩ := Prod.mk.inj (Option.some.inj h)
      exact V.iret (pc := 81) dX11_within_81 rfl (Nat.le_refl _) (Nat.le_refl _)
    · refine V.icmp_ge_f (t := 80) (pc := 31) dX11_within_31 (by decide) c ?_
      refine V.aload_n (pc := 34) dX11_within_34 rfl ?_
      refine V.getR (t := 19) (pc := 35) dX11_within_35 f_RX11_44 k_cl11 lx_0 ly_0 rb_11_4 rr_0_4 ?_
      refine V.iload (pc := 38) dX11_within_38 rfl ?_
      obtain ⟨x1, ex1, h⟩ := bnd_e h
      refine U.callV (pc := 40) (As := [.int l5]) (st := []) dX11_within_40 l_RX11_217 (ok_X3_setAt (by omega) l5 ex1) lx_19 ly_19 cn_3 (Nat.le_of_ble_eq_true rfl) rfl rfl (Nat.le_of_ble_eq_true rfl) ?_
      refine V.istore (lv' := [some (.ref 0), some (.int l1), some (.int l2), some (.int l3), some (.int l4), some (.int l5), some (.int x1), none]) (pc := 43) dX11_within_43 (Nat.le_of_ble_eq_true rfl) rfl rfl ?_
      refine V.iload_n (pc := 45) dX11_within_45 rfl ?_
      rcases ite_e h with ⟨c, h⟩ | ⟨c, h⟩
      · refine V.if_eq_t (t := 58) (pc := 46) dX11_within_46 (by decide) c ?_
        refine V.iload (pc := 58) dX11_within_58 rfl ?_
        refine V.iload_n (pc := 60) dX11_within_60 rfl ?_
        refine V.iconst (pc := 61) dX11_within_61 ic_m1 ?_
        refine V.ixor (pc := 62) dX11_within_62 ?_
        refine V.iand (pc := 63) dX11_within_63 ?_
        refine V.istore (lv' := [some (.ref 0), some (.int l1), some (.int l2), some (.int l3), some (.int l4), some (.int l5), some (.int x1), some (.int (x1 &&& (l1 ^^^ (-1))))]) (pc := 64) dX11_within_64 (Nat.le_of_ble_eq_true rfl) rfl rfl ?_
        refine V.iload (pc := 66) dX11_within_66 rfl ?_
        rcases ite_e h with ⟨c, h⟩ | ⟨c, h⟩
        · refine V.if_ne_f (t := 74) (pc := 68) dX11_within_68 (by decide) c ?_
          refine V.iinc (lv' := [some (.ref 0), some (.int l1), some (.int l2), some (.int (l3 + 1)), some (.int l4), some (.int l5), some (.int x1), some (.int (x1 &&& (l1 ^^^ (-1))))]) (pc := 71) dX11_within_71 (Nat.le_of_ble_eq_true rfl) rfl rfl (v := (l3 + 1)) (by rw [show Int32.ofInt 1 = 1 from by decide]) rfl ?_
          refine V.iinc (lv' := [some (.ref 0), some (.int l1), some (.int l2), some (.int (l3 + 1)), some (.int l4), some (.int (l5 + 1)), some (.int x1), some (.int (x1 &&& (l1 ^^^ (-1))))]) (pc := 74) dX11_within_74 (Nat.le_of_ble_eq_true rfl) rfl rfl (v := (l5 + 1)) (by rw [show Int32.ofInt 1 = 1 from by decide]) rfl ?_
          refine V.goto (t := 27) (pc := 77) dX11_within_77 (by decide) ?_
          refine V.weak (lv' := [some (.ref 0), some (.int l1), some (.int l2), some (.int (l3 + 1)), some (.int l4), some (.int (l5 + 1)), none, none]) (And.intro rfl (And.intro rfl (And.intro rfl (And.intro rfl (And.intro rfl (And.intro rfl trivial)))))) ?_
          exact h27 l1 l2 (l3 + 1) l4 (l5 + 1) w _ _ h
        · refine V.if_ne_t (t := 74) (pc := 68) dX11_within_68 (by decide) c ?_
          refine V.iinc (lv' := [some (.ref 0), some (.int l1), some (.int l2), some (.int l3), some (.int l4), some (.int (l5 + 1)), some (.int x1), some (.int (x1 &&& (l1 ^^^ (-1))))]) (pc := 74) dX11_within_74 (Nat.le_of_ble_eq_true rfl) rfl rfl (v := (l5 + 1)) (by rw [show Int32.ofInt 1 = 1 from by decide]) rfl ?_
          refine V.goto (t := 27) (pc := 77) dX11_within_77 (by decide) ?_
          refine V.weak (lv' := [some (.ref 0), some (.int l1), some (.int l2), some (.int l3), some (.int l4), some (.int (l5 + 1)), none, none]) (And.intro rfl (And.intro rfl (And.intro rfl (And.intro rfl (And.intro rfl (And.intro rfl trivial)))))) ?_
          exact h27 l1 l2 l3 l4 (l5 + 1) w _ _ h
      · refine V.if_eq_f (t := 58) (pc := 46) dX11_within_46 (by decide) c ?_
        refine V.iload_n (pc := 49) dX11_within_49 rfl ?_
        refine V.iload (pc := 50) dX11_within_50 rfl ?_
        refine V.iconst (pc := 52) dX11_within_52 ic_m1 ?_
        refine V.ixor (pc := 53) dX11_within_53 ?_
        refine V.iand (pc := 54) dX11_within_54 ?_
        refine V.goto (t := 64) (pc := 55) dX11_within_55 (by decide) ?_
        refine V.istore (lv' := [some (.ref 0), some (.int l1), some (.int l2), some (.int l3), some (.int l4), some (.int l5), some (.int x1), some (.int (l1 &&& (x1 ^^^ (-1))))]) (pc := 64) dX11_within_64 (Nat.le_of_ble_eq_true rfl) rfl rfl ?_
        refine V.iload (pc := 66) dX11_within_66 rfl ?_
        rcases ite_e h with ⟨c, h⟩ | ⟨c, h⟩
        · refine V.if_ne_f (t := 74) (pc := 68) dX11_within_68 (by decide) c ?_
          refine V.iinc (lv' := [some (.ref 0), some (.int l1), some (.int l2), some (.int (l3 + 1)), some (.int l4), some (.int l5), some (.int x1), some (.int (l1 &&& (x1 ^^^ (-1))))]) (pc := 71) dX11_within_71 (Nat.le_of_ble_eq_true rfl) rfl rfl (v := (l3 + 1)) (by rw [show Int32.ofInt 1 = 1 from by decide]) rfl ?_
          refine V.iinc (lv' := [some (.ref 0), some (.int l1), some (.int l2), some (.int (l3 + 1)), some (.int l4), some (.int (l5 + 1)), some (.int x1), some (.int (l1 &&& (x1 ^^^ (-1))))]) (pc := 74) dX11_within_74 (Nat.le_of_ble_eq_true rfl) rfl rfl (v := (l5 + 1)) (by rw [show Int32.ofInt 1 = 1 from by decide]) rfl ?_
          refine V.goto (t := 27) (pc := 77) dX11_within_77 (by decide) ?_
          refine V.weak (lv' := [some (.ref 0), some (.int l1), some (.int l2), some (.int (l3 + 1)), some (.int l4), some (.int (l5 + 1)), none, none]) (And.intro rfl (And.intro rfl (And.intro rfl (And.intro rfl (And.intro rfl (And.intro rfl trivial)))))) ?_
          exact h27 l1 l2 (l3 + 1) l4 (l5 + 1) w _ _ h
        · refine V.if_ne_t (t := 74) (pc := 68) dX11_within_68 (by decide) c ?_
          refine V.iinc (lv' := [some (.ref 0), some (.int l1), some (.int l2), some (.int l3), some (.int l4), some (.int (l5 + 1)), some (.int x1), some (.int (l1 &&& (x1 ^^^ (-1))))]) (pc := 74) dX11_within_74 (Nat.le_of_ble_eq_true rfl) rfl rfl (v := (l5 + 1)) (by rw [show Int32.ofInt 1 = 1 from by decide]) rfl ?_
          refine V.goto (t := 27) (pc := 77) dX11_within_77 (by decide) ?_
          refine V.weak (lv' := [some (.ref 0), some (.int l1), some (.int l2), some (.int l3), some (.int l4), some (.int (l5 + 1)), none, none]) (And.intro rfl (And.intro rfl (And.intro rfl (And.intro rfl (And.intro rfl (And.intro rfl trivial)))))) ?_
          exact h27 l1 l2 l3 l4 (l5 + 1) w _ _ h
def f_X11_within (l1 : Int32) (l2 : Int32) (w : Wd) : Option (Int32 × Wd) :=
  if (f_X4_holdsSet l1 w) = 0 then
    some ((-1), w)
  else
    bnd2 (f_X3_total  w) fun x1 w2 =>
    f_X11_within_L27  FU l1 l2 0 x1 0 w2
set_option maxHeartbeats 4000000 in
set_option maxRecDepth 100000 in
theorem ok_X11_within {G : GT} {d : Nat} (hd : 5 ≤ d) {w : Wd} (l1 : Int32) (l2 : Int32) {r : Int32} {w' : Wd} (h : f_X11_within l1 l2 w = some (r, w')) : uC G yX11_within mX11_within d [.ref 0, .int l1, .int l2] w (some (.int r)) w' := by
  obtain ⟨d, rfl⟩ : ∃ e, d = e + 1 := ⟨d - 1, by omega⟩
  unfold f_X11_within at h
  refine uC_of (lv := [some (.ref 0), some (.int l1), some (.int l2), none, none, none, none, none]) 5 pn_X11 ⟨rfl, rfl⟩ (Nat.le_of_ble_eq_true rfl) rfl ?_
  refine V.aload_n (pc := 0) dX11_within_0 rfl ?_
  refine V.getR (t := 6) (pc := 1) dX11_within_1 f_RX11_28 k_cl11 lx_0 ly_0 rb_11_2 rr_0_2 ?_
  refine V.iload_n (pc := 4) dX11_within_4 rfl ?_
  refine U.callV (pc := 5) (As := [.int l1]) (st := []) dX11_within_5 l_RX11_118 (ok_X4_holdsSet (by omega) l1 ) lx_6 ly_6 cn_4 (Nat.le_of_ble_eq_true rfl) rfl rfl (Nat.le_of_ble_eq_true rfl) ?_
  rcases ite_e h with ⟨c, h⟩ | ⟨c, h⟩
  · refine V.if_ne_f (t := 13) (pc := 8) dX11_within_8 (by decide) c ?_
    refine V.iconst (pc := 11) dX11_within_11 ic_m1 ?_
    obtain ⟨rfl, rfl⟩ := Prod.mk.inj (Option.some.inj h)
    exact V.iret (pc := 12) dX11_within_12 rfl (Nat.le_refl _) (Nat.le_refl _)
  · refine V.if_ne_t (t := 13) (pc := 8) dX11_within_8 (by decide) c ?_
    refine V.iconst (pc := 13) dX11_within_13 ic_0 ?_
    refine V.istore_n (lv' := [some (.ref 0), some (.int l1), some (.int l2), some (.int 0), none, none, none, none]) (pc := 14) dX11_within_14 (Nat.le_of_ble_eq_true rfl) rfl rfl ?_
    refine V.aload_n (pc := 15) dX11_within_15 rfl ?_
    refine V.getR (t := 19) (pc := 16) dX11_within_16 f_RX11_44 k_cl11 lx_0 ly_0 rb_11_4 rr_0_4 ?_
    obtain ⟨x1, w2, ew2, h⟩ := bnd2_e h
    refine U.callV (pc := 19) (As := []) (st := []) dX11_within_19 l_RX11_211 (ok_X3_total (by omega)  ew2) lx_19 ly_19 cn_3 (Nat.le_of_ble_eq_true rfl) rfl rfl (Nat.le_of_ble_eq_true rfl) ?_
    refine V.istore (lv' := [some (.ref 0), some (.int l1), some (.int l2), some (.int 0), some (.int x1), none, none, none]) (pc := 22) dX11_within_22 (Nat.le_of_ble_eq_true rfl) rfl rfl ?_
    refine V.iconst (pc := 24) dX11_within_24 ic_0 ?_
    refine V.istore (lv' := [some (.ref 0), some (.int l1), some (.int l2), some (.int 0), some (.int x1), some (.int 0), none, none]) (pc := 25) dX11_within_25 (Nat.le_of_ble_eq_true rfl) rfl rfl ?_
    exact t_X11_within_L27 hd FU l1 l2 0 x1 0 w2 _ _ h
theorem dX12_within_0 : decode cX12_within 0 = .ok (.aload_n 0, 1) := by decide +kernel
theorem dX12_within_1 : decode cX12_within 1 = .ok (.iload_n 1, 1) := by decide +kernel
theorem dX12_within_2 : decode cX12_within 2 = .ok (.invokevirtual 169, 3) := by decide +kernel
theorem dX12_within_5 : decode cX12_within 5 = .ok (.ifCond .ne 5, 3) := by decide +kernel
theorem dX12_within_8 : decode cX12_within 8 = .ok (.iconst (-1), 1) := by decide +kernel
theorem dX12_within_9 : decode cX12_within 9 = .ok (.ireturn, 1) := by decide +kernel
theorem dX12_within_10 : decode cX12_within 10 = .ok (.iconst 0, 1) := by decide +kernel
theorem dX12_within_11 : decode cX12_within 11 = .ok (.istore_n 3, 1) := by decide +kernel
theorem dX12_within_12 : decode cX12_within 12 = .ok (.iconst 0, 1) := by decide +kernel
theorem dX12_within_13 : decode cX12_within 13 = .ok (.istore 4, 2) := by decide +kernel
theorem dX12_within_15 : decode cX12_within 15 = .ok (.iload 4, 2) := by decide +kernel
theorem dX12_within_17 : decode cX12_within 17 = .ok (.aload_n 0, 1) := by decide +kernel
theorem dX12_within_18 : decode cX12_within 18 = .ok (.invokevirtual 143, 3) := by decide +kernel
theorem dX12_within_21 : decode cX12_within 21 = .ok (.if_icmp .gt 43, 3) := by decide +kernel
theorem dX12_within_24 : decode cX12_within 24 = .ok (.iload_n 2, 1) := by decide +kernel
theorem dX12_within_25 : decode cX12_within 25 = .ok (.ifCond .eq 12, 3) := by decide +kernel
theorem dX12_within_28 : decode cX12_within 28 = .ok (.iload_n 1, 1) := by decide +kernel
theorem dX12_within_29 : decode cX12_within 29 = .ok (.iload 4, 2) := by decide +kernel
theorem dX12_within_31 : decode cX12_within 31 = .ok (.iconst (-1), 1) := by decide +kernel
theorem dX12_within_32 : decode cX12_within 32 = .ok (.ixor, 1) := by decide +kernel
theorem dX12_within_33 : decode cX12_within 33 = .ok (.iand, 1) := by decide +kernel
theorem dX12_within_34 : decode cX12_within 34 = .ok (.goto 9, 3) := by decide +kernel
theorem dX12_within_37 : decode cX12_within 37 = .ok (.iload 4, 2) := by decide +kernel
theorem dX12_within_39 : decode cX12_within 39 = .ok (.iload_n 1, 1) := by decide +kernel
theorem dX12_within_40 : decode cX12_within 40 = .ok (.iconst (-1), 1) := by decide +kernel
theorem dX12_within_41 : decode cX12_within 41 = .ok (.ixor, 1) := by decide +kernel
theorem dX12_within_42 : decode cX12_within 42 = .ok (.iand, 1) := by decide +kernel
theorem dX12_within_43 : decode cX12_within 43 = .ok (.ifCond .ne 15, 3) := by decide +kernel
theorem dX12_within_46 : decode cX12_within 46 = .ok (.aload_n 0, 1) := by decide +kernel
theorem dX12_within_47 : decode cX12_within 47 = .ok (.iload 4, 2) := by decide +kernel
theorem dX12_within_49 : decode cX12_within 49 = .ok (.invokevirtual 150, 3) := by decide +kernel
theorem dX12_within_52 : decode cX12_within 52 = .ok (.ifCond .eq 6, 3) := by decide +kernel
theorem dX12_within_55 : decode cX12_within 55 = .ok (.iinc 3 1, 3) := by decide +kernel
theorem dX12_within_58 : decode cX12_within 58 = .ok (.iinc 4 1, 3) := by decide +kernel
theorem dX12_within_61 : decode cX12_within 61 = .ok (.goto (-46), 3) := by decide +kernel
theorem dX12_within_64 : decode cX12_within 64 = .ok (.iload_n 3, 1) := by decide +kernel
theorem dX12_within_65 : decode cX12_within 65 = .ok (.ireturn, 1) := by decide +kernel
def f_X12_within_B15b (k15 : Int32 → Int32 → Int32 → Int32 → Wd → Option Int32) (l1 : Int32) (l2 : Int32) (l3 : Int32) (l4 : Int32) (w : Wd) : Option Int32 :=
  if (f_X12_all  w) < l4 then
    some l3
  else
    if l2 = 0 then
      if (l4 &&& (l1 ^^^ (-1))) = 0 then
        bnd (f_X12_isFree l4 w) fun x1 =>
        if x1 = 0 then
          k15 l1 l2 l3 (l4 + 1) w
        else
          k15 l1 l2 (l3 + 1) (l4 + 1) w
      else
        k15 l1 l2 l3 (l4 + 1) w
    else
      if (l1 &&& (l4 ^^^ (-1))) = 0 then
        bnd (f_X12_isFree l4 w) fun x2 =>
        if x2 = 0 then
          k15 l1 l2 l3 (l4 + 1) w
        else
          k15 l1 l2 (l3 + 1) (l4 + 1) w
      else
        k15 l1 l2 l3 (l4 + 1) w
def f_X12_within_L15 (n : Nat) : Int32 → Int32 → Int32 → Int32 → Wd → Option Int32 :=
  Nat.rec (fun _ _ _ _ _ => none) (fun _ k => f_X12_within_B15b k) n
set_option maxHeartbeats 4000000 in
set_option maxRecDepth 100000 in
theorem t_X12_within_L15 {G : GT} {d : Nat} {w : Wd} (hd : 2 ≤ d + 1)  : ∀ (n : Nat) (l1 : Int32) (l2 : Int32) (l3 : Int32) (l4 : Int32) (r : Int32), f_X12_within_L15 n l1 l2 l3 l4 w = some r → U (vf G mX12_within (d + 1)) 15 [some (.ref 44), some (.int l1), some (.int l2), some (.int l3), some (.int l4)] [] w (some (.int r), 70, r0, w) := by
  intro n
  induction n with
  | zero => intro l1 l2 l3 l4 r h; cases h
  | succ n h15 =>
    intro l1 l2 l3 l4 r h
    have h : f_X12_within_B15b (f_X12_within_L15 n) l1 l2 l3 l4 w = some r := h
    unfold f_X12_within_B15b at h
    refine V.iload (pc := 15) dX12_within_15 rfl ?_
    refine V.aload_n (pc := 17) dX12_within_17 rfl ?_
    refine U.callV (pc := 18) (As := []) (st := [.int l4]) dX12_within_18 l_RX12_143 (ok_X12_all (by omega)  ) lx_44 ly_44 cn_12 (Nat.le_of_ble_eq_true rfl) rfl rfl (Nat.le_of_ble_eq_true rfl) ?_
    rcases ite_e h with ⟨c, h⟩ | ⟨c, h⟩
    · refine V.icmp_gt_t (t := 64) (pc := 21) dX12_within_21 (by decide) c ?_
      refine V.iload_n (pc := 64) dX12_within_64 rfl ?_
      obtain rfl := Option.some.inj h
      exact V.iret (pc := 65) dX12_within_65 rfl (Nat.le_refl _) (Nat.le_refl _)
    · refine V.icmp_gt_f (t := 64) (pc := 21) dX12_within_21 (by decide) c ?_
      refine V.iload_n (pc := 24) dX12_within_24 rfl ?_
      rcases ite_e h with ⟨c, h⟩ | ⟨c, h⟩
      · refine V.if_eq_t (t := 37) (pc := 25) dX12_within_25 (by decide) c ?_
        refine V.iload (pc := 37) dX12_within_37 rfl ?_
        refine V.iload_n (pc := 39) dX12_within_39 rfl ?_
        refine V.iconst (pc := 40) dX12_within_40 ic_m1 ?_
        refine V.ixor (pc := 41) dX12_within_41 ?_
        refine V.iand (pc := 42) dX12_within_42 ?_
        rcases ite_e h with ⟨c, h⟩ | ⟨c, h⟩
        · refine V.if_ne_f (t := 58) (pc := 43) dX12_within_43 (by decide) c ?_
          refine V.aload_n (pc := 46) dX12_within_46 rfl ?_
          refine V.iload (pc := 47) dX12_within_47 rfl ?_
          obtain ⟨x1, ex1, h⟩ := bnd_e h
          refine U.callV (pc := 49) (As := [.int l4]) (st := []) dX12_within_49 l_RX12_150 (ok_X12_isFree (by omega) l4 ex1) lx_44 ly_44 cn_12 (Nat.le_of_ble_eq_true rfl) rfl rfl (Nat.le_of_ble_eq_true rfl) ?_
          rcases ite_e h with ⟨c, h⟩ | ⟨c, h⟩
          · refine V.if_eq_t (t := 58) (pc := 52) dX12_within_52 (by decide) c ?_
            refine V.iinc (lv' := [some (.ref 44), some (.int l1), some (.int l2), some (.int l3), some (.int (l4 + 1))]) (pc := 58) dX12_within_58 (Nat.le_of_ble_eq_true rfl) rfl rfl (v := (l4 + 1)) (by rw [show Int32.ofInt 1 = 1 from by decide]) rfl ?_
            refine V.goto (t := 15) (pc := 61) dX12_within_61 (by decide) ?_
            exact h15 l1 l2 l3 (l4 + 1) _ h
          · refine V.if_eq_f (t := 58) (pc := 52) dX12_within_52 (by decide) c ?_
            refine V.iinc (lv' := [some (.ref 44), some (.int l1), some (.int l2), some (.int (l3 + 1)), some (.int l4)]) (pc := 55) dX12_within_55 (Nat.le_of_ble_eq_true rfl) rfl rfl (v := (l3 + 1)) (by rw [show Int32.ofInt 1 = 1 from by decide]) rfl ?_
            refine V.iinc (lv' := [some (.ref 44), some (.int l1), some (.int l2), some (.int (l3 + 1)), some (.int (l4 + 1))]) (pc := 58) dX12_within_58 (Nat.le_of_ble_eq_true rfl) rfl rfl (v := (l4 + 1)) (by rw [show Int32.ofInt 1 = 1 from by decide]) rfl ?_
            refine V.goto (t := 15) (pc := 61) dX12_within_61 (by decide) ?_
            exact h15 l1 l2 (l3 + 1) (l4 + 1) _ h
        · refine V.if_ne_t (t := 58) (pc := 43) dX12_within_43 (by decide) c ?_
          refine V.iinc (lv' := [some (.ref 44), some (.int l1), some (.int l2), some (.int l3), some (.int (l4 + 1))]) (pc := 58) dX12_within_58 (Nat.le_of_ble_eq_true rfl) rfl rfl (v := (l4 + 1)) (by rw [show Int32.ofInt 1 = 1 from by decide]) rfl ?_
          refine V.goto (t := 15) (pc := 61) dX12_within_61 (by decide) ?_
          exact h15 l1 l2 l3 (l4 + 1) _ h
      · refine V.if_eq_f (t := 37) (pc := 25) dX12_within_25 (by decide) c ?_
        refine V.iload_n (pc := 28) dX12_within_28 rfl ?_
        refine V.iload (pc := 29) dX12_within_29 rfl ?_
        refine V.iconst (pc := 31) dX12_within_31 ic_m1 ?_
        refine V.ixor (pc := 32) dX12_within_32 ?_
        refine V.iand (pc := 33) dX12_within_33 ?_
        refine V.goto (t := 43) (pc := 34) dX12_within_34 (by decide) ?_
        rcases ite_e h with ⟨c, h⟩ | ⟨c, h⟩
        · refine V.if_ne_f (t := 58) (pc := 43) dX12_within_43 (by decide) c ?_
          refine V.aload_n (pc := 46) dX12_within_46 rfl ?_
          refine V.iload (pc := 47) dX12_within_47 rfl ?_
          obtain ⟨x2, ex2, h⟩ := bnd_e h
          refine U.callV (pc := 49) (As := [.int l4]) (st := []) dX12_within_49 l_RX12_150 (ok_X12_isFree (by omega) l4 ex2) lx_44 ly_44 cn_12 (Nat.le_of_ble_eq_true rfl) rfl rfl (Nat.le_of_ble_eq_true rfl) ?_
          rcases ite_e h with ⟨c, h⟩ | ⟨c, h⟩
          · refine V.if_eq_t (t := 58) (pc := 52) dX12_within_52 (by decide) c ?_
            refine V.iinc (lv' := [some (.ref 44), some (.int l1), some (.int l2), some (.int l3), some (.int (l4 + 1))]) (pc := 58) dX12_within_58 (Nat.le_of_ble_eq_true rfl) rfl rfl (v := (l4 + 1)) (by rw [show Int32.ofInt 1 = 1 from by decide]) rfl ?_
            refine V.goto (t := 15) (pc := 61) dX12_within_61 (by decide) ?_
            exact h15 l1 l2 l3 (l4 + 1) _ h
          · refine V.if_eq_f (t := 58) (pc := 52) dX12_within_52 (by decide) c ?_
            refine V.iinc (lv' := [some (.ref 44), some (.int l1), some (.int l2), some (.int (l3 + 1)), some (.int l4)]) (pc := 55) dX12_within_55 (Nat.le_of_ble_eq_true rfl) rfl rfl (v := (l3 + 1)) (by rw [show Int32.ofInt 1 = 1 from by decide]) rfl ?_
            refine V.iinc (lv' := [some (.ref 44), some (.int l1), some (.int l2), some (.int (l3 + 1)), some (.int (l4 + 1))]) (pc := 58) dX12_within_58 (Nat.le_of_ble_eq_true rfl) rfl rfl (v := (l4 + 1)) (by rw [show Int32.ofInt 1 = 1 from by decide]) rfl ?_
            refine V.goto (t := 15) (pc := 61) dX12_within_61 (by decide) ?_
            exact h15 l1 l2 (l3 + 1) (l4 + 1) _ h
        · refine V.if_ne_t (t := 58) (pc := 43) dX12_within_43 (by decide) c ?_
          refine V.iinc (lv' := [some (.ref 44), some (.int l1), some (.int l2), some (.int l3), some (.int (l4 + 1))]) (pc := 58) dX12_within_58 (Nat.le_of_ble_eq_true rfl) rfl rfl (v := (l4 + 1)) (by rw [show Int32.ofInt 1 = 1 from by decide]) rfl ?_
          refine V.goto (t := 15) (pc := 61) dX12_within_61 (by decide) ?_
          exact h15 l1 l2 l3 (l4 + 1) _ h
def f_X12_within (l1 : Int32) (l2 : Int32) (w : Wd) : Option Int32 :=
  if (f_X12_isSet l1 w) = 0 then
    some (-1)
  else
    f_X12_within_L15  FU l1 l2 0 0 w
set_option maxHeartbeats 4000000 in
set_option maxRecDepth 100000 in
theorem ok_X12_within {G : GT} {d : Nat} (hd : 2 ≤ d) {w : Wd} (l1 : Int32) (l2 : Int32) {r : Int32} (h : f_X12_within l1 l2 w = some r) : uC G yX12_within mX12_within d [.ref 44, .int l1, .int l2] w (some (.int r)) w := by
  obtain ⟨d, rfl⟩ : ∃ e, d = e + 1 := ⟨d - 1, by omega⟩
  unfold f_X12_within at h
  refine uC_of (lv := [some (.ref 44), some (.int l1), some (.int l2), none, none]) 2 pn_X12 ⟨rfl, rfl⟩ (Nat.le_of_ble_eq_true rfl) rfl ?_
  refine V.aload_n (pc := 0) dX12_within_0 rfl ?_
  refine V.iload_n (pc := 1) dX12_within_1 rfl ?_
  refine U.callV (pc := 2) (As := [.int l1]) (st := []) dX12_within_2 l_RX12_169 (ok_X12_isSet (by omega) l1 ) lx_44 ly_44 cn_12 (Nat.le_of_ble_eq_true rfl) rfl rfl (Nat.le_of_ble_eq_true rfl) ?_
  rcases ite_e h with ⟨c, h⟩ | ⟨c, h⟩
  · refine V.if_ne_f (t := 10) (pc := 5) dX12_within_5 (by decide) c ?_
    refine V.iconst (pc := 8) dX12_within_8 ic_m1 ?_
    obtain rfl := Option.some.inj h
    exact V.iret (pc := 9) dX12_within_9 rfl (Nat.le_refl _) (Nat.le_refl _)
  · refine V.if_ne_t (t := 10) (pc := 5) dX12_within_5 (by decide) c ?_
    refine V.iconst (pc := 10) dX12_within_10 ic_0 ?_
    refine V.istore_n (lv' := [some (.ref 44), some (.int l1), some (.int l2), some (.int 0), none]) (pc := 11) dX12_within_11 (Nat.le_of_ble_eq_true rfl) rfl rfl ?_
    refine V.iconst (pc := 12) dX12_within_12 ic_0 ?_
    refine V.istore (lv' := [some (.ref 44), some (.int l1), some (.int l2), some (.int 0), some (.int 0)]) (pc := 13) dX12_within_13 (Nat.le_of_ble_eq_true rfl) rfl rfl ?_
    exact t_X12_within_L15 hd FU l1 l2 0 0 _ h
theorem dX11_nearest_0 : decode cX11_nearest 0 = .ok (.aload_n 0, 1) := by decide +kernel
theorem dX11_nearest_1 : decode cX11_nearest 1 = .ok (.getfield 28, 3) := by decide +kernel
theorem dX11_nearest_4 : decode cX11_nearest 4 = .ok (.iload_n 1, 1) := by decide +kernel
theorem dX11_nearest_5 : decode cX11_nearest 5 = .ok (.invokevirtual 118, 3) := by decide +kernel
theorem dX11_nearest_8 : decode cX11_nearest 8 = .ok (.ifCond .eq 19, 3) := by decide +kernel
theorem dX11_nearest_11 : decode cX11_nearest 11 = .ok (.iload_n 2, 1) := by decide +kernel
theorem dX11_nearest_12 : decode cX11_nearest 12 = .ok (.invokestatic 192, 3) := by decide +kernel
theorem dX11_nearest_15 : decode cX11_nearest 15 = .ok (.ifCond .eq 12, 3) := by decide +kernel
theorem dX11_nearest_18 : decode cX11_nearest 18 = .ok (.iload_n 3, 1) := by decide +kernel
theorem dX11_nearest_19 : decode cX11_nearest 19 = .ok (.ifCond .lt 8, 3) := by decide +kernel
theorem dX11_nearest_22 : decode cX11_nearest 22 = .ok (.iload_n 3, 1) := by decide +kernel
theorem dX11_nearest_23 : decode cX11_nearest 23 = .ok (.iconst 1, 1) := by decide +kernel
theorem dX11_nearest_24 : decode cX11_nearest 24 = .ok (.if_icmp .le 5, 3) := by decide +kernel
theorem dX11_nearest_27 : decode cX11_nearest 27 = .ok (.iconst (-1), 1) := by decide +kernel
theorem dX11_nearest_28 : decode cX11_nearest 28 = .ok (.ireturn, 1) := by decide +kernel
theorem dX11_nearest_29 : decode cX11_nearest 29 = .ok (.bipush 17, 2) := by decide +kernel
theorem dX11_nearest_31 : decode cX11_nearest 31 = .ok (.istore 4, 2) := by decide +kernel
theorem dX11_nearest_33 : decode cX11_nearest 33 = .ok (.bipush (-2), 2) := by decide +kernel
theorem dX11_nearest_35 : decode cX11_nearest 35 = .ok (.istore 5, 2) := by decide +kernel
theorem dX11_nearest_37 : decode cX11_nearest 37 = .ok (.aload_n 0, 1) := by decide +kernel
theorem dX11_nearest_38 : decode cX11_nearest 38 = .ok (.getfield 44, 3) := by decide +kernel
theorem dX11_nearest_41 : decode cX11_nearest 41 = .ok (.invokevirtual 211, 3) := by decide +kernel
theorem dX11_nearest_44 : decode cX11_nearest 44 = .ok (.istore 6, 2) := by decide +kernel
theorem dX11_nearest_46 : decode cX11_nearest 46 = .ok (.iconst 0, 1) := by decide +kernel
theorem dX11_nearest_47 : decode cX11_nearest 47 = .ok (.istore 7, 2) := by decide +kernel
theorem dX11_nearest_49 : decode cX11_nearest 49 = .ok (.iload 7, 2) := by decide +kernel
theorem dX11_nearest_51 : decode cX11_nearest 51 = .ok (.iload 6, 2) := by decide +kernel
theorem dX11_nearest_53 : decode cX11_nearest 53 = .ok (.if_icmp .ge 61, 3) := by decide +kernel
theorem dX11_nearest_56 : decode cX11_nearest 56 = .ok (.aload_n 0, 1) := by decide +kernel
theorem dX11_nearest_57 : decode cX11_nearest 57 = .ok (.getfield 44, 3) := by decide +kernel
theorem dX11_nearest_60 : decode cX11_nearest 60 = .ok (.iload 7, 2) := by decide +kernel
theorem dX11_nearest_62 : decode cX11_nearest 62 = .ok (.invokevirtual 217, 3) := by decide +kernel
theorem dX11_nearest_65 : decode cX11_nearest 65 = .ok (.iload_n 1, 1) := by decide +kernel
theorem dX11_nearest_66 : decode cX11_nearest 66 = .ok (.ixor, 1) := by decide +kernel
theorem dX11_nearest_67 : decode cX11_nearest 67 = .ok (.invokestatic 127, 3) := by decide +kernel
theorem dX11_nearest_70 : decode cX11_nearest 70 = .ok (.istore 8, 2) := by decide +kernel
theorem dX11_nearest_72 : decode cX11_nearest 72 = .ok (.aload_n 0, 1) := by decide +kernel
theorem dX11_nearest_73 : decode cX11_nearest 73 = .ok (.getfield 44, 3) := by decide +kernel
theorem dX11_nearest_76 : decode cX11_nearest 76 = .ok (.iload 7, 2) := by decide +kernel
theorem dX11_nearest_78 : decode cX11_nearest 78 = .ok (.iload_n 2, 1) := by decide +kernel
theorem dX11_nearest_79 : decode cX11_nearest 79 = .ok (.iconst (-1), 1) := by decide +kernel
theorem dX11_nearest_80 : decode cX11_nearest 80 = .ok (.invokevirtual 214, 3) := by decide +kernel
theorem dX11_nearest_83 : decode cX11_nearest 83 = .ok (.ifCond .eq 25, 3) := by decide +kernel
theorem dX11_nearest_86 : decode cX11_nearest 86 = .ok (.iload 8, 2) := by decide +kernel
theorem dX11_nearest_88 : decode cX11_nearest 88 = .ok (.iload 4, 2) := by decide +kernel
theorem dX11_nearest_90 : decode cX11_nearest 90 = .ok (.if_icmp .ge 18, 3) := by decide +kernel
theorem dX11_nearest_93 : decode cX11_nearest 93 = .ok (.iload 8, 2) := by decide +kernel
theorem dX11_nearest_95 : decode cX11_nearest 95 = .ok (.istore 4, 2) := by decide +kernel
theorem dX11_nearest_97 : decode cX11_nearest 97 = .ok (.aload_n 0, 1) := by decide +kernel
theorem dX11_nearest_98 : decode cX11_nearest 98 = .ok (.getfield 44, 3) := by decide +kernel
theorem dX11_nearest_101 : decode cX11_nearest 101 = .ok (.iload 7, 2) := by decide +kernel
theorem dX11_nearest_103 : decode cX11_nearest 103 = .ok (.invokevirtual 217, 3) := by decide +kernel
theorem dX11_nearest_106 : decode cX11_nearest 106 = .ok (.istore 5, 2) := by decide +kernel
theorem dX11_nearest_108 : decode cX11_nearest 108 = .ok (.iinc 7 1, 3) := by decide +kernel
theorem dX11_nearest_111 : decode cX11_nearest 111 = .ok (.goto (-62), 3) := by decide +kernel
theorem dX11_nearest_114 : decode cX11_nearest 114 = .ok (.iload 5, 2) := by decide +kernel
theorem dX11_nearest_116 : decode cX11_nearest 116 = .ok (.bipush (-2), 2) := by decide +kernel
theorem dX11_nearest_118 : decode cX11_nearest 118 = .ok (.if_icmp .eq 8, 3) := by decide +kernel
theorem dX11_nearest_121 : decode cX11_nearest 121 = .ok (.iload_n 3, 1) := by decide +kernel
theorem dX11_nearest_122 : decode cX11_nearest 122 = .ok (.iconst 1, 1) := by decide +kernel
theorem dX11_nearest_123 : decode cX11_nearest 123 = .ok (.if_icmp .ne 8, 3) := by decide +kernel
theorem dX11_nearest_126 : decode cX11_nearest 126 = .ok (.iload 5, 2) := by decide +kernel
theorem dX11_nearest_128 : decode cX11_nearest 128 = .ok (.goto 5, 3) := by decide +kernel
theorem dX11_nearest_131 : decode cX11_nearest 131 = .ok (.iload 4, 2) := by decide +kernel
theorem dX11_nearest_133 : decode cX11_nearest 133 = .ok (.ireturn, 1) := by decide +kernel
def f_X11_nearest_B49b (k49 : Int32 → Int32 → Int32 → Int32 → Int32 → Int32 → Int32 → Wd → Option (Int32 × Wd)) (l1 : Int32) (l2 : Int32) (l3 : Int32) (l4 : Int32) (l5 : Int32) (l6 : Int32) (l7 : Int32) (w : Wd) : Option (Int32 × Wd) :=
  if l6 ≤ l7 then
    if l5 = (-2) then
      some (l5, w)
    else
      if l3 = 1 then
        some (l5, w)
      else
        some (l4, w)
  else
    bnd (f_X3_setAt l7 w) fun x1 =>
    bnd (f_X3_fits l7 l2 (-1) w) fun x2 =>
    if x2 = 0 then
      k49 l1 l2 l3 l4 l5 l6 (l7 + 1) w
    else
      if l4 ≤ (f_J6_bitCount_0f7a4 (x1 ^^^ l1)) then
        k49 l1 l2 l3 l4 l5 l6 (l7 + 1) w
      else
        bnd (f_X3_setAt l7 w) fun x3 =>
        k49 l1 l2 l3 (f_J6_bitCount_0f7a4 (x1 ^^^ l1)) x3 l6 (l7 + 1) w
def f_X11_nearest_L49 (n : Nat) : Int32 → Int32 → Int32 → Int32 → Int32 → Int32 → Int32 → Wd → Option (Int32 × Wd) :=
  Nat.rec (fun _ _ _ _ _ _ _ _ => none) (fun _ k => f_X11_nearest_B49b k) n
set_option maxHeartbeats 4000000 in
set_option maxRecDepth 100000 in
theorem t_X11_nearest_L49 {G : GT} {d : Nat} (hd : 5 ≤ d + 1)  : ∀ (n : Nat) (l1 : Int32) (l2 : Int32) (l3 : Int32) (l4 : Int32) (l5 : Int32) (l6 : Int32) (l7 : Int32) (w : Wd) (r : Int32) (w' : Wd), f_X11_nearest_L49 n l1 l2 l3 l4 l5 l6 l7 w = some (r, w') → U (vf G mX11_nearest (d + 1)) 49 [some (.ref 0), some (.int l1), some (.int l2), some (.int l3), some (.int l4), some (.int l5), some (.int l6), some (.int l7), none] [] w (some (.int r), 70, r0, w') := by
  intro n
  induction n with
  | zero => intro l1 l2 l3 l4 l5 l6 l7 w r w' h; cases h
  | succ n h49 =>
    intro l1 l2 l3 l4 l5 l6 l7 w r w' h
    have h : f_X11_nearest_B49b (f_X11_nearest_L49 n) l1 l2 l3 l4 l5 l6 l7 w = some (r, w') := h
    unfold f_X11_nearest_B49b at h
    refine V.iload (pc := 49) dX11_nearest_49 rfl ?_
    refine V.iload (pc := 51) dX11_nearest_51 rfl ?_
    rcases ite_e h with ⟨c, h⟩ | ⟨c, h⟩
    · refine V.icmp_ge_t (t := 114) (pc := 53) dX11_nearest_53 (by decide) c ?_
      refine V.iload (pc := 114) dX11_nearest_114 rfl ?_
      refine V.bipush (pc := 116) dX11_nearest_116 bp_m2 ?_
      rcases ite_e h with ⟨c, h⟩ | ⟨c, h⟩
      · refine V.icmp_eq_t (t := 126) (pc := 118) dX11_nearest_118 (by decide) c ?_
        refine V.iload (pc := 126) dX11_nearest_126 rfl ?_
        refine V.goto (t := 133) (pc := 128) dX11_nearest_128 (by decide) ?_
        obtain ⟨rfl, rfl⟩ := Prod.mk.inj (Option.some.inj h)
        exact V.iret (pc := 133) dX11_nearest_133 rfl (Nat.le_refl _) (Nat.le_refl _)
      · refine V.icmp_eq_f (t := 126) (pc := 118) dX11_nearest_118 (by decide) c ?_
        refine V.iload_n (pc := 121) dX11_nearest_121 rfl ?_
        refine V.iconst (pc := 122) dX11_nearest_122 ic_1 ?_
        rcases ite_e h with ⟨c, h⟩ | ⟨c, h⟩
        · refine V.icmp_ne_f (t := 131) (pc := 123) dX11_nearest_123 (by decide) c ?_
          refine V.iload (pc := 126) dX11_nearest_126 rfl ?_
          refine V.goto (t := 133) (pc := 128) dX11_nearest_128 (by decide) ?_
          obtain ⟨rfl, rfl⟩ := Prod.mk.inj (Option.some.inj h)
          exact V.iret (pc := 133) dX11_nearest_133 rfl (Nat.le_refl _) (Nat.le_refl _)
        · refine V.icmp_ne_t (t := 131) (pc := 123) dX11_nearest_123 (by decide) c ?_
          refine V.iload (pc := 131) dX11_nearest_131 rfl ?_
          obtain ⟨rfl, rfl⟩ := Prod.mk.inj (Option.some.inj h)
          exact V.iret (pc := 133) dX11_nearest_133 rfl (Nat.le_refl _) (Nat.le_refl _)
    · refine V.icmp_ge_f (t := 114) (pc := 53) dX11_nearest_53 (by decide) c ?_
      refine V.aload_n (pc := 56) dX11_nearest_56 rfl ?_
      refine V.getR (t := 19) (pc := 57) dX11_nearest_57 f_RX11_44 k_cl11 lx_0 ly_0 rb_11_4 rr_0_4 ?_
      refine V.iload (pc := 60) dX11_nearest_60 rfl ?_
      obtain ⟨x1, ex1, h⟩ := bnd_e h
      refine U.callV (pc := 62) (As := [.int l7]) (st := []) dX11_nearest_62 l_RX11_217 (ok_X3_setAt (by omega) l7 ex1) lx_19 ly_19 cn_3 (Nat.le_of_ble_eq_true rfl) rfl rfl (Nat.le_of_ble_eq_true rfl) ?_
      refine V.iload_n (pc := 65) dX11_nearest_65 rfl ?_
      refine V.ixor (pc := 66) dX11_nearest_66 ?_
      refine U.callS (pc := 67) (As := [.int (x1 ^^^ l1)]) (st := []) dX11_nearest_67 l_RX11_127 (ok_J6_bitCount_0f7a4 (by omega) (x1 ^^^ l1) ) (Nat.le_of_ble_eq_true rfl) rfl rfl (Nat.le_of_ble_eq_true rfl) ?_
      refine V.istore (lv' := [some (.ref 0), some (.int l1), some (.int l2), some (.int l3), some (.int l4), some (.int l5), some (.int l6), some (.int l7), some (.int (f_J6_bitCount_0f7a4 (x1 ^^^ l1)))]) (pc := 70) dX11_nearest_70 (Nat.le_of_ble_eq_true rfl) rfl rfl ?_
      refine V.aload_n (pc := 72) dX11_nearest_72 rfl ?_
      refine V.getR (t := 19) (pc := 73) dX11_nearest_73 f_RX11_44 k_cl11 lx_0 ly_0 rb_11_4 rr_0_4 ?_
      refine V.iload (pc := 76) dX11_nearest_76 rfl ?_
      refine V.iload_n (pc := 78) dX11_nearest_78 rfl ?_
      refine V.iconst (pc := 79) dX11_nearest_79 ic_m1 ?_
      obtain ⟨x2, ex2, h⟩ := bnd_e h
      refine U.callV (pc := 80) (As := [.int l7, .int l2, .int (-1)]) (st := []) dX11_nearest_80 l_RX11_214 (ok_X3_fits (by omega) l7 l2 (-1) ex2) lx_19 ly_19 cn_3 (Nat.le_of_ble_eq_true rfl) rfl rfl (Nat.le_of_ble_eq_true rfl) ?_
      rcases ite_e h with ⟨c, h⟩ | ⟨c, h⟩
      · refine V.if_eq_t (t := 108) (pc := 83) dX11_nearest_83 (by decide) c ?_
        refine V.iinc (lv' := [some (.ref 0), some (.int l1), some (.int l2), some (.int l3), some (.int l4), some (.int l5), some (.int l6), some (.int (l7 + 1)), some (.int (f_J6_bitCount_0f7a4 (x1 ^^^ l1)))]) (pc := 108) dX11_nearest_108 (Nat.le_of_ble_eq_true rfl) rfl rfl (v := (l7 + 1)) (by rw [show Int32.ofInt 1 = 1 from by decide]) rfl ?_
        refine V.goto (t := 49) (pc := 111) dX11_nearest_111 (by decide) ?_
        refine V.weak (lv' := [some (.ref 0), some (.int l1), some (.int l2), some (.int l3), some (.int l4), some (.int l5), some (.int l6), some (.int (l7 + 1)), none]) (And.intro rfl (And.intro rfl (And.intro rfl (And.intro rfl (And.intro rfl (And.intro rfl (And.intro rfl (And.intro rfl trivial)))))))) ?_
        exact h49 l1 l2 l3 l4 l5 l6 (l7 + 1) w _ _ h
      · refine V.if_eq_f (t := 108) (pc := 83) dX11_nearest_83 (by decide) c ?_
        refine V.iload (pc := 86) dX11_nearest_86 rfl ?_
        refine V.iload (pc := 88) dX11_nearest_88 rfl ?_
        rcases ite_e h with ⟨c, h⟩ | ⟨c, h⟩
        · refine V.icmp_ge_t (t := 108) (pc := 90) dX11_nearest_90 (by decide) c ?_
          refine V.iinc (lv' := [some (.ref 0), some (.int l1), some (.int l2), some (.int l3), some (.int l4), some (.int l5), some (.int l6), some (.int (l7 + 1)), some (.int (f_J6_bitCount_0f7a4 (x1 ^^^ l1)))]) (pc := 108) dX11_nearest_108 (Nat.le_of_ble_eq_true rfl) rfl rfl (v := (l7 + 1)) (by rw [show Int32.ofInt 1 = 1 from by decide]) rfl ?_
          refine V.goto (t := 49) (pc := 111) dX11_nearest_111 (by decide) ?_
          refine V.weak (lv' := [some (.ref 0), some (.int l1), some (.int l2), some (.int l3), some (.int l4), some (.int l5), some (.int l6), some (.int (l7 + 1)), none]) (And.intro rfl (And.intro rfl (And.intro rfl (And.intro rfl (And.intro rfl (And.intro rfl (And.intro rfl (And.intro rfl trivial)))))))) ?_
          exact h49 l1 l2 l3 l4 l5 l6 (l7 + 1) w _ _ h
        · refine V.icmp_ge_f (t := 108) (pc := 90) dX11_nearest_90 (by decide) c ?_
          refine V.iload (pc := 93) dX11_nearest_93 rfl ?_
          refine V.istore (lv' := [some (.ref 0), some (.int l1), some (.int l2), some (.int l3), some (.int (f_J6_bitCount_0f7a4 (x1 ^^^ l1))), some (.int l5), some (.int l6), some (.int l7), some (.int (f_J6_bitCount_0f7a4 (x1 ^^^ l1)))]) (pc := 95) dX11_nearest_95 (Nat.le_of_ble_eq_true rfl) rfl rfl ?_
          refine V.aload_n (pc := 97) dX11_nearest_97 rfl ?_
          refine V.getR (t := 19) (pc := 98) dX11_nearest_98 f_RX11_44 k_cl11 lx_0 ly_0 rb_11_4 rr_0_4 ?_
          refine V.iload (pc := 101) dX11_nearest_101 rfl ?_
          obtain ⟨x3, ex3, h⟩ := bnd_e h
          refine U.callV (pc := 103) (As := [.int l7]) (st := []) dX11_nearest_103 l_RX11_217 (ok_X3_setAt (by omega) l7 ex3) lx_19 ly_19 cn_3 (Nat.le_of_ble_eq_true rfl) rfl rfl (Nat.le_of_ble_eq_true rfl) ?_
          refine V.istore (lv' := [some (.ref 0), some (.int l1), some (.int l2), some (.int l3), some (.int (f_J6_bitCount_0f7a4 (x1 ^^^ l1))), some (.int x3), some (.int l6), some (.int l7), some (.int (f_J6_bitCount_0f7a4 (x1 ^^^ l1)))]) (pc := 106) dX11_nearest_106 (Nat.le_of_ble_eq_true rfl) rfl rfl ?_
          refine V.iinc (lv' := [some (.ref 0), some (.int l1), some (.int l2), some (.int l3), some (.int (f_J6_bitCount_0f7a4 (x1 ^^^ l1))), some (.int x3), some (.int l6), some (.int (l7 + 1)), some (.int (f_J6_bitCount_0f7a4 (x1 ^^^ l1)))]) (pc := 108) dX11_nearest_108 (Nat.le_of_ble_eq_true rfl) rfl rfl (v := (l7 + 1)) (by rw [show Int32.ofInt 1 = 1 from by decide]) rfl ?_
          refine V.goto (t := 49) (pc := 111) dX11_nearest_111 (by decide) ?_
          refine V.weak (lv' := [some (.ref 0), some (.int l1), some (.int l2), some (.int l3), some (.int (f_J6_bitCount_0f7a4 (x1 ^^^ l1))), some (.int x3), some (.int l6), some (.int (l7 + 1)), none]) (And.intro rfl (And.intro rfl (And.intro rfl (And.intro rfl (And.intro rfl (And.intro rfl (And.intro rfl (And.intro rfl trivial)))))))) ?_
          exact h49 l1 l2 l3 (f_J6_bitCount_0f7a4 (x1 ^^^ l1)) x3 l6 (l7 + 1) w _ _ h
def f_X11_nearest (l1 : Int32) (l2 : Int32) (l3 : Int32) (w : Wd) : Option (Int32 × Wd) :=
  if (f_X4_holdsSet l1 w) = 0 then
    some ((-1), w)
  else
    if (f_X11_isKind l2) = 0 then
      some ((-1), w)
    else
      if l3 < 0 then
        some ((-1), w)
      else
        if l3 ≤ 1 then
          bnd2 (f_X3_total  w) fun x1 w2 =>
          f_X11_nearest_L49  FU l1 l2 l3 17 (-2) x1 0 w2
        else
          some ((-1), w)
set_option maxHeartbeats 4000000 in
set_option maxRecDepth 100000 in
theorem ok_X11_nearest {G : GT} {d : Nat} (hd : 5 ≤ d) {w : Wd} (l1 : Int32) (l2 : Int32) (l3 : Int32) {r : Int32} {w' : Wd} (h : f_X11_nearest l1 l2 l3 w = some (r, w')) : uC G yX11_nearest mX11_nearest d [.ref 0, .int l1, .int l2, .int l3] w (some (.int r)) w' := by
  obtain ⟨d, rfl⟩ : ∃ e, d = e + 1 := ⟨d - 1, by omega⟩
  unfold f_X11_nearest at h
  refine uC_of (lv := [some (.ref 0), some (.int l1), some (.int l2), some (.int l3), none, none, none, none, none]) 5 pn_X11 ⟨rfl, rfl⟩ (Nat.le_of_ble_eq_true rfl) rfl ?_
  refine V.aload_n (pc := 0) dX11_nearest_0 rfl ?_
  refine V.getR (t := 6) (pc := 1) dX11_nearest_1 f_RX11_28 k_cl11 lx_0 ly_0 rb_11_2 rr_0_2 ?_
  refine V.iload_n (pc := 4) dX11_nearest_4 rfl ?_
  refine U.callV (pc := 5) (As := [.int l1]) (st := []) dX11_nearest_5 l_RX11_118 (ok_X4_holdsSet (by omega) l1 ) lx_6 ly_6 cn_4 (Nat.le_of_ble_eq_true rfl) rfl rfl (Nat.le_of_ble_eq_true rfl) ?_
  rcases ite_e h with ⟨c, h⟩ | ⟨c, h⟩
  · refine V.if_eq_t (t := 27) (pc := 8) dX11_nearest_8 (by decide) c ?_
    refine V.iconst (pc := 27) dX11_nearest_27 ic_m1 ?_
    obtain ⟨rfl, rfl⟩ := Prod.mk.inj (Option.some.inj h)
    exact V.iret (pc := 28) dX11_nearest_28 rfl (Nat.le_refl _) (Nat.le_refl _)
  · refine V.if_eq_f (t := 27) (pc := 8) dX11_nearest_8 (by decide) c ?_
    refine V.iload_n (pc := 11) dX11_nearest_11 rfl ?_
    refine U.callS (pc := 12) (As := [.int l2]) (st := []) dX11_nearest_12 l_RX11_192 (ok_X11_isKind (by omega) l2 ) (Nat.le_of_ble_eq_true rfl) rfl rfl (Nat.le_of_ble_eq_true rfl) ?_
    rcases ite_e h with ⟨c, h⟩ | ⟨c, h⟩
    · refine V.if_eq_t (t := 27) (pc := 15) dX11_nearest_15 (by decide) c ?_
      refine V.iconst (pc := 27) dX11_nearest_27 ic_m1 ?_
      obtain ⟨rfl, rfl⟩ := Prod.mk.inj (Option.some.inj h)
      exact V.iret (pc := 28) dX11_nearest_28 rfl (Nat.le_refl _) (Nat.le_refl _)
    · refine V.if_eq_f (t := 27) (pc := 15) dX11_nearest_15 (by decide) c ?_
      refine V.iload_n (pc := 18) dX11_nearest_18 rfl ?_
      rcases ite_e h with ⟨c, h⟩ | ⟨c, h⟩
      · refine V.if_lt_t (t := 27) (pc := 19) dX11_nearest_19 (by decide) c ?_
        refine V.iconst (pc := 27) dX11_nearest_27 ic_m1 ?_
        obtain ⟨rfl, rfl⟩ := Prod.mk.inj (Option.some.inj h)
        exact V.iret (pc := 28) dX11_nearest_28 rfl (Nat.le_refl _) (Nat.le_refl _)
      · refine V.if_lt_f (t := 27) (pc := 19) dX11_nearest_19 (by decide) c ?_
        refine V.iload_n (pc := 22) dX11_nearest_22 rfl ?_
        refine V.iconst (pc := 23) dX11_nearest_23 ic_1 ?_
        rcases ite_e h with ⟨c, h⟩ | ⟨c, h⟩
        · refine V.icmp_le_t (t := 29) (pc := 24) dX11_nearest_24 (by decide) c ?_
          refine V.bipush (pc := 29) dX11_nearest_29 bp_17 ?_
          refine V.istore (lv' := [some (.ref 0), some (.int l1), some (.int l2), some (.int l3), some (.int 17), none, none, none, none]) (pc := 31) dX11_nearest_31 (Nat.le_of_ble_eq_true rfl) rfl rfl ?_
          refine V.bipush (pc := 33) dX11_nearest_33 bp_m2 ?_
          refine V.istore (lv' := [some (.ref 0), some (.int l1), some (.int l2), some (.int l3), some (.int 17), some (.int (-2)), none, none, none]) (pc := 35) dX11_nearest_35 (Nat.le_of_ble_eq_true rfl) rfl rfl ?_
          refine V.aload_n (pc := 37) dX11_nearest_37 rfl ?_
          refine V.getR (t := 19) (pc := 38) dX11_nearest_38 f_RX11_44 k_cl11 lx_0 ly_0 rb_11_4 rr_0_4 ?_
          obtain ⟨x1, w2, ew2, h⟩ := bnd2_e h
          refine U.callV (pc := 41) (As := []) (st := []) dX11_nearest_41 l_RX11_211 (ok_X3_total (by omega)  ew2) lx_19 ly_19 cn_3 (Nat.le_of_ble_eq_true rfl) rfl rfl (Nat.le_of_ble_eq_true rfl) ?_
          refine V.istore (lv' := [some (.ref 0), some (.int l1), some (.int l2), some (.int l3), some (.int 17), some (.int (-2)), some (.int x1), none, none]) (pc := 44) dX11_nearest_44 (Nat.le_of_ble_eq_true rfl) rfl rfl ?_
          refine V.iconst (pc := 46) dX11_nearest_46 ic_0 ?_
          refine V.istore (lv' := [some (.ref 0), some (.int l1), some (.int l2), some (.int l3), some (.int 17), some (.int (-2)), some (.int x1), some (.int 0), none]) (pc := 47) dX11_nearest_47 (Nat.le_of_ble_eq_true rfl) rfl rfl ?_
          exact t_X11_nearest_L49 hd FU l1 l2 l3 17 (-2) x1 0 w2 _ _ h
        · refine V.icmp_le_f (t := 29) (pc := 24) dX11_nearest_24 (by decide) c ?_
          refine V.iconst (pc := 27) dX11_nearest_27 ic_m1 ?_
          obtain ⟨rfl, rfl⟩ := Prod.mk.inj (Option.some.inj h)
          exact V.iret (pc := 28) dX11_nearest_28 rfl (Nat.le_refl _) (Nat.le_refl _)
theorem dX12_nearest_0 : decode cX12_nearest 0 = .ok (.aload_n 0, 1) := by decide +kernel
theorem dX12_nearest_1 : decode cX12_nearest 1 = .ok (.iload_n 1, 1) := by decide +kernel
theorem dX12_nearest_2 : decode cX12_nearest 2 = .ok (.invokevirtual 169, 3) := by decide +kernel
theorem dX12_nearest_5 : decode cX12_nearest 5 = .ok (.ifCond .eq 19, 3) := by decide +kernel
theorem dX12_nearest_8 : decode cX12_nearest 8 = .ok (.iload_n 2, 1) := by decide +kernel
theorem dX12_nearest_9 : decode cX12_nearest 9 = .ok (.invokestatic 197, 3) := by decide +kernel
theorem dX12_nearest_12 : decode cX12_nearest 12 = .ok (.ifCond .eq 12, 3) := by decide +kernel
theorem dX12_nearest_15 : decode cX12_nearest 15 = .ok (.iload_n 3, 1) := by decide +kernel
theorem dX12_nearest_16 : decode cX12_nearest 16 = .ok (.iconst 0, 1) := by decide +kernel
theorem dX12_nearest_17 : decode cX12_nearest 17 = .ok (.iconst 1, 1) := by decide +kernel
theorem dX12_nearest_18 : decode cX12_nearest 18 = .ok (.invokestatic 139, 3) := by decide +kernel
theorem dX12_nearest_21 : decode cX12_nearest 21 = .ok (.ifCond .ne 5, 3) := by decide +kernel
theorem dX12_nearest_24 : decode cX12_nearest 24 = .ok (.iconst (-1), 1) := by decide +kernel
theorem dX12_nearest_25 : decode cX12_nearest 25 = .ok (.ireturn, 1) := by decide +kernel
theorem dX12_nearest_26 : decode cX12_nearest 26 = .ok (.bipush (-2), 2) := by decide +kernel
theorem dX12_nearest_28 : decode cX12_nearest 28 = .ok (.istore 4, 2) := by decide +kernel
theorem dX12_nearest_30 : decode cX12_nearest 30 = .ok (.bipush 17, 2) := by decide +kernel
theorem dX12_nearest_32 : decode cX12_nearest 32 = .ok (.istore 5, 2) := by decide +kernel
theorem dX12_nearest_34 : decode cX12_nearest 34 = .ok (.iconst 0, 1) := by decide +kernel
theorem dX12_nearest_35 : decode cX12_nearest 35 = .ok (.istore 6, 2) := by decide +kernel
theorem dX12_nearest_37 : decode cX12_nearest 37 = .ok (.iload 6, 2) := by decide +kernel
theorem dX12_nearest_39 : decode cX12_nearest 39 = .ok (.aload_n 0, 1) := by decide +kernel
theorem dX12_nearest_40 : decode cX12_nearest 40 = .ok (.invokevirtual 143, 3) := by decide +kernel
theorem dX12_nearest_43 : decode cX12_nearest 43 = .ok (.if_icmp .gt 46, 3) := by decide +kernel
theorem dX12_nearest_46 : decode cX12_nearest 46 = .ok (.iload 6, 2) := by decide +kernel
theorem dX12_nearest_48 : decode cX12_nearest 48 = .ok (.iload_n 1, 1) := by decide +kernel
theorem dX12_nearest_49 : decode cX12_nearest 49 = .ok (.ixor, 1) := by decide +kernel
theorem dX12_nearest_50 : decode cX12_nearest 50 = .ok (.invokestatic 172, 3) := by decide +kernel
theorem dX12_nearest_53 : decode cX12_nearest 53 = .ok (.istore 7, 2) := by decide +kernel
theorem dX12_nearest_55 : decode cX12_nearest 55 = .ok (.iload 7, 2) := by decide +kernel
theorem dX12_nearest_57 : decode cX12_nearest 57 = .ok (.iload 5, 2) := by decide +kernel
theorem dX12_nearest_59 : decode cX12_nearest 59 = .ok (.if_icmp .ge 24, 3) := by decide +kernel
theorem dX12_nearest_62 : decode cX12_nearest 62 = .ok (.aload_n 0, 1) := by decide +kernel
theorem dX12_nearest_63 : decode cX12_nearest 63 = .ok (.iload 6, 2) := by decide +kernel
theorem dX12_nearest_65 : decode cX12_nearest 65 = .ok (.iload_n 2, 1) := by decide +kernel
theorem dX12_nearest_66 : decode cX12_nearest 66 = .ok (.invokevirtual 200, 3) := by decide +kernel
theorem dX12_nearest_69 : decode cX12_nearest 69 = .ok (.ifCond .ne 6, 3) := by decide +kernel
theorem dX12_nearest_72 : decode cX12_nearest 72 = .ok (.goto 11, 3) := by decide +kernel
theorem dX12_nearest_75 : decode cX12_nearest 75 = .ok (.iload 7, 2) := by decide +kernel
theorem dX12_nearest_77 : decode cX12_nearest 77 = .ok (.istore 5, 2) := by decide +kernel
theorem dX12_nearest_79 : decode cX12_nearest 79 = .ok (.iload 6, 2) := by decide +kernel
theorem dX12_nearest_81 : decode cX12_nearest 81 = .ok (.istore 4, 2) := by decide +kernel
theorem dX12_nearest_83 : decode cX12_nearest 83 = .ok (.iinc 6 1, 3) := by decide +kernel
theorem dX12_nearest_86 : decode cX12_nearest 86 = .ok (.goto (-49), 3) := by decide +kernel
theorem dX12_nearest_89 : decode cX12_nearest 89 = .ok (.iload_n 3, 1) := by decide +kernel
theorem dX12_nearest_90 : decode cX12_nearest 90 = .ok (.ifCond .ne 13, 3) := by decide +kernel
theorem dX12_nearest_93 : decode cX12_nearest 93 = .ok (.iload 4, 2) := by decide +kernel
theorem dX12_nearest_95 : decode cX12_nearest 95 = .ok (.ifCond .lt 8, 3) := by decide +kernel
theorem dX12_nearest_98 : decode cX12_nearest 98 = .ok (.iload 5, 2) := by decide +kernel
theorem dX12_nearest_100 : decode cX12_nearest 100 = .ok (.goto 5, 3) := by decide +kernel
theorem dX12_nearest_103 : decode cX12_nearest 103 = .ok (.iload 4, 2) := by decide +kernel
theorem dX12_nearest_105 : decode cX12_nearest 105 = .ok (.ireturn, 1) := by decide +kernel
def f_X12_nearest_B37b (k37 : Int32 → Int32 → Int32 → Int32 → Int32 → Int32 → Wd → Option Int32) (l1 : Int32) (l2 : Int32) (l3 : Int32) (l4 : Int32) (l5 : Int32) (l6 : Int32) (w : Wd) : Option Int32 :=
  if (f_X12_all  w) < l6 then
    if l3 = 0 then
      if l4 < 0 then
        some l4
      else
        some l5
    else
      some l4
  else
    bnd (f_X12_ones (l6 ^^^ l1)) fun x1 =>
    if l5 ≤ x1 then
      k37 l1 l2 l3 l4 l5 (l6 + 1) w
    else
      bnd (f_X12_isOf l6 l2 w) fun x2 =>
      if x2 = 0 then
        k37 l1 l2 l3 l4 l5 (l6 + 1) w
      else
        k37 l1 l2 l3 l6 x1 (l6 + 1) w
def f_X12_nearest_L37 (n : Nat) : Int32 → Int32 → Int32 → Int32 → Int32 → Int32 → Wd → Option Int32 :=
  Nat.rec (fun _ _ _ _ _ _ _ => none) (fun _ k => f_X12_nearest_B37b k) n
set_option maxHeartbeats 4000000 in
set_option maxRecDepth 100000 in
theorem t_X12_nearest_L37 {G : GT} {d : Nat} {w : Wd} (hd : 4 ≤ d + 1)  : ∀ (n : Nat) (l1 : Int32) (l2 : Int32) (l3 : Int32) (l4 : Int32) (l5 : Int32) (l6 : Int32) (r : Int32), f_X12_nearest_L37 n l1 l2 l3 l4 l5 l6 w = some r → U (vf G mX12_nearest (d + 1)) 37 [some (.ref 44), some (.int l1), some (.int l2), some (.int l3), some (.int l4), some (.int l5), some (.int l6), none] [] w (some (.int r), 70, r0, w) := by
  intro n
  induction n with
  | zero => intro l1 l2 l3 l4 l5 l6 r h; cases h
  | succ n h37 =>
    intro l1 l2 l3 l4 l5 l6 r h
    have h : f_X12_nearest_B37b (f_X12_nearest_L37 n) l1 l2 l3 l4 l5 l6 w = some r := h
    unfold f_X12_nearest_B37b at h
    refine V.iload (pc := 37) dX12_nearest_37 rfl ?_
    refine V.aload_n (pc := 39) dX12_nearest_39 rfl ?_
    refine U.callV (pc := 40) (As := []) (st := [.int l6]) dX12_nearest_40 l_RX12_143 (ok_X12_all (by omega)  ) lx_44 ly_44 cn_12 (Nat.le_of_ble_eq_true rfl) rfl rfl (Nat.le_of_ble_eq_true rfl) ?_
    rcases ite_e h with ⟨c, h⟩ | ⟨c, h⟩
    · refine V.icmp_gt_t (t := 89) (pc := 43) dX12_nearest_43 (by decide) c ?_
      refine V.iload_n (pc := 89) dX12_nearest_89 rfl ?_
      rcases ite_e h with ⟨c, h⟩ | ⟨c, h⟩
      · refine V.if_ne_f (t := 103) (pc := 90) dX12_nearest_90 (by decide) c ?_
        refine V.iload (pc := 93) dX12_nearest_93 rfl ?_
        rcases ite_e h with ⟨c, h⟩ | ⟨c, h⟩
        · refine V.if_lt_t (t := 103) (pc := 95) dX12_nearest_95 (by decide) c ?_
          refine V.iload (pc := 103) dX12_nearest_103 rfl ?_
          obtain rfl := Option.some.inj h
          exact V.iret (pc := 105) dX12_nearest_105 rfl (Nat.le_refl _) (Nat.le_refl _)
        · refine V.if_lt_f (t := 103) (pc := 95) dX12_nearest_95 (by decide) c ?_
          refine V.iload (pc := 98) dX12_nearest_98 rfl ?_
          refine V.goto (t := 105) (pc := 100) dX12_nearest_100 (by decide) ?_
          obtain rfl := Option.some.inj h
          exact V.iret (pc := 105) dX12_nearest_105 rfl (Nat.le_refl _) (Nat.le_refl _)
      · refine V.if_ne_t (t := 103) (pc := 90) dX12_nearest_90 (by decide) c ?_
        refine V.iload (pc := 103) dX12_nearest_103 rfl ?_
        obtain rfl := Option.some.inj h
        exact V.iret (pc := 105) dX12_nearest_105 rfl (Nat.le_refl _) (Nat.le_refl _)
    · refine V.icmp_gt_f (t := 89) (pc := 43) dX12_nearest_43 (by decide) c ?_
      refine V.iload (pc := 46) dX12_nearest_46 rfl ?_
      refine V.iload_n (pc := 48) dX12_nearest_48 rfl ?_
      refine V.ixor (pc := 49) dX12_nearest_49 ?_
      obtain ⟨x1, ex1, h⟩ := bnd_e h
      refine U.callS (pc := 50) (As := [.int (l6 ^^^ l1)]) (st := []) dX12_nearest_50 l_RX12_172 (ok_X12_ones (by omega) (l6 ^^^ l1) ex1) (Nat.le_of_ble_eq_true rfl) rfl rfl (Nat.le_of_ble_eq_true rfl) ?_
      refine V.istore (lv' := [some (.ref 44), some (.int l1), some (.int l2), some (.int l3), some (.int l4), some (.int l5), some (.int l6), some (.int x1)]) (pc := 53) dX12_nearest_53 (Nat.le_of_ble_eq_true rfl) rfl rfl ?_
      refine V.iload (pc := 55) dX12_nearest_55 rfl ?_
      refine V.iload (pc := 57) dX12_nearest_57 rfl ?_
      rcases ite_e h with ⟨c, h⟩ | ⟨c, h⟩
      · refine V.icmp_ge_t (t := 83) (pc := 59) dX12_nearest_59 (by decide) c ?_
        refine V.iinc (lv' := [some (.ref 44), some (.int l1), some (.int l2), some (.int l3), some (.int l4), some (.int l5), some (.int (l6 + 1)), some (.int x1)]) (pc := 83) dX12_nearest_83 (Nat.le_of_ble_eq_true rfl) rfl rfl (v := (l6 + 1)) (by rw [show Int32.ofInt 1 = 1 from by decide]) rfl ?_
        refine V.goto (t := 37) (pc := 86) dX12_nearest_86 (by decide) ?_
        refine V.weak (lv' := [some (.ref 44), some (.int l1), some (.int l2), some (.int l3), some (.int l4), some (.int l5), some (.int (l6 + 1)), none]) (And.intro rfl (And.intro rfl (And.intro rfl (And.intro rfl (And.intro rfl (And.intro rfl (And.intro rfl trivial))))))) ?_
        exact h37 l1 l2 l3 l4 l5 (l6 + 1) _ h
      · refine V.icmp_ge_f (t := 83) (pc := 59) dX12_nearest_59 (by decide) c ?_
        refine V.aload_n (pc := 62) dX12_nearest_62 rfl ?_
        refine V.iload (pc := 63) dX12_nearest_63 rfl ?_
        refine V.iload_n (pc := 65) dX12_nearest_65 rfl ?_
        obtain ⟨x2, ex2, h⟩ := bnd_e h
        refine U.callV (pc := 66) (As := [.int l6, .int l2]) (st := []) dX12_nearest_66 l_RX12_200 (ok_X12_isOf (by omega) l6 l2 ex2) lx_44 ly_44 cn_12 (Nat.le_of_ble_eq_true rfl) rfl rfl (Nat.le_of_ble_eq_true rfl) ?_
        rcases ite_e h with ⟨c, h⟩ | ⟨c, h⟩
        · refine V.if_ne_f (t := 75) (pc := 69) dX12_nearest_69 (by decide) c ?_
          refine V.goto (t := 83) (pc := 72) dX12_nearest_72 (by decide) ?_
          refine V.iinc (lv' := [some (.ref 44), some (.int l1), some (.int l2), some (.int l3), some (.int l4), some (.int l5), some (.int (l6 + 1)), some (.int x1)]) (pc := 83) dX12_nearest_83 (Nat.le_of_ble_eq_true rfl) rfl rfl (v := (l6 + 1)) (by rw [show Int32.ofInt 1 = 1 from by decide]) rfl ?_
          refine V.goto (t := 37) (pc := 86) dX12_nearest_86 (by decide) ?_
          refine V.weak (lv' := [some (.ref 44), some (.int l1), some (.int l2), some (.int l3), some (.int l4), some (.int l5), some (.int (l6 + 1)), none]) (And.intro rfl (And.intro rfl (And.intro rfl (And.intro rfl (And.intro rfl (And.intro rfl (And.intro rfl trivial))))))) ?_
          exact h37 l1 l2 l3 l4 l5 (l6 + 1) _ h
        · refine V.if_ne_t (t := 75) (pc := 69) dX12_nearest_69 (by decide) c ?_
          refine V.iload (pc := 75) dX12_nearest_75 rfl ?_
          refine V.istore (lv' := [some (.ref 44), some (.int l1), some (.int l2), some (.int l3), some (.int l4), some (.int x1), some (.int l6), some (.int x1)]) (pc := 77) dX12_nearest_77 (Nat.le_of_ble_eq_true rfl) rfl rfl ?_
          refine V.iload (pc := 79) dX12_nearest_79 rfl ?_
          refine V.istore (lv' := [some (.ref 44), some (.int l1), some (.int l2), some (.int l3), some (.int l6), some (.int x1), some (.int l6), some (.int x1)]) (pc := 81) dX12_nearest_81 (Nat.le_of_ble_eq_true rfl) rfl rfl ?_
          refine V.iinc (lv' := [some (.ref 44), some (.int l1), some (.int l2), some (.int l3), some (.int l6), some (.int x1), some (.int (l6 + 1)), some (.int x1)]) (pc := 83) dX12_nearest_83 (Nat.le_of_ble_eq_true rfl) rfl rfl (v := (l6 + 1)) (by rw [show Int32.ofInt 1 = 1 from by decide]) rfl ?_
          refine V.goto (t := 37) (pc := 86) dX12_nearest_86 (by decide) ?_
          refine V.weak (lv' := [some (.ref 44), some (.int l1), some (.int l2), some (.int l3), some (.int l6), some (.int x1), some (.int (l6 + 1)), none]) (And.intro rfl (And.intro rfl (And.intro rfl (And.intro rfl (And.intro rfl (And.intro rfl (And.intro rfl trivial))))))) ?_
          exact h37 l1 l2 l3 l6 x1 (l6 + 1) _ h
def f_X12_nearest (l1 : Int32) (l2 : Int32) (l3 : Int32) (w : Wd) : Option Int32 :=
  if (f_X12_isSet l1 w) = 0 then
    some (-1)
  else
    if (f_X12_isKind l2) = 0 then
      some (-1)
    else
      if (f_X12_in l3 0 1) = 0 then
        some (-1)
      else
        f_X12_nearest_L37  FU l1 l2 l3 (-2) 17 0 w
set_option maxHeartbeats 4000000 in
set_option maxRecDepth 100000 in
theorem ok_X12_nearest {G : GT} {d : Nat} (hd : 4 ≤ d) {w : Wd} (l1 : Int32) (l2 : Int32) (l3 : Int32) {r : Int32} (h : f_X12_nearest l1 l2 l3 w = some r) : uC G yX12_nearest mX12_nearest d [.ref 44, .int l1, .int l2, .int l3] w (some (.int r)) w := by
  obtain ⟨d, rfl⟩ : ∃ e, d = e + 1 := ⟨d - 1, by omega⟩
  unfold f_X12_nearest at h
  refine uC_of (lv := [some (.ref 44), some (.int l1), some (.int l2), some (.int l3), none, none, none, none]) 4 pn_X12 ⟨rfl, rfl⟩ (Nat.le_of_ble_eq_true rfl) rfl ?_
  refine V.aload_n (pc := 0) dX12_nearest_0 rfl ?_
  refine V.iload_n (pc := 1) dX12_nearest_1 rfl ?_
  refine U.callV (pc := 2) (As := [.int l1]) (st := []) dX12_nearest_2 l_RX12_169 (ok_X12_isSet (by omega) l1 ) lx_44 ly_44 cn_12 (Nat.le_of_ble_eq_true rfl) rfl rfl (Nat.le_of_ble_eq_true rfl) ?_
  rcases ite_e h with ⟨c, h⟩ | ⟨c, h⟩
  · refine V.if_eq_t (t := 24) (pc := 5) dX12_nearest_5 (by decide) c ?_
    refine V.iconst (pc := 24) dX12_nearest_24 ic_m1 ?_
    obtain rfl := Option.some.inj h
    exact V.iret (pc := 25) dX12_nearest_25 rfl (Nat.le_refl _) (Nat.le_refl _)
  · refine V.if_eq_f (t := 24) (pc := 5) dX12_nearest_5 (by decide) c ?_
    refine V.iload_n (pc := 8) dX12_nearest_8 rfl ?_
    refine U.callS (pc := 9) (As := [.int l2]) (st := []) dX12_nearest_9 l_RX12_197 (ok_X12_isKind (by omega) l2 ) (Nat.le_of_ble_eq_true rfl) rfl rfl (Nat.le_of_ble_eq_true rfl) ?_
    rcases ite_e h with ⟨c, h⟩ | ⟨c, h⟩
    · refine V.if_eq_t (t := 24) (pc := 12) dX12_nearest_12 (by decide) c ?_
      refine V.iconst (pc := 24) dX12_nearest_24 ic_m1 ?_
      obtain rfl := Option.some.inj h
      exact V.iret (pc := 25) dX12_nearest_25 rfl (Nat.le_refl _) (Nat.le_refl _)
    · refine V.if_eq_f (t := 24) (pc := 12) dX12_nearest_12 (by decide) c ?_
      refine V.iload_n (pc := 15) dX12_nearest_15 rfl ?_
      refine V.iconst (pc := 16) dX12_nearest_16 ic_0 ?_
      refine V.iconst (pc := 17) dX12_nearest_17 ic_1 ?_
      refine U.callS (pc := 18) (As := [.int l3, .int 0, .int 1]) (st := []) dX12_nearest_18 l_RX12_139 (ok_X12_in (by omega) l3 0 1 ) (Nat.le_of_ble_eq_true rfl) rfl rfl (Nat.le_of_ble_eq_true rfl) ?_
      rcases ite_e h with ⟨c, h⟩ | ⟨c, h⟩
      · refine V.if_ne_f (t := 26) (pc := 21) dX12_nearest_21 (by decide) c ?_
        refine V.iconst (pc := 24) dX12_nearest_24 ic_m1 ?_
        obtain rfl := Option.some.inj h
        exact V.iret (pc := 25) dX12_nearest_25 rfl (Nat.le_refl _) (Nat.le_refl _)
      · refine V.if_ne_t (t := 26) (pc := 21) dX12_nearest_21 (by decide) c ?_
        refine V.bipush (pc := 26) dX12_nearest_26 bp_m2 ?_
        refine V.istore (lv' := [some (.ref 44), some (.int l1), some (.int l2), some (.int l3), some (.int (-2)), none, none, none]) (pc := 28) dX12_nearest_28 (Nat.le_of_ble_eq_true rfl) rfl rfl ?_
        refine V.bipush (pc := 30) dX12_nearest_30 bp_17 ?_
        refine V.istore (lv' := [some (.ref 44), some (.int l1), some (.int l2), some (.int l3), some (.int (-2)), some (.int 17), none, none]) (pc := 32) dX12_nearest_32 (Nat.le_of_ble_eq_true rfl) rfl rfl ?_
        refine V.iconst (pc := 34) dX12_nearest_34 ic_0 ?_
        refine V.istore (lv' := [some (.ref 44), some (.int l1), some (.int l2), some (.int l3), some (.int (-2)), some (.int 17), some (.int 0), none]) (pc := 35) dX12_nearest_35 (Nat.le_of_ble_eq_true rfl) rfl rfl ?_
        exact t_X12_nearest_L37 hd FU l1 l2 l3 (-2) 17 0 _ h
theorem dX0_weightOf_0 : decode cX0_weightOf 0 = .ok (.iconst 0, 1) := by decide +kernel
theorem dX0_weightOf_1 : decode cX0_weightOf 1 = .ok (.istore_n 2, 1) := by decide +kernel
theorem dX0_weightOf_2 : decode cX0_weightOf 2 = .ok (.iconst 0, 1) := by decide +kernel
theorem dX0_weightOf_3 : decode cX0_weightOf 3 = .ok (.istore_n 3, 1) := by decide +kernel
theorem dX0_weightOf_4 : decode cX0_weightOf 4 = .ok (.iload_n 3, 1) := by decide +kernel
theorem dX0_weightOf_5 : decode cX0_weightOf 5 = .ok (.bipush 16, 2) := by decide +kernel
theorem dX0_weightOf_7 : decode cX0_weightOf 7 = .ok (.if_icmp .ge 26, 3) := by decide +kernel
theorem dX0_weightOf_10 : decode cX0_weightOf 10 = .ok (.iload_n 1, 1) := by decide +kernel
theorem dX0_weightOf_11 : decode cX0_weightOf 11 = .ok (.iload_n 3, 1) := by decide +kernel
theorem dX0_weightOf_12 : decode cX0_weightOf 12 = .ok (.ishr, 1) := by decide +kernel
theorem dX0_weightOf_13 : decode cX0_weightOf 13 = .ok (.iconst 1, 1) := by decide +kernel
theorem dX0_weightOf_14 : decode cX0_weightOf 14 = .ok (.iand, 1) := by decide +kernel
theorem dX0_weightOf_15 : decode cX0_weightOf 15 = .ok (.ifCond .eq 12, 3) := by decide +kernel
theorem dX0_weightOf_18 : decode cX0_weightOf 18 = .ok (.iload_n 2, 1) := by decide +kernel
theorem dX0_weightOf_19 : decode cX0_weightOf 19 = .ok (.aload_n 0, 1) := by decide +kernel
theorem dX0_weightOf_20 : decode cX0_weightOf 20 = .ok (.getfield 11, 3) := by decide +kernel
theorem dX0_weightOf_23 : decode cX0_weightOf 23 = .ok (.iload_n 3, 1) := by decide +kernel
theorem dX0_weightOf_24 : decode cX0_weightOf 24 = .ok (.iaload, 1) := by decide +kernel
theorem dX0_weightOf_25 : decode cX0_weightOf 25 = .ok (.iadd, 1) := by decide +kernel
theorem dX0_weightOf_26 : decode cX0_weightOf 26 = .ok (.istore_n 2, 1) := by decide +kernel
theorem dX0_weightOf_27 : decode cX0_weightOf 27 = .ok (.iinc 3 1, 3) := by decide +kernel
theorem dX0_weightOf_30 : decode cX0_weightOf 30 = .ok (.goto (-26), 3) := by decide +kernel
theorem dX0_weightOf_33 : decode cX0_weightOf 33 = .ok (.iload_n 2, 1) := by decide +kernel
theorem dX0_weightOf_34 : decode cX0_weightOf 34 = .ok (.ireturn, 1) := by decide +kernel
def f_X0_weightOf_B4b (k4 : Int32 → Int32 → Int32 → Wd → Option Int32) (l1 : Int32) (l2 : Int32) (l3 : Int32) (w : Wd) : Option Int32 :=
  if 16 ≤ l3 then
    some l2
  else
    if ((l1 >>> (l3 &&& 31)) &&& 1) = 0 then
      k4 l1 l2 (l3 + 1) w
    else
      rdI w 38 20 l3 fun x1 =>
      k4 l1 (l2 + x1) (l3 + 1) w
def f_X0_weightOf_L4 (n : Nat) : Int32 → Int32 → Int32 → Wd → Option Int32 :=
  Nat.rec (fun _ _ _ _ => none) (fun _ k => f_X0_weightOf_B4b k) n
set_option maxHeartbeats 4000000 in
set_option maxRecDepth 100000 in
theorem t_X0_weightOf_L4 {G : GT} {d : Nat} {w : Wd} (hd : 0 ≤ d)  : ∀ (n : Nat) (l1 : Int32) (l2 : Int32) (l3 : Int32) (r : Int32), f_X0_weightOf_L4 n l1 l2 l3 w = some r → U (vf G mX0_weightOf d) 4 [some (.ref 37), some (.int l1), some (.int l2), some (.int l3)] [] w (some (.int r), 70, r0, w) := by
  intro n
  induction n with
  | zero => intro l1 l2 l3 r h; cases h
  | succ n h4 =>
    intro l1 l2 l3 r h
    have h : f_X0_weightOf_B4b (f_X0_weightOf_L4 n) l1 l2 l3 w = some r := h
    unfold f_X0_weightOf_B4b at h
    refine V.iload_n (pc := 4) dX0_weightOf_4 rfl ?_
    refine V.bipush (pc := 5) dX0_weightOf_5 bp_16 ?_
    rcases ite_e h with ⟨c, h⟩ | ⟨c, h⟩
    · refine V.icmp_ge_t (t := 33) (pc := 7) dX0_weightOf_7 (by decide) c ?_
      refine V.iload_n (pc := 33) dX0_weightOf_33 rfl ?_
      obtain rfl := Option.some.inj h
      exact V.iret (pc := 34) dX0_weightOf_34 rfl (Nat.le_refl _) (Nat.le_refl _)
    · refine V.icmp_ge_f (t := 33) (pc := 7) dX0_weightOf_7 (by decide) c ?_
      refine V.iload_n (pc := 10) dX0_weightOf_10 rfl ?_
      refine V.iload_n (pc := 11) dX0_weightOf_11 rfl ?_
      refine V.ishr (pc := 12) dX0_weightOf_12 ?_
      refine V.iconst (pc := 13) dX0_weightOf_13 ic_1 ?_
      refine V.iand (pc := 14) dX0_weightOf_14 ?_
      rcases ite_e h with ⟨c, h⟩ | ⟨c, h⟩
      · refine V.if_eq_t (t := 27) (pc := 15) dX0_weightOf_15 (by decide) c ?_
        refine V.iinc (lv' := [some (.ref 37), some (.int l1), some (.int l2), some (.int (l3 + 1))]) (pc := 27) dX0_weightOf_27 (Nat.le_of_ble_eq_true rfl) rfl rfl (v := (l3 + 1)) (by rw [show Int32.ofInt 1 = 1 from by decide]) rfl ?_
        refine V.goto (t := 4) (pc := 30) dX0_weightOf_30 (by decide) ?_
        exact h4 l1 l2 (l3 + 1) _ h
      · refine V.if_eq_f (t := 27) (pc := 15) dX0_weightOf_15 (by decide) c ?_
        refine V.iload_n (pc := 18) dX0_weightOf_18 rfl ?_
        refine V.aload_n (pc := 19) dX0_weightOf_19 rfl ?_
        refine V.getR (t := 38) (pc := 20) dX0_weightOf_20 f_RX0_11 k_cl0 lx_37 ly_37 rb_0_0 rr_37_0 ?_
        refine V.iload_n (pc := 23) dX0_weightOf_23 rfl ?_
        obtain ⟨x1, ix1, ex1, h⟩ := rdI_e h
        refine V.ialdX (pc := 24) dX0_weightOf_24 lx_38 ly_38 ix1 ex1 ?_
        refine V.iadd (pc := 25) dX0_weightOf_25 ?_
        refine V.istore_n (lv' := [some (.ref 37), some (.int l1), some (.int (l2 + x1)), some (.int l3)]) (pc := 26) dX0_weightOf_26 (Nat.le_of_ble_eq_true rfl) rfl rfl ?_
        refine V.iinc (lv' := [some (.ref 37), some (.int l1), some (.int (l2 + x1)), some (.int (l3 + 1))]) (pc := 27) dX0_weightOf_27 (Nat.le_of_ble_eq_true rfl) rfl rfl (v := (l3 + 1)) (by rw [show Int32.ofInt 1 = 1 from by decide]) rfl ?_
        refine V.goto (t := 4) (pc := 30) dX0_weightOf_30 (by decide) ?_
        exact h4 l1 (l2 + x1) (l3 + 1) _ h
def f_X0_weightOf (l1 : Int32) (w : Wd) : Option Int32 :=
  f_X0_weightOf_L4  FU l1 0 0 w
set_option maxHeartbeats 4000000 in
set_option maxRecDepth 100000 in
theorem ok_X0_weightOf {G : GT} {d : Nat} (hd : 0 ≤ d) {w : Wd} (l1 : Int32) {r : Int32} (h : f_X0_weightOf l1 w = some r) : uC G yX0_weightOf mX0_weightOf d [.ref 37, .int l1] w (some (.int r)) w := by
  unfold f_X0_weightOf at h
  refine uC_of (lv := [some (.ref 37), some (.int l1), none, none]) 2 pn_X0 ⟨rfl, rfl⟩ (Nat.le_of_ble_eq_true rfl) rfl ?_
  refine V.iconst (pc := 0) dX0_weightOf_0 ic_0 ?_
  refine V.istore_n (lv' := [some (.ref 37), some (.int l1), some (.int 0), none]) (pc := 1) dX0_weightOf_1 (Nat.le_of_ble_eq_true rfl) rfl rfl ?_
  refine V.iconst (pc := 2) dX0_weightOf_2 ic_0 ?_
  refine V.istore_n (lv' := [some (.ref 37), some (.int l1), some (.int 0), some (.int 0)]) (pc := 3) dX0_weightOf_3 (Nat.le_of_ble_eq_true rfl) rfl rfl ?_
  exact t_X0_weightOf_L4 hd FU l1 0 0 _ h
theorem dX11_best_0 : decode cX11_best 0 = .ok (.iload_n 1, 1) := by decide +kernel
theorem dX11_best_1 : decode cX11_best 1 = .ok (.ifCond .lt 8, 3) := by decide +kernel
theorem dX11_best_4 : decode cX11_best 4 = .ok (.iload_n 1, 1) := by decide +kernel
theorem dX11_best_5 : decode cX11_best 5 = .ok (.iconst 1, 1) := by decide +kernel
theorem dX11_best_6 : decode cX11_best 6 = .ok (.if_icmp .le 5, 3) := by decide +kernel
theorem dX11_best_9 : decode cX11_best 9 = .ok (.iconst (-1), 1) := by decide +kernel
theorem dX11_best_10 : decode cX11_best 10 = .ok (.ireturn, 1) := by decide +kernel
theorem dX11_best_11 : decode cX11_best 11 = .ok (.iconst (-1), 1) := by decide +kernel
theorem dX11_best_12 : decode cX11_best 12 = .ok (.istore_n 2, 1) := by decide +kernel
theorem dX11_best_13 : decode cX11_best 13 = .ok (.iconst 0, 1) := by decide +kernel
theorem dX11_best_14 : decode cX11_best 14 = .ok (.istore_n 3, 1) := by decide +kernel
theorem dX11_best_15 : decode cX11_best 15 = .ok (.aload_n 0, 1) := by decide +kernel
theorem dX11_best_16 : decode cX11_best 16 = .ok (.getfield 44, 3) := by decide +kernel
theorem dX11_best_19 : decode cX11_best 19 = .ok (.invokevirtual 211, 3) := by decide +kernel
theorem dX11_best_22 : decode cX11_best 22 = .ok (.istore 4, 2) := by decide +kernel
theorem dX11_best_24 : decode cX11_best 24 = .ok (.iconst 0, 1) := by decide +kernel
theorem dX11_best_25 : decode cX11_best 25 = .ok (.istore 5, 2) := by decide +kernel
theorem dX11_best_27 : decode cX11_best 27 = .ok (.iload 5, 2) := by decide +kernel
theorem dX11_best_29 : decode cX11_best 29 = .ok (.iload 4, 2) := by decide +kernel
theorem dX11_best_31 : decode cX11_best 31 = .ok (.if_icmp .ge 46, 3) := by decide +kernel
theorem dX11_best_34 : decode cX11_best 34 = .ok (.aload_n 0, 1) := by decide +kernel
theorem dX11_best_35 : decode cX11_best 35 = .ok (.getfield 74, 3) := by decide +kernel
theorem dX11_best_38 : decode cX11_best 38 = .ok (.aload_n 0, 1) := by decide +kernel
theorem dX11_best_39 : decode cX11_best 39 = .ok (.getfield 44, 3) := by decide +kernel
theorem dX11_best_42 : decode cX11_best 42 = .ok (.iload 5, 2) := by decide +kernel
theorem dX11_best_44 : decode cX11_best 44 = .ok (.invokevirtual 217, 3) := by decide +kernel
theorem dX11_best_47 : decode cX11_best 47 = .ok (.invokevirtual 225, 3) := by decide +kernel
theorem dX11_best_50 : decode cX11_best 50 = .ok (.istore 6, 2) := by decide +kernel
theorem dX11_best_52 : decode cX11_best 52 = .ok (.iload 6, 2) := by decide +kernel
theorem dX11_best_54 : decode cX11_best 54 = .ok (.iload_n 2, 1) := by decide +kernel
theorem dX11_best_55 : decode cX11_best 55 = .ok (.if_icmp .le 16, 3) := by decide +kernel
theorem dX11_best_58 : decode cX11_best 58 = .ok (.iload 6, 2) := by decide +kernel
theorem dX11_best_60 : decode cX11_best 60 = .ok (.istore_n 2, 1) := by decide +kernel
theorem dX11_best_61 : decode cX11_best 61 = .ok (.aload_n 0, 1) := by decide +kernel
theorem dX11_best_62 : decode cX11_best 62 = .ok (.getfield 44, 3) := by decide +kernel
theorem dX11_best_65 : decode cX11_best 65 = .ok (.iload 5, 2) := by decide +kernel
theorem dX11_best_67 : decode cX11_best 67 = .ok (.invokevirtual 217, 3) := by decide +kernel
theorem dX11_best_70 : decode cX11_best 70 = .ok (.istore_n 3, 1) := by decide +kernel
theorem dX11_best_71 : decode cX11_best 71 = .ok (.iinc 5 1, 3) := by decide +kernel
theorem dX11_best_74 : decode cX11_best 74 = .ok (.goto (-47), 3) := by decide +kernel
theorem dX11_best_77 : decode cX11_best 77 = .ok (.iload_n 1, 1) := by decide +kernel
theorem dX11_best_78 : decode cX11_best 78 = .ok (.ifCond .ne 7, 3) := by decide +kernel
theorem dX11_best_81 : decode cX11_best 81 = .ok (.iload_n 2, 1) := by decide +kernel
theorem dX11_best_82 : decode cX11_best 82 = .ok (.goto 4, 3) := by decide +kernel
theorem dX11_best_85 : decode cX11_best 85 = .ok (.iload_n 3, 1) := by decide +kernel
theorem dX11_best_86 : decode cX11_best 86 = .ok (.ireturn, 1) := by decide +kernel
def f_X11_best_B27b (k27 : Int32 → Int32 → Int32 → Int32 → Int32 → Wd → Option (Int32 × Wd)) (l1 : Int32) (l2 : Int32) (l3 : Int32) (l4 : Int32) (l5 : Int32) (w : Wd) : Option (Int32 × Wd) :=
  if l4 ≤ l5 then
    if l1 = 0 then
      some (l2, w)
    else
      some (l3, w)
  else
    bnd (f_X3_setAt l5 w) fun x1 =>
    bnd (f_X0_weightOf x1 w) fun x2 =>
    if x2 ≤ l2 then
      k27 l1 l2 l3 l4 (l5 + 1) w
    else
      bnd (f_X3_setAt l5 w) fun x3 =>
      k27 l1 x2 x3 l4 (l5 + 1) w
def f_X11_best_L27 (n : Nat) : Int32 → Int32 → Int32 → Int32 → Int32 → Wd → Option (Int32 × Wd) :=
  Nat.rec (fun _ _ _ _ _ _ => none) (fun _ k => f_X11_best_B27b k) n
set_option maxHeartbeats 4000000 in
set_option maxRecDepth 100000 in
theorem t_X11_best_L27 {G : GT} {d : Nat} (hd : 5 ≤ d + 1)  : ∀ (n : Nat) (l1 : Int32) (l2 : Int32) (l3 : Int32) (l4 : Int32) (l5 : Int32) (w : Wd) (r : Int32) (w' : Wd), f_X11_best_L27 n l1 l2 l3 l4 l5 w = some (r, w') → U (vf G mX11_best (d + 1)) 27 [some (.ref 0), some (.int l1), some (.int l2), some (.int l3), some (.int l4), some (.int l5), none] [] w (some (.int r), 70, r0, w') := by
  intro n
  induction n with
  | zero => intro l1 l2 l3 l4 l5 w r w' h; cases h
  | succ n h27 =>
    intro l1 l2 l3 l4 l5 w r w' h
    have h : f_X11_best_B27b (f_X11_best_L27 n) l1 l2 l3 l4 l5 w = some (r, w') := h
    unfold f_X11_best_B27b at h
    refine V.iload (pc := 27) dX11_best_27 rfl ?_
    refine V.iload (pc := 29) dX11_best_29 rfl ?_
    rcases ite_e h with ⟨c, h⟩ | ⟨c, h⟩
    · refine V.icmp_ge_t (t := 77) (pc := 31) dX11_best_31 (by decide) c ?_
      refine V.iload_n (pc := 77) dX11_best_77 rfl ?_
      rcases ite_e h with ⟨c, h⟩ | ⟨c, h⟩
      · refine V.if_ne_f (t := 85) (pc := 78) dX11_best_78 (by decide) c ?_
        refine V.iload_n (pc := 81) dX11_best_81 rfl ?_
        refine V.goto (t := 86) (pc := 82) dX11_best_82 (by decide) ?_
        obtain ⟨rfl, rfl⟩ := Prod.mk.inj (Option.some.inj h)
        exact V.iret (pc := 86) dX11_best_86 rfl (Nat.le_refl _) (Nat.le_refl _)
      · refine V.if_ne_t (t := 85) (pc := 78) dX11_best_78 (by decide) c ?_
        refine V.iload_n (pc := 85) dX11_best_85 rfl ?_
        obtain ⟨rfl, rfl⟩ := Prod.mk.inj (Option.some.inj h)
        exact V.iret (pc := 86) dX11_best_86 rfl (Nat.le_refl _) (Nat.le_refl _)
    · refine V.icmp_ge_f (t := 77) (pc := 31) dX11_best_31 (by decide) c ?_
      refine V.aload_n (pc := 34) dX11_best_34 rfl ?_
      refine V.getR (t := 37) (pc := 35) dX11_best_35 f_RX11_74 k_cl11 lx_0 ly_0 rb_11_8 rr_0_8 ?_
      refine V.aload_n (pc := 38) dX11_best_38 rfl ?_
      refine V.getR (t := 19) (pc := 39) dX11_best_39 f_RX11_44 k_cl11 lx_0 ly_0 rb_11_4 rr_0_4 ?_
      refine V.iload (pc := 42) dX11_best_42 rfl ?_
      obtain ⟨x1, ex1, h⟩ := bnd_e h
      refine U.callV (pc := 44) (As := [.int l5]) (st := [.ref 37]) dX11_best_44 l_RX11_217 (ok_X3_setAt (by omega) l5 ex1) lx_19 ly_19 cn_3 (Nat.le_of_ble_eq_true rfl) rfl rfl (Nat.le_of_ble_eq_true rfl) ?_
      obtain ⟨x2, ex2, h⟩ := bnd_e h
      refine U.callV (pc := 47) (As := [.int x1]) (st := []) dX11_best_47 l_RX11_225 (ok_X0_weightOf (by omega) x1 ex2) lx_37 ly_37 cn_0 (Nat.le_of_ble_eq_true rfl) rfl rfl (Nat.le_of_ble_eq_true rfl) ?_
      refine V.istore (lv' := [some (.ref 0), some (.int l1), some (.int l2), some (.int l3), some (.int l4), some (.int l5), some (.int x2)]) (pc := 50) dX11_best_50 (Nat.le_of_ble_eq_true rfl) rfl rfl ?_
      refine V.iload (pc := 52) dX11_best_52 rfl ?_
      refine V.iload_n (pc := 54) dX11_best_54 rfl ?_
      rcases ite_e h with ⟨c, h⟩ | ⟨c, h⟩
      · refine V.icmp_le_t (t := 71) (pc := 55) dX11_best_55 (by decide) c ?_
        refine V.iinc (lv' := [some (.ref 0), some (.int l1), some (.int l2), some (.int l3), some (.int l4), some (.int (l5 + 1)), some (.int x2)]) (pc := 71) dX11_best_71 (Nat.le_of_ble_eq_true rfl) rfl rfl (v := (l5 + 1)) (by rw [show Int32.ofInt 1 = 1 from by decide]) rfl ?_
        refine V.goto (t := 27) (pc := 74) dX11_best_74 (by decide) ?_
        refine V.weak (lv' := [some (.ref 0), some (.int l1), some (.int l2), some (.int l3), some (.int l4), some (.int (l5 + 1)), none]) (And.intro rfl (And.intro rfl (And.intro rfl (And.intro rfl (And.intro rfl (And.intro rfl trivial)))))) ?_
        exact h27 l1 l2 l3 l4 (l5 + 1) w _ _ h
      · refine V.icmp_le_f (t := 71) (pc := 55) dX11_best_55 (by decide) c ?_
        refine V.iload (pc := 58) dX11_best_58 rfl ?_
        refine V.istore_n (lv' := [some (.ref 0), some (.int l1), some (.int x2), some (.int l3), some (.int l4), some (.int l5), some (.int x2)]) (pc := 60) dX11_best_60 (Nat.le_of_ble_eq_true rfl) rfl rfl ?_
        refine V.aload_n (pc := 61) dX11_best_61 rfl ?_
        refine V.getR (t := 19) (pc := 62) dX11_best_62 f_RX11_44 k_cl11 lx_0 ly_0 rb_11_4 rr_0_4 ?_
        refine V.iload (pc := 65) dX11_best_65 rfl ?_
        obtain ⟨x3, ex3, h⟩ := bnd_e h
        refine U.callV (pc := 67) (As := [.int l5]) (st := []) dX11_best_67 l_RX11_217 (ok_X3_setAt (by omega) l5 ex3) lx_19 ly_19 cn_3 (Nat.le_of_ble_eq_true rfl) rfl rfl (Nat.le_of_ble_eq_true rfl) ?_
        refine V.istore_n (lv' := [some (.ref 0), some (.int l1), some (.int x2), some (.int x3), some (.int l4), some (.int l5), some (.int x2)]) (pc := 70) dX11_best_70 (Nat.le_of_ble_eq_true rfl) rfl rfl ?_
        refine V.iinc (lv' := [some (.ref 0), some (.int l1), some (.int x2), some (.int x3), some (.int l4), some (.int (l5 + 1)), some (.int x2)]) (pc := 71) dX11_best_71 (Nat.le_of_ble_eq_true rfl) rfl rfl (v := (l5 + 1)) (by rw [show Int32.ofInt 1 = 1 from by decide]) rfl ?_
        refine V.goto (t := 27) (pc := 74) dX11_best_74 (by decide) ?_
        refine V.weak (lv' := [some (.ref 0), some (.int l1), some (.int x2), some (.int x3), some (.int l4), some (.int (l5 + 1)), none]) (And.intro rfl (And.intro rfl (And.intro rfl (And.intro rfl (And.intro rfl (And.intro rfl trivial)))))) ?_
        exact h27 l1 x2 x3 l4 (l5 + 1) w _ _ h
def f_X11_best (l1 : Int32) (w : Wd) : Option (Int32 × Wd) :=
  if l1 < 0 then
    some ((-1), w)
  else
    if l1 ≤ 1 then
      bnd2 (f_X3_total  w) fun x1 w2 =>
      f_X11_best_L27  FU l1 (-1) 0 x1 0 w2
    else
      some ((-1), w)
set_option maxHeartbeats 4000000 in
set_option maxRecDepth 100000 in
theorem ok_X11_best {G : GT} {d : Nat} (hd : 5 ≤ d) {w : Wd} (l1 : Int32) {r : Int32} {w' : Wd} (h : f_X11_best l1 w = some (r, w')) : uC G yX11_best mX11_best d [.ref 0, .int l1] w (some (.int r)) w' := by
  obtain ⟨d, rfl⟩ : ∃ e, d = e + 1 := ⟨d - 1, by omega⟩
  unfold f_X11_best at h
  refine uC_of (lv := [some (.ref 0), some (.int l1), none, none, none, none, none]) 5 pn_X11 ⟨rfl, rfl⟩ (Nat.le_of_ble_eq_true rfl) rfl ?_
  refine V.iload_n (pc := 0) dX11_best_0 rfl ?_
  rcases ite_e h with ⟨c, h⟩ | ⟨c, h⟩
  · refine V.if_lt_t (t := 9) (pc := 1) dX11_best_1 (by decide) c ?_
    refine V.iconst (pc := 9) dX11_best_9 ic_m1 ?_
    obtain ⟨rfl, rfl⟩ := Prod.mk.inj (Option.some.inj h)
    exact V.iret (pc := 10) dX11_best_10 rfl (Nat.le_refl _) (Nat.le_refl _)
  · refine V.if_lt_f (t := 9) (pc := 1) dX11_best_1 (by decide) c ?_
    refine V.iload_n (pc := 4) dX11_best_4 rfl ?_
    refine V.iconst (pc := 5) dX11_best_5 ic_1 ?_
    rcases ite_e h with ⟨c, h⟩ | ⟨c, h⟩
    · refine V.icmp_le_t (t := 11) (pc := 6) dX11_best_6 (by decide) c ?_
      refine V.iconst (pc := 11) dX11_best_11 ic_m1 ?_
      refine V.istore_n (lv' := [some (.ref 0), some (.int l1), some (.int (-1)), none, none, none, none]) (pc := 12) dX11_best_12 (Nat.le_of_ble_eq_true rfl) rfl rfl ?_
      refine V.iconst (pc := 13) dX11_best_13 ic_0 ?_
      refine V.istore_n (lv' := [some (.ref 0), some (.int l1), some (.int (-1)), some (.int 0), none, none, none]) (pc := 14) dX11_best_14 (Nat.le_of_ble_eq_true rfl) rfl rfl ?_
      refine V.aload_n (pc := 15) dX11_best_15 rfl ?_
      refine V.getR (t := 19) (pc := 16) dX11_best_16 f_RX11_44 k_cl11 lx_0 ly_0 rb_11_4 rr_0_4 ?_
      obtain ⟨x1, w2, ew2, h⟩ := bnd2_e h
      refine U.callV (pc := 19) (As := []) (st := []) dX11_best_19 l_RX11_211 (ok_X3_total (by omega)  ew2) lx_19 ly_19 cn_3 (Nat.le_of_ble_eq_true rfl) rfl rfl (Nat.le_of_ble_eq_true rfl) ?_
      refine V.istore (lv' := [some (.ref 0), some (.int l1), some (.int (-1)), some (.int 0), some (.int x1), none, none]) (pc := 22) dX11_best_22 (Nat.le_of_ble_eq_true rfl) rfl rfl ?_
      refine V.iconst (pc := 24) dX11_best_24 ic_0 ?_
      refine V.istore (lv' := [some (.ref 0), some (.int l1), some (.int (-1)), some (.int 0), some (.int x1), some (.int 0), none]) (pc := 25) dX11_best_25 (Nat.le_of_ble_eq_true rfl) rfl rfl ?_
      exact t_X11_best_L27 hd FU l1 (-1) 0 x1 0 w2 _ _ h
    · refine V.icmp_le_f (t := 11) (pc := 6) dX11_best_6 (by decide) c ?_
      refine V.iconst (pc := 9) dX11_best_9 ic_m1 ?_
      obtain ⟨rfl, rfl⟩ := Prod.mk.inj (Option.some.inj h)
      exact V.iret (pc := 10) dX11_best_10 rfl (Nat.le_refl _) (Nat.le_refl _)
