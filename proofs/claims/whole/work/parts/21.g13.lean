theorem dX12_turns_0 : decode cX12_turns 0 = .ok (.aload_n 0, 1) := by decide +kernel
theorem dX12_turns_1 : decode cX12_turns 1 = .ok (.invokevirtual 224, 3) := by decide +kernel
theorem dX12_turns_4 : decode cX12_turns 4 = .ok (.iconst 0, 1) := by decide +kernel
theorem dX12_turns_5 : decode cX12_turns 5 = .ok (.istore_n 1, 1) := by decide +kernel
theorem dX12_turns_6 : decode cX12_turns 6 = .ok (.iconst 1, 1) := by decide +kernel
theorem dX12_turns_7 : decode cX12_turns 7 = .ok (.istore_n 2, 1) := by decide +kernel
theorem dX12_turns_8 : decode cX12_turns 8 = .ok (.iload_n 2, 1) := by decide +kernel
theorem dX12_turns_9 : decode cX12_turns 9 = .ok (.ifCond .eq 25, 3) := by decide +kernel
theorem dX12_turns_12 : decode cX12_turns 12 = .ok (.aload_n 0, 1) := by decide +kernel
theorem dX12_turns_13 : decode cX12_turns 13 = .ok (.invokevirtual 227, 3) := by decide +kernel
theorem dX12_turns_16 : decode cX12_turns 16 = .ok (.ifCond .eq 6, 3) := by decide +kernel
theorem dX12_turns_19 : decode cX12_turns 19 = .ok (.iinc 1 1, 3) := by decide +kernel
theorem dX12_turns_22 : decode cX12_turns 22 = .ok (.aload_n 0, 1) := by decide +kernel
theorem dX12_turns_23 : decode cX12_turns 23 = .ok (.aload_n 0, 1) := by decide +kernel
theorem dX12_turns_24 : decode cX12_turns 24 = .ok (.getfield 92, 3) := by decide +kernel
theorem dX12_turns_27 : decode cX12_turns 27 = .ok (.invokevirtual 231, 3) := by decide +kernel
theorem dX12_turns_30 : decode cX12_turns 30 = .ok (.istore_n 2, 1) := by decide +kernel
theorem dX12_turns_31 : decode cX12_turns 31 = .ok (.goto (-23), 3) := by decide +kernel
theorem dX12_turns_34 : decode cX12_turns 34 = .ok (.iload_n 1, 1) := by decide +kernel
theorem dX12_turns_35 : decode cX12_turns 35 = .ok (.ireturn, 1) := by decide +kernel
def f_X12_turns_B8b (k8 : Int32 → Int32 → Wd → Option (Int32 × Wd)) (l1 : Int32) (l2 : Int32) (w : Wd) : Option (Int32 × Wd) :=
  if l2 = 0 then
    some (l1, w)
  else
    bnd2 (f_X12_isTurn  w) fun x1 w2 =>
    if x1 = 0 then
      bnd2 (f_X12_isNext (w2.1 44 1) w2) fun x3 w4 =>
      k8 l1 x3 w4
    else
      bnd2 (f_X12_isNext (w2.1 44 1) w2) fun x5 w6 =>
      k8 (l1 + 1) x5 w6
def f_X12_turns_L8 (n : Nat) : Int32 → Int32 → Wd → Option (Int32 × Wd) :=
  Nat.rec (fun _ _ _ => none) (fun _ k => f_X12_turns_B8b k) n
set_option maxHeartbeats 4000000 in
set_option maxRecDepth 100000 in
theorem t_X12_turns_L8 {G : GT} {d : Nat} (hd : 2 ≤ d + 1)  : ∀ (n : Nat) (l1 : Int32) (l2 : Int32) (w : Wd) (r : Int32) (w' : Wd), f_X12_turns_L8 n l1 l2 w = some (r, w') → U (vf G mX12_turns (d + 1)) 8 [some (.ref 44), some (.int l1), some (.int l2)] [] w (some (.int r), 70, r0, w') := by
  intro n
  induction n with
  | zero => intro l1 l2 w r w' h; cases h
  | succ n h8 =>
    intro l1 l2 w r w' h
    have h : f_X12_turns_B8b (f_X12_turns_L8 n) l1 l2 w = some (r, w') := h
    unfold f_X12_turns_B8b at h
    refine V.iload_n (pc := 8) dX12_turns_8 rfl ?_
    rcases ite_e h with ⟨c, h⟩ | ⟨c, h⟩
    · refine V.if_eq_t (t := 34) (pc := 9) dX12_turns_9 (by decide) c ?_
      refine V.iload_n (pc := 34) dX12_turns_34 rfl ?_
      obtain ⟨rfl, rfl⟩ := Prod.mk.inj (Option.some.inj h)
      exact V.iret (pc := 35) dX12_turns_35 rfl (Nat.le_refl _) (Nat.le_refl _)
    · refine V.if_eq_f (t := 34) (pc := 9) dX12_turns_9 (by decide) c ?_
      refine V.aload_n (pc := 12) dX12_turns_12 rfl ?_
      obtain ⟨x1, w2, ew2, h⟩ := bnd2_e h
      refine U.callV (pc := 13) (As := []) (st := []) dX12_turns_13 l_RX12_227 (ok_X12_isTurn (by omega)  ew2) lx_44 ly_44 cn_12 (Nat.le_of_ble_eq_true rfl) rfl rfl (Nat.le_of_ble_eq_true rfl) ?_
      rcases ite_e h with ⟨c, h⟩ | ⟨c, h⟩
      · refine V.if_eq_t (t := 22) (pc := 16) dX12_turns_16 (by decide) c ?_
        refine V.aload_n (pc := 22) dX12_turns_22 rfl ?_
        refine V.aload_n (pc := 23) dX12_turns_23 rfl ?_
        refine V.getI (pc := 24) dX12_turns_24 f_RX12_92 k_cl12 lx_44 ly_44 rb_12_1 ?_
        obtain ⟨x3, w4, ew4, h⟩ := bnd2_e h
        refine U.callV (pc := 27) (As := [.int (w2.1 44 1)]) (st := []) dX12_turns_27 l_RX12_231 (ok_X12_isNext (by omega) (w2.1 44 1) ew4) lx_44 ly_44 cn_12 (Nat.le_of_ble_eq_true rfl) rfl rfl (Nat.le_of_ble_eq_true rfl) ?_
        refine V.istore_n (lv' := [some (.ref 44), some (.int l1), some (.int x3)]) (pc := 30) dX12_turns_30 (Nat.le_of_ble_eq_true rfl) rfl rfl ?_
        refine V.goto (t := 8) (pc := 31) dX12_turns_31 (by decide) ?_
        exact h8 l1 x3 w4 _ _ h
      · refine V.if_eq_f (t := 22) (pc := 16) dX12_turns_16 (by decide) c ?_
        refine V.iinc (lv' := [some (.ref 44), some (.int (l1 + 1)), some (.int l2)]) (pc := 19) dX12_turns_19 (Nat.le_of_ble_eq_true rfl) rfl rfl (v := (l1 + 1)) (by rw [show Int32.ofInt 1 = 1 from by decide]) rfl ?_
        refine V.aload_n (pc := 22) dX12_turns_22 rfl ?_
        refine V.aload_n (pc := 23) dX12_turns_23 rfl ?_
        refine V.getI (pc := 24) dX12_turns_24 f_RX12_92 k_cl12 lx_44 ly_44 rb_12_1 ?_
        obtain ⟨x5, w6, ew6, h⟩ := bnd2_e h
        refine U.callV (pc := 27) (As := [.int (w2.1 44 1)]) (st := []) dX12_turns_27 l_RX12_231 (ok_X12_isNext (by omega) (w2.1 44 1) ew6) lx_44 ly_44 cn_12 (Nat.le_of_ble_eq_true rfl) rfl rfl (Nat.le_of_ble_eq_true rfl) ?_
        refine V.istore_n (lv' := [some (.ref 44), some (.int (l1 + 1)), some (.int x5)]) (pc := 30) dX12_turns_30 (Nat.le_of_ble_eq_true rfl) rfl rfl ?_
        refine V.goto (t := 8) (pc := 31) dX12_turns_31 (by decide) ?_
        exact h8 (l1 + 1) x5 w6 _ _ h
def f_X12_turns (w : Wd) : Option (Int32 × Wd) :=
  bnd (f_X12_firstRow  w) fun w1 =>
  f_X12_turns_L8  FU 0 1 w1
set_option maxHeartbeats 4000000 in
set_option maxRecDepth 100000 in
theorem ok_X12_turns {G : GT} {d : Nat} (hd : 2 ≤ d) {w : Wd}  {r : Int32} {w' : Wd} (h : f_X12_turns  w = some (r, w')) : uC G yX12_turns mX12_turns d [.ref 44] w (some (.int r)) w' := by
  obtain ⟨d, rfl⟩ : ∃ e, d = e + 1 := ⟨d - 1, by omega⟩
  unfold f_X12_turns at h
  refine uC_of (lv := [some (.ref 44), none, none]) 2 pn_X12 ⟨rfl, rfl⟩ (Nat.le_of_ble_eq_true rfl) rfl ?_
  refine V.aload_n (pc := 0) dX12_turns_0 rfl ?_
  obtain ⟨w1, ew1, h⟩ := bnd_e h
  refine U.callV (pc := 1) (As := []) (st := []) dX12_turns_1 l_RX12_224 (ok_X12_firstRow (by omega)  ew1) lx_44 ly_44 cn_12 (Nat.le_of_ble_eq_true rfl) rfl rfl (Nat.le_of_ble_eq_true rfl) ?_
  refine V.iconst (pc := 4) dX12_turns_4 ic_0 ?_
  refine V.istore_n (lv' := [some (.ref 44), some (.int 0), none]) (pc := 5) dX12_turns_5 (Nat.le_of_ble_eq_true rfl) rfl rfl ?_
  refine V.iconst (pc := 6) dX12_turns_6 ic_1 ?_
  refine V.istore_n (lv' := [some (.ref 44), some (.int 0), some (.int 1)]) (pc := 7) dX12_turns_7 (Nat.le_of_ble_eq_true rfl) rfl rfl ?_
  exact t_X12_turns_L8 hd FU 0 1 w1 _ _ h
theorem dJ7_fill_d0a16_0 : decode cJ7_fill_d0a16 0 = .ok (.iconst 0, 1) := by decide +kernel
theorem dJ7_fill_d0a16_1 : decode cJ7_fill_d0a16 1 = .ok (.istore_n 3, 1) := by decide +kernel
theorem dJ7_fill_d0a16_2 : decode cJ7_fill_d0a16 2 = .ok (.aload_n 0, 1) := by decide +kernel
theorem dJ7_fill_d0a16_3 : decode cJ7_fill_d0a16 3 = .ok (.arraylength, 1) := by decide +kernel
theorem dJ7_fill_d0a16_4 : decode cJ7_fill_d0a16 4 = .ok (.istore 4, 2) := by decide +kernel
theorem dJ7_fill_d0a16_6 : decode cJ7_fill_d0a16 6 = .ok (.iload_n 3, 1) := by decide +kernel
theorem dJ7_fill_d0a16_7 : decode cJ7_fill_d0a16 7 = .ok (.iload 4, 2) := by decide +kernel
theorem dJ7_fill_d0a16_9 : decode cJ7_fill_d0a16 9 = .ok (.if_icmp .ge 13, 3) := by decide +kernel
theorem dJ7_fill_d0a16_12 : decode cJ7_fill_d0a16 12 = .ok (.aload_n 0, 1) := by decide +kernel
theorem dJ7_fill_d0a16_13 : decode cJ7_fill_d0a16 13 = .ok (.iload_n 3, 1) := by decide +kernel
theorem dJ7_fill_d0a16_14 : decode cJ7_fill_d0a16 14 = .ok (.lload_n 1, 1) := by decide +kernel
theorem dJ7_fill_d0a16_15 : decode cJ7_fill_d0a16 15 = .ok (.lastore, 1) := by decide +kernel
theorem dJ7_fill_d0a16_16 : decode cJ7_fill_d0a16 16 = .ok (.iinc 3 1, 3) := by decide +kernel
theorem dJ7_fill_d0a16_19 : decode cJ7_fill_d0a16 19 = .ok (.goto (-13), 3) := by decide +kernel
theorem dJ7_fill_d0a16_22 : decode cJ7_fill_d0a16 22 = .ok (.return_, 1) := by decide +kernel
def f_J7_fill_d0a16_28_B6b (k6 : Int64 → Int32 → Int32 → Wd → Option Wd) (l1 : Int64) (l3 : Int32) (l4 : Int32) (w : Wd) : Option Wd :=
  if l4 ≤ l3 then
    some w
  else
    wrL w 1024 l3 l1 fun w1 =>
    k6 l1 (l3 + 1) l4 w1
def f_J7_fill_d0a16_28_L6 (n : Nat) : Int64 → Int32 → Int32 → Wd → Option Wd :=
  Nat.rec (fun _ _ _ _ => none) (fun _ k => f_J7_fill_d0a16_28_B6b k) n
set_option maxHeartbeats 4000000 in
set_option maxRecDepth 100000 in
theorem t_J7_fill_d0a16_28_L6 {G : GT} {d : Nat} (hd : 0 ≤ d)  : ∀ (n : Nat) (l1 : Int64) (l3 : Int32) (l4 : Int32) (w : Wd) (w' : Wd), f_J7_fill_d0a16_28_L6 n l1 l3 l4 w = some w' → U (vf G mJ7_fill_d0a16 d) 6 [some (.ref 28), some (.long l1), none, some (.int l3), some (.int l4)] [] w (none, 70, r0, w') := by
  intro n
  induction n with
  | zero => intro l1 l3 l4 w w' h; cases h
  | succ n h6 =>
    intro l1 l3 l4 w w' h
    have h : f_J7_fill_d0a16_28_B6b (f_J7_fill_d0a16_28_L6 n) l1 l3 l4 w = some w' := h
    unfold f_J7_fill_d0a16_28_B6b at h
    refine V.iload_n (pc := 6) dJ7_fill_d0a16_6 rfl ?_
    refine V.iload (pc := 7) dJ7_fill_d0a16_7 rfl ?_
    rcases ite_e h with ⟨c, h⟩ | ⟨c, h⟩
    · refine V.icmp_ge_t (t := 22) (pc := 9) dJ7_fill_d0a16_9 (by decide) c ?_
      obtain rfl := Option.some.inj h
      exact V.vret (pc := 22) dJ7_fill_d0a16_22 rfl (Nat.le_refl _) (Nat.le_refl _)
    · refine V.icmp_ge_f (t := 22) (pc := 9) dJ7_fill_d0a16_9 (by decide) c ?_
      refine V.aload_n (pc := 12) dJ7_fill_d0a16_12 rfl ?_
      refine V.iload_n (pc := 13) dJ7_fill_d0a16_13 rfl ?_
      refine V.lload_n (pc := 14) dJ7_fill_d0a16_14 rfl ?_
      obtain ⟨w1, iw1, ew1, h⟩ := wrL_e h
      refine V.lastX (pc := 15) dJ7_fill_d0a16_15 ly_28 iw1 ew1 ?_
      refine V.iinc (lv' := [some (.ref 28), some (.long l1), none, some (.int (l3 + 1)), some (.int l4)]) (pc := 16) dJ7_fill_d0a16_16 (Nat.le_of_ble_eq_true rfl) rfl rfl (v := (l3 + 1)) (by rw [show Int32.ofInt 1 = 1 from by decide]) rfl ?_
      refine V.goto (t := 6) (pc := 19) dJ7_fill_d0a16_19 (by decide) ?_
      exact h6 l1 (l3 + 1) l4 w1 _ h
def f_J7_fill_d0a16_28 (l1 : Int64) (w : Wd) : Option Wd :=
  f_J7_fill_d0a16_28_L6  FU l1 0 1024 w
set_option maxHeartbeats 4000000 in
set_option maxRecDepth 100000 in
theorem ok_J7_fill_d0a16_28 {G : GT} {d : Nat} (hd : 0 ≤ d) {w : Wd} (l1 : Int64) {w' : Wd} (h : f_J7_fill_d0a16_28 l1 w = some w') : uC G yJ7_fill_d0a16 mJ7_fill_d0a16 d [.ref 28, .long l1] w none w' := by
  unfold f_J7_fill_d0a16_28 at h
  refine uC_of (lv := [some (.ref 28), some (.long l1), none, none, none]) 2 pn_J7 ⟨rfl, rfl⟩ (Nat.le_of_ble_eq_true rfl) rfl ?_
  refine V.iconst (pc := 0) dJ7_fill_d0a16_0 ic_0 ?_
  refine V.istore_n (lv' := [some (.ref 28), some (.long l1), none, some (.int 0), none]) (pc := 1) dJ7_fill_d0a16_1 (Nat.le_of_ble_eq_true rfl) rfl rfl ?_
  refine V.aload_n (pc := 2) dJ7_fill_d0a16_2 rfl ?_
  refine V.alen (v := 1024) (pc := 3) dJ7_fill_d0a16_3 lx_28 ly_28 (Or.inr rfl) (by decide) ?_
  refine V.istore (lv' := [some (.ref 28), some (.long l1), none, some (.int 0), some (.int 1024)]) (pc := 4) dJ7_fill_d0a16_4 (Nat.le_of_ble_eq_true rfl) rfl rfl ?_
  exact t_J7_fill_d0a16_28_L6 hd FU l1 0 1024 w _ h
theorem dX10_forgetImages_0 : decode cX10_forgetImages 0 = .ok (.aload_n 0, 1) := by decide +kernel
theorem dX10_forgetImages_1 : decode cX10_forgetImages 1 = .ok (.getfield 21, 3) := by decide +kernel
theorem dX10_forgetImages_4 : decode cX10_forgetImages 4 = .ok (.lconst 0, 1) := by decide +kernel
theorem dX10_forgetImages_5 : decode cX10_forgetImages 5 = .ok (.invokestatic 84, 3) := by decide +kernel
theorem dX10_forgetImages_8 : decode cX10_forgetImages 8 = .ok (.return_, 1) := by decide +kernel
def f_X10_forgetImages (w : Wd) : Option Wd :=
  bnd (f_J7_fill_d0a16_28 0 w) fun w1 =>
  some w1
set_option maxHeartbeats 4000000 in
set_option maxRecDepth 100000 in
theorem ok_X10_forgetImages {G : GT} {d : Nat} (hd : 1 ≤ d) {w : Wd}  {w' : Wd} (h : f_X10_forgetImages  w = some w') : uC G yX10_forgetImages mX10_forgetImages d [.ref 24] w none w' := by
  obtain ⟨d, rfl⟩ : ∃ e, d = e + 1 := ⟨d - 1, by omega⟩
  unfold f_X10_forgetImages at h
  refine uC_of (lv := [some (.ref 24)]) 0 pn_X10 ⟨rfl, rfl⟩ (Nat.le_of_ble_eq_true rfl) rfl ?_
  refine V.aload_n (pc := 0) dX10_forgetImages_0 rfl ?_
  refine V.getR (t := 28) (pc := 1) dX10_forgetImages_1 f_RX10_21 k_cl10 lx_24 ly_24 rb_10_6 rr_24_6 ?_
  refine V.lconst (v := 0) (pc := 4) dX10_forgetImages_4 (by decide) ?_
  obtain ⟨w1, ew1, h⟩ := bnd_e h
  refine U.callS (pc := 5) (As := [.ref 28, .long 0]) (st := []) dX10_forgetImages_5 l_RX10_84 (ok_J7_fill_d0a16_28 (by omega) 0 ew1) (Nat.le_of_ble_eq_true rfl) rfl rfl (Nat.le_of_ble_eq_true rfl) ?_
  obtain rfl := Option.some.inj h
  exact V.vret (pc := 8) dX10_forgetImages_8 rfl (Nat.le_refl _) (Nat.le_refl _)
theorem dX10_imageBy_0 : decode cX10_imageBy 0 = .ok (.iload_n 1, 1) := by decide +kernel
theorem dX10_imageBy_1 : decode cX10_imageBy 1 = .ok (.bipush 16, 2) := by decide +kernel
theorem dX10_imageBy_3 : decode cX10_imageBy 3 = .ok (.imul, 1) := by decide +kernel
theorem dX10_imageBy_4 : decode cX10_imageBy 4 = .ok (.istore_n 3, 1) := by decide +kernel
theorem dX10_imageBy_5 : decode cX10_imageBy 5 = .ok (.iconst 0, 1) := by decide +kernel
theorem dX10_imageBy_6 : decode cX10_imageBy 6 = .ok (.istore 4, 2) := by decide +kernel
theorem dX10_imageBy_8 : decode cX10_imageBy 8 = .ok (.iconst 0, 1) := by decide +kernel
theorem dX10_imageBy_9 : decode cX10_imageBy 9 = .ok (.istore 5, 2) := by decide +kernel
theorem dX10_imageBy_11 : decode cX10_imageBy 11 = .ok (.iload 5, 2) := by decide +kernel
theorem dX10_imageBy_13 : decode cX10_imageBy 13 = .ok (.aload_n 0, 1) := by decide +kernel
theorem dX10_imageBy_14 : decode cX10_imageBy 14 = .ok (.getfield 25, 3) := by decide +kernel
theorem dX10_imageBy_17 : decode cX10_imageBy 17 = .ok (.getfield 54, 3) := by decide +kernel
theorem dX10_imageBy_20 : decode cX10_imageBy 20 = .ok (.if_icmp .ge 34, 3) := by decide +kernel
theorem dX10_imageBy_23 : decode cX10_imageBy 23 = .ok (.iload_n 2, 1) := by decide +kernel
theorem dX10_imageBy_24 : decode cX10_imageBy 24 = .ok (.iload 5, 2) := by decide +kernel
theorem dX10_imageBy_26 : decode cX10_imageBy 26 = .ok (.ishr, 1) := by decide +kernel
theorem dX10_imageBy_27 : decode cX10_imageBy 27 = .ok (.iconst 1, 1) := by decide +kernel
theorem dX10_imageBy_28 : decode cX10_imageBy 28 = .ok (.iand, 1) := by decide +kernel
theorem dX10_imageBy_29 : decode cX10_imageBy 29 = .ok (.ifCond .eq 19, 3) := by decide +kernel
theorem dX10_imageBy_32 : decode cX10_imageBy 32 = .ok (.iload 4, 2) := by decide +kernel
theorem dX10_imageBy_34 : decode cX10_imageBy 34 = .ok (.iconst 1, 1) := by decide +kernel
theorem dX10_imageBy_35 : decode cX10_imageBy 35 = .ok (.aload_n 0, 1) := by decide +kernel
theorem dX10_imageBy_36 : decode cX10_imageBy 36 = .ok (.getfield 11, 3) := by decide +kernel
theorem dX10_imageBy_39 : decode cX10_imageBy 39 = .ok (.iload_n 3, 1) := by decide +kernel
theorem dX10_imageBy_40 : decode cX10_imageBy 40 = .ok (.iload 5, 2) := by decide +kernel
theorem dX10_imageBy_42 : decode cX10_imageBy 42 = .ok (.iadd, 1) := by decide +kernel
theorem dX10_imageBy_43 : decode cX10_imageBy 43 = .ok (.iaload, 1) := by decide +kernel
theorem dX10_imageBy_44 : decode cX10_imageBy 44 = .ok (.ishl, 1) := by decide +kernel
theorem dX10_imageBy_45 : decode cX10_imageBy 45 = .ok (.ior, 1) := by decide +kernel
theorem dX10_imageBy_46 : decode cX10_imageBy 46 = .ok (.istore 4, 2) := by decide +kernel
theorem dX10_imageBy_48 : decode cX10_imageBy 48 = .ok (.iinc 5 1, 3) := by decide +kernel
theorem dX10_imageBy_51 : decode cX10_imageBy 51 = .ok (.goto (-40), 3) := by decide +kernel
theorem dX10_imageBy_54 : decode cX10_imageBy 54 = .ok (.iload 4, 2) := by decide +kernel
theorem dX10_imageBy_56 : decode cX10_imageBy 56 = .ok (.ireturn, 1) := by decide +kernel
def f_X10_imageBy_B11b (k11 : Int32 → Int32 → Int32 → Int32 → Wd → Option Int32) (l2 : Int32) (l3 : Int32) (l4 : Int32) (l5 : Int32) (w : Wd) : Option Int32 :=
  if (w.1 6 7) ≤ l5 then
    some l4
  else
    if ((l2 >>> (l5 &&& 31)) &&& 1) = 0 then
      k11 l2 l3 l4 (l5 + 1) w
    else
      rdI w 25 1024 (l3 + l5) fun x1 =>
      k11 l2 l3 (l4 ||| (1 <<< (x1 &&& 31))) (l5 + 1) w
def f_X10_imageBy_L11 (n : Nat) : Int32 → Int32 → Int32 → Int32 → Wd → Option Int32 :=
  Nat.rec (fun _ _ _ _ _ => none) (fun _ k => f_X10_imageBy_B11b k) n
set_option maxHeartbeats 4000000 in
set_option maxRecDepth 100000 in
theorem t_X10_imageBy_L11 {G : GT} {d : Nat} {w : Wd} (hd : 0 ≤ d)  : ∀ (n : Nat) (l2 : Int32) (l3 : Int32) (l4 : Int32) (l5 : Int32) (r : Int32), f_X10_imageBy_L11 n l2 l3 l4 l5 w = some r → U (vf G mX10_imageBy d) 11 [some (.ref 24), none, some (.int l2), some (.int l3), some (.int l4), some (.int l5)] [] w (some (.int r), 70, r0, w) := by
  intro n
  induction n with
  | zero => intro l2 l3 l4 l5 r h; cases h
  | succ n h11 =>
    intro l2 l3 l4 l5 r h
    have h : f_X10_imageBy_B11b (f_X10_imageBy_L11 n) l2 l3 l4 l5 w = some r := h
    unfold f_X10_imageBy_B11b at h
    refine V.iload (pc := 11) dX10_imageBy_11 rfl ?_
    refine V.aload_n (pc := 13) dX10_imageBy_13 rfl ?_
    refine V.getR (t := 6) (pc := 14) dX10_imageBy_14 f_RX10_25 k_cl10 lx_24 ly_24 rb_10_0 rr_24_0 ?_
    refine V.getI (pc := 17) dX10_imageBy_17 f_RX10_54 k_cl4 lx_6 ly_6 rb_4_7 ?_
    rcases ite_e h with ⟨c, h⟩ | ⟨c, h⟩
    · refine V.icmp_ge_t (t := 54) (pc := 20) dX10_imageBy_20 (by decide) c ?_
      refine V.iload (pc := 54) dX10_imageBy_54 rfl ?_
      obtain rfl := Option.some.inj h
      exact V.iret (pc := 56) dX10_imageBy_56 rfl (Nat.le_refl _) (Nat.le_refl _)
    · refine V.icmp_ge_f (t := 54) (pc := 20) dX10_imageBy_20 (by decide) c ?_
      refine V.iload_n (pc := 23) dX10_imageBy_23 rfl ?_
      refine V.iload (pc := 24) dX10_imageBy_24 rfl ?_
      refine V.ishr (pc := 26) dX10_imageBy_26 ?_
      refine V.iconst (pc := 27) dX10_imageBy_27 ic_1 ?_
      refine V.iand (pc := 28) dX10_imageBy_28 ?_
      rcases ite_e h with ⟨c, h⟩ | ⟨c, h⟩
      · refine V.if_eq_t (t := 48) (pc := 29) dX10_imageBy_29 (by decide) c ?_
        refine V.iinc (lv' := [some (.ref 24), none, some (.int l2), some (.int l3), some (.int l4), some (.int (l5 + 1))]) (pc := 48) dX10_imageBy_48 (Nat.le_of_ble_eq_true rfl) rfl rfl (v := (l5 + 1)) (by rw [show Int32.ofInt 1 = 1 from by decide]) rfl ?_
        refine V.goto (t := 11) (pc := 51) dX10_imageBy_51 (by decide) ?_
        exact h11 l2 l3 l4 (l5 + 1) _ h
      · refine V.if_eq_f (t := 48) (pc := 29) dX10_imageBy_29 (by decide) c ?_
        refine V.iload (pc := 32) dX10_imageBy_32 rfl ?_
        refine V.iconst (pc := 34) dX10_imageBy_34 ic_1 ?_
        refine V.aload_n (pc := 35) dX10_imageBy_35 rfl ?_
        refine V.getR (t := 25) (pc := 36) dX10_imageBy_36 f_RX10_11 k_cl10 lx_24 ly_24 rb_10_3 rr_24_3 ?_
        refine V.iload_n (pc := 39) dX10_imageBy_39 rfl ?_
        refine V.iload (pc := 40) dX10_imageBy_40 rfl ?_
        refine V.iadd (pc := 42) dX10_imageBy_42 ?_
        obtain ⟨x1, ix1, ex1, h⟩ := rdI_e h
        refine V.ialdX (pc := 43) dX10_imageBy_43 lx_25 ly_25 ix1 ex1 ?_
        refine V.ishl (pc := 44) dX10_imageBy_44 ?_
        refine V.ior (pc := 45) dX10_imageBy_45 ?_
        refine V.istore (lv' := [some (.ref 24), none, some (.int l2), some (.int l3), some (.int (l4 ||| (1 <<< (x1 &&& 31)))), some (.int l5)]) (pc := 46) dX10_imageBy_46 (Nat.le_of_ble_eq_true rfl) rfl rfl ?_
        refine V.iinc (lv' := [some (.ref 24), none, some (.int l2), some (.int l3), some (.int (l4 ||| (1 <<< (x1 &&& 31)))), some (.int (l5 + 1))]) (pc := 48) dX10_imageBy_48 (Nat.le_of_ble_eq_true rfl) rfl rfl (v := (l5 + 1)) (by rw [show Int32.ofInt 1 = 1 from by decide]) rfl ?_
        refine V.goto (t := 11) (pc := 51) dX10_imageBy_51 (by decide) ?_
        exact h11 l2 l3 (l4 ||| (1 <<< (x1 &&& 31))) (l5 + 1) _ h
def f_X10_imageBy (l1 : Int32) (l2 : Int32) (w : Wd) : Option Int32 :=
  f_X10_imageBy_L11  FU l2 (l1 * 16) 0 0 w
set_option maxHeartbeats 4000000 in
set_option maxRecDepth 100000 in
theorem ok_X10_imageBy {G : GT} {d : Nat} (hd : 0 ≤ d) {w : Wd} (l1 : Int32) (l2 : Int32) {r : Int32} (h : f_X10_imageBy l1 l2 w = some r) : uC G yX10_imageBy mX10_imageBy d [.ref 24, .int l1, .int l2] w (some (.int r)) w := by
  unfold f_X10_imageBy at h
  refine uC_of (lv := [some (.ref 24), some (.int l1), some (.int l2), none, none, none]) 3 pn_X10 ⟨rfl, rfl⟩ (Nat.le_of_ble_eq_true rfl) rfl ?_
  refine V.iload_n (pc := 0) dX10_imageBy_0 rfl ?_
  refine V.bipush (pc := 1) dX10_imageBy_1 bp_16 ?_
  refine V.imul (pc := 3) dX10_imageBy_3 ?_
  refine V.istore_n (lv' := [some (.ref 24), some (.int l1), some (.int l2), some (.int (l1 * 16)), none, none]) (pc := 4) dX10_imageBy_4 (Nat.le_of_ble_eq_true rfl) rfl rfl ?_
  refine V.iconst (pc := 5) dX10_imageBy_5 ic_0 ?_
  refine V.istore (lv' := [some (.ref 24), some (.int l1), some (.int l2), some (.int (l1 * 16)), some (.int 0), none]) (pc := 6) dX10_imageBy_6 (Nat.le_of_ble_eq_true rfl) rfl rfl ?_
  refine V.iconst (pc := 8) dX10_imageBy_8 ic_0 ?_
  refine V.istore (lv' := [some (.ref 24), some (.int l1), some (.int l2), some (.int (l1 * 16)), some (.int 0), some (.int 0)]) (pc := 9) dX10_imageBy_9 (Nat.le_of_ble_eq_true rfl) rfl rfl ?_
  refine V.weak (lv' := [some (.ref 24), none, some (.int l2), some (.int (l1 * 16)), some (.int 0), some (.int 0)]) (And.intro rfl (And.intro rfl (And.intro rfl (And.intro rfl (And.intro rfl trivial))))) ?_
  exact t_X10_imageBy_L11 hd FU l2 (l1 * 16) 0 0 _ h
theorem dX10_knowsImage_0 : decode cX10_knowsImage 0 = .ok (.aload_n 0, 1) := by decide +kernel
theorem dX10_knowsImage_1 : decode cX10_knowsImage 1 = .ok (.getfield 21, 3) := by decide +kernel
theorem dX10_knowsImage_4 : decode cX10_knowsImage 4 = .ok (.iload_n 1, 1) := by decide +kernel
theorem dX10_knowsImage_5 : decode cX10_knowsImage 5 = .ok (.bipush 6, 2) := by decide +kernel
theorem dX10_knowsImage_7 : decode cX10_knowsImage 7 = .ok (.ishr, 1) := by decide +kernel
theorem dX10_knowsImage_8 : decode cX10_knowsImage 8 = .ok (.aload_n 0, 1) := by decide +kernel
theorem dX10_knowsImage_9 : decode cX10_knowsImage 9 = .ok (.getfield 21, 3) := by decide +kernel
theorem dX10_knowsImage_12 : decode cX10_knowsImage 12 = .ok (.arraylength, 1) := by decide +kernel
theorem dX10_knowsImage_13 : decode cX10_knowsImage 13 = .ok (.iconst 1, 1) := by decide +kernel
theorem dX10_knowsImage_14 : decode cX10_knowsImage 14 = .ok (.isub, 1) := by decide +kernel
theorem dX10_knowsImage_15 : decode cX10_knowsImage 15 = .ok (.iand, 1) := by decide +kernel
theorem dX10_knowsImage_16 : decode cX10_knowsImage 16 = .ok (.laload, 1) := by decide +kernel
theorem dX10_knowsImage_17 : decode cX10_knowsImage 17 = .ok (.iload_n 1, 1) := by decide +kernel
theorem dX10_knowsImage_18 : decode cX10_knowsImage 18 = .ok (.lshr, 1) := by decide +kernel
theorem dX10_knowsImage_19 : decode cX10_knowsImage 19 = .ok (.lconst 1, 1) := by decide +kernel
theorem dX10_knowsImage_20 : decode cX10_knowsImage 20 = .ok (.land, 1) := by decide +kernel
theorem dX10_knowsImage_21 : decode cX10_knowsImage 21 = .ok (.lconst 0, 1) := by decide +kernel
theorem dX10_knowsImage_22 : decode cX10_knowsImage 22 = .ok (.lcmp, 1) := by decide +kernel
theorem dX10_knowsImage_23 : decode cX10_knowsImage 23 = .ok (.ifCond .eq 7, 3) := by decide +kernel
theorem dX10_knowsImage_26 : decode cX10_knowsImage 26 = .ok (.iconst 1, 1) := by decide +kernel
theorem dX10_knowsImage_27 : decode cX10_knowsImage 27 = .ok (.goto 4, 3) := by decide +kernel
theorem dX10_knowsImage_30 : decode cX10_knowsImage 30 = .ok (.iconst 0, 1) := by decide +kernel
theorem dX10_knowsImage_31 : decode cX10_knowsImage 31 = .ok (.ireturn, 1) := by decide +kernel
def f_X10_knowsImage (l1 : Int32) (w : Wd) : Option Int32 :=
  rdL w 1024 ((l1 >>> (6 &&& 31)) &&& ((1024 : Int32) - 1)) fun x1 =>
  if (lg_cmp ((x1 >>> (l1.toInt64 &&& 63)) &&& 1) 0) = 0 then
    some 0
  else
    some 1
set_option maxHeartbeats 4000000 in
set_option maxRecDepth 100000 in
theorem ok_X10_knowsImage {G : GT} {d : Nat} (hd : 0 ≤ d) {w : Wd} (l1 : Int32) {r : Int32} (h : f_X10_knowsImage l1 w = some r) : uC G yX10_knowsImage mX10_knowsImage d [.ref 24, .int l1] w (some (.int r)) w := by
  unfold f_X10_knowsImage at h
  refine uC_of (lv := [some (.ref 24), some (.int l1)]) 0 pn_X10 ⟨rfl, rfl⟩ (Nat.le_of_ble_eq_true rfl) rfl ?_
  refine V.aload_n (pc := 0) dX10_knowsImage_0 rfl ?_
  refine V.getR (t := 28) (pc := 1) dX10_knowsImage_1 f_RX10_21 k_cl10 lx_24 ly_24 rb_10_6 rr_24_6 ?_
  refine V.iload_n (pc := 4) dX10_knowsImage_4 rfl ?_
  refine V.bipush (pc := 5) dX10_knowsImage_5 bp_6 ?_
  refine V.ishr (pc := 7) dX10_knowsImage_7 ?_
  refine V.aload_n (pc := 8) dX10_knowsImage_8 rfl ?_
  refine V.getR (t := 28) (pc := 9) dX10_knowsImage_9 f_RX10_21 k_cl10 lx_24 ly_24 rb_10_6 rr_24_6 ?_
  refine V.alen (v := 1024) (pc := 12) dX10_knowsImage_12 lx_28 ly_28 (Or.inr rfl) (by decide) ?_
  refine V.iconst (pc := 13) dX10_knowsImage_13 ic_1 ?_
  refine V.isub (pc := 14) dX10_knowsImage_14 ?_
  refine V.iand (pc := 15) dX10_knowsImage_15 ?_
  obtain ⟨x1, ix1, ex1, h⟩ := rdL_e h
  refine V.laldX (pc := 16) dX10_knowsImage_16 lx_28 ly_28 ix1 ex1 ?_
  refine V.iload_n (pc := 17) dX10_knowsImage_17 rfl ?_
  refine V.lshr (pc := 18) dX10_knowsImage_18 ?_
  refine V.lconst (v := 1) (pc := 19) dX10_knowsImage_19 (by decide) ?_
  refine V.land (pc := 20) dX10_knowsImage_20 ?_
  refine V.lconst (v := 0) (pc := 21) dX10_knowsImage_21 (by decide) ?_
  refine V.lcmp (pc := 22) dX10_knowsImage_22 ?_
  rcases ite_e h with ⟨c, h⟩ | ⟨c, h⟩
  · refine V.if_eq_t (t := 30) (pc := 23) dX10_knowsImage_23 (by decide) c ?_
    refine V.iconst (pc := 30) dX10_knowsImage_30 ic_0 ?_
    obtain rfl := Option.some.inj h
    exact V.zret (pc := 31) dX10_knowsImage_31 rfl (Or.inl rfl) (Nat.le_refl _) (Nat.le_refl _)
  · refine V.if_eq_f (t := 30) (pc := 23) dX10_knowsImage_23 (by decide) c ?_
    refine V.iconst (pc := 26) dX10_knowsImage_26 ic_1 ?_
    refine V.goto (t := 31) (pc := 27) dX10_knowsImage_27 (by decide) ?_
    obtain rfl := Option.some.inj h
    exact V.zret (pc := 31) dX10_knowsImage_31 rfl (Or.inr rfl) (Nat.le_refl _) (Nat.le_refl _)
theorem dX10_addImage_0 : decode cX10_addImage 0 = .ok (.aload_n 0, 1) := by decide +kernel
theorem dX10_addImage_1 : decode cX10_addImage 1 = .ok (.iload_n 1, 1) := by decide +kernel
theorem dX10_addImage_2 : decode cX10_addImage 2 = .ok (.invokevirtual 105, 3) := by decide +kernel
theorem dX10_addImage_5 : decode cX10_addImage 5 = .ok (.ifCond .ne 53, 3) := by decide +kernel
theorem dX10_addImage_8 : decode cX10_addImage 8 = .ok (.aload_n 0, 1) := by decide +kernel
theorem dX10_addImage_9 : decode cX10_addImage 9 = .ok (.getfield 90, 3) := by decide +kernel
theorem dX10_addImage_12 : decode cX10_addImage 12 = .ok (.sipush 2560, 3) := by decide +kernel
theorem dX10_addImage_15 : decode cX10_addImage 15 = .ok (.if_icmp .ge 43, 3) := by decide +kernel
theorem dX10_addImage_18 : decode cX10_addImage 18 = .ok (.aload_n 0, 1) := by decide +kernel
theorem dX10_addImage_19 : decode cX10_addImage 19 = .ok (.getfield 21, 3) := by decide +kernel
theorem dX10_addImage_22 : decode cX10_addImage 22 = .ok (.iload_n 1, 1) := by decide +kernel
theorem dX10_addImage_23 : decode cX10_addImage 23 = .ok (.bipush 6, 2) := by decide +kernel
theorem dX10_addImage_25 : decode cX10_addImage 25 = .ok (.ishr, 1) := by decide +kernel
theorem dX10_addImage_26 : decode cX10_addImage 26 = .ok (.aload_n 0, 1) := by decide +kernel
theorem dX10_addImage_27 : decode cX10_addImage 27 = .ok (.getfield 21, 3) := by decide +kernel
theorem dX10_addImage_30 : decode cX10_addImage 30 = .ok (.arraylength, 1) := by decide +kernel
theorem dX10_addImage_31 : decode cX10_addImage 31 = .ok (.iconst 1, 1) := by decide +kernel
theorem dX10_addImage_32 : decode cX10_addImage 32 = .ok (.isub, 1) := by decide +kernel
theorem dX10_addImage_33 : decode cX10_addImage 33 = .ok (.iand, 1) := by decide +kernel
theorem dX10_addImage_34 : decode cX10_addImage 34 = .ok (.dup2, 1) := by decide +kernel
theorem dX10_addImage_35 : decode cX10_addImage 35 = .ok (.laload, 1) := by decide +kernel
theorem dX10_addImage_36 : decode cX10_addImage 36 = .ok (.lconst 1, 1) := by decide +kernel
theorem dX10_addImage_37 : decode cX10_addImage 37 = .ok (.iload_n 1, 1) := by decide +kernel
theorem dX10_addImage_38 : decode cX10_addImage 38 = .ok (.lshl, 1) := by decide +kernel
theorem dX10_addImage_39 : decode cX10_addImage 39 = .ok (.lor, 1) := by decide +kernel
theorem dX10_addImage_40 : decode cX10_addImage 40 = .ok (.lastore, 1) := by decide +kernel
theorem dX10_addImage_41 : decode cX10_addImage 41 = .ok (.aload_n 0, 1) := by decide +kernel
theorem dX10_addImage_42 : decode cX10_addImage 42 = .ok (.getfield 18, 3) := by decide +kernel
theorem dX10_addImage_45 : decode cX10_addImage 45 = .ok (.aload_n 0, 1) := by decide +kernel
theorem dX10_addImage_46 : decode cX10_addImage 46 = .ok (.dup, 1) := by decide +kernel
theorem dX10_addImage_47 : decode cX10_addImage 47 = .ok (.getfield 90, 3) := by decide +kernel
theorem dX10_addImage_50 : decode cX10_addImage 50 = .ok (.dup_x1, 1) := by decide +kernel
theorem dX10_addImage_51 : decode cX10_addImage 51 = .ok (.iconst 1, 1) := by decide +kernel
theorem dX10_addImage_52 : decode cX10_addImage 52 = .ok (.iadd, 1) := by decide +kernel
theorem dX10_addImage_53 : decode cX10_addImage 53 = .ok (.putfield 90, 3) := by decide +kernel
theorem dX10_addImage_56 : decode cX10_addImage 56 = .ok (.iload_n 1, 1) := by decide +kernel
theorem dX10_addImage_57 : decode cX10_addImage 57 = .ok (.iastore, 1) := by decide +kernel
theorem dX10_addImage_58 : decode cX10_addImage 58 = .ok (.return_, 1) := by decide +kernel
def f_X10_addImage (l1 : Int32) (w : Wd) : Option Wd :=
  bnd (f_X10_knowsImage l1 w) fun x1 =>
  if x1 = 0 then
    if 2560 ≤ (w.1 24 9) then
      some w
    else
      rdL w 1024 ((l1 >>> (6 &&& 31)) &&& ((1024 : Int32) - 1)) fun x2 =>
      wrL w 1024 ((l1 >>> (6 &&& 31)) &&& ((1024 : Int32) - 1)) (x2 ||| (1 <<< (l1.toInt64 &&& 63))) fun w3 =>
      letW (sI w3 24 9 ((w3.1 24 9) + 1)) fun w4 =>
      wrI w4 27 2560 (w3.1 24 9) l1 fun w5 =>
      some w5
  else
    some w
set_option maxHeartbeats 4000000 in
set_option maxRecDepth 100000 in
theorem ok_X10_addImage {G : GT} {d : Nat} (hd : 1 ≤ d) {w : Wd} (l1 : Int32) {w' : Wd} (h : f_X10_addImage l1 w = some w') : uC G yX10_addImage mX10_addImage d [.ref 24, .int l1] w none w' := by
  obtain ⟨d, rfl⟩ : ∃ e, d = e + 1 := ⟨d - 1, by omega⟩
  unfold f_X10_addImage at h
  refine uC_of (lv := [some (.ref 24), some (.int l1)]) 0 pn_X10 ⟨rfl, rfl⟩ (Nat.le_of_ble_eq_true rfl) rfl ?_
  refine V.aload_n (pc := 0) dX10_addImage_0 rfl ?_
  refine V.iload_n (pc := 1) dX10_addImage_1 rfl ?_
  obtain ⟨x1, ex1, h⟩ := bnd_e h
  refine U.callV (pc := 2) (As := [.int l1]) (st := []) dX10_addImage_2 l_RX10_105 (ok_X10_knowsImage (by omega) l1 ex1) lx_24 ly_24 cn_10 (Nat.le_of_ble_eq_true rfl) rfl rfl (Nat.le_of_ble_eq_true rfl) ?_
  rcases ite_e h with ⟨c, h⟩ | ⟨c, h⟩
  · refine V.if_ne_f (t := 58) (pc := 5) dX10_addImage_5 (by decide) c ?_
    refine V.aload_n (pc := 8) dX10_addImage_8 rfl ?_
    refine V.getI (pc := 9) dX10_addImage_9 f_RX10_90 k_cl10 lx_24 ly_24 rb_10_9 ?_
    refine V.sipush (pc := 12) dX10_addImage_12 sp_2560 ?_
    rcases ite_e h with ⟨c, h⟩ | ⟨c, h⟩
    · refine V.icmp_ge_t (t := 58) (pc := 15) dX10_addImage_15 (by decide) c ?_
      obtain rfl := Option.some.inj h
      exact V.vret (pc := 58) dX10_addImage_58 rfl (Nat.le_refl _) (Nat.le_refl _)
    · refine V.icmp_ge_f (t := 58) (pc := 15) dX10_addImage_15 (by decide) c ?_
      refine V.aload_n (pc := 18) dX10_addImage_18 rfl ?_
      refine V.getR (t := 28) (pc := 19) dX10_addImage_19 f_RX10_21 k_cl10 lx_24 ly_24 rb_10_6 rr_24_6 ?_
      refine V.iload_n (pc := 22) dX10_addImage_22 rfl ?_
      refine V.bipush (pc := 23) dX10_addImage_23 bp_6 ?_
      refine V.ishr (pc := 25) dX10_addImage_25 ?_
      refine V.aload_n (pc := 26) dX10_addImage_26 rfl ?_
      refine V.getR (t := 28) (pc := 27) dX10_addImage_27 f_RX10_21 k_cl10 lx_24 ly_24 rb_10_6 rr_24_6 ?_
      refine V.alen (v := 1024) (pc := 30) dX10_addImage_30 lx_28 ly_28 (Or.inr rfl) (by decide) ?_
      refine V.iconst (pc := 31) dX10_addImage_31 ic_1 ?_
      refine V.isub (pc := 32) dX10_addImage_32 ?_
      refine V.iand (pc := 33) dX10_addImage_33 ?_
      refine V.dup2 (pc := 34) dX10_addImage_34 rfl rfl ?_
      obtain ⟨x2, ix2, ex2, h⟩ := rdL_e h
      refine V.laldX (pc := 35) dX10_addImage_35 lx_28 ly_28 ix2 ex2 ?_
      refine V.lconst (v := 1) (pc := 36) dX10_addImage_36 (by decide) ?_
      refine V.iload_n (pc := 37) dX10_addImage_37 rfl ?_
      refine V.lshl (pc := 38) dX10_addImage_38 ?_
      refine V.lor (pc := 39) dX10_addImage_39 ?_
      obtain ⟨w3, iw3, ew3, h⟩ := wrL_e h
      refine V.lastX (pc := 40) dX10_addImage_40 ly_28 iw3 ew3 ?_
      refine V.aload_n (pc := 41) dX10_addImage_41 rfl ?_
      refine V.getR (t := 27) (pc := 42) dX10_addImage_42 f_RX10_18 k_cl10 lx_24 ly_24 rb_10_5 rr_24_5 ?_
      refine V.aload_n (pc := 45) dX10_addImage_45 rfl ?_
      refine V.dup (pc := 46) dX10_addImage_46 rfl ?_
      refine V.getI (pc := 47) dX10_addImage_47 f_RX10_90 k_cl10 lx_24 ly_24 rb_10_9 ?_
      refine V.dup_x1 (pc := 50) dX10_addImage_50 rfl rfl ?_
      refine V.iconst (pc := 51) dX10_addImage_51 ic_1 ?_
      refine V.iadd (pc := 52) dX10_addImage_52 ?_
      obtain ⟨w4, ew4, h⟩ := letW_e h
      refine V.putIX (pc := 53) dX10_addImage_53 f_RX10_90 k_cl10 lx_24 ly_24 rb_10_9 (fin_I (T0 := TX10) rfl rfl rfl) ew4 ?_
      refine V.iload_n (pc := 56) dX10_addImage_56 rfl ?_
      obtain ⟨w5, iw5, ew5, h⟩ := wrI_e h
      refine V.iastX (pc := 57) dX10_addImage_57 lx_27 ly_27 iw5 ew5 ?_
      obtain rfl := Option.some.inj h
      exact V.vret (pc := 58) dX10_addImage_58 rfl (Nat.le_refl _) (Nat.le_refl _)
  · refine V.if_ne_t (t := 58) (pc := 5) dX10_addImage_5 (by decide) c ?_
    obtain rfl := Option.some.inj h
    exact V.vret (pc := 58) dX10_addImage_58 rfl (Nat.le_refl _) (Nat.le_refl _)
theorem dX10_spread_0 : decode cX10_spread 0 = .ok (.aload_n 0, 1) := by decide +kernel
theorem dX10_spread_1 : decode cX10_spread 1 = .ok (.iconst 0, 1) := by decide +kernel
theorem dX10_spread_2 : decode cX10_spread 2 = .ok (.putfield 90, 3) := by decide +kernel
theorem dX10_spread_5 : decode cX10_spread 5 = .ok (.aload_n 0, 1) := by decide +kernel
theorem dX10_spread_6 : decode cX10_spread 6 = .ok (.invokevirtual 93, 3) := by decide +kernel
theorem dX10_spread_9 : decode cX10_spread 9 = .ok (.ifCond .le 8, 3) := by decide +kernel
theorem dX10_spread_12 : decode cX10_spread 12 = .ok (.aload_n 0, 1) := by decide +kernel
theorem dX10_spread_13 : decode cX10_spread 13 = .ok (.iload_n 1, 1) := by decide +kernel
theorem dX10_spread_14 : decode cX10_spread 14 = .ok (.invokevirtual 97, 3) := by decide +kernel
theorem dX10_spread_17 : decode cX10_spread 17 = .ok (.aload_n 0, 1) := by decide +kernel
theorem dX10_spread_18 : decode cX10_spread 18 = .ok (.getfield 29, 3) := by decide +kernel
theorem dX10_spread_21 : decode cX10_spread 21 = .ok (.getfield 49, 3) := by decide +kernel
theorem dX10_spread_24 : decode cX10_spread 24 = .ok (.iconst 1, 1) := by decide +kernel
theorem dX10_spread_25 : decode cX10_spread 25 = .ok (.isub, 1) := by decide +kernel
theorem dX10_spread_26 : decode cX10_spread 26 = .ok (.istore_n 2, 1) := by decide +kernel
theorem dX10_spread_27 : decode cX10_spread 27 = .ok (.iload_n 2, 1) := by decide +kernel
theorem dX10_spread_28 : decode cX10_spread 28 = .ok (.ifCond .lt 73, 3) := by decide +kernel
theorem dX10_spread_31 : decode cX10_spread 31 = .ok (.aload_n 0, 1) := by decide +kernel
theorem dX10_spread_32 : decode cX10_spread 32 = .ok (.getfield 90, 3) := by decide +kernel
theorem dX10_spread_35 : decode cX10_spread 35 = .ok (.istore_n 3, 1) := by decide +kernel
theorem dX10_spread_36 : decode cX10_spread 36 = .ok (.iconst 0, 1) := by decide +kernel
theorem dX10_spread_37 : decode cX10_spread 37 = .ok (.istore 4, 2) := by decide +kernel
theorem dX10_spread_39 : decode cX10_spread 39 = .ok (.iload 4, 2) := by decide +kernel
theorem dX10_spread_41 : decode cX10_spread 41 = .ok (.iload_n 3, 1) := by decide +kernel
theorem dX10_spread_42 : decode cX10_spread 42 = .ok (.if_icmp .ge 53, 3) := by decide +kernel
theorem dX10_spread_45 : decode cX10_spread 45 = .ok (.aload_n 0, 1) := by decide +kernel
theorem dX10_spread_46 : decode cX10_spread 46 = .ok (.getfield 15, 3) := by decide +kernel
theorem dX10_spread_49 : decode cX10_spread 49 = .ok (.iload_n 2, 1) := by decide +kernel
theorem dX10_spread_50 : decode cX10_spread 50 = .ok (.iaload, 1) := by decide +kernel
theorem dX10_spread_51 : decode cX10_spread 51 = .ok (.istore 5, 2) := by decide +kernel
theorem dX10_spread_53 : decode cX10_spread 53 = .ok (.iload 5, 2) := by decide +kernel
theorem dX10_spread_55 : decode cX10_spread 55 = .ok (.aload_n 0, 1) := by decide +kernel
theorem dX10_spread_56 : decode cX10_spread 56 = .ok (.getfield 15, 3) := by decide +kernel
theorem dX10_spread_59 : decode cX10_spread 59 = .ok (.iload_n 2, 1) := by decide +kernel
theorem dX10_spread_60 : decode cX10_spread 60 = .ok (.iconst 1, 1) := by decide +kernel
theorem dX10_spread_61 : decode cX10_spread 61 = .ok (.iadd, 1) := by decide +kernel
theorem dX10_spread_62 : decode cX10_spread 62 = .ok (.iaload, 1) := by decide +kernel
theorem dX10_spread_63 : decode cX10_spread 63 = .ok (.if_icmp .ge 26, 3) := by decide +kernel
theorem dX10_spread_66 : decode cX10_spread 66 = .ok (.aload_n 0, 1) := by decide +kernel
theorem dX10_spread_67 : decode cX10_spread 67 = .ok (.aload_n 0, 1) := by decide +kernel
theorem dX10_spread_68 : decode cX10_spread 68 = .ok (.iload 5, 2) := by decide +kernel
theorem dX10_spread_70 : decode cX10_spread 70 = .ok (.aload_n 0, 1) := by decide +kernel
theorem dX10_spread_71 : decode cX10_spread 71 = .ok (.getfield 18, 3) := by decide +kernel
theorem dX10_spread_74 : decode cX10_spread 74 = .ok (.iload 4, 2) := by decide +kernel
theorem dX10_spread_76 : decode cX10_spread 76 = .ok (.iaload, 1) := by decide +kernel
theorem dX10_spread_77 : decode cX10_spread 77 = .ok (.invokevirtual 101, 3) := by decide +kernel
theorem dX10_spread_80 : decode cX10_spread 80 = .ok (.invokevirtual 97, 3) := by decide +kernel
theorem dX10_spread_83 : decode cX10_spread 83 = .ok (.iinc 5 1, 3) := by decide +kernel
theorem dX10_spread_86 : decode cX10_spread 86 = .ok (.goto (-33), 3) := by decide +kernel
theorem dX10_spread_89 : decode cX10_spread 89 = .ok (.iinc 4 1, 3) := by decide +kernel
theorem dX10_spread_92 : decode cX10_spread 92 = .ok (.goto (-53), 3) := by decide +kernel
theorem dX10_spread_95 : decode cX10_spread 95 = .ok (.iinc 2 (-1), 3) := by decide +kernel
theorem dX10_spread_98 : decode cX10_spread 98 = .ok (.goto (-71), 3) := by decide +kernel
theorem dX10_spread_101 : decode cX10_spread 101 = .ok (.return_, 1) := by decide +kernel
def f_X10_spread_B53b (k27 : Int32 → Wd → Option Wd) (k39 : Int32 → Int32 → Int32 → Wd → Option Wd) (k53 : Int32 → Int32 → Int32 → Int32 → Wd → Option Wd) (l2 : Int32) (l3 : Int32) (l4 : Int32) (l5 : Int32) (w : Wd) : Option Wd :=
  rdI w 26 5 (l2 + 1) fun x1 =>
  if x1 ≤ l5 then
    k39 l2 l3 (l4 + 1) w
  else
    rdI w 27 2560 l4 fun x2 =>
    bnd (f_X10_imageBy l5 x2 w) fun x3 =>
    bnd (f_X10_addImage x3 w) fun w4 =>
    k53 l2 l3 l4 (l5 + 1) w4
def f_X10_spread_L53 (k27 : Int32 → Wd → Option Wd) (k39 : Int32 → Int32 → Int32 → Wd → Option Wd) (n : Nat) : Int32 → Int32 → Int32 → Int32 → Wd → Option Wd :=
  Nat.rec (fun _ _ _ _ _ => none) (fun _ k => f_X10_spread_B53b k27 k39 k) n
set_option maxHeartbeats 4000000 in
set_option maxRecDepth 100000 in
theorem t_X10_spread_L53 {G : GT} {d : Nat} {k27 : Int32 → Wd → Option Wd} {k39 : Int32 → Int32 → Int32 → Wd → Option Wd} (hd : 29 ≤ d + 1) (h27 : ∀ (l2 : Int32) (w : Wd) (w' : Wd), k27 l2 w = some w' → U (vf G mX10_spread (d + 1)) 27 [some (.ref 24), none, some (.int l2), none, none, none] [] w (none, 70, r0, w')) (h39 : ∀ (l2 : Int32) (l3 : Int32) (l4 : Int32) (w : Wd) (w' : Wd), k39 l2 l3 l4 w = some w' → U (vf G mX10_spread (d + 1)) 39 [some (.ref 24), none, some (.int l2), some (.int l3), some (.int l4), none] [] w (none, 70, r0, w')) : ∀ (n : Nat) (l2 : Int32) (l3 : Int32) (l4 : Int32) (l5 : Int32) (w : Wd) (w' : Wd), f_X10_spread_L53 k27 k39 n l2 l3 l4 l5 w = some w' → U (vf G mX10_spread (d + 1)) 53 [some (.ref 24), none, some (.int l2), some (.int l3), some (.int l4), some (.int l5)] [] w (none, 70, r0, w') := by
  intro n
  induction n with
  | zero => intro l2 l3 l4 l5 w w' h; cases h
  | succ n h53 =>
    intro l2 l3 l4 l5 w w' h
    have h : f_X10_spread_B53b k27 k39 (f_X10_spread_L53 k27 k39 n) l2 l3 l4 l5 w = some w' := h
    unfold f_X10_spread_B53b at h
    refine V.iload (pc := 53) dX10_spread_53 rfl ?_
    refine V.aload_n (pc := 55) dX10_spread_55 rfl ?_
    refine V.getR (t := 26) (pc := 56) dX10_spread_56 f_RX10_15 k_cl10 lx_24 ly_24 rb_10_4 rr_24_4 ?_
    refine V.iload_n (pc := 59) dX10_spread_59 rfl ?_
    refine V.iconst (pc := 60) dX10_spread_60 ic_1 ?_
    refine V.iadd (pc := 61) dX10_spread_61 ?_
    obtain ⟨x1, ix1, ex1, h⟩ := rdI_e h
    refine V.ialdX (pc := 62) dX10_spread_62 lx_26 ly_26 ix1 ex1 ?_
    rcases ite_e h with ⟨c, h⟩ | ⟨c, h⟩
    · refine V.icmp_ge_t (t := 89) (pc := 63) dX10_spread_63 (by decide) c ?_
      refine V.iinc (lv' := [some (.ref 24), none, some (.int l2), some (.int l3), some (.int (l4 + 1)), some (.int l5)]) (pc := 89) dX10_spread_89 (Nat.le_of_ble_eq_true rfl) rfl rfl (v := (l4 + 1)) (by rw [show Int32.ofInt 1 = 1 from by decide]) rfl ?_
      refine V.goto (t := 39) (pc := 92) dX10_spread_92 (by decide) ?_
      refine V.weak (lv' := [some (.ref 24), none, some (.int l2), some (.int l3), some (.int (l4 + 1)), none]) (And.intro rfl (And.intro rfl (And.intro rfl (And.intro rfl trivial)))) ?_
      exact h39 l2 l3 (l4 + 1) w _ h
    · refine V.icmp_ge_f (t := 89) (pc := 63) dX10_spread_63 (by decide) c ?_
      refine V.aload_n (pc := 66) dX10_spread_66 rfl ?_
      refine V.aload_n (pc := 67) dX10_spread_67 rfl ?_
      refine V.iload (pc := 68) dX10_spread_68 rfl ?_
      refine V.aload_n (pc := 70) dX10_spread_70 rfl ?_
      refine V.getR (t := 27) (pc := 71) dX10_spread_71 f_RX10_18 k_cl10 lx_24 ly_24 rb_10_5 rr_24_5 ?_
      refine V.iload (pc := 74) dX10_spread_74 rfl ?_
      obtain ⟨x2, ix2, ex2, h⟩ := rdI_e h
      refine V.ialdX (pc := 76) dX10_spread_76 lx_27 ly_27 ix2 ex2 ?_
      obtain ⟨x3, ex3, h⟩ := bnd_e h
      refine U.callV (pc := 77) (As := [.int l5, .int x2]) (st := [.ref 24]) dX10_spread_77 l_RX10_101 (ok_X10_imageBy (by omega) l5 x2 ex3) lx_24 ly_24 cn_10 (Nat.le_of_ble_eq_true rfl) rfl rfl (Nat.le_of_ble_eq_true rfl) ?_
      obtain ⟨w4, ew4, h⟩ := bnd_e h
      refine U.callV (pc := 80) (As := [.int x3]) (st := []) dX10_spread_80 l_RX10_97 (ok_X10_addImage (by omega) x3 ew4) lx_24 ly_24 cn_10 (Nat.le_of_ble_eq_true rfl) rfl rfl (Nat.le_of_ble_eq_true rfl) ?_
      refine V.iinc (lv' := [some (.ref 24), none, some (.int l2), some (.int l3), some (.int l4), some (.int (l5 + 1))]) (pc := 83) dX10_spread_83 (Nat.le_of_ble_eq_true rfl) rfl rfl (v := (l5 + 1)) (by rw [show Int32.ofInt 1 = 1 from by decide]) rfl ?_
      refine V.goto (t := 53) (pc := 86) dX10_spread_86 (by decide) ?_
      exact h53 l2 l3 l4 (l5 + 1) w4 _ h
def f_X10_spread_B39b (k27 : Int32 → Wd → Option Wd) (k39 : Int32 → Int32 → Int32 → Wd → Option Wd) (l2 : Int32) (l3 : Int32) (l4 : Int32) (w : Wd) : Option Wd :=
  if l3 ≤ l4 then
    k27 (l2 + (-1)) w
  else
    rdI w 26 5 l2 fun x1 =>
    f_X10_spread_L53 k27 k39 FU l2 l3 l4 x1 w
def f_X10_spread_L39 (k27 : Int32 → Wd → Option Wd) (n : Nat) : Int32 → Int32 → Int32 → Wd → Option Wd :=
  Nat.rec (fun _ _ _ _ => none) (fun _ k => f_X10_spread_B39b k27 k) n
set_option maxHeartbeats 4000000 in
set_option maxRecDepth 100000 in
theorem t_X10_spread_L39 {G : GT} {d : Nat} {k27 : Int32 → Wd → Option Wd} (hd : 29 ≤ d + 1) (h27 : ∀ (l2 : Int32) (w : Wd) (w' : Wd), k27 l2 w = some w' → U (vf G mX10_spread (d + 1)) 27 [some (.ref 24), none, some (.int l2), none, none, none] [] w (none, 70, r0, w')) : ∀ (n : Nat) (l2 : Int32) (l3 : Int32) (l4 : Int32) (w : Wd) (w' : Wd), f_X10_spread_L39 k27 n l2 l3 l4 w = some w' → U (vf G mX10_spread (d + 1)) 39 [some (.ref 24), none, some (.int l2), some (.int l3), some (.int l4), none] [] w (none, 70, r0, w') := by
  intro n
  induction n with
  | zero => intro l2 l3 l4 w w' h; cases h
  | succ n h39 =>
    intro l2 l3 l4 w w' h
    have h : f_X10_spread_B39b k27 (f_X10_spread_L39 k27 n) l2 l3 l4 w = some w' := h
    unfold f_X10_spread_B39b at h
    refine V.iload (pc := 39) dX10_spread_39 rfl ?_
    refine V.iload_n (pc := 41) dX10_spread_41 rfl ?_
    rcases ite_e h with ⟨c, h⟩ | ⟨c, h⟩
    · refine V.icmp_ge_t (t := 95) (pc := 42) dX10_spread_42 (by decide) c ?_
      refine V.iinc (lv' := [some (.ref 24), none, some (.int (l2 + (-1))), some (.int l3), some (.int l4), none]) (pc := 95) dX10_spread_95 (Nat.le_of_ble_eq_true rfl) rfl rfl (v := (l2 + (-1))) (by rw [show Int32.ofInt (-1) = (-1) from by decide]) rfl ?_
      refine V.goto (t := 27) (pc := 98) dX10_spread_98 (by decide) ?_
      refine V.weak (lv' := [some (.ref 24), none, some (.int (l2 + (-1))), none, none, none]) (And.intro rfl (And.intro rfl trivial)) ?_
      exact h27 (l2 + (-1)) w _ h
    · refine V.icmp_ge_f (t := 95) (pc := 42) dX10_spread_42 (by decide) c ?_
      refine V.aload_n (pc := 45) dX10_spread_45 rfl ?_
      refine V.getR (t := 26) (pc := 46) dX10_spread_46 f_RX10_15 k_cl10 lx_24 ly_24 rb_10_4 rr_24_4 ?_
      refine V.iload_n (pc := 49) dX10_spread_49 rfl ?_
      obtain ⟨x1, ix1, ex1, h⟩ := rdI_e h
      refine V.ialdX (pc := 50) dX10_spread_50 lx_26 ly_26 ix1 ex1 ?_
      refine V.istore (lv' := [some (.ref 24), none, some (.int l2), some (.int l3), some (.int l4), some (.int x1)]) (pc := 51) dX10_spread_51 (Nat.le_of_ble_eq_true rfl) rfl rfl ?_
      exact t_X10_spread_L53 hd h27 h39 FU l2 l3 l4 x1 w _ h
def f_X10_spread_B27b (k27 : Int32 → Wd → Option Wd) (l2 : Int32) (w : Wd) : Option Wd :=
  if l2 < 0 then
    some w
  else
    f_X10_spread_L39 k27 FU l2 (w.1 24 9) 0 w
def f_X10_spread_L27 (n : Nat) : Int32 → Wd → Option Wd :=
  Nat.rec (fun _ _ => none) (fun _ k => f_X10_spread_B27b k) n
set_option maxHeartbeats 4000000 in
set_option maxRecDepth 100000 in
theorem t_X10_spread_L27 {G : GT} {d : Nat} (hd : 29 ≤ d + 1)  : ∀ (n : Nat) (l2 : Int32) (w : Wd) (w' : Wd), f_X10_spread_L27 n l2 w = some w' → U (vf G mX10_spread (d + 1)) 27 [some (.ref 24), none, some (.int l2), none, none, none] [] w (none, 70, r0, w') := by
  intro n
  induction n with
  | zero => intro l2 w w' h; cases h
  | succ n h27 =>
    intro l2 w w' h
    have h : f_X10_spread_B27b (f_X10_spread_L27 n) l2 w = some w' := h
    unfold f_X10_spread_B27b at h
    refine V.iload_n (pc := 27) dX10_spread_27 rfl ?_
    rcases ite_e h with ⟨c, h⟩ | ⟨c, h⟩
    · refine V.if_lt_t (t := 101) (pc := 28) dX10_spread_28 (by decide) c ?_
      obtain rfl := Option.some.inj h
      exact V.vret (pc := 101) dX10_spread_101 rfl (Nat.le_refl _) (Nat.le_refl _)
    · refine V.if_lt_f (t := 101) (pc := 28) dX10_spread_28 (by decide) c ?_
      refine V.aload_n (pc := 31) dX10_spread_31 rfl ?_
      refine V.getI (pc := 32) dX10_spread_32 f_RX10_90 k_cl10 lx_24 ly_24 rb_10_9 ?_
      refine V.istore_n (lv' := [some (.ref 24), none, some (.int l2), some (.int (w.1 24 9)), none, none]) (pc := 35) dX10_spread_35 (Nat.le_of_ble_eq_true rfl) rfl rfl ?_
      refine V.iconst (pc := 36) dX10_spread_36 ic_0 ?_
      refine V.istore (lv' := [some (.ref 24), none, some (.int l2), some (.int (w.1 24 9)), some (.int 0), none]) (pc := 37) dX10_spread_37 (Nat.le_of_ble_eq_true rfl) rfl rfl ?_
      exact t_X10_spread_L39 hd h27 FU l2 (w.1 24 9) 0 w _ h
def f_X10_spread (l1 : Int32) (w : Wd) : Option Wd :=
  letW (sI w 24 9 0) fun w1 =>
  bnd2 (f_X10_total  w1) fun x2 w3 =>
  if x2 ≤ 0 then
    f_X10_spread_L27  FU ((w3.1 13 6) - 1) w3
  else
    bnd (f_X10_addImage l1 w3) fun w4 =>
    f_X10_spread_L27  FU ((w4.1 13 6) - 1) w4
set_option maxHeartbeats 4000000 in
set_option maxRecDepth 100000 in
theorem ok_X10_spread {G : GT} {d : Nat} (hd : 29 ≤ d) {w : Wd} (l1 : Int32) {w' : Wd} (h : f_X10_spread l1 w = some w') : uC G yX10_spread mX10_spread d [.ref 24, .int l1] w none w' := by
  obtain ⟨d, rfl⟩ : ∃ e, d = e + 1 := ⟨d - 1, by omega⟩
  unfold f_X10_spread at h
  refine uC_of (lv := [some (.ref 24), some (.int l1), none, none, none, none]) 4 pn_X10 ⟨rfl, rfl⟩ (Nat.le_of_ble_eq_true rfl) rfl ?_
  refine V.aload_n (pc := 0) dX10_spread_0 rfl ?_
  refine V.iconst (pc := 1) dX10_spread_1 ic_0 ?_
  obtain ⟨w1, ew1, h⟩ := letW_e h
  refine V.putIX (pc := 2) dX10_spread_2 f_RX10_90 k_cl10 lx_24 ly_24 rb_10_9 (fin_I (T0 := TX10) rfl rfl rfl) ew1 ?_
  refine V.aload_n (pc := 5) dX10_spread_5 rfl ?_
  obtain ⟨x2, w3, ew3, h⟩ := bnd2_e h
  refine U.callV (pc := 6) (As := []) (st := []) dX10_spread_6 l_RX10_93 (ok_X10_total (by omega)  ew3) lx_24 ly_24 cn_10 (Nat.le_of_ble_eq_true rfl) rfl rfl (Nat.le_of_ble_eq_true rfl) ?_
  rcases ite_e h with ⟨c, h⟩ | ⟨c, h⟩
  · refine V.if_le_t (t := 17) (pc := 9) dX10_spread_9 (by decide) c ?_
    refine V.aload_n (pc := 17) dX10_spread_17 rfl ?_
    refine V.getR (t := 13) (pc := 18) dX10_spread_18 f_RX10_29 k_cl10 lx_24 ly_24 rb_10_1 rr_24_1 ?_
    refine V.getI (pc := 21) dX10_spread_21 f_RX10_49 k_cl1 lx_13 ly_13 rb_1_6 ?_
    refine V.iconst (pc := 24) dX10_spread_24 ic_1 ?_
    refine V.isub (pc := 25) dX10_spread_25 ?_
    refine V.istore_n (lv' := [some (.ref 24), some (.int l1), some (.int ((w3.1 13 6) - 1)), none, none, none]) (pc := 26) dX10_spread_26 (Nat.le_of_ble_eq_true rfl) rfl rfl ?_
    refine V.weak (lv' := [some (.ref 24), none, some (.int ((w3.1 13 6) - 1)), none, none, none]) (And.intro rfl (And.intro rfl trivial)) ?_
    exact t_X10_spread_L27 hd FU ((w3.1 13 6) - 1) w3 _ h
  · refine V.if_le_f (t := 17) (pc := 9) dX10_spread_9 (by decide) c ?_
    refine V.aload_n (pc := 12) dX10_spread_12 rfl ?_
    refine V.iload_n (pc := 13) dX10_spread_13 rfl ?_
    obtain ⟨w4, ew4, h⟩ := bnd_e h
    refine U.callV (pc := 14) (As := [.int l1]) (st := []) dX10_spread_14 l_RX10_97 (ok_X10_addImage (by omega) l1 ew4) lx_24 ly_24 cn_10 (Nat.le_of_ble_eq_true rfl) rfl rfl (Nat.le_of_ble_eq_true rfl) ?_
    refine V.aload_n (pc := 17) dX10_spread_17 rfl ?_
    refine V.getR (t := 13) (pc := 18) dX10_spread_18 f_RX10_29 k_cl10 lx_24 ly_24 rb_10_1 rr_24_1 ?_
    refine V.getI (pc := 21) dX10_spread_21 f_RX10_49 k_cl1 lx_13 ly_13 rb_1_6 ?_
    refine V.iconst (pc := 24) dX10_spread_24 ic_1 ?_
    refine V.isub (pc := 25) dX10_spread_25 ?_
    refine V.istore_n (lv' := [some (.ref 24), some (.int l1), some (.int ((w4.1 13 6) - 1)), none, none, none]) (pc := 26) dX10_spread_26 (Nat.le_of_ble_eq_true rfl) rfl rfl ?_
    refine V.weak (lv' := [some (.ref 24), none, some (.int ((w4.1 13 6) - 1)), none, none, none]) (And.intro rfl (And.intro rfl trivial)) ?_
    exact t_X10_spread_L27 hd FU ((w4.1 13 6) - 1) w4 _ h
theorem dX10_leastImage_0 : decode cX10_leastImage 0 = .ok (.aload_n 0, 1) := by decide +kernel
theorem dX10_leastImage_1 : decode cX10_leastImage 1 = .ok (.getfield 18, 3) := by decide +kernel
theorem dX10_leastImage_4 : decode cX10_leastImage 4 = .ok (.iconst 0, 1) := by decide +kernel
theorem dX10_leastImage_5 : decode cX10_leastImage 5 = .ok (.iaload, 1) := by decide +kernel
theorem dX10_leastImage_6 : decode cX10_leastImage 6 = .ok (.istore_n 1, 1) := by decide +kernel
theorem dX10_leastImage_7 : decode cX10_leastImage 7 = .ok (.iconst 1, 1) := by decide +kernel
theorem dX10_leastImage_8 : decode cX10_leastImage 8 = .ok (.istore_n 2, 1) := by decide +kernel
theorem dX10_leastImage_9 : decode cX10_leastImage 9 = .ok (.iload_n 2, 1) := by decide +kernel
theorem dX10_leastImage_10 : decode cX10_leastImage 10 = .ok (.aload_n 0, 1) := by decide +kernel
theorem dX10_leastImage_11 : decode cX10_leastImage 11 = .ok (.getfield 90, 3) := by decide +kernel
theorem dX10_leastImage_14 : decode cX10_leastImage 14 = .ok (.if_icmp .ge 20, 3) := by decide +kernel
theorem dX10_leastImage_17 : decode cX10_leastImage 17 = .ok (.iload_n 1, 1) := by decide +kernel
theorem dX10_leastImage_18 : decode cX10_leastImage 18 = .ok (.aload_n 0, 1) := by decide +kernel
theorem dX10_leastImage_19 : decode cX10_leastImage 19 = .ok (.getfield 18, 3) := by decide +kernel
theorem dX10_leastImage_22 : decode cX10_leastImage 22 = .ok (.iload_n 2, 1) := by decide +kernel
theorem dX10_leastImage_23 : decode cX10_leastImage 23 = .ok (.iaload, 1) := by decide +kernel
theorem dX10_leastImage_24 : decode cX10_leastImage 24 = .ok (.invokestatic 108, 3) := by decide +kernel
theorem dX10_leastImage_27 : decode cX10_leastImage 27 = .ok (.istore_n 1, 1) := by decide +kernel
theorem dX10_leastImage_28 : decode cX10_leastImage 28 = .ok (.iinc 2 1, 3) := by decide +kernel
theorem dX10_leastImage_31 : decode cX10_leastImage 31 = .ok (.goto (-22), 3) := by decide +kernel
theorem dX10_leastImage_34 : decode cX10_leastImage 34 = .ok (.iload_n 1, 1) := by decide +kernel
theorem dX10_leastImage_35 : decode cX10_leastImage 35 = .ok (.ireturn, 1) := by decide +kernel
def f_X10_leastImage_B9b (k9 : Int32 → Int32 → Wd → Option Int32) (l1 : Int32) (l2 : Int32) (w : Wd) : Option Int32 :=
  if (w.1 24 9) ≤ l2 then
    some l1
  else
    rdI w 27 2560 l2 fun x1 =>
    k9 (if x1 < l1 then x1 else l1) (l2 + 1) w
def f_X10_leastImage_L9 (n : Nat) : Int32 → Int32 → Wd → Option Int32 :=
  Nat.rec (fun _ _ _ => none) (fun _ k => f_X10_leastImage_B9b k) n
set_option maxHeartbeats 4000000 in
set_option maxRecDepth 100000 in
theorem t_X10_leastImage_L9 {G : GT} {d : Nat} {w : Wd} (hd : 1 ≤ d + 1)  : ∀ (n : Nat) (l1 : Int32) (l2 : Int32) (r : Int32), f_X10_leastImage_L9 n l1 l2 w = some r → U (vf G mX10_leastImage (d + 1)) 9 [some (.ref 24), some (.int l1), some (.int l2)] [] w (some (.int r), 70, r0, w) := by
  intro n
  induction n with
  | zero => intro l1 l2 r h; cases h
  | succ n h9 =>
    intro l1 l2 r h
    have h : f_X10_leastImage_B9b (f_X10_leastImage_L9 n) l1 l2 w = some r := h
    unfold f_X10_leastImage_B9b at h
    refine V.iload_n (pc := 9) dX10_leastImage_9 rfl ?_
    refine V.aload_n (pc := 10) dX10_leastImage_10 rfl ?_
    refine V.getI (pc := 11) dX10_leastImage_11 f_RX10_90 k_cl10 lx_24 ly_24 rb_10_9 ?_
    rcases ite_e h with ⟨c, h⟩ | ⟨c, h⟩
    · refine V.icmp_ge_t (t := 34) (pc := 14) dX10_leastImage_14 (by decide) c ?_
      refine V.iload_n (pc := 34) dX10_leastImage_34 rfl ?_
      obtain rfl := Option.some.inj h
      exact V.iret (pc := 35) dX10_leastImage_35 rfl (Nat.le_refl _) (Nat.le_refl _)
    · refine V.icmp_ge_f (t := 34) (pc := 14) dX10_leastImage_14 (by decide) c ?_
      refine V.iload_n (pc := 17) dX10_leastImage_17 rfl ?_
      refine V.aload_n (pc := 18) dX10_leastImage_18 rfl ?_
      refine V.getR (t := 27) (pc := 19) dX10_leastImage_19 f_RX10_18 k_cl10 lx_24 ly_24 rb_10_5 rr_24_5 ?_
      refine V.iload_n (pc := 22) dX10_leastImage_22 rfl ?_
      obtain ⟨x1, ix1, ex1, h⟩ := rdI_e h
      refine V.ialdX (pc := 23) dX10_leastImage_23 lx_27 ly_27 ix1 ex1 ?_
      refine V.mmin (pc := 24) dX10_leastImage_24 l_RX10_108 (Nat.le_add_left 1 d) (rm_13 (Nat.le_of_ble_eq_true rfl)) ?_
      refine V.istore_n (lv' := [some (.ref 24), some (.int (if x1 < l1 then x1 else l1)), some (.int l2)]) (pc := 27) dX10_leastImage_27 (Nat.le_of_ble_eq_true rfl) rfl rfl ?_
      refine V.iinc (lv' := [some (.ref 24), some (.int (if x1 < l1 then x1 else l1)), some (.int (l2 + 1))]) (pc := 28) dX10_leastImage_28 (Nat.le_of_ble_eq_true rfl) rfl rfl (v := (l2 + 1)) (by rw [show Int32.ofInt 1 = 1 from by decide]) rfl ?_
      refine V.goto (t := 9) (pc := 31) dX10_leastImage_31 (by decide) ?_
      exact h9 (if x1 < l1 then x1 else l1) (l2 + 1) _ h
def f_X10_leastImage (w : Wd) : Option Int32 :=
  rdI w 27 2560 0 fun x1 =>
  f_X10_leastImage_L9  FU x1 1 w
set_option maxHeartbeats 4000000 in
set_option maxRecDepth 100000 in
theorem ok_X10_leastImage {G : GT} {d : Nat} (hd : 1 ≤ d) {w : Wd}  {r : Int32} (h : f_X10_leastImage  w = some r) : uC G yX10_leastImage mX10_leastImage d [.ref 24] w (some (.int r)) w := by
  obtain ⟨d, rfl⟩ : ∃ e, d = e + 1 := ⟨d - 1, by omega⟩
  unfold f_X10_leastImage at h
  refine uC_of (lv := [some (.ref 24), none, none]) 2 pn_X10 ⟨rfl, rfl⟩ (Nat.le_of_ble_eq_true rfl) rfl ?_
  refine V.aload_n (pc := 0) dX10_leastImage_0 rfl ?_
  refine V.getR (t := 27) (pc := 1) dX10_leastImage_1 f_RX10_18 k_cl10 lx_24 ly_24 rb_10_5 rr_24_5 ?_
  refine V.iconst (pc := 4) dX10_leastImage_4 ic_0 ?_
  obtain ⟨x1, ix1, ex1, h⟩ := rdI_e h
  refine V.ialdX (pc := 5) dX10_leastImage_5 lx_27 ly_27 ix1 ex1 ?_
  refine V.istore_n (lv' := [some (.ref 24), some (.int x1), none]) (pc := 6) dX10_leastImage_6 (Nat.le_of_ble_eq_true rfl) rfl rfl ?_
  refine V.iconst (pc := 7) dX10_leastImage_7 ic_1 ?_
  refine V.istore_n (lv' := [some (.ref 24), some (.int x1), some (.int 1)]) (pc := 8) dX10_leastImage_8 (Nat.le_of_ble_eq_true rfl) rfl rfl ?_
  exact t_X10_leastImage_L9 hd FU x1 1 _ h
theorem dX11_image_0 : decode cX11_image 0 = .ok (.aload_n 0, 1) := by decide +kernel
theorem dX11_image_1 : decode cX11_image 1 = .ok (.getfield 28, 3) := by decide +kernel
theorem dX11_image_4 : decode cX11_image 4 = .ok (.iload_n 1, 1) := by decide +kernel
theorem dX11_image_5 : decode cX11_image 5 = .ok (.invokevirtual 118, 3) := by decide +kernel
theorem dX11_image_8 : decode cX11_image 8 = .ok (.ifCond .ne 5, 3) := by decide +kernel
theorem dX11_image_11 : decode cX11_image 11 = .ok (.iconst (-1), 1) := by decide +kernel
theorem dX11_image_12 : decode cX11_image 12 = .ok (.ireturn, 1) := by decide +kernel
theorem dX11_image_13 : decode cX11_image 13 = .ok (.aload_n 0, 1) := by decide +kernel
theorem dX11_image_14 : decode cX11_image 14 = .ok (.getfield 60, 3) := by decide +kernel
theorem dX11_image_17 : decode cX11_image 17 = .ok (.invokevirtual 244, 3) := by decide +kernel
theorem dX11_image_20 : decode cX11_image 20 = .ok (.aload_n 0, 1) := by decide +kernel
theorem dX11_image_21 : decode cX11_image 21 = .ok (.getfield 60, 3) := by decide +kernel
theorem dX11_image_24 : decode cX11_image 24 = .ok (.iload_n 1, 1) := by decide +kernel
theorem dX11_image_25 : decode cX11_image 25 = .ok (.invokevirtual 247, 3) := by decide +kernel
theorem dX11_image_28 : decode cX11_image 28 = .ok (.aload_n 0, 1) := by decide +kernel
theorem dX11_image_29 : decode cX11_image 29 = .ok (.getfield 60, 3) := by decide +kernel
theorem dX11_image_32 : decode cX11_image 32 = .ok (.invokevirtual 250, 3) := by decide +kernel
theorem dX11_image_35 : decode cX11_image 35 = .ok (.ireturn, 1) := by decide +kernel
def f_X11_image (l1 : Int32) (w : Wd) : Option (Int32 × Wd) :=
  if (f_X4_holdsSet l1 w) = 0 then
    some ((-1), w)
  else
    bnd (f_X10_forgetImages  w) fun w1 =>
    bnd (f_X10_spread l1 w1) fun w2 =>
    bnd (f_X10_leastImage  w2) fun x3 =>
    some (x3, w2)
set_option maxHeartbeats 4000000 in
set_option maxRecDepth 100000 in
theorem ok_X11_image {G : GT} {d : Nat} (hd : 30 ≤ d) {w : Wd} (l1 : Int32) {r : Int32} {w' : Wd} (h : f_X11_image l1 w = some (r, w')) : uC G yX11_image mX11_image d [.ref 0, .int l1] w (some (.int r)) w' := by
  obtain ⟨d, rfl⟩ : ∃ e, d = e + 1 := ⟨d - 1, by omega⟩
  unfold f_X11_image at h
  refine uC_of (lv := [some (.ref 0), some (.int l1)]) 0 pn_X11 ⟨rfl, rfl⟩ (Nat.le_of_ble_eq_true rfl) rfl ?_
  refine V.aload_n (pc := 0) dX11_image_0 rfl ?_
  refine V.getR (t := 6) (pc := 1) dX11_image_1 f_RX11_28 k_cl11 lx_0 ly_0 rb_11_2 rr_0_2 ?_
  refine V.iload_n (pc := 4) dX11_image_4 rfl ?_
  refine U.callV (pc := 5) (As := [.int l1]) (st := []) dX11_image_5 l_RX11_118 (ok_X4_holdsSet (by omega) l1 ) lx_6 ly_6 cn_4 (Nat.le_of_ble_eq_true rfl) rfl rfl (Nat.le_of_ble_eq_true rfl) ?_
  rcases ite_e h with ⟨c, h⟩ | ⟨c, h⟩
  · refine V.if_ne_f (t := 13) (pc := 8) dX11_image_8 (by decide) c ?_
    refine V.iconst (pc := 11) dX11_image_11 ic_m1 ?_
    obtain ⟨rfl, rfl⟩ := Prod.mk.inj (Option.some.inj h)
    exact V.iret (pc := 12) dX11_image_12 rfl (Nat.le_refl _) (Nat.le_refl _)
  · refine V.if_ne_t (t := 13) (pc := 8) dX11_image_8 (by decide) c ?_
    refine V.aload_n (pc := 13) dX11_image_13 rfl ?_
    refine V.getR (t := 24) (pc := 14) dX11_image_14 f_RX11_60 k_cl11 lx_0 ly_0 rb_11_6 rr_0_6 ?_
    obtain ⟨w1, ew1, h⟩ := bnd_e h
    refine U.callV (pc := 17) (As := []) (st := []) dX11_image_17 l_RX11_244 (ok_X10_forgetImages (by omega)  ew1) lx_24 ly_24 cn_10 (Nat.le_of_ble_eq_true rfl) rfl rfl (Nat.le_of_ble_eq_true rfl) ?_
    refine V.aload_n (pc := 20) dX11_image_20 rfl ?_
    refine V.getR (t := 24) (pc := 21) dX11_image_21 f_RX11_60 k_cl11 lx_0 ly_0 rb_11_6 rr_0_6 ?_
    refine V.iload_n (pc := 24) dX11_image_24 rfl ?_
    obtain ⟨w2, ew2, h⟩ := bnd_e h
    refine U.callV (pc := 25) (As := [.int l1]) (st := []) dX11_image_25 l_RX11_247 (ok_X10_spread (by omega) l1 ew2) lx_24 ly_24 cn_10 (Nat.le_of_ble_eq_true rfl) rfl rfl (Nat.le_of_ble_eq_true rfl) ?_
    refine V.aload_n (pc := 28) dX11_image_28 rfl ?_
    refine V.getR (t := 24) (pc := 29) dX11_image_29 f_RX11_60 k_cl11 lx_0 ly_0 rb_11_6 rr_0_6 ?_
    obtain ⟨x3, ex3, h⟩ := bnd_e h
    refine U.callV (pc := 32) (As := []) (st := []) dX11_image_32 l_RX11_250 (ok_X10_leastImage (by omega)  ex3) lx_24 ly_24 cn_10 (Nat.le_of_ble_eq_true rfl) rfl rfl (Nat.le_of_ble_eq_true rfl) ?_
    obtain ⟨rfl, rfl⟩ := Prod.mk.inj (Option.some.inj h)
    exact V.iret (pc := 35) dX11_image_35 rfl (Nat.le_refl _) (Nat.le_refl _)
theorem dX12_sentSet_0 : decode cX12_sentSet 0 = .ok (.iconst 0, 1) := by decide +kernel
theorem dX12_sentSet_1 : decode cX12_sentSet 1 = .ok (.istore_n 2, 1) := by decide +kernel
theorem dX12_sentSet_2 : decode cX12_sentSet 2 = .ok (.iconst 0, 1) := by decide +kernel
theorem dX12_sentSet_3 : decode cX12_sentSet 3 = .ok (.istore_n 3, 1) := by decide +kernel
theorem dX12_sentSet_4 : decode cX12_sentSet 4 = .ok (.iload_n 3, 1) := by decide +kernel
theorem dX12_sentSet_5 : decode cX12_sentSet 5 = .ok (.aload_n 0, 1) := by decide +kernel
theorem dX12_sentSet_6 : decode cX12_sentSet 6 = .ok (.getfield 92, 3) := by decide +kernel
theorem dX12_sentSet_9 : decode cX12_sentSet 9 = .ok (.if_icmp .ge 28, 3) := by decide +kernel
theorem dX12_sentSet_12 : decode cX12_sentSet 12 = .ok (.iload_n 1, 1) := by decide +kernel
theorem dX12_sentSet_13 : decode cX12_sentSet 13 = .ok (.iload_n 3, 1) := by decide +kernel
theorem dX12_sentSet_14 : decode cX12_sentSet 14 = .ok (.invokestatic 128, 3) := by decide +kernel
theorem dX12_sentSet_17 : decode cX12_sentSet 17 = .ok (.ifCond .eq 14, 3) := by decide +kernel
theorem dX12_sentSet_20 : decode cX12_sentSet 20 = .ok (.iload_n 2, 1) := by decide +kernel
theorem dX12_sentSet_21 : decode cX12_sentSet 21 = .ok (.iconst 1, 1) := by decide +kernel
theorem dX12_sentSet_22 : decode cX12_sentSet 22 = .ok (.aload_n 0, 1) := by decide +kernel
theorem dX12_sentSet_23 : decode cX12_sentSet 23 = .ok (.getfield 66, 3) := by decide +kernel
theorem dX12_sentSet_26 : decode cX12_sentSet 26 = .ok (.iload_n 3, 1) := by decide +kernel
theorem dX12_sentSet_27 : decode cX12_sentSet 27 = .ok (.iaload, 1) := by decide +kernel
theorem dX12_sentSet_28 : decode cX12_sentSet 28 = .ok (.ishl, 1) := by decide +kernel
theorem dX12_sentSet_29 : decode cX12_sentSet 29 = .ok (.ior, 1) := by decide +kernel
theorem dX12_sentSet_30 : decode cX12_sentSet 30 = .ok (.istore_n 2, 1) := by decide +kernel
theorem dX12_sentSet_31 : decode cX12_sentSet 31 = .ok (.iinc 3 1, 3) := by decide +kernel
theorem dX12_sentSet_34 : decode cX12_sentSet 34 = .ok (.goto (-30), 3) := by decide +kernel
theorem dX12_sentSet_37 : decode cX12_sentSet 37 = .ok (.iload_n 2, 1) := by decide +kernel
theorem dX12_sentSet_38 : decode cX12_sentSet 38 = .ok (.ireturn, 1) := by decide +kernel
def f_X12_sentSet_B4b (k4 : Int32 → Int32 → Int32 → Wd → Option Int32) (l1 : Int32) (l2 : Int32) (l3 : Int32) (w : Wd) : Option Int32 :=
  if (w.1 44 1) ≤ l3 then
    some l2
  else
    if (f_X12_has l1 l3) = 0 then
      k4 l1 l2 (l3 + 1) w
    else
      rdI w 62 16 l3 fun x1 =>
      k4 l1 (l2 ||| (1 <<< (x1 &&& 31))) (l3 + 1) w
def f_X12_sentSet_L4 (n : Nat) : Int32 → Int32 → Int32 → Wd → Option Int32 :=
  Nat.rec (fun _ _ _ _ => none) (fun _ k => f_X12_sentSet_B4b k) n
set_option maxHeartbeats 4000000 in
set_option maxRecDepth 100000 in
theorem t_X12_sentSet_L4 {G : GT} {d : Nat} {w : Wd} (hd : 1 ≤ d + 1)  : ∀ (n : Nat) (l1 : Int32) (l2 : Int32) (l3 : Int32) (r : Int32), f_X12_sentSet_L4 n l1 l2 l3 w = some r → U (vf G mX12_sentSet (d + 1)) 4 [some (.ref 44), some (.int l1), some (.int l2), some (.int l3)] [] w (some (.int r), 70, r0, w) := by
  intro n
  induction n with
  | zero => intro l1 l2 l3 r h; cases h
  | succ n h4 =>
    intro l1 l2 l3 r h
    have h : f_X12_sentSet_B4b (f_X12_sentSet_L4 n) l1 l2 l3 w = some r := h
    unfold f_X12_sentSet_B4b at h
    refine V.iload_n (pc := 4) dX12_sentSet_4 rfl ?_
    refine V.aload_n (pc := 5) dX12_sentSet_5 rfl ?_
    refine V.getI (pc := 6) dX12_sentSet_6 f_RX12_92 k_cl12 lx_44 ly_44 rb_12_1 ?_
    rcases ite_e h with ⟨c, h⟩ | ⟨c, h⟩
    · refine V.icmp_ge_t (t := 37) (pc := 9) dX12_sentSet_9 (by decide) c ?_
      refine V.iload_n (pc := 37) dX12_sentSet_37 rfl ?_
      obtain rfl := Option.some.inj h
      exact V.iret (pc := 38) dX12_sentSet_38 rfl (Nat.le_refl _) (Nat.le_refl _)
    · refine V.icmp_ge_f (t := 37) (pc := 9) dX12_sentSet_9 (by decide) c ?_
      refine V.iload_n (pc := 12) dX12_sentSet_12 rfl ?_
      refine V.iload_n (pc := 13) dX12_sentSet_13 rfl ?_
      refine U.callS (pc := 14) (As := [.int l1, .int l3]) (st := []) dX12_sentSet_14 l_RX12_128 (ok_X12_has (by omega) l1 l3 ) (Nat.le_of_ble_eq_true rfl) rfl rfl (Nat.le_of_ble_eq_true rfl) ?_
      rcases ite_e h with ⟨c, h⟩ | ⟨c, h⟩
      · refine V.if_eq_t (t := 31) (pc := 17) dX12_sentSet_17 (by decide) c ?_
        refine V.iinc (lv' := [some (.ref 44), some (.int l1), some (.int l2), some (.int (l3 + 1))]) (pc := 31) dX12_sentSet_31 (Nat.le_of_ble_eq_true rfl) rfl rfl (v := (l3 + 1)) (by rw [show Int32.ofInt 1 = 1 from by decide]) rfl ?_
        refine V.goto (t := 4) (pc := 34) dX12_sentSet_34 (by decide) ?_
        exact h4 l1 l2 (l3 + 1) _ h
      · refine V.if_eq_f (t := 31) (pc := 17) dX12_sentSet_17 (by decide) c ?_
        refine V.iload_n (pc := 20) dX12_sentSet_20 rfl ?_
        refine V.iconst (pc := 21) dX12_sentSet_21 ic_1 ?_
        refine V.aload_n (pc := 22) dX12_sentSet_22 rfl ?_
        refine V.getR (t := 62) (pc := 23) dX12_sentSet_23 f_RX12_66 k_cl12 lx_44 ly_44 rb_12_23 rr_44_23 ?_
        refine V.iload_n (pc := 26) dX12_sentSet_26 rfl ?_
        obtain ⟨x1, ix1, ex1, h⟩ := rdI_e h
        refine V.ialdX (pc := 27) dX12_sentSet_27 lx_62 ly_62 ix1 ex1 ?_
        refine V.ishl (pc := 28) dX12_sentSet_28 ?_
        refine V.ior (pc := 29) dX12_sentSet_29 ?_
        refine V.istore_n (lv' := [some (.ref 44), some (.int l1), some (.int (l2 ||| (1 <<< (x1 &&& 31)))), some (.int l3)]) (pc := 30) dX12_sentSet_30 (Nat.le_of_ble_eq_true rfl) rfl rfl ?_
        refine V.iinc (lv' := [some (.ref 44), some (.int l1), some (.int (l2 ||| (1 <<< (x1 &&& 31)))), some (.int (l3 + 1))]) (pc := 31) dX12_sentSet_31 (Nat.le_of_ble_eq_true rfl) rfl rfl (v := (l3 + 1)) (by rw [show Int32.ofInt 1 = 1 from by decide]) rfl ?_
        refine V.goto (t := 4) (pc := 34) dX12_sentSet_34 (by decide) ?_
        exact h4 l1 (l2 ||| (1 <<< (x1 &&& 31))) (l3 + 1) _ h
def f_X12_sentSet (l1 : Int32) (w : Wd) : Option Int32 :=
  f_X12_sentSet_L4  FU l1 0 0 w
set_option maxHeartbeats 4000000 in
set_option maxRecDepth 100000 in
theorem ok_X12_sentSet {G : GT} {d : Nat} (hd : 1 ≤ d) {w : Wd} (l1 : Int32) {r : Int32} (h : f_X12_sentSet l1 w = some r) : uC G yX12_sentSet mX12_sentSet d [.ref 44, .int l1] w (some (.int r)) w := by
  obtain ⟨d, rfl⟩ : ∃ e, d = e + 1 := ⟨d - 1, by omega⟩
  unfold f_X12_sentSet at h
  refine uC_of (lv := [some (.ref 44), some (.int l1), none, none]) 2 pn_X12 ⟨rfl, rfl⟩ (Nat.le_of_ble_eq_true rfl) rfl ?_
  refine V.iconst (pc := 0) dX12_sentSet_0 ic_0 ?_
  refine V.istore_n (lv' := [some (.ref 44), some (.int l1), some (.int 0), none]) (pc := 1) dX12_sentSet_1 (Nat.le_of_ble_eq_true rfl) rfl rfl ?_
  refine V.iconst (pc := 2) dX12_sentSet_2 ic_0 ?_
  refine V.istore_n (lv' := [some (.ref 44), some (.int l1), some (.int 0), some (.int 0)]) (pc := 3) dX12_sentSet_3 (Nat.le_of_ble_eq_true rfl) rfl rfl ?_
  exact t_X12_sentSet_L4 hd FU l1 0 0 _ h
theorem dX12_orbitOf_0 : decode cX12_orbitOf 0 = .ok (.iconst 0, 1) := by decide +kernel
theorem dX12_orbitOf_1 : decode cX12_orbitOf 1 = .ok (.istore_n 2, 1) := by decide +kernel
theorem dX12_orbitOf_2 : decode cX12_orbitOf 2 = .ok (.iload_n 2, 1) := by decide +kernel
theorem dX12_orbitOf_3 : decode cX12_orbitOf 3 = .ok (.aload_n 0, 1) := by decide +kernel
theorem dX12_orbitOf_4 : decode cX12_orbitOf 4 = .ok (.invokevirtual 143, 3) := by decide +kernel
theorem dX12_orbitOf_7 : decode cX12_orbitOf 7 = .ok (.if_icmp .gt 16, 3) := by decide +kernel
theorem dX12_orbitOf_10 : decode cX12_orbitOf 10 = .ok (.aload_n 0, 1) := by decide +kernel
theorem dX12_orbitOf_11 : decode cX12_orbitOf 11 = .ok (.getfield 72, 3) := by decide +kernel
theorem dX12_orbitOf_14 : decode cX12_orbitOf 14 = .ok (.iload_n 2, 1) := by decide +kernel
theorem dX12_orbitOf_15 : decode cX12_orbitOf 15 = .ok (.iconst 0, 1) := by decide +kernel
theorem dX12_orbitOf_16 : decode cX12_orbitOf 16 = .ok (.bastore, 1) := by decide +kernel
theorem dX12_orbitOf_17 : decode cX12_orbitOf 17 = .ok (.iinc 2 1, 3) := by decide +kernel
theorem dX12_orbitOf_20 : decode cX12_orbitOf 20 = .ok (.goto (-18), 3) := by decide +kernel
theorem dX12_orbitOf_23 : decode cX12_orbitOf 23 = .ok (.aload_n 0, 1) := by decide +kernel
theorem dX12_orbitOf_24 : decode cX12_orbitOf 24 = .ok (.invokevirtual 224, 3) := by decide +kernel
theorem dX12_orbitOf_27 : decode cX12_orbitOf 27 = .ok (.aload_n 0, 1) := by decide +kernel
theorem dX12_orbitOf_28 : decode cX12_orbitOf 28 = .ok (.iload_n 1, 1) := by decide +kernel
theorem dX12_orbitOf_29 : decode cX12_orbitOf 29 = .ok (.putfield 234, 3) := by decide +kernel
theorem dX12_orbitOf_32 : decode cX12_orbitOf 32 = .ok (.iconst 0, 1) := by decide +kernel
theorem dX12_orbitOf_33 : decode cX12_orbitOf 33 = .ok (.istore_n 2, 1) := by decide +kernel
theorem dX12_orbitOf_34 : decode cX12_orbitOf 34 = .ok (.iconst 1, 1) := by decide +kernel
theorem dX12_orbitOf_35 : decode cX12_orbitOf 35 = .ok (.istore_n 3, 1) := by decide +kernel
theorem dX12_orbitOf_36 : decode cX12_orbitOf 36 = .ok (.iload_n 3, 1) := by decide +kernel
theorem dX12_orbitOf_37 : decode cX12_orbitOf 37 = .ok (.ifCond .eq 65, 3) := by decide +kernel
theorem dX12_orbitOf_40 : decode cX12_orbitOf 40 = .ok (.aload_n 0, 1) := by decide +kernel
theorem dX12_orbitOf_41 : decode cX12_orbitOf 41 = .ok (.invokevirtual 227, 3) := by decide +kernel
theorem dX12_orbitOf_44 : decode cX12_orbitOf 44 = .ok (.ifCond .eq 46, 3) := by decide +kernel
theorem dX12_orbitOf_47 : decode cX12_orbitOf 47 = .ok (.aload_n 0, 1) := by decide +kernel
theorem dX12_orbitOf_48 : decode cX12_orbitOf 48 = .ok (.iload_n 1, 1) := by decide +kernel
theorem dX12_orbitOf_49 : decode cX12_orbitOf 49 = .ok (.invokevirtual 237, 3) := by decide +kernel
theorem dX12_orbitOf_52 : decode cX12_orbitOf 52 = .ok (.istore 4, 2) := by decide +kernel
theorem dX12_orbitOf_54 : decode cX12_orbitOf 54 = .ok (.aload_n 0, 1) := by decide +kernel
theorem dX12_orbitOf_55 : decode cX12_orbitOf 55 = .ok (.getfield 72, 3) := by decide +kernel
theorem dX12_orbitOf_58 : decode cX12_orbitOf 58 = .ok (.iload 4, 2) := by decide +kernel
theorem dX12_orbitOf_60 : decode cX12_orbitOf 60 = .ok (.baload, 1) := by decide +kernel
theorem dX12_orbitOf_61 : decode cX12_orbitOf 61 = .ok (.ifCond .ne 6, 3) := by decide +kernel
theorem dX12_orbitOf_64 : decode cX12_orbitOf 64 = .ok (.iinc 2 1, 3) := by decide +kernel
theorem dX12_orbitOf_67 : decode cX12_orbitOf 67 = .ok (.aload_n 0, 1) := by decide +kernel
theorem dX12_orbitOf_68 : decode cX12_orbitOf 68 = .ok (.getfield 72, 3) := by decide +kernel
theorem dX12_orbitOf_71 : decode cX12_orbitOf 71 = .ok (.iload 4, 2) := by decide +kernel
theorem dX12_orbitOf_73 : decode cX12_orbitOf 73 = .ok (.iconst 1, 1) := by decide +kernel
theorem dX12_orbitOf_74 : decode cX12_orbitOf 74 = .ok (.bastore, 1) := by decide +kernel
theorem dX12_orbitOf_75 : decode cX12_orbitOf 75 = .ok (.iload 4, 2) := by decide +kernel
theorem dX12_orbitOf_77 : decode cX12_orbitOf 77 = .ok (.aload_n 0, 1) := by decide +kernel
theorem dX12_orbitOf_78 : decode cX12_orbitOf 78 = .ok (.getfield 234, 3) := by decide +kernel
theorem dX12_orbitOf_81 : decode cX12_orbitOf 81 = .ok (.if_icmp .ge 9, 3) := by decide +kernel
theorem dX12_orbitOf_84 : decode cX12_orbitOf 84 = .ok (.aload_n 0, 1) := by decide +kernel
theorem dX12_orbitOf_85 : decode cX12_orbitOf 85 = .ok (.iload 4, 2) := by decide +kernel
theorem dX12_orbitOf_87 : decode cX12_orbitOf 87 = .ok (.putfield 234, 3) := by decide +kernel
theorem dX12_orbitOf_90 : decode cX12_orbitOf 90 = .ok (.aload_n 0, 1) := by decide +kernel
theorem dX12_orbitOf_91 : decode cX12_orbitOf 91 = .ok (.aload_n 0, 1) := by decide +kernel
theorem dX12_orbitOf_92 : decode cX12_orbitOf 92 = .ok (.getfield 92, 3) := by decide +kernel
theorem dX12_orbitOf_95 : decode cX12_orbitOf 95 = .ok (.invokevirtual 231, 3) := by decide +kernel
theorem dX12_orbitOf_98 : decode cX12_orbitOf 98 = .ok (.istore_n 3, 1) := by decide +kernel
theorem dX12_orbitOf_99 : decode cX12_orbitOf 99 = .ok (.goto (-63), 3) := by decide +kernel
theorem dX12_orbitOf_102 : decode cX12_orbitOf 102 = .ok (.iload_n 2, 1) := by decide +kernel
theorem dX12_orbitOf_103 : decode cX12_orbitOf 103 = .ok (.ireturn, 1) := by decide +kernel
def f_X12_orbitOf_J67 (k36 : Int32 → Int32 → Int32 → Wd → Option (Int32 × Wd)) (l1 : Int32) (l2 : Int32) (l4 : Int32) (w : Wd) : Option (Int32 × Wd) :=
  wrI w 64 65536 l4 1 fun w1 =>
  if (w1.1 44 26) ≤ l4 then
    bnd2 (f_X12_isNext (w1.1 44 1) w1) fun x2 w3 =>
    k36 l1 l2 x2 w3
  else
    letW (sI w1 44 26 l4) fun w4 =>
    bnd2 (f_X12_isNext (w4.1 44 1) w4) fun x5 w6 =>
    k36 l1 l2 x5 w6
set_option maxHeartbeats 4000000 in
set_option maxRecDepth 100000 in
theorem t_X12_orbitOf_J67 {G : GT} {d : Nat} {k36 : Int32 → Int32 → Int32 → Wd → Option (Int32 × Wd)} (hd : 2 ≤ d + 1) (h36 : ∀ (l1 : Int32) (l2 : Int32) (l3 : Int32) (w : Wd) (r : Int32) (w' : Wd), k36 l1 l2 l3 w = some (r, w') → U (vf G mX12_orbitOf (d + 1)) 36 [some (.ref 44), some (.int l1), some (.int l2), some (.int l3), none] [] w (some (.int r), 70, r0, w')) : ∀ (l1 : Int32) (l2 : Int32) (l4 : Int32) (w : Wd) (r : Int32) (w' : Wd), f_X12_orbitOf_J67 k36 l1 l2 l4 w = some (r, w') → U (vf G mX12_orbitOf (d + 1)) 67 [some (.ref 44), some (.int l1), some (.int l2), none, some (.int l4)] [] w (some (.int r), 70, r0, w') := by
  intro l1 l2 l4 w r w' h
  unfold f_X12_orbitOf_J67 at h
  refine V.aload_n (pc := 67) dX12_orbitOf_67 rfl ?_
  refine V.getR (t := 64) (pc := 68) dX12_orbitOf_68 f_RX12_72 k_cl12 lx_44 ly_44 rb_12_25 rr_44_25 ?_
  refine V.iload (pc := 71) dX12_orbitOf_71 rfl ?_
  refine V.iconst (pc := 73) dX12_orbitOf_73 ic_1 ?_
  obtain ⟨w1, iw1, ew1, h⟩ := wrI_e h
  refine V.zastX (pc := 74) dX12_orbitOf_74 lx_64 ly_64 (Or.inr rfl) iw1 ew1 ?_
  refine V.iload (pc := 75) dX12_orbitOf_75 rfl ?_
  refine V.aload_n (pc := 77) dX12_orbitOf_77 rfl ?_
  refine V.getI (pc := 78) dX12_orbitOf_78 f_RX12_234 k_cl12 lx_44 ly_44 rb_12_26 ?_
  rcases ite_e h with ⟨c, h⟩ | ⟨c, h⟩
  · refine V.icmp_ge_t (t := 90) (pc := 81) dX12_orbitOf_81 (by decide) c ?_
    refine V.aload_n (pc := 90) dX12_orbitOf_90 rfl ?_
    refine V.aload_n (pc := 91) dX12_orbitOf_91 rfl ?_
    refine V.getI (pc := 92) dX12_orbitOf_92 f_RX12_92 k_cl12 lx_44 ly_44 rb_12_1 ?_
    obtain ⟨x2, w3, ew3, h⟩ := bnd2_e h
    refine U.callV (pc := 95) (As := [.int (w1.1 44 1)]) (st := []) dX12_orbitOf_95 l_RX12_231 (ok_X12_isNext (by omega) (w1.1 44 1) ew3) lx_44 ly_44 cn_12 (Nat.le_of_ble_eq_true rfl) rfl rfl (Nat.le_of_ble_eq_true rfl) ?_
    refine V.istore_n (lv' := [some (.ref 44), some (.int l1), some (.int l2), some (.int x2), some (.int l4)]) (pc := 98) dX12_orbitOf_98 (Nat.le_of_ble_eq_true rfl) rfl rfl ?_
    refine V.goto (t := 36) (pc := 99) dX12_orbitOf_99 (by decide) ?_
    refine V.weak (lv' := [some (.ref 44), some (.int l1), some (.int l2), some (.int x2), none]) (And.intro rfl (And.intro rfl (And.intro rfl (And.intro rfl trivial)))) ?_
    exact h36 l1 l2 x2 w3 _ _ h
  · refine V.icmp_ge_f (t := 90) (pc := 81) dX12_orbitOf_81 (by decide) c ?_
    refine V.aload_n (pc := 84) dX12_orbitOf_84 rfl ?_
    refine V.iload (pc := 85) dX12_orbitOf_85 rfl ?_
    obtain ⟨w4, ew4, h⟩ := letW_e h
    refine V.putIX (pc := 87) dX12_orbitOf_87 f_RX12_234 k_cl12 lx_44 ly_44 rb_12_26 (fin_I (T0 := TX12) rfl rfl rfl) ew4 ?_
    refine V.aload_n (pc := 90) dX12_orbitOf_90 rfl ?_
    refine V.aload_n (pc := 91) dX12_orbitOf_91 rfl ?_
    refine V.getI (pc := 92) dX12_orbitOf_92 f_RX12_92 k_cl12 lx_44 ly_44 rb_12_1 ?_
    obtain ⟨x5, w6, ew6, h⟩ := bnd2_e h
    refine U.callV (pc := 95) (As := [.int (w4.1 44 1)]) (st := []) dX12_orbitOf_95 l_RX12_231 (ok_X12_isNext (by omega) (w4.1 44 1) ew6) lx_44 ly_44 cn_12 (Nat.le_of_ble_eq_true rfl) rfl rfl (Nat.le_of_ble_eq_true rfl) ?_
    refine V.istore_n (lv' := [some (.ref 44), some (.int l1), some (.int l2), some (.int x5), some (.int l4)]) (pc := 98) dX12_orbitOf_98 (Nat.le_of_ble_eq_true rfl) rfl rfl ?_
    refine V.goto (t := 36) (pc := 99) dX12_orbitOf_99 (by decide) ?_
    refine V.weak (lv' := [some (.ref 44), some (.int l1), some (.int l2), some (.int x5), none]) (And.intro rfl (And.intro rfl (And.intro rfl (And.intro rfl trivial)))) ?_
    exact h36 l1 l2 x5 w6 _ _ h
def f_X12_orbitOf_B36b (k36 : Int32 → Int32 → Int32 → Wd → Option (Int32 × Wd)) (l1 : Int32) (l2 : Int32) (l3 : Int32) (w : Wd) : Option (Int32 × Wd) :=
  if l3 = 0 then
    some (l2, w)
  else
    bnd2 (f_X12_isTurn  w) fun x1 w2 =>
    if x1 = 0 then
      bnd2 (f_X12_isNext (w2.1 44 1) w2) fun x3 w4 =>
      k36 l1 l2 x3 w4
    else
      bnd (f_X12_sentSet l1 w2) fun x5 =>
      rdI w2 64 65536 x5 fun x6 =>
      if x6 = 0 then
        f_X12_orbitOf_J67 k36 l1 (l2 + 1) x5 w2
      else
        f_X12_orbitOf_J67 k36 l1 l2 x5 w2
def f_X12_orbitOf_L36 (n : Nat) : Int32 → Int32 → Int32 → Wd → Option (Int32 × Wd) :=
  Nat.rec (fun _ _ _ _ => none) (fun _ k => f_X12_orbitOf_B36b k) n
set_option maxHeartbeats 4000000 in
set_option maxRecDepth 100000 in
theorem t_X12_orbitOf_L36 {G : GT} {d : Nat} (hd : 2 ≤ d + 1)  : ∀ (n : Nat) (l1 : Int32) (l2 : Int32) (l3 : Int32) (w : Wd) (r : Int32) (w' : Wd), f_X12_orbitOf_L36 n l1 l2 l3 w = some (r, w') → U (vf G mX12_orbitOf (d + 1)) 36 [some (.ref 44), some (.int l1), some (.int l2), some (.int l3), none] [] w (some (.int r), 70, r0, w') := by
  intro n
  induction n with
  | zero => intro l1 l2 l3 w r w' h; cases h
  | succ n h36 =>
    intro l1 l2 l3 w r w' h
    have h : f_X12_orbitOf_B36b (f_X12_orbitOf_L36 n) l1 l2 l3 w = some (r, w') := h
    unfold f_X12_orbitOf_B36b at h
    refine V.iload_n (pc := 36) dX12_orbitOf_36 rfl ?_
    rcases ite_e h with ⟨c, h⟩ | ⟨c, h⟩
    · refine V.if_eq_t (t := 102) (pc := 37) dX12_orbitOf_37 (by decide) c ?_
      refine V.iload_n (pc := 102) dX12_orbitOf_102 rfl ?_
      obtain ⟨rfl, rfl⟩ := Prod.mk.inj (Option.some.inj h)
      exact V.iret (pc := 103) dX12_orbitOf_103 rfl (Nat.le_refl _) (Nat.le_refl _)
    · refine V.if_eq_f (t := 102) (pc := 37) dX12_orbitOf_37 (by decide) c ?_
      refine V.aload_n (pc := 40) dX12_orbitOf_40 rfl ?_
      obtain ⟨x1, w2, ew2, h⟩ := bnd2_e h
      refine U.callV (pc := 41) (As := []) (st := []) dX12_orbitOf_41 l_RX12_227 (ok_X12_isTurn (by omega)  ew2) lx_44 ly_44 cn_12 (Nat.le_of_ble_eq_true rfl) rfl rfl (Nat.le_of_ble_eq_true rfl) ?_
      rcases ite_e h with ⟨c, h⟩ | ⟨c, h⟩
      · refine V.if_eq_t (t := 90) (pc := 44) dX12_orbitOf_44 (by decide) c ?_
        refine V.aload_n (pc := 90) dX12_orbitOf_90 rfl ?_
        refine V.aload_n (pc := 91) dX12_orbitOf_91 rfl ?_
        refine V.getI (pc := 92) dX12_orbitOf_92 f_RX12_92 k_cl12 lx_44 ly_44 rb_12_1 ?_
        obtain ⟨x3, w4, ew4, h⟩ := bnd2_e h
        refine U.callV (pc := 95) (As := [.int (w2.1 44 1)]) (st := []) dX12_orbitOf_95 l_RX12_231 (ok_X12_isNext (by omega) (w2.1 44 1) ew4) lx_44 ly_44 cn_12 (Nat.le_of_ble_eq_true rfl) rfl rfl (Nat.le_of_ble_eq_true rfl) ?_
        refine V.istore_n (lv' := [some (.ref 44), some (.int l1), some (.int l2), some (.int x3), none]) (pc := 98) dX12_orbitOf_98 (Nat.le_of_ble_eq_true rfl) rfl rfl ?_
        refine V.goto (t := 36) (pc := 99) dX12_orbitOf_99 (by decide) ?_
        exact h36 l1 l2 x3 w4 _ _ h
      · refine V.if_eq_f (t := 90) (pc := 44) dX12_orbitOf_44 (by decide) c ?_
        refine V.aload_n (pc := 47) dX12_orbitOf_47 rfl ?_
        refine V.iload_n (pc := 48) dX12_orbitOf_48 rfl ?_
        obtain ⟨x5, ex5, h⟩ := bnd_e h
        refine U.callV (pc := 49) (As := [.int l1]) (st := []) dX12_orbitOf_49 l_RX12_237 (ok_X12_sentSet (by omega) l1 ex5) lx_44 ly_44 cn_12 (Nat.le_of_ble_eq_true rfl) rfl rfl (Nat.le_of_ble_eq_true rfl) ?_
        refine V.istore (lv' := [some (.ref 44), some (.int l1), some (.int l2), some (.int l3), some (.int x5)]) (pc := 52) dX12_orbitOf_52 (Nat.le_of_ble_eq_true rfl) rfl rfl ?_
        refine V.aload_n (pc := 54) dX12_orbitOf_54 rfl ?_
        refine V.getR (t := 64) (pc := 55) dX12_orbitOf_55 f_RX12_72 k_cl12 lx_44 ly_44 rb_12_25 rr_44_25 ?_
        refine V.iload (pc := 58) dX12_orbitOf_58 rfl ?_
        obtain ⟨x6, ix6, ex6, h⟩ := rdI_e h
        refine V.zaldX (pc := 60) dX12_orbitOf_60 lx_64 ly_64 ix6 ex6 ?_
        rcases ite_e h with ⟨c, h⟩ | ⟨c, h⟩
        · refine V.if_ne_f (t := 67) (pc := 61) dX12_orbitOf_61 (by decide) c ?_
          refine V.iinc (lv' := [some (.ref 44), some (.int l1), some (.int (l2 + 1)), some (.int l3), some (.int x5)]) (pc := 64) dX12_orbitOf_64 (Nat.le_of_ble_eq_true rfl) rfl rfl (v := (l2 + 1)) (by rw [show Int32.ofInt 1 = 1 from by decide]) rfl ?_
          refine V.weak (lv' := [some (.ref 44), some (.int l1), some (.int (l2 + 1)), none, some (.int x5)]) (And.intro rfl (And.intro rfl (And.intro rfl (And.intro rfl trivial)))) ?_
          exact t_X12_orbitOf_J67 hd h36 l1 (l2 + 1) x5 w2 _ _ h
        · refine V.if_ne_t (t := 67) (pc := 61) dX12_orbitOf_61 (by decide) c ?_
          refine V.weak (lv' := [some (.ref 44), some (.int l1), some (.int l2), none, some (.int x5)]) (And.intro rfl (And.intro rfl (And.intro rfl (And.intro rfl trivial)))) ?_
          exact t_X12_orbitOf_J67 hd h36 l1 l2 x5 w2 _ _ h
def f_X12_orbitOf_B2b (k2 : Int32 → Int32 → Wd → Option (Int32 × Wd)) (l1 : Int32) (l2 : Int32) (w : Wd) : Option (Int32 × Wd) :=
  if (f_X12_all  w) < l2 then
    bnd (f_X12_firstRow  w) fun w1 =>
    letW (sI w1 44 26 l1) fun w2 =>
    f_X12_orbitOf_L36  FU l1 0 1 w2
  else
    wrI w 64 65536 l2 0 fun w3 =>
    k2 l1 (l2 + 1) w3
def f_X12_orbitOf_L2 (n : Nat) : Int32 → Int32 → Wd → Option (Int32 × Wd) :=
  Nat.rec (fun _ _ _ => none) (fun _ k => f_X12_orbitOf_B2b k) n
set_option maxHeartbeats 4000000 in
set_option maxRecDepth 100000 in
theorem t_X12_orbitOf_L2 {G : GT} {d : Nat} (hd : 2 ≤ d + 1)  : ∀ (n : Nat) (l1 : Int32) (l2 : Int32) (w : Wd) (r : Int32) (w' : Wd), f_X12_orbitOf_L2 n l1 l2 w = some (r, w') → U (vf G mX12_orbitOf (d + 1)) 2 [some (.ref 44), some (.int l1), some (.int l2), none, none] [] w (some (.int r), 70, r0, w') := by
  intro n
  induction n with
  | zero => intro l1 l2 w r w' h; cases h
  | succ n h2 =>
    intro l1 l2 w r w' h
    have h : f_X12_orbitOf_B2b (f_X12_orbitOf_L2 n) l1 l2 w = some (r, w') := h
    unfold f_X12_orbitOf_B2b at h
    refine V.iload_n (pc := 2) dX12_orbitOf_2 rfl ?_
    refine V.aload_n (pc := 3) dX12_orbitOf_3 rfl ?_
    refine U.callV (pc := 4) (As := []) (st := [.int l2]) dX12_orbitOf_4 l_RX12_143 (ok_X12_all (by omega)  ) lx_44 ly_44 cn_12 (Nat.le_of_ble_eq_true rfl) rfl rfl (Nat.le_of_ble_eq_true rfl) ?_
    rcases ite_e h with ⟨c, h⟩ | ⟨c, h⟩
    · refine V.icmp_gt_t (t := 23) (pc := 7) dX12_orbitOf_7 (by decide) c ?_
      refine V.aload_n (pc := 23) dX12_orbitOf_23 rfl ?_
      obtain ⟨w1, ew1, h⟩ := bnd_e h
      refine U.callV (pc := 24) (As := []) (st := []) dX12_orbitOf_24 l_RX12_224 (ok_X12_firstRow (by omega)  ew1) lx_44 ly_44 cn_12 (Nat.le_of_ble_eq_true rfl) rfl rfl (Nat.le_of_ble_eq_true rfl) ?_
      refine V.aload_n (pc := 27) dX12_orbitOf_27 rfl ?_
      refine V.iload_n (pc := 28) dX12_orbitOf_28 rfl ?_
      obtain ⟨w2, ew2, h⟩ := letW_e h
      refine V.putIX (pc := 29) dX12_orbitOf_29 f_RX12_234 k_cl12 lx_44 ly_44 rb_12_26 (fin_I (T0 := TX12) rfl rfl rfl) ew2 ?_
      refine V.iconst (pc := 32) dX12_orbitOf_32 ic_0 ?_
      refine V.istore_n (lv' := [some (.ref 44), some (.int l1), some (.int 0), none, none]) (pc := 33) dX12_orbitOf_33 (Nat.le_of_ble_eq_true rfl) rfl rfl ?_
      refine V.iconst (pc := 34) dX12_orbitOf_34 ic_1 ?_
      refine V.istore_n (lv' := [some (.ref 44), some (.int l1), some (.int 0), some (.int 1), none]) (pc := 35) dX12_orbitOf_35 (Nat.le_of_ble_eq_true rfl) rfl rfl ?_
      exact t_X12_orbitOf_L36 hd FU l1 0 1 w2 _ _ h
    · refine V.icmp_gt_f (t := 23) (pc := 7) dX12_orbitOf_7 (by decide) c ?_
      refine V.aload_n (pc := 10) dX12_orbitOf_10 rfl ?_
      refine V.getR (t := 64) (pc := 11) dX12_orbitOf_11 f_RX12_72 k_cl12 lx_44 ly_44 rb_12_25 rr_44_25 ?_
      refine V.iload_n (pc := 14) dX12_orbitOf_14 rfl ?_
      refine V.iconst (pc := 15) dX12_orbitOf_15 ic_0 ?_
      obtain ⟨w3, iw3, ew3, h⟩ := wrI_e h
      refine V.zastX (pc := 16) dX12_orbitOf_16 lx_64 ly_64 (Or.inl rfl) iw3 ew3 ?_
      refine V.iinc (lv' := [some (.ref 44), some (.int l1), some (.int (l2 + 1)), none, none]) (pc := 17) dX12_orbitOf_17 (Nat.le_of_ble_eq_true rfl) rfl rfl (v := (l2 + 1)) (by rw [show Int32.ofInt 1 = 1 from by decide]) rfl ?_
      refine V.goto (t := 2) (pc := 20) dX12_orbitOf_20 (by decide) ?_
      exact h2 l1 (l2 + 1) w3 _ _ h
def f_X12_orbitOf (l1 : Int32) (w : Wd) : Option (Int32 × Wd) :=
  f_X12_orbitOf_L2  FU l1 0 w
set_option maxHeartbeats 4000000 in
set_option maxRecDepth 100000 in
theorem ok_X12_orbitOf {G : GT} {d : Nat} (hd : 2 ≤ d) {w : Wd} (l1 : Int32) {r : Int32} {w' : Wd} (h : f_X12_orbitOf l1 w = some (r, w')) : uC G yX12_orbitOf mX12_orbitOf d [.ref 44, .int l1] w (some (.int r)) w' := by
  obtain ⟨d, rfl⟩ : ∃ e, d = e + 1 := ⟨d - 1, by omega⟩
  unfold f_X12_orbitOf at h
  refine uC_of (lv := [some (.ref 44), some (.int l1), none, none, none]) 3 pn_X12 ⟨rfl, rfl⟩ (Nat.le_of_ble_eq_true rfl) rfl ?_
  refine V.iconst (pc := 0) dX12_orbitOf_0 ic_0 ?_
  refine V.istore_n (lv' := [some (.ref 44), some (.int l1), some (.int 0), none, none]) (pc := 1) dX12_orbitOf_1 (Nat.le_of_ble_eq_true rfl) rfl rfl ?_
  exact t_X12_orbitOf_L2 hd FU l1 0 w _ _ h
theorem dX12_image_0 : decode cX12_image 0 = .ok (.aload_n 0, 1) := by decide +kernel
theorem dX12_image_1 : decode cX12_image 1 = .ok (.iload_n 1, 1) := by decide +kernel
theorem dX12_image_2 : decode cX12_image 2 = .ok (.invokevirtual 169, 3) := by decide +kernel
theorem dX12_image_5 : decode cX12_image 5 = .ok (.ifCond .ne 5, 3) := by decide +kernel
theorem dX12_image_8 : decode cX12_image 8 = .ok (.iconst (-1), 1) := by decide +kernel
theorem dX12_image_9 : decode cX12_image 9 = .ok (.ireturn, 1) := by decide +kernel
theorem dX12_image_10 : decode cX12_image 10 = .ok (.aload_n 0, 1) := by decide +kernel
theorem dX12_image_11 : decode cX12_image 11 = .ok (.iload_n 1, 1) := by decide +kernel
theorem dX12_image_12 : decode cX12_image 12 = .ok (.invokevirtual 240, 3) := by decide +kernel
theorem dX12_image_15 : decode cX12_image 15 = .ok (.istore_n 2, 1) := by decide +kernel
theorem dX12_image_16 : decode cX12_image 16 = .ok (.aload_n 0, 1) := by decide +kernel
theorem dX12_image_17 : decode cX12_image 17 = .ok (.getfield 234, 3) := by decide +kernel
theorem dX12_image_20 : decode cX12_image 20 = .ok (.ireturn, 1) := by decide +kernel
def f_X12_image (l1 : Int32) (w : Wd) : Option (Int32 × Wd) :=
  if (f_X12_isSet l1 w) = 0 then
    some ((-1), w)
  else
    bnd2 (f_X12_orbitOf l1 w) fun x1 w2 =>
    some ((w2.1 44 26), w2)
set_option maxHeartbeats 4000000 in
set_option maxRecDepth 100000 in
theorem ok_X12_image {G : GT} {d : Nat} (hd : 3 ≤ d) {w : Wd} (l1 : Int32) {r : Int32} {w' : Wd} (h : f_X12_image l1 w = some (r, w')) : uC G yX12_image mX12_image d [.ref 44, .int l1] w (some (.int r)) w' := by
  obtain ⟨d, rfl⟩ : ∃ e, d = e + 1 := ⟨d - 1, by omega⟩
  unfold f_X12_image at h
  refine uC_of (lv := [some (.ref 44), some (.int l1), none]) 1 pn_X12 ⟨rfl, rfl⟩ (Nat.le_of_ble_eq_true rfl) rfl ?_
  refine V.aload_n (pc := 0) dX12_image_0 rfl ?_
  refine V.iload_n (pc := 1) dX12_image_1 rfl ?_
  refine U.callV (pc := 2) (As := [.int l1]) (st := []) dX12_image_2 l_RX12_169 (ok_X12_isSet (by omega) l1 ) lx_44 ly_44 cn_12 (Nat.le_of_ble_eq_true rfl) rfl rfl (Nat.le_of_ble_eq_true rfl) ?_
  rcases ite_e h with ⟨c, h⟩ | ⟨c, h⟩
  · refine V.if_ne_f (t := 10) (pc := 5) dX12_image_5 (by decide) c ?_
    refine V.iconst (pc := 8) dX12_image_8 ic_m1 ?_
    obtain ⟨rfl, rfl⟩ := Prod.mk.inj (Option.some.inj h)
    exact V.iret (pc := 9) dX12_image_9 rfl (Nat.le_refl _) (Nat.le_refl _)
  · refine V.if_ne_t (t := 10) (pc := 5) dX12_image_5 (by decide) c ?_
    refine V.aload_n (pc := 10) dX12_image_10 rfl ?_
    refine V.iload_n (pc := 11) dX12_image_11 rfl ?_
    obtain ⟨x1, w2, ew2, h⟩ := bnd2_e h
    refine U.callV (pc := 12) (As := [.int l1]) (st := []) dX12_image_12 l_RX12_240 (ok_X12_orbitOf (by omega) l1 ew2) lx_44 ly_44 cn_12 (Nat.le_of_ble_eq_true rfl) rfl rfl (Nat.le_of_ble_eq_true rfl) ?_
    refine V.istore_n (lv' := [some (.ref 44), some (.int l1), some (.int x1)]) (pc := 15) dX12_image_15 (Nat.le_of_ble_eq_true rfl) rfl rfl ?_
    refine V.aload_n (pc := 16) dX12_image_16 rfl ?_
    refine V.getI (pc := 17) dX12_image_17 f_RX12_234 k_cl12 lx_44 ly_44 rb_12_26 ?_
    obtain ⟨rfl, rfl⟩ := Prod.mk.inj (Option.some.inj h)
    exact V.iret (pc := 20) dX12_image_20 rfl (Nat.le_refl _) (Nat.le_refl _)
theorem dX11_orbit_0 : decode cX11_orbit 0 = .ok (.aload_n 0, 1) := by decide +kernel
theorem dX11_orbit_1 : decode cX11_orbit 1 = .ok (.getfield 28, 3) := by decide +kernel
theorem dX11_orbit_4 : decode cX11_orbit 4 = .ok (.iload_n 1, 1) := by decide +kernel
theorem dX11_orbit_5 : decode cX11_orbit 5 = .ok (.invokevirtual 118, 3) := by decide +kernel
theorem dX11_orbit_8 : decode cX11_orbit 8 = .ok (.ifCond .ne 5, 3) := by decide +kernel
theorem dX11_orbit_11 : decode cX11_orbit 11 = .ok (.iconst (-1), 1) := by decide +kernel
theorem dX11_orbit_12 : decode cX11_orbit 12 = .ok (.ireturn, 1) := by decide +kernel
theorem dX11_orbit_13 : decode cX11_orbit 13 = .ok (.aload_n 0, 1) := by decide +kernel
theorem dX11_orbit_14 : decode cX11_orbit 14 = .ok (.getfield 60, 3) := by decide +kernel
theorem dX11_orbit_17 : decode cX11_orbit 17 = .ok (.invokevirtual 244, 3) := by decide +kernel
theorem dX11_orbit_20 : decode cX11_orbit 20 = .ok (.aload_n 0, 1) := by decide +kernel
theorem dX11_orbit_21 : decode cX11_orbit 21 = .ok (.getfield 60, 3) := by decide +kernel
theorem dX11_orbit_24 : decode cX11_orbit 24 = .ok (.iload_n 1, 1) := by decide +kernel
theorem dX11_orbit_25 : decode cX11_orbit 25 = .ok (.invokevirtual 247, 3) := by decide +kernel
theorem dX11_orbit_28 : decode cX11_orbit 28 = .ok (.aload_n 0, 1) := by decide +kernel
theorem dX11_orbit_29 : decode cX11_orbit 29 = .ok (.getfield 60, 3) := by decide +kernel
theorem dX11_orbit_32 : decode cX11_orbit 32 = .ok (.getfield 253, 3) := by decide +kernel
theorem dX11_orbit_35 : decode cX11_orbit 35 = .ok (.ireturn, 1) := by decide +kernel
def f_X11_orbit (l1 : Int32) (w : Wd) : Option (Int32 × Wd) :=
  if (f_X4_holdsSet l1 w) = 0 then
    some ((-1), w)
  else
    bnd (f_X10_forgetImages  w) fun w1 =>
    bnd (f_X10_spread l1 w1) fun w2 =>
    some ((w2.1 24 9), w2)
set_option maxHeartbeats 4000000 in
set_option maxRecDepth 100000 in
theorem ok_X11_orbit {G : GT} {d : Nat} (hd : 30 ≤ d) {w : Wd} (l1 : Int32) {r : Int32} {w' : Wd} (h : f_X11_orbit l1 w = some (r, w')) : uC G yX11_orbit mX11_orbit d [.ref 0, .int l1] w (some (.int r)) w' := by
  obtain ⟨d, rfl⟩ : ∃ e, d = e + 1 := ⟨d - 1, by omega⟩
  unfold f_X11_orbit at h
  refine uC_of (lv := [some (.ref 0), some (.int l1)]) 0 pn_X11 ⟨rfl, rfl⟩ (Nat.le_of_ble_eq_true rfl) rfl ?_
  refine V.aload_n (pc := 0) dX11_orbit_0 rfl ?_
  refine V.getR (t := 6) (pc := 1) dX11_orbit_1 f_RX11_28 k_cl11 lx_0 ly_0 rb_11_2 rr_0_2 ?_
  refine V.iload_n (pc := 4) dX11_orbit_4 rfl ?_
  refine U.callV (pc := 5) (As := [.int l1]) (st := []) dX11_orbit_5 l_RX11_118 (ok_X4_holdsSet (by omega) l1 ) lx_6 ly_6 cn_4 (Nat.le_of_ble_eq_true rfl) rfl rfl (Nat.le_of_ble_eq_true rfl) ?_
  rcases ite_e h with ⟨c, h⟩ | ⟨c, h⟩
  · refine V.if_ne_f (t := 13) (pc := 8) dX11_orbit_8 (by decide) c ?_
    refine V.iconst (pc := 11) dX11_orbit_11 ic_m1 ?_
    obtain ⟨rfl, rfl⟩ := Prod.mk.inj (Option.some.inj h)
    exact V.iret (pc := 12) dX11_orbit_12 rfl (Nat.le_refl _) (Nat.le_refl _)
  · refine V.if_ne_t (t := 13) (pc := 8) dX11_orbit_8 (by decide) c ?_
    refine V.aload_n (pc := 13) dX11_orbit_13 rfl ?_
    refine V.getR (t := 24) (pc := 14) dX11_orbit_14 f_RX11_60 k_cl11 lx_0 ly_0 rb_11_6 rr_0_6 ?_
    obtain ⟨w1, ew1, h⟩ := bnd_e h
    refine U.callV (pc := 17) (As := []) (st := []) dX11_orbit_17 l_RX11_244 (ok_X10_forgetImages (by omega)  ew1) lx_24 ly_24 cn_10 (Nat.le_of_ble_eq_true rfl) rfl rfl (Nat.le_of_ble_eq_true rfl) ?_
    refine V.aload_n (pc := 20) dX11_orbit_20 rfl ?_
    refine V.getR (t := 24) (pc := 21) dX11_orbit_21 f_RX11_60 k_cl11 lx_0 ly_0 rb_11_6 rr_0_6 ?_
    refine V.iload_n (pc := 24) dX11_orbit_24 rfl ?_
    obtain ⟨w2, ew2, h⟩ := bnd_e h
    refine U.callV (pc := 25) (As := [.int l1]) (st := []) dX11_orbit_25 l_RX11_247 (ok_X10_spread (by omega) l1 ew2) lx_24 ly_24 cn_10 (Nat.le_of_ble_eq_true rfl) rfl rfl (Nat.le_of_ble_eq_true rfl) ?_
    refine V.aload_n (pc := 28) dX11_orbit_28 rfl ?_
    refine V.getR (t := 24) (pc := 29) dX11_orbit_29 f_RX11_60 k_cl11 lx_0 ly_0 rb_11_6 rr_0_6 ?_
    refine V.getI (pc := 32) dX11_orbit_32 f_RX11_253 k_cl10 lx_24 ly_24 rb_10_9 ?_
    obtain ⟨rfl, rfl⟩ := Prod.mk.inj (Option.some.inj h)
    exact V.iret (pc := 35) dX11_orbit_35 rfl (Nat.le_refl _) (Nat.le_refl _)
theorem dX12_orbit_0 : decode cX12_orbit 0 = .ok (.aload_n 0, 1) := by decide +kernel
theorem dX12_orbit_1 : decode cX12_orbit 1 = .ok (.iload_n 1, 1) := by decide +kernel
theorem dX12_orbit_2 : decode cX12_orbit 2 = .ok (.invokevirtual 169, 3) := by decide +kernel
theorem dX12_orbit_5 : decode cX12_orbit 5 = .ok (.ifCond .eq 11, 3) := by decide +kernel
theorem dX12_orbit_8 : decode cX12_orbit 8 = .ok (.aload_n 0, 1) := by decide +kernel
theorem dX12_orbit_9 : decode cX12_orbit 9 = .ok (.iload_n 1, 1) := by decide +kernel
theorem dX12_orbit_10 : decode cX12_orbit 10 = .ok (.invokevirtual 240, 3) := by decide +kernel
theorem dX12_orbit_13 : decode cX12_orbit 13 = .ok (.goto 4, 3) := by decide +kernel
theorem dX12_orbit_16 : decode cX12_orbit 16 = .ok (.iconst (-1), 1) := by decide +kernel
theorem dX12_orbit_17 : decode cX12_orbit 17 = .ok (.ireturn, 1) := by decide +kernel
def f_X12_orbit (l1 : Int32) (w : Wd) : Option (Int32 × Wd) :=
  if (f_X12_isSet l1 w) = 0 then
    some ((-1), w)
  else
    bnd2 (f_X12_orbitOf l1 w) fun x1 w2 =>
    some (x1, w2)
set_option maxHeartbeats 4000000 in
set_option maxRecDepth 100000 in
theorem ok_X12_orbit {G : GT} {d : Nat} (hd : 3 ≤ d) {w : Wd} (l1 : Int32) {r : Int32} {w' : Wd} (h : f_X12_orbit l1 w = some (r, w')) : uC G yX12_orbit mX12_orbit d [.ref 44, .int l1] w (some (.int r)) w' := by
  obtain ⟨d, rfl⟩ : ∃ e, d = e + 1 := ⟨d - 1, by omega⟩
  unfold f_X12_orbit at h
  refine uC_of (lv := [some (.ref 44), some (.int l1)]) 0 pn_X12 ⟨rfl, rfl⟩ (Nat.le_of_ble_eq_true rfl) rfl ?_
  refine V.aload_n (pc := 0) dX12_orbit_0 rfl ?_
  refine V.iload_n (pc := 1) dX12_orbit_1 rfl ?_
  refine U.callV (pc := 2) (As := [.int l1]) (st := []) dX12_orbit_2 l_RX12_169 (ok_X12_isSet (by omega) l1 ) lx_44 ly_44 cn_12 (Nat.le_of_ble_eq_true rfl) rfl rfl (Nat.le_of_ble_eq_true rfl) ?_
  rcases ite_e h with ⟨c, h⟩ | ⟨c, h⟩
  · refine V.if_eq_t (t := 16) (pc := 5) dX12_orbit_5 (by decide) c ?_
    refine V.iconst (pc := 16) dX12_orbit_16 ic_m1 ?_
    obtain ⟨rfl, rfl⟩ := Prod.mk.inj (Option.some.inj h)
    exact V.iret (pc := 17) dX12_orbit_17 rfl (Nat.le_refl _) (Nat.le_refl _)
  · refine V.if_eq_f (t := 16) (pc := 5) dX12_orbit_5 (by decide) c ?_
    refine V.aload_n (pc := 8) dX12_orbit_8 rfl ?_
    refine V.iload_n (pc := 9) dX12_orbit_9 rfl ?_
    obtain ⟨x1, w2, ew2, h⟩ := bnd2_e h
    refine U.callV (pc := 10) (As := [.int l1]) (st := []) dX12_orbit_10 l_RX12_240 (ok_X12_orbitOf (by omega) l1 ew2) lx_44 ly_44 cn_12 (Nat.le_of_ble_eq_true rfl) rfl rfl (Nat.le_of_ble_eq_true rfl) ?_
    refine V.goto (t := 17) (pc := 13) dX12_orbit_13 (by decide) ?_
    obtain ⟨rfl, rfl⟩ := Prod.mk.inj (Option.some.inj h)
    exact V.iret (pc := 17) dX12_orbit_17 rfl (Nat.le_refl _) (Nat.le_refl _)
theorem dX11_orbits_0 : decode cX11_orbits 0 = .ok (.iload_n 1, 1) := by decide +kernel
theorem dX11_orbits_1 : decode cX11_orbits 1 = .ok (.invokestatic 192, 3) := by decide +kernel
theorem dX11_orbits_4 : decode cX11_orbits 4 = .ok (.ifCond .eq 7, 3) := by decide +kernel
theorem dX11_orbits_7 : decode cX11_orbits 7 = .ok (.iload_n 2, 1) := by decide +kernel
theorem dX11_orbits_8 : decode cX11_orbits 8 = .ok (.ifCond .ge 5, 3) := by decide +kernel
theorem dX11_orbits_11 : decode cX11_orbits 11 = .ok (.iconst (-1), 1) := by decide +kernel
theorem dX11_orbits_12 : decode cX11_orbits 12 = .ok (.ireturn, 1) := by decide +kernel
theorem dX11_orbits_13 : decode cX11_orbits 13 = .ok (.aload_n 0, 1) := by decide +kernel
theorem dX11_orbits_14 : decode cX11_orbits 14 = .ok (.getfield 60, 3) := by decide +kernel
theorem dX11_orbits_17 : decode cX11_orbits 17 = .ok (.invokevirtual 244, 3) := by decide +kernel
theorem dX11_orbits_20 : decode cX11_orbits 20 = .ok (.iconst 0, 1) := by decide +kernel
theorem dX11_orbits_21 : decode cX11_orbits 21 = .ok (.istore_n 3, 1) := by decide +kernel
theorem dX11_orbits_22 : decode cX11_orbits 22 = .ok (.aload_n 0, 1) := by decide +kernel
theorem dX11_orbits_23 : decode cX11_orbits 23 = .ok (.getfield 44, 3) := by decide +kernel
theorem dX11_orbits_26 : decode cX11_orbits 26 = .ok (.invokevirtual 211, 3) := by decide +kernel
theorem dX11_orbits_29 : decode cX11_orbits 29 = .ok (.istore 4, 2) := by decide +kernel
theorem dX11_orbits_31 : decode cX11_orbits 31 = .ok (.iconst 0, 1) := by decide +kernel
theorem dX11_orbits_32 : decode cX11_orbits 32 = .ok (.istore 5, 2) := by decide +kernel
theorem dX11_orbits_34 : decode cX11_orbits 34 = .ok (.iload 5, 2) := by decide +kernel
theorem dX11_orbits_36 : decode cX11_orbits 36 = .ok (.iload 4, 2) := by decide +kernel
theorem dX11_orbits_38 : decode cX11_orbits 38 = .ok (.if_icmp .ge 61, 3) := by decide +kernel
theorem dX11_orbits_41 : decode cX11_orbits 41 = .ok (.aload_n 0, 1) := by decide +kernel
theorem dX11_orbits_42 : decode cX11_orbits 42 = .ok (.getfield 44, 3) := by decide +kernel
theorem dX11_orbits_45 : decode cX11_orbits 45 = .ok (.iload 5, 2) := by decide +kernel
theorem dX11_orbits_47 : decode cX11_orbits 47 = .ok (.iload_n 1, 1) := by decide +kernel
theorem dX11_orbits_48 : decode cX11_orbits 48 = .ok (.iload_n 2, 1) := by decide +kernel
theorem dX11_orbits_49 : decode cX11_orbits 49 = .ok (.invokevirtual 214, 3) := by decide +kernel
theorem dX11_orbits_52 : decode cX11_orbits 52 = .ok (.ifCond .eq 41, 3) := by decide +kernel
theorem dX11_orbits_55 : decode cX11_orbits 55 = .ok (.aload_n 0, 1) := by decide +kernel
theorem dX11_orbits_56 : decode cX11_orbits 56 = .ok (.getfield 60, 3) := by decide +kernel
theorem dX11_orbits_59 : decode cX11_orbits 59 = .ok (.aload_n 0, 1) := by decide +kernel
theorem dX11_orbits_60 : decode cX11_orbits 60 = .ok (.getfield 44, 3) := by decide +kernel
theorem dX11_orbits_63 : decode cX11_orbits 63 = .ok (.iload 5, 2) := by decide +kernel
theorem dX11_orbits_65 : decode cX11_orbits 65 = .ok (.invokevirtual 217, 3) := by decide +kernel
theorem dX11_orbits_68 : decode cX11_orbits 68 = .ok (.invokevirtual 256, 3) := by decide +kernel
theorem dX11_orbits_71 : decode cX11_orbits 71 = .ok (.ifCond .ne 22, 3) := by decide +kernel
theorem dX11_orbits_74 : decode cX11_orbits 74 = .ok (.aload_n 0, 1) := by decide +kernel
theorem dX11_orbits_75 : decode cX11_orbits 75 = .ok (.getfield 60, 3) := by decide +kernel
theorem dX11_orbits_78 : decode cX11_orbits 78 = .ok (.aload_n 0, 1) := by decide +kernel
theorem dX11_orbits_79 : decode cX11_orbits 79 = .ok (.getfield 44, 3) := by decide +kernel
theorem dX11_orbits_82 : decode cX11_orbits 82 = .ok (.iload 5, 2) := by decide +kernel
theorem dX11_orbits_84 : decode cX11_orbits 84 = .ok (.invokevirtual 217, 3) := by decide +kernel
theorem dX11_orbits_87 : decode cX11_orbits 87 = .ok (.invokevirtual 247, 3) := by decide +kernel
theorem dX11_orbits_90 : decode cX11_orbits 90 = .ok (.iinc 3 1, 3) := by decide +kernel
theorem dX11_orbits_93 : decode cX11_orbits 93 = .ok (.iinc 5 1, 3) := by decide +kernel
theorem dX11_orbits_96 : decode cX11_orbits 96 = .ok (.goto (-62), 3) := by decide +kernel
theorem dX11_orbits_99 : decode cX11_orbits 99 = .ok (.iload_n 3, 1) := by decide +kernel
theorem dX11_orbits_100 : decode cX11_orbits 100 = .ok (.ireturn, 1) := by decide +kernel
def f_X11_orbits_B34b (k34 : Int32 → Int32 → Int32 → Int32 → Int32 → Wd → Option (Int32 × Wd)) (l1 : Int32) (l2 : Int32) (l3 : Int32) (l4 : Int32) (l5 : Int32) (w : Wd) : Option (Int32 × Wd) :=
  if l4 ≤ l5 then
    some (l3, w)
  else
    bnd (f_X3_fits l5 l1 l2 w) fun x1 =>
    if x1 = 0 then
      k34 l1 l2 l3 l4 (l5 + 1) w
    else
      bnd (f_X3_setAt l5 w) fun x2 =>
      bnd (f_X10_knowsImage x2 w) fun x3 =>
      if x3 = 0 then
        bnd (f_X3_setAt l5 w) fun x4 =>
        bnd (f_X10_spread x4 w) fun w5 =>
        k34 l1 l2 (l3 + 1) l4 (l5 + 1) w5
      else
        k34 l1 l2 l3 l4 (l5 + 1) w
def f_X11_orbits_L34 (n : Nat) : Int32 → Int32 → Int32 → Int32 → Int32 → Wd → Option (Int32 × Wd) :=
  Nat.rec (fun _ _ _ _ _ _ => none) (fun _ k => f_X11_orbits_B34b k) n
set_option maxHeartbeats 4000000 in
set_option maxRecDepth 100000 in
theorem t_X11_orbits_L34 {G : GT} {d : Nat} (hd : 30 ≤ d + 1)  : ∀ (n : Nat) (l1 : Int32) (l2 : Int32) (l3 : Int32) (l4 : Int32) (l5 : Int32) (w : Wd) (r : Int32) (w' : Wd), f_X11_orbits_L34 n l1 l2 l3 l4 l5 w = some (r, w') → U (vf G mX11_orbits (d + 1)) 34 [some (.ref 0), some (.int l1), some (.int l2), some (.int l3), some (.int l4), some (.int l5)] [] w (some (.int r), 70, r0, w') := by
  intro n
  induction n with
  | zero => intro l1 l2 l3 l4 l5 w r w' h; cases h
  | succ n h34 =>
    intro l1 l2 l3 l4 l5 w r w' h
    have h : f_X11_orbits_B34b (f_X11_orbits_L34 n) l1 l2 l3 l4 l5 w = some (r, w') := h
    unfold f_X11_orbits_B34b at h
    refine V.iload (pc := 34) dX11_orbits_34 rfl ?_
    refine V.iload (pc := 36) dX11_orbits_36 rfl ?_
    rcases ite_e h with ⟨c, h⟩ | ⟨c, h⟩
    · refine V.icmp_ge_t (t := 99) (pc := 38) dX11_orbits_38 (by decide) c ?_
      refine V.iload_n (pc := 99) dX11_orbits_99 rfl ?_
      obtain ⟨rfl, rfl⟩ := Prod.mk.inj (Option.some.inj h)
      exact V.iret (pc := 100) dX11_orbits_100 rfl (Nat.le_refl _) (Nat.le_refl _)
    · refine V.icmp_ge_f (t := 99) (pc := 38) dX11_orbits_38 (by decide) c ?_
      refine V.aload_n (pc := 41) dX11_orbits_41 rfl ?_
      refine V.getR (t := 19) (pc := 42) dX11_orbits_42 f_RX11_44 k_cl11 lx_0 ly_0 rb_11_4 rr_0_4 ?_
      refine V.iload (pc := 45) dX11_orbits_45 rfl ?_
      refine V.iload_n (pc := 47) dX11_orbits_47 rfl ?_
      refine V.iload_n (pc := 48) dX11_orbits_48 rfl ?_
      obtain ⟨x1, ex1, h⟩ := bnd_e h
      refine U.callV (pc := 49) (As := [.int l5, .int l1, .int l2]) (st := []) dX11_orbits_49 l_RX11_214 (ok_X3_fits (by omega) l5 l1 l2 ex1) lx_19 ly_19 cn_3 (Nat.le_of_ble_eq_true rfl) rfl rfl (Nat.le_of_ble_eq_true rfl) ?_
      rcases ite_e h with ⟨c, h⟩ | ⟨c, h⟩
      · refine V.if_eq_t (t := 93) (pc := 52) dX11_orbits_52 (by decide) c ?_
        refine V.iinc (lv' := [some (.ref 0), some (.int l1), some (.int l2), some (.int l3), some (.int l4), some (.int (l5 + 1))]) (pc := 93) dX11_orbits_93 (Nat.le_of_ble_eq_true rfl) rfl rfl (v := (l5 + 1)) (by rw [show Int32.ofInt 1 = 1 from by decide]) rfl ?_
        refine V.goto (t := 34) (pc := 96) dX11_orbits_96 (by decide) ?_
        exact h34 l1 l2 l3 l4 (l5 + 1) w _ _ h
      · refine V.if_eq_f (t := 93) (pc := 52) dX11_orbits_52 (by decide) c ?_
        refine V.aload_n (pc := 55) dX11_orbits_55 rfl ?_
        refine V.getR (t := 24) (pc := 56) dX11_orbits_56 f_RX11_60 k_cl11 lx_0 ly_0 rb_11_6 rr_0_6 ?_
        refine V.aload_n (pc := 59) dX11_orbits_59 rfl ?_
        refine V.getR (t := 19) (pc := 60) dX11_orbits_60 f_RX11_44 k_cl11 lx_0 ly_0 rb_11_4 rr_0_4 ?_
        refine V.iload (pc := 63) dX11_orbits_63 rfl ?_
        obtain ⟨x2, ex2, h⟩ := bnd_e h
        refine U.callV (pc := 65) (As := [.int l5]) (st := [.ref 24]) dX11_orbits_65 l_RX11_217 (ok_X3_setAt (by omega) l5 ex2) lx_19 ly_19 cn_3 (Nat.le_of_ble_eq_true rfl) rfl rfl (Nat.le_of_ble_eq_true rfl) ?_
        obtain ⟨x3, ex3, h⟩ := bnd_e h
        refine U.callV (pc := 68) (As := [.int x2]) (st := []) dX11_orbits_68 l_RX11_256 (ok_X10_knowsImage (by omega) x2 ex3) lx_24 ly_24 cn_10 (Nat.le_of_ble_eq_true rfl) rfl rfl (Nat.le_of_ble_eq_true rfl) ?_
        rcases ite_e h with ⟨c, h⟩ | ⟨c, h⟩
        · refine V.if_ne_f (t := 93) (pc := 71) dX11_orbits_71 (by decide) c ?_
          refine V.aload_n (pc := 74) dX11_orbits_74 rfl ?_
          refine V.getR (t := 24) (pc := 75) dX11_orbits_75 f_RX11_60 k_cl11 lx_0 ly_0 rb_11_6 rr_0_6 ?_
          refine V.aload_n (pc := 78) dX11_orbits_78 rfl ?_
          refine V.getR (t := 19) (pc := 79) dX11_orbits_79 f_RX11_44 k_cl11 lx_0 ly_0 rb_11_4 rr_0_4 ?_
          refine V.iload (pc := 82) dX11_orbits_82 rfl ?_
          obtain ⟨x4, ex4, h⟩ := bnd_e h
          refine U.callV (pc := 84) (As := [.int l5]) (st := [.ref 24]) dX11_orbits_84 l_RX11_217 (ok_X3_setAt (by omega) l5 ex4) lx_19 ly_19 cn_3 (Nat.le_of_ble_eq_true rfl) rfl rfl (Nat.le_of_ble_eq_true rfl) ?_
          obtain ⟨w5, ew5, h⟩ := bnd_e h
          refine U.callV (pc := 87) (As := [.int x4]) (st := []) dX11_orbits_87 l_RX11_247 (ok_X10_spread (by omega) x4 ew5) lx_24 ly_24 cn_10 (Nat.le_of_ble_eq_true rfl) rfl rfl (Nat.le_of_ble_eq_true rfl) ?_
          refine V.iinc (lv' := [some (.ref 0), some (.int l1), some (.int l2), some (.int (l3 + 1)), some (.int l4), some (.int l5)]) (pc := 90) dX11_orbits_90 (Nat.le_of_ble_eq_true rfl) rfl rfl (v := (l3 + 1)) (by rw [show Int32.ofInt 1 = 1 from by decide]) rfl ?_
          refine V.iinc (lv' := [some (.ref 0), some (.int l1), some (.int l2), some (.int (l3 + 1)), some (.int l4), some (.int (l5 + 1))]) (pc := 93) dX11_orbits_93 (Nat.le_of_ble_eq_true rfl) rfl rfl (v := (l5 + 1)) (by rw [show Int32.ofInt 1 = 1 from by decide]) rfl ?_
          refine V.goto (t := 34) (pc := 96) dX11_orbits_96 (by decide) ?_
          exact h34 l1 l2 (l3 + 1) l4 (l5 + 1) w5 _ _ h
        · refine V.if_ne_t (t := 93) (pc := 71) dX11_orbits_71 (by decide) c ?_
          refine V.iinc (lv' := [some (.ref 0), some (.int l1), some (.int l2), some (.int l3), some (.int l4), some (.int (l5 + 1))]) (pc := 93) dX11_orbits_93 (Nat.le_of_ble_eq_true rfl) rfl rfl (v := (l5 + 1)) (by rw [show Int32.ofInt 1 = 1 from by decide]) rfl ?_
          refine V.goto (t := 34) (pc := 96) dX11_orbits_96 (by decide) ?_
          exact h34 l1 l2 l3 l4 (l5 + 1) w _ _ h
def f_X11_orbits (l1 : Int32) (l2 : Int32) (w : Wd) : Option (Int32 × Wd) :=
  if (f_X11_isKind l1) = 0 then
    some ((-1), w)
  else
    if 0 ≤ l2 then
      bnd (f_X10_forgetImages  w) fun w1 =>
      bnd2 (f_X3_total  w1) fun x2 w3 =>
      f_X11_orbits_L34  FU l1 l2 0 x2 0 w3
    else
      some ((-1), w)
set_option maxHeartbeats 4000000 in
set_option maxRecDepth 100000 in
theorem ok_X11_orbits {G : GT} {d : Nat} (hd : 30 ≤ d) {w : Wd} (l1 : Int32) (l2 : Int32) {r : Int32} {w' : Wd} (h : f_X11_orbits l1 l2 w = some (r, w')) : uC G yX11_orbits mX11_orbits d [.ref 0, .int l1, .int l2] w (some (.int r)) w' := by
  obtain ⟨d, rfl⟩ : ∃ e, d = e + 1 := ⟨d - 1, by omega⟩
  unfold f_X11_orbits at h
  refine uC_of (lv := [some (.ref 0), some (.int l1), some (.int l2), none, none, none]) 3 pn_X11 ⟨rfl, rfl⟩ (Nat.le_of_ble_eq_true rfl) rfl ?_
  refine V.iload_n (pc := 0) dX11_orbits_0 rfl ?_
  refine U.callS (pc := 1) (As := [.int l1]) (st := []) dX11_orbits_1 l_RX11_192 (ok_X11_isKind (by omega) l1 ) (Nat.le_of_ble_eq_true rfl) rfl rfl (Nat.le_of_ble_eq_true rfl) ?_
  rcases ite_e h with ⟨c, h⟩ | ⟨c, h⟩
  · refine V.if_eq_t (t := 11) (pc := 4) dX11_orbits_4 (by decide) c ?_
    refine V.iconst (pc := 11) dX11_orbits_11 ic_m1 ?_
    obtain ⟨rfl, rfl⟩ := Prod.mk.inj (Option.some.inj h)
    exact V.iret (pc := 12) dX11_orbits_12 rfl (Nat.le_refl _) (Nat.le_refl _)
  · refine V.if_eq_f (t := 11) (pc := 4) dX11_orbits_4 (by decide) c ?_
    refine V.iload_n (pc := 7) dX11_orbits_7 rfl ?_
    rcases ite_e h with ⟨c, h⟩ | ⟨c, h⟩
    · refine V.if_ge_t (t := 13) (pc := 8) dX11_orbits_8 (by decide) c ?_
      refine V.aload_n (pc := 13) dX11_orbits_13 rfl ?_
      refine V.getR (t := 24) (pc := 14) dX11_orbits_14 f_RX11_60 k_cl11 lx_0 ly_0 rb_11_6 rr_0_6 ?_
      obtain ⟨w1, ew1, h⟩ := bnd_e h
      refine U.callV (pc := 17) (As := []) (st := []) dX11_orbits_17 l_RX11_244 (ok_X10_forgetImages (by omega)  ew1) lx_24 ly_24 cn_10 (Nat.le_of_ble_eq_true rfl) rfl rfl (Nat.le_of_ble_eq_true rfl) ?_
      refine V.iconst (pc := 20) dX11_orbits_20 ic_0 ?_
      refine V.istore_n (lv' := [some (.ref 0), some (.int l1), some (.int l2), some (.int 0), none, none]) (pc := 21) dX11_orbits_21 (Nat.le_of_ble_eq_true rfl) rfl rfl ?_
      refine V.aload_n (pc := 22) dX11_orbits_22 rfl ?_
      refine V.getR (t := 19) (pc := 23) dX11_orbits_23 f_RX11_44 k_cl11 lx_0 ly_0 rb_11_4 rr_0_4 ?_
      obtain ⟨x2, w3, ew3, h⟩ := bnd2_e h
      refine U.callV (pc := 26) (As := []) (st := []) dX11_orbits_26 l_RX11_211 (ok_X3_total (by omega)  ew3) lx_19 ly_19 cn_3 (Nat.le_of_ble_eq_true rfl) rfl rfl (Nat.le_of_ble_eq_true rfl) ?_
      refine V.istore (lv' := [some (.ref 0), some (.int l1), some (.int l2), some (.int 0), some (.int x2), none]) (pc := 29) dX11_orbits_29 (Nat.le_of_ble_eq_true rfl) rfl rfl ?_
      refine V.iconst (pc := 31) dX11_orbits_31 ic_0 ?_
      refine V.istore (lv' := [some (.ref 0), some (.int l1), some (.int l2), some (.int 0), some (.int x2), some (.int 0)]) (pc := 32) dX11_orbits_32 (Nat.le_of_ble_eq_true rfl) rfl rfl ?_
      exact t_X11_orbits_L34 hd FU l1 l2 0 x2 0 w3 _ _ h
    · refine V.if_ge_f (t := 13) (pc := 8) dX11_orbits_8 (by decide) c ?_
      refine V.iconst (pc := 11) dX11_orbits_11 ic_m1 ?_
      obtain ⟨rfl, rfl⟩ := Prod.mk.inj (Option.some.inj h)
      exact V.iret (pc := 12) dX11_orbits_12 rfl (Nat.le_refl _) (Nat.le_refl _)
theorem dX12_orbits_0 : decode cX12_orbits 0 = .ok (.iload_n 1, 1) := by decide +kernel
theorem dX12_orbits_1 : decode cX12_orbits 1 = .ok (.invokestatic 197, 3) := by decide +kernel
theorem dX12_orbits_4 : decode cX12_orbits 4 = .ok (.ifCond .eq 7, 3) := by decide +kernel
theorem dX12_orbits_7 : decode cX12_orbits 7 = .ok (.iload_n 2, 1) := by decide +kernel
theorem dX12_orbits_8 : decode cX12_orbits 8 = .ok (.ifCond .ge 5, 3) := by decide +kernel
theorem dX12_orbits_11 : decode cX12_orbits 11 = .ok (.iconst (-1), 1) := by decide +kernel
theorem dX12_orbits_12 : decode cX12_orbits 12 = .ok (.ireturn, 1) := by decide +kernel
theorem dX12_orbits_13 : decode cX12_orbits 13 = .ok (.iconst 0, 1) := by decide +kernel
theorem dX12_orbits_14 : decode cX12_orbits 14 = .ok (.istore_n 3, 1) := by decide +kernel
theorem dX12_orbits_15 : decode cX12_orbits 15 = .ok (.iload_n 3, 1) := by decide +kernel
theorem dX12_orbits_16 : decode cX12_orbits 16 = .ok (.aload_n 0, 1) := by decide +kernel
theorem dX12_orbits_17 : decode cX12_orbits 17 = .ok (.invokevirtual 143, 3) := by decide +kernel
theorem dX12_orbits_20 : decode cX12_orbits 20 = .ok (.if_icmp .gt 16, 3) := by decide +kernel
theorem dX12_orbits_23 : decode cX12_orbits 23 = .ok (.aload_n 0, 1) := by decide +kernel
theorem dX12_orbits_24 : decode cX12_orbits 24 = .ok (.getfield 72, 3) := by decide +kernel
theorem dX12_orbits_27 : decode cX12_orbits 27 = .ok (.iload_n 3, 1) := by decide +kernel
theorem dX12_orbits_28 : decode cX12_orbits 28 = .ok (.iconst 0, 1) := by decide +kernel
theorem dX12_orbits_29 : decode cX12_orbits 29 = .ok (.bastore, 1) := by decide +kernel
theorem dX12_orbits_30 : decode cX12_orbits 30 = .ok (.iinc 3 1, 3) := by decide +kernel
theorem dX12_orbits_33 : decode cX12_orbits 33 = .ok (.goto (-18), 3) := by decide +kernel
theorem dX12_orbits_36 : decode cX12_orbits 36 = .ok (.iconst 0, 1) := by decide +kernel
theorem dX12_orbits_37 : decode cX12_orbits 37 = .ok (.istore_n 3, 1) := by decide +kernel
theorem dX12_orbits_38 : decode cX12_orbits 38 = .ok (.iconst 0, 1) := by decide +kernel
theorem dX12_orbits_39 : decode cX12_orbits 39 = .ok (.istore 4, 2) := by decide +kernel
theorem dX12_orbits_41 : decode cX12_orbits 41 = .ok (.iload 4, 2) := by decide +kernel
theorem dX12_orbits_43 : decode cX12_orbits 43 = .ok (.aload_n 0, 1) := by decide +kernel
theorem dX12_orbits_44 : decode cX12_orbits 44 = .ok (.invokevirtual 143, 3) := by decide +kernel
theorem dX12_orbits_47 : decode cX12_orbits 47 = .ok (.if_icmp .gt 88, 3) := by decide +kernel
theorem dX12_orbits_50 : decode cX12_orbits 50 = .ok (.iload 4, 2) := by decide +kernel
theorem dX12_orbits_52 : decode cX12_orbits 52 = .ok (.invokestatic 172, 3) := by decide +kernel
theorem dX12_orbits_55 : decode cX12_orbits 55 = .ok (.iload_n 2, 1) := by decide +kernel
theorem dX12_orbits_56 : decode cX12_orbits 56 = .ok (.if_icmp .ne 73, 3) := by decide +kernel
theorem dX12_orbits_59 : decode cX12_orbits 59 = .ok (.aload_n 0, 1) := by decide +kernel
theorem dX12_orbits_60 : decode cX12_orbits 60 = .ok (.getfield 72, 3) := by decide +kernel
theorem dX12_orbits_63 : decode cX12_orbits 63 = .ok (.iload 4, 2) := by decide +kernel
theorem dX12_orbits_65 : decode cX12_orbits 65 = .ok (.baload, 1) := by decide +kernel
theorem dX12_orbits_66 : decode cX12_orbits 66 = .ok (.ifCond .ne 63, 3) := by decide +kernel
theorem dX12_orbits_69 : decode cX12_orbits 69 = .ok (.aload_n 0, 1) := by decide +kernel
theorem dX12_orbits_70 : decode cX12_orbits 70 = .ok (.iload 4, 2) := by decide +kernel
theorem dX12_orbits_72 : decode cX12_orbits 72 = .ok (.iload_n 1, 1) := by decide +kernel
theorem dX12_orbits_73 : decode cX12_orbits 73 = .ok (.invokevirtual 200, 3) := by decide +kernel
theorem dX12_orbits_76 : decode cX12_orbits 76 = .ok (.ifCond .ne 6, 3) := by decide +kernel
theorem dX12_orbits_79 : decode cX12_orbits 79 = .ok (.goto 50, 3) := by decide +kernel
theorem dX12_orbits_82 : decode cX12_orbits 82 = .ok (.iinc 3 1, 3) := by decide +kernel
theorem dX12_orbits_85 : decode cX12_orbits 85 = .ok (.aload_n 0, 1) := by decide +kernel
theorem dX12_orbits_86 : decode cX12_orbits 86 = .ok (.invokevirtual 224, 3) := by decide +kernel
theorem dX12_orbits_89 : decode cX12_orbits 89 = .ok (.iconst 1, 1) := by decide +kernel
theorem dX12_orbits_90 : decode cX12_orbits 90 = .ok (.istore 5, 2) := by decide +kernel
theorem dX12_orbits_92 : decode cX12_orbits 92 = .ok (.iload 5, 2) := by decide +kernel
theorem dX12_orbits_94 : decode cX12_orbits 94 = .ok (.ifCond .eq 35, 3) := by decide +kernel
theorem dX12_orbits_97 : decode cX12_orbits 97 = .ok (.aload_n 0, 1) := by decide +kernel
theorem dX12_orbits_98 : decode cX12_orbits 98 = .ok (.invokevirtual 227, 3) := by decide +kernel
theorem dX12_orbits_101 : decode cX12_orbits 101 = .ok (.ifCond .eq 15, 3) := by decide +kernel
theorem dX12_orbits_104 : decode cX12_orbits 104 = .ok (.aload_n 0, 1) := by decide +kernel
theorem dX12_orbits_105 : decode cX12_orbits 105 = .ok (.getfield 72, 3) := by decide +kernel
theorem dX12_orbits_108 : decode cX12_orbits 108 = .ok (.aload_n 0, 1) := by decide +kernel
theorem dX12_orbits_109 : decode cX12_orbits 109 = .ok (.iload 4, 2) := by decide +kernel
theorem dX12_orbits_111 : decode cX12_orbits 111 = .ok (.invokevirtual 237, 3) := by decide +kernel
theorem dX12_orbits_114 : decode cX12_orbits 114 = .ok (.iconst 1, 1) := by decide +kernel
theorem dX12_orbits_115 : decode cX12_orbits 115 = .ok (.bastore, 1) := by decide +kernel
theorem dX12_orbits_116 : decode cX12_orbits 116 = .ok (.aload_n 0, 1) := by decide +kernel
theorem dX12_orbits_117 : decode cX12_orbits 117 = .ok (.aload_n 0, 1) := by decide +kernel
theorem dX12_orbits_118 : decode cX12_orbits 118 = .ok (.getfield 92, 3) := by decide +kernel
theorem dX12_orbits_121 : decode cX12_orbits 121 = .ok (.invokevirtual 231, 3) := by decide +kernel
theorem dX12_orbits_124 : decode cX12_orbits 124 = .ok (.istore 5, 2) := by decide +kernel
theorem dX12_orbits_126 : decode cX12_orbits 126 = .ok (.goto (-34), 3) := by decide +kernel
theorem dX12_orbits_129 : decode cX12_orbits 129 = .ok (.iinc 4 1, 3) := by decide +kernel
theorem dX12_orbits_132 : decode cX12_orbits 132 = .ok (.goto (-91), 3) := by decide +kernel
theorem dX12_orbits_135 : decode cX12_orbits 135 = .ok (.iload_n 3, 1) := by decide +kernel
theorem dX12_orbits_136 : decode cX12_orbits 136 = .ok (.ireturn, 1) := by decide +kernel
def f_X12_orbits_B92b (k41 : Int32 → Int32 → Int32 → Int32 → Wd → Option (Int32 × Wd)) (k92 : Int32 → Int32 → Int32 → Int32 → Int32 → Wd → Option (Int32 × Wd)) (l1 : Int32) (l2 : Int32) (l3 : Int32) (l4 : Int32) (l5 : Int32) (w : Wd) : Option (Int32 × Wd) :=
  if l5 = 0 then
    k41 l1 l2 l3 (l4 + 1) w
  else
    bnd2 (f_X12_isTurn  w) fun x1 w2 =>
    if x1 = 0 then
      bnd2 (f_X12_isNext (w2.1 44 1) w2) fun x3 w4 =>
      k92 l1 l2 l3 l4 x3 w4
    else
      bnd (f_X12_sentSet l4 w2) fun x5 =>
      wrI w2 64 65536 x5 1 fun w6 =>
      bnd2 (f_X12_isNext (w6.1 44 1) w6) fun x7 w8 =>
      k92 l1 l2 l3 l4 x7 w8
def f_X12_orbits_L92 (k41 : Int32 → Int32 → Int32 → Int32 → Wd → Option (Int32 × Wd)) (n : Nat) : Int32 → Int32 → Int32 → Int32 → Int32 → Wd → Option (Int32 × Wd) :=
  Nat.rec (fun _ _ _ _ _ _ => none) (fun _ k => f_X12_orbits_B92b k41 k) n
set_option maxHeartbeats 4000000 in
set_option maxRecDepth 100000 in
theorem t_X12_orbits_L92 {G : GT} {d : Nat} {k41 : Int32 → Int32 → Int32 → Int32 → Wd → Option (Int32 × Wd)} (hd : 4 ≤ d + 1) (h41 : ∀ (l1 : Int32) (l2 : Int32) (l3 : Int32) (l4 : Int32) (w : Wd) (r : Int32) (w' : Wd), k41 l1 l2 l3 l4 w = some (r, w') → U (vf G mX12_orbits (d + 1)) 41 [some (.ref 44), some (.int l1), some (.int l2), some (.int l3), some (.int l4), none] [] w (some (.int r), 70, r0, w')) : ∀ (n : Nat) (l1 : Int32) (l2 : Int32) (l3 : Int32) (l4 : Int32) (l5 : Int32) (w : Wd) (r : Int32) (w' : Wd), f_X12_orbits_L92 k41 n l1 l2 l3 l4 l5 w = some (r, w') → U (vf G mX12_orbits (d + 1)) 92 [some (.ref 44), some (.int l1), some (.int l2), some (.int l3), some (.int l4), some (.int l5)] [] w (some (.int r), 70, r0, w') := by
  intro n
  induction n with
  | zero => intro l1 l2 l3 l4 l5 w r w' h; cases h
  | succ n h92 =>
    intro l1 l2 l3 l4 l5 w r w' h
    have h : f_X12_orbits_B92b k41 (f_X12_orbits_L92 k41 n) l1 l2 l3 l4 l5 w = some (r, w') := h
    unfold f_X12_orbits_B92b at h
    refine V.iload (pc := 92) dX12_orbits_92 rfl ?_
    rcases ite_e h with ⟨c, h⟩ | ⟨c, h⟩
    · refine V.if_eq_t (t := 129) (pc := 94) dX12_orbits_94 (by decide) c ?_
      refine V.iinc (lv' := [some (.ref 44), some (.int l1), some (.int l2), some (.int l3), some (.int (l4 + 1)), some (.int l5)]) (pc := 129) dX12_orbits_129 (Nat.le_of_ble_eq_true rfl) rfl rfl (v := (l4 + 1)) (by rw [show Int32.ofInt 1 = 1 from by decide]) rfl ?_
      refine V.goto (t := 41) (pc := 132) dX12_orbits_132 (by decide) ?_
      refine V.weak (lv' := [some (.ref 44), some (.int l1), some (.int l2), some (.int l3), some (.int (l4 + 1)), none]) (And.intro rfl (And.intro rfl (And.intro rfl (And.intro rfl (And.intro rfl trivial))))) ?_
      exact h41 l1 l2 l3 (l4 + 1) w _ _ h
    · refine V.if_eq_f (t := 129) (pc := 94) dX12_orbits_94 (by decide) c ?_
      refine V.aload_n (pc := 97) dX12_orbits_97 rfl ?_
      obtain ⟨x1, w2, ew2, h⟩ := bnd2_e h
      refine U.callV (pc := 98) (As := []) (st := []) dX12_orbits_98 l_RX12_227 (ok_X12_isTurn (by omega)  ew2) lx_44 ly_44 cn_12 (Nat.le_of_ble_eq_true rfl) rfl rfl (Nat.le_of_ble_eq_true rfl) ?_
      rcases ite_e h with ⟨c, h⟩ | ⟨c, h⟩
      · refine V.if_eq_t (t := 116) (pc := 101) dX12_orbits_101 (by decide) c ?_
        refine V.aload_n (pc := 116) dX12_orbits_116 rfl ?_
        refine V.aload_n (pc := 117) dX12_orbits_117 rfl ?_
        refine V.getI (pc := 118) dX12_orbits_118 f_RX12_92 k_cl12 lx_44 ly_44 rb_12_1 ?_
        obtain ⟨x3, w4, ew4, h⟩ := bnd2_e h
        refine U.callV (pc := 121) (As := [.int (w2.1 44 1)]) (st := []) dX12_orbits_121 l_RX12_231 (ok_X12_isNext (by omega) (w2.1 44 1) ew4) lx_44 ly_44 cn_12 (Nat.le_of_ble_eq_true rfl) rfl rfl (Nat.le_of_ble_eq_true rfl) ?_
        refine V.istore (lv' := [some (.ref 44), some (.int l1), some (.int l2), some (.int l3), some (.int l4), some (.int x3)]) (pc := 124) dX12_orbits_124 (Nat.le_of_ble_eq_true rfl) rfl rfl ?_
        refine V.goto (t := 92) (pc := 126) dX12_orbits_126 (by decide) ?_
        exact h92 l1 l2 l3 l4 x3 w4 _ _ h
      · refine V.if_eq_f (t := 116) (pc := 101) dX12_orbits_101 (by decide) c ?_
        refine V.aload_n (pc := 104) dX12_orbits_104 rfl ?_
        refine V.getR (t := 64) (pc := 105) dX12_orbits_105 f_RX12_72 k_cl12 lx_44 ly_44 rb_12_25 rr_44_25 ?_
        refine V.aload_n (pc := 108) dX12_orbits_108 rfl ?_
        refine V.iload (pc := 109) dX12_orbits_109 rfl ?_
        obtain ⟨x5, ex5, h⟩ := bnd_e h
        refine U.callV (pc := 111) (As := [.int l4]) (st := [.ref 64]) dX12_orbits_111 l_RX12_237 (ok_X12_sentSet (by omega) l4 ex5) lx_44 ly_44 cn_12 (Nat.le_of_ble_eq_true rfl) rfl rfl (Nat.le_of_ble_eq_true rfl) ?_
        refine V.iconst (pc := 114) dX12_orbits_114 ic_1 ?_
        obtain ⟨w6, iw6, ew6, h⟩ := wrI_e h
        refine V.zastX (pc := 115) dX12_orbits_115 lx_64 ly_64 (Or.inr rfl) iw6 ew6 ?_
        refine V.aload_n (pc := 116) dX12_orbits_116 rfl ?_
        refine V.aload_n (pc := 117) dX12_orbits_117 rfl ?_
        refine V.getI (pc := 118) dX12_orbits_118 f_RX12_92 k_cl12 lx_44 ly_44 rb_12_1 ?_
        obtain ⟨x7, w8, ew8, h⟩ := bnd2_e h
        refine U.callV (pc := 121) (As := [.int (w6.1 44 1)]) (st := []) dX12_orbits_121 l_RX12_231 (ok_X12_isNext (by omega) (w6.1 44 1) ew8) lx_44 ly_44 cn_12 (Nat.le_of_ble_eq_true rfl) rfl rfl (Nat.le_of_ble_eq_true rfl) ?_
        refine V.istore (lv' := [some (.ref 44), some (.int l1), some (.int l2), some (.int l3), some (.int l4), some (.int x7)]) (pc := 124) dX12_orbits_124 (Nat.le_of_ble_eq_true rfl) rfl rfl ?_
        refine V.goto (t := 92) (pc := 126) dX12_orbits_126 (by decide) ?_
        exact h92 l1 l2 l3 l4 x7 w8 _ _ h
def f_X12_orbits_B41b (k41 : Int32 → Int32 → Int32 → Int32 → Wd → Option (Int32 × Wd)) (l1 : Int32) (l2 : Int32) (l3 : Int32) (l4 : Int32) (w : Wd) : Option (Int32 × Wd) :=
  if (f_X12_all  w) < l4 then
    some (l3, w)
  else
    bnd (f_X12_ones l4) fun x1 =>
    if x1 = l2 then
      rdI w 64 65536 l4 fun x2 =>
      if x2 = 0 then
        bnd (f_X12_isOf l4 l1 w) fun x3 =>
        if x3 = 0 then
          k41 l1 l2 l3 (l4 + 1) w
        else
          bnd (f_X12_firstRow  w) fun w4 =>
          f_X12_orbits_L92 k41 FU l1 l2 (l3 + 1) l4 1 w4
      else
        k41 l1 l2 l3 (l4 + 1) w
    else
      k41 l1 l2 l3 (l4 + 1) w
def f_X12_orbits_L41 (n : Nat) : Int32 → Int32 → Int32 → Int32 → Wd → Option (Int32 × Wd) :=
  Nat.rec (fun _ _ _ _ _ => none) (fun _ k => f_X12_orbits_B41b k) n
set_option maxHeartbeats 4000000 in
set_option maxRecDepth 100000 in
theorem t_X12_orbits_L41 {G : GT} {d : Nat} (hd : 4 ≤ d + 1)  : ∀ (n : Nat) (l1 : Int32) (l2 : Int32) (l3 : Int32) (l4 : Int32) (w : Wd) (r : Int32) (w' : Wd), f_X12_orbits_L41 n l1 l2 l3 l4 w = some (r, w') → U (vf G mX12_orbits (d + 1)) 41 [some (.ref 44), some (.int l1), some (.int l2), some (.int l3), some (.int l4), none] [] w (some (.int r), 70, r0, w') := by
  intro n
  induction n with
  | zero => intro l1 l2 l3 l4 w r w' h; cases h
  | succ n h41 =>
    intro l1 l2 l3 l4 w r w' h
    have h : f_X12_orbits_B41b (f_X12_orbits_L41 n) l1 l2 l3 l4 w = some (r, w') := h
    unfold f_X12_orbits_B41b at h
    refine V.iload (pc := 41) dX12_orbits_41 rfl ?_
    refine V.aload_n (pc := 43) dX12_orbits_43 rfl ?_
    refine U.callV (pc := 44) (As := []) (st := [.int l4]) dX12_orbits_44 l_RX12_143 (ok_X12_all (by omega)  ) lx_44 ly_44 cn_12 (Nat.le_of_ble_eq_true rfl) rfl rfl (Nat.le_of_ble_eq_true rfl) ?_
    rcases ite_e h with ⟨c, h⟩ | ⟨c, h⟩
    · refine V.icmp_gt_t (t := 135) (pc := 47) dX12_orbits_47 (by decide) c ?_
      refine V.iload_n (pc := 135) dX12_orbits_135 rfl ?_
      obtain ⟨rfl, rfl⟩ := Prod.mk.inj (Option.some.inj h)
      exact V.iret (pc := 136) dX12_orbits_136 rfl (Nat.le_refl _) (Nat.le_refl _)
    · refine V.icmp_gt_f (t := 135) (pc := 47) dX12_orbits_47 (by decide) c ?_
      refine V.iload (pc := 50) dX12_orbits_50 rfl ?_
      obtain ⟨x1, ex1, h⟩ := bnd_e h
      refine U.callS (pc := 52) (As := [.int l4]) (st := []) dX12_orbits_52 l_RX12_172 (ok_X12_ones (by omega) l4 ex1) (Nat.le_of_ble_eq_true rfl) rfl rfl (Nat.le_of_ble_eq_true rfl) ?_
      refine V.iload_n (pc := 55) dX12_orbits_55 rfl ?_
      rcases ite_e h with ⟨c, h⟩ | ⟨c, h⟩
      · refine V.icmp_ne_f (t := 129) (pc := 56) dX12_orbits_56 (by decide) c ?_
        refine V.aload_n (pc := 59) dX12_orbits_59 rfl ?_
        refine V.getR (t := 64) (pc := 60) dX12_orbits_60 f_RX12_72 k_cl12 lx_44 ly_44 rb_12_25 rr_44_25 ?_
        refine V.iload (pc := 63) dX12_orbits_63 rfl ?_
        obtain ⟨x2, ix2, ex2, h⟩ := rdI_e h
        refine V.zaldX (pc := 65) dX12_orbits_65 lx_64 ly_64 ix2 ex2 ?_
        rcases ite_e h with ⟨c, h⟩ | ⟨c, h⟩
        · refine V.if_ne_f (t := 129) (pc := 66) dX12_orbits_66 (by decide) c ?_
          refine V.aload_n (pc := 69) dX12_orbits_69 rfl ?_
          refine V.iload (pc := 70) dX12_orbits_70 rfl ?_
          refine V.iload_n (pc := 72) dX12_orbits_72 rfl ?_
          obtain ⟨x3, ex3, h⟩ := bnd_e h
          refine U.callV (pc := 73) (As := [.int l4, .int l1]) (st := []) dX12_orbits_73 l_RX12_200 (ok_X12_isOf (by omega) l4 l1 ex3) lx_44 ly_44 cn_12 (Nat.le_of_ble_eq_true rfl) rfl rfl (Nat.le_of_ble_eq_true rfl) ?_
          rcases ite_e h with ⟨c, h⟩ | ⟨c, h⟩
          · refine V.if_ne_f (t := 82) (pc := 76) dX12_orbits_76 (by decide) c ?_
            refine V.goto (t := 129) (pc := 79) dX12_orbits_79 (by decide) ?_
            refine V.iinc (lv' := [some (.ref 44), some (.int l1), some (.int l2), some (.int l3), some (.int (l4 + 1)), none]) (pc := 129) dX12_orbits_129 (Nat.le_of_ble_eq_true rfl) rfl rfl (v := (l4 + 1)) (by rw [show Int32.ofInt 1 = 1 from by decide]) rfl ?_
            refine V.goto (t := 41) (pc := 132) dX12_orbits_132 (by decide) ?_
            exact h41 l1 l2 l3 (l4 + 1) w _ _ h
          · refine V.if_ne_t (t := 82) (pc := 76) dX12_orbits_76 (by decide) c ?_
            refine V.iinc (lv' := [some (.ref 44), some (.int l1), some (.int l2), some (.int (l3 + 1)), some (.int l4), none]) (pc := 82) dX12_orbits_82 (Nat.le_of_ble_eq_true rfl) rfl rfl (v := (l3 + 1)) (by rw [show Int32.ofInt 1 = 1 from by decide]) rfl ?_
            refine V.aload_n (pc := 85) dX12_orbits_85 rfl ?_
            obtain ⟨w4, ew4, h⟩ := bnd_e h
            refine U.callV (pc := 86) (As := []) (st := []) dX12_orbits_86 l_RX12_224 (ok_X12_firstRow (by omega)  ew4) lx_44 ly_44 cn_12 (Nat.le_of_ble_eq_true rfl) rfl rfl (Nat.le_of_ble_eq_true rfl) ?_
            refine V.iconst (pc := 89) dX12_orbits_89 ic_1 ?_
            refine V.istore (lv' := [some (.ref 44), some (.int l1), some (.int l2), some (.int (l3 + 1)), some (.int l4), some (.int 1)]) (pc := 90) dX12_orbits_90 (Nat.le_of_ble_eq_true rfl) rfl rfl ?_
            exact t_X12_orbits_L92 hd h41 FU l1 l2 (l3 + 1) l4 1 w4 _ _ h
        · refine V.if_ne_t (t := 129) (pc := 66) dX12_orbits_66 (by decide) c ?_
          refine V.iinc (lv' := [some (.ref 44), some (.int l1), some (.int l2), some (.int l3), some (.int (l4 + 1)), none]) (pc := 129) dX12_orbits_129 (Nat.le_of_ble_eq_true rfl) rfl rfl (v := (l4 + 1)) (by rw [show Int32.ofInt 1 = 1 from by decide]) rfl ?_
          refine V.goto (t := 41) (pc := 132) dX12_orbits_132 (by decide) ?_
          exact h41 l1 l2 l3 (l4 + 1) w _ _ h
      · refine V.icmp_ne_t (t := 129) (pc := 56) dX12_orbits_56 (by decide) c ?_
        refine V.iinc (lv' := [some (.ref 44), some (.int l1), some (.int l2), some (.int l3), some (.int (l4 + 1)), none]) (pc := 129) dX12_orbits_129 (Nat.le_of_ble_eq_true rfl) rfl rfl (v := (l4 + 1)) (by rw [show Int32.ofInt 1 = 1 from by decide]) rfl ?_
        refine V.goto (t := 41) (pc := 132) dX12_orbits_132 (by decide) ?_
        exact h41 l1 l2 l3 (l4 + 1) w _ _ h
def f_X12_orbits_B15b (k15 : Int32 → Int32 → Int32 → Wd → Option (Int32 × Wd)) (l1 : Int32) (l2 : Int32) (l3 : Int32) (w : Wd) : Option (Int32 × Wd) :=
  if (f_X12_all  w) < l3 then
    f_X12_orbits_L41  FU l1 l2 0 0 w
  else
    wrI w 64 65536 l3 0 fun w1 =>
    k15 l1 l2 (l3 + 1) w1
def f_X12_orbits_L15 (n : Nat) : Int32 → Int32 → Int32 → Wd → Option (Int32 × Wd) :=
  Nat.rec (fun _ _ _ _ => none) (fun _ k => f_X12_orbits_B15b k) n
set_option maxHeartbeats 4000000 in
set_option maxRecDepth 100000 in
theorem t_X12_orbits_L15 {G : GT} {d : Nat} (hd : 4 ≤ d + 1)  : ∀ (n : Nat) (l1 : Int32) (l2 : Int32) (l3 : Int32) (w : Wd) (r : Int32) (w' : Wd), f_X12_orbits_L15 n l1 l2 l3 w = some (r, w') → U (vf G mX12_orbits (d + 1)) 15 [some (.ref 44), some (.int l1), some (.int l2), some (.int l3), none, none] [] w (some (.int r), 70, r0, w') := by
  intro n
  induction n with
  | zero => intro l1 l2 l3 w r w' h; cases h
  | succ n h15 =>
    intro l1 l2 l3 w r w' h
    have h : f_X12_orbits_B15b (f_X12_orbits_L15 n) l1 l2 l3 w = some (r, w') := h
    unfold f_X12_orbits_B15b at h
    refine V.iload_n (pc := 15) dX12_orbits_15 rfl ?_
    refine V.aload_n (pc := 16) dX12_orbits_16 rfl ?_
    refine U.callV (pc := 17) (As := []) (st := [.int l3]) dX12_orbits_17 l_RX12_143 (ok_X12_all (by omega)  ) lx_44 ly_44 cn_12 (Nat.le_of_ble_eq_true rfl) rfl rfl (Nat.le_of_ble_eq_true rfl) ?_
    rcases ite_e h with ⟨c, h⟩ | ⟨c, h⟩
    · refine V.icmp_gt_t (t := 36) (pc := 20) dX12_orbits_20 (by decide) c ?_
      refine V.iconst (pc := 36) dX12_orbits_36 ic_0 ?_
      refine V.istore_n (lv' := [some (.ref 44), some (.int l1), some (.int l2), some (.int 0), none, none]) (pc := 37) dX12_orbits_37 (Nat.le_of_ble_eq_true rfl) rfl rfl ?_
      refine V.iconst (pc := 38) dX12_orbits_38 ic_0 ?_
      refine V.istore (lv' := [some (.ref 44), some (.int l1), some (.int l2), some (.int 0), some (.int 0), none]) (pc := 39) dX12_orbits_39 (Nat.le_of_ble_eq_true rfl) rfl rfl ?_
      exact t_X12_orbits_L41 hd FU l1 l2 0 0 w _ _ h
    · refine V.icmp_gt_f (t := 36) (pc := 20) dX12_orbits_20 (by decide) c ?_
      refine V.aload_n (pc := 23) dX12_orbits_23 rfl ?_
      refine V.getR (t := 64) (pc := 24) dX12_orbits_24 f_RX12_72 k_cl12 lx_44 ly_44 rb_12_25 rr_44_25 ?_
      refine V.iload_n (pc := 27) dX12_orbits_27 rfl ?_
      refine V.iconst (pc := 28) dX12_orbits_28 ic_0 ?_
      obtain ⟨w1, iw1, ew1, h⟩ := wrI_e h
      refine V.zastX (pc := 29) dX12_orbits_29 lx_64 ly_64 (Or.inl rfl) iw1 ew1 ?_
      refine V.iinc (lv' := [some (.ref 44), some (.int l1), some (.int l2), some (.int (l3 + 1)), none, none]) (pc := 30) dX12_orbits_30 (Nat.le_of_ble_eq_true rfl) rfl rfl (v := (l3 + 1)) (by rw [show Int32.ofInt 1 = 1 from by decide]) rfl ?_
      refine V.goto (t := 15) (pc := 33) dX12_orbits_33 (by decide) ?_
      exact h15 l1 l2 (l3 + 1) w1 _ _ h
def f_X12_orbits (l1 : Int32) (l2 : Int32) (w : Wd) : Option (Int32 × Wd) :=
  if (f_X12_isKind l1) = 0 then
    some ((-1), w)
  else
    if 0 ≤ l2 then
      f_X12_orbits_L15  FU l1 l2 0 w
    else
      some ((-1), w)
set_option maxHeartbeats 4000000 in
set_option maxRecDepth 100000 in
theorem ok_X12_orbits {G : GT} {d : Nat} (hd : 4 ≤ d) {w : Wd} (l1 : Int32) (l2 : Int32) {r : Int32} {w' : Wd} (h : f_X12_orbits l1 l2 w = some (r, w')) : uC G yX12_orbits mX12_orbits d [.ref 44, .int l1, .int l2] w (some (.int r)) w' := by
  obtain ⟨d, rfl⟩ : ∃ e, d = e + 1 := ⟨d - 1, by omega⟩
  unfold f_X12_orbits at h
  refine uC_of (lv := [some (.ref 44), some (.int l1), some (.int l2), none, none, none]) 3 pn_X12 ⟨rfl, rfl⟩ (Nat.le_of_ble_eq_true rfl) rfl ?_
  refine V.iload_n (pc := 0) dX12_orbits_0 rfl ?_
  refine U.callS (pc := 1) (As := [.int l1]) (st := []) dX12_orbits_1 l_RX12_197 (ok_X12_isKind (by omega) l1 ) (Nat.le_of_ble_eq_true rfl) rfl rfl (Nat.le_of_ble_eq_true rfl) ?_
  rcases ite_e h with ⟨c, h⟩ | ⟨c, h⟩
  · refine V.if_eq_t (t := 11) (pc := 4) dX12_orbits_4 (by decide) c ?_
    refine V.iconst (pc := 11) dX12_orbits_11 ic_m1 ?_
    obtain ⟨rfl, rfl⟩ := Prod.mk.inj (Option.some.inj h)
    exact V.iret (pc := 12) dX12_orbits_12 rfl (Nat.le_refl _) (Nat.le_refl _)
  · refine V.if_eq_f (t := 11) (pc := 4) dX12_orbits_4 (by decide) c ?_
    refine V.iload_n (pc := 7) dX12_orbits_7 rfl ?_
    rcases ite_e h with ⟨c, h⟩ | ⟨c, h⟩
    · refine V.if_ge_t (t := 13) (pc := 8) dX12_orbits_8 (by decide) c ?_
      refine V.iconst (pc := 13) dX12_orbits_13 ic_0 ?_
      refine V.istore_n (lv' := [some (.ref 44), some (.int l1), some (.int l2), some (.int 0), none, none]) (pc := 14) dX12_orbits_14 (Nat.le_of_ble_eq_true rfl) rfl rfl ?_
      exact t_X12_orbits_L15 hd FU l1 l2 0 w _ _ h
    · refine V.if_ge_f (t := 13) (pc := 8) dX12_orbits_8 (by decide) c ?_
      refine V.iconst (pc := 11) dX12_orbits_11 ic_m1 ?_
      obtain ⟨rfl, rfl⟩ := Prod.mk.inj (Option.some.inj h)
      exact V.iret (pc := 12) dX12_orbits_12 rfl (Nat.le_refl _) (Nat.le_refl _)
theorem dX11_isRing_0 : decode cX11_isRing 0 = .ok (.iload_n 0, 1) := by decide +kernel
theorem dX11_isRing_1 : decode cX11_isRing 1 = .ok (.iconst 1, 1) := by decide +kernel
theorem dX11_isRing_2 : decode cX11_isRing 2 = .ok (.if_icmp .lt 13, 3) := by decide +kernel
theorem dX11_isRing_5 : decode cX11_isRing 5 = .ok (.iload_n 0, 1) := by decide +kernel
theorem dX11_isRing_6 : decode cX11_isRing 6 = .ok (.bipush 16, 2) := by decide +kernel
theorem dX11_isRing_8 : decode cX11_isRing 8 = .ok (.if_icmp .gt 7, 3) := by decide +kernel
theorem dX11_isRing_11 : decode cX11_isRing 11 = .ok (.iconst 1, 1) := by decide +kernel
theorem dX11_isRing_12 : decode cX11_isRing 12 = .ok (.goto 4, 3) := by decide +kernel
theorem dX11_isRing_15 : decode cX11_isRing 15 = .ok (.iconst 0, 1) := by decide +kernel
theorem dX11_isRing_16 : decode cX11_isRing 16 = .ok (.ireturn, 1) := by decide +kernel
def f_X11_isRing (l0 : Int32) : Int32 :=
  if l0 < 1 then
    (0 : Int32)
  else
    if 16 < l0 then
      (0 : Int32)
    else
      (1 : Int32)
set_option maxHeartbeats 4000000 in
set_option maxRecDepth 100000 in
theorem ok_X11_isRing {G : GT} {d : Nat} (hd : 0 ≤ d) {w : Wd} (l0 : Int32) : uC G yX11_isRing mX11_isRing d [.int l0] w (some (.int (f_X11_isRing l0))) w := by
  suffices key : ∀ r, f_X11_isRing l0 = r → uC G yX11_isRing mX11_isRing d [.int l0] w (some (.int r)) w from key _ rfl
  intro r h
  unfold f_X11_isRing at h
  refine uC_of (lv := [some (.int l0)]) 0 pn_X11 ⟨rfl, rfl⟩ (Nat.le_of_ble_eq_true rfl) rfl ?_
  refine V.iload_n (pc := 0) dX11_isRing_0 rfl ?_
  refine V.iconst (pc := 1) dX11_isRing_1 ic_1 ?_
  rcases ite_e h with ⟨c, h⟩ | ⟨c, h⟩
  · refine V.icmp_lt_t (t := 15) (pc := 2) dX11_isRing_2 (by decide) c ?_
    refine V.iconst (pc := 15) dX11_isRing_15 ic_0 ?_
    subst h
    exact V.zret (pc := 16) dX11_isRing_16 rfl (Or.inl rfl) (Nat.le_refl _) (Nat.le_refl _)
  · refine V.icmp_lt_f (t := 15) (pc := 2) dX11_isRing_2 (by decide) c ?_
    refine V.iload_n (pc := 5) dX11_isRing_5 rfl ?_
    refine V.bipush (pc := 6) dX11_isRing_6 bp_16 ?_
    rcases ite_e h with ⟨c, h⟩ | ⟨c, h⟩
    · refine V.icmp_gt_t (t := 15) (pc := 8) dX11_isRing_8 (by decide) c ?_
      refine V.iconst (pc := 15) dX11_isRing_15 ic_0 ?_
      subst h
      exact V.zret (pc := 16) dX11_isRing_16 rfl (Or.inl rfl) (Nat.le_refl _) (Nat.le_refl _)
    · refine V.icmp_gt_f (t := 15) (pc := 8) dX11_isRing_8 (by decide) c ?_
      refine V.iconst (pc := 11) dX11_isRing_11 ic_1 ?_
      refine V.goto (t := 16) (pc := 12) dX11_isRing_12 (by decide) ?_
      subst h
      exact V.zret (pc := 16) dX11_isRing_16 rfl (Or.inr rfl) (Nat.le_refl _) (Nat.le_refl _)
theorem b_X11_isRing (l0 : Int32) : f_X11_isRing l0 = 0 ∨ f_X11_isRing l0 = 1 := by
  unfold f_X11_isRing
  repeat' (first | exact Or.inl rfl | exact Or.inr rfl | apply b_tree)
  all_goals first | exact Or.inl rfl | exact Or.inr rfl | assumption
theorem dX5_addRow_0 : decode cX5_addRow 0 = .ok (.aload_n 0, 1) := by decide +kernel
theorem dX5_addRow_1 : decode cX5_addRow 1 = .ok (.getfield 36, 3) := by decide +kernel
theorem dX5_addRow_4 : decode cX5_addRow 4 = .ok (.bipush 16, 2) := by decide +kernel
theorem dX5_addRow_6 : decode cX5_addRow 6 = .ok (.if_icmp .ge 37, 3) := by decide +kernel
theorem dX5_addRow_9 : decode cX5_addRow 9 = .ok (.aload_n 0, 1) := by decide +kernel
theorem dX5_addRow_10 : decode cX5_addRow 10 = .ok (.getfield 28, 3) := by decide +kernel
theorem dX5_addRow_13 : decode cX5_addRow 13 = .ok (.getfield 58, 3) := by decide +kernel
theorem dX5_addRow_16 : decode cX5_addRow 16 = .ok (.iconst 0, 1) := by decide +kernel
theorem dX5_addRow_17 : decode cX5_addRow 17 = .ok (.aload_n 0, 1) := by decide +kernel
theorem dX5_addRow_18 : decode cX5_addRow 18 = .ok (.getfield 11, 3) := by decide +kernel
theorem dX5_addRow_21 : decode cX5_addRow 21 = .ok (.aload_n 0, 1) := by decide +kernel
theorem dX5_addRow_22 : decode cX5_addRow 22 = .ok (.getfield 36, 3) := by decide +kernel
theorem dX5_addRow_25 : decode cX5_addRow 25 = .ok (.bipush 16, 2) := by decide +kernel
theorem dX5_addRow_27 : decode cX5_addRow 27 = .ok (.imul, 1) := by decide +kernel
theorem dX5_addRow_28 : decode cX5_addRow 28 = .ok (.bipush 16, 2) := by decide +kernel
theorem dX5_addRow_30 : decode cX5_addRow 30 = .ok (.invokestatic 61, 3) := by decide +kernel
theorem dX5_addRow_33 : decode cX5_addRow 33 = .ok (.aload_n 0, 1) := by decide +kernel
theorem dX5_addRow_34 : decode cX5_addRow 34 = .ok (.dup, 1) := by decide +kernel
theorem dX5_addRow_35 : decode cX5_addRow 35 = .ok (.getfield 36, 3) := by decide +kernel
theorem dX5_addRow_38 : decode cX5_addRow 38 = .ok (.iconst 1, 1) := by decide +kernel
theorem dX5_addRow_39 : decode cX5_addRow 39 = .ok (.iadd, 1) := by decide +kernel
theorem dX5_addRow_40 : decode cX5_addRow 40 = .ok (.putfield 36, 3) := by decide +kernel
theorem dX5_addRow_43 : decode cX5_addRow 43 = .ok (.return_, 1) := by decide +kernel
def f_X5_addRow (w : Wd) : Option Wd :=
  if 16 ≤ (w.1 32 4) then
    some w
  else
    cpI w 36 16 33 256 0 ((w.1 32 4) * 16) 16 fun w1 =>
    letW (sI w1 32 4 ((w1.1 32 4) + 1)) fun w2 =>
    some w2
set_option maxHeartbeats 4000000 in
set_option maxRecDepth 100000 in
theorem ok_X5_addRow {G : GT} {d : Nat} (hd : 1 ≤ d) {w : Wd}  {w' : Wd} (h : f_X5_addRow  w = some w') : uC G yX5_addRow mX5_addRow d [.ref 32] w none w' := by
  obtain ⟨d, rfl⟩ : ∃ e, d = e + 1 := ⟨d - 1, by omega⟩
  unfold f_X5_addRow at h
  refine uC_of (lv := [some (.ref 32)]) 0 pn_X5 ⟨rfl, rfl⟩ (Nat.le_of_ble_eq_true rfl) rfl ?_
  refine V.aload_n (pc := 0) dX5_addRow_0 rfl ?_
  refine V.getI (pc := 1) dX5_addRow_1 f_RX5_36 k_cl5 lx_32 ly_32 rb_5_4 ?_
  refine V.bipush (pc := 4) dX5_addRow_4 bp_16 ?_
  rcases ite_e h with ⟨c, h⟩ | ⟨c, h⟩
  · refine V.icmp_ge_t (t := 43) (pc := 6) dX5_addRow_6 (by decide) c ?_
    obtain rfl := Option.some.inj h
    exact V.vret (pc := 43) dX5_addRow_43 rfl (Nat.le_refl _) (Nat.le_refl _)
  · refine V.icmp_ge_f (t := 43) (pc := 6) dX5_addRow_6 (by decide) c ?_
    refine V.aload_n (pc := 9) dX5_addRow_9 rfl ?_
    refine V.getR (t := 34) (pc := 10) dX5_addRow_10 f_RX5_28 k_cl5 lx_32 ly_32 rb_5_2 rr_32_2 ?_
    refine V.getR (t := 36) (pc := 13) dX5_addRow_13 f_RX5_58 k_cl8 lx_34 ly_34 rb_8_3 rr_34_3 ?_
    refine V.iconst (pc := 16) dX5_addRow_16 ic_0 ?_
    refine V.aload_n (pc := 17) dX5_addRow_17 rfl ?_
    refine V.getR (t := 33) (pc := 18) dX5_addRow_18 f_RX5_11 k_cl5 lx_32 ly_32 rb_5_3 rr_32_3 ?_
    refine V.aload_n (pc := 21) dX5_addRow_21 rfl ?_
    refine V.getI (pc := 22) dX5_addRow_22 f_RX5_36 k_cl5 lx_32 ly_32 rb_5_4 ?_
    refine V.bipush (pc := 25) dX5_addRow_25 bp_16 ?_
    refine V.imul (pc := 27) dX5_addRow_27 ?_
    refine V.bipush (pc := 28) dX5_addRow_28 bp_16 ?_
    obtain ⟨w1, iw1, ew1, h⟩ := cpI_e h
    refine V.acopy (pc := 30) dX5_addRow_30 cp_RX5_61 lx_36 lx_33 ly_36 ly_33 iw1 (Nat.le_add_left 1 d) (rm_cp (Nat.le_of_ble_eq_true rfl)) cp_nat cp_sta cp_ini ew1 ?_
    refine V.aload_n (pc := 33) dX5_addRow_33 rfl ?_
    refine V.dup (pc := 34) dX5_addRow_34 rfl ?_
    refine V.getI (pc := 35) dX5_addRow_35 f_RX5_36 k_cl5 lx_32 ly_32 rb_5_4 ?_
    refine V.iconst (pc := 38) dX5_addRow_38 ic_1 ?_
    refine V.iadd (pc := 39) dX5_addRow_39 ?_
    obtain ⟨w2, ew2, h⟩ := letW_e h
    refine V.putIX (pc := 40) dX5_addRow_40 f_RX5_36 k_cl5 lx_32 ly_32 rb_5_4 (fin_I (T0 := TX5) rfl rfl rfl) ew2 ?_
    obtain rfl := Option.some.inj h
    exact V.vret (pc := 43) dX5_addRow_43 rfl (Nat.le_refl _) (Nat.le_refl _)
