def f_J7_fill_53178_43_B5b (k5 : Int32 → Int32 → Int32 → Wd → Option Wd) (l1 : Int32) (l2 : Int32) (l3 : Int32) (w : Wd) : Option Wd :=
  if l3 ≤ l2 then
    some w
  else
    wrI w 43 17 l2 l1 fun w1 =>
    k5 l1 (l2 + 1) l3 w1
def f_J7_fill_53178_43_L5 (n : Nat) : Int32 → Int32 → Int32 → Wd → Option Wd :=
  Nat.rec (fun _ _ _ _ => none) (fun _ k => f_J7_fill_53178_43_B5b k) n
set_option maxHeartbeats 4000000 in
set_option maxRecDepth 100000 in
theorem t_J7_fill_53178_43_L5 {G : GT} {d : Nat} (hd : 0 ≤ d)  : ∀ (n : Nat) (l1 : Int32) (l2 : Int32) (l3 : Int32) (w : Wd) (w' : Wd), f_J7_fill_53178_43_L5 n l1 l2 l3 w = some w' → U (vf G mJ7_fill_53178 d) 5 [some (.ref 43), some (.int l1), some (.int l2), some (.int l3)] [] w (none, 70, r0, w') := by
  intro n
  induction n with
  | zero => intro l1 l2 l3 w w' h; cases h
  | succ n h5 =>
    intro l1 l2 l3 w w' h
    have h : f_J7_fill_53178_43_B5b (f_J7_fill_53178_43_L5 n) l1 l2 l3 w = some w' := h
    unfold f_J7_fill_53178_43_B5b at h
    refine V.iload_n (pc := 5) dJ7_fill_53178_5 rfl ?_
    refine V.iload_n (pc := 6) dJ7_fill_53178_6 rfl ?_
    rcases ite_e h with ⟨c, h⟩ | ⟨c, h⟩
    · refine V.icmp_ge_t (t := 20) (pc := 7) dJ7_fill_53178_7 (by decide) c ?_
      obtain rfl := Option.some.inj h
      exact V.vret (pc := 20) dJ7_fill_53178_20 rfl (Nat.le_refl _) (Nat.le_refl _)
    · refine V.icmp_ge_f (t := 20) (pc := 7) dJ7_fill_53178_7 (by decide) c ?_
      refine V.aload_n (pc := 10) dJ7_fill_53178_10 rfl ?_
      refine V.iload_n (pc := 11) dJ7_fill_53178_11 rfl ?_
      refine V.iload_n (pc := 12) dJ7_fill_53178_12 rfl ?_
      obtain ⟨w1, iw1, ew1, h⟩ := wrI_e h
      refine V.iastX (pc := 13) dJ7_fill_53178_13 lx_43 ly_43 iw1 ew1 ?_
      refine V.iinc (lv' := [some (.ref 43), some (.int l1), some (.int (l2 + 1)), some (.int l3)]) (pc := 14) dJ7_fill_53178_14 (Nat.le_of_ble_eq_true rfl) rfl rfl (v := (l2 + 1)) (by rw [show Int32.ofInt 1 = 1 from by decide]) rfl ?_
      refine V.goto (t := 5) (pc := 17) dJ7_fill_53178_17 (by decide) ?_
      exact h5 l1 (l2 + 1) l3 w1 _ h
def f_J7_fill_53178_43 (l1 : Int32) (w : Wd) : Option Wd :=
  f_J7_fill_53178_43_L5  FU l1 0 17 w
set_option maxHeartbeats 4000000 in
set_option maxRecDepth 100000 in
theorem ok_J7_fill_53178_43 {G : GT} {d : Nat} (hd : 0 ≤ d) {w : Wd} (l1 : Int32) {w' : Wd} (h : f_J7_fill_53178_43 l1 w = some w') : uC G yJ7_fill_53178 mJ7_fill_53178 d [.ref 43, .int l1] w none w' := by
  unfold f_J7_fill_53178_43 at h
  refine uC_of (lv := [some (.ref 43), some (.int l1), none, none]) 2 pn_J7 ⟨rfl, rfl⟩ (Nat.le_of_ble_eq_true rfl) rfl ?_
  refine V.iconst (pc := 0) dJ7_fill_53178_0 ic_0 ?_
  refine V.istore_n (lv' := [some (.ref 43), some (.int l1), some (.int 0), none]) (pc := 1) dJ7_fill_53178_1 (Nat.le_of_ble_eq_true rfl) rfl rfl ?_
  refine V.aload_n (pc := 2) dJ7_fill_53178_2 rfl ?_
  refine V.alen (v := 17) (pc := 3) dJ7_fill_53178_3 lx_43 ly_43 (Or.inl rfl) (by decide) ?_
  refine V.istore_n (lv' := [some (.ref 43), some (.int l1), some (.int 0), some (.int 17)]) (pc := 4) dJ7_fill_53178_4 (Nat.le_of_ble_eq_true rfl) rfl rfl ?_
  exact t_J7_fill_53178_43_L5 hd FU l1 0 17 w _ h
theorem dX4_isTriple_0 : decode cX4_isTriple 0 = .ok (.iload_n 1, 1) := by decide +kernel
theorem dX4_isTriple_1 : decode cX4_isTriple 1 = .ok (.iload_n 2, 1) := by decide +kernel
theorem dX4_isTriple_2 : decode cX4_isTriple 2 = .ok (.ishr, 1) := by decide +kernel
theorem dX4_isTriple_3 : decode cX4_isTriple 3 = .ok (.iload_n 1, 1) := by decide +kernel
theorem dX4_isTriple_4 : decode cX4_isTriple 4 = .ok (.iload_n 3, 1) := by decide +kernel
theorem dX4_isTriple_5 : decode cX4_isTriple 5 = .ok (.ishr, 1) := by decide +kernel
theorem dX4_isTriple_6 : decode cX4_isTriple 6 = .ok (.iand, 1) := by decide +kernel
theorem dX4_isTriple_7 : decode cX4_isTriple 7 = .ok (.iload_n 1, 1) := by decide +kernel
theorem dX4_isTriple_8 : decode cX4_isTriple 8 = .ok (.aload_n 0, 1) := by decide +kernel
theorem dX4_isTriple_9 : decode cX4_isTriple 9 = .ok (.iload_n 2, 1) := by decide +kernel
theorem dX4_isTriple_10 : decode cX4_isTriple 10 = .ok (.iload_n 3, 1) := by decide +kernel
theorem dX4_isTriple_11 : decode cX4_isTriple 11 = .ok (.invokevirtual 58, 3) := by decide +kernel
theorem dX4_isTriple_14 : decode cX4_isTriple 14 = .ok (.ishr, 1) := by decide +kernel
theorem dX4_isTriple_15 : decode cX4_isTriple 15 = .ok (.iand, 1) := by decide +kernel
theorem dX4_isTriple_16 : decode cX4_isTriple 16 = .ok (.iconst 1, 1) := by decide +kernel
theorem dX4_isTriple_17 : decode cX4_isTriple 17 = .ok (.iand, 1) := by decide +kernel
theorem dX4_isTriple_18 : decode cX4_isTriple 18 = .ok (.ifCond .eq 7, 3) := by decide +kernel
theorem dX4_isTriple_21 : decode cX4_isTriple 21 = .ok (.iconst 1, 1) := by decide +kernel
theorem dX4_isTriple_22 : decode cX4_isTriple 22 = .ok (.goto 4, 3) := by decide +kernel
theorem dX4_isTriple_25 : decode cX4_isTriple 25 = .ok (.iconst 0, 1) := by decide +kernel
theorem dX4_isTriple_26 : decode cX4_isTriple 26 = .ok (.ireturn, 1) := by decide +kernel
def f_X4_isTriple (l1 : Int32) (l2 : Int32) (l3 : Int32) (w : Wd) : Option Int32 :=
  bnd (f_X4_times l2 l3 w) fun x1 =>
  if ((((l1 >>> (l2 &&& 31)) &&& (l1 >>> (l3 &&& 31))) &&& (l1 >>> (x1 &&& 31))) &&& 1) = 0 then
    some 0
  else
    some 1
set_option maxHeartbeats 4000000 in
set_option maxRecDepth 100000 in
theorem ok_X4_isTriple {G : GT} {d : Nat} (hd : 1 ≤ d) {w : Wd} (l1 : Int32) (l2 : Int32) (l3 : Int32) {r : Int32} (h : f_X4_isTriple l1 l2 l3 w = some r) : uC G yX4_isTriple mX4_isTriple d [.ref 6, .int l1, .int l2, .int l3] w (some (.int r)) w := by
  obtain ⟨d, rfl⟩ : ∃ e, d = e + 1 := ⟨d - 1, by omega⟩
  unfold f_X4_isTriple at h
  refine uC_of (lv := [some (.ref 6), some (.int l1), some (.int l2), some (.int l3)]) 0 pn_X4 ⟨rfl, rfl⟩ (Nat.le_of_ble_eq_true rfl) rfl ?_
  refine V.iload_n (pc := 0) dX4_isTriple_0 rfl ?_
  refine V.iload_n (pc := 1) dX4_isTriple_1 rfl ?_
  refine V.ishr (pc := 2) dX4_isTriple_2 ?_
  refine V.iload_n (pc := 3) dX4_isTriple_3 rfl ?_
  refine V.iload_n (pc := 4) dX4_isTriple_4 rfl ?_
  refine V.ishr (pc := 5) dX4_isTriple_5 ?_
  refine V.iand (pc := 6) dX4_isTriple_6 ?_
  refine V.iload_n (pc := 7) dX4_isTriple_7 rfl ?_
  refine V.aload_n (pc := 8) dX4_isTriple_8 rfl ?_
  refine V.iload_n (pc := 9) dX4_isTriple_9 rfl ?_
  refine V.iload_n (pc := 10) dX4_isTriple_10 rfl ?_
  obtain ⟨x1, ex1, h⟩ := bnd_e h
  refine U.callV (pc := 11) (As := [.int l2, .int l3]) (st := [.int l1, .int ((l1 >>> (l2 &&& 31)) &&& (l1 >>> (l3 &&& 31)))]) dX4_isTriple_11 l_RX4_58 (ok_X4_times (by omega) l2 l3 ex1) lx_6 ly_6 cn_4 (Nat.le_of_ble_eq_true rfl) rfl rfl (Nat.le_of_ble_eq_true rfl) ?_
  refine V.ishr (pc := 14) dX4_isTriple_14 ?_
  refine V.iand (pc := 15) dX4_isTriple_15 ?_
  refine V.iconst (pc := 16) dX4_isTriple_16 ic_1 ?_
  refine V.iand (pc := 17) dX4_isTriple_17 ?_
  rcases ite_e h with ⟨c, h⟩ | ⟨c, h⟩
  · refine V.if_eq_t (t := 25) (pc := 18) dX4_isTriple_18 (by decide) c ?_
    refine V.iconst (pc := 25) dX4_isTriple_25 ic_0 ?_
    obtain rfl := Option.some.inj h
    exact V.zret (pc := 26) dX4_isTriple_26 rfl (Or.inl rfl) (Nat.le_refl _) (Nat.le_refl _)
  · refine V.if_eq_f (t := 25) (pc := 18) dX4_isTriple_18 (by decide) c ?_
    refine V.iconst (pc := 21) dX4_isTriple_21 ic_1 ?_
    refine V.goto (t := 26) (pc := 22) dX4_isTriple_22 (by decide) ?_
    obtain rfl := Option.some.inj h
    exact V.zret (pc := 26) dX4_isTriple_26 rfl (Or.inr rfl) (Nat.le_refl _) (Nat.le_refl _)
theorem dX11_addToTally_0 : decode cX11_addToTally 0 = .ok (.iconst 0, 1) := by decide +kernel
theorem dX11_addToTally_1 : decode cX11_addToTally 1 = .ok (.istore_n 2, 1) := by decide +kernel
theorem dX11_addToTally_2 : decode cX11_addToTally 2 = .ok (.iload_n 2, 1) := by decide +kernel
theorem dX11_addToTally_3 : decode cX11_addToTally 3 = .ok (.aload_n 0, 1) := by decide +kernel
theorem dX11_addToTally_4 : decode cX11_addToTally 4 = .ok (.getfield 28, 3) := by decide +kernel
theorem dX11_addToTally_7 : decode cX11_addToTally 7 = .ok (.getfield 104, 3) := by decide +kernel
theorem dX11_addToTally_10 : decode cX11_addToTally 10 = .ok (.if_icmp .ge 23, 3) := by decide +kernel
theorem dX11_addToTally_13 : decode cX11_addToTally 13 = .ok (.aload_n 0, 1) := by decide +kernel
theorem dX11_addToTally_14 : decode cX11_addToTally 14 = .ok (.getfield 85, 3) := by decide +kernel
theorem dX11_addToTally_17 : decode cX11_addToTally 17 = .ok (.iload_n 2, 1) := by decide +kernel
theorem dX11_addToTally_18 : decode cX11_addToTally 18 = .ok (.dup2, 1) := by decide +kernel
theorem dX11_addToTally_19 : decode cX11_addToTally 19 = .ok (.iaload, 1) := by decide +kernel
theorem dX11_addToTally_20 : decode cX11_addToTally 20 = .ok (.iload_n 1, 1) := by decide +kernel
theorem dX11_addToTally_21 : decode cX11_addToTally 21 = .ok (.iload_n 2, 1) := by decide +kernel
theorem dX11_addToTally_22 : decode cX11_addToTally 22 = .ok (.ishr, 1) := by decide +kernel
theorem dX11_addToTally_23 : decode cX11_addToTally 23 = .ok (.iconst 1, 1) := by decide +kernel
theorem dX11_addToTally_24 : decode cX11_addToTally 24 = .ok (.iand, 1) := by decide +kernel
theorem dX11_addToTally_25 : decode cX11_addToTally 25 = .ok (.iadd, 1) := by decide +kernel
theorem dX11_addToTally_26 : decode cX11_addToTally 26 = .ok (.iastore, 1) := by decide +kernel
theorem dX11_addToTally_27 : decode cX11_addToTally 27 = .ok (.iinc 2 1, 3) := by decide +kernel
theorem dX11_addToTally_30 : decode cX11_addToTally 30 = .ok (.goto (-28), 3) := by decide +kernel
theorem dX11_addToTally_33 : decode cX11_addToTally 33 = .ok (.return_, 1) := by decide +kernel
def f_X11_addToTally_B2b (k2 : Int32 → Int32 → Wd → Option Wd) (l1 : Int32) (l2 : Int32) (w : Wd) : Option Wd :=
  if (w.1 6 7) ≤ l2 then
    some w
  else
    rdI w 43 17 l2 fun x1 =>
    wrI w 43 17 l2 (x1 + ((l1 >>> (l2 &&& 31)) &&& 1)) fun w2 =>
    k2 l1 (l2 + 1) w2
def f_X11_addToTally_L2 (n : Nat) : Int32 → Int32 → Wd → Option Wd :=
  Nat.rec (fun _ _ _ => none) (fun _ k => f_X11_addToTally_B2b k) n
set_option maxHeartbeats 4000000 in
set_option maxRecDepth 100000 in
theorem t_X11_addToTally_L2 {G : GT} {d : Nat} (hd : 0 ≤ d)  : ∀ (n : Nat) (l1 : Int32) (l2 : Int32) (w : Wd) (w' : Wd), f_X11_addToTally_L2 n l1 l2 w = some w' → U (vf G mX11_addToTally d) 2 [some (.ref 0), some (.int l1), some (.int l2)] [] w (none, 70, r0, w') := by
  intro n
  induction n with
  | zero => intro l1 l2 w w' h; cases h
  | succ n h2 =>
    intro l1 l2 w w' h
    have h : f_X11_addToTally_B2b (f_X11_addToTally_L2 n) l1 l2 w = some w' := h
    unfold f_X11_addToTally_B2b at h
    refine V.iload_n (pc := 2) dX11_addToTally_2 rfl ?_
    refine V.aload_n (pc := 3) dX11_addToTally_3 rfl ?_
    refine V.getR (t := 6) (pc := 4) dX11_addToTally_4 f_RX11_28 k_cl11 lx_0 ly_0 rb_11_2 rr_0_2 ?_
    refine V.getI (pc := 7) dX11_addToTally_7 f_RX11_104 k_cl4 lx_6 ly_6 rb_4_7 ?_
    rcases ite_e h with ⟨c, h⟩ | ⟨c, h⟩
    · refine V.icmp_ge_t (t := 33) (pc := 10) dX11_addToTally_10 (by decide) c ?_
      obtain rfl := Option.some.inj h
      exact V.vret (pc := 33) dX11_addToTally_33 rfl (Nat.le_refl _) (Nat.le_refl _)
    · refine V.icmp_ge_f (t := 33) (pc := 10) dX11_addToTally_10 (by decide) c ?_
      refine V.aload_n (pc := 13) dX11_addToTally_13 rfl ?_
      refine V.getR (t := 43) (pc := 14) dX11_addToTally_14 f_RX11_85 k_cl11 lx_0 ly_0 rb_11_10 rr_0_10 ?_
      refine V.iload_n (pc := 17) dX11_addToTally_17 rfl ?_
      refine V.dup2 (pc := 18) dX11_addToTally_18 rfl rfl ?_
      obtain ⟨x1, ix1, ex1, h⟩ := rdI_e h
      refine V.ialdX (pc := 19) dX11_addToTally_19 lx_43 ly_43 ix1 ex1 ?_
      refine V.iload_n (pc := 20) dX11_addToTally_20 rfl ?_
      refine V.iload_n (pc := 21) dX11_addToTally_21 rfl ?_
      refine V.ishr (pc := 22) dX11_addToTally_22 ?_
      refine V.iconst (pc := 23) dX11_addToTally_23 ic_1 ?_
      refine V.iand (pc := 24) dX11_addToTally_24 ?_
      refine V.iadd (pc := 25) dX11_addToTally_25 ?_
      obtain ⟨w2, iw2, ew2, h⟩ := wrI_e h
      refine V.iastX (pc := 26) dX11_addToTally_26 lx_43 ly_43 iw2 ew2 ?_
      refine V.iinc (lv' := [some (.ref 0), some (.int l1), some (.int (l2 + 1))]) (pc := 27) dX11_addToTally_27 (Nat.le_of_ble_eq_true rfl) rfl rfl (v := (l2 + 1)) (by rw [show Int32.ofInt 1 = 1 from by decide]) rfl ?_
      refine V.goto (t := 2) (pc := 30) dX11_addToTally_30 (by decide) ?_
      exact h2 l1 (l2 + 1) w2 _ h
def f_X11_addToTally (l1 : Int32) (w : Wd) : Option Wd :=
  f_X11_addToTally_L2  FU l1 0 w
set_option maxHeartbeats 4000000 in
set_option maxRecDepth 100000 in
theorem ok_X11_addToTally {G : GT} {d : Nat} (hd : 0 ≤ d) {w : Wd} (l1 : Int32) {w' : Wd} (h : f_X11_addToTally l1 w = some w') : uC G yX11_addToTally mX11_addToTally d [.ref 0, .int l1] w none w' := by
  unfold f_X11_addToTally at h
  refine uC_of (lv := [some (.ref 0), some (.int l1), none]) 1 pn_X11 ⟨rfl, rfl⟩ (Nat.le_of_ble_eq_true rfl) rfl ?_
  refine V.iconst (pc := 0) dX11_addToTally_0 ic_0 ?_
  refine V.istore_n (lv' := [some (.ref 0), some (.int l1), some (.int 0)]) (pc := 1) dX11_addToTally_1 (Nat.le_of_ble_eq_true rfl) rfl rfl ?_
  exact t_X11_addToTally_L2 hd FU l1 0 w _ h
theorem dX11_busiest_0 : decode cX11_busiest 0 = .ok (.aload_n 0, 1) := by decide +kernel
theorem dX11_busiest_1 : decode cX11_busiest 1 = .ok (.getfield 85, 3) := by decide +kernel
theorem dX11_busiest_4 : decode cX11_busiest 4 = .ok (.iconst 0, 1) := by decide +kernel
theorem dX11_busiest_5 : decode cX11_busiest 5 = .ok (.invokestatic 231, 3) := by decide +kernel
theorem dX11_busiest_8 : decode cX11_busiest 8 = .ok (.iconst 0, 1) := by decide +kernel
theorem dX11_busiest_9 : decode cX11_busiest 9 = .ok (.istore_n 2, 1) := by decide +kernel
theorem dX11_busiest_10 : decode cX11_busiest 10 = .ok (.iload_n 2, 1) := by decide +kernel
theorem dX11_busiest_11 : decode cX11_busiest 11 = .ok (.aload_n 0, 1) := by decide +kernel
theorem dX11_busiest_12 : decode cX11_busiest 12 = .ok (.getfield 28, 3) := by decide +kernel
theorem dX11_busiest_15 : decode cX11_busiest 15 = .ok (.getfield 104, 3) := by decide +kernel
theorem dX11_busiest_18 : decode cX11_busiest 18 = .ok (.if_icmp .ge 68, 3) := by decide +kernel
theorem dX11_busiest_21 : decode cX11_busiest 21 = .ok (.iconst 0, 1) := by decide +kernel
theorem dX11_busiest_22 : decode cX11_busiest 22 = .ok (.istore_n 3, 1) := by decide +kernel
theorem dX11_busiest_23 : decode cX11_busiest 23 = .ok (.iload_n 3, 1) := by decide +kernel
theorem dX11_busiest_24 : decode cX11_busiest 24 = .ok (.aload_n 0, 1) := by decide +kernel
theorem dX11_busiest_25 : decode cX11_busiest 25 = .ok (.getfield 28, 3) := by decide +kernel
theorem dX11_busiest_28 : decode cX11_busiest 28 = .ok (.getfield 104, 3) := by decide +kernel
theorem dX11_busiest_31 : decode cX11_busiest 31 = .ok (.if_icmp .ge 49, 3) := by decide +kernel
theorem dX11_busiest_34 : decode cX11_busiest 34 = .ok (.aload_n 0, 1) := by decide +kernel
theorem dX11_busiest_35 : decode cX11_busiest 35 = .ok (.getfield 28, 3) := by decide +kernel
theorem dX11_busiest_38 : decode cX11_busiest 38 = .ok (.iload_n 1, 1) := by decide +kernel
theorem dX11_busiest_39 : decode cX11_busiest 39 = .ok (.iload_n 2, 1) := by decide +kernel
theorem dX11_busiest_40 : decode cX11_busiest 40 = .ok (.iload_n 3, 1) := by decide +kernel
theorem dX11_busiest_41 : decode cX11_busiest 41 = .ok (.invokevirtual 201, 3) := by decide +kernel
theorem dX11_busiest_44 : decode cX11_busiest 44 = .ok (.ifCond .eq 30, 3) := by decide +kernel
theorem dX11_busiest_47 : decode cX11_busiest 47 = .ok (.iconst 1, 1) := by decide +kernel
theorem dX11_busiest_48 : decode cX11_busiest 48 = .ok (.iload_n 2, 1) := by decide +kernel
theorem dX11_busiest_49 : decode cX11_busiest 49 = .ok (.ishl, 1) := by decide +kernel
theorem dX11_busiest_50 : decode cX11_busiest 50 = .ok (.iconst 1, 1) := by decide +kernel
theorem dX11_busiest_51 : decode cX11_busiest 51 = .ok (.iload_n 3, 1) := by decide +kernel
theorem dX11_busiest_52 : decode cX11_busiest 52 = .ok (.ishl, 1) := by decide +kernel
theorem dX11_busiest_53 : decode cX11_busiest 53 = .ok (.ior, 1) := by decide +kernel
theorem dX11_busiest_54 : decode cX11_busiest 54 = .ok (.iconst 1, 1) := by decide +kernel
theorem dX11_busiest_55 : decode cX11_busiest 55 = .ok (.aload_n 0, 1) := by decide +kernel
theorem dX11_busiest_56 : decode cX11_busiest 56 = .ok (.getfield 28, 3) := by decide +kernel
theorem dX11_busiest_59 : decode cX11_busiest 59 = .ok (.iload_n 2, 1) := by decide +kernel
theorem dX11_busiest_60 : decode cX11_busiest 60 = .ok (.iload_n 3, 1) := by decide +kernel
theorem dX11_busiest_61 : decode cX11_busiest 61 = .ok (.invokevirtual 159, 3) := by decide +kernel
theorem dX11_busiest_64 : decode cX11_busiest 64 = .ok (.ishl, 1) := by decide +kernel
theorem dX11_busiest_65 : decode cX11_busiest 65 = .ok (.ior, 1) := by decide +kernel
theorem dX11_busiest_66 : decode cX11_busiest 66 = .ok (.istore 4, 2) := by decide +kernel
theorem dX11_busiest_68 : decode cX11_busiest 68 = .ok (.aload_n 0, 1) := by decide +kernel
theorem dX11_busiest_69 : decode cX11_busiest 69 = .ok (.iload 4, 2) := by decide +kernel
theorem dX11_busiest_71 : decode cX11_busiest 71 = .ok (.invokevirtual 335, 3) := by decide +kernel
theorem dX11_busiest_74 : decode cX11_busiest 74 = .ok (.iinc 3 1, 3) := by decide +kernel
theorem dX11_busiest_77 : decode cX11_busiest 77 = .ok (.goto (-54), 3) := by decide +kernel
theorem dX11_busiest_80 : decode cX11_busiest 80 = .ok (.iinc 2 1, 3) := by decide +kernel
theorem dX11_busiest_83 : decode cX11_busiest 83 = .ok (.goto (-73), 3) := by decide +kernel
theorem dX11_busiest_86 : decode cX11_busiest 86 = .ok (.iconst 0, 1) := by decide +kernel
theorem dX11_busiest_87 : decode cX11_busiest 87 = .ok (.istore_n 2, 1) := by decide +kernel
theorem dX11_busiest_88 : decode cX11_busiest 88 = .ok (.iconst 1, 1) := by decide +kernel
theorem dX11_busiest_89 : decode cX11_busiest 89 = .ok (.istore_n 3, 1) := by decide +kernel
theorem dX11_busiest_90 : decode cX11_busiest 90 = .ok (.iload_n 3, 1) := by decide +kernel
theorem dX11_busiest_91 : decode cX11_busiest 91 = .ok (.aload_n 0, 1) := by decide +kernel
theorem dX11_busiest_92 : decode cX11_busiest 92 = .ok (.getfield 28, 3) := by decide +kernel
theorem dX11_busiest_95 : decode cX11_busiest 95 = .ok (.getfield 104, 3) := by decide +kernel
theorem dX11_busiest_98 : decode cX11_busiest 98 = .ok (.if_icmp .ge 26, 3) := by decide +kernel
theorem dX11_busiest_101 : decode cX11_busiest 101 = .ok (.aload_n 0, 1) := by decide +kernel
theorem dX11_busiest_102 : decode cX11_busiest 102 = .ok (.getfield 85, 3) := by decide +kernel
theorem dX11_busiest_105 : decode cX11_busiest 105 = .ok (.iload_n 3, 1) := by decide +kernel
theorem dX11_busiest_106 : decode cX11_busiest 106 = .ok (.iaload, 1) := by decide +kernel
theorem dX11_busiest_107 : decode cX11_busiest 107 = .ok (.aload_n 0, 1) := by decide +kernel
theorem dX11_busiest_108 : decode cX11_busiest 108 = .ok (.getfield 85, 3) := by decide +kernel
theorem dX11_busiest_111 : decode cX11_busiest 111 = .ok (.iload_n 2, 1) := by decide +kernel
theorem dX11_busiest_112 : decode cX11_busiest 112 = .ok (.iaload, 1) := by decide +kernel
theorem dX11_busiest_113 : decode cX11_busiest 113 = .ok (.if_icmp .le 5, 3) := by decide +kernel
theorem dX11_busiest_116 : decode cX11_busiest 116 = .ok (.iload_n 3, 1) := by decide +kernel
theorem dX11_busiest_117 : decode cX11_busiest 117 = .ok (.istore_n 2, 1) := by decide +kernel
theorem dX11_busiest_118 : decode cX11_busiest 118 = .ok (.iinc 3 1, 3) := by decide +kernel
theorem dX11_busiest_121 : decode cX11_busiest 121 = .ok (.goto (-31), 3) := by decide +kernel
theorem dX11_busiest_124 : decode cX11_busiest 124 = .ok (.iload_n 2, 1) := by decide +kernel
theorem dX11_busiest_125 : decode cX11_busiest 125 = .ok (.ireturn, 1) := by decide +kernel
def f_X11_busiest_B90b (k90 : Int32 → Int32 → Wd → Option (Int32 × Wd)) (l2 : Int32) (l3 : Int32) (w : Wd) : Option (Int32 × Wd) :=
  if (w.1 6 7) ≤ l3 then
    some (l2, w)
  else
    rdI w 43 17 l3 fun x1 =>
    rdI w 43 17 l2 fun x2 =>
    if x1 ≤ x2 then
      k90 l2 (l3 + 1) w
    else
      k90 l3 (l3 + 1) w
def f_X11_busiest_L90 (n : Nat) : Int32 → Int32 → Wd → Option (Int32 × Wd) :=
  Nat.rec (fun _ _ _ => none) (fun _ k => f_X11_busiest_B90b k) n
set_option maxHeartbeats 4000000 in
set_option maxRecDepth 100000 in
theorem t_X11_busiest_L90 {G : GT} {d : Nat} (hd : 2 ≤ d + 1)  : ∀ (n : Nat) (l2 : Int32) (l3 : Int32) (w : Wd) (r : Int32) (w' : Wd), f_X11_busiest_L90 n l2 l3 w = some (r, w') → U (vf G mX11_busiest (d + 1)) 90 [some (.ref 0), none, some (.int l2), some (.int l3), none] [] w (some (.int r), 70, r0, w') := by
  intro n
  induction n with
  | zero => intro l2 l3 w r w' h; cases h
  | succ n h90 =>
    intro l2 l3 w r w' h
    have h : f_X11_busiest_B90b (f_X11_busiest_L90 n) l2 l3 w = some (r, w') := h
    unfold f_X11_busiest_B90b at h
    refine V.iload_n (pc := 90) dX11_busiest_90 rfl ?_
    refine V.aload_n (pc := 91) dX11_busiest_91 rfl ?_
    refine V.getR (t := 6) (pc := 92) dX11_busiest_92 f_RX11_28 k_cl11 lx_0 ly_0 rb_11_2 rr_0_2 ?_
    refine V.getI (pc := 95) dX11_busiest_95 f_RX11_104 k_cl4 lx_6 ly_6 rb_4_7 ?_
    rcases ite_e h with ⟨c, h⟩ | ⟨c, h⟩
    · refine V.icmp_ge_t (t := 124) (pc := 98) dX11_busiest_98 (by decide) c ?_
      refine V.iload_n (pc := 124) dX11_busiest_124 rfl ?_
      obtain ⟨rfl, rfl⟩ := Prod.mk.inj (Option.some.inj h)
      exact V.iret (pc := 125) dX11_busiest_125 rfl (Nat.le_refl _) (Nat.le_refl _)
    · refine V.icmp_ge_f (t := 124) (pc := 98) dX11_busiest_98 (by decide) c ?_
      refine V.aload_n (pc := 101) dX11_busiest_101 rfl ?_
      refine V.getR (t := 43) (pc := 102) dX11_busiest_102 f_RX11_85 k_cl11 lx_0 ly_0 rb_11_10 rr_0_10 ?_
      refine V.iload_n (pc := 105) dX11_busiest_105 rfl ?_
      obtain ⟨x1, ix1, ex1, h⟩ := rdI_e h
      refine V.ialdX (pc := 106) dX11_busiest_106 lx_43 ly_43 ix1 ex1 ?_
      refine V.aload_n (pc := 107) dX11_busiest_107 rfl ?_
      refine V.getR (t := 43) (pc := 108) dX11_busiest_108 f_RX11_85 k_cl11 lx_0 ly_0 rb_11_10 rr_0_10 ?_
      refine V.iload_n (pc := 111) dX11_busiest_111 rfl ?_
      obtain ⟨x2, ix2, ex2, h⟩ := rdI_e h
      refine V.ialdX (pc := 112) dX11_busiest_112 lx_43 ly_43 ix2 ex2 ?_
      rcases ite_e h with ⟨c, h⟩ | ⟨c, h⟩
      · refine V.icmp_le_t (t := 118) (pc := 113) dX11_busiest_113 (by decide) c ?_
        refine V.iinc (lv' := [some (.ref 0), none, some (.int l2), some (.int (l3 + 1)), none]) (pc := 118) dX11_busiest_118 (Nat.le_of_ble_eq_true rfl) rfl rfl (v := (l3 + 1)) (by rw [show Int32.ofInt 1 = 1 from by decide]) rfl ?_
        refine V.goto (t := 90) (pc := 121) dX11_busiest_121 (by decide) ?_
        exact h90 l2 (l3 + 1) w _ _ h
      · refine V.icmp_le_f (t := 118) (pc := 113) dX11_busiest_113 (by decide) c ?_
        refine V.iload_n (pc := 116) dX11_busiest_116 rfl ?_
        refine V.istore_n (lv' := [some (.ref 0), none, some (.int l3), some (.int l3), none]) (pc := 117) dX11_busiest_117 (Nat.le_of_ble_eq_true rfl) rfl rfl ?_
        refine V.iinc (lv' := [some (.ref 0), none, some (.int l3), some (.int (l3 + 1)), none]) (pc := 118) dX11_busiest_118 (Nat.le_of_ble_eq_true rfl) rfl rfl (v := (l3 + 1)) (by rw [show Int32.ofInt 1 = 1 from by decide]) rfl ?_
        refine V.goto (t := 90) (pc := 121) dX11_busiest_121 (by decide) ?_
        exact h90 l3 (l3 + 1) w _ _ h
def f_X11_busiest_B23b (k10 : Int32 → Int32 → Wd → Option (Int32 × Wd)) (k23 : Int32 → Int32 → Int32 → Wd → Option (Int32 × Wd)) (l1 : Int32) (l2 : Int32) (l3 : Int32) (w : Wd) : Option (Int32 × Wd) :=
  if (w.1 6 7) ≤ l3 then
    k10 l1 (l2 + 1) w
  else
    bnd (f_X4_isTriple l1 l2 l3 w) fun x1 =>
    if x1 = 0 then
      k23 l1 l2 (l3 + 1) w
    else
      bnd (f_X4_times l2 l3 w) fun x2 =>
      bnd (f_X11_addToTally (((1 <<< (l2 &&& 31)) ||| (1 <<< (l3 &&& 31))) ||| (1 <<< (x2 &&& 31))) w) fun w3 =>
      k23 l1 l2 (l3 + 1) w3
def f_X11_busiest_L23 (k10 : Int32 → Int32 → Wd → Option (Int32 × Wd)) (n : Nat) : Int32 → Int32 → Int32 → Wd → Option (Int32 × Wd) :=
  Nat.rec (fun _ _ _ _ => none) (fun _ k => f_X11_busiest_B23b k10 k) n
set_option maxHeartbeats 4000000 in
set_option maxRecDepth 100000 in
theorem t_X11_busiest_L23 {G : GT} {d : Nat} {k10 : Int32 → Int32 → Wd → Option (Int32 × Wd)} (hd : 2 ≤ d + 1) (h10 : ∀ (l1 : Int32) (l2 : Int32) (w : Wd) (r : Int32) (w' : Wd), k10 l1 l2 w = some (r, w') → U (vf G mX11_busiest (d + 1)) 10 [some (.ref 0), some (.int l1), some (.int l2), none, none] [] w (some (.int r), 70, r0, w')) : ∀ (n : Nat) (l1 : Int32) (l2 : Int32) (l3 : Int32) (w : Wd) (r : Int32) (w' : Wd), f_X11_busiest_L23 k10 n l1 l2 l3 w = some (r, w') → U (vf G mX11_busiest (d + 1)) 23 [some (.ref 0), some (.int l1), some (.int l2), some (.int l3), none] [] w (some (.int r), 70, r0, w') := by
  intro n
  induction n with
  | zero => intro l1 l2 l3 w r w' h; cases h
  | succ n h23 =>
    intro l1 l2 l3 w r w' h
    have h : f_X11_busiest_B23b k10 (f_X11_busiest_L23 k10 n) l1 l2 l3 w = some (r, w') := h
    unfold f_X11_busiest_B23b at h
    refine V.iload_n (pc := 23) dX11_busiest_23 rfl ?_
    refine V.aload_n (pc := 24) dX11_busiest_24 rfl ?_
    refine V.getR (t := 6) (pc := 25) dX11_busiest_25 f_RX11_28 k_cl11 lx_0 ly_0 rb_11_2 rr_0_2 ?_
    refine V.getI (pc := 28) dX11_busiest_28 f_RX11_104 k_cl4 lx_6 ly_6 rb_4_7 ?_
    rcases ite_e h with ⟨c, h⟩ | ⟨c, h⟩
    · refine V.icmp_ge_t (t := 80) (pc := 31) dX11_busiest_31 (by decide) c ?_
      refine V.iinc (lv' := [some (.ref 0), some (.int l1), some (.int (l2 + 1)), some (.int l3), none]) (pc := 80) dX11_busiest_80 (Nat.le_of_ble_eq_true rfl) rfl rfl (v := (l2 + 1)) (by rw [show Int32.ofInt 1 = 1 from by decide]) rfl ?_
      refine V.goto (t := 10) (pc := 83) dX11_busiest_83 (by decide) ?_
      refine V.weak (lv' := [some (.ref 0), some (.int l1), some (.int (l2 + 1)), none, none]) (And.intro rfl (And.intro rfl (And.intro rfl trivial))) ?_
      exact h10 l1 (l2 + 1) w _ _ h
    · refine V.icmp_ge_f (t := 80) (pc := 31) dX11_busiest_31 (by decide) c ?_
      refine V.aload_n (pc := 34) dX11_busiest_34 rfl ?_
      refine V.getR (t := 6) (pc := 35) dX11_busiest_35 f_RX11_28 k_cl11 lx_0 ly_0 rb_11_2 rr_0_2 ?_
      refine V.iload_n (pc := 38) dX11_busiest_38 rfl ?_
      refine V.iload_n (pc := 39) dX11_busiest_39 rfl ?_
      refine V.iload_n (pc := 40) dX11_busiest_40 rfl ?_
      obtain ⟨x1, ex1, h⟩ := bnd_e h
      refine U.callV (pc := 41) (As := [.int l1, .int l2, .int l3]) (st := []) dX11_busiest_41 l_RX11_201 (ok_X4_isTriple (by omega) l1 l2 l3 ex1) lx_6 ly_6 cn_4 (Nat.le_of_ble_eq_true rfl) rfl rfl (Nat.le_of_ble_eq_true rfl) ?_
      rcases ite_e h with ⟨c, h⟩ | ⟨c, h⟩
      · refine V.if_eq_t (t := 74) (pc := 44) dX11_busiest_44 (by decide) c ?_
        refine V.iinc (lv' := [some (.ref 0), some (.int l1), some (.int l2), some (.int (l3 + 1)), none]) (pc := 74) dX11_busiest_74 (Nat.le_of_ble_eq_true rfl) rfl rfl (v := (l3 + 1)) (by rw [show Int32.ofInt 1 = 1 from by decide]) rfl ?_
        refine V.goto (t := 23) (pc := 77) dX11_busiest_77 (by decide) ?_
        exact h23 l1 l2 (l3 + 1) w _ _ h
      · refine V.if_eq_f (t := 74) (pc := 44) dX11_busiest_44 (by decide) c ?_
        refine V.iconst (pc := 47) dX11_busiest_47 ic_1 ?_
        refine V.iload_n (pc := 48) dX11_busiest_48 rfl ?_
        refine V.ishl (pc := 49) dX11_busiest_49 ?_
        refine V.iconst (pc := 50) dX11_busiest_50 ic_1 ?_
        refine V.iload_n (pc := 51) dX11_busiest_51 rfl ?_
        refine V.ishl (pc := 52) dX11_busiest_52 ?_
        refine V.ior (pc := 53) dX11_busiest_53 ?_
        refine V.iconst (pc := 54) dX11_busiest_54 ic_1 ?_
        refine V.aload_n (pc := 55) dX11_busiest_55 rfl ?_
        refine V.getR (t := 6) (pc := 56) dX11_busiest_56 f_RX11_28 k_cl11 lx_0 ly_0 rb_11_2 rr_0_2 ?_
        refine V.iload_n (pc := 59) dX11_busiest_59 rfl ?_
        refine V.iload_n (pc := 60) dX11_busiest_60 rfl ?_
        obtain ⟨x2, ex2, h⟩ := bnd_e h
        refine U.callV (pc := 61) (As := [.int l2, .int l3]) (st := [.int 1, .int ((1 <<< (l2 &&& 31)) ||| (1 <<< (l3 &&& 31)))]) dX11_busiest_61 l_RX11_159 (ok_X4_times (by omega) l2 l3 ex2) lx_6 ly_6 cn_4 (Nat.le_of_ble_eq_true rfl) rfl rfl (Nat.le_of_ble_eq_true rfl) ?_
        refine V.ishl (pc := 64) dX11_busiest_64 ?_
        refine V.ior (pc := 65) dX11_busiest_65 ?_
        refine V.istore (lv' := [some (.ref 0), some (.int l1), some (.int l2), some (.int l3), some (.int (((1 <<< (l2 &&& 31)) ||| (1 <<< (l3 &&& 31))) ||| (1 <<< (x2 &&& 31))))]) (pc := 66) dX11_busiest_66 (Nat.le_of_ble_eq_true rfl) rfl rfl ?_
        refine V.aload_n (pc := 68) dX11_busiest_68 rfl ?_
        refine V.iload (pc := 69) dX11_busiest_69 rfl ?_
        obtain ⟨w3, ew3, h⟩ := bnd_e h
        refine U.callV (pc := 71) (As := [.int (((1 <<< (l2 &&& 31)) ||| (1 <<< (l3 &&& 31))) ||| (1 <<< (x2 &&& 31)))]) (st := []) dX11_busiest_71 l_RX11_335 (ok_X11_addToTally (by omega) (((1 <<< (l2 &&& 31)) ||| (1 <<< (l3 &&& 31))) ||| (1 <<< (x2 &&& 31))) ew3) lx_0 ly_0 cn_11 (Nat.le_of_ble_eq_true rfl) rfl rfl (Nat.le_of_ble_eq_true rfl) ?_
        refine V.iinc (lv' := [some (.ref 0), some (.int l1), some (.int l2), some (.int (l3 + 1)), some (.int (((1 <<< (l2 &&& 31)) ||| (1 <<< (l3 &&& 31))) ||| (1 <<< (x2 &&& 31))))]) (pc := 74) dX11_busiest_74 (Nat.le_of_ble_eq_true rfl) rfl rfl (v := (l3 + 1)) (by rw [show Int32.ofInt 1 = 1 from by decide]) rfl ?_
        refine V.goto (t := 23) (pc := 77) dX11_busiest_77 (by decide) ?_
        refine V.weak (lv' := [some (.ref 0), some (.int l1), some (.int l2), some (.int (l3 + 1)), none]) (And.intro rfl (And.intro rfl (And.intro rfl (And.intro rfl trivial)))) ?_
        exact h23 l1 l2 (l3 + 1) w3 _ _ h
def f_X11_busiest_B10b (k10 : Int32 → Int32 → Wd → Option (Int32 × Wd)) (l1 : Int32) (l2 : Int32) (w : Wd) : Option (Int32 × Wd) :=
  if (w.1 6 7) ≤ l2 then
    f_X11_busiest_L90  FU 0 1 w
  else
    f_X11_busiest_L23 k10 FU l1 l2 0 w
def f_X11_busiest_L10 (n : Nat) : Int32 → Int32 → Wd → Option (Int32 × Wd) :=
  Nat.rec (fun _ _ _ => none) (fun _ k => f_X11_busiest_B10b k) n
set_option maxHeartbeats 4000000 in
set_option maxRecDepth 100000 in
theorem t_X11_busiest_L10 {G : GT} {d : Nat} (hd : 2 ≤ d + 1)  : ∀ (n : Nat) (l1 : Int32) (l2 : Int32) (w : Wd) (r : Int32) (w' : Wd), f_X11_busiest_L10 n l1 l2 w = some (r, w') → U (vf G mX11_busiest (d + 1)) 10 [some (.ref 0), some (.int l1), some (.int l2), none, none] [] w (some (.int r), 70, r0, w') := by
  intro n
  induction n with
  | zero => intro l1 l2 w r w' h; cases h
  | succ n h10 =>
    intro l1 l2 w r w' h
    have h : f_X11_busiest_B10b (f_X11_busiest_L10 n) l1 l2 w = some (r, w') := h
    unfold f_X11_busiest_B10b at h
    refine V.iload_n (pc := 10) dX11_busiest_10 rfl ?_
    refine V.aload_n (pc := 11) dX11_busiest_11 rfl ?_
    refine V.getR (t := 6) (pc := 12) dX11_busiest_12 f_RX11_28 k_cl11 lx_0 ly_0 rb_11_2 rr_0_2 ?_
    refine V.getI (pc := 15) dX11_busiest_15 f_RX11_104 k_cl4 lx_6 ly_6 rb_4_7 ?_
    rcases ite_e h with ⟨c, h⟩ | ⟨c, h⟩
    · refine V.icmp_ge_t (t := 86) (pc := 18) dX11_busiest_18 (by decide) c ?_
      refine V.iconst (pc := 86) dX11_busiest_86 ic_0 ?_
      refine V.istore_n (lv' := [some (.ref 0), some (.int l1), some (.int 0), none, none]) (pc := 87) dX11_busiest_87 (Nat.le_of_ble_eq_true rfl) rfl rfl ?_
      refine V.iconst (pc := 88) dX11_busiest_88 ic_1 ?_
      refine V.istore_n (lv' := [some (.ref 0), some (.int l1), some (.int 0), some (.int 1), none]) (pc := 89) dX11_busiest_89 (Nat.le_of_ble_eq_true rfl) rfl rfl ?_
      refine V.weak (lv' := [some (.ref 0), none, some (.int 0), some (.int 1), none]) (And.intro rfl (And.intro rfl (And.intro rfl trivial))) ?_
      exact t_X11_busiest_L90 hd FU 0 1 w _ _ h
    · refine V.icmp_ge_f (t := 86) (pc := 18) dX11_busiest_18 (by decide) c ?_
      refine V.iconst (pc := 21) dX11_busiest_21 ic_0 ?_
      refine V.istore_n (lv' := [some (.ref 0), some (.int l1), some (.int l2), some (.int 0), none]) (pc := 22) dX11_busiest_22 (Nat.le_of_ble_eq_true rfl) rfl rfl ?_
      exact t_X11_busiest_L23 hd h10 FU l1 l2 0 w _ _ h
def f_X11_busiest (l1 : Int32) (w : Wd) : Option (Int32 × Wd) :=
  bnd (f_J7_fill_53178_43 0 w) fun w1 =>
  f_X11_busiest_L10  FU l1 0 w1
set_option maxHeartbeats 4000000 in
set_option maxRecDepth 100000 in
theorem ok_X11_busiest {G : GT} {d : Nat} (hd : 2 ≤ d) {w : Wd} (l1 : Int32) {r : Int32} {w' : Wd} (h : f_X11_busiest l1 w = some (r, w')) : uC G yX11_busiest mX11_busiest d [.ref 0, .int l1] w (some (.int r)) w' := by
  obtain ⟨d, rfl⟩ : ∃ e, d = e + 1 := ⟨d - 1, by omega⟩
  unfold f_X11_busiest at h
  refine uC_of (lv := [some (.ref 0), some (.int l1), none, none, none]) 3 pn_X11 ⟨rfl, rfl⟩ (Nat.le_of_ble_eq_true rfl) rfl ?_
  refine V.aload_n (pc := 0) dX11_busiest_0 rfl ?_
  refine V.getR (t := 43) (pc := 1) dX11_busiest_1 f_RX11_85 k_cl11 lx_0 ly_0 rb_11_10 rr_0_10 ?_
  refine V.iconst (pc := 4) dX11_busiest_4 ic_0 ?_
  obtain ⟨w1, ew1, h⟩ := bnd_e h
  refine U.callS (pc := 5) (As := [.ref 43, .int 0]) (st := []) dX11_busiest_5 l_RX11_231 (ok_J7_fill_53178_43 (by omega) 0 ew1) (Nat.le_of_ble_eq_true rfl) rfl rfl (Nat.le_of_ble_eq_true rfl) ?_
  refine V.iconst (pc := 8) dX11_busiest_8 ic_0 ?_
  refine V.istore_n (lv' := [some (.ref 0), some (.int l1), some (.int 0), none, none]) (pc := 9) dX11_busiest_9 (Nat.le_of_ble_eq_true rfl) rfl rfl ?_
  exact t_X11_busiest_L10 hd FU l1 0 w1 _ _ h
theorem dX11_thin_0 : decode cX11_thin 0 = .ok (.aload_n 0, 1) := by decide +kernel
theorem dX11_thin_1 : decode cX11_thin 1 = .ok (.getfield 74, 3) := by decide +kernel
theorem dX11_thin_4 : decode cX11_thin 4 = .ok (.invokevirtual 111, 3) := by decide +kernel
theorem dX11_thin_7 : decode cX11_thin 7 = .ok (.istore_n 1, 1) := by decide +kernel
theorem dX11_thin_8 : decode cX11_thin 8 = .ok (.iload_n 1, 1) := by decide +kernel
theorem dX11_thin_9 : decode cX11_thin 9 = .ok (.istore_n 2, 1) := by decide +kernel
theorem dX11_thin_10 : decode cX11_thin 10 = .ok (.iconst 0, 1) := by decide +kernel
theorem dX11_thin_11 : decode cX11_thin 11 = .ok (.istore_n 3, 1) := by decide +kernel
theorem dX11_thin_12 : decode cX11_thin 12 = .ok (.iload_n 3, 1) := by decide +kernel
theorem dX11_thin_13 : decode cX11_thin 13 = .ok (.bipush 16, 2) := by decide +kernel
theorem dX11_thin_15 : decode cX11_thin 15 = .ok (.if_icmp .ge 32, 3) := by decide +kernel
theorem dX11_thin_18 : decode cX11_thin 18 = .ok (.aload_n 0, 1) := by decide +kernel
theorem dX11_thin_19 : decode cX11_thin 19 = .ok (.getfield 28, 3) := by decide +kernel
theorem dX11_thin_22 : decode cX11_thin 22 = .ok (.iload_n 2, 1) := by decide +kernel
theorem dX11_thin_23 : decode cX11_thin 23 = .ok (.invokevirtual 121, 3) := by decide +kernel
theorem dX11_thin_26 : decode cX11_thin 26 = .ok (.ifCond .ne 21, 3) := by decide +kernel
theorem dX11_thin_29 : decode cX11_thin 29 = .ok (.iload_n 2, 1) := by decide +kernel
theorem dX11_thin_30 : decode cX11_thin 30 = .ok (.iconst 1, 1) := by decide +kernel
theorem dX11_thin_31 : decode cX11_thin 31 = .ok (.aload_n 0, 1) := by decide +kernel
theorem dX11_thin_32 : decode cX11_thin 32 = .ok (.iload_n 2, 1) := by decide +kernel
theorem dX11_thin_33 : decode cX11_thin 33 = .ok (.invokevirtual 133, 3) := by decide +kernel
theorem dX11_thin_36 : decode cX11_thin 36 = .ok (.ishl, 1) := by decide +kernel
theorem dX11_thin_37 : decode cX11_thin 37 = .ok (.iconst (-1), 1) := by decide +kernel
theorem dX11_thin_38 : decode cX11_thin 38 = .ok (.ixor, 1) := by decide +kernel
theorem dX11_thin_39 : decode cX11_thin 39 = .ok (.iand, 1) := by decide +kernel
theorem dX11_thin_40 : decode cX11_thin 40 = .ok (.istore_n 2, 1) := by decide +kernel
theorem dX11_thin_41 : decode cX11_thin 41 = .ok (.iinc 3 1, 3) := by decide +kernel
theorem dX11_thin_44 : decode cX11_thin 44 = .ok (.goto (-32), 3) := by decide +kernel
theorem dX11_thin_47 : decode cX11_thin 47 = .ok (.aload_n 0, 1) := by decide +kernel
theorem dX11_thin_48 : decode cX11_thin 48 = .ok (.getfield 74, 3) := by decide +kernel
theorem dX11_thin_51 : decode cX11_thin 51 = .ok (.bipush 19, 2) := by decide +kernel
theorem dX11_thin_53 : decode cX11_thin 53 = .ok (.iload_n 2, 1) := by decide +kernel
theorem dX11_thin_54 : decode cX11_thin 54 = .ok (.invokevirtual 114, 3) := by decide +kernel
theorem dX11_thin_57 : decode cX11_thin 57 = .ok (.ifCond .eq 14, 3) := by decide +kernel
theorem dX11_thin_60 : decode cX11_thin 60 = .ok (.iload_n 1, 1) := by decide +kernel
theorem dX11_thin_61 : decode cX11_thin 61 = .ok (.iload_n 2, 1) := by decide +kernel
theorem dX11_thin_62 : decode cX11_thin 62 = .ok (.iconst (-1), 1) := by decide +kernel
theorem dX11_thin_63 : decode cX11_thin 63 = .ok (.ixor, 1) := by decide +kernel
theorem dX11_thin_64 : decode cX11_thin 64 = .ok (.iand, 1) := by decide +kernel
theorem dX11_thin_65 : decode cX11_thin 65 = .ok (.invokestatic 127, 3) := by decide +kernel
theorem dX11_thin_68 : decode cX11_thin 68 = .ok (.goto 4, 3) := by decide +kernel
theorem dX11_thin_71 : decode cX11_thin 71 = .ok (.iconst (-1), 1) := by decide +kernel
theorem dX11_thin_72 : decode cX11_thin 72 = .ok (.ireturn, 1) := by decide +kernel
def f_X11_thin_J47 (l1 : Int32) (l2 : Int32) (w : Wd) : Option (Int32 × Wd) :=
  bnd2 (f_X0_change 19 l2 w) fun x1 w2 =>
  if x1 = 0 then
    some ((-1), w2)
  else
    some ((f_J6_bitCount_0f7a4 (l1 &&& (l2 ^^^ (-1)))), w2)
set_option maxHeartbeats 4000000 in
set_option maxRecDepth 100000 in
theorem t_X11_thin_J47 {G : GT} {d : Nat} (hd : 3 ≤ d + 1)  : ∀ (l1 : Int32) (l2 : Int32) (w : Wd) (r : Int32) (w' : Wd), f_X11_thin_J47 l1 l2 w = some (r, w') → U (vf G mX11_thin (d + 1)) 47 [some (.ref 0), some (.int l1), some (.int l2), none] [] w (some (.int r), 70, r0, w') := by
  intro l1 l2 w r w' h
  unfold f_X11_thin_J47 at h
  refine V.aload_n (pc := 47) dX11_thin_47 rfl ?_
  refine V.getR (t := 37) (pc := 48) dX11_thin_48 f_RX11_74 k_cl11 lx_0 ly_0 rb_11_8 rr_0_8 ?_
  refine V.bipush (pc := 51) dX11_thin_51 bp_19 ?_
  refine V.iload_n (pc := 53) dX11_thin_53 rfl ?_
  obtain ⟨x1, w2, ew2, h⟩ := bnd2_e h
  refine U.callV (pc := 54) (As := [.int 19, .int l2]) (st := []) dX11_thin_54 l_RX11_114 (ok_X0_change (by omega) 19 l2 ew2) lx_37 ly_37 cn_0 (Nat.le_of_ble_eq_true rfl) rfl rfl (Nat.le_of_ble_eq_true rfl) ?_
  rcases ite_e h with ⟨c, h⟩ | ⟨c, h⟩
  · refine V.if_eq_t (t := 71) (pc := 57) dX11_thin_57 (by decide) c ?_
    refine V.iconst (pc := 71) dX11_thin_71 ic_m1 ?_
    obtain ⟨rfl, rfl⟩ := Prod.mk.inj (Option.some.inj h)
    exact V.iret (pc := 72) dX11_thin_72 rfl (Nat.le_refl _) (Nat.le_refl _)
  · refine V.if_eq_f (t := 71) (pc := 57) dX11_thin_57 (by decide) c ?_
    refine V.iload_n (pc := 60) dX11_thin_60 rfl ?_
    refine V.iload_n (pc := 61) dX11_thin_61 rfl ?_
    refine V.iconst (pc := 62) dX11_thin_62 ic_m1 ?_
    refine V.ixor (pc := 63) dX11_thin_63 ?_
    refine V.iand (pc := 64) dX11_thin_64 ?_
    refine U.callS (pc := 65) (As := [.int (l1 &&& (l2 ^^^ (-1)))]) (st := []) dX11_thin_65 l_RX11_127 (ok_J6_bitCount_0f7a4 (by omega) (l1 &&& (l2 ^^^ (-1))) ) (Nat.le_of_ble_eq_true rfl) rfl rfl (Nat.le_of_ble_eq_true rfl) ?_
    refine V.goto (t := 72) (pc := 68) dX11_thin_68 (by decide) ?_
    obtain ⟨rfl, rfl⟩ := Prod.mk.inj (Option.some.inj h)
    exact V.iret (pc := 72) dX11_thin_72 rfl (Nat.le_refl _) (Nat.le_refl _)
def f_X11_thin_B12b (k12 : Int32 → Int32 → Int32 → Wd → Option (Int32 × Wd)) (l1 : Int32) (l2 : Int32) (l3 : Int32) (w : Wd) : Option (Int32 × Wd) :=
  if 16 ≤ l3 then
    f_X11_thin_J47  l1 l2 w
  else
    bnd (f_X4_isFree l2 w) fun x1 =>
    if x1 = 0 then
      bnd2 (f_X11_busiest l2 w) fun x2 w3 =>
      k12 l1 (l2 &&& ((1 <<< (x2 &&& 31)) ^^^ (-1))) (l3 + 1) w3
    else
      f_X11_thin_J47  l1 l2 w
def f_X11_thin_L12 (n : Nat) : Int32 → Int32 → Int32 → Wd → Option (Int32 × Wd) :=
  Nat.rec (fun _ _ _ _ => none) (fun _ k => f_X11_thin_B12b k) n
set_option maxHeartbeats 4000000 in
set_option maxRecDepth 100000 in
theorem t_X11_thin_L12 {G : GT} {d : Nat} (hd : 3 ≤ d + 1)  : ∀ (n : Nat) (l1 : Int32) (l2 : Int32) (l3 : Int32) (w : Wd) (r : Int32) (w' : Wd), f_X11_thin_L12 n l1 l2 l3 w = some (r, w') → U (vf G mX11_thin (d + 1)) 12 [some (.ref 0), some (.int l1), some (.int l2), some (.int l3)] [] w (some (.int r), 70, r0, w') := by
  intro n
  induction n with
  | zero => intro l1 l2 l3 w r w' h; cases h
  | succ n h12 =>
    intro l1 l2 l3 w r w' h
    have h : f_X11_thin_B12b (f_X11_thin_L12 n) l1 l2 l3 w = some (r, w') := h
    unfold f_X11_thin_B12b at h
    refine V.iload_n (pc := 12) dX11_thin_12 rfl ?_
    refine V.bipush (pc := 13) dX11_thin_13 bp_16 ?_
    rcases ite_e h with ⟨c, h⟩ | ⟨c, h⟩
    · refine V.icmp_ge_t (t := 47) (pc := 15) dX11_thin_15 (by decide) c ?_
      refine V.weak (lv' := [some (.ref 0), some (.int l1), some (.int l2), none]) (And.intro rfl (And.intro rfl (And.intro rfl trivial))) ?_
      exact t_X11_thin_J47 hd l1 l2 w _ _ h
    · refine V.icmp_ge_f (t := 47) (pc := 15) dX11_thin_15 (by decide) c ?_
      refine V.aload_n (pc := 18) dX11_thin_18 rfl ?_
      refine V.getR (t := 6) (pc := 19) dX11_thin_19 f_RX11_28 k_cl11 lx_0 ly_0 rb_11_2 rr_0_2 ?_
      refine V.iload_n (pc := 22) dX11_thin_22 rfl ?_
      obtain ⟨x1, ex1, h⟩ := bnd_e h
      refine U.callV (pc := 23) (As := [.int l2]) (st := []) dX11_thin_23 l_RX11_121 (ok_X4_isFree (by omega) l2 ex1) lx_6 ly_6 cn_4 (Nat.le_of_ble_eq_true rfl) rfl rfl (Nat.le_of_ble_eq_true rfl) ?_
      rcases ite_e h with ⟨c, h⟩ | ⟨c, h⟩
      · refine V.if_ne_f (t := 47) (pc := 26) dX11_thin_26 (by decide) c ?_
        refine V.iload_n (pc := 29) dX11_thin_29 rfl ?_
        refine V.iconst (pc := 30) dX11_thin_30 ic_1 ?_
        refine V.aload_n (pc := 31) dX11_thin_31 rfl ?_
        refine V.iload_n (pc := 32) dX11_thin_32 rfl ?_
        obtain ⟨x2, w3, ew3, h⟩ := bnd2_e h
        refine U.callV (pc := 33) (As := [.int l2]) (st := [.int 1, .int l2]) dX11_thin_33 l_RX11_133 (ok_X11_busiest (by omega) l2 ew3) lx_0 ly_0 cn_11 (Nat.le_of_ble_eq_true rfl) rfl rfl (Nat.le_of_ble_eq_true rfl) ?_
        refine V.ishl (pc := 36) dX11_thin_36 ?_
        refine V.iconst (pc := 37) dX11_thin_37 ic_m1 ?_
        refine V.ixor (pc := 38) dX11_thin_38 ?_
        refine V.iand (pc := 39) dX11_thin_39 ?_
        refine V.istore_n (lv' := [some (.ref 0), some (.int l1), some (.int (l2 &&& ((1 <<< (x2 &&& 31)) ^^^ (-1)))), some (.int l3)]) (pc := 40) dX11_thin_40 (Nat.le_of_ble_eq_true rfl) rfl rfl ?_
        refine V.iinc (lv' := [some (.ref 0), some (.int l1), some (.int (l2 &&& ((1 <<< (x2 &&& 31)) ^^^ (-1)))), some (.int (l3 + 1))]) (pc := 41) dX11_thin_41 (Nat.le_of_ble_eq_true rfl) rfl rfl (v := (l3 + 1)) (by rw [show Int32.ofInt 1 = 1 from by decide]) rfl ?_
        refine V.goto (t := 12) (pc := 44) dX11_thin_44 (by decide) ?_
        exact h12 l1 (l2 &&& ((1 <<< (x2 &&& 31)) ^^^ (-1))) (l3 + 1) w3 _ _ h
      · refine V.if_ne_t (t := 47) (pc := 26) dX11_thin_26 (by decide) c ?_
        refine V.weak (lv' := [some (.ref 0), some (.int l1), some (.int l2), none]) (And.intro rfl (And.intro rfl (And.intro rfl trivial))) ?_
        exact t_X11_thin_J47 hd l1 l2 w _ _ h
def f_X11_thin (w : Wd) : Option (Int32 × Wd) :=
  bnd (f_X0_set  w) fun x1 =>
  f_X11_thin_L12  FU x1 x1 0 w
set_option maxHeartbeats 4000000 in
set_option maxRecDepth 100000 in
theorem ok_X11_thin {G : GT} {d : Nat} (hd : 3 ≤ d) {w : Wd}  {r : Int32} {w' : Wd} (h : f_X11_thin  w = some (r, w')) : uC G yX11_thin mX11_thin d [.ref 0] w (some (.int r)) w' := by
  obtain ⟨d, rfl⟩ : ∃ e, d = e + 1 := ⟨d - 1, by omega⟩
  unfold f_X11_thin at h
  refine uC_of (lv := [some (.ref 0), none, none, none]) 3 pn_X11 ⟨rfl, rfl⟩ (Nat.le_of_ble_eq_true rfl) rfl ?_
  refine V.aload_n (pc := 0) dX11_thin_0 rfl ?_
  refine V.getR (t := 37) (pc := 1) dX11_thin_1 f_RX11_74 k_cl11 lx_0 ly_0 rb_11_8 rr_0_8 ?_
  obtain ⟨x1, ex1, h⟩ := bnd_e h
  refine U.callV (pc := 4) (As := []) (st := []) dX11_thin_4 l_RX11_111 (ok_X0_set (by omega)  ex1) lx_37 ly_37 cn_0 (Nat.le_of_ble_eq_true rfl) rfl rfl (Nat.le_of_ble_eq_true rfl) ?_
  refine V.istore_n (lv' := [some (.ref 0), some (.int x1), none, none]) (pc := 7) dX11_thin_7 (Nat.le_of_ble_eq_true rfl) rfl rfl ?_
  refine V.iload_n (pc := 8) dX11_thin_8 rfl ?_
  refine V.istore_n (lv' := [some (.ref 0), some (.int x1), some (.int x1), none]) (pc := 9) dX11_thin_9 (Nat.le_of_ble_eq_true rfl) rfl rfl ?_
  refine V.iconst (pc := 10) dX11_thin_10 ic_0 ?_
  refine V.istore_n (lv' := [some (.ref 0), some (.int x1), some (.int x1), some (.int 0)]) (pc := 11) dX11_thin_11 (Nat.le_of_ble_eq_true rfl) rfl rfl ?_
  exact t_X11_thin_L12 hd FU x1 x1 0 w _ _ h
theorem dX12_mostIn_0 : decode cX12_mostIn 0 = .ok (.iconst 0, 1) := by decide +kernel
theorem dX12_mostIn_1 : decode cX12_mostIn 1 = .ok (.istore_n 2, 1) := by decide +kernel
theorem dX12_mostIn_2 : decode cX12_mostIn 2 = .ok (.iload_n 2, 1) := by decide +kernel
theorem dX12_mostIn_3 : decode cX12_mostIn 3 = .ok (.aload_n 0, 1) := by decide +kernel
theorem dX12_mostIn_4 : decode cX12_mostIn 4 = .ok (.getfield 92, 3) := by decide +kernel
theorem dX12_mostIn_7 : decode cX12_mostIn 7 = .ok (.if_icmp .ge 16, 3) := by decide +kernel
theorem dX12_mostIn_10 : decode cX12_mostIn 10 = .ok (.aload_n 0, 1) := by decide +kernel
theorem dX12_mostIn_11 : decode cX12_mostIn 11 = .ok (.getfield 48, 3) := by decide +kernel
theorem dX12_mostIn_14 : decode cX12_mostIn 14 = .ok (.iload_n 2, 1) := by decide +kernel
theorem dX12_mostIn_15 : decode cX12_mostIn 15 = .ok (.iconst 0, 1) := by decide +kernel
theorem dX12_mostIn_16 : decode cX12_mostIn 16 = .ok (.iastore, 1) := by decide +kernel
theorem dX12_mostIn_17 : decode cX12_mostIn 17 = .ok (.iinc 2 1, 3) := by decide +kernel
theorem dX12_mostIn_20 : decode cX12_mostIn 20 = .ok (.goto (-18), 3) := by decide +kernel
theorem dX12_mostIn_23 : decode cX12_mostIn 23 = .ok (.iconst 0, 1) := by decide +kernel
theorem dX12_mostIn_24 : decode cX12_mostIn 24 = .ok (.istore_n 2, 1) := by decide +kernel
theorem dX12_mostIn_25 : decode cX12_mostIn 25 = .ok (.iload_n 2, 1) := by decide +kernel
theorem dX12_mostIn_26 : decode cX12_mostIn 26 = .ok (.aload_n 0, 1) := by decide +kernel
theorem dX12_mostIn_27 : decode cX12_mostIn 27 = .ok (.getfield 92, 3) := by decide +kernel
theorem dX12_mostIn_30 : decode cX12_mostIn 30 = .ok (.if_icmp .ge 114, 3) := by decide +kernel
theorem dX12_mostIn_33 : decode cX12_mostIn 33 = .ok (.iconst 0, 1) := by decide +kernel
theorem dX12_mostIn_34 : decode cX12_mostIn 34 = .ok (.istore_n 3, 1) := by decide +kernel
theorem dX12_mostIn_35 : decode cX12_mostIn 35 = .ok (.iload_n 3, 1) := by decide +kernel
theorem dX12_mostIn_36 : decode cX12_mostIn 36 = .ok (.aload_n 0, 1) := by decide +kernel
theorem dX12_mostIn_37 : decode cX12_mostIn 37 = .ok (.getfield 92, 3) := by decide +kernel
theorem dX12_mostIn_40 : decode cX12_mostIn 40 = .ok (.if_icmp .ge 98, 3) := by decide +kernel
theorem dX12_mostIn_43 : decode cX12_mostIn 43 = .ok (.aload_n 0, 1) := by decide +kernel
theorem dX12_mostIn_44 : decode cX12_mostIn 44 = .ok (.iload_n 2, 1) := by decide +kernel
theorem dX12_mostIn_45 : decode cX12_mostIn 45 = .ok (.iload_n 3, 1) := by decide +kernel
theorem dX12_mostIn_46 : decode cX12_mostIn 46 = .ok (.invokevirtual 119, 3) := by decide +kernel
theorem dX12_mostIn_49 : decode cX12_mostIn 49 = .ok (.istore 4, 2) := by decide +kernel
theorem dX12_mostIn_51 : decode cX12_mostIn 51 = .ok (.iload_n 1, 1) := by decide +kernel
theorem dX12_mostIn_52 : decode cX12_mostIn 52 = .ok (.iload_n 2, 1) := by decide +kernel
theorem dX12_mostIn_53 : decode cX12_mostIn 53 = .ok (.invokestatic 128, 3) := by decide +kernel
theorem dX12_mostIn_56 : decode cX12_mostIn 56 = .ok (.ifCond .eq 76, 3) := by decide +kernel
theorem dX12_mostIn_59 : decode cX12_mostIn 59 = .ok (.iload_n 1, 1) := by decide +kernel
theorem dX12_mostIn_60 : decode cX12_mostIn 60 = .ok (.iload_n 3, 1) := by decide +kernel
theorem dX12_mostIn_61 : decode cX12_mostIn 61 = .ok (.invokestatic 128, 3) := by decide +kernel
theorem dX12_mostIn_64 : decode cX12_mostIn 64 = .ok (.ifCond .eq 68, 3) := by decide +kernel
theorem dX12_mostIn_67 : decode cX12_mostIn 67 = .ok (.iload_n 1, 1) := by decide +kernel
theorem dX12_mostIn_68 : decode cX12_mostIn 68 = .ok (.iload 4, 2) := by decide +kernel
theorem dX12_mostIn_70 : decode cX12_mostIn 70 = .ok (.invokestatic 128, 3) := by decide +kernel
theorem dX12_mostIn_73 : decode cX12_mostIn 73 = .ok (.ifCond .ne 6, 3) := by decide +kernel
theorem dX12_mostIn_76 : decode cX12_mostIn 76 = .ok (.goto 56, 3) := by decide +kernel
theorem dX12_mostIn_79 : decode cX12_mostIn 79 = .ok (.iconst 1, 1) := by decide +kernel
theorem dX12_mostIn_80 : decode cX12_mostIn 80 = .ok (.iload_n 2, 1) := by decide +kernel
theorem dX12_mostIn_81 : decode cX12_mostIn 81 = .ok (.ishl, 1) := by decide +kernel
theorem dX12_mostIn_82 : decode cX12_mostIn 82 = .ok (.iconst 1, 1) := by decide +kernel
theorem dX12_mostIn_83 : decode cX12_mostIn 83 = .ok (.iload_n 3, 1) := by decide +kernel
theorem dX12_mostIn_84 : decode cX12_mostIn 84 = .ok (.ishl, 1) := by decide +kernel
theorem dX12_mostIn_85 : decode cX12_mostIn 85 = .ok (.ior, 1) := by decide +kernel
theorem dX12_mostIn_86 : decode cX12_mostIn 86 = .ok (.iconst 1, 1) := by decide +kernel
theorem dX12_mostIn_87 : decode cX12_mostIn 87 = .ok (.iload 4, 2) := by decide +kernel
theorem dX12_mostIn_89 : decode cX12_mostIn 89 = .ok (.ishl, 1) := by decide +kernel
theorem dX12_mostIn_90 : decode cX12_mostIn 90 = .ok (.ior, 1) := by decide +kernel
theorem dX12_mostIn_91 : decode cX12_mostIn 91 = .ok (.istore 5, 2) := by decide +kernel
theorem dX12_mostIn_93 : decode cX12_mostIn 93 = .ok (.iconst 0, 1) := by decide +kernel
theorem dX12_mostIn_94 : decode cX12_mostIn 94 = .ok (.istore 6, 2) := by decide +kernel
theorem dX12_mostIn_96 : decode cX12_mostIn 96 = .ok (.iload 6, 2) := by decide +kernel
theorem dX12_mostIn_98 : decode cX12_mostIn 98 = .ok (.aload_n 0, 1) := by decide +kernel
theorem dX12_mostIn_99 : decode cX12_mostIn 99 = .ok (.getfield 92, 3) := by decide +kernel
theorem dX12_mostIn_102 : decode cX12_mostIn 102 = .ok (.if_icmp .ge 30, 3) := by decide +kernel
theorem dX12_mostIn_105 : decode cX12_mostIn 105 = .ok (.iload 5, 2) := by decide +kernel
theorem dX12_mostIn_107 : decode cX12_mostIn 107 = .ok (.iload 6, 2) := by decide +kernel
theorem dX12_mostIn_109 : decode cX12_mostIn 109 = .ok (.invokestatic 128, 3) := by decide +kernel
theorem dX12_mostIn_112 : decode cX12_mostIn 112 = .ok (.ifCond .eq 14, 3) := by decide +kernel
theorem dX12_mostIn_115 : decode cX12_mostIn 115 = .ok (.aload_n 0, 1) := by decide +kernel
theorem dX12_mostIn_116 : decode cX12_mostIn 116 = .ok (.getfield 48, 3) := by decide +kernel
theorem dX12_mostIn_119 : decode cX12_mostIn 119 = .ok (.iload 6, 2) := by decide +kernel
theorem dX12_mostIn_121 : decode cX12_mostIn 121 = .ok (.dup2, 1) := by decide +kernel
theorem dX12_mostIn_122 : decode cX12_mostIn 122 = .ok (.iaload, 1) := by decide +kernel
theorem dX12_mostIn_123 : decode cX12_mostIn 123 = .ok (.iconst 1, 1) := by decide +kernel
theorem dX12_mostIn_124 : decode cX12_mostIn 124 = .ok (.iadd, 1) := by decide +kernel
theorem dX12_mostIn_125 : decode cX12_mostIn 125 = .ok (.iastore, 1) := by decide +kernel
theorem dX12_mostIn_126 : decode cX12_mostIn 126 = .ok (.iinc 6 1, 3) := by decide +kernel
theorem dX12_mostIn_129 : decode cX12_mostIn 129 = .ok (.goto (-33), 3) := by decide +kernel
theorem dX12_mostIn_132 : decode cX12_mostIn 132 = .ok (.iinc 3 1, 3) := by decide +kernel
theorem dX12_mostIn_135 : decode cX12_mostIn 135 = .ok (.goto (-100), 3) := by decide +kernel
theorem dX12_mostIn_138 : decode cX12_mostIn 138 = .ok (.iinc 2 1, 3) := by decide +kernel
theorem dX12_mostIn_141 : decode cX12_mostIn 141 = .ok (.goto (-116), 3) := by decide +kernel
theorem dX12_mostIn_144 : decode cX12_mostIn 144 = .ok (.iconst 0, 1) := by decide +kernel
theorem dX12_mostIn_145 : decode cX12_mostIn 145 = .ok (.istore_n 2, 1) := by decide +kernel
theorem dX12_mostIn_146 : decode cX12_mostIn 146 = .ok (.iconst 1, 1) := by decide +kernel
theorem dX12_mostIn_147 : decode cX12_mostIn 147 = .ok (.istore_n 3, 1) := by decide +kernel
theorem dX12_mostIn_148 : decode cX12_mostIn 148 = .ok (.iload_n 3, 1) := by decide +kernel
theorem dX12_mostIn_149 : decode cX12_mostIn 149 = .ok (.aload_n 0, 1) := by decide +kernel
theorem dX12_mostIn_150 : decode cX12_mostIn 150 = .ok (.getfield 92, 3) := by decide +kernel
theorem dX12_mostIn_153 : decode cX12_mostIn 153 = .ok (.if_icmp .ge 26, 3) := by decide +kernel
theorem dX12_mostIn_156 : decode cX12_mostIn 156 = .ok (.aload_n 0, 1) := by decide +kernel
theorem dX12_mostIn_157 : decode cX12_mostIn 157 = .ok (.getfield 48, 3) := by decide +kernel
theorem dX12_mostIn_160 : decode cX12_mostIn 160 = .ok (.iload_n 3, 1) := by decide +kernel
theorem dX12_mostIn_161 : decode cX12_mostIn 161 = .ok (.iaload, 1) := by decide +kernel
theorem dX12_mostIn_162 : decode cX12_mostIn 162 = .ok (.aload_n 0, 1) := by decide +kernel
theorem dX12_mostIn_163 : decode cX12_mostIn 163 = .ok (.getfield 48, 3) := by decide +kernel
theorem dX12_mostIn_166 : decode cX12_mostIn 166 = .ok (.iload_n 2, 1) := by decide +kernel
theorem dX12_mostIn_167 : decode cX12_mostIn 167 = .ok (.iaload, 1) := by decide +kernel
theorem dX12_mostIn_168 : decode cX12_mostIn 168 = .ok (.if_icmp .le 5, 3) := by decide +kernel
theorem dX12_mostIn_171 : decode cX12_mostIn 171 = .ok (.iload_n 3, 1) := by decide +kernel
theorem dX12_mostIn_172 : decode cX12_mostIn 172 = .ok (.istore_n 2, 1) := by decide +kernel
theorem dX12_mostIn_173 : decode cX12_mostIn 173 = .ok (.iinc 3 1, 3) := by decide +kernel
theorem dX12_mostIn_176 : decode cX12_mostIn 176 = .ok (.goto (-28), 3) := by decide +kernel
theorem dX12_mostIn_179 : decode cX12_mostIn 179 = .ok (.iload_n 2, 1) := by decide +kernel
theorem dX12_mostIn_180 : decode cX12_mostIn 180 = .ok (.ireturn, 1) := by decide +kernel
def f_X12_mostIn_B148b (k148 : Int32 → Int32 → Wd → Option (Int32 × Wd)) (l2 : Int32) (l3 : Int32) (w : Wd) : Option (Int32 × Wd) :=
  if (w.1 44 1) ≤ l3 then
    some (l2, w)
  else
    rdI w 56 16 l3 fun x1 =>
    rdI w 56 16 l2 fun x2 =>
    if x1 ≤ x2 then
      k148 l2 (l3 + 1) w
    else
      k148 l3 (l3 + 1) w
def f_X12_mostIn_L148 (n : Nat) : Int32 → Int32 → Wd → Option (Int32 × Wd) :=
  Nat.rec (fun _ _ _ => none) (fun _ k => f_X12_mostIn_B148b k) n
set_option maxHeartbeats 4000000 in
set_option maxRecDepth 100000 in
theorem t_X12_mostIn_L148 {G : GT} {d : Nat} (hd : 1 ≤ d + 1)  : ∀ (n : Nat) (l2 : Int32) (l3 : Int32) (w : Wd) (r : Int32) (w' : Wd), f_X12_mostIn_L148 n l2 l3 w = some (r, w') → U (vf G mX12_mostIn (d + 1)) 148 [some (.ref 44), none, some (.int l2), some (.int l3), none, none, none] [] w (some (.int r), 70, r0, w') := by
  intro n
  induction n with
  | zero => intro l2 l3 w r w' h; cases h
  | succ n h148 =>
    intro l2 l3 w r w' h
    have h : f_X12_mostIn_B148b (f_X12_mostIn_L148 n) l2 l3 w = some (r, w') := h
    unfold f_X12_mostIn_B148b at h
    refine V.iload_n (pc := 148) dX12_mostIn_148 rfl ?_
    refine V.aload_n (pc := 149) dX12_mostIn_149 rfl ?_
    refine V.getI (pc := 150) dX12_mostIn_150 f_RX12_92 k_cl12 lx_44 ly_44 rb_12_1 ?_
    rcases ite_e h with ⟨c, h⟩ | ⟨c, h⟩
    · refine V.icmp_ge_t (t := 179) (pc := 153) dX12_mostIn_153 (by decide) c ?_
      refine V.iload_n (pc := 179) dX12_mostIn_179 rfl ?_
      obtain ⟨rfl, rfl⟩ := Prod.mk.inj (Option.some.inj h)
      exact V.iret (pc := 180) dX12_mostIn_180 rfl (Nat.le_refl _) (Nat.le_refl _)
    · refine V.icmp_ge_f (t := 179) (pc := 153) dX12_mostIn_153 (by decide) c ?_
      refine V.aload_n (pc := 156) dX12_mostIn_156 rfl ?_
      refine V.getR (t := 56) (pc := 157) dX12_mostIn_157 f_RX12_48 k_cl12 lx_44 ly_44 rb_12_16 rr_44_16 ?_
      refine V.iload_n (pc := 160) dX12_mostIn_160 rfl ?_
      obtain ⟨x1, ix1, ex1, h⟩ := rdI_e h
      refine V.ialdX (pc := 161) dX12_mostIn_161 lx_56 ly_56 ix1 ex1 ?_
      refine V.aload_n (pc := 162) dX12_mostIn_162 rfl ?_
      refine V.getR (t := 56) (pc := 163) dX12_mostIn_163 f_RX12_48 k_cl12 lx_44 ly_44 rb_12_16 rr_44_16 ?_
      refine V.iload_n (pc := 166) dX12_mostIn_166 rfl ?_
      obtain ⟨x2, ix2, ex2, h⟩ := rdI_e h
      refine V.ialdX (pc := 167) dX12_mostIn_167 lx_56 ly_56 ix2 ex2 ?_
      rcases ite_e h with ⟨c, h⟩ | ⟨c, h⟩
      · refine V.icmp_le_t (t := 173) (pc := 168) dX12_mostIn_168 (by decide) c ?_
        refine V.iinc (lv' := [some (.ref 44), none, some (.int l2), some (.int (l3 + 1)), none, none, none]) (pc := 173) dX12_mostIn_173 (Nat.le_of_ble_eq_true rfl) rfl rfl (v := (l3 + 1)) (by rw [show Int32.ofInt 1 = 1 from by decide]) rfl ?_
        refine V.goto (t := 148) (pc := 176) dX12_mostIn_176 (by decide) ?_
        exact h148 l2 (l3 + 1) w _ _ h
      · refine V.icmp_le_f (t := 173) (pc := 168) dX12_mostIn_168 (by decide) c ?_
        refine V.iload_n (pc := 171) dX12_mostIn_171 rfl ?_
        refine V.istore_n (lv' := [some (.ref 44), none, some (.int l3), some (.int l3), none, none, none]) (pc := 172) dX12_mostIn_172 (Nat.le_of_ble_eq_true rfl) rfl rfl ?_
        refine V.iinc (lv' := [some (.ref 44), none, some (.int l3), some (.int (l3 + 1)), none, none, none]) (pc := 173) dX12_mostIn_173 (Nat.le_of_ble_eq_true rfl) rfl rfl (v := (l3 + 1)) (by rw [show Int32.ofInt 1 = 1 from by decide]) rfl ?_
        refine V.goto (t := 148) (pc := 176) dX12_mostIn_176 (by decide) ?_
        exact h148 l3 (l3 + 1) w _ _ h
def f_X12_mostIn_B96b (k25 : Int32 → Int32 → Wd → Option (Int32 × Wd)) (k35 : Int32 → Int32 → Int32 → Wd → Option (Int32 × Wd)) (k96 : Int32 → Int32 → Int32 → Int32 → Int32 → Wd → Option (Int32 × Wd)) (l1 : Int32) (l2 : Int32) (l3 : Int32) (l5 : Int32) (l6 : Int32) (w : Wd) : Option (Int32 × Wd) :=
  if (w.1 44 1) ≤ l6 then
    k35 l1 l2 (l3 + 1) w
  else
    if (f_X12_has l5 l6) = 0 then
      k96 l1 l2 l3 l5 (l6 + 1) w
    else
      rdI w 56 16 l6 fun x1 =>
      wrI w 56 16 l6 (x1 + 1) fun w2 =>
      k96 l1 l2 l3 l5 (l6 + 1) w2
def f_X12_mostIn_L96 (k25 : Int32 → Int32 → Wd → Option (Int32 × Wd)) (k35 : Int32 → Int32 → Int32 → Wd → Option (Int32 × Wd)) (n : Nat) : Int32 → Int32 → Int32 → Int32 → Int32 → Wd → Option (Int32 × Wd) :=
  Nat.rec (fun _ _ _ _ _ _ => none) (fun _ k => f_X12_mostIn_B96b k25 k35 k) n
set_option maxHeartbeats 4000000 in
set_option maxRecDepth 100000 in
theorem t_X12_mostIn_L96 {G : GT} {d : Nat} {k25 : Int32 → Int32 → Wd → Option (Int32 × Wd)} {k35 : Int32 → Int32 → Int32 → Wd → Option (Int32 × Wd)} (hd : 1 ≤ d + 1) (h25 : ∀ (l1 : Int32) (l2 : Int32) (w : Wd) (r : Int32) (w' : Wd), k25 l1 l2 w = some (r, w') → U (vf G mX12_mostIn (d + 1)) 25 [some (.ref 44), some (.int l1), some (.int l2), none, none, none, none] [] w (some (.int r), 70, r0, w')) (h35 : ∀ (l1 : Int32) (l2 : Int32) (l3 : Int32) (w : Wd) (r : Int32) (w' : Wd), k35 l1 l2 l3 w = some (r, w') → U (vf G mX12_mostIn (d + 1)) 35 [some (.ref 44), some (.int l1), some (.int l2), some (.int l3), none, none, none] [] w (some (.int r), 70, r0, w')) : ∀ (n : Nat) (l1 : Int32) (l2 : Int32) (l3 : Int32) (l5 : Int32) (l6 : Int32) (w : Wd) (r : Int32) (w' : Wd), f_X12_mostIn_L96 k25 k35 n l1 l2 l3 l5 l6 w = some (r, w') → U (vf G mX12_mostIn (d + 1)) 96 [some (.ref 44), some (.int l1), some (.int l2), some (.int l3), none, some (.int l5), some (.int l6)] [] w (some (.int r), 70, r0, w') := by
  intro n
  induction n with
  | zero => intro l1 l2 l3 l5 l6 w r w' h; cases h
  | succ n h96 =>
    intro l1 l2 l3 l5 l6 w r w' h
    have h : f_X12_mostIn_B96b k25 k35 (f_X12_mostIn_L96 k25 k35 n) l1 l2 l3 l5 l6 w = some (r, w') := h
    unfold f_X12_mostIn_B96b at h
    refine V.iload (pc := 96) dX12_mostIn_96 rfl ?_
    refine V.aload_n (pc := 98) dX12_mostIn_98 rfl ?_
    refine V.getI (pc := 99) dX12_mostIn_99 f_RX12_92 k_cl12 lx_44 ly_44 rb_12_1 ?_
    rcases ite_e h with ⟨c, h⟩ | ⟨c, h⟩
    · refine V.icmp_ge_t (t := 132) (pc := 102) dX12_mostIn_102 (by decide) c ?_
      refine V.iinc (lv' := [some (.ref 44), some (.int l1), some (.int l2), some (.int (l3 + 1)), none, some (.int l5), some (.int l6)]) (pc := 132) dX12_mostIn_132 (Nat.le_of_ble_eq_true rfl) rfl rfl (v := (l3 + 1)) (by rw [show Int32.ofInt 1 = 1 from by decide]) rfl ?_
      refine V.goto (t := 35) (pc := 135) dX12_mostIn_135 (by decide) ?_
      refine V.weak (lv' := [some (.ref 44), some (.int l1), some (.int l2), some (.int (l3 + 1)), none, none, none]) (And.intro rfl (And.intro rfl (And.intro rfl (And.intro rfl trivial)))) ?_
      exact h35 l1 l2 (l3 + 1) w _ _ h
    · refine V.icmp_ge_f (t := 132) (pc := 102) dX12_mostIn_102 (by decide) c ?_
      refine V.iload (pc := 105) dX12_mostIn_105 rfl ?_
      refine V.iload (pc := 107) dX12_mostIn_107 rfl ?_
      refine U.callS (pc := 109) (As := [.int l5, .int l6]) (st := []) dX12_mostIn_109 l_RX12_128 (ok_X12_has (by omega) l5 l6 ) (Nat.le_of_ble_eq_true rfl) rfl rfl (Nat.le_of_ble_eq_true rfl) ?_
      rcases ite_e h with ⟨c, h⟩ | ⟨c, h⟩
      · refine V.if_eq_t (t := 126) (pc := 112) dX12_mostIn_112 (by decide) c ?_
        refine V.iinc (lv' := [some (.ref 44), some (.int l1), some (.int l2), some (.int l3), none, some (.int l5), some (.int (l6 + 1))]) (pc := 126) dX12_mostIn_126 (Nat.le_of_ble_eq_true rfl) rfl rfl (v := (l6 + 1)) (by rw [show Int32.ofInt 1 = 1 from by decide]) rfl ?_
        refine V.goto (t := 96) (pc := 129) dX12_mostIn_129 (by decide) ?_
        exact h96 l1 l2 l3 l5 (l6 + 1) w _ _ h
      · refine V.if_eq_f (t := 126) (pc := 112) dX12_mostIn_112 (by decide) c ?_
        refine V.aload_n (pc := 115) dX12_mostIn_115 rfl ?_
        refine V.getR (t := 56) (pc := 116) dX12_mostIn_116 f_RX12_48 k_cl12 lx_44 ly_44 rb_12_16 rr_44_16 ?_
        refine V.iload (pc := 119) dX12_mostIn_119 rfl ?_
        refine V.dup2 (pc := 121) dX12_mostIn_121 rfl rfl ?_
        obtain ⟨x1, ix1, ex1, h⟩ := rdI_e h
        refine V.ialdX (pc := 122) dX12_mostIn_122 lx_56 ly_56 ix1 ex1 ?_
        refine V.iconst (pc := 123) dX12_mostIn_123 ic_1 ?_
        refine V.iadd (pc := 124) dX12_mostIn_124 ?_
        obtain ⟨w2, iw2, ew2, h⟩ := wrI_e h
        refine V.iastX (pc := 125) dX12_mostIn_125 lx_56 ly_56 iw2 ew2 ?_
        refine V.iinc (lv' := [some (.ref 44), some (.int l1), some (.int l2), some (.int l3), none, some (.int l5), some (.int (l6 + 1))]) (pc := 126) dX12_mostIn_126 (Nat.le_of_ble_eq_true rfl) rfl rfl (v := (l6 + 1)) (by rw [show Int32.ofInt 1 = 1 from by decide]) rfl ?_
        refine V.goto (t := 96) (pc := 129) dX12_mostIn_129 (by decide) ?_
        exact h96 l1 l2 l3 l5 (l6 + 1) w2 _ _ h
def f_X12_mostIn_B35b (k25 : Int32 → Int32 → Wd → Option (Int32 × Wd)) (k35 : Int32 → Int32 → Int32 → Wd → Option (Int32 × Wd)) (l1 : Int32) (l2 : Int32) (l3 : Int32) (w : Wd) : Option (Int32 × Wd) :=
  if (w.1 44 1) ≤ l3 then
    k25 l1 (l2 + 1) w
  else
    bnd (f_X12_product0 l2 l3 w) fun x1 =>
    if (f_X12_has l1 l2) = 0 then
      k35 l1 l2 (l3 + 1) w
    else
      if (f_X12_has l1 l3) = 0 then
        k35 l1 l2 (l3 + 1) w
      else
        if (f_X12_has l1 x1) = 0 then
          k35 l1 l2 (l3 + 1) w
        else
          f_X12_mostIn_L96 k25 k35 FU l1 l2 l3 (((1 <<< (l2 &&& 31)) ||| (1 <<< (l3 &&& 31))) ||| (1 <<< (x1 &&& 31))) 0 w
def f_X12_mostIn_L35 (k25 : Int32 → Int32 → Wd → Option (Int32 × Wd)) (n : Nat) : Int32 → Int32 → Int32 → Wd → Option (Int32 × Wd) :=
  Nat.rec (fun _ _ _ _ => none) (fun _ k => f_X12_mostIn_B35b k25 k) n
set_option maxHeartbeats 4000000 in
set_option maxRecDepth 100000 in
theorem t_X12_mostIn_L35 {G : GT} {d : Nat} {k25 : Int32 → Int32 → Wd → Option (Int32 × Wd)} (hd : 1 ≤ d + 1) (h25 : ∀ (l1 : Int32) (l2 : Int32) (w : Wd) (r : Int32) (w' : Wd), k25 l1 l2 w = some (r, w') → U (vf G mX12_mostIn (d + 1)) 25 [some (.ref 44), some (.int l1), some (.int l2), none, none, none, none] [] w (some (.int r), 70, r0, w')) : ∀ (n : Nat) (l1 : Int32) (l2 : Int32) (l3 : Int32) (w : Wd) (r : Int32) (w' : Wd), f_X12_mostIn_L35 k25 n l1 l2 l3 w = some (r, w') → U (vf G mX12_mostIn (d + 1)) 35 [some (.ref 44), some (.int l1), some (.int l2), some (.int l3), none, none, none] [] w (some (.int r), 70, r0, w') := by
  intro n
  induction n with
  | zero => intro l1 l2 l3 w r w' h; cases h
  | succ n h35 =>
    intro l1 l2 l3 w r w' h
    have h : f_X12_mostIn_B35b k25 (f_X12_mostIn_L35 k25 n) l1 l2 l3 w = some (r, w') := h
    unfold f_X12_mostIn_B35b at h
    refine V.iload_n (pc := 35) dX12_mostIn_35 rfl ?_
    refine V.aload_n (pc := 36) dX12_mostIn_36 rfl ?_
    refine V.getI (pc := 37) dX12_mostIn_37 f_RX12_92 k_cl12 lx_44 ly_44 rb_12_1 ?_
    rcases ite_e h with ⟨c, h⟩ | ⟨c, h⟩
    · refine V.icmp_ge_t (t := 138) (pc := 40) dX12_mostIn_40 (by decide) c ?_
      refine V.iinc (lv' := [some (.ref 44), some (.int l1), some (.int (l2 + 1)), some (.int l3), none, none, none]) (pc := 138) dX12_mostIn_138 (Nat.le_of_ble_eq_true rfl) rfl rfl (v := (l2 + 1)) (by rw [show Int32.ofInt 1 = 1 from by decide]) rfl ?_
      refine V.goto (t := 25) (pc := 141) dX12_mostIn_141 (by decide) ?_
      refine V.weak (lv' := [some (.ref 44), some (.int l1), some (.int (l2 + 1)), none, none, none, none]) (And.intro rfl (And.intro rfl (And.intro rfl trivial))) ?_
      exact h25 l1 (l2 + 1) w _ _ h
    · refine V.icmp_ge_f (t := 138) (pc := 40) dX12_mostIn_40 (by decide) c ?_
      refine V.aload_n (pc := 43) dX12_mostIn_43 rfl ?_
      refine V.iload_n (pc := 44) dX12_mostIn_44 rfl ?_
      refine V.iload_n (pc := 45) dX12_mostIn_45 rfl ?_
      obtain ⟨x1, ex1, h⟩ := bnd_e h
      refine U.callV (pc := 46) (As := [.int l2, .int l3]) (st := []) dX12_mostIn_46 l_RX12_119 (ok_X12_product0 (by omega) l2 l3 ex1) lx_44 ly_44 cn_12 (Nat.le_of_ble_eq_true rfl) rfl rfl (Nat.le_of_ble_eq_true rfl) ?_
      refine V.istore (lv' := [some (.ref 44), some (.int l1), some (.int l2), some (.int l3), some (.int x1), none, none]) (pc := 49) dX12_mostIn_49 (Nat.le_of_ble_eq_true rfl) rfl rfl ?_
      refine V.iload_n (pc := 51) dX12_mostIn_51 rfl ?_
      refine V.iload_n (pc := 52) dX12_mostIn_52 rfl ?_
      refine U.callS (pc := 53) (As := [.int l1, .int l2]) (st := []) dX12_mostIn_53 l_RX12_128 (ok_X12_has (by omega) l1 l2 ) (Nat.le_of_ble_eq_true rfl) rfl rfl (Nat.le_of_ble_eq_true rfl) ?_
      rcases ite_e h with ⟨c, h⟩ | ⟨c, h⟩
      · refine V.if_eq_t (t := 132) (pc := 56) dX12_mostIn_56 (by decide) c ?_
        refine V.iinc (lv' := [some (.ref 44), some (.int l1), some (.int l2), some (.int (l3 + 1)), some (.int x1), none, none]) (pc := 132) dX12_mostIn_132 (Nat.le_of_ble_eq_true rfl) rfl rfl (v := (l3 + 1)) (by rw [show Int32.ofInt 1 = 1 from by decide]) rfl ?_
        refine V.goto (t := 35) (pc := 135) dX12_mostIn_135 (by decide) ?_
        refine V.weak (lv' := [some (.ref 44), some (.int l1), some (.int l2), some (.int (l3 + 1)), none, none, none]) (And.intro rfl (And.intro rfl (And.intro rfl (And.intro rfl trivial)))) ?_
        exact h35 l1 l2 (l3 + 1) w _ _ h
      · refine V.if_eq_f (t := 132) (pc := 56) dX12_mostIn_56 (by decide) c ?_
        refine V.iload_n (pc := 59) dX12_mostIn_59 rfl ?_
        refine V.iload_n (pc := 60) dX12_mostIn_60 rfl ?_
        refine U.callS (pc := 61) (As := [.int l1, .int l3]) (st := []) dX12_mostIn_61 l_RX12_128 (ok_X12_has (by omega) l1 l3 ) (Nat.le_of_ble_eq_true rfl) rfl rfl (Nat.le_of_ble_eq_true rfl) ?_
        rcases ite_e h with ⟨c, h⟩ | ⟨c, h⟩
        · refine V.if_eq_t (t := 132) (pc := 64) dX12_mostIn_64 (by decide) c ?_
          refine V.iinc (lv' := [some (.ref 44), some (.int l1), some (.int l2), some (.int (l3 + 1)), some (.int x1), none, none]) (pc := 132) dX12_mostIn_132 (Nat.le_of_ble_eq_true rfl) rfl rfl (v := (l3 + 1)) (by rw [show Int32.ofInt 1 = 1 from by decide]) rfl ?_
          refine V.goto (t := 35) (pc := 135) dX12_mostIn_135 (by decide) ?_
          refine V.weak (lv' := [some (.ref 44), some (.int l1), some (.int l2), some (.int (l3 + 1)), none, none, none]) (And.intro rfl (And.intro rfl (And.intro rfl (And.intro rfl trivial)))) ?_
          exact h35 l1 l2 (l3 + 1) w _ _ h
        · refine V.if_eq_f (t := 132) (pc := 64) dX12_mostIn_64 (by decide) c ?_
          refine V.iload_n (pc := 67) dX12_mostIn_67 rfl ?_
          refine V.iload (pc := 68) dX12_mostIn_68 rfl ?_
          refine U.callS (pc := 70) (As := [.int l1, .int x1]) (st := []) dX12_mostIn_70 l_RX12_128 (ok_X12_has (by omega) l1 x1 ) (Nat.le_of_ble_eq_true rfl) rfl rfl (Nat.le_of_ble_eq_true rfl) ?_
          rcases ite_e h with ⟨c, h⟩ | ⟨c, h⟩
          · refine V.if_ne_f (t := 79) (pc := 73) dX12_mostIn_73 (by decide) c ?_
            refine V.goto (t := 132) (pc := 76) dX12_mostIn_76 (by decide) ?_
            refine V.iinc (lv' := [some (.ref 44), some (.int l1), some (.int l2), some (.int (l3 + 1)), some (.int x1), none, none]) (pc := 132) dX12_mostIn_132 (Nat.le_of_ble_eq_true rfl) rfl rfl (v := (l3 + 1)) (by rw [show Int32.ofInt 1 = 1 from by decide]) rfl ?_
            refine V.goto (t := 35) (pc := 135) dX12_mostIn_135 (by decide) ?_
            refine V.weak (lv' := [some (.ref 44), some (.int l1), some (.int l2), some (.int (l3 + 1)), none, none, none]) (And.intro rfl (And.intro rfl (And.intro rfl (And.intro rfl trivial)))) ?_
            exact h35 l1 l2 (l3 + 1) w _ _ h
          · refine V.if_ne_t (t := 79) (pc := 73) dX12_mostIn_73 (by decide) c ?_
            refine V.iconst (pc := 79) dX12_mostIn_79 ic_1 ?_
            refine V.iload_n (pc := 80) dX12_mostIn_80 rfl ?_
            refine V.ishl (pc := 81) dX12_mostIn_81 ?_
            refine V.iconst (pc := 82) dX12_mostIn_82 ic_1 ?_
            refine V.iload_n (pc := 83) dX12_mostIn_83 rfl ?_
            refine V.ishl (pc := 84) dX12_mostIn_84 ?_
            refine V.ior (pc := 85) dX12_mostIn_85 ?_
            refine V.iconst (pc := 86) dX12_mostIn_86 ic_1 ?_
            refine V.iload (pc := 87) dX12_mostIn_87 rfl ?_
            refine V.ishl (pc := 89) dX12_mostIn_89 ?_
            refine V.ior (pc := 90) dX12_mostIn_90 ?_
            refine V.istore (lv' := [some (.ref 44), some (.int l1), some (.int l2), some (.int l3), some (.int x1), some (.int (((1 <<< (l2 &&& 31)) ||| (1 <<< (l3 &&& 31))) ||| (1 <<< (x1 &&& 31)))), none]) (pc := 91) dX12_mostIn_91 (Nat.le_of_ble_eq_true rfl) rfl rfl ?_
            refine V.iconst (pc := 93) dX12_mostIn_93 ic_0 ?_
            refine V.istore (lv' := [some (.ref 44), some (.int l1), some (.int l2), some (.int l3), some (.int x1), some (.int (((1 <<< (l2 &&& 31)) ||| (1 <<< (l3 &&& 31))) ||| (1 <<< (x1 &&& 31)))), some (.int 0)]) (pc := 94) dX12_mostIn_94 (Nat.le_of_ble_eq_true rfl) rfl rfl ?_
            refine V.weak (lv' := [some (.ref 44), some (.int l1), some (.int l2), some (.int l3), none, some (.int (((1 <<< (l2 &&& 31)) ||| (1 <<< (l3 &&& 31))) ||| (1 <<< (x1 &&& 31)))), some (.int 0)]) (And.intro rfl (And.intro rfl (And.intro rfl (And.intro rfl (And.intro rfl (And.intro rfl trivial)))))) ?_
            exact t_X12_mostIn_L96 hd h25 h35 FU l1 l2 l3 (((1 <<< (l2 &&& 31)) ||| (1 <<< (l3 &&& 31))) ||| (1 <<< (x1 &&& 31))) 0 w _ _ h
def f_X12_mostIn_B25b (k25 : Int32 → Int32 → Wd → Option (Int32 × Wd)) (l1 : Int32) (l2 : Int32) (w : Wd) : Option (Int32 × Wd) :=
  if (w.1 44 1) ≤ l2 then
    f_X12_mostIn_L148  FU 0 1 w
  else
    f_X12_mostIn_L35 k25 FU l1 l2 0 w
def f_X12_mostIn_L25 (n : Nat) : Int32 → Int32 → Wd → Option (Int32 × Wd) :=
  Nat.rec (fun _ _ _ => none) (fun _ k => f_X12_mostIn_B25b k) n
set_option maxHeartbeats 4000000 in
set_option maxRecDepth 100000 in
theorem t_X12_mostIn_L25 {G : GT} {d : Nat} (hd : 1 ≤ d + 1)  : ∀ (n : Nat) (l1 : Int32) (l2 : Int32) (w : Wd) (r : Int32) (w' : Wd), f_X12_mostIn_L25 n l1 l2 w = some (r, w') → U (vf G mX12_mostIn (d + 1)) 25 [some (.ref 44), some (.int l1), some (.int l2), none, none, none, none] [] w (some (.int r), 70, r0, w') := by
  intro n
  induction n with
  | zero => intro l1 l2 w r w' h; cases h
  | succ n h25 =>
    intro l1 l2 w r w' h
    have h : f_X12_mostIn_B25b (f_X12_mostIn_L25 n) l1 l2 w = some (r, w') := h
    unfold f_X12_mostIn_B25b at h
    refine V.iload_n (pc := 25) dX12_mostIn_25 rfl ?_
    refine V.aload_n (pc := 26) dX12_mostIn_26 rfl ?_
    refine V.getI (pc := 27) dX12_mostIn_27 f_RX12_92 k_cl12 lx_44 ly_44 rb_12_1 ?_
    rcases ite_e h with ⟨c, h⟩ | ⟨c, h⟩
    · refine V.icmp_ge_t (t := 144) (pc := 30) dX12_mostIn_30 (by decide) c ?_
      refine V.iconst (pc := 144) dX12_mostIn_144 ic_0 ?_
      refine V.istore_n (lv' := [some (.ref 44), some (.int l1), some (.int 0), none, none, none, none]) (pc := 145) dX12_mostIn_145 (Nat.le_of_ble_eq_true rfl) rfl rfl ?_
      refine V.iconst (pc := 146) dX12_mostIn_146 ic_1 ?_
      refine V.istore_n (lv' := [some (.ref 44), some (.int l1), some (.int 0), some (.int 1), none, none, none]) (pc := 147) dX12_mostIn_147 (Nat.le_of_ble_eq_true rfl) rfl rfl ?_
      refine V.weak (lv' := [some (.ref 44), none, some (.int 0), some (.int 1), none, none, none]) (And.intro rfl (And.intro rfl (And.intro rfl trivial))) ?_
      exact t_X12_mostIn_L148 hd FU 0 1 w _ _ h
    · refine V.icmp_ge_f (t := 144) (pc := 30) dX12_mostIn_30 (by decide) c ?_
      refine V.iconst (pc := 33) dX12_mostIn_33 ic_0 ?_
      refine V.istore_n (lv' := [some (.ref 44), some (.int l1), some (.int l2), some (.int 0), none, none, none]) (pc := 34) dX12_mostIn_34 (Nat.le_of_ble_eq_true rfl) rfl rfl ?_
      exact t_X12_mostIn_L35 hd h25 FU l1 l2 0 w _ _ h
def f_X12_mostIn_B2b (k2 : Int32 → Int32 → Wd → Option (Int32 × Wd)) (l1 : Int32) (l2 : Int32) (w : Wd) : Option (Int32 × Wd) :=
  if (w.1 44 1) ≤ l2 then
    f_X12_mostIn_L25  FU l1 0 w
  else
    wrI w 56 16 l2 0 fun w1 =>
    k2 l1 (l2 + 1) w1
def f_X12_mostIn_L2 (n : Nat) : Int32 → Int32 → Wd → Option (Int32 × Wd) :=
  Nat.rec (fun _ _ _ => none) (fun _ k => f_X12_mostIn_B2b k) n
set_option maxHeartbeats 4000000 in
set_option maxRecDepth 100000 in
theorem t_X12_mostIn_L2 {G : GT} {d : Nat} (hd : 1 ≤ d + 1)  : ∀ (n : Nat) (l1 : Int32) (l2 : Int32) (w : Wd) (r : Int32) (w' : Wd), f_X12_mostIn_L2 n l1 l2 w = some (r, w') → U (vf G mX12_mostIn (d + 1)) 2 [some (.ref 44), some (.int l1), some (.int l2), none, none, none, none] [] w (some (.int r), 70, r0, w') := by
  intro n
  induction n with
  | zero => intro l1 l2 w r w' h; cases h
  | succ n h2 =>
    intro l1 l2 w r w' h
    have h : f_X12_mostIn_B2b (f_X12_mostIn_L2 n) l1 l2 w = some (r, w') := h
    unfold f_X12_mostIn_B2b at h
    refine V.iload_n (pc := 2) dX12_mostIn_2 rfl ?_
    refine V.aload_n (pc := 3) dX12_mostIn_3 rfl ?_
    refine V.getI (pc := 4) dX12_mostIn_4 f_RX12_92 k_cl12 lx_44 ly_44 rb_12_1 ?_
    rcases ite_e h with ⟨c, h⟩ | ⟨c, h⟩
    · refine V.icmp_ge_t (t := 23) (pc := 7) dX12_mostIn_7 (by decide) c ?_
      refine V.iconst (pc := 23) dX12_mostIn_23 ic_0 ?_
      refine V.istore_n (lv' := [some (.ref 44), some (.int l1), some (.int 0), none, none, none, none]) (pc := 24) dX12_mostIn_24 (Nat.le_of_ble_eq_true rfl) rfl rfl ?_
      exact t_X12_mostIn_L25 hd FU l1 0 w _ _ h
    · refine V.icmp_ge_f (t := 23) (pc := 7) dX12_mostIn_7 (by decide) c ?_
      refine V.aload_n (pc := 10) dX12_mostIn_10 rfl ?_
      refine V.getR (t := 56) (pc := 11) dX12_mostIn_11 f_RX12_48 k_cl12 lx_44 ly_44 rb_12_16 rr_44_16 ?_
      refine V.iload_n (pc := 14) dX12_mostIn_14 rfl ?_
      refine V.iconst (pc := 15) dX12_mostIn_15 ic_0 ?_
      obtain ⟨w1, iw1, ew1, h⟩ := wrI_e h
      refine V.iastX (pc := 16) dX12_mostIn_16 lx_56 ly_56 iw1 ew1 ?_
      refine V.iinc (lv' := [some (.ref 44), some (.int l1), some (.int (l2 + 1)), none, none, none, none]) (pc := 17) dX12_mostIn_17 (Nat.le_of_ble_eq_true rfl) rfl rfl (v := (l2 + 1)) (by rw [show Int32.ofInt 1 = 1 from by decide]) rfl ?_
      refine V.goto (t := 2) (pc := 20) dX12_mostIn_20 (by decide) ?_
      exact h2 l1 (l2 + 1) w1 _ _ h
def f_X12_mostIn (l1 : Int32) (w : Wd) : Option (Int32 × Wd) :=
  f_X12_mostIn_L2  FU l1 0 w
set_option maxHeartbeats 4000000 in
set_option maxRecDepth 100000 in
theorem ok_X12_mostIn {G : GT} {d : Nat} (hd : 1 ≤ d) {w : Wd} (l1 : Int32) {r : Int32} {w' : Wd} (h : f_X12_mostIn l1 w = some (r, w')) : uC G yX12_mostIn mX12_mostIn d [.ref 44, .int l1] w (some (.int r)) w' := by
  obtain ⟨d, rfl⟩ : ∃ e, d = e + 1 := ⟨d - 1, by omega⟩
  unfold f_X12_mostIn at h
  refine uC_of (lv := [some (.ref 44), some (.int l1), none, none, none, none, none]) 5 pn_X12 ⟨rfl, rfl⟩ (Nat.le_of_ble_eq_true rfl) rfl ?_
  refine V.iconst (pc := 0) dX12_mostIn_0 ic_0 ?_
  refine V.istore_n (lv' := [some (.ref 44), some (.int l1), some (.int 0), none, none, none, none]) (pc := 1) dX12_mostIn_1 (Nat.le_of_ble_eq_true rfl) rfl rfl ?_
  exact t_X12_mostIn_L2 hd FU l1 0 w _ _ h
theorem dX12_thin_0 : decode cX12_thin 0 = .ok (.aload_n 0, 1) := by decide +kernel
theorem dX12_thin_1 : decode cX12_thin 1 = .ok (.getfield 42, 3) := by decide +kernel
theorem dX12_thin_4 : decode cX12_thin 4 = .ok (.iconst 0, 1) := by decide +kernel
theorem dX12_thin_5 : decode cX12_thin 5 = .ok (.iaload, 1) := by decide +kernel
theorem dX12_thin_6 : decode cX12_thin 6 = .ok (.istore_n 1, 1) := by decide +kernel
theorem dX12_thin_7 : decode cX12_thin 7 = .ok (.aload_n 0, 1) := by decide +kernel
theorem dX12_thin_8 : decode cX12_thin 8 = .ok (.iload_n 1, 1) := by decide +kernel
theorem dX12_thin_9 : decode cX12_thin 9 = .ok (.invokevirtual 150, 3) := by decide +kernel
theorem dX12_thin_12 : decode cX12_thin 12 = .ok (.ifCond .ne 18, 3) := by decide +kernel
theorem dX12_thin_15 : decode cX12_thin 15 = .ok (.iload_n 1, 1) := by decide +kernel
theorem dX12_thin_16 : decode cX12_thin 16 = .ok (.iconst 1, 1) := by decide +kernel
theorem dX12_thin_17 : decode cX12_thin 17 = .ok (.aload_n 0, 1) := by decide +kernel
theorem dX12_thin_18 : decode cX12_thin 18 = .ok (.iload_n 1, 1) := by decide +kernel
theorem dX12_thin_19 : decode cX12_thin 19 = .ok (.invokevirtual 175, 3) := by decide +kernel
theorem dX12_thin_22 : decode cX12_thin 22 = .ok (.ishl, 1) := by decide +kernel
theorem dX12_thin_23 : decode cX12_thin 23 = .ok (.iconst (-1), 1) := by decide +kernel
theorem dX12_thin_24 : decode cX12_thin 24 = .ok (.ixor, 1) := by decide +kernel
theorem dX12_thin_25 : decode cX12_thin 25 = .ok (.iand, 1) := by decide +kernel
theorem dX12_thin_26 : decode cX12_thin 26 = .ok (.istore_n 1, 1) := by decide +kernel
theorem dX12_thin_27 : decode cX12_thin 27 = .ok (.goto (-20), 3) := by decide +kernel
theorem dX12_thin_30 : decode cX12_thin 30 = .ok (.aload_n 0, 1) := by decide +kernel
theorem dX12_thin_31 : decode cX12_thin 31 = .ok (.getfield 42, 3) := by decide +kernel
theorem dX12_thin_34 : decode cX12_thin 34 = .ok (.iconst 0, 1) := by decide +kernel
theorem dX12_thin_35 : decode cX12_thin 35 = .ok (.iaload, 1) := by decide +kernel
theorem dX12_thin_36 : decode cX12_thin 36 = .ok (.invokestatic 172, 3) := by decide +kernel
theorem dX12_thin_39 : decode cX12_thin 39 = .ok (.iload_n 1, 1) := by decide +kernel
theorem dX12_thin_40 : decode cX12_thin 40 = .ok (.invokestatic 172, 3) := by decide +kernel
theorem dX12_thin_43 : decode cX12_thin 43 = .ok (.isub, 1) := by decide +kernel
theorem dX12_thin_44 : decode cX12_thin 44 = .ok (.istore_n 2, 1) := by decide +kernel
theorem dX12_thin_45 : decode cX12_thin 45 = .ok (.aload_n 0, 1) := by decide +kernel
theorem dX12_thin_46 : decode cX12_thin 46 = .ok (.iconst 0, 1) := by decide +kernel
theorem dX12_thin_47 : decode cX12_thin 47 = .ok (.iload_n 1, 1) := by decide +kernel
theorem dX12_thin_48 : decode cX12_thin 48 = .ok (.invokevirtual 166, 3) := by decide +kernel
theorem dX12_thin_51 : decode cX12_thin 51 = .ok (.iconst (-1), 1) := by decide +kernel
theorem dX12_thin_52 : decode cX12_thin 52 = .ok (.if_icmp .ne 7, 3) := by decide +kernel
theorem dX12_thin_55 : decode cX12_thin 55 = .ok (.iconst (-1), 1) := by decide +kernel
theorem dX12_thin_56 : decode cX12_thin 56 = .ok (.goto 4, 3) := by decide +kernel
theorem dX12_thin_59 : decode cX12_thin 59 = .ok (.iload_n 2, 1) := by decide +kernel
theorem dX12_thin_60 : decode cX12_thin 60 = .ok (.ireturn, 1) := by decide +kernel
def f_X12_thin_B7b (k7 : Int32 → Wd → Option (Int32 × Wd)) (l1 : Int32) (w : Wd) : Option (Int32 × Wd) :=
  bnd (f_X12_isFree l1 w) fun x1 =>
  if x1 = 0 then
    bnd2 (f_X12_mostIn l1 w) fun x7 w8 =>
    k7 (l1 &&& ((1 <<< (x7 &&& 31)) ^^^ (-1))) w8
  else
    rdI w 54 20 0 fun x2 =>
    bnd (f_X12_ones x2) fun x3 =>
    bnd (f_X12_ones l1) fun x4 =>
    bnd2 (f_X12_changes 0 l1 w) fun x5 w6 =>
    if x5 = (-1) then
      some ((-1), w6)
    else
      some ((x3 - x4), w6)
def f_X12_thin_L7 (n : Nat) : Int32 → Wd → Option (Int32 × Wd) :=
  Nat.rec (fun _ _ => none) (fun _ k => f_X12_thin_B7b k) n
set_option maxHeartbeats 4000000 in
set_option maxRecDepth 100000 in
theorem t_X12_thin_L7 {G : GT} {d : Nat} (hd : 2 ≤ d + 1)  : ∀ (n : Nat) (l1 : Int32) (w : Wd) (r : Int32) (w' : Wd), f_X12_thin_L7 n l1 w = some (r, w') → U (vf G mX12_thin (d + 1)) 7 [some (.ref 44), some (.int l1), none] [] w (some (.int r), 70, r0, w') := by
  intro n
  induction n with
  | zero => intro l1 w r w' h; cases h
  | succ n h7 =>
    intro l1 w r w' h
    have h : f_X12_thin_B7b (f_X12_thin_L7 n) l1 w = some (r, w') := h
    unfold f_X12_thin_B7b at h
    refine V.aload_n (pc := 7) dX12_thin_7 rfl ?_
    refine V.iload_n (pc := 8) dX12_thin_8 rfl ?_
    obtain ⟨x1, ex1, h⟩ := bnd_e h
    refine U.callV (pc := 9) (As := [.int l1]) (st := []) dX12_thin_9 l_RX12_150 (ok_X12_isFree (by omega) l1 ex1) lx_44 ly_44 cn_12 (Nat.le_of_ble_eq_true rfl) rfl rfl (Nat.le_of_ble_eq_true rfl) ?_
    rcases ite_e h with ⟨c, h⟩ | ⟨c, h⟩
    · refine V.if_ne_f (t := 30) (pc := 12) dX12_thin_12 (by decide) c ?_
      refine V.iload_n (pc := 15) dX12_thin_15 rfl ?_
      refine V.iconst (pc := 16) dX12_thin_16 ic_1 ?_
      refine V.aload_n (pc := 17) dX12_thin_17 rfl ?_
      refine V.iload_n (pc := 18) dX12_thin_18 rfl ?_
      obtain ⟨x7, w8, ew8, h⟩ := bnd2_e h
      refine U.callV (pc := 19) (As := [.int l1]) (st := [.int 1, .int l1]) dX12_thin_19 l_RX12_175 (ok_X12_mostIn (by omega) l1 ew8) lx_44 ly_44 cn_12 (Nat.le_of_ble_eq_true rfl) rfl rfl (Nat.le_of_ble_eq_true rfl) ?_
      refine V.ishl (pc := 22) dX12_thin_22 ?_
      refine V.iconst (pc := 23) dX12_thin_23 ic_m1 ?_
      refine V.ixor (pc := 24) dX12_thin_24 ?_
      refine V.iand (pc := 25) dX12_thin_25 ?_
      refine V.istore_n (lv' := [some (.ref 44), some (.int (l1 &&& ((1 <<< (x7 &&& 31)) ^^^ (-1)))), none]) (pc := 26) dX12_thin_26 (Nat.le_of_ble_eq_true rfl) rfl rfl ?_
      refine V.goto (t := 7) (pc := 27) dX12_thin_27 (by decide) ?_
      exact h7 (l1 &&& ((1 <<< (x7 &&& 31)) ^^^ (-1))) w8 _ _ h
    · refine V.if_ne_t (t := 30) (pc := 12) dX12_thin_12 (by decide) c ?_
      refine V.aload_n (pc := 30) dX12_thin_30 rfl ?_
      refine V.getR (t := 54) (pc := 31) dX12_thin_31 f_RX12_42 k_cl12 lx_44 ly_44 rb_12_13 rr_44_13 ?_
      refine V.iconst (pc := 34) dX12_thin_34 ic_0 ?_
      obtain ⟨x2, ix2, ex2, h⟩ := rdI_e h
      refine V.ialdX (pc := 35) dX12_thin_35 lx_54 ly_54 ix2 ex2 ?_
      obtain ⟨x3, ex3, h⟩ := bnd_e h
      refine U.callS (pc := 36) (As := [.int x2]) (st := []) dX12_thin_36 l_RX12_172 (ok_X12_ones (by omega) x2 ex3) (Nat.le_of_ble_eq_true rfl) rfl rfl (Nat.le_of_ble_eq_true rfl) ?_
      refine V.iload_n (pc := 39) dX12_thin_39 rfl ?_
      obtain ⟨x4, ex4, h⟩ := bnd_e h
      refine U.callS (pc := 40) (As := [.int l1]) (st := [.int x3]) dX12_thin_40 l_RX12_172 (ok_X12_ones (by omega) l1 ex4) (Nat.le_of_ble_eq_true rfl) rfl rfl (Nat.le_of_ble_eq_true rfl) ?_
      refine V.isub (pc := 43) dX12_thin_43 ?_
      refine V.istore_n (lv' := [some (.ref 44), some (.int l1), some (.int (x3 - x4))]) (pc := 44) dX12_thin_44 (Nat.le_of_ble_eq_true rfl) rfl rfl ?_
      refine V.aload_n (pc := 45) dX12_thin_45 rfl ?_
      refine V.iconst (pc := 46) dX12_thin_46 ic_0 ?_
      refine V.iload_n (pc := 47) dX12_thin_47 rfl ?_
      obtain ⟨x5, w6, ew6, h⟩ := bnd2_e h
      refine U.callV (pc := 48) (As := [.int 0, .int l1]) (st := []) dX12_thin_48 l_RX12_166 (ok_X12_changes (by omega) 0 l1 ew6) lx_44 ly_44 cn_12 (Nat.le_of_ble_eq_true rfl) rfl rfl (Nat.le_of_ble_eq_true rfl) ?_
      refine V.iconst (pc := 51) dX12_thin_51 ic_m1 ?_
      rcases ite_e h with ⟨c, h⟩ | ⟨c, h⟩
      · refine V.icmp_ne_f (t := 59) (pc := 52) dX12_thin_52 (by decide) c ?_
        refine V.iconst (pc := 55) dX12_thin_55 ic_m1 ?_
        refine V.goto (t := 60) (pc := 56) dX12_thin_56 (by decide) ?_
        obtain ⟨rfl, rfl⟩ := Prod.mk.inj (Option.some.inj h)
        exact V.iret (pc := 60) dX12_thin_60 rfl (Nat.le_refl _) (Nat.le_refl _)
      · refine V.icmp_ne_t (t := 59) (pc := 52) dX12_thin_52 (by decide) c ?_
        refine V.iload_n (pc := 59) dX12_thin_59 rfl ?_
        obtain ⟨rfl, rfl⟩ := Prod.mk.inj (Option.some.inj h)
        exact V.iret (pc := 60) dX12_thin_60 rfl (Nat.le_refl _) (Nat.le_refl _)
def f_X12_thin (w : Wd) : Option (Int32 × Wd) :=
  rdI w 54 20 0 fun x1 =>
  f_X12_thin_L7  FU x1 w
set_option maxHeartbeats 4000000 in
set_option maxRecDepth 100000 in
theorem ok_X12_thin {G : GT} {d : Nat} (hd : 2 ≤ d) {w : Wd}  {r : Int32} {w' : Wd} (h : f_X12_thin  w = some (r, w')) : uC G yX12_thin mX12_thin d [.ref 44] w (some (.int r)) w' := by
  obtain ⟨d, rfl⟩ : ∃ e, d = e + 1 := ⟨d - 1, by omega⟩
  unfold f_X12_thin at h
  refine uC_of (lv := [some (.ref 44), none, none]) 2 pn_X12 ⟨rfl, rfl⟩ (Nat.le_of_ble_eq_true rfl) rfl ?_
  refine V.aload_n (pc := 0) dX12_thin_0 rfl ?_
  refine V.getR (t := 54) (pc := 1) dX12_thin_1 f_RX12_42 k_cl12 lx_44 ly_44 rb_12_13 rr_44_13 ?_
  refine V.iconst (pc := 4) dX12_thin_4 ic_0 ?_
  obtain ⟨x1, ix1, ex1, h⟩ := rdI_e h
  refine V.ialdX (pc := 5) dX12_thin_5 lx_54 ly_54 ix1 ex1 ?_
  refine V.istore_n (lv' := [some (.ref 44), some (.int x1), none]) (pc := 6) dX12_thin_6 (Nat.le_of_ble_eq_true rfl) rfl rfl ?_
  exact t_X12_thin_L7 hd FU x1 w _ _ h
theorem dX11_moveTo_0 : decode cX11_moveTo 0 = .ok (.aload_n 0, 1) := by decide +kernel
theorem dX11_moveTo_1 : decode cX11_moveTo 1 = .ok (.getfield 74, 3) := by decide +kernel
theorem dX11_moveTo_4 : decode cX11_moveTo 4 = .ok (.bipush 19, 2) := by decide +kernel
theorem dX11_moveTo_6 : decode cX11_moveTo 6 = .ok (.iload_n 1, 1) := by decide +kernel
theorem dX11_moveTo_7 : decode cX11_moveTo 7 = .ok (.invokevirtual 114, 3) := by decide +kernel
theorem dX11_moveTo_10 : decode cX11_moveTo 10 = .ok (.ifCond .eq 7, 3) := by decide +kernel
theorem dX11_moveTo_13 : decode cX11_moveTo 13 = .ok (.iload_n 1, 1) := by decide +kernel
theorem dX11_moveTo_14 : decode cX11_moveTo 14 = .ok (.goto 4, 3) := by decide +kernel
theorem dX11_moveTo_17 : decode cX11_moveTo 17 = .ok (.iconst (-1), 1) := by decide +kernel
theorem dX11_moveTo_18 : decode cX11_moveTo 18 = .ok (.ireturn, 1) := by decide +kernel
def f_X11_moveTo (l1 : Int32) (w : Wd) : Option (Int32 × Wd) :=
  bnd2 (f_X0_change 19 l1 w) fun x1 w2 =>
  if x1 = 0 then
    some ((-1), w2)
  else
    some (l1, w2)
set_option maxHeartbeats 4000000 in
set_option maxRecDepth 100000 in
theorem ok_X11_moveTo {G : GT} {d : Nat} (hd : 2 ≤ d) {w : Wd} (l1 : Int32) {r : Int32} {w' : Wd} (h : f_X11_moveTo l1 w = some (r, w')) : uC G yX11_moveTo mX11_moveTo d [.ref 0, .int l1] w (some (.int r)) w' := by
  obtain ⟨d, rfl⟩ : ∃ e, d = e + 1 := ⟨d - 1, by omega⟩
  unfold f_X11_moveTo at h
  refine uC_of (lv := [some (.ref 0), some (.int l1)]) 0 pn_X11 ⟨rfl, rfl⟩ (Nat.le_of_ble_eq_true rfl) rfl ?_
  refine V.aload_n (pc := 0) dX11_moveTo_0 rfl ?_
  refine V.getR (t := 37) (pc := 1) dX11_moveTo_1 f_RX11_74 k_cl11 lx_0 ly_0 rb_11_8 rr_0_8 ?_
  refine V.bipush (pc := 4) dX11_moveTo_4 bp_19 ?_
  refine V.iload_n (pc := 6) dX11_moveTo_6 rfl ?_
  obtain ⟨x1, w2, ew2, h⟩ := bnd2_e h
  refine U.callV (pc := 7) (As := [.int 19, .int l1]) (st := []) dX11_moveTo_7 l_RX11_114 (ok_X0_change (by omega) 19 l1 ew2) lx_37 ly_37 cn_0 (Nat.le_of_ble_eq_true rfl) rfl rfl (Nat.le_of_ble_eq_true rfl) ?_
  rcases ite_e h with ⟨c, h⟩ | ⟨c, h⟩
  · refine V.if_eq_t (t := 17) (pc := 10) dX11_moveTo_10 (by decide) c ?_
    refine V.iconst (pc := 17) dX11_moveTo_17 ic_m1 ?_
    obtain ⟨rfl, rfl⟩ := Prod.mk.inj (Option.some.inj h)
    exact V.iret (pc := 18) dX11_moveTo_18 rfl (Nat.le_refl _) (Nat.le_refl _)
  · refine V.if_eq_f (t := 17) (pc := 10) dX11_moveTo_10 (by decide) c ?_
    refine V.iload_n (pc := 13) dX11_moveTo_13 rfl ?_
    refine V.goto (t := 18) (pc := 14) dX11_moveTo_14 (by decide) ?_
    obtain ⟨rfl, rfl⟩ := Prod.mk.inj (Option.some.inj h)
    exact V.iret (pc := 18) dX11_moveTo_18 rfl (Nat.le_refl _) (Nat.le_refl _)
theorem dX11_shift_0 : decode cX11_shift 0 = .ok (.aload_n 0, 1) := by decide +kernel
theorem dX11_shift_1 : decode cX11_shift 1 = .ok (.getfield 28, 3) := by decide +kernel
theorem dX11_shift_4 : decode cX11_shift 4 = .ok (.iload_n 1, 1) := by decide +kernel
theorem dX11_shift_5 : decode cX11_shift 5 = .ok (.invokevirtual 107, 3) := by decide +kernel
theorem dX11_shift_8 : decode cX11_shift 8 = .ok (.ifCond .eq 26, 3) := by decide +kernel
theorem dX11_shift_11 : decode cX11_shift 11 = .ok (.aload_n 0, 1) := by decide +kernel
theorem dX11_shift_12 : decode cX11_shift 12 = .ok (.aload_n 0, 1) := by decide +kernel
theorem dX11_shift_13 : decode cX11_shift 13 = .ok (.getfield 28, 3) := by decide +kernel
theorem dX11_shift_16 : decode cX11_shift 16 = .ok (.iload_n 1, 1) := by decide +kernel
theorem dX11_shift_17 : decode cX11_shift 17 = .ok (.aload_n 0, 1) := by decide +kernel
theorem dX11_shift_18 : decode cX11_shift 18 = .ok (.getfield 74, 3) := by decide +kernel
theorem dX11_shift_21 : decode cX11_shift 21 = .ok (.invokevirtual 111, 3) := by decide +kernel
theorem dX11_shift_24 : decode cX11_shift 24 = .ok (.iload_n 2, 1) := by decide +kernel
theorem dX11_shift_25 : decode cX11_shift 25 = .ok (.invokevirtual 136, 3) := by decide +kernel
theorem dX11_shift_28 : decode cX11_shift 28 = .ok (.invokevirtual 140, 3) := by decide +kernel
theorem dX11_shift_31 : decode cX11_shift 31 = .ok (.goto 4, 3) := by decide +kernel
theorem dX11_shift_34 : decode cX11_shift 34 = .ok (.iconst (-1), 1) := by decide +kernel
theorem dX11_shift_35 : decode cX11_shift 35 = .ok (.ireturn, 1) := by decide +kernel
def f_X11_shift (l1 : Int32) (l2 : Int32) (w : Wd) : Option (Int32 × Wd) :=
  if (f_X4_holds l1 w) = 0 then
    some ((-1), w)
  else
    bnd (f_X0_set  w) fun x1 =>
    bnd (f_X4_moved l1 x1 l2 w) fun x2 =>
    bnd2 (f_X11_moveTo x2 w) fun x3 w4 =>
    some (x3, w4)
set_option maxHeartbeats 4000000 in
set_option maxRecDepth 100000 in
theorem ok_X11_shift {G : GT} {d : Nat} (hd : 3 ≤ d) {w : Wd} (l1 : Int32) (l2 : Int32) {r : Int32} {w' : Wd} (h : f_X11_shift l1 l2 w = some (r, w')) : uC G yX11_shift mX11_shift d [.ref 0, .int l1, .int l2] w (some (.int r)) w' := by
  obtain ⟨d, rfl⟩ : ∃ e, d = e + 1 := ⟨d - 1, by omega⟩
  unfold f_X11_shift at h
  refine uC_of (lv := [some (.ref 0), some (.int l1), some (.int l2)]) 0 pn_X11 ⟨rfl, rfl⟩ (Nat.le_of_ble_eq_true rfl) rfl ?_
  refine V.aload_n (pc := 0) dX11_shift_0 rfl ?_
  refine V.getR (t := 6) (pc := 1) dX11_shift_1 f_RX11_28 k_cl11 lx_0 ly_0 rb_11_2 rr_0_2 ?_
  refine V.iload_n (pc := 4) dX11_shift_4 rfl ?_
  refine U.callV (pc := 5) (As := [.int l1]) (st := []) dX11_shift_5 l_RX11_107 (ok_X4_holds (by omega) l1 ) lx_6 ly_6 cn_4 (Nat.le_of_ble_eq_true rfl) rfl rfl (Nat.le_of_ble_eq_true rfl) ?_
  rcases ite_e h with ⟨c, h⟩ | ⟨c, h⟩
  · refine V.if_eq_t (t := 34) (pc := 8) dX11_shift_8 (by decide) c ?_
    refine V.iconst (pc := 34) dX11_shift_34 ic_m1 ?_
    obtain ⟨rfl, rfl⟩ := Prod.mk.inj (Option.some.inj h)
    exact V.iret (pc := 35) dX11_shift_35 rfl (Nat.le_refl _) (Nat.le_refl _)
  · refine V.if_eq_f (t := 34) (pc := 8) dX11_shift_8 (by decide) c ?_
    refine V.aload_n (pc := 11) dX11_shift_11 rfl ?_
    refine V.aload_n (pc := 12) dX11_shift_12 rfl ?_
    refine V.getR (t := 6) (pc := 13) dX11_shift_13 f_RX11_28 k_cl11 lx_0 ly_0 rb_11_2 rr_0_2 ?_
    refine V.iload_n (pc := 16) dX11_shift_16 rfl ?_
    refine V.aload_n (pc := 17) dX11_shift_17 rfl ?_
    refine V.getR (t := 37) (pc := 18) dX11_shift_18 f_RX11_74 k_cl11 lx_0 ly_0 rb_11_8 rr_0_8 ?_
    obtain ⟨x1, ex1, h⟩ := bnd_e h
    refine U.callV (pc := 21) (As := []) (st := [.int l1, .ref 6, .ref 0]) dX11_shift_21 l_RX11_111 (ok_X0_set (by omega)  ex1) lx_37 ly_37 cn_0 (Nat.le_of_ble_eq_true rfl) rfl rfl (Nat.le_of_ble_eq_true rfl) ?_
    refine V.iload_n (pc := 24) dX11_shift_24 rfl ?_
    obtain ⟨x2, ex2, h⟩ := bnd_e h
    refine U.callV (pc := 25) (As := [.int l1, .int x1, .int l2]) (st := [.ref 0]) dX11_shift_25 l_RX11_136 (ok_X4_moved (by omega) l1 x1 l2 ex2) lx_6 ly_6 cn_4 (Nat.le_of_ble_eq_true rfl) rfl rfl (Nat.le_of_ble_eq_true rfl) ?_
    obtain ⟨x3, w4, ew4, h⟩ := bnd2_e h
    refine U.callV (pc := 28) (As := [.int x2]) (st := []) dX11_shift_28 l_RX11_140 (ok_X11_moveTo (by omega) x2 ew4) lx_0 ly_0 cn_11 (Nat.le_of_ble_eq_true rfl) rfl rfl (Nat.le_of_ble_eq_true rfl) ?_
    refine V.goto (t := 35) (pc := 31) dX11_shift_31 (by decide) ?_
    obtain ⟨rfl, rfl⟩ := Prod.mk.inj (Option.some.inj h)
    exact V.iret (pc := 35) dX11_shift_35 rfl (Nat.le_refl _) (Nat.le_refl _)
theorem dX12_shifted_0 : decode cX12_shifted 0 = .ok (.iconst 0, 1) := by decide +kernel
theorem dX12_shifted_1 : decode cX12_shifted 1 = .ok (.istore 4, 2) := by decide +kernel
theorem dX12_shifted_3 : decode cX12_shifted 3 = .ok (.iconst 0, 1) := by decide +kernel
theorem dX12_shifted_4 : decode cX12_shifted 4 = .ok (.istore 5, 2) := by decide +kernel
theorem dX12_shifted_6 : decode cX12_shifted 6 = .ok (.iload 5, 2) := by decide +kernel
theorem dX12_shifted_8 : decode cX12_shifted 8 = .ok (.aload_n 0, 1) := by decide +kernel
theorem dX12_shifted_9 : decode cX12_shifted 9 = .ok (.getfield 92, 3) := by decide +kernel
theorem dX12_shifted_12 : decode cX12_shifted 12 = .ok (.if_icmp .ge 46, 3) := by decide +kernel
theorem dX12_shifted_15 : decode cX12_shifted 15 = .ok (.iload_n 1, 1) := by decide +kernel
theorem dX12_shifted_16 : decode cX12_shifted 16 = .ok (.iload 5, 2) := by decide +kernel
theorem dX12_shifted_18 : decode cX12_shifted 18 = .ok (.invokestatic 128, 3) := by decide +kernel
theorem dX12_shifted_21 : decode cX12_shifted 21 = .ok (.ifCond .eq 31, 3) := by decide +kernel
theorem dX12_shifted_24 : decode cX12_shifted 24 = .ok (.iload 4, 2) := by decide +kernel
theorem dX12_shifted_26 : decode cX12_shifted 26 = .ok (.iconst 1, 1) := by decide +kernel
theorem dX12_shifted_27 : decode cX12_shifted 27 = .ok (.iload_n 3, 1) := by decide +kernel
theorem dX12_shifted_28 : decode cX12_shifted 28 = .ok (.ifCond .eq 13, 3) := by decide +kernel
theorem dX12_shifted_31 : decode cX12_shifted 31 = .ok (.aload_n 0, 1) := by decide +kernel
theorem dX12_shifted_32 : decode cX12_shifted 32 = .ok (.iload_n 2, 1) := by decide +kernel
theorem dX12_shifted_33 : decode cX12_shifted 33 = .ok (.iload 5, 2) := by decide +kernel
theorem dX12_shifted_35 : decode cX12_shifted 35 = .ok (.invokevirtual 119, 3) := by decide +kernel
theorem dX12_shifted_38 : decode cX12_shifted 38 = .ok (.goto 10, 3) := by decide +kernel
theorem dX12_shifted_41 : decode cX12_shifted 41 = .ok (.aload_n 0, 1) := by decide +kernel
theorem dX12_shifted_42 : decode cX12_shifted 42 = .ok (.iload 5, 2) := by decide +kernel
theorem dX12_shifted_44 : decode cX12_shifted 44 = .ok (.iload_n 2, 1) := by decide +kernel
theorem dX12_shifted_45 : decode cX12_shifted 45 = .ok (.invokevirtual 119, 3) := by decide +kernel
theorem dX12_shifted_48 : decode cX12_shifted 48 = .ok (.ishl, 1) := by decide +kernel
theorem dX12_shifted_49 : decode cX12_shifted 49 = .ok (.ior, 1) := by decide +kernel
theorem dX12_shifted_50 : decode cX12_shifted 50 = .ok (.istore 4, 2) := by decide +kernel
theorem dX12_shifted_52 : decode cX12_shifted 52 = .ok (.iinc 5 1, 3) := by decide +kernel
theorem dX12_shifted_55 : decode cX12_shifted 55 = .ok (.goto (-49), 3) := by decide +kernel
theorem dX12_shifted_58 : decode cX12_shifted 58 = .ok (.iload 4, 2) := by decide +kernel
theorem dX12_shifted_60 : decode cX12_shifted 60 = .ok (.ireturn, 1) := by decide +kernel
def f_X12_shifted_B6b (k6 : Int32 → Int32 → Int32 → Int32 → Int32 → Wd → Option Int32) (l1 : Int32) (l2 : Int32) (l3 : Int32) (l4 : Int32) (l5 : Int32) (w : Wd) : Option Int32 :=
  if (w.1 44 1) ≤ l5 then
    some l4
  else
    if (f_X12_has l1 l5) = 0 then
      k6 l1 l2 l3 l4 (l5 + 1) w
    else
      if l3 = 0 then
        bnd (f_X12_product0 l5 l2 w) fun x1 =>
        k6 l1 l2 l3 (l4 ||| (1 <<< (x1 &&& 31))) (l5 + 1) w
      else
        bnd (f_X12_product0 l2 l5 w) fun x2 =>
        k6 l1 l2 l3 (l4 ||| (1 <<< (x2 &&& 31))) (l5 + 1) w
def f_X12_shifted_L6 (n : Nat) : Int32 → Int32 → Int32 → Int32 → Int32 → Wd → Option Int32 :=
  Nat.rec (fun _ _ _ _ _ _ => none) (fun _ k => f_X12_shifted_B6b k) n
set_option maxHeartbeats 4000000 in
set_option maxRecDepth 100000 in
theorem t_X12_shifted_L6 {G : GT} {d : Nat} {w : Wd} (hd : 1 ≤ d + 1)  : ∀ (n : Nat) (l1 : Int32) (l2 : Int32) (l3 : Int32) (l4 : Int32) (l5 : Int32) (r : Int32), f_X12_shifted_L6 n l1 l2 l3 l4 l5 w = some r → U (vf G mX12_shifted (d + 1)) 6 [some (.ref 44), some (.int l1), some (.int l2), some (.int l3), some (.int l4), some (.int l5)] [] w (some (.int r), 70, r0, w) := by
  intro n
  induction n with
  | zero => intro l1 l2 l3 l4 l5 r h; cases h
  | succ n h6 =>
    intro l1 l2 l3 l4 l5 r h
    have h : f_X12_shifted_B6b (f_X12_shifted_L6 n) l1 l2 l3 l4 l5 w = some r := h
    unfold f_X12_shifted_B6b at h
    refine V.iload (pc := 6) dX12_shifted_6 rfl ?_
    refine V.aload_n (pc := 8) dX12_shifted_8 rfl ?_
    refine V.getI (pc := 9) dX12_shifted_9 f_RX12_92 k_cl12 lx_44 ly_44 rb_12_1 ?_
    rcases ite_e h with ⟨c, h⟩ | ⟨c, h⟩
    · refine V.icmp_ge_t (t := 58) (pc := 12) dX12_shifted_12 (by decide) c ?_
      refine V.iload (pc := 58) dX12_shifted_58 rfl ?_
      obtain rfl := Option.some.inj h
      exact V.iret (pc := 60) dX12_shifted_60 rfl (Nat.le_refl _) (Nat.le_refl _)
    · refine V.icmp_ge_f (t := 58) (pc := 12) dX12_shifted_12 (by decide) c ?_
      refine V.iload_n (pc := 15) dX12_shifted_15 rfl ?_
      refine V.iload (pc := 16) dX12_shifted_16 rfl ?_
      refine U.callS (pc := 18) (As := [.int l1, .int l5]) (st := []) dX12_shifted_18 l_RX12_128 (ok_X12_has (by omega) l1 l5 ) (Nat.le_of_ble_eq_true rfl) rfl rfl (Nat.le_of_ble_eq_true rfl) ?_
      rcases ite_e h with ⟨c, h⟩ | ⟨c, h⟩
      · refine V.if_eq_t (t := 52) (pc := 21) dX12_shifted_21 (by decide) c ?_
        refine V.iinc (lv' := [some (.ref 44), some (.int l1), some (.int l2), some (.int l3), some (.int l4), some (.int (l5 + 1))]) (pc := 52) dX12_shifted_52 (Nat.le_of_ble_eq_true rfl) rfl rfl (v := (l5 + 1)) (by rw [show Int32.ofInt 1 = 1 from by decide]) rfl ?_
        refine V.goto (t := 6) (pc := 55) dX12_shifted_55 (by decide) ?_
        exact h6 l1 l2 l3 l4 (l5 + 1) _ h
      · refine V.if_eq_f (t := 52) (pc := 21) dX12_shifted_21 (by decide) c ?_
        refine V.iload (pc := 24) dX12_shifted_24 rfl ?_
        refine V.iconst (pc := 26) dX12_shifted_26 ic_1 ?_
        refine V.iload_n (pc := 27) dX12_shifted_27 rfl ?_
        rcases ite_e h with ⟨c, h⟩ | ⟨c, h⟩
        · refine V.if_eq_t (t := 41) (pc := 28) dX12_shifted_28 (by decide) c ?_
          refine V.aload_n (pc := 41) dX12_shifted_41 rfl ?_
          refine V.iload (pc := 42) dX12_shifted_42 rfl ?_
          refine V.iload_n (pc := 44) dX12_shifted_44 rfl ?_
          obtain ⟨x1, ex1, h⟩ := bnd_e h
          refine U.callV (pc := 45) (As := [.int l5, .int l2]) (st := [.int 1, .int l4]) dX12_shifted_45 l_RX12_119 (ok_X12_product0 (by omega) l5 l2 ex1) lx_44 ly_44 cn_12 (Nat.le_of_ble_eq_true rfl) rfl rfl (Nat.le_of_ble_eq_true rfl) ?_
          refine V.ishl (pc := 48) dX12_shifted_48 ?_
          refine V.ior (pc := 49) dX12_shifted_49 ?_
          refine V.istore (lv' := [some (.ref 44), some (.int l1), some (.int l2), some (.int l3), some (.int (l4 ||| (1 <<< (x1 &&& 31)))), some (.int l5)]) (pc := 50) dX12_shifted_50 (Nat.le_of_ble_eq_true rfl) rfl rfl ?_
          refine V.iinc (lv' := [some (.ref 44), some (.int l1), some (.int l2), some (.int l3), some (.int (l4 ||| (1 <<< (x1 &&& 31)))), some (.int (l5 + 1))]) (pc := 52) dX12_shifted_52 (Nat.le_of_ble_eq_true rfl) rfl rfl (v := (l5 + 1)) (by rw [show Int32.ofInt 1 = 1 from by decide]) rfl ?_
          refine V.goto (t := 6) (pc := 55) dX12_shifted_55 (by decide) ?_
          exact h6 l1 l2 l3 (l4 ||| (1 <<< (x1 &&& 31))) (l5 + 1) _ h
        · refine V.if_eq_f (t := 41) (pc := 28) dX12_shifted_28 (by decide) c ?_
          refine V.aload_n (pc := 31) dX12_shifted_31 rfl ?_
          refine V.iload_n (pc := 32) dX12_shifted_32 rfl ?_
          refine V.iload (pc := 33) dX12_shifted_33 rfl ?_
          obtain ⟨x2, ex2, h⟩ := bnd_e h
          refine U.callV (pc := 35) (As := [.int l2, .int l5]) (st := [.int 1, .int l4]) dX12_shifted_35 l_RX12_119 (ok_X12_product0 (by omega) l2 l5 ex2) lx_44 ly_44 cn_12 (Nat.le_of_ble_eq_true rfl) rfl rfl (Nat.le_of_ble_eq_true rfl) ?_
          refine V.goto (t := 48) (pc := 38) dX12_shifted_38 (by decide) ?_
          refine V.ishl (pc := 48) dX12_shifted_48 ?_
          refine V.ior (pc := 49) dX12_shifted_49 ?_
          refine V.istore (lv' := [some (.ref 44), some (.int l1), some (.int l2), some (.int l3), some (.int (l4 ||| (1 <<< (x2 &&& 31)))), some (.int l5)]) (pc := 50) dX12_shifted_50 (Nat.le_of_ble_eq_true rfl) rfl rfl ?_
          refine V.iinc (lv' := [some (.ref 44), some (.int l1), some (.int l2), some (.int l3), some (.int (l4 ||| (1 <<< (x2 &&& 31)))), some (.int (l5 + 1))]) (pc := 52) dX12_shifted_52 (Nat.le_of_ble_eq_true rfl) rfl rfl (v := (l5 + 1)) (by rw [show Int32.ofInt 1 = 1 from by decide]) rfl ?_
          refine V.goto (t := 6) (pc := 55) dX12_shifted_55 (by decide) ?_
          exact h6 l1 l2 l3 (l4 ||| (1 <<< (x2 &&& 31))) (l5 + 1) _ h
def f_X12_shifted (l1 : Int32) (l2 : Int32) (l3 : Int32) (w : Wd) : Option Int32 :=
  f_X12_shifted_L6  FU l1 l2 l3 0 0 w
set_option maxHeartbeats 4000000 in
set_option maxRecDepth 100000 in
theorem ok_X12_shifted {G : GT} {d : Nat} (hd : 1 ≤ d) {w : Wd} (l1 : Int32) (l2 : Int32) (l3 : Int32) {r : Int32} (h : f_X12_shifted l1 l2 l3 w = some r) : uC G yX12_shifted mX12_shifted d [.ref 44, .int l1, .int l2, .int l3] w (some (.int r)) w := by
  obtain ⟨d, rfl⟩ : ∃ e, d = e + 1 := ⟨d - 1, by omega⟩
  unfold f_X12_shifted at h
  refine uC_of (lv := [some (.ref 44), some (.int l1), some (.int l2), some (.int l3), none, none]) 2 pn_X12 ⟨rfl, rfl⟩ (Nat.le_of_ble_eq_true rfl) rfl ?_
  refine V.iconst (pc := 0) dX12_shifted_0 ic_0 ?_
  refine V.istore (lv' := [some (.ref 44), some (.int l1), some (.int l2), some (.int l3), some (.int 0), none]) (pc := 1) dX12_shifted_1 (Nat.le_of_ble_eq_true rfl) rfl rfl ?_
  refine V.iconst (pc := 3) dX12_shifted_3 ic_0 ?_
  refine V.istore (lv' := [some (.ref 44), some (.int l1), some (.int l2), some (.int l3), some (.int 0), some (.int 0)]) (pc := 4) dX12_shifted_4 (Nat.le_of_ble_eq_true rfl) rfl rfl ?_
  exact t_X12_shifted_L6 hd FU l1 l2 l3 0 0 _ h
theorem dX12_shift_0 : decode cX12_shift 0 = .ok (.aload_n 0, 1) := by decide +kernel
theorem dX12_shift_1 : decode cX12_shift 1 = .ok (.iload_n 1, 1) := by decide +kernel
theorem dX12_shift_2 : decode cX12_shift 2 = .ok (.invokevirtual 163, 3) := by decide +kernel
theorem dX12_shift_5 : decode cX12_shift 5 = .ok (.ifCond .ne 5, 3) := by decide +kernel
theorem dX12_shift_8 : decode cX12_shift 8 = .ok (.iconst (-1), 1) := by decide +kernel
theorem dX12_shift_9 : decode cX12_shift 9 = .ok (.ireturn, 1) := by decide +kernel
theorem dX12_shift_10 : decode cX12_shift 10 = .ok (.aload_n 0, 1) := by decide +kernel
theorem dX12_shift_11 : decode cX12_shift 11 = .ok (.aload_n 0, 1) := by decide +kernel
theorem dX12_shift_12 : decode cX12_shift 12 = .ok (.getfield 42, 3) := by decide +kernel
theorem dX12_shift_15 : decode cX12_shift 15 = .ok (.iconst 0, 1) := by decide +kernel
theorem dX12_shift_16 : decode cX12_shift 16 = .ok (.iaload, 1) := by decide +kernel
theorem dX12_shift_17 : decode cX12_shift 17 = .ok (.iload_n 1, 1) := by decide +kernel
theorem dX12_shift_18 : decode cX12_shift 18 = .ok (.iload_n 2, 1) := by decide +kernel
theorem dX12_shift_19 : decode cX12_shift 19 = .ok (.invokevirtual 178, 3) := by decide +kernel
theorem dX12_shift_22 : decode cX12_shift 22 = .ok (.istore_n 3, 1) := by decide +kernel
theorem dX12_shift_23 : decode cX12_shift 23 = .ok (.aload_n 0, 1) := by decide +kernel
theorem dX12_shift_24 : decode cX12_shift 24 = .ok (.iconst 0, 1) := by decide +kernel
theorem dX12_shift_25 : decode cX12_shift 25 = .ok (.iload_n 3, 1) := by decide +kernel
theorem dX12_shift_26 : decode cX12_shift 26 = .ok (.invokevirtual 166, 3) := by decide +kernel
theorem dX12_shift_29 : decode cX12_shift 29 = .ok (.iconst (-1), 1) := by decide +kernel
theorem dX12_shift_30 : decode cX12_shift 30 = .ok (.if_icmp .ne 7, 3) := by decide +kernel
theorem dX12_shift_33 : decode cX12_shift 33 = .ok (.iconst (-1), 1) := by decide +kernel
theorem dX12_shift_34 : decode cX12_shift 34 = .ok (.goto 4, 3) := by decide +kernel
theorem dX12_shift_37 : decode cX12_shift 37 = .ok (.iload_n 3, 1) := by decide +kernel
theorem dX12_shift_38 : decode cX12_shift 38 = .ok (.ireturn, 1) := by decide +kernel
def f_X12_shift (l1 : Int32) (l2 : Int32) (w : Wd) : Option (Int32 × Wd) :=
  if (f_X12_isElement l1 w) = 0 then
    some ((-1), w)
  else
    rdI w 54 20 0 fun x1 =>
    bnd (f_X12_shifted x1 l1 l2 w) fun x2 =>
    bnd2 (f_X12_changes 0 x2 w) fun x3 w4 =>
    if x3 = (-1) then
      some ((-1), w4)
    else
      some (x2, w4)
set_option maxHeartbeats 4000000 in
set_option maxRecDepth 100000 in
theorem ok_X12_shift {G : GT} {d : Nat} (hd : 2 ≤ d) {w : Wd} (l1 : Int32) (l2 : Int32) {r : Int32} {w' : Wd} (h : f_X12_shift l1 l2 w = some (r, w')) : uC G yX12_shift mX12_shift d [.ref 44, .int l1, .int l2] w (some (.int r)) w' := by
  obtain ⟨d, rfl⟩ : ∃ e, d = e + 1 := ⟨d - 1, by omega⟩
  unfold f_X12_shift at h
  refine uC_of (lv := [some (.ref 44), some (.int l1), some (.int l2), none]) 1 pn_X12 ⟨rfl, rfl⟩ (Nat.le_of_ble_eq_true rfl) rfl ?_
  refine V.aload_n (pc := 0) dX12_shift_0 rfl ?_
  refine V.iload_n (pc := 1) dX12_shift_1 rfl ?_
  refine U.callV (pc := 2) (As := [.int l1]) (st := []) dX12_shift_2 l_RX12_163 (ok_X12_isElement (by omega) l1 ) lx_44 ly_44 cn_12 (Nat.le_of_ble_eq_true rfl) rfl rfl (Nat.le_of_ble_eq_true rfl) ?_
  rcases ite_e h with ⟨c, h⟩ | ⟨c, h⟩
  · refine V.if_ne_f (t := 10) (pc := 5) dX12_shift_5 (by decide) c ?_
    refine V.iconst (pc := 8) dX12_shift_8 ic_m1 ?_
    obtain ⟨rfl, rfl⟩ := Prod.mk.inj (Option.some.inj h)
    exact V.iret (pc := 9) dX12_shift_9 rfl (Nat.le_refl _) (Nat.le_refl _)
  · refine V.if_ne_t (t := 10) (pc := 5) dX12_shift_5 (by decide) c ?_
    refine V.aload_n (pc := 10) dX12_shift_10 rfl ?_
    refine V.aload_n (pc := 11) dX12_shift_11 rfl ?_
    refine V.getR (t := 54) (pc := 12) dX12_shift_12 f_RX12_42 k_cl12 lx_44 ly_44 rb_12_13 rr_44_13 ?_
    refine V.iconst (pc := 15) dX12_shift_15 ic_0 ?_
    obtain ⟨x1, ix1, ex1, h⟩ := rdI_e h
    refine V.ialdX (pc := 16) dX12_shift_16 lx_54 ly_54 ix1 ex1 ?_
    refine V.iload_n (pc := 17) dX12_shift_17 rfl ?_
    refine V.iload_n (pc := 18) dX12_shift_18 rfl ?_
    obtain ⟨x2, ex2, h⟩ := bnd_e h
    refine U.callV (pc := 19) (As := [.int x1, .int l1, .int l2]) (st := []) dX12_shift_19 l_RX12_178 (ok_X12_shifted (by omega) x1 l1 l2 ex2) lx_44 ly_44 cn_12 (Nat.le_of_ble_eq_true rfl) rfl rfl (Nat.le_of_ble_eq_true rfl) ?_
    refine V.istore_n (lv' := [some (.ref 44), some (.int l1), some (.int l2), some (.int x2)]) (pc := 22) dX12_shift_22 (Nat.le_of_ble_eq_true rfl) rfl rfl ?_
    refine V.aload_n (pc := 23) dX12_shift_23 rfl ?_
    refine V.iconst (pc := 24) dX12_shift_24 ic_0 ?_
    refine V.iload_n (pc := 25) dX12_shift_25 rfl ?_
    obtain ⟨x3, w4, ew4, h⟩ := bnd2_e h
    refine U.callV (pc := 26) (As := [.int 0, .int x2]) (st := []) dX12_shift_26 l_RX12_166 (ok_X12_changes (by omega) 0 x2 ew4) lx_44 ly_44 cn_12 (Nat.le_of_ble_eq_true rfl) rfl rfl (Nat.le_of_ble_eq_true rfl) ?_
    refine V.iconst (pc := 29) dX12_shift_29 ic_m1 ?_
    rcases ite_e h with ⟨c, h⟩ | ⟨c, h⟩
    · refine V.icmp_ne_f (t := 37) (pc := 30) dX12_shift_30 (by decide) c ?_
      refine V.iconst (pc := 33) dX12_shift_33 ic_m1 ?_
      refine V.goto (t := 38) (pc := 34) dX12_shift_34 (by decide) ?_
      obtain ⟨rfl, rfl⟩ := Prod.mk.inj (Option.some.inj h)
      exact V.iret (pc := 38) dX12_shift_38 rfl (Nat.le_refl _) (Nat.le_refl _)
    · refine V.icmp_ne_t (t := 37) (pc := 30) dX12_shift_30 (by decide) c ?_
      refine V.iload_n (pc := 37) dX12_shift_37 rfl ?_
      obtain ⟨rfl, rfl⟩ := Prod.mk.inj (Option.some.inj h)
      exact V.iret (pc := 38) dX12_shift_38 rfl (Nat.le_refl _) (Nat.le_refl _)
theorem dX4_inversesOf_0 : decode cX4_inversesOf 0 = .ok (.iconst 0, 1) := by decide +kernel
theorem dX4_inversesOf_1 : decode cX4_inversesOf 1 = .ok (.istore_n 2, 1) := by decide +kernel
theorem dX4_inversesOf_2 : decode cX4_inversesOf 2 = .ok (.iconst 0, 1) := by decide +kernel
theorem dX4_inversesOf_3 : decode cX4_inversesOf 3 = .ok (.istore_n 3, 1) := by decide +kernel
theorem dX4_inversesOf_4 : decode cX4_inversesOf 4 = .ok (.iload_n 3, 1) := by decide +kernel
theorem dX4_inversesOf_5 : decode cX4_inversesOf 5 = .ok (.aload_n 0, 1) := by decide +kernel
theorem dX4_inversesOf_6 : decode cX4_inversesOf 6 = .ok (.getfield 30, 3) := by decide +kernel
theorem dX4_inversesOf_9 : decode cX4_inversesOf 9 = .ok (.if_icmp .ge 27, 3) := by decide +kernel
theorem dX4_inversesOf_12 : decode cX4_inversesOf 12 = .ok (.iload_n 1, 1) := by decide +kernel
theorem dX4_inversesOf_13 : decode cX4_inversesOf 13 = .ok (.iload_n 3, 1) := by decide +kernel
theorem dX4_inversesOf_14 : decode cX4_inversesOf 14 = .ok (.ishr, 1) := by decide +kernel
theorem dX4_inversesOf_15 : decode cX4_inversesOf 15 = .ok (.iconst 1, 1) := by decide +kernel
theorem dX4_inversesOf_16 : decode cX4_inversesOf 16 = .ok (.iand, 1) := by decide +kernel
theorem dX4_inversesOf_17 : decode cX4_inversesOf 17 = .ok (.ifCond .eq 13, 3) := by decide +kernel
theorem dX4_inversesOf_20 : decode cX4_inversesOf 20 = .ok (.iload_n 2, 1) := by decide +kernel
theorem dX4_inversesOf_21 : decode cX4_inversesOf 21 = .ok (.iconst 1, 1) := by decide +kernel
theorem dX4_inversesOf_22 : decode cX4_inversesOf 22 = .ok (.aload_n 0, 1) := by decide +kernel
theorem dX4_inversesOf_23 : decode cX4_inversesOf 23 = .ok (.iload_n 3, 1) := by decide +kernel
theorem dX4_inversesOf_24 : decode cX4_inversesOf 24 = .ok (.invokevirtual 76, 3) := by decide +kernel
theorem dX4_inversesOf_27 : decode cX4_inversesOf 27 = .ok (.ishl, 1) := by decide +kernel
theorem dX4_inversesOf_28 : decode cX4_inversesOf 28 = .ok (.ior, 1) := by decide +kernel
theorem dX4_inversesOf_29 : decode cX4_inversesOf 29 = .ok (.istore_n 2, 1) := by decide +kernel
theorem dX4_inversesOf_30 : decode cX4_inversesOf 30 = .ok (.iinc 3 1, 3) := by decide +kernel
theorem dX4_inversesOf_33 : decode cX4_inversesOf 33 = .ok (.goto (-29), 3) := by decide +kernel
theorem dX4_inversesOf_36 : decode cX4_inversesOf 36 = .ok (.iload_n 2, 1) := by decide +kernel
theorem dX4_inversesOf_37 : decode cX4_inversesOf 37 = .ok (.ireturn, 1) := by decide +kernel
def f_X4_inversesOf_B4b (k4 : Int32 → Int32 → Int32 → Wd → Option Int32) (l1 : Int32) (l2 : Int32) (l3 : Int32) (w : Wd) : Option Int32 :=
  if (w.1 6 7) ≤ l3 then
    some l2
  else
    if ((l1 >>> (l3 &&& 31)) &&& 1) = 0 then
      k4 l1 l2 (l3 + 1) w
    else
      bnd (f_X4_inverseOf l3 w) fun x1 =>
      k4 l1 (l2 ||| (1 <<< (x1 &&& 31))) (l3 + 1) w
def f_X4_inversesOf_L4 (n : Nat) : Int32 → Int32 → Int32 → Wd → Option Int32 :=
  Nat.rec (fun _ _ _ _ => none) (fun _ k => f_X4_inversesOf_B4b k) n
set_option maxHeartbeats 4000000 in
set_option maxRecDepth 100000 in
theorem t_X4_inversesOf_L4 {G : GT} {d : Nat} {w : Wd} (hd : 1 ≤ d + 1)  : ∀ (n : Nat) (l1 : Int32) (l2 : Int32) (l3 : Int32) (r : Int32), f_X4_inversesOf_L4 n l1 l2 l3 w = some r → U (vf G mX4_inversesOf (d + 1)) 4 [some (.ref 6), some (.int l1), some (.int l2), some (.int l3)] [] w (some (.int r), 70, r0, w) := by
  intro n
  induction n with
  | zero => intro l1 l2 l3 r h; cases h
  | succ n h4 =>
    intro l1 l2 l3 r h
    have h : f_X4_inversesOf_B4b (f_X4_inversesOf_L4 n) l1 l2 l3 w = some r := h
    unfold f_X4_inversesOf_B4b at h
    refine V.iload_n (pc := 4) dX4_inversesOf_4 rfl ?_
    refine V.aload_n (pc := 5) dX4_inversesOf_5 rfl ?_
    refine V.getI (pc := 6) dX4_inversesOf_6 f_RX4_30 k_cl4 lx_6 ly_6 rb_4_7 ?_
    rcases ite_e h with ⟨c, h⟩ | ⟨c, h⟩
    · refine V.icmp_ge_t (t := 36) (pc := 9) dX4_inversesOf_9 (by decide) c ?_
      refine V.iload_n (pc := 36) dX4_inversesOf_36 rfl ?_
      obtain rfl := Option.some.inj h
      exact V.iret (pc := 37) dX4_inversesOf_37 rfl (Nat.le_refl _) (Nat.le_refl _)
    · refine V.icmp_ge_f (t := 36) (pc := 9) dX4_inversesOf_9 (by decide) c ?_
      refine V.iload_n (pc := 12) dX4_inversesOf_12 rfl ?_
      refine V.iload_n (pc := 13) dX4_inversesOf_13 rfl ?_
      refine V.ishr (pc := 14) dX4_inversesOf_14 ?_
      refine V.iconst (pc := 15) dX4_inversesOf_15 ic_1 ?_
      refine V.iand (pc := 16) dX4_inversesOf_16 ?_
      rcases ite_e h with ⟨c, h⟩ | ⟨c, h⟩
      · refine V.if_eq_t (t := 30) (pc := 17) dX4_inversesOf_17 (by decide) c ?_
        refine V.iinc (lv' := [some (.ref 6), some (.int l1), some (.int l2), some (.int (l3 + 1))]) (pc := 30) dX4_inversesOf_30 (Nat.le_of_ble_eq_true rfl) rfl rfl (v := (l3 + 1)) (by rw [show Int32.ofInt 1 = 1 from by decide]) rfl ?_
        refine V.goto (t := 4) (pc := 33) dX4_inversesOf_33 (by decide) ?_
        exact h4 l1 l2 (l3 + 1) _ h
      · refine V.if_eq_f (t := 30) (pc := 17) dX4_inversesOf_17 (by decide) c ?_
        refine V.iload_n (pc := 20) dX4_inversesOf_20 rfl ?_
        refine V.iconst (pc := 21) dX4_inversesOf_21 ic_1 ?_
        refine V.aload_n (pc := 22) dX4_inversesOf_22 rfl ?_
        refine V.iload_n (pc := 23) dX4_inversesOf_23 rfl ?_
        obtain ⟨x1, ex1, h⟩ := bnd_e h
        refine U.callV (pc := 24) (As := [.int l3]) (st := [.int 1, .int l2]) dX4_inversesOf_24 l_RX4_76 (ok_X4_inverseOf (by omega) l3 ex1) lx_6 ly_6 cn_4 (Nat.le_of_ble_eq_true rfl) rfl rfl (Nat.le_of_ble_eq_true rfl) ?_
        refine V.ishl (pc := 27) dX4_inversesOf_27 ?_
        refine V.ior (pc := 28) dX4_inversesOf_28 ?_
        refine V.istore_n (lv' := [some (.ref 6), some (.int l1), some (.int (l2 ||| (1 <<< (x1 &&& 31)))), some (.int l3)]) (pc := 29) dX4_inversesOf_29 (Nat.le_of_ble_eq_true rfl) rfl rfl ?_
        refine V.iinc (lv' := [some (.ref 6), some (.int l1), some (.int (l2 ||| (1 <<< (x1 &&& 31)))), some (.int (l3 + 1))]) (pc := 30) dX4_inversesOf_30 (Nat.le_of_ble_eq_true rfl) rfl rfl (v := (l3 + 1)) (by rw [show Int32.ofInt 1 = 1 from by decide]) rfl ?_
        refine V.goto (t := 4) (pc := 33) dX4_inversesOf_33 (by decide) ?_
        exact h4 l1 (l2 ||| (1 <<< (x1 &&& 31))) (l3 + 1) _ h
def f_X4_inversesOf (l1 : Int32) (w : Wd) : Option Int32 :=
  f_X4_inversesOf_L4  FU l1 0 0 w
set_option maxHeartbeats 4000000 in
set_option maxRecDepth 100000 in
theorem ok_X4_inversesOf {G : GT} {d : Nat} (hd : 1 ≤ d) {w : Wd} (l1 : Int32) {r : Int32} (h : f_X4_inversesOf l1 w = some r) : uC G yX4_inversesOf mX4_inversesOf d [.ref 6, .int l1] w (some (.int r)) w := by
  obtain ⟨d, rfl⟩ : ∃ e, d = e + 1 := ⟨d - 1, by omega⟩
  unfold f_X4_inversesOf at h
  refine uC_of (lv := [some (.ref 6), some (.int l1), none, none]) 2 pn_X4 ⟨rfl, rfl⟩ (Nat.le_of_ble_eq_true rfl) rfl ?_
  refine V.iconst (pc := 0) dX4_inversesOf_0 ic_0 ?_
  refine V.istore_n (lv' := [some (.ref 6), some (.int l1), some (.int 0), none]) (pc := 1) dX4_inversesOf_1 (Nat.le_of_ble_eq_true rfl) rfl rfl ?_
  refine V.iconst (pc := 2) dX4_inversesOf_2 ic_0 ?_
  refine V.istore_n (lv' := [some (.ref 6), some (.int l1), some (.int 0), some (.int 0)]) (pc := 3) dX4_inversesOf_3 (Nat.le_of_ble_eq_true rfl) rfl rfl ?_
  exact t_X4_inversesOf_L4 hd FU l1 0 0 _ h
theorem dX11_invert_0 : decode cX11_invert 0 = .ok (.aload_n 0, 1) := by decide +kernel
theorem dX11_invert_1 : decode cX11_invert 1 = .ok (.aload_n 0, 1) := by decide +kernel
theorem dX11_invert_2 : decode cX11_invert 2 = .ok (.getfield 28, 3) := by decide +kernel
theorem dX11_invert_5 : decode cX11_invert 5 = .ok (.aload_n 0, 1) := by decide +kernel
theorem dX11_invert_6 : decode cX11_invert 6 = .ok (.getfield 74, 3) := by decide +kernel
theorem dX11_invert_9 : decode cX11_invert 9 = .ok (.invokevirtual 111, 3) := by decide +kernel
theorem dX11_invert_12 : decode cX11_invert 12 = .ok (.invokevirtual 143, 3) := by decide +kernel
theorem dX11_invert_15 : decode cX11_invert 15 = .ok (.invokevirtual 140, 3) := by decide +kernel
theorem dX11_invert_18 : decode cX11_invert 18 = .ok (.ireturn, 1) := by decide +kernel
def f_X11_invert (w : Wd) : Option (Int32 × Wd) :=
  bnd (f_X0_set  w) fun x1 =>
  bnd (f_X4_inversesOf x1 w) fun x2 =>
  bnd2 (f_X11_moveTo x2 w) fun x3 w4 =>
  some (x3, w4)
set_option maxHeartbeats 4000000 in
set_option maxRecDepth 100000 in
theorem ok_X11_invert {G : GT} {d : Nat} (hd : 3 ≤ d) {w : Wd}  {r : Int32} {w' : Wd} (h : f_X11_invert  w = some (r, w')) : uC G yX11_invert mX11_invert d [.ref 0] w (some (.int r)) w' := by
  obtain ⟨d, rfl⟩ : ∃ e, d = e + 1 := ⟨d - 1, by omega⟩
  unfold f_X11_invert at h
  refine uC_of (lv := [some (.ref 0)]) 0 pn_X11 ⟨rfl, rfl⟩ (Nat.le_of_ble_eq_true rfl) rfl ?_
  refine V.aload_n (pc := 0) dX11_invert_0 rfl ?_
  refine V.aload_n (pc := 1) dX11_invert_1 rfl ?_
  refine V.getR (t := 6) (pc := 2) dX11_invert_2 f_RX11_28 k_cl11 lx_0 ly_0 rb_11_2 rr_0_2 ?_
  refine V.aload_n (pc := 5) dX11_invert_5 rfl ?_
  refine V.getR (t := 37) (pc := 6) dX11_invert_6 f_RX11_74 k_cl11 lx_0 ly_0 rb_11_8 rr_0_8 ?_
  obtain ⟨x1, ex1, h⟩ := bnd_e h
  refine U.callV (pc := 9) (As := []) (st := [.ref 6, .ref 0]) dX11_invert_9 l_RX11_111 (ok_X0_set (by omega)  ex1) lx_37 ly_37 cn_0 (Nat.le_of_ble_eq_true rfl) rfl rfl (Nat.le_of_ble_eq_true rfl) ?_
  obtain ⟨x2, ex2, h⟩ := bnd_e h
  refine U.callV (pc := 12) (As := [.int x1]) (st := [.ref 0]) dX11_invert_12 l_RX11_143 (ok_X4_inversesOf (by omega) x1 ex2) lx_6 ly_6 cn_4 (Nat.le_of_ble_eq_true rfl) rfl rfl (Nat.le_of_ble_eq_true rfl) ?_
  obtain ⟨x3, w4, ew4, h⟩ := bnd2_e h
  refine U.callV (pc := 15) (As := [.int x2]) (st := []) dX11_invert_15 l_RX11_140 (ok_X11_moveTo (by omega) x2 ew4) lx_0 ly_0 cn_11 (Nat.le_of_ble_eq_true rfl) rfl rfl (Nat.le_of_ble_eq_true rfl) ?_
  obtain ⟨rfl, rfl⟩ := Prod.mk.inj (Option.some.inj h)
  exact V.iret (pc := 18) dX11_invert_18 rfl (Nat.le_refl _) (Nat.le_refl _)
theorem dX12_inverses_0 : decode cX12_inverses 0 = .ok (.iconst 0, 1) := by decide +kernel
theorem dX12_inverses_1 : decode cX12_inverses 1 = .ok (.istore_n 2, 1) := by decide +kernel
theorem dX12_inverses_2 : decode cX12_inverses 2 = .ok (.iconst 0, 1) := by decide +kernel
theorem dX12_inverses_3 : decode cX12_inverses 3 = .ok (.istore_n 3, 1) := by decide +kernel
theorem dX12_inverses_4 : decode cX12_inverses 4 = .ok (.iload_n 3, 1) := by decide +kernel
theorem dX12_inverses_5 : decode cX12_inverses 5 = .ok (.aload_n 0, 1) := by decide +kernel
theorem dX12_inverses_6 : decode cX12_inverses 6 = .ok (.getfield 92, 3) := by decide +kernel
theorem dX12_inverses_9 : decode cX12_inverses 9 = .ok (.if_icmp .ge 28, 3) := by decide +kernel
theorem dX12_inverses_12 : decode cX12_inverses 12 = .ok (.iload_n 1, 1) := by decide +kernel
theorem dX12_inverses_13 : decode cX12_inverses 13 = .ok (.iload_n 3, 1) := by decide +kernel
theorem dX12_inverses_14 : decode cX12_inverses 14 = .ok (.invokestatic 128, 3) := by decide +kernel
theorem dX12_inverses_17 : decode cX12_inverses 17 = .ok (.ifCond .eq 14, 3) := by decide +kernel
theorem dX12_inverses_20 : decode cX12_inverses 20 = .ok (.iload_n 2, 1) := by decide +kernel
theorem dX12_inverses_21 : decode cX12_inverses 21 = .ok (.iconst 1, 1) := by decide +kernel
theorem dX12_inverses_22 : decode cX12_inverses 22 = .ok (.aload_n 0, 1) := by decide +kernel
theorem dX12_inverses_23 : decode cX12_inverses 23 = .ok (.getfield 23, 3) := by decide +kernel
theorem dX12_inverses_26 : decode cX12_inverses 26 = .ok (.iload_n 3, 1) := by decide +kernel
theorem dX12_inverses_27 : decode cX12_inverses 27 = .ok (.iaload, 1) := by decide +kernel
theorem dX12_inverses_28 : decode cX12_inverses 28 = .ok (.ishl, 1) := by decide +kernel
theorem dX12_inverses_29 : decode cX12_inverses 29 = .ok (.ior, 1) := by decide +kernel
theorem dX12_inverses_30 : decode cX12_inverses 30 = .ok (.istore_n 2, 1) := by decide +kernel
theorem dX12_inverses_31 : decode cX12_inverses 31 = .ok (.iinc 3 1, 3) := by decide +kernel
theorem dX12_inverses_34 : decode cX12_inverses 34 = .ok (.goto (-30), 3) := by decide +kernel
theorem dX12_inverses_37 : decode cX12_inverses 37 = .ok (.iload_n 2, 1) := by decide +kernel
theorem dX12_inverses_38 : decode cX12_inverses 38 = .ok (.ireturn, 1) := by decide +kernel
def f_X12_inverses_B4b (k4 : Int32 → Int32 → Int32 → Wd → Option Int32) (l1 : Int32) (l2 : Int32) (l3 : Int32) (w : Wd) : Option Int32 :=
  if (w.1 44 1) ≤ l3 then
    some l2
  else
    if (f_X12_has l1 l3) = 0 then
      k4 l1 l2 (l3 + 1) w
    else
      rdI w 48 16 l3 fun x1 =>
      k4 l1 (l2 ||| (1 <<< (x1 &&& 31))) (l3 + 1) w
def f_X12_inverses_L4 (n : Nat) : Int32 → Int32 → Int32 → Wd → Option Int32 :=
  Nat.rec (fun _ _ _ _ => none) (fun _ k => f_X12_inverses_B4b k) n
set_option maxHeartbeats 4000000 in
set_option maxRecDepth 100000 in
theorem t_X12_inverses_L4 {G : GT} {d : Nat} {w : Wd} (hd : 1 ≤ d + 1)  : ∀ (n : Nat) (l1 : Int32) (l2 : Int32) (l3 : Int32) (r : Int32), f_X12_inverses_L4 n l1 l2 l3 w = some r → U (vf G mX12_inverses (d + 1)) 4 [some (.ref 44), some (.int l1), some (.int l2), some (.int l3)] [] w (some (.int r), 70, r0, w) := by
  intro n
  induction n with
  | zero => intro l1 l2 l3 r h; cases h
  | succ n h4 =>
    intro l1 l2 l3 r h
    have h : f_X12_inverses_B4b (f_X12_inverses_L4 n) l1 l2 l3 w = some r := h
    unfold f_X12_inverses_B4b at h
    refine V.iload_n (pc := 4) dX12_inverses_4 rfl ?_
    refine V.aload_n (pc := 5) dX12_inverses_5 rfl ?_
    refine V.getI (pc := 6) dX12_inverses_6 f_RX12_92 k_cl12 lx_44 ly_44 rb_12_1 ?_
    rcases ite_e h with ⟨c, h⟩ | ⟨c, h⟩
    · refine V.icmp_ge_t (t := 37) (pc := 9) dX12_inverses_9 (by decide) c ?_
      refine V.iload_n (pc := 37) dX12_inverses_37 rfl ?_
      obtain rfl := Option.some.inj h
      exact V.iret (pc := 38) dX12_inverses_38 rfl (Nat.le_refl _) (Nat.le_refl _)
    · refine V.icmp_ge_f (t := 37) (pc := 9) dX12_inverses_9 (by decide) c ?_
      refine V.iload_n (pc := 12) dX12_inverses_12 rfl ?_
      refine V.iload_n (pc := 13) dX12_inverses_13 rfl ?_
      refine U.callS (pc := 14) (As := [.int l1, .int l3]) (st := []) dX12_inverses_14 l_RX12_128 (ok_X12_has (by omega) l1 l3 ) (Nat.le_of_ble_eq_true rfl) rfl rfl (Nat.le_of_ble_eq_true rfl) ?_
      rcases ite_e h with ⟨c, h⟩ | ⟨c, h⟩
      · refine V.if_eq_t (t := 31) (pc := 17) dX12_inverses_17 (by decide) c ?_
        refine V.iinc (lv' := [some (.ref 44), some (.int l1), some (.int l2), some (.int (l3 + 1))]) (pc := 31) dX12_inverses_31 (Nat.le_of_ble_eq_true rfl) rfl rfl (v := (l3 + 1)) (by rw [show Int32.ofInt 1 = 1 from by decide]) rfl ?_
        refine V.goto (t := 4) (pc := 34) dX12_inverses_34 (by decide) ?_
        exact h4 l1 l2 (l3 + 1) _ h
      · refine V.if_eq_f (t := 31) (pc := 17) dX12_inverses_17 (by decide) c ?_
        refine V.iload_n (pc := 20) dX12_inverses_20 rfl ?_
        refine V.iconst (pc := 21) dX12_inverses_21 ic_1 ?_
        refine V.aload_n (pc := 22) dX12_inverses_22 rfl ?_
        refine V.getR (t := 48) (pc := 23) dX12_inverses_23 f_RX12_23 k_cl12 lx_44 ly_44 rb_12_6 rr_44_6 ?_
        refine V.iload_n (pc := 26) dX12_inverses_26 rfl ?_
        obtain ⟨x1, ix1, ex1, h⟩ := rdI_e h
        refine V.ialdX (pc := 27) dX12_inverses_27 lx_48 ly_48 ix1 ex1 ?_
        refine V.ishl (pc := 28) dX12_inverses_28 ?_
        refine V.ior (pc := 29) dX12_inverses_29 ?_
        refine V.istore_n (lv' := [some (.ref 44), some (.int l1), some (.int (l2 ||| (1 <<< (x1 &&& 31)))), some (.int l3)]) (pc := 30) dX12_inverses_30 (Nat.le_of_ble_eq_true rfl) rfl rfl ?_
        refine V.iinc (lv' := [some (.ref 44), some (.int l1), some (.int (l2 ||| (1 <<< (x1 &&& 31)))), some (.int (l3 + 1))]) (pc := 31) dX12_inverses_31 (Nat.le_of_ble_eq_true rfl) rfl rfl (v := (l3 + 1)) (by rw [show Int32.ofInt 1 = 1 from by decide]) rfl ?_
        refine V.goto (t := 4) (pc := 34) dX12_inverses_34 (by decide) ?_
        exact h4 l1 (l2 ||| (1 <<< (x1 &&& 31))) (l3 + 1) _ h
def f_X12_inverses (l1 : Int32) (w : Wd) : Option Int32 :=
  f_X12_inverses_L4  FU l1 0 0 w
set_option maxHeartbeats 4000000 in
set_option maxRecDepth 100000 in
theorem ok_X12_inverses {G : GT} {d : Nat} (hd : 1 ≤ d) {w : Wd} (l1 : Int32) {r : Int32} (h : f_X12_inverses l1 w = some r) : uC G yX12_inverses mX12_inverses d [.ref 44, .int l1] w (some (.int r)) w := by
  obtain ⟨d, rfl⟩ : ∃ e, d = e + 1 := ⟨d - 1, by omega⟩
  unfold f_X12_inverses at h
  refine uC_of (lv := [some (.ref 44), some (.int l1), none, none]) 2 pn_X12 ⟨rfl, rfl⟩ (Nat.le_of_ble_eq_true rfl) rfl ?_
  refine V.iconst (pc := 0) dX12_inverses_0 ic_0 ?_
  refine V.istore_n (lv' := [some (.ref 44), some (.int l1), some (.int 0), none]) (pc := 1) dX12_inverses_1 (Nat.le_of_ble_eq_true rfl) rfl rfl ?_
  refine V.iconst (pc := 2) dX12_inverses_2 ic_0 ?_
  refine V.istore_n (lv' := [some (.ref 44), some (.int l1), some (.int 0), some (.int 0)]) (pc := 3) dX12_inverses_3 (Nat.le_of_ble_eq_true rfl) rfl rfl ?_
  exact t_X12_inverses_L4 hd FU l1 0 0 _ h
theorem dX12_invert_0 : decode cX12_invert 0 = .ok (.aload_n 0, 1) := by decide +kernel
theorem dX12_invert_1 : decode cX12_invert 1 = .ok (.aload_n 0, 1) := by decide +kernel
theorem dX12_invert_2 : decode cX12_invert 2 = .ok (.getfield 42, 3) := by decide +kernel
theorem dX12_invert_5 : decode cX12_invert 5 = .ok (.iconst 0, 1) := by decide +kernel
theorem dX12_invert_6 : decode cX12_invert 6 = .ok (.iaload, 1) := by decide +kernel
theorem dX12_invert_7 : decode cX12_invert 7 = .ok (.invokevirtual 182, 3) := by decide +kernel
theorem dX12_invert_10 : decode cX12_invert 10 = .ok (.istore_n 1, 1) := by decide +kernel
theorem dX12_invert_11 : decode cX12_invert 11 = .ok (.aload_n 0, 1) := by decide +kernel
theorem dX12_invert_12 : decode cX12_invert 12 = .ok (.iconst 0, 1) := by decide +kernel
theorem dX12_invert_13 : decode cX12_invert 13 = .ok (.iload_n 1, 1) := by decide +kernel
theorem dX12_invert_14 : decode cX12_invert 14 = .ok (.invokevirtual 166, 3) := by decide +kernel
theorem dX12_invert_17 : decode cX12_invert 17 = .ok (.iconst (-1), 1) := by decide +kernel
theorem dX12_invert_18 : decode cX12_invert 18 = .ok (.if_icmp .ne 7, 3) := by decide +kernel
theorem dX12_invert_21 : decode cX12_invert 21 = .ok (.iconst (-1), 1) := by decide +kernel
theorem dX12_invert_22 : decode cX12_invert 22 = .ok (.goto 4, 3) := by decide +kernel
theorem dX12_invert_25 : decode cX12_invert 25 = .ok (.iload_n 1, 1) := by decide +kernel
theorem dX12_invert_26 : decode cX12_invert 26 = .ok (.ireturn, 1) := by decide +kernel
def f_X12_invert (w : Wd) : Option (Int32 × Wd) :=
  rdI w 54 20 0 fun x1 =>
  bnd (f_X12_inverses x1 w) fun x2 =>
  bnd2 (f_X12_changes 0 x2 w) fun x3 w4 =>
  if x3 = (-1) then
    some ((-1), w4)
  else
    some (x2, w4)
set_option maxHeartbeats 4000000 in
set_option maxRecDepth 100000 in
theorem ok_X12_invert {G : GT} {d : Nat} (hd : 2 ≤ d) {w : Wd}  {r : Int32} {w' : Wd} (h : f_X12_invert  w = some (r, w')) : uC G yX12_invert mX12_invert d [.ref 44] w (some (.int r)) w' := by
  obtain ⟨d, rfl⟩ : ∃ e, d = e + 1 := ⟨d - 1, by omega⟩
  unfold f_X12_invert at h
  refine uC_of (lv := [some (.ref 44), none]) 1 pn_X12 ⟨rfl, rfl⟩ (Nat.le_of_ble_eq_true rfl) rfl ?_
  refine V.aload_n (pc := 0) dX12_invert_0 rfl ?_
  refine V.aload_n (pc := 1) dX12_invert_1 rfl ?_
  refine V.getR (t := 54) (pc := 2) dX12_invert_2 f_RX12_42 k_cl12 lx_44 ly_44 rb_12_13 rr_44_13 ?_
  refine V.iconst (pc := 5) dX12_invert_5 ic_0 ?_
  obtain ⟨x1, ix1, ex1, h⟩ := rdI_e h
  refine V.ialdX (pc := 6) dX12_invert_6 lx_54 ly_54 ix1 ex1 ?_
  obtain ⟨x2, ex2, h⟩ := bnd_e h
  refine U.callV (pc := 7) (As := [.int x1]) (st := []) dX12_invert_7 l_RX12_182 (ok_X12_inverses (by omega) x1 ex2) lx_44 ly_44 cn_12 (Nat.le_of_ble_eq_true rfl) rfl rfl (Nat.le_of_ble_eq_true rfl) ?_
  refine V.istore_n (lv' := [some (.ref 44), some (.int x2)]) (pc := 10) dX12_invert_10 (Nat.le_of_ble_eq_true rfl) rfl rfl ?_
  refine V.aload_n (pc := 11) dX12_invert_11 rfl ?_
  refine V.iconst (pc := 12) dX12_invert_12 ic_0 ?_
  refine V.iload_n (pc := 13) dX12_invert_13 rfl ?_
  obtain ⟨x3, w4, ew4, h⟩ := bnd2_e h
  refine U.callV (pc := 14) (As := [.int 0, .int x2]) (st := []) dX12_invert_14 l_RX12_166 (ok_X12_changes (by omega) 0 x2 ew4) lx_44 ly_44 cn_12 (Nat.le_of_ble_eq_true rfl) rfl rfl (Nat.le_of_ble_eq_true rfl) ?_
  refine V.iconst (pc := 17) dX12_invert_17 ic_m1 ?_
  rcases ite_e h with ⟨c, h⟩ | ⟨c, h⟩
  · refine V.icmp_ne_f (t := 25) (pc := 18) dX12_invert_18 (by decide) c ?_
    refine V.iconst (pc := 21) dX12_invert_21 ic_m1 ?_
    refine V.goto (t := 26) (pc := 22) dX12_invert_22 (by decide) ?_
    obtain ⟨rfl, rfl⟩ := Prod.mk.inj (Option.some.inj h)
    exact V.iret (pc := 26) dX12_invert_26 rfl (Nat.le_refl _) (Nat.le_refl _)
  · refine V.icmp_ne_t (t := 25) (pc := 18) dX12_invert_18 (by decide) c ?_
    refine V.iload_n (pc := 25) dX12_invert_25 rfl ?_
    obtain ⟨rfl, rfl⟩ := Prod.mk.inj (Option.some.inj h)
    exact V.iret (pc := 26) dX12_invert_26 rfl (Nat.le_refl _) (Nat.le_refl _)
theorem dX4_conjugated_0 : decode cX4_conjugated 0 = .ok (.aload_n 0, 1) := by decide +kernel
theorem dX4_conjugated_1 : decode cX4_conjugated 1 = .ok (.aload_n 0, 1) := by decide +kernel
theorem dX4_conjugated_2 : decode cX4_conjugated 2 = .ok (.iload_n 1, 1) := by decide +kernel
theorem dX4_conjugated_3 : decode cX4_conjugated 3 = .ok (.invokevirtual 76, 3) := by decide +kernel
theorem dX4_conjugated_6 : decode cX4_conjugated 6 = .ok (.aload_n 0, 1) := by decide +kernel
theorem dX4_conjugated_7 : decode cX4_conjugated 7 = .ok (.iload_n 1, 1) := by decide +kernel
theorem dX4_conjugated_8 : decode cX4_conjugated 8 = .ok (.iload_n 2, 1) := by decide +kernel
theorem dX4_conjugated_9 : decode cX4_conjugated 9 = .ok (.iconst 1, 1) := by decide +kernel
theorem dX4_conjugated_10 : decode cX4_conjugated 10 = .ok (.invokevirtual 80, 3) := by decide +kernel
theorem dX4_conjugated_13 : decode cX4_conjugated 13 = .ok (.iconst 0, 1) := by decide +kernel
theorem dX4_conjugated_14 : decode cX4_conjugated 14 = .ok (.invokevirtual 80, 3) := by decide +kernel
theorem dX4_conjugated_17 : decode cX4_conjugated 17 = .ok (.ireturn, 1) := by decide +kernel
def f_X4_conjugated (l1 : Int32) (l2 : Int32) (w : Wd) : Option Int32 :=
  bnd (f_X4_inverseOf l1 w) fun x1 =>
  bnd (f_X4_moved l1 l2 1 w) fun x2 =>
  bnd (f_X4_moved x1 x2 0 w) fun x3 =>
  some x3
set_option maxHeartbeats 4000000 in
set_option maxRecDepth 100000 in
theorem ok_X4_conjugated {G : GT} {d : Nat} (hd : 2 ≤ d) {w : Wd} (l1 : Int32) (l2 : Int32) {r : Int32} (h : f_X4_conjugated l1 l2 w = some r) : uC G yX4_conjugated mX4_conjugated d [.ref 6, .int l1, .int l2] w (some (.int r)) w := by
  obtain ⟨d, rfl⟩ : ∃ e, d = e + 1 := ⟨d - 1, by omega⟩
  unfold f_X4_conjugated at h
  refine uC_of (lv := [some (.ref 6), some (.int l1), some (.int l2)]) 0 pn_X4 ⟨rfl, rfl⟩ (Nat.le_of_ble_eq_true rfl) rfl ?_
  refine V.aload_n (pc := 0) dX4_conjugated_0 rfl ?_
  refine V.aload_n (pc := 1) dX4_conjugated_1 rfl ?_
  refine V.iload_n (pc := 2) dX4_conjugated_2 rfl ?_
  obtain ⟨x1, ex1, h⟩ := bnd_e h
  refine U.callV (pc := 3) (As := [.int l1]) (st := [.ref 6]) dX4_conjugated_3 l_RX4_76 (ok_X4_inverseOf (by omega) l1 ex1) lx_6 ly_6 cn_4 (Nat.le_of_ble_eq_true rfl) rfl rfl (Nat.le_of_ble_eq_true rfl) ?_
  refine V.aload_n (pc := 6) dX4_conjugated_6 rfl ?_
  refine V.iload_n (pc := 7) dX4_conjugated_7 rfl ?_
  refine V.iload_n (pc := 8) dX4_conjugated_8 rfl ?_
  refine V.iconst (pc := 9) dX4_conjugated_9 ic_1 ?_
  obtain ⟨x2, ex2, h⟩ := bnd_e h
  refine U.callV (pc := 10) (As := [.int l1, .int l2, .int 1]) (st := [.int x1, .ref 6]) dX4_conjugated_10 l_RX4_80 (ok_X4_moved (by omega) l1 l2 1 ex2) lx_6 ly_6 cn_4 (Nat.le_of_ble_eq_true rfl) rfl rfl (Nat.le_of_ble_eq_true rfl) ?_
  refine V.iconst (pc := 13) dX4_conjugated_13 ic_0 ?_
  obtain ⟨x3, ex3, h⟩ := bnd_e h
  refine U.callV (pc := 14) (As := [.int x1, .int x2, .int 0]) (st := []) dX4_conjugated_14 l_RX4_80 (ok_X4_moved (by omega) x1 x2 0 ex3) lx_6 ly_6 cn_4 (Nat.le_of_ble_eq_true rfl) rfl rfl (Nat.le_of_ble_eq_true rfl) ?_
  obtain rfl := Option.some.inj h
  exact V.iret (pc := 17) dX4_conjugated_17 rfl (Nat.le_refl _) (Nat.le_refl _)
theorem dX11_turn_0 : decode cX11_turn 0 = .ok (.aload_n 0, 1) := by decide +kernel
theorem dX11_turn_1 : decode cX11_turn 1 = .ok (.getfield 28, 3) := by decide +kernel
theorem dX11_turn_4 : decode cX11_turn 4 = .ok (.iload_n 1, 1) := by decide +kernel
theorem dX11_turn_5 : decode cX11_turn 5 = .ok (.invokevirtual 107, 3) := by decide +kernel
theorem dX11_turn_8 : decode cX11_turn 8 = .ok (.ifCond .eq 25, 3) := by decide +kernel
theorem dX11_turn_11 : decode cX11_turn 11 = .ok (.aload_n 0, 1) := by decide +kernel
theorem dX11_turn_12 : decode cX11_turn 12 = .ok (.aload_n 0, 1) := by decide +kernel
theorem dX11_turn_13 : decode cX11_turn 13 = .ok (.getfield 28, 3) := by decide +kernel
theorem dX11_turn_16 : decode cX11_turn 16 = .ok (.iload_n 1, 1) := by decide +kernel
theorem dX11_turn_17 : decode cX11_turn 17 = .ok (.aload_n 0, 1) := by decide +kernel
theorem dX11_turn_18 : decode cX11_turn 18 = .ok (.getfield 74, 3) := by decide +kernel
theorem dX11_turn_21 : decode cX11_turn 21 = .ok (.invokevirtual 111, 3) := by decide +kernel
theorem dX11_turn_24 : decode cX11_turn 24 = .ok (.invokevirtual 146, 3) := by decide +kernel
theorem dX11_turn_27 : decode cX11_turn 27 = .ok (.invokevirtual 140, 3) := by decide +kernel
theorem dX11_turn_30 : decode cX11_turn 30 = .ok (.goto 4, 3) := by decide +kernel
theorem dX11_turn_33 : decode cX11_turn 33 = .ok (.iconst (-1), 1) := by decide +kernel
theorem dX11_turn_34 : decode cX11_turn 34 = .ok (.ireturn, 1) := by decide +kernel
def f_X11_turn (l1 : Int32) (w : Wd) : Option (Int32 × Wd) :=
  if (f_X4_holds l1 w) = 0 then
    some ((-1), w)
  else
    bnd (f_X0_set  w) fun x1 =>
    bnd (f_X4_conjugated l1 x1 w) fun x2 =>
    bnd2 (f_X11_moveTo x2 w) fun x3 w4 =>
    some (x3, w4)
set_option maxHeartbeats 4000000 in
set_option maxRecDepth 100000 in
theorem ok_X11_turn {G : GT} {d : Nat} (hd : 3 ≤ d) {w : Wd} (l1 : Int32) {r : Int32} {w' : Wd} (h : f_X11_turn l1 w = some (r, w')) : uC G yX11_turn mX11_turn d [.ref 0, .int l1] w (some (.int r)) w' := by
  obtain ⟨d, rfl⟩ : ∃ e, d = e + 1 := ⟨d - 1, by omega⟩
  unfold f_X11_turn at h
  refine uC_of (lv := [some (.ref 0), some (.int l1)]) 0 pn_X11 ⟨rfl, rfl⟩ (Nat.le_of_ble_eq_true rfl) rfl ?_
  refine V.aload_n (pc := 0) dX11_turn_0 rfl ?_
  refine V.getR (t := 6) (pc := 1) dX11_turn_1 f_RX11_28 k_cl11 lx_0 ly_0 rb_11_2 rr_0_2 ?_
  refine V.iload_n (pc := 4) dX11_turn_4 rfl ?_
  refine U.callV (pc := 5) (As := [.int l1]) (st := []) dX11_turn_5 l_RX11_107 (ok_X4_holds (by omega) l1 ) lx_6 ly_6 cn_4 (Nat.le_of_ble_eq_true rfl) rfl rfl (Nat.le_of_ble_eq_true rfl) ?_
  rcases ite_e h with ⟨c, h⟩ | ⟨c, h⟩
  · refine V.if_eq_t (t := 33) (pc := 8) dX11_turn_8 (by decide) c ?_
    refine V.iconst (pc := 33) dX11_turn_33 ic_m1 ?_
    obtain ⟨rfl, rfl⟩ := Prod.mk.inj (Option.some.inj h)
    exact V.iret (pc := 34) dX11_turn_34 rfl (Nat.le_refl _) (Nat.le_refl _)
  · refine V.if_eq_f (t := 33) (pc := 8) dX11_turn_8 (by decide) c ?_
    refine V.aload_n (pc := 11) dX11_turn_11 rfl ?_
    refine V.aload_n (pc := 12) dX11_turn_12 rfl ?_
    refine V.getR (t := 6) (pc := 13) dX11_turn_13 f_RX11_28 k_cl11 lx_0 ly_0 rb_11_2 rr_0_2 ?_
    refine V.iload_n (pc := 16) dX11_turn_16 rfl ?_
    refine V.aload_n (pc := 17) dX11_turn_17 rfl ?_
    refine V.getR (t := 37) (pc := 18) dX11_turn_18 f_RX11_74 k_cl11 lx_0 ly_0 rb_11_8 rr_0_8 ?_
    obtain ⟨x1, ex1, h⟩ := bnd_e h
    refine U.callV (pc := 21) (As := []) (st := [.int l1, .ref 6, .ref 0]) dX11_turn_21 l_RX11_111 (ok_X0_set (by omega)  ex1) lx_37 ly_37 cn_0 (Nat.le_of_ble_eq_true rfl) rfl rfl (Nat.le_of_ble_eq_true rfl) ?_
    obtain ⟨x2, ex2, h⟩ := bnd_e h
    refine U.callV (pc := 24) (As := [.int l1, .int x1]) (st := [.ref 0]) dX11_turn_24 l_RX11_146 (ok_X4_conjugated (by omega) l1 x1 ex2) lx_6 ly_6 cn_4 (Nat.le_of_ble_eq_true rfl) rfl rfl (Nat.le_of_ble_eq_true rfl) ?_
    obtain ⟨x3, w4, ew4, h⟩ := bnd2_e h
    refine U.callV (pc := 27) (As := [.int x2]) (st := []) dX11_turn_27 l_RX11_140 (ok_X11_moveTo (by omega) x2 ew4) lx_0 ly_0 cn_11 (Nat.le_of_ble_eq_true rfl) rfl rfl (Nat.le_of_ble_eq_true rfl) ?_
    refine V.goto (t := 34) (pc := 30) dX11_turn_30 (by decide) ?_
    obtain ⟨rfl, rfl⟩ := Prod.mk.inj (Option.some.inj h)
    exact V.iret (pc := 34) dX11_turn_34 rfl (Nat.le_refl _) (Nat.le_refl _)
theorem dX12_conjugate_0 : decode cX12_conjugate 0 = .ok (.aload_n 0, 1) := by decide +kernel
theorem dX12_conjugate_1 : decode cX12_conjugate 1 = .ok (.aload_n 0, 1) := by decide +kernel
theorem dX12_conjugate_2 : decode cX12_conjugate 2 = .ok (.iload_n 1, 1) := by decide +kernel
theorem dX12_conjugate_3 : decode cX12_conjugate 3 = .ok (.iload_n 2, 1) := by decide +kernel
theorem dX12_conjugate_4 : decode cX12_conjugate 4 = .ok (.invokevirtual 119, 3) := by decide +kernel
theorem dX12_conjugate_7 : decode cX12_conjugate 7 = .ok (.aload_n 0, 1) := by decide +kernel
theorem dX12_conjugate_8 : decode cX12_conjugate 8 = .ok (.getfield 23, 3) := by decide +kernel
theorem dX12_conjugate_11 : decode cX12_conjugate 11 = .ok (.iload_n 1, 1) := by decide +kernel
theorem dX12_conjugate_12 : decode cX12_conjugate 12 = .ok (.iaload, 1) := by decide +kernel
theorem dX12_conjugate_13 : decode cX12_conjugate 13 = .ok (.invokevirtual 119, 3) := by decide +kernel
theorem dX12_conjugate_16 : decode cX12_conjugate 16 = .ok (.ireturn, 1) := by decide +kernel
def f_X12_conjugate (l1 : Int32) (l2 : Int32) (w : Wd) : Option Int32 :=
  bnd (f_X12_product0 l1 l2 w) fun x1 =>
  rdI w 48 16 l1 fun x2 =>
  bnd (f_X12_product0 x1 x2 w) fun x3 =>
  some x3
set_option maxHeartbeats 4000000 in
set_option maxRecDepth 100000 in
theorem ok_X12_conjugate {G : GT} {d : Nat} (hd : 1 ≤ d) {w : Wd} (l1 : Int32) (l2 : Int32) {r : Int32} (h : f_X12_conjugate l1 l2 w = some r) : uC G yX12_conjugate mX12_conjugate d [.ref 44, .int l1, .int l2] w (some (.int r)) w := by
  obtain ⟨d, rfl⟩ : ∃ e, d = e + 1 := ⟨d - 1, by omega⟩
  unfold f_X12_conjugate at h
  refine uC_of (lv := [some (.ref 44), some (.int l1), some (.int l2)]) 0 pn_X12 ⟨rfl, rfl⟩ (Nat.le_of_ble_eq_true rfl) rfl ?_
  refine V.aload_n (pc := 0) dX12_conjugate_0 rfl ?_
  refine V.aload_n (pc := 1) dX12_conjugate_1 rfl ?_
  refine V.iload_n (pc := 2) dX12_conjugate_2 rfl ?_
  refine V.iload_n (pc := 3) dX12_conjugate_3 rfl ?_
  obtain ⟨x1, ex1, h⟩ := bnd_e h
  refine U.callV (pc := 4) (As := [.int l1, .int l2]) (st := [.ref 44]) dX12_conjugate_4 l_RX12_119 (ok_X12_product0 (by omega) l1 l2 ex1) lx_44 ly_44 cn_12 (Nat.le_of_ble_eq_true rfl) rfl rfl (Nat.le_of_ble_eq_true rfl) ?_
  refine V.aload_n (pc := 7) dX12_conjugate_7 rfl ?_
  refine V.getR (t := 48) (pc := 8) dX12_conjugate_8 f_RX12_23 k_cl12 lx_44 ly_44 rb_12_6 rr_44_6 ?_
  refine V.iload_n (pc := 11) dX12_conjugate_11 rfl ?_
  obtain ⟨x2, ix2, ex2, h⟩ := rdI_e h
  refine V.ialdX (pc := 12) dX12_conjugate_12 lx_48 ly_48 ix2 ex2 ?_
  obtain ⟨x3, ex3, h⟩ := bnd_e h
  refine U.callV (pc := 13) (As := [.int x1, .int x2]) (st := []) dX12_conjugate_13 l_RX12_119 (ok_X12_product0 (by omega) x1 x2 ex3) lx_44 ly_44 cn_12 (Nat.le_of_ble_eq_true rfl) rfl rfl (Nat.le_of_ble_eq_true rfl) ?_
  obtain rfl := Option.some.inj h
  exact V.iret (pc := 16) dX12_conjugate_16 rfl (Nat.le_refl _) (Nat.le_refl _)
theorem dX12_turn_0 : decode cX12_turn 0 = .ok (.aload_n 0, 1) := by decide +kernel
theorem dX12_turn_1 : decode cX12_turn 1 = .ok (.iload_n 1, 1) := by decide +kernel
theorem dX12_turn_2 : decode cX12_turn 2 = .ok (.invokevirtual 163, 3) := by decide +kernel
theorem dX12_turn_5 : decode cX12_turn 5 = .ok (.ifCond .ne 5, 3) := by decide +kernel
theorem dX12_turn_8 : decode cX12_turn 8 = .ok (.iconst (-1), 1) := by decide +kernel
theorem dX12_turn_9 : decode cX12_turn 9 = .ok (.ireturn, 1) := by decide +kernel
theorem dX12_turn_10 : decode cX12_turn 10 = .ok (.iconst 0, 1) := by decide +kernel
theorem dX12_turn_11 : decode cX12_turn 11 = .ok (.istore_n 2, 1) := by decide +kernel
theorem dX12_turn_12 : decode cX12_turn 12 = .ok (.iconst 0, 1) := by decide +kernel
theorem dX12_turn_13 : decode cX12_turn 13 = .ok (.istore_n 3, 1) := by decide +kernel
theorem dX12_turn_14 : decode cX12_turn 14 = .ok (.iload_n 3, 1) := by decide +kernel
theorem dX12_turn_15 : decode cX12_turn 15 = .ok (.aload_n 0, 1) := by decide +kernel
theorem dX12_turn_16 : decode cX12_turn 16 = .ok (.getfield 92, 3) := by decide +kernel
theorem dX12_turn_19 : decode cX12_turn 19 = .ok (.if_icmp .ge 33, 3) := by decide +kernel
theorem dX12_turn_22 : decode cX12_turn 22 = .ok (.aload_n 0, 1) := by decide +kernel
theorem dX12_turn_23 : decode cX12_turn 23 = .ok (.getfield 42, 3) := by decide +kernel
theorem dX12_turn_26 : decode cX12_turn 26 = .ok (.iconst 0, 1) := by decide +kernel
theorem dX12_turn_27 : decode cX12_turn 27 = .ok (.iaload, 1) := by decide +kernel
theorem dX12_turn_28 : decode cX12_turn 28 = .ok (.iload_n 3, 1) := by decide +kernel
theorem dX12_turn_29 : decode cX12_turn 29 = .ok (.invokestatic 128, 3) := by decide +kernel
theorem dX12_turn_32 : decode cX12_turn 32 = .ok (.ifCond .eq 14, 3) := by decide +kernel
theorem dX12_turn_35 : decode cX12_turn 35 = .ok (.iload_n 2, 1) := by decide +kernel
theorem dX12_turn_36 : decode cX12_turn 36 = .ok (.iconst 1, 1) := by decide +kernel
theorem dX12_turn_37 : decode cX12_turn 37 = .ok (.aload_n 0, 1) := by decide +kernel
theorem dX12_turn_38 : decode cX12_turn 38 = .ok (.iload_n 1, 1) := by decide +kernel
theorem dX12_turn_39 : decode cX12_turn 39 = .ok (.iload_n 3, 1) := by decide +kernel
theorem dX12_turn_40 : decode cX12_turn 40 = .ok (.invokevirtual 185, 3) := by decide +kernel
theorem dX12_turn_43 : decode cX12_turn 43 = .ok (.ishl, 1) := by decide +kernel
theorem dX12_turn_44 : decode cX12_turn 44 = .ok (.ior, 1) := by decide +kernel
theorem dX12_turn_45 : decode cX12_turn 45 = .ok (.istore_n 2, 1) := by decide +kernel
theorem dX12_turn_46 : decode cX12_turn 46 = .ok (.iinc 3 1, 3) := by decide +kernel
theorem dX12_turn_49 : decode cX12_turn 49 = .ok (.goto (-35), 3) := by decide +kernel
theorem dX12_turn_52 : decode cX12_turn 52 = .ok (.aload_n 0, 1) := by decide +kernel
theorem dX12_turn_53 : decode cX12_turn 53 = .ok (.iconst 0, 1) := by decide +kernel
theorem dX12_turn_54 : decode cX12_turn 54 = .ok (.iload_n 2, 1) := by decide +kernel
theorem dX12_turn_55 : decode cX12_turn 55 = .ok (.invokevirtual 166, 3) := by decide +kernel
theorem dX12_turn_58 : decode cX12_turn 58 = .ok (.iconst (-1), 1) := by decide +kernel
theorem dX12_turn_59 : decode cX12_turn 59 = .ok (.if_icmp .ne 7, 3) := by decide +kernel
theorem dX12_turn_62 : decode cX12_turn 62 = .ok (.iconst (-1), 1) := by decide +kernel
theorem dX12_turn_63 : decode cX12_turn 63 = .ok (.goto 4, 3) := by decide +kernel
theorem dX12_turn_66 : decode cX12_turn 66 = .ok (.iload_n 2, 1) := by decide +kernel
theorem dX12_turn_67 : decode cX12_turn 67 = .ok (.ireturn, 1) := by decide +kernel
def f_X12_turn_B14b (k14 : Int32 → Int32 → Int32 → Wd → Option (Int32 × Wd)) (l1 : Int32) (l2 : Int32) (l3 : Int32) (w : Wd) : Option (Int32 × Wd) :=
  if (w.1 44 1) ≤ l3 then
    bnd2 (f_X12_changes 0 l2 w) fun x1 w2 =>
    if x1 = (-1) then
      some ((-1), w2)
    else
      some (l2, w2)
  else
    rdI w 54 20 0 fun x3 =>
    if (f_X12_has x3 l3) = 0 then
      k14 l1 l2 (l3 + 1) w
    else
      bnd (f_X12_conjugate l1 l3 w) fun x4 =>
      k14 l1 (l2 ||| (1 <<< (x4 &&& 31))) (l3 + 1) w
def f_X12_turn_L14 (n : Nat) : Int32 → Int32 → Int32 → Wd → Option (Int32 × Wd) :=
  Nat.rec (fun _ _ _ _ => none) (fun _ k => f_X12_turn_B14b k) n
set_option maxHeartbeats 4000000 in
set_option maxRecDepth 100000 in
theorem t_X12_turn_L14 {G : GT} {d : Nat} (hd : 2 ≤ d + 1)  : ∀ (n : Nat) (l1 : Int32) (l2 : Int32) (l3 : Int32) (w : Wd) (r : Int32) (w' : Wd), f_X12_turn_L14 n l1 l2 l3 w = some (r, w') → U (vf G mX12_turn (d + 1)) 14 [some (.ref 44), some (.int l1), some (.int l2), some (.int l3)] [] w (some (.int r), 70, r0, w') := by
  intro n
  induction n with
  | zero => intro l1 l2 l3 w r w' h; cases h
  | succ n h14 =>
    intro l1 l2 l3 w r w' h
    have h : f_X12_turn_B14b (f_X12_turn_L14 n) l1 l2 l3 w = some (r, w') := h
    unfold f_X12_turn_B14b at h
    refine V.iload_n (pc := 14) dX12_turn_14 rfl ?_
    refine V.aload_n (pc := 15) dX12_turn_15 rfl ?_
    refine V.getI (pc := 16) dX12_turn_16 f_RX12_92 k_cl12 lx_44 ly_44 rb_12_1 ?_
    rcases ite_e h with ⟨c, h⟩ | ⟨c, h⟩
    · refine V.icmp_ge_t (t := 52) (pc := 19) dX12_turn_19 (by decide) c ?_
      refine V.aload_n (pc := 52) dX12_turn_52 rfl ?_
      refine V.iconst (pc := 53) dX12_turn_53 ic_0 ?_
      refine V.iload_n (pc := 54) dX12_turn_54 rfl ?_
      obtain ⟨x1, w2, ew2, h⟩ := bnd2_e h
      refine U.callV (pc := 55) (As := [.int 0, .int l2]) (st := []) dX12_turn_55 l_RX12_166 (ok_X12_changes (by omega) 0 l2 ew2) lx_44 ly_44 cn_12 (Nat.le_of_ble_eq_true rfl) rfl rfl (Nat.le_of_ble_eq_true rfl) ?_
      refine V.iconst (pc := 58) dX12_turn_58 ic_m1 ?_
      rcases ite_e h with ⟨c, h⟩ | ⟨c, h⟩
      · refine V.icmp_ne_f (t := 66) (pc := 59) dX12_turn_59 (by decide) c ?_
        refine V.iconst (pc := 62) dX12_turn_62 ic_m1 ?_
        refine V.goto (t := 67) (pc := 63) dX12_turn_63 (by decide) ?_
        obtain ⟨rfl, rfl⟩ := Prod.mk.inj (Option.some.inj h)
        exact V.iret (pc := 67) dX12_turn_67 rfl (Nat.le_refl _) (Nat.le_refl _)
      · refine V.icmp_ne_t (t := 66) (pc := 59) dX12_turn_59 (by decide) c ?_
        refine V.iload_n (pc := 66) dX12_turn_66 rfl ?_
        obtain ⟨rfl, rfl⟩ := Prod.mk.inj (Option.some.inj h)
        exact V.iret (pc := 67) dX12_turn_67 rfl (Nat.le_refl _) (Nat.le_refl _)
    · refine V.icmp_ge_f (t := 52) (pc := 19) dX12_turn_19 (by decide) c ?_
      refine V.aload_n (pc := 22) dX12_turn_22 rfl ?_
      refine V.getR (t := 54) (pc := 23) dX12_turn_23 f_RX12_42 k_cl12 lx_44 ly_44 rb_12_13 rr_44_13 ?_
      refine V.iconst (pc := 26) dX12_turn_26 ic_0 ?_
      obtain ⟨x3, ix3, ex3, h⟩ := rdI_e h
      refine V.ialdX (pc := 27) dX12_turn_27 lx_54 ly_54 ix3 ex3 ?_
      refine V.iload_n (pc := 28) dX12_turn_28 rfl ?_
      refine U.callS (pc := 29) (As := [.int x3, .int l3]) (st := []) dX12_turn_29 l_RX12_128 (ok_X12_has (by omega) x3 l3 ) (Nat.le_of_ble_eq_true rfl) rfl rfl (Nat.le_of_ble_eq_true rfl) ?_
      rcases ite_e h with ⟨c, h⟩ | ⟨c, h⟩
      · refine V.if_eq_t (t := 46) (pc := 32) dX12_turn_32 (by decide) c ?_
        refine V.iinc (lv' := [some (.ref 44), some (.int l1), some (.int l2), some (.int (l3 + 1))]) (pc := 46) dX12_turn_46 (Nat.le_of_ble_eq_true rfl) rfl rfl (v := (l3 + 1)) (by rw [show Int32.ofInt 1 = 1 from by decide]) rfl ?_
        refine V.goto (t := 14) (pc := 49) dX12_turn_49 (by decide) ?_
        exact h14 l1 l2 (l3 + 1) w _ _ h
      · refine V.if_eq_f (t := 46) (pc := 32) dX12_turn_32 (by decide) c ?_
        refine V.iload_n (pc := 35) dX12_turn_35 rfl ?_
        refine V.iconst (pc := 36) dX12_turn_36 ic_1 ?_
        refine V.aload_n (pc := 37) dX12_turn_37 rfl ?_
        refine V.iload_n (pc := 38) dX12_turn_38 rfl ?_
        refine V.iload_n (pc := 39) dX12_turn_39 rfl ?_
        obtain ⟨x4, ex4, h⟩ := bnd_e h
        refine U.callV (pc := 40) (As := [.int l1, .int l3]) (st := [.int 1, .int l2]) dX12_turn_40 l_RX12_185 (ok_X12_conjugate (by omega) l1 l3 ex4) lx_44 ly_44 cn_12 (Nat.le_of_ble_eq_true rfl) rfl rfl (Nat.le_of_ble_eq_true rfl) ?_
        refine V.ishl (pc := 43) dX12_turn_43 ?_
        refine V.ior (pc := 44) dX12_turn_44 ?_
        refine V.istore_n (lv' := [some (.ref 44), some (.int l1), some (.int (l2 ||| (1 <<< (x4 &&& 31)))), some (.int l3)]) (pc := 45) dX12_turn_45 (Nat.le_of_ble_eq_true rfl) rfl rfl ?_
        refine V.iinc (lv' := [some (.ref 44), some (.int l1), some (.int (l2 ||| (1 <<< (x4 &&& 31)))), some (.int (l3 + 1))]) (pc := 46) dX12_turn_46 (Nat.le_of_ble_eq_true rfl) rfl rfl (v := (l3 + 1)) (by rw [show Int32.ofInt 1 = 1 from by decide]) rfl ?_
        refine V.goto (t := 14) (pc := 49) dX12_turn_49 (by decide) ?_
        exact h14 l1 (l2 ||| (1 <<< (x4 &&& 31))) (l3 + 1) w _ _ h
def f_X12_turn (l1 : Int32) (w : Wd) : Option (Int32 × Wd) :=
  if (f_X12_isElement l1 w) = 0 then
    some ((-1), w)
  else
    f_X12_turn_L14  FU l1 0 0 w
set_option maxHeartbeats 4000000 in
set_option maxRecDepth 100000 in
theorem ok_X12_turn {G : GT} {d : Nat} (hd : 2 ≤ d) {w : Wd} (l1 : Int32) {r : Int32} {w' : Wd} (h : f_X12_turn l1 w = some (r, w')) : uC G yX12_turn mX12_turn d [.ref 44, .int l1] w (some (.int r)) w' := by
  obtain ⟨d, rfl⟩ : ∃ e, d = e + 1 := ⟨d - 1, by omega⟩
  unfold f_X12_turn at h
  refine uC_of (lv := [some (.ref 44), some (.int l1), none, none]) 2 pn_X12 ⟨rfl, rfl⟩ (Nat.le_of_ble_eq_true rfl) rfl ?_
  refine V.aload_n (pc := 0) dX12_turn_0 rfl ?_
  refine V.iload_n (pc := 1) dX12_turn_1 rfl ?_
  refine U.callV (pc := 2) (As := [.int l1]) (st := []) dX12_turn_2 l_RX12_163 (ok_X12_isElement (by omega) l1 ) lx_44 ly_44 cn_12 (Nat.le_of_ble_eq_true rfl) rfl rfl (Nat.le_of_ble_eq_true rfl) ?_
  rcases ite_e h with ⟨c, h⟩ | ⟨c, h⟩
  · refine V.if_ne_f (t := 10) (pc := 5) dX12_turn_5 (by decide) c ?_
    refine V.iconst (pc := 8) dX12_turn_8 ic_m1 ?_
    obtain ⟨rfl, rfl⟩ := Prod.mk.inj (Option.some.inj h)
    exact V.iret (pc := 9) dX12_turn_9 rfl (Nat.le_refl _) (Nat.le_refl _)
  · refine V.if_ne_t (t := 10) (pc := 5) dX12_turn_5 (by decide) c ?_
    refine V.iconst (pc := 10) dX12_turn_10 ic_0 ?_
    refine V.istore_n (lv' := [some (.ref 44), some (.int l1), some (.int 0), none]) (pc := 11) dX12_turn_11 (Nat.le_of_ble_eq_true rfl) rfl rfl ?_
    refine V.iconst (pc := 12) dX12_turn_12 ic_0 ?_
    refine V.istore_n (lv' := [some (.ref 44), some (.int l1), some (.int 0), some (.int 0)]) (pc := 13) dX12_turn_13 (Nat.le_of_ble_eq_true rfl) rfl rfl ?_
    exact t_X12_turn_L14 hd FU l1 0 0 w _ _ h
