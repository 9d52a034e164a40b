theorem dX12_writes_0 : decode cX12_writes 0 = .ok (.aload_n 0, 1) := by decide +kernel
theorem dX12_writes_1 : decode cX12_writes 1 = .ok (.getfield 76, 3) := by decide +kernel
theorem dX12_writes_4 : decode cX12_writes 4 = .ok (.aload_n 0, 1) := by decide +kernel
theorem dX12_writes_5 : decode cX12_writes 5 = .ok (.getfield 261, 3) := by decide +kernel
theorem dX12_writes_8 : decode cX12_writes 8 = .ok (.iload_n 1, 1) := by decide +kernel
theorem dX12_writes_9 : decode cX12_writes 9 = .ok (.iastore, 1) := by decide +kernel
theorem dX12_writes_10 : decode cX12_writes 10 = .ok (.aload_n 0, 1) := by decide +kernel
theorem dX12_writes_11 : decode cX12_writes 11 = .ok (.dup, 1) := by decide +kernel
theorem dX12_writes_12 : decode cX12_writes 12 = .ok (.getfield 261, 3) := by decide +kernel
theorem dX12_writes_15 : decode cX12_writes 15 = .ok (.iconst 1, 1) := by decide +kernel
theorem dX12_writes_16 : decode cX12_writes 16 = .ok (.iadd, 1) := by decide +kernel
theorem dX12_writes_17 : decode cX12_writes 17 = .ok (.putfield 261, 3) := by decide +kernel
theorem dX12_writes_20 : decode cX12_writes 20 = .ok (.return_, 1) := by decide +kernel
def f_X12_writes (l1 : Int32) (w : Wd) : Option Wd :=
  wrI w 65 200 (w.1 44 28) l1 fun w1 =>
  letW (sI w1 44 28 ((w1.1 44 28) + 1)) fun w2 =>
  some w2
set_option maxHeartbeats 4000000 in
set_option maxRecDepth 100000 in
theorem ok_X12_writes {G : GT} {d : Nat} (hd : 0 ≤ d) {w : Wd} (l1 : Int32) {w' : Wd} (h : f_X12_writes l1 w = some w') : uC G yX12_writes mX12_writes d [.ref 44, .int l1] w none w' := by
  unfold f_X12_writes at h
  refine uC_of (lv := [some (.ref 44), some (.int l1)]) 0 pn_X12 ⟨rfl, rfl⟩ (Nat.le_of_ble_eq_true rfl) rfl ?_
  refine V.aload_n (pc := 0) dX12_writes_0 rfl ?_
  refine V.getR (t := 65) (pc := 1) dX12_writes_1 f_RX12_76 k_cl12 lx_44 ly_44 rb_12_27 rr_44_27 ?_
  refine V.aload_n (pc := 4) dX12_writes_4 rfl ?_
  refine V.getI (pc := 5) dX12_writes_5 f_RX12_261 k_cl12 lx_44 ly_44 rb_12_28 ?_
  refine V.iload_n (pc := 8) dX12_writes_8 rfl ?_
  obtain ⟨w1, iw1, ew1, h⟩ := wrI_e h
  refine V.iastX (pc := 9) dX12_writes_9 lx_65 ly_65 iw1 ew1 ?_
  refine V.aload_n (pc := 10) dX12_writes_10 rfl ?_
  refine V.dup (pc := 11) dX12_writes_11 rfl ?_
  refine V.getI (pc := 12) dX12_writes_12 f_RX12_261 k_cl12 lx_44 ly_44 rb_12_28 ?_
  refine V.iconst (pc := 15) dX12_writes_15 ic_1 ?_
  refine V.iadd (pc := 16) dX12_writes_16 ?_
  obtain ⟨w2, ew2, h⟩ := letW_e h
  refine V.putIX (pc := 17) dX12_writes_17 f_RX12_261 k_cl12 lx_44 ly_44 rb_12_28 (fin_I (T0 := TX12) rfl rfl rfl) ew2 ?_
  obtain rfl := Option.some.inj h
  exact V.vret (pc := 20) dX12_writes_20 rfl (Nat.le_refl _) (Nat.le_refl _)
theorem dX12_writesWord_0 : decode cX12_writesWord 0 = .ok (.aload_n 0, 1) := by decide +kernel
theorem dX12_writesWord_1 : decode cX12_writesWord 1 = .ok (.iload_n 1, 1) := by decide +kernel
theorem dX12_writesWord_2 : decode cX12_writesWord 2 = .ok (.invokevirtual 264, 3) := by decide +kernel
theorem dX12_writesWord_5 : decode cX12_writesWord 5 = .ok (.istore_n 2, 1) := by decide +kernel
theorem dX12_writesWord_6 : decode cX12_writesWord 6 = .ok (.aload_n 0, 1) := by decide +kernel
theorem dX12_writesWord_7 : decode cX12_writesWord 7 = .ok (.getfield 82, 3) := by decide +kernel
theorem dX12_writesWord_10 : decode cX12_writesWord 10 = .ok (.iload_n 2, 1) := by decide +kernel
theorem dX12_writesWord_11 : decode cX12_writesWord 11 = .ok (.baload, 1) := by decide +kernel
theorem dX12_writesWord_12 : decode cX12_writesWord 12 = .ok (.ifCond .eq 19, 3) := by decide +kernel
theorem dX12_writesWord_15 : decode cX12_writesWord 15 = .ok (.aload_n 0, 1) := by decide +kernel
theorem dX12_writesWord_16 : decode cX12_writesWord 16 = .ok (.aload_n 0, 1) := by decide +kernel
theorem dX12_writesWord_17 : decode cX12_writesWord 17 = .ok (.getfield 82, 3) := by decide +kernel
theorem dX12_writesWord_20 : decode cX12_writesWord 20 = .ok (.iload_n 2, 1) := by decide +kernel
theorem dX12_writesWord_21 : decode cX12_writesWord 21 = .ok (.baload, 1) := by decide +kernel
theorem dX12_writesWord_22 : decode cX12_writesWord 22 = .ok (.invokevirtual 267, 3) := by decide +kernel
theorem dX12_writesWord_25 : decode cX12_writesWord 25 = .ok (.iinc 2 1, 3) := by decide +kernel
theorem dX12_writesWord_28 : decode cX12_writesWord 28 = .ok (.goto (-22), 3) := by decide +kernel
theorem dX12_writesWord_31 : decode cX12_writesWord 31 = .ok (.return_, 1) := by decide +kernel
def f_X12_writesWord_B6b (k6 : Int32 → Wd → Option Wd) (l2 : Int32) (w : Wd) : Option Wd :=
  rdI w 67 68 l2 fun x1 =>
  if x1 = 0 then
    some w
  else
    rdI w 67 68 l2 fun x2 =>
    bnd (f_X12_writes x2 w) fun w3 =>
    k6 (l2 + 1) w3
def f_X12_writesWord_L6 (n : Nat) : Int32 → Wd → Option Wd :=
  Nat.rec (fun _ _ => none) (fun _ k => f_X12_writesWord_B6b k) n
set_option maxHeartbeats 4000000 in
set_option maxRecDepth 100000 in
theorem t_X12_writesWord_L6 {G : GT} {d : Nat} (hd : 1 ≤ d + 1)  : ∀ (n : Nat) (l2 : Int32) (w : Wd) (w' : Wd), f_X12_writesWord_L6 n l2 w = some w' → U (vf G mX12_writesWord (d + 1)) 6 [some (.ref 44), none, some (.int l2)] [] w (none, 70, r0, w') := by
  intro n
  induction n with
  | zero => intro l2 w w' h; cases h
  | succ n h6 =>
    intro l2 w w' h
    have h : f_X12_writesWord_B6b (f_X12_writesWord_L6 n) l2 w = some w' := h
    unfold f_X12_writesWord_B6b at h
    refine V.aload_n (pc := 6) dX12_writesWord_6 rfl ?_
    refine V.getR (t := 67) (pc := 7) dX12_writesWord_7 f_RX12_82 k_cl12 lx_44 ly_44 rb_12_31 rr_44_31 ?_
    refine V.iload_n (pc := 10) dX12_writesWord_10 rfl ?_
    obtain ⟨x1, ix1, ex1, h⟩ := rdI_e h
    refine V.baldX (pc := 11) dX12_writesWord_11 lx_67 ly_67 ix1 ex1 ?_
    rcases ite_e h with ⟨c, h⟩ | ⟨c, h⟩
    · refine V.if_eq_t (t := 31) (pc := 12) dX12_writesWord_12 (by decide) c ?_
      obtain rfl := Option.some.inj h
      exact V.vret (pc := 31) dX12_writesWord_31 rfl (Nat.le_refl _) (Nat.le_refl _)
    · refine V.if_eq_f (t := 31) (pc := 12) dX12_writesWord_12 (by decide) c ?_
      refine V.aload_n (pc := 15) dX12_writesWord_15 rfl ?_
      refine V.aload_n (pc := 16) dX12_writesWord_16 rfl ?_
      refine V.getR (t := 67) (pc := 17) dX12_writesWord_17 f_RX12_82 k_cl12 lx_44 ly_44 rb_12_31 rr_44_31 ?_
      refine V.iload_n (pc := 20) dX12_writesWord_20 rfl ?_
      obtain ⟨x2, ix2, ex2, h⟩ := rdI_e h
      refine V.baldX (pc := 21) dX12_writesWord_21 lx_67 ly_67 ix2 ex2 ?_
      obtain ⟨w3, ew3, h⟩ := bnd_e h
      refine U.callV (pc := 22) (As := [.int x2]) (st := []) dX12_writesWord_22 l_RX12_267 (ok_X12_writes (by omega) x2 ew3) lx_44 ly_44 cn_12 (Nat.le_of_ble_eq_true rfl) rfl rfl (Nat.le_of_ble_eq_true rfl) ?_
      refine V.iinc (lv' := [some (.ref 44), none, some (.int (l2 + 1))]) (pc := 25) dX12_writesWord_25 (Nat.le_of_ble_eq_true rfl) rfl rfl (v := (l2 + 1)) (by rw [show Int32.ofInt 1 = 1 from by decide]) rfl ?_
      refine V.goto (t := 6) (pc := 28) dX12_writesWord_28 (by decide) ?_
      exact h6 (l2 + 1) w3 _ h
def f_X12_writesWord (l1 : Int32) (w : Wd) : Option Wd :=
  bnd (f_X12_wordFrom l1 w) fun x1 =>
  f_X12_writesWord_L6  FU x1 w
set_option maxHeartbeats 4000000 in
set_option maxRecDepth 100000 in
theorem ok_X12_writesWord {G : GT} {d : Nat} (hd : 1 ≤ d) {w : Wd} (l1 : Int32) {w' : Wd} (h : f_X12_writesWord l1 w = some w') : uC G yX12_writesWord mX12_writesWord d [.ref 44, .int l1] w none w' := by
  obtain ⟨d, rfl⟩ : ∃ e, d = e + 1 := ⟨d - 1, by omega⟩
  unfold f_X12_writesWord at h
  refine uC_of (lv := [some (.ref 44), some (.int l1), none]) 1 pn_X12 ⟨rfl, rfl⟩ (Nat.le_of_ble_eq_true rfl) rfl ?_
  refine V.aload_n (pc := 0) dX12_writesWord_0 rfl ?_
  refine V.iload_n (pc := 1) dX12_writesWord_1 rfl ?_
  obtain ⟨x1, ex1, h⟩ := bnd_e h
  refine U.callV (pc := 2) (As := [.int l1]) (st := []) dX12_writesWord_2 l_RX12_264 (ok_X12_wordFrom (by omega) l1 ex1) lx_44 ly_44 cn_12 (Nat.le_of_ble_eq_true rfl) rfl rfl (Nat.le_of_ble_eq_true rfl) ?_
  refine V.istore_n (lv' := [some (.ref 44), some (.int l1), some (.int x1)]) (pc := 5) dX12_writesWord_5 (Nat.le_of_ble_eq_true rfl) rfl rfl ?_
  refine V.weak (lv' := [some (.ref 44), none, some (.int x1)]) (And.intro rfl (And.intro rfl trivial)) ?_
  exact t_X12_writesWord_L6 hd FU x1 w _ h
theorem dX12_writesNumber_0 : decode cX12_writesNumber 0 = .ok (.aload_n 0, 1) := by decide +kernel
theorem dX12_writesNumber_1 : decode cX12_writesNumber 1 = .ok (.bipush 32, 2) := by decide +kernel
theorem dX12_writesNumber_3 : decode cX12_writesNumber 3 = .ok (.invokevirtual 267, 3) := by decide +kernel
theorem dX12_writesNumber_6 : decode cX12_writesNumber 6 = .ok (.iload_n 1, 1) := by decide +kernel
theorem dX12_writesNumber_7 : decode cX12_writesNumber 7 = .ok (.bipush 99, 2) := by decide +kernel
theorem dX12_writesNumber_9 : decode cX12_writesNumber 9 = .ok (.if_icmp .le 14, 3) := by decide +kernel
theorem dX12_writesNumber_12 : decode cX12_writesNumber 12 = .ok (.aload_n 0, 1) := by decide +kernel
theorem dX12_writesNumber_13 : decode cX12_writesNumber 13 = .ok (.bipush 48, 2) := by decide +kernel
theorem dX12_writesNumber_15 : decode cX12_writesNumber 15 = .ok (.iload_n 1, 1) := by decide +kernel
theorem dX12_writesNumber_16 : decode cX12_writesNumber 16 = .ok (.bipush 100, 2) := by decide +kernel
theorem dX12_writesNumber_18 : decode cX12_writesNumber 18 = .ok (.idiv, 1) := by decide +kernel
theorem dX12_writesNumber_19 : decode cX12_writesNumber 19 = .ok (.iadd, 1) := by decide +kernel
theorem dX12_writesNumber_20 : decode cX12_writesNumber 20 = .ok (.invokevirtual 267, 3) := by decide +kernel
theorem dX12_writesNumber_23 : decode cX12_writesNumber 23 = .ok (.iload_n 1, 1) := by decide +kernel
theorem dX12_writesNumber_24 : decode cX12_writesNumber 24 = .ok (.bipush 9, 2) := by decide +kernel
theorem dX12_writesNumber_26 : decode cX12_writesNumber 26 = .ok (.if_icmp .le 17, 3) := by decide +kernel
theorem dX12_writesNumber_29 : decode cX12_writesNumber 29 = .ok (.aload_n 0, 1) := by decide +kernel
theorem dX12_writesNumber_30 : decode cX12_writesNumber 30 = .ok (.bipush 48, 2) := by decide +kernel
theorem dX12_writesNumber_32 : decode cX12_writesNumber 32 = .ok (.iload_n 1, 1) := by decide +kernel
theorem dX12_writesNumber_33 : decode cX12_writesNumber 33 = .ok (.bipush 10, 2) := by decide +kernel
theorem dX12_writesNumber_35 : decode cX12_writesNumber 35 = .ok (.idiv, 1) := by decide +kernel
theorem dX12_writesNumber_36 : decode cX12_writesNumber 36 = .ok (.bipush 10, 2) := by decide +kernel
theorem dX12_writesNumber_38 : decode cX12_writesNumber 38 = .ok (.irem, 1) := by decide +kernel
theorem dX12_writesNumber_39 : decode cX12_writesNumber 39 = .ok (.iadd, 1) := by decide +kernel
theorem dX12_writesNumber_40 : decode cX12_writesNumber 40 = .ok (.invokevirtual 267, 3) := by decide +kernel
theorem dX12_writesNumber_43 : decode cX12_writesNumber 43 = .ok (.aload_n 0, 1) := by decide +kernel
theorem dX12_writesNumber_44 : decode cX12_writesNumber 44 = .ok (.bipush 48, 2) := by decide +kernel
theorem dX12_writesNumber_46 : decode cX12_writesNumber 46 = .ok (.iload_n 1, 1) := by decide +kernel
theorem dX12_writesNumber_47 : decode cX12_writesNumber 47 = .ok (.bipush 10, 2) := by decide +kernel
theorem dX12_writesNumber_49 : decode cX12_writesNumber 49 = .ok (.irem, 1) := by decide +kernel
theorem dX12_writesNumber_50 : decode cX12_writesNumber 50 = .ok (.iadd, 1) := by decide +kernel
theorem dX12_writesNumber_51 : decode cX12_writesNumber 51 = .ok (.invokevirtual 267, 3) := by decide +kernel
theorem dX12_writesNumber_54 : decode cX12_writesNumber 54 = .ok (.return_, 1) := by decide +kernel
def f_X12_writesNumber_J23 (l1 : Int32) (w : Wd) : Option Wd :=
  if l1 ≤ 9 then
    bnd (f_X12_writes (48 + (rem32 l1 10)) w) fun w1 =>
    some w1
  else
    bnd (f_X12_writes (48 + (rem32 (l1 / 10) 10)) w) fun w2 =>
    bnd (f_X12_writes (48 + (rem32 l1 10)) w2) fun w3 =>
    some w3
set_option maxHeartbeats 4000000 in
set_option maxRecDepth 100000 in
theorem t_X12_writesNumber_J23 {G : GT} {d : Nat} (hd : 1 ≤ d + 1)  : ∀ (l1 : Int32) (w : Wd) (w' : Wd), f_X12_writesNumber_J23 l1 w = some w' → U (vf G mX12_writesNumber (d + 1)) 23 [some (.ref 44), some (.int l1)] [] w (none, 70, r0, w') := by
  intro l1 w w' h
  unfold f_X12_writesNumber_J23 at h
  refine V.iload_n (pc := 23) dX12_writesNumber_23 rfl ?_
  refine V.bipush (pc := 24) dX12_writesNumber_24 bp_9 ?_
  rcases ite_e h with ⟨c, h⟩ | ⟨c, h⟩
  · refine V.icmp_le_t (t := 43) (pc := 26) dX12_writesNumber_26 (by decide) c ?_
    refine V.aload_n (pc := 43) dX12_writesNumber_43 rfl ?_
    refine V.bipush (pc := 44) dX12_writesNumber_44 bp_48 ?_
    refine V.iload_n (pc := 46) dX12_writesNumber_46 rfl ?_
    refine V.bipush (pc := 47) dX12_writesNumber_47 bp_10 ?_
    refine V.irem (pc := 49) dX12_writesNumber_49 (by decide) ?_
    refine V.iadd (pc := 50) dX12_writesNumber_50 ?_
    obtain ⟨w1, ew1, h⟩ := bnd_e h
    refine U.callV (pc := 51) (As := [.int (48 + (rem32 l1 10))]) (st := []) dX12_writesNumber_51 l_RX12_267 (ok_X12_writes (by omega) (48 + (rem32 l1 10)) ew1) lx_44 ly_44 cn_12 (Nat.le_of_ble_eq_true rfl) rfl rfl (Nat.le_of_ble_eq_true rfl) ?_
    obtain rfl := Option.some.inj h
    exact V.vret (pc := 54) dX12_writesNumber_54 rfl (Nat.le_refl _) (Nat.le_refl _)
  · refine V.icmp_le_f (t := 43) (pc := 26) dX12_writesNumber_26 (by decide) c ?_
    refine V.aload_n (pc := 29) dX12_writesNumber_29 rfl ?_
    refine V.bipush (pc := 30) dX12_writesNumber_30 bp_48 ?_
    refine V.iload_n (pc := 32) dX12_writesNumber_32 rfl ?_
    refine V.bipush (pc := 33) dX12_writesNumber_33 bp_10 ?_
    refine V.idiv (pc := 35) dX12_writesNumber_35 (by decide) ?_
    refine V.bipush (pc := 36) dX12_writesNumber_36 bp_10 ?_
    refine V.irem (pc := 38) dX12_writesNumber_38 (by decide) ?_
    refine V.iadd (pc := 39) dX12_writesNumber_39 ?_
    obtain ⟨w2, ew2, h⟩ := bnd_e h
    refine U.callV (pc := 40) (As := [.int (48 + (rem32 (l1 / 10) 10))]) (st := []) dX12_writesNumber_40 l_RX12_267 (ok_X12_writes (by omega) (48 + (rem32 (l1 / 10) 10)) ew2) lx_44 ly_44 cn_12 (Nat.le_of_ble_eq_true rfl) rfl rfl (Nat.le_of_ble_eq_true rfl) ?_
    refine V.aload_n (pc := 43) dX12_writesNumber_43 rfl ?_
    refine V.bipush (pc := 44) dX12_writesNumber_44 bp_48 ?_
    refine V.iload_n (pc := 46) dX12_writesNumber_46 rfl ?_
    refine V.bipush (pc := 47) dX12_writesNumber_47 bp_10 ?_
    refine V.irem (pc := 49) dX12_writesNumber_49 (by decide) ?_
    refine V.iadd (pc := 50) dX12_writesNumber_50 ?_
    obtain ⟨w3, ew3, h⟩ := bnd_e h
    refine U.callV (pc := 51) (As := [.int (48 + (rem32 l1 10))]) (st := []) dX12_writesNumber_51 l_RX12_267 (ok_X12_writes (by omega) (48 + (rem32 l1 10)) ew3) lx_44 ly_44 cn_12 (Nat.le_of_ble_eq_true rfl) rfl rfl (Nat.le_of_ble_eq_true rfl) ?_
    obtain rfl := Option.some.inj h
    exact V.vret (pc := 54) dX12_writesNumber_54 rfl (Nat.le_refl _) (Nat.le_refl _)
def f_X12_writesNumber (l1 : Int32) (w : Wd) : Option Wd :=
  bnd (f_X12_writes 32 w) fun w1 =>
  if l1 ≤ 99 then
    f_X12_writesNumber_J23  l1 w1
  else
    bnd (f_X12_writes (48 + (l1 / 100)) w1) fun w2 =>
    f_X12_writesNumber_J23  l1 w2
set_option maxHeartbeats 4000000 in
set_option maxRecDepth 100000 in
theorem ok_X12_writesNumber {G : GT} {d : Nat} (hd : 1 ≤ d) {w : Wd} (l1 : Int32) {w' : Wd} (h : f_X12_writesNumber l1 w = some w') : uC G yX12_writesNumber mX12_writesNumber d [.ref 44, .int l1] w none w' := by
  obtain ⟨d, rfl⟩ : ∃ e, d = e + 1 := ⟨d - 1, by omega⟩
  unfold f_X12_writesNumber at h
  refine uC_of (lv := [some (.ref 44), some (.int l1)]) 0 pn_X12 ⟨rfl, rfl⟩ (Nat.le_of_ble_eq_true rfl) rfl ?_
  refine V.aload_n (pc := 0) dX12_writesNumber_0 rfl ?_
  refine V.bipush (pc := 1) dX12_writesNumber_1 bp_32 ?_
  obtain ⟨w1, ew1, h⟩ := bnd_e h
  refine U.callV (pc := 3) (As := [.int 32]) (st := []) dX12_writesNumber_3 l_RX12_267 (ok_X12_writes (by omega) 32 ew1) lx_44 ly_44 cn_12 (Nat.le_of_ble_eq_true rfl) rfl rfl (Nat.le_of_ble_eq_true rfl) ?_
  refine V.iload_n (pc := 6) dX12_writesNumber_6 rfl ?_
  refine V.bipush (pc := 7) dX12_writesNumber_7 bp_99 ?_
  rcases ite_e h with ⟨c, h⟩ | ⟨c, h⟩
  · refine V.icmp_le_t (t := 23) (pc := 9) dX12_writesNumber_9 (by decide) c ?_
    exact t_X12_writesNumber_J23 hd l1 w1 _ h
  · refine V.icmp_le_f (t := 23) (pc := 9) dX12_writesNumber_9 (by decide) c ?_
    refine V.aload_n (pc := 12) dX12_writesNumber_12 rfl ?_
    refine V.bipush (pc := 13) dX12_writesNumber_13 bp_48 ?_
    refine V.iload_n (pc := 15) dX12_writesNumber_15 rfl ?_
    refine V.bipush (pc := 16) dX12_writesNumber_16 bp_100 ?_
    refine V.idiv (pc := 18) dX12_writesNumber_18 (by decide) ?_
    refine V.iadd (pc := 19) dX12_writesNumber_19 ?_
    obtain ⟨w2, ew2, h⟩ := bnd_e h
    refine U.callV (pc := 20) (As := [.int (48 + (l1 / 100))]) (st := []) dX12_writesNumber_20 l_RX12_267 (ok_X12_writes (by omega) (48 + (l1 / 100)) ew2) lx_44 ly_44 cn_12 (Nat.le_of_ble_eq_true rfl) rfl rfl (Nat.le_of_ble_eq_true rfl) ?_
    exact t_X12_writesNumber_J23 hd l1 w2 _ h
theorem dX12_spell_0 : decode cX12_spell 0 = .ok (.iload_n 1, 1) := by decide +kernel
theorem dX12_spell_1 : decode cX12_spell 1 = .ok (.iconst (-1), 1) := by decide +kernel
theorem dX12_spell_2 : decode cX12_spell 2 = .ok (.if_icmp .ge 5, 3) := by decide +kernel
theorem dX12_spell_5 : decode cX12_spell 5 = .ok (.iconst (-1), 1) := by decide +kernel
theorem dX12_spell_6 : decode cX12_spell 6 = .ok (.ireturn, 1) := by decide +kernel
theorem dX12_spell_7 : decode cX12_spell 7 = .ok (.aload_n 0, 1) := by decide +kernel
theorem dX12_spell_8 : decode cX12_spell 8 = .ok (.iconst 0, 1) := by decide +kernel
theorem dX12_spell_9 : decode cX12_spell 9 = .ok (.putfield 261, 3) := by decide +kernel
theorem dX12_spell_12 : decode cX12_spell 12 = .ok (.iconst 0, 1) := by decide +kernel
theorem dX12_spell_13 : decode cX12_spell 13 = .ok (.istore_n 2, 1) := by decide +kernel
theorem dX12_spell_14 : decode cX12_spell 14 = .ok (.iload_n 2, 1) := by decide +kernel
theorem dX12_spell_15 : decode cX12_spell 15 = .ok (.aload_n 0, 1) := by decide +kernel
theorem dX12_spell_16 : decode cX12_spell 16 = .ok (.getfield 106, 3) := by decide +kernel
theorem dX12_spell_19 : decode cX12_spell 19 = .ok (.if_icmp .ge 45, 3) := by decide +kernel
theorem dX12_spell_22 : decode cX12_spell 22 = .ok (.aload_n 0, 1) := by decide +kernel
theorem dX12_spell_23 : decode cX12_spell 23 = .ok (.aload_n 0, 1) := by decide +kernel
theorem dX12_spell_24 : decode cX12_spell 24 = .ok (.getfield 13, 3) := by decide +kernel
theorem dX12_spell_27 : decode cX12_spell 27 = .ok (.iload_n 2, 1) := by decide +kernel
theorem dX12_spell_28 : decode cX12_spell 28 = .ok (.iaload, 1) := by decide +kernel
theorem dX12_spell_29 : decode cX12_spell 29 = .ok (.invokevirtual 270, 3) := by decide +kernel
theorem dX12_spell_32 : decode cX12_spell 32 = .ok (.aload_n 0, 1) := by decide +kernel
theorem dX12_spell_33 : decode cX12_spell 33 = .ok (.getfield 13, 3) := by decide +kernel
theorem dX12_spell_36 : decode cX12_spell 36 = .ok (.iload_n 2, 1) := by decide +kernel
theorem dX12_spell_37 : decode cX12_spell 37 = .ok (.iaload, 1) := by decide +kernel
theorem dX12_spell_38 : decode cX12_spell 38 = .ok (.iconst 2, 1) := by decide +kernel
theorem dX12_spell_39 : decode cX12_spell 39 = .ok (.if_icmp .eq 13, 3) := by decide +kernel
theorem dX12_spell_42 : decode cX12_spell 42 = .ok (.aload_n 0, 1) := by decide +kernel
theorem dX12_spell_43 : decode cX12_spell 43 = .ok (.aload_n 0, 1) := by decide +kernel
theorem dX12_spell_44 : decode cX12_spell 44 = .ok (.getfield 17, 3) := by decide +kernel
theorem dX12_spell_47 : decode cX12_spell 47 = .ok (.iload_n 2, 1) := by decide +kernel
theorem dX12_spell_48 : decode cX12_spell 48 = .ok (.iaload, 1) := by decide +kernel
theorem dX12_spell_49 : decode cX12_spell 49 = .ok (.invokevirtual 273, 3) := by decide +kernel
theorem dX12_spell_52 : decode cX12_spell 52 = .ok (.aload_n 0, 1) := by decide +kernel
theorem dX12_spell_53 : decode cX12_spell 53 = .ok (.bipush 59, 2) := by decide +kernel
theorem dX12_spell_55 : decode cX12_spell 55 = .ok (.invokevirtual 267, 3) := by decide +kernel
theorem dX12_spell_58 : decode cX12_spell 58 = .ok (.iinc 2 1, 3) := by decide +kernel
theorem dX12_spell_61 : decode cX12_spell 61 = .ok (.goto (-47), 3) := by decide +kernel
theorem dX12_spell_64 : decode cX12_spell 64 = .ok (.aload_n 0, 1) := by decide +kernel
theorem dX12_spell_65 : decode cX12_spell 65 = .ok (.getfield 42, 3) := by decide +kernel
theorem dX12_spell_68 : decode cX12_spell 68 = .ok (.iconst 0, 1) := by decide +kernel
theorem dX12_spell_69 : decode cX12_spell 69 = .ok (.iaload, 1) := by decide +kernel
theorem dX12_spell_70 : decode cX12_spell 70 = .ok (.ifCond .eq 48, 3) := by decide +kernel
theorem dX12_spell_73 : decode cX12_spell 73 = .ok (.aload_n 0, 1) := by decide +kernel
theorem dX12_spell_74 : decode cX12_spell 74 = .ok (.iconst 3, 1) := by decide +kernel
theorem dX12_spell_75 : decode cX12_spell 75 = .ok (.invokevirtual 270, 3) := by decide +kernel
theorem dX12_spell_78 : decode cX12_spell 78 = .ok (.iconst 0, 1) := by decide +kernel
theorem dX12_spell_79 : decode cX12_spell 79 = .ok (.istore_n 2, 1) := by decide +kernel
theorem dX12_spell_80 : decode cX12_spell 80 = .ok (.iload_n 2, 1) := by decide +kernel
theorem dX12_spell_81 : decode cX12_spell 81 = .ok (.aload_n 0, 1) := by decide +kernel
theorem dX12_spell_82 : decode cX12_spell 82 = .ok (.getfield 92, 3) := by decide +kernel
theorem dX12_spell_85 : decode cX12_spell 85 = .ok (.if_icmp .ge 27, 3) := by decide +kernel
theorem dX12_spell_88 : decode cX12_spell 88 = .ok (.aload_n 0, 1) := by decide +kernel
theorem dX12_spell_89 : decode cX12_spell 89 = .ok (.getfield 42, 3) := by decide +kernel
theorem dX12_spell_92 : decode cX12_spell 92 = .ok (.iconst 0, 1) := by decide +kernel
theorem dX12_spell_93 : decode cX12_spell 93 = .ok (.iaload, 1) := by decide +kernel
theorem dX12_spell_94 : decode cX12_spell 94 = .ok (.iload_n 2, 1) := by decide +kernel
theorem dX12_spell_95 : decode cX12_spell 95 = .ok (.invokestatic 128, 3) := by decide +kernel
theorem dX12_spell_98 : decode cX12_spell 98 = .ok (.ifCond .eq 8, 3) := by decide +kernel
theorem dX12_spell_101 : decode cX12_spell 101 = .ok (.aload_n 0, 1) := by decide +kernel
theorem dX12_spell_102 : decode cX12_spell 102 = .ok (.iload_n 2, 1) := by decide +kernel
theorem dX12_spell_103 : decode cX12_spell 103 = .ok (.invokevirtual 273, 3) := by decide +kernel
theorem dX12_spell_106 : decode cX12_spell 106 = .ok (.iinc 2 1, 3) := by decide +kernel
theorem dX12_spell_109 : decode cX12_spell 109 = .ok (.goto (-29), 3) := by decide +kernel
theorem dX12_spell_112 : decode cX12_spell 112 = .ok (.aload_n 0, 1) := by decide +kernel
theorem dX12_spell_113 : decode cX12_spell 113 = .ok (.bipush 59, 2) := by decide +kernel
theorem dX12_spell_115 : decode cX12_spell 115 = .ok (.invokevirtual 267, 3) := by decide +kernel
theorem dX12_spell_118 : decode cX12_spell 118 = .ok (.aload_n 0, 1) := by decide +kernel
theorem dX12_spell_119 : decode cX12_spell 119 = .ok (.iload_n 1, 1) := by decide +kernel
theorem dX12_spell_120 : decode cX12_spell 120 = .ok (.invokevirtual 276, 3) := by decide +kernel
theorem dX12_spell_123 : decode cX12_spell 123 = .ok (.ireturn, 1) := by decide +kernel
def f_X12_spell_B80b (k80 : Int32 → Int32 → Wd → Option (Int32 × Wd)) (l1 : Int32) (l2 : Int32) (w : Wd) : Option (Int32 × Wd) :=
  if (w.1 44 1) ≤ l2 then
    bnd (f_X12_writes 59 w) fun w1 =>
    bnd (f_X12_toldText l1 w1) fun x2 =>
    some (x2, w1)
  else
    rdI w 54 20 0 fun x3 =>
    if (f_X12_has x3 l2) = 0 then
      k80 l1 (l2 + 1) w
    else
      bnd (f_X12_writesNumber l2 w) fun w4 =>
      k80 l1 (l2 + 1) w4
def f_X12_spell_L80 (n : Nat) : Int32 → Int32 → Wd → Option (Int32 × Wd) :=
  Nat.rec (fun _ _ _ => none) (fun _ k => f_X12_spell_B80b k) n
set_option maxHeartbeats 4000000 in
set_option maxRecDepth 100000 in
theorem t_X12_spell_L80 {G : GT} {d : Nat} (hd : 2 ≤ d + 1)  : ∀ (n : Nat) (l1 : Int32) (l2 : Int32) (w : Wd) (r : Int32) (w' : Wd), f_X12_spell_L80 n l1 l2 w = some (r, w') → U (vf G mX12_spell (d + 1)) 80 [some (.ref 44), some (.int l1), some (.int l2)] [] w (some (.int r), 70, r0, w') := by
  intro n
  induction n with
  | zero => intro l1 l2 w r w' h; cases h
  | succ n h80 =>
    intro l1 l2 w r w' h
    have h : f_X12_spell_B80b (f_X12_spell_L80 n) l1 l2 w = some (r, w') := h
    unfold f_X12_spell_B80b at h
    refine V.iload_n (pc := 80) dX12_spell_80 rfl ?_
    refine V.aload_n (pc := 81) dX12_spell_81 rfl ?_
    refine V.getI (pc := 82) dX12_spell_82 f_RX12_92 k_cl12 lx_44 ly_44 rb_12_1 ?_
    rcases ite_e h with ⟨c, h⟩ | ⟨c, h⟩
    · refine V.icmp_ge_t (t := 112) (pc := 85) dX12_spell_85 (by decide) c ?_
      refine V.aload_n (pc := 112) dX12_spell_112 rfl ?_
      refine V.bipush (pc := 113) dX12_spell_113 bp_59 ?_
      obtain ⟨w1, ew1, h⟩ := bnd_e h
      refine U.callV (pc := 115) (As := [.int 59]) (st := []) dX12_spell_115 l_RX12_267 (ok_X12_writes (by omega) 59 ew1) lx_44 ly_44 cn_12 (Nat.le_of_ble_eq_true rfl) rfl rfl (Nat.le_of_ble_eq_true rfl) ?_
      refine V.aload_n (pc := 118) dX12_spell_118 rfl ?_
      refine V.iload_n (pc := 119) dX12_spell_119 rfl ?_
      obtain ⟨x2, ex2, h⟩ := bnd_e h
      refine U.callV (pc := 120) (As := [.int l1]) (st := []) dX12_spell_120 l_RX12_276 (ok_X12_toldText (by omega) l1 ex2) lx_44 ly_44 cn_12 (Nat.le_of_ble_eq_true rfl) rfl rfl (Nat.le_of_ble_eq_true rfl) ?_
      obtain ⟨rfl, rfl⟩ := Prod.mk.inj (Option.some.inj h)
      exact V.iret (pc := 123) dX12_spell_123 rfl (Nat.le_refl _) (Nat.le_refl _)
    · refine V.icmp_ge_f (t := 112) (pc := 85) dX12_spell_85 (by decide) c ?_
      refine V.aload_n (pc := 88) dX12_spell_88 rfl ?_
      refine V.getR (t := 54) (pc := 89) dX12_spell_89 f_RX12_42 k_cl12 lx_44 ly_44 rb_12_13 rr_44_13 ?_
      refine V.iconst (pc := 92) dX12_spell_92 ic_0 ?_
      obtain ⟨x3, ix3, ex3, h⟩ := rdI_e h
      refine V.ialdX (pc := 93) dX12_spell_93 lx_54 ly_54 ix3 ex3 ?_
      refine V.iload_n (pc := 94) dX12_spell_94 rfl ?_
      refine U.callS (pc := 95) (As := [.int x3, .int l2]) (st := []) dX12_spell_95 l_RX12_128 (ok_X12_has (by omega) x3 l2 ) (Nat.le_of_ble_eq_true rfl) rfl rfl (Nat.le_of_ble_eq_true rfl) ?_
      rcases ite_e h with ⟨c, h⟩ | ⟨c, h⟩
      · refine V.if_eq_t (t := 106) (pc := 98) dX12_spell_98 (by decide) c ?_
        refine V.iinc (lv' := [some (.ref 44), some (.int l1), some (.int (l2 + 1))]) (pc := 106) dX12_spell_106 (Nat.le_of_ble_eq_true rfl) rfl rfl (v := (l2 + 1)) (by rw [show Int32.ofInt 1 = 1 from by decide]) rfl ?_
        refine V.goto (t := 80) (pc := 109) dX12_spell_109 (by decide) ?_
        exact h80 l1 (l2 + 1) w _ _ h
      · refine V.if_eq_f (t := 106) (pc := 98) dX12_spell_98 (by decide) c ?_
        refine V.aload_n (pc := 101) dX12_spell_101 rfl ?_
        refine V.iload_n (pc := 102) dX12_spell_102 rfl ?_
        obtain ⟨w4, ew4, h⟩ := bnd_e h
        refine U.callV (pc := 103) (As := [.int l2]) (st := []) dX12_spell_103 l_RX12_273 (ok_X12_writesNumber (by omega) l2 ew4) lx_44 ly_44 cn_12 (Nat.le_of_ble_eq_true rfl) rfl rfl (Nat.le_of_ble_eq_true rfl) ?_
        refine V.iinc (lv' := [some (.ref 44), some (.int l1), some (.int (l2 + 1))]) (pc := 106) dX12_spell_106 (Nat.le_of_ble_eq_true rfl) rfl rfl (v := (l2 + 1)) (by rw [show Int32.ofInt 1 = 1 from by decide]) rfl ?_
        refine V.goto (t := 80) (pc := 109) dX12_spell_109 (by decide) ?_
        exact h80 l1 (l2 + 1) w4 _ _ h
def f_X12_spell_B14b (k14 : Int32 → Int32 → Wd → Option (Int32 × Wd)) (l1 : Int32) (l2 : Int32) (w : Wd) : Option (Int32 × Wd) :=
  if (w.1 44 2) ≤ l2 then
    rdI w 54 20 0 fun x1 =>
    if x1 = 0 then
      bnd (f_X12_toldText l1 w) fun x2 =>
      some (x2, w)
    else
      bnd (f_X12_writesWord 3 w) fun w3 =>
      f_X12_spell_L80  FU l1 0 w3
  else
    rdI w 45 4 l2 fun x4 =>
    bnd (f_X12_writesWord x4 w) fun w5 =>
    rdI w5 45 4 l2 fun x6 =>
    if x6 = 2 then
      bnd (f_X12_writes 59 w5) fun w7 =>
      k14 l1 (l2 + 1) w7
    else
      rdI w5 46 4 l2 fun x8 =>
      bnd (f_X12_writesNumber x8 w5) fun w9 =>
      bnd (f_X12_writes 59 w9) fun w10 =>
      k14 l1 (l2 + 1) w10
def f_X12_spell_L14 (n : Nat) : Int32 → Int32 → Wd → Option (Int32 × Wd) :=
  Nat.rec (fun _ _ _ => none) (fun _ k => f_X12_spell_B14b k) n
set_option maxHeartbeats 4000000 in
set_option maxRecDepth 100000 in
theorem t_X12_spell_L14 {G : GT} {d : Nat} (hd : 2 ≤ d + 1)  : ∀ (n : Nat) (l1 : Int32) (l2 : Int32) (w : Wd) (r : Int32) (w' : Wd), f_X12_spell_L14 n l1 l2 w = some (r, w') → U (vf G mX12_spell (d + 1)) 14 [some (.ref 44), some (.int l1), some (.int l2)] [] w (some (.int r), 70, r0, w') := by
  intro n
  induction n with
  | zero => intro l1 l2 w r w' h; cases h
  | succ n h14 =>
    intro l1 l2 w r w' h
    have h : f_X12_spell_B14b (f_X12_spell_L14 n) l1 l2 w = some (r, w') := h
    unfold f_X12_spell_B14b at h
    refine V.iload_n (pc := 14) dX12_spell_14 rfl ?_
    refine V.aload_n (pc := 15) dX12_spell_15 rfl ?_
    refine V.getI (pc := 16) dX12_spell_16 f_RX12_106 k_cl12 lx_44 ly_44 rb_12_2 ?_
    rcases ite_e h with ⟨c, h⟩ | ⟨c, h⟩
    · refine V.icmp_ge_t (t := 64) (pc := 19) dX12_spell_19 (by decide) c ?_
      refine V.aload_n (pc := 64) dX12_spell_64 rfl ?_
      refine V.getR (t := 54) (pc := 65) dX12_spell_65 f_RX12_42 k_cl12 lx_44 ly_44 rb_12_13 rr_44_13 ?_
      refine V.iconst (pc := 68) dX12_spell_68 ic_0 ?_
      obtain ⟨x1, ix1, ex1, h⟩ := rdI_e h
      refine V.ialdX (pc := 69) dX12_spell_69 lx_54 ly_54 ix1 ex1 ?_
      rcases ite_e h with ⟨c, h⟩ | ⟨c, h⟩
      · refine V.if_eq_t (t := 118) (pc := 70) dX12_spell_70 (by decide) c ?_
        refine V.aload_n (pc := 118) dX12_spell_118 rfl ?_
        refine V.iload_n (pc := 119) dX12_spell_119 rfl ?_
        obtain ⟨x2, ex2, h⟩ := bnd_e h
        refine U.callV (pc := 120) (As := [.int l1]) (st := []) dX12_spell_120 l_RX12_276 (ok_X12_toldText (by omega) l1 ex2) lx_44 ly_44 cn_12 (Nat.le_of_ble_eq_true rfl) rfl rfl (Nat.le_of_ble_eq_true rfl) ?_
        obtain ⟨rfl, rfl⟩ := Prod.mk.inj (Option.some.inj h)
        exact V.iret (pc := 123) dX12_spell_123 rfl (Nat.le_refl _) (Nat.le_refl _)
      · refine V.if_eq_f (t := 118) (pc := 70) dX12_spell_70 (by decide) c ?_
        refine V.aload_n (pc := 73) dX12_spell_73 rfl ?_
        refine V.iconst (pc := 74) dX12_spell_74 ic_3 ?_
        obtain ⟨w3, ew3, h⟩ := bnd_e h
        refine U.callV (pc := 75) (As := [.int 3]) (st := []) dX12_spell_75 l_RX12_270 (ok_X12_writesWord (by omega) 3 ew3) lx_44 ly_44 cn_12 (Nat.le_of_ble_eq_true rfl) rfl rfl (Nat.le_of_ble_eq_true rfl) ?_
        refine V.iconst (pc := 78) dX12_spell_78 ic_0 ?_
        refine V.istore_n (lv' := [some (.ref 44), some (.int l1), some (.int 0)]) (pc := 79) dX12_spell_79 (Nat.le_of_ble_eq_true rfl) rfl rfl ?_
        exact t_X12_spell_L80 hd FU l1 0 w3 _ _ h
    · refine V.icmp_ge_f (t := 64) (pc := 19) dX12_spell_19 (by decide) c ?_
      refine V.aload_n (pc := 22) dX12_spell_22 rfl ?_
      refine V.aload_n (pc := 23) dX12_spell_23 rfl ?_
      refine V.getR (t := 45) (pc := 24) dX12_spell_24 f_RX12_13 k_cl12 lx_44 ly_44 rb_12_3 rr_44_3 ?_
      refine V.iload_n (pc := 27) dX12_spell_27 rfl ?_
      obtain ⟨x4, ix4, ex4, h⟩ := rdI_e h
      refine V.ialdX (pc := 28) dX12_spell_28 lx_45 ly_45 ix4 ex4 ?_
      obtain ⟨w5, ew5, h⟩ := bnd_e h
      refine U.callV (pc := 29) (As := [.int x4]) (st := []) dX12_spell_29 l_RX12_270 (ok_X12_writesWord (by omega) x4 ew5) lx_44 ly_44 cn_12 (Nat.le_of_ble_eq_true rfl) rfl rfl (Nat.le_of_ble_eq_true rfl) ?_
      refine V.aload_n (pc := 32) dX12_spell_32 rfl ?_
      refine V.getR (t := 45) (pc := 33) dX12_spell_33 f_RX12_13 k_cl12 lx_44 ly_44 rb_12_3 rr_44_3 ?_
      refine V.iload_n (pc := 36) dX12_spell_36 rfl ?_
      obtain ⟨x6, ix6, ex6, h⟩ := rdI_e h
      refine V.ialdX (pc := 37) dX12_spell_37 lx_45 ly_45 ix6 ex6 ?_
      refine V.iconst (pc := 38) dX12_spell_38 ic_2 ?_
      rcases ite_e h with ⟨c, h⟩ | ⟨c, h⟩
      · refine V.icmp_eq_t (t := 52) (pc := 39) dX12_spell_39 (by decide) c ?_
        refine V.aload_n (pc := 52) dX12_spell_52 rfl ?_
        refine V.bipush (pc := 53) dX12_spell_53 bp_59 ?_
        obtain ⟨w7, ew7, h⟩ := bnd_e h
        refine U.callV (pc := 55) (As := [.int 59]) (st := []) dX12_spell_55 l_RX12_267 (ok_X12_writes (by omega) 59 ew7) lx_44 ly_44 cn_12 (Nat.le_of_ble_eq_true rfl) rfl rfl (Nat.le_of_ble_eq_true rfl) ?_
        refine V.iinc (lv' := [some (.ref 44), some (.int l1), some (.int (l2 + 1))]) (pc := 58) dX12_spell_58 (Nat.le_of_ble_eq_true rfl) rfl rfl (v := (l2 + 1)) (by rw [show Int32.ofInt 1 = 1 from by decide]) rfl ?_
        refine V.goto (t := 14) (pc := 61) dX12_spell_61 (by decide) ?_
        exact h14 l1 (l2 + 1) w7 _ _ h
      · refine V.icmp_eq_f (t := 52) (pc := 39) dX12_spell_39 (by decide) c ?_
        refine V.aload_n (pc := 42) dX12_spell_42 rfl ?_
        refine V.aload_n (pc := 43) dX12_spell_43 rfl ?_
        refine V.getR (t := 46) (pc := 44) dX12_spell_44 f_RX12_17 k_cl12 lx_44 ly_44 rb_12_4 rr_44_4 ?_
        refine V.iload_n (pc := 47) dX12_spell_47 rfl ?_
        obtain ⟨x8, ix8, ex8, h⟩ := rdI_e h
        refine V.ialdX (pc := 48) dX12_spell_48 lx_46 ly_46 ix8 ex8 ?_
        obtain ⟨w9, ew9, h⟩ := bnd_e h
        refine U.callV (pc := 49) (As := [.int x8]) (st := []) dX12_spell_49 l_RX12_273 (ok_X12_writesNumber (by omega) x8 ew9) lx_44 ly_44 cn_12 (Nat.le_of_ble_eq_true rfl) rfl rfl (Nat.le_of_ble_eq_true rfl) ?_
        refine V.aload_n (pc := 52) dX12_spell_52 rfl ?_
        refine V.bipush (pc := 53) dX12_spell_53 bp_59 ?_
        obtain ⟨w10, ew10, h⟩ := bnd_e h
        refine U.callV (pc := 55) (As := [.int 59]) (st := []) dX12_spell_55 l_RX12_267 (ok_X12_writes (by omega) 59 ew10) lx_44 ly_44 cn_12 (Nat.le_of_ble_eq_true rfl) rfl rfl (Nat.le_of_ble_eq_true rfl) ?_
        refine V.iinc (lv' := [some (.ref 44), some (.int l1), some (.int (l2 + 1))]) (pc := 58) dX12_spell_58 (Nat.le_of_ble_eq_true rfl) rfl rfl (v := (l2 + 1)) (by rw [show Int32.ofInt 1 = 1 from by decide]) rfl ?_
        refine V.goto (t := 14) (pc := 61) dX12_spell_61 (by decide) ?_
        exact h14 l1 (l2 + 1) w10 _ _ h
def f_X12_spell (l1 : Int32) (w : Wd) : Option (Int32 × Wd) :=
  if (-1) ≤ l1 then
    letW (sI w 44 28 0) fun w1 =>
    f_X12_spell_L14  FU l1 0 w1
  else
    some ((-1), w)
set_option maxHeartbeats 4000000 in
set_option maxRecDepth 100000 in
theorem ok_X12_spell {G : GT} {d : Nat} (hd : 2 ≤ d) {w : Wd} (l1 : Int32) {r : Int32} {w' : Wd} (h : f_X12_spell l1 w = some (r, w')) : uC G yX12_spell mX12_spell d [.ref 44, .int l1] w (some (.int r)) w' := by
  obtain ⟨d, rfl⟩ : ∃ e, d = e + 1 := ⟨d - 1, by omega⟩
  unfold f_X12_spell at h
  refine uC_of (lv := [some (.ref 44), some (.int l1), none]) 1 pn_X12 ⟨rfl, rfl⟩ (Nat.le_of_ble_eq_true rfl) rfl ?_
  refine V.iload_n (pc := 0) dX12_spell_0 rfl ?_
  refine V.iconst (pc := 1) dX12_spell_1 ic_m1 ?_
  rcases ite_e h with ⟨c, h⟩ | ⟨c, h⟩
  · refine V.icmp_ge_t (t := 7) (pc := 2) dX12_spell_2 (by decide) c ?_
    refine V.aload_n (pc := 7) dX12_spell_7 rfl ?_
    refine V.iconst (pc := 8) dX12_spell_8 ic_0 ?_
    obtain ⟨w1, ew1, h⟩ := letW_e h
    refine V.putIX (pc := 9) dX12_spell_9 f_RX12_261 k_cl12 lx_44 ly_44 rb_12_28 (fin_I (T0 := TX12) rfl rfl rfl) ew1 ?_
    refine V.iconst (pc := 12) dX12_spell_12 ic_0 ?_
    refine V.istore_n (lv' := [some (.ref 44), some (.int l1), some (.int 0)]) (pc := 13) dX12_spell_13 (Nat.le_of_ble_eq_true rfl) rfl rfl ?_
    exact t_X12_spell_L14 hd FU l1 0 w1 _ _ h
  · refine V.icmp_ge_f (t := 7) (pc := 2) dX12_spell_2 (by decide) c ?_
    refine V.iconst (pc := 5) dX12_spell_5 ic_m1 ?_
    obtain ⟨rfl, rfl⟩ := Prod.mk.inj (Option.some.inj h)
    exact V.iret (pc := 6) dX12_spell_6 rfl (Nat.le_refl _) (Nat.le_refl _)
def f_X6_addWord_1004_B2b (k2 : Int32 → Wd → Option Wd) (l2 : Int32) (w : Wd) : Option Wd :=
  if 4 ≤ l2 then
    some w
  else
    chS 4 l2 fun x1 =>
    bnd (f_X6_addSign x1 w) fun w2 =>
    k2 (l2 + 1) w2
def f_X6_addWord_1004_L2 (n : Nat) : Int32 → Wd → Option Wd :=
  Nat.rec (fun _ _ => none) (fun _ k => f_X6_addWord_1004_B2b k) n
set_option maxHeartbeats 4000000 in
set_option maxRecDepth 100000 in
theorem t_X6_addWord_1004_L2 {G : GT} {d : Nat} (hd : 6 ≤ d + 1)  : ∀ (n : Nat) (l2 : Int32) (w : Wd) (w' : Wd), f_X6_addWord_1004_L2 n l2 w = some w' → U (vf G mX6_addWord (d + 1)) 2 [some (.ref 41), some (.ref 1004), some (.int l2)] [] w (none, 70, r0, w') := by
  intro n
  induction n with
  | zero => intro l2 w w' h; cases h
  | succ n h2 =>
    intro l2 w w' h
    have h : f_X6_addWord_1004_B2b (f_X6_addWord_1004_L2 n) l2 w = some w' := h
    unfold f_X6_addWord_1004_B2b at h
    refine V.iload_n (pc := 2) dX6_addWord_2 rfl ?_
    refine V.aload_n (pc := 3) dX6_addWord_3 rfl ?_
    refine V.slen (j := 4) (v := 4) (pc := 4) dX6_addWord_4 l_RX6_19 (by omega) (by decide) rfl (Nat.le_of_ble_eq_true rfl) ?_
    rcases ite_e h with ⟨c, h⟩ | ⟨c, h⟩
    · refine V.icmp_ge_t (t := 25) (pc := 7) dX6_addWord_7 (by decide) c ?_
      obtain rfl := Option.some.inj h
      exact V.vret (pc := 25) dX6_addWord_25 rfl (Nat.le_refl _) (Nat.le_refl _)
    · refine V.icmp_ge_f (t := 25) (pc := 7) dX6_addWord_7 (by decide) c ?_
      refine V.aload_n (pc := 10) dX6_addWord_10 rfl ?_
      refine V.aload_n (pc := 11) dX6_addWord_11 rfl ?_
      refine V.iload_n (pc := 12) dX6_addWord_12 rfl ?_
      obtain ⟨x1, ix1, ex1, h⟩ := chS_e h
      refine V.schar (j := 4) (pc := 13) dX6_addWord_13 l_RX6_24 (by omega) (by decide) ix1 ex1 (Nat.le_of_ble_eq_true rfl) ?_
      obtain ⟨w2, ew2, h⟩ := bnd_e h
      refine U.callV (pc := 16) (As := [.int x1]) (st := []) dX6_addWord_16 l_RX6_28 (ok_X6_addSign (by omega) x1 ew2) lx_41 ly_41 cn_6 (Nat.le_of_ble_eq_true rfl) rfl rfl (Nat.le_of_ble_eq_true rfl) ?_
      refine V.iinc (lv' := [some (.ref 41), some (.ref 1004), some (.int (l2 + 1))]) (pc := 19) dX6_addWord_19 (Nat.le_of_ble_eq_true rfl) rfl rfl (v := (l2 + 1)) (by rw [show Int32.ofInt 1 = 1 from by decide]) rfl ?_
      refine V.goto (t := 2) (pc := 22) dX6_addWord_22 (by decide) ?_
      exact h2 (l2 + 1) w2 _ h
def f_X6_addWord_1004 (w : Wd) : Option Wd :=
  f_X6_addWord_1004_L2  FU 0 w
set_option maxHeartbeats 4000000 in
set_option maxRecDepth 100000 in
theorem ok_X6_addWord_1004 {G : GT} {d : Nat} (hd : 6 ≤ d) {w : Wd}  {w' : Wd} (h : f_X6_addWord_1004  w = some w') : uC G yX6_addWord mX6_addWord d [.ref 41, .ref 1004] w none w' := by
  obtain ⟨d, rfl⟩ : ∃ e, d = e + 1 := ⟨d - 1, by omega⟩
  unfold f_X6_addWord_1004 at h
  refine uC_of (lv := [some (.ref 41), some (.ref 1004), none]) 1 pn_X6 ⟨rfl, rfl⟩ (Nat.le_of_ble_eq_true rfl) rfl ?_
  refine V.iconst (pc := 0) dX6_addWord_0 ic_0 ?_
  refine V.istore_n (lv' := [some (.ref 41), some (.ref 1004), some (.int 0)]) (pc := 1) dX6_addWord_1 (Nat.le_of_ble_eq_true rfl) rfl rfl ?_
  exact t_X6_addWord_1004_L2 hd FU 0 w _ h
def f_X6_addCounted_1004 (l2 : Int32) (w : Wd) : Option Wd :=
  bnd (f_X6_addWord_1004  w) fun w1 =>
  bnd (f_X6_addNumber l2 w1) fun w2 =>
  bnd (f_X6_addEnd  w2) fun w3 =>
  some w3
set_option maxHeartbeats 4000000 in
set_option maxRecDepth 100000 in
theorem ok_X6_addCounted_1004 {G : GT} {d : Nat} (hd : 7 ≤ d) {w : Wd} (l2 : Int32) {w' : Wd} (h : f_X6_addCounted_1004 l2 w = some w') : uC G yX6_addCounted mX6_addCounted d [.ref 41, .ref 1004, .int l2] w none w' := by
  obtain ⟨d, rfl⟩ : ∃ e, d = e + 1 := ⟨d - 1, by omega⟩
  unfold f_X6_addCounted_1004 at h
  refine uC_of (lv := [some (.ref 41), some (.ref 1004), some (.int l2)]) 0 pn_X6 ⟨rfl, rfl⟩ (Nat.le_of_ble_eq_true rfl) rfl ?_
  refine V.aload_n (pc := 0) dX6_addCounted_0 rfl ?_
  refine V.aload_n (pc := 1) dX6_addCounted_1 rfl ?_
  obtain ⟨w1, ew1, h⟩ := bnd_e h
  refine U.callV (pc := 2) (As := [.ref 1004]) (st := []) dX6_addCounted_2 l_RX6_32 (ok_X6_addWord_1004 (by omega)  ew1) lx_41 ly_41 cn_6 (Nat.le_of_ble_eq_true rfl) rfl rfl (Nat.le_of_ble_eq_true rfl) ?_
  refine V.aload_n (pc := 5) dX6_addCounted_5 rfl ?_
  refine V.iload_n (pc := 6) dX6_addCounted_6 rfl ?_
  obtain ⟨w2, ew2, h⟩ := bnd_e h
  refine U.callV (pc := 7) (As := [.int l2]) (st := []) dX6_addCounted_7 l_RX6_36 (ok_X6_addNumber (by omega) l2 ew2) lx_41 ly_41 cn_6 (Nat.le_of_ble_eq_true rfl) rfl rfl (Nat.le_of_ble_eq_true rfl) ?_
  refine V.aload_n (pc := 10) dX6_addCounted_10 rfl ?_
  obtain ⟨w3, ew3, h⟩ := bnd_e h
  refine U.callV (pc := 11) (As := []) (st := []) dX6_addCounted_11 l_RX6_39 (ok_X6_addEnd (by omega)  ew3) lx_41 ly_41 cn_6 (Nat.le_of_ble_eq_true rfl) rfl rfl (Nat.le_of_ble_eq_true rfl) ?_
  obtain rfl := Option.some.inj h
  exact V.vret (pc := 14) dX6_addCounted_14 rfl (Nat.le_refl _) (Nat.le_refl _)
def f_X6_addWord_1009_B2b (k2 : Int32 → Wd → Option Wd) (l2 : Int32) (w : Wd) : Option Wd :=
  if 7 ≤ l2 then
    some w
  else
    chS 9 l2 fun x1 =>
    bnd (f_X6_addSign x1 w) fun w2 =>
    k2 (l2 + 1) w2
def f_X6_addWord_1009_L2 (n : Nat) : Int32 → Wd → Option Wd :=
  Nat.rec (fun _ _ => none) (fun _ k => f_X6_addWord_1009_B2b k) n
set_option maxHeartbeats 4000000 in
set_option maxRecDepth 100000 in
theorem t_X6_addWord_1009_L2 {G : GT} {d : Nat} (hd : 6 ≤ d + 1)  : ∀ (n : Nat) (l2 : Int32) (w : Wd) (w' : Wd), f_X6_addWord_1009_L2 n l2 w = some w' → U (vf G mX6_addWord (d + 1)) 2 [some (.ref 41), some (.ref 1009), some (.int l2)] [] w (none, 70, r0, w') := by
  intro n
  induction n with
  | zero => intro l2 w w' h; cases h
  | succ n h2 =>
    intro l2 w w' h
    have h : f_X6_addWord_1009_B2b (f_X6_addWord_1009_L2 n) l2 w = some w' := h
    unfold f_X6_addWord_1009_B2b at h
    refine V.iload_n (pc := 2) dX6_addWord_2 rfl ?_
    refine V.aload_n (pc := 3) dX6_addWord_3 rfl ?_
    refine V.slen (j := 9) (v := 7) (pc := 4) dX6_addWord_4 l_RX6_19 (by omega) (by decide) rfl (Nat.le_of_ble_eq_true rfl) ?_
    rcases ite_e h with ⟨c, h⟩ | ⟨c, h⟩
    · refine V.icmp_ge_t (t := 25) (pc := 7) dX6_addWord_7 (by decide) c ?_
      obtain rfl := Option.some.inj h
      exact V.vret (pc := 25) dX6_addWord_25 rfl (Nat.le_refl _) (Nat.le_refl _)
    · refine V.icmp_ge_f (t := 25) (pc := 7) dX6_addWord_7 (by decide) c ?_
      refine V.aload_n (pc := 10) dX6_addWord_10 rfl ?_
      refine V.aload_n (pc := 11) dX6_addWord_11 rfl ?_
      refine V.iload_n (pc := 12) dX6_addWord_12 rfl ?_
      obtain ⟨x1, ix1, ex1, h⟩ := chS_e h
      refine V.schar (j := 9) (pc := 13) dX6_addWord_13 l_RX6_24 (by omega) (by decide) ix1 ex1 (Nat.le_of_ble_eq_true rfl) ?_
      obtain ⟨w2, ew2, h⟩ := bnd_e h
      refine U.callV (pc := 16) (As := [.int x1]) (st := []) dX6_addWord_16 l_RX6_28 (ok_X6_addSign (by omega) x1 ew2) lx_41 ly_41 cn_6 (Nat.le_of_ble_eq_true rfl) rfl rfl (Nat.le_of_ble_eq_true rfl) ?_
      refine V.iinc (lv' := [some (.ref 41), some (.ref 1009), some (.int (l2 + 1))]) (pc := 19) dX6_addWord_19 (Nat.le_of_ble_eq_true rfl) rfl rfl (v := (l2 + 1)) (by rw [show Int32.ofInt 1 = 1 from by decide]) rfl ?_
      refine V.goto (t := 2) (pc := 22) dX6_addWord_22 (by decide) ?_
      exact h2 (l2 + 1) w2 _ h
def f_X6_addWord_1009 (w : Wd) : Option Wd :=
  f_X6_addWord_1009_L2  FU 0 w
set_option maxHeartbeats 4000000 in
set_option maxRecDepth 100000 in
theorem ok_X6_addWord_1009 {G : GT} {d : Nat} (hd : 6 ≤ d) {w : Wd}  {w' : Wd} (h : f_X6_addWord_1009  w = some w') : uC G yX6_addWord mX6_addWord d [.ref 41, .ref 1009] w none w' := by
  obtain ⟨d, rfl⟩ : ∃ e, d = e + 1 := ⟨d - 1, by omega⟩
  unfold f_X6_addWord_1009 at h
  refine uC_of (lv := [some (.ref 41), some (.ref 1009), none]) 1 pn_X6 ⟨rfl, rfl⟩ (Nat.le_of_ble_eq_true rfl) rfl ?_
  refine V.iconst (pc := 0) dX6_addWord_0 ic_0 ?_
  refine V.istore_n (lv' := [some (.ref 41), some (.ref 1009), some (.int 0)]) (pc := 1) dX6_addWord_1 (Nat.le_of_ble_eq_true rfl) rfl rfl ?_
  exact t_X6_addWord_1009_L2 hd FU 0 w _ h
def f_X6_addCounted_1009 (l2 : Int32) (w : Wd) : Option Wd :=
  bnd (f_X6_addWord_1009  w) fun w1 =>
  bnd (f_X6_addNumber l2 w1) fun w2 =>
  bnd (f_X6_addEnd  w2) fun w3 =>
  some w3
set_option maxHeartbeats 4000000 in
set_option maxRecDepth 100000 in
theorem ok_X6_addCounted_1009 {G : GT} {d : Nat} (hd : 7 ≤ d) {w : Wd} (l2 : Int32) {w' : Wd} (h : f_X6_addCounted_1009 l2 w = some w') : uC G yX6_addCounted mX6_addCounted d [.ref 41, .ref 1009, .int l2] w none w' := by
  obtain ⟨d, rfl⟩ : ∃ e, d = e + 1 := ⟨d - 1, by omega⟩
  unfold f_X6_addCounted_1009 at h
  refine uC_of (lv := [some (.ref 41), some (.ref 1009), some (.int l2)]) 0 pn_X6 ⟨rfl, rfl⟩ (Nat.le_of_ble_eq_true rfl) rfl ?_
  refine V.aload_n (pc := 0) dX6_addCounted_0 rfl ?_
  refine V.aload_n (pc := 1) dX6_addCounted_1 rfl ?_
  obtain ⟨w1, ew1, h⟩ := bnd_e h
  refine U.callV (pc := 2) (As := [.ref 1009]) (st := []) dX6_addCounted_2 l_RX6_32 (ok_X6_addWord_1009 (by omega)  ew1) lx_41 ly_41 cn_6 (Nat.le_of_ble_eq_true rfl) rfl rfl (Nat.le_of_ble_eq_true rfl) ?_
  refine V.aload_n (pc := 5) dX6_addCounted_5 rfl ?_
  refine V.iload_n (pc := 6) dX6_addCounted_6 rfl ?_
  obtain ⟨w2, ew2, h⟩ := bnd_e h
  refine U.callV (pc := 7) (As := [.int l2]) (st := []) dX6_addCounted_7 l_RX6_36 (ok_X6_addNumber (by omega) l2 ew2) lx_41 ly_41 cn_6 (Nat.le_of_ble_eq_true rfl) rfl rfl (Nat.le_of_ble_eq_true rfl) ?_
  refine V.aload_n (pc := 10) dX6_addCounted_10 rfl ?_
  obtain ⟨w3, ew3, h⟩ := bnd_e h
  refine U.callV (pc := 11) (As := []) (st := []) dX6_addCounted_11 l_RX6_39 (ok_X6_addEnd (by omega)  ew3) lx_41 ly_41 cn_6 (Nat.le_of_ble_eq_true rfl) rfl rfl (Nat.le_of_ble_eq_true rfl) ?_
  obtain rfl := Option.some.inj h
  exact V.vret (pc := 14) dX6_addCounted_14 rfl (Nat.le_refl _) (Nat.le_refl _)
def f_X6_addWord_1005_B2b (k2 : Int32 → Wd → Option Wd) (l2 : Int32) (w : Wd) : Option Wd :=
  if 4 ≤ l2 then
    some w
  else
    chS 5 l2 fun x1 =>
    bnd (f_X6_addSign x1 w) fun w2 =>
    k2 (l2 + 1) w2
def f_X6_addWord_1005_L2 (n : Nat) : Int32 → Wd → Option Wd :=
  Nat.rec (fun _ _ => none) (fun _ k => f_X6_addWord_1005_B2b k) n
set_option maxHeartbeats 4000000 in
set_option maxRecDepth 100000 in
theorem t_X6_addWord_1005_L2 {G : GT} {d : Nat} (hd : 6 ≤ d + 1)  : ∀ (n : Nat) (l2 : Int32) (w : Wd) (w' : Wd), f_X6_addWord_1005_L2 n l2 w = some w' → U (vf G mX6_addWord (d + 1)) 2 [some (.ref 41), some (.ref 1005), some (.int l2)] [] w (none, 70, r0, w') := by
  intro n
  induction n with
  | zero => intro l2 w w' h; cases h
  | succ n h2 =>
    intro l2 w w' h
    have h : f_X6_addWord_1005_B2b (f_X6_addWord_1005_L2 n) l2 w = some w' := h
    unfold f_X6_addWord_1005_B2b at h
    refine V.iload_n (pc := 2) dX6_addWord_2 rfl ?_
    refine V.aload_n (pc := 3) dX6_addWord_3 rfl ?_
    refine V.slen (j := 5) (v := 4) (pc := 4) dX6_addWord_4 l_RX6_19 (by omega) (by decide) rfl (Nat.le_of_ble_eq_true rfl) ?_
    rcases ite_e h with ⟨c, h⟩ | ⟨c, h⟩
    · refine V.icmp_ge_t (t := 25) (pc := 7) dX6_addWord_7 (by decide) c ?_
      obtain rfl := Option.some.inj h
      exact V.vret (pc := 25) dX6_addWord_25 rfl (Nat.le_refl _) (Nat.le_refl _)
    · refine V.icmp_ge_f (t := 25) (pc := 7) dX6_addWord_7 (by decide) c ?_
      refine V.aload_n (pc := 10) dX6_addWord_10 rfl ?_
      refine V.aload_n (pc := 11) dX6_addWord_11 rfl ?_
      refine V.iload_n (pc := 12) dX6_addWord_12 rfl ?_
      obtain ⟨x1, ix1, ex1, h⟩ := chS_e h
      refine V.schar (j := 5) (pc := 13) dX6_addWord_13 l_RX6_24 (by omega) (by decide) ix1 ex1 (Nat.le_of_ble_eq_true rfl) ?_
      obtain ⟨w2, ew2, h⟩ := bnd_e h
      refine U.callV (pc := 16) (As := [.int x1]) (st := []) dX6_addWord_16 l_RX6_28 (ok_X6_addSign (by omega) x1 ew2) lx_41 ly_41 cn_6 (Nat.le_of_ble_eq_true rfl) rfl rfl (Nat.le_of_ble_eq_true rfl) ?_
      refine V.iinc (lv' := [some (.ref 41), some (.ref 1005), some (.int (l2 + 1))]) (pc := 19) dX6_addWord_19 (Nat.le_of_ble_eq_true rfl) rfl rfl (v := (l2 + 1)) (by rw [show Int32.ofInt 1 = 1 from by decide]) rfl ?_
      refine V.goto (t := 2) (pc := 22) dX6_addWord_22 (by decide) ?_
      exact h2 (l2 + 1) w2 _ h
def f_X6_addWord_1005 (w : Wd) : Option Wd :=
  f_X6_addWord_1005_L2  FU 0 w
set_option maxHeartbeats 4000000 in
set_option maxRecDepth 100000 in
theorem ok_X6_addWord_1005 {G : GT} {d : Nat} (hd : 6 ≤ d) {w : Wd}  {w' : Wd} (h : f_X6_addWord_1005  w = some w') : uC G yX6_addWord mX6_addWord d [.ref 41, .ref 1005] w none w' := by
  obtain ⟨d, rfl⟩ : ∃ e, d = e + 1 := ⟨d - 1, by omega⟩
  unfold f_X6_addWord_1005 at h
  refine uC_of (lv := [some (.ref 41), some (.ref 1005), none]) 1 pn_X6 ⟨rfl, rfl⟩ (Nat.le_of_ble_eq_true rfl) rfl ?_
  refine V.iconst (pc := 0) dX6_addWord_0 ic_0 ?_
  refine V.istore_n (lv' := [some (.ref 41), some (.ref 1005), some (.int 0)]) (pc := 1) dX6_addWord_1 (Nat.le_of_ble_eq_true rfl) rfl rfl ?_
  exact t_X6_addWord_1005_L2 hd FU 0 w _ h
def f_X6_addWord_1007_B2b (k2 : Int32 → Wd → Option Wd) (l2 : Int32) (w : Wd) : Option Wd :=
  if 4 ≤ l2 then
    some w
  else
    chS 7 l2 fun x1 =>
    bnd (f_X6_addSign x1 w) fun w2 =>
    k2 (l2 + 1) w2
def f_X6_addWord_1007_L2 (n : Nat) : Int32 → Wd → Option Wd :=
  Nat.rec (fun _ _ => none) (fun _ k => f_X6_addWord_1007_B2b k) n
set_option maxHeartbeats 4000000 in
set_option maxRecDepth 100000 in
theorem t_X6_addWord_1007_L2 {G : GT} {d : Nat} (hd : 6 ≤ d + 1)  : ∀ (n : Nat) (l2 : Int32) (w : Wd) (w' : Wd), f_X6_addWord_1007_L2 n l2 w = some w' → U (vf G mX6_addWord (d + 1)) 2 [some (.ref 41), some (.ref 1007), some (.int l2)] [] w (none, 70, r0, w') := by
  intro n
  induction n with
  | zero => intro l2 w w' h; cases h
  | succ n h2 =>
    intro l2 w w' h
    have h : f_X6_addWord_1007_B2b (f_X6_addWord_1007_L2 n) l2 w = some w' := h
    unfold f_X6_addWord_1007_B2b at h
    refine V.iload_n (pc := 2) dX6_addWord_2 rfl ?_
    refine V.aload_n (pc := 3) dX6_addWord_3 rfl ?_
    refine V.slen (j := 7) (v := 4) (pc := 4) dX6_addWord_4 l_RX6_19 (by omega) (by decide) rfl (Nat.le_of_ble_eq_true rfl) ?_
    rcases ite_e h with ⟨c, h⟩ | ⟨c, h⟩
    · refine V.icmp_ge_t (t := 25) (pc := 7) dX6_addWord_7 (by decide) c ?_
      obtain rfl := Option.some.inj h
      exact V.vret (pc := 25) dX6_addWord_25 rfl (Nat.le_refl _) (Nat.le_refl _)
    · refine V.icmp_ge_f (t := 25) (pc := 7) dX6_addWord_7 (by decide) c ?_
      refine V.aload_n (pc := 10) dX6_addWord_10 rfl ?_
      refine V.aload_n (pc := 11) dX6_addWord_11 rfl ?_
      refine V.iload_n (pc := 12) dX6_addWord_12 rfl ?_
      obtain ⟨x1, ix1, ex1, h⟩ := chS_e h
      refine V.schar (j := 7) (pc := 13) dX6_addWord_13 l_RX6_24 (by omega) (by decide) ix1 ex1 (Nat.le_of_ble_eq_true rfl) ?_
      obtain ⟨w2, ew2, h⟩ := bnd_e h
      refine U.callV (pc := 16) (As := [.int x1]) (st := []) dX6_addWord_16 l_RX6_28 (ok_X6_addSign (by omega) x1 ew2) lx_41 ly_41 cn_6 (Nat.le_of_ble_eq_true rfl) rfl rfl (Nat.le_of_ble_eq_true rfl) ?_
      refine V.iinc (lv' := [some (.ref 41), some (.ref 1007), some (.int (l2 + 1))]) (pc := 19) dX6_addWord_19 (Nat.le_of_ble_eq_true rfl) rfl rfl (v := (l2 + 1)) (by rw [show Int32.ofInt 1 = 1 from by decide]) rfl ?_
      refine V.goto (t := 2) (pc := 22) dX6_addWord_22 (by decide) ?_
      exact h2 (l2 + 1) w2 _ h
def f_X6_addWord_1007 (w : Wd) : Option Wd :=
  f_X6_addWord_1007_L2  FU 0 w
set_option maxHeartbeats 4000000 in
set_option maxRecDepth 100000 in
theorem ok_X6_addWord_1007 {G : GT} {d : Nat} (hd : 6 ≤ d) {w : Wd}  {w' : Wd} (h : f_X6_addWord_1007  w = some w') : uC G yX6_addWord mX6_addWord d [.ref 41, .ref 1007] w none w' := by
  obtain ⟨d, rfl⟩ : ∃ e, d = e + 1 := ⟨d - 1, by omega⟩
  unfold f_X6_addWord_1007 at h
  refine uC_of (lv := [some (.ref 41), some (.ref 1007), none]) 1 pn_X6 ⟨rfl, rfl⟩ (Nat.le_of_ble_eq_true rfl) rfl ?_
  refine V.iconst (pc := 0) dX6_addWord_0 ic_0 ?_
  refine V.istore_n (lv' := [some (.ref 41), some (.ref 1007), some (.int 0)]) (pc := 1) dX6_addWord_1 (Nat.le_of_ble_eq_true rfl) rfl rfl ?_
  exact t_X6_addWord_1007_L2 hd FU 0 w _ h
def f_X6_addWord_1008_B2b (k2 : Int32 → Wd → Option Wd) (l2 : Int32) (w : Wd) : Option Wd :=
  if 8 ≤ l2 then
    some w
  else
    chS 8 l2 fun x1 =>
    bnd (f_X6_addSign x1 w) fun w2 =>
    k2 (l2 + 1) w2
def f_X6_addWord_1008_L2 (n : Nat) : Int32 → Wd → Option Wd :=
  Nat.rec (fun _ _ => none) (fun _ k => f_X6_addWord_1008_B2b k) n
set_option maxHeartbeats 4000000 in
set_option maxRecDepth 100000 in
theorem t_X6_addWord_1008_L2 {G : GT} {d : Nat} (hd : 6 ≤ d + 1)  : ∀ (n : Nat) (l2 : Int32) (w : Wd) (w' : Wd), f_X6_addWord_1008_L2 n l2 w = some w' → U (vf G mX6_addWord (d + 1)) 2 [some (.ref 41), some (.ref 1008), some (.int l2)] [] w (none, 70, r0, w') := by
  intro n
  induction n with
  | zero => intro l2 w w' h; cases h
  | succ n h2 =>
    intro l2 w w' h
    have h : f_X6_addWord_1008_B2b (f_X6_addWord_1008_L2 n) l2 w = some w' := h
    unfold f_X6_addWord_1008_B2b at h
    refine V.iload_n (pc := 2) dX6_addWord_2 rfl ?_
    refine V.aload_n (pc := 3) dX6_addWord_3 rfl ?_
    refine V.slen (j := 8) (v := 8) (pc := 4) dX6_addWord_4 l_RX6_19 (by omega) (by decide) rfl (Nat.le_of_ble_eq_true rfl) ?_
    rcases ite_e h with ⟨c, h⟩ | ⟨c, h⟩
    · refine V.icmp_ge_t (t := 25) (pc := 7) dX6_addWord_7 (by decide) c ?_
      obtain rfl := Option.some.inj h
      exact V.vret (pc := 25) dX6_addWord_25 rfl (Nat.le_refl _) (Nat.le_refl _)
    · refine V.icmp_ge_f (t := 25) (pc := 7) dX6_addWord_7 (by decide) c ?_
      refine V.aload_n (pc := 10) dX6_addWord_10 rfl ?_
      refine V.aload_n (pc := 11) dX6_addWord_11 rfl ?_
      refine V.iload_n (pc := 12) dX6_addWord_12 rfl ?_
      obtain ⟨x1, ix1, ex1, h⟩ := chS_e h
      refine V.schar (j := 8) (pc := 13) dX6_addWord_13 l_RX6_24 (by omega) (by decide) ix1 ex1 (Nat.le_of_ble_eq_true rfl) ?_
      obtain ⟨w2, ew2, h⟩ := bnd_e h
      refine U.callV (pc := 16) (As := [.int x1]) (st := []) dX6_addWord_16 l_RX6_28 (ok_X6_addSign (by omega) x1 ew2) lx_41 ly_41 cn_6 (Nat.le_of_ble_eq_true rfl) rfl rfl (Nat.le_of_ble_eq_true rfl) ?_
      refine V.iinc (lv' := [some (.ref 41), some (.ref 1008), some (.int (l2 + 1))]) (pc := 19) dX6_addWord_19 (Nat.le_of_ble_eq_true rfl) rfl rfl (v := (l2 + 1)) (by rw [show Int32.ofInt 1 = 1 from by decide]) rfl ?_
      refine V.goto (t := 2) (pc := 22) dX6_addWord_22 (by decide) ?_
      exact h2 (l2 + 1) w2 _ h
def f_X6_addWord_1008 (w : Wd) : Option Wd :=
  f_X6_addWord_1008_L2  FU 0 w
set_option maxHeartbeats 4000000 in
set_option maxRecDepth 100000 in
theorem ok_X6_addWord_1008 {G : GT} {d : Nat} (hd : 6 ≤ d) {w : Wd}  {w' : Wd} (h : f_X6_addWord_1008  w = some w') : uC G yX6_addWord mX6_addWord d [.ref 41, .ref 1008] w none w' := by
  obtain ⟨d, rfl⟩ : ∃ e, d = e + 1 := ⟨d - 1, by omega⟩
  unfold f_X6_addWord_1008 at h
  refine uC_of (lv := [some (.ref 41), some (.ref 1008), none]) 1 pn_X6 ⟨rfl, rfl⟩ (Nat.le_of_ble_eq_true rfl) rfl ?_
  refine V.iconst (pc := 0) dX6_addWord_0 ic_0 ?_
  refine V.istore_n (lv' := [some (.ref 41), some (.ref 1008), some (.int 0)]) (pc := 1) dX6_addWord_1 (Nat.le_of_ble_eq_true rfl) rfl rfl ?_
  exact t_X6_addWord_1008_L2 hd FU 0 w _ h
def f_X6_addWord_1006_B2b (k2 : Int32 → Wd → Option Wd) (l2 : Int32) (w : Wd) : Option Wd :=
  if 4 ≤ l2 then
    some w
  else
    chS 6 l2 fun x1 =>
    bnd (f_X6_addSign x1 w) fun w2 =>
    k2 (l2 + 1) w2
def f_X6_addWord_1006_L2 (n : Nat) : Int32 → Wd → Option Wd :=
  Nat.rec (fun _ _ => none) (fun _ k => f_X6_addWord_1006_B2b k) n
set_option maxHeartbeats 4000000 in
set_option maxRecDepth 100000 in
theorem t_X6_addWord_1006_L2 {G : GT} {d : Nat} (hd : 6 ≤ d + 1)  : ∀ (n : Nat) (l2 : Int32) (w : Wd) (w' : Wd), f_X6_addWord_1006_L2 n l2 w = some w' → U (vf G mX6_addWord (d + 1)) 2 [some (.ref 41), some (.ref 1006), some (.int l2)] [] w (none, 70, r0, w') := by
  intro n
  induction n with
  | zero => intro l2 w w' h; cases h
  | succ n h2 =>
    intro l2 w w' h
    have h : f_X6_addWord_1006_B2b (f_X6_addWord_1006_L2 n) l2 w = some w' := h
    unfold f_X6_addWord_1006_B2b at h
    refine V.iload_n (pc := 2) dX6_addWord_2 rfl ?_
    refine V.aload_n (pc := 3) dX6_addWord_3 rfl ?_
    refine V.slen (j := 6) (v := 4) (pc := 4) dX6_addWord_4 l_RX6_19 (by omega) (by decide) rfl (Nat.le_of_ble_eq_true rfl) ?_
    rcases ite_e h with ⟨c, h⟩ | ⟨c, h⟩
    · refine V.icmp_ge_t (t := 25) (pc := 7) dX6_addWord_7 (by decide) c ?_
      obtain rfl := Option.some.inj h
      exact V.vret (pc := 25) dX6_addWord_25 rfl (Nat.le_refl _) (Nat.le_refl _)
    · refine V.icmp_ge_f (t := 25) (pc := 7) dX6_addWord_7 (by decide) c ?_
      refine V.aload_n (pc := 10) dX6_addWord_10 rfl ?_
      refine V.aload_n (pc := 11) dX6_addWord_11 rfl ?_
      refine V.iload_n (pc := 12) dX6_addWord_12 rfl ?_
      obtain ⟨x1, ix1, ex1, h⟩ := chS_e h
      refine V.schar (j := 6) (pc := 13) dX6_addWord_13 l_RX6_24 (by omega) (by decide) ix1 ex1 (Nat.le_of_ble_eq_true rfl) ?_
      obtain ⟨w2, ew2, h⟩ := bnd_e h
      refine U.callV (pc := 16) (As := [.int x1]) (st := []) dX6_addWord_16 l_RX6_28 (ok_X6_addSign (by omega) x1 ew2) lx_41 ly_41 cn_6 (Nat.le_of_ble_eq_true rfl) rfl rfl (Nat.le_of_ble_eq_true rfl) ?_
      refine V.iinc (lv' := [some (.ref 41), some (.ref 1006), some (.int (l2 + 1))]) (pc := 19) dX6_addWord_19 (Nat.le_of_ble_eq_true rfl) rfl rfl (v := (l2 + 1)) (by rw [show Int32.ofInt 1 = 1 from by decide]) rfl ?_
      refine V.goto (t := 2) (pc := 22) dX6_addWord_22 (by decide) ?_
      exact h2 (l2 + 1) w2 _ h
def f_X6_addWord_1006 (w : Wd) : Option Wd :=
  f_X6_addWord_1006_L2  FU 0 w
set_option maxHeartbeats 4000000 in
set_option maxRecDepth 100000 in
theorem ok_X6_addWord_1006 {G : GT} {d : Nat} (hd : 6 ≤ d) {w : Wd}  {w' : Wd} (h : f_X6_addWord_1006  w = some w') : uC G yX6_addWord mX6_addWord d [.ref 41, .ref 1006] w none w' := by
  obtain ⟨d, rfl⟩ : ∃ e, d = e + 1 := ⟨d - 1, by omega⟩
  unfold f_X6_addWord_1006 at h
  refine uC_of (lv := [some (.ref 41), some (.ref 1006), none]) 1 pn_X6 ⟨rfl, rfl⟩ (Nat.le_of_ble_eq_true rfl) rfl ?_
  refine V.iconst (pc := 0) dX6_addWord_0 ic_0 ?_
  refine V.istore_n (lv' := [some (.ref 41), some (.ref 1006), some (.int 0)]) (pc := 1) dX6_addWord_1 (Nat.le_of_ble_eq_true rfl) rfl rfl ?_
  exact t_X6_addWord_1006_L2 hd FU 0 w _ h
def f_X6_addCounted_1006 (l2 : Int32) (w : Wd) : Option Wd :=
  bnd (f_X6_addWord_1006  w) fun w1 =>
  bnd (f_X6_addNumber l2 w1) fun w2 =>
  bnd (f_X6_addEnd  w2) fun w3 =>
  some w3
set_option maxHeartbeats 4000000 in
set_option maxRecDepth 100000 in
theorem ok_X6_addCounted_1006 {G : GT} {d : Nat} (hd : 7 ≤ d) {w : Wd} (l2 : Int32) {w' : Wd} (h : f_X6_addCounted_1006 l2 w = some w') : uC G yX6_addCounted mX6_addCounted d [.ref 41, .ref 1006, .int l2] w none w' := by
  obtain ⟨d, rfl⟩ : ∃ e, d = e + 1 := ⟨d - 1, by omega⟩
  unfold f_X6_addCounted_1006 at h
  refine uC_of (lv := [some (.ref 41), some (.ref 1006), some (.int l2)]) 0 pn_X6 ⟨rfl, rfl⟩ (Nat.le_of_ble_eq_true rfl) rfl ?_
  refine V.aload_n (pc := 0) dX6_addCounted_0 rfl ?_
  refine V.aload_n (pc := 1) dX6_addCounted_1 rfl ?_
  obtain ⟨w1, ew1, h⟩ := bnd_e h
  refine U.callV (pc := 2) (As := [.ref 1006]) (st := []) dX6_addCounted_2 l_RX6_32 (ok_X6_addWord_1006 (by omega)  ew1) lx_41 ly_41 cn_6 (Nat.le_of_ble_eq_true rfl) rfl rfl (Nat.le_of_ble_eq_true rfl) ?_
  refine V.aload_n (pc := 5) dX6_addCounted_5 rfl ?_
  refine V.iload_n (pc := 6) dX6_addCounted_6 rfl ?_
  obtain ⟨w2, ew2, h⟩ := bnd_e h
  refine U.callV (pc := 7) (As := [.int l2]) (st := []) dX6_addCounted_7 l_RX6_36 (ok_X6_addNumber (by omega) l2 ew2) lx_41 ly_41 cn_6 (Nat.le_of_ble_eq_true rfl) rfl rfl (Nat.le_of_ble_eq_true rfl) ?_
  refine V.aload_n (pc := 10) dX6_addCounted_10 rfl ?_
  obtain ⟨w3, ew3, h⟩ := bnd_e h
  refine U.callV (pc := 11) (As := []) (st := []) dX6_addCounted_11 l_RX6_39 (ok_X6_addEnd (by omega)  ew3) lx_41 ly_41 cn_6 (Nat.le_of_ble_eq_true rfl) rfl rfl (Nat.le_of_ble_eq_true rfl) ?_
  obtain rfl := Option.some.inj h
  exact V.vret (pc := 14) dX6_addCounted_14 rfl (Nat.le_refl _) (Nat.le_refl _)
theorem dX11_reportFree_0 : decode cX11_reportFree 0 = .ok (.aload_n 0, 1) := by decide +kernel
theorem dX11_reportFree_1 : decode cX11_reportFree 1 = .ok (.getfield 28, 3) := by decide +kernel
theorem dX11_reportFree_4 : decode cX11_reportFree 4 = .ok (.iload_n 1, 1) := by decide +kernel
theorem dX11_reportFree_5 : decode cX11_reportFree 5 = .ok (.invokevirtual 195, 3) := by decide +kernel
theorem dX11_reportFree_8 : decode cX11_reportFree 8 = .ok (.istore_n 2, 1) := by decide +kernel
theorem dX11_reportFree_9 : decode cX11_reportFree 9 = .ok (.aload_n 0, 1) := by decide +kernel
theorem dX11_reportFree_10 : decode cX11_reportFree 10 = .ok (.getfield 81, 3) := by decide +kernel
theorem dX11_reportFree_13 : decode cX11_reportFree 13 = .ok (.ldc_w 350, 3) := by decide +kernel
theorem dX11_reportFree_16 : decode cX11_reportFree 16 = .ok (.invokevirtual 288, 3) := by decide +kernel
theorem dX11_reportFree_19 : decode cX11_reportFree 19 = .ok (.aload_n 0, 1) := by decide +kernel
theorem dX11_reportFree_20 : decode cX11_reportFree 20 = .ok (.getfield 81, 3) := by decide +kernel
theorem dX11_reportFree_23 : decode cX11_reportFree 23 = .ok (.invokevirtual 295, 3) := by decide +kernel
theorem dX11_reportFree_26 : decode cX11_reportFree 26 = .ok (.iload_n 2, 1) := by decide +kernel
theorem dX11_reportFree_27 : decode cX11_reportFree 27 = .ok (.ifCond .ne 27, 3) := by decide +kernel
theorem dX11_reportFree_30 : decode cX11_reportFree 30 = .ok (.aload_n 0, 1) := by decide +kernel
theorem dX11_reportFree_31 : decode cX11_reportFree 31 = .ok (.getfield 81, 3) := by decide +kernel
theorem dX11_reportFree_34 : decode cX11_reportFree 34 = .ok (.ldc_w 352, 3) := by decide +kernel
theorem dX11_reportFree_37 : decode cX11_reportFree 37 = .ok (.aload_n 0, 1) := by decide +kernel
theorem dX11_reportFree_38 : decode cX11_reportFree 38 = .ok (.getfield 28, 3) := by decide +kernel
theorem dX11_reportFree_41 : decode cX11_reportFree 41 = .ok (.iload_n 1, 1) := by decide +kernel
theorem dX11_reportFree_42 : decode cX11_reportFree 42 = .ok (.invokevirtual 205, 3) := by decide +kernel
theorem dX11_reportFree_45 : decode cX11_reportFree 45 = .ok (.invokestatic 127, 3) := by decide +kernel
theorem dX11_reportFree_48 : decode cX11_reportFree 48 = .ok (.invokevirtual 302, 3) := by decide +kernel
theorem dX11_reportFree_51 : decode cX11_reportFree 51 = .ok (.goto 20, 3) := by decide +kernel
theorem dX11_reportFree_54 : decode cX11_reportFree 54 = .ok (.aload_n 0, 1) := by decide +kernel
theorem dX11_reportFree_55 : decode cX11_reportFree 55 = .ok (.getfield 81, 3) := by decide +kernel
theorem dX11_reportFree_58 : decode cX11_reportFree 58 = .ok (.ldc_w 354, 3) := by decide +kernel
theorem dX11_reportFree_61 : decode cX11_reportFree 61 = .ok (.invokevirtual 288, 3) := by decide +kernel
theorem dX11_reportFree_64 : decode cX11_reportFree 64 = .ok (.aload_n 0, 1) := by decide +kernel
theorem dX11_reportFree_65 : decode cX11_reportFree 65 = .ok (.getfield 81, 3) := by decide +kernel
theorem dX11_reportFree_68 : decode cX11_reportFree 68 = .ok (.invokevirtual 295, 3) := by decide +kernel
theorem dX11_reportFree_71 : decode cX11_reportFree 71 = .ok (.iload_n 2, 1) := by decide +kernel
theorem dX11_reportFree_72 : decode cX11_reportFree 72 = .ok (.iconst 2, 1) := by decide +kernel
theorem dX11_reportFree_73 : decode cX11_reportFree 73 = .ok (.if_icmp .ne 20, 3) := by decide +kernel
theorem dX11_reportFree_76 : decode cX11_reportFree 76 = .ok (.aload_n 0, 1) := by decide +kernel
theorem dX11_reportFree_77 : decode cX11_reportFree 77 = .ok (.getfield 81, 3) := by decide +kernel
theorem dX11_reportFree_80 : decode cX11_reportFree 80 = .ok (.ldc_w 356, 3) := by decide +kernel
theorem dX11_reportFree_83 : decode cX11_reportFree 83 = .ok (.invokevirtual 288, 3) := by decide +kernel
theorem dX11_reportFree_86 : decode cX11_reportFree 86 = .ok (.aload_n 0, 1) := by decide +kernel
theorem dX11_reportFree_87 : decode cX11_reportFree 87 = .ok (.getfield 81, 3) := by decide +kernel
theorem dX11_reportFree_90 : decode cX11_reportFree 90 = .ok (.invokevirtual 295, 3) := by decide +kernel
theorem dX11_reportFree_93 : decode cX11_reportFree 93 = .ok (.return_, 1) := by decide +kernel
def f_X11_reportFree (l1 : Int32) (w : Wd) : Option Wd :=
  bnd (f_X4_kindOf l1 w) fun x1 =>
  bnd (f_X6_addWord_1005  w) fun w2 =>
  bnd (f_X6_addEnd  w2) fun w3 =>
  if x1 = 0 then
    bnd (f_X4_openOf l1 w3) fun x8 =>
    bnd (f_X6_addCounted_1006 (f_J6_bitCount_0f7a4 x8) w3) fun w9 =>
    if x1 = 2 then
      bnd (f_X6_addWord_1008  w9) fun w10 =>
      bnd (f_X6_addEnd  w10) fun w11 =>
      some w11
    else
      some w9
  else
    bnd (f_X6_addWord_1007  w3) fun w4 =>
    bnd (f_X6_addEnd  w4) fun w5 =>
    if x1 = 2 then
      bnd (f_X6_addWord_1008  w5) fun w6 =>
      bnd (f_X6_addEnd  w6) fun w7 =>
      some w7
    else
      some w5
set_option maxHeartbeats 4000000 in
set_option maxRecDepth 100000 in
theorem ok_X11_reportFree {G : GT} {d : Nat} (hd : 8 ≤ d) {w : Wd} (l1 : Int32) {w' : Wd} (h : f_X11_reportFree l1 w = some w') : uC G yX11_reportFree mX11_reportFree d [.ref 0, .int l1] w none w' := by
  obtain ⟨d, rfl⟩ : ∃ e, d = e + 1 := ⟨d - 1, by omega⟩
  unfold f_X11_reportFree at h
  refine uC_of (lv := [some (.ref 0), some (.int l1), none]) 1 pn_X11 ⟨rfl, rfl⟩ (Nat.le_of_ble_eq_true rfl) rfl ?_
  refine V.aload_n (pc := 0) dX11_reportFree_0 rfl ?_
  refine V.getR (t := 6) (pc := 1) dX11_reportFree_1 f_RX11_28 k_cl11 lx_0 ly_0 rb_11_2 rr_0_2 ?_
  refine V.iload_n (pc := 4) dX11_reportFree_4 rfl ?_
  obtain ⟨x1, ex1, h⟩ := bnd_e h
  refine U.callV (pc := 5) (As := [.int l1]) (st := []) dX11_reportFree_5 l_RX11_195 (ok_X4_kindOf (by omega) l1 ex1) lx_6 ly_6 cn_4 (Nat.le_of_ble_eq_true rfl) rfl rfl (Nat.le_of_ble_eq_true rfl) ?_
  refine V.istore_n (lv' := [some (.ref 0), some (.int l1), some (.int x1)]) (pc := 8) dX11_reportFree_8 (Nat.le_of_ble_eq_true rfl) rfl rfl ?_
  refine V.aload_n (pc := 9) dX11_reportFree_9 rfl ?_
  refine V.getR (t := 41) (pc := 10) dX11_reportFree_10 f_RX11_81 k_cl11 lx_0 ly_0 rb_11_9 rr_0_9 ?_
  refine V.ldcwS (j := 5) (pc := 13) dX11_reportFree_13 (List.mem_of_getElem? (i := 9) rfl) ?_
  obtain ⟨w2, ew2, h⟩ := bnd_e h
  refine U.callV (pc := 16) (As := [.ref 1005]) (st := []) dX11_reportFree_16 l_RX11_288 (ok_X6_addWord_1005 (by omega)  ew2) lx_41 ly_41 cn_6 (Nat.le_of_ble_eq_true rfl) rfl rfl (Nat.le_of_ble_eq_true rfl) ?_
  refine V.aload_n (pc := 19) dX11_reportFree_19 rfl ?_
  refine V.getR (t := 41) (pc := 20) dX11_reportFree_20 f_RX11_81 k_cl11 lx_0 ly_0 rb_11_9 rr_0_9 ?_
  obtain ⟨w3, ew3, h⟩ := bnd_e h
  refine U.callV (pc := 23) (As := []) (st := []) dX11_reportFree_23 l_RX11_295 (ok_X6_addEnd (by omega)  ew3) lx_41 ly_41 cn_6 (Nat.le_of_ble_eq_true rfl) rfl rfl (Nat.le_of_ble_eq_true rfl) ?_
  refine V.iload_n (pc := 26) dX11_reportFree_26 rfl ?_
  rcases ite_e h with ⟨c, h⟩ | ⟨c, h⟩
  · refine V.if_ne_f (t := 54) (pc := 27) dX11_reportFree_27 (by decide) c ?_
    refine V.aload_n (pc := 30) dX11_reportFree_30 rfl ?_
    refine V.getR (t := 41) (pc := 31) dX11_reportFree_31 f_RX11_81 k_cl11 lx_0 ly_0 rb_11_9 rr_0_9 ?_
    refine V.ldcwS (j := 6) (pc := 34) dX11_reportFree_34 (List.mem_of_getElem? (i := 10) rfl) ?_
    refine V.aload_n (pc := 37) dX11_reportFree_37 rfl ?_
    refine V.getR (t := 6) (pc := 38) dX11_reportFree_38 f_RX11_28 k_cl11 lx_0 ly_0 rb_11_2 rr_0_2 ?_
    refine V.iload_n (pc := 41) dX11_reportFree_41 rfl ?_
    obtain ⟨x8, ex8, h⟩ := bnd_e h
    refine U.callV (pc := 42) (As := [.int l1]) (st := [.ref 1006, .ref 41]) dX11_reportFree_42 l_RX11_205 (ok_X4_openOf (by omega) l1 ex8) lx_6 ly_6 cn_4 (Nat.le_of_ble_eq_true rfl) rfl rfl (Nat.le_of_ble_eq_true rfl) ?_
    refine U.callS (pc := 45) (As := [.int x8]) (st := [.ref 1006, .ref 41]) dX11_reportFree_45 l_RX11_127 (ok_J6_bitCount_0f7a4 (by omega) x8 ) (Nat.le_of_ble_eq_true rfl) rfl rfl (Nat.le_of_ble_eq_true rfl) ?_
    obtain ⟨w9, ew9, h⟩ := bnd_e h
    refine U.callV (pc := 48) (As := [.ref 1006, .int (f_J6_bitCount_0f7a4 x8)]) (st := []) dX11_reportFree_48 l_RX11_302 (ok_X6_addCounted_1006 (by omega) (f_J6_bitCount_0f7a4 x8) ew9) lx_41 ly_41 cn_6 (Nat.le_of_ble_eq_true rfl) rfl rfl (Nat.le_of_ble_eq_true rfl) ?_
    refine V.goto (t := 71) (pc := 51) dX11_reportFree_51 (by decide) ?_
    refine V.iload_n (pc := 71) dX11_reportFree_71 rfl ?_
    refine V.iconst (pc := 72) dX11_reportFree_72 ic_2 ?_
    rcases ite_e h with ⟨c, h⟩ | ⟨c, h⟩
    · refine V.icmp_ne_f (t := 93) (pc := 73) dX11_reportFree_73 (by decide) c ?_
      refine V.aload_n (pc := 76) dX11_reportFree_76 rfl ?_
      refine V.getR (t := 41) (pc := 77) dX11_reportFree_77 f_RX11_81 k_cl11 lx_0 ly_0 rb_11_9 rr_0_9 ?_
      refine V.ldcwS (j := 8) (pc := 80) dX11_reportFree_80 (List.mem_of_getElem? (i := 12) rfl) ?_
      obtain ⟨w10, ew10, h⟩ := bnd_e h
      refine U.callV (pc := 83) (As := [.ref 1008]) (st := []) dX11_reportFree_83 l_RX11_288 (ok_X6_addWord_1008 (by omega)  ew10) lx_41 ly_41 cn_6 (Nat.le_of_ble_eq_true rfl) rfl rfl (Nat.le_of_ble_eq_true rfl) ?_
      refine V.aload_n (pc := 86) dX11_reportFree_86 rfl ?_
      refine V.getR (t := 41) (pc := 87) dX11_reportFree_87 f_RX11_81 k_cl11 lx_0 ly_0 rb_11_9 rr_0_9 ?_
      obtain ⟨w11, ew11, h⟩ := bnd_e h
      refine U.callV (pc := 90) (As := []) (st := []) dX11_reportFree_90 l_RX11_295 (ok_X6_addEnd (by omega)  ew11) lx_41 ly_41 cn_6 (Nat.le_of_ble_eq_true rfl) rfl rfl (Nat.le_of_ble_eq_true rfl) ?_
      obtain rfl := Option.some.inj h
      exact V.vret (pc := 93) dX11_reportFree_93 rfl (Nat.le_refl _) (Nat.le_refl _)
    · refine V.icmp_ne_t (t := 93) (pc := 73) dX11_reportFree_73 (by decide) c ?_
      obtain rfl := Option.some.inj h
      exact V.vret (pc := 93) dX11_reportFree_93 rfl (Nat.le_refl _) (Nat.le_refl _)
  · refine V.if_ne_t (t := 54) (pc := 27) dX11_reportFree_27 (by decide) c ?_
    refine V.aload_n (pc := 54) dX11_reportFree_54 rfl ?_
    refine V.getR (t := 41) (pc := 55) dX11_reportFree_55 f_RX11_81 k_cl11 lx_0 ly_0 rb_11_9 rr_0_9 ?_
    refine V.ldcwS (j := 7) (pc := 58) dX11_reportFree_58 (List.mem_of_getElem? (i := 11) rfl) ?_
    obtain ⟨w4, ew4, h⟩ := bnd_e h
    refine U.callV (pc := 61) (As := [.ref 1007]) (st := []) dX11_reportFree_61 l_RX11_288 (ok_X6_addWord_1007 (by omega)  ew4) lx_41 ly_41 cn_6 (Nat.le_of_ble_eq_true rfl) rfl rfl (Nat.le_of_ble_eq_true rfl) ?_
    refine V.aload_n (pc := 64) dX11_reportFree_64 rfl ?_
    refine V.getR (t := 41) (pc := 65) dX11_reportFree_65 f_RX11_81 k_cl11 lx_0 ly_0 rb_11_9 rr_0_9 ?_
    obtain ⟨w5, ew5, h⟩ := bnd_e h
    refine U.callV (pc := 68) (As := []) (st := []) dX11_reportFree_68 l_RX11_295 (ok_X6_addEnd (by omega)  ew5) lx_41 ly_41 cn_6 (Nat.le_of_ble_eq_true rfl) rfl rfl (Nat.le_of_ble_eq_true rfl) ?_
    refine V.iload_n (pc := 71) dX11_reportFree_71 rfl ?_
    refine V.iconst (pc := 72) dX11_reportFree_72 ic_2 ?_
    rcases ite_e h with ⟨c, h⟩ | ⟨c, h⟩
    · refine V.icmp_ne_f (t := 93) (pc := 73) dX11_reportFree_73 (by decide) c ?_
      refine V.aload_n (pc := 76) dX11_reportFree_76 rfl ?_
      refine V.getR (t := 41) (pc := 77) dX11_reportFree_77 f_RX11_81 k_cl11 lx_0 ly_0 rb_11_9 rr_0_9 ?_
      refine V.ldcwS (j := 8) (pc := 80) dX11_reportFree_80 (List.mem_of_getElem? (i := 12) rfl) ?_
      obtain ⟨w6, ew6, h⟩ := bnd_e h
      refine U.callV (pc := 83) (As := [.ref 1008]) (st := []) dX11_reportFree_83 l_RX11_288 (ok_X6_addWord_1008 (by omega)  ew6) lx_41 ly_41 cn_6 (Nat.le_of_ble_eq_true rfl) rfl rfl (Nat.le_of_ble_eq_true rfl) ?_
      refine V.aload_n (pc := 86) dX11_reportFree_86 rfl ?_
      refine V.getR (t := 41) (pc := 87) dX11_reportFree_87 f_RX11_81 k_cl11 lx_0 ly_0 rb_11_9 rr_0_9 ?_
      obtain ⟨w7, ew7, h⟩ := bnd_e h
      refine U.callV (pc := 90) (As := []) (st := []) dX11_reportFree_90 l_RX11_295 (ok_X6_addEnd (by omega)  ew7) lx_41 ly_41 cn_6 (Nat.le_of_ble_eq_true rfl) rfl rfl (Nat.le_of_ble_eq_true rfl) ?_
      obtain rfl := Option.some.inj h
      exact V.vret (pc := 93) dX11_reportFree_93 rfl (Nat.le_refl _) (Nat.le_refl _)
    · refine V.icmp_ne_t (t := 93) (pc := 73) dX11_reportFree_73 (by decide) c ?_
      obtain rfl := Option.some.inj h
      exact V.vret (pc := 93) dX11_reportFree_93 rfl (Nat.le_refl _) (Nat.le_refl _)
theorem dX11_report_0 : decode cX11_report 0 = .ok (.iload_n 1, 1) := by decide +kernel
theorem dX11_report_1 : decode cX11_report 1 = .ok (.iconst (-1), 1) := by decide +kernel
theorem dX11_report_2 : decode cX11_report 2 = .ok (.if_icmp .ge 5, 3) := by decide +kernel
theorem dX11_report_5 : decode cX11_report 5 = .ok (.iconst (-1), 1) := by decide +kernel
theorem dX11_report_6 : decode cX11_report 6 = .ok (.ireturn, 1) := by decide +kernel
theorem dX11_report_7 : decode cX11_report 7 = .ok (.aload_n 0, 1) := by decide +kernel
theorem dX11_report_8 : decode cX11_report 8 = .ok (.getfield 74, 3) := by decide +kernel
theorem dX11_report_11 : decode cX11_report 11 = .ok (.invokevirtual 111, 3) := by decide +kernel
theorem dX11_report_14 : decode cX11_report 14 = .ok (.istore_n 2, 1) := by decide +kernel
theorem dX11_report_15 : decode cX11_report 15 = .ok (.aload_n 0, 1) := by decide +kernel
theorem dX11_report_16 : decode cX11_report 16 = .ok (.getfield 81, 3) := by decide +kernel
theorem dX11_report_19 : decode cX11_report 19 = .ok (.invokevirtual 278, 3) := by decide +kernel
theorem dX11_report_22 : decode cX11_report 22 = .ok (.aload_n 0, 1) := by decide +kernel
theorem dX11_report_23 : decode cX11_report 23 = .ok (.getfield 81, 3) := by decide +kernel
theorem dX11_report_26 : decode cX11_report 26 = .ok (.ldc_w 301, 3) := by decide +kernel
theorem dX11_report_29 : decode cX11_report 29 = .ok (.iload_n 2, 1) := by decide +kernel
theorem dX11_report_30 : decode cX11_report 30 = .ok (.invokestatic 127, 3) := by decide +kernel
theorem dX11_report_33 : decode cX11_report 33 = .ok (.invokevirtual 302, 3) := by decide +kernel
theorem dX11_report_36 : decode cX11_report 36 = .ok (.aload_n 0, 1) := by decide +kernel
theorem dX11_report_37 : decode cX11_report 37 = .ok (.getfield 28, 3) := by decide +kernel
theorem dX11_report_40 : decode cX11_report 40 = .ok (.iload_n 2, 1) := by decide +kernel
theorem dX11_report_41 : decode cX11_report 41 = .ok (.invokevirtual 121, 3) := by decide +kernel
theorem dX11_report_44 : decode cX11_report 44 = .ok (.ifCond .eq 11, 3) := by decide +kernel
theorem dX11_report_47 : decode cX11_report 47 = .ok (.aload_n 0, 1) := by decide +kernel
theorem dX11_report_48 : decode cX11_report 48 = .ok (.iload_n 2, 1) := by decide +kernel
theorem dX11_report_49 : decode cX11_report 49 = .ok (.invokevirtual 306, 3) := by decide +kernel
theorem dX11_report_52 : decode cX11_report 52 = .ok (.goto 21, 3) := by decide +kernel
theorem dX11_report_55 : decode cX11_report 55 = .ok (.aload_n 0, 1) := by decide +kernel
theorem dX11_report_56 : decode cX11_report 56 = .ok (.getfield 81, 3) := by decide +kernel
theorem dX11_report_59 : decode cX11_report 59 = .ok (.ldc_w 309, 3) := by decide +kernel
theorem dX11_report_62 : decode cX11_report 62 = .ok (.aload_n 0, 1) := by decide +kernel
theorem dX11_report_63 : decode cX11_report 63 = .ok (.getfield 28, 3) := by decide +kernel
theorem dX11_report_66 : decode cX11_report 66 = .ok (.iload_n 2, 1) := by decide +kernel
theorem dX11_report_67 : decode cX11_report 67 = .ok (.invokevirtual 198, 3) := by decide +kernel
theorem dX11_report_70 : decode cX11_report 70 = .ok (.invokevirtual 302, 3) := by decide +kernel
theorem dX11_report_73 : decode cX11_report 73 = .ok (.aload_n 0, 1) := by decide +kernel
theorem dX11_report_74 : decode cX11_report 74 = .ok (.getfield 81, 3) := by decide +kernel
theorem dX11_report_77 : decode cX11_report 77 = .ok (.iload_n 1, 1) := by decide +kernel
theorem dX11_report_78 : decode cX11_report 78 = .ok (.invokevirtual 298, 3) := by decide +kernel
theorem dX11_report_81 : decode cX11_report 81 = .ok (.ireturn, 1) := by decide +kernel
def f_X11_report (l1 : Int32) (w : Wd) : Option (Int32 × Wd) :=
  if (-1) ≤ l1 then
    bnd (f_X0_set  w) fun x1 =>
    letW (f_X6_clear  w) fun w2 =>
    bnd (f_X6_addCounted_1004 (f_J6_bitCount_0f7a4 x1) w2) fun w3 =>
    bnd (f_X4_isFree x1 w3) fun x4 =>
    if x4 = 0 then
      bnd (f_X4_countTriples x1 w3) fun x5 =>
      bnd (f_X6_addCounted_1009 x5 w3) fun w6 =>
      bnd (f_X6_answer l1 w6) fun x7 =>
      some (x7, w6)
    else
      bnd (f_X11_reportFree x1 w3) fun w8 =>
      bnd (f_X6_answer l1 w8) fun x9 =>
      some (x9, w8)
  else
    some ((-1), w)
set_option maxHeartbeats 4000000 in
set_option maxRecDepth 100000 in
theorem ok_X11_report {G : GT} {d : Nat} (hd : 9 ≤ d) {w : Wd} (l1 : Int32) {r : Int32} {w' : Wd} (h : f_X11_report l1 w = some (r, w')) : uC G yX11_report mX11_report d [.ref 0, .int l1] w (some (.int r)) w' := by
  obtain ⟨d, rfl⟩ : ∃ e, d = e + 1 := ⟨d - 1, by omega⟩
  unfold f_X11_report at h
  refine uC_of (lv := [some (.ref 0), some (.int l1), none]) 1 pn_X11 ⟨rfl, rfl⟩ (Nat.le_of_ble_eq_true rfl) rfl ?_
  refine V.iload_n (pc := 0) dX11_report_0 rfl ?_
  refine V.iconst (pc := 1) dX11_report_1 ic_m1 ?_
  rcases ite_e h with ⟨c, h⟩ | ⟨c, h⟩
  · refine V.icmp_ge_t (t := 7) (pc := 2) dX11_report_2 (by decide) c ?_
    refine V.aload_n (pc := 7) dX11_report_7 rfl ?_
    refine V.getR (t := 37) (pc := 8) dX11_report_8 f_RX11_74 k_cl11 lx_0 ly_0 rb_11_8 rr_0_8 ?_
    obtain ⟨x1, ex1, h⟩ := bnd_e h
    refine U.callV (pc := 11) (As := []) (st := []) dX11_report_11 l_RX11_111 (ok_X0_set (by omega)  ex1) lx_37 ly_37 cn_0 (Nat.le_of_ble_eq_true rfl) rfl rfl (Nat.le_of_ble_eq_true rfl) ?_
    refine V.istore_n (lv' := [some (.ref 0), some (.int l1), some (.int x1)]) (pc := 14) dX11_report_14 (Nat.le_of_ble_eq_true rfl) rfl rfl ?_
    refine V.aload_n (pc := 15) dX11_report_15 rfl ?_
    refine V.getR (t := 41) (pc := 16) dX11_report_16 f_RX11_81 k_cl11 lx_0 ly_0 rb_11_9 rr_0_9 ?_
    obtain ⟨w2, ew2, h⟩ := letW_e h
    refine U.callV (pc := 19) (As := []) (st := []) dX11_report_19 l_RX11_278 (ok_X6_clear (by omega)  ew2) lx_41 ly_41 cn_6 (Nat.le_of_ble_eq_true rfl) rfl rfl (Nat.le_of_ble_eq_true rfl) ?_
    refine V.aload_n (pc := 22) dX11_report_22 rfl ?_
    refine V.getR (t := 41) (pc := 23) dX11_report_23 f_RX11_81 k_cl11 lx_0 ly_0 rb_11_9 rr_0_9 ?_
    refine V.ldcwS (j := 4) (pc := 26) dX11_report_26 (List.mem_of_getElem? (i := 8) rfl) ?_
    refine V.iload_n (pc := 29) dX11_report_29 rfl ?_
    refine U.callS (pc := 30) (As := [.int x1]) (st := [.ref 1004, .ref 41]) dX11_report_30 l_RX11_127 (ok_J6_bitCount_0f7a4 (by omega) x1 ) (Nat.le_of_ble_eq_true rfl) rfl rfl (Nat.le_of_ble_eq_true rfl) ?_
    obtain ⟨w3, ew3, h⟩ := bnd_e h
    refine U.callV (pc := 33) (As := [.ref 1004, .int (f_J6_bitCount_0f7a4 x1)]) (st := []) dX11_report_33 l_RX11_302 (ok_X6_addCounted_1004 (by omega) (f_J6_bitCount_0f7a4 x1) ew3) lx_41 ly_41 cn_6 (Nat.le_of_ble_eq_true rfl) rfl rfl (Nat.le_of_ble_eq_true rfl) ?_
    refine V.aload_n (pc := 36) dX11_report_36 rfl ?_
    refine V.getR (t := 6) (pc := 37) dX11_report_37 f_RX11_28 k_cl11 lx_0 ly_0 rb_11_2 rr_0_2 ?_
    refine V.iload_n (pc := 40) dX11_report_40 rfl ?_
    obtain ⟨x4, ex4, h⟩ := bnd_e h
    refine U.callV (pc := 41) (As := [.int x1]) (st := []) dX11_report_41 l_RX11_121 (ok_X4_isFree (by omega) x1 ex4) lx_6 ly_6 cn_4 (Nat.le_of_ble_eq_true rfl) rfl rfl (Nat.le_of_ble_eq_true rfl) ?_
    rcases ite_e h with ⟨c, h⟩ | ⟨c, h⟩
    · refine V.if_eq_t (t := 55) (pc := 44) dX11_report_44 (by decide) c ?_
      refine V.aload_n (pc := 55) dX11_report_55 rfl ?_
      refine V.getR (t := 41) (pc := 56) dX11_report_56 f_RX11_81 k_cl11 lx_0 ly_0 rb_11_9 rr_0_9 ?_
      refine V.ldcwS (j := 9) (pc := 59) dX11_report_59 (List.mem_of_getElem? (i := 13) rfl) ?_
      refine V.aload_n (pc := 62) dX11_report_62 rfl ?_
      refine V.getR (t := 6) (pc := 63) dX11_report_63 f_RX11_28 k_cl11 lx_0 ly_0 rb_11_2 rr_0_2 ?_
      refine V.iload_n (pc := 66) dX11_report_66 rfl ?_
      obtain ⟨x5, ex5, h⟩ := bnd_e h
      refine U.callV (pc := 67) (As := [.int x1]) (st := [.ref 1009, .ref 41]) dX11_report_67 l_RX11_198 (ok_X4_countTriples (by omega) x1 ex5) lx_6 ly_6 cn_4 (Nat.le_of_ble_eq_true rfl) rfl rfl (Nat.le_of_ble_eq_true rfl) ?_
      obtain ⟨w6, ew6, h⟩ := bnd_e h
      refine U.callV (pc := 70) (As := [.ref 1009, .int x5]) (st := []) dX11_report_70 l_RX11_302 (ok_X6_addCounted_1009 (by omega) x5 ew6) lx_41 ly_41 cn_6 (Nat.le_of_ble_eq_true rfl) rfl rfl (Nat.le_of_ble_eq_true rfl) ?_
      refine V.aload_n (pc := 73) dX11_report_73 rfl ?_
      refine V.getR (t := 41) (pc := 74) dX11_report_74 f_RX11_81 k_cl11 lx_0 ly_0 rb_11_9 rr_0_9 ?_
      refine V.iload_n (pc := 77) dX11_report_77 rfl ?_
      obtain ⟨x7, ex7, h⟩ := bnd_e h
      refine U.callV (pc := 78) (As := [.int l1]) (st := []) dX11_report_78 l_RX11_298 (ok_X6_answer (by omega) l1 ex7) lx_41 ly_41 cn_6 (Nat.le_of_ble_eq_true rfl) rfl rfl (Nat.le_of_ble_eq_true rfl) ?_
      obtain ⟨rfl, rfl⟩ := Prod.mk.inj (Option.some.inj h)
      exact V.iret (pc := 81) dX11_report_81 rfl (Nat.le_refl _) (Nat.le_refl _)
    · refine V.if_eq_f (t := 55) (pc := 44) dX11_report_44 (by decide) c ?_
      refine V.aload_n (pc := 47) dX11_report_47 rfl ?_
      refine V.iload_n (pc := 48) dX11_report_48 rfl ?_
      obtain ⟨w8, ew8, h⟩ := bnd_e h
      refine U.callV (pc := 49) (As := [.int x1]) (st := []) dX11_report_49 l_RX11_306 (ok_X11_reportFree (by omega) x1 ew8) lx_0 ly_0 cn_11 (Nat.le_of_ble_eq_true rfl) rfl rfl (Nat.le_of_ble_eq_true rfl) ?_
      refine V.goto (t := 73) (pc := 52) dX11_report_52 (by decide) ?_
      refine V.aload_n (pc := 73) dX11_report_73 rfl ?_
      refine V.getR (t := 41) (pc := 74) dX11_report_74 f_RX11_81 k_cl11 lx_0 ly_0 rb_11_9 rr_0_9 ?_
      refine V.iload_n (pc := 77) dX11_report_77 rfl ?_
      obtain ⟨x9, ex9, h⟩ := bnd_e h
      refine U.callV (pc := 78) (As := [.int l1]) (st := []) dX11_report_78 l_RX11_298 (ok_X6_answer (by omega) l1 ex9) lx_41 ly_41 cn_6 (Nat.le_of_ble_eq_true rfl) rfl rfl (Nat.le_of_ble_eq_true rfl) ?_
      obtain ⟨rfl, rfl⟩ := Prod.mk.inj (Option.some.inj h)
      exact V.iret (pc := 81) dX11_report_81 rfl (Nat.le_refl _) (Nat.le_refl _)
  · refine V.icmp_ge_f (t := 7) (pc := 2) dX11_report_2 (by decide) c ?_
    refine V.iconst (pc := 5) dX11_report_5 ic_m1 ?_
    obtain ⟨rfl, rfl⟩ := Prod.mk.inj (Option.some.inj h)
    exact V.iret (pc := 6) dX11_report_6 rfl (Nat.le_refl _) (Nat.le_refl _)
theorem dX12_writesRow_0 : decode cX12_writesRow 0 = .ok (.aload_n 0, 1) := by decide +kernel
theorem dX12_writesRow_1 : decode cX12_writesRow 1 = .ok (.iload_n 1, 1) := by decide +kernel
theorem dX12_writesRow_2 : decode cX12_writesRow 2 = .ok (.invokevirtual 270, 3) := by decide +kernel
theorem dX12_writesRow_5 : decode cX12_writesRow 5 = .ok (.aload_n 0, 1) := by decide +kernel
theorem dX12_writesRow_6 : decode cX12_writesRow 6 = .ok (.iload_n 2, 1) := by decide +kernel
theorem dX12_writesRow_7 : decode cX12_writesRow 7 = .ok (.invokevirtual 273, 3) := by decide +kernel
theorem dX12_writesRow_10 : decode cX12_writesRow 10 = .ok (.aload_n 0, 1) := by decide +kernel
theorem dX12_writesRow_11 : decode cX12_writesRow 11 = .ok (.bipush 59, 2) := by decide +kernel
theorem dX12_writesRow_13 : decode cX12_writesRow 13 = .ok (.invokevirtual 267, 3) := by decide +kernel
theorem dX12_writesRow_16 : decode cX12_writesRow 16 = .ok (.return_, 1) := by decide +kernel
def f_X12_writesRow (l1 : Int32) (l2 : Int32) (w : Wd) : Option Wd :=
  bnd (f_X12_writesWord l1 w) fun w1 =>
  bnd (f_X12_writesNumber l2 w1) fun w2 =>
  bnd (f_X12_writes 59 w2) fun w3 =>
  some w3
set_option maxHeartbeats 4000000 in
set_option maxRecDepth 100000 in
theorem ok_X12_writesRow {G : GT} {d : Nat} (hd : 2 ≤ d) {w : Wd} (l1 : Int32) (l2 : Int32) {w' : Wd} (h : f_X12_writesRow l1 l2 w = some w') : uC G yX12_writesRow mX12_writesRow d [.ref 44, .int l1, .int l2] w none w' := by
  obtain ⟨d, rfl⟩ : ∃ e, d = e + 1 := ⟨d - 1, by omega⟩
  unfold f_X12_writesRow at h
  refine uC_of (lv := [some (.ref 44), some (.int l1), some (.int l2)]) 0 pn_X12 ⟨rfl, rfl⟩ (Nat.le_of_ble_eq_true rfl) rfl ?_
  refine V.aload_n (pc := 0) dX12_writesRow_0 rfl ?_
  refine V.iload_n (pc := 1) dX12_writesRow_1 rfl ?_
  obtain ⟨w1, ew1, h⟩ := bnd_e h
  refine U.callV (pc := 2) (As := [.int l1]) (st := []) dX12_writesRow_2 l_RX12_270 (ok_X12_writesWord (by omega) l1 ew1) lx_44 ly_44 cn_12 (Nat.le_of_ble_eq_true rfl) rfl rfl (Nat.le_of_ble_eq_true rfl) ?_
  refine V.aload_n (pc := 5) dX12_writesRow_5 rfl ?_
  refine V.iload_n (pc := 6) dX12_writesRow_6 rfl ?_
  obtain ⟨w2, ew2, h⟩ := bnd_e h
  refine U.callV (pc := 7) (As := [.int l2]) (st := []) dX12_writesRow_7 l_RX12_273 (ok_X12_writesNumber (by omega) l2 ew2) lx_44 ly_44 cn_12 (Nat.le_of_ble_eq_true rfl) rfl rfl (Nat.le_of_ble_eq_true rfl) ?_
  refine V.aload_n (pc := 10) dX12_writesRow_10 rfl ?_
  refine V.bipush (pc := 11) dX12_writesRow_11 bp_59 ?_
  obtain ⟨w3, ew3, h⟩ := bnd_e h
  refine U.callV (pc := 13) (As := [.int 59]) (st := []) dX12_writesRow_13 l_RX12_267 (ok_X12_writes (by omega) 59 ew3) lx_44 ly_44 cn_12 (Nat.le_of_ble_eq_true rfl) rfl rfl (Nat.le_of_ble_eq_true rfl) ?_
  obtain rfl := Option.some.inj h
  exact V.vret (pc := 16) dX12_writesRow_16 rfl (Nat.le_refl _) (Nat.le_refl _)
theorem dX12_writesLine_0 : decode cX12_writesLine 0 = .ok (.aload_n 0, 1) := by decide +kernel
theorem dX12_writesLine_1 : decode cX12_writesLine 1 = .ok (.iload_n 1, 1) := by decide +kernel
theorem dX12_writesLine_2 : decode cX12_writesLine 2 = .ok (.invokevirtual 270, 3) := by decide +kernel
theorem dX12_writesLine_5 : decode cX12_writesLine 5 = .ok (.aload_n 0, 1) := by decide +kernel
theorem dX12_writesLine_6 : decode cX12_writesLine 6 = .ok (.bipush 59, 2) := by decide +kernel
theorem dX12_writesLine_8 : decode cX12_writesLine 8 = .ok (.invokevirtual 267, 3) := by decide +kernel
theorem dX12_writesLine_11 : decode cX12_writesLine 11 = .ok (.return_, 1) := by decide +kernel
def f_X12_writesLine (l1 : Int32) (w : Wd) : Option Wd :=
  bnd (f_X12_writesWord l1 w) fun w1 =>
  bnd (f_X12_writes 59 w1) fun w2 =>
  some w2
set_option maxHeartbeats 4000000 in
set_option maxRecDepth 100000 in
theorem ok_X12_writesLine {G : GT} {d : Nat} (hd : 2 ≤ d) {w : Wd} (l1 : Int32) {w' : Wd} (h : f_X12_writesLine l1 w = some w') : uC G yX12_writesLine mX12_writesLine d [.ref 44, .int l1] w none w' := by
  obtain ⟨d, rfl⟩ : ∃ e, d = e + 1 := ⟨d - 1, by omega⟩
  unfold f_X12_writesLine at h
  refine uC_of (lv := [some (.ref 44), some (.int l1)]) 0 pn_X12 ⟨rfl, rfl⟩ (Nat.le_of_ble_eq_true rfl) rfl ?_
  refine V.aload_n (pc := 0) dX12_writesLine_0 rfl ?_
  refine V.iload_n (pc := 1) dX12_writesLine_1 rfl ?_
  obtain ⟨w1, ew1, h⟩ := bnd_e h
  refine U.callV (pc := 2) (As := [.int l1]) (st := []) dX12_writesLine_2 l_RX12_270 (ok_X12_writesWord (by omega) l1 ew1) lx_44 ly_44 cn_12 (Nat.le_of_ble_eq_true rfl) rfl rfl (Nat.le_of_ble_eq_true rfl) ?_
  refine V.aload_n (pc := 5) dX12_writesLine_5 rfl ?_
  refine V.bipush (pc := 6) dX12_writesLine_6 bp_59 ?_
  obtain ⟨w2, ew2, h⟩ := bnd_e h
  refine U.callV (pc := 8) (As := [.int 59]) (st := []) dX12_writesLine_8 l_RX12_267 (ok_X12_writes (by omega) 59 ew2) lx_44 ly_44 cn_12 (Nat.le_of_ble_eq_true rfl) rfl rfl (Nat.le_of_ble_eq_true rfl) ?_
  obtain rfl := Option.some.inj h
  exact V.vret (pc := 11) dX12_writesLine_11 rfl (Nat.le_refl _) (Nat.le_refl _)
theorem dX12_report_0 : decode cX12_report 0 = .ok (.iload_n 1, 1) := by decide +kernel
theorem dX12_report_1 : decode cX12_report 1 = .ok (.iconst (-1), 1) := by decide +kernel
theorem dX12_report_2 : decode cX12_report 2 = .ok (.if_icmp .ge 5, 3) := by decide +kernel
theorem dX12_report_5 : decode cX12_report 5 = .ok (.iconst (-1), 1) := by decide +kernel
theorem dX12_report_6 : decode cX12_report 6 = .ok (.ireturn, 1) := by decide +kernel
theorem dX12_report_7 : decode cX12_report 7 = .ok (.aload_n 0, 1) := by decide +kernel
theorem dX12_report_8 : decode cX12_report 8 = .ok (.iconst 0, 1) := by decide +kernel
theorem dX12_report_9 : decode cX12_report 9 = .ok (.putfield 261, 3) := by decide +kernel
theorem dX12_report_12 : decode cX12_report 12 = .ok (.aload_n 0, 1) := by decide +kernel
theorem dX12_report_13 : decode cX12_report 13 = .ok (.getfield 42, 3) := by decide +kernel
theorem dX12_report_16 : decode cX12_report 16 = .ok (.iconst 0, 1) := by decide +kernel
theorem dX12_report_17 : decode cX12_report 17 = .ok (.iaload, 1) := by decide +kernel
theorem dX12_report_18 : decode cX12_report 18 = .ok (.istore_n 2, 1) := by decide +kernel
theorem dX12_report_19 : decode cX12_report 19 = .ok (.aload_n 0, 1) := by decide +kernel
theorem dX12_report_20 : decode cX12_report 20 = .ok (.iconst 4, 1) := by decide +kernel
theorem dX12_report_21 : decode cX12_report 21 = .ok (.iload_n 2, 1) := by decide +kernel
theorem dX12_report_22 : decode cX12_report 22 = .ok (.invokestatic 172, 3) := by decide +kernel
theorem dX12_report_25 : decode cX12_report 25 = .ok (.invokevirtual 279, 3) := by decide +kernel
theorem dX12_report_28 : decode cX12_report 28 = .ok (.aload_n 0, 1) := by decide +kernel
theorem dX12_report_29 : decode cX12_report 29 = .ok (.iload_n 2, 1) := by decide +kernel
theorem dX12_report_30 : decode cX12_report 30 = .ok (.invokevirtual 150, 3) := by decide +kernel
theorem dX12_report_33 : decode cX12_report 33 = .ok (.ifCond .ne 19, 3) := by decide +kernel
theorem dX12_report_36 : decode cX12_report 36 = .ok (.aload_n 0, 1) := by decide +kernel
theorem dX12_report_37 : decode cX12_report 37 = .ok (.iconst 5, 1) := by decide +kernel
theorem dX12_report_38 : decode cX12_report 38 = .ok (.aload_n 0, 1) := by decide +kernel
theorem dX12_report_39 : decode cX12_report 39 = .ok (.iload_n 2, 1) := by decide +kernel
theorem dX12_report_40 : decode cX12_report 40 = .ok (.invokevirtual 203, 3) := by decide +kernel
theorem dX12_report_43 : decode cX12_report 43 = .ok (.invokevirtual 279, 3) := by decide +kernel
theorem dX12_report_46 : decode cX12_report 46 = .ok (.aload_n 0, 1) := by decide +kernel
theorem dX12_report_47 : decode cX12_report 47 = .ok (.iload_n 1, 1) := by decide +kernel
theorem dX12_report_48 : decode cX12_report 48 = .ok (.invokevirtual 276, 3) := by decide +kernel
theorem dX12_report_51 : decode cX12_report 51 = .ok (.ireturn, 1) := by decide +kernel
theorem dX12_report_52 : decode cX12_report 52 = .ok (.aload_n 0, 1) := by decide +kernel
theorem dX12_report_53 : decode cX12_report 53 = .ok (.bipush 6, 2) := by decide +kernel
theorem dX12_report_55 : decode cX12_report 55 = .ok (.invokevirtual 283, 3) := by decide +kernel
theorem dX12_report_58 : decode cX12_report 58 = .ok (.aload_n 0, 1) := by decide +kernel
theorem dX12_report_59 : decode cX12_report 59 = .ok (.iload_n 2, 1) := by decide +kernel
theorem dX12_report_60 : decode cX12_report 60 = .ok (.invokevirtual 154, 3) := by decide +kernel
theorem dX12_report_63 : decode cX12_report 63 = .ok (.ifCond .ne 12, 3) := by decide +kernel
theorem dX12_report_66 : decode cX12_report 66 = .ok (.aload_n 0, 1) := by decide +kernel
theorem dX12_report_67 : decode cX12_report 67 = .ok (.bipush 7, 2) := by decide +kernel
theorem dX12_report_69 : decode cX12_report 69 = .ok (.invokevirtual 283, 3) := by decide +kernel
theorem dX12_report_72 : decode cX12_report 72 = .ok (.goto 17, 3) := by decide +kernel
theorem dX12_report_75 : decode cX12_report 75 = .ok (.aload_n 0, 1) := by decide +kernel
theorem dX12_report_76 : decode cX12_report 76 = .ok (.bipush 8, 2) := by decide +kernel
theorem dX12_report_78 : decode cX12_report 78 = .ok (.aload_n 0, 1) := by decide +kernel
theorem dX12_report_79 : decode cX12_report 79 = .ok (.iload_n 2, 1) := by decide +kernel
theorem dX12_report_80 : decode cX12_report 80 = .ok (.invokevirtual 154, 3) := by decide +kernel
theorem dX12_report_83 : decode cX12_report 83 = .ok (.invokestatic 172, 3) := by decide +kernel
theorem dX12_report_86 : decode cX12_report 86 = .ok (.invokevirtual 279, 3) := by decide +kernel
theorem dX12_report_89 : decode cX12_report 89 = .ok (.aload_n 0, 1) := by decide +kernel
theorem dX12_report_90 : decode cX12_report 90 = .ok (.iload_n 2, 1) := by decide +kernel
theorem dX12_report_91 : decode cX12_report 91 = .ok (.iconst 2, 1) := by decide +kernel
theorem dX12_report_92 : decode cX12_report 92 = .ok (.invokevirtual 200, 3) := by decide +kernel
theorem dX12_report_95 : decode cX12_report 95 = .ok (.ifCond .eq 9, 3) := by decide +kernel
theorem dX12_report_98 : decode cX12_report 98 = .ok (.aload_n 0, 1) := by decide +kernel
theorem dX12_report_99 : decode cX12_report 99 = .ok (.bipush 9, 2) := by decide +kernel
theorem dX12_report_101 : decode cX12_report 101 = .ok (.invokevirtual 283, 3) := by decide +kernel
theorem dX12_report_104 : decode cX12_report 104 = .ok (.aload_n 0, 1) := by decide +kernel
theorem dX12_report_105 : decode cX12_report 105 = .ok (.iload_n 1, 1) := by decide +kernel
theorem dX12_report_106 : decode cX12_report 106 = .ok (.invokevirtual 276, 3) := by decide +kernel
theorem dX12_report_109 : decode cX12_report 109 = .ok (.ireturn, 1) := by decide +kernel
def f_X12_report_J89 (l1 : Int32) (l2 : Int32) (w : Wd) : Option (Int32 × Wd) :=
  bnd (f_X12_isOf l2 2 w) fun x1 =>
  if x1 = 0 then
    bnd (f_X12_toldText l1 w) fun x2 =>
    some (x2, w)
  else
    bnd (f_X12_writesLine 9 w) fun w3 =>
    bnd (f_X12_toldText l1 w3) fun x4 =>
    some (x4, w3)
set_option maxHeartbeats 4000000 in
set_option maxRecDepth 100000 in
theorem t_X12_report_J89 {G : GT} {d : Nat} (hd : 4 ≤ d + 1)  : ∀ (l1 : Int32) (l2 : Int32) (w : Wd) (r : Int32) (w' : Wd), f_X12_report_J89 l1 l2 w = some (r, w') → U (vf G mX12_report (d + 1)) 89 [some (.ref 44), some (.int l1), some (.int l2)] [] w (some (.int r), 70, r0, w') := by
  intro l1 l2 w r w' h
  unfold f_X12_report_J89 at h
  refine V.aload_n (pc := 89) dX12_report_89 rfl ?_
  refine V.iload_n (pc := 90) dX12_report_90 rfl ?_
  refine V.iconst (pc := 91) dX12_report_91 ic_2 ?_
  obtain ⟨x1, ex1, h⟩ := bnd_e h
  refine U.callV (pc := 92) (As := [.int l2, .int 2]) (st := []) dX12_report_92 l_RX12_200 (ok_X12_isOf (by omega) l2 2 ex1) lx_44 ly_44 cn_12 (Nat.le_of_ble_eq_true rfl) rfl rfl (Nat.le_of_ble_eq_true rfl) ?_
  rcases ite_e h with ⟨c, h⟩ | ⟨c, h⟩
  · refine V.if_eq_t (t := 104) (pc := 95) dX12_report_95 (by decide) c ?_
    refine V.aload_n (pc := 104) dX12_report_104 rfl ?_
    refine V.iload_n (pc := 105) dX12_report_105 rfl ?_
    obtain ⟨x2, ex2, h⟩ := bnd_e h
    refine U.callV (pc := 106) (As := [.int l1]) (st := []) dX12_report_106 l_RX12_276 (ok_X12_toldText (by omega) l1 ex2) lx_44 ly_44 cn_12 (Nat.le_of_ble_eq_true rfl) rfl rfl (Nat.le_of_ble_eq_true rfl) ?_
    obtain ⟨rfl, rfl⟩ := Prod.mk.inj (Option.some.inj h)
    exact V.iret (pc := 109) dX12_report_109 rfl (Nat.le_refl _) (Nat.le_refl _)
  · refine V.if_eq_f (t := 104) (pc := 95) dX12_report_95 (by decide) c ?_
    refine V.aload_n (pc := 98) dX12_report_98 rfl ?_
    refine V.bipush (pc := 99) dX12_report_99 bp_9 ?_
    obtain ⟨w3, ew3, h⟩ := bnd_e h
    refine U.callV (pc := 101) (As := [.int 9]) (st := []) dX12_report_101 l_RX12_283 (ok_X12_writesLine (by omega) 9 ew3) lx_44 ly_44 cn_12 (Nat.le_of_ble_eq_true rfl) rfl rfl (Nat.le_of_ble_eq_true rfl) ?_
    refine V.aload_n (pc := 104) dX12_report_104 rfl ?_
    refine V.iload_n (pc := 105) dX12_report_105 rfl ?_
    obtain ⟨x4, ex4, h⟩ := bnd_e h
    refine U.callV (pc := 106) (As := [.int l1]) (st := []) dX12_report_106 l_RX12_276 (ok_X12_toldText (by omega) l1 ex4) lx_44 ly_44 cn_12 (Nat.le_of_ble_eq_true rfl) rfl rfl (Nat.le_of_ble_eq_true rfl) ?_
    obtain ⟨rfl, rfl⟩ := Prod.mk.inj (Option.some.inj h)
    exact V.iret (pc := 109) dX12_report_109 rfl (Nat.le_refl _) (Nat.le_refl _)
def f_X12_report (l1 : Int32) (w : Wd) : Option (Int32 × Wd) :=
  if (-1) ≤ l1 then
    letW (sI w 44 28 0) fun w1 =>
    rdI w1 54 20 0 fun x2 =>
    bnd (f_X12_ones x2) fun x3 =>
    bnd (f_X12_writesRow 4 x3 w1) fun w4 =>
    bnd (f_X12_isFree x2 w4) fun x5 =>
    if x5 = 0 then
      bnd (f_X12_triplesOf x2 w4) fun x12 =>
      bnd (f_X12_writesRow 5 x12 w4) fun w13 =>
      bnd (f_X12_toldText l1 w13) fun x14 =>
      some (x14, w13)
    else
      bnd (f_X12_writesLine 6 w4) fun w6 =>
      bnd (f_X12_openTo x2 w6) fun x7 =>
      if x7 = 0 then
        bnd (f_X12_writesLine 7 w6) fun w11 =>
        f_X12_report_J89  l1 x2 w11
      else
        bnd (f_X12_openTo x2 w6) fun x8 =>
        bnd (f_X12_ones x8) fun x9 =>
        bnd (f_X12_writesRow 8 x9 w6) fun w10 =>
        f_X12_report_J89  l1 x2 w10
  else
    some ((-1), w)
set_option maxHeartbeats 4000000 in
set_option maxRecDepth 100000 in
theorem ok_X12_report {G : GT} {d : Nat} (hd : 4 ≤ d) {w : Wd} (l1 : Int32) {r : Int32} {w' : Wd} (h : f_X12_report l1 w = some (r, w')) : uC G yX12_report mX12_report d [.ref 44, .int l1] w (some (.int r)) w' := by
  obtain ⟨d, rfl⟩ : ∃ e, d = e + 1 := ⟨d - 1, by omega⟩
  unfold f_X12_report at h
  refine uC_of (lv := [some (.ref 44), some (.int l1), none]) 1 pn_X12 ⟨rfl, rfl⟩ (Nat.le_of_ble_eq_true rfl) rfl ?_
  refine V.iload_n (pc := 0) dX12_report_0 rfl ?_
  refine V.iconst (pc := 1) dX12_report_1 ic_m1 ?_
  rcases ite_e h with ⟨c, h⟩ | ⟨c, h⟩
  · refine V.icmp_ge_t (t := 7) (pc := 2) dX12_report_2 (by decide) c ?_
    refine V.aload_n (pc := 7) dX12_report_7 rfl ?_
    refine V.iconst (pc := 8) dX12_report_8 ic_0 ?_
    obtain ⟨w1, ew1, h⟩ := letW_e h
    refine V.putIX (pc := 9) dX12_report_9 f_RX12_261 k_cl12 lx_44 ly_44 rb_12_28 (fin_I (T0 := TX12) rfl rfl rfl) ew1 ?_
    refine V.aload_n (pc := 12) dX12_report_12 rfl ?_
    refine V.getR (t := 54) (pc := 13) dX12_report_13 f_RX12_42 k_cl12 lx_44 ly_44 rb_12_13 rr_44_13 ?_
    refine V.iconst (pc := 16) dX12_report_16 ic_0 ?_
    obtain ⟨x2, ix2, ex2, h⟩ := rdI_e h
    refine V.ialdX (pc := 17) dX12_report_17 lx_54 ly_54 ix2 ex2 ?_
    refine V.istore_n (lv' := [some (.ref 44), some (.int l1), some (.int x2)]) (pc := 18) dX12_report_18 (Nat.le_of_ble_eq_true rfl) rfl rfl ?_
    refine V.aload_n (pc := 19) dX12_report_19 rfl ?_
    refine V.iconst (pc := 20) dX12_report_20 ic_4 ?_
    refine V.iload_n (pc := 21) dX12_report_21 rfl ?_
    obtain ⟨x3, ex3, h⟩ := bnd_e h
    refine U.callS (pc := 22) (As := [.int x2]) (st := [.int 4, .ref 44]) dX12_report_22 l_RX12_172 (ok_X12_ones (by omega) x2 ex3) (Nat.le_of_ble_eq_true rfl) rfl rfl (Nat.le_of_ble_eq_true rfl) ?_
    obtain ⟨w4, ew4, h⟩ := bnd_e h
    refine U.callV (pc := 25) (As := [.int 4, .int x3]) (st := []) dX12_report_25 l_RX12_279 (ok_X12_writesRow (by omega) 4 x3 ew4) lx_44 ly_44 cn_12 (Nat.le_of_ble_eq_true rfl) rfl rfl (Nat.le_of_ble_eq_true rfl) ?_
    refine V.aload_n (pc := 28) dX12_report_28 rfl ?_
    refine V.iload_n (pc := 29) dX12_report_29 rfl ?_
    obtain ⟨x5, ex5, h⟩ := bnd_e h
    refine U.callV (pc := 30) (As := [.int x2]) (st := []) dX12_report_30 l_RX12_150 (ok_X12_isFree (by omega) x2 ex5) lx_44 ly_44 cn_12 (Nat.le_of_ble_eq_true rfl) rfl rfl (Nat.le_of_ble_eq_true rfl) ?_
    rcases ite_e h with ⟨c, h⟩ | ⟨c, h⟩
    · refine V.if_ne_f (t := 52) (pc := 33) dX12_report_33 (by decide) c ?_
      refine V.aload_n (pc := 36) dX12_report_36 rfl ?_
      refine V.iconst (pc := 37) dX12_report_37 ic_5 ?_
      refine V.aload_n (pc := 38) dX12_report_38 rfl ?_
      refine V.iload_n (pc := 39) dX12_report_39 rfl ?_
      obtain ⟨x12, ex12, h⟩ := bnd_e h
      refine U.callV (pc := 40) (As := [.int x2]) (st := [.int 5, .ref 44]) dX12_report_40 l_RX12_203 (ok_X12_triplesOf (by omega) x2 ex12) lx_44 ly_44 cn_12 (Nat.le_of_ble_eq_true rfl) rfl rfl (Nat.le_of_ble_eq_true rfl) ?_
      obtain ⟨w13, ew13, h⟩ := bnd_e h
      refine U.callV (pc := 43) (As := [.int 5, .int x12]) (st := []) dX12_report_43 l_RX12_279 (ok_X12_writesRow (by omega) 5 x12 ew13) lx_44 ly_44 cn_12 (Nat.le_of_ble_eq_true rfl) rfl rfl (Nat.le_of_ble_eq_true rfl) ?_
      refine V.aload_n (pc := 46) dX12_report_46 rfl ?_
      refine V.iload_n (pc := 47) dX12_report_47 rfl ?_
      obtain ⟨x14, ex14, h⟩ := bnd_e h
      refine U.callV (pc := 48) (As := [.int l1]) (st := []) dX12_report_48 l_RX12_276 (ok_X12_toldText (by omega) l1 ex14) lx_44 ly_44 cn_12 (Nat.le_of_ble_eq_true rfl) rfl rfl (Nat.le_of_ble_eq_true rfl) ?_
      obtain ⟨rfl, rfl⟩ := Prod.mk.inj (Option.some.inj h)
      exact V.iret (pc := 51) dX12_report_51 rfl (Nat.le_refl _) (Nat.le_refl _)
    · refine V.if_ne_t (t := 52) (pc := 33) dX12_report_33 (by decide) c ?_
      refine V.aload_n (pc := 52) dX12_report_52 rfl ?_
      refine V.bipush (pc := 53) dX12_report_53 bp_6 ?_
      obtain ⟨w6, ew6, h⟩ := bnd_e h
      refine U.callV (pc := 55) (As := [.int 6]) (st := []) dX12_report_55 l_RX12_283 (ok_X12_writesLine (by omega) 6 ew6) lx_44 ly_44 cn_12 (Nat.le_of_ble_eq_true rfl) rfl rfl (Nat.le_of_ble_eq_true rfl) ?_
      refine V.aload_n (pc := 58) dX12_report_58 rfl ?_
      refine V.iload_n (pc := 59) dX12_report_59 rfl ?_
      obtain ⟨x7, ex7, h⟩ := bnd_e h
      refine U.callV (pc := 60) (As := [.int x2]) (st := []) dX12_report_60 l_RX12_154 (ok_X12_openTo (by omega) x2 ex7) lx_44 ly_44 cn_12 (Nat.le_of_ble_eq_true rfl) rfl rfl (Nat.le_of_ble_eq_true rfl) ?_
      rcases ite_e h with ⟨c, h⟩ | ⟨c, h⟩
      · refine V.if_ne_f (t := 75) (pc := 63) dX12_report_63 (by decide) c ?_
        refine V.aload_n (pc := 66) dX12_report_66 rfl ?_
        refine V.bipush (pc := 67) dX12_report_67 bp_7 ?_
        obtain ⟨w11, ew11, h⟩ := bnd_e h
        refine U.callV (pc := 69) (As := [.int 7]) (st := []) dX12_report_69 l_RX12_283 (ok_X12_writesLine (by omega) 7 ew11) lx_44 ly_44 cn_12 (Nat.le_of_ble_eq_true rfl) rfl rfl (Nat.le_of_ble_eq_true rfl) ?_
        refine V.goto (t := 89) (pc := 72) dX12_report_72 (by decide) ?_
        exact t_X12_report_J89 hd l1 x2 w11 _ _ h
      · refine V.if_ne_t (t := 75) (pc := 63) dX12_report_63 (by decide) c ?_
        refine V.aload_n (pc := 75) dX12_report_75 rfl ?_
        refine V.bipush (pc := 76) dX12_report_76 bp_8 ?_
        refine V.aload_n (pc := 78) dX12_report_78 rfl ?_
        refine V.iload_n (pc := 79) dX12_report_79 rfl ?_
        obtain ⟨x8, ex8, h⟩ := bnd_e h
        refine U.callV (pc := 80) (As := [.int x2]) (st := [.int 8, .ref 44]) dX12_report_80 l_RX12_154 (ok_X12_openTo (by omega) x2 ex8) lx_44 ly_44 cn_12 (Nat.le_of_ble_eq_true rfl) rfl rfl (Nat.le_of_ble_eq_true rfl) ?_
        obtain ⟨x9, ex9, h⟩ := bnd_e h
        refine U.callS (pc := 83) (As := [.int x8]) (st := [.int 8, .ref 44]) dX12_report_83 l_RX12_172 (ok_X12_ones (by omega) x8 ex9) (Nat.le_of_ble_eq_true rfl) rfl rfl (Nat.le_of_ble_eq_true rfl) ?_
        obtain ⟨w10, ew10, h⟩ := bnd_e h
        refine U.callV (pc := 86) (As := [.int 8, .int x9]) (st := []) dX12_report_86 l_RX12_279 (ok_X12_writesRow (by omega) 8 x9 ew10) lx_44 ly_44 cn_12 (Nat.le_of_ble_eq_true rfl) rfl rfl (Nat.le_of_ble_eq_true rfl) ?_
        exact t_X12_report_J89 hd l1 x2 w10 _ _ h
  · refine V.icmp_ge_f (t := 7) (pc := 2) dX12_report_2 (by decide) c ?_
    refine V.iconst (pc := 5) dX12_report_5 ic_m1 ?_
    obtain ⟨rfl, rfl⟩ := Prod.mk.inj (Option.some.inj h)
    exact V.iret (pc := 6) dX12_report_6 rfl (Nat.le_refl _) (Nat.le_refl _)
theorem dX11_count_0 : decode cX11_count 0 = .ok (.iload_n 1, 1) := by decide +kernel
theorem dX11_count_1 : decode cX11_count 1 = .ok (.tableswitch 172 0 11 #[63, 71, 79, 87, 98, 106, 114, 134, 134, 134, 149, 157], 63) := by decide +kernel
theorem dX11_count_64 : decode cX11_count 64 = .ok (.aload_n 0, 1) := by decide +kernel
theorem dX11_count_65 : decode cX11_count 65 = .ok (.getfield 28, 3) := by decide +kernel
theorem dX11_count_68 : decode cX11_count 68 = .ok (.getfield 104, 3) := by decide +kernel
theorem dX11_count_71 : decode cX11_count 71 = .ok (.ireturn, 1) := by decide +kernel
theorem dX11_count_72 : decode cX11_count 72 = .ok (.aload_n 0, 1) := by decide +kernel
theorem dX11_count_73 : decode cX11_count 73 = .ok (.getfield 28, 3) := by decide +kernel
theorem dX11_count_76 : decode cX11_count 76 = .ok (.getfield 281, 3) := by decide +kernel
theorem dX11_count_79 : decode cX11_count 79 = .ok (.ireturn, 1) := by decide +kernel
theorem dX11_count_80 : decode cX11_count 80 = .ok (.aload_n 0, 1) := by decide +kernel
theorem dX11_count_81 : decode cX11_count 81 = .ok (.getfield 74, 3) := by decide +kernel
theorem dX11_count_84 : decode cX11_count 84 = .ok (.invokevirtual 111, 3) := by decide +kernel
theorem dX11_count_87 : decode cX11_count 87 = .ok (.ireturn, 1) := by decide +kernel
theorem dX11_count_88 : decode cX11_count 88 = .ok (.aload_n 0, 1) := by decide +kernel
theorem dX11_count_89 : decode cX11_count 89 = .ok (.getfield 74, 3) := by decide +kernel
theorem dX11_count_92 : decode cX11_count 92 = .ok (.invokevirtual 111, 3) := by decide +kernel
theorem dX11_count_95 : decode cX11_count 95 = .ok (.invokestatic 127, 3) := by decide +kernel
theorem dX11_count_98 : decode cX11_count 98 = .ok (.ireturn, 1) := by decide +kernel
theorem dX11_count_99 : decode cX11_count 99 = .ok (.aload_n 0, 1) := by decide +kernel
theorem dX11_count_100 : decode cX11_count 100 = .ok (.getfield 74, 3) := by decide +kernel
theorem dX11_count_103 : decode cX11_count 103 = .ok (.getfield 311, 3) := by decide +kernel
theorem dX11_count_106 : decode cX11_count 106 = .ok (.ireturn, 1) := by decide +kernel
theorem dX11_count_107 : decode cX11_count 107 = .ok (.aload_n 0, 1) := by decide +kernel
theorem dX11_count_108 : decode cX11_count 108 = .ok (.getfield 10, 3) := by decide +kernel
theorem dX11_count_111 : decode cX11_count 111 = .ok (.getfield 92, 3) := by decide +kernel
theorem dX11_count_114 : decode cX11_count 114 = .ok (.ireturn, 1) := by decide +kernel
theorem dX11_count_115 : decode cX11_count 115 = .ok (.aload_n 0, 1) := by decide +kernel
theorem dX11_count_116 : decode cX11_count 116 = .ok (.invokevirtual 314, 3) := by decide +kernel
theorem dX11_count_119 : decode cX11_count 119 = .ok (.aload_n 0, 1) := by decide +kernel
theorem dX11_count_120 : decode cX11_count 120 = .ok (.getfield 28, 3) := by decide +kernel
theorem dX11_count_123 : decode cX11_count 123 = .ok (.getfield 189, 3) := by decide +kernel
theorem dX11_count_126 : decode cX11_count 126 = .ok (.if_icmp .ne 7, 3) := by decide +kernel
theorem dX11_count_129 : decode cX11_count 129 = .ok (.iconst 1, 1) := by decide +kernel
theorem dX11_count_130 : decode cX11_count 130 = .ok (.goto 4, 3) := by decide +kernel
theorem dX11_count_133 : decode cX11_count 133 = .ok (.iconst 0, 1) := by decide +kernel
theorem dX11_count_134 : decode cX11_count 134 = .ok (.ireturn, 1) := by decide +kernel
theorem dX11_count_135 : decode cX11_count 135 = .ok (.aload_n 0, 1) := by decide +kernel
theorem dX11_count_136 : decode cX11_count 136 = .ok (.getfield 74, 3) := by decide +kernel
theorem dX11_count_139 : decode cX11_count 139 = .ok (.bipush 16, 2) := by decide +kernel
theorem dX11_count_141 : decode cX11_count 141 = .ok (.iload_n 1, 1) := by decide +kernel
theorem dX11_count_142 : decode cX11_count 142 = .ok (.iadd, 1) := by decide +kernel
theorem dX11_count_143 : decode cX11_count 143 = .ok (.bipush 7, 2) := by decide +kernel
theorem dX11_count_145 : decode cX11_count 145 = .ok (.isub, 1) := by decide +kernel
theorem dX11_count_146 : decode cX11_count 146 = .ok (.invokevirtual 150, 3) := by decide +kernel
theorem dX11_count_149 : decode cX11_count 149 = .ok (.ireturn, 1) := by decide +kernel
theorem dX11_count_150 : decode cX11_count 150 = .ok (.aload_n 0, 1) := by decide +kernel
theorem dX11_count_151 : decode cX11_count 151 = .ok (.getfield 37, 3) := by decide +kernel
theorem dX11_count_154 : decode cX11_count 154 = .ok (.getfield 177, 3) := by decide +kernel
theorem dX11_count_157 : decode cX11_count 157 = .ok (.ireturn, 1) := by decide +kernel
theorem dX11_count_158 : decode cX11_count 158 = .ok (.aload_n 0, 1) := by decide +kernel
theorem dX11_count_159 : decode cX11_count 159 = .ok (.getfield 74, 3) := by decide +kernel
theorem dX11_count_162 : decode cX11_count 162 = .ok (.aload_n 0, 1) := by decide +kernel
theorem dX11_count_163 : decode cX11_count 163 = .ok (.getfield 28, 3) := by decide +kernel
theorem dX11_count_166 : decode cX11_count 166 = .ok (.getfield 189, 3) := by decide +kernel
theorem dX11_count_169 : decode cX11_count 169 = .ok (.invokevirtual 225, 3) := by decide +kernel
theorem dX11_count_172 : decode cX11_count 172 = .ok (.ireturn, 1) := by decide +kernel
theorem dX11_count_173 : decode cX11_count 173 = .ok (.iconst (-1), 1) := by decide +kernel
theorem dX11_count_174 : decode cX11_count 174 = .ok (.ireturn, 1) := by decide +kernel
def f_X11_count (l1 : Int32) (w : Wd) : Option Int32 :=
  if l1 = 0 then
    some (w.1 6 7)
  else
    if l1 = 1 then
      some (w.1 6 6)
    else
      if l1 = 2 then
        bnd (f_X0_set  w) fun x1 =>
        some x1
      else
        if l1 = 3 then
          bnd (f_X0_set  w) fun x2 =>
          some (f_J6_bitCount_0f7a4 x2)
        else
          if l1 = 4 then
            some (w.1 37 4)
          else
            if l1 = 5 then
              some (w.1 1 1)
            else
              if l1 = 6 then
                bnd (f_X11_centre  w) fun x3 =>
                if x3 = (w.1 6 8) then
                  some 1
                else
                  some 0
              else
                if l1 = 7 then
                  bnd (f_X0_valueAt ((16 + l1) - 7) w) fun x4 =>
                  some x4
                else
                  if l1 = 8 then
                    bnd (f_X0_valueAt ((16 + l1) - 7) w) fun x5 =>
                    some x5
                  else
                    if l1 = 9 then
                      bnd (f_X0_valueAt ((16 + l1) - 7) w) fun x6 =>
                      some x6
                    else
                      if l1 = 10 then
                        some (w.1 13 6)
                      else
                        if l1 = 11 then
                          bnd (f_X0_weightOf (w.1 6 8) w) fun x7 =>
                          some x7
                        else
                          some (-1)
set_option maxHeartbeats 4000000 in
set_option maxRecDepth 100000 in
theorem ok_X11_count {G : GT} {d : Nat} (hd : 3 ≤ d) {w : Wd} (l1 : Int32) {r : Int32} (h : f_X11_count l1 w = some r) : uC G yX11_count mX11_count d [.ref 0, .int l1] w (some (.int r)) w := by
  obtain ⟨d, rfl⟩ : ∃ e, d = e + 1 := ⟨d - 1, by omega⟩
  unfold f_X11_count at h
  refine uC_of (lv := [some (.ref 0), some (.int l1)]) 0 pn_X11 ⟨rfl, rfl⟩ (Nat.le_of_ble_eq_true rfl) rfl ?_
  refine V.iload_n (pc := 0) dX11_count_0 rfl ?_
  rcases ite_e h with ⟨c, h⟩ | ⟨c0, h⟩
  · refine V.tswIn (t := 64) (pc := 1) dX11_count_1 c (by decide) (by decide) rfl (by decide) ?_
    refine V.aload_n (pc := 64) dX11_count_64 rfl ?_
    refine V.getR (t := 6) (pc := 65) dX11_count_65 f_RX11_28 k_cl11 lx_0 ly_0 rb_11_2 rr_0_2 ?_
    refine V.getI (pc := 68) dX11_count_68 f_RX11_104 k_cl4 lx_6 ly_6 rb_4_7 ?_
    obtain rfl := Option.some.inj h
    exact V.iret (pc := 71) dX11_count_71 rfl (Nat.le_refl _) (Nat.le_refl _)
  · rcases ite_e h with ⟨c, h⟩ | ⟨c1, h⟩
    · refine V.tswIn (t := 72) (pc := 1) dX11_count_1 c (by decide) (by decide) rfl (by decide) ?_
      refine V.aload_n (pc := 72) dX11_count_72 rfl ?_
      refine V.getR (t := 6) (pc := 73) dX11_count_73 f_RX11_28 k_cl11 lx_0 ly_0 rb_11_2 rr_0_2 ?_
      refine V.getI (pc := 76) dX11_count_76 f_RX11_281 k_cl4 lx_6 ly_6 rb_4_6 ?_
      obtain rfl := Option.some.inj h
      exact V.iret (pc := 79) dX11_count_79 rfl (Nat.le_refl _) (Nat.le_refl _)
    · rcases ite_e h with ⟨c, h⟩ | ⟨c2, h⟩
      · refine V.tswIn (t := 80) (pc := 1) dX11_count_1 c (by decide) (by decide) rfl (by decide) ?_
        refine V.aload_n (pc := 80) dX11_count_80 rfl ?_
        refine V.getR (t := 37) (pc := 81) dX11_count_81 f_RX11_74 k_cl11 lx_0 ly_0 rb_11_8 rr_0_8 ?_
        obtain ⟨x1, ex1, h⟩ := bnd_e h
        refine U.callV (pc := 84) (As := []) (st := []) dX11_count_84 l_RX11_111 (ok_X0_set (by omega)  ex1) lx_37 ly_37 cn_0 (Nat.le_of_ble_eq_true rfl) rfl rfl (Nat.le_of_ble_eq_true rfl) ?_
        obtain rfl := Option.some.inj h
        exact V.iret (pc := 87) dX11_count_87 rfl (Nat.le_refl _) (Nat.le_refl _)
      · rcases ite_e h with ⟨c, h⟩ | ⟨c3, h⟩
        · refine V.tswIn (t := 88) (pc := 1) dX11_count_1 c (by decide) (by decide) rfl (by decide) ?_
          refine V.aload_n (pc := 88) dX11_count_88 rfl ?_
          refine V.getR (t := 37) (pc := 89) dX11_count_89 f_RX11_74 k_cl11 lx_0 ly_0 rb_11_8 rr_0_8 ?_
          obtain ⟨x2, ex2, h⟩ := bnd_e h
          refine U.callV (pc := 92) (As := []) (st := []) dX11_count_92 l_RX11_111 (ok_X0_set (by omega)  ex2) lx_37 ly_37 cn_0 (Nat.le_of_ble_eq_true rfl) rfl rfl (Nat.le_of_ble_eq_true rfl) ?_
          refine U.callS (pc := 95) (As := [.int x2]) (st := []) dX11_count_95 l_RX11_127 (ok_J6_bitCount_0f7a4 (by omega) x2 ) (Nat.le_of_ble_eq_true rfl) rfl rfl (Nat.le_of_ble_eq_true rfl) ?_
          obtain rfl := Option.some.inj h
          exact V.iret (pc := 98) dX11_count_98 rfl (Nat.le_refl _) (Nat.le_refl _)
        · rcases ite_e h with ⟨c, h⟩ | ⟨c4, h⟩
          · refine V.tswIn (t := 99) (pc := 1) dX11_count_1 c (by decide) (by decide) rfl (by decide) ?_
            refine V.aload_n (pc := 99) dX11_count_99 rfl ?_
            refine V.getR (t := 37) (pc := 100) dX11_count_100 f_RX11_74 k_cl11 lx_0 ly_0 rb_11_8 rr_0_8 ?_
            refine V.getI (pc := 103) dX11_count_103 f_RX11_311 k_cl0 lx_37 ly_37 rb_0_4 ?_
            obtain rfl := Option.some.inj h
            exact V.iret (pc := 106) dX11_count_106 rfl (Nat.le_refl _) (Nat.le_refl _)
          · rcases ite_e h with ⟨c, h⟩ | ⟨c5, h⟩
            · refine V.tswIn (t := 107) (pc := 1) dX11_count_1 c (by decide) (by decide) rfl (by decide) ?_
              refine V.aload_n (pc := 107) dX11_count_107 rfl ?_
              refine V.getR (t := 1) (pc := 108) dX11_count_108 f_RX11_10 k_cl11 lx_0 ly_0 rb_11_0 rr_0_0 ?_
              refine V.getI (pc := 111) dX11_count_111 f_RX11_92 k_cl9 lx_1 ly_1 rb_9_1 ?_
              obtain rfl := Option.some.inj h
              exact V.iret (pc := 114) dX11_count_114 rfl (Nat.le_refl _) (Nat.le_refl _)
            · rcases ite_e h with ⟨c, h⟩ | ⟨c6, h⟩
              · refine V.tswIn (t := 115) (pc := 1) dX11_count_1 c (by decide) (by decide) rfl (by decide) ?_
                refine V.aload_n (pc := 115) dX11_count_115 rfl ?_
                obtain ⟨x3, ex3, h⟩ := bnd_e h
                refine U.callV (pc := 116) (As := []) (st := []) dX11_count_116 l_RX11_314 (ok_X11_centre (by omega)  ex3) lx_0 ly_0 cn_11 (Nat.le_of_ble_eq_true rfl) rfl rfl (Nat.le_of_ble_eq_true rfl) ?_
                refine V.aload_n (pc := 119) dX11_count_119 rfl ?_
                refine V.getR (t := 6) (pc := 120) dX11_count_120 f_RX11_28 k_cl11 lx_0 ly_0 rb_11_2 rr_0_2 ?_
                refine V.getI (pc := 123) dX11_count_123 f_RX11_189 k_cl4 lx_6 ly_6 rb_4_8 ?_
                rcases ite_e h with ⟨c, h⟩ | ⟨c, h⟩
                · refine V.icmp_ne_f (t := 133) (pc := 126) dX11_count_126 (by decide) c ?_
                  refine V.iconst (pc := 129) dX11_count_129 ic_1 ?_
                  refine V.goto (t := 134) (pc := 130) dX11_count_130 (by decide) ?_
                  obtain rfl := Option.some.inj h
                  exact V.iret (pc := 134) dX11_count_134 rfl (Nat.le_refl _) (Nat.le_refl _)
                · refine V.icmp_ne_t (t := 133) (pc := 126) dX11_count_126 (by decide) c ?_
                  refine V.iconst (pc := 133) dX11_count_133 ic_0 ?_
                  obtain rfl := Option.some.inj h
                  exact V.iret (pc := 134) dX11_count_134 rfl (Nat.le_refl _) (Nat.le_refl _)
              · rcases ite_e h with ⟨c, h⟩ | ⟨c7, h⟩
                · refine V.tswIn (t := 135) (pc := 1) dX11_count_1 c (by decide) (by decide) rfl (by decide) ?_
                  refine V.aload_n (pc := 135) dX11_count_135 rfl ?_
                  refine V.getR (t := 37) (pc := 136) dX11_count_136 f_RX11_74 k_cl11 lx_0 ly_0 rb_11_8 rr_0_8 ?_
                  refine V.bipush (pc := 139) dX11_count_139 bp_16 ?_
                  refine V.iload_n (pc := 141) dX11_count_141 rfl ?_
                  refine V.iadd (pc := 142) dX11_count_142 ?_
                  refine V.bipush (pc := 143) dX11_count_143 bp_7 ?_
                  refine V.isub (pc := 145) dX11_count_145 ?_
                  obtain ⟨x4, ex4, h⟩ := bnd_e h
                  refine U.callV (pc := 146) (As := [.int ((16 + l1) - 7)]) (st := []) dX11_count_146 l_RX11_150 (ok_X0_valueAt (by omega) ((16 + l1) - 7) ex4) lx_37 ly_37 cn_0 (Nat.le_of_ble_eq_true rfl) rfl rfl (Nat.le_of_ble_eq_true rfl) ?_
                  obtain rfl := Option.some.inj h
                  exact V.iret (pc := 149) dX11_count_149 rfl (Nat.le_refl _) (Nat.le_refl _)
                · rcases ite_e h with ⟨c, h⟩ | ⟨c8, h⟩
                  · refine V.tswIn (t := 135) (pc := 1) dX11_count_1 c (by decide) (by decide) rfl (by decide) ?_
                    refine V.aload_n (pc := 135) dX11_count_135 rfl ?_
                    refine V.getR (t := 37) (pc := 136) dX11_count_136 f_RX11_74 k_cl11 lx_0 ly_0 rb_11_8 rr_0_8 ?_
                    refine V.bipush (pc := 139) dX11_count_139 bp_16 ?_
                    refine V.iload_n (pc := 141) dX11_count_141 rfl ?_
                    refine V.iadd (pc := 142) dX11_count_142 ?_
                    refine V.bipush (pc := 143) dX11_count_143 bp_7 ?_
                    refine V.isub (pc := 145) dX11_count_145 ?_
                    obtain ⟨x5, ex5, h⟩ := bnd_e h
                    refine U.callV (pc := 146) (As := [.int ((16 + l1) - 7)]) (st := []) dX11_count_146 l_RX11_150 (ok_X0_valueAt (by omega) ((16 + l1) - 7) ex5) lx_37 ly_37 cn_0 (Nat.le_of_ble_eq_true rfl) rfl rfl (Nat.le_of_ble_eq_true rfl) ?_
                    obtain rfl := Option.some.inj h
                    exact V.iret (pc := 149) dX11_count_149 rfl (Nat.le_refl _) (Nat.le_refl _)
                  · rcases ite_e h with ⟨c, h⟩ | ⟨c9, h⟩
                    · refine V.tswIn (t := 135) (pc := 1) dX11_count_1 c (by decide) (by decide) rfl (by decide) ?_
                      refine V.aload_n (pc := 135) dX11_count_135 rfl ?_
                      refine V.getR (t := 37) (pc := 136) dX11_count_136 f_RX11_74 k_cl11 lx_0 ly_0 rb_11_8 rr_0_8 ?_
                      refine V.bipush (pc := 139) dX11_count_139 bp_16 ?_
                      refine V.iload_n (pc := 141) dX11_count_141 rfl ?_
                      refine V.iadd (pc := 142) dX11_count_142 ?_
                      refine V.bipush (pc := 143) dX11_count_143 bp_7 ?_
                      refine V.isub (pc := 145) dX11_count_145 ?_
                      obtain ⟨x6, ex6, h⟩ := bnd_e h
                      refine U.callV (pc := 146) (As := [.int ((16 + l1) - 7)]) (st := []) dX11_count_146 l_RX11_150 (ok_X0_valueAt (by omega) ((16 + l1) - 7) ex6) lx_37 ly_37 cn_0 (Nat.le_of_ble_eq_true rfl) rfl rfl (Nat.le_of_ble_eq_true rfl) ?_
                      obtain rfl := Option.some.inj h
                      exact V.iret (pc := 149) dX11_count_149 rfl (Nat.le_refl _) (Nat.le_refl _)
                    · rcases ite_e h with ⟨c, h⟩ | ⟨c10, h⟩
                      · refine V.tswIn (t := 150) (pc := 1) dX11_count_1 c (by decide) (by decide) rfl (by decide) ?_
                        refine V.aload_n (pc := 150) dX11_count_150 rfl ?_
                        refine V.getR (t := 13) (pc := 151) dX11_count_151 f_RX11_37 k_cl11 lx_0 ly_0 rb_11_3 rr_0_3 ?_
                        refine V.getI (pc := 154) dX11_count_154 f_RX11_177 k_cl1 lx_13 ly_13 rb_1_6 ?_
                        obtain rfl := Option.some.inj h
                        exact V.iret (pc := 157) dX11_count_157 rfl (Nat.le_refl _) (Nat.le_refl _)
                      · rcases ite_e h with ⟨c, h⟩ | ⟨c11, h⟩
                        · refine V.tswIn (t := 158) (pc := 1) dX11_count_1 c (by decide) (by decide) rfl (by decide) ?_
                          refine V.aload_n (pc := 158) dX11_count_158 rfl ?_
                          refine V.getR (t := 37) (pc := 159) dX11_count_159 f_RX11_74 k_cl11 lx_0 ly_0 rb_11_8 rr_0_8 ?_
                          refine V.aload_n (pc := 162) dX11_count_162 rfl ?_
                          refine V.getR (t := 6) (pc := 163) dX11_count_163 f_RX11_28 k_cl11 lx_0 ly_0 rb_11_2 rr_0_2 ?_
                          refine V.getI (pc := 166) dX11_count_166 f_RX11_189 k_cl4 lx_6 ly_6 rb_4_8 ?_
                          obtain ⟨x7, ex7, h⟩ := bnd_e h
                          refine U.callV (pc := 169) (As := [.int (w.1 6 8)]) (st := []) dX11_count_169 l_RX11_225 (ok_X0_weightOf (by omega) (w.1 6 8) ex7) lx_37 ly_37 cn_0 (Nat.le_of_ble_eq_true rfl) rfl rfl (Nat.le_of_ble_eq_true rfl) ?_
                          obtain rfl := Option.some.inj h
                          exact V.iret (pc := 172) dX11_count_172 rfl (Nat.le_refl _) (Nat.le_refl _)
                        · refine V.tswOut (t := 173) (pc := 1) dX11_count_1 (tsw_12 c0 c1 c2 c3 c4 c5 c6 c7 c8 c9 c10 c11) (by decide) ?_
                          refine V.iconst (pc := 173) dX11_count_173 ic_m1 ?_
                          obtain rfl := Option.some.inj h
                          exact V.iret (pc := 174) dX11_count_174 rfl (Nat.le_refl _) (Nat.le_refl _)
theorem dX12_count_0 : decode cX12_count 0 = .ok (.iload_n 1, 1) := by decide +kernel
theorem dX12_count_1 : decode cX12_count 1 = .ok (.tableswitch 152 0 11 #[63, 68, 73, 80, 90, 95, 100, 117, 124, 131, 138, 143], 63) := by decide +kernel
theorem dX12_count_64 : decode cX12_count 64 = .ok (.aload_n 0, 1) := by decide +kernel
theorem dX12_count_65 : decode cX12_count 65 = .ok (.getfield 92, 3) := by decide +kernel
theorem dX12_count_68 : decode cX12_count 68 = .ok (.ireturn, 1) := by decide +kernel
theorem dX12_count_69 : decode cX12_count 69 = .ok (.aload_n 0, 1) := by decide +kernel
theorem dX12_count_70 : decode cX12_count 70 = .ok (.getfield 106, 3) := by decide +kernel
theorem dX12_count_73 : decode cX12_count 73 = .ok (.ireturn, 1) := by decide +kernel
theorem dX12_count_74 : decode cX12_count 74 = .ok (.aload_n 0, 1) := by decide +kernel
theorem dX12_count_75 : decode cX12_count 75 = .ok (.getfield 42, 3) := by decide +kernel
theorem dX12_count_78 : decode cX12_count 78 = .ok (.iconst 0, 1) := by decide +kernel
theorem dX12_count_79 : decode cX12_count 79 = .ok (.iaload, 1) := by decide +kernel
theorem dX12_count_80 : decode cX12_count 80 = .ok (.ireturn, 1) := by decide +kernel
theorem dX12_count_81 : decode cX12_count 81 = .ok (.aload_n 0, 1) := by decide +kernel
theorem dX12_count_82 : decode cX12_count 82 = .ok (.getfield 42, 3) := by decide +kernel
theorem dX12_count_85 : decode cX12_count 85 = .ok (.iconst 0, 1) := by decide +kernel
theorem dX12_count_86 : decode cX12_count 86 = .ok (.iaload, 1) := by decide +kernel
theorem dX12_count_87 : decode cX12_count 87 = .ok (.invokestatic 172, 3) := by decide +kernel
theorem dX12_count_90 : decode cX12_count 90 = .ok (.ireturn, 1) := by decide +kernel
theorem dX12_count_91 : decode cX12_count 91 = .ok (.aload_n 0, 1) := by decide +kernel
theorem dX12_count_92 : decode cX12_count 92 = .ok (.getfield 157, 3) := by decide +kernel
theorem dX12_count_95 : decode cX12_count 95 = .ok (.ireturn, 1) := by decide +kernel
theorem dX12_count_96 : decode cX12_count 96 = .ok (.aload_n 0, 1) := by decide +kernel
theorem dX12_count_97 : decode cX12_count 97 = .ok (.getfield 286, 3) := by decide +kernel
theorem dX12_count_100 : decode cX12_count 100 = .ok (.ireturn, 1) := by decide +kernel
theorem dX12_count_101 : decode cX12_count 101 = .ok (.aload_n 0, 1) := by decide +kernel
theorem dX12_count_102 : decode cX12_count 102 = .ok (.invokevirtual 188, 3) := by decide +kernel
theorem dX12_count_105 : decode cX12_count 105 = .ok (.aload_n 0, 1) := by decide +kernel
theorem dX12_count_106 : decode cX12_count 106 = .ok (.invokevirtual 143, 3) := by decide +kernel
theorem dX12_count_109 : decode cX12_count 109 = .ok (.if_icmp .ne 7, 3) := by decide +kernel
theorem dX12_count_112 : decode cX12_count 112 = .ok (.iconst 1, 1) := by decide +kernel
theorem dX12_count_113 : decode cX12_count 113 = .ok (.goto 4, 3) := by decide +kernel
theorem dX12_count_116 : decode cX12_count 116 = .ok (.iconst 0, 1) := by decide +kernel
theorem dX12_count_117 : decode cX12_count 117 = .ok (.ireturn, 1) := by decide +kernel
theorem dX12_count_118 : decode cX12_count 118 = .ok (.aload_n 0, 1) := by decide +kernel
theorem dX12_count_119 : decode cX12_count 119 = .ok (.getfield 42, 3) := by decide +kernel
theorem dX12_count_122 : decode cX12_count 122 = .ok (.iconst 1, 1) := by decide +kernel
theorem dX12_count_123 : decode cX12_count 123 = .ok (.iaload, 1) := by decide +kernel
theorem dX12_count_124 : decode cX12_count 124 = .ok (.ireturn, 1) := by decide +kernel
theorem dX12_count_125 : decode cX12_count 125 = .ok (.aload_n 0, 1) := by decide +kernel
theorem dX12_count_126 : decode cX12_count 126 = .ok (.getfield 42, 3) := by decide +kernel
theorem dX12_count_129 : decode cX12_count 129 = .ok (.iconst 2, 1) := by decide +kernel
theorem dX12_count_130 : decode cX12_count 130 = .ok (.iaload, 1) := by decide +kernel
theorem dX12_count_131 : decode cX12_count 131 = .ok (.ireturn, 1) := by decide +kernel
theorem dX12_count_132 : decode cX12_count 132 = .ok (.aload_n 0, 1) := by decide +kernel
theorem dX12_count_133 : decode cX12_count 133 = .ok (.getfield 42, 3) := by decide +kernel
theorem dX12_count_136 : decode cX12_count 136 = .ok (.iconst 3, 1) := by decide +kernel
theorem dX12_count_137 : decode cX12_count 137 = .ok (.iaload, 1) := by decide +kernel
theorem dX12_count_138 : decode cX12_count 138 = .ok (.ireturn, 1) := by decide +kernel
theorem dX12_count_139 : decode cX12_count 139 = .ok (.aload_n 0, 1) := by decide +kernel
theorem dX12_count_140 : decode cX12_count 140 = .ok (.getfield 125, 3) := by decide +kernel
theorem dX12_count_143 : decode cX12_count 143 = .ok (.ireturn, 1) := by decide +kernel
theorem dX12_count_144 : decode cX12_count 144 = .ok (.aload_n 0, 1) := by decide +kernel
theorem dX12_count_145 : decode cX12_count 145 = .ok (.aload_n 0, 1) := by decide +kernel
theorem dX12_count_146 : decode cX12_count 146 = .ok (.invokevirtual 143, 3) := by decide +kernel
theorem dX12_count_149 : decode cX12_count 149 = .ok (.invokevirtual 209, 3) := by decide +kernel
theorem dX12_count_152 : decode cX12_count 152 = .ok (.ireturn, 1) := by decide +kernel
theorem dX12_count_153 : decode cX12_count 153 = .ok (.iconst (-1), 1) := by decide +kernel
theorem dX12_count_154 : decode cX12_count 154 = .ok (.ireturn, 1) := by decide +kernel
def f_X12_count (l1 : Int32) (w : Wd) : Option Int32 :=
  if l1 = 0 then
    some (w.1 44 1)
  else
    if l1 = 1 then
      some (w.1 44 2)
    else
      if l1 = 2 then
        rdI w 54 20 0 fun x1 =>
        some x1
      else
        if l1 = 3 then
          rdI w 54 20 0 fun x2 =>
          bnd (f_X12_ones x2) fun x3 =>
          some x3
        else
          if l1 = 4 then
            some (w.1 44 15)
          else
            if l1 = 5 then
              some (w.1 44 30)
            else
              if l1 = 6 then
                bnd (f_X12_centreNow  w) fun x4 =>
                if x4 = (f_X12_all  w) then
                  some 1
                else
                  some 0
              else
                if l1 = 7 then
                  rdI w 54 20 1 fun x5 =>
                  some x5
                else
                  if l1 = 8 then
                    rdI w 54 20 2 fun x6 =>
                    some x6
                  else
                    if l1 = 9 then
                      rdI w 54 20 3 fun x7 =>
                      some x7
                    else
                      if l1 = 10 then
                        some (w.1 44 9)
                      else
                        if l1 = 11 then
                          bnd (f_X12_weightOf (f_X12_all  w) w) fun x8 =>
                          some x8
                        else
                          some (-1)
set_option maxHeartbeats 4000000 in
set_option maxRecDepth 100000 in
theorem ok_X12_count {G : GT} {d : Nat} (hd : 2 ≤ d) {w : Wd} (l1 : Int32) {r : Int32} (h : f_X12_count l1 w = some r) : uC G yX12_count mX12_count d [.ref 44, .int l1] w (some (.int r)) w := by
  obtain ⟨d, rfl⟩ : ∃ e, d = e + 1 := ⟨d - 1, by omega⟩
  unfold f_X12_count at h
  refine uC_of (lv := [some (.ref 44), some (.int l1)]) 0 pn_X12 ⟨rfl, rfl⟩ (Nat.le_of_ble_eq_true rfl) rfl ?_
  refine V.iload_n (pc := 0) dX12_count_0 rfl ?_
  rcases ite_e h with ⟨c, h⟩ | ⟨c0, h⟩
  · refine V.tswIn (t := 64) (pc := 1) dX12_count_1 c (by decide) (by decide) rfl (by decide) ?_
    refine V.aload_n (pc := 64) dX12_count_64 rfl ?_
    refine V.getI (pc := 65) dX12_count_65 f_RX12_92 k_cl12 lx_44 ly_44 rb_12_1 ?_
    obtain rfl := Option.some.inj h
    exact V.iret (pc := 68) dX12_count_68 rfl (Nat.le_refl _) (Nat.le_refl _)
  · rcases ite_e h with ⟨c, h⟩ | ⟨c1, h⟩
    · refine V.tswIn (t := 69) (pc := 1) dX12_count_1 c (by decide) (by decide) rfl (by decide) ?_
      refine V.aload_n (pc := 69) dX12_count_69 rfl ?_
      refine V.getI (pc := 70) dX12_count_70 f_RX12_106 k_cl12 lx_44 ly_44 rb_12_2 ?_
      obtain rfl := Option.some.inj h
      exact V.iret (pc := 73) dX12_count_73 rfl (Nat.le_refl _) (Nat.le_refl _)
    · rcases ite_e h with ⟨c, h⟩ | ⟨c2, h⟩
      · refine V.tswIn (t := 74) (pc := 1) dX12_count_1 c (by decide) (by decide) rfl (by decide) ?_
        refine V.aload_n (pc := 74) dX12_count_74 rfl ?_
        refine V.getR (t := 54) (pc := 75) dX12_count_75 f_RX12_42 k_cl12 lx_44 ly_44 rb_12_13 rr_44_13 ?_
        refine V.iconst (pc := 78) dX12_count_78 ic_0 ?_
        obtain ⟨x1, ix1, ex1, h⟩ := rdI_e h
        refine V.ialdX (pc := 79) dX12_count_79 lx_54 ly_54 ix1 ex1 ?_
        obtain rfl := Option.some.inj h
        exact V.iret (pc := 80) dX12_count_80 rfl (Nat.le_refl _) (Nat.le_refl _)
      · rcases ite_e h with ⟨c, h⟩ | ⟨c3, h⟩
        · refine V.tswIn (t := 81) (pc := 1) dX12_count_1 c (by decide) (by decide) rfl (by decide) ?_
          refine V.aload_n (pc := 81) dX12_count_81 rfl ?_
          refine V.getR (t := 54) (pc := 82) dX12_count_82 f_RX12_42 k_cl12 lx_44 ly_44 rb_12_13 rr_44_13 ?_
          refine V.iconst (pc := 85) dX12_count_85 ic_0 ?_
          obtain ⟨x2, ix2, ex2, h⟩ := rdI_e h
          refine V.ialdX (pc := 86) dX12_count_86 lx_54 ly_54 ix2 ex2 ?_
          obtain ⟨x3, ex3, h⟩ := bnd_e h
          refine U.callS (pc := 87) (As := [.int x2]) (st := []) dX12_count_87 l_RX12_172 (ok_X12_ones (by omega) x2 ex3) (Nat.le_of_ble_eq_true rfl) rfl rfl (Nat.le_of_ble_eq_true rfl) ?_
          obtain rfl := Option.some.inj h
          exact V.iret (pc := 90) dX12_count_90 rfl (Nat.le_refl _) (Nat.le_refl _)
        · rcases ite_e h with ⟨c, h⟩ | ⟨c4, h⟩
          · refine V.tswIn (t := 91) (pc := 1) dX12_count_1 c (by decide) (by decide) rfl (by decide) ?_
            refine V.aload_n (pc := 91) dX12_count_91 rfl ?_
            refine V.getI (pc := 92) dX12_count_92 f_RX12_157 k_cl12 lx_44 ly_44 rb_12_15 ?_
            obtain rfl := Option.some.inj h
            exact V.iret (pc := 95) dX12_count_95 rfl (Nat.le_refl _) (Nat.le_refl _)
          · rcases ite_e h with ⟨c, h⟩ | ⟨c5, h⟩
            · refine V.tswIn (t := 96) (pc := 1) dX12_count_1 c (by decide) (by decide) rfl (by decide) ?_
              refine V.aload_n (pc := 96) dX12_count_96 rfl ?_
              refine V.getI (pc := 97) dX12_count_97 f_RX12_286 k_cl12 lx_44 ly_44 rb_12_30 ?_
              obtain rfl := Option.some.inj h
              exact V.iret (pc := 100) dX12_count_100 rfl (Nat.le_refl _) (Nat.le_refl _)
            · rcases ite_e h with ⟨c, h⟩ | ⟨c6, h⟩
              · refine V.tswIn (t := 101) (pc := 1) dX12_count_1 c (by decide) (by decide) rfl (by decide) ?_
                refine V.aload_n (pc := 101) dX12_count_101 rfl ?_
                obtain ⟨x4, ex4, h⟩ := bnd_e h
                refine U.callV (pc := 102) (As := []) (st := []) dX12_count_102 l_RX12_188 (ok_X12_centreNow (by omega)  ex4) lx_44 ly_44 cn_12 (Nat.le_of_ble_eq_true rfl) rfl rfl (Nat.le_of_ble_eq_true rfl) ?_
                refine V.aload_n (pc := 105) dX12_count_105 rfl ?_
                refine U.callV (pc := 106) (As := []) (st := [.int x4]) dX12_count_106 l_RX12_143 (ok_X12_all (by omega)  ) lx_44 ly_44 cn_12 (Nat.le_of_ble_eq_true rfl) rfl rfl (Nat.le_of_ble_eq_true rfl) ?_
                rcases ite_e h with ⟨c, h⟩ | ⟨c, h⟩
                · refine V.icmp_ne_f (t := 116) (pc := 109) dX12_count_109 (by decide) c ?_
                  refine V.iconst (pc := 112) dX12_count_112 ic_1 ?_
                  refine V.goto (t := 117) (pc := 113) dX12_count_113 (by decide) ?_
                  obtain rfl := Option.some.inj h
                  exact V.iret (pc := 117) dX12_count_117 rfl (Nat.le_refl _) (Nat.le_refl _)
                · refine V.icmp_ne_t (t := 116) (pc := 109) dX12_count_109 (by decide) c ?_
                  refine V.iconst (pc := 116) dX12_count_116 ic_0 ?_
                  obtain rfl := Option.some.inj h
                  exact V.iret (pc := 117) dX12_count_117 rfl (Nat.le_refl _) (Nat.le_refl _)
              · rcases ite_e h with ⟨c, h⟩ | ⟨c7, h⟩
                · refine V.tswIn (t := 118) (pc := 1) dX12_count_1 c (by decide) (by decide) rfl (by decide) ?_
                  refine V.aload_n (pc := 118) dX12_count_118 rfl ?_
                  refine V.getR (t := 54) (pc := 119) dX12_count_119 f_RX12_42 k_cl12 lx_44 ly_44 rb_12_13 rr_44_13 ?_
                  refine V.iconst (pc := 122) dX12_count_122 ic_1 ?_
                  obtain ⟨x5, ix5, ex5, h⟩ := rdI_e h
                  refine V.ialdX (pc := 123) dX12_count_123 lx_54 ly_54 ix5 ex5 ?_
                  obtain rfl := Option.some.inj h
                  exact V.iret (pc := 124) dX12_count_124 rfl (Nat.le_refl _) (Nat.le_refl _)
                · rcases ite_e h with ⟨c, h⟩ | ⟨c8, h⟩
                  · refine V.tswIn (t := 125) (pc := 1) dX12_count_1 c (by decide) (by decide) rfl (by decide) ?_
                    refine V.aload_n (pc := 125) dX12_count_125 rfl ?_
                    refine V.getR (t := 54) (pc := 126) dX12_count_126 f_RX12_42 k_cl12 lx_44 ly_44 rb_12_13 rr_44_13 ?_
                    refine V.iconst (pc := 129) dX12_count_129 ic_2 ?_
                    obtain ⟨x6, ix6, ex6, h⟩ := rdI_e h
                    refine V.ialdX (pc := 130) dX12_count_130 lx_54 ly_54 ix6 ex6 ?_
                    obtain rfl := Option.some.inj h
                    exact V.iret (pc := 131) dX12_count_131 rfl (Nat.le_refl _) (Nat.le_refl _)
                  · rcases ite_e h with ⟨c, h⟩ | ⟨c9, h⟩
                    · refine V.tswIn (t := 132) (pc := 1) dX12_count_1 c (by decide) (by decide) rfl (by decide) ?_
                      refine V.aload_n (pc := 132) dX12_count_132 rfl ?_
                      refine V.getR (t := 54) (pc := 133) dX12_count_133 f_RX12_42 k_cl12 lx_44 ly_44 rb_12_13 rr_44_13 ?_
                      refine V.iconst (pc := 136) dX12_count_136 ic_3 ?_
                      obtain ⟨x7, ix7, ex7, h⟩ := rdI_e h
                      refine V.ialdX (pc := 137) dX12_count_137 lx_54 ly_54 ix7 ex7 ?_
                      obtain rfl := Option.some.inj h
                      exact V.iret (pc := 138) dX12_count_138 rfl (Nat.le_refl _) (Nat.le_refl _)
                    · rcases ite_e h with ⟨c, h⟩ | ⟨c10, h⟩
                      · refine V.tswIn (t := 139) (pc := 1) dX12_count_1 c (by decide) (by decide) rfl (by decide) ?_
                        refine V.aload_n (pc := 139) dX12_count_139 rfl ?_
                        refine V.getI (pc := 140) dX12_count_140 f_RX12_125 k_cl12 lx_44 ly_44 rb_12_9 ?_
                        obtain rfl := Option.some.inj h
                        exact V.iret (pc := 143) dX12_count_143 rfl (Nat.le_refl _) (Nat.le_refl _)
                      · rcases ite_e h with ⟨c, h⟩ | ⟨c11, h⟩
                        · refine V.tswIn (t := 144) (pc := 1) dX12_count_1 c (by decide) (by decide) rfl (by decide) ?_
                          refine V.aload_n (pc := 144) dX12_count_144 rfl ?_
                          refine V.aload_n (pc := 145) dX12_count_145 rfl ?_
                          refine U.callV (pc := 146) (As := []) (st := [.ref 44]) dX12_count_146 l_RX12_143 (ok_X12_all (by omega)  ) lx_44 ly_44 cn_12 (Nat.le_of_ble_eq_true rfl) rfl rfl (Nat.le_of_ble_eq_true rfl) ?_
                          obtain ⟨x8, ex8, h⟩ := bnd_e h
                          refine U.callV (pc := 149) (As := [.int (f_X12_all  w)]) (st := []) dX12_count_149 l_RX12_209 (ok_X12_weightOf (by omega) (f_X12_all  w) ex8) lx_44 ly_44 cn_12 (Nat.le_of_ble_eq_true rfl) rfl rfl (Nat.le_of_ble_eq_true rfl) ?_
                          obtain rfl := Option.some.inj h
                          exact V.iret (pc := 152) dX12_count_152 rfl (Nat.le_refl _) (Nat.le_refl _)
                        · refine V.tswOut (t := 153) (pc := 1) dX12_count_1 (tsw_12 c0 c1 c2 c3 c4 c5 c6 c7 c8 c9 c10 c11) (by decide) ?_
                          refine V.iconst (pc := 153) dX12_count_153 ic_m1 ?_
                          obtain rfl := Option.some.inj h
                          exact V.iret (pc := 154) dX12_count_154 rfl (Nat.le_refl _) (Nat.le_refl _)
