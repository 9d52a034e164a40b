theorem dX11_text_0 : decode cX11_text 0 = .ok (.aload_n 0, 1) := by decide +kernel
theorem dX11_text_1 : decode cX11_text 1 = .ok (.getfield 21, 3) := by decide +kernel
theorem dX11_text_4 : decode cX11_text 4 = .ok (.invokevirtual 100, 3) := by decide +kernel
theorem dX11_text_7 : decode cX11_text 7 = .ok (.istore_n 1, 1) := by decide +kernel
theorem dX11_text_8 : decode cX11_text 8 = .ok (.aload_n 0, 1) := by decide +kernel
theorem dX11_text_9 : decode cX11_text 9 = .ok (.getfield 10, 3) := by decide +kernel
theorem dX11_text_12 : decode cX11_text 12 = .ok (.iconst 0, 1) := by decide +kernel
theorem dX11_text_13 : decode cX11_text 13 = .ok (.putfield 92, 3) := by decide +kernel
theorem dX11_text_16 : decode cX11_text 16 = .ok (.iload_n 1, 1) := by decide +kernel
theorem dX11_text_17 : decode cX11_text 17 = .ok (.iconst (-1), 1) := by decide +kernel
theorem dX11_text_18 : decode cX11_text 18 = .ok (.if_icmp .eq 8, 3) := by decide +kernel
theorem dX11_text_21 : decode cX11_text 21 = .ok (.bipush (-4), 2) := by decide +kernel
theorem dX11_text_23 : decode cX11_text 23 = .ok (.iload_n 1, 1) := by decide +kernel
theorem dX11_text_24 : decode cX11_text 24 = .ok (.isub, 1) := by decide +kernel
theorem dX11_text_25 : decode cX11_text 25 = .ok (.ireturn, 1) := by decide +kernel
theorem dX11_text_26 : decode cX11_text 26 = .ok (.aload_n 0, 1) := by decide +kernel
theorem dX11_text_27 : decode cX11_text 27 = .ok (.invokevirtual 89, 3) := by decide +kernel
theorem dX11_text_30 : decode cX11_text 30 = .ok (.aload_n 0, 1) := by decide +kernel
theorem dX11_text_31 : decode cX11_text 31 = .ok (.getfield 28, 3) := by decide +kernel
theorem dX11_text_34 : decode cX11_text 34 = .ok (.getfield 104, 3) := by decide +kernel
theorem dX11_text_37 : decode cX11_text 37 = .ok (.ireturn, 1) := by decide +kernel
def f_X11_text (w : Wd) : Option (Int32 × Wd) :=
  bnd2 (f_X7_readTape  w) fun x1 w2 =>
  letW (sI w2 1 1 0) fun w3 =>
  if x1 = (-1) then
    bnd (f_X11_renew  w3) fun w4 =>
    some ((w4.1 6 7), w4)
  else
    some (((-4) - x1), w3)
set_option maxHeartbeats 4000000 in
set_option maxRecDepth 100000 in
theorem ok_X11_text {G : GT} {d : Nat} (hd : 9 ≤ d) {w : Wd}  {r : Int32} {w' : Wd} (h : f_X11_text  w = some (r, w')) : uC G yX11_text mX11_text d [.ref 0] w (some (.int r)) w' := by
  obtain ⟨d, rfl⟩ : ∃ e, d = e + 1 := ⟨d - 1, by omega⟩
  unfold f_X11_text at h
  refine uC_of (lv := [some (.ref 0), none]) 1 pn_X11 ⟨rfl, rfl⟩ (Nat.le_of_ble_eq_true rfl) rfl ?_
  refine V.aload_n (pc := 0) dX11_text_0 rfl ?_
  refine V.getR (t := 3) (pc := 1) dX11_text_1 f_RX11_21 k_cl11 lx_0 ly_0 rb_11_1 rr_0_1 ?_
  obtain ⟨x1, w2, ew2, h⟩ := bnd2_e h
  refine U.callV (pc := 4) (As := []) (st := []) dX11_text_4 l_RX11_100 (ok_X7_readTape (by omega)  ew2) lx_3 ly_3 cn_7 (Nat.le_of_ble_eq_true rfl) rfl rfl (Nat.le_of_ble_eq_true rfl) ?_
  refine V.istore_n (lv' := [some (.ref 0), some (.int x1)]) (pc := 7) dX11_text_7 (Nat.le_of_ble_eq_true rfl) rfl rfl ?_
  refine V.aload_n (pc := 8) dX11_text_8 rfl ?_
  refine V.getR (t := 1) (pc := 9) dX11_text_9 f_RX11_10 k_cl11 lx_0 ly_0 rb_11_0 rr_0_0 ?_
  refine V.iconst (pc := 12) dX11_text_12 ic_0 ?_
  obtain ⟨w3, ew3, h⟩ := letW_e h
  refine V.putIX (pc := 13) dX11_text_13 f_RX11_92 k_cl9 lx_1 ly_1 rb_9_1 (fin_I (T0 := TX9) rfl rfl rfl) ew3 ?_
  refine V.iload_n (pc := 16) dX11_text_16 rfl ?_
  refine V.iconst (pc := 17) dX11_text_17 ic_m1 ?_
  rcases ite_e h with ⟨c, h⟩ | ⟨c, h⟩
  · refine V.icmp_eq_t (t := 26) (pc := 18) dX11_text_18 (by decide) c ?_
    refine V.aload_n (pc := 26) dX11_text_26 rfl ?_
    obtain ⟨w4, ew4, h⟩ := bnd_e h
    refine U.callV (pc := 27) (As := []) (st := []) dX11_text_27 l_RX11_89 (ok_X11_renew (by omega)  ew4) lx_0 ly_0 cn_11 (Nat.le_of_ble_eq_true rfl) rfl rfl (Nat.le_of_ble_eq_true rfl) ?_
    refine V.aload_n (pc := 30) dX11_text_30 rfl ?_
    refine V.getR (t := 6) (pc := 31) dX11_text_31 f_RX11_28 k_cl11 lx_0 ly_0 rb_11_2 rr_0_2 ?_
    refine V.getI (pc := 34) dX11_text_34 f_RX11_104 k_cl4 lx_6 ly_6 rb_4_7 ?_
    obtain ⟨rfl, rfl⟩ := Prod.mk.inj (Option.some.inj h)
    exact V.iret (pc := 37) dX11_text_37 rfl (Nat.le_refl _) (Nat.le_refl _)
  · refine V.icmp_eq_f (t := 26) (pc := 18) dX11_text_18 (by decide) c ?_
    refine V.bipush (pc := 21) dX11_text_21 bp_m4 ?_
    refine V.iload_n (pc := 23) dX11_text_23 rfl ?_
    refine V.isub (pc := 24) dX11_text_24 ?_
    obtain ⟨rfl, rfl⟩ := Prod.mk.inj (Option.some.inj h)
    exact V.iret (pc := 25) dX11_text_25 rfl (Nat.le_refl _) (Nat.le_refl _)
theorem dX12_here_0 : decode cX12_here 0 = .ok (.aload_n 0, 1) := by decide +kernel
theorem dX12_here_1 : decode cX12_here 1 = .ok (.getfield 289, 3) := by decide +kernel
theorem dX12_here_4 : decode cX12_here 4 = .ok (.aload_n 0, 1) := by decide +kernel
theorem dX12_here_5 : decode cX12_here 5 = .ok (.getfield 286, 3) := by decide +kernel
theorem dX12_here_8 : decode cX12_here 8 = .ok (.if_icmp .ge 15, 3) := by decide +kernel
theorem dX12_here_11 : decode cX12_here 11 = .ok (.aload_n 0, 1) := by decide +kernel
theorem dX12_here_12 : decode cX12_here 12 = .ok (.getfield 79, 3) := by decide +kernel
theorem dX12_here_15 : decode cX12_here 15 = .ok (.aload_n 0, 1) := by decide +kernel
theorem dX12_here_16 : decode cX12_here 16 = .ok (.getfield 289, 3) := by decide +kernel
theorem dX12_here_19 : decode cX12_here 19 = .ok (.iaload, 1) := by decide +kernel
theorem dX12_here_20 : decode cX12_here 20 = .ok (.goto 4, 3) := by decide +kernel
theorem dX12_here_23 : decode cX12_here 23 = .ok (.iconst (-1), 1) := by decide +kernel
theorem dX12_here_24 : decode cX12_here 24 = .ok (.ireturn, 1) := by decide +kernel
def f_X12_here (w : Wd) : Option Int32 :=
  if (w.1 44 30) ≤ (w.1 44 32) then
    some (-1)
  else
    rdI w 66 200 (w.1 44 32) fun x1 =>
    some x1
set_option maxHeartbeats 4000000 in
set_option maxRecDepth 100000 in
theorem ok_X12_here {G : GT} {d : Nat} (hd : 0 ≤ d) {w : Wd}  {r : Int32} (h : f_X12_here  w = some r) : uC G yX12_here mX12_here d [.ref 44] w (some (.int r)) w := by
  unfold f_X12_here at h
  refine uC_of (lv := [some (.ref 44)]) 0 pn_X12 ⟨rfl, rfl⟩ (Nat.le_of_ble_eq_true rfl) rfl ?_
  refine V.aload_n (pc := 0) dX12_here_0 rfl ?_
  refine V.getI (pc := 1) dX12_here_1 f_RX12_289 k_cl12 lx_44 ly_44 rb_12_32 ?_
  refine V.aload_n (pc := 4) dX12_here_4 rfl ?_
  refine V.getI (pc := 5) dX12_here_5 f_RX12_286 k_cl12 lx_44 ly_44 rb_12_30 ?_
  rcases ite_e h with ⟨c, h⟩ | ⟨c, h⟩
  · refine V.icmp_ge_t (t := 23) (pc := 8) dX12_here_8 (by decide) c ?_
    refine V.iconst (pc := 23) dX12_here_23 ic_m1 ?_
    obtain rfl := Option.some.inj h
    exact V.iret (pc := 24) dX12_here_24 rfl (Nat.le_refl _) (Nat.le_refl _)
  · refine V.icmp_ge_f (t := 23) (pc := 8) dX12_here_8 (by decide) c ?_
    refine V.aload_n (pc := 11) dX12_here_11 rfl ?_
    refine V.getR (t := 66) (pc := 12) dX12_here_12 f_RX12_79 k_cl12 lx_44 ly_44 rb_12_29 rr_44_29 ?_
    refine V.aload_n (pc := 15) dX12_here_15 rfl ?_
    refine V.getI (pc := 16) dX12_here_16 f_RX12_289 k_cl12 lx_44 ly_44 rb_12_32 ?_
    obtain ⟨x1, ix1, ex1, h⟩ := rdI_e h
    refine V.ialdX (pc := 19) dX12_here_19 lx_66 ly_66 ix1 ex1 ?_
    refine V.goto (t := 24) (pc := 20) dX12_here_20 (by decide) ?_
    obtain rfl := Option.some.inj h
    exact V.iret (pc := 24) dX12_here_24 rfl (Nat.le_refl _) (Nat.le_refl _)
theorem dX12_goesOn_0 : decode cX12_goesOn 0 = .ok (.aload_n 0, 1) := by decide +kernel
theorem dX12_goesOn_1 : decode cX12_goesOn 1 = .ok (.getfield 292, 3) := by decide +kernel
theorem dX12_goesOn_4 : decode cX12_goesOn 4 = .ok (.istore_n 1, 1) := by decide +kernel
theorem dX12_goesOn_5 : decode cX12_goesOn 5 = .ok (.aload_n 0, 1) := by decide +kernel
theorem dX12_goesOn_6 : decode cX12_goesOn 6 = .ok (.getfield 289, 3) := by decide +kernel
theorem dX12_goesOn_9 : decode cX12_goesOn 9 = .ok (.istore_n 2, 1) := by decide +kernel
theorem dX12_goesOn_10 : decode cX12_goesOn 10 = .ok (.aload_n 0, 1) := by decide +kernel
theorem dX12_goesOn_11 : decode cX12_goesOn 11 = .ok (.invokevirtual 295, 3) := by decide +kernel
theorem dX12_goesOn_14 : decode cX12_goesOn 14 = .ok (.bipush 32, 2) := by decide +kernel
theorem dX12_goesOn_16 : decode cX12_goesOn 16 = .ok (.if_icmp .eq 12, 3) := by decide +kernel
theorem dX12_goesOn_19 : decode cX12_goesOn 19 = .ok (.aload_n 0, 1) := by decide +kernel
theorem dX12_goesOn_20 : decode cX12_goesOn 20 = .ok (.invokevirtual 295, 3) := by decide +kernel
theorem dX12_goesOn_23 : decode cX12_goesOn 23 = .ok (.bipush 10, 2) := by decide +kernel
theorem dX12_goesOn_25 : decode cX12_goesOn 25 = .ok (.if_icmp .ne 16, 3) := by decide +kernel
theorem dX12_goesOn_28 : decode cX12_goesOn 28 = .ok (.aload_n 0, 1) := by decide +kernel
theorem dX12_goesOn_29 : decode cX12_goesOn 29 = .ok (.dup, 1) := by decide +kernel
theorem dX12_goesOn_30 : decode cX12_goesOn 30 = .ok (.getfield 289, 3) := by decide +kernel
theorem dX12_goesOn_33 : decode cX12_goesOn 33 = .ok (.iconst 1, 1) := by decide +kernel
theorem dX12_goesOn_34 : decode cX12_goesOn 34 = .ok (.iadd, 1) := by decide +kernel
theorem dX12_goesOn_35 : decode cX12_goesOn 35 = .ok (.putfield 289, 3) := by decide +kernel
theorem dX12_goesOn_38 : decode cX12_goesOn 38 = .ok (.goto (-28), 3) := by decide +kernel
theorem dX12_goesOn_41 : decode cX12_goesOn 41 = .ok (.aload_n 0, 1) := by decide +kernel
theorem dX12_goesOn_42 : decode cX12_goesOn 42 = .ok (.aload_n 0, 1) := by decide +kernel
theorem dX12_goesOn_43 : decode cX12_goesOn 43 = .ok (.getfield 289, 3) := by decide +kernel
theorem dX12_goesOn_46 : decode cX12_goesOn 46 = .ok (.putfield 298, 3) := by decide +kernel
theorem dX12_goesOn_49 : decode cX12_goesOn 49 = .ok (.aload_n 0, 1) := by decide +kernel
theorem dX12_goesOn_50 : decode cX12_goesOn 50 = .ok (.getfield 298, 3) := by decide +kernel
theorem dX12_goesOn_53 : decode cX12_goesOn 53 = .ok (.iload_n 2, 1) := by decide +kernel
theorem dX12_goesOn_54 : decode cX12_goesOn 54 = .ok (.if_icmp .ne 17, 3) := by decide +kernel
theorem dX12_goesOn_57 : decode cX12_goesOn 57 = .ok (.iload_n 1, 1) := by decide +kernel
theorem dX12_goesOn_58 : decode cX12_goesOn 58 = .ok (.iconst 1, 1) := by decide +kernel
theorem dX12_goesOn_59 : decode cX12_goesOn 59 = .ok (.if_icmp .eq 8, 3) := by decide +kernel
theorem dX12_goesOn_62 : decode cX12_goesOn 62 = .ok (.iload_n 1, 1) := by decide +kernel
theorem dX12_goesOn_63 : decode cX12_goesOn 63 = .ok (.iconst 2, 1) := by decide +kernel
theorem dX12_goesOn_64 : decode cX12_goesOn 64 = .ok (.if_icmp .ne 7, 3) := by decide +kernel
theorem dX12_goesOn_67 : decode cX12_goesOn 67 = .ok (.iconst 1, 1) := by decide +kernel
theorem dX12_goesOn_68 : decode cX12_goesOn 68 = .ok (.goto 4, 3) := by decide +kernel
theorem dX12_goesOn_71 : decode cX12_goesOn 71 = .ok (.iconst 0, 1) := by decide +kernel
theorem dX12_goesOn_72 : decode cX12_goesOn 72 = .ok (.istore_n 3, 1) := by decide +kernel
theorem dX12_goesOn_73 : decode cX12_goesOn 73 = .ok (.aload_n 0, 1) := by decide +kernel
theorem dX12_goesOn_74 : decode cX12_goesOn 74 = .ok (.invokevirtual 295, 3) := by decide +kernel
theorem dX12_goesOn_77 : decode cX12_goesOn 77 = .ok (.istore 4, 2) := by decide +kernel
theorem dX12_goesOn_79 : decode cX12_goesOn 79 = .ok (.iload 4, 2) := by decide +kernel
theorem dX12_goesOn_81 : decode cX12_goesOn 81 = .ok (.iconst (-1), 1) := by decide +kernel
theorem dX12_goesOn_82 : decode cX12_goesOn 82 = .ok (.if_icmp .ne 11, 3) := by decide +kernel
theorem dX12_goesOn_85 : decode cX12_goesOn 85 = .ok (.aload_n 0, 1) := by decide +kernel
theorem dX12_goesOn_86 : decode cX12_goesOn 86 = .ok (.iconst 0, 1) := by decide +kernel
theorem dX12_goesOn_87 : decode cX12_goesOn 87 = .ok (.putfield 292, 3) := by decide +kernel
theorem dX12_goesOn_90 : decode cX12_goesOn 90 = .ok (.goto 189, 3) := by decide +kernel
theorem dX12_goesOn_93 : decode cX12_goesOn 93 = .ok (.iload 4, 2) := by decide +kernel
theorem dX12_goesOn_95 : decode cX12_goesOn 95 = .ok (.bipush 97, 2) := by decide +kernel
theorem dX12_goesOn_97 : decode cX12_goesOn 97 = .ok (.bipush 122, 2) := by decide +kernel
theorem dX12_goesOn_99 : decode cX12_goesOn 99 = .ok (.invokestatic 139, 3) := by decide +kernel
theorem dX12_goesOn_102 : decode cX12_goesOn 102 = .ok (.ifCond .eq 46, 3) := by decide +kernel
theorem dX12_goesOn_105 : decode cX12_goesOn 105 = .ok (.aload_n 0, 1) := by decide +kernel
theorem dX12_goesOn_106 : decode cX12_goesOn 106 = .ok (.invokevirtual 295, 3) := by decide +kernel
theorem dX12_goesOn_109 : decode cX12_goesOn 109 = .ok (.bipush 97, 2) := by decide +kernel
theorem dX12_goesOn_111 : decode cX12_goesOn 111 = .ok (.bipush 122, 2) := by decide +kernel
theorem dX12_goesOn_113 : decode cX12_goesOn 113 = .ok (.invokestatic 139, 3) := by decide +kernel
theorem dX12_goesOn_116 : decode cX12_goesOn 116 = .ok (.ifCond .eq 16, 3) := by decide +kernel
theorem dX12_goesOn_119 : decode cX12_goesOn 119 = .ok (.aload_n 0, 1) := by decide +kernel
theorem dX12_goesOn_120 : decode cX12_goesOn 120 = .ok (.dup, 1) := by decide +kernel
theorem dX12_goesOn_121 : decode cX12_goesOn 121 = .ok (.getfield 289, 3) := by decide +kernel
theorem dX12_goesOn_124 : decode cX12_goesOn 124 = .ok (.iconst 1, 1) := by decide +kernel
theorem dX12_goesOn_125 : decode cX12_goesOn 125 = .ok (.iadd, 1) := by decide +kernel
theorem dX12_goesOn_126 : decode cX12_goesOn 126 = .ok (.putfield 289, 3) := by decide +kernel
theorem dX12_goesOn_129 : decode cX12_goesOn 129 = .ok (.goto (-24), 3) := by decide +kernel
theorem dX12_goesOn_132 : decode cX12_goesOn 132 = .ok (.aload_n 0, 1) := by decide +kernel
theorem dX12_goesOn_133 : decode cX12_goesOn 133 = .ok (.iload_n 3, 1) := by decide +kernel
theorem dX12_goesOn_134 : decode cX12_goesOn 134 = .ok (.ifCond .eq 7, 3) := by decide +kernel
theorem dX12_goesOn_137 : decode cX12_goesOn 137 = .ok (.iconst 4, 1) := by decide +kernel
theorem dX12_goesOn_138 : decode cX12_goesOn 138 = .ok (.goto 4, 3) := by decide +kernel
theorem dX12_goesOn_141 : decode cX12_goesOn 141 = .ok (.iconst 1, 1) := by decide +kernel
theorem dX12_goesOn_142 : decode cX12_goesOn 142 = .ok (.putfield 292, 3) := by decide +kernel
theorem dX12_goesOn_145 : decode cX12_goesOn 145 = .ok (.goto 134, 3) := by decide +kernel
theorem dX12_goesOn_148 : decode cX12_goesOn 148 = .ok (.iload 4, 2) := by decide +kernel
theorem dX12_goesOn_150 : decode cX12_goesOn 150 = .ok (.bipush 48, 2) := by decide +kernel
theorem dX12_goesOn_152 : decode cX12_goesOn 152 = .ok (.bipush 57, 2) := by decide +kernel
theorem dX12_goesOn_154 : decode cX12_goesOn 154 = .ok (.invokestatic 139, 3) := by decide +kernel
theorem dX12_goesOn_157 : decode cX12_goesOn 157 = .ok (.ifCond .eq 96, 3) := by decide +kernel
theorem dX12_goesOn_160 : decode cX12_goesOn 160 = .ok (.aload_n 0, 1) := by decide +kernel
theorem dX12_goesOn_161 : decode cX12_goesOn 161 = .ok (.iconst 0, 1) := by decide +kernel
theorem dX12_goesOn_162 : decode cX12_goesOn 162 = .ok (.putfield 301, 3) := by decide +kernel
theorem dX12_goesOn_165 : decode cX12_goesOn 165 = .ok (.aload_n 0, 1) := by decide +kernel
theorem dX12_goesOn_166 : decode cX12_goesOn 166 = .ok (.invokevirtual 295, 3) := by decide +kernel
theorem dX12_goesOn_169 : decode cX12_goesOn 169 = .ok (.bipush 48, 2) := by decide +kernel
theorem dX12_goesOn_171 : decode cX12_goesOn 171 = .ok (.bipush 57, 2) := by decide +kernel
theorem dX12_goesOn_173 : decode cX12_goesOn 173 = .ok (.invokestatic 139, 3) := by decide +kernel
theorem dX12_goesOn_176 : decode cX12_goesOn 176 = .ok (.ifCond .eq 48, 3) := by decide +kernel
theorem dX12_goesOn_179 : decode cX12_goesOn 179 = .ok (.aload_n 0, 1) := by decide +kernel
theorem dX12_goesOn_180 : decode cX12_goesOn 180 = .ok (.getfield 289, 3) := by decide +kernel
theorem dX12_goesOn_183 : decode cX12_goesOn 183 = .ok (.aload_n 0, 1) := by decide +kernel
theorem dX12_goesOn_184 : decode cX12_goesOn 184 = .ok (.getfield 298, 3) := by decide +kernel
theorem dX12_goesOn_187 : decode cX12_goesOn 187 = .ok (.isub, 1) := by decide +kernel
theorem dX12_goesOn_188 : decode cX12_goesOn 188 = .ok (.iconst 2, 1) := by decide +kernel
theorem dX12_goesOn_189 : decode cX12_goesOn 189 = .ok (.if_icmp .ge 22, 3) := by decide +kernel
theorem dX12_goesOn_192 : decode cX12_goesOn 192 = .ok (.aload_n 0, 1) := by decide +kernel
theorem dX12_goesOn_193 : decode cX12_goesOn 193 = .ok (.bipush 10, 2) := by decide +kernel
theorem dX12_goesOn_195 : decode cX12_goesOn 195 = .ok (.aload_n 0, 1) := by decide +kernel
theorem dX12_goesOn_196 : decode cX12_goesOn 196 = .ok (.getfield 301, 3) := by decide +kernel
theorem dX12_goesOn_199 : decode cX12_goesOn 199 = .ok (.imul, 1) := by decide +kernel
theorem dX12_goesOn_200 : decode cX12_goesOn 200 = .ok (.aload_n 0, 1) := by decide +kernel
theorem dX12_goesOn_201 : decode cX12_goesOn 201 = .ok (.invokevirtual 295, 3) := by decide +kernel
theorem dX12_goesOn_204 : decode cX12_goesOn 204 = .ok (.iadd, 1) := by decide +kernel
theorem dX12_goesOn_205 : decode cX12_goesOn 205 = .ok (.bipush 48, 2) := by decide +kernel
theorem dX12_goesOn_207 : decode cX12_goesOn 207 = .ok (.isub, 1) := by decide +kernel
theorem dX12_goesOn_208 : decode cX12_goesOn 208 = .ok (.putfield 301, 3) := by decide +kernel
theorem dX12_goesOn_211 : decode cX12_goesOn 211 = .ok (.aload_n 0, 1) := by decide +kernel
theorem dX12_goesOn_212 : decode cX12_goesOn 212 = .ok (.dup, 1) := by decide +kernel
theorem dX12_goesOn_213 : decode cX12_goesOn 213 = .ok (.getfield 289, 3) := by decide +kernel
theorem dX12_goesOn_216 : decode cX12_goesOn 216 = .ok (.iconst 1, 1) := by decide +kernel
theorem dX12_goesOn_217 : decode cX12_goesOn 217 = .ok (.iadd, 1) := by decide +kernel
theorem dX12_goesOn_218 : decode cX12_goesOn 218 = .ok (.putfield 289, 3) := by decide +kernel
theorem dX12_goesOn_221 : decode cX12_goesOn 221 = .ok (.goto (-56), 3) := by decide +kernel
theorem dX12_goesOn_224 : decode cX12_goesOn 224 = .ok (.aload_n 0, 1) := by decide +kernel
theorem dX12_goesOn_225 : decode cX12_goesOn 225 = .ok (.iload_n 3, 1) := by decide +kernel
theorem dX12_goesOn_226 : decode cX12_goesOn 226 = .ok (.ifCond .ne 16, 3) := by decide +kernel
theorem dX12_goesOn_229 : decode cX12_goesOn 229 = .ok (.aload_n 0, 1) := by decide +kernel
theorem dX12_goesOn_230 : decode cX12_goesOn 230 = .ok (.getfield 289, 3) := by decide +kernel
theorem dX12_goesOn_233 : decode cX12_goesOn 233 = .ok (.aload_n 0, 1) := by decide +kernel
theorem dX12_goesOn_234 : decode cX12_goesOn 234 = .ok (.getfield 298, 3) := by decide +kernel
theorem dX12_goesOn_237 : decode cX12_goesOn 237 = .ok (.isub, 1) := by decide +kernel
theorem dX12_goesOn_238 : decode cX12_goesOn 238 = .ok (.iconst 2, 1) := by decide +kernel
theorem dX12_goesOn_239 : decode cX12_goesOn 239 = .ok (.if_icmp .le 7, 3) := by decide +kernel
theorem dX12_goesOn_242 : decode cX12_goesOn 242 = .ok (.iconst 4, 1) := by decide +kernel
theorem dX12_goesOn_243 : decode cX12_goesOn 243 = .ok (.goto 4, 3) := by decide +kernel
theorem dX12_goesOn_246 : decode cX12_goesOn 246 = .ok (.iconst 2, 1) := by decide +kernel
theorem dX12_goesOn_247 : decode cX12_goesOn 247 = .ok (.putfield 292, 3) := by decide +kernel
theorem dX12_goesOn_250 : decode cX12_goesOn 250 = .ok (.goto 29, 3) := by decide +kernel
theorem dX12_goesOn_253 : decode cX12_goesOn 253 = .ok (.aload_n 0, 1) := by decide +kernel
theorem dX12_goesOn_254 : decode cX12_goesOn 254 = .ok (.dup, 1) := by decide +kernel
theorem dX12_goesOn_255 : decode cX12_goesOn 255 = .ok (.getfield 289, 3) := by decide +kernel
theorem dX12_goesOn_258 : decode cX12_goesOn 258 = .ok (.iconst 1, 1) := by decide +kernel
theorem dX12_goesOn_259 : decode cX12_goesOn 259 = .ok (.iadd, 1) := by decide +kernel
theorem dX12_goesOn_260 : decode cX12_goesOn 260 = .ok (.putfield 289, 3) := by decide +kernel
theorem dX12_goesOn_263 : decode cX12_goesOn 263 = .ok (.aload_n 0, 1) := by decide +kernel
theorem dX12_goesOn_264 : decode cX12_goesOn 264 = .ok (.iload 4, 2) := by decide +kernel
theorem dX12_goesOn_266 : decode cX12_goesOn 266 = .ok (.bipush 59, 2) := by decide +kernel
theorem dX12_goesOn_268 : decode cX12_goesOn 268 = .ok (.if_icmp .ne 7, 3) := by decide +kernel
theorem dX12_goesOn_271 : decode cX12_goesOn 271 = .ok (.iconst 3, 1) := by decide +kernel
theorem dX12_goesOn_272 : decode cX12_goesOn 272 = .ok (.goto 4, 3) := by decide +kernel
theorem dX12_goesOn_275 : decode cX12_goesOn 275 = .ok (.iconst 4, 1) := by decide +kernel
theorem dX12_goesOn_276 : decode cX12_goesOn 276 = .ok (.putfield 292, 3) := by decide +kernel
theorem dX12_goesOn_279 : decode cX12_goesOn 279 = .ok (.return_, 1) := by decide +kernel
def f_X12_goesOn_B165b (k165 : Int32 → Wd → Option Wd) (l3 : Int32) (w : Wd) : Option Wd :=
  bnd (f_X12_here  w) fun x1 =>
  if (f_X12_in x1 48 57) = 0 then
    if l3 = 0 then
      if ((w.1 44 32) - (w.1 44 34)) ≤ 2 then
        letW (sI w 44 33 2) fun w3 =>
        some w3
      else
        letW (sI w 44 33 4) fun w4 =>
        some w4
    else
      letW (sI w 44 33 4) fun w2 =>
      some w2
  else
    if 2 ≤ ((w.1 44 32) - (w.1 44 34)) then
      letW (sI w 44 32 ((w.1 44 32) + 1)) fun w5 =>
      k165 l3 w5
    else
      bnd (f_X12_here  w) fun x6 =>
      letW (sI w 44 35 (((10 * (w.1 44 35)) + x6) - 48)) fun w7 =>
      letW (sI w7 44 32 ((w7.1 44 32) + 1)) fun w8 =>
      k165 l3 w8
def f_X12_goesOn_L165 (n : Nat) : Int32 → Wd → Option Wd :=
  Nat.rec (fun _ _ => none) (fun _ k => f_X12_goesOn_B165b k) n
set_option maxHeartbeats 4000000 in
set_option maxRecDepth 100000 in
theorem t_X12_goesOn_L165 {G : GT} {d : Nat} (hd : 1 ≤ d + 1)  : ∀ (n : Nat) (l3 : Int32) (w : Wd) (w' : Wd), f_X12_goesOn_L165 n l3 w = some w' → U (vf G mX12_goesOn (d + 1)) 165 [some (.ref 44), none, none, some (.int l3), none] [] w (none, 70, r0, w') := by
  intro n
  induction n with
  | zero => intro l3 w w' h; cases h
  | succ n h165 =>
    intro l3 w w' h
    have h : f_X12_goesOn_B165b (f_X12_goesOn_L165 n) l3 w = some w' := h
    unfold f_X12_goesOn_B165b at h
    refine V.aload_n (pc := 165) dX12_goesOn_165 rfl ?_
    obtain ⟨x1, ex1, h⟩ := bnd_e h
    refine U.callV (pc := 166) (As := []) (st := []) dX12_goesOn_166 l_RX12_295 (ok_X12_here (by omega)  ex1) lx_44 ly_44 cn_12 (Nat.le_of_ble_eq_true rfl) rfl rfl (Nat.le_of_ble_eq_true rfl) ?_
    refine V.bipush (pc := 169) dX12_goesOn_169 bp_48 ?_
    refine V.bipush (pc := 171) dX12_goesOn_171 bp_57 ?_
    refine U.callS (pc := 173) (As := [.int x1, .int 48, .int 57]) (st := []) dX12_goesOn_173 l_RX12_139 (ok_X12_in (by omega) x1 48 57 ) (Nat.le_of_ble_eq_true rfl) rfl rfl (Nat.le_of_ble_eq_true rfl) ?_
    rcases ite_e h with ⟨c, h⟩ | ⟨c, h⟩
    · refine V.if_eq_t (t := 224) (pc := 176) dX12_goesOn_176 (by decide) c ?_
      refine V.aload_n (pc := 224) dX12_goesOn_224 rfl ?_
      refine V.iload_n (pc := 225) dX12_goesOn_225 rfl ?_
      rcases ite_e h with ⟨c, h⟩ | ⟨c, h⟩
      · refine V.if_ne_f (t := 242) (pc := 226) dX12_goesOn_226 (by decide) c ?_
        refine V.aload_n (pc := 229) dX12_goesOn_229 rfl ?_
        refine V.getI (pc := 230) dX12_goesOn_230 f_RX12_289 k_cl12 lx_44 ly_44 rb_12_32 ?_
        refine V.aload_n (pc := 233) dX12_goesOn_233 rfl ?_
        refine V.getI (pc := 234) dX12_goesOn_234 f_RX12_298 k_cl12 lx_44 ly_44 rb_12_34 ?_
        refine V.isub (pc := 237) dX12_goesOn_237 ?_
        refine V.iconst (pc := 238) dX12_goesOn_238 ic_2 ?_
        rcases ite_e h with ⟨c, h⟩ | ⟨c, h⟩
        · refine V.icmp_le_t (t := 246) (pc := 239) dX12_goesOn_239 (by decide) c ?_
          refine V.iconst (pc := 246) dX12_goesOn_246 ic_2 ?_
          obtain ⟨w3, ew3, h⟩ := letW_e h
          refine V.putIX (pc := 247) dX12_goesOn_247 f_RX12_292 k_cl12 lx_44 ly_44 rb_12_33 (fin_I (T0 := TX12) rfl rfl rfl) ew3 ?_
          refine V.goto (t := 279) (pc := 250) dX12_goesOn_250 (by decide) ?_
          obtain rfl := Option.some.inj h
          exact V.vret (pc := 279) dX12_goesOn_279 rfl (Nat.le_refl _) (Nat.le_refl _)
        · refine V.icmp_le_f (t := 246) (pc := 239) dX12_goesOn_239 (by decide) c ?_
          refine V.iconst (pc := 242) dX12_goesOn_242 ic_4 ?_
          refine V.goto (t := 247) (pc := 243) dX12_goesOn_243 (by decide) ?_
          obtain ⟨w4, ew4, h⟩ := letW_e h
          refine V.putIX (pc := 247) dX12_goesOn_247 f_RX12_292 k_cl12 lx_44 ly_44 rb_12_33 (fin_I (T0 := TX12) rfl rfl rfl) ew4 ?_
          refine V.goto (t := 279) (pc := 250) dX12_goesOn_250 (by decide) ?_
          obtain rfl := Option.some.inj h
          exact V.vret (pc := 279) dX12_goesOn_279 rfl (Nat.le_refl _) (Nat.le_refl _)
      · refine V.if_ne_t (t := 242) (pc := 226) dX12_goesOn_226 (by decide) c ?_
        refine V.iconst (pc := 242) dX12_goesOn_242 ic_4 ?_
        refine V.goto (t := 247) (pc := 243) dX12_goesOn_243 (by decide) ?_
        obtain ⟨w2, ew2, h⟩ := letW_e h
        refine V.putIX (pc := 247) dX12_goesOn_247 f_RX12_292 k_cl12 lx_44 ly_44 rb_12_33 (fin_I (T0 := TX12) rfl rfl rfl) ew2 ?_
        refine V.goto (t := 279) (pc := 250) dX12_goesOn_250 (by decide) ?_
        obtain rfl := Option.some.inj h
        exact V.vret (pc := 279) dX12_goesOn_279 rfl (Nat.le_refl _) (Nat.le_refl _)
    · refine V.if_eq_f (t := 224) (pc := 176) dX12_goesOn_176 (by decide) c ?_
      refine V.aload_n (pc := 179) dX12_goesOn_179 rfl ?_
      refine V.getI (pc := 180) dX12_goesOn_180 f_RX12_289 k_cl12 lx_44 ly_44 rb_12_32 ?_
      refine V.aload_n (pc := 183) dX12_goesOn_183 rfl ?_
      refine V.getI (pc := 184) dX12_goesOn_184 f_RX12_298 k_cl12 lx_44 ly_44 rb_12_34 ?_
      refine V.isub (pc := 187) dX12_goesOn_187 ?_
      refine V.iconst (pc := 188) dX12_goesOn_188 ic_2 ?_
      rcases ite_e h with ⟨c, h⟩ | ⟨c, h⟩
      · refine V.icmp_ge_t (t := 211) (pc := 189) dX12_goesOn_189 (by decide) c ?_
        refine V.aload_n (pc := 211) dX12_goesOn_211 rfl ?_
        refine V.dup (pc := 212) dX12_goesOn_212 rfl ?_
        refine V.getI (pc := 213) dX12_goesOn_213 f_RX12_289 k_cl12 lx_44 ly_44 rb_12_32 ?_
        refine V.iconst (pc := 216) dX12_goesOn_216 ic_1 ?_
        refine V.iadd (pc := 217) dX12_goesOn_217 ?_
        obtain ⟨w5, ew5, h⟩ := letW_e h
        refine V.putIX (pc := 218) dX12_goesOn_218 f_RX12_289 k_cl12 lx_44 ly_44 rb_12_32 (fin_I (T0 := TX12) rfl rfl rfl) ew5 ?_
        refine V.goto (t := 165) (pc := 221) dX12_goesOn_221 (by decide) ?_
        exact h165 l3 w5 _ h
      · refine V.icmp_ge_f (t := 211) (pc := 189) dX12_goesOn_189 (by decide) c ?_
        refine V.aload_n (pc := 192) dX12_goesOn_192 rfl ?_
        refine V.bipush (pc := 193) dX12_goesOn_193 bp_10 ?_
        refine V.aload_n (pc := 195) dX12_goesOn_195 rfl ?_
        refine V.getI (pc := 196) dX12_goesOn_196 f_RX12_301 k_cl12 lx_44 ly_44 rb_12_35 ?_
        refine V.imul (pc := 199) dX12_goesOn_199 ?_
        refine V.aload_n (pc := 200) dX12_goesOn_200 rfl ?_
        obtain ⟨x6, ex6, h⟩ := bnd_e h
        refine U.callV (pc := 201) (As := []) (st := [.int (10 * (w.1 44 35)), .ref 44]) dX12_goesOn_201 l_RX12_295 (ok_X12_here (by omega)  ex6) lx_44 ly_44 cn_12 (Nat.le_of_ble_eq_true rfl) rfl rfl (Nat.le_of_ble_eq_true rfl) ?_
        refine V.iadd (pc := 204) dX12_goesOn_204 ?_
        refine V.bipush (pc := 205) dX12_goesOn_205 bp_48 ?_
        refine V.isub (pc := 207) dX12_goesOn_207 ?_
        obtain ⟨w7, ew7, h⟩ := letW_e h
        refine V.putIX (pc := 208) dX12_goesOn_208 f_RX12_301 k_cl12 lx_44 ly_44 rb_12_35 (fin_I (T0 := TX12) rfl rfl rfl) ew7 ?_
        refine V.aload_n (pc := 211) dX12_goesOn_211 rfl ?_
        refine V.dup (pc := 212) dX12_goesOn_212 rfl ?_
        refine V.getI (pc := 213) dX12_goesOn_213 f_RX12_289 k_cl12 lx_44 ly_44 rb_12_32 ?_
        refine V.iconst (pc := 216) dX12_goesOn_216 ic_1 ?_
        refine V.iadd (pc := 217) dX12_goesOn_217 ?_
        obtain ⟨w8, ew8, h⟩ := letW_e h
        refine V.putIX (pc := 218) dX12_goesOn_218 f_RX12_289 k_cl12 lx_44 ly_44 rb_12_32 (fin_I (T0 := TX12) rfl rfl rfl) ew8 ?_
        refine V.goto (t := 165) (pc := 221) dX12_goesOn_221 (by decide) ?_
        exact h165 l3 w8 _ h
def f_X12_goesOn_B105b (k105 : Int32 → Wd → Option Wd) (l3 : Int32) (w : Wd) : Option Wd :=
  bnd (f_X12_here  w) fun x1 =>
  if (f_X12_in x1 97 122) = 0 then
    if l3 = 0 then
      letW (sI w 44 33 1) fun w2 =>
      some w2
    else
      letW (sI w 44 33 4) fun w3 =>
      some w3
  else
    letW (sI w 44 32 ((w.1 44 32) + 1)) fun w4 =>
    k105 l3 w4
def f_X12_goesOn_L105 (n : Nat) : Int32 → Wd → Option Wd :=
  Nat.rec (fun _ _ => none) (fun _ k => f_X12_goesOn_B105b k) n
set_option maxHeartbeats 4000000 in
set_option maxRecDepth 100000 in
theorem t_X12_goesOn_L105 {G : GT} {d : Nat} (hd : 1 ≤ d + 1)  : ∀ (n : Nat) (l3 : Int32) (w : Wd) (w' : Wd), f_X12_goesOn_L105 n l3 w = some w' → U (vf G mX12_goesOn (d + 1)) 105 [some (.ref 44), none, none, some (.int l3), none] [] w (none, 70, r0, w') := by
  intro n
  induction n with
  | zero => intro l3 w w' h; cases h
  | succ n h105 =>
    intro l3 w w' h
    have h : f_X12_goesOn_B105b (f_X12_goesOn_L105 n) l3 w = some w' := h
    unfold f_X12_goesOn_B105b at h
    refine V.aload_n (pc := 105) dX12_goesOn_105 rfl ?_
    obtain ⟨x1, ex1, h⟩ := bnd_e h
    refine U.callV (pc := 106) (As := []) (st := []) dX12_goesOn_106 l_RX12_295 (ok_X12_here (by omega)  ex1) lx_44 ly_44 cn_12 (Nat.le_of_ble_eq_true rfl) rfl rfl (Nat.le_of_ble_eq_true rfl) ?_
    refine V.bipush (pc := 109) dX12_goesOn_109 bp_97 ?_
    refine V.bipush (pc := 111) dX12_goesOn_111 bp_122 ?_
    refine U.callS (pc := 113) (As := [.int x1, .int 97, .int 122]) (st := []) dX12_goesOn_113 l_RX12_139 (ok_X12_in (by omega) x1 97 122 ) (Nat.le_of_ble_eq_true rfl) rfl rfl (Nat.le_of_ble_eq_true rfl) ?_
    rcases ite_e h with ⟨c, h⟩ | ⟨c, h⟩
    · refine V.if_eq_t (t := 132) (pc := 116) dX12_goesOn_116 (by decide) c ?_
      refine V.aload_n (pc := 132) dX12_goesOn_132 rfl ?_
      refine V.iload_n (pc := 133) dX12_goesOn_133 rfl ?_
      rcases ite_e h with ⟨c, h⟩ | ⟨c, h⟩
      · refine V.if_eq_t (t := 141) (pc := 134) dX12_goesOn_134 (by decide) c ?_
        refine V.iconst (pc := 141) dX12_goesOn_141 ic_1 ?_
        obtain ⟨w2, ew2, h⟩ := letW_e h
        refine V.putIX (pc := 142) dX12_goesOn_142 f_RX12_292 k_cl12 lx_44 ly_44 rb_12_33 (fin_I (T0 := TX12) rfl rfl rfl) ew2 ?_
        refine V.goto (t := 279) (pc := 145) dX12_goesOn_145 (by decide) ?_
        obtain rfl := Option.some.inj h
        exact V.vret (pc := 279) dX12_goesOn_279 rfl (Nat.le_refl _) (Nat.le_refl _)
      · refine V.if_eq_f (t := 141) (pc := 134) dX12_goesOn_134 (by decide) c ?_
        refine V.iconst (pc := 137) dX12_goesOn_137 ic_4 ?_
        refine V.goto (t := 142) (pc := 138) dX12_goesOn_138 (by decide) ?_
        obtain ⟨w3, ew3, h⟩ := letW_e h
        refine V.putIX (pc := 142) dX12_goesOn_142 f_RX12_292 k_cl12 lx_44 ly_44 rb_12_33 (fin_I (T0 := TX12) rfl rfl rfl) ew3 ?_
        refine V.goto (t := 279) (pc := 145) dX12_goesOn_145 (by decide) ?_
        obtain rfl := Option.some.inj h
        exact V.vret (pc := 279) dX12_goesOn_279 rfl (Nat.le_refl _) (Nat.le_refl _)
    · refine V.if_eq_f (t := 132) (pc := 116) dX12_goesOn_116 (by decide) c ?_
      refine V.aload_n (pc := 119) dX12_goesOn_119 rfl ?_
      refine V.dup (pc := 120) dX12_goesOn_120 rfl ?_
      refine V.getI (pc := 121) dX12_goesOn_121 f_RX12_289 k_cl12 lx_44 ly_44 rb_12_32 ?_
      refine V.iconst (pc := 124) dX12_goesOn_124 ic_1 ?_
      refine V.iadd (pc := 125) dX12_goesOn_125 ?_
      obtain ⟨w4, ew4, h⟩ := letW_e h
      refine V.putIX (pc := 126) dX12_goesOn_126 f_RX12_289 k_cl12 lx_44 ly_44 rb_12_32 (fin_I (T0 := TX12) rfl rfl rfl) ew4 ?_
      refine V.goto (t := 105) (pc := 129) dX12_goesOn_129 (by decide) ?_
      exact h105 l3 w4 _ h
def f_X12_goesOn_J71 (w : Wd) : Option Wd :=
  bnd (f_X12_here  w) fun x1 =>
  if x1 = (-1) then
    letW (sI w 44 33 0) fun w6 =>
    some w6
  else
    if (f_X12_in x1 97 122) = 0 then
      if (f_X12_in x1 48 57) = 0 then
        letW (sI w 44 32 ((w.1 44 32) + 1)) fun w2 =>
        if x1 = 59 then
          letW (sI w2 44 33 3) fun w4 =>
          some w4
        else
          letW (sI w2 44 33 4) fun w3 =>
          some w3
      else
        letW (sI w 44 35 0) fun w5 =>
        f_X12_goesOn_L165  FU 0 w5
    else
      f_X12_goesOn_L105  FU 0 w
set_option maxHeartbeats 4000000 in
set_option maxRecDepth 100000 in
theorem t_X12_goesOn_J71 {G : GT} {d : Nat} (hd : 1 ≤ d + 1)  : ∀  (w : Wd) (w' : Wd), f_X12_goesOn_J71  w = some w' → U (vf G mX12_goesOn (d + 1)) 71 [some (.ref 44), none, none, none, none] [] w (none, 70, r0, w') := by
  intro  w w' h
  unfold f_X12_goesOn_J71 at h
  refine V.iconst (pc := 71) dX12_goesOn_71 ic_0 ?_
  refine V.istore_n (lv' := [some (.ref 44), none, none, some (.int 0), none]) (pc := 72) dX12_goesOn_72 (Nat.le_of_ble_eq_true rfl) rfl rfl ?_
  refine V.aload_n (pc := 73) dX12_goesOn_73 rfl ?_
  obtain ⟨x1, ex1, h⟩ := bnd_e h
  refine U.callV (pc := 74) (As := []) (st := []) dX12_goesOn_74 l_RX12_295 (ok_X12_here (by omega)  ex1) lx_44 ly_44 cn_12 (Nat.le_of_ble_eq_true rfl) rfl rfl (Nat.le_of_ble_eq_true rfl) ?_
  refine V.istore (lv' := [some (.ref 44), none, none, some (.int 0), some (.int x1)]) (pc := 77) dX12_goesOn_77 (Nat.le_of_ble_eq_true rfl) rfl rfl ?_
  refine V.iload (pc := 79) dX12_goesOn_79 rfl ?_
  refine V.iconst (pc := 81) dX12_goesOn_81 ic_m1 ?_
  rcases ite_e h with ⟨c, h⟩ | ⟨c, h⟩
  · refine V.icmp_ne_f (t := 93) (pc := 82) dX12_goesOn_82 (by decide) c ?_
    refine V.aload_n (pc := 85) dX12_goesOn_85 rfl ?_
    refine V.iconst (pc := 86) dX12_goesOn_86 ic_0 ?_
    obtain ⟨w6, ew6, h⟩ := letW_e h
    refine V.putIX (pc := 87) dX12_goesOn_87 f_RX12_292 k_cl12 lx_44 ly_44 rb_12_33 (fin_I (T0 := TX12) rfl rfl rfl) ew6 ?_
    refine V.goto (t := 279) (pc := 90) dX12_goesOn_90 (by decide) ?_
    obtain rfl := Option.some.inj h
    exact V.vret (pc := 279) dX12_goesOn_279 rfl (Nat.le_refl _) (Nat.le_refl _)
  · refine V.icmp_ne_t (t := 93) (pc := 82) dX12_goesOn_82 (by decide) c ?_
    refine V.iload (pc := 93) dX12_goesOn_93 rfl ?_
    refine V.bipush (pc := 95) dX12_goesOn_95 bp_97 ?_
    refine V.bipush (pc := 97) dX12_goesOn_97 bp_122 ?_
    refine U.callS (pc := 99) (As := [.int x1, .int 97, .int 122]) (st := []) dX12_goesOn_99 l_RX12_139 (ok_X12_in (by omega) x1 97 122 ) (Nat.le_of_ble_eq_true rfl) rfl rfl (Nat.le_of_ble_eq_true rfl) ?_
    rcases ite_e h with ⟨c, h⟩ | ⟨c, h⟩
    · refine V.if_eq_t (t := 148) (pc := 102) dX12_goesOn_102 (by decide) c ?_
      refine V.iload (pc := 148) dX12_goesOn_148 rfl ?_
      refine V.bipush (pc := 150) dX12_goesOn_150 bp_48 ?_
      refine V.bipush (pc := 152) dX12_goesOn_152 bp_57 ?_
      refine U.callS (pc := 154) (As := [.int x1, .int 48, .int 57]) (st := []) dX12_goesOn_154 l_RX12_139 (ok_X12_in (by omega) x1 48 57 ) (Nat.le_of_ble_eq_true rfl) rfl rfl (Nat.le_of_ble_eq_true rfl) ?_
      rcases ite_e h with ⟨c, h⟩ | ⟨c, h⟩
      · refine V.if_eq_t (t := 253) (pc := 157) dX12_goesOn_157 (by decide) c ?_
        refine V.aload_n (pc := 253) dX12_goesOn_253 rfl ?_
        refine V.dup (pc := 254) dX12_goesOn_254 rfl ?_
        refine V.getI (pc := 255) dX12_goesOn_255 f_RX12_289 k_cl12 lx_44 ly_44 rb_12_32 ?_
        refine V.iconst (pc := 258) dX12_goesOn_258 ic_1 ?_
        refine V.iadd (pc := 259) dX12_goesOn_259 ?_
        obtain ⟨w2, ew2, h⟩ := letW_e h
        refine V.putIX (pc := 260) dX12_goesOn_260 f_RX12_289 k_cl12 lx_44 ly_44 rb_12_32 (fin_I (T0 := TX12) rfl rfl rfl) ew2 ?_
        refine V.aload_n (pc := 263) dX12_goesOn_263 rfl ?_
        refine V.iload (pc := 264) dX12_goesOn_264 rfl ?_
        refine V.bipush (pc := 266) dX12_goesOn_266 bp_59 ?_
        rcases ite_e h with ⟨c, h⟩ | ⟨c, h⟩
        · refine V.icmp_ne_f (t := 275) (pc := 268) dX12_goesOn_268 (by decide) c ?_
          refine V.iconst (pc := 271) dX12_goesOn_271 ic_3 ?_
          refine V.goto (t := 276) (pc := 272) dX12_goesOn_272 (by decide) ?_
          obtain ⟨w4, ew4, h⟩ := letW_e h
          refine V.putIX (pc := 276) dX12_goesOn_276 f_RX12_292 k_cl12 lx_44 ly_44 rb_12_33 (fin_I (T0 := TX12) rfl rfl rfl) ew4 ?_
          obtain rfl := Option.some.inj h
          exact V.vret (pc := 279) dX12_goesOn_279 rfl (Nat.le_refl _) (Nat.le_refl _)
        · refine V.icmp_ne_t (t := 275) (pc := 268) dX12_goesOn_268 (by decide) c ?_
          refine V.iconst (pc := 275) dX12_goesOn_275 ic_4 ?_
          obtain ⟨w3, ew3, h⟩ := letW_e h
          refine V.putIX (pc := 276) dX12_goesOn_276 f_RX12_292 k_cl12 lx_44 ly_44 rb_12_33 (fin_I (T0 := TX12) rfl rfl rfl) ew3 ?_
          obtain rfl := Option.some.inj h
          exact V.vret (pc := 279) dX12_goesOn_279 rfl (Nat.le_refl _) (Nat.le_refl _)
      · refine V.if_eq_f (t := 253) (pc := 157) dX12_goesOn_157 (by decide) c ?_
        refine V.aload_n (pc := 160) dX12_goesOn_160 rfl ?_
        refine V.iconst (pc := 161) dX12_goesOn_161 ic_0 ?_
        obtain ⟨w5, ew5, h⟩ := letW_e h
        refine V.putIX (pc := 162) dX12_goesOn_162 f_RX12_301 k_cl12 lx_44 ly_44 rb_12_35 (fin_I (T0 := TX12) rfl rfl rfl) ew5 ?_
        refine V.weak (lv' := [some (.ref 44), none, none, some (.int 0), none]) (And.intro rfl (And.intro rfl trivial)) ?_
        exact t_X12_goesOn_L165 hd FU 0 w5 _ h
    · refine V.if_eq_f (t := 148) (pc := 102) dX12_goesOn_102 (by decide) c ?_
      refine V.weak (lv' := [some (.ref 44), none, none, some (.int 0), none]) (And.intro rfl (And.intro rfl trivial)) ?_
      exact t_X12_goesOn_L105 hd FU 0 w _ h
def f_X12_goesOn_J67 (w : Wd) : Option Wd :=
  bnd (f_X12_here  w) fun x1 =>
  if x1 = (-1) then
    letW (sI w 44 33 0) fun w6 =>
    some w6
  else
    if (f_X12_in x1 97 122) = 0 then
      if (f_X12_in x1 48 57) = 0 then
        letW (sI w 44 32 ((w.1 44 32) + 1)) fun w2 =>
        if x1 = 59 then
          letW (sI w2 44 33 3) fun w4 =>
          some w4
        else
          letW (sI w2 44 33 4) fun w3 =>
          some w3
      else
        letW (sI w 44 35 0) fun w5 =>
        f_X12_goesOn_L165  FU 1 w5
    else
      f_X12_goesOn_L105  FU 1 w
set_option maxHeartbeats 4000000 in
set_option maxRecDepth 100000 in
theorem t_X12_goesOn_J67 {G : GT} {d : Nat} (hd : 1 ≤ d + 1)  : ∀  (w : Wd) (w' : Wd), f_X12_goesOn_J67  w = some w' → U (vf G mX12_goesOn (d + 1)) 67 [some (.ref 44), none, none, none, none] [] w (none, 70, r0, w') := by
  intro  w w' h
  unfold f_X12_goesOn_J67 at h
  refine V.iconst (pc := 67) dX12_goesOn_67 ic_1 ?_
  refine V.goto (t := 72) (pc := 68) dX12_goesOn_68 (by decide) ?_
  refine V.istore_n (lv' := [some (.ref 44), none, none, some (.int 1), none]) (pc := 72) dX12_goesOn_72 (Nat.le_of_ble_eq_true rfl) rfl rfl ?_
  refine V.aload_n (pc := 73) dX12_goesOn_73 rfl ?_
  obtain ⟨x1, ex1, h⟩ := bnd_e h
  refine U.callV (pc := 74) (As := []) (st := []) dX12_goesOn_74 l_RX12_295 (ok_X12_here (by omega)  ex1) lx_44 ly_44 cn_12 (Nat.le_of_ble_eq_true rfl) rfl rfl (Nat.le_of_ble_eq_true rfl) ?_
  refine V.istore (lv' := [some (.ref 44), none, none, some (.int 1), some (.int x1)]) (pc := 77) dX12_goesOn_77 (Nat.le_of_ble_eq_true rfl) rfl rfl ?_
  refine V.iload (pc := 79) dX12_goesOn_79 rfl ?_
  refine V.iconst (pc := 81) dX12_goesOn_81 ic_m1 ?_
  rcases ite_e h with ⟨c, h⟩ | ⟨c, h⟩
  · refine V.icmp_ne_f (t := 93) (pc := 82) dX12_goesOn_82 (by decide) c ?_
    refine V.aload_n (pc := 85) dX12_goesOn_85 rfl ?_
    refine V.iconst (pc := 86) dX12_goesOn_86 ic_0 ?_
    obtain ⟨w6, ew6, h⟩ := letW_e h
    refine V.putIX (pc := 87) dX12_goesOn_87 f_RX12_292 k_cl12 lx_44 ly_44 rb_12_33 (fin_I (T0 := TX12) rfl rfl rfl) ew6 ?_
    refine V.goto (t := 279) (pc := 90) dX12_goesOn_90 (by decide) ?_
    obtain rfl := Option.some.inj h
    exact V.vret (pc := 279) dX12_goesOn_279 rfl (Nat.le_refl _) (Nat.le_refl _)
  · refine V.icmp_ne_t (t := 93) (pc := 82) dX12_goesOn_82 (by decide) c ?_
    refine V.iload (pc := 93) dX12_goesOn_93 rfl ?_
    refine V.bipush (pc := 95) dX12_goesOn_95 bp_97 ?_
    refine V.bipush (pc := 97) dX12_goesOn_97 bp_122 ?_
    refine U.callS (pc := 99) (As := [.int x1, .int 97, .int 122]) (st := []) dX12_goesOn_99 l_RX12_139 (ok_X12_in (by omega) x1 97 122 ) (Nat.le_of_ble_eq_true rfl) rfl rfl (Nat.le_of_ble_eq_true rfl) ?_
    rcases ite_e h with ⟨c, h⟩ | ⟨c, h⟩
    · refine V.if_eq_t (t := 148) (pc := 102) dX12_goesOn_102 (by decide) c ?_
      refine V.iload (pc := 148) dX12_goesOn_148 rfl ?_
      refine V.bipush (pc := 150) dX12_goesOn_150 bp_48 ?_
      refine V.bipush (pc := 152) dX12_goesOn_152 bp_57 ?_
      refine U.callS (pc := 154) (As := [.int x1, .int 48, .int 57]) (st := []) dX12_goesOn_154 l_RX12_139 (ok_X12_in (by omega) x1 48 57 ) (Nat.le_of_ble_eq_true rfl) rfl rfl (Nat.le_of_ble_eq_true rfl) ?_
      rcases ite_e h with ⟨c, h⟩ | ⟨c, h⟩
      · refine V.if_eq_t (t := 253) (pc := 157) dX12_goesOn_157 (by decide) c ?_
        refine V.aload_n (pc := 253) dX12_goesOn_253 rfl ?_
        refine V.dup (pc := 254) dX12_goesOn_254 rfl ?_
        refine V.getI (pc := 255) dX12_goesOn_255 f_RX12_289 k_cl12 lx_44 ly_44 rb_12_32 ?_
        refine V.iconst (pc := 258) dX12_goesOn_258 ic_1 ?_
        refine V.iadd (pc := 259) dX12_goesOn_259 ?_
        obtain ⟨w2, ew2, h⟩ := letW_e h
        refine V.putIX (pc := 260) dX12_goesOn_260 f_RX12_289 k_cl12 lx_44 ly_44 rb_12_32 (fin_I (T0 := TX12) rfl rfl rfl) ew2 ?_
        refine V.aload_n (pc := 263) dX12_goesOn_263 rfl ?_
        refine V.iload (pc := 264) dX12_goesOn_264 rfl ?_
        refine V.bipush (pc := 266) dX12_goesOn_266 bp_59 ?_
        rcases ite_e h with ⟨c, h⟩ | ⟨c, h⟩
        · refine V.icmp_ne_f (t := 275) (pc := 268) dX12_goesOn_268 (by decide) c ?_
          refine V.iconst (pc := 271) dX12_goesOn_271 ic_3 ?_
          refine V.goto (t := 276) (pc := 272) dX12_goesOn_272 (by decide) ?_
          obtain ⟨w4, ew4, h⟩ := letW_e h
          refine V.putIX (pc := 276) dX12_goesOn_276 f_RX12_292 k_cl12 lx_44 ly_44 rb_12_33 (fin_I (T0 := TX12) rfl rfl rfl) ew4 ?_
          obtain rfl := Option.some.inj h
          exact V.vret (pc := 279) dX12_goesOn_279 rfl (Nat.le_refl _) (Nat.le_refl _)
        · refine V.icmp_ne_t (t := 275) (pc := 268) dX12_goesOn_268 (by decide) c ?_
          refine V.iconst (pc := 275) dX12_goesOn_275 ic_4 ?_
          obtain ⟨w3, ew3, h⟩ := letW_e h
          refine V.putIX (pc := 276) dX12_goesOn_276 f_RX12_292 k_cl12 lx_44 ly_44 rb_12_33 (fin_I (T0 := TX12) rfl rfl rfl) ew3 ?_
          obtain rfl := Option.some.inj h
          exact V.vret (pc := 279) dX12_goesOn_279 rfl (Nat.le_refl _) (Nat.le_refl _)
      · refine V.if_eq_f (t := 253) (pc := 157) dX12_goesOn_157 (by decide) c ?_
        refine V.aload_n (pc := 160) dX12_goesOn_160 rfl ?_
        refine V.iconst (pc := 161) dX12_goesOn_161 ic_0 ?_
        obtain ⟨w5, ew5, h⟩ := letW_e h
        refine V.putIX (pc := 162) dX12_goesOn_162 f_RX12_301 k_cl12 lx_44 ly_44 rb_12_35 (fin_I (T0 := TX12) rfl rfl rfl) ew5 ?_
        refine V.weak (lv' := [some (.ref 44), none, none, some (.int 1), none]) (And.intro rfl (And.intro rfl trivial)) ?_
        exact t_X12_goesOn_L165 hd FU 1 w5 _ h
    · refine V.if_eq_f (t := 148) (pc := 102) dX12_goesOn_102 (by decide) c ?_
      refine V.weak (lv' := [some (.ref 44), none, none, some (.int 1), none]) (And.intro rfl (And.intro rfl trivial)) ?_
      exact t_X12_goesOn_L105 hd FU 1 w _ h
def f_X12_goesOn_B10b (k10 : Int32 → Int32 → Wd → Option Wd) (l1 : Int32) (l2 : Int32) (w : Wd) : Option Wd :=
  bnd (f_X12_here  w) fun x1 =>
  if x1 = 32 then
    letW (sI w 44 32 ((w.1 44 32) + 1)) fun w2 =>
    k10 l1 l2 w2
  else
    bnd (f_X12_here  w) fun x3 =>
    if x3 = 10 then
      letW (sI w 44 32 ((w.1 44 32) + 1)) fun w5 =>
      k10 l1 l2 w5
    else
      letW (sI w 44 34 (w.1 44 32)) fun w4 =>
      if (w4.1 44 34) = l2 then
        if l1 = 1 then
          f_X12_goesOn_J67  w4
        else
          if l1 = 2 then
            f_X12_goesOn_J67  w4
          else
            f_X12_goesOn_J71  w4
      else
        f_X12_goesOn_J71  w4
def f_X12_goesOn_L10 (n : Nat) : Int32 → Int32 → Wd → Option Wd :=
  Nat.rec (fun _ _ _ => none) (fun _ k => f_X12_goesOn_B10b k) n
set_option maxHeartbeats 4000000 in
set_option maxRecDepth 100000 in
theorem t_X12_goesOn_L10 {G : GT} {d : Nat} (hd : 1 ≤ d + 1)  : ∀ (n : Nat) (l1 : Int32) (l2 : Int32) (w : Wd) (w' : Wd), f_X12_goesOn_L10 n l1 l2 w = some w' → U (vf G mX12_goesOn (d + 1)) 10 [some (.ref 44), some (.int l1), some (.int l2), none, none] [] w (none, 70, r0, w') := by
  intro n
  induction n with
  | zero => intro l1 l2 w w' h; cases h
  | succ n h10 =>
    intro l1 l2 w w' h
    have h : f_X12_goesOn_B10b (f_X12_goesOn_L10 n) l1 l2 w = some w' := h
    unfold f_X12_goesOn_B10b at h
    refine V.aload_n (pc := 10) dX12_goesOn_10 rfl ?_
    obtain ⟨x1, ex1, h⟩ := bnd_e h
    refine U.callV (pc := 11) (As := []) (st := []) dX12_goesOn_11 l_RX12_295 (ok_X12_here (by omega)  ex1) lx_44 ly_44 cn_12 (Nat.le_of_ble_eq_true rfl) rfl rfl (Nat.le_of_ble_eq_true rfl) ?_
    refine V.bipush (pc := 14) dX12_goesOn_14 bp_32 ?_
    rcases ite_e h with ⟨c, h⟩ | ⟨c, h⟩
    · refine V.icmp_eq_t (t := 28) (pc := 16) dX12_goesOn_16 (by decide) c ?_
      refine V.aload_n (pc := 28) dX12_goesOn_28 rfl ?_
      refine V.dup (pc := 29) dX12_goesOn_29 rfl ?_
      refine V.getI (pc := 30) dX12_goesOn_30 f_RX12_289 k_cl12 lx_44 ly_44 rb_12_32 ?_
      refine V.iconst (pc := 33) dX12_goesOn_33 ic_1 ?_
      refine V.iadd (pc := 34) dX12_goesOn_34 ?_
      obtain ⟨w2, ew2, h⟩ := letW_e h
      refine V.putIX (pc := 35) dX12_goesOn_35 f_RX12_289 k_cl12 lx_44 ly_44 rb_12_32 (fin_I (T0 := TX12) rfl rfl rfl) ew2 ?_
      refine V.goto (t := 10) (pc := 38) dX12_goesOn_38 (by decide) ?_
      exact h10 l1 l2 w2 _ h
    · refine V.icmp_eq_f (t := 28) (pc := 16) dX12_goesOn_16 (by decide) c ?_
      refine V.aload_n (pc := 19) dX12_goesOn_19 rfl ?_
      obtain ⟨x3, ex3, h⟩ := bnd_e h
      refine U.callV (pc := 20) (As := []) (st := []) dX12_goesOn_20 l_RX12_295 (ok_X12_here (by omega)  ex3) lx_44 ly_44 cn_12 (Nat.le_of_ble_eq_true rfl) rfl rfl (Nat.le_of_ble_eq_true rfl) ?_
      refine V.bipush (pc := 23) dX12_goesOn_23 bp_10 ?_
      rcases ite_e h with ⟨c, h⟩ | ⟨c, h⟩
      · refine V.icmp_ne_f (t := 41) (pc := 25) dX12_goesOn_25 (by decide) c ?_
        refine V.aload_n (pc := 28) dX12_goesOn_28 rfl ?_
        refine V.dup (pc := 29) dX12_goesOn_29 rfl ?_
        refine V.getI (pc := 30) dX12_goesOn_30 f_RX12_289 k_cl12 lx_44 ly_44 rb_12_32 ?_
        refine V.iconst (pc := 33) dX12_goesOn_33 ic_1 ?_
        refine V.iadd (pc := 34) dX12_goesOn_34 ?_
        obtain ⟨w5, ew5, h⟩ := letW_e h
        refine V.putIX (pc := 35) dX12_goesOn_35 f_RX12_289 k_cl12 lx_44 ly_44 rb_12_32 (fin_I (T0 := TX12) rfl rfl rfl) ew5 ?_
        refine V.goto (t := 10) (pc := 38) dX12_goesOn_38 (by decide) ?_
        exact h10 l1 l2 w5 _ h
      · refine V.icmp_ne_t (t := 41) (pc := 25) dX12_goesOn_25 (by decide) c ?_
        refine V.aload_n (pc := 41) dX12_goesOn_41 rfl ?_
        refine V.aload_n (pc := 42) dX12_goesOn_42 rfl ?_
        refine V.getI (pc := 43) dX12_goesOn_43 f_RX12_289 k_cl12 lx_44 ly_44 rb_12_32 ?_
        obtain ⟨w4, ew4, h⟩ := letW_e h
        refine V.putIX (pc := 46) dX12_goesOn_46 f_RX12_298 k_cl12 lx_44 ly_44 rb_12_34 (fin_I (T0 := TX12) rfl rfl rfl) ew4 ?_
        refine V.aload_n (pc := 49) dX12_goesOn_49 rfl ?_
        refine V.getI (pc := 50) dX12_goesOn_50 f_RX12_298 k_cl12 lx_44 ly_44 rb_12_34 ?_
        refine V.iload_n (pc := 53) dX12_goesOn_53 rfl ?_
        rcases ite_e h with ⟨c, h⟩ | ⟨c, h⟩
        · refine V.icmp_ne_f (t := 71) (pc := 54) dX12_goesOn_54 (by decide) c ?_
          refine V.iload_n (pc := 57) dX12_goesOn_57 rfl ?_
          refine V.iconst (pc := 58) dX12_goesOn_58 ic_1 ?_
          rcases ite_e h with ⟨c, h⟩ | ⟨c, h⟩
          · refine V.icmp_eq_t (t := 67) (pc := 59) dX12_goesOn_59 (by decide) c ?_
            refine V.weak (lv' := [some (.ref 44), none, none, none, none]) (And.intro rfl trivial) ?_
            exact t_X12_goesOn_J67 hd w4 _ h
          · refine V.icmp_eq_f (t := 67) (pc := 59) dX12_goesOn_59 (by decide) c ?_
            refine V.iload_n (pc := 62) dX12_goesOn_62 rfl ?_
            refine V.iconst (pc := 63) dX12_goesOn_63 ic_2 ?_
            rcases ite_e h with ⟨c, h⟩ | ⟨c, h⟩
            · refine V.icmp_ne_f (t := 71) (pc := 64) dX12_goesOn_64 (by decide) c ?_
              refine V.weak (lv' := [some (.ref 44), none, none, none, none]) (And.intro rfl trivial) ?_
              exact t_X12_goesOn_J67 hd w4 _ h
            · refine V.icmp_ne_t (t := 71) (pc := 64) dX12_goesOn_64 (by decide) c ?_
              refine V.weak (lv' := [some (.ref 44), none, none, none, none]) (And.intro rfl trivial) ?_
              exact t_X12_goesOn_J71 hd w4 _ h
        · refine V.icmp_ne_t (t := 71) (pc := 54) dX12_goesOn_54 (by decide) c ?_
          refine V.weak (lv' := [some (.ref 44), none, none, none, none]) (And.intro rfl trivial) ?_
          exact t_X12_goesOn_J71 hd w4 _ h
def f_X12_goesOn (w : Wd) : Option Wd :=
  f_X12_goesOn_L10  FU (w.1 44 33) (w.1 44 32) w
set_option maxHeartbeats 4000000 in
set_option maxRecDepth 100000 in
theorem ok_X12_goesOn {G : GT} {d : Nat} (hd : 1 ≤ d) {w : Wd}  {w' : Wd} (h : f_X12_goesOn  w = some w') : uC G yX12_goesOn mX12_goesOn d [.ref 44] w none w' := by
  obtain ⟨d, rfl⟩ : ∃ e, d = e + 1 := ⟨d - 1, by omega⟩
  unfold f_X12_goesOn at h
  refine uC_of (lv := [some (.ref 44), none, none, none, none]) 4 pn_X12 ⟨rfl, rfl⟩ (Nat.le_of_ble_eq_true rfl) rfl ?_
  refine V.aload_n (pc := 0) dX12_goesOn_0 rfl ?_
  refine V.getI (pc := 1) dX12_goesOn_1 f_RX12_292 k_cl12 lx_44 ly_44 rb_12_33 ?_
  refine V.istore_n (lv' := [some (.ref 44), some (.int (w.1 44 33)), none, none, none]) (pc := 4) dX12_goesOn_4 (Nat.le_of_ble_eq_true rfl) rfl rfl ?_
  refine V.aload_n (pc := 5) dX12_goesOn_5 rfl ?_
  refine V.getI (pc := 6) dX12_goesOn_6 f_RX12_289 k_cl12 lx_44 ly_44 rb_12_32 ?_
  refine V.istore_n (lv' := [some (.ref 44), some (.int (w.1 44 33)), some (.int (w.1 44 32)), none, none]) (pc := 9) dX12_goesOn_9 (Nat.le_of_ble_eq_true rfl) rfl rfl ?_
  exact t_X12_goesOn_L10 hd FU (w.1 44 33) (w.1 44 32) w _ h
theorem dX12_wordFrom_0 : decode cX12_wordFrom 0 = .ok (.iconst 0, 1) := by decide +kernel
theorem dX12_wordFrom_1 : decode cX12_wordFrom 1 = .ok (.istore_n 2, 1) := by decide +kernel
theorem dX12_wordFrom_2 : decode cX12_wordFrom 2 = .ok (.iload_n 1, 1) := by decide +kernel
theorem dX12_wordFrom_3 : decode cX12_wordFrom 3 = .ok (.istore_n 3, 1) := by decide +kernel
theorem dX12_wordFrom_4 : decode cX12_wordFrom 4 = .ok (.iload_n 3, 1) := by decide +kernel
theorem dX12_wordFrom_5 : decode cX12_wordFrom 5 = .ok (.ifCond .le 21, 3) := by decide +kernel
theorem dX12_wordFrom_8 : decode cX12_wordFrom 8 = .ok (.aload_n 0, 1) := by decide +kernel
theorem dX12_wordFrom_9 : decode cX12_wordFrom 9 = .ok (.getfield 82, 3) := by decide +kernel
theorem dX12_wordFrom_12 : decode cX12_wordFrom 12 = .ok (.iload_n 2, 1) := by decide +kernel
theorem dX12_wordFrom_13 : decode cX12_wordFrom 13 = .ok (.baload, 1) := by decide +kernel
theorem dX12_wordFrom_14 : decode cX12_wordFrom 14 = .ok (.ifCond .ne 6, 3) := by decide +kernel
theorem dX12_wordFrom_17 : decode cX12_wordFrom 17 = .ok (.iinc 3 (-1), 3) := by decide +kernel
theorem dX12_wordFrom_20 : decode cX12_wordFrom 20 = .ok (.iinc 2 1, 3) := by decide +kernel
theorem dX12_wordFrom_23 : decode cX12_wordFrom 23 = .ok (.goto (-19), 3) := by decide +kernel
theorem dX12_wordFrom_26 : decode cX12_wordFrom 26 = .ok (.iload_n 2, 1) := by decide +kernel
theorem dX12_wordFrom_27 : decode cX12_wordFrom 27 = .ok (.ireturn, 1) := by decide +kernel
def f_X12_wordFrom_B4b (k4 : Int32 → Int32 → Wd → Option Int32) (l2 : Int32) (l3 : Int32) (w : Wd) : Option Int32 :=
  if l3 ≤ 0 then
    some l2
  else
    rdI w 67 68 l2 fun x1 =>
    if x1 = 0 then
      k4 (l2 + 1) (l3 + (-1)) w
    else
      k4 (l2 + 1) l3 w
def f_X12_wordFrom_L4 (n : Nat) : Int32 → Int32 → Wd → Option Int32 :=
  Nat.rec (fun _ _ _ => none) (fun _ k => f_X12_wordFrom_B4b k) n
set_option maxHeartbeats 4000000 in
set_option maxRecDepth 100000 in
theorem t_X12_wordFrom_L4 {G : GT} {d : Nat} {w : Wd} (hd : 0 ≤ d)  : ∀ (n : Nat) (l2 : Int32) (l3 : Int32) (r : Int32), f_X12_wordFrom_L4 n l2 l3 w = some r → U (vf G mX12_wordFrom d) 4 [some (.ref 44), none, some (.int l2), some (.int l3)] [] w (some (.int r), 70, r0, w) := by
  intro n
  induction n with
  | zero => intro l2 l3 r h; cases h
  | succ n h4 =>
    intro l2 l3 r h
    have h : f_X12_wordFrom_B4b (f_X12_wordFrom_L4 n) l2 l3 w = some r := h
    unfold f_X12_wordFrom_B4b at h
    refine V.iload_n (pc := 4) dX12_wordFrom_4 rfl ?_
    rcases ite_e h with ⟨c, h⟩ | ⟨c, h⟩
    · refine V.if_le_t (t := 26) (pc := 5) dX12_wordFrom_5 (by decide) c ?_
      refine V.iload_n (pc := 26) dX12_wordFrom_26 rfl ?_
      obtain rfl := Option.some.inj h
      exact V.iret (pc := 27) dX12_wordFrom_27 rfl (Nat.le_refl _) (Nat.le_refl _)
    · refine V.if_le_f (t := 26) (pc := 5) dX12_wordFrom_5 (by decide) c ?_
      refine V.aload_n (pc := 8) dX12_wordFrom_8 rfl ?_
      refine V.getR (t := 67) (pc := 9) dX12_wordFrom_9 f_RX12_82 k_cl12 lx_44 ly_44 rb_12_31 rr_44_31 ?_
      refine V.iload_n (pc := 12) dX12_wordFrom_12 rfl ?_
      obtain ⟨x1, ix1, ex1, h⟩ := rdI_e h
      refine V.baldX (pc := 13) dX12_wordFrom_13 lx_67 ly_67 ix1 ex1 ?_
      rcases ite_e h with ⟨c, h⟩ | ⟨c, h⟩
      · refine V.if_ne_f (t := 20) (pc := 14) dX12_wordFrom_14 (by decide) c ?_
        refine V.iinc (lv' := [some (.ref 44), none, some (.int l2), some (.int (l3 + (-1)))]) (pc := 17) dX12_wordFrom_17 (Nat.le_of_ble_eq_true rfl) rfl rfl (v := (l3 + (-1))) (by rw [show Int32.ofInt (-1) = (-1) from by decide]) rfl ?_
        refine V.iinc (lv' := [some (.ref 44), none, some (.int (l2 + 1)), some (.int (l3 + (-1)))]) (pc := 20) dX12_wordFrom_20 (Nat.le_of_ble_eq_true rfl) rfl rfl (v := (l2 + 1)) (by rw [show Int32.ofInt 1 = 1 from by decide]) rfl ?_
        refine V.goto (t := 4) (pc := 23) dX12_wordFrom_23 (by decide) ?_
        exact h4 (l2 + 1) (l3 + (-1)) _ h
      · refine V.if_ne_t (t := 20) (pc := 14) dX12_wordFrom_14 (by decide) c ?_
        refine V.iinc (lv' := [some (.ref 44), none, some (.int (l2 + 1)), some (.int l3)]) (pc := 20) dX12_wordFrom_20 (Nat.le_of_ble_eq_true rfl) rfl rfl (v := (l2 + 1)) (by rw [show Int32.ofInt 1 = 1 from by decide]) rfl ?_
        refine V.goto (t := 4) (pc := 23) dX12_wordFrom_23 (by decide) ?_
        exact h4 (l2 + 1) l3 _ h
def f_X12_wordFrom (l1 : Int32) (w : Wd) : Option Int32 :=
  f_X12_wordFrom_L4  FU 0 l1 w
set_option maxHeartbeats 4000000 in
set_option maxRecDepth 100000 in
theorem ok_X12_wordFrom {G : GT} {d : Nat} (hd : 0 ≤ d) {w : Wd} (l1 : Int32) {r : Int32} (h : f_X12_wordFrom l1 w = some r) : uC G yX12_wordFrom mX12_wordFrom d [.ref 44, .int l1] w (some (.int r)) w := by
  unfold f_X12_wordFrom at h
  refine uC_of (lv := [some (.ref 44), some (.int l1), none, none]) 2 pn_X12 ⟨rfl, rfl⟩ (Nat.le_of_ble_eq_true rfl) rfl ?_
  refine V.iconst (pc := 0) dX12_wordFrom_0 ic_0 ?_
  refine V.istore_n (lv' := [some (.ref 44), some (.int l1), some (.int 0), none]) (pc := 1) dX12_wordFrom_1 (Nat.le_of_ble_eq_true rfl) rfl rfl ?_
  refine V.iload_n (pc := 2) dX12_wordFrom_2 rfl ?_
  refine V.istore_n (lv' := [some (.ref 44), some (.int l1), some (.int 0), some (.int l1)]) (pc := 3) dX12_wordFrom_3 (Nat.le_of_ble_eq_true rfl) rfl rfl ?_
  refine V.weak (lv' := [some (.ref 44), none, some (.int 0), some (.int l1)]) (And.intro rfl (And.intro rfl (And.intro rfl trivial))) ?_
  exact t_X12_wordFrom_L4 hd FU 0 l1 _ h
theorem dX12_takesWord_0 : decode cX12_takesWord 0 = .ok (.aload_n 0, 1) := by decide +kernel
theorem dX12_takesWord_1 : decode cX12_takesWord 1 = .ok (.getfield 304, 3) := by decide +kernel
theorem dX12_takesWord_4 : decode cX12_takesWord 4 = .ok (.ifCond .ne 11, 3) := by decide +kernel
theorem dX12_takesWord_7 : decode cX12_takesWord 7 = .ok (.aload_n 0, 1) := by decide +kernel
theorem dX12_takesWord_8 : decode cX12_takesWord 8 = .ok (.getfield 292, 3) := by decide +kernel
theorem dX12_takesWord_11 : decode cX12_takesWord 11 = .ok (.iconst 1, 1) := by decide +kernel
theorem dX12_takesWord_12 : decode cX12_takesWord 12 = .ok (.if_icmp .eq 5, 3) := by decide +kernel
theorem dX12_takesWord_15 : decode cX12_takesWord 15 = .ok (.iconst 0, 1) := by decide +kernel
theorem dX12_takesWord_16 : decode cX12_takesWord 16 = .ok (.ireturn, 1) := by decide +kernel
theorem dX12_takesWord_17 : decode cX12_takesWord 17 = .ok (.aload_n 0, 1) := by decide +kernel
theorem dX12_takesWord_18 : decode cX12_takesWord 18 = .ok (.iload_n 1, 1) := by decide +kernel
theorem dX12_takesWord_19 : decode cX12_takesWord 19 = .ok (.invokevirtual 264, 3) := by decide +kernel
theorem dX12_takesWord_22 : decode cX12_takesWord 22 = .ok (.istore_n 2, 1) := by decide +kernel
theorem dX12_takesWord_23 : decode cX12_takesWord 23 = .ok (.iconst 0, 1) := by decide +kernel
theorem dX12_takesWord_24 : decode cX12_takesWord 24 = .ok (.istore_n 3, 1) := by decide +kernel
theorem dX12_takesWord_25 : decode cX12_takesWord 25 = .ok (.aload_n 0, 1) := by decide +kernel
theorem dX12_takesWord_26 : decode cX12_takesWord 26 = .ok (.getfield 298, 3) := by decide +kernel
theorem dX12_takesWord_29 : decode cX12_takesWord 29 = .ok (.iload_n 3, 1) := by decide +kernel
theorem dX12_takesWord_30 : decode cX12_takesWord 30 = .ok (.iadd, 1) := by decide +kernel
theorem dX12_takesWord_31 : decode cX12_takesWord 31 = .ok (.aload_n 0, 1) := by decide +kernel
theorem dX12_takesWord_32 : decode cX12_takesWord 32 = .ok (.getfield 289, 3) := by decide +kernel
theorem dX12_takesWord_35 : decode cX12_takesWord 35 = .ok (.if_icmp .ge 31, 3) := by decide +kernel
theorem dX12_takesWord_38 : decode cX12_takesWord 38 = .ok (.aload_n 0, 1) := by decide +kernel
theorem dX12_takesWord_39 : decode cX12_takesWord 39 = .ok (.getfield 82, 3) := by decide +kernel
theorem dX12_takesWord_42 : decode cX12_takesWord 42 = .ok (.iload_n 2, 1) := by decide +kernel
theorem dX12_takesWord_43 : decode cX12_takesWord 43 = .ok (.iload_n 3, 1) := by decide +kernel
theorem dX12_takesWord_44 : decode cX12_takesWord 44 = .ok (.iadd, 1) := by decide +kernel
theorem dX12_takesWord_45 : decode cX12_takesWord 45 = .ok (.baload, 1) := by decide +kernel
theorem dX12_takesWord_46 : decode cX12_takesWord 46 = .ok (.aload_n 0, 1) := by decide +kernel
theorem dX12_takesWord_47 : decode cX12_takesWord 47 = .ok (.getfield 79, 3) := by decide +kernel
theorem dX12_takesWord_50 : decode cX12_takesWord 50 = .ok (.aload_n 0, 1) := by decide +kernel
theorem dX12_takesWord_51 : decode cX12_takesWord 51 = .ok (.getfield 298, 3) := by decide +kernel
theorem dX12_takesWord_54 : decode cX12_takesWord 54 = .ok (.iload_n 3, 1) := by decide +kernel
theorem dX12_takesWord_55 : decode cX12_takesWord 55 = .ok (.iadd, 1) := by decide +kernel
theorem dX12_takesWord_56 : decode cX12_takesWord 56 = .ok (.iaload, 1) := by decide +kernel
theorem dX12_takesWord_57 : decode cX12_takesWord 57 = .ok (.if_icmp .ne 9, 3) := by decide +kernel
theorem dX12_takesWord_60 : decode cX12_takesWord 60 = .ok (.iinc 3 1, 3) := by decide +kernel
theorem dX12_takesWord_63 : decode cX12_takesWord 63 = .ok (.goto (-38), 3) := by decide +kernel
theorem dX12_takesWord_66 : decode cX12_takesWord 66 = .ok (.aload_n 0, 1) := by decide +kernel
theorem dX12_takesWord_67 : decode cX12_takesWord 67 = .ok (.getfield 298, 3) := by decide +kernel
theorem dX12_takesWord_70 : decode cX12_takesWord 70 = .ok (.iload_n 3, 1) := by decide +kernel
theorem dX12_takesWord_71 : decode cX12_takesWord 71 = .ok (.iadd, 1) := by decide +kernel
theorem dX12_takesWord_72 : decode cX12_takesWord 72 = .ok (.aload_n 0, 1) := by decide +kernel
theorem dX12_takesWord_73 : decode cX12_takesWord 73 = .ok (.getfield 289, 3) := by decide +kernel
theorem dX12_takesWord_76 : decode cX12_takesWord 76 = .ok (.if_icmp .ne 14, 3) := by decide +kernel
theorem dX12_takesWord_79 : decode cX12_takesWord 79 = .ok (.aload_n 0, 1) := by decide +kernel
theorem dX12_takesWord_80 : decode cX12_takesWord 80 = .ok (.getfield 82, 3) := by decide +kernel
theorem dX12_takesWord_83 : decode cX12_takesWord 83 = .ok (.iload_n 2, 1) := by decide +kernel
theorem dX12_takesWord_84 : decode cX12_takesWord 84 = .ok (.iload_n 3, 1) := by decide +kernel
theorem dX12_takesWord_85 : decode cX12_takesWord 85 = .ok (.iadd, 1) := by decide +kernel
theorem dX12_takesWord_86 : decode cX12_takesWord 86 = .ok (.baload, 1) := by decide +kernel
theorem dX12_takesWord_87 : decode cX12_takesWord 87 = .ok (.ifCond .eq 5, 3) := by decide +kernel
theorem dX12_takesWord_90 : decode cX12_takesWord 90 = .ok (.iconst 0, 1) := by decide +kernel
theorem dX12_takesWord_91 : decode cX12_takesWord 91 = .ok (.ireturn, 1) := by decide +kernel
theorem dX12_takesWord_92 : decode cX12_takesWord 92 = .ok (.aload_n 0, 1) := by decide +kernel
theorem dX12_takesWord_93 : decode cX12_takesWord 93 = .ok (.invokevirtual 308, 3) := by decide +kernel
theorem dX12_takesWord_96 : decode cX12_takesWord 96 = .ok (.iconst 1, 1) := by decide +kernel
theorem dX12_takesWord_97 : decode cX12_takesWord 97 = .ok (.ireturn, 1) := by decide +kernel
def f_X12_takesWord_J66 (l2 : Int32) (l3 : Int32) (w : Wd) : Option (Int32 × Wd) :=
  if ((w.1 44 34) + l3) = (w.1 44 32) then
    rdI w 67 68 (l2 + l3) fun x1 =>
    if x1 = 0 then
      bnd (f_X12_goesOn  w) fun w2 =>
      some (1, w2)
    else
      some (0, w)
  else
    some (0, w)
set_option maxHeartbeats 4000000 in
set_option maxRecDepth 100000 in
theorem t_X12_takesWord_J66 {G : GT} {d : Nat} (hd : 2 ≤ d + 1)  : ∀ (l2 : Int32) (l3 : Int32) (w : Wd) (r : Int32) (w' : Wd), f_X12_takesWord_J66 l2 l3 w = some (r, w') → U (vf G mX12_takesWord (d + 1)) 66 [some (.ref 44), none, some (.int l2), some (.int l3)] [] w (some (.int r), 70, r0, w') := by
  intro l2 l3 w r w' h
  unfold f_X12_takesWord_J66 at h
  refine V.aload_n (pc := 66) dX12_takesWord_66 rfl ?_
  refine V.getI (pc := 67) dX12_takesWord_67 f_RX12_298 k_cl12 lx_44 ly_44 rb_12_34 ?_
  refine V.iload_n (pc := 70) dX12_takesWord_70 rfl ?_
  refine V.iadd (pc := 71) dX12_takesWord_71 ?_
  refine V.aload_n (pc := 72) dX12_takesWord_72 rfl ?_
  refine V.getI (pc := 73) dX12_takesWord_73 f_RX12_289 k_cl12 lx_44 ly_44 rb_12_32 ?_
  rcases ite_e h with ⟨c, h⟩ | ⟨c, h⟩
  · refine V.icmp_ne_f (t := 90) (pc := 76) dX12_takesWord_76 (by decide) c ?_
    refine V.aload_n (pc := 79) dX12_takesWord_79 rfl ?_
    refine V.getR (t := 67) (pc := 80) dX12_takesWord_80 f_RX12_82 k_cl12 lx_44 ly_44 rb_12_31 rr_44_31 ?_
    refine V.iload_n (pc := 83) dX12_takesWord_83 rfl ?_
    refine V.iload_n (pc := 84) dX12_takesWord_84 rfl ?_
    refine V.iadd (pc := 85) dX12_takesWord_85 ?_
    obtain ⟨x1, ix1, ex1, h⟩ := rdI_e h
    refine V.baldX (pc := 86) dX12_takesWord_86 lx_67 ly_67 ix1 ex1 ?_
    rcases ite_e h with ⟨c, h⟩ | ⟨c, h⟩
    · refine V.if_eq_t (t := 92) (pc := 87) dX12_takesWord_87 (by decide) c ?_
      refine V.aload_n (pc := 92) dX12_takesWord_92 rfl ?_
      obtain ⟨w2, ew2, h⟩ := bnd_e h
      refine U.callV (pc := 93) (As := []) (st := []) dX12_takesWord_93 l_RX12_308 (ok_X12_goesOn (by omega)  ew2) lx_44 ly_44 cn_12 (Nat.le_of_ble_eq_true rfl) rfl rfl (Nat.le_of_ble_eq_true rfl) ?_
      refine V.iconst (pc := 96) dX12_takesWord_96 ic_1 ?_
      obtain ⟨rfl, rfl⟩ := Prod.mk.inj (Option.some.inj h)
      exact V.zret (pc := 97) dX12_takesWord_97 rfl (Or.inr rfl) (Nat.le_refl _) (Nat.le_refl _)
    · refine V.if_eq_f (t := 92) (pc := 87) dX12_takesWord_87 (by decide) c ?_
      refine V.iconst (pc := 90) dX12_takesWord_90 ic_0 ?_
      obtain ⟨rfl, rfl⟩ := Prod.mk.inj (Option.some.inj h)
      exact V.zret (pc := 91) dX12_takesWord_91 rfl (Or.inl rfl) (Nat.le_refl _) (Nat.le_refl _)
  · refine V.icmp_ne_t (t := 90) (pc := 76) dX12_takesWord_76 (by decide) c ?_
    refine V.iconst (pc := 90) dX12_takesWord_90 ic_0 ?_
    obtain ⟨rfl, rfl⟩ := Prod.mk.inj (Option.some.inj h)
    exact V.zret (pc := 91) dX12_takesWord_91 rfl (Or.inl rfl) (Nat.le_refl _) (Nat.le_refl _)
def f_X12_takesWord_B25b (k25 : Int32 → Int32 → Wd → Option (Int32 × Wd)) (l2 : Int32) (l3 : Int32) (w : Wd) : Option (Int32 × Wd) :=
  if (w.1 44 32) ≤ ((w.1 44 34) + l3) then
    f_X12_takesWord_J66  l2 l3 w
  else
    rdI w 67 68 (l2 + l3) fun x1 =>
    rdI w 66 200 ((w.1 44 34) + l3) fun x2 =>
    if x1 = x2 then
      k25 l2 (l3 + 1) w
    else
      f_X12_takesWord_J66  l2 l3 w
def f_X12_takesWord_L25 (n : Nat) : Int32 → Int32 → Wd → Option (Int32 × Wd) :=
  Nat.rec (fun _ _ _ => none) (fun _ k => f_X12_takesWord_B25b k) n
set_option maxHeartbeats 4000000 in
set_option maxRecDepth 100000 in
theorem t_X12_takesWord_L25 {G : GT} {d : Nat} (hd : 2 ≤ d + 1)  : ∀ (n : Nat) (l2 : Int32) (l3 : Int32) (w : Wd) (r : Int32) (w' : Wd), f_X12_takesWord_L25 n l2 l3 w = some (r, w') → U (vf G mX12_takesWord (d + 1)) 25 [some (.ref 44), none, some (.int l2), some (.int l3)] [] w (some (.int r), 70, r0, w') := by
  intro n
  induction n with
  | zero => intro l2 l3 w r w' h; cases h
  | succ n h25 =>
    intro l2 l3 w r w' h
    have h : f_X12_takesWord_B25b (f_X12_takesWord_L25 n) l2 l3 w = some (r, w') := h
    unfold f_X12_takesWord_B25b at h
    refine V.aload_n (pc := 25) dX12_takesWord_25 rfl ?_
    refine V.getI (pc := 26) dX12_takesWord_26 f_RX12_298 k_cl12 lx_44 ly_44 rb_12_34 ?_
    refine V.iload_n (pc := 29) dX12_takesWord_29 rfl ?_
    refine V.iadd (pc := 30) dX12_takesWord_30 ?_
    refine V.aload_n (pc := 31) dX12_takesWord_31 rfl ?_
    refine V.getI (pc := 32) dX12_takesWord_32 f_RX12_289 k_cl12 lx_44 ly_44 rb_12_32 ?_
    rcases ite_e h with ⟨c, h⟩ | ⟨c, h⟩
    · refine V.icmp_ge_t (t := 66) (pc := 35) dX12_takesWord_35 (by decide) c ?_
      exact t_X12_takesWord_J66 hd l2 l3 w _ _ h
    · refine V.icmp_ge_f (t := 66) (pc := 35) dX12_takesWord_35 (by decide) c ?_
      refine V.aload_n (pc := 38) dX12_takesWord_38 rfl ?_
      refine V.getR (t := 67) (pc := 39) dX12_takesWord_39 f_RX12_82 k_cl12 lx_44 ly_44 rb_12_31 rr_44_31 ?_
      refine V.iload_n (pc := 42) dX12_takesWord_42 rfl ?_
      refine V.iload_n (pc := 43) dX12_takesWord_43 rfl ?_
      refine V.iadd (pc := 44) dX12_takesWord_44 ?_
      obtain ⟨x1, ix1, ex1, h⟩ := rdI_e h
      refine V.baldX (pc := 45) dX12_takesWord_45 lx_67 ly_67 ix1 ex1 ?_
      refine V.aload_n (pc := 46) dX12_takesWord_46 rfl ?_
      refine V.getR (t := 66) (pc := 47) dX12_takesWord_47 f_RX12_79 k_cl12 lx_44 ly_44 rb_12_29 rr_44_29 ?_
      refine V.aload_n (pc := 50) dX12_takesWord_50 rfl ?_
      refine V.getI (pc := 51) dX12_takesWord_51 f_RX12_298 k_cl12 lx_44 ly_44 rb_12_34 ?_
      refine V.iload_n (pc := 54) dX12_takesWord_54 rfl ?_
      refine V.iadd (pc := 55) dX12_takesWord_55 ?_
      obtain ⟨x2, ix2, ex2, h⟩ := rdI_e h
      refine V.ialdX (pc := 56) dX12_takesWord_56 lx_66 ly_66 ix2 ex2 ?_
      rcases ite_e h with ⟨c, h⟩ | ⟨c, h⟩
      · refine V.icmp_ne_f (t := 66) (pc := 57) dX12_takesWord_57 (by decide) c ?_
        refine V.iinc (lv' := [some (.ref 44), none, some (.int l2), some (.int (l3 + 1))]) (pc := 60) dX12_takesWord_60 (Nat.le_of_ble_eq_true rfl) rfl rfl (v := (l3 + 1)) (by rw [show Int32.ofInt 1 = 1 from by decide]) rfl ?_
        refine V.goto (t := 25) (pc := 63) dX12_takesWord_63 (by decide) ?_
        exact h25 l2 (l3 + 1) w _ _ h
      · refine V.icmp_ne_t (t := 66) (pc := 57) dX12_takesWord_57 (by decide) c ?_
        exact t_X12_takesWord_J66 hd l2 l3 w _ _ h
def f_X12_takesWord (l1 : Int32) (w : Wd) : Option (Int32 × Wd) :=
  if (w.1 44 36) = 0 then
    if (w.1 44 33) = 1 then
      bnd (f_X12_wordFrom l1 w) fun x1 =>
      f_X12_takesWord_L25  FU x1 0 w
    else
      some (0, w)
  else
    some (0, w)
set_option maxHeartbeats 4000000 in
set_option maxRecDepth 100000 in
theorem ok_X12_takesWord {G : GT} {d : Nat} (hd : 2 ≤ d) {w : Wd} (l1 : Int32) {r : Int32} {w' : Wd} (h : f_X12_takesWord l1 w = some (r, w')) : uC G yX12_takesWord mX12_takesWord d [.ref 44, .int l1] w (some (.int r)) w' := by
  obtain ⟨d, rfl⟩ : ∃ e, d = e + 1 := ⟨d - 1, by omega⟩
  unfold f_X12_takesWord at h
  refine uC_of (lv := [some (.ref 44), some (.int l1), none, none]) 2 pn_X12 ⟨rfl, rfl⟩ (Nat.le_of_ble_eq_true rfl) rfl ?_
  refine V.aload_n (pc := 0) dX12_takesWord_0 rfl ?_
  refine V.getI (pc := 1) dX12_takesWord_1 f_RX12_304 k_cl12 lx_44 ly_44 rb_12_36 ?_
  rcases ite_e h with ⟨c, h⟩ | ⟨c, h⟩
  · refine V.if_ne_f (t := 15) (pc := 4) dX12_takesWord_4 (by decide) c ?_
    refine V.aload_n (pc := 7) dX12_takesWord_7 rfl ?_
    refine V.getI (pc := 8) dX12_takesWord_8 f_RX12_292 k_cl12 lx_44 ly_44 rb_12_33 ?_
    refine V.iconst (pc := 11) dX12_takesWord_11 ic_1 ?_
    rcases ite_e h with ⟨c, h⟩ | ⟨c, h⟩
    · refine V.icmp_eq_t (t := 17) (pc := 12) dX12_takesWord_12 (by decide) c ?_
      refine V.aload_n (pc := 17) dX12_takesWord_17 rfl ?_
      refine V.iload_n (pc := 18) dX12_takesWord_18 rfl ?_
      obtain ⟨x1, ex1, h⟩ := bnd_e h
      refine U.callV (pc := 19) (As := [.int l1]) (st := []) dX12_takesWord_19 l_RX12_264 (ok_X12_wordFrom (by omega) l1 ex1) lx_44 ly_44 cn_12 (Nat.le_of_ble_eq_true rfl) rfl rfl (Nat.le_of_ble_eq_true rfl) ?_
      refine V.istore_n (lv' := [some (.ref 44), some (.int l1), some (.int x1), none]) (pc := 22) dX12_takesWord_22 (Nat.le_of_ble_eq_true rfl) rfl rfl ?_
      refine V.iconst (pc := 23) dX12_takesWord_23 ic_0 ?_
      refine V.istore_n (lv' := [some (.ref 44), some (.int l1), some (.int x1), some (.int 0)]) (pc := 24) dX12_takesWord_24 (Nat.le_of_ble_eq_true rfl) rfl rfl ?_
      refine V.weak (lv' := [some (.ref 44), none, some (.int x1), some (.int 0)]) (And.intro rfl (And.intro rfl (And.intro rfl trivial))) ?_
      exact t_X12_takesWord_L25 hd FU x1 0 w _ _ h
    · refine V.icmp_eq_f (t := 17) (pc := 12) dX12_takesWord_12 (by decide) c ?_
      refine V.iconst (pc := 15) dX12_takesWord_15 ic_0 ?_
      obtain ⟨rfl, rfl⟩ := Prod.mk.inj (Option.some.inj h)
      exact V.zret (pc := 16) dX12_takesWord_16 rfl (Or.inl rfl) (Nat.le_refl _) (Nat.le_refl _)
  · refine V.if_ne_t (t := 15) (pc := 4) dX12_takesWord_4 (by decide) c ?_
    refine V.iconst (pc := 15) dX12_takesWord_15 ic_0 ?_
    obtain ⟨rfl, rfl⟩ := Prod.mk.inj (Option.some.inj h)
    exact V.zret (pc := 16) dX12_takesWord_16 rfl (Or.inl rfl) (Nat.le_refl _) (Nat.le_refl _)
theorem dX12_readsSet_0 : decode cX12_readsSet 0 = .ok (.aload_n 0, 1) := by decide +kernel
theorem dX12_readsSet_1 : decode cX12_readsSet 1 = .ok (.getfield 292, 3) := by decide +kernel
theorem dX12_readsSet_4 : decode cX12_readsSet 4 = .ok (.iconst 2, 1) := by decide +kernel
theorem dX12_readsSet_5 : decode cX12_readsSet 5 = .ok (.if_icmp .ne 74, 3) := by decide +kernel
theorem dX12_readsSet_8 : decode cX12_readsSet 8 = .ok (.aload_n 0, 1) := by decide +kernel
theorem dX12_readsSet_9 : decode cX12_readsSet 9 = .ok (.getfield 304, 3) := by decide +kernel
theorem dX12_readsSet_12 : decode cX12_readsSet 12 = .ok (.ifCond .ne 67, 3) := by decide +kernel
theorem dX12_readsSet_15 : decode cX12_readsSet 15 = .ok (.aload_n 0, 1) := by decide +kernel
theorem dX12_readsSet_16 : decode cX12_readsSet 16 = .ok (.aload_n 0, 1) := by decide +kernel
theorem dX12_readsSet_17 : decode cX12_readsSet 17 = .ok (.getfield 301, 3) := by decide +kernel
theorem dX12_readsSet_20 : decode cX12_readsSet 20 = .ok (.aload_n 0, 1) := by decide +kernel
theorem dX12_readsSet_21 : decode cX12_readsSet 21 = .ok (.getfield 311, 3) := by decide +kernel
theorem dX12_readsSet_24 : decode cX12_readsSet 24 = .ok (.if_icmp .ge 17, 3) := by decide +kernel
theorem dX12_readsSet_27 : decode cX12_readsSet 27 = .ok (.aload_n 0, 1) := by decide +kernel
theorem dX12_readsSet_28 : decode cX12_readsSet 28 = .ok (.getfield 317, 3) := by decide +kernel
theorem dX12_readsSet_31 : decode cX12_readsSet 31 = .ok (.aload_n 0, 1) := by decide +kernel
theorem dX12_readsSet_32 : decode cX12_readsSet 32 = .ok (.getfield 301, 3) := by decide +kernel
theorem dX12_readsSet_35 : decode cX12_readsSet 35 = .ok (.invokestatic 128, 3) := by decide +kernel
theorem dX12_readsSet_38 : decode cX12_readsSet 38 = .ok (.ifCond .eq 7, 3) := by decide +kernel
theorem dX12_readsSet_41 : decode cX12_readsSet 41 = .ok (.iconst 1, 1) := by decide +kernel
theorem dX12_readsSet_42 : decode cX12_readsSet 42 = .ok (.goto 4, 3) := by decide +kernel
theorem dX12_readsSet_45 : decode cX12_readsSet 45 = .ok (.iconst 0, 1) := by decide +kernel
theorem dX12_readsSet_46 : decode cX12_readsSet 46 = .ok (.putfield 304, 3) := by decide +kernel
theorem dX12_readsSet_49 : decode cX12_readsSet 49 = .ok (.aload_n 0, 1) := by decide +kernel
theorem dX12_readsSet_50 : decode cX12_readsSet 50 = .ok (.getfield 304, 3) := by decide +kernel
theorem dX12_readsSet_53 : decode cX12_readsSet 53 = .ok (.ifCond .eq 4, 3) := by decide +kernel
theorem dX12_readsSet_56 : decode cX12_readsSet 56 = .ok (.return_, 1) := by decide +kernel
theorem dX12_readsSet_57 : decode cX12_readsSet 57 = .ok (.aload_n 0, 1) := by decide +kernel
theorem dX12_readsSet_58 : decode cX12_readsSet 58 = .ok (.dup, 1) := by decide +kernel
theorem dX12_readsSet_59 : decode cX12_readsSet 59 = .ok (.getfield 317, 3) := by decide +kernel
theorem dX12_readsSet_62 : decode cX12_readsSet 62 = .ok (.iconst 1, 1) := by decide +kernel
theorem dX12_readsSet_63 : decode cX12_readsSet 63 = .ok (.aload_n 0, 1) := by decide +kernel
theorem dX12_readsSet_64 : decode cX12_readsSet 64 = .ok (.getfield 301, 3) := by decide +kernel
theorem dX12_readsSet_67 : decode cX12_readsSet 67 = .ok (.ishl, 1) := by decide +kernel
theorem dX12_readsSet_68 : decode cX12_readsSet 68 = .ok (.ior, 1) := by decide +kernel
theorem dX12_readsSet_69 : decode cX12_readsSet 69 = .ok (.putfield 317, 3) := by decide +kernel
theorem dX12_readsSet_72 : decode cX12_readsSet 72 = .ok (.aload_n 0, 1) := by decide +kernel
theorem dX12_readsSet_73 : decode cX12_readsSet 73 = .ok (.invokevirtual 308, 3) := by decide +kernel
theorem dX12_readsSet_76 : decode cX12_readsSet 76 = .ok (.goto (-76), 3) := by decide +kernel
theorem dX12_readsSet_79 : decode cX12_readsSet 79 = .ok (.return_, 1) := by decide +kernel
def f_X12_readsSet_B0b (k0 : Wd → Option Wd) (w : Wd) : Option Wd :=
  if (w.1 44 33) = 2 then
    if (w.1 44 36) = 0 then
      if (w.1 44 40) ≤ (w.1 44 35) then
        letW (sI w 44 36 1) fun w1 =>
        if (w1.1 44 36) = 0 then
          letW (sI w1 44 41 ((w1.1 44 41) ||| (1 <<< ((w1.1 44 35) &&& 31)))) fun w2 =>
          bnd (f_X12_goesOn  w2) fun w3 =>
          k0 w3
        else
          some w1
      else
        if (f_X12_has (w.1 44 41) (w.1 44 35)) = 0 then
          letW (sI w 44 36 0) fun w4 =>
          if (w4.1 44 36) = 0 then
            letW (sI w4 44 41 ((w4.1 44 41) ||| (1 <<< ((w4.1 44 35) &&& 31)))) fun w5 =>
            bnd (f_X12_goesOn  w5) fun w6 =>
            k0 w6
          else
            some w4
        else
          letW (sI w 44 36 1) fun w7 =>
          if (w7.1 44 36) = 0 then
            letW (sI w7 44 41 ((w7.1 44 41) ||| (1 <<< ((w7.1 44 35) &&& 31)))) fun w8 =>
            bnd (f_X12_goesOn  w8) fun w9 =>
            k0 w9
          else
            some w7
    else
      some w
  else
    some w
def f_X12_readsSet_L0 (n : Nat) : Wd → Option Wd :=
  Nat.rec (fun _ => none) (fun _ k => f_X12_readsSet_B0b k) n
set_option maxHeartbeats 4000000 in
set_option maxRecDepth 100000 in
theorem t_X12_readsSet_L0 {G : GT} {d : Nat} (hd : 2 ≤ d + 1)  : ∀ (n : Nat)  (w : Wd) (w' : Wd), f_X12_readsSet_L0 n  w = some w' → U (vf G mX12_readsSet (d + 1)) 0 [some (.ref 44)] [] w (none, 70, r0, w') := by
  intro n
  induction n with
  | zero => intro  w w' h; cases h
  | succ n h0 =>
    intro  w w' h
    have h : f_X12_readsSet_B0b (f_X12_readsSet_L0 n)  w = some w' := h
    unfold f_X12_readsSet_B0b at h
    refine V.aload_n (pc := 0) dX12_readsSet_0 rfl ?_
    refine V.getI (pc := 1) dX12_readsSet_1 f_RX12_292 k_cl12 lx_44 ly_44 rb_12_33 ?_
    refine V.iconst (pc := 4) dX12_readsSet_4 ic_2 ?_
    rcases ite_e h with ⟨c, h⟩ | ⟨c, h⟩
    · refine V.icmp_ne_f (t := 79) (pc := 5) dX12_readsSet_5 (by decide) c ?_
      refine V.aload_n (pc := 8) dX12_readsSet_8 rfl ?_
      refine V.getI (pc := 9) dX12_readsSet_9 f_RX12_304 k_cl12 lx_44 ly_44 rb_12_36 ?_
      rcases ite_e h with ⟨c, h⟩ | ⟨c, h⟩
      · refine V.if_ne_f (t := 79) (pc := 12) dX12_readsSet_12 (by decide) c ?_
        refine V.aload_n (pc := 15) dX12_readsSet_15 rfl ?_
        refine V.aload_n (pc := 16) dX12_readsSet_16 rfl ?_
        refine V.getI (pc := 17) dX12_readsSet_17 f_RX12_301 k_cl12 lx_44 ly_44 rb_12_35 ?_
        refine V.aload_n (pc := 20) dX12_readsSet_20 rfl ?_
        refine V.getI (pc := 21) dX12_readsSet_21 f_RX12_311 k_cl12 lx_44 ly_44 rb_12_40 ?_
        rcases ite_e h with ⟨c, h⟩ | ⟨c, h⟩
        · refine V.icmp_ge_t (t := 41) (pc := 24) dX12_readsSet_24 (by decide) c ?_
          refine V.iconst (pc := 41) dX12_readsSet_41 ic_1 ?_
          refine V.goto (t := 46) (pc := 42) dX12_readsSet_42 (by decide) ?_
          obtain ⟨w1, ew1, h⟩ := letW_e h
          refine V.putIX (pc := 46) dX12_readsSet_46 f_RX12_304 k_cl12 lx_44 ly_44 rb_12_36 (fin_Z (T0 := TX12) rfl rfl rfl (Or.inr rfl)) ew1 ?_
          refine V.aload_n (pc := 49) dX12_readsSet_49 rfl ?_
          refine V.getI (pc := 50) dX12_readsSet_50 f_RX12_304 k_cl12 lx_44 ly_44 rb_12_36 ?_
          rcases ite_e h with ⟨c, h⟩ | ⟨c, h⟩
          · refine V.if_eq_t (t := 57) (pc := 53) dX12_readsSet_53 (by decide) c ?_
            refine V.aload_n (pc := 57) dX12_readsSet_57 rfl ?_
            refine V.dup (pc := 58) dX12_readsSet_58 rfl ?_
            refine V.getI (pc := 59) dX12_readsSet_59 f_RX12_317 k_cl12 lx_44 ly_44 rb_12_41 ?_
            refine V.iconst (pc := 62) dX12_readsSet_62 ic_1 ?_
            refine V.aload_n (pc := 63) dX12_readsSet_63 rfl ?_
            refine V.getI (pc := 64) dX12_readsSet_64 f_RX12_301 k_cl12 lx_44 ly_44 rb_12_35 ?_
            refine V.ishl (pc := 67) dX12_readsSet_67 ?_
            refine V.ior (pc := 68) dX12_readsSet_68 ?_
            obtain ⟨w2, ew2, h⟩ := letW_e h
            refine V.putIX (pc := 69) dX12_readsSet_69 f_RX12_317 k_cl12 lx_44 ly_44 rb_12_41 (fin_I (T0 := TX12) rfl rfl rfl) ew2 ?_
            refine V.aload_n (pc := 72) dX12_readsSet_72 rfl ?_
            obtain ⟨w3, ew3, h⟩ := bnd_e h
            refine U.callV (pc := 73) (As := []) (st := []) dX12_readsSet_73 l_RX12_308 (ok_X12_goesOn (by omega)  ew3) lx_44 ly_44 cn_12 (Nat.le_of_ble_eq_true rfl) rfl rfl (Nat.le_of_ble_eq_true rfl) ?_
            refine V.goto (t := 0) (pc := 76) dX12_readsSet_76 (by decide) ?_
            exact h0 w3 _ h
          · refine V.if_eq_f (t := 57) (pc := 53) dX12_readsSet_53 (by decide) c ?_
            obtain rfl := Option.some.inj h
            exact V.vret (pc := 56) dX12_readsSet_56 rfl (Nat.le_refl _) (Nat.le_refl _)
        · refine V.icmp_ge_f (t := 41) (pc := 24) dX12_readsSet_24 (by decide) c ?_
          refine V.aload_n (pc := 27) dX12_readsSet_27 rfl ?_
          refine V.getI (pc := 28) dX12_readsSet_28 f_RX12_317 k_cl12 lx_44 ly_44 rb_12_41 ?_
          refine V.aload_n (pc := 31) dX12_readsSet_31 rfl ?_
          refine V.getI (pc := 32) dX12_readsSet_32 f_RX12_301 k_cl12 lx_44 ly_44 rb_12_35 ?_
          refine U.callS (pc := 35) (As := [.int (w.1 44 41), .int (w.1 44 35)]) (st := [.ref 44]) dX12_readsSet_35 l_RX12_128 (ok_X12_has (by omega) (w.1 44 41) (w.1 44 35) ) (Nat.le_of_ble_eq_true rfl) rfl rfl (Nat.le_of_ble_eq_true rfl) ?_
          rcases ite_e h with ⟨c, h⟩ | ⟨c, h⟩
          · refine V.if_eq_t (t := 45) (pc := 38) dX12_readsSet_38 (by decide) c ?_
            refine V.iconst (pc := 45) dX12_readsSet_45 ic_0 ?_
            obtain ⟨w4, ew4, h⟩ := letW_e h
            refine V.putIX (pc := 46) dX12_readsSet_46 f_RX12_304 k_cl12 lx_44 ly_44 rb_12_36 (fin_Z (T0 := TX12) rfl rfl rfl (Or.inl rfl)) ew4 ?_
            refine V.aload_n (pc := 49) dX12_readsSet_49 rfl ?_
            refine V.getI (pc := 50) dX12_readsSet_50 f_RX12_304 k_cl12 lx_44 ly_44 rb_12_36 ?_
            rcases ite_e h with ⟨c, h⟩ | ⟨c, h⟩
            · refine V.if_eq_t (t := 57) (pc := 53) dX12_readsSet_53 (by decide) c ?_
              refine V.aload_n (pc := 57) dX12_readsSet_57 rfl ?_
              refine V.dup (pc := 58) dX12_readsSet_58 rfl ?_
              refine V.getI (pc := 59) dX12_readsSet_59 f_RX12_317 k_cl12 lx_44 ly_44 rb_12_41 ?_
              refine V.iconst (pc := 62) dX12_readsSet_62 ic_1 ?_
              refine V.aload_n (pc := 63) dX12_readsSet_63 rfl ?_
              refine V.getI (pc := 64) dX12_readsSet_64 f_RX12_301 k_cl12 lx_44 ly_44 rb_12_35 ?_
              refine V.ishl (pc := 67) dX12_readsSet_67 ?_
              refine V.ior (pc := 68) dX12_readsSet_68 ?_
              obtain ⟨w5, ew5, h⟩ := letW_e h
              refine V.putIX (pc := 69) dX12_readsSet_69 f_RX12_317 k_cl12 lx_44 ly_44 rb_12_41 (fin_I (T0 := TX12) rfl rfl rfl) ew5 ?_
              refine V.aload_n (pc := 72) dX12_readsSet_72 rfl ?_
              obtain ⟨w6, ew6, h⟩ := bnd_e h
              refine U.callV (pc := 73) (As := []) (st := []) dX12_readsSet_73 l_RX12_308 (ok_X12_goesOn (by omega)  ew6) lx_44 ly_44 cn_12 (Nat.le_of_ble_eq_true rfl) rfl rfl (Nat.le_of_ble_eq_true rfl) ?_
              refine V.goto (t := 0) (pc := 76) dX12_readsSet_76 (by decide) ?_
              exact h0 w6 _ h
            · refine V.if_eq_f (t := 57) (pc := 53) dX12_readsSet_53 (by decide) c ?_
              obtain rfl := Option.some.inj h
              exact V.vret (pc := 56) dX12_readsSet_56 rfl (Nat.le_refl _) (Nat.le_refl _)
          · refine V.if_eq_f (t := 45) (pc := 38) dX12_readsSet_38 (by decide) c ?_
            refine V.iconst (pc := 41) dX12_readsSet_41 ic_1 ?_
            refine V.goto (t := 46) (pc := 42) dX12_readsSet_42 (by decide) ?_
            obtain ⟨w7, ew7, h⟩ := letW_e h
            refine V.putIX (pc := 46) dX12_readsSet_46 f_RX12_304 k_cl12 lx_44 ly_44 rb_12_36 (fin_Z (T0 := TX12) rfl rfl rfl (Or.inr rfl)) ew7 ?_
            refine V.aload_n (pc := 49) dX12_readsSet_49 rfl ?_
            refine V.getI (pc := 50) dX12_readsSet_50 f_RX12_304 k_cl12 lx_44 ly_44 rb_12_36 ?_
            rcases ite_e h with ⟨c, h⟩ | ⟨c, h⟩
            · refine V.if_eq_t (t := 57) (pc := 53) dX12_readsSet_53 (by decide) c ?_
              refine V.aload_n (pc := 57) dX12_readsSet_57 rfl ?_
              refine V.dup (pc := 58) dX12_readsSet_58 rfl ?_
              refine V.getI (pc := 59) dX12_readsSet_59 f_RX12_317 k_cl12 lx_44 ly_44 rb_12_41 ?_
              refine V.iconst (pc := 62) dX12_readsSet_62 ic_1 ?_
              refine V.aload_n (pc := 63) dX12_readsSet_63 rfl ?_
              refine V.getI (pc := 64) dX12_readsSet_64 f_RX12_301 k_cl12 lx_44 ly_44 rb_12_35 ?_
              refine V.ishl (pc := 67) dX12_readsSet_67 ?_
              refine V.ior (pc := 68) dX12_readsSet_68 ?_
              obtain ⟨w8, ew8, h⟩ := letW_e h
              refine V.putIX (pc := 69) dX12_readsSet_69 f_RX12_317 k_cl12 lx_44 ly_44 rb_12_41 (fin_I (T0 := TX12) rfl rfl rfl) ew8 ?_
              refine V.aload_n (pc := 72) dX12_readsSet_72 rfl ?_
              obtain ⟨w9, ew9, h⟩ := bnd_e h
              refine U.callV (pc := 73) (As := []) (st := []) dX12_readsSet_73 l_RX12_308 (ok_X12_goesOn (by omega)  ew9) lx_44 ly_44 cn_12 (Nat.le_of_ble_eq_true rfl) rfl rfl (Nat.le_of_ble_eq_true rfl) ?_
              refine V.goto (t := 0) (pc := 76) dX12_readsSet_76 (by decide) ?_
              exact h0 w9 _ h
            · refine V.if_eq_f (t := 57) (pc := 53) dX12_readsSet_53 (by decide) c ?_
              obtain rfl := Option.some.inj h
              exact V.vret (pc := 56) dX12_readsSet_56 rfl (Nat.le_refl _) (Nat.le_refl _)
      · refine V.if_ne_t (t := 79) (pc := 12) dX12_readsSet_12 (by decide) c ?_
        obtain rfl := Option.some.inj h
        exact V.vret (pc := 79) dX12_readsSet_79 rfl (Nat.le_refl _) (Nat.le_refl _)
    · refine V.icmp_ne_t (t := 79) (pc := 5) dX12_readsSet_5 (by decide) c ?_
      obtain rfl := Option.some.inj h
      exact V.vret (pc := 79) dX12_readsSet_79 rfl (Nat.le_refl _) (Nat.le_refl _)
def f_X12_readsSet (w : Wd) : Option Wd :=
  f_X12_readsSet_L0  FU w
set_option maxHeartbeats 4000000 in
set_option maxRecDepth 100000 in
theorem ok_X12_readsSet {G : GT} {d : Nat} (hd : 2 ≤ d) {w : Wd}  {w' : Wd} (h : f_X12_readsSet  w = some w') : uC G yX12_readsSet mX12_readsSet d [.ref 44] w none w' := by
  obtain ⟨d, rfl⟩ : ∃ e, d = e + 1 := ⟨d - 1, by omega⟩
  unfold f_X12_readsSet at h
  refine uC_of (lv := [some (.ref 44)]) 0 pn_X12 ⟨rfl, rfl⟩ (Nat.le_of_ble_eq_true rfl) rfl ?_
  exact t_X12_readsSet_L0 hd FU w _ h
theorem dX12_readsFactor_0 : decode cX12_readsFactor 0 = .ok (.iload_n 1, 1) := by decide +kernel
theorem dX12_readsFactor_1 : decode cX12_readsFactor 1 = .ok (.ifCond .ne 8, 3) := by decide +kernel
theorem dX12_readsFactor_4 : decode cX12_readsFactor 4 = .ok (.bipush 16, 2) := by decide +kernel
theorem dX12_readsFactor_6 : decode cX12_readsFactor 6 = .ok (.goto 5, 3) := by decide +kernel
theorem dX12_readsFactor_9 : decode cX12_readsFactor 9 = .ok (.bipush 8, 2) := by decide +kernel
theorem dX12_readsFactor_11 : decode cX12_readsFactor 11 = .ok (.istore_n 3, 1) := by decide +kernel
theorem dX12_readsFactor_12 : decode cX12_readsFactor 12 = .ok (.iload_n 1, 1) := by decide +kernel
theorem dX12_readsFactor_13 : decode cX12_readsFactor 13 = .ok (.iconst 2, 1) := by decide +kernel
theorem dX12_readsFactor_14 : decode cX12_readsFactor 14 = .ok (.if_icmp .eq 37, 3) := by decide +kernel
theorem dX12_readsFactor_17 : decode cX12_readsFactor 17 = .ok (.aload_n 0, 1) := by decide +kernel
theorem dX12_readsFactor_18 : decode cX12_readsFactor 18 = .ok (.getfield 292, 3) := by decide +kernel
theorem dX12_readsFactor_21 : decode cX12_readsFactor 21 = .ok (.iconst 2, 1) := by decide +kernel
theorem dX12_readsFactor_22 : decode cX12_readsFactor 22 = .ok (.if_icmp .ne 23, 3) := by decide +kernel
theorem dX12_readsFactor_25 : decode cX12_readsFactor 25 = .ok (.aload_n 0, 1) := by decide +kernel
theorem dX12_readsFactor_26 : decode cX12_readsFactor 26 = .ok (.getfield 301, 3) := by decide +kernel
theorem dX12_readsFactor_29 : decode cX12_readsFactor 29 = .ok (.iload_n 1, 1) := by decide +kernel
theorem dX12_readsFactor_30 : decode cX12_readsFactor 30 = .ok (.ifCond .ne 7, 3) := by decide +kernel
theorem dX12_readsFactor_33 : decode cX12_readsFactor 33 = .ok (.iconst 2, 1) := by decide +kernel
theorem dX12_readsFactor_34 : decode cX12_readsFactor 34 = .ok (.goto 4, 3) := by decide +kernel
theorem dX12_readsFactor_37 : decode cX12_readsFactor 37 = .ok (.iconst 1, 1) := by decide +kernel
theorem dX12_readsFactor_38 : decode cX12_readsFactor 38 = .ok (.iload_n 3, 1) := by decide +kernel
theorem dX12_readsFactor_39 : decode cX12_readsFactor 39 = .ok (.invokestatic 139, 3) := by decide +kernel
theorem dX12_readsFactor_42 : decode cX12_readsFactor 42 = .ok (.ifCond .ne 9, 3) := by decide +kernel
theorem dX12_readsFactor_45 : decode cX12_readsFactor 45 = .ok (.aload_n 0, 1) := by decide +kernel
theorem dX12_readsFactor_46 : decode cX12_readsFactor 46 = .ok (.iconst 1, 1) := by decide +kernel
theorem dX12_readsFactor_47 : decode cX12_readsFactor 47 = .ok (.putfield 304, 3) := by decide +kernel
theorem dX12_readsFactor_50 : decode cX12_readsFactor 50 = .ok (.return_, 1) := by decide +kernel
theorem dX12_readsFactor_51 : decode cX12_readsFactor 51 = .ok (.iload_n 1, 1) := by decide +kernel
theorem dX12_readsFactor_52 : decode cX12_readsFactor 52 = .ok (.iconst 2, 1) := by decide +kernel
theorem dX12_readsFactor_53 : decode cX12_readsFactor 53 = .ok (.if_icmp .ne 7, 3) := by decide +kernel
theorem dX12_readsFactor_56 : decode cX12_readsFactor 56 = .ok (.iconst 0, 1) := by decide +kernel
theorem dX12_readsFactor_57 : decode cX12_readsFactor 57 = .ok (.goto 7, 3) := by decide +kernel
theorem dX12_readsFactor_60 : decode cX12_readsFactor 60 = .ok (.aload_n 0, 1) := by decide +kernel
theorem dX12_readsFactor_61 : decode cX12_readsFactor 61 = .ok (.getfield 301, 3) := by decide +kernel
theorem dX12_readsFactor_64 : decode cX12_readsFactor 64 = .ok (.istore 4, 2) := by decide +kernel
theorem dX12_readsFactor_66 : decode cX12_readsFactor 66 = .ok (.aload_n 0, 1) := by decide +kernel
theorem dX12_readsFactor_67 : decode cX12_readsFactor 67 = .ok (.getfield 311, 3) := by decide +kernel
theorem dX12_readsFactor_70 : decode cX12_readsFactor 70 = .ok (.iload_n 1, 1) := by decide +kernel
theorem dX12_readsFactor_71 : decode cX12_readsFactor 71 = .ok (.iload 4, 2) := by decide +kernel
theorem dX12_readsFactor_73 : decode cX12_readsFactor 73 = .ok (.invokestatic 109, 3) := by decide +kernel
theorem dX12_readsFactor_76 : decode cX12_readsFactor 76 = .ok (.imul, 1) := by decide +kernel
theorem dX12_readsFactor_77 : decode cX12_readsFactor 77 = .ok (.bipush 16, 2) := by decide +kernel
theorem dX12_readsFactor_79 : decode cX12_readsFactor 79 = .ok (.if_icmp .le 19, 3) := by decide +kernel
theorem dX12_readsFactor_82 : decode cX12_readsFactor 82 = .ok (.iload_n 1, 1) := by decide +kernel
theorem dX12_readsFactor_83 : decode cX12_readsFactor 83 = .ok (.iconst 2, 1) := by decide +kernel
theorem dX12_readsFactor_84 : decode cX12_readsFactor 84 = .ok (.if_icmp .ne 8, 3) := by decide +kernel
theorem dX12_readsFactor_87 : decode cX12_readsFactor 87 = .ok (.aload_n 0, 1) := by decide +kernel
theorem dX12_readsFactor_88 : decode cX12_readsFactor 88 = .ok (.iload_n 2, 1) := by decide +kernel
theorem dX12_readsFactor_89 : decode cX12_readsFactor 89 = .ok (.putfield 298, 3) := by decide +kernel
theorem dX12_readsFactor_92 : decode cX12_readsFactor 92 = .ok (.aload_n 0, 1) := by decide +kernel
theorem dX12_readsFactor_93 : decode cX12_readsFactor 93 = .ok (.iconst 1, 1) := by decide +kernel
theorem dX12_readsFactor_94 : decode cX12_readsFactor 94 = .ok (.putfield 304, 3) := by decide +kernel
theorem dX12_readsFactor_97 : decode cX12_readsFactor 97 = .ok (.return_, 1) := by decide +kernel
theorem dX12_readsFactor_98 : decode cX12_readsFactor 98 = .ok (.iload_n 1, 1) := by decide +kernel
theorem dX12_readsFactor_99 : decode cX12_readsFactor 99 = .ok (.iconst 2, 1) := by decide +kernel
theorem dX12_readsFactor_100 : decode cX12_readsFactor 100 = .ok (.if_icmp .eq 7, 3) := by decide +kernel
theorem dX12_readsFactor_103 : decode cX12_readsFactor 103 = .ok (.aload_n 0, 1) := by decide +kernel
theorem dX12_readsFactor_104 : decode cX12_readsFactor 104 = .ok (.invokevirtual 308, 3) := by decide +kernel
theorem dX12_readsFactor_107 : decode cX12_readsFactor 107 = .ok (.aload_n 0, 1) := by decide +kernel
theorem dX12_readsFactor_108 : decode cX12_readsFactor 108 = .ok (.getfield 86, 3) := by decide +kernel
theorem dX12_readsFactor_111 : decode cX12_readsFactor 111 = .ok (.aload_n 0, 1) := by decide +kernel
theorem dX12_readsFactor_112 : decode cX12_readsFactor 112 = .ok (.getfield 314, 3) := by decide +kernel
theorem dX12_readsFactor_115 : decode cX12_readsFactor 115 = .ok (.iload_n 1, 1) := by decide +kernel
theorem dX12_readsFactor_116 : decode cX12_readsFactor 116 = .ok (.iastore, 1) := by decide +kernel
theorem dX12_readsFactor_117 : decode cX12_readsFactor 117 = .ok (.aload_n 0, 1) := by decide +kernel
theorem dX12_readsFactor_118 : decode cX12_readsFactor 118 = .ok (.getfield 89, 3) := by decide +kernel
theorem dX12_readsFactor_121 : decode cX12_readsFactor 121 = .ok (.aload_n 0, 1) := by decide +kernel
theorem dX12_readsFactor_122 : decode cX12_readsFactor 122 = .ok (.getfield 314, 3) := by decide +kernel
theorem dX12_readsFactor_125 : decode cX12_readsFactor 125 = .ok (.iload 4, 2) := by decide +kernel
theorem dX12_readsFactor_127 : decode cX12_readsFactor 127 = .ok (.iastore, 1) := by decide +kernel
theorem dX12_readsFactor_128 : decode cX12_readsFactor 128 = .ok (.aload_n 0, 1) := by decide +kernel
theorem dX12_readsFactor_129 : decode cX12_readsFactor 129 = .ok (.dup, 1) := by decide +kernel
theorem dX12_readsFactor_130 : decode cX12_readsFactor 130 = .ok (.getfield 314, 3) := by decide +kernel
theorem dX12_readsFactor_133 : decode cX12_readsFactor 133 = .ok (.iconst 1, 1) := by decide +kernel
theorem dX12_readsFactor_134 : decode cX12_readsFactor 134 = .ok (.iadd, 1) := by decide +kernel
theorem dX12_readsFactor_135 : decode cX12_readsFactor 135 = .ok (.putfield 314, 3) := by decide +kernel
theorem dX12_readsFactor_138 : decode cX12_readsFactor 138 = .ok (.aload_n 0, 1) := by decide +kernel
theorem dX12_readsFactor_139 : decode cX12_readsFactor 139 = .ok (.dup, 1) := by decide +kernel
theorem dX12_readsFactor_140 : decode cX12_readsFactor 140 = .ok (.getfield 311, 3) := by decide +kernel
theorem dX12_readsFactor_143 : decode cX12_readsFactor 143 = .ok (.iload_n 1, 1) := by decide +kernel
theorem dX12_readsFactor_144 : decode cX12_readsFactor 144 = .ok (.iload 4, 2) := by decide +kernel
theorem dX12_readsFactor_146 : decode cX12_readsFactor 146 = .ok (.invokestatic 109, 3) := by decide +kernel
theorem dX12_readsFactor_149 : decode cX12_readsFactor 149 = .ok (.imul, 1) := by decide +kernel
theorem dX12_readsFactor_150 : decode cX12_readsFactor 150 = .ok (.putfield 311, 3) := by decide +kernel
theorem dX12_readsFactor_153 : decode cX12_readsFactor 153 = .ok (.return_, 1) := by decide +kernel
def f_X12_readsFactor_J107 (l1 : Int32) (l4 : Int32) (w : Wd) : Option Wd :=
  wrI w 68 4 (w.1 44 39) l1 fun w1 =>
  wrI w1 69 4 (w1.1 44 39) l4 fun w2 =>
  letW (sI w2 44 39 ((w2.1 44 39) + 1)) fun w3 =>
  letW (sI w3 44 40 ((w3.1 44 40) * (f_X12_sizeOf l1 l4))) fun w4 =>
  some w4
set_option maxHeartbeats 4000000 in
set_option maxRecDepth 100000 in
theorem t_X12_readsFactor_J107 {G : GT} {d : Nat} (hd : 2 ≤ d + 1)  : ∀ (l1 : Int32) (l4 : Int32) (w : Wd) (w' : Wd), f_X12_readsFactor_J107 l1 l4 w = some w' → U (vf G mX12_readsFactor (d + 1)) 107 [some (.ref 44), some (.int l1), none, none, some (.int l4)] [] w (none, 70, r0, w') := by
  intro l1 l4 w w' h
  unfold f_X12_readsFactor_J107 at h
  refine V.aload_n (pc := 107) dX12_readsFactor_107 rfl ?_
  refine V.getR (t := 68) (pc := 108) dX12_readsFactor_108 f_RX12_86 k_cl12 lx_44 ly_44 rb_12_37 rr_44_37 ?_
  refine V.aload_n (pc := 111) dX12_readsFactor_111 rfl ?_
  refine V.getI (pc := 112) dX12_readsFactor_112 f_RX12_314 k_cl12 lx_44 ly_44 rb_12_39 ?_
  refine V.iload_n (pc := 115) dX12_readsFactor_115 rfl ?_
  obtain ⟨w1, iw1, ew1, h⟩ := wrI_e h
  refine V.iastX (pc := 116) dX12_readsFactor_116 lx_68 ly_68 iw1 ew1 ?_
  refine V.aload_n (pc := 117) dX12_readsFactor_117 rfl ?_
  refine V.getR (t := 69) (pc := 118) dX12_readsFactor_118 f_RX12_89 k_cl12 lx_44 ly_44 rb_12_38 rr_44_38 ?_
  refine V.aload_n (pc := 121) dX12_readsFactor_121 rfl ?_
  refine V.getI (pc := 122) dX12_readsFactor_122 f_RX12_314 k_cl12 lx_44 ly_44 rb_12_39 ?_
  refine V.iload (pc := 125) dX12_readsFactor_125 rfl ?_
  obtain ⟨w2, iw2, ew2, h⟩ := wrI_e h
  refine V.iastX (pc := 127) dX12_readsFactor_127 lx_69 ly_69 iw2 ew2 ?_
  refine V.aload_n (pc := 128) dX12_readsFactor_128 rfl ?_
  refine V.dup (pc := 129) dX12_readsFactor_129 rfl ?_
  refine V.getI (pc := 130) dX12_readsFactor_130 f_RX12_314 k_cl12 lx_44 ly_44 rb_12_39 ?_
  refine V.iconst (pc := 133) dX12_readsFactor_133 ic_1 ?_
  refine V.iadd (pc := 134) dX12_readsFactor_134 ?_
  obtain ⟨w3, ew3, h⟩ := letW_e h
  refine V.putIX (pc := 135) dX12_readsFactor_135 f_RX12_314 k_cl12 lx_44 ly_44 rb_12_39 (fin_I (T0 := TX12) rfl rfl rfl) ew3 ?_
  refine V.aload_n (pc := 138) dX12_readsFactor_138 rfl ?_
  refine V.dup (pc := 139) dX12_readsFactor_139 rfl ?_
  refine V.getI (pc := 140) dX12_readsFactor_140 f_RX12_311 k_cl12 lx_44 ly_44 rb_12_40 ?_
  refine V.iload_n (pc := 143) dX12_readsFactor_143 rfl ?_
  refine V.iload (pc := 144) dX12_readsFactor_144 rfl ?_
  refine U.callS (pc := 146) (As := [.int l1, .int l4]) (st := [.int (w3.1 44 40), .ref 44]) dX12_readsFactor_146 l_RX12_109 (ok_X12_sizeOf (by omega) l1 l4 ) (Nat.le_of_ble_eq_true rfl) rfl rfl (Nat.le_of_ble_eq_true rfl) ?_
  refine V.imul (pc := 149) dX12_readsFactor_149 ?_
  obtain ⟨w4, ew4, h⟩ := letW_e h
  refine V.putIX (pc := 150) dX12_readsFactor_150 f_RX12_311 k_cl12 lx_44 ly_44 rb_12_40 (fin_I (T0 := TX12) rfl rfl rfl) ew4 ?_
  obtain rfl := Option.some.inj h
  exact V.vret (pc := 153) dX12_readsFactor_153 rfl (Nat.le_refl _) (Nat.le_refl _)
def f_X12_readsFactor_J64 (l1 : Int32) (l2 : Int32) (s0 : Int32) (w : Wd) : Option Wd :=
  if ((w.1 44 40) * (f_X12_sizeOf l1 s0)) ≤ 16 then
    if l1 = 2 then
      f_X12_readsFactor_J107  l1 s0 w
    else
      bnd (f_X12_goesOn  w) fun w1 =>
      f_X12_readsFactor_J107  l1 s0 w1
  else
    if l1 = 2 then
      letW (sI w 44 34 l2) fun w3 =>
      letW (sI w3 44 36 1) fun w4 =>
      some w4
    else
      letW (sI w 44 36 1) fun w2 =>
      some w2
set_option maxHeartbeats 4000000 in
set_option maxRecDepth 100000 in
theorem t_X12_readsFactor_J64 {G : GT} {d : Nat} (hd : 2 ≤ d + 1)  : ∀ (l1 : Int32) (l2 : Int32) (s0 : Int32) (w : Wd) (w' : Wd), f_X12_readsFactor_J64 l1 l2 s0 w = some w' → U (vf G mX12_readsFactor (d + 1)) 64 [some (.ref 44), some (.int l1), some (.int l2), none, none] [.int s0] w (none, 70, r0, w') := by
  intro l1 l2 s0 w w' h
  unfold f_X12_readsFactor_J64 at h
  refine V.istore (lv' := [some (.ref 44), some (.int l1), some (.int l2), none, some (.int s0)]) (pc := 64) dX12_readsFactor_64 (Nat.le_of_ble_eq_true rfl) rfl rfl ?_
  refine V.aload_n (pc := 66) dX12_readsFactor_66 rfl ?_
  refine V.getI (pc := 67) dX12_readsFactor_67 f_RX12_311 k_cl12 lx_44 ly_44 rb_12_40 ?_
  refine V.iload_n (pc := 70) dX12_readsFactor_70 rfl ?_
  refine V.iload (pc := 71) dX12_readsFactor_71 rfl ?_
  refine U.callS (pc := 73) (As := [.int l1, .int s0]) (st := [.int (w.1 44 40)]) dX12_readsFactor_73 l_RX12_109 (ok_X12_sizeOf (by omega) l1 s0 ) (Nat.le_of_ble_eq_true rfl) rfl rfl (Nat.le_of_ble_eq_true rfl) ?_
  refine V.imul (pc := 76) dX12_readsFactor_76 ?_
  refine V.bipush (pc := 77) dX12_readsFactor_77 bp_16 ?_
  rcases ite_e h with ⟨c, h⟩ | ⟨c, h⟩
  · refine V.icmp_le_t (t := 98) (pc := 79) dX12_readsFactor_79 (by decide) c ?_
    refine V.iload_n (pc := 98) dX12_readsFactor_98 rfl ?_
    refine V.iconst (pc := 99) dX12_readsFactor_99 ic_2 ?_
    rcases ite_e h with ⟨c, h⟩ | ⟨c, h⟩
    · refine V.icmp_eq_t (t := 107) (pc := 100) dX12_readsFactor_100 (by decide) c ?_
      refine V.weak (lv' := [some (.ref 44), some (.int l1), none, none, some (.int s0)]) (And.intro rfl (And.intro rfl (And.intro rfl trivial))) ?_
      exact t_X12_readsFactor_J107 hd l1 s0 w _ h
    · refine V.icmp_eq_f (t := 107) (pc := 100) dX12_readsFactor_100 (by decide) c ?_
      refine V.aload_n (pc := 103) dX12_readsFactor_103 rfl ?_
      obtain ⟨w1, ew1, h⟩ := bnd_e h
      refine U.callV (pc := 104) (As := []) (st := []) dX12_readsFactor_104 l_RX12_308 (ok_X12_goesOn (by omega)  ew1) lx_44 ly_44 cn_12 (Nat.le_of_ble_eq_true rfl) rfl rfl (Nat.le_of_ble_eq_true rfl) ?_
      refine V.weak (lv' := [some (.ref 44), some (.int l1), none, none, some (.int s0)]) (And.intro rfl (And.intro rfl (And.intro rfl trivial))) ?_
      exact t_X12_readsFactor_J107 hd l1 s0 w1 _ h
  · refine V.icmp_le_f (t := 98) (pc := 79) dX12_readsFactor_79 (by decide) c ?_
    refine V.iload_n (pc := 82) dX12_readsFactor_82 rfl ?_
    refine V.iconst (pc := 83) dX12_readsFactor_83 ic_2 ?_
    rcases ite_e h with ⟨c, h⟩ | ⟨c, h⟩
    · refine V.icmp_ne_f (t := 92) (pc := 84) dX12_readsFactor_84 (by decide) c ?_
      refine V.aload_n (pc := 87) dX12_readsFactor_87 rfl ?_
      refine V.iload_n (pc := 88) dX12_readsFactor_88 rfl ?_
      obtain ⟨w3, ew3, h⟩ := letW_e h
      refine V.putIX (pc := 89) dX12_readsFactor_89 f_RX12_298 k_cl12 lx_44 ly_44 rb_12_34 (fin_I (T0 := TX12) rfl rfl rfl) ew3 ?_
      refine V.aload_n (pc := 92) dX12_readsFactor_92 rfl ?_
      refine V.iconst (pc := 93) dX12_readsFactor_93 ic_1 ?_
      obtain ⟨w4, ew4, h⟩ := letW_e h
      refine V.putIX (pc := 94) dX12_readsFactor_94 f_RX12_304 k_cl12 lx_44 ly_44 rb_12_36 (fin_Z (T0 := TX12) rfl rfl rfl (Or.inr rfl)) ew4 ?_
      obtain rfl := Option.some.inj h
      exact V.vret (pc := 97) dX12_readsFactor_97 rfl (Nat.le_refl _) (Nat.le_refl _)
    · refine V.icmp_ne_t (t := 92) (pc := 84) dX12_readsFactor_84 (by decide) c ?_
      refine V.aload_n (pc := 92) dX12_readsFactor_92 rfl ?_
      refine V.iconst (pc := 93) dX12_readsFactor_93 ic_1 ?_
      obtain ⟨w2, ew2, h⟩ := letW_e h
      refine V.putIX (pc := 94) dX12_readsFactor_94 f_RX12_304 k_cl12 lx_44 ly_44 rb_12_36 (fin_Z (T0 := TX12) rfl rfl rfl (Or.inr rfl)) ew2 ?_
      obtain rfl := Option.some.inj h
      exact V.vret (pc := 97) dX12_readsFactor_97 rfl (Nat.le_refl _) (Nat.le_refl _)
def f_X12_readsFactor_J51 (l1 : Int32) (l2 : Int32) (w : Wd) : Option Wd :=
  if l1 = 2 then
    f_X12_readsFactor_J64  l1 l2 0 w
  else
    f_X12_readsFactor_J64  l1 l2 (w.1 44 35) w
set_option maxHeartbeats 4000000 in
set_option maxRecDepth 100000 in
theorem t_X12_readsFactor_J51 {G : GT} {d : Nat} (hd : 2 ≤ d + 1)  : ∀ (l1 : Int32) (l2 : Int32) (w : Wd) (w' : Wd), f_X12_readsFactor_J51 l1 l2 w = some w' → U (vf G mX12_readsFactor (d + 1)) 51 [some (.ref 44), some (.int l1), some (.int l2), none, none] [] w (none, 70, r0, w') := by
  intro l1 l2 w w' h
  unfold f_X12_readsFactor_J51 at h
  refine V.iload_n (pc := 51) dX12_readsFactor_51 rfl ?_
  refine V.iconst (pc := 52) dX12_readsFactor_52 ic_2 ?_
  rcases ite_e h with ⟨c, h⟩ | ⟨c, h⟩
  · refine V.icmp_ne_f (t := 60) (pc := 53) dX12_readsFactor_53 (by decide) c ?_
    refine V.iconst (pc := 56) dX12_readsFactor_56 ic_0 ?_
    refine V.goto (t := 64) (pc := 57) dX12_readsFactor_57 (by decide) ?_
    exact t_X12_readsFactor_J64 hd l1 l2 0 w _ h
  · refine V.icmp_ne_t (t := 60) (pc := 53) dX12_readsFactor_53 (by decide) c ?_
    refine V.aload_n (pc := 60) dX12_readsFactor_60 rfl ?_
    refine V.getI (pc := 61) dX12_readsFactor_61 f_RX12_301 k_cl12 lx_44 ly_44 rb_12_35 ?_
    exact t_X12_readsFactor_J64 hd l1 l2 (w.1 44 35) w _ h
def f_X12_readsFactor_J38 (l1 : Int32) (l2 : Int32) (l3 : Int32) (s0 : Int32) (s1 : Int32) (w : Wd) : Option Wd :=
  if (f_X12_in s0 s1 l3) = 0 then
    letW (sI w 44 36 1) fun w1 =>
    some w1
  else
    f_X12_readsFactor_J51  l1 l2 w
set_option maxHeartbeats 4000000 in
set_option maxRecDepth 100000 in
theorem t_X12_readsFactor_J38 {G : GT} {d : Nat} (hd : 2 ≤ d + 1)  : ∀ (l1 : Int32) (l2 : Int32) (l3 : Int32) (s0 : Int32) (s1 : Int32) (w : Wd) (w' : Wd), f_X12_readsFactor_J38 l1 l2 l3 s0 s1 w = some w' → U (vf G mX12_readsFactor (d + 1)) 38 [some (.ref 44), some (.int l1), some (.int l2), some (.int l3), none] [.int s1, .int s0] w (none, 70, r0, w') := by
  intro l1 l2 l3 s0 s1 w w' h
  unfold f_X12_readsFactor_J38 at h
  refine V.iload_n (pc := 38) dX12_readsFactor_38 rfl ?_
  refine U.callS (pc := 39) (As := [.int s0, .int s1, .int l3]) (st := []) dX12_readsFactor_39 l_RX12_139 (ok_X12_in (by omega) s0 s1 l3 ) (Nat.le_of_ble_eq_true rfl) rfl rfl (Nat.le_of_ble_eq_true rfl) ?_
  rcases ite_e h with ⟨c, h⟩ | ⟨c, h⟩
  · refine V.if_ne_f (t := 51) (pc := 42) dX12_readsFactor_42 (by decide) c ?_
    refine V.aload_n (pc := 45) dX12_readsFactor_45 rfl ?_
    refine V.iconst (pc := 46) dX12_readsFactor_46 ic_1 ?_
    obtain ⟨w1, ew1, h⟩ := letW_e h
    refine V.putIX (pc := 47) dX12_readsFactor_47 f_RX12_304 k_cl12 lx_44 ly_44 rb_12_36 (fin_Z (T0 := TX12) rfl rfl rfl (Or.inr rfl)) ew1 ?_
    obtain rfl := Option.some.inj h
    exact V.vret (pc := 50) dX12_readsFactor_50 rfl (Nat.le_refl _) (Nat.le_refl _)
  · refine V.if_ne_t (t := 51) (pc := 42) dX12_readsFactor_42 (by decide) c ?_
    refine V.weak (lv' := [some (.ref 44), some (.int l1), some (.int l2), none, none]) (And.intro rfl (And.intro rfl (And.intro rfl trivial))) ?_
    exact t_X12_readsFactor_J51 hd l1 l2 w _ h
def f_X12_readsFactor_J11 (l1 : Int32) (l2 : Int32) (s0 : Int32) (w : Wd) : Option Wd :=
  if l1 = 2 then
    f_X12_readsFactor_J51  l1 l2 w
  else
    if (w.1 44 33) = 2 then
      if l1 = 0 then
        f_X12_readsFactor_J38  l1 l2 s0 (w.1 44 35) 2 w
      else
        f_X12_readsFactor_J38  l1 l2 s0 (w.1 44 35) 1 w
    else
      letW (sI w 44 36 1) fun w1 =>
      some w1
set_option maxHeartbeats 4000000 in
set_option maxRecDepth 100000 in
theorem t_X12_readsFactor_J11 {G : GT} {d : Nat} (hd : 2 ≤ d + 1)  : ∀ (l1 : Int32) (l2 : Int32) (s0 : Int32) (w : Wd) (w' : Wd), f_X12_readsFactor_J11 l1 l2 s0 w = some w' → U (vf G mX12_readsFactor (d + 1)) 11 [some (.ref 44), some (.int l1), some (.int l2), none, none] [.int s0] w (none, 70, r0, w') := by
  intro l1 l2 s0 w w' h
  unfold f_X12_readsFactor_J11 at h
  refine V.istore_n (lv' := [some (.ref 44), some (.int l1), some (.int l2), some (.int s0), none]) (pc := 11) dX12_readsFactor_11 (Nat.le_of_ble_eq_true rfl) rfl rfl ?_
  refine V.iload_n (pc := 12) dX12_readsFactor_12 rfl ?_
  refine V.iconst (pc := 13) dX12_readsFactor_13 ic_2 ?_
  rcases ite_e h with ⟨c, h⟩ | ⟨c, h⟩
  · refine V.icmp_eq_t (t := 51) (pc := 14) dX12_readsFactor_14 (by decide) c ?_
    refine V.weak (lv' := [some (.ref 44), some (.int l1), some (.int l2), none, none]) (And.intro rfl (And.intro rfl (And.intro rfl trivial))) ?_
    exact t_X12_readsFactor_J51 hd l1 l2 w _ h
  · refine V.icmp_eq_f (t := 51) (pc := 14) dX12_readsFactor_14 (by decide) c ?_
    refine V.aload_n (pc := 17) dX12_readsFactor_17 rfl ?_
    refine V.getI (pc := 18) dX12_readsFactor_18 f_RX12_292 k_cl12 lx_44 ly_44 rb_12_33 ?_
    refine V.iconst (pc := 21) dX12_readsFactor_21 ic_2 ?_
    rcases ite_e h with ⟨c, h⟩ | ⟨c, h⟩
    · refine V.icmp_ne_f (t := 45) (pc := 22) dX12_readsFactor_22 (by decide) c ?_
      refine V.aload_n (pc := 25) dX12_readsFactor_25 rfl ?_
      refine V.getI (pc := 26) dX12_readsFactor_26 f_RX12_301 k_cl12 lx_44 ly_44 rb_12_35 ?_
      refine V.iload_n (pc := 29) dX12_readsFactor_29 rfl ?_
      rcases ite_e h with ⟨c, h⟩ | ⟨c, h⟩
      · refine V.if_ne_f (t := 37) (pc := 30) dX12_readsFactor_30 (by decide) c ?_
        refine V.iconst (pc := 33) dX12_readsFactor_33 ic_2 ?_
        refine V.goto (t := 38) (pc := 34) dX12_readsFactor_34 (by decide) ?_
        exact t_X12_readsFactor_J38 hd l1 l2 s0 (w.1 44 35) 2 w _ h
      · refine V.if_ne_t (t := 37) (pc := 30) dX12_readsFactor_30 (by decide) c ?_
        refine V.iconst (pc := 37) dX12_readsFactor_37 ic_1 ?_
        exact t_X12_readsFactor_J38 hd l1 l2 s0 (w.1 44 35) 1 w _ h
    · refine V.icmp_ne_t (t := 45) (pc := 22) dX12_readsFactor_22 (by decide) c ?_
      refine V.aload_n (pc := 45) dX12_readsFactor_45 rfl ?_
      refine V.iconst (pc := 46) dX12_readsFactor_46 ic_1 ?_
      obtain ⟨w1, ew1, h⟩ := letW_e h
      refine V.putIX (pc := 47) dX12_readsFactor_47 f_RX12_304 k_cl12 lx_44 ly_44 rb_12_36 (fin_Z (T0 := TX12) rfl rfl rfl (Or.inr rfl)) ew1 ?_
      obtain rfl := Option.some.inj h
      exact V.vret (pc := 50) dX12_readsFactor_50 rfl (Nat.le_refl _) (Nat.le_refl _)
def f_X12_readsFactor (l1 : Int32) (l2 : Int32) (w : Wd) : Option Wd :=
  if l1 = 0 then
    f_X12_readsFactor_J11  l1 l2 16 w
  else
    f_X12_readsFactor_J11  l1 l2 8 w
set_option maxHeartbeats 4000000 in
set_option maxRecDepth 100000 in
theorem ok_X12_readsFactor {G : GT} {d : Nat} (hd : 2 ≤ d) {w : Wd} (l1 : Int32) (l2 : Int32) {w' : Wd} (h : f_X12_readsFactor l1 l2 w = some w') : uC G yX12_readsFactor mX12_readsFactor d [.ref 44, .int l1, .int l2] w none w' := by
  obtain ⟨d, rfl⟩ : ∃ e, d = e + 1 := ⟨d - 1, by omega⟩
  unfold f_X12_readsFactor at h
  refine uC_of (lv := [some (.ref 44), some (.int l1), some (.int l2), none, none]) 2 pn_X12 ⟨rfl, rfl⟩ (Nat.le_of_ble_eq_true rfl) rfl ?_
  refine V.iload_n (pc := 0) dX12_readsFactor_0 rfl ?_
  rcases ite_e h with ⟨c, h⟩ | ⟨c, h⟩
  · refine V.if_ne_f (t := 9) (pc := 1) dX12_readsFactor_1 (by decide) c ?_
    refine V.bipush (pc := 4) dX12_readsFactor_4 bp_16 ?_
    refine V.goto (t := 11) (pc := 6) dX12_readsFactor_6 (by decide) ?_
    exact t_X12_readsFactor_J11 hd l1 l2 16 w _ h
  · refine V.if_ne_t (t := 9) (pc := 1) dX12_readsFactor_1 (by decide) c ?_
    refine V.bipush (pc := 9) dX12_readsFactor_9 bp_8 ?_
    exact t_X12_readsFactor_J11 hd l1 l2 8 w _ h
theorem dX12_readsOne_0 : decode cX12_readsOne 0 = .ok (.aload_n 0, 1) := by decide +kernel
theorem dX12_readsOne_1 : decode cX12_readsOne 1 = .ok (.getfield 298, 3) := by decide +kernel
theorem dX12_readsOne_4 : decode cX12_readsOne 4 = .ok (.istore_n 1, 1) := by decide +kernel
theorem dX12_readsOne_5 : decode cX12_readsOne 5 = .ok (.iconst 0, 1) := by decide +kernel
theorem dX12_readsOne_6 : decode cX12_readsOne 6 = .ok (.istore_n 2, 1) := by decide +kernel
theorem dX12_readsOne_7 : decode cX12_readsOne 7 = .ok (.aload_n 0, 1) := by decide +kernel
theorem dX12_readsOne_8 : decode cX12_readsOne 8 = .ok (.iconst 0, 1) := by decide +kernel
theorem dX12_readsOne_9 : decode cX12_readsOne 9 = .ok (.invokevirtual 320, 3) := by decide +kernel
theorem dX12_readsOne_12 : decode cX12_readsOne 12 = .ok (.ifCond .eq 12, 3) := by decide +kernel
theorem dX12_readsOne_15 : decode cX12_readsOne 15 = .ok (.aload_n 0, 1) := by decide +kernel
theorem dX12_readsOne_16 : decode cX12_readsOne 16 = .ok (.iconst 0, 1) := by decide +kernel
theorem dX12_readsOne_17 : decode cX12_readsOne 17 = .ok (.iload_n 1, 1) := by decide +kernel
theorem dX12_readsOne_18 : decode cX12_readsOne 18 = .ok (.invokevirtual 323, 3) := by decide +kernel
theorem dX12_readsOne_21 : decode cX12_readsOne 21 = .ok (.goto 59, 3) := by decide +kernel
theorem dX12_readsOne_24 : decode cX12_readsOne 24 = .ok (.aload_n 0, 1) := by decide +kernel
theorem dX12_readsOne_25 : decode cX12_readsOne 25 = .ok (.iconst 1, 1) := by decide +kernel
theorem dX12_readsOne_26 : decode cX12_readsOne 26 = .ok (.invokevirtual 320, 3) := by decide +kernel
theorem dX12_readsOne_29 : decode cX12_readsOne 29 = .ok (.ifCond .eq 12, 3) := by decide +kernel
theorem dX12_readsOne_32 : decode cX12_readsOne 32 = .ok (.aload_n 0, 1) := by decide +kernel
theorem dX12_readsOne_33 : decode cX12_readsOne 33 = .ok (.iconst 1, 1) := by decide +kernel
theorem dX12_readsOne_34 : decode cX12_readsOne 34 = .ok (.iload_n 1, 1) := by decide +kernel
theorem dX12_readsOne_35 : decode cX12_readsOne 35 = .ok (.invokevirtual 323, 3) := by decide +kernel
theorem dX12_readsOne_38 : decode cX12_readsOne 38 = .ok (.goto 42, 3) := by decide +kernel
theorem dX12_readsOne_41 : decode cX12_readsOne 41 = .ok (.aload_n 0, 1) := by decide +kernel
theorem dX12_readsOne_42 : decode cX12_readsOne 42 = .ok (.iconst 2, 1) := by decide +kernel
theorem dX12_readsOne_43 : decode cX12_readsOne 43 = .ok (.invokevirtual 320, 3) := by decide +kernel
theorem dX12_readsOne_46 : decode cX12_readsOne 46 = .ok (.ifCond .eq 12, 3) := by decide +kernel
theorem dX12_readsOne_49 : decode cX12_readsOne 49 = .ok (.aload_n 0, 1) := by decide +kernel
theorem dX12_readsOne_50 : decode cX12_readsOne 50 = .ok (.iconst 2, 1) := by decide +kernel
theorem dX12_readsOne_51 : decode cX12_readsOne 51 = .ok (.iload_n 1, 1) := by decide +kernel
theorem dX12_readsOne_52 : decode cX12_readsOne 52 = .ok (.invokevirtual 323, 3) := by decide +kernel
theorem dX12_readsOne_55 : decode cX12_readsOne 55 = .ok (.goto 25, 3) := by decide +kernel
theorem dX12_readsOne_58 : decode cX12_readsOne 58 = .ok (.aload_n 0, 1) := by decide +kernel
theorem dX12_readsOne_59 : decode cX12_readsOne 59 = .ok (.iconst 3, 1) := by decide +kernel
theorem dX12_readsOne_60 : decode cX12_readsOne 60 = .ok (.invokevirtual 320, 3) := by decide +kernel
theorem dX12_readsOne_63 : decode cX12_readsOne 63 = .ok (.ifCond .eq 12, 3) := by decide +kernel
theorem dX12_readsOne_66 : decode cX12_readsOne 66 = .ok (.aload_n 0, 1) := by decide +kernel
theorem dX12_readsOne_67 : decode cX12_readsOne 67 = .ok (.invokevirtual 326, 3) := by decide +kernel
theorem dX12_readsOne_70 : decode cX12_readsOne 70 = .ok (.iconst 1, 1) := by decide +kernel
theorem dX12_readsOne_71 : decode cX12_readsOne 71 = .ok (.istore_n 2, 1) := by decide +kernel
theorem dX12_readsOne_72 : decode cX12_readsOne 72 = .ok (.goto 8, 3) := by decide +kernel
theorem dX12_readsOne_75 : decode cX12_readsOne 75 = .ok (.aload_n 0, 1) := by decide +kernel
theorem dX12_readsOne_76 : decode cX12_readsOne 76 = .ok (.iconst 1, 1) := by decide +kernel
theorem dX12_readsOne_77 : decode cX12_readsOne 77 = .ok (.putfield 304, 3) := by decide +kernel
theorem dX12_readsOne_80 : decode cX12_readsOne 80 = .ok (.aload_n 0, 1) := by decide +kernel
theorem dX12_readsOne_81 : decode cX12_readsOne 81 = .ok (.getfield 304, 3) := by decide +kernel
theorem dX12_readsOne_84 : decode cX12_readsOne 84 = .ok (.ifCond .eq 5, 3) := by decide +kernel
theorem dX12_readsOne_87 : decode cX12_readsOne 87 = .ok (.iconst 0, 1) := by decide +kernel
theorem dX12_readsOne_88 : decode cX12_readsOne 88 = .ok (.ireturn, 1) := by decide +kernel
theorem dX12_readsOne_89 : decode cX12_readsOne 89 = .ok (.aload_n 0, 1) := by decide +kernel
theorem dX12_readsOne_90 : decode cX12_readsOne 90 = .ok (.getfield 292, 3) := by decide +kernel
theorem dX12_readsOne_93 : decode cX12_readsOne 93 = .ok (.iconst 3, 1) := by decide +kernel
theorem dX12_readsOne_94 : decode cX12_readsOne 94 = .ok (.if_icmp .ne 10, 3) := by decide +kernel
theorem dX12_readsOne_97 : decode cX12_readsOne 97 = .ok (.aload_n 0, 1) := by decide +kernel
theorem dX12_readsOne_98 : decode cX12_readsOne 98 = .ok (.invokevirtual 308, 3) := by decide +kernel
theorem dX12_readsOne_101 : decode cX12_readsOne 101 = .ok (.goto 8, 3) := by decide +kernel
theorem dX12_readsOne_104 : decode cX12_readsOne 104 = .ok (.aload_n 0, 1) := by decide +kernel
theorem dX12_readsOne_105 : decode cX12_readsOne 105 = .ok (.iconst 1, 1) := by decide +kernel
theorem dX12_readsOne_106 : decode cX12_readsOne 106 = .ok (.putfield 304, 3) := by decide +kernel
theorem dX12_readsOne_109 : decode cX12_readsOne 109 = .ok (.iload_n 2, 1) := by decide +kernel
theorem dX12_readsOne_110 : decode cX12_readsOne 110 = .ok (.ifCond .ne 7, 3) := by decide +kernel
theorem dX12_readsOne_113 : decode cX12_readsOne 113 = .ok (.iconst 1, 1) := by decide +kernel
theorem dX12_readsOne_114 : decode cX12_readsOne 114 = .ok (.goto 4, 3) := by decide +kernel
theorem dX12_readsOne_117 : decode cX12_readsOne 117 = .ok (.iconst 0, 1) := by decide +kernel
theorem dX12_readsOne_118 : decode cX12_readsOne 118 = .ok (.ireturn, 1) := by decide +kernel
def f_X12_readsOne_J80 (l2 : Int32) (w : Wd) : Option (Int32 × Wd) :=
  if (w.1 44 36) = 0 then
    if (w.1 44 33) = 3 then
      bnd (f_X12_goesOn  w) fun w2 =>
      if l2 = 0 then
        some (1, w2)
      else
        some (0, w2)
    else
      letW (sI w 44 36 1) fun w1 =>
      if l2 = 0 then
        some (1, w1)
      else
        some (0, w1)
  else
    some (0, w)
set_option maxHeartbeats 4000000 in
set_option maxRecDepth 100000 in
theorem t_X12_readsOne_J80 {G : GT} {d : Nat} (hd : 3 ≤ d + 1)  : ∀ (l2 : Int32) (w : Wd) (r : Int32) (w' : Wd), f_X12_readsOne_J80 l2 w = some (r, w') → U (vf G mX12_readsOne (d + 1)) 80 [some (.ref 44), none, some (.int l2)] [] w (some (.int r), 70, r0, w') := by
  intro l2 w r w' h
  unfold f_X12_readsOne_J80 at h
  refine V.aload_n (pc := 80) dX12_readsOne_80 rfl ?_
  refine V.getI (pc := 81) dX12_readsOne_81 f_RX12_304 k_cl12 lx_44 ly_44 rb_12_36 ?_
  rcases ite_e h with ⟨c, h⟩ | ⟨c, h⟩
  · refine V.if_eq_t (t := 89) (pc := 84) dX12_readsOne_84 (by decide) c ?_
    refine V.aload_n (pc := 89) dX12_readsOne_89 rfl ?_
    refine V.getI (pc := 90) dX12_readsOne_90 f_RX12_292 k_cl12 lx_44 ly_44 rb_12_33 ?_
    refine V.iconst (pc := 93) dX12_readsOne_93 ic_3 ?_
    rcases ite_e h with ⟨c, h⟩ | ⟨c, h⟩
    · refine V.icmp_ne_f (t := 104) (pc := 94) dX12_readsOne_94 (by decide) c ?_
      refine V.aload_n (pc := 97) dX12_readsOne_97 rfl ?_
      obtain ⟨w2, ew2, h⟩ := bnd_e h
      refine U.callV (pc := 98) (As := []) (st := []) dX12_readsOne_98 l_RX12_308 (ok_X12_goesOn (by omega)  ew2) lx_44 ly_44 cn_12 (Nat.le_of_ble_eq_true rfl) rfl rfl (Nat.le_of_ble_eq_true rfl) ?_
      refine V.goto (t := 109) (pc := 101) dX12_readsOne_101 (by decide) ?_
      refine V.iload_n (pc := 109) dX12_readsOne_109 rfl ?_
      rcases ite_e h with ⟨c, h⟩ | ⟨c, h⟩
      · refine V.if_ne_f (t := 117) (pc := 110) dX12_readsOne_110 (by decide) c ?_
        refine V.iconst (pc := 113) dX12_readsOne_113 ic_1 ?_
        refine V.goto (t := 118) (pc := 114) dX12_readsOne_114 (by decide) ?_
        obtain ⟨rfl, rfl⟩ := Prod.mk.inj (Option.some.inj h)
        exact V.zret (pc := 118) dX12_readsOne_118 rfl (Or.inr rfl) (Nat.le_refl _) (Nat.le_refl _)
      · refine V.if_ne_t (t := 117) (pc := 110) dX12_readsOne_110 (by decide) c ?_
        refine V.iconst (pc := 117) dX12_readsOne_117 ic_0 ?_
        obtain ⟨rfl, rfl⟩ := Prod.mk.inj (Option.some.inj h)
        exact V.zret (pc := 118) dX12_readsOne_118 rfl (Or.inl rfl) (Nat.le_refl _) (Nat.le_refl _)
    · refine V.icmp_ne_t (t := 104) (pc := 94) dX12_readsOne_94 (by decide) c ?_
      refine V.aload_n (pc := 104) dX12_readsOne_104 rfl ?_
      refine V.iconst (pc := 105) dX12_readsOne_105 ic_1 ?_
      obtain ⟨w1, ew1, h⟩ := letW_e h
      refine V.putIX (pc := 106) dX12_readsOne_106 f_RX12_304 k_cl12 lx_44 ly_44 rb_12_36 (fin_Z (T0 := TX12) rfl rfl rfl (Or.inr rfl)) ew1 ?_
      refine V.iload_n (pc := 109) dX12_readsOne_109 rfl ?_
      rcases ite_e h with ⟨c, h⟩ | ⟨c, h⟩
      · refine V.if_ne_f (t := 117) (pc := 110) dX12_readsOne_110 (by decide) c ?_
        refine V.iconst (pc := 113) dX12_readsOne_113 ic_1 ?_
        refine V.goto (t := 118) (pc := 114) dX12_readsOne_114 (by decide) ?_
        obtain ⟨rfl, rfl⟩ := Prod.mk.inj (Option.some.inj h)
        exact V.zret (pc := 118) dX12_readsOne_118 rfl (Or.inr rfl) (Nat.le_refl _) (Nat.le_refl _)
      · refine V.if_ne_t (t := 117) (pc := 110) dX12_readsOne_110 (by decide) c ?_
        refine V.iconst (pc := 117) dX12_readsOne_117 ic_0 ?_
        obtain ⟨rfl, rfl⟩ := Prod.mk.inj (Option.some.inj h)
        exact V.zret (pc := 118) dX12_readsOne_118 rfl (Or.inl rfl) (Nat.le_refl _) (Nat.le_refl _)
  · refine V.if_eq_f (t := 89) (pc := 84) dX12_readsOne_84 (by decide) c ?_
    refine V.iconst (pc := 87) dX12_readsOne_87 ic_0 ?_
    obtain ⟨rfl, rfl⟩ := Prod.mk.inj (Option.some.inj h)
    exact V.zret (pc := 88) dX12_readsOne_88 rfl (Or.inl rfl) (Nat.le_refl _) (Nat.le_refl _)
def f_X12_readsOne (w : Wd) : Option (Int32 × Wd) :=
  bnd2 (f_X12_takesWord 0 w) fun x1 w2 =>
  if x1 = 0 then
    bnd2 (f_X12_takesWord 1 w2) fun x3 w4 =>
    if x3 = 0 then
      bnd2 (f_X12_takesWord 2 w4) fun x5 w6 =>
      if x5 = 0 then
        bnd2 (f_X12_takesWord 3 w6) fun x7 w8 =>
        if x7 = 0 then
          letW (sI w8 44 36 1) fun w9 =>
          f_X12_readsOne_J80  0 w9
        else
          bnd (f_X12_readsSet  w8) fun w10 =>
          f_X12_readsOne_J80  1 w10
      else
        bnd (f_X12_readsFactor 2 (w.1 44 34) w6) fun w11 =>
        f_X12_readsOne_J80  0 w11
    else
      bnd (f_X12_readsFactor 1 (w.1 44 34) w4) fun w12 =>
      f_X12_readsOne_J80  0 w12
  else
    bnd (f_X12_readsFactor 0 (w.1 44 34) w2) fun w13 =>
    f_X12_readsOne_J80  0 w13
set_option maxHeartbeats 4000000 in
set_option maxRecDepth 100000 in
theorem ok_X12_readsOne {G : GT} {d : Nat} (hd : 3 ≤ d) {w : Wd}  {r : Int32} {w' : Wd} (h : f_X12_readsOne  w = some (r, w')) : uC G yX12_readsOne mX12_readsOne d [.ref 44] w (some (.int r)) w' := by
  obtain ⟨d, rfl⟩ : ∃ e, d = e + 1 := ⟨d - 1, by omega⟩
  unfold f_X12_readsOne at h
  refine uC_of (lv := [some (.ref 44), none, none]) 2 pn_X12 ⟨rfl, rfl⟩ (Nat.le_of_ble_eq_true rfl) rfl ?_
  refine V.aload_n (pc := 0) dX12_readsOne_0 rfl ?_
  refine V.getI (pc := 1) dX12_readsOne_1 f_RX12_298 k_cl12 lx_44 ly_44 rb_12_34 ?_
  refine V.istore_n (lv' := [some (.ref 44), some (.int (w.1 44 34)), none]) (pc := 4) dX12_readsOne_4 (Nat.le_of_ble_eq_true rfl) rfl rfl ?_
  refine V.iconst (pc := 5) dX12_readsOne_5 ic_0 ?_
  refine V.istore_n (lv' := [some (.ref 44), some (.int (w.1 44 34)), some (.int 0)]) (pc := 6) dX12_readsOne_6 (Nat.le_of_ble_eq_true rfl) rfl rfl ?_
  refine V.aload_n (pc := 7) dX12_readsOne_7 rfl ?_
  refine V.iconst (pc := 8) dX12_readsOne_8 ic_0 ?_
  obtain ⟨x1, w2, ew2, h⟩ := bnd2_e h
  refine U.callV (pc := 9) (As := [.int 0]) (st := []) dX12_readsOne_9 l_RX12_320 (ok_X12_takesWord (by omega) 0 ew2) lx_44 ly_44 cn_12 (Nat.le_of_ble_eq_true rfl) rfl rfl (Nat.le_of_ble_eq_true rfl) ?_
  rcases ite_e h with ⟨c, h⟩ | ⟨c, h⟩
  · refine V.if_eq_t (t := 24) (pc := 12) dX12_readsOne_12 (by decide) c ?_
    refine V.aload_n (pc := 24) dX12_readsOne_24 rfl ?_
    refine V.iconst (pc := 25) dX12_readsOne_25 ic_1 ?_
    obtain ⟨x3, w4, ew4, h⟩ := bnd2_e h
    refine U.callV (pc := 26) (As := [.int 1]) (st := []) dX12_readsOne_26 l_RX12_320 (ok_X12_takesWord (by omega) 1 ew4) lx_44 ly_44 cn_12 (Nat.le_of_ble_eq_true rfl) rfl rfl (Nat.le_of_ble_eq_true rfl) ?_
    rcases ite_e h with ⟨c, h⟩ | ⟨c, h⟩
    · refine V.if_eq_t (t := 41) (pc := 29) dX12_readsOne_29 (by decide) c ?_
      refine V.aload_n (pc := 41) dX12_readsOne_41 rfl ?_
      refine V.iconst (pc := 42) dX12_readsOne_42 ic_2 ?_
      obtain ⟨x5, w6, ew6, h⟩ := bnd2_e h
      refine U.callV (pc := 43) (As := [.int 2]) (st := []) dX12_readsOne_43 l_RX12_320 (ok_X12_takesWord (by omega) 2 ew6) lx_44 ly_44 cn_12 (Nat.le_of_ble_eq_true rfl) rfl rfl (Nat.le_of_ble_eq_true rfl) ?_
      rcases ite_e h with ⟨c, h⟩ | ⟨c, h⟩
      · refine V.if_eq_t (t := 58) (pc := 46) dX12_readsOne_46 (by decide) c ?_
        refine V.aload_n (pc := 58) dX12_readsOne_58 rfl ?_
        refine V.iconst (pc := 59) dX12_readsOne_59 ic_3 ?_
        obtain ⟨x7, w8, ew8, h⟩ := bnd2_e h
        refine U.callV (pc := 60) (As := [.int 3]) (st := []) dX12_readsOne_60 l_RX12_320 (ok_X12_takesWord (by omega) 3 ew8) lx_44 ly_44 cn_12 (Nat.le_of_ble_eq_true rfl) rfl rfl (Nat.le_of_ble_eq_true rfl) ?_
        rcases ite_e h with ⟨c, h⟩ | ⟨c, h⟩
        · refine V.if_eq_t (t := 75) (pc := 63) dX12_readsOne_63 (by decide) c ?_
          refine V.aload_n (pc := 75) dX12_readsOne_75 rfl ?_
          refine V.iconst (pc := 76) dX12_readsOne_76 ic_1 ?_
          obtain ⟨w9, ew9, h⟩ := letW_e h
          refine V.putIX (pc := 77) dX12_readsOne_77 f_RX12_304 k_cl12 lx_44 ly_44 rb_12_36 (fin_Z (T0 := TX12) rfl rfl rfl (Or.inr rfl)) ew9 ?_
          refine V.weak (lv' := [some (.ref 44), none, some (.int 0)]) (And.intro rfl (And.intro rfl trivial)) ?_
          exact t_X12_readsOne_J80 hd 0 w9 _ _ h
        · refine V.if_eq_f (t := 75) (pc := 63) dX12_readsOne_63 (by decide) c ?_
          refine V.aload_n (pc := 66) dX12_readsOne_66 rfl ?_
          obtain ⟨w10, ew10, h⟩ := bnd_e h
          refine U.callV (pc := 67) (As := []) (st := []) dX12_readsOne_67 l_RX12_326 (ok_X12_readsSet (by omega)  ew10) lx_44 ly_44 cn_12 (Nat.le_of_ble_eq_true rfl) rfl rfl (Nat.le_of_ble_eq_true rfl) ?_
          refine V.iconst (pc := 70) dX12_readsOne_70 ic_1 ?_
          refine V.istore_n (lv' := [some (.ref 44), some (.int (w.1 44 34)), some (.int 1)]) (pc := 71) dX12_readsOne_71 (Nat.le_of_ble_eq_true rfl) rfl rfl ?_
          refine V.goto (t := 80) (pc := 72) dX12_readsOne_72 (by decide) ?_
          refine V.weak (lv' := [some (.ref 44), none, some (.int 1)]) (And.intro rfl (And.intro rfl trivial)) ?_
          exact t_X12_readsOne_J80 hd 1 w10 _ _ h
      · refine V.if_eq_f (t := 58) (pc := 46) dX12_readsOne_46 (by decide) c ?_
        refine V.aload_n (pc := 49) dX12_readsOne_49 rfl ?_
        refine V.iconst (pc := 50) dX12_readsOne_50 ic_2 ?_
        refine V.iload_n (pc := 51) dX12_readsOne_51 rfl ?_
        obtain ⟨w11, ew11, h⟩ := bnd_e h
        refine U.callV (pc := 52) (As := [.int 2, .int (w.1 44 34)]) (st := []) dX12_readsOne_52 l_RX12_323 (ok_X12_readsFactor (by omega) 2 (w.1 44 34) ew11) lx_44 ly_44 cn_12 (Nat.le_of_ble_eq_true rfl) rfl rfl (Nat.le_of_ble_eq_true rfl) ?_
        refine V.goto (t := 80) (pc := 55) dX12_readsOne_55 (by decide) ?_
        refine V.weak (lv' := [some (.ref 44), none, some (.int 0)]) (And.intro rfl (And.intro rfl trivial)) ?_
        exact t_X12_readsOne_J80 hd 0 w11 _ _ h
    · refine V.if_eq_f (t := 41) (pc := 29) dX12_readsOne_29 (by decide) c ?_
      refine V.aload_n (pc := 32) dX12_readsOne_32 rfl ?_
      refine V.iconst (pc := 33) dX12_readsOne_33 ic_1 ?_
      refine V.iload_n (pc := 34) dX12_readsOne_34 rfl ?_
      obtain ⟨w12, ew12, h⟩ := bnd_e h
      refine U.callV (pc := 35) (As := [.int 1, .int (w.1 44 34)]) (st := []) dX12_readsOne_35 l_RX12_323 (ok_X12_readsFactor (by omega) 1 (w.1 44 34) ew12) lx_44 ly_44 cn_12 (Nat.le_of_ble_eq_true rfl) rfl rfl (Nat.le_of_ble_eq_true rfl) ?_
      refine V.goto (t := 80) (pc := 38) dX12_readsOne_38 (by decide) ?_
      refine V.weak (lv' := [some (.ref 44), none, some (.int 0)]) (And.intro rfl (And.intro rfl trivial)) ?_
      exact t_X12_readsOne_J80 hd 0 w12 _ _ h
  · refine V.if_eq_f (t := 24) (pc := 12) dX12_readsOne_12 (by decide) c ?_
    refine V.aload_n (pc := 15) dX12_readsOne_15 rfl ?_
    refine V.iconst (pc := 16) dX12_readsOne_16 ic_0 ?_
    refine V.iload_n (pc := 17) dX12_readsOne_17 rfl ?_
    obtain ⟨w13, ew13, h⟩ := bnd_e h
    refine U.callV (pc := 18) (As := [.int 0, .int (w.1 44 34)]) (st := []) dX12_readsOne_18 l_RX12_323 (ok_X12_readsFactor (by omega) 0 (w.1 44 34) ew13) lx_44 ly_44 cn_12 (Nat.le_of_ble_eq_true rfl) rfl rfl (Nat.le_of_ble_eq_true rfl) ?_
    refine V.goto (t := 80) (pc := 21) dX12_readsOne_21 (by decide) ?_
    refine V.weak (lv' := [some (.ref 44), none, some (.int 0)]) (And.intro rfl (And.intro rfl trivial)) ?_
    exact t_X12_readsOne_J80 hd 0 w13 _ _ h
theorem dX12_text_0 : decode cX12_text 0 = .ok (.aload_n 0, 1) := by decide +kernel
theorem dX12_text_1 : decode cX12_text 1 = .ok (.iconst 0, 1) := by decide +kernel
theorem dX12_text_2 : decode cX12_text 2 = .ok (.putfield 314, 3) := by decide +kernel
theorem dX12_text_5 : decode cX12_text 5 = .ok (.aload_n 0, 1) := by decide +kernel
theorem dX12_text_6 : decode cX12_text 6 = .ok (.iconst 1, 1) := by decide +kernel
theorem dX12_text_7 : decode cX12_text 7 = .ok (.putfield 311, 3) := by decide +kernel
theorem dX12_text_10 : decode cX12_text 10 = .ok (.aload_n 0, 1) := by decide +kernel
theorem dX12_text_11 : decode cX12_text 11 = .ok (.iconst 0, 1) := by decide +kernel
theorem dX12_text_12 : decode cX12_text 12 = .ok (.putfield 317, 3) := by decide +kernel
theorem dX12_text_15 : decode cX12_text 15 = .ok (.aload_n 0, 1) := by decide +kernel
theorem dX12_text_16 : decode cX12_text 16 = .ok (.iconst 0, 1) := by decide +kernel
theorem dX12_text_17 : decode cX12_text 17 = .ok (.putfield 289, 3) := by decide +kernel
theorem dX12_text_20 : decode cX12_text 20 = .ok (.aload_n 0, 1) := by decide +kernel
theorem dX12_text_21 : decode cX12_text 21 = .ok (.iconst 3, 1) := by decide +kernel
theorem dX12_text_22 : decode cX12_text 22 = .ok (.putfield 292, 3) := by decide +kernel
theorem dX12_text_25 : decode cX12_text 25 = .ok (.aload_n 0, 1) := by decide +kernel
theorem dX12_text_26 : decode cX12_text 26 = .ok (.iconst 0, 1) := by decide +kernel
theorem dX12_text_27 : decode cX12_text 27 = .ok (.putfield 304, 3) := by decide +kernel
theorem dX12_text_30 : decode cX12_text 30 = .ok (.aload_n 0, 1) := by decide +kernel
theorem dX12_text_31 : decode cX12_text 31 = .ok (.invokevirtual 308, 3) := by decide +kernel
theorem dX12_text_34 : decode cX12_text 34 = .ok (.iconst 1, 1) := by decide +kernel
theorem dX12_text_35 : decode cX12_text 35 = .ok (.istore_n 1, 1) := by decide +kernel
theorem dX12_text_36 : decode cX12_text 36 = .ok (.aload_n 0, 1) := by decide +kernel
theorem dX12_text_37 : decode cX12_text 37 = .ok (.getfield 304, 3) := by decide +kernel
theorem dX12_text_40 : decode cX12_text 40 = .ok (.ifCond .ne 22, 3) := by decide +kernel
theorem dX12_text_43 : decode cX12_text 43 = .ok (.iload_n 1, 1) := by decide +kernel
theorem dX12_text_44 : decode cX12_text 44 = .ok (.ifCond .eq 18, 3) := by decide +kernel
theorem dX12_text_47 : decode cX12_text 47 = .ok (.aload_n 0, 1) := by decide +kernel
theorem dX12_text_48 : decode cX12_text 48 = .ok (.getfield 292, 3) := by decide +kernel
theorem dX12_text_51 : decode cX12_text 51 = .ok (.ifCond .eq 11, 3) := by decide +kernel
theorem dX12_text_54 : decode cX12_text 54 = .ok (.aload_n 0, 1) := by decide +kernel
theorem dX12_text_55 : decode cX12_text 55 = .ok (.invokevirtual 329, 3) := by decide +kernel
theorem dX12_text_58 : decode cX12_text 58 = .ok (.istore_n 1, 1) := by decide +kernel
theorem dX12_text_59 : decode cX12_text 59 = .ok (.goto (-23), 3) := by decide +kernel
theorem dX12_text_62 : decode cX12_text 62 = .ok (.aload_n 0, 1) := by decide +kernel
theorem dX12_text_63 : decode cX12_text 63 = .ok (.getfield 304, 3) := by decide +kernel
theorem dX12_text_66 : decode cX12_text 66 = .ok (.ifCond .ne 15, 3) := by decide +kernel
theorem dX12_text_69 : decode cX12_text 69 = .ok (.aload_n 0, 1) := by decide +kernel
theorem dX12_text_70 : decode cX12_text 70 = .ok (.getfield 292, 3) := by decide +kernel
theorem dX12_text_73 : decode cX12_text 73 = .ok (.ifCond .eq 8, 3) := by decide +kernel
theorem dX12_text_76 : decode cX12_text 76 = .ok (.aload_n 0, 1) := by decide +kernel
theorem dX12_text_77 : decode cX12_text 77 = .ok (.iconst 1, 1) := by decide +kernel
theorem dX12_text_78 : decode cX12_text 78 = .ok (.putfield 304, 3) := by decide +kernel
theorem dX12_text_81 : decode cX12_text 81 = .ok (.aload_n 0, 1) := by decide +kernel
theorem dX12_text_82 : decode cX12_text 82 = .ok (.iconst 0, 1) := by decide +kernel
theorem dX12_text_83 : decode cX12_text 83 = .ok (.putfield 286, 3) := by decide +kernel
theorem dX12_text_86 : decode cX12_text 86 = .ok (.aload_n 0, 1) := by decide +kernel
theorem dX12_text_87 : decode cX12_text 87 = .ok (.getfield 304, 3) := by decide +kernel
theorem dX12_text_90 : decode cX12_text 90 = .ok (.ifCond .eq 11, 3) := by decide +kernel
theorem dX12_text_93 : decode cX12_text 93 = .ok (.bipush (-4), 2) := by decide +kernel
theorem dX12_text_95 : decode cX12_text 95 = .ok (.aload_n 0, 1) := by decide +kernel
theorem dX12_text_96 : decode cX12_text 96 = .ok (.getfield 298, 3) := by decide +kernel
theorem dX12_text_99 : decode cX12_text 99 = .ok (.isub, 1) := by decide +kernel
theorem dX12_text_100 : decode cX12_text 100 = .ok (.ireturn, 1) := by decide +kernel
theorem dX12_text_101 : decode cX12_text 101 = .ok (.aload_n 0, 1) := by decide +kernel
theorem dX12_text_102 : decode cX12_text 102 = .ok (.aload_n 0, 1) := by decide +kernel
theorem dX12_text_103 : decode cX12_text 103 = .ok (.getfield 311, 3) := by decide +kernel
theorem dX12_text_106 : decode cX12_text 106 = .ok (.putfield 92, 3) := by decide +kernel
theorem dX12_text_109 : decode cX12_text 109 = .ok (.aload_n 0, 1) := by decide +kernel
theorem dX12_text_110 : decode cX12_text 110 = .ok (.aload_n 0, 1) := by decide +kernel
theorem dX12_text_111 : decode cX12_text 111 = .ok (.getfield 314, 3) := by decide +kernel
theorem dX12_text_114 : decode cX12_text 114 = .ok (.putfield 106, 3) := by decide +kernel
theorem dX12_text_117 : decode cX12_text 117 = .ok (.iconst 0, 1) := by decide +kernel
theorem dX12_text_118 : decode cX12_text 118 = .ok (.istore_n 2, 1) := by decide +kernel
theorem dX12_text_119 : decode cX12_text 119 = .ok (.iload_n 2, 1) := by decide +kernel
theorem dX12_text_120 : decode cX12_text 120 = .ok (.aload_n 0, 1) := by decide +kernel
theorem dX12_text_121 : decode cX12_text 121 = .ok (.getfield 106, 3) := by decide +kernel
theorem dX12_text_124 : decode cX12_text 124 = .ok (.if_icmp .ge 33, 3) := by decide +kernel
theorem dX12_text_127 : decode cX12_text 127 = .ok (.aload_n 0, 1) := by decide +kernel
theorem dX12_text_128 : decode cX12_text 128 = .ok (.getfield 13, 3) := by decide +kernel
theorem dX12_text_131 : decode cX12_text 131 = .ok (.iload_n 2, 1) := by decide +kernel
theorem dX12_text_132 : decode cX12_text 132 = .ok (.aload_n 0, 1) := by decide +kernel
theorem dX12_text_133 : decode cX12_text 133 = .ok (.getfield 86, 3) := by decide +kernel
theorem dX12_text_136 : decode cX12_text 136 = .ok (.iload_n 2, 1) := by decide +kernel
theorem dX12_text_137 : decode cX12_text 137 = .ok (.iaload, 1) := by decide +kernel
theorem dX12_text_138 : decode cX12_text 138 = .ok (.iastore, 1) := by decide +kernel
theorem dX12_text_139 : decode cX12_text 139 = .ok (.aload_n 0, 1) := by decide +kernel
theorem dX12_text_140 : decode cX12_text 140 = .ok (.getfield 17, 3) := by decide +kernel
theorem dX12_text_143 : decode cX12_text 143 = .ok (.iload_n 2, 1) := by decide +kernel
theorem dX12_text_144 : decode cX12_text 144 = .ok (.aload_n 0, 1) := by decide +kernel
theorem dX12_text_145 : decode cX12_text 145 = .ok (.getfield 89, 3) := by decide +kernel
theorem dX12_text_148 : decode cX12_text 148 = .ok (.iload_n 2, 1) := by decide +kernel
theorem dX12_text_149 : decode cX12_text 149 = .ok (.iaload, 1) := by decide +kernel
theorem dX12_text_150 : decode cX12_text 150 = .ok (.iastore, 1) := by decide +kernel
theorem dX12_text_151 : decode cX12_text 151 = .ok (.iinc 2 1, 3) := by decide +kernel
theorem dX12_text_154 : decode cX12_text 154 = .ok (.goto (-35), 3) := by decide +kernel
theorem dX12_text_157 : decode cX12_text 157 = .ok (.aload_n 0, 1) := by decide +kernel
theorem dX12_text_158 : decode cX12_text 158 = .ok (.invokevirtual 95, 3) := by decide +kernel
theorem dX12_text_161 : decode cX12_text 161 = .ok (.aload_n 0, 1) := by decide +kernel
theorem dX12_text_162 : decode cX12_text 162 = .ok (.aload_n 0, 1) := by decide +kernel
theorem dX12_text_163 : decode cX12_text 163 = .ok (.getfield 317, 3) := by decide +kernel
theorem dX12_text_166 : decode cX12_text 166 = .ok (.invokevirtual 98, 3) := by decide +kernel
theorem dX12_text_169 : decode cX12_text 169 = .ok (.aload_n 0, 1) := by decide +kernel
theorem dX12_text_170 : decode cX12_text 170 = .ok (.iconst 0, 1) := by decide +kernel
theorem dX12_text_171 : decode cX12_text 171 = .ok (.putfield 157, 3) := by decide +kernel
theorem dX12_text_174 : decode cX12_text 174 = .ok (.aload_n 0, 1) := by decide +kernel
theorem dX12_text_175 : decode cX12_text 175 = .ok (.getfield 92, 3) := by decide +kernel
theorem dX12_text_178 : decode cX12_text 178 = .ok (.ireturn, 1) := by decide +kernel
def f_X12_text_B119b (k119 : Int32 → Wd → Option (Int32 × Wd)) (l2 : Int32) (w : Wd) : Option (Int32 × Wd) :=
  if (w.1 44 2) ≤ l2 then
    bnd (f_X12_laysGroup  w) fun w1 =>
    bnd (f_X12_startsRow (w1.1 44 41) w1) fun w2 =>
    letW (sI w2 44 15 0) fun w3 =>
    some ((w3.1 44 1), w3)
  else
    rdI w 68 4 l2 fun x4 =>
    wrI w 45 4 l2 x4 fun w5 =>
    rdI w5 69 4 l2 fun x6 =>
    wrI w5 46 4 l2 x6 fun w7 =>
    k119 (l2 + 1) w7
def f_X12_text_L119 (n : Nat) : Int32 → Wd → Option (Int32 × Wd) :=
  Nat.rec (fun _ _ => none) (fun _ k => f_X12_text_B119b k) n
set_option maxHeartbeats 4000000 in
set_option maxRecDepth 100000 in
theorem t_X12_text_L119 {G : GT} {d : Nat} (hd : 4 ≤ d + 1)  : ∀ (n : Nat) (l2 : Int32) (w : Wd) (r : Int32) (w' : Wd), f_X12_text_L119 n l2 w = some (r, w') → U (vf G mX12_text (d + 1)) 119 [some (.ref 44), none, some (.int l2)] [] w (some (.int r), 70, r0, w') := by
  intro n
  induction n with
  | zero => intro l2 w r w' h; cases h
  | succ n h119 =>
    intro l2 w r w' h
    have h : f_X12_text_B119b (f_X12_text_L119 n) l2 w = some (r, w') := h
    unfold f_X12_text_B119b at h
    refine V.iload_n (pc := 119) dX12_text_119 rfl ?_
    refine V.aload_n (pc := 120) dX12_text_120 rfl ?_
    refine V.getI (pc := 121) dX12_text_121 f_RX12_106 k_cl12 lx_44 ly_44 rb_12_2 ?_
    rcases ite_e h with ⟨c, h⟩ | ⟨c, h⟩
    · refine V.icmp_ge_t (t := 157) (pc := 124) dX12_text_124 (by decide) c ?_
      refine V.aload_n (pc := 157) dX12_text_157 rfl ?_
      obtain ⟨w1, ew1, h⟩ := bnd_e h
      refine U.callV (pc := 158) (As := []) (st := []) dX12_text_158 l_RX12_95 (ok_X12_laysGroup (by omega)  ew1) lx_44 ly_44 cn_12 (Nat.le_of_ble_eq_true rfl) rfl rfl (Nat.le_of_ble_eq_true rfl) ?_
      refine V.aload_n (pc := 161) dX12_text_161 rfl ?_
      refine V.aload_n (pc := 162) dX12_text_162 rfl ?_
      refine V.getI (pc := 163) dX12_text_163 f_RX12_317 k_cl12 lx_44 ly_44 rb_12_41 ?_
      obtain ⟨w2, ew2, h⟩ := bnd_e h
      refine U.callV (pc := 166) (As := [.int (w1.1 44 41)]) (st := []) dX12_text_166 l_RX12_98 (ok_X12_startsRow (by omega) (w1.1 44 41) ew2) lx_44 ly_44 cn_12 (Nat.le_of_ble_eq_true rfl) rfl rfl (Nat.le_of_ble_eq_true rfl) ?_
      refine V.aload_n (pc := 169) dX12_text_169 rfl ?_
      refine V.iconst (pc := 170) dX12_text_170 ic_0 ?_
      obtain ⟨w3, ew3, h⟩ := letW_e h
      refine V.putIX (pc := 171) dX12_text_171 f_RX12_157 k_cl12 lx_44 ly_44 rb_12_15 (fin_I (T0 := TX12) rfl rfl rfl) ew3 ?_
      refine V.aload_n (pc := 174) dX12_text_174 rfl ?_
      refine V.getI (pc := 175) dX12_text_175 f_RX12_92 k_cl12 lx_44 ly_44 rb_12_1 ?_
      obtain ⟨rfl, rfl⟩ := Prod.mk.inj (Option.some.inj h)
      exact V.iret (pc := 178) dX12_text_178 rfl (Nat.le_refl _) (Nat.le_refl _)
    · refine V.icmp_ge_f (t := 157) (pc := 124) dX12_text_124 (by decide) c ?_
      refine V.aload_n (pc := 127) dX12_text_127 rfl ?_
      refine V.getR (t := 45) (pc := 128) dX12_text_128 f_RX12_13 k_cl12 lx_44 ly_44 rb_12_3 rr_44_3 ?_
      refine V.iload_n (pc := 131) dX12_text_131 rfl ?_
      refine V.aload_n (pc := 132) dX12_text_132 rfl ?_
      refine V.getR (t := 68) (pc := 133) dX12_text_133 f_RX12_86 k_cl12 lx_44 ly_44 rb_12_37 rr_44_37 ?_
      refine V.iload_n (pc := 136) dX12_text_136 rfl ?_
      obtain ⟨x4, ix4, ex4, h⟩ := rdI_e h
      refine V.ialdX (pc := 137) dX12_text_137 lx_68 ly_68 ix4 ex4 ?_
      obtain ⟨w5, iw5, ew5, h⟩ := wrI_e h
      refine V.iastX (pc := 138) dX12_text_138 lx_45 ly_45 iw5 ew5 ?_
      refine V.aload_n (pc := 139) dX12_text_139 rfl ?_
      refine V.getR (t := 46) (pc := 140) dX12_text_140 f_RX12_17 k_cl12 lx_44 ly_44 rb_12_4 rr_44_4 ?_
      refine V.iload_n (pc := 143) dX12_text_143 rfl ?_
      refine V.aload_n (pc := 144) dX12_text_144 rfl ?_
      refine V.getR (t := 69) (pc := 145) dX12_text_145 f_RX12_89 k_cl12 lx_44 ly_44 rb_12_38 rr_44_38 ?_
      refine V.iload_n (pc := 148) dX12_text_148 rfl ?_
      obtain ⟨x6, ix6, ex6, h⟩ := rdI_e h
      refine V.ialdX (pc := 149) dX12_text_149 lx_69 ly_69 ix6 ex6 ?_
      obtain ⟨w7, iw7, ew7, h⟩ := wrI_e h
      refine V.iastX (pc := 150) dX12_text_150 lx_46 ly_46 iw7 ew7 ?_
      refine V.iinc (lv' := [some (.ref 44), none, some (.int (l2 + 1))]) (pc := 151) dX12_text_151 (Nat.le_of_ble_eq_true rfl) rfl rfl (v := (l2 + 1)) (by rw [show Int32.ofInt 1 = 1 from by decide]) rfl ?_
      refine V.goto (t := 119) (pc := 154) dX12_text_154 (by decide) ?_
      exact h119 (l2 + 1) w7 _ _ h
def f_X12_text_J81 (w : Wd) : Option (Int32 × Wd) :=
  letW (sI w 44 30 0) fun w1 =>
  if (w1.1 44 36) = 0 then
    letW (sI w1 44 1 (w1.1 44 40)) fun w2 =>
    letW (sI w2 44 2 (w2.1 44 39)) fun w3 =>
    f_X12_text_L119  FU 0 w3
  else
    some (((-4) - (w1.1 44 34)), w1)
set_option maxHeartbeats 4000000 in
set_option maxRecDepth 100000 in
theorem t_X12_text_J81 {G : GT} {d : Nat} (hd : 4 ≤ d + 1)  : ∀  (w : Wd) (r : Int32) (w' : Wd), f_X12_text_J81  w = some (r, w') → U (vf G mX12_text (d + 1)) 81 [some (.ref 44), none, none] [] w (some (.int r), 70, r0, w') := by
  intro  w r w' h
  unfold f_X12_text_J81 at h
  refine V.aload_n (pc := 81) dX12_text_81 rfl ?_
  refine V.iconst (pc := 82) dX12_text_82 ic_0 ?_
  obtain ⟨w1, ew1, h⟩ := letW_e h
  refine V.putIX (pc := 83) dX12_text_83 f_RX12_286 k_cl12 lx_44 ly_44 rb_12_30 (fin_I (T0 := TX12) rfl rfl rfl) ew1 ?_
  refine V.aload_n (pc := 86) dX12_text_86 rfl ?_
  refine V.getI (pc := 87) dX12_text_87 f_RX12_304 k_cl12 lx_44 ly_44 rb_12_36 ?_
  rcases ite_e h with ⟨c, h⟩ | ⟨c, h⟩
  · refine V.if_eq_t (t := 101) (pc := 90) dX12_text_90 (by decide) c ?_
    refine V.aload_n (pc := 101) dX12_text_101 rfl ?_
    refine V.aload_n (pc := 102) dX12_text_102 rfl ?_
    refine V.getI (pc := 103) dX12_text_103 f_RX12_311 k_cl12 lx_44 ly_44 rb_12_40 ?_
    obtain ⟨w2, ew2, h⟩ := letW_e h
    refine V.putIX (pc := 106) dX12_text_106 f_RX12_92 k_cl12 lx_44 ly_44 rb_12_1 (fin_I (T0 := TX12) rfl rfl rfl) ew2 ?_
    refine V.aload_n (pc := 109) dX12_text_109 rfl ?_
    refine V.aload_n (pc := 110) dX12_text_110 rfl ?_
    refine V.getI (pc := 111) dX12_text_111 f_RX12_314 k_cl12 lx_44 ly_44 rb_12_39 ?_
    obtain ⟨w3, ew3, h⟩ := letW_e h
    refine V.putIX (pc := 114) dX12_text_114 f_RX12_106 k_cl12 lx_44 ly_44 rb_12_2 (fin_I (T0 := TX12) rfl rfl rfl) ew3 ?_
    refine V.iconst (pc := 117) dX12_text_117 ic_0 ?_
    refine V.istore_n (lv' := [some (.ref 44), none, some (.int 0)]) (pc := 118) dX12_text_118 (Nat.le_of_ble_eq_true rfl) rfl rfl ?_
    exact t_X12_text_L119 hd FU 0 w3 _ _ h
  · refine V.if_eq_f (t := 101) (pc := 90) dX12_text_90 (by decide) c ?_
    refine V.bipush (pc := 93) dX12_text_93 bp_m4 ?_
    refine V.aload_n (pc := 95) dX12_text_95 rfl ?_
    refine V.getI (pc := 96) dX12_text_96 f_RX12_298 k_cl12 lx_44 ly_44 rb_12_34 ?_
    refine V.isub (pc := 99) dX12_text_99 ?_
    obtain ⟨rfl, rfl⟩ := Prod.mk.inj (Option.some.inj h)
    exact V.iret (pc := 100) dX12_text_100 rfl (Nat.le_refl _) (Nat.le_refl _)
def f_X12_text_J62 (w : Wd) : Option (Int32 × Wd) :=
  if (w.1 44 36) = 0 then
    if (w.1 44 33) = 0 then
      f_X12_text_J81  w
    else
      letW (sI w 44 36 1) fun w1 =>
      f_X12_text_J81  w1
  else
    f_X12_text_J81  w
set_option maxHeartbeats 4000000 in
set_option maxRecDepth 100000 in
theorem t_X12_text_J62 {G : GT} {d : Nat} (hd : 4 ≤ d + 1)  : ∀  (w : Wd) (r : Int32) (w' : Wd), f_X12_text_J62  w = some (r, w') → U (vf G mX12_text (d + 1)) 62 [some (.ref 44), none, none] [] w (some (.int r), 70, r0, w') := by
  intro  w r w' h
  unfold f_X12_text_J62 at h
  refine V.aload_n (pc := 62) dX12_text_62 rfl ?_
  refine V.getI (pc := 63) dX12_text_63 f_RX12_304 k_cl12 lx_44 ly_44 rb_12_36 ?_
  rcases ite_e h with ⟨c, h⟩ | ⟨c, h⟩
  · refine V.if_ne_f (t := 81) (pc := 66) dX12_text_66 (by decide) c ?_
    refine V.aload_n (pc := 69) dX12_text_69 rfl ?_
    refine V.getI (pc := 70) dX12_text_70 f_RX12_292 k_cl12 lx_44 ly_44 rb_12_33 ?_
    rcases ite_e h with ⟨c, h⟩ | ⟨c, h⟩
    · refine V.if_eq_t (t := 81) (pc := 73) dX12_text_73 (by decide) c ?_
      exact t_X12_text_J81 hd w _ _ h
    · refine V.if_eq_f (t := 81) (pc := 73) dX12_text_73 (by decide) c ?_
      refine V.aload_n (pc := 76) dX12_text_76 rfl ?_
      refine V.iconst (pc := 77) dX12_text_77 ic_1 ?_
      obtain ⟨w1, ew1, h⟩ := letW_e h
      refine V.putIX (pc := 78) dX12_text_78 f_RX12_304 k_cl12 lx_44 ly_44 rb_12_36 (fin_Z (T0 := TX12) rfl rfl rfl (Or.inr rfl)) ew1 ?_
      exact t_X12_text_J81 hd w1 _ _ h
  · refine V.if_ne_t (t := 81) (pc := 66) dX12_text_66 (by decide) c ?_
    exact t_X12_text_J81 hd w _ _ h
def f_X12_text_B36b (k36 : Int32 → Wd → Option (Int32 × Wd)) (l1 : Int32) (w : Wd) : Option (Int32 × Wd) :=
  if (w.1 44 36) = 0 then
    if l1 = 0 then
      f_X12_text_J62  w
    else
      if (w.1 44 33) = 0 then
        f_X12_text_J62  w
      else
        bnd2 (f_X12_readsOne  w) fun x1 w2 =>
        k36 x1 w2
  else
    f_X12_text_J62  w
def f_X12_text_L36 (n : Nat) : Int32 → Wd → Option (Int32 × Wd) :=
  Nat.rec (fun _ _ => none) (fun _ k => f_X12_text_B36b k) n
set_option maxHeartbeats 4000000 in
set_option maxRecDepth 100000 in
theorem t_X12_text_L36 {G : GT} {d : Nat} (hd : 4 ≤ d + 1)  : ∀ (n : Nat) (l1 : Int32) (w : Wd) (r : Int32) (w' : Wd), f_X12_text_L36 n l1 w = some (r, w') → U (vf G mX12_text (d + 1)) 36 [some (.ref 44), some (.int l1), none] [] w (some (.int r), 70, r0, w') := by
  intro n
  induction n with
  | zero => intro l1 w r w' h; cases h
  | succ n h36 =>
    intro l1 w r w' h
    have h : f_X12_text_B36b (f_X12_text_L36 n) l1 w = some (r, w') := h
    unfold f_X12_text_B36b at h
    refine V.aload_n (pc := 36) dX12_text_36 rfl ?_
    refine V.getI (pc := 37) dX12_text_37 f_RX12_304 k_cl12 lx_44 ly_44 rb_12_36 ?_
    rcases ite_e h with ⟨c, h⟩ | ⟨c, h⟩
    · refine V.if_ne_f (t := 62) (pc := 40) dX12_text_40 (by decide) c ?_
      refine V.iload_n (pc := 43) dX12_text_43 rfl ?_
      rcases ite_e h with ⟨c, h⟩ | ⟨c, h⟩
      · refine V.if_eq_t (t := 62) (pc := 44) dX12_text_44 (by decide) c ?_
        refine V.weak (lv' := [some (.ref 44), none, none]) (And.intro rfl trivial) ?_
        exact t_X12_text_J62 hd w _ _ h
      · refine V.if_eq_f (t := 62) (pc := 44) dX12_text_44 (by decide) c ?_
        refine V.aload_n (pc := 47) dX12_text_47 rfl ?_
        refine V.getI (pc := 48) dX12_text_48 f_RX12_292 k_cl12 lx_44 ly_44 rb_12_33 ?_
        rcases ite_e h with ⟨c, h⟩ | ⟨c, h⟩
        · refine V.if_eq_t (t := 62) (pc := 51) dX12_text_51 (by decide) c ?_
          refine V.weak (lv' := [some (.ref 44), none, none]) (And.intro rfl trivial) ?_
          exact t_X12_text_J62 hd w _ _ h
        · refine V.if_eq_f (t := 62) (pc := 51) dX12_text_51 (by decide) c ?_
          refine V.aload_n (pc := 54) dX12_text_54 rfl ?_
          obtain ⟨x1, w2, ew2, h⟩ := bnd2_e h
          refine U.callV (pc := 55) (As := []) (st := []) dX12_text_55 l_RX12_329 (ok_X12_readsOne (by omega)  ew2) lx_44 ly_44 cn_12 (Nat.le_of_ble_eq_true rfl) rfl rfl (Nat.le_of_ble_eq_true rfl) ?_
          refine V.istore_n (lv' := [some (.ref 44), some (.int x1), none]) (pc := 58) dX12_text_58 (Nat.le_of_ble_eq_true rfl) rfl rfl ?_
          refine V.goto (t := 36) (pc := 59) dX12_text_59 (by decide) ?_
          exact h36 x1 w2 _ _ h
    · refine V.if_ne_t (t := 62) (pc := 40) dX12_text_40 (by decide) c ?_
      refine V.weak (lv' := [some (.ref 44), none, none]) (And.intro rfl trivial) ?_
      exact t_X12_text_J62 hd w _ _ h
def f_X12_text (w : Wd) : Option (Int32 × Wd) :=
  letW (sI w 44 39 0) fun w1 =>
  letW (sI w1 44 40 1) fun w2 =>
  letW (sI w2 44 41 0) fun w3 =>
  letW (sI w3 44 32 0) fun w4 =>
  letW (sI w4 44 33 3) fun w5 =>
  letW (sI w5 44 36 0) fun w6 =>
  bnd (f_X12_goesOn  w6) fun w7 =>
  f_X12_text_L36  FU 1 w7
set_option maxHeartbeats 4000000 in
set_option maxRecDepth 100000 in
theorem ok_X12_text {G : GT} {d : Nat} (hd : 4 ≤ d) {w : Wd}  {r : Int32} {w' : Wd} (h : f_X12_text  w = some (r, w')) : uC G yX12_text mX12_text d [.ref 44] w (some (.int r)) w' := by
  obtain ⟨d, rfl⟩ : ∃ e, d = e + 1 := ⟨d - 1, by omega⟩
  unfold f_X12_text at h
  refine uC_of (lv := [some (.ref 44), none, none]) 2 pn_X12 ⟨rfl, rfl⟩ (Nat.le_of_ble_eq_true rfl) rfl ?_
  refine V.aload_n (pc := 0) dX12_text_0 rfl ?_
  refine V.iconst (pc := 1) dX12_text_1 ic_0 ?_
  obtain ⟨w1, ew1, h⟩ := letW_e h
  refine V.putIX (pc := 2) dX12_text_2 f_RX12_314 k_cl12 lx_44 ly_44 rb_12_39 (fin_I (T0 := TX12) rfl rfl rfl) ew1 ?_
  refine V.aload_n (pc := 5) dX12_text_5 rfl ?_
  refine V.iconst (pc := 6) dX12_text_6 ic_1 ?_
  obtain ⟨w2, ew2, h⟩ := letW_e h
  refine V.putIX (pc := 7) dX12_text_7 f_RX12_311 k_cl12 lx_44 ly_44 rb_12_40 (fin_I (T0 := TX12) rfl rfl rfl) ew2 ?_
  refine V.aload_n (pc := 10) dX12_text_10 rfl ?_
  refine V.iconst (pc := 11) dX12_text_11 ic_0 ?_
  obtain ⟨w3, ew3, h⟩ := letW_e h
  refine V.putIX (pc := 12) dX12_text_12 f_RX12_317 k_cl12 lx_44 ly_44 rb_12_41 (fin_I (T0 := TX12) rfl rfl rfl) ew3 ?_
  refine V.aload_n (pc := 15) dX12_text_15 rfl ?_
  refine V.iconst (pc := 16) dX12_text_16 ic_0 ?_
  obtain ⟨w4, ew4, h⟩ := letW_e h
  refine V.putIX (pc := 17) dX12_text_17 f_RX12_289 k_cl12 lx_44 ly_44 rb_12_32 (fin_I (T0 := TX12) rfl rfl rfl) ew4 ?_
  refine V.aload_n (pc := 20) dX12_text_20 rfl ?_
  refine V.iconst (pc := 21) dX12_text_21 ic_3 ?_
  obtain ⟨w5, ew5, h⟩ := letW_e h
  refine V.putIX (pc := 22) dX12_text_22 f_RX12_292 k_cl12 lx_44 ly_44 rb_12_33 (fin_I (T0 := TX12) rfl rfl rfl) ew5 ?_
  refine V.aload_n (pc := 25) dX12_text_25 rfl ?_
  refine V.iconst (pc := 26) dX12_text_26 ic_0 ?_
  obtain ⟨w6, ew6, h⟩ := letW_e h
  refine V.putIX (pc := 27) dX12_text_27 f_RX12_304 k_cl12 lx_44 ly_44 rb_12_36 (fin_Z (T0 := TX12) rfl rfl rfl (Or.inl rfl)) ew6 ?_
  refine V.aload_n (pc := 30) dX12_text_30 rfl ?_
  obtain ⟨w7, ew7, h⟩ := bnd_e h
  refine U.callV (pc := 31) (As := []) (st := []) dX12_text_31 l_RX12_308 (ok_X12_goesOn (by omega)  ew7) lx_44 ly_44 cn_12 (Nat.le_of_ble_eq_true rfl) rfl rfl (Nat.le_of_ble_eq_true rfl) ?_
  refine V.iconst (pc := 34) dX12_text_34 ic_1 ?_
  refine V.istore_n (lv' := [some (.ref 44), some (.int 1), none]) (pc := 35) dX12_text_35 (Nat.le_of_ble_eq_true rfl) rfl rfl ?_
  exact t_X12_text_L36 hd FU 1 w7 _ _ h
