def f_X8_joined_34 (l1 : Int32) (l2 : Int32) (w : Wd) : Option Int32 :=
  if (w.1 34 4) = 0 then
    bnd (f_X4_times l1 l2 w) fun x1 =>
    some x1
  else
    if (l1 + l2) < (w.1 34 4) then
      some (l1 + l2)
    else
      some ((l1 + l2) - (w.1 34 4))
set_option maxHeartbeats 4000000 in
set_option maxRecDepth 100000 in
theorem ok_X8_joined_34 {G : GT} {d : Nat} (hd : 1 ≤ d) {w : Wd} (l1 : Int32) (l2 : Int32) {r : Int32} (h : f_X8_joined_34 l1 l2 w = some r) : uC G yX8_joined mX8_joined d [.ref 34, .int l1, .int l2] w (some (.int r)) w := by
  obtain ⟨d, rfl⟩ : ∃ e, d = e + 1 := ⟨d - 1, by omega⟩
  unfold f_X8_joined_34 at h
  refine uC_of (lv := [some (.ref 34), some (.int l1), some (.int l2)]) 0 pn_X8 ⟨rfl, rfl⟩ (Nat.le_of_ble_eq_true rfl) rfl ?_
  refine V.aload_n (pc := 0) dX8_joined_0 rfl ?_
  refine V.getI (pc := 1) dX8_joined_1 f_RX8_44 k_cl8 lx_34 ly_34 rb_8_4 ?_
  rcases ite_e h with ⟨c, h⟩ | ⟨c, h⟩
  · refine V.if_ne_f (t := 17) (pc := 4) dX8_joined_4 (by decide) c ?_
    refine V.aload_n (pc := 7) dX8_joined_7 rfl ?_
    refine V.getR (t := 6) (pc := 8) dX8_joined_8 f_RX8_18 k_cl8 lx_34 ly_34 rb_8_0 rr_34_0 ?_
    refine V.iload_n (pc := 11) dX8_joined_11 rfl ?_
    refine V.iload_n (pc := 12) dX8_joined_12 rfl ?_
    obtain ⟨x1, ex1, h⟩ := bnd_e h
    refine U.callV (pc := 13) (As := [.int l1, .int l2]) (st := []) dX8_joined_13 l_RX8_51 (ok_X4_times (by omega) l1 l2 ex1) lx_6 ly_6 cn_4 (Nat.le_of_ble_eq_true rfl) rfl rfl (Nat.le_of_ble_eq_true rfl) ?_
    obtain rfl := Option.some.inj h
    exact V.iret (pc := 16) dX8_joined_16 rfl (Nat.le_refl _) (Nat.le_refl _)
  · refine V.if_ne_t (t := 17) (pc := 4) dX8_joined_4 (by decide) c ?_
    refine V.iload_n (pc := 17) dX8_joined_17 rfl ?_
    refine V.iload_n (pc := 18) dX8_joined_18 rfl ?_
    refine V.iadd (pc := 19) dX8_joined_19 ?_
    refine V.aload_n (pc := 20) dX8_joined_20 rfl ?_
    refine V.getI (pc := 21) dX8_joined_21 f_RX8_44 k_cl8 lx_34 ly_34 rb_8_4 ?_
    rcases ite_e h with ⟨c, h⟩ | ⟨c, h⟩
    · refine V.icmp_lt_t (t := 38) (pc := 24) dX8_joined_24 (by decide) c ?_
      refine V.iload_n (pc := 38) dX8_joined_38 rfl ?_
      refine V.iload_n (pc := 39) dX8_joined_39 rfl ?_
      refine V.iadd (pc := 40) dX8_joined_40 ?_
      obtain rfl := Option.some.inj h
      exact V.iret (pc := 41) dX8_joined_41 rfl (Nat.le_refl _) (Nat.le_refl _)
    · refine V.icmp_lt_f (t := 38) (pc := 24) dX8_joined_24 (by decide) c ?_
      refine V.iload_n (pc := 27) dX8_joined_27 rfl ?_
      refine V.iload_n (pc := 28) dX8_joined_28 rfl ?_
      refine V.iadd (pc := 29) dX8_joined_29 ?_
      refine V.aload_n (pc := 30) dX8_joined_30 rfl ?_
      refine V.getI (pc := 31) dX8_joined_31 f_RX8_44 k_cl8 lx_34 ly_34 rb_8_4 ?_
      refine V.isub (pc := 34) dX8_joined_34 ?_
      refine V.goto (t := 41) (pc := 35) dX8_joined_35 (by decide) ?_
      obtain rfl := Option.some.inj h
      exact V.iret (pc := 41) dX8_joined_41 rfl (Nat.le_refl _) (Nat.le_refl _)
def f_X8_fits_34_B139b (k118 : Int32 → Int32 → Int32 → Wd → Option (Int32 × Wd)) (k139 : Int32 → Int32 → Int32 → Int32 → Int32 → Wd → Option (Int32 × Wd)) (l1 : Int32) (l2 : Int32) (l4 : Int32) (l5 : Int32) (l6 : Int32) (w : Wd) : Option (Int32 × Wd) :=
  if l1 < l6 then
    k118 l1 l2 (l4 + 1) w
  else
    rdI w 36 16 l5 fun x1 =>
    rdI w 35 4 l6 fun x2 =>
    bnd (f_X8_joined_34 x1 x2 w) fun x3 =>
    rdI w 14 4 l6 fun x4 =>
    bnd (f_X4_times l5 x4 w) fun x5 =>
    rdI w 36 16 x5 fun x6 =>
    if x6 = x3 then
      k139 l1 l2 l4 l5 (l6 + 1) w
    else
      some (0, w)
def f_X8_fits_34_L139 (k118 : Int32 → Int32 → Int32 → Wd → Option (Int32 × Wd)) (n : Nat) : Int32 → Int32 → Int32 → Int32 → Int32 → Wd → Option (Int32 × Wd) :=
  Nat.rec (fun _ _ _ _ _ _ => none) (fun _ k => f_X8_fits_34_B139b k118 k) n
set_option maxHeartbeats 4000000 in
set_option maxRecDepth 100000 in
theorem t_X8_fits_34_L139 {G : GT} {d : Nat} {k118 : Int32 → Int32 → Int32 → Wd → Option (Int32 × Wd)} (hd : 2 ≤ d + 1) (h118 : ∀ (l1 : Int32) (l2 : Int32) (l4 : Int32) (w : Wd) (r : Int32) (w' : Wd), k118 l1 l2 l4 w = some (r, w') → U (vf G mX8_fits (d + 1)) 118 [some (.ref 34), some (.int l1), some (.int l2), none, some (.int l4), none, none, none] [] w (some (.int r), 70, r0, w')) : ∀ (n : Nat) (l1 : Int32) (l2 : Int32) (l4 : Int32) (l5 : Int32) (l6 : Int32) (w : Wd) (r : Int32) (w' : Wd), f_X8_fits_34_L139 k118 n l1 l2 l4 l5 l6 w = some (r, w') → U (vf G mX8_fits (d + 1)) 139 [some (.ref 34), some (.int l1), some (.int l2), none, some (.int l4), some (.int l5), some (.int l6), none] [] w (some (.int r), 70, r0, w') := by
  intro n
  induction n with
  | zero => intro l1 l2 l4 l5 l6 w r w' h; cases h
  | succ n h139 =>
    intro l1 l2 l4 l5 l6 w r w' h
    have h : f_X8_fits_34_B139b k118 (f_X8_fits_34_L139 k118 n) l1 l2 l4 l5 l6 w = some (r, w') := h
    unfold f_X8_fits_34_B139b at h
    refine V.iload (pc := 139) dX8_fits_139 rfl ?_
    refine V.iload_n (pc := 141) dX8_fits_141 rfl ?_
    rcases ite_e h with ⟨c, h⟩ | ⟨c, h⟩
    · refine V.icmp_gt_t (t := 202) (pc := 142) dX8_fits_142 (by decide) c ?_
      refine V.iinc (lv' := [some (.ref 34), some (.int l1), some (.int l2), none, some (.int (l4 + 1)), some (.int l5), some (.int l6), none]) (pc := 202) dX8_fits_202 (Nat.le_of_ble_eq_true rfl) rfl rfl (v := (l4 + 1)) (by rw [show Int32.ofInt 1 = 1 from by decide]) rfl ?_
      refine V.goto (t := 118) (pc := 205) dX8_fits_205 (by decide) ?_
      refine V.weak (lv' := [some (.ref 34), some (.int l1), some (.int l2), none, some (.int (l4 + 1)), none, none, none]) (And.intro rfl (And.intro rfl (And.intro rfl (And.intro rfl trivial)))) ?_
      exact h118 l1 l2 (l4 + 1) w _ _ h
    · refine V.icmp_gt_f (t := 202) (pc := 142) dX8_fits_142 (by decide) c ?_
      refine V.aload_n (pc := 145) dX8_fits_145 rfl ?_
      refine V.aload_n (pc := 146) dX8_fits_146 rfl ?_
      refine V.getR (t := 36) (pc := 147) dX8_fits_147 f_RX8_15 k_cl8 lx_34 ly_34 rb_8_3 rr_34_3 ?_
      refine V.iload (pc := 150) dX8_fits_150 rfl ?_
      obtain ⟨x1, ix1, ex1, h⟩ := rdI_e h
      refine V.ialdX (pc := 152) dX8_fits_152 lx_36 ly_36 ix1 ex1 ?_
      refine V.aload_n (pc := 153) dX8_fits_153 rfl ?_
      refine V.getR (t := 35) (pc := 154) dX8_fits_154 f_RX8_9 k_cl8 lx_34 ly_34 rb_8_2 rr_34_2 ?_
      refine V.iload (pc := 157) dX8_fits_157 rfl ?_
      obtain ⟨x2, ix2, ex2, h⟩ := rdI_e h
      refine V.ialdX (pc := 159) dX8_fits_159 lx_35 ly_35 ix2 ex2 ?_
      obtain ⟨x3, ex3, h⟩ := bnd_e h
      refine U.callV (pc := 160) (As := [.int x1, .int x2]) (st := []) dX8_fits_160 l_RX8_40 (ok_X8_joined_34 (by omega) x1 x2 ex3) lx_34 ly_34 cn_8 (Nat.le_of_ble_eq_true rfl) rfl rfl (Nat.le_of_ble_eq_true rfl) ?_
      refine V.istore (lv' := [some (.ref 34), some (.int l1), some (.int l2), none, some (.int l4), some (.int l5), some (.int l6), some (.int x3)]) (pc := 163) dX8_fits_163 (Nat.le_of_ble_eq_true rfl) rfl rfl ?_
      refine V.aload_n (pc := 165) dX8_fits_165 rfl ?_
      refine V.getR (t := 36) (pc := 166) dX8_fits_166 f_RX8_15 k_cl8 lx_34 ly_34 rb_8_3 rr_34_3 ?_
      refine V.aload_n (pc := 169) dX8_fits_169 rfl ?_
      refine V.getR (t := 6) (pc := 170) dX8_fits_170 f_RX8_18 k_cl8 lx_34 ly_34 rb_8_0 rr_34_0 ?_
      refine V.iload (pc := 173) dX8_fits_173 rfl ?_
      refine V.aload_n (pc := 175) dX8_fits_175 rfl ?_
      refine V.getR (t := 13) (pc := 176) dX8_fits_176 f_RX8_22 k_cl8 lx_34 ly_34 rb_8_1 rr_34_1 ?_
      refine V.getR (t := 14) (pc := 179) dX8_fits_179 f_RX8_48 k_cl1 lx_13 ly_13 rb_1_1 rr_13_1 ?_
      refine V.iload (pc := 182) dX8_fits_182 rfl ?_
      obtain ⟨x4, ix4, ex4, h⟩ := rdI_e h
      refine V.ialdX (pc := 184) dX8_fits_184 lx_14 ly_14 ix4 ex4 ?_
      obtain ⟨x5, ex5, h⟩ := bnd_e h
      refine U.callV (pc := 185) (As := [.int l5, .int x4]) (st := [.ref 36]) dX8_fits_185 l_RX8_51 (ok_X4_times (by omega) l5 x4 ex5) lx_6 ly_6 cn_4 (Nat.le_of_ble_eq_true rfl) rfl rfl (Nat.le_of_ble_eq_true rfl) ?_
      obtain ⟨x6, ix6, ex6, h⟩ := rdI_e h
      refine V.ialdX (pc := 188) dX8_fits_188 lx_36 ly_36 ix6 ex6 ?_
      refine V.iload (pc := 189) dX8_fits_189 rfl ?_
      rcases ite_e h with ⟨c, h⟩ | ⟨c, h⟩
      · refine V.icmp_eq_t (t := 196) (pc := 191) dX8_fits_191 (by decide) c ?_
        refine V.iinc (lv' := [some (.ref 34), some (.int l1), some (.int l2), none, some (.int l4), some (.int l5), some (.int (l6 + 1)), some (.int x3)]) (pc := 196) dX8_fits_196 (Nat.le_of_ble_eq_true rfl) rfl rfl (v := (l6 + 1)) (by rw [show Int32.ofInt 1 = 1 from by decide]) rfl ?_
        refine V.goto (t := 139) (pc := 199) dX8_fits_199 (by decide) ?_
        refine V.weak (lv' := [some (.ref 34), some (.int l1), some (.int l2), none, some (.int l4), some (.int l5), some (.int (l6 + 1)), none]) (And.intro rfl (And.intro rfl (And.intro rfl (And.intro rfl (And.intro rfl (And.intro rfl trivial)))))) ?_
        exact h139 l1 l2 l4 l5 (l6 + 1) w _ _ h
      · refine V.icmp_eq_f (t := 196) (pc := 191) dX8_fits_191 (by decide) c ?_
        refine V.iconst (pc := 194) dX8_fits_194 ic_0 ?_
        obtain ⟨rfl, rfl⟩ := Prod.mk.inj (Option.some.inj h)
        exact V.zret (pc := 195) dX8_fits_195 rfl (Or.inl rfl) (Nat.le_refl _) (Nat.le_refl _)
def f_X8_fits_34_B118b (k118 : Int32 → Int32 → Int32 → Wd → Option (Int32 × Wd)) (l1 : Int32) (l2 : Int32) (l4 : Int32) (w : Wd) : Option (Int32 × Wd) :=
  if l2 ≤ l4 then
    some (1, w)
  else
    rdI w 16 16 l4 fun x1 =>
    f_X8_fits_34_L139 k118 FU l1 l2 l4 x1 0 w
def f_X8_fits_34_L118 (n : Nat) : Int32 → Int32 → Int32 → Wd → Option (Int32 × Wd) :=
  Nat.rec (fun _ _ _ _ => none) (fun _ k => f_X8_fits_34_B118b k) n
set_option maxHeartbeats 4000000 in
set_option maxRecDepth 100000 in
theorem t_X8_fits_34_L118 {G : GT} {d : Nat} (hd : 2 ≤ d + 1)  : ∀ (n : Nat) (l1 : Int32) (l2 : Int32) (l4 : Int32) (w : Wd) (r : Int32) (w' : Wd), f_X8_fits_34_L118 n l1 l2 l4 w = some (r, w') → U (vf G mX8_fits (d + 1)) 118 [some (.ref 34), some (.int l1), some (.int l2), none, some (.int l4), none, none, none] [] w (some (.int r), 70, r0, w') := by
  intro n
  induction n with
  | zero => intro l1 l2 l4 w r w' h; cases h
  | succ n h118 =>
    intro l1 l2 l4 w r w' h
    have h : f_X8_fits_34_B118b (f_X8_fits_34_L118 n) l1 l2 l4 w = some (r, w') := h
    unfold f_X8_fits_34_B118b at h
    refine V.iload (pc := 118) dX8_fits_118 rfl ?_
    refine V.iload_n (pc := 120) dX8_fits_120 rfl ?_
    rcases ite_e h with ⟨c, h⟩ | ⟨c, h⟩
    · refine V.icmp_ge_t (t := 208) (pc := 121) dX8_fits_121 (by decide) c ?_
      refine V.iconst (pc := 208) dX8_fits_208 ic_1 ?_
      obtain ⟨rfl, rfl⟩ := Prod.mk.inj (Option.some.inj h)
      exact V.zret (pc := 209) dX8_fits_209 rfl (Or.inr rfl) (Nat.le_refl _) (Nat.le_refl _)
    · refine V.icmp_ge_f (t := 208) (pc := 121) dX8_fits_121 (by decide) c ?_
      refine V.aload_n (pc := 124) dX8_fits_124 rfl ?_
      refine V.getR (t := 13) (pc := 125) dX8_fits_125 f_RX8_22 k_cl8 lx_34 ly_34 rb_8_1 rr_34_1 ?_
      refine V.getR (t := 16) (pc := 128) dX8_fits_128 f_RX8_31 k_cl1 lx_13 ly_13 rb_1_3 rr_13_3 ?_
      refine V.iload (pc := 131) dX8_fits_131 rfl ?_
      obtain ⟨x1, ix1, ex1, h⟩ := rdI_e h
      refine V.ialdX (pc := 133) dX8_fits_133 lx_16 ly_16 ix1 ex1 ?_
      refine V.istore (lv' := [some (.ref 34), some (.int l1), some (.int l2), none, some (.int l4), some (.int x1), none, none]) (pc := 134) dX8_fits_134 (Nat.le_of_ble_eq_true rfl) rfl rfl ?_
      refine V.iconst (pc := 136) dX8_fits_136 ic_0 ?_
      refine V.istore (lv' := [some (.ref 34), some (.int l1), some (.int l2), none, some (.int l4), some (.int x1), some (.int 0), none]) (pc := 137) dX8_fits_137 (Nat.le_of_ble_eq_true rfl) rfl rfl ?_
      exact t_X8_fits_34_L139 hd h118 FU l1 l2 l4 x1 0 w _ _ h
def f_X8_fits_34_B15b (k15 : Int32 → Int32 → Int32 → Int32 → Wd → Option (Int32 × Wd)) (l1 : Int32) (l2 : Int32) (l3 : Int32) (l4 : Int32) (w : Wd) : Option (Int32 × Wd) :=
  if l2 ≤ l4 then
    f_X8_fits_34_L118  FU l1 l2 0 w
  else
    rdI w 16 16 l4 fun x1 =>
    rdI w 17 16 x1 fun x2 =>
    rdI w 36 16 x2 fun x3 =>
    rdI w 18 16 x1 fun x4 =>
    rdI w 35 4 x4 fun x5 =>
    bnd (f_X8_joined_34 x3 x5 w) fun x6 =>
    wrI w 36 16 x1 x6 fun w7 =>
    if (w7.1 34 4) = 0 then
      rdI w7 36 16 x1 fun x9 =>
      if ((l3 >>> (x9 &&& 31)) &&& 1) = 0 then
        rdI w7 36 16 x1 fun x10 =>
        k15 l1 l2 (l3 ||| (1 <<< (x10 &&& 31))) (l4 + 1) w7
      else
        some (0, w7)
    else
      rdI w7 36 16 x1 fun x8 =>
      k15 l1 l2 (l3 ||| (1 <<< (x8 &&& 31))) (l4 + 1) w7
def f_X8_fits_34_L15 (n : Nat) : Int32 → Int32 → Int32 → Int32 → Wd → Option (Int32 × Wd) :=
  Nat.rec (fun _ _ _ _ _ => none) (fun _ k => f_X8_fits_34_B15b k) n
set_option maxHeartbeats 4000000 in
set_option maxRecDepth 100000 in
theorem t_X8_fits_34_L15 {G : GT} {d : Nat} (hd : 2 ≤ d + 1)  : ∀ (n : Nat) (l1 : Int32) (l2 : Int32) (l3 : Int32) (l4 : Int32) (w : Wd) (r : Int32) (w' : Wd), f_X8_fits_34_L15 n l1 l2 l3 l4 w = some (r, w') → U (vf G mX8_fits (d + 1)) 15 [some (.ref 34), some (.int l1), some (.int l2), some (.int l3), some (.int l4), none, none, none] [] w (some (.int r), 70, r0, w') := by
  intro n
  induction n with
  | zero => intro l1 l2 l3 l4 w r w' h; cases h
  | succ n h15 =>
    intro l1 l2 l3 l4 w r w' h
    have h : f_X8_fits_34_B15b (f_X8_fits_34_L15 n) l1 l2 l3 l4 w = some (r, w') := h
    unfold f_X8_fits_34_B15b at h
    refine V.iload (pc := 15) dX8_fits_15 rfl ?_
    refine V.iload_n (pc := 17) dX8_fits_17 rfl ?_
    rcases ite_e h with ⟨c, h⟩ | ⟨c, h⟩
    · refine V.icmp_ge_t (t := 115) (pc := 18) dX8_fits_18 (by decide) c ?_
      refine V.iconst (pc := 115) dX8_fits_115 ic_0 ?_
      refine V.istore (lv' := [some (.ref 34), some (.int l1), some (.int l2), some (.int l3), some (.int 0), none, none, none]) (pc := 116) dX8_fits_116 (Nat.le_of_ble_eq_true rfl) rfl rfl ?_
      refine V.weak (lv' := [some (.ref 34), some (.int l1), some (.int l2), none, some (.int 0), none, none, none]) (And.intro rfl (And.intro rfl (And.intro rfl (And.intro rfl trivial)))) ?_
      exact t_X8_fits_34_L118 hd FU l1 l2 0 w _ _ h
    · refine V.icmp_ge_f (t := 115) (pc := 18) dX8_fits_18 (by decide) c ?_
      refine V.aload_n (pc := 21) dX8_fits_21 rfl ?_
      refine V.getR (t := 13) (pc := 22) dX8_fits_22 f_RX8_22 k_cl8 lx_34 ly_34 rb_8_1 rr_34_1 ?_
      refine V.getR (t := 16) (pc := 25) dX8_fits_25 f_RX8_31 k_cl1 lx_13 ly_13 rb_1_3 rr_13_3 ?_
      refine V.iload (pc := 28) dX8_fits_28 rfl ?_
      obtain ⟨x1, ix1, ex1, h⟩ := rdI_e h
      refine V.ialdX (pc := 30) dX8_fits_30 lx_16 ly_16 ix1 ex1 ?_
      refine V.istore (lv' := [some (.ref 34), some (.int l1), some (.int l2), some (.int l3), some (.int l4), some (.int x1), none, none]) (pc := 31) dX8_fits_31 (Nat.le_of_ble_eq_true rfl) rfl rfl ?_
      refine V.aload_n (pc := 33) dX8_fits_33 rfl ?_
      refine V.getR (t := 36) (pc := 34) dX8_fits_34 f_RX8_15 k_cl8 lx_34 ly_34 rb_8_3 rr_34_3 ?_
      refine V.iload (pc := 37) dX8_fits_37 rfl ?_
      refine V.aload_n (pc := 39) dX8_fits_39 rfl ?_
      refine V.aload_n (pc := 40) dX8_fits_40 rfl ?_
      refine V.getR (t := 36) (pc := 41) dX8_fits_41 f_RX8_15 k_cl8 lx_34 ly_34 rb_8_3 rr_34_3 ?_
      refine V.aload_n (pc := 44) dX8_fits_44 rfl ?_
      refine V.getR (t := 13) (pc := 45) dX8_fits_45 f_RX8_22 k_cl8 lx_34 ly_34 rb_8_1 rr_34_1 ?_
      refine V.getR (t := 17) (pc := 48) dX8_fits_48 f_RX8_34 k_cl1 lx_13 ly_13 rb_1_4 rr_13_4 ?_
      refine V.iload (pc := 51) dX8_fits_51 rfl ?_
      obtain ⟨x2, ix2, ex2, h⟩ := rdI_e h
      refine V.ialdX (pc := 53) dX8_fits_53 lx_17 ly_17 ix2 ex2 ?_
      obtain ⟨x3, ix3, ex3, h⟩ := rdI_e h
      refine V.ialdX (pc := 54) dX8_fits_54 lx_36 ly_36 ix3 ex3 ?_
      refine V.aload_n (pc := 55) dX8_fits_55 rfl ?_
      refine V.getR (t := 35) (pc := 56) dX8_fits_56 f_RX8_9 k_cl8 lx_34 ly_34 rb_8_2 rr_34_2 ?_
      refine V.aload_n (pc := 59) dX8_fits_59 rfl ?_
      refine V.getR (t := 13) (pc := 60) dX8_fits_60 f_RX8_22 k_cl8 lx_34 ly_34 rb_8_1 rr_34_1 ?_
      refine V.getR (t := 18) (pc := 63) dX8_fits_63 f_RX8_37 k_cl1 lx_13 ly_13 rb_1_5 rr_13_5 ?_
      refine V.iload (pc := 66) dX8_fits_66 rfl ?_
      obtain ⟨x4, ix4, ex4, h⟩ := rdI_e h
      refine V.ialdX (pc := 68) dX8_fits_68 lx_18 ly_18 ix4 ex4 ?_
      obtain ⟨x5, ix5, ex5, h⟩ := rdI_e h
      refine V.ialdX (pc := 69) dX8_fits_69 lx_35 ly_35 ix5 ex5 ?_
      obtain ⟨x6, ex6, h⟩ := bnd_e h
      refine U.callV (pc := 70) (As := [.int x3, .int x5]) (st := [.int x1, .ref 36]) dX8_fits_70 l_RX8_40 (ok_X8_joined_34 (by omega) x3 x5 ex6) lx_34 ly_34 cn_8 (Nat.le_of_ble_eq_true rfl) rfl rfl (Nat.le_of_ble_eq_true rfl) ?_
      obtain ⟨w7, iw7, ew7, h⟩ := wrI_e h
      refine V.iastX (pc := 73) dX8_fits_73 lx_36 ly_36 iw7 ew7 ?_
      refine V.aload_n (pc := 74) dX8_fits_74 rfl ?_
      refine V.getI (pc := 75) dX8_fits_75 f_RX8_44 k_cl8 lx_34 ly_34 rb_8_4 ?_
      rcases ite_e h with ⟨c, h⟩ | ⟨c, h⟩
      · refine V.if_ne_f (t := 97) (pc := 78) dX8_fits_78 (by decide) c ?_
        refine V.iload_n (pc := 81) dX8_fits_81 rfl ?_
        refine V.aload_n (pc := 82) dX8_fits_82 rfl ?_
        refine V.getR (t := 36) (pc := 83) dX8_fits_83 f_RX8_15 k_cl8 lx_34 ly_34 rb_8_3 rr_34_3 ?_
        refine V.iload (pc := 86) dX8_fits_86 rfl ?_
        obtain ⟨x9, ix9, ex9, h⟩ := rdI_e h
        refine V.ialdX (pc := 88) dX8_fits_88 lx_36 ly_36 ix9 ex9 ?_
        refine V.ishr (pc := 89) dX8_fits_89 ?_
        refine V.iconst (pc := 90) dX8_fits_90 ic_1 ?_
        refine V.iand (pc := 91) dX8_fits_91 ?_
        rcases ite_e h with ⟨c, h⟩ | ⟨c, h⟩
        · refine V.if_eq_t (t := 97) (pc := 92) dX8_fits_92 (by decide) c ?_
          refine V.iload_n (pc := 97) dX8_fits_97 rfl ?_
          refine V.iconst (pc := 98) dX8_fits_98 ic_1 ?_
          refine V.aload_n (pc := 99) dX8_fits_99 rfl ?_
          refine V.getR (t := 36) (pc := 100) dX8_fits_100 f_RX8_15 k_cl8 lx_34 ly_34 rb_8_3 rr_34_3 ?_
          refine V.iload (pc := 103) dX8_fits_103 rfl ?_
          obtain ⟨x10, ix10, ex10, h⟩ := rdI_e h
          refine V.ialdX (pc := 105) dX8_fits_105 lx_36 ly_36 ix10 ex10 ?_
          refine V.ishl (pc := 106) dX8_fits_106 ?_
          refine V.ior (pc := 107) dX8_fits_107 ?_
          refine V.istore_n (lv' := [some (.ref 34), some (.int l1), some (.int l2), some (.int (l3 ||| (1 <<< (x10 &&& 31)))), some (.int l4), some (.int x1), none, none]) (pc := 108) dX8_fits_108 (Nat.le_of_ble_eq_true rfl) rfl rfl ?_
          refine V.iinc (lv' := [some (.ref 34), some (.int l1), some (.int l2), some (.int (l3 ||| (1 <<< (x10 &&& 31)))), some (.int (l4 + 1)), some (.int x1), none, none]) (pc := 109) dX8_fits_109 (Nat.le_of_ble_eq_true rfl) rfl rfl (v := (l4 + 1)) (by rw [show Int32.ofInt 1 = 1 from by decide]) rfl ?_
          refine V.goto (t := 15) (pc := 112) dX8_fits_112 (by decide) ?_
          refine V.weak (lv' := [some (.ref 34), some (.int l1), some (.int l2), some (.int (l3 ||| (1 <<< (x10 &&& 31)))), some (.int (l4 + 1)), none, none, none]) (And.intro rfl (And.intro rfl (And.intro rfl (And.intro rfl (And.intro rfl trivial))))) ?_
          exact h15 l1 l2 (l3 ||| (1 <<< (x10 &&& 31))) (l4 + 1) w7 _ _ h
        · refine V.if_eq_f (t := 97) (pc := 92) dX8_fits_92 (by decide) c ?_
          refine V.iconst (pc := 95) dX8_fits_95 ic_0 ?_
          obtain ⟨rfl, rfl⟩ := Prod.mk.inj (Option.some.inj h)
          exact V.zret (pc := 96) dX8_fits_96 rfl (Or.inl rfl) (Nat.le_refl _) (Nat.le_refl _)
      · refine V.if_ne_t (t := 97) (pc := 78) dX8_fits_78 (by decide) c ?_
        refine V.iload_n (pc := 97) dX8_fits_97 rfl ?_
        refine V.iconst (pc := 98) dX8_fits_98 ic_1 ?_
        refine V.aload_n (pc := 99) dX8_fits_99 rfl ?_
        refine V.getR (t := 36) (pc := 100) dX8_fits_100 f_RX8_15 k_cl8 lx_34 ly_34 rb_8_3 rr_34_3 ?_
        refine V.iload (pc := 103) dX8_fits_103 rfl ?_
        obtain ⟨x8, ix8, ex8, h⟩ := rdI_e h
        refine V.ialdX (pc := 105) dX8_fits_105 lx_36 ly_36 ix8 ex8 ?_
        refine V.ishl (pc := 106) dX8_fits_106 ?_
        refine V.ior (pc := 107) dX8_fits_107 ?_
        refine V.istore_n (lv' := [some (.ref 34), some (.int l1), some (.int l2), some (.int (l3 ||| (1 <<< (x8 &&& 31)))), some (.int l4), some (.int x1), none, none]) (pc := 108) dX8_fits_108 (Nat.le_of_ble_eq_true rfl) rfl rfl ?_
        refine V.iinc (lv' := [some (.ref 34), some (.int l1), some (.int l2), some (.int (l3 ||| (1 <<< (x8 &&& 31)))), some (.int (l4 + 1)), some (.int x1), none, none]) (pc := 109) dX8_fits_109 (Nat.le_of_ble_eq_true rfl) rfl rfl (v := (l4 + 1)) (by rw [show Int32.ofInt 1 = 1 from by decide]) rfl ?_
        refine V.goto (t := 15) (pc := 112) dX8_fits_112 (by decide) ?_
        refine V.weak (lv' := [some (.ref 34), some (.int l1), some (.int l2), some (.int (l3 ||| (1 <<< (x8 &&& 31)))), some (.int (l4 + 1)), none, none, none]) (And.intro rfl (And.intro rfl (And.intro rfl (And.intro rfl (And.intro rfl trivial))))) ?_
        exact h15 l1 l2 (l3 ||| (1 <<< (x8 &&& 31))) (l4 + 1) w7 _ _ h
def f_X8_fits_34 (l1 : Int32) (w : Wd) : Option (Int32 × Wd) :=
  rdI w 15 4 l1 fun x1 =>
  f_X8_fits_34_L15  FU l1 x1 1 1 w
set_option maxHeartbeats 4000000 in
set_option maxRecDepth 100000 in
theorem ok_X8_fits_34 {G : GT} {d : Nat} (hd : 2 ≤ d) {w : Wd} (l1 : Int32) {r : Int32} {w' : Wd} (h : f_X8_fits_34 l1 w = some (r, w')) : uC G yX8_fits mX8_fits d [.ref 34, .int l1] w (some (.int r)) w' := by
  obtain ⟨d, rfl⟩ : ∃ e, d = e + 1 := ⟨d - 1, by omega⟩
  unfold f_X8_fits_34 at h
  refine uC_of (lv := [some (.ref 34), some (.int l1), none, none, none, none, none, none]) 6 pn_X8 ⟨rfl, rfl⟩ (Nat.le_of_ble_eq_true rfl) rfl ?_
  refine V.aload_n (pc := 0) dX8_fits_0 rfl ?_
  refine V.getR (t := 13) (pc := 1) dX8_fits_1 f_RX8_22 k_cl8 lx_34 ly_34 rb_8_1 rr_34_1 ?_
  refine V.getR (t := 15) (pc := 4) dX8_fits_4 f_RX8_26 k_cl1 lx_13 ly_13 rb_1_2 rr_13_2 ?_
  refine V.iload_n (pc := 7) dX8_fits_7 rfl ?_
  obtain ⟨x1, ix1, ex1, h⟩ := rdI_e h
  refine V.ialdX (pc := 8) dX8_fits_8 lx_15 ly_15 ix1 ex1 ?_
  refine V.istore_n (lv' := [some (.ref 34), some (.int l1), some (.int x1), none, none, none, none, none]) (pc := 9) dX8_fits_9 (Nat.le_of_ble_eq_true rfl) rfl rfl ?_
  refine V.iconst (pc := 10) dX8_fits_10 ic_1 ?_
  refine V.istore_n (lv' := [some (.ref 34), some (.int l1), some (.int x1), some (.int 1), none, none, none, none]) (pc := 11) dX8_fits_11 (Nat.le_of_ble_eq_true rfl) rfl rfl ?_
  refine V.iconst (pc := 12) dX8_fits_12 ic_1 ?_
  refine V.istore (lv' := [some (.ref 34), some (.int l1), some (.int x1), some (.int 1), some (.int 1), none, none, none]) (pc := 13) dX8_fits_13 (Nat.le_of_ble_eq_true rfl) rfl rfl ?_
  exact t_X8_fits_34_L15 hd FU l1 x1 1 1 w _ _ h
theorem dX5_list_0 : decode cX5_list 0 = .ok (.iload_n 1, 1) := by decide +kernel
theorem dX5_list_1 : decode cX5_list 1 = .ok (.aload_n 0, 1) := by decide +kernel
theorem dX5_list_2 : decode cX5_list 2 = .ok (.getfield 19, 3) := by decide +kernel
theorem dX5_list_5 : decode cX5_list 5 = .ok (.getfield 43, 3) := by decide +kernel
theorem dX5_list_8 : decode cX5_list 8 = .ok (.if_icmp .ge 8, 3) := by decide +kernel
theorem dX5_list_11 : decode cX5_list 11 = .ok (.iload_n 1, 1) := by decide +kernel
theorem dX5_list_12 : decode cX5_list 12 = .ok (.iconst 4, 1) := by decide +kernel
theorem dX5_list_13 : decode cX5_list 13 = .ok (.if_icmp .lt 8, 3) := by decide +kernel
theorem dX5_list_16 : decode cX5_list 16 = .ok (.aload_n 0, 1) := by decide +kernel
theorem dX5_list_17 : decode cX5_list 17 = .ok (.invokevirtual 48, 3) := by decide +kernel
theorem dX5_list_20 : decode cX5_list 20 = .ok (.return_, 1) := by decide +kernel
theorem dX5_list_21 : decode cX5_list 21 = .ok (.iconst 0, 1) := by decide +kernel
theorem dX5_list_22 : decode cX5_list 22 = .ok (.istore_n 2, 1) := by decide +kernel
theorem dX5_list_23 : decode cX5_list 23 = .ok (.iload_n 2, 1) := by decide +kernel
theorem dX5_list_24 : decode cX5_list 24 = .ok (.aload_n 0, 1) := by decide +kernel
theorem dX5_list_25 : decode cX5_list 25 = .ok (.getfield 28, 3) := by decide +kernel
theorem dX5_list_28 : decode cX5_list 28 = .ok (.getfield 32, 3) := by decide +kernel
theorem dX5_list_31 : decode cX5_list 31 = .ok (.if_icmp .ge 37, 3) := by decide +kernel
theorem dX5_list_34 : decode cX5_list 34 = .ok (.aload_n 0, 1) := by decide +kernel
theorem dX5_list_35 : decode cX5_list 35 = .ok (.getfield 28, 3) := by decide +kernel
theorem dX5_list_38 : decode cX5_list 38 = .ok (.getfield 51, 3) := by decide +kernel
theorem dX5_list_41 : decode cX5_list 41 = .ok (.iload_n 1, 1) := by decide +kernel
theorem dX5_list_42 : decode cX5_list 42 = .ok (.iload_n 2, 1) := by decide +kernel
theorem dX5_list_43 : decode cX5_list 43 = .ok (.iastore, 1) := by decide +kernel
theorem dX5_list_44 : decode cX5_list 44 = .ok (.aload_n 0, 1) := by decide +kernel
theorem dX5_list_45 : decode cX5_list 45 = .ok (.getfield 28, 3) := by decide +kernel
theorem dX5_list_48 : decode cX5_list 48 = .ok (.iload_n 1, 1) := by decide +kernel
theorem dX5_list_49 : decode cX5_list 49 = .ok (.invokevirtual 54, 3) := by decide +kernel
theorem dX5_list_52 : decode cX5_list 52 = .ok (.ifCond .eq 10, 3) := by decide +kernel
theorem dX5_list_55 : decode cX5_list 55 = .ok (.aload_n 0, 1) := by decide +kernel
theorem dX5_list_56 : decode cX5_list 56 = .ok (.iload_n 1, 1) := by decide +kernel
theorem dX5_list_57 : decode cX5_list 57 = .ok (.iconst 1, 1) := by decide +kernel
theorem dX5_list_58 : decode cX5_list 58 = .ok (.iadd, 1) := by decide +kernel
theorem dX5_list_59 : decode cX5_list 59 = .ok (.invokevirtual 39, 3) := by decide +kernel
theorem dX5_list_62 : decode cX5_list 62 = .ok (.iinc 2 1, 3) := by decide +kernel
theorem dX5_list_65 : decode cX5_list 65 = .ok (.goto (-42), 3) := by decide +kernel
theorem dX5_list_68 : decode cX5_list 68 = .ok (.return_, 1) := by decide +kernel
def f_X5_list_B23b (me : Int32 → Wd → Option Wd) (k23 : Int32 → Int32 → Wd → Option Wd) (l1 : Int32) (l2 : Int32) (w : Wd) : Option Wd :=
  if (w.1 34 4) ≤ l2 then
    some w
  else
    wrI w 35 4 l1 l2 fun w1 =>
    bnd2 (f_X8_fits_34 l1 w1) fun x2 w3 =>
    if x2 = 0 then
      k23 l1 (l2 + 1) w3
    else
      bnd (me (l1 + 1) w3) fun w4 =>
      k23 l1 (l2 + 1) w4
def f_X5_list_L23 (me : Int32 → Wd → Option Wd) (n : Nat) : Int32 → Int32 → Wd → Option Wd :=
  Nat.rec (fun _ _ _ => none) (fun _ k => f_X5_list_B23b me k) n
set_option maxHeartbeats 4000000 in
set_option maxRecDepth 100000 in
theorem t_X5_list_L23 {G : GT} {d : Nat} {me : Int32 → Wd → Option Wd} (hd : 3 ≤ d + 1) (hme : ∀ (l1 : Int32) (w : Wd) (w' : Wd), me l1 w = some w' → uC G yX5_list mX5_list d [.ref 32, .int l1] w none w')  : ∀ (n : Nat) (l1 : Int32) (l2 : Int32) (w : Wd) (w' : Wd), f_X5_list_L23 me n l1 l2 w = some w' → U (vf G mX5_list (d + 1)) 23 [some (.ref 32), some (.int l1), some (.int l2)] [] w (none, 70, r0, w') := by
  intro n
  induction n with
  | zero => intro l1 l2 w w' h; cases h
  | succ n h23 =>
    intro l1 l2 w w' h
    have h : f_X5_list_B23b me (f_X5_list_L23 me n) l1 l2 w = some w' := h
    unfold f_X5_list_B23b at h
    refine V.iload_n (pc := 23) dX5_list_23 rfl ?_
    refine V.aload_n (pc := 24) dX5_list_24 rfl ?_
    refine V.getR (t := 34) (pc := 25) dX5_list_25 f_RX5_28 k_cl5 lx_32 ly_32 rb_5_2 rr_32_2 ?_
    refine V.getI (pc := 28) dX5_list_28 f_RX5_32 k_cl8 lx_34 ly_34 rb_8_4 ?_
    rcases ite_e h with ⟨c, h⟩ | ⟨c, h⟩
    · refine V.icmp_ge_t (t := 68) (pc := 31) dX5_list_31 (by decide) c ?_
      obtain rfl := Option.some.inj h
      exact V.vret (pc := 68) dX5_list_68 rfl (Nat.le_refl _) (Nat.le_refl _)
    · refine V.icmp_ge_f (t := 68) (pc := 31) dX5_list_31 (by decide) c ?_
      refine V.aload_n (pc := 34) dX5_list_34 rfl ?_
      refine V.getR (t := 34) (pc := 35) dX5_list_35 f_RX5_28 k_cl5 lx_32 ly_32 rb_5_2 rr_32_2 ?_
      refine V.getR (t := 35) (pc := 38) dX5_list_38 f_RX5_51 k_cl8 lx_34 ly_34 rb_8_2 rr_34_2 ?_
      refine V.iload_n (pc := 41) dX5_list_41 rfl ?_
      refine V.iload_n (pc := 42) dX5_list_42 rfl ?_
      obtain ⟨w1, iw1, ew1, h⟩ := wrI_e h
      refine V.iastX (pc := 43) dX5_list_43 lx_35 ly_35 iw1 ew1 ?_
      refine V.aload_n (pc := 44) dX5_list_44 rfl ?_
      refine V.getR (t := 34) (pc := 45) dX5_list_45 f_RX5_28 k_cl5 lx_32 ly_32 rb_5_2 rr_32_2 ?_
      refine V.iload_n (pc := 48) dX5_list_48 rfl ?_
      obtain ⟨x2, w3, ew3, h⟩ := bnd2_e h
      refine U.callV (pc := 49) (As := [.int l1]) (st := []) dX5_list_49 l_RX5_54 (ok_X8_fits_34 (by omega) l1 ew3) lx_34 ly_34 cn_8 (Nat.le_of_ble_eq_true rfl) rfl rfl (Nat.le_of_ble_eq_true rfl) ?_
      rcases ite_e h with ⟨c, h⟩ | ⟨c, h⟩
      · refine V.if_eq_t (t := 62) (pc := 52) dX5_list_52 (by decide) c ?_
        refine V.iinc (lv' := [some (.ref 32), some (.int l1), some (.int (l2 + 1))]) (pc := 62) dX5_list_62 (Nat.le_of_ble_eq_true rfl) rfl rfl (v := (l2 + 1)) (by rw [show Int32.ofInt 1 = 1 from by decide]) rfl ?_
        refine V.goto (t := 23) (pc := 65) dX5_list_65 (by decide) ?_
        exact h23 l1 (l2 + 1) w3 _ h
      · refine V.if_eq_f (t := 62) (pc := 52) dX5_list_52 (by decide) c ?_
        refine V.aload_n (pc := 55) dX5_list_55 rfl ?_
        refine V.iload_n (pc := 56) dX5_list_56 rfl ?_
        refine V.iconst (pc := 57) dX5_list_57 ic_1 ?_
        refine V.iadd (pc := 58) dX5_list_58 ?_
        obtain ⟨w4, ew4, h⟩ := bnd_e h
        refine U.callV (pc := 59) (As := [.int (l1 + 1)]) (st := []) dX5_list_59 l_RX5_39 (hme (l1 + 1) w3 _ ew4) lx_32 ly_32 cn_5 (Nat.le_of_ble_eq_true rfl) rfl rfl (Nat.le_of_ble_eq_true rfl) ?_
        refine V.iinc (lv' := [some (.ref 32), some (.int l1), some (.int (l2 + 1))]) (pc := 62) dX5_list_62 (Nat.le_of_ble_eq_true rfl) rfl rfl (v := (l2 + 1)) (by rw [show Int32.ofInt 1 = 1 from by decide]) rfl ?_
        refine V.goto (t := 23) (pc := 65) dX5_list_65 (by decide) ?_
        exact h23 l1 (l2 + 1) w4 _ h
def f_X5_listb (me : Int32 → Wd → Option Wd) (l1 : Int32) (w : Wd) : Option Wd :=
  if (w.1 13 6) ≤ l1 then
    bnd (f_X5_addRow  w) fun w1 =>
    some w1
  else
    if l1 < 4 then
      f_X5_list_L23 me  FU l1 0 w
    else
      bnd (f_X5_addRow  w) fun w2 =>
      some w2
def f_X5_list (n : Nat) : Int32 → Wd → Option Wd :=
  Nat.rec (fun _ _ => none) (fun _ k => f_X5_listb k) n
set_option maxHeartbeats 4000000 in
set_option maxRecDepth 100000 in
theorem ok_X5_list {G : GT} : ∀ (n : Nat) {d : Nat} (hd : 3 + n ≤ d) {w : Wd} (l1 : Int32) {w' : Wd}, f_X5_list n l1 w = some w' → uC G yX5_list mX5_list d [.ref 32, .int l1] w none w' := by
  intro n
  induction n with
  | zero => intro d hd w l1 w' h; cases h
  | succ n ih =>
    intro d hd w l1 w' h
    obtain ⟨d, rfl⟩ : ∃ e, d = e + 1 := ⟨d - 1, by omega⟩
    have hd0 := hd
    have hd : 3 ≤ d + 1 := by omega
    have hme : ∀ (l1 : Int32) (w : Wd) (w' : Wd), f_X5_list n l1 w = some w' → uC G yX5_list mX5_list d [.ref 32, .int l1] w none w' := fun l1 w w' h => ih (by omega) l1 h
    have h : f_X5_listb (f_X5_list n) l1 w = some w' := h
    unfold f_X5_listb at h
    refine uC_of (lv := [some (.ref 32), some (.int l1), none]) 1 pn_X5 ⟨rfl, rfl⟩ (Nat.le_of_ble_eq_true rfl) rfl ?_
    refine V.iload_n (pc := 0) dX5_list_0 rfl ?_
    refine V.aload_n (pc := 1) dX5_list_1 rfl ?_
    refine V.getR (t := 13) (pc := 2) dX5_list_2 f_RX5_19 k_cl5 lx_32 ly_32 rb_5_1 rr_32_1 ?_
    refine V.getI (pc := 5) dX5_list_5 f_RX5_43 k_cl1 lx_13 ly_13 rb_1_6 ?_
    rcases ite_e h with ⟨c, h⟩ | ⟨c, h⟩
    · refine V.icmp_ge_t (t := 16) (pc := 8) dX5_list_8 (by decide) c ?_
      refine V.aload_n (pc := 16) dX5_list_16 rfl ?_
      obtain ⟨w1, ew1, h⟩ := bnd_e h
      refine U.callV (pc := 17) (As := []) (st := []) dX5_list_17 l_RX5_48 (ok_X5_addRow (by omega)  ew1) lx_32 ly_32 cn_5 (Nat.le_of_ble_eq_true rfl) rfl rfl (Nat.le_of_ble_eq_true rfl) ?_
      obtain rfl := Option.some.inj h
      exact V.vret (pc := 20) dX5_list_20 rfl (Nat.le_refl _) (Nat.le_refl _)
    · refine V.icmp_ge_f (t := 16) (pc := 8) dX5_list_8 (by decide) c ?_
      refine V.iload_n (pc := 11) dX5_list_11 rfl ?_
      refine V.iconst (pc := 12) dX5_list_12 ic_4 ?_
      rcases ite_e h with ⟨c, h⟩ | ⟨c, h⟩
      · refine V.icmp_lt_t (t := 21) (pc := 13) dX5_list_13 (by decide) c ?_
        refine V.iconst (pc := 21) dX5_list_21 ic_0 ?_
        refine V.istore_n (lv' := [some (.ref 32), some (.int l1), some (.int 0)]) (pc := 22) dX5_list_22 (Nat.le_of_ble_eq_true rfl) rfl rfl ?_
        exact t_X5_list_L23 hd hme FU l1 0 w _ h
      · refine V.icmp_lt_f (t := 21) (pc := 13) dX5_list_13 (by decide) c ?_
        refine V.aload_n (pc := 16) dX5_list_16 rfl ?_
        obtain ⟨w2, ew2, h⟩ := bnd_e h
        refine U.callV (pc := 17) (As := []) (st := []) dX5_list_17 l_RX5_48 (ok_X5_addRow (by omega)  ew2) lx_32 ly_32 cn_5 (Nat.le_of_ble_eq_true rfl) rfl rfl (Nat.le_of_ble_eq_true rfl) ?_
        obtain rfl := Option.some.inj h
        exact V.vret (pc := 20) dX5_list_20 rfl (Nat.le_refl _) (Nat.le_refl _)
theorem dX5_totalInto_0 : decode cX5_totalInto 0 = .ok (.aload_n 0, 1) := by decide +kernel
theorem dX5_totalInto_1 : decode cX5_totalInto 1 = .ok (.getfield 28, 3) := by decide +kernel
theorem dX5_totalInto_4 : decode cX5_totalInto 4 = .ok (.getfield 32, 3) := by decide +kernel
theorem dX5_totalInto_7 : decode cX5_totalInto 7 = .ok (.iload_n 1, 1) := by decide +kernel
theorem dX5_totalInto_8 : decode cX5_totalInto 8 = .ok (.if_icmp .eq 21, 3) := by decide +kernel
theorem dX5_totalInto_11 : decode cX5_totalInto 11 = .ok (.aload_n 0, 1) := by decide +kernel
theorem dX5_totalInto_12 : decode cX5_totalInto 12 = .ok (.getfield 28, 3) := by decide +kernel
theorem dX5_totalInto_15 : decode cX5_totalInto 15 = .ok (.iload_n 1, 1) := by decide +kernel
theorem dX5_totalInto_16 : decode cX5_totalInto 16 = .ok (.putfield 32, 3) := by decide +kernel
theorem dX5_totalInto_19 : decode cX5_totalInto 19 = .ok (.aload_n 0, 1) := by decide +kernel
theorem dX5_totalInto_20 : decode cX5_totalInto 20 = .ok (.iconst 0, 1) := by decide +kernel
theorem dX5_totalInto_21 : decode cX5_totalInto 21 = .ok (.putfield 36, 3) := by decide +kernel
theorem dX5_totalInto_24 : decode cX5_totalInto 24 = .ok (.aload_n 0, 1) := by decide +kernel
theorem dX5_totalInto_25 : decode cX5_totalInto 25 = .ok (.iconst 0, 1) := by decide +kernel
theorem dX5_totalInto_26 : decode cX5_totalInto 26 = .ok (.invokevirtual 39, 3) := by decide +kernel
theorem dX5_totalInto_29 : decode cX5_totalInto 29 = .ok (.aload_n 0, 1) := by decide +kernel
theorem dX5_totalInto_30 : decode cX5_totalInto 30 = .ok (.getfield 36, 3) := by decide +kernel
theorem dX5_totalInto_33 : decode cX5_totalInto 33 = .ok (.ireturn, 1) := by decide +kernel
def f_X5_totalInto (l1 : Int32) (w : Wd) : Option (Int32 × Wd) :=
  if (w.1 34 4) = l1 then
    some ((w.1 32 4), w)
  else
    letW (sI w 34 4 l1) fun w1 =>
    letW (sI w1 32 4 0) fun w2 =>
    bnd (f_X5_list 20 0 w2) fun w3 =>
    some ((w3.1 32 4), w3)
set_option maxHeartbeats 4000000 in
set_option maxRecDepth 100000 in
theorem ok_X5_totalInto {G : GT} {d : Nat} (hd : 28 ≤ d) {w : Wd} (l1 : Int32) {r : Int32} {w' : Wd} (h : f_X5_totalInto l1 w = some (r, w')) : uC G yX5_totalInto mX5_totalInto d [.ref 32, .int l1] w (some (.int r)) w' := by
  obtain ⟨d, rfl⟩ : ∃ e, d = e + 1 := ⟨d - 1, by omega⟩
  unfold f_X5_totalInto at h
  refine uC_of (lv := [some (.ref 32), some (.int l1)]) 0 pn_X5 ⟨rfl, rfl⟩ (Nat.le_of_ble_eq_true rfl) rfl ?_
  refine V.aload_n (pc := 0) dX5_totalInto_0 rfl ?_
  refine V.getR (t := 34) (pc := 1) dX5_totalInto_1 f_RX5_28 k_cl5 lx_32 ly_32 rb_5_2 rr_32_2 ?_
  refine V.getI (pc := 4) dX5_totalInto_4 f_RX5_32 k_cl8 lx_34 ly_34 rb_8_4 ?_
  refine V.iload_n (pc := 7) dX5_totalInto_7 rfl ?_
  rcases ite_e h with ⟨c, h⟩ | ⟨c, h⟩
  · refine V.icmp_eq_t (t := 29) (pc := 8) dX5_totalInto_8 (by decide) c ?_
    refine V.aload_n (pc := 29) dX5_totalInto_29 rfl ?_
    refine V.getI (pc := 30) dX5_totalInto_30 f_RX5_36 k_cl5 lx_32 ly_32 rb_5_4 ?_
    obtain ⟨rfl, rfl⟩ := Prod.mk.inj (Option.some.inj h)
    exact V.iret (pc := 33) dX5_totalInto_33 rfl (Nat.le_refl _) (Nat.le_refl _)
  · refine V.icmp_eq_f (t := 29) (pc := 8) dX5_totalInto_8 (by decide) c ?_
    refine V.aload_n (pc := 11) dX5_totalInto_11 rfl ?_
    refine V.getR (t := 34) (pc := 12) dX5_totalInto_12 f_RX5_28 k_cl5 lx_32 ly_32 rb_5_2 rr_32_2 ?_
    refine V.iload_n (pc := 15) dX5_totalInto_15 rfl ?_
    obtain ⟨w1, ew1, h⟩ := letW_e h
    refine V.putIX (pc := 16) dX5_totalInto_16 f_RX5_32 k_cl8 lx_34 ly_34 rb_8_4 (fin_I (T0 := TX8) rfl rfl rfl) ew1 ?_
    refine V.aload_n (pc := 19) dX5_totalInto_19 rfl ?_
    refine V.iconst (pc := 20) dX5_totalInto_20 ic_0 ?_
    obtain ⟨w2, ew2, h⟩ := letW_e h
    refine V.putIX (pc := 21) dX5_totalInto_21 f_RX5_36 k_cl5 lx_32 ly_32 rb_5_4 (fin_I (T0 := TX5) rfl rfl rfl) ew2 ?_
    refine V.aload_n (pc := 24) dX5_totalInto_24 rfl ?_
    refine V.iconst (pc := 25) dX5_totalInto_25 ic_0 ?_
    obtain ⟨w3, ew3, h⟩ := bnd_e h
    refine U.callV (pc := 26) (As := [.int 0]) (st := []) dX5_totalInto_26 l_RX5_39 (ok_X5_list 20 (by omega) 0 ew3) lx_32 ly_32 cn_5 (Nat.le_of_ble_eq_true rfl) rfl rfl (Nat.le_of_ble_eq_true rfl) ?_
    refine V.aload_n (pc := 29) dX5_totalInto_29 rfl ?_
    refine V.getI (pc := 30) dX5_totalInto_30 f_RX5_36 k_cl5 lx_32 ly_32 rb_5_4 ?_
    obtain ⟨rfl, rfl⟩ := Prod.mk.inj (Option.some.inj h)
    exact V.iret (pc := 33) dX5_totalInto_33 rfl (Nat.le_refl _) (Nat.le_refl _)
theorem dX11_characters_0 : decode cX11_characters 0 = .ok (.iload_n 1, 1) := by decide +kernel
theorem dX11_characters_1 : decode cX11_characters 1 = .ok (.invokestatic 259, 3) := by decide +kernel
theorem dX11_characters_4 : decode cX11_characters 4 = .ok (.ifCond .eq 14, 3) := by decide +kernel
theorem dX11_characters_7 : decode cX11_characters 7 = .ok (.aload_n 0, 1) := by decide +kernel
theorem dX11_characters_8 : decode cX11_characters 8 = .ok (.getfield 67, 3) := by decide +kernel
theorem dX11_characters_11 : decode cX11_characters 11 = .ok (.iload_n 1, 1) := by decide +kernel
theorem dX11_characters_12 : decode cX11_characters 12 = .ok (.invokevirtual 262, 3) := by decide +kernel
theorem dX11_characters_15 : decode cX11_characters 15 = .ok (.goto 4, 3) := by decide +kernel
theorem dX11_characters_18 : decode cX11_characters 18 = .ok (.iconst (-1), 1) := by decide +kernel
theorem dX11_characters_19 : decode cX11_characters 19 = .ok (.ireturn, 1) := by decide +kernel
def f_X11_characters (l1 : Int32) (w : Wd) : Option (Int32 × Wd) :=
  if (f_X11_isRing l1) = 0 then
    some ((-1), w)
  else
    bnd2 (f_X5_totalInto l1 w) fun x1 w2 =>
    some (x1, w2)
set_option maxHeartbeats 4000000 in
set_option maxRecDepth 100000 in
theorem ok_X11_characters {G : GT} {d : Nat} (hd : 29 ≤ d) {w : Wd} (l1 : Int32) {r : Int32} {w' : Wd} (h : f_X11_characters l1 w = some (r, w')) : uC G yX11_characters mX11_characters d [.ref 0, .int l1] w (some (.int r)) w' := by
  obtain ⟨d, rfl⟩ : ∃ e, d = e + 1 := ⟨d - 1, by omega⟩
  unfold f_X11_characters at h
  refine uC_of (lv := [some (.ref 0), some (.int l1)]) 0 pn_X11 ⟨rfl, rfl⟩ (Nat.le_of_ble_eq_true rfl) rfl ?_
  refine V.iload_n (pc := 0) dX11_characters_0 rfl ?_
  refine U.callS (pc := 1) (As := [.int l1]) (st := []) dX11_characters_1 l_RX11_259 (ok_X11_isRing (by omega) l1 ) (Nat.le_of_ble_eq_true rfl) rfl rfl (Nat.le_of_ble_eq_true rfl) ?_
  rcases ite_e h with ⟨c, h⟩ | ⟨c, h⟩
  · refine V.if_eq_t (t := 18) (pc := 4) dX11_characters_4 (by decide) c ?_
    refine V.iconst (pc := 18) dX11_characters_18 ic_m1 ?_
    obtain ⟨rfl, rfl⟩ := Prod.mk.inj (Option.some.inj h)
    exact V.iret (pc := 19) dX11_characters_19 rfl (Nat.le_refl _) (Nat.le_refl _)
  · refine V.if_eq_f (t := 18) (pc := 4) dX11_characters_4 (by decide) c ?_
    refine V.aload_n (pc := 7) dX11_characters_7 rfl ?_
    refine V.getR (t := 32) (pc := 8) dX11_characters_8 f_RX11_67 k_cl11 lx_0 ly_0 rb_11_7 rr_0_7 ?_
    refine V.iload_n (pc := 11) dX11_characters_11 rfl ?_
    obtain ⟨x1, w2, ew2, h⟩ := bnd2_e h
    refine U.callV (pc := 12) (As := [.int l1]) (st := []) dX11_characters_12 l_RX11_262 (ok_X5_totalInto (by omega) l1 ew2) lx_32 ly_32 cn_5 (Nat.le_of_ble_eq_true rfl) rfl rfl (Nat.le_of_ble_eq_true rfl) ?_
    refine V.goto (t := 19) (pc := 15) dX11_characters_15 (by decide) ?_
    obtain ⟨rfl, rfl⟩ := Prod.mk.inj (Option.some.inj h)
    exact V.iret (pc := 19) dX11_characters_19 rfl (Nat.le_refl _) (Nat.le_refl _)
theorem dX12_isRing_0 : decode cX12_isRing 0 = .ok (.iload_n 0, 1) := by decide +kernel
theorem dX12_isRing_1 : decode cX12_isRing 1 = .ok (.iconst 1, 1) := by decide +kernel
theorem dX12_isRing_2 : decode cX12_isRing 2 = .ok (.bipush 16, 2) := by decide +kernel
theorem dX12_isRing_4 : decode cX12_isRing 4 = .ok (.invokestatic 139, 3) := by decide +kernel
theorem dX12_isRing_7 : decode cX12_isRing 7 = .ok (.ireturn, 1) := by decide +kernel
def f_X12_isRing (l0 : Int32) : Int32 :=
  (f_X12_in l0 1 16)
set_option maxHeartbeats 4000000 in
set_option maxRecDepth 100000 in
theorem ok_X12_isRing {G : GT} {d : Nat} (hd : 1 ≤ d) {w : Wd} (l0 : Int32) : uC G yX12_isRing mX12_isRing d [.int l0] w (some (.int (f_X12_isRing l0))) w := by
  obtain ⟨d, rfl⟩ : ∃ e, d = e + 1 := ⟨d - 1, by omega⟩
  suffices key : ∀ r, f_X12_isRing l0 = r → uC G yX12_isRing mX12_isRing (d + 1) [.int l0] w (some (.int r)) w from key _ rfl
  intro r h
  unfold f_X12_isRing at h
  refine uC_of (lv := [some (.int l0)]) 0 pn_X12 ⟨rfl, rfl⟩ (Nat.le_of_ble_eq_true rfl) rfl ?_
  refine V.iload_n (pc := 0) dX12_isRing_0 rfl ?_
  refine V.iconst (pc := 1) dX12_isRing_1 ic_1 ?_
  refine V.bipush (pc := 2) dX12_isRing_2 bp_16 ?_
  refine U.callS (pc := 4) (As := [.int l0, .int 1, .int 16]) (st := []) dX12_isRing_4 l_RX12_139 (ok_X12_in (by omega) l0 1 16 ) (Nat.le_of_ble_eq_true rfl) rfl rfl (Nat.le_of_ble_eq_true rfl) ?_
  subst h
  exact V.zret (pc := 7) dX12_isRing_7 rfl (b_X12_in l0 1 16) (Nat.le_refl _) (Nat.le_refl _)
theorem b_X12_isRing (l0 : Int32) : f_X12_isRing l0 = 0 ∨ f_X12_isRing l0 = 1 := by
  unfold f_X12_isRing
  repeat' (first | exact Or.inl rfl | exact Or.inr rfl | apply b_tree)
  all_goals first | exact Or.inl rfl | exact Or.inr rfl | apply b_X12_in | assumption
theorem dX12_isCharacter_0 : decode cX12_isCharacter 0 = .ok (.aload_n 0, 1) := by decide +kernel
theorem dX12_isCharacter_1 : decode cX12_isCharacter 1 = .ok (.getfield 66, 3) := by decide +kernel
theorem dX12_isCharacter_4 : decode cX12_isCharacter 4 = .ok (.iconst 0, 1) := by decide +kernel
theorem dX12_isCharacter_5 : decode cX12_isCharacter 5 = .ok (.iconst 0, 1) := by decide +kernel
theorem dX12_isCharacter_6 : decode cX12_isCharacter 6 = .ok (.iastore, 1) := by decide +kernel
theorem dX12_isCharacter_7 : decode cX12_isCharacter 7 = .ok (.iconst 1, 1) := by decide +kernel
theorem dX12_isCharacter_8 : decode cX12_isCharacter 8 = .ok (.istore_n 2, 1) := by decide +kernel
theorem dX12_isCharacter_9 : decode cX12_isCharacter 9 = .ok (.iload_n 2, 1) := by decide +kernel
theorem dX12_isCharacter_10 : decode cX12_isCharacter 10 = .ok (.aload_n 0, 1) := by decide +kernel
theorem dX12_isCharacter_11 : decode cX12_isCharacter 11 = .ok (.getfield 92, 3) := by decide +kernel
theorem dX12_isCharacter_14 : decode cX12_isCharacter 14 = .ok (.if_icmp .ge 45, 3) := by decide +kernel
theorem dX12_isCharacter_17 : decode cX12_isCharacter 17 = .ok (.aload_n 0, 1) := by decide +kernel
theorem dX12_isCharacter_18 : decode cX12_isCharacter 18 = .ok (.getfield 66, 3) := by decide +kernel
theorem dX12_isCharacter_21 : decode cX12_isCharacter 21 = .ok (.aload_n 0, 1) := by decide +kernel
theorem dX12_isCharacter_22 : decode cX12_isCharacter 22 = .ok (.getfield 33, 3) := by decide +kernel
theorem dX12_isCharacter_25 : decode cX12_isCharacter 25 = .ok (.iload_n 2, 1) := by decide +kernel
theorem dX12_isCharacter_26 : decode cX12_isCharacter 26 = .ok (.iaload, 1) := by decide +kernel
theorem dX12_isCharacter_27 : decode cX12_isCharacter 27 = .ok (.aload_n 0, 1) := by decide +kernel
theorem dX12_isCharacter_28 : decode cX12_isCharacter 28 = .ok (.getfield 66, 3) := by decide +kernel
theorem dX12_isCharacter_31 : decode cX12_isCharacter 31 = .ok (.aload_n 0, 1) := by decide +kernel
theorem dX12_isCharacter_32 : decode cX12_isCharacter 32 = .ok (.getfield 36, 3) := by decide +kernel
theorem dX12_isCharacter_35 : decode cX12_isCharacter 35 = .ok (.iload_n 2, 1) := by decide +kernel
theorem dX12_isCharacter_36 : decode cX12_isCharacter 36 = .ok (.iaload, 1) := by decide +kernel
theorem dX12_isCharacter_37 : decode cX12_isCharacter 37 = .ok (.iaload, 1) := by decide +kernel
theorem dX12_isCharacter_38 : decode cX12_isCharacter 38 = .ok (.aload_n 0, 1) := by decide +kernel
theorem dX12_isCharacter_39 : decode cX12_isCharacter 39 = .ok (.getfield 69, 3) := by decide +kernel
theorem dX12_isCharacter_42 : decode cX12_isCharacter 42 = .ok (.aload_n 0, 1) := by decide +kernel
theorem dX12_isCharacter_43 : decode cX12_isCharacter 43 = .ok (.getfield 39, 3) := by decide +kernel
theorem dX12_isCharacter_46 : decode cX12_isCharacter 46 = .ok (.iload_n 2, 1) := by decide +kernel
theorem dX12_isCharacter_47 : decode cX12_isCharacter 47 = .ok (.iaload, 1) := by decide +kernel
theorem dX12_isCharacter_48 : decode cX12_isCharacter 48 = .ok (.iaload, 1) := by decide +kernel
theorem dX12_isCharacter_49 : decode cX12_isCharacter 49 = .ok (.iadd, 1) := by decide +kernel
theorem dX12_isCharacter_50 : decode cX12_isCharacter 50 = .ok (.iload_n 1, 1) := by decide +kernel
theorem dX12_isCharacter_51 : decode cX12_isCharacter 51 = .ok (.irem, 1) := by decide +kernel
theorem dX12_isCharacter_52 : decode cX12_isCharacter 52 = .ok (.iastore, 1) := by decide +kernel
theorem dX12_isCharacter_53 : decode cX12_isCharacter 53 = .ok (.iinc 2 1, 3) := by decide +kernel
theorem dX12_isCharacter_56 : decode cX12_isCharacter 56 = .ok (.goto (-47), 3) := by decide +kernel
theorem dX12_isCharacter_59 : decode cX12_isCharacter 59 = .ok (.iconst 0, 1) := by decide +kernel
theorem dX12_isCharacter_60 : decode cX12_isCharacter 60 = .ok (.istore_n 2, 1) := by decide +kernel
theorem dX12_isCharacter_61 : decode cX12_isCharacter 61 = .ok (.iload_n 2, 1) := by decide +kernel
theorem dX12_isCharacter_62 : decode cX12_isCharacter 62 = .ok (.aload_n 0, 1) := by decide +kernel
theorem dX12_isCharacter_63 : decode cX12_isCharacter 63 = .ok (.getfield 92, 3) := by decide +kernel
theorem dX12_isCharacter_66 : decode cX12_isCharacter 66 = .ok (.if_icmp .ge 61, 3) := by decide +kernel
theorem dX12_isCharacter_69 : decode cX12_isCharacter 69 = .ok (.iconst 0, 1) := by decide +kernel
theorem dX12_isCharacter_70 : decode cX12_isCharacter 70 = .ok (.istore_n 3, 1) := by decide +kernel
theorem dX12_isCharacter_71 : decode cX12_isCharacter 71 = .ok (.iload_n 3, 1) := by decide +kernel
theorem dX12_isCharacter_72 : decode cX12_isCharacter 72 = .ok (.aload_n 0, 1) := by decide +kernel
theorem dX12_isCharacter_73 : decode cX12_isCharacter 73 = .ok (.getfield 125, 3) := by decide +kernel
theorem dX12_isCharacter_76 : decode cX12_isCharacter 76 = .ok (.if_icmp .ge 45, 3) := by decide +kernel
theorem dX12_isCharacter_79 : decode cX12_isCharacter 79 = .ok (.aload_n 0, 1) := by decide +kernel
theorem dX12_isCharacter_80 : decode cX12_isCharacter 80 = .ok (.getfield 66, 3) := by decide +kernel
theorem dX12_isCharacter_83 : decode cX12_isCharacter 83 = .ok (.aload_n 0, 1) := by decide +kernel
theorem dX12_isCharacter_84 : decode cX12_isCharacter 84 = .ok (.iload_n 2, 1) := by decide +kernel
theorem dX12_isCharacter_85 : decode cX12_isCharacter 85 = .ok (.aload_n 0, 1) := by decide +kernel
theorem dX12_isCharacter_86 : decode cX12_isCharacter 86 = .ok (.getfield 30, 3) := by decide +kernel
theorem dX12_isCharacter_89 : decode cX12_isCharacter 89 = .ok (.iload_n 3, 1) := by decide +kernel
theorem dX12_isCharacter_90 : decode cX12_isCharacter 90 = .ok (.iaload, 1) := by decide +kernel
theorem dX12_isCharacter_91 : decode cX12_isCharacter 91 = .ok (.invokevirtual 119, 3) := by decide +kernel
theorem dX12_isCharacter_94 : decode cX12_isCharacter 94 = .ok (.iaload, 1) := by decide +kernel
theorem dX12_isCharacter_95 : decode cX12_isCharacter 95 = .ok (.aload_n 0, 1) := by decide +kernel
theorem dX12_isCharacter_96 : decode cX12_isCharacter 96 = .ok (.getfield 66, 3) := by decide +kernel
theorem dX12_isCharacter_99 : decode cX12_isCharacter 99 = .ok (.iload_n 2, 1) := by decide +kernel
theorem dX12_isCharacter_100 : decode cX12_isCharacter 100 = .ok (.iaload, 1) := by decide +kernel
theorem dX12_isCharacter_101 : decode cX12_isCharacter 101 = .ok (.aload_n 0, 1) := by decide +kernel
theorem dX12_isCharacter_102 : decode cX12_isCharacter 102 = .ok (.getfield 69, 3) := by decide +kernel
theorem dX12_isCharacter_105 : decode cX12_isCharacter 105 = .ok (.iload_n 3, 1) := by decide +kernel
theorem dX12_isCharacter_106 : decode cX12_isCharacter 106 = .ok (.iaload, 1) := by decide +kernel
theorem dX12_isCharacter_107 : decode cX12_isCharacter 107 = .ok (.iadd, 1) := by decide +kernel
theorem dX12_isCharacter_108 : decode cX12_isCharacter 108 = .ok (.iload_n 1, 1) := by decide +kernel
theorem dX12_isCharacter_109 : decode cX12_isCharacter 109 = .ok (.irem, 1) := by decide +kernel
theorem dX12_isCharacter_110 : decode cX12_isCharacter 110 = .ok (.if_icmp .eq 5, 3) := by decide +kernel
theorem dX12_isCharacter_113 : decode cX12_isCharacter 113 = .ok (.iconst 0, 1) := by decide +kernel
theorem dX12_isCharacter_114 : decode cX12_isCharacter 114 = .ok (.ireturn, 1) := by decide +kernel
theorem dX12_isCharacter_115 : decode cX12_isCharacter 115 = .ok (.iinc 3 1, 3) := by decide +kernel
theorem dX12_isCharacter_118 : decode cX12_isCharacter 118 = .ok (.goto (-47), 3) := by decide +kernel
theorem dX12_isCharacter_121 : decode cX12_isCharacter 121 = .ok (.iinc 2 1, 3) := by decide +kernel
theorem dX12_isCharacter_124 : decode cX12_isCharacter 124 = .ok (.goto (-63), 3) := by decide +kernel
theorem dX12_isCharacter_127 : decode cX12_isCharacter 127 = .ok (.iconst 1, 1) := by decide +kernel
theorem dX12_isCharacter_128 : decode cX12_isCharacter 128 = .ok (.ireturn, 1) := by decide +kernel
def f_X12_isCharacter_B71b (k61 : Int32 → Int32 → Wd → Option (Int32 × Wd)) (k71 : Int32 → Int32 → Int32 → Wd → Option (Int32 × Wd)) (l1 : Int32) (l2 : Int32) (l3 : Int32) (w : Wd) : Option (Int32 × Wd) :=
  if (w.1 44 9) ≤ l3 then
    k61 l1 (l2 + 1) w
  else
    rdI w 50 16 l3 fun x1 =>
    bnd (f_X12_product0 l2 x1 w) fun x2 =>
    rdI w 62 16 x2 fun x3 =>
    rdI w 62 16 l2 fun x4 =>
    rdI w 63 16 l3 fun x5 =>
    nzI l1 (if x3 = (rem32 (x4 + x5) l1) then
      k71 l1 l2 (l3 + 1) w
    else
      some (0, w))
def f_X12_isCharacter_L71 (k61 : Int32 → Int32 → Wd → Option (Int32 × Wd)) (n : Nat) : Int32 → Int32 → Int32 → Wd → Option (Int32 × Wd) :=
  Nat.rec (fun _ _ _ _ => none) (fun _ k => f_X12_isCharacter_B71b k61 k) n
set_option maxHeartbeats 4000000 in
set_option maxRecDepth 100000 in
theorem t_X12_isCharacter_L71 {G : GT} {d : Nat} {k61 : Int32 → Int32 → Wd → Option (Int32 × Wd)} (hd : 1 ≤ d + 1) (h61 : ∀ (l1 : Int32) (l2 : Int32) (w : Wd) (r : Int32) (w' : Wd), k61 l1 l2 w = some (r, w') → U (vf G mX12_isCharacter (d + 1)) 61 [some (.ref 44), some (.int l1), some (.int l2), none] [] w (some (.int r), 70, r0, w')) : ∀ (n : Nat) (l1 : Int32) (l2 : Int32) (l3 : Int32) (w : Wd) (r : Int32) (w' : Wd), f_X12_isCharacter_L71 k61 n l1 l2 l3 w = some (r, w') → U (vf G mX12_isCharacter (d + 1)) 71 [some (.ref 44), some (.int l1), some (.int l2), some (.int l3)] [] w (some (.int r), 70, r0, w') := by
  intro n
  induction n with
  | zero => intro l1 l2 l3 w r w' h; cases h
  | succ n h71 =>
    intro l1 l2 l3 w r w' h
    have h : f_X12_isCharacter_B71b k61 (f_X12_isCharacter_L71 k61 n) l1 l2 l3 w = some (r, w') := h
    unfold f_X12_isCharacter_B71b at h
    refine V.iload_n (pc := 71) dX12_isCharacter_71 rfl ?_
    refine V.aload_n (pc := 72) dX12_isCharacter_72 rfl ?_
    refine V.getI (pc := 73) dX12_isCharacter_73 f_RX12_125 k_cl12 lx_44 ly_44 rb_12_9 ?_
    rcases ite_e h with ⟨c, h⟩ | ⟨c, h⟩
    · refine V.icmp_ge_t (t := 121) (pc := 76) dX12_isCharacter_76 (by decide) c ?_
      refine V.iinc (lv' := [some (.ref 44), some (.int l1), some (.int (l2 + 1)), some (.int l3)]) (pc := 121) dX12_isCharacter_121 (Nat.le_of_ble_eq_true rfl) rfl rfl (v := (l2 + 1)) (by rw [show Int32.ofInt 1 = 1 from by decide]) rfl ?_
      refine V.goto (t := 61) (pc := 124) dX12_isCharacter_124 (by decide) ?_
      refine V.weak (lv' := [some (.ref 44), some (.int l1), some (.int (l2 + 1)), none]) (And.intro rfl (And.intro rfl (And.intro rfl trivial))) ?_
      exact h61 l1 (l2 + 1) w _ _ h
    · refine V.icmp_ge_f (t := 121) (pc := 76) dX12_isCharacter_76 (by decide) c ?_
      refine V.aload_n (pc := 79) dX12_isCharacter_79 rfl ?_
      refine V.getR (t := 62) (pc := 80) dX12_isCharacter_80 f_RX12_66 k_cl12 lx_44 ly_44 rb_12_23 rr_44_23 ?_
      refine V.aload_n (pc := 83) dX12_isCharacter_83 rfl ?_
      refine V.iload_n (pc := 84) dX12_isCharacter_84 rfl ?_
      refine V.aload_n (pc := 85) dX12_isCharacter_85 rfl ?_
      refine V.getR (t := 50) (pc := 86) dX12_isCharacter_86 f_RX12_30 k_cl12 lx_44 ly_44 rb_12_8 rr_44_8 ?_
      refine V.iload_n (pc := 89) dX12_isCharacter_89 rfl ?_
      obtain ⟨x1, ix1, ex1, h⟩ := rdI_e h
      refine V.ialdX (pc := 90) dX12_isCharacter_90 lx_50 ly_50 ix1 ex1 ?_
      obtain ⟨x2, ex2, h⟩ := bnd_e h
      refine U.callV (pc := 91) (As := [.int l2, .int x1]) (st := [.ref 62]) dX12_isCharacter_91 l_RX12_119 (ok_X12_product0 (by omega) l2 x1 ex2) lx_44 ly_44 cn_12 (Nat.le_of_ble_eq_true rfl) rfl rfl (Nat.le_of_ble_eq_true rfl) ?_
      obtain ⟨x3, ix3, ex3, h⟩ := rdI_e h
      refine V.ialdX (pc := 94) dX12_isCharacter_94 lx_62 ly_62 ix3 ex3 ?_
      refine V.aload_n (pc := 95) dX12_isCharacter_95 rfl ?_
      refine V.getR (t := 62) (pc := 96) dX12_isCharacter_96 f_RX12_66 k_cl12 lx_44 ly_44 rb_12_23 rr_44_23 ?_
      refine V.iload_n (pc := 99) dX12_isCharacter_99 rfl ?_
      obtain ⟨x4, ix4, ex4, h⟩ := rdI_e h
      refine V.ialdX (pc := 100) dX12_isCharacter_100 lx_62 ly_62 ix4 ex4 ?_
      refine V.aload_n (pc := 101) dX12_isCharacter_101 rfl ?_
      refine V.getR (t := 63) (pc := 102) dX12_isCharacter_102 f_RX12_69 k_cl12 lx_44 ly_44 rb_12_24 rr_44_24 ?_
      refine V.iload_n (pc := 105) dX12_isCharacter_105 rfl ?_
      obtain ⟨x5, ix5, ex5, h⟩ := rdI_e h
      refine V.ialdX (pc := 106) dX12_isCharacter_106 lx_63 ly_63 ix5 ex5 ?_
      refine V.iadd (pc := 107) dX12_isCharacter_107 ?_
      refine V.iload_n (pc := 108) dX12_isCharacter_108 rfl ?_
      obtain ⟨hz, h⟩ := nzI_e h
      refine V.irem (pc := 109) dX12_isCharacter_109 hz ?_
      rcases ite_e h with ⟨c, h⟩ | ⟨c, h⟩
      · refine V.icmp_eq_t (t := 115) (pc := 110) dX12_isCharacter_110 (by decide) c ?_
        refine V.iinc (lv' := [some (.ref 44), some (.int l1), some (.int l2), some (.int (l3 + 1))]) (pc := 115) dX12_isCharacter_115 (Nat.le_of_ble_eq_true rfl) rfl rfl (v := (l3 + 1)) (by rw [show Int32.ofInt 1 = 1 from by decide]) rfl ?_
        refine V.goto (t := 71) (pc := 118) dX12_isCharacter_118 (by decide) ?_
        exact h71 l1 l2 (l3 + 1) w _ _ h
      · refine V.icmp_eq_f (t := 115) (pc := 110) dX12_isCharacter_110 (by decide) c ?_
        refine V.iconst (pc := 113) dX12_isCharacter_113 ic_0 ?_
        obtain ⟨rfl, rfl⟩ := Prod.mk.inj (Option.some.inj h)
        exact V.zret (pc := 114) dX12_isCharacter_114 rfl (Or.inl rfl) (Nat.le_refl _) (Nat.le_refl _)
def f_X12_isCharacter_B61b (k61 : Int32 → Int32 → Wd → Option (Int32 × Wd)) (l1 : Int32) (l2 : Int32) (w : Wd) : Option (Int32 × Wd) :=
  if (w.1 44 1) ≤ l2 then
    some (1, w)
  else
    f_X12_isCharacter_L71 k61 FU l1 l2 0 w
def f_X12_isCharacter_L61 (n : Nat) : Int32 → Int32 → Wd → Option (Int32 × Wd) :=
  Nat.rec (fun _ _ _ => none) (fun _ k => f_X12_isCharacter_B61b k) n
set_option maxHeartbeats 4000000 in
set_option maxRecDepth 100000 in
theorem t_X12_isCharacter_L61 {G : GT} {d : Nat} (hd : 1 ≤ d + 1)  : ∀ (n : Nat) (l1 : Int32) (l2 : Int32) (w : Wd) (r : Int32) (w' : Wd), f_X12_isCharacter_L61 n l1 l2 w = some (r, w') → U (vf G mX12_isCharacter (d + 1)) 61 [some (.ref 44), some (.int l1), some (.int l2), none] [] w (some (.int r), 70, r0, w') := by
  intro n
  induction n with
  | zero => intro l1 l2 w r w' h; cases h
  | succ n h61 =>
    intro l1 l2 w r w' h
    have h : f_X12_isCharacter_B61b (f_X12_isCharacter_L61 n) l1 l2 w = some (r, w') := h
    unfold f_X12_isCharacter_B61b at h
    refine V.iload_n (pc := 61) dX12_isCharacter_61 rfl ?_
    refine V.aload_n (pc := 62) dX12_isCharacter_62 rfl ?_
    refine V.getI (pc := 63) dX12_isCharacter_63 f_RX12_92 k_cl12 lx_44 ly_44 rb_12_1 ?_
    rcases ite_e h with ⟨c, h⟩ | ⟨c, h⟩
    · refine V.icmp_ge_t (t := 127) (pc := 66) dX12_isCharacter_66 (by decide) c ?_
      refine V.iconst (pc := 127) dX12_isCharacter_127 ic_1 ?_
      obtain ⟨rfl, rfl⟩ := Prod.mk.inj (Option.some.inj h)
      exact V.zret (pc := 128) dX12_isCharacter_128 rfl (Or.inr rfl) (Nat.le_refl _) (Nat.le_refl _)
    · refine V.icmp_ge_f (t := 127) (pc := 66) dX12_isCharacter_66 (by decide) c ?_
      refine V.iconst (pc := 69) dX12_isCharacter_69 ic_0 ?_
      refine V.istore_n (lv' := [some (.ref 44), some (.int l1), some (.int l2), some (.int 0)]) (pc := 70) dX12_isCharacter_70 (Nat.le_of_ble_eq_true rfl) rfl rfl ?_
      exact t_X12_isCharacter_L71 hd h61 FU l1 l2 0 w _ _ h
def f_X12_isCharacter_B9b (k9 : Int32 → Int32 → Wd → Option (Int32 × Wd)) (l1 : Int32) (l2 : Int32) (w : Wd) : Option (Int32 × Wd) :=
  if (w.1 44 1) ≤ l2 then
    f_X12_isCharacter_L61  FU l1 0 w
  else
    rdI w 51 16 l2 fun x1 =>
    rdI w 52 16 l2 fun x2 =>
    rdI w 62 16 x2 fun x3 =>
    rdI w 53 16 l2 fun x4 =>
    rdI w 63 16 x4 fun x5 =>
    nzI l1 (wrI w 62 16 x1 (rem32 (x3 + x5) l1) fun w6 =>
    k9 l1 (l2 + 1) w6)
def f_X12_isCharacter_L9 (n : Nat) : Int32 → Int32 → Wd → Option (Int32 × Wd) :=
  Nat.rec (fun _ _ _ => none) (fun _ k => f_X12_isCharacter_B9b k) n
set_option maxHeartbeats 4000000 in
set_option maxRecDepth 100000 in
theorem t_X12_isCharacter_L9 {G : GT} {d : Nat} (hd : 1 ≤ d + 1)  : ∀ (n : Nat) (l1 : Int32) (l2 : Int32) (w : Wd) (r : Int32) (w' : Wd), f_X12_isCharacter_L9 n l1 l2 w = some (r, w') → U (vf G mX12_isCharacter (d + 1)) 9 [some (.ref 44), some (.int l1), some (.int l2), none] [] w (some (.int r), 70, r0, w') := by
  intro n
  induction n with
  | zero => intro l1 l2 w r w' h; cases h
  | succ n h9 =>
    intro l1 l2 w r w' h
    have h : f_X12_isCharacter_B9b (f_X12_isCharacter_L9 n) l1 l2 w = some (r, w') := h
    unfold f_X12_isCharacter_B9b at h
    refine V.iload_n (pc := 9) dX12_isCharacter_9 rfl ?_
    refine V.aload_n (pc := 10) dX12_isCharacter_10 rfl ?_
    refine V.getI (pc := 11) dX12_isCharacter_11 f_RX12_92 k_cl12 lx_44 ly_44 rb_12_1 ?_
    rcases ite_e h with ⟨c, h⟩ | ⟨c, h⟩
    · refine V.icmp_ge_t (t := 59) (pc := 14) dX12_isCharacter_14 (by decide) c ?_
      refine V.iconst (pc := 59) dX12_isCharacter_59 ic_0 ?_
      refine V.istore_n (lv' := [some (.ref 44), some (.int l1), some (.int 0), none]) (pc := 60) dX12_isCharacter_60 (Nat.le_of_ble_eq_true rfl) rfl rfl ?_
      exact t_X12_isCharacter_L61 hd FU l1 0 w _ _ h
    · refine V.icmp_ge_f (t := 59) (pc := 14) dX12_isCharacter_14 (by decide) c ?_
      refine V.aload_n (pc := 17) dX12_isCharacter_17 rfl ?_
      refine V.getR (t := 62) (pc := 18) dX12_isCharacter_18 f_RX12_66 k_cl12 lx_44 ly_44 rb_12_23 rr_44_23 ?_
      refine V.aload_n (pc := 21) dX12_isCharacter_21 rfl ?_
      refine V.getR (t := 51) (pc := 22) dX12_isCharacter_22 f_RX12_33 k_cl12 lx_44 ly_44 rb_12_10 rr_44_10 ?_
      refine V.iload_n (pc := 25) dX12_isCharacter_25 rfl ?_
      obtain ⟨x1, ix1, ex1, h⟩ := rdI_e h
      refine V.ialdX (pc := 26) dX12_isCharacter_26 lx_51 ly_51 ix1 ex1 ?_
      refine V.aload_n (pc := 27) dX12_isCharacter_27 rfl ?_
      refine V.getR (t := 62) (pc := 28) dX12_isCharacter_28 f_RX12_66 k_cl12 lx_44 ly_44 rb_12_23 rr_44_23 ?_
      refine V.aload_n (pc := 31) dX12_isCharacter_31 rfl ?_
      refine V.getR (t := 52) (pc := 32) dX12_isCharacter_32 f_RX12_36 k_cl12 lx_44 ly_44 rb_12_11 rr_44_11 ?_
      refine V.iload_n (pc := 35) dX12_isCharacter_35 rfl ?_
      obtain ⟨x2, ix2, ex2, h⟩ := rdI_e h
      refine V.ialdX (pc := 36) dX12_isCharacter_36 lx_52 ly_52 ix2 ex2 ?_
      obtain ⟨x3, ix3, ex3, h⟩ := rdI_e h
      refine V.ialdX (pc := 37) dX12_isCharacter_37 lx_62 ly_62 ix3 ex3 ?_
      refine V.aload_n (pc := 38) dX12_isCharacter_38 rfl ?_
      refine V.getR (t := 63) (pc := 39) dX12_isCharacter_39 f_RX12_69 k_cl12 lx_44 ly_44 rb_12_24 rr_44_24 ?_
      refine V.aload_n (pc := 42) dX12_isCharacter_42 rfl ?_
      refine V.getR (t := 53) (pc := 43) dX12_isCharacter_43 f_RX12_39 k_cl12 lx_44 ly_44 rb_12_12 rr_44_12 ?_
      refine V.iload_n (pc := 46) dX12_isCharacter_46 rfl ?_
      obtain ⟨x4, ix4, ex4, h⟩ := rdI_e h
      refine V.ialdX (pc := 47) dX12_isCharacter_47 lx_53 ly_53 ix4 ex4 ?_
      obtain ⟨x5, ix5, ex5, h⟩ := rdI_e h
      refine V.ialdX (pc := 48) dX12_isCharacter_48 lx_63 ly_63 ix5 ex5 ?_
      refine V.iadd (pc := 49) dX12_isCharacter_49 ?_
      refine V.iload_n (pc := 50) dX12_isCharacter_50 rfl ?_
      obtain ⟨hz, h⟩ := nzI_e h
      refine V.irem (pc := 51) dX12_isCharacter_51 hz ?_
      obtain ⟨w6, iw6, ew6, h⟩ := wrI_e h
      refine V.iastX (pc := 52) dX12_isCharacter_52 lx_62 ly_62 iw6 ew6 ?_
      refine V.iinc (lv' := [some (.ref 44), some (.int l1), some (.int (l2 + 1)), none]) (pc := 53) dX12_isCharacter_53 (Nat.le_of_ble_eq_true rfl) rfl rfl (v := (l2 + 1)) (by rw [show Int32.ofInt 1 = 1 from by decide]) rfl ?_
      refine V.goto (t := 9) (pc := 56) dX12_isCharacter_56 (by decide) ?_
      exact h9 l1 (l2 + 1) w6 _ _ h
def f_X12_isCharacter (l1 : Int32) (w : Wd) : Option (Int32 × Wd) :=
  wrI w 62 16 0 0 fun w1 =>
  f_X12_isCharacter_L9  FU l1 1 w1
set_option maxHeartbeats 4000000 in
set_option maxRecDepth 100000 in
theorem ok_X12_isCharacter {G : GT} {d : Nat} (hd : 1 ≤ d) {w : Wd} (l1 : Int32) {r : Int32} {w' : Wd} (h : f_X12_isCharacter l1 w = some (r, w')) : uC G yX12_isCharacter mX12_isCharacter d [.ref 44, .int l1] w (some (.int r)) w' := by
  obtain ⟨d, rfl⟩ : ∃ e, d = e + 1 := ⟨d - 1, by omega⟩
  unfold f_X12_isCharacter at h
  refine uC_of (lv := [some (.ref 44), some (.int l1), none, none]) 2 pn_X12 ⟨rfl, rfl⟩ (Nat.le_of_ble_eq_true rfl) rfl ?_
  refine V.aload_n (pc := 0) dX12_isCharacter_0 rfl ?_
  refine V.getR (t := 62) (pc := 1) dX12_isCharacter_1 f_RX12_66 k_cl12 lx_44 ly_44 rb_12_23 rr_44_23 ?_
  refine V.iconst (pc := 4) dX12_isCharacter_4 ic_0 ?_
  refine V.iconst (pc := 5) dX12_isCharacter_5 ic_0 ?_
  obtain ⟨w1, iw1, ew1, h⟩ := wrI_e h
  refine V.iastX (pc := 6) dX12_isCharacter_6 lx_62 ly_62 iw1 ew1 ?_
  refine V.iconst (pc := 7) dX12_isCharacter_7 ic_1 ?_
  refine V.istore_n (lv' := [some (.ref 44), some (.int l1), some (.int 1), none]) (pc := 8) dX12_isCharacter_8 (Nat.le_of_ble_eq_true rfl) rfl rfl ?_
  exact t_X12_isCharacter_L9 hd FU l1 1 w1 _ _ h
theorem dX12_characters_0 : decode cX12_characters 0 = .ok (.iload_n 1, 1) := by decide +kernel
theorem dX12_characters_1 : decode cX12_characters 1 = .ok (.invokestatic 246, 3) := by decide +kernel
theorem dX12_characters_4 : decode cX12_characters 4 = .ok (.ifCond .ne 5, 3) := by decide +kernel
theorem dX12_characters_7 : decode cX12_characters 7 = .ok (.iconst (-1), 1) := by decide +kernel
theorem dX12_characters_8 : decode cX12_characters 8 = .ok (.ireturn, 1) := by decide +kernel
theorem dX12_characters_9 : decode cX12_characters 9 = .ok (.aload_n 0, 1) := by decide +kernel
theorem dX12_characters_10 : decode cX12_characters 10 = .ok (.invokevirtual 224, 3) := by decide +kernel
theorem dX12_characters_13 : decode cX12_characters 13 = .ok (.iconst 0, 1) := by decide +kernel
theorem dX12_characters_14 : decode cX12_characters 14 = .ok (.istore_n 2, 1) := by decide +kernel
theorem dX12_characters_15 : decode cX12_characters 15 = .ok (.iconst 1, 1) := by decide +kernel
theorem dX12_characters_16 : decode cX12_characters 16 = .ok (.istore_n 3, 1) := by decide +kernel
theorem dX12_characters_17 : decode cX12_characters 17 = .ok (.iload_n 3, 1) := by decide +kernel
theorem dX12_characters_18 : decode cX12_characters 18 = .ok (.ifCond .eq 23, 3) := by decide +kernel
theorem dX12_characters_21 : decode cX12_characters 21 = .ok (.aload_n 0, 1) := by decide +kernel
theorem dX12_characters_22 : decode cX12_characters 22 = .ok (.iload_n 1, 1) := by decide +kernel
theorem dX12_characters_23 : decode cX12_characters 23 = .ok (.invokevirtual 243, 3) := by decide +kernel
theorem dX12_characters_26 : decode cX12_characters 26 = .ok (.ifCond .eq 6, 3) := by decide +kernel
theorem dX12_characters_29 : decode cX12_characters 29 = .ok (.iinc 2 1, 3) := by decide +kernel
theorem dX12_characters_32 : decode cX12_characters 32 = .ok (.aload_n 0, 1) := by decide +kernel
theorem dX12_characters_33 : decode cX12_characters 33 = .ok (.iload_n 1, 1) := by decide +kernel
theorem dX12_characters_34 : decode cX12_characters 34 = .ok (.invokevirtual 231, 3) := by decide +kernel
theorem dX12_characters_37 : decode cX12_characters 37 = .ok (.istore_n 3, 1) := by decide +kernel
theorem dX12_characters_38 : decode cX12_characters 38 = .ok (.goto (-21), 3) := by decide +kernel
theorem dX12_characters_41 : decode cX12_characters 41 = .ok (.iload_n 2, 1) := by decide +kernel
theorem dX12_characters_42 : decode cX12_characters 42 = .ok (.ireturn, 1) := by decide +kernel
def f_X12_characters_B17b (k17 : Int32 → Int32 → Int32 → Wd → Option (Int32 × Wd)) (l1 : Int32) (l2 : Int32) (l3 : Int32) (w : Wd) : Option (Int32 × Wd) :=
  if l3 = 0 then
    some (l2, w)
  else
    bnd2 (f_X12_isCharacter l1 w) fun x1 w2 =>
    if x1 = 0 then
      bnd2 (f_X12_isNext l1 w2) fun x3 w4 =>
      k17 l1 l2 x3 w4
    else
      bnd2 (f_X12_isNext l1 w2) fun x5 w6 =>
      k17 l1 (l2 + 1) x5 w6
def f_X12_characters_L17 (n : Nat) : Int32 → Int32 → Int32 → Wd → Option (Int32 × Wd) :=
  Nat.rec (fun _ _ _ _ => none) (fun _ k => f_X12_characters_B17b k) n
set_option maxHeartbeats 4000000 in
set_option maxRecDepth 100000 in
theorem t_X12_characters_L17 {G : GT} {d : Nat} (hd : 2 ≤ d + 1)  : ∀ (n : Nat) (l1 : Int32) (l2 : Int32) (l3 : Int32) (w : Wd) (r : Int32) (w' : Wd), f_X12_characters_L17 n l1 l2 l3 w = some (r, w') → U (vf G mX12_characters (d + 1)) 17 [some (.ref 44), some (.int l1), some (.int l2), some (.int l3)] [] w (some (.int r), 70, r0, w') := by
  intro n
  induction n with
  | zero => intro l1 l2 l3 w r w' h; cases h
  | succ n h17 =>
    intro l1 l2 l3 w r w' h
    have h : f_X12_characters_B17b (f_X12_characters_L17 n) l1 l2 l3 w = some (r, w') := h
    unfold f_X12_characters_B17b at h
    refine V.iload_n (pc := 17) dX12_characters_17 rfl ?_
    rcases ite_e h with ⟨c, h⟩ | ⟨c, h⟩
    · refine V.if_eq_t (t := 41) (pc := 18) dX12_characters_18 (by decide) c ?_
      refine V.iload_n (pc := 41) dX12_characters_41 rfl ?_
      obtain ⟨rfl, rfl⟩ := Prod.mk.inj (Option.some.inj h)
      exact V.iret (pc := 42) dX12_characters_42 rfl (Nat.le_refl _) (Nat.le_refl _)
    · refine V.if_eq_f (t := 41) (pc := 18) dX12_characters_18 (by decide) c ?_
      refine V.aload_n (pc := 21) dX12_characters_21 rfl ?_
      refine V.iload_n (pc := 22) dX12_characters_22 rfl ?_
      obtain ⟨x1, w2, ew2, h⟩ := bnd2_e h
      refine U.callV (pc := 23) (As := [.int l1]) (st := []) dX12_characters_23 l_RX12_243 (ok_X12_isCharacter (by omega) l1 ew2) lx_44 ly_44 cn_12 (Nat.le_of_ble_eq_true rfl) rfl rfl (Nat.le_of_ble_eq_true rfl) ?_
      rcases ite_e h with ⟨c, h⟩ | ⟨c, h⟩
      · refine V.if_eq_t (t := 32) (pc := 26) dX12_characters_26 (by decide) c ?_
        refine V.aload_n (pc := 32) dX12_characters_32 rfl ?_
        refine V.iload_n (pc := 33) dX12_characters_33 rfl ?_
        obtain ⟨x3, w4, ew4, h⟩ := bnd2_e h
        refine U.callV (pc := 34) (As := [.int l1]) (st := []) dX12_characters_34 l_RX12_231 (ok_X12_isNext (by omega) l1 ew4) lx_44 ly_44 cn_12 (Nat.le_of_ble_eq_true rfl) rfl rfl (Nat.le_of_ble_eq_true rfl) ?_
        refine V.istore_n (lv' := [some (.ref 44), some (.int l1), some (.int l2), some (.int x3)]) (pc := 37) dX12_characters_37 (Nat.le_of_ble_eq_true rfl) rfl rfl ?_
        refine V.goto (t := 17) (pc := 38) dX12_characters_38 (by decide) ?_
        exact h17 l1 l2 x3 w4 _ _ h
      · refine V.if_eq_f (t := 32) (pc := 26) dX12_characters_26 (by decide) c ?_
        refine V.iinc (lv' := [some (.ref 44), some (.int l1), some (.int (l2 + 1)), some (.int l3)]) (pc := 29) dX12_characters_29 (Nat.le_of_ble_eq_true rfl) rfl rfl (v := (l2 + 1)) (by rw [show Int32.ofInt 1 = 1 from by decide]) rfl ?_
        refine V.aload_n (pc := 32) dX12_characters_32 rfl ?_
        refine V.iload_n (pc := 33) dX12_characters_33 rfl ?_
        obtain ⟨x5, w6, ew6, h⟩ := bnd2_e h
        refine U.callV (pc := 34) (As := [.int l1]) (st := []) dX12_characters_34 l_RX12_231 (ok_X12_isNext (by omega) l1 ew6) lx_44 ly_44 cn_12 (Nat.le_of_ble_eq_true rfl) rfl rfl (Nat.le_of_ble_eq_true rfl) ?_
        refine V.istore_n (lv' := [some (.ref 44), some (.int l1), some (.int (l2 + 1)), some (.int x5)]) (pc := 37) dX12_characters_37 (Nat.le_of_ble_eq_true rfl) rfl rfl ?_
        refine V.goto (t := 17) (pc := 38) dX12_characters_38 (by decide) ?_
        exact h17 l1 (l2 + 1) x5 w6 _ _ h
def f_X12_characters (l1 : Int32) (w : Wd) : Option (Int32 × Wd) :=
  if (f_X12_isRing l1) = 0 then
    some ((-1), w)
  else
    bnd (f_X12_firstRow  w) fun w1 =>
    f_X12_characters_L17  FU l1 0 1 w1
set_option maxHeartbeats 4000000 in
set_option maxRecDepth 100000 in
theorem ok_X12_characters {G : GT} {d : Nat} (hd : 2 ≤ d) {w : Wd} (l1 : Int32) {r : Int32} {w' : Wd} (h : f_X12_characters l1 w = some (r, w')) : uC G yX12_characters mX12_characters d [.ref 44, .int l1] w (some (.int r)) w' := by
  obtain ⟨d, rfl⟩ : ∃ e, d = e + 1 := ⟨d - 1, by omega⟩
  unfold f_X12_characters at h
  refine uC_of (lv := [some (.ref 44), some (.int l1), none, none]) 2 pn_X12 ⟨rfl, rfl⟩ (Nat.le_of_ble_eq_true rfl) rfl ?_
  refine V.iload_n (pc := 0) dX12_characters_0 rfl ?_
  refine U.callS (pc := 1) (As := [.int l1]) (st := []) dX12_characters_1 l_RX12_246 (ok_X12_isRing (by omega) l1 ) (Nat.le_of_ble_eq_true rfl) rfl rfl (Nat.le_of_ble_eq_true rfl) ?_
  rcases ite_e h with ⟨c, h⟩ | ⟨c, h⟩
  · refine V.if_ne_f (t := 9) (pc := 4) dX12_characters_4 (by decide) c ?_
    refine V.iconst (pc := 7) dX12_characters_7 ic_m1 ?_
    obtain ⟨rfl, rfl⟩ := Prod.mk.inj (Option.some.inj h)
    exact V.iret (pc := 8) dX12_characters_8 rfl (Nat.le_refl _) (Nat.le_refl _)
  · refine V.if_ne_t (t := 9) (pc := 4) dX12_characters_4 (by decide) c ?_
    refine V.aload_n (pc := 9) dX12_characters_9 rfl ?_
    obtain ⟨w1, ew1, h⟩ := bnd_e h
    refine U.callV (pc := 10) (As := []) (st := []) dX12_characters_10 l_RX12_224 (ok_X12_firstRow (by omega)  ew1) lx_44 ly_44 cn_12 (Nat.le_of_ble_eq_true rfl) rfl rfl (Nat.le_of_ble_eq_true rfl) ?_
    refine V.iconst (pc := 13) dX12_characters_13 ic_0 ?_
    refine V.istore_n (lv' := [some (.ref 44), some (.int l1), some (.int 0), none]) (pc := 14) dX12_characters_14 (Nat.le_of_ble_eq_true rfl) rfl rfl ?_
    refine V.iconst (pc := 15) dX12_characters_15 ic_1 ?_
    refine V.istore_n (lv' := [some (.ref 44), some (.int l1), some (.int 0), some (.int 1)]) (pc := 16) dX12_characters_16 (Nat.le_of_ble_eq_true rfl) rfl rfl ?_
    exact t_X12_characters_L17 hd FU l1 0 1 w1 _ _ h
theorem dX5_valueOf_0 : decode cX5_valueOf 0 = .ok (.iload_n 1, 1) := by decide +kernel
theorem dX5_valueOf_1 : decode cX5_valueOf 1 = .ok (.ifCond .lt 28, 3) := by decide +kernel
theorem dX5_valueOf_4 : decode cX5_valueOf 4 = .ok (.iload_n 1, 1) := by decide +kernel
theorem dX5_valueOf_5 : decode cX5_valueOf 5 = .ok (.aload_n 0, 1) := by decide +kernel
theorem dX5_valueOf_6 : decode cX5_valueOf 6 = .ok (.getfield 36, 3) := by decide +kernel
theorem dX5_valueOf_9 : decode cX5_valueOf 9 = .ok (.if_icmp .ge 20, 3) := by decide +kernel
theorem dX5_valueOf_12 : decode cX5_valueOf 12 = .ok (.aload_n 0, 1) := by decide +kernel
theorem dX5_valueOf_13 : decode cX5_valueOf 13 = .ok (.getfield 11, 3) := by decide +kernel
theorem dX5_valueOf_16 : decode cX5_valueOf 16 = .ok (.iload_n 1, 1) := by decide +kernel
theorem dX5_valueOf_17 : decode cX5_valueOf 17 = .ok (.bipush 16, 2) := by decide +kernel
theorem dX5_valueOf_19 : decode cX5_valueOf 19 = .ok (.imul, 1) := by decide +kernel
theorem dX5_valueOf_20 : decode cX5_valueOf 20 = .ok (.iload_n 2, 1) := by decide +kernel
theorem dX5_valueOf_21 : decode cX5_valueOf 21 = .ok (.bipush 15, 2) := by decide +kernel
theorem dX5_valueOf_23 : decode cX5_valueOf 23 = .ok (.iand, 1) := by decide +kernel
theorem dX5_valueOf_24 : decode cX5_valueOf 24 = .ok (.iadd, 1) := by decide +kernel
theorem dX5_valueOf_25 : decode cX5_valueOf 25 = .ok (.iaload, 1) := by decide +kernel
theorem dX5_valueOf_26 : decode cX5_valueOf 26 = .ok (.goto 4, 3) := by decide +kernel
theorem dX5_valueOf_29 : decode cX5_valueOf 29 = .ok (.iconst (-1), 1) := by decide +kernel
theorem dX5_valueOf_30 : decode cX5_valueOf 30 = .ok (.ireturn, 1) := by decide +kernel
def f_X5_valueOf (l1 : Int32) (l2 : Int32) (w : Wd) : Option Int32 :=
  if l1 < 0 then
    some (-1)
  else
    if (w.1 32 4) ≤ l1 then
      some (-1)
    else
      rdI w 33 256 ((l1 * 16) + (l2 &&& 15)) fun x1 =>
      some x1
set_option maxHeartbeats 4000000 in
set_option maxRecDepth 100000 in
theorem ok_X5_valueOf {G : GT} {d : Nat} (hd : 0 ≤ d) {w : Wd} (l1 : Int32) (l2 : Int32) {r : Int32} (h : f_X5_valueOf l1 l2 w = some r) : uC G yX5_valueOf mX5_valueOf d [.ref 32, .int l1, .int l2] w (some (.int r)) w := by
  unfold f_X5_valueOf at h
  refine uC_of (lv := [some (.ref 32), some (.int l1), some (.int l2)]) 0 pn_X5 ⟨rfl, rfl⟩ (Nat.le_of_ble_eq_true rfl) rfl ?_
  refine V.iload_n (pc := 0) dX5_valueOf_0 rfl ?_
  rcases ite_e h with ⟨c, h⟩ | ⟨c, h⟩
  · refine V.if_lt_t (t := 29) (pc := 1) dX5_valueOf_1 (by decide) c ?_
    refine V.iconst (pc := 29) dX5_valueOf_29 ic_m1 ?_
    obtain rfl := Option.some.inj h
    exact V.iret (pc := 30) dX5_valueOf_30 rfl (Nat.le_refl _) (Nat.le_refl _)
  · refine V.if_lt_f (t := 29) (pc := 1) dX5_valueOf_1 (by decide) c ?_
    refine V.iload_n (pc := 4) dX5_valueOf_4 rfl ?_
    refine V.aload_n (pc := 5) dX5_valueOf_5 rfl ?_
    refine V.getI (pc := 6) dX5_valueOf_6 f_RX5_36 k_cl5 lx_32 ly_32 rb_5_4 ?_
    rcases ite_e h with ⟨c, h⟩ | ⟨c, h⟩
    · refine V.icmp_ge_t (t := 29) (pc := 9) dX5_valueOf_9 (by decide) c ?_
      refine V.iconst (pc := 29) dX5_valueOf_29 ic_m1 ?_
      obtain rfl := Option.some.inj h
      exact V.iret (pc := 30) dX5_valueOf_30 rfl (Nat.le_refl _) (Nat.le_refl _)
    · refine V.icmp_ge_f (t := 29) (pc := 9) dX5_valueOf_9 (by decide) c ?_
      refine V.aload_n (pc := 12) dX5_valueOf_12 rfl ?_
      refine V.getR (t := 33) (pc := 13) dX5_valueOf_13 f_RX5_11 k_cl5 lx_32 ly_32 rb_5_3 rr_32_3 ?_
      refine V.iload_n (pc := 16) dX5_valueOf_16 rfl ?_
      refine V.bipush (pc := 17) dX5_valueOf_17 bp_16 ?_
      refine V.imul (pc := 19) dX5_valueOf_19 ?_
      refine V.iload_n (pc := 20) dX5_valueOf_20 rfl ?_
      refine V.bipush (pc := 21) dX5_valueOf_21 bp_15 ?_
      refine V.iand (pc := 23) dX5_valueOf_23 ?_
      refine V.iadd (pc := 24) dX5_valueOf_24 ?_
      obtain ⟨x1, ix1, ex1, h⟩ := rdI_e h
      refine V.ialdX (pc := 25) dX5_valueOf_25 lx_33 ly_33 ix1 ex1 ?_
      refine V.goto (t := 30) (pc := 26) dX5_valueOf_26 (by decide) ?_
      obtain rfl := Option.some.inj h
      exact V.iret (pc := 30) dX5_valueOf_30 rfl (Nat.le_refl _) (Nat.le_refl _)
theorem dX11_character_0 : decode cX11_character 0 = .ok (.iload_n 1, 1) := by decide +kernel
theorem dX11_character_1 : decode cX11_character 1 = .ok (.invokestatic 259, 3) := by decide +kernel
theorem dX11_character_4 : decode cX11_character 4 = .ok (.ifCond .eq 18, 3) := by decide +kernel
theorem dX11_character_7 : decode cX11_character 7 = .ok (.aload_n 0, 1) := by decide +kernel
theorem dX11_character_8 : decode cX11_character 8 = .ok (.getfield 28, 3) := by decide +kernel
theorem dX11_character_11 : decode cX11_character 11 = .ok (.iload_n 3, 1) := by decide +kernel
theorem dX11_character_12 : decode cX11_character 12 = .ok (.invokevirtual 107, 3) := by decide +kernel
theorem dX11_character_15 : decode cX11_character 15 = .ok (.ifCond .eq 7, 3) := by decide +kernel
theorem dX11_character_18 : decode cX11_character 18 = .ok (.iload_n 2, 1) := by decide +kernel
theorem dX11_character_19 : decode cX11_character 19 = .ok (.ifCond .ge 5, 3) := by decide +kernel
theorem dX11_character_22 : decode cX11_character 22 = .ok (.iconst (-1), 1) := by decide +kernel
theorem dX11_character_23 : decode cX11_character 23 = .ok (.ireturn, 1) := by decide +kernel
theorem dX11_character_24 : decode cX11_character 24 = .ok (.iload_n 2, 1) := by decide +kernel
theorem dX11_character_25 : decode cX11_character 25 = .ok (.aload_n 0, 1) := by decide +kernel
theorem dX11_character_26 : decode cX11_character 26 = .ok (.getfield 67, 3) := by decide +kernel
theorem dX11_character_29 : decode cX11_character 29 = .ok (.iload_n 1, 1) := by decide +kernel
theorem dX11_character_30 : decode cX11_character 30 = .ok (.invokevirtual 262, 3) := by decide +kernel
theorem dX11_character_33 : decode cX11_character 33 = .ok (.if_icmp .ge 15, 3) := by decide +kernel
theorem dX11_character_36 : decode cX11_character 36 = .ok (.aload_n 0, 1) := by decide +kernel
theorem dX11_character_37 : decode cX11_character 37 = .ok (.getfield 67, 3) := by decide +kernel
theorem dX11_character_40 : decode cX11_character 40 = .ok (.iload_n 2, 1) := by decide +kernel
theorem dX11_character_41 : decode cX11_character 41 = .ok (.iload_n 3, 1) := by decide +kernel
theorem dX11_character_42 : decode cX11_character 42 = .ok (.invokevirtual 265, 3) := by decide +kernel
theorem dX11_character_45 : decode cX11_character 45 = .ok (.goto 5, 3) := by decide +kernel
theorem dX11_character_48 : decode cX11_character 48 = .ok (.bipush (-2), 2) := by decide +kernel
theorem dX11_character_50 : decode cX11_character 50 = .ok (.ireturn, 1) := by decide +kernel
def f_X11_character (l1 : Int32) (l2 : Int32) (l3 : Int32) (w : Wd) : Option (Int32 × Wd) :=
  if (f_X11_isRing l1) = 0 then
    some ((-1), w)
  else
    if (f_X4_holds l3 w) = 0 then
      some ((-1), w)
    else
      if 0 ≤ l2 then
        bnd2 (f_X5_totalInto l1 w) fun x1 w2 =>
        if x1 ≤ l2 then
          some ((-2), w2)
        else
          bnd (f_X5_valueOf l2 l3 w2) fun x3 =>
          some (x3, w2)
      else
        some ((-1), w)
set_option maxHeartbeats 4000000 in
set_option maxRecDepth 100000 in
theorem ok_X11_character {G : GT} {d : Nat} (hd : 29 ≤ d) {w : Wd} (l1 : Int32) (l2 : Int32) (l3 : Int32) {r : Int32} {w' : Wd} (h : f_X11_character l1 l2 l3 w = some (r, w')) : uC G yX11_character mX11_character d [.ref 0, .int l1, .int l2, .int l3] w (some (.int r)) w' := by
  obtain ⟨d, rfl⟩ : ∃ e, d = e + 1 := ⟨d - 1, by omega⟩
  unfold f_X11_character at h
  refine uC_of (lv := [some (.ref 0), some (.int l1), some (.int l2), some (.int l3)]) 0 pn_X11 ⟨rfl, rfl⟩ (Nat.le_of_ble_eq_true rfl) rfl ?_
  refine V.iload_n (pc := 0) dX11_character_0 rfl ?_
  refine U.callS (pc := 1) (As := [.int l1]) (st := []) dX11_character_1 l_RX11_259 (ok_X11_isRing (by omega) l1 ) (Nat.le_of_ble_eq_true rfl) rfl rfl (Nat.le_of_ble_eq_true rfl) ?_
  rcases ite_e h with ⟨c, h⟩ | ⟨c, h⟩
  · refine V.if_eq_t (t := 22) (pc := 4) dX11_character_4 (by decide) c ?_
    refine V.iconst (pc := 22) dX11_character_22 ic_m1 ?_
    obtain ⟨rfl, rfl⟩ := Prod.mk.inj (Option.some.inj h)
    exact V.iret (pc := 23) dX11_character_23 rfl (Nat.le_refl _) (Nat.le_refl _)
  · refine V.if_eq_f (t := 22) (pc := 4) dX11_character_4 (by decide) c ?_
    refine V.aload_n (pc := 7) dX11_character_7 rfl ?_
    refine V.getR (t := 6) (pc := 8) dX11_character_8 f_RX11_28 k_cl11 lx_0 ly_0 rb_11_2 rr_0_2 ?_
    refine V.iload_n (pc := 11) dX11_character_11 rfl ?_
    refine U.callV (pc := 12) (As := [.int l3]) (st := []) dX11_character_12 l_RX11_107 (ok_X4_holds (by omega) l3 ) lx_6 ly_6 cn_4 (Nat.le_of_ble_eq_true rfl) rfl rfl (Nat.le_of_ble_eq_true rfl) ?_
    rcases ite_e h with ⟨c, h⟩ | ⟨c, h⟩
    · refine V.if_eq_t (t := 22) (pc := 15) dX11_character_15 (by decide) c ?_
      refine V.iconst (pc := 22) dX11_character_22 ic_m1 ?_
      obtain ⟨rfl, rfl⟩ := Prod.mk.inj (Option.some.inj h)
      exact V.iret (pc := 23) dX11_character_23 rfl (Nat.le_refl _) (Nat.le_refl _)
    · refine V.if_eq_f (t := 22) (pc := 15) dX11_character_15 (by decide) c ?_
      refine V.iload_n (pc := 18) dX11_character_18 rfl ?_
      rcases ite_e h with ⟨c, h⟩ | ⟨c, h⟩
      · refine V.if_ge_t (t := 24) (pc := 19) dX11_character_19 (by decide) c ?_
        refine V.iload_n (pc := 24) dX11_character_24 rfl ?_
        refine V.aload_n (pc := 25) dX11_character_25 rfl ?_
        refine V.getR (t := 32) (pc := 26) dX11_character_26 f_RX11_67 k_cl11 lx_0 ly_0 rb_11_7 rr_0_7 ?_
        refine V.iload_n (pc := 29) dX11_character_29 rfl ?_
        obtain ⟨x1, w2, ew2, h⟩ := bnd2_e h
        refine U.callV (pc := 30) (As := [.int l1]) (st := [.int l2]) dX11_character_30 l_RX11_262 (ok_X5_totalInto (by omega) l1 ew2) lx_32 ly_32 cn_5 (Nat.le_of_ble_eq_true rfl) rfl rfl (Nat.le_of_ble_eq_true rfl) ?_
        rcases ite_e h with ⟨c, h⟩ | ⟨c, h⟩
        · refine V.icmp_ge_t (t := 48) (pc := 33) dX11_character_33 (by decide) c ?_
          refine V.bipush (pc := 48) dX11_character_48 bp_m2 ?_
          obtain ⟨rfl, rfl⟩ := Prod.mk.inj (Option.some.inj h)
          exact V.iret (pc := 50) dX11_character_50 rfl (Nat.le_refl _) (Nat.le_refl _)
        · refine V.icmp_ge_f (t := 48) (pc := 33) dX11_character_33 (by decide) c ?_
          refine V.aload_n (pc := 36) dX11_character_36 rfl ?_
          refine V.getR (t := 32) (pc := 37) dX11_character_37 f_RX11_67 k_cl11 lx_0 ly_0 rb_11_7 rr_0_7 ?_
          refine V.iload_n (pc := 40) dX11_character_40 rfl ?_
          refine V.iload_n (pc := 41) dX11_character_41 rfl ?_
          obtain ⟨x3, ex3, h⟩ := bnd_e h
          refine U.callV (pc := 42) (As := [.int l2, .int l3]) (st := []) dX11_character_42 l_RX11_265 (ok_X5_valueOf (by omega) l2 l3 ex3) lx_32 ly_32 cn_5 (Nat.le_of_ble_eq_true rfl) rfl rfl (Nat.le_of_ble_eq_true rfl) ?_
          refine V.goto (t := 50) (pc := 45) dX11_character_45 (by decide) ?_
          obtain ⟨rfl, rfl⟩ := Prod.mk.inj (Option.some.inj h)
          exact V.iret (pc := 50) dX11_character_50 rfl (Nat.le_refl _) (Nat.le_refl _)
      · refine V.if_ge_f (t := 24) (pc := 19) dX11_character_19 (by decide) c ?_
        refine V.iconst (pc := 22) dX11_character_22 ic_m1 ?_
        obtain ⟨rfl, rfl⟩ := Prod.mk.inj (Option.some.inj h)
        exact V.iret (pc := 23) dX11_character_23 rfl (Nat.le_refl _) (Nat.le_refl _)
theorem dX12_walks_0 : decode cX12_walks 0 = .ok (.aload_n 0, 1) := by decide +kernel
theorem dX12_walks_1 : decode cX12_walks 1 = .ok (.invokevirtual 224, 3) := by decide +kernel
theorem dX12_walks_4 : decode cX12_walks 4 = .ok (.iload_n 2, 1) := by decide +kernel
theorem dX12_walks_5 : decode cX12_walks 5 = .ok (.istore_n 3, 1) := by decide +kernel
theorem dX12_walks_6 : decode cX12_walks 6 = .ok (.iconst 1, 1) := by decide +kernel
theorem dX12_walks_7 : decode cX12_walks 7 = .ok (.istore 4, 2) := by decide +kernel
theorem dX12_walks_9 : decode cX12_walks 9 = .ok (.iload 4, 2) := by decide +kernel
theorem dX12_walks_11 : decode cX12_walks 11 = .ok (.ifCond .eq 30, 3) := by decide +kernel
theorem dX12_walks_14 : decode cX12_walks 14 = .ok (.aload_n 0, 1) := by decide +kernel
theorem dX12_walks_15 : decode cX12_walks 15 = .ok (.iload_n 1, 1) := by decide +kernel
theorem dX12_walks_16 : decode cX12_walks 16 = .ok (.invokevirtual 243, 3) := by decide +kernel
theorem dX12_walks_19 : decode cX12_walks 19 = .ok (.ifCond .eq 12, 3) := by decide +kernel
theorem dX12_walks_22 : decode cX12_walks 22 = .ok (.iload_n 3, 1) := by decide +kernel
theorem dX12_walks_23 : decode cX12_walks 23 = .ok (.ifCond .ne 5, 3) := by decide +kernel
theorem dX12_walks_26 : decode cX12_walks 26 = .ok (.iconst 0, 1) := by decide +kernel
theorem dX12_walks_27 : decode cX12_walks 27 = .ok (.ireturn, 1) := by decide +kernel
theorem dX12_walks_28 : decode cX12_walks 28 = .ok (.iinc 3 (-1), 3) := by decide +kernel
theorem dX12_walks_31 : decode cX12_walks 31 = .ok (.aload_n 0, 1) := by decide +kernel
theorem dX12_walks_32 : decode cX12_walks 32 = .ok (.iload_n 1, 1) := by decide +kernel
theorem dX12_walks_33 : decode cX12_walks 33 = .ok (.invokevirtual 231, 3) := by decide +kernel
theorem dX12_walks_36 : decode cX12_walks 36 = .ok (.istore 4, 2) := by decide +kernel
theorem dX12_walks_38 : decode cX12_walks 38 = .ok (.goto (-29), 3) := by decide +kernel
theorem dX12_walks_41 : decode cX12_walks 41 = .ok (.iconst (-1), 1) := by decide +kernel
theorem dX12_walks_42 : decode cX12_walks 42 = .ok (.ireturn, 1) := by decide +kernel
def f_X12_walks_B9b (k9 : Int32 → Int32 → Int32 → Wd → Option (Int32 × Wd)) (l1 : Int32) (l3 : Int32) (l4 : Int32) (w : Wd) : Option (Int32 × Wd) :=
  if l4 = 0 then
    some ((-1), w)
  else
    bnd2 (f_X12_isCharacter l1 w) fun x1 w2 =>
    if x1 = 0 then
      bnd2 (f_X12_isNext l1 w2) fun x3 w4 =>
      k9 l1 l3 x3 w4
    else
      if l3 = 0 then
        some (0, w2)
      else
        bnd2 (f_X12_isNext l1 w2) fun x5 w6 =>
        k9 l1 (l3 + (-1)) x5 w6
def f_X12_walks_L9 (n : Nat) : Int32 → Int32 → Int32 → Wd → Option (Int32 × Wd) :=
  Nat.rec (fun _ _ _ _ => none) (fun _ k => f_X12_walks_B9b k) n
set_option maxHeartbeats 4000000 in
set_option maxRecDepth 100000 in
theorem t_X12_walks_L9 {G : GT} {d : Nat} (hd : 2 ≤ d + 1)  : ∀ (n : Nat) (l1 : Int32) (l3 : Int32) (l4 : Int32) (w : Wd) (r : Int32) (w' : Wd), f_X12_walks_L9 n l1 l3 l4 w = some (r, w') → U (vf G mX12_walks (d + 1)) 9 [some (.ref 44), some (.int l1), none, some (.int l3), some (.int l4)] [] w (some (.int r), 70, r0, w') := by
  intro n
  induction n with
  | zero => intro l1 l3 l4 w r w' h; cases h
  | succ n h9 =>
    intro l1 l3 l4 w r w' h
    have h : f_X12_walks_B9b (f_X12_walks_L9 n) l1 l3 l4 w = some (r, w') := h
    unfold f_X12_walks_B9b at h
    refine V.iload (pc := 9) dX12_walks_9 rfl ?_
    rcases ite_e h with ⟨c, h⟩ | ⟨c, h⟩
    · refine V.if_eq_t (t := 41) (pc := 11) dX12_walks_11 (by decide) c ?_
      refine V.iconst (pc := 41) dX12_walks_41 ic_m1 ?_
      obtain ⟨rfl, rfl⟩ := Prod.mk.inj (Option.some.inj h)
      exact V.iret (pc := 42) dX12_walks_42 rfl (Nat.le_refl _) (Nat.le_refl _)
    · refine V.if_eq_f (t := 41) (pc := 11) dX12_walks_11 (by decide) c ?_
      refine V.aload_n (pc := 14) dX12_walks_14 rfl ?_
      refine V.iload_n (pc := 15) dX12_walks_15 rfl ?_
      obtain ⟨x1, w2, ew2, h⟩ := bnd2_e h
      refine U.callV (pc := 16) (As := [.int l1]) (st := []) dX12_walks_16 l_RX12_243 (ok_X12_isCharacter (by omega) l1 ew2) lx_44 ly_44 cn_12 (Nat.le_of_ble_eq_true rfl) rfl rfl (Nat.le_of_ble_eq_true rfl) ?_
      rcases ite_e h with ⟨c, h⟩ | ⟨c, h⟩
      · refine V.if_eq_t (t := 31) (pc := 19) dX12_walks_19 (by decide) c ?_
        refine V.aload_n (pc := 31) dX12_walks_31 rfl ?_
        refine V.iload_n (pc := 32) dX12_walks_32 rfl ?_
        obtain ⟨x3, w4, ew4, h⟩ := bnd2_e h
        refine U.callV (pc := 33) (As := [.int l1]) (st := []) dX12_walks_33 l_RX12_231 (ok_X12_isNext (by omega) l1 ew4) lx_44 ly_44 cn_12 (Nat.le_of_ble_eq_true rfl) rfl rfl (Nat.le_of_ble_eq_true rfl) ?_
        refine V.istore (lv' := [some (.ref 44), some (.int l1), none, some (.int l3), some (.int x3)]) (pc := 36) dX12_walks_36 (Nat.le_of_ble_eq_true rfl) rfl rfl ?_
        refine V.goto (t := 9) (pc := 38) dX12_walks_38 (by decide) ?_
        exact h9 l1 l3 x3 w4 _ _ h
      · refine V.if_eq_f (t := 31) (pc := 19) dX12_walks_19 (by decide) c ?_
        refine V.iload_n (pc := 22) dX12_walks_22 rfl ?_
        rcases ite_e h with ⟨c, h⟩ | ⟨c, h⟩
        · refine V.if_ne_f (t := 28) (pc := 23) dX12_walks_23 (by decide) c ?_
          refine V.iconst (pc := 26) dX12_walks_26 ic_0 ?_
          obtain ⟨rfl, rfl⟩ := Prod.mk.inj (Option.some.inj h)
          exact V.iret (pc := 27) dX12_walks_27 rfl (Nat.le_refl _) (Nat.le_refl _)
        · refine V.if_ne_t (t := 28) (pc := 23) dX12_walks_23 (by decide) c ?_
          refine V.iinc (lv' := [some (.ref 44), some (.int l1), none, some (.int (l3 + (-1))), some (.int l4)]) (pc := 28) dX12_walks_28 (Nat.le_of_ble_eq_true rfl) rfl rfl (v := (l3 + (-1))) (by rw [show Int32.ofInt (-1) = (-1) from by decide]) rfl ?_
          refine V.aload_n (pc := 31) dX12_walks_31 rfl ?_
          refine V.iload_n (pc := 32) dX12_walks_32 rfl ?_
          obtain ⟨x5, w6, ew6, h⟩ := bnd2_e h
          refine U.callV (pc := 33) (As := [.int l1]) (st := []) dX12_walks_33 l_RX12_231 (ok_X12_isNext (by omega) l1 ew6) lx_44 ly_44 cn_12 (Nat.le_of_ble_eq_true rfl) rfl rfl (Nat.le_of_ble_eq_true rfl) ?_
          refine V.istore (lv' := [some (.ref 44), some (.int l1), none, some (.int (l3 + (-1))), some (.int x5)]) (pc := 36) dX12_walks_36 (Nat.le_of_ble_eq_true rfl) rfl rfl ?_
          refine V.goto (t := 9) (pc := 38) dX12_walks_38 (by decide) ?_
          exact h9 l1 (l3 + (-1)) x5 w6 _ _ h
def f_X12_walks (l1 : Int32) (l2 : Int32) (w : Wd) : Option (Int32 × Wd) :=
  bnd (f_X12_firstRow  w) fun w1 =>
  f_X12_walks_L9  FU l1 l2 1 w1
set_option maxHeartbeats 4000000 in
set_option maxRecDepth 100000 in
theorem ok_X12_walks {G : GT} {d : Nat} (hd : 2 ≤ d) {w : Wd} (l1 : Int32) (l2 : Int32) {r : Int32} {w' : Wd} (h : f_X12_walks l1 l2 w = some (r, w')) : uC G yX12_walks mX12_walks d [.ref 44, .int l1, .int l2] w (some (.int r)) w' := by
  obtain ⟨d, rfl⟩ : ∃ e, d = e + 1 := ⟨d - 1, by omega⟩
  unfold f_X12_walks at h
  refine uC_of (lv := [some (.ref 44), some (.int l1), some (.int l2), none, none]) 2 pn_X12 ⟨rfl, rfl⟩ (Nat.le_of_ble_eq_true rfl) rfl ?_
  refine V.aload_n (pc := 0) dX12_walks_0 rfl ?_
  obtain ⟨w1, ew1, h⟩ := bnd_e h
  refine U.callV (pc := 1) (As := []) (st := []) dX12_walks_1 l_RX12_224 (ok_X12_firstRow (by omega)  ew1) lx_44 ly_44 cn_12 (Nat.le_of_ble_eq_true rfl) rfl rfl (Nat.le_of_ble_eq_true rfl) ?_
  refine V.iload_n (pc := 4) dX12_walks_4 rfl ?_
  refine V.istore_n (lv' := [some (.ref 44), some (.int l1), some (.int l2), some (.int l2), none]) (pc := 5) dX12_walks_5 (Nat.le_of_ble_eq_true rfl) rfl rfl ?_
  refine V.iconst (pc := 6) dX12_walks_6 ic_1 ?_
  refine V.istore (lv' := [some (.ref 44), some (.int l1), some (.int l2), some (.int l2), some (.int 1)]) (pc := 7) dX12_walks_7 (Nat.le_of_ble_eq_true rfl) rfl rfl ?_
  refine V.weak (lv' := [some (.ref 44), some (.int l1), none, some (.int l2), some (.int 1)]) (And.intro rfl (And.intro rfl (And.intro rfl (And.intro rfl trivial)))) ?_
  exact t_X12_walks_L9 hd FU l1 l2 1 w1 _ _ h
theorem dX12_character_0 : decode cX12_character 0 = .ok (.iload_n 1, 1) := by decide +kernel
theorem dX12_character_1 : decode cX12_character 1 = .ok (.invokestatic 246, 3) := by decide +kernel
theorem dX12_character_4 : decode cX12_character 4 = .ok (.ifCond .eq 15, 3) := by decide +kernel
theorem dX12_character_7 : decode cX12_character 7 = .ok (.iload_n 2, 1) := by decide +kernel
theorem dX12_character_8 : decode cX12_character 8 = .ok (.ifCond .lt 11, 3) := by decide +kernel
theorem dX12_character_11 : decode cX12_character 11 = .ok (.aload_n 0, 1) := by decide +kernel
theorem dX12_character_12 : decode cX12_character 12 = .ok (.iload_n 3, 1) := by decide +kernel
theorem dX12_character_13 : decode cX12_character 13 = .ok (.invokevirtual 163, 3) := by decide +kernel
theorem dX12_character_16 : decode cX12_character 16 = .ok (.ifCond .ne 5, 3) := by decide +kernel
theorem dX12_character_19 : decode cX12_character 19 = .ok (.iconst (-1), 1) := by decide +kernel
theorem dX12_character_20 : decode cX12_character 20 = .ok (.ireturn, 1) := by decide +kernel
theorem dX12_character_21 : decode cX12_character 21 = .ok (.aload_n 0, 1) := by decide +kernel
theorem dX12_character_22 : decode cX12_character 22 = .ok (.iload_n 1, 1) := by decide +kernel
theorem dX12_character_23 : decode cX12_character 23 = .ok (.iload_n 2, 1) := by decide +kernel
theorem dX12_character_24 : decode cX12_character 24 = .ok (.invokevirtual 249, 3) := by decide +kernel
theorem dX12_character_27 : decode cX12_character 27 = .ok (.ifCond .ge 8, 3) := by decide +kernel
theorem dX12_character_30 : decode cX12_character 30 = .ok (.bipush (-2), 2) := by decide +kernel
theorem dX12_character_32 : decode cX12_character 32 = .ok (.goto 9, 3) := by decide +kernel
theorem dX12_character_35 : decode cX12_character 35 = .ok (.aload_n 0, 1) := by decide +kernel
theorem dX12_character_36 : decode cX12_character 36 = .ok (.getfield 66, 3) := by decide +kernel
theorem dX12_character_39 : decode cX12_character 39 = .ok (.iload_n 3, 1) := by decide +kernel
theorem dX12_character_40 : decode cX12_character 40 = .ok (.iaload, 1) := by decide +kernel
theorem dX12_character_41 : decode cX12_character 41 = .ok (.ireturn, 1) := by decide +kernel
def f_X12_character (l1 : Int32) (l2 : Int32) (l3 : Int32) (w : Wd) : Option (Int32 × Wd) :=
  if (f_X12_isRing l1) = 0 then
    some ((-1), w)
  else
    if l2 < 0 then
      some ((-1), w)
    else
      if (f_X12_isElement l3 w) = 0 then
        some ((-1), w)
      else
        bnd2 (f_X12_walks l1 l2 w) fun x1 w2 =>
        if 0 ≤ x1 then
          rdI w2 62 16 l3 fun x3 =>
          some (x3, w2)
        else
          some ((-2), w2)
set_option maxHeartbeats 4000000 in
set_option maxRecDepth 100000 in
theorem ok_X12_character {G : GT} {d : Nat} (hd : 3 ≤ d) {w : Wd} (l1 : Int32) (l2 : Int32) (l3 : Int32) {r : Int32} {w' : Wd} (h : f_X12_character l1 l2 l3 w = some (r, w')) : uC G yX12_character mX12_character d [.ref 44, .int l1, .int l2, .int l3] w (some (.int r)) w' := by
  obtain ⟨d, rfl⟩ : ∃ e, d = e + 1 := ⟨d - 1, by omega⟩
  unfold f_X12_character at h
  refine uC_of (lv := [some (.ref 44), some (.int l1), some (.int l2), some (.int l3)]) 0 pn_X12 ⟨rfl, rfl⟩ (Nat.le_of_ble_eq_true rfl) rfl ?_
  refine V.iload_n (pc := 0) dX12_character_0 rfl ?_
  refine U.callS (pc := 1) (As := [.int l1]) (st := []) dX12_character_1 l_RX12_246 (ok_X12_isRing (by omega) l1 ) (Nat.le_of_ble_eq_true rfl) rfl rfl (Nat.le_of_ble_eq_true rfl) ?_
  rcases ite_e h with ⟨c, h⟩ | ⟨c, h⟩
  · refine V.if_eq_t (t := 19) (pc := 4) dX12_character_4 (by decide) c ?_
    refine V.iconst (pc := 19) dX12_character_19 ic_m1 ?_
    obtain ⟨rfl, rfl⟩ := Prod.mk.inj (Option.some.inj h)
    exact V.iret (pc := 20) dX12_character_20 rfl (Nat.le_refl _) (Nat.le_refl _)
  · refine V.if_eq_f (t := 19) (pc := 4) dX12_character_4 (by decide) c ?_
    refine V.iload_n (pc := 7) dX12_character_7 rfl ?_
    rcases ite_e h with ⟨c, h⟩ | ⟨c, h⟩
    · refine V.if_lt_t (t := 19) (pc := 8) dX12_character_8 (by decide) c ?_
      refine V.iconst (pc := 19) dX12_character_19 ic_m1 ?_
      obtain ⟨rfl, rfl⟩ := Prod.mk.inj (Option.some.inj h)
      exact V.iret (pc := 20) dX12_character_20 rfl (Nat.le_refl _) (Nat.le_refl _)
    · refine V.if_lt_f (t := 19) (pc := 8) dX12_character_8 (by decide) c ?_
      refine V.aload_n (pc := 11) dX12_character_11 rfl ?_
      refine V.iload_n (pc := 12) dX12_character_12 rfl ?_
      refine U.callV (pc := 13) (As := [.int l3]) (st := []) dX12_character_13 l_RX12_163 (ok_X12_isElement (by omega) l3 ) lx_44 ly_44 cn_12 (Nat.le_of_ble_eq_true rfl) rfl rfl (Nat.le_of_ble_eq_true rfl) ?_
      rcases ite_e h with ⟨c, h⟩ | ⟨c, h⟩
      · refine V.if_ne_f (t := 21) (pc := 16) dX12_character_16 (by decide) c ?_
        refine V.iconst (pc := 19) dX12_character_19 ic_m1 ?_
        obtain ⟨rfl, rfl⟩ := Prod.mk.inj (Option.some.inj h)
        exact V.iret (pc := 20) dX12_character_20 rfl (Nat.le_refl _) (Nat.le_refl _)
      · refine V.if_ne_t (t := 21) (pc := 16) dX12_character_16 (by decide) c ?_
        refine V.aload_n (pc := 21) dX12_character_21 rfl ?_
        refine V.iload_n (pc := 22) dX12_character_22 rfl ?_
        refine V.iload_n (pc := 23) dX12_character_23 rfl ?_
        obtain ⟨x1, w2, ew2, h⟩ := bnd2_e h
        refine U.callV (pc := 24) (As := [.int l1, .int l2]) (st := []) dX12_character_24 l_RX12_249 (ok_X12_walks (by omega) l1 l2 ew2) lx_44 ly_44 cn_12 (Nat.le_of_ble_eq_true rfl) rfl rfl (Nat.le_of_ble_eq_true rfl) ?_
        rcases ite_e h with ⟨c, h⟩ | ⟨c, h⟩
        · refine V.if_ge_t (t := 35) (pc := 27) dX12_character_27 (by decide) c ?_
          refine V.aload_n (pc := 35) dX12_character_35 rfl ?_
          refine V.getR (t := 62) (pc := 36) dX12_character_36 f_RX12_66 k_cl12 lx_44 ly_44 rb_12_23 rr_44_23 ?_
          refine V.iload_n (pc := 39) dX12_character_39 rfl ?_
          obtain ⟨x3, ix3, ex3, h⟩ := rdI_e h
          refine V.ialdX (pc := 40) dX12_character_40 lx_62 ly_62 ix3 ex3 ?_
          obtain ⟨rfl, rfl⟩ := Prod.mk.inj (Option.some.inj h)
          exact V.iret (pc := 41) dX12_character_41 rfl (Nat.le_refl _) (Nat.le_refl _)
        · refine V.if_ge_f (t := 35) (pc := 27) dX12_character_27 (by decide) c ?_
          refine V.bipush (pc := 30) dX12_character_30 bp_m2 ?_
          refine V.goto (t := 41) (pc := 32) dX12_character_32 (by decide) ?_
          obtain ⟨rfl, rfl⟩ := Prod.mk.inj (Option.some.inj h)
          exact V.iret (pc := 41) dX12_character_41 rfl (Nat.le_refl _) (Nat.le_refl _)
theorem dX5_liftOf_0 : decode cX5_liftOf 0 = .ok (.iconst 0, 1) := by decide +kernel
theorem dX5_liftOf_1 : decode cX5_liftOf 1 = .ok (.istore_n 3, 1) := by decide +kernel
theorem dX5_liftOf_2 : decode cX5_liftOf 2 = .ok (.iconst 0, 1) := by decide +kernel
theorem dX5_liftOf_3 : decode cX5_liftOf 3 = .ok (.istore 4, 2) := by decide +kernel
theorem dX5_liftOf_5 : decode cX5_liftOf 5 = .ok (.iload 4, 2) := by decide +kernel
theorem dX5_liftOf_7 : decode cX5_liftOf 7 = .ok (.aload_n 0, 1) := by decide +kernel
theorem dX5_liftOf_8 : decode cX5_liftOf 8 = .ok (.getfield 15, 3) := by decide +kernel
theorem dX5_liftOf_11 : decode cX5_liftOf 11 = .ok (.getfield 67, 3) := by decide +kernel
theorem dX5_liftOf_14 : decode cX5_liftOf 14 = .ok (.if_icmp .ge 30, 3) := by decide +kernel
theorem dX5_liftOf_17 : decode cX5_liftOf 17 = .ok (.iload_n 2, 1) := by decide +kernel
theorem dX5_liftOf_18 : decode cX5_liftOf 18 = .ok (.aload_n 0, 1) := by decide +kernel
theorem dX5_liftOf_19 : decode cX5_liftOf 19 = .ok (.iload_n 1, 1) := by decide +kernel
theorem dX5_liftOf_20 : decode cX5_liftOf 20 = .ok (.iload 4, 2) := by decide +kernel
theorem dX5_liftOf_22 : decode cX5_liftOf 22 = .ok (.invokevirtual 72, 3) := by decide +kernel
theorem dX5_liftOf_25 : decode cX5_liftOf 25 = .ok (.ishr, 1) := by decide +kernel
theorem dX5_liftOf_26 : decode cX5_liftOf 26 = .ok (.iconst 1, 1) := by decide +kernel
theorem dX5_liftOf_27 : decode cX5_liftOf 27 = .ok (.iand, 1) := by decide +kernel
theorem dX5_liftOf_28 : decode cX5_liftOf 28 = .ok (.ifCond .eq 10, 3) := by decide +kernel
theorem dX5_liftOf_31 : decode cX5_liftOf 31 = .ok (.iload_n 3, 1) := by decide +kernel
theorem dX5_liftOf_32 : decode cX5_liftOf 32 = .ok (.iconst 1, 1) := by decide +kernel
theorem dX5_liftOf_33 : decode cX5_liftOf 33 = .ok (.iload 4, 2) := by decide +kernel
theorem dX5_liftOf_35 : decode cX5_liftOf 35 = .ok (.ishl, 1) := by decide +kernel
theorem dX5_liftOf_36 : decode cX5_liftOf 36 = .ok (.ior, 1) := by decide +kernel
theorem dX5_liftOf_37 : decode cX5_liftOf 37 = .ok (.istore_n 3, 1) := by decide +kernel
theorem dX5_liftOf_38 : decode cX5_liftOf 38 = .ok (.iinc 4 1, 3) := by decide +kernel
theorem dX5_liftOf_41 : decode cX5_liftOf 41 = .ok (.goto (-36), 3) := by decide +kernel
theorem dX5_liftOf_44 : decode cX5_liftOf 44 = .ok (.iload_n 3, 1) := by decide +kernel
theorem dX5_liftOf_45 : decode cX5_liftOf 45 = .ok (.ireturn, 1) := by decide +kernel
def f_X5_liftOf_B5b (k5 : Int32 → Int32 → Int32 → Int32 → Wd → Option Int32) (l1 : Int32) (l2 : Int32) (l3 : Int32) (l4 : Int32) (w : Wd) : Option Int32 :=
  if (w.1 6 7) ≤ l4 then
    some l3
  else
    bnd (f_X5_valueOf l1 l4 w) fun x1 =>
    if ((l2 >>> (x1 &&& 31)) &&& 1) = 0 then
      k5 l1 l2 l3 (l4 + 1) w
    else
      k5 l1 l2 (l3 ||| (1 <<< (l4 &&& 31))) (l4 + 1) w
def f_X5_liftOf_L5 (n : Nat) : Int32 → Int32 → Int32 → Int32 → Wd → Option Int32 :=
  Nat.rec (fun _ _ _ _ _ => none) (fun _ k => f_X5_liftOf_B5b k) n
set_option maxHeartbeats 4000000 in
set_option maxRecDepth 100000 in
theorem t_X5_liftOf_L5 {G : GT} {d : Nat} {w : Wd} (hd : 1 ≤ d + 1)  : ∀ (n : Nat) (l1 : Int32) (l2 : Int32) (l3 : Int32) (l4 : Int32) (r : Int32), f_X5_liftOf_L5 n l1 l2 l3 l4 w = some r → U (vf G mX5_liftOf (d + 1)) 5 [some (.ref 32), some (.int l1), some (.int l2), some (.int l3), some (.int l4)] [] w (some (.int r), 70, r0, w) := by
  intro n
  induction n with
  | zero => intro l1 l2 l3 l4 r h; cases h
  | succ n h5 =>
    intro l1 l2 l3 l4 r h
    have h : f_X5_liftOf_B5b (f_X5_liftOf_L5 n) l1 l2 l3 l4 w = some r := h
    unfold f_X5_liftOf_B5b at h
    refine V.iload (pc := 5) dX5_liftOf_5 rfl ?_
    refine V.aload_n (pc := 7) dX5_liftOf_7 rfl ?_
    refine V.getR (t := 6) (pc := 8) dX5_liftOf_8 f_RX5_15 k_cl5 lx_32 ly_32 rb_5_0 rr_32_0 ?_
    refine V.getI (pc := 11) dX5_liftOf_11 f_RX5_67 k_cl4 lx_6 ly_6 rb_4_7 ?_
    rcases ite_e h with ⟨c, h⟩ | ⟨c, h⟩
    · refine V.icmp_ge_t (t := 44) (pc := 14) dX5_liftOf_14 (by decide) c ?_
      refine V.iload_n (pc := 44) dX5_liftOf_44 rfl ?_
      obtain rfl := Option.some.inj h
      exact V.iret (pc := 45) dX5_liftOf_45 rfl (Nat.le_refl _) (Nat.le_refl _)
    · refine V.icmp_ge_f (t := 44) (pc := 14) dX5_liftOf_14 (by decide) c ?_
      refine V.iload_n (pc := 17) dX5_liftOf_17 rfl ?_
      refine V.aload_n (pc := 18) dX5_liftOf_18 rfl ?_
      refine V.iload_n (pc := 19) dX5_liftOf_19 rfl ?_
      refine V.iload (pc := 20) dX5_liftOf_20 rfl ?_
      obtain ⟨x1, ex1, h⟩ := bnd_e h
      refine U.callV (pc := 22) (As := [.int l1, .int l4]) (st := [.int l2]) dX5_liftOf_22 l_RX5_72 (ok_X5_valueOf (by omega) l1 l4 ex1) lx_32 ly_32 cn_5 (Nat.le_of_ble_eq_true rfl) rfl rfl (Nat.le_of_ble_eq_true rfl) ?_
      refine V.ishr (pc := 25) dX5_liftOf_25 ?_
      refine V.iconst (pc := 26) dX5_liftOf_26 ic_1 ?_
      refine V.iand (pc := 27) dX5_liftOf_27 ?_
      rcases ite_e h with ⟨c, h⟩ | ⟨c, h⟩
      · refine V.if_eq_t (t := 38) (pc := 28) dX5_liftOf_28 (by decide) c ?_
        refine V.iinc (lv' := [some (.ref 32), some (.int l1), some (.int l2), some (.int l3), some (.int (l4 + 1))]) (pc := 38) dX5_liftOf_38 (Nat.le_of_ble_eq_true rfl) rfl rfl (v := (l4 + 1)) (by rw [show Int32.ofInt 1 = 1 from by decide]) rfl ?_
        refine V.goto (t := 5) (pc := 41) dX5_liftOf_41 (by decide) ?_
        exact h5 l1 l2 l3 (l4 + 1) _ h
      · refine V.if_eq_f (t := 38) (pc := 28) dX5_liftOf_28 (by decide) c ?_
        refine V.iload_n (pc := 31) dX5_liftOf_31 rfl ?_
        refine V.iconst (pc := 32) dX5_liftOf_32 ic_1 ?_
        refine V.iload (pc := 33) dX5_liftOf_33 rfl ?_
        refine V.ishl (pc := 35) dX5_liftOf_35 ?_
        refine V.ior (pc := 36) dX5_liftOf_36 ?_
        refine V.istore_n (lv' := [some (.ref 32), some (.int l1), some (.int l2), some (.int (l3 ||| (1 <<< (l4 &&& 31)))), some (.int l4)]) (pc := 37) dX5_liftOf_37 (Nat.le_of_ble_eq_true rfl) rfl rfl ?_
        refine V.iinc (lv' := [some (.ref 32), some (.int l1), some (.int l2), some (.int (l3 ||| (1 <<< (l4 &&& 31)))), some (.int (l4 + 1))]) (pc := 38) dX5_liftOf_38 (Nat.le_of_ble_eq_true rfl) rfl rfl (v := (l4 + 1)) (by rw [show Int32.ofInt 1 = 1 from by decide]) rfl ?_
        refine V.goto (t := 5) (pc := 41) dX5_liftOf_41 (by decide) ?_
        exact h5 l1 l2 (l3 ||| (1 <<< (l4 &&& 31))) (l4 + 1) _ h
def f_X5_liftOf (l1 : Int32) (l2 : Int32) (w : Wd) : Option Int32 :=
  f_X5_liftOf_L5  FU l1 l2 0 0 w
set_option maxHeartbeats 4000000 in
set_option maxRecDepth 100000 in
theorem ok_X5_liftOf {G : GT} {d : Nat} (hd : 1 ≤ d) {w : Wd} (l1 : Int32) (l2 : Int32) {r : Int32} (h : f_X5_liftOf l1 l2 w = some r) : uC G yX5_liftOf mX5_liftOf d [.ref 32, .int l1, .int l2] w (some (.int r)) w := by
  obtain ⟨d, rfl⟩ : ∃ e, d = e + 1 := ⟨d - 1, by omega⟩
  unfold f_X5_liftOf at h
  refine uC_of (lv := [some (.ref 32), some (.int l1), some (.int l2), none, none]) 2 pn_X5 ⟨rfl, rfl⟩ (Nat.le_of_ble_eq_true rfl) rfl ?_
  refine V.iconst (pc := 0) dX5_liftOf_0 ic_0 ?_
  refine V.istore_n (lv' := [some (.ref 32), some (.int l1), some (.int l2), some (.int 0), none]) (pc := 1) dX5_liftOf_1 (Nat.le_of_ble_eq_true rfl) rfl rfl ?_
  refine V.iconst (pc := 2) dX5_liftOf_2 ic_0 ?_
  refine V.istore (lv' := [some (.ref 32), some (.int l1), some (.int l2), some (.int 0), some (.int 0)]) (pc := 3) dX5_liftOf_3 (Nat.le_of_ble_eq_true rfl) rfl rfl ?_
  exact t_X5_liftOf_L5 hd FU l1 l2 0 0 _ h
theorem dX11_lift_0 : decode cX11_lift 0 = .ok (.iload_n 1, 1) := by decide +kernel
theorem dX11_lift_1 : decode cX11_lift 1 = .ok (.invokestatic 259, 3) := by decide +kernel
theorem dX11_lift_4 : decode cX11_lift 4 = .ok (.ifCond .eq 15, 3) := by decide +kernel
theorem dX11_lift_7 : decode cX11_lift 7 = .ok (.iload_n 2, 1) := by decide +kernel
theorem dX11_lift_8 : decode cX11_lift 8 = .ok (.ifCond .lt 11, 3) := by decide +kernel
theorem dX11_lift_11 : decode cX11_lift 11 = .ok (.iload_n 3, 1) := by decide +kernel
theorem dX11_lift_12 : decode cX11_lift 12 = .ok (.iconst (-1), 1) := by decide +kernel
theorem dX11_lift_13 : decode cX11_lift 13 = .ok (.iload_n 1, 1) := by decide +kernel
theorem dX11_lift_14 : decode cX11_lift 14 = .ok (.ishl, 1) := by decide +kernel
theorem dX11_lift_15 : decode cX11_lift 15 = .ok (.iand, 1) := by decide +kernel
theorem dX11_lift_16 : decode cX11_lift 16 = .ok (.ifCond .eq 5, 3) := by decide +kernel
theorem dX11_lift_19 : decode cX11_lift 19 = .ok (.iconst (-1), 1) := by decide +kernel
theorem dX11_lift_20 : decode cX11_lift 20 = .ok (.ireturn, 1) := by decide +kernel
theorem dX11_lift_21 : decode cX11_lift 21 = .ok (.iload_n 2, 1) := by decide +kernel
theorem dX11_lift_22 : decode cX11_lift 22 = .ok (.aload_n 0, 1) := by decide +kernel
theorem dX11_lift_23 : decode cX11_lift 23 = .ok (.getfield 67, 3) := by decide +kernel
theorem dX11_lift_26 : decode cX11_lift 26 = .ok (.iload_n 1, 1) := by decide +kernel
theorem dX11_lift_27 : decode cX11_lift 27 = .ok (.invokevirtual 262, 3) := by decide +kernel
theorem dX11_lift_30 : decode cX11_lift 30 = .ok (.if_icmp .ge 15, 3) := by decide +kernel
theorem dX11_lift_33 : decode cX11_lift 33 = .ok (.aload_n 0, 1) := by decide +kernel
theorem dX11_lift_34 : decode cX11_lift 34 = .ok (.getfield 67, 3) := by decide +kernel
theorem dX11_lift_37 : decode cX11_lift 37 = .ok (.iload_n 2, 1) := by decide +kernel
theorem dX11_lift_38 : decode cX11_lift 38 = .ok (.iload_n 3, 1) := by decide +kernel
theorem dX11_lift_39 : decode cX11_lift 39 = .ok (.invokevirtual 268, 3) := by decide +kernel
theorem dX11_lift_42 : decode cX11_lift 42 = .ok (.goto 5, 3) := by decide +kernel
theorem dX11_lift_45 : decode cX11_lift 45 = .ok (.bipush (-2), 2) := by decide +kernel
theorem dX11_lift_47 : decode cX11_lift 47 = .ok (.ireturn, 1) := by decide +kernel
def f_X11_lift (l1 : Int32) (l2 : Int32) (l3 : Int32) (w : Wd) : Option (Int32 × Wd) :=
  if (f_X11_isRing l1) = 0 then
    some ((-1), w)
  else
    if l2 < 0 then
      some ((-1), w)
    else
      if (l3 &&& ((-1) <<< (l1 &&& 31))) = 0 then
        bnd2 (f_X5_totalInto l1 w) fun x1 w2 =>
        if x1 ≤ l2 then
          some ((-2), w2)
        else
          bnd (f_X5_liftOf l2 l3 w2) fun x3 =>
          some (x3, w2)
      else
        some ((-1), w)
set_option maxHeartbeats 4000000 in
set_option maxRecDepth 100000 in
theorem ok_X11_lift {G : GT} {d : Nat} (hd : 29 ≤ d) {w : Wd} (l1 : Int32) (l2 : Int32) (l3 : Int32) {r : Int32} {w' : Wd} (h : f_X11_lift l1 l2 l3 w = some (r, w')) : uC G yX11_lift mX11_lift d [.ref 0, .int l1, .int l2, .int l3] w (some (.int r)) w' := by
  obtain ⟨d, rfl⟩ : ∃ e, d = e + 1 := ⟨d - 1, by omega⟩
  unfold f_X11_lift at h
  refine uC_of (lv := [some (.ref 0), some (.int l1), some (.int l2), some (.int l3)]) 0 pn_X11 ⟨rfl, rfl⟩ (Nat.le_of_ble_eq_true rfl) rfl ?_
  refine V.iload_n (pc := 0) dX11_lift_0 rfl ?_
  refine U.callS (pc := 1) (As := [.int l1]) (st := []) dX11_lift_1 l_RX11_259 (ok_X11_isRing (by omega) l1 ) (Nat.le_of_ble_eq_true rfl) rfl rfl (Nat.le_of_ble_eq_true rfl) ?_
  rcases ite_e h with ⟨c, h⟩ | ⟨c, h⟩
  · refine V.if_eq_t (t := 19) (pc := 4) dX11_lift_4 (by decide) c ?_
    refine V.iconst (pc := 19) dX11_lift_19 ic_m1 ?_
    obtain ⟨rfl, rfl⟩ := Prod.mk.inj (Option.some.inj h)
    exact V.iret (pc := 20) dX11_lift_20 rfl (Nat.le_refl _) (Nat.le_refl _)
  · refine V.if_eq_f (t := 19) (pc := 4) dX11_lift_4 (by decide) c ?_
    refine V.iload_n (pc := 7) dX11_lift_7 rfl ?_
    rcases ite_e h with ⟨c, h⟩ | ⟨c, h⟩
    · refine V.if_lt_t (t := 19) (pc := 8) dX11_lift_8 (by decide) c ?_
      refine V.iconst (pc := 19) dX11_lift_19 ic_m1 ?_
      obtain ⟨rfl, rfl⟩ := Prod.mk.inj (Option.some.inj h)
      exact V.iret (pc := 20) dX11_lift_20 rfl (Nat.le_refl _) (Nat.le_refl _)
    · refine V.if_lt_f (t := 19) (pc := 8) dX11_lift_8 (by decide) c ?_
      refine V.iload_n (pc := 11) dX11_lift_11 rfl ?_
      refine V.iconst (pc := 12) dX11_lift_12 ic_m1 ?_
      refine V.iload_n (pc := 13) dX11_lift_13 rfl ?_
      refine V.ishl (pc := 14) dX11_lift_14 ?_
      refine V.iand (pc := 15) dX11_lift_15 ?_
      rcases ite_e h with ⟨c, h⟩ | ⟨c, h⟩
      · refine V.if_eq_t (t := 21) (pc := 16) dX11_lift_16 (by decide) c ?_
        refine V.iload_n (pc := 21) dX11_lift_21 rfl ?_
        refine V.aload_n (pc := 22) dX11_lift_22 rfl ?_
        refine V.getR (t := 32) (pc := 23) dX11_lift_23 f_RX11_67 k_cl11 lx_0 ly_0 rb_11_7 rr_0_7 ?_
        refine V.iload_n (pc := 26) dX11_lift_26 rfl ?_
        obtain ⟨x1, w2, ew2, h⟩ := bnd2_e h
        refine U.callV (pc := 27) (As := [.int l1]) (st := [.int l2]) dX11_lift_27 l_RX11_262 (ok_X5_totalInto (by omega) l1 ew2) lx_32 ly_32 cn_5 (Nat.le_of_ble_eq_true rfl) rfl rfl (Nat.le_of_ble_eq_true rfl) ?_
        rcases ite_e h with ⟨c, h⟩ | ⟨c, h⟩
        · refine V.icmp_ge_t (t := 45) (pc := 30) dX11_lift_30 (by decide) c ?_
          refine V.bipush (pc := 45) dX11_lift_45 bp_m2 ?_
          obtain ⟨rfl, rfl⟩ := Prod.mk.inj (Option.some.inj h)
          exact V.iret (pc := 47) dX11_lift_47 rfl (Nat.le_refl _) (Nat.le_refl _)
        · refine V.icmp_ge_f (t := 45) (pc := 30) dX11_lift_30 (by decide) c ?_
          refine V.aload_n (pc := 33) dX11_lift_33 rfl ?_
          refine V.getR (t := 32) (pc := 34) dX11_lift_34 f_RX11_67 k_cl11 lx_0 ly_0 rb_11_7 rr_0_7 ?_
          refine V.iload_n (pc := 37) dX11_lift_37 rfl ?_
          refine V.iload_n (pc := 38) dX11_lift_38 rfl ?_
          obtain ⟨x3, ex3, h⟩ := bnd_e h
          refine U.callV (pc := 39) (As := [.int l2, .int l3]) (st := []) dX11_lift_39 l_RX11_268 (ok_X5_liftOf (by omega) l2 l3 ex3) lx_32 ly_32 cn_5 (Nat.le_of_ble_eq_true rfl) rfl rfl (Nat.le_of_ble_eq_true rfl) ?_
          refine V.goto (t := 47) (pc := 42) dX11_lift_42 (by decide) ?_
          obtain ⟨rfl, rfl⟩ := Prod.mk.inj (Option.some.inj h)
          exact V.iret (pc := 47) dX11_lift_47 rfl (Nat.le_refl _) (Nat.le_refl _)
      · refine V.if_eq_f (t := 21) (pc := 16) dX11_lift_16 (by decide) c ?_
        refine V.iconst (pc := 19) dX11_lift_19 ic_m1 ?_
        obtain ⟨rfl, rfl⟩ := Prod.mk.inj (Option.some.inj h)
        exact V.iret (pc := 20) dX11_lift_20 rfl (Nat.le_refl _) (Nat.le_refl _)
theorem dX12_liftNow_0 : decode cX12_liftNow 0 = .ok (.iconst 0, 1) := by decide +kernel
theorem dX12_liftNow_1 : decode cX12_liftNow 1 = .ok (.istore_n 2, 1) := by decide +kernel
theorem dX12_liftNow_2 : decode cX12_liftNow 2 = .ok (.iconst 0, 1) := by decide +kernel
theorem dX12_liftNow_3 : decode cX12_liftNow 3 = .ok (.istore_n 3, 1) := by decide +kernel
theorem dX12_liftNow_4 : decode cX12_liftNow 4 = .ok (.iload_n 3, 1) := by decide +kernel
theorem dX12_liftNow_5 : decode cX12_liftNow 5 = .ok (.aload_n 0, 1) := by decide +kernel
theorem dX12_liftNow_6 : decode cX12_liftNow 6 = .ok (.getfield 92, 3) := by decide +kernel
theorem dX12_liftNow_9 : decode cX12_liftNow 9 = .ok (.if_icmp .ge 28, 3) := by decide +kernel
theorem dX12_liftNow_12 : decode cX12_liftNow 12 = .ok (.iload_n 1, 1) := by decide +kernel
theorem dX12_liftNow_13 : decode cX12_liftNow 13 = .ok (.aload_n 0, 1) := by decide +kernel
theorem dX12_liftNow_14 : decode cX12_liftNow 14 = .ok (.getfield 66, 3) := by decide +kernel
theorem dX12_liftNow_17 : decode cX12_liftNow 17 = .ok (.iload_n 3, 1) := by decide +kernel
theorem dX12_liftNow_18 : decode cX12_liftNow 18 = .ok (.iaload, 1) := by decide +kernel
theorem dX12_liftNow_19 : decode cX12_liftNow 19 = .ok (.invokestatic 128, 3) := by decide +kernel
theorem dX12_liftNow_22 : decode cX12_liftNow 22 = .ok (.ifCond .eq 9, 3) := by decide +kernel
theorem dX12_liftNow_25 : decode cX12_liftNow 25 = .ok (.iload_n 2, 1) := by decide +kernel
theorem dX12_liftNow_26 : decode cX12_liftNow 26 = .ok (.iconst 1, 1) := by decide +kernel
theorem dX12_liftNow_27 : decode cX12_liftNow 27 = .ok (.iload_n 3, 1) := by decide +kernel
theorem dX12_liftNow_28 : decode cX12_liftNow 28 = .ok (.ishl, 1) := by decide +kernel
theorem dX12_liftNow_29 : decode cX12_liftNow 29 = .ok (.ior, 1) := by decide +kernel
theorem dX12_liftNow_30 : decode cX12_liftNow 30 = .ok (.istore_n 2, 1) := by decide +kernel
theorem dX12_liftNow_31 : decode cX12_liftNow 31 = .ok (.iinc 3 1, 3) := by decide +kernel
theorem dX12_liftNow_34 : decode cX12_liftNow 34 = .ok (.goto (-30), 3) := by decide +kernel
theorem dX12_liftNow_37 : decode cX12_liftNow 37 = .ok (.iload_n 2, 1) := by decide +kernel
theorem dX12_liftNow_38 : decode cX12_liftNow 38 = .ok (.ireturn, 1) := by decide +kernel
def f_X12_liftNow_B4b (k4 : Int32 → Int32 → Int32 → Wd → Option Int32) (l1 : Int32) (l2 : Int32) (l3 : Int32) (w : Wd) : Option Int32 :=
  if (w.1 44 1) ≤ l3 then
    some l2
  else
    rdI w 62 16 l3 fun x1 =>
    if (f_X12_has l1 x1) = 0 then
      k4 l1 l2 (l3 + 1) w
    else
      k4 l1 (l2 ||| (1 <<< (l3 &&& 31))) (l3 + 1) w
def f_X12_liftNow_L4 (n : Nat) : Int32 → Int32 → Int32 → Wd → Option Int32 :=
  Nat.rec (fun _ _ _ _ => none) (fun _ k => f_X12_liftNow_B4b k) n
set_option maxHeartbeats 4000000 in
set_option maxRecDepth 100000 in
theorem t_X12_liftNow_L4 {G : GT} {d : Nat} {w : Wd} (hd : 1 ≤ d + 1)  : ∀ (n : Nat) (l1 : Int32) (l2 : Int32) (l3 : Int32) (r : Int32), f_X12_liftNow_L4 n l1 l2 l3 w = some r → U (vf G mX12_liftNow (d + 1)) 4 [some (.ref 44), some (.int l1), some (.int l2), some (.int l3)] [] w (some (.int r), 70, r0, w) := by
  intro n
  induction n with
  | zero => intro l1 l2 l3 r h; cases h
  | succ n h4 =>
    intro l1 l2 l3 r h
    have h : f_X12_liftNow_B4b (f_X12_liftNow_L4 n) l1 l2 l3 w = some r := h
    unfold f_X12_liftNow_B4b at h
    refine V.iload_n (pc := 4) dX12_liftNow_4 rfl ?_
    refine V.aload_n (pc := 5) dX12_liftNow_5 rfl ?_
    refine V.getI (pc := 6) dX12_liftNow_6 f_RX12_92 k_cl12 lx_44 ly_44 rb_12_1 ?_
    rcases ite_e h with ⟨c, h⟩ | ⟨c, h⟩
    · refine V.icmp_ge_t (t := 37) (pc := 9) dX12_liftNow_9 (by decide) c ?_
      refine V.iload_n (pc := 37) dX12_liftNow_37 rfl ?_
      obtain rfl := Option.some.inj h
      exact V.iret (pc := 38) dX12_liftNow_38 rfl (Nat.le_refl _) (Nat.le_refl _)
    · refine V.icmp_ge_f (t := 37) (pc := 9) dX12_liftNow_9 (by decide) c ?_
      refine V.iload_n (pc := 12) dX12_liftNow_12 rfl ?_
      refine V.aload_n (pc := 13) dX12_liftNow_13 rfl ?_
      refine V.getR (t := 62) (pc := 14) dX12_liftNow_14 f_RX12_66 k_cl12 lx_44 ly_44 rb_12_23 rr_44_23 ?_
      refine V.iload_n (pc := 17) dX12_liftNow_17 rfl ?_
      obtain ⟨x1, ix1, ex1, h⟩ := rdI_e h
      refine V.ialdX (pc := 18) dX12_liftNow_18 lx_62 ly_62 ix1 ex1 ?_
      refine U.callS (pc := 19) (As := [.int l1, .int x1]) (st := []) dX12_liftNow_19 l_RX12_128 (ok_X12_has (by omega) l1 x1 ) (Nat.le_of_ble_eq_true rfl) rfl rfl (Nat.le_of_ble_eq_true rfl) ?_
      rcases ite_e h with ⟨c, h⟩ | ⟨c, h⟩
      · refine V.if_eq_t (t := 31) (pc := 22) dX12_liftNow_22 (by decide) c ?_
        refine V.iinc (lv' := [some (.ref 44), some (.int l1), some (.int l2), some (.int (l3 + 1))]) (pc := 31) dX12_liftNow_31 (Nat.le_of_ble_eq_true rfl) rfl rfl (v := (l3 + 1)) (by rw [show Int32.ofInt 1 = 1 from by decide]) rfl ?_
        refine V.goto (t := 4) (pc := 34) dX12_liftNow_34 (by decide) ?_
        exact h4 l1 l2 (l3 + 1) _ h
      · refine V.if_eq_f (t := 31) (pc := 22) dX12_liftNow_22 (by decide) c ?_
        refine V.iload_n (pc := 25) dX12_liftNow_25 rfl ?_
        refine V.iconst (pc := 26) dX12_liftNow_26 ic_1 ?_
        refine V.iload_n (pc := 27) dX12_liftNow_27 rfl ?_
        refine V.ishl (pc := 28) dX12_liftNow_28 ?_
        refine V.ior (pc := 29) dX12_liftNow_29 ?_
        refine V.istore_n (lv' := [some (.ref 44), some (.int l1), some (.int (l2 ||| (1 <<< (l3 &&& 31)))), some (.int l3)]) (pc := 30) dX12_liftNow_30 (Nat.le_of_ble_eq_true rfl) rfl rfl ?_
        refine V.iinc (lv' := [some (.ref 44), some (.int l1), some (.int (l2 ||| (1 <<< (l3 &&& 31)))), some (.int (l3 + 1))]) (pc := 31) dX12_liftNow_31 (Nat.le_of_ble_eq_true rfl) rfl rfl (v := (l3 + 1)) (by rw [show Int32.ofInt 1 = 1 from by decide]) rfl ?_
        refine V.goto (t := 4) (pc := 34) dX12_liftNow_34 (by decide) ?_
        exact h4 l1 (l2 ||| (1 <<< (l3 &&& 31))) (l3 + 1) _ h
def f_X12_liftNow (l1 : Int32) (w : Wd) : Option Int32 :=
  f_X12_liftNow_L4  FU l1 0 0 w
set_option maxHeartbeats 4000000 in
set_option maxRecDepth 100000 in
theorem ok_X12_liftNow {G : GT} {d : Nat} (hd : 1 ≤ d) {w : Wd} (l1 : Int32) {r : Int32} (h : f_X12_liftNow l1 w = some r) : uC G yX12_liftNow mX12_liftNow d [.ref 44, .int l1] w (some (.int r)) w := by
  obtain ⟨d, rfl⟩ : ∃ e, d = e + 1 := ⟨d - 1, by omega⟩
  unfold f_X12_liftNow at h
  refine uC_of (lv := [some (.ref 44), some (.int l1), none, none]) 2 pn_X12 ⟨rfl, rfl⟩ (Nat.le_of_ble_eq_true rfl) rfl ?_
  refine V.iconst (pc := 0) dX12_liftNow_0 ic_0 ?_
  refine V.istore_n (lv' := [some (.ref 44), some (.int l1), some (.int 0), none]) (pc := 1) dX12_liftNow_1 (Nat.le_of_ble_eq_true rfl) rfl rfl ?_
  refine V.iconst (pc := 2) dX12_liftNow_2 ic_0 ?_
  refine V.istore_n (lv' := [some (.ref 44), some (.int l1), some (.int 0), some (.int 0)]) (pc := 3) dX12_liftNow_3 (Nat.le_of_ble_eq_true rfl) rfl rfl ?_
  exact t_X12_liftNow_L4 hd FU l1 0 0 _ h
theorem dX12_lift_0 : decode cX12_lift 0 = .ok (.iload_n 1, 1) := by decide +kernel
theorem dX12_lift_1 : decode cX12_lift 1 = .ok (.invokestatic 246, 3) := by decide +kernel
theorem dX12_lift_4 : decode cX12_lift 4 = .ok (.ifCond .eq 20, 3) := by decide +kernel
theorem dX12_lift_7 : decode cX12_lift 7 = .ok (.iload_n 2, 1) := by decide +kernel
theorem dX12_lift_8 : decode cX12_lift 8 = .ok (.ifCond .lt 16, 3) := by decide +kernel
theorem dX12_lift_11 : decode cX12_lift 11 = .ok (.iload_n 3, 1) := by decide +kernel
theorem dX12_lift_12 : decode cX12_lift 12 = .ok (.iconst 0, 1) := by decide +kernel
theorem dX12_lift_13 : decode cX12_lift 13 = .ok (.iconst 1, 1) := by decide +kernel
theorem dX12_lift_14 : decode cX12_lift 14 = .ok (.iload_n 1, 1) := by decide +kernel
theorem dX12_lift_15 : decode cX12_lift 15 = .ok (.ishl, 1) := by decide +kernel
theorem dX12_lift_16 : decode cX12_lift 16 = .ok (.iconst 1, 1) := by decide +kernel
theorem dX12_lift_17 : decode cX12_lift 17 = .ok (.isub, 1) := by decide +kernel
theorem dX12_lift_18 : decode cX12_lift 18 = .ok (.invokestatic 139, 3) := by decide +kernel
theorem dX12_lift_21 : decode cX12_lift 21 = .ok (.ifCond .ne 5, 3) := by decide +kernel
theorem dX12_lift_24 : decode cX12_lift 24 = .ok (.iconst (-1), 1) := by decide +kernel
theorem dX12_lift_25 : decode cX12_lift 25 = .ok (.ireturn, 1) := by decide +kernel
theorem dX12_lift_26 : decode cX12_lift 26 = .ok (.aload_n 0, 1) := by decide +kernel
theorem dX12_lift_27 : decode cX12_lift 27 = .ok (.iload_n 1, 1) := by decide +kernel
theorem dX12_lift_28 : decode cX12_lift 28 = .ok (.iload_n 2, 1) := by decide +kernel
theorem dX12_lift_29 : decode cX12_lift 29 = .ok (.invokevirtual 249, 3) := by decide +kernel
theorem dX12_lift_32 : decode cX12_lift 32 = .ok (.ifCond .ge 8, 3) := by decide +kernel
theorem dX12_lift_35 : decode cX12_lift 35 = .ok (.bipush (-2), 2) := by decide +kernel
theorem dX12_lift_37 : decode cX12_lift 37 = .ok (.goto 8, 3) := by decide +kernel
theorem dX12_lift_40 : decode cX12_lift 40 = .ok (.aload_n 0, 1) := by decide +kernel
theorem dX12_lift_41 : decode cX12_lift 41 = .ok (.iload_n 3, 1) := by decide +kernel
theorem dX12_lift_42 : decode cX12_lift 42 = .ok (.invokevirtual 252, 3) := by decide +kernel
theorem dX12_lift_45 : decode cX12_lift 45 = .ok (.ireturn, 1) := by decide +kernel
def f_X12_lift (l1 : Int32) (l2 : Int32) (l3 : Int32) (w : Wd) : Option (Int32 × Wd) :=
  if (f_X12_isRing l1) = 0 then
    some ((-1), w)
  else
    if l2 < 0 then
      some ((-1), w)
    else
      if (f_X12_in l3 0 ((1 <<< (l1 &&& 31)) - 1)) = 0 then
        some ((-1), w)
      else
        bnd2 (f_X12_walks l1 l2 w) fun x1 w2 =>
        if 0 ≤ x1 then
          bnd (f_X12_liftNow l3 w2) fun x3 =>
          some (x3, w2)
        else
          some ((-2), w2)
set_option maxHeartbeats 4000000 in
set_option maxRecDepth 100000 in
theorem ok_X12_lift {G : GT} {d : Nat} (hd : 3 ≤ d) {w : Wd} (l1 : Int32) (l2 : Int32) (l3 : Int32) {r : Int32} {w' : Wd} (h : f_X12_lift l1 l2 l3 w = some (r, w')) : uC G yX12_lift mX12_lift d [.ref 44, .int l1, .int l2, .int l3] w (some (.int r)) w' := by
  obtain ⟨d, rfl⟩ : ∃ e, d = e + 1 := ⟨d - 1, by omega⟩
  unfold f_X12_lift at h
  refine uC_of (lv := [some (.ref 44), some (.int l1), some (.int l2), some (.int l3)]) 0 pn_X12 ⟨rfl, rfl⟩ (Nat.le_of_ble_eq_true rfl) rfl ?_
  refine V.iload_n (pc := 0) dX12_lift_0 rfl ?_
  refine U.callS (pc := 1) (As := [.int l1]) (st := []) dX12_lift_1 l_RX12_246 (ok_X12_isRing (by omega) l1 ) (Nat.le_of_ble_eq_true rfl) rfl rfl (Nat.le_of_ble_eq_true rfl) ?_
  rcases ite_e h with ⟨c, h⟩ | ⟨c, h⟩
  · refine V.if_eq_t (t := 24) (pc := 4) dX12_lift_4 (by decide) c ?_
    refine V.iconst (pc := 24) dX12_lift_24 ic_m1 ?_
    obtain ⟨rfl, rfl⟩ := Prod.mk.inj (Option.some.inj h)
    exact V.iret (pc := 25) dX12_lift_25 rfl (Nat.le_refl _) (Nat.le_refl _)
  · refine V.if_eq_f (t := 24) (pc := 4) dX12_lift_4 (by decide) c ?_
    refine V.iload_n (pc := 7) dX12_lift_7 rfl ?_
    rcases ite_e h with ⟨c, h⟩ | ⟨c, h⟩
    · refine V.if_lt_t (t := 24) (pc := 8) dX12_lift_8 (by decide) c ?_
      refine V.iconst (pc := 24) dX12_lift_24 ic_m1 ?_
      obtain ⟨rfl, rfl⟩ := Prod.mk.inj (Option.some.inj h)
      exact V.iret (pc := 25) dX12_lift_25 rfl (Nat.le_refl _) (Nat.le_refl _)
    · refine V.if_lt_f (t := 24) (pc := 8) dX12_lift_8 (by decide) c ?_
      refine V.iload_n (pc := 11) dX12_lift_11 rfl ?_
      refine V.iconst (pc := 12) dX12_lift_12 ic_0 ?_
      refine V.iconst (pc := 13) dX12_lift_13 ic_1 ?_
      refine V.iload_n (pc := 14) dX12_lift_14 rfl ?_
      refine V.ishl (pc := 15) dX12_lift_15 ?_
      refine V.iconst (pc := 16) dX12_lift_16 ic_1 ?_
      refine V.isub (pc := 17) dX12_lift_17 ?_
      refine U.callS (pc := 18) (As := [.int l3, .int 0, .int ((1 <<< (l1 &&& 31)) - 1)]) (st := []) dX12_lift_18 l_RX12_139 (ok_X12_in (by omega) l3 0 ((1 <<< (l1 &&& 31)) - 1) ) (Nat.le_of_ble_eq_true rfl) rfl rfl (Nat.le_of_ble_eq_true rfl) ?_
      rcases ite_e h with ⟨c, h⟩ | ⟨c, h⟩
      · refine V.if_ne_f (t := 26) (pc := 21) dX12_lift_21 (by decide) c ?_
        refine V.iconst (pc := 24) dX12_lift_24 ic_m1 ?_
        obtain ⟨rfl, rfl⟩ := Prod.mk.inj (Option.some.inj h)
        exact V.iret (pc := 25) dX12_lift_25 rfl (Nat.le_refl _) (Nat.le_refl _)
      · refine V.if_ne_t (t := 26) (pc := 21) dX12_lift_21 (by decide) c ?_
        refine V.aload_n (pc := 26) dX12_lift_26 rfl ?_
        refine V.iload_n (pc := 27) dX12_lift_27 rfl ?_
        refine V.iload_n (pc := 28) dX12_lift_28 rfl ?_
        obtain ⟨x1, w2, ew2, h⟩ := bnd2_e h
        refine U.callV (pc := 29) (As := [.int l1, .int l2]) (st := []) dX12_lift_29 l_RX12_249 (ok_X12_walks (by omega) l1 l2 ew2) lx_44 ly_44 cn_12 (Nat.le_of_ble_eq_true rfl) rfl rfl (Nat.le_of_ble_eq_true rfl) ?_
        rcases ite_e h with ⟨c, h⟩ | ⟨c, h⟩
        · refine V.if_ge_t (t := 40) (pc := 32) dX12_lift_32 (by decide) c ?_
          refine V.aload_n (pc := 40) dX12_lift_40 rfl ?_
          refine V.iload_n (pc := 41) dX12_lift_41 rfl ?_
          obtain ⟨x3, ex3, h⟩ := bnd_e h
          refine U.callV (pc := 42) (As := [.int l3]) (st := []) dX12_lift_42 l_RX12_252 (ok_X12_liftNow (by omega) l3 ex3) lx_44 ly_44 cn_12 (Nat.le_of_ble_eq_true rfl) rfl rfl (Nat.le_of_ble_eq_true rfl) ?_
          obtain ⟨rfl, rfl⟩ := Prod.mk.inj (Option.some.inj h)
          exact V.iret (pc := 45) dX12_lift_45 rfl (Nat.le_refl _) (Nat.le_refl _)
        · refine V.if_ge_f (t := 40) (pc := 32) dX12_lift_32 (by decide) c ?_
          refine V.bipush (pc := 35) dX12_lift_35 bp_m2 ?_
          refine V.goto (t := 45) (pc := 37) dX12_lift_37 (by decide) ?_
          obtain ⟨rfl, rfl⟩ := Prod.mk.inj (Option.some.inj h)
          exact V.iret (pc := 45) dX12_lift_45 rfl (Nat.le_refl _) (Nat.le_refl _)
theorem dX11_middleOf_0 : decode cX11_middleOf 0 = .ok (.iconst 0, 1) := by decide +kernel
theorem dX11_middleOf_1 : decode cX11_middleOf 1 = .ok (.istore_n 1, 1) := by decide +kernel
theorem dX11_middleOf_2 : decode cX11_middleOf 2 = .ok (.iconst 0, 1) := by decide +kernel
theorem dX11_middleOf_3 : decode cX11_middleOf 3 = .ok (.istore_n 2, 1) := by decide +kernel
theorem dX11_middleOf_4 : decode cX11_middleOf 4 = .ok (.iload_n 2, 1) := by decide +kernel
theorem dX11_middleOf_5 : decode cX11_middleOf 5 = .ok (.iload_n 0, 1) := by decide +kernel
theorem dX11_middleOf_6 : decode cX11_middleOf 6 = .ok (.if_icmp .ge 31, 3) := by decide +kernel
theorem dX11_middleOf_9 : decode cX11_middleOf 9 = .ok (.iconst 3, 1) := by decide +kernel
theorem dX11_middleOf_10 : decode cX11_middleOf 10 = .ok (.iload_n 2, 1) := by decide +kernel
theorem dX11_middleOf_11 : decode cX11_middleOf 11 = .ok (.imul, 1) := by decide +kernel
theorem dX11_middleOf_12 : decode cX11_middleOf 12 = .ok (.iload_n 0, 1) := by decide +kernel
theorem dX11_middleOf_13 : decode cX11_middleOf 13 = .ok (.if_icmp .le 18, 3) := by decide +kernel
theorem dX11_middleOf_16 : decode cX11_middleOf 16 = .ok (.iconst 3, 1) := by decide +kernel
theorem dX11_middleOf_17 : decode cX11_middleOf 17 = .ok (.iload_n 2, 1) := by decide +kernel
theorem dX11_middleOf_18 : decode cX11_middleOf 18 = .ok (.imul, 1) := by decide +kernel
theorem dX11_middleOf_19 : decode cX11_middleOf 19 = .ok (.iconst 2, 1) := by decide +kernel
theorem dX11_middleOf_20 : decode cX11_middleOf 20 = .ok (.iload_n 0, 1) := by decide +kernel
theorem dX11_middleOf_21 : decode cX11_middleOf 21 = .ok (.imul, 1) := by decide +kernel
theorem dX11_middleOf_22 : decode cX11_middleOf 22 = .ok (.if_icmp .gt 9, 3) := by decide +kernel
theorem dX11_middleOf_25 : decode cX11_middleOf 25 = .ok (.iload_n 1, 1) := by decide +kernel
theorem dX11_middleOf_26 : decode cX11_middleOf 26 = .ok (.iconst 1, 1) := by decide +kernel
theorem dX11_middleOf_27 : decode cX11_middleOf 27 = .ok (.iload_n 2, 1) := by decide +kernel
theorem dX11_middleOf_28 : decode cX11_middleOf 28 = .ok (.ishl, 1) := by decide +kernel
theorem dX11_middleOf_29 : decode cX11_middleOf 29 = .ok (.ior, 1) := by decide +kernel
theorem dX11_middleOf_30 : decode cX11_middleOf 30 = .ok (.istore_n 1, 1) := by decide +kernel
theorem dX11_middleOf_31 : decode cX11_middleOf 31 = .ok (.iinc 2 1, 3) := by decide +kernel
theorem dX11_middleOf_34 : decode cX11_middleOf 34 = .ok (.goto (-30), 3) := by decide +kernel
theorem dX11_middleOf_37 : decode cX11_middleOf 37 = .ok (.iload_n 1, 1) := by decide +kernel
theorem dX11_middleOf_38 : decode cX11_middleOf 38 = .ok (.ireturn, 1) := by decide +kernel
def f_X11_middleOf_B4b (k4 : Int32 → Int32 → Int32 → Option Int32) (l0 : Int32) (l1 : Int32) (l2 : Int32) : Option Int32 :=
  if l0 ≤ l2 then
    some l1
  else
    if (3 * l2) ≤ l0 then
      k4 l0 l1 (l2 + 1)
    else
      if (2 * l0) < (3 * l2) then
        k4 l0 l1 (l2 + 1)
      else
        k4 l0 (l1 ||| (1 <<< (l2 &&& 31))) (l2 + 1)
def f_X11_middleOf_L4 (n : Nat) : Int32 → Int32 → Int32 → Option Int32 :=
  Nat.rec (fun _ _ _ => none) (fun _ k => f_X11_middleOf_B4b k) n
set_option maxHeartbeats 4000000 in
set_option maxRecDepth 100000 in
theorem t_X11_middleOf_L4 {G : GT} {d : Nat} {w : Wd} (hd : 0 ≤ d)  : ∀ (n : Nat) (l0 : Int32) (l1 : Int32) (l2 : Int32) (r : Int32), f_X11_middleOf_L4 n l0 l1 l2 = some r → U (vf G mX11_middleOf d) 4 [some (.int l0), some (.int l1), some (.int l2)] [] w (some (.int r), 70, r0, w) := by
  intro n
  induction n with
  | zero => intro l0 l1 l2 r h; cases h
  | succ n h4 =>
    intro l0 l1 l2 r h
    have h : f_X11_middleOf_B4b (f_X11_middleOf_L4 n) l0 l1 l2 = some r := h
    unfold f_X11_middleOf_B4b at h
    refine V.iload_n (pc := 4) dX11_middleOf_4 rfl ?_
    refine V.iload_n (pc := 5) dX11_middleOf_5 rfl ?_
    rcases ite_e h with ⟨c, h⟩ | ⟨c, h⟩
    · refine V.icmp_ge_t (t := 37) (pc := 6) dX11_middleOf_6 (by decide) c ?_
      refine V.iload_n (pc := 37) dX11_middleOf_37 rfl ?_
      obtain rfl := Option.some.inj h
      exact V.iret (pc := 38) dX11_middleOf_38 rfl (Nat.le_refl _) (Nat.le_refl _)
    · refine V.icmp_ge_f (t := 37) (pc := 6) dX11_middleOf_6 (by decide) c ?_
      refine V.iconst (pc := 9) dX11_middleOf_9 ic_3 ?_
      refine V.iload_n (pc := 10) dX11_middleOf_10 rfl ?_
      refine V.imul (pc := 11) dX11_middleOf_11 ?_
      refine V.iload_n (pc := 12) dX11_middleOf_12 rfl ?_
      rcases ite_e h with ⟨c, h⟩ | ⟨c, h⟩
      · refine V.icmp_le_t (t := 31) (pc := 13) dX11_middleOf_13 (by decide) c ?_
        refine V.iinc (lv' := [some (.int l0), some (.int l1), some (.int (l2 + 1))]) (pc := 31) dX11_middleOf_31 (Nat.le_of_ble_eq_true rfl) rfl rfl (v := (l2 + 1)) (by rw [show Int32.ofInt 1 = 1 from by decide]) rfl ?_
        refine V.goto (t := 4) (pc := 34) dX11_middleOf_34 (by decide) ?_
        exact h4 l0 l1 (l2 + 1) _ h
      · refine V.icmp_le_f (t := 31) (pc := 13) dX11_middleOf_13 (by decide) c ?_
        refine V.iconst (pc := 16) dX11_middleOf_16 ic_3 ?_
        refine V.iload_n (pc := 17) dX11_middleOf_17 rfl ?_
        refine V.imul (pc := 18) dX11_middleOf_18 ?_
        refine V.iconst (pc := 19) dX11_middleOf_19 ic_2 ?_
        refine V.iload_n (pc := 20) dX11_middleOf_20 rfl ?_
        refine V.imul (pc := 21) dX11_middleOf_21 ?_
        rcases ite_e h with ⟨c, h⟩ | ⟨c, h⟩
        · refine V.icmp_gt_t (t := 31) (pc := 22) dX11_middleOf_22 (by decide) c ?_
          refine V.iinc (lv' := [some (.int l0), some (.int l1), some (.int (l2 + 1))]) (pc := 31) dX11_middleOf_31 (Nat.le_of_ble_eq_true rfl) rfl rfl (v := (l2 + 1)) (by rw [show Int32.ofInt 1 = 1 from by decide]) rfl ?_
          refine V.goto (t := 4) (pc := 34) dX11_middleOf_34 (by decide) ?_
          exact h4 l0 l1 (l2 + 1) _ h
        · refine V.icmp_gt_f (t := 31) (pc := 22) dX11_middleOf_22 (by decide) c ?_
          refine V.iload_n (pc := 25) dX11_middleOf_25 rfl ?_
          refine V.iconst (pc := 26) dX11_middleOf_26 ic_1 ?_
          refine V.iload_n (pc := 27) dX11_middleOf_27 rfl ?_
          refine V.ishl (pc := 28) dX11_middleOf_28 ?_
          refine V.ior (pc := 29) dX11_middleOf_29 ?_
          refine V.istore_n (lv' := [some (.int l0), some (.int (l1 ||| (1 <<< (l2 &&& 31)))), some (.int l2)]) (pc := 30) dX11_middleOf_30 (Nat.le_of_ble_eq_true rfl) rfl rfl ?_
          refine V.iinc (lv' := [some (.int l0), some (.int (l1 ||| (1 <<< (l2 &&& 31)))), some (.int (l2 + 1))]) (pc := 31) dX11_middleOf_31 (Nat.le_of_ble_eq_true rfl) rfl rfl (v := (l2 + 1)) (by rw [show Int32.ofInt 1 = 1 from by decide]) rfl ?_
          refine V.goto (t := 4) (pc := 34) dX11_middleOf_34 (by decide) ?_
          exact h4 l0 (l1 ||| (1 <<< (l2 &&& 31))) (l2 + 1) _ h
def f_X11_middleOf (l0 : Int32) : Option Int32 :=
  f_X11_middleOf_L4  FU l0 0 0
set_option maxHeartbeats 4000000 in
set_option maxRecDepth 100000 in
theorem ok_X11_middleOf {G : GT} {d : Nat} (hd : 0 ≤ d) {w : Wd} (l0 : Int32) {r : Int32} (h : f_X11_middleOf l0 = some r) : uC G yX11_middleOf mX11_middleOf d [.int l0] w (some (.int r)) w := by
  unfold f_X11_middleOf at h
  refine uC_of (lv := [some (.int l0), none, none]) 2 pn_X11 ⟨rfl, rfl⟩ (Nat.le_of_ble_eq_true rfl) rfl ?_
  refine V.iconst (pc := 0) dX11_middleOf_0 ic_0 ?_
  refine V.istore_n (lv' := [some (.int l0), some (.int 0), none]) (pc := 1) dX11_middleOf_1 (Nat.le_of_ble_eq_true rfl) rfl rfl ?_
  refine V.iconst (pc := 2) dX11_middleOf_2 ic_0 ?_
  refine V.istore_n (lv' := [some (.int l0), some (.int 0), some (.int 0)]) (pc := 3) dX11_middleOf_3 (Nat.le_of_ble_eq_true rfl) rfl rfl ?_
  exact t_X11_middleOf_L4 hd FU l0 0 0 _ h
theorem dX11_middle_0 : decode cX11_middle 0 = .ok (.iload_n 1, 1) := by decide +kernel
theorem dX11_middle_1 : decode cX11_middle 1 = .ok (.invokestatic 259, 3) := by decide +kernel
theorem dX11_middle_4 : decode cX11_middle 4 = .ok (.ifCond .eq 10, 3) := by decide +kernel
theorem dX11_middle_7 : decode cX11_middle 7 = .ok (.iload_n 1, 1) := by decide +kernel
theorem dX11_middle_8 : decode cX11_middle 8 = .ok (.invokestatic 271, 3) := by decide +kernel
theorem dX11_middle_11 : decode cX11_middle 11 = .ok (.goto 4, 3) := by decide +kernel
theorem dX11_middle_14 : decode cX11_middle 14 = .ok (.iconst (-1), 1) := by decide +kernel
theorem dX11_middle_15 : decode cX11_middle 15 = .ok (.ireturn, 1) := by decide +kernel
def f_X11_middle (l1 : Int32) : Option Int32 :=
  if (f_X11_isRing l1) = 0 then
    some (-1)
  else
    bnd (f_X11_middleOf l1) fun x1 =>
    some x1
set_option maxHeartbeats 4000000 in
set_option maxRecDepth 100000 in
theorem ok_X11_middle {G : GT} {d : Nat} (hd : 1 ≤ d) {w : Wd} (l1 : Int32) {r : Int32} (h : f_X11_middle l1 = some r) : uC G yX11_middle mX11_middle d [.ref 0, .int l1] w (some (.int r)) w := by
  obtain ⟨d, rfl⟩ : ∃ e, d = e + 1 := ⟨d - 1, by omega⟩
  unfold f_X11_middle at h
  refine uC_of (lv := [some (.ref 0), some (.int l1)]) 0 pn_X11 ⟨rfl, rfl⟩ (Nat.le_of_ble_eq_true rfl) rfl ?_
  refine V.iload_n (pc := 0) dX11_middle_0 rfl ?_
  refine U.callS (pc := 1) (As := [.int l1]) (st := []) dX11_middle_1 l_RX11_259 (ok_X11_isRing (by omega) l1 ) (Nat.le_of_ble_eq_true rfl) rfl rfl (Nat.le_of_ble_eq_true rfl) ?_
  rcases ite_e h with ⟨c, h⟩ | ⟨c, h⟩
  · refine V.if_eq_t (t := 14) (pc := 4) dX11_middle_4 (by decide) c ?_
    refine V.iconst (pc := 14) dX11_middle_14 ic_m1 ?_
    obtain rfl := Option.some.inj h
    exact V.iret (pc := 15) dX11_middle_15 rfl (Nat.le_refl _) (Nat.le_refl _)
  · refine V.if_eq_f (t := 14) (pc := 4) dX11_middle_4 (by decide) c ?_
    refine V.iload_n (pc := 7) dX11_middle_7 rfl ?_
    obtain ⟨x1, ex1, h⟩ := bnd_e h
    refine U.callS (pc := 8) (As := [.int l1]) (st := []) dX11_middle_8 l_RX11_271 (ok_X11_middleOf (by omega) l1 ex1) (Nat.le_of_ble_eq_true rfl) rfl rfl (Nat.le_of_ble_eq_true rfl) ?_
    refine V.goto (t := 15) (pc := 11) dX11_middle_11 (by decide) ?_
    obtain rfl := Option.some.inj h
    exact V.iret (pc := 15) dX11_middle_15 rfl (Nat.le_refl _) (Nat.le_refl _)
