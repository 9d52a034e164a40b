def rX : RT := rT (refT.take 55)
theorem lx4_0 : 0 < 44 := by decide
theorem lx4_1 : 1 < 44 := by decide
theorem lx4_2 : 2 < 44 := by decide
theorem lx4_3 : 3 < 44 := by decide
theorem lx4_4 : 4 < 44 := by decide
theorem lx4_5 : 5 < 44 := by decide
theorem lx4_6 : 6 < 44 := by decide
theorem lx4_7 : 7 < 44 := by decide
theorem lx4_8 : 8 < 44 := by decide
theorem lx4_9 : 9 < 44 := by decide
theorem lx4_10 : 10 < 44 := by decide
theorem lx4_11 : 11 < 44 := by decide
theorem lx4_12 : 12 < 44 := by decide
theorem lx4_13 : 13 < 44 := by decide
theorem lx4_14 : 14 < 44 := by decide
theorem lx4_15 : 15 < 44 := by decide
theorem lx4_16 : 16 < 44 := by decide
theorem lx4_17 : 17 < 44 := by decide
theorem lx4_18 : 18 < 44 := by decide
theorem lx4_19 : 19 < 44 := by decide
theorem lx4_20 : 20 < 44 := by decide
theorem lx4_21 : 21 < 44 := by decide
theorem lx4_22 : 22 < 44 := by decide
theorem lx4_23 : 23 < 44 := by decide
theorem lx4_24 : 24 < 44 := by decide
theorem lx4_25 : 25 < 44 := by decide
theorem lx4_26 : 26 < 44 := by decide
theorem lx4_27 : 27 < 44 := by decide
theorem lx4_28 : 28 < 44 := by decide
theorem lx4_29 : 29 < 44 := by decide
theorem lx4_30 : 30 < 44 := by decide
theorem lx4_31 : 31 < 44 := by decide
theorem lx4_32 : 32 < 44 := by decide
theorem lx4_33 : 33 < 44 := by decide
theorem lx4_34 : 34 < 44 := by decide
theorem lx4_35 : 35 < 44 := by decide
theorem lx4_36 : 36 < 44 := by decide
theorem lx4_37 : 37 < 44 := by decide
theorem lx4_38 : 38 < 44 := by decide
theorem lx4_39 : 39 < 44 := by decide
theorem lx4_40 : 40 < 44 := by decide
theorem lx4_41 : 41 < 44 := by decide
theorem lx4_42 : 42 < 44 := by decide
theorem lx4_43 : 43 < 44 := by decide
theorem rr4_1_0 : rX 1 0 = some 2 := by decide +kernel
theorem rr4_0_0 : rX 0 0 = some 1 := by decide +kernel
theorem rr4_3_1 : rX 3 1 = some 4 := by decide +kernel
theorem rr4_3_2 : rX 3 2 = some 5 := by decide +kernel
theorem rr4_3_0 : rX 3 0 = some 1 := by decide +kernel
theorem rr4_0_1 : rX 0 1 = some 3 := by decide +kernel
theorem rr4_6_0 : rX 6 0 = some 7 := by decide +kernel
theorem rr4_6_1 : rX 6 1 = some 8 := by decide +kernel
theorem rr4_6_2 : rX 6 2 = some 9 := by decide +kernel
theorem rr4_6_3 : rX 6 3 = some 10 := by decide +kernel
theorem rr4_6_4 : rX 6 4 = some 11 := by decide +kernel
theorem rr4_6_5 : rX 6 5 = some 12 := by decide +kernel
theorem rr4_0_2 : rX 0 2 = some 6 := by decide +kernel
theorem rr4_13_1 : rX 13 1 = some 14 := by decide +kernel
theorem rr4_13_2 : rX 13 2 = some 15 := by decide +kernel
theorem rr4_13_3 : rX 13 3 = some 16 := by decide +kernel
theorem rr4_13_4 : rX 13 4 = some 17 := by decide +kernel
theorem rr4_13_5 : rX 13 5 = some 18 := by decide +kernel
theorem rr4_13_0 : rX 13 0 = some 6 := by decide +kernel
theorem rr4_0_3 : rX 0 3 = some 13 := by decide +kernel
theorem rr4_19_1 : rX 19 1 = some 20 := by decide +kernel
theorem rr4_19_0 : rX 19 0 = some 6 := by decide +kernel
theorem rr4_0_4 : rX 0 4 = some 19 := by decide +kernel
theorem rr4_21_1 : rX 21 1 = some 22 := by decide +kernel
theorem rr4_21_2 : rX 21 2 = some 23 := by decide +kernel
theorem rr4_21_0 : rX 21 0 = some 6 := by decide +kernel
theorem rr4_0_5 : rX 0 5 = some 21 := by decide +kernel
theorem rr4_24_3 : rX 24 3 = some 25 := by decide +kernel
theorem rr4_24_4 : rX 24 4 = some 26 := by decide +kernel
theorem rr4_24_5 : rX 24 5 = some 27 := by decide +kernel
theorem rr4_24_6 : rX 24 6 = some 28 := by decide +kernel
theorem rr4_24_0 : rX 24 0 = some 6 := by decide +kernel
theorem rr4_24_1 : rX 24 1 = some 13 := by decide +kernel
theorem rr4_29_2 : rX 29 2 = some 30 := by decide +kernel
theorem rr4_29_3 : rX 29 3 = some 31 := by decide +kernel
theorem rr4_29_0 : rX 29 0 = some 6 := by decide +kernel
theorem rr4_29_1 : rX 29 1 = some 13 := by decide +kernel
theorem rr4_24_2 : rX 24 2 = some 29 := by decide +kernel
theorem rr4_0_6 : rX 0 6 = some 24 := by decide +kernel
theorem rr4_32_3 : rX 32 3 = some 33 := by decide +kernel
theorem rr4_32_0 : rX 32 0 = some 6 := by decide +kernel
theorem rr4_32_1 : rX 32 1 = some 13 := by decide +kernel
theorem rr4_34_2 : rX 34 2 = some 35 := by decide +kernel
theorem rr4_34_3 : rX 34 3 = some 36 := by decide +kernel
theorem rr4_34_0 : rX 34 0 = some 6 := by decide +kernel
theorem rr4_34_1 : rX 34 1 = some 13 := by decide +kernel
theorem rr4_32_2 : rX 32 2 = some 34 := by decide +kernel
theorem rr4_0_7 : rX 0 7 = some 32 := by decide +kernel
theorem rr4_37_0 : rX 37 0 = some 38 := by decide +kernel
theorem rr4_37_1 : rX 37 1 = some 39 := by decide +kernel
theorem rr4_37_2 : rX 37 2 = some 40 := by decide +kernel
theorem rr4_0_8 : rX 0 8 = some 37 := by decide +kernel
theorem rr4_41_0 : rX 41 0 = some 42 := by decide +kernel
theorem rr4_0_9 : rX 0 9 = some 41 := by decide +kernel
theorem rr4_0_10 : rX 0 10 = some 43 := by decide +kernel
abbrev U4 (F : VF) (pc : Nat) (lv : List (Option Value)) (st : List Value) (w : Wd) (Z : VZ) : Prop := V F 0 0 44 rX pc lv st w Z
def uC4 (G : GT) (y : MethodName) (M : VM) (d : Nat) (av : List Value) (w : Wd) (res : Option Value) (w' : Wd) : Prop := vC G y M (rmD d) 0 0 44 rX av w (res, 44, rX, w')
theorem uC4_of {G : GT} {y : MethodName} {M : VM} {d : Nat} {av : List Value} {w w' : Wd} {res : Option Value} {lv : List (Option Value)} (kp : Nat) (hy : plainName y.cls = true) (hM : M.1 = y.cls ∧ M.2.1 = y.name) (hlen : (lg_sl av).length ≤ M.2.2.2.1) (hlv : lvA av ++ List.replicate kp none = lv)
    (k : U4 (vf G M d) 0 lv [] w (res, 44, rX, w')) : uC4 G y M d av w res w' := vC_of kp hy hM hlen (Nat.le_of_ble_eq_true rfl) (by rw [hlv]; exact k)
theorem rmOk4_D {d mL : Nat} (h : mL ≤ 45) : rmOk (rmD (d + 1)) (rmD d) mL 0 0 0 0 := by
  refine ⟨rfl, rfl, ⟨Nat.le_refl _, ?_⟩, Nat.le_refl _, Nat.le_refl _⟩
  show 8 + (mL + 11) + 64 * d ≤ 64 * (d + 1)
  omega
section UC
variable {G : GT} {M0 : VM} {d pc : Nat} {lv : List (Option Value)} {st : List Value} {w : Wd} {Z : VZ}
theorem U4.callV {i nA b ci : Nat} {y : MethodName} {M : VM} {As st0 : List Value} {res : Option Value} {w1 : Wd} (hd : decode M0.2.2.1 pc = .ok (.invokevirtual i, 3)) (hk : lkV M0.1 i y M nA) (hC : uC4 G y M d (.ref b :: As) w res w1) (hb : b < 44) (hl : lay b = (0, ci)) (hcl : (vwCl[ci]?).map (fun q => q.1) = some y.cls) (hR : M.2.2.2.1 ≤ 45) (hst : st0 = As.reverse ++ .ref b :: st) (hn : As.length = nA) (hs : (st.map fun v => v.category).sum ≤ 8)
    (kk : U4 (vf G M0 (d + 1)) (pc + 3) lv (res.toList ++ st) w1 Z) : U4 (vf G M0 (d + 1)) pc lv st0 w Z :=
  V.callV (F := vf G M0 (d + 1)) hd hk hC hb hl hcl (rmOk_D hR) hst hn hs (Nat.le_of_ble_eq_true rfl) kk
theorem U4.callS {i nA : Nat} {y : MethodName} {M : VM} {As st0 : List Value} {res : Option Value} {w1 : Wd} (hd : decode M0.2.2.1 pc = .ok (.invokestatic i, 3)) (hk : lkS M0.1 i y M nA) (hC : uC4 G y M d As w res w1) (hR : M.2.2.2.1 ≤ 45) (hst : st0 = As.reverse ++ st) (hn : As.length = nA) (hs : (st.map fun v => v.category).sum ≤ 8)
    (kk : U4 (vf G M0 (d + 1)) (pc + 3) lv (res.toList ++ st) w1 Z) : U4 (vf G M0 (d + 1)) pc lv st0 w Z :=
  V.callS (F := vf G M0 (d + 1)) hd hk hC (rmOk_D hR) hst hn hs (Nat.le_of_ble_eq_true rfl) kk
theorem V4.ialdX {F : VF} {i x : Int32} {k N : Nat} (hd : decode F.2.1.2.2.1 pc = .ok (.iaload, 1)) (hk : k < 44) (hl : lay k = (1, N)) (hi : inb i N = true) (hx : w.1 k i.toNatClampNeg = x) (kk : U4 F (pc + 1) lv (.int x :: st) w Z) : U4 F pc lv (.int i :: .ref k :: st) w Z := by
  subst hx; exact V.iald hd hk hl hi kk
theorem V4.baldX {F : VF} {i x : Int32} {k N : Nat} (hd : decode F.2.1.2.2.1 pc = .ok (.baload, 1)) (hk : k < 44) (hl : lay k = (4, N)) (hi : inb i N = true) (hx : w.1 k i.toNatClampNeg = x) (kk : U4 F (pc + 1) lv (.int x :: st) w Z) : U4 F pc lv (.int i :: .ref k :: st) w Z := by
  subst hx; exact V.bald hd hk hl hi kk
theorem V4.zaldX {F : VF} {i x : Int32} {k N : Nat} (hd : decode F.2.1.2.2.1 pc = .ok (.baload, 1)) (hk : k < 44) (hl : lay k = (3, N)) (hi : inb i N = true) (hx : w.1 k i.toNatClampNeg = x) (kk : U4 F (pc + 1) lv (.int x :: st) w Z) : U4 F pc lv (.int i :: .ref k :: st) w Z := by
  subst hx; exact V.zald hd hk hl hi kk
theorem V4.laldX {F : VF} {i : Int32} {x : Int64} {k N : Nat} (hd : decode F.2.1.2.2.1 pc = .ok (.laload, 1)) (hk : k < 44) (hl : lay k = (2, N)) (hi : inb i N = true) (hx : w.2 i.toNatClampNeg = x) (kk : U4 F (pc + 1) lv (.long x :: st) w Z) : U4 F pc lv (.int i :: .ref k :: st) w Z := by
  subst hx; exact V.lald hd hk hl hi kk
theorem V4.iastX {F : VF} {i x : Int32} {k N : Nat} {w1 : Wd} (hd : decode F.2.1.2.2.1 pc = .ok (.iastore, 1)) (hk : k < 44) (hl : lay k = (1, N)) (hi : inb i N = true) (hx : sI w k i.toNatClampNeg x = w1) (kk : U4 F (pc + 1) lv st w1 Z) : U4 F pc lv (.int x :: .int i :: .ref k :: st) w Z := by
  subst hx; exact V.iast hd hk hl hi kk
theorem V4.zastX {F : VF} {i x : Int32} {k N : Nat} {w1 : Wd} (hd : decode F.2.1.2.2.1 pc = .ok (.bastore, 1)) (hk : k < 44) (hl : lay k = (3, N)) (hb : x = 0 ∨ x = 1) (hi : inb i N = true) (hx : sI w k i.toNatClampNeg x = w1) (kk : U4 F (pc + 1) lv st w1 Z) : U4 F pc lv (.int x :: .int i :: .ref k :: st) w Z := by
  subst hx; exact V.zast hd hk hl hi hb kk
theorem V4.putIX {F : VF} {i j k ci : Nat} {x : Int32} {w1 : Wd} (hd : decode F.2.1.2.2.1 pc = .ok (.putfield i, 3)) (hf : fOk F.2.1.1 i ci j) (hc : clOk ci) (hk : k < 44) (hl : lay k = (0, ci)) (hb : (refL.getD ci [])[j]? = some false)
    (hfin : ∀ C T N, vwCl[ci]? = some (C, T, N) → (T j).2.2.2 = false ∧ ((T j).2.2.1 = "I" ∨ ((T j).2.2.1 = "Z" ∧ (x = 0 ∨ x = 1)))) (hx : sI w k j x = w1) (kk : U4 F (pc + 3) lv st w1 Z) : U4 F pc lv (.int x :: .ref k :: st) w Z := by
  subst hx; exact V.putI hd hf hc hk hl hb hfin kk
end UC
set_option maxHeartbeats 4000000 in
set_option maxRecDepth 100000 in
theorem t4_J7_fill_53178_9_L5 {G : GT} {d : Nat} (hd : 0 ≤ d)  : ∀ (n : Nat) (l1 : Int32) (l2 : Int32) (l3 : Int32) (w : Wd) (w' : Wd), f_J7_fill_53178_9_L5 n l1 l2 l3 w = some w' → U4 (vf G mJ7_fill_53178 d) 5 [some (.ref 9), some (.int l1), some (.int l2), some (.int l3)] [] w (none, 44, rX, w') := by
  intro n
  induction n with
  | zero => intro l1 l2 l3 w w' h; cases h
  | succ n h5 =>
    intro l1 l2 l3 w w' h
    have h : f_J7_fill_53178_9_B5b (f_J7_fill_53178_9_L5 n) l1 l2 l3 w = some w' := h
    unfold f_J7_fill_53178_9_B5b at h
    refine V.iload_n (pc := 5) dJ7_fill_53178_5 rfl ?_
    refine V.iload_n (pc := 6) dJ7_fill_53178_6 rfl ?_
    rcases ite_e h with ⟨c, h⟩ | ⟨c, h⟩
    · refine V.icmp_ge_t (t := 20) (pc := 7) dJ7_fill_53178_7 (by decide) c ?_
      obtain rfl := Option.some.inj h
      exact V.vret (pc := 20) dJ7_fill_53178_20 rfl (Nat.le_refl _) (Nat.le_refl _)
    · refine V.icmp_ge_f (t := 20) (pc := 7) dJ7_fill_53178_7 (by decide) c ?_
      refine V.aload_n (pc := 10) dJ7_fill_53178_10 rfl ?_
      refine V.iload_n (pc := 11) dJ7_fill_53178_11 rfl ?_
      refine V.iload_n (pc := 12) dJ7_fill_53178_12 rfl ?_
      obtain ⟨w1, iw1, ew1, h⟩ := wrI_e h
      refine V4.iastX (pc := 13) dJ7_fill_53178_13 lx4_9 ly_9 iw1 ew1 ?_
      refine V.iinc (lv' := [some (.ref 9), some (.int l1), some (.int (l2 + 1)), some (.int l3)]) (pc := 14) dJ7_fill_53178_14 (Nat.le_of_ble_eq_true rfl) rfl rfl (v := (l2 + 1)) (by rw [show Int32.ofInt 1 = 1 from by decide]) rfl ?_
      refine V.goto (t := 5) (pc := 17) dJ7_fill_53178_17 (by decide) ?_
      exact h5 l1 (l2 + 1) l3 w1 _ h
set_option maxHeartbeats 4000000 in
set_option maxRecDepth 100000 in
theorem ok4_J7_fill_53178_9 {G : GT} {d : Nat} (hd : 0 ≤ d) {w : Wd} (l1 : Int32) {w' : Wd} (h : f_J7_fill_53178_9 l1 w = some w') : uC4 G yJ7_fill_53178 mJ7_fill_53178 d [.ref 9, .int l1] w none w' := by
  unfold f_J7_fill_53178_9 at h
  refine uC4_of (lv := [some (.ref 9), some (.int l1), none, none]) 2 pn_J7 ⟨rfl, rfl⟩ (Nat.le_of_ble_eq_true rfl) rfl ?_
  refine V.iconst (pc := 0) dJ7_fill_53178_0 ic_0 ?_
  refine V.istore_n (lv' := [some (.ref 9), some (.int l1), some (.int 0), none]) (pc := 1) dJ7_fill_53178_1 (Nat.le_of_ble_eq_true rfl) rfl rfl ?_
  refine V.aload_n (pc := 2) dJ7_fill_53178_2 rfl ?_
  refine V.alen (v := 256) (pc := 3) dJ7_fill_53178_3 lx4_9 ly_9 (Or.inl rfl) (by decide) ?_
  refine V.istore_n (lv' := [some (.ref 9), some (.int l1), some (.int 0), some (.int 256)]) (pc := 4) dJ7_fill_53178_4 (Nat.le_of_ble_eq_true rfl) rfl rfl ?_
  exact t4_J7_fill_53178_9_L5 hd FU l1 0 256 w _ h

set_option maxHeartbeats 4000000 in
set_option maxRecDepth 100000 in
theorem ok4_X4_times {G : GT} {d : Nat} (hd : 0 ≤ d) {w : Wd} (l1 : Int32) (l2 : Int32) {r : Int32} (h : f_X4_times l1 l2 w = some r) : uC4 G yX4_times mX4_times d [.ref 6, .int l1, .int l2] w (some (.int r)) w := by
  unfold f_X4_times at h
  refine uC4_of (lv := [some (.ref 6), some (.int l1), some (.int l2)]) 0 pn_X4 ⟨rfl, rfl⟩ (Nat.le_of_ble_eq_true rfl) rfl ?_
  refine V.aload_n (pc := 0) dX4_times_0 rfl ?_
  refine V.getR (t := 9) (pc := 1) dX4_times_1 f_RX4_18 k_cl4 lx4_6 ly_6 rb_4_2 rr4_6_2 ?_
  refine V.iload_n (pc := 4) dX4_times_4 rfl ?_
  refine V.bipush (pc := 5) dX4_times_5 bp_15 ?_
  refine V.iand (pc := 7) dX4_times_7 ?_
  refine V.bipush (pc := 8) dX4_times_8 bp_16 ?_
  refine V.imul (pc := 10) dX4_times_10 ?_
  refine V.iload_n (pc := 11) dX4_times_11 rfl ?_
  refine V.bipush (pc := 12) dX4_times_12 bp_15 ?_
  refine V.iand (pc := 14) dX4_times_14 ?_
  refine V.iadd (pc := 15) dX4_times_15 ?_
  obtain ⟨x1, ix1, ex1, h⟩ := rdI_e h
  refine V4.ialdX (pc := 16) dX4_times_16 lx4_9 ly_9 ix1 ex1 ?_
  obtain rfl := Option.some.inj h
  exact V.iret (pc := 17) dX4_times_17 rfl (Nat.le_refl _) (Nat.le_refl _)

set_option maxHeartbeats 4000000 in
set_option maxRecDepth 100000 in
theorem ok4_X4_wrapped {G : GT} {d : Nat} (hd : 0 ≤ d) {w : Wd} (l0 : Int32) (l1 : Int32) : uC4 G yX4_wrapped mX4_wrapped d [.int l0, .int l1] w (some (.int (f_X4_wrapped l0 l1))) w := by
  suffices key : ∀ r, f_X4_wrapped l0 l1 = r → uC4 G yX4_wrapped mX4_wrapped d [.int l0, .int l1] w (some (.int r)) w from key _ rfl
  intro r h
  unfold f_X4_wrapped at h
  refine uC4_of (lv := [some (.int l0), some (.int l1)]) 0 pn_X4 ⟨rfl, rfl⟩ (Nat.le_of_ble_eq_true rfl) rfl ?_
  refine V.iload_n (pc := 0) dX4_wrapped_0 rfl ?_
  refine V.iload_n (pc := 1) dX4_wrapped_1 rfl ?_
  rcases ite_e h with ⟨c, h⟩ | ⟨c, h⟩
  · refine V.icmp_lt_t (t := 11) (pc := 2) dX4_wrapped_2 (by decide) c ?_
    refine V.iload_n (pc := 11) dX4_wrapped_11 rfl ?_
    subst h
    exact V.iret (pc := 12) dX4_wrapped_12 rfl (Nat.le_refl _) (Nat.le_refl _)
  · refine V.icmp_lt_f (t := 11) (pc := 2) dX4_wrapped_2 (by decide) c ?_
    refine V.iload_n (pc := 5) dX4_wrapped_5 rfl ?_
    refine V.iload_n (pc := 6) dX4_wrapped_6 rfl ?_
    refine V.isub (pc := 7) dX4_wrapped_7 ?_
    refine V.goto (t := 12) (pc := 8) dX4_wrapped_8 (by decide) ?_
    subst h
    exact V.iret (pc := 12) dX4_wrapped_12 rfl (Nat.le_refl _) (Nat.le_refl _)

set_option maxHeartbeats 4000000 in
set_option maxRecDepth 100000 in
theorem ok4_X4_quaternionProduct {G : GT} {d : Nat} (hd : 0 ≤ d) {w : Wd} (l0 : Int32) (l1 : Int32) : uC4 G yX4_quaternionProduct mX4_quaternionProduct d [.int l0, .int l1] w (some (.int (f_X4_quaternionProduct l0 l1))) w := by
  suffices key : ∀ r, f_X4_quaternionProduct l0 l1 = r → uC4 G yX4_quaternionProduct mX4_quaternionProduct d [.int l0, .int l1] w (some (.int r)) w from key _ rfl
  intro r h
  unfold f_X4_quaternionProduct at h
  refine uC4_of (lv := [some (.int l0), some (.int l1), none, none, none, none]) 4 pn_X4 ⟨rfl, rfl⟩ (Nat.le_of_ble_eq_true rfl) rfl ?_
  refine V.iload_n (pc := 0) dX4_quaternionProduct_0 rfl ?_
  refine V.iconst (pc := 1) dX4_quaternionProduct_1 ic_3 ?_
  refine V.iand (pc := 2) dX4_quaternionProduct_2 ?_
  refine V.istore_n (lv' := [some (.int l0), some (.int l1), some (.int (l0 &&& 3)), none, none, none]) (pc := 3) dX4_quaternionProduct_3 (Nat.le_of_ble_eq_true rfl) rfl rfl ?_
  refine V.iload_n (pc := 4) dX4_quaternionProduct_4 rfl ?_
  refine V.iconst (pc := 5) dX4_quaternionProduct_5 ic_3 ?_
  refine V.iand (pc := 6) dX4_quaternionProduct_6 ?_
  refine V.istore_n (lv' := [some (.int l0), some (.int l1), some (.int (l0 &&& 3)), some (.int (l1 &&& 3)), none, none]) (pc := 7) dX4_quaternionProduct_7 (Nat.le_of_ble_eq_true rfl) rfl rfl ?_
  refine V.iload_n (pc := 8) dX4_quaternionProduct_8 rfl ?_
  refine V.iload_n (pc := 9) dX4_quaternionProduct_9 rfl ?_
  refine V.ixor (pc := 10) dX4_quaternionProduct_10 ?_
  refine V.iconst (pc := 11) dX4_quaternionProduct_11 ic_4 ?_
  refine V.iand (pc := 12) dX4_quaternionProduct_12 ?_
  refine V.istore (lv' := [some (.int l0), some (.int l1), some (.int (l0 &&& 3)), some (.int (l1 &&& 3)), some (.int ((l0 ^^^ l1) &&& 4)), none]) (pc := 13) dX4_quaternionProduct_13 (Nat.le_of_ble_eq_true rfl) rfl rfl ?_
  refine V.iload_n (pc := 15) dX4_quaternionProduct_15 rfl ?_
  rcases ite_e h with ⟨c, h⟩ | ⟨c, h⟩
  · refine V.if_eq_t (t := 23) (pc := 16) dX4_quaternionProduct_16 (by decide) c ?_
    refine V.iload_n (pc := 23) dX4_quaternionProduct_23 rfl ?_
    refine V.iload_n (pc := 24) dX4_quaternionProduct_24 rfl ?_
    refine V.iadd (pc := 25) dX4_quaternionProduct_25 ?_
    refine V.iload (pc := 26) dX4_quaternionProduct_26 rfl ?_
    refine V.iadd (pc := 28) dX4_quaternionProduct_28 ?_
    subst h
    exact V.iret (pc := 29) dX4_quaternionProduct_29 rfl (Nat.le_refl _) (Nat.le_refl _)
  · refine V.if_eq_f (t := 23) (pc := 16) dX4_quaternionProduct_16 (by decide) c ?_
    refine V.iload_n (pc := 19) dX4_quaternionProduct_19 rfl ?_
    rcases ite_e h with ⟨c, h⟩ | ⟨c, h⟩
    · refine V.if_ne_f (t := 30) (pc := 20) dX4_quaternionProduct_20 (by decide) c ?_
      refine V.iload_n (pc := 23) dX4_quaternionProduct_23 rfl ?_
      refine V.iload_n (pc := 24) dX4_quaternionProduct_24 rfl ?_
      refine V.iadd (pc := 25) dX4_quaternionProduct_25 ?_
      refine V.iload (pc := 26) dX4_quaternionProduct_26 rfl ?_
      refine V.iadd (pc := 28) dX4_quaternionProduct_28 ?_
      subst h
      exact V.iret (pc := 29) dX4_quaternionProduct_29 rfl (Nat.le_refl _) (Nat.le_refl _)
    · refine V.if_ne_t (t := 30) (pc := 20) dX4_quaternionProduct_20 (by decide) c ?_
      refine V.iload_n (pc := 30) dX4_quaternionProduct_30 rfl ?_
      refine V.iload_n (pc := 31) dX4_quaternionProduct_31 rfl ?_
      rcases ite_e h with ⟨c, h⟩ | ⟨c, h⟩
      · refine V.icmp_ne_f (t := 40) (pc := 32) dX4_quaternionProduct_32 (by decide) c ?_
        refine V.iload (pc := 35) dX4_quaternionProduct_35 rfl ?_
        refine V.iconst (pc := 37) dX4_quaternionProduct_37 ic_4 ?_
        refine V.ixor (pc := 38) dX4_quaternionProduct_38 ?_
        subst h
        exact V.iret (pc := 39) dX4_quaternionProduct_39 rfl (Nat.le_refl _) (Nat.le_refl _)
      · refine V.icmp_ne_t (t := 40) (pc := 32) dX4_quaternionProduct_32 (by decide) c ?_
        refine V.iload_n (pc := 40) dX4_quaternionProduct_40 rfl ?_
        refine V.iload_n (pc := 41) dX4_quaternionProduct_41 rfl ?_
        refine V.iconst (pc := 42) dX4_quaternionProduct_42 ic_3 ?_
        rcases ite_e h with ⟨c, h⟩ | ⟨c, h⟩
        · refine V.icmp_ne_f (t := 50) (pc := 43) dX4_quaternionProduct_43 (by decide) c ?_
          refine V.iconst (pc := 46) dX4_quaternionProduct_46 ic_1 ?_
          refine V.goto (t := 53) (pc := 47) dX4_quaternionProduct_47 (by decide) ?_
          rcases ite_e h with ⟨c, h⟩ | ⟨c, h⟩
          · refine V.icmp_ne_f (t := 60) (pc := 53) dX4_quaternionProduct_53 (by decide) c ?_
            refine V.iconst (pc := 56) dX4_quaternionProduct_56 ic_1 ?_
            refine V.goto (t := 61) (pc := 57) dX4_quaternionProduct_57 (by decide) ?_
            refine V.istore (lv' := [some (.int l0), some (.int l1), some (.int (l0 &&& 3)), some (.int (l1 &&& 3)), some (.int ((l0 ^^^ l1) &&& 4)), some (.int 1)]) (pc := 61) dX4_quaternionProduct_61 (Nat.le_of_ble_eq_true rfl) rfl rfl ?_
            refine V.bipush (pc := 63) dX4_quaternionProduct_63 bp_6 ?_
            refine V.iload_n (pc := 65) dX4_quaternionProduct_65 rfl ?_
            refine V.isub (pc := 66) dX4_quaternionProduct_66 ?_
            refine V.iload_n (pc := 67) dX4_quaternionProduct_67 rfl ?_
            refine V.isub (pc := 68) dX4_quaternionProduct_68 ?_
            refine V.iload (pc := 69) dX4_quaternionProduct_69 rfl ?_
            refine V.if_eq_f (t := 79) (pc := 71) dX4_quaternionProduct_71 (by decide) (by decide) ?_
            refine V.iload (pc := 74) dX4_quaternionProduct_74 rfl ?_
            refine V.goto (t := 83) (pc := 76) dX4_quaternionProduct_76 (by decide) ?_
            refine V.iadd (pc := 83) dX4_quaternionProduct_83 ?_
            subst h
            exact V.iret (pc := 84) dX4_quaternionProduct_84 rfl (Nat.le_refl _) (Nat.le_refl _)
          · refine V.icmp_ne_t (t := 60) (pc := 53) dX4_quaternionProduct_53 (by decide) c ?_
            refine V.iconst (pc := 60) dX4_quaternionProduct_60 ic_0 ?_
            refine V.istore (lv' := [some (.int l0), some (.int l1), some (.int (l0 &&& 3)), some (.int (l1 &&& 3)), some (.int ((l0 ^^^ l1) &&& 4)), some (.int 0)]) (pc := 61) dX4_quaternionProduct_61 (Nat.le_of_ble_eq_true rfl) rfl rfl ?_
            refine V.bipush (pc := 63) dX4_quaternionProduct_63 bp_6 ?_
            refine V.iload_n (pc := 65) dX4_quaternionProduct_65 rfl ?_
            refine V.isub (pc := 66) dX4_quaternionProduct_66 ?_
            refine V.iload_n (pc := 67) dX4_quaternionProduct_67 rfl ?_
            refine V.isub (pc := 68) dX4_quaternionProduct_68 ?_
            refine V.iload (pc := 69) dX4_quaternionProduct_69 rfl ?_
            refine V.if_eq_t (t := 79) (pc := 71) dX4_quaternionProduct_71 (by decide) (by decide) ?_
            refine V.iload (pc := 79) dX4_quaternionProduct_79 rfl ?_
            refine V.iconst (pc := 81) dX4_quaternionProduct_81 ic_4 ?_
            refine V.ixor (pc := 82) dX4_quaternionProduct_82 ?_
            refine V.iadd (pc := 83) dX4_quaternionProduct_83 ?_
            subst h
            exact V.iret (pc := 84) dX4_quaternionProduct_84 rfl (Nat.le_refl _) (Nat.le_refl _)
        · refine V.icmp_ne_t (t := 50) (pc := 43) dX4_quaternionProduct_43 (by decide) c ?_
          refine V.iload_n (pc := 50) dX4_quaternionProduct_50 rfl ?_
          refine V.iconst (pc := 51) dX4_quaternionProduct_51 ic_1 ?_
          refine V.iadd (pc := 52) dX4_quaternionProduct_52 ?_
          rcases ite_e h with ⟨c, h⟩ | ⟨c, h⟩
          · refine V.icmp_ne_f (t := 60) (pc := 53) dX4_quaternionProduct_53 (by decide) c ?_
            refine V.iconst (pc := 56) dX4_quaternionProduct_56 ic_1 ?_
            refine V.goto (t := 61) (pc := 57) dX4_quaternionProduct_57 (by decide) ?_
            refine V.istore (lv' := [some (.int l0), some (.int l1), some (.int (l0 &&& 3)), some (.int (l1 &&& 3)), some (.int ((l0 ^^^ l1) &&& 4)), some (.int 1)]) (pc := 61) dX4_quaternionProduct_61 (Nat.le_of_ble_eq_true rfl) rfl rfl ?_
            refine V.bipush (pc := 63) dX4_quaternionProduct_63 bp_6 ?_
            refine V.iload_n (pc := 65) dX4_quaternionProduct_65 rfl ?_
            refine V.isub (pc := 66) dX4_quaternionProduct_66 ?_
            refine V.iload_n (pc := 67) dX4_quaternionProduct_67 rfl ?_
            refine V.isub (pc := 68) dX4_quaternionProduct_68 ?_
            refine V.iload (pc := 69) dX4_quaternionProduct_69 rfl ?_
            refine V.if_eq_f (t := 79) (pc := 71) dX4_quaternionProduct_71 (by decide) (by decide) ?_
            refine V.iload (pc := 74) dX4_quaternionProduct_74 rfl ?_
            refine V.goto (t := 83) (pc := 76) dX4_quaternionProduct_76 (by decide) ?_
            refine V.iadd (pc := 83) dX4_quaternionProduct_83 ?_
            subst h
            exact V.iret (pc := 84) dX4_quaternionProduct_84 rfl (Nat.le_refl _) (Nat.le_refl _)
          · refine V.icmp_ne_t (t := 60) (pc := 53) dX4_quaternionProduct_53 (by decide) c ?_
            refine V.iconst (pc := 60) dX4_quaternionProduct_60 ic_0 ?_
            refine V.istore (lv' := [some (.int l0), some (.int l1), some (.int (l0 &&& 3)), some (.int (l1 &&& 3)), some (.int ((l0 ^^^ l1) &&& 4)), some (.int 0)]) (pc := 61) dX4_quaternionProduct_61 (Nat.le_of_ble_eq_true rfl) rfl rfl ?_
            refine V.bipush (pc := 63) dX4_quaternionProduct_63 bp_6 ?_
            refine V.iload_n (pc := 65) dX4_quaternionProduct_65 rfl ?_
            refine V.isub (pc := 66) dX4_quaternionProduct_66 ?_
            refine V.iload_n (pc := 67) dX4_quaternionProduct_67 rfl ?_
            refine V.isub (pc := 68) dX4_quaternionProduct_68 ?_
            refine V.iload (pc := 69) dX4_quaternionProduct_69 rfl ?_
            refine V.if_eq_t (t := 79) (pc := 71) dX4_quaternionProduct_71 (by decide) (by decide) ?_
            refine V.iload (pc := 79) dX4_quaternionProduct_79 rfl ?_
            refine V.iconst (pc := 81) dX4_quaternionProduct_81 ic_4 ?_
            refine V.ixor (pc := 82) dX4_quaternionProduct_82 ?_
            refine V.iadd (pc := 83) dX4_quaternionProduct_83 ?_
            subst h
            exact V.iret (pc := 84) dX4_quaternionProduct_84 rfl (Nat.le_refl _) (Nat.le_refl _)

set_option maxHeartbeats 4000000 in
set_option maxRecDepth 100000 in
theorem ok4_X4_factorProduct {G : GT} {d : Nat} (hd : 1 ≤ d) {w : Wd} (l0 : Int32) (l1 : Int32) (l2 : Int32) (l3 : Int32) : uC4 G yX4_factorProduct mX4_factorProduct d [.int l0, .int l1, .int l2, .int l3] w (some (.int (f_X4_factorProduct l0 l1 l2 l3))) w := by
  obtain ⟨d, rfl⟩ : ∃ e, d = e + 1 := ⟨d - 1, by omega⟩
  suffices key : ∀ r, f_X4_factorProduct l0 l1 l2 l3 = r → uC4 G yX4_factorProduct mX4_factorProduct (d + 1) [.int l0, .int l1, .int l2, .int l3] w (some (.int r)) w from key _ rfl
  intro r h
  unfold f_X4_factorProduct at h
  refine uC4_of (lv := [some (.int l0), some (.int l1), some (.int l2), some (.int l3), none, none, none, none]) 4 pn_X4 ⟨rfl, rfl⟩ (Nat.le_of_ble_eq_true rfl) rfl ?_
  refine V.iload_n (pc := 0) dX4_factorProduct_0 rfl ?_
  rcases ite_e h with ⟨c, h⟩ | ⟨c, h⟩
  · refine V.if_ne_f (t := 12) (pc := 1) dX4_factorProduct_1 (by decide) c ?_
    refine V.iload_n (pc := 4) dX4_factorProduct_4 rfl ?_
    refine V.iload_n (pc := 5) dX4_factorProduct_5 rfl ?_
    refine V.iadd (pc := 6) dX4_factorProduct_6 ?_
    refine V.iload_n (pc := 7) dX4_factorProduct_7 rfl ?_
    refine U4.callS (pc := 8) (As := [.int (l2 + l3), .int l1]) (st := []) dX4_factorProduct_8 l_RX4_70 (ok4_X4_wrapped (by omega) (l2 + l3) l1 ) (Nat.le_of_ble_eq_true rfl) rfl rfl (Nat.le_of_ble_eq_true rfl) ?_
    subst h
    exact V.iret (pc := 11) dX4_factorProduct_11 rfl (Nat.le_refl _) (Nat.le_refl _)
  · refine V.if_ne_t (t := 12) (pc := 1) dX4_factorProduct_1 (by decide) c ?_
    refine V.iload_n (pc := 12) dX4_factorProduct_12 rfl ?_
    refine V.iconst (pc := 13) dX4_factorProduct_13 ic_2 ?_
    rcases ite_e h with ⟨c, h⟩ | ⟨c, h⟩
    · refine V.icmp_ne_f (t := 23) (pc := 14) dX4_factorProduct_14 (by decide) c ?_
      refine V.iload_n (pc := 17) dX4_factorProduct_17 rfl ?_
      refine V.iload_n (pc := 18) dX4_factorProduct_18 rfl ?_
      refine U4.callS (pc := 19) (As := [.int l2, .int l3]) (st := []) dX4_factorProduct_19 l_RX4_73 (ok4_X4_quaternionProduct (by omega) l2 l3 ) (Nat.le_of_ble_eq_true rfl) rfl rfl (Nat.le_of_ble_eq_true rfl) ?_
      subst h
      exact V.iret (pc := 22) dX4_factorProduct_22 rfl (Nat.le_refl _) (Nat.le_refl _)
    · refine V.icmp_ne_t (t := 23) (pc := 14) dX4_factorProduct_14 (by decide) c ?_
      refine V.iload_n (pc := 23) dX4_factorProduct_23 rfl ?_
      refine V.iload_n (pc := 24) dX4_factorProduct_24 rfl ?_
      refine U4.callS (pc := 25) (As := [.int l2, .int l1]) (st := []) dX4_factorProduct_25 l_RX4_70 (ok4_X4_wrapped (by omega) l2 l1 ) (Nat.le_of_ble_eq_true rfl) rfl rfl (Nat.le_of_ble_eq_true rfl) ?_
      refine V.istore (lv' := [some (.int l0), some (.int l1), some (.int l2), some (.int l3), some (.int (f_X4_wrapped l2 l1)), none, none, none]) (pc := 28) dX4_factorProduct_28 (Nat.le_of_ble_eq_true rfl) rfl rfl ?_
      refine V.iload_n (pc := 30) dX4_factorProduct_30 rfl ?_
      refine V.iload_n (pc := 31) dX4_factorProduct_31 rfl ?_
      refine U4.callS (pc := 32) (As := [.int l3, .int l1]) (st := []) dX4_factorProduct_32 l_RX4_70 (ok4_X4_wrapped (by omega) l3 l1 ) (Nat.le_of_ble_eq_true rfl) rfl rfl (Nat.le_of_ble_eq_true rfl) ?_
      refine V.istore (lv' := [some (.int l0), some (.int l1), some (.int l2), some (.int l3), some (.int (f_X4_wrapped l2 l1)), some (.int (f_X4_wrapped l3 l1)), none, none]) (pc := 35) dX4_factorProduct_35 (Nat.le_of_ble_eq_true rfl) rfl rfl ?_
      refine V.iload_n (pc := 37) dX4_factorProduct_37 rfl ?_
      refine V.iload_n (pc := 38) dX4_factorProduct_38 rfl ?_
      rcases ite_e h with ⟨c, h⟩ | ⟨c, h⟩
      · refine V.icmp_lt_t (t := 46) (pc := 39) dX4_factorProduct_39 (by decide) c ?_
        refine V.iconst (pc := 46) dX4_factorProduct_46 ic_0 ?_
        refine V.istore (lv' := [some (.int l0), some (.int l1), some (.int l2), some (.int l3), some (.int (f_X4_wrapped l2 l1)), some (.int (f_X4_wrapped l3 l1)), some (.int 0), none]) (pc := 47) dX4_factorProduct_47 (Nat.le_of_ble_eq_true rfl) rfl rfl ?_
        refine V.iload (pc := 49) dX4_factorProduct_49 rfl ?_
        refine V.if_eq_t (t := 68) (pc := 51) dX4_factorProduct_51 (by decide) (by decide) ?_
        refine V.iload (pc := 68) dX4_factorProduct_68 rfl ?_
        refine V.iload (pc := 70) dX4_factorProduct_70 rfl ?_
        refine V.iadd (pc := 72) dX4_factorProduct_72 ?_
        refine V.iload_n (pc := 73) dX4_factorProduct_73 rfl ?_
        refine U4.callS (pc := 74) (As := [.int ((f_X4_wrapped l2 l1) + (f_X4_wrapped l3 l1)), .int l1]) (st := []) dX4_factorProduct_74 l_RX4_70 (ok4_X4_wrapped (by omega) ((f_X4_wrapped l2 l1) + (f_X4_wrapped l3 l1)) l1 ) (Nat.le_of_ble_eq_true rfl) rfl rfl (Nat.le_of_ble_eq_true rfl) ?_
        refine V.istore (lv' := [some (.int l0), some (.int l1), some (.int l2), some (.int l3), some (.int (f_X4_wrapped l2 l1)), some (.int (f_X4_wrapped l3 l1)), some (.int 0), some (.int (f_X4_wrapped ((f_X4_wrapped l2 l1) + (f_X4_wrapped l3 l1)) l1))]) (pc := 77) dX4_factorProduct_77 (Nat.le_of_ble_eq_true rfl) rfl rfl ?_
        refine V.iload (pc := 79) dX4_factorProduct_79 rfl ?_
        refine V.iload_n (pc := 81) dX4_factorProduct_81 rfl ?_
        refine V.iload_n (pc := 82) dX4_factorProduct_82 rfl ?_
        rcases ite_e h with ⟨c, h⟩ | ⟨c, h⟩
        · refine V.icmp_lt_t (t := 90) (pc := 83) dX4_factorProduct_83 (by decide) c ?_
          refine V.iconst (pc := 90) dX4_factorProduct_90 ic_0 ?_
          refine V.icmp_ne_f (t := 99) (pc := 91) dX4_factorProduct_91 (by decide) (by decide) ?_
          refine V.iload (pc := 94) dX4_factorProduct_94 rfl ?_
          refine V.goto (t := 103) (pc := 96) dX4_factorProduct_96 (by decide) ?_
          subst h
          exact V.iret (pc := 103) dX4_factorProduct_103 rfl (Nat.le_refl _) (Nat.le_refl _)
        · refine V.icmp_lt_f (t := 90) (pc := 83) dX4_factorProduct_83 (by decide) c ?_
          refine V.iconst (pc := 86) dX4_factorProduct_86 ic_1 ?_
          refine V.goto (t := 91) (pc := 87) dX4_factorProduct_87 (by decide) ?_
          refine V.icmp_ne_t (t := 99) (pc := 91) dX4_factorProduct_91 (by decide) (by decide) ?_
          refine V.iload (pc := 99) dX4_factorProduct_99 rfl ?_
          refine V.iload_n (pc := 101) dX4_factorProduct_101 rfl ?_
          refine V.iadd (pc := 102) dX4_factorProduct_102 ?_
          subst h
          exact V.iret (pc := 103) dX4_factorProduct_103 rfl (Nat.le_refl _) (Nat.le_refl _)
      · refine V.icmp_lt_f (t := 46) (pc := 39) dX4_factorProduct_39 (by decide) c ?_
        refine V.iconst (pc := 42) dX4_factorProduct_42 ic_1 ?_
        refine V.goto (t := 47) (pc := 43) dX4_factorProduct_43 (by decide) ?_
        refine V.istore (lv' := [some (.int l0), some (.int l1), some (.int l2), some (.int l3), some (.int (f_X4_wrapped l2 l1)), some (.int (f_X4_wrapped l3 l1)), some (.int 1), none]) (pc := 47) dX4_factorProduct_47 (Nat.le_of_ble_eq_true rfl) rfl rfl ?_
        refine V.iload (pc := 49) dX4_factorProduct_49 rfl ?_
        refine V.if_eq_f (t := 68) (pc := 51) dX4_factorProduct_51 (by decide) (by decide) ?_
        refine V.iload (pc := 54) dX4_factorProduct_54 rfl ?_
        refine V.iload_n (pc := 56) dX4_factorProduct_56 rfl ?_
        refine V.iadd (pc := 57) dX4_factorProduct_57 ?_
        refine V.iload (pc := 58) dX4_factorProduct_58 rfl ?_
        refine V.isub (pc := 60) dX4_factorProduct_60 ?_
        refine V.iload_n (pc := 61) dX4_factorProduct_61 rfl ?_
        refine U4.callS (pc := 62) (As := [.int (((f_X4_wrapped l2 l1) + l1) - (f_X4_wrapped l3 l1)), .int l1]) (st := []) dX4_factorProduct_62 l_RX4_70 (ok4_X4_wrapped (by omega) (((f_X4_wrapped l2 l1) + l1) - (f_X4_wrapped l3 l1)) l1 ) (Nat.le_of_ble_eq_true rfl) rfl rfl (Nat.le_of_ble_eq_true rfl) ?_
        refine V.goto (t := 77) (pc := 65) dX4_factorProduct_65 (by decide) ?_
        refine V.istore (lv' := [some (.int l0), some (.int l1), some (.int l2), some (.int l3), some (.int (f_X4_wrapped l2 l1)), some (.int (f_X4_wrapped l3 l1)), some (.int 1), some (.int (f_X4_wrapped (((f_X4_wrapped l2 l1) + l1) - (f_X4_wrapped l3 l1)) l1))]) (pc := 77) dX4_factorProduct_77 (Nat.le_of_ble_eq_true rfl) rfl rfl ?_
        refine V.iload (pc := 79) dX4_factorProduct_79 rfl ?_
        refine V.iload_n (pc := 81) dX4_factorProduct_81 rfl ?_
        refine V.iload_n (pc := 82) dX4_factorProduct_82 rfl ?_
        rcases ite_e h with ⟨c, h⟩ | ⟨c, h⟩
        · refine V.icmp_lt_t (t := 90) (pc := 83) dX4_factorProduct_83 (by decide) c ?_
          refine V.iconst (pc := 90) dX4_factorProduct_90 ic_0 ?_
          refine V.icmp_ne_t (t := 99) (pc := 91) dX4_factorProduct_91 (by decide) (by decide) ?_
          refine V.iload (pc := 99) dX4_factorProduct_99 rfl ?_
          refine V.iload_n (pc := 101) dX4_factorProduct_101 rfl ?_
          refine V.iadd (pc := 102) dX4_factorProduct_102 ?_
          subst h
          exact V.iret (pc := 103) dX4_factorProduct_103 rfl (Nat.le_refl _) (Nat.le_refl _)
        · refine V.icmp_lt_f (t := 90) (pc := 83) dX4_factorProduct_83 (by decide) c ?_
          refine V.iconst (pc := 86) dX4_factorProduct_86 ic_1 ?_
          refine V.goto (t := 91) (pc := 87) dX4_factorProduct_87 (by decide) ?_
          refine V.icmp_ne_f (t := 99) (pc := 91) dX4_factorProduct_91 (by decide) (by decide) ?_
          refine V.iload (pc := 94) dX4_factorProduct_94 rfl ?_
          refine V.goto (t := 103) (pc := 96) dX4_factorProduct_96 (by decide) ?_
          subst h
          exact V.iret (pc := 103) dX4_factorProduct_103 rfl (Nat.le_refl _) (Nat.le_refl _)

set_option maxHeartbeats 4000000 in
set_option maxRecDepth 100000 in
theorem t4_X4_addBlock_L12 {G : GT} {d : Nat} {k3 : Int32 → Int32 → Int32 → Int32 → Int32 → Wd → Option Wd} (hd : 1 ≤ d + 1) (h3 : ∀ (l1 : Int32) (l2 : Int32) (l3 : Int32) (l4 : Int32) (l5 : Int32) (w : Wd) (w' : Wd), k3 l1 l2 l3 l4 l5 w = some w' → U4 (vf G mX4_addBlock (d + 1)) 3 [some (.ref 6), some (.int l1), some (.int l2), some (.int l3), some (.int l4), some (.int l5), none] [] w (none, 44, rX, w')) : ∀ (n : Nat) (l1 : Int32) (l2 : Int32) (l3 : Int32) (l4 : Int32) (l5 : Int32) (l6 : Int32) (w : Wd) (w' : Wd), f_X4_addBlock_L12 k3 n l1 l2 l3 l4 l5 l6 w = some w' → U4 (vf G mX4_addBlock (d + 1)) 12 [some (.ref 6), some (.int l1), some (.int l2), some (.int l3), some (.int l4), some (.int l5), some (.int l6)] [] w (none, 44, rX, w') := by
  intro n
  induction n with
  | zero => intro l1 l2 l3 l4 l5 l6 w w' h; cases h
  | succ n h12 =>
    intro l1 l2 l3 l4 l5 l6 w w' h
    have h : f_X4_addBlock_B12b k3 (f_X4_addBlock_L12 k3 n) l1 l2 l3 l4 l5 l6 w = some w' := h
    unfold f_X4_addBlock_B12b at h
    refine V.iload (pc := 12) dX4_addBlock_12 rfl ?_
    refine V.iload_n (pc := 14) dX4_addBlock_14 rfl ?_
    rcases ite_e h with ⟨c, h⟩ | ⟨c, h⟩
    · refine V.icmp_ge_t (t := 58) (pc := 15) dX4_addBlock_15 (by decide) c ?_
      refine V.iinc (lv' := [some (.ref 6), some (.int l1), some (.int l2), some (.int l3), some (.int l4), some (.int (l5 + 1)), some (.int l6)]) (pc := 58) dX4_addBlock_58 (Nat.le_of_ble_eq_true rfl) rfl rfl (v := (l5 + 1)) (by rw [show Int32.ofInt 1 = 1 from by decide]) rfl ?_
      refine V.goto (t := 3) (pc := 61) dX4_addBlock_61 (by decide) ?_
      refine V.weak (lv' := [some (.ref 6), some (.int l1), some (.int l2), some (.int l3), some (.int l4), some (.int (l5 + 1)), none]) (And.intro rfl (And.intro rfl (And.intro rfl (And.intro rfl (And.intro rfl (And.intro rfl trivial)))))) ?_
      exact h3 l1 l2 l3 l4 (l5 + 1) w _ h
    · refine V.icmp_ge_f (t := 58) (pc := 15) dX4_addBlock_15 (by decide) c ?_
      refine V.aload_n (pc := 18) dX4_addBlock_18 rfl ?_
      refine V.getR (t := 9) (pc := 19) dX4_addBlock_19 f_RX4_18 k_cl4 lx4_6 ly_6 rb_4_2 rr4_6_2 ?_
      refine V.iload_n (pc := 22) dX4_addBlock_22 rfl ?_
      refine V.iload (pc := 23) dX4_addBlock_23 rfl ?_
      refine V.iadd (pc := 25) dX4_addBlock_25 ?_
      refine V.bipush (pc := 26) dX4_addBlock_26 bp_15 ?_
      refine V.iand (pc := 28) dX4_addBlock_28 ?_
      refine V.bipush (pc := 29) dX4_addBlock_29 bp_16 ?_
      refine V.imul (pc := 31) dX4_addBlock_31 ?_
      refine V.iload_n (pc := 32) dX4_addBlock_32 rfl ?_
      refine V.iload (pc := 33) dX4_addBlock_33 rfl ?_
      refine V.iadd (pc := 35) dX4_addBlock_35 ?_
      refine V.bipush (pc := 36) dX4_addBlock_36 bp_15 ?_
      refine V.iand (pc := 38) dX4_addBlock_38 ?_
      refine V.iadd (pc := 39) dX4_addBlock_39 ?_
      refine V.aload_n (pc := 40) dX4_addBlock_40 rfl ?_
      refine V.iload (pc := 41) dX4_addBlock_41 rfl ?_
      refine V.iload (pc := 43) dX4_addBlock_43 rfl ?_
      obtain ⟨x1, ex1, h⟩ := bnd_e h
      refine U4.callV (pc := 45) (As := [.int l5, .int l6]) (st := [.int ((((l2 + l5) &&& 15) * 16) + ((l3 + l6) &&& 15)), .ref 9]) dX4_addBlock_45 l_RX4_58 (ok4_X4_times (by omega) l5 l6 ex1) lx4_6 ly_6 cn_4 (Nat.le_of_ble_eq_true rfl) rfl rfl (Nat.le_of_ble_eq_true rfl) ?_
      refine V.iload (pc := 48) dX4_addBlock_48 rfl ?_
      refine V.iadd (pc := 50) dX4_addBlock_50 ?_
      obtain ⟨w2, iw2, ew2, h⟩ := wrI_e h
      refine V4.iastX (pc := 51) dX4_addBlock_51 lx4_9 ly_9 iw2 ew2 ?_
      refine V.iinc (lv' := [some (.ref 6), some (.int l1), some (.int l2), some (.int l3), some (.int l4), some (.int l5), some (.int (l6 + 1))]) (pc := 52) dX4_addBlock_52 (Nat.le_of_ble_eq_true rfl) rfl rfl (v := (l6 + 1)) (by rw [show Int32.ofInt 1 = 1 from by decide]) rfl ?_
      refine V.goto (t := 12) (pc := 55) dX4_addBlock_55 (by decide) ?_
      exact h12 l1 l2 l3 l4 l5 (l6 + 1) w2 _ h
set_option maxHeartbeats 4000000 in
set_option maxRecDepth 100000 in
theorem t4_X4_addBlock_L3 {G : GT} {d : Nat} (hd : 1 ≤ d + 1)  : ∀ (n : Nat) (l1 : Int32) (l2 : Int32) (l3 : Int32) (l4 : Int32) (l5 : Int32) (w : Wd) (w' : Wd), f_X4_addBlock_L3 n l1 l2 l3 l4 l5 w = some w' → U4 (vf G mX4_addBlock (d + 1)) 3 [some (.ref 6), some (.int l1), some (.int l2), some (.int l3), some (.int l4), some (.int l5), none] [] w (none, 44, rX, w') := by
  intro n
  induction n with
  | zero => intro l1 l2 l3 l4 l5 w w' h; cases h
  | succ n h3 =>
    intro l1 l2 l3 l4 l5 w w' h
    have h : f_X4_addBlock_B3b (f_X4_addBlock_L3 n) l1 l2 l3 l4 l5 w = some w' := h
    unfold f_X4_addBlock_B3b at h
    refine V.iload (pc := 3) dX4_addBlock_3 rfl ?_
    refine V.iload_n (pc := 5) dX4_addBlock_5 rfl ?_
    rcases ite_e h with ⟨c, h⟩ | ⟨c, h⟩
    · refine V.icmp_ge_t (t := 64) (pc := 6) dX4_addBlock_6 (by decide) c ?_
      obtain rfl := Option.some.inj h
      exact V.vret (pc := 64) dX4_addBlock_64 rfl (Nat.le_refl _) (Nat.le_refl _)
    · refine V.icmp_ge_f (t := 64) (pc := 6) dX4_addBlock_6 (by decide) c ?_
      refine V.iconst (pc := 9) dX4_addBlock_9 ic_0 ?_
      refine V.istore (lv' := [some (.ref 6), some (.int l1), some (.int l2), some (.int l3), some (.int l4), some (.int l5), some (.int 0)]) (pc := 10) dX4_addBlock_10 (Nat.le_of_ble_eq_true rfl) rfl rfl ?_
      exact t4_X4_addBlock_L12 hd h3 FU l1 l2 l3 l4 l5 0 w _ h
set_option maxHeartbeats 4000000 in
set_option maxRecDepth 100000 in
theorem ok4_X4_addBlock {G : GT} {d : Nat} (hd : 1 ≤ d) {w : Wd} (l1 : Int32) (l2 : Int32) (l3 : Int32) (l4 : Int32) {w' : Wd} (h : f_X4_addBlock l1 l2 l3 l4 w = some w') : uC4 G yX4_addBlock mX4_addBlock d [.ref 6, .int l1, .int l2, .int l3, .int l4] w none w' := by
  obtain ⟨d, rfl⟩ : ∃ e, d = e + 1 := ⟨d - 1, by omega⟩
  unfold f_X4_addBlock at h
  refine uC4_of (lv := [some (.ref 6), some (.int l1), some (.int l2), some (.int l3), some (.int l4), none, none]) 2 pn_X4 ⟨rfl, rfl⟩ (Nat.le_of_ble_eq_true rfl) rfl ?_
  refine V.iconst (pc := 0) dX4_addBlock_0 ic_0 ?_
  refine V.istore (lv' := [some (.ref 6), some (.int l1), some (.int l2), some (.int l3), some (.int l4), some (.int 0), none]) (pc := 1) dX4_addBlock_1 (Nat.le_of_ble_eq_true rfl) rfl rfl ?_
  exact t4_X4_addBlock_L3 hd FU l1 l2 l3 l4 0 w _ h

set_option maxHeartbeats 4000000 in
set_option maxRecDepth 100000 in
theorem t4_X4_addFactor_L40 {G : GT} {d : Nat} {k31 : Int32 → Int32 → Int32 → Int32 → Int32 → Wd → Option Wd} (hd : 2 ≤ d + 1) (h31 : ∀ (l1 : Int32) (l2 : Int32) (l3 : Int32) (l4 : Int32) (l5 : Int32) (w : Wd) (w' : Wd), k31 l1 l2 l3 l4 l5 w = some w' → U4 (vf G mX4_addFactor (d + 1)) 31 [some (.ref 6), some (.int l1), some (.int l2), some (.int l3), some (.int l4), some (.int l5), none, none] [] w (none, 44, rX, w')) : ∀ (n : Nat) (l1 : Int32) (l2 : Int32) (l3 : Int32) (l4 : Int32) (l5 : Int32) (l6 : Int32) (w : Wd) (w' : Wd), f_X4_addFactor_L40 k31 n l1 l2 l3 l4 l5 l6 w = some w' → U4 (vf G mX4_addFactor (d + 1)) 40 [some (.ref 6), some (.int l1), some (.int l2), some (.int l3), some (.int l4), some (.int l5), some (.int l6), none] [] w (none, 44, rX, w') := by
  intro n
  induction n with
  | zero => intro l1 l2 l3 l4 l5 l6 w w' h; cases h
  | succ n h40 =>
    intro l1 l2 l3 l4 l5 l6 w w' h
    have h : f_X4_addFactor_B40b k31 (f_X4_addFactor_L40 k31 n) l1 l2 l3 l4 l5 l6 w = some w' := h
    unfold f_X4_addFactor_B40b at h
    refine V.iload (pc := 40) dX4_addFactor_40 rfl ?_
    refine V.iload_n (pc := 42) dX4_addFactor_42 rfl ?_
    rcases ite_e h with ⟨c, h⟩ | ⟨c, h⟩
    · refine V.icmp_ge_t (t := 84) (pc := 43) dX4_addFactor_43 (by decide) c ?_
      refine V.iinc (lv' := [some (.ref 6), some (.int l1), some (.int l2), some (.int l3), some (.int l4), some (.int (l5 + 1)), some (.int l6), none]) (pc := 84) dX4_addFactor_84 (Nat.le_of_ble_eq_true rfl) rfl rfl (v := (l5 + 1)) (by rw [show Int32.ofInt 1 = 1 from by decide]) rfl ?_
      refine V.goto (t := 31) (pc := 87) dX4_addFactor_87 (by decide) ?_
      refine V.weak (lv' := [some (.ref 6), some (.int l1), some (.int l2), some (.int l3), some (.int l4), some (.int (l5 + 1)), none, none]) (And.intro rfl (And.intro rfl (And.intro rfl (And.intro rfl (And.intro rfl (And.intro rfl trivial)))))) ?_
      exact h31 l1 l2 l3 l4 (l5 + 1) w _ h
    · refine V.icmp_ge_f (t := 84) (pc := 43) dX4_addFactor_43 (by decide) c ?_
      refine V.iload (pc := 46) dX4_addFactor_46 rfl ?_
      refine V.iload_n (pc := 48) dX4_addFactor_48 rfl ?_
      refine V.iload_n (pc := 49) dX4_addFactor_49 rfl ?_
      refine V.iload (pc := 50) dX4_addFactor_50 rfl ?_
      refine V.iload (pc := 52) dX4_addFactor_52 rfl ?_
      refine U4.callS (pc := 54) (As := [.int l1, .int l2, .int l5, .int l6]) (st := [.int l4]) dX4_addFactor_54 l_RX4_62 (ok4_X4_factorProduct (by omega) l1 l2 l5 l6 ) (Nat.le_of_ble_eq_true rfl) rfl rfl (Nat.le_of_ble_eq_true rfl) ?_
      refine V.imul (pc := 57) dX4_addFactor_57 ?_
      refine V.istore (lv' := [some (.ref 6), some (.int l1), some (.int l2), some (.int l3), some (.int l4), some (.int l5), some (.int l6), some (.int (l4 * (f_X4_factorProduct l1 l2 l5 l6)))]) (pc := 58) dX4_addFactor_58 (Nat.le_of_ble_eq_true rfl) rfl rfl ?_
      refine V.aload_n (pc := 60) dX4_addFactor_60 rfl ?_
      refine V.iload (pc := 61) dX4_addFactor_61 rfl ?_
      refine V.iload (pc := 63) dX4_addFactor_63 rfl ?_
      refine V.iload (pc := 65) dX4_addFactor_65 rfl ?_
      refine V.imul (pc := 67) dX4_addFactor_67 ?_
      refine V.iload (pc := 68) dX4_addFactor_68 rfl ?_
      refine V.iload (pc := 70) dX4_addFactor_70 rfl ?_
      refine V.imul (pc := 72) dX4_addFactor_72 ?_
      refine V.iload (pc := 73) dX4_addFactor_73 rfl ?_
      obtain ⟨w1, ew1, h⟩ := bnd_e h
      refine U4.callV (pc := 75) (As := [.int l4, .int (l4 * l5), .int (l4 * l6), .int (l4 * (f_X4_factorProduct l1 l2 l5 l6))]) (st := []) dX4_addFactor_75 l_RX4_66 (ok4_X4_addBlock (by omega) l4 (l4 * l5) (l4 * l6) (l4 * (f_X4_factorProduct l1 l2 l5 l6)) ew1) lx4_6 ly_6 cn_4 (Nat.le_of_ble_eq_true rfl) rfl rfl (Nat.le_of_ble_eq_true rfl) ?_
      refine V.iinc (lv' := [some (.ref 6), some (.int l1), some (.int l2), some (.int l3), some (.int l4), some (.int l5), some (.int (l6 + 1)), some (.int (l4 * (f_X4_factorProduct l1 l2 l5 l6)))]) (pc := 78) dX4_addFactor_78 (Nat.le_of_ble_eq_true rfl) rfl rfl (v := (l6 + 1)) (by rw [show Int32.ofInt 1 = 1 from by decide]) rfl ?_
      refine V.goto (t := 40) (pc := 81) dX4_addFactor_81 (by decide) ?_
      refine V.weak (lv' := [some (.ref 6), some (.int l1), some (.int l2), some (.int l3), some (.int l4), some (.int l5), some (.int (l6 + 1)), none]) (And.intro rfl (And.intro rfl (And.intro rfl (And.intro rfl (And.intro rfl (And.intro rfl (And.intro rfl trivial))))))) ?_
      exact h40 l1 l2 l3 l4 l5 (l6 + 1) w1 _ h
set_option maxHeartbeats 4000000 in
set_option maxRecDepth 100000 in
theorem t4_X4_addFactor_L31 {G : GT} {d : Nat} (hd : 2 ≤ d + 1)  : ∀ (n : Nat) (l1 : Int32) (l2 : Int32) (l3 : Int32) (l4 : Int32) (l5 : Int32) (w : Wd) (w' : Wd), f_X4_addFactor_L31 n l1 l2 l3 l4 l5 w = some w' → U4 (vf G mX4_addFactor (d + 1)) 31 [some (.ref 6), some (.int l1), some (.int l2), some (.int l3), some (.int l4), some (.int l5), none, none] [] w (none, 44, rX, w') := by
  intro n
  induction n with
  | zero => intro l1 l2 l3 l4 l5 w w' h; cases h
  | succ n h31 =>
    intro l1 l2 l3 l4 l5 w w' h
    have h : f_X4_addFactor_B31b (f_X4_addFactor_L31 n) l1 l2 l3 l4 l5 w = some w' := h
    unfold f_X4_addFactor_B31b at h
    refine V.iload (pc := 31) dX4_addFactor_31 rfl ?_
    refine V.iload_n (pc := 33) dX4_addFactor_33 rfl ?_
    rcases ite_e h with ⟨c, h⟩ | ⟨c, h⟩
    · refine V.icmp_ge_t (t := 90) (pc := 34) dX4_addFactor_34 (by decide) c ?_
      refine V.aload_n (pc := 90) dX4_addFactor_90 rfl ?_
      refine V.iload (pc := 91) dX4_addFactor_91 rfl ?_
      refine V.iload_n (pc := 93) dX4_addFactor_93 rfl ?_
      refine V.imul (pc := 94) dX4_addFactor_94 ?_
      obtain ⟨w1, ew1, h⟩ := letW_e h
      refine V4.putIX (pc := 95) dX4_addFactor_95 f_RX4_30 k_cl4 lx4_6 ly_6 rb_4_7 (fin_I (T0 := TX4) rfl rfl rfl) ew1 ?_
      obtain rfl := Option.some.inj h
      exact V.vret (pc := 98) dX4_addFactor_98 rfl (Nat.le_refl _) (Nat.le_refl _)
    · refine V.icmp_ge_f (t := 90) (pc := 34) dX4_addFactor_34 (by decide) c ?_
      refine V.iconst (pc := 37) dX4_addFactor_37 ic_0 ?_
      refine V.istore (lv' := [some (.ref 6), some (.int l1), some (.int l2), some (.int l3), some (.int l4), some (.int l5), some (.int 0), none]) (pc := 38) dX4_addFactor_38 (Nat.le_of_ble_eq_true rfl) rfl rfl ?_
      exact t4_X4_addFactor_L40 hd h31 FU l1 l2 l3 l4 l5 0 w _ h
set_option maxHeartbeats 4000000 in
set_option maxRecDepth 100000 in
theorem ok4_X4_addFactor {G : GT} {d : Nat} (hd : 2 ≤ d) {w : Wd} (l1 : Int32) (l2 : Int32) {w' : Wd} (h : f_X4_addFactor l1 l2 w = some w') : uC4 G yX4_addFactor mX4_addFactor d [.ref 6, .int l1, .int l2] w none w' := by
  obtain ⟨d, rfl⟩ : ∃ e, d = e + 1 := ⟨d - 1, by omega⟩
  unfold f_X4_addFactor at h
  refine uC4_of (lv := [some (.ref 6), some (.int l1), some (.int l2), none, none, none, none, none]) 5 pn_X4 ⟨rfl, rfl⟩ (Nat.le_of_ble_eq_true rfl) rfl ?_
  refine V.iload_n (pc := 0) dX4_addFactor_0 rfl ?_
  rcases ite_e h with ⟨c, h⟩ | ⟨c, h⟩
  · refine V.if_ne_f (t := 8) (pc := 1) dX4_addFactor_1 (by decide) c ?_
    refine V.iload_n (pc := 4) dX4_addFactor_4 rfl ?_
    refine V.goto (t := 21) (pc := 5) dX4_addFactor_5 (by decide) ?_
    refine V.istore_n (lv' := [some (.ref 6), some (.int l1), some (.int l2), some (.int l2), none, none, none, none]) (pc := 21) dX4_addFactor_21 (Nat.le_of_ble_eq_true rfl) rfl rfl ?_
    refine V.aload_n (pc := 22) dX4_addFactor_22 rfl ?_
    refine V.getI (pc := 23) dX4_addFactor_23 f_RX4_30 k_cl4 lx4_6 ly_6 rb_4_7 ?_
    refine V.istore (lv' := [some (.ref 6), some (.int l1), some (.int l2), some (.int l2), some (.int (w.1 6 7)), none, none, none]) (pc := 26) dX4_addFactor_26 (Nat.le_of_ble_eq_true rfl) rfl rfl ?_
    refine V.iconst (pc := 28) dX4_addFactor_28 ic_0 ?_
    refine V.istore (lv' := [some (.ref 6), some (.int l1), some (.int l2), some (.int l2), some (.int (w.1 6 7)), some (.int 0), none, none]) (pc := 29) dX4_addFactor_29 (Nat.le_of_ble_eq_true rfl) rfl rfl ?_
    exact t4_X4_addFactor_L31 hd FU l1 l2 l2 (w.1 6 7) 0 w _ h
  · refine V.if_ne_t (t := 8) (pc := 1) dX4_addFactor_1 (by decide) c ?_
    refine V.iload_n (pc := 8) dX4_addFactor_8 rfl ?_
    refine V.iconst (pc := 9) dX4_addFactor_9 ic_1 ?_
    rcases ite_e h with ⟨c, h⟩ | ⟨c, h⟩
    · refine V.icmp_ne_f (t := 19) (pc := 10) dX4_addFactor_10 (by decide) c ?_
      refine V.iconst (pc := 13) dX4_addFactor_13 ic_2 ?_
      refine V.iload_n (pc := 14) dX4_addFactor_14 rfl ?_
      refine V.imul (pc := 15) dX4_addFactor_15 ?_
      refine V.goto (t := 21) (pc := 16) dX4_addFactor_16 (by decide) ?_
      refine V.istore_n (lv' := [some (.ref 6), some (.int l1), some (.int l2), some (.int (2 * l2)), none, none, none, none]) (pc := 21) dX4_addFactor_21 (Nat.le_of_ble_eq_true rfl) rfl rfl ?_
      refine V.aload_n (pc := 22) dX4_addFactor_22 rfl ?_
      refine V.getI (pc := 23) dX4_addFactor_23 f_RX4_30 k_cl4 lx4_6 ly_6 rb_4_7 ?_
      refine V.istore (lv' := [some (.ref 6), some (.int l1), some (.int l2), some (.int (2 * l2)), some (.int (w.1 6 7)), none, none, none]) (pc := 26) dX4_addFactor_26 (Nat.le_of_ble_eq_true rfl) rfl rfl ?_
      refine V.iconst (pc := 28) dX4_addFactor_28 ic_0 ?_
      refine V.istore (lv' := [some (.ref 6), some (.int l1), some (.int l2), some (.int (2 * l2)), some (.int (w.1 6 7)), some (.int 0), none, none]) (pc := 29) dX4_addFactor_29 (Nat.le_of_ble_eq_true rfl) rfl rfl ?_
      exact t4_X4_addFactor_L31 hd FU l1 l2 (2 * l2) (w.1 6 7) 0 w _ h
    · refine V.icmp_ne_t (t := 19) (pc := 10) dX4_addFactor_10 (by decide) c ?_
      refine V.bipush (pc := 19) dX4_addFactor_19 bp_8 ?_
      refine V.istore_n (lv' := [some (.ref 6), some (.int l1), some (.int l2), some (.int 8), none, none, none, none]) (pc := 21) dX4_addFactor_21 (Nat.le_of_ble_eq_true rfl) rfl rfl ?_
      refine V.aload_n (pc := 22) dX4_addFactor_22 rfl ?_
      refine V.getI (pc := 23) dX4_addFactor_23 f_RX4_30 k_cl4 lx4_6 ly_6 rb_4_7 ?_
      refine V.istore (lv' := [some (.ref 6), some (.int l1), some (.int l2), some (.int 8), some (.int (w.1 6 7)), none, none, none]) (pc := 26) dX4_addFactor_26 (Nat.le_of_ble_eq_true rfl) rfl rfl ?_
      refine V.iconst (pc := 28) dX4_addFactor_28 ic_0 ?_
      refine V.istore (lv' := [some (.ref 6), some (.int l1), some (.int l2), some (.int 8), some (.int (w.1 6 7)), some (.int 0), none, none]) (pc := 29) dX4_addFactor_29 (Nat.le_of_ble_eq_true rfl) rfl rfl ?_
      exact t4_X4_addFactor_L31 hd FU l1 l2 8 (w.1 6 7) 0 w _ h

set_option maxHeartbeats 4000000 in
set_option maxRecDepth 100000 in
theorem t4_X4_load_3_L106 {G : GT} {d : Nat} {k96 : Int32 → Wd → Option Wd} (hd : 3 ≤ d + 1) (h96 : ∀ (l2 : Int32) (w : Wd) (w' : Wd), k96 l2 w = some w' → U4 (vf G mX4_load (d + 1)) 96 [some (.ref 6), none, some (.int l2), none] [] w (none, 44, rX, w')) : ∀ (n : Nat) (l2 : Int32) (l3 : Int32) (w : Wd) (w' : Wd), f_X4_load_3_L106 k96 n l2 l3 w = some w' → U4 (vf G mX4_load (d + 1)) 106 [some (.ref 6), none, some (.int l2), some (.int l3)] [] w (none, 44, rX, w') := by
  intro n
  induction n with
  | zero => intro l2 l3 w w' h; cases h
  | succ n h106 =>
    intro l2 l3 w w' h
    have h : f_X4_load_3_B106b k96 (f_X4_load_3_L106 k96 n) l2 l3 w = some w' := h
    unfold f_X4_load_3_B106b at h
    refine V.iload_n (pc := 106) dX4_load_106 rfl ?_
    refine V.aload_n (pc := 107) dX4_load_107 rfl ?_
    refine V.getI (pc := 108) dX4_load_108 f_RX4_30 k_cl4 lx4_6 ly_6 rb_4_7 ?_
    rcases ite_e h with ⟨c, h⟩ | ⟨c, h⟩
    · refine V.icmp_ge_t (t := 136) (pc := 111) dX4_load_111 (by decide) c ?_
      refine V.iinc (lv' := [some (.ref 6), none, some (.int (l2 + 1)), some (.int l3)]) (pc := 136) dX4_load_136 (Nat.le_of_ble_eq_true rfl) rfl rfl (v := (l2 + 1)) (by rw [show Int32.ofInt 1 = 1 from by decide]) rfl ?_
      refine V.goto (t := 96) (pc := 139) dX4_load_139 (by decide) ?_
      refine V.weak (lv' := [some (.ref 6), none, some (.int (l2 + 1)), none]) (And.intro rfl (And.intro rfl trivial)) ?_
      exact h96 (l2 + 1) w _ h
    · refine V.icmp_ge_f (t := 136) (pc := 111) dX4_load_111 (by decide) c ?_
      refine V.aload_n (pc := 114) dX4_load_114 rfl ?_
      refine V.iload_n (pc := 115) dX4_load_115 rfl ?_
      refine V.iload_n (pc := 116) dX4_load_116 rfl ?_
      obtain ⟨x1, ex1, h⟩ := bnd_e h
      refine U4.callV (pc := 117) (As := [.int l2, .int l3]) (st := []) dX4_load_117 l_RX4_58 (ok4_X4_times (by omega) l2 l3 ex1) lx4_6 ly_6 cn_4 (Nat.le_of_ble_eq_true rfl) rfl rfl (Nat.le_of_ble_eq_true rfl) ?_
      rcases ite_e h with ⟨c, h⟩ | ⟨c, h⟩
      · refine V.if_ne_f (t := 130) (pc := 120) dX4_load_120 (by decide) c ?_
        refine V.aload_n (pc := 123) dX4_load_123 rfl ?_
        refine V.getR (t := 10) (pc := 124) dX4_load_124 f_RX4_21 k_cl4 lx4_6 ly_6 rb_4_3 rr4_6_3 ?_
        refine V.iload_n (pc := 127) dX4_load_127 rfl ?_
        refine V.iload_n (pc := 128) dX4_load_128 rfl ?_
        obtain ⟨w2, iw2, ew2, h⟩ := wrI_e h
        refine V4.iastX (pc := 129) dX4_load_129 lx4_10 ly_10 iw2 ew2 ?_
        refine V.iinc (lv' := [some (.ref 6), none, some (.int l2), some (.int (l3 + 1))]) (pc := 130) dX4_load_130 (Nat.le_of_ble_eq_true rfl) rfl rfl (v := (l3 + 1)) (by rw [show Int32.ofInt 1 = 1 from by decide]) rfl ?_
        refine V.goto (t := 106) (pc := 133) dX4_load_133 (by decide) ?_
        exact h106 l2 (l3 + 1) w2 _ h
      · refine V.if_ne_t (t := 130) (pc := 120) dX4_load_120 (by decide) c ?_
        refine V.iinc (lv' := [some (.ref 6), none, some (.int l2), some (.int (l3 + 1))]) (pc := 130) dX4_load_130 (Nat.le_of_ble_eq_true rfl) rfl rfl (v := (l3 + 1)) (by rw [show Int32.ofInt 1 = 1 from by decide]) rfl ?_
        refine V.goto (t := 106) (pc := 133) dX4_load_133 (by decide) ?_
        exact h106 l2 (l3 + 1) w _ h
set_option maxHeartbeats 4000000 in
set_option maxRecDepth 100000 in
theorem t4_X4_load_3_L96 {G : GT} {d : Nat} (hd : 3 ≤ d + 1)  : ∀ (n : Nat) (l2 : Int32) (w : Wd) (w' : Wd), f_X4_load_3_L96 n l2 w = some w' → U4 (vf G mX4_load (d + 1)) 96 [some (.ref 6), none, some (.int l2), none] [] w (none, 44, rX, w') := by
  intro n
  induction n with
  | zero => intro l2 w w' h; cases h
  | succ n h96 =>
    intro l2 w w' h
    have h : f_X4_load_3_B96b (f_X4_load_3_L96 n) l2 w = some w' := h
    unfold f_X4_load_3_B96b at h
    refine V.iload_n (pc := 96) dX4_load_96 rfl ?_
    refine V.aload_n (pc := 97) dX4_load_97 rfl ?_
    refine V.getI (pc := 98) dX4_load_98 f_RX4_30 k_cl4 lx4_6 ly_6 rb_4_7 ?_
    rcases ite_e h with ⟨c, h⟩ | ⟨c, h⟩
    · refine V.icmp_ge_t (t := 142) (pc := 101) dX4_load_101 (by decide) c ?_
      obtain rfl := Option.some.inj h
      exact V.vret (pc := 142) dX4_load_142 rfl (Nat.le_refl _) (Nat.le_refl _)
    · refine V.icmp_ge_f (t := 142) (pc := 101) dX4_load_101 (by decide) c ?_
      refine V.iconst (pc := 104) dX4_load_104 ic_0 ?_
      refine V.istore_n (lv' := [some (.ref 6), none, some (.int l2), some (.int 0)]) (pc := 105) dX4_load_105 (Nat.le_of_ble_eq_true rfl) rfl rfl ?_
      exact t4_X4_load_3_L106 hd h96 FU l2 0 w _ h
set_option maxHeartbeats 4000000 in
set_option maxRecDepth 100000 in
theorem t4_X4_load_3_L23 {G : GT} {d : Nat} (hd : 3 ≤ d + 1)  : ∀ (n : Nat) (l2 : Int32) (w : Wd) (w' : Wd), f_X4_load_3_L23 n l2 w = some w' → U4 (vf G mX4_load (d + 1)) 23 [some (.ref 6), some (.ref 3), some (.int l2), none] [] w (none, 44, rX, w') := by
  intro n
  induction n with
  | zero => intro l2 w w' h; cases h
  | succ n h23 =>
    intro l2 w w' h
    have h : f_X4_load_3_B23b (f_X4_load_3_L23 n) l2 w = some w' := h
    unfold f_X4_load_3_B23b at h
    refine V.iload_n (pc := 23) dX4_load_23 rfl ?_
    refine V.aload_n (pc := 24) dX4_load_24 rfl ?_
    refine V.getI (pc := 25) dX4_load_25 f_RX4_45 k_cl4 lx4_6 ly_6 rb_4_6 ?_
    rcases ite_e h with ⟨c, h⟩ | ⟨c, h⟩
    · refine V.icmp_ge_t (t := 77) (pc := 28) dX4_load_28 (by decide) c ?_
      refine V.aload_n (pc := 77) dX4_load_77 rfl ?_
      refine V.iconst (pc := 78) dX4_load_78 ic_1 ?_
      refine V.aload_n (pc := 79) dX4_load_79 rfl ?_
      refine V.getI (pc := 80) dX4_load_80 f_RX4_30 k_cl4 lx4_6 ly_6 rb_4_7 ?_
      refine V.ishl (pc := 83) dX4_load_83 ?_
      refine V.iconst (pc := 84) dX4_load_84 ic_1 ?_
      refine V.isub (pc := 85) dX4_load_85 ?_
      obtain ⟨w1, ew1, h⟩ := letW_e h
      refine V4.putIX (pc := 86) dX4_load_86 f_RX4_52 k_cl4 lx4_6 ly_6 rb_4_8 (fin_I (T0 := TX4) rfl rfl rfl) ew1 ?_
      refine V.aload_n (pc := 89) dX4_load_89 rfl ?_
      refine V.iconst (pc := 90) dX4_load_90 ic_m1 ?_
      obtain ⟨w2, ew2, h⟩ := letW_e h
      refine V4.putIX (pc := 91) dX4_load_91 f_RX4_55 k_cl4 lx4_6 ly_6 rb_4_9 (fin_I (T0 := TX4) rfl rfl rfl) ew2 ?_
      refine V.iconst (pc := 94) dX4_load_94 ic_0 ?_
      refine V.istore_n (lv' := [some (.ref 6), some (.ref 3), some (.int 0), none]) (pc := 95) dX4_load_95 (Nat.le_of_ble_eq_true rfl) rfl rfl ?_
      refine V.weak (lv' := [some (.ref 6), none, some (.int 0), none]) (And.intro rfl (And.intro rfl trivial)) ?_
      exact t4_X4_load_3_L96 hd FU 0 w2 _ h
    · refine V.icmp_ge_f (t := 77) (pc := 28) dX4_load_28 (by decide) c ?_
      refine V.aload_n (pc := 31) dX4_load_31 rfl ?_
      refine V.getR (t := 7) (pc := 32) dX4_load_32 f_RX4_9 k_cl4 lx4_6 ly_6 rb_4_0 rr4_6_0 ?_
      refine V.iload_n (pc := 35) dX4_load_35 rfl ?_
      refine V.aload_n (pc := 36) dX4_load_36 rfl ?_
      refine V.getR (t := 4) (pc := 37) dX4_load_37 f_RX4_46 k_cl7 lx4_3 ly_3 rb_7_1 rr4_3_1 ?_
      refine V.iload_n (pc := 40) dX4_load_40 rfl ?_
      obtain ⟨x3, ix3, ex3, h⟩ := rdI_e h
      refine V4.ialdX (pc := 41) dX4_load_41 lx4_4 ly_4 ix3 ex3 ?_
      obtain ⟨w4, iw4, ew4, h⟩ := wrI_e h
      refine V4.iastX (pc := 42) dX4_load_42 lx4_7 ly_7 iw4 ew4 ?_
      refine V.aload_n (pc := 43) dX4_load_43 rfl ?_
      refine V.getR (t := 8) (pc := 44) dX4_load_44 f_RX4_15 k_cl4 lx4_6 ly_6 rb_4_1 rr4_6_1 ?_
      refine V.iload_n (pc := 47) dX4_load_47 rfl ?_
      refine V.aload_n (pc := 48) dX4_load_48 rfl ?_
      refine V.getR (t := 5) (pc := 49) dX4_load_49 f_RX4_47 k_cl7 lx4_3 ly_3 rb_7_2 rr4_3_2 ?_
      refine V.iload_n (pc := 52) dX4_load_52 rfl ?_
      obtain ⟨x5, ix5, ex5, h⟩ := rdI_e h
      refine V4.ialdX (pc := 53) dX4_load_53 lx4_5 ly_5 ix5 ex5 ?_
      obtain ⟨w6, iw6, ew6, h⟩ := wrI_e h
      refine V4.iastX (pc := 54) dX4_load_54 lx4_8 ly_8 iw6 ew6 ?_
      refine V.aload_n (pc := 55) dX4_load_55 rfl ?_
      refine V.aload_n (pc := 56) dX4_load_56 rfl ?_
      refine V.getR (t := 7) (pc := 57) dX4_load_57 f_RX4_9 k_cl4 lx4_6 ly_6 rb_4_0 rr4_6_0 ?_
      refine V.iload_n (pc := 60) dX4_load_60 rfl ?_
      obtain ⟨x7, ix7, ex7, h⟩ := rdI_e h
      refine V4.ialdX (pc := 61) dX4_load_61 lx4_7 ly_7 ix7 ex7 ?_
      refine V.aload_n (pc := 62) dX4_load_62 rfl ?_
      refine V.getR (t := 8) (pc := 63) dX4_load_63 f_RX4_15 k_cl4 lx4_6 ly_6 rb_4_1 rr4_6_1 ?_
      refine V.iload_n (pc := 66) dX4_load_66 rfl ?_
      obtain ⟨x8, ix8, ex8, h⟩ := rdI_e h
      refine V4.ialdX (pc := 67) dX4_load_67 lx4_8 ly_8 ix8 ex8 ?_
      obtain ⟨w9, ew9, h⟩ := bnd_e h
      refine U4.callV (pc := 68) (As := [.int x7, .int x8]) (st := []) dX4_load_68 l_RX4_48 (ok4_X4_addFactor (by omega) x7 x8 ew9) lx4_6 ly_6 cn_4 (Nat.le_of_ble_eq_true rfl) rfl rfl (Nat.le_of_ble_eq_true rfl) ?_
      refine V.iinc (lv' := [some (.ref 6), some (.ref 3), some (.int (l2 + 1)), none]) (pc := 71) dX4_load_71 (Nat.le_of_ble_eq_true rfl) rfl rfl (v := (l2 + 1)) (by rw [show Int32.ofInt 1 = 1 from by decide]) rfl ?_
      refine V.goto (t := 23) (pc := 74) dX4_load_74 (by decide) ?_
      exact h23 (l2 + 1) w9 _ h
set_option maxHeartbeats 4000000 in
set_option maxRecDepth 100000 in
theorem ok4_X4_load_3 {G : GT} {d : Nat} (hd : 3 ≤ d) {w : Wd}  {w' : Wd} (h : f_X4_load_3  w = some w') : uC4 G yX4_load mX4_load d [.ref 6, .ref 3] w none w' := by
  obtain ⟨d, rfl⟩ : ∃ e, d = e + 1 := ⟨d - 1, by omega⟩
  unfold f_X4_load_3 at h
  refine uC4_of (lv := [some (.ref 6), some (.ref 3), none, none]) 2 pn_X4 ⟨rfl, rfl⟩ (Nat.le_of_ble_eq_true rfl) rfl ?_
  refine V.aload_n (pc := 0) dX4_load_0 rfl ?_
  refine V.iconst (pc := 1) dX4_load_1 ic_1 ?_
  obtain ⟨w1, ew1, h⟩ := letW_e h
  refine V4.putIX (pc := 2) dX4_load_2 f_RX4_30 k_cl4 lx4_6 ly_6 rb_4_7 (fin_I (T0 := TX4) rfl rfl rfl) ew1 ?_
  refine V.aload_n (pc := 5) dX4_load_5 rfl ?_
  refine V.getR (t := 9) (pc := 6) dX4_load_6 f_RX4_18 k_cl4 lx4_6 ly_6 rb_4_2 rr4_6_2 ?_
  refine V.iconst (pc := 9) dX4_load_9 ic_0 ?_
  obtain ⟨w2, ew2, h⟩ := bnd_e h
  refine U4.callS (pc := 10) (As := [.ref 9, .int 0]) (st := []) dX4_load_10 l_RX4_34 (ok4_J7_fill_53178_9 (by omega) 0 ew2) (Nat.le_of_ble_eq_true rfl) rfl rfl (Nat.le_of_ble_eq_true rfl) ?_
  refine V.aload_n (pc := 13) dX4_load_13 rfl ?_
  refine V.aload_n (pc := 14) dX4_load_14 rfl ?_
  refine V.getI (pc := 15) dX4_load_15 f_RX4_40 k_cl7 lx4_3 ly_3 rb_7_3 ?_
  obtain ⟨w3, ew3, h⟩ := letW_e h
  refine V4.putIX (pc := 18) dX4_load_18 f_RX4_45 k_cl4 lx4_6 ly_6 rb_4_6 (fin_I (T0 := TX4) rfl rfl rfl) ew3 ?_
  refine V.iconst (pc := 21) dX4_load_21 ic_0 ?_
  refine V.istore_n (lv' := [some (.ref 6), some (.ref 3), some (.int 0), none]) (pc := 22) dX4_load_22 (Nat.le_of_ble_eq_true rfl) rfl rfl ?_
  exact t4_X4_load_3_L23 hd FU 0 w3 _ h

set_option maxHeartbeats 4000000 in
set_option maxRecDepth 100000 in
theorem t4_X1_widen_L18 {G : GT} {d : Nat} {k2 : Int32 → Wd → Option Wd} (hd : 1 ≤ d + 1) (h2 : ∀ (l1 : Int32) (w : Wd) (w' : Wd), k2 l1 w = some w' → U4 (vf G mX1_widen (d + 1)) 2 [some (.ref 13), some (.int l1), none, none] [] w (none, 44, rX, w')) : ∀ (n : Nat) (l1 : Int32) (l2 : Int32) (w : Wd) (w' : Wd), f_X1_widen_L18 k2 n l1 l2 w = some w' → U4 (vf G mX1_widen (d + 1)) 18 [some (.ref 13), some (.int l1), some (.int l2), none] [] w (none, 44, rX, w') := by
  intro n
  induction n with
  | zero => intro l1 l2 w w' h; cases h
  | succ n h18 =>
    intro l1 l2 w w' h
    have h : f_X1_widen_B18b k2 (f_X1_widen_L18 k2 n) l1 l2 w = some w' := h
    unfold f_X1_widen_B18b at h
    refine V.iload_n (pc := 18) dX1_widen_18 rfl ?_
    refine V.aload_n (pc := 19) dX1_widen_19 rfl ?_
    refine V.getI (pc := 20) dX1_widen_20 f_RX1_31 k_cl1 lx4_13 ly_13 rb_1_6 ?_
    rcases ite_e h with ⟨c, h⟩ | ⟨c, h⟩
    · refine V.icmp_ge_t (t := 120) (pc := 23) dX1_widen_23 (by decide) c ?_
      refine V.iinc (lv' := [some (.ref 13), some (.int (l1 + 1)), some (.int l2), none]) (pc := 120) dX1_widen_120 (Nat.le_of_ble_eq_true rfl) rfl rfl (v := (l1 + 1)) (by rw [show Int32.ofInt 1 = 1 from by decide]) rfl ?_
      refine V.goto (t := 2) (pc := 123) dX1_widen_123 (by decide) ?_
      refine V.weak (lv' := [some (.ref 13), some (.int (l1 + 1)), none, none]) (And.intro rfl (And.intro rfl trivial)) ?_
      exact h2 (l1 + 1) w _ h
    · refine V.icmp_ge_f (t := 120) (pc := 23) dX1_widen_23 (by decide) c ?_
      refine V.aload_n (pc := 26) dX1_widen_26 rfl ?_
      refine V.getR (t := 6) (pc := 27) dX1_widen_27 f_RX1_27 k_cl1 lx4_13 ly_13 rb_1_0 rr4_13_0 ?_
      refine V.aload_n (pc := 30) dX1_widen_30 rfl ?_
      refine V.getR (t := 16) (pc := 31) dX1_widen_31 f_RX1_18 k_cl1 lx4_13 ly_13 rb_1_3 rr4_13_3 ?_
      refine V.iload_n (pc := 34) dX1_widen_34 rfl ?_
      obtain ⟨x1, ix1, ex1, h⟩ := rdI_e h
      refine V4.ialdX (pc := 35) dX1_widen_35 lx4_16 ly_16 ix1 ex1 ?_
      refine V.aload_n (pc := 36) dX1_widen_36 rfl ?_
      refine V.getR (t := 14) (pc := 37) dX1_widen_37 f_RX1_9 k_cl1 lx4_13 ly_13 rb_1_1 rr4_13_1 ?_
      refine V.iload_n (pc := 40) dX1_widen_40 rfl ?_
      obtain ⟨x2, ix2, ex2, h⟩ := rdI_e h
      refine V4.ialdX (pc := 41) dX1_widen_41 lx4_14 ly_14 ix2 ex2 ?_
      obtain ⟨x3, ex3, h⟩ := bnd_e h
      refine U4.callV (pc := 42) (As := [.int x1, .int x2]) (st := []) dX1_widen_42 l_RX1_49 (ok4_X4_times (by omega) x1 x2 ex3) lx4_6 ly_6 cn_4 (Nat.le_of_ble_eq_true rfl) rfl rfl (Nat.le_of_ble_eq_true rfl) ?_
      refine V.istore_n (lv' := [some (.ref 13), some (.int l1), some (.int l2), some (.int x3)]) (pc := 45) dX1_widen_45 (Nat.le_of_ble_eq_true rfl) rfl rfl ?_
      refine V.aload_n (pc := 46) dX1_widen_46 rfl ?_
      refine V.getI (pc := 47) dX1_widen_47 f_RX1_38 k_cl1 lx4_13 ly_13 rb_1_8 ?_
      refine V.iload_n (pc := 50) dX1_widen_50 rfl ?_
      refine V.ishr (pc := 51) dX1_widen_51 ?_
      refine V.iconst (pc := 52) dX1_widen_52 ic_1 ?_
      refine V.iand (pc := 53) dX1_widen_53 ?_
      rcases ite_e h with ⟨c, h⟩ | ⟨c, h⟩
      · refine V.if_ne_f (t := 114) (pc := 54) dX1_widen_54 (by decide) c ?_
        refine V.aload_n (pc := 57) dX1_widen_57 rfl ?_
        refine V.getI (pc := 58) dX1_widen_58 f_RX1_35 k_cl1 lx4_13 ly_13 rb_1_7 ?_
        refine V.bipush (pc := 61) dX1_widen_61 bp_16 ?_
        rcases ite_e h with ⟨c, h⟩ | ⟨c, h⟩
        · refine V.icmp_ge_t (t := 114) (pc := 63) dX1_widen_63 (by decide) c ?_
          refine V.iinc (lv' := [some (.ref 13), some (.int l1), some (.int (l2 + 1)), some (.int x3)]) (pc := 114) dX1_widen_114 (Nat.le_of_ble_eq_true rfl) rfl rfl (v := (l2 + 1)) (by rw [show Int32.ofInt 1 = 1 from by decide]) rfl ?_
          refine V.goto (t := 18) (pc := 117) dX1_widen_117 (by decide) ?_
          refine V.weak (lv' := [some (.ref 13), some (.int l1), some (.int (l2 + 1)), none]) (And.intro rfl (And.intro rfl (And.intro rfl trivial))) ?_
          exact h18 l1 (l2 + 1) w _ h
        · refine V.icmp_ge_f (t := 114) (pc := 63) dX1_widen_63 (by decide) c ?_
          refine V.aload_n (pc := 66) dX1_widen_66 rfl ?_
          refine V.dup (pc := 67) dX1_widen_67 rfl ?_
          refine V.getI (pc := 68) dX1_widen_68 f_RX1_38 k_cl1 lx4_13 ly_13 rb_1_8 ?_
          refine V.iconst (pc := 71) dX1_widen_71 ic_1 ?_
          refine V.iload_n (pc := 72) dX1_widen_72 rfl ?_
          refine V.ishl (pc := 73) dX1_widen_73 ?_
          refine V.ior (pc := 74) dX1_widen_74 ?_
          obtain ⟨w4, ew4, h⟩ := letW_e h
          refine V4.putIX (pc := 75) dX1_widen_75 f_RX1_38 k_cl1 lx4_13 ly_13 rb_1_8 (fin_I (T0 := TX1) rfl rfl rfl) ew4 ?_
          refine V.aload_n (pc := 78) dX1_widen_78 rfl ?_
          refine V.getR (t := 16) (pc := 79) dX1_widen_79 f_RX1_18 k_cl1 lx4_13 ly_13 rb_1_3 rr4_13_3 ?_
          refine V.aload_n (pc := 82) dX1_widen_82 rfl ?_
          refine V.dup (pc := 83) dX1_widen_83 rfl ?_
          refine V.getI (pc := 84) dX1_widen_84 f_RX1_35 k_cl1 lx4_13 ly_13 rb_1_7 ?_
          refine V.dup_x1 (pc := 87) dX1_widen_87 rfl rfl ?_
          refine V.iconst (pc := 88) dX1_widen_88 ic_1 ?_
          refine V.iadd (pc := 89) dX1_widen_89 ?_
          obtain ⟨w5, ew5, h⟩ := letW_e h
          refine V4.putIX (pc := 90) dX1_widen_90 f_RX1_35 k_cl1 lx4_13 ly_13 rb_1_7 (fin_I (T0 := TX1) rfl rfl rfl) ew5 ?_
          refine V.iload_n (pc := 93) dX1_widen_93 rfl ?_
          obtain ⟨w6, iw6, ew6, h⟩ := wrI_e h
          refine V4.iastX (pc := 94) dX1_widen_94 lx4_16 ly_16 iw6 ew6 ?_
          refine V.aload_n (pc := 95) dX1_widen_95 rfl ?_
          refine V.getR (t := 17) (pc := 96) dX1_widen_96 f_RX1_21 k_cl1 lx4_13 ly_13 rb_1_4 rr4_13_4 ?_
          refine V.iload_n (pc := 99) dX1_widen_99 rfl ?_
          refine V.aload_n (pc := 100) dX1_widen_100 rfl ?_
          refine V.getR (t := 16) (pc := 101) dX1_widen_101 f_RX1_18 k_cl1 lx4_13 ly_13 rb_1_3 rr4_13_3 ?_
          refine V.iload_n (pc := 104) dX1_widen_104 rfl ?_
          obtain ⟨x7, ix7, ex7, h⟩ := rdI_e h
          refine V4.ialdX (pc := 105) dX1_widen_105 lx4_16 ly_16 ix7 ex7 ?_
          obtain ⟨w8, iw8, ew8, h⟩ := wrI_e h
          refine V4.iastX (pc := 106) dX1_widen_106 lx4_17 ly_17 iw8 ew8 ?_
          refine V.aload_n (pc := 107) dX1_widen_107 rfl ?_
          refine V.getR (t := 18) (pc := 108) dX1_widen_108 f_RX1_24 k_cl1 lx4_13 ly_13 rb_1_5 rr4_13_5 ?_
          refine V.iload_n (pc := 111) dX1_widen_111 rfl ?_
          refine V.iload_n (pc := 112) dX1_widen_112 rfl ?_
          obtain ⟨w9, iw9, ew9, h⟩ := wrI_e h
          refine V4.iastX (pc := 113) dX1_widen_113 lx4_18 ly_18 iw9 ew9 ?_
          refine V.iinc (lv' := [some (.ref 13), some (.int l1), some (.int (l2 + 1)), some (.int x3)]) (pc := 114) dX1_widen_114 (Nat.le_of_ble_eq_true rfl) rfl rfl (v := (l2 + 1)) (by rw [show Int32.ofInt 1 = 1 from by decide]) rfl ?_
          refine V.goto (t := 18) (pc := 117) dX1_widen_117 (by decide) ?_
          refine V.weak (lv' := [some (.ref 13), some (.int l1), some (.int (l2 + 1)), none]) (And.intro rfl (And.intro rfl (And.intro rfl trivial))) ?_
          exact h18 l1 (l2 + 1) w9 _ h
      · refine V.if_ne_t (t := 114) (pc := 54) dX1_widen_54 (by decide) c ?_
        refine V.iinc (lv' := [some (.ref 13), some (.int l1), some (.int (l2 + 1)), some (.int x3)]) (pc := 114) dX1_widen_114 (Nat.le_of_ble_eq_true rfl) rfl rfl (v := (l2 + 1)) (by rw [show Int32.ofInt 1 = 1 from by decide]) rfl ?_
        refine V.goto (t := 18) (pc := 117) dX1_widen_117 (by decide) ?_
        refine V.weak (lv' := [some (.ref 13), some (.int l1), some (.int (l2 + 1)), none]) (And.intro rfl (And.intro rfl (And.intro rfl trivial))) ?_
        exact h18 l1 (l2 + 1) w _ h
set_option maxHeartbeats 4000000 in
set_option maxRecDepth 100000 in
theorem t4_X1_widen_L2 {G : GT} {d : Nat} (hd : 1 ≤ d + 1)  : ∀ (n : Nat) (l1 : Int32) (w : Wd) (w' : Wd), f_X1_widen_L2 n l1 w = some w' → U4 (vf G mX1_widen (d + 1)) 2 [some (.ref 13), some (.int l1), none, none] [] w (none, 44, rX, w') := by
  intro n
  induction n with
  | zero => intro l1 w w' h; cases h
  | succ n h2 =>
    intro l1 w w' h
    have h : f_X1_widen_B2b (f_X1_widen_L2 n) l1 w = some w' := h
    unfold f_X1_widen_B2b at h
    refine V.iload_n (pc := 2) dX1_widen_2 rfl ?_
    refine V.aload_n (pc := 3) dX1_widen_3 rfl ?_
    refine V.getI (pc := 4) dX1_widen_4 f_RX1_35 k_cl1 lx4_13 ly_13 rb_1_7 ?_
    rcases ite_e h with ⟨c, h⟩ | ⟨c, h⟩
    · refine V.icmp_ge_t (t := 126) (pc := 7) dX1_widen_7 (by decide) c ?_
      obtain rfl := Option.some.inj h
      exact V.vret (pc := 126) dX1_widen_126 rfl (Nat.le_refl _) (Nat.le_refl _)
    · refine V.icmp_ge_f (t := 126) (pc := 7) dX1_widen_7 (by decide) c ?_
      refine V.iload_n (pc := 10) dX1_widen_10 rfl ?_
      refine V.bipush (pc := 11) dX1_widen_11 bp_16 ?_
      rcases ite_e h with ⟨c, h⟩ | ⟨c, h⟩
      · refine V.icmp_ge_t (t := 126) (pc := 13) dX1_widen_13 (by decide) c ?_
        obtain rfl := Option.some.inj h
        exact V.vret (pc := 126) dX1_widen_126 rfl (Nat.le_refl _) (Nat.le_refl _)
      · refine V.icmp_ge_f (t := 126) (pc := 13) dX1_widen_13 (by decide) c ?_
        refine V.iconst (pc := 16) dX1_widen_16 ic_0 ?_
        refine V.istore_n (lv' := [some (.ref 13), some (.int l1), some (.int 0), none]) (pc := 17) dX1_widen_17 (Nat.le_of_ble_eq_true rfl) rfl rfl ?_
        exact t4_X1_widen_L18 hd h2 FU l1 0 w _ h
set_option maxHeartbeats 4000000 in
set_option maxRecDepth 100000 in
theorem ok4_X1_widen {G : GT} {d : Nat} (hd : 1 ≤ d) {w : Wd}  {w' : Wd} (h : f_X1_widen  w = some w') : uC4 G yX1_widen mX1_widen d [.ref 13] w none w' := by
  obtain ⟨d, rfl⟩ : ∃ e, d = e + 1 := ⟨d - 1, by omega⟩
  unfold f_X1_widen at h
  refine uC4_of (lv := [some (.ref 13), none, none, none]) 3 pn_X1 ⟨rfl, rfl⟩ (Nat.le_of_ble_eq_true rfl) rfl ?_
  refine V.iconst (pc := 0) dX1_widen_0 ic_0 ?_
  refine V.istore_n (lv' := [some (.ref 13), some (.int 0), none, none]) (pc := 1) dX1_widen_1 (Nat.le_of_ble_eq_true rfl) rfl rfl ?_
  exact t4_X1_widen_L2 hd FU 0 w _ h

set_option maxHeartbeats 4000000 in
set_option maxRecDepth 100000 in
theorem t4_X1_find_L24 {G : GT} {d : Nat} (hd : 2 ≤ d + 1)  : ∀ (n : Nat) (l1 : Int32) (w : Wd) (w' : Wd), f_X1_find_L24 n l1 w = some w' → U4 (vf G mX1_find (d + 1)) 24 [some (.ref 13), some (.int l1)] [] w (none, 44, rX, w') := by
  intro n
  induction n with
  | zero => intro l1 w w' h; cases h
  | succ n h24 =>
    intro l1 w w' h
    have h : f_X1_find_B24b (f_X1_find_L24 n) l1 w = some w' := h
    unfold f_X1_find_B24b at h
    refine V.iload_n (pc := 24) dX1_find_24 rfl ?_
    refine V.aload_n (pc := 25) dX1_find_25 rfl ?_
    refine V.getR (t := 6) (pc := 26) dX1_find_26 f_RX1_27 k_cl1 lx4_13 ly_13 rb_1_0 rr4_13_0 ?_
    refine V.getI (pc := 29) dX1_find_29 f_RX1_41 k_cl4 lx4_6 ly_6 rb_4_7 ?_
    rcases ite_e h with ⟨c, h⟩ | ⟨c, h⟩
    · refine V.icmp_ge_t (t := 96) (pc := 32) dX1_find_32 (by decide) c ?_
      obtain rfl := Option.some.inj h
      exact V.vret (pc := 96) dX1_find_96 rfl (Nat.le_refl _) (Nat.le_refl _)
    · refine V.icmp_ge_f (t := 96) (pc := 32) dX1_find_32 (by decide) c ?_
      refine V.aload_n (pc := 35) dX1_find_35 rfl ?_
      refine V.getI (pc := 36) dX1_find_36 f_RX1_38 k_cl1 lx4_13 ly_13 rb_1_8 ?_
      refine V.iload_n (pc := 39) dX1_find_39 rfl ?_
      refine V.ishr (pc := 40) dX1_find_40 ?_
      refine V.iconst (pc := 41) dX1_find_41 ic_1 ?_
      refine V.iand (pc := 42) dX1_find_42 ?_
      rcases ite_e h with ⟨c, h⟩ | ⟨c, h⟩
      · refine V.if_ne_f (t := 90) (pc := 43) dX1_find_43 (by decide) c ?_
        refine V.aload_n (pc := 46) dX1_find_46 rfl ?_
        refine V.getI (pc := 47) dX1_find_47 f_RX1_31 k_cl1 lx4_13 ly_13 rb_1_6 ?_
        refine V.iconst (pc := 50) dX1_find_50 ic_4 ?_
        rcases ite_e h with ⟨c, h⟩ | ⟨c, h⟩
        · refine V.icmp_ge_t (t := 90) (pc := 51) dX1_find_51 (by decide) c ?_
          refine V.iinc (lv' := [some (.ref 13), some (.int (l1 + 1))]) (pc := 90) dX1_find_90 (Nat.le_of_ble_eq_true rfl) rfl rfl (v := (l1 + 1)) (by rw [show Int32.ofInt 1 = 1 from by decide]) rfl ?_
          refine V.goto (t := 24) (pc := 93) dX1_find_93 (by decide) ?_
          exact h24 (l1 + 1) w _ h
        · refine V.icmp_ge_f (t := 90) (pc := 51) dX1_find_51 (by decide) c ?_
          refine V.aload_n (pc := 54) dX1_find_54 rfl ?_
          refine V.getR (t := 14) (pc := 55) dX1_find_55 f_RX1_9 k_cl1 lx4_13 ly_13 rb_1_1 rr4_13_1 ?_
          refine V.aload_n (pc := 58) dX1_find_58 rfl ?_
          refine V.dup (pc := 59) dX1_find_59 rfl ?_
          refine V.getI (pc := 60) dX1_find_60 f_RX1_31 k_cl1 lx4_13 ly_13 rb_1_6 ?_
          refine V.dup_x1 (pc := 63) dX1_find_63 rfl rfl ?_
          refine V.iconst (pc := 64) dX1_find_64 ic_1 ?_
          refine V.iadd (pc := 65) dX1_find_65 ?_
          obtain ⟨w1, ew1, h⟩ := letW_e h
          refine V4.putIX (pc := 66) dX1_find_66 f_RX1_31 k_cl1 lx4_13 ly_13 rb_1_6 (fin_I (T0 := TX1) rfl rfl rfl) ew1 ?_
          refine V.iload_n (pc := 69) dX1_find_69 rfl ?_
          obtain ⟨w2, iw2, ew2, h⟩ := wrI_e h
          refine V4.iastX (pc := 70) dX1_find_70 lx4_14 ly_14 iw2 ew2 ?_
          refine V.aload_n (pc := 71) dX1_find_71 rfl ?_
          obtain ⟨w3, ew3, h⟩ := bnd_e h
          refine U4.callV (pc := 72) (As := []) (st := []) dX1_find_72 l_RX1_46 (ok4_X1_widen (by omega)  ew3) lx4_13 ly_13 cn_1 (Nat.le_of_ble_eq_true rfl) rfl rfl (Nat.le_of_ble_eq_true rfl) ?_
          refine V.aload_n (pc := 75) dX1_find_75 rfl ?_
          refine V.getR (t := 15) (pc := 76) dX1_find_76 f_RX1_15 k_cl1 lx4_13 ly_13 rb_1_2 rr4_13_2 ?_
          refine V.aload_n (pc := 79) dX1_find_79 rfl ?_
          refine V.getI (pc := 80) dX1_find_80 f_RX1_31 k_cl1 lx4_13 ly_13 rb_1_6 ?_
          refine V.iconst (pc := 83) dX1_find_83 ic_1 ?_
          refine V.isub (pc := 84) dX1_find_84 ?_
          refine V.aload_n (pc := 85) dX1_find_85 rfl ?_
          refine V.getI (pc := 86) dX1_find_86 f_RX1_35 k_cl1 lx4_13 ly_13 rb_1_7 ?_
          obtain ⟨w4, iw4, ew4, h⟩ := wrI_e h
          refine V4.iastX (pc := 89) dX1_find_89 lx4_15 ly_15 iw4 ew4 ?_
          refine V.iinc (lv' := [some (.ref 13), some (.int (l1 + 1))]) (pc := 90) dX1_find_90 (Nat.le_of_ble_eq_true rfl) rfl rfl (v := (l1 + 1)) (by rw [show Int32.ofInt 1 = 1 from by decide]) rfl ?_
          refine V.goto (t := 24) (pc := 93) dX1_find_93 (by decide) ?_
          exact h24 (l1 + 1) w4 _ h
      · refine V.if_ne_t (t := 90) (pc := 43) dX1_find_43 (by decide) c ?_
        refine V.iinc (lv' := [some (.ref 13), some (.int (l1 + 1))]) (pc := 90) dX1_find_90 (Nat.le_of_ble_eq_true rfl) rfl rfl (v := (l1 + 1)) (by rw [show Int32.ofInt 1 = 1 from by decide]) rfl ?_
        refine V.goto (t := 24) (pc := 93) dX1_find_93 (by decide) ?_
        exact h24 (l1 + 1) w _ h
set_option maxHeartbeats 4000000 in
set_option maxRecDepth 100000 in
theorem ok4_X1_find {G : GT} {d : Nat} (hd : 2 ≤ d) {w : Wd}  {w' : Wd} (h : f_X1_find  w = some w') : uC4 G yX1_find mX1_find d [.ref 13] w none w' := by
  obtain ⟨d, rfl⟩ : ∃ e, d = e + 1 := ⟨d - 1, by omega⟩
  unfold f_X1_find at h
  refine uC4_of (lv := [some (.ref 13), none]) 1 pn_X1 ⟨rfl, rfl⟩ (Nat.le_of_ble_eq_true rfl) rfl ?_
  refine V.aload_n (pc := 0) dX1_find_0 rfl ?_
  refine V.iconst (pc := 1) dX1_find_1 ic_0 ?_
  obtain ⟨w1, ew1, h⟩ := letW_e h
  refine V4.putIX (pc := 2) dX1_find_2 f_RX1_31 k_cl1 lx4_13 ly_13 rb_1_6 (fin_I (T0 := TX1) rfl rfl rfl) ew1 ?_
  refine V.aload_n (pc := 5) dX1_find_5 rfl ?_
  refine V.iconst (pc := 6) dX1_find_6 ic_1 ?_
  obtain ⟨w2, ew2, h⟩ := letW_e h
  refine V4.putIX (pc := 7) dX1_find_7 f_RX1_35 k_cl1 lx4_13 ly_13 rb_1_7 (fin_I (T0 := TX1) rfl rfl rfl) ew2 ?_
  refine V.aload_n (pc := 10) dX1_find_10 rfl ?_
  refine V.iconst (pc := 11) dX1_find_11 ic_1 ?_
  obtain ⟨w3, ew3, h⟩ := letW_e h
  refine V4.putIX (pc := 12) dX1_find_12 f_RX1_38 k_cl1 lx4_13 ly_13 rb_1_8 (fin_I (T0 := TX1) rfl rfl rfl) ew3 ?_
  refine V.aload_n (pc := 15) dX1_find_15 rfl ?_
  refine V.getR (t := 16) (pc := 16) dX1_find_16 f_RX1_18 k_cl1 lx4_13 ly_13 rb_1_3 rr4_13_3 ?_
  refine V.iconst (pc := 19) dX1_find_19 ic_0 ?_
  refine V.iconst (pc := 20) dX1_find_20 ic_0 ?_
  obtain ⟨w4, iw4, ew4, h⟩ := wrI_e h
  refine V4.iastX (pc := 21) dX1_find_21 lx4_16 ly_16 iw4 ew4 ?_
  refine V.iconst (pc := 22) dX1_find_22 ic_1 ?_
  refine V.istore_n (lv' := [some (.ref 13), some (.int 1)]) (pc := 23) dX1_find_23 (Nat.le_of_ble_eq_true rfl) rfl rfl ?_
  exact t4_X1_find_L24 hd FU 1 w4 _ h

set_option maxHeartbeats 4000000 in
set_option maxRecDepth 100000 in
theorem ok4_X3_forget {G : GT} {d : Nat} (hd : 0 ≤ d) {w : Wd}  {w' : Wd} (h : f_X3_forget  w = w') : uC4 G yX3_forget mX3_forget d [.ref 19] w none w' := by
  unfold f_X3_forget at h
  refine uC4_of (lv := [some (.ref 19)]) 0 pn_X3 ⟨rfl, rfl⟩ (Nat.le_of_ble_eq_true rfl) rfl ?_
  refine V.aload_n (pc := 0) dX3_forget_0 rfl ?_
  refine V.iconst (pc := 1) dX3_forget_1 ic_0 ?_
  obtain ⟨w1, ew1, h⟩ := letW_e h
  refine V4.putIX (pc := 2) dX3_forget_2 f_RX3_19 k_cl3 lx4_19 ly_19 rb_3_2 (fin_I (T0 := TX3) rfl rfl rfl) ew1 ?_
  subst h
  exact V.vret (pc := 5) dX3_forget_5 rfl (Nat.le_refl _) (Nat.le_refl _)

set_option maxHeartbeats 4000000 in
set_option maxRecDepth 100000 in
theorem ok4_X2_forget {G : GT} {d : Nat} (hd : 0 ≤ d) {w : Wd}  {w' : Wd} (h : f_X2_forget  w = w') : uC4 G yX2_forget mX2_forget d [.ref 21] w none w' := by
  unfold f_X2_forget at h
  refine uC4_of (lv := [some (.ref 21)]) 0 pn_X2 ⟨rfl, rfl⟩ (Nat.le_of_ble_eq_true rfl) rfl ?_
  refine V.aload_n (pc := 0) dX2_forget_0 rfl ?_
  refine V.iconst (pc := 1) dX2_forget_1 ic_m1 ?_
  obtain ⟨w1, ew1, h⟩ := letW_e h
  refine V4.putIX (pc := 2) dX2_forget_2 f_RX2_22 k_cl2 lx4_21 ly_21 rb_2_3 (fin_I (T0 := TX2) rfl rfl rfl) ew1 ?_
  subst h
  exact V.vret (pc := 5) dX2_forget_5 rfl (Nat.le_refl _) (Nat.le_refl _)

set_option maxHeartbeats 4000000 in
set_option maxRecDepth 100000 in
theorem ok4_X10_forget {G : GT} {d : Nat} (hd : 0 ≤ d) {w : Wd}  {w' : Wd} (h : f_X10_forget  w = w') : uC4 G yX10_forget mX10_forget d [.ref 24] w none w' := by
  unfold f_X10_forget at h
  refine uC4_of (lv := [some (.ref 24)]) 0 pn_X10 ⟨rfl, rfl⟩ (Nat.le_of_ble_eq_true rfl) rfl ?_
  refine V.aload_n (pc := 0) dX10_forget_0 rfl ?_
  refine V.iconst (pc := 1) dX10_forget_1 ic_0 ?_
  obtain ⟨w1, ew1, h⟩ := letW_e h
  refine V4.putIX (pc := 2) dX10_forget_2 f_RX10_42 k_cl10 lx4_24 ly_24 rb_10_8 (fin_I (T0 := TX10) rfl rfl rfl) ew1 ?_
  subst h
  exact V.vret (pc := 5) dX10_forget_5 rfl (Nat.le_refl _) (Nat.le_refl _)

set_option maxHeartbeats 4000000 in
set_option maxRecDepth 100000 in
theorem ok4_X5_forget {G : GT} {d : Nat} (hd : 0 ≤ d) {w : Wd}  {w' : Wd} (h : f_X5_forget  w = w') : uC4 G yX5_forget mX5_forget d [.ref 32] w none w' := by
  unfold f_X5_forget at h
  refine uC4_of (lv := [some (.ref 32)]) 0 pn_X5 ⟨rfl, rfl⟩ (Nat.le_of_ble_eq_true rfl) rfl ?_
  refine V.aload_n (pc := 0) dX5_forget_0 rfl ?_
  refine V.getR (t := 34) (pc := 1) dX5_forget_1 f_RX5_28 k_cl5 lx4_32 ly_32 rb_5_2 rr4_32_2 ?_
  refine V.iconst (pc := 4) dX5_forget_4 ic_0 ?_
  obtain ⟨w1, ew1, h⟩ := letW_e h
  refine V4.putIX (pc := 5) dX5_forget_5 f_RX5_32 k_cl8 lx4_34 ly_34 rb_8_4 (fin_I (T0 := TX8) rfl rfl rfl) ew1 ?_
  subst h
  exact V.vret (pc := 8) dX5_forget_8 rfl (Nat.le_refl _) (Nat.le_refl _)

set_option maxHeartbeats 4000000 in
set_option maxRecDepth 100000 in
theorem t4_X0_restart_L2 {G : GT} {d : Nat} (hd : 0 ≤ d)  : ∀ (n : Nat) (l1 : Int32) (l2 : Int32) (w : Wd) (w' : Wd), f_X0_restart_L2 n l1 l2 w = some w' → U4 (vf G mX0_restart d) 2 [some (.ref 37), some (.int l1), some (.int l2)] [] w (none, 44, rX, w') := by
  intro n
  induction n with
  | zero => intro l1 l2 w w' h; cases h
  | succ n h2 =>
    intro l1 l2 w w' h
    have h : f_X0_restart_B2b (f_X0_restart_L2 n) l1 l2 w = some w' := h
    unfold f_X0_restart_B2b at h
    refine V.iload_n (pc := 2) dX0_restart_2 rfl ?_
    refine V.bipush (pc := 3) dX0_restart_3 bp_20 ?_
    rcases ite_e h with ⟨c, h⟩ | ⟨c, h⟩
    · refine V.icmp_ge_t (t := 31) (pc := 5) dX0_restart_5 (by decide) c ?_
      refine V.aload_n (pc := 31) dX0_restart_31 rfl ?_
      refine V.getR (t := 38) (pc := 32) dX0_restart_32 f_RX0_11 k_cl0 lx4_37 ly_37 rb_0_0 rr4_37_0 ?_
      refine V.bipush (pc := 35) dX0_restart_35 bp_19 ?_
      refine V.iload_n (pc := 37) dX0_restart_37 rfl ?_
      obtain ⟨w1, iw1, ew1, h⟩ := wrI_e h
      refine V4.iastX (pc := 38) dX0_restart_38 lx4_38 ly_38 iw1 ew1 ?_
      refine V.aload_n (pc := 39) dX0_restart_39 rfl ?_
      refine V.iconst (pc := 40) dX0_restart_40 ic_0 ?_
      obtain ⟨w2, ew2, h⟩ := letW_e h
      refine V4.putIX (pc := 41) dX0_restart_41 f_RX0_21 k_cl0 lx4_37 ly_37 rb_0_4 (fin_I (T0 := TX0) rfl rfl rfl) ew2 ?_
      obtain rfl := Option.some.inj h
      exact V.vret (pc := 44) dX0_restart_44 rfl (Nat.le_refl _) (Nat.le_refl _)
    · refine V.icmp_ge_f (t := 31) (pc := 5) dX0_restart_5 (by decide) c ?_
      refine V.aload_n (pc := 8) dX0_restart_8 rfl ?_
      refine V.getR (t := 38) (pc := 9) dX0_restart_9 f_RX0_11 k_cl0 lx4_37 ly_37 rb_0_0 rr4_37_0 ?_
      refine V.iload_n (pc := 12) dX0_restart_12 rfl ?_
      refine V.iload_n (pc := 13) dX0_restart_13 rfl ?_
      refine V.bipush (pc := 14) dX0_restart_14 bp_16 ?_
      rcases ite_e h with ⟨c, h⟩ | ⟨c, h⟩
      · refine V.icmp_ge_t (t := 23) (pc := 16) dX0_restart_16 (by decide) c ?_
        refine V.iconst (pc := 23) dX0_restart_23 ic_0 ?_
        obtain ⟨w3, iw3, ew3, h⟩ := wrI_e h
        refine V4.iastX (pc := 24) dX0_restart_24 lx4_38 ly_38 iw3 ew3 ?_
        refine V.iinc (lv' := [some (.ref 37), some (.int l1), some (.int (l2 + 1))]) (pc := 25) dX0_restart_25 (Nat.le_of_ble_eq_true rfl) rfl rfl (v := (l2 + 1)) (by rw [show Int32.ofInt 1 = 1 from by decide]) rfl ?_
        refine V.goto (t := 2) (pc := 28) dX0_restart_28 (by decide) ?_
        exact h2 l1 (l2 + 1) w3 _ h
      · refine V.icmp_ge_f (t := 23) (pc := 16) dX0_restart_16 (by decide) c ?_
        refine V.iconst (pc := 19) dX0_restart_19 ic_1 ?_
        refine V.goto (t := 24) (pc := 20) dX0_restart_20 (by decide) ?_
        obtain ⟨w4, iw4, ew4, h⟩ := wrI_e h
        refine V4.iastX (pc := 24) dX0_restart_24 lx4_38 ly_38 iw4 ew4 ?_
        refine V.iinc (lv' := [some (.ref 37), some (.int l1), some (.int (l2 + 1))]) (pc := 25) dX0_restart_25 (Nat.le_of_ble_eq_true rfl) rfl rfl (v := (l2 + 1)) (by rw [show Int32.ofInt 1 = 1 from by decide]) rfl ?_
        refine V.goto (t := 2) (pc := 28) dX0_restart_28 (by decide) ?_
        exact h2 l1 (l2 + 1) w4 _ h
set_option maxHeartbeats 4000000 in
set_option maxRecDepth 100000 in
theorem ok4_X0_restart {G : GT} {d : Nat} (hd : 0 ≤ d) {w : Wd} (l1 : Int32) {w' : Wd} (h : f_X0_restart l1 w = some w') : uC4 G yX0_restart mX0_restart d [.ref 37, .int l1] w none w' := by
  unfold f_X0_restart at h
  refine uC4_of (lv := [some (.ref 37), some (.int l1), none]) 1 pn_X0 ⟨rfl, rfl⟩ (Nat.le_of_ble_eq_true rfl) rfl ?_
  refine V.iconst (pc := 0) dX0_restart_0 ic_0 ?_
  refine V.istore_n (lv' := [some (.ref 37), some (.int l1), some (.int 0)]) (pc := 1) dX0_restart_1 (Nat.le_of_ble_eq_true rfl) rfl rfl ?_
  exact t4_X0_restart_L2 hd FU l1 0 w _ h

set_option maxHeartbeats 4000000 in
set_option maxRecDepth 100000 in
theorem ok4_X11_renew {G : GT} {d : Nat} (hd : 4 ≤ d) {w : Wd}  {w' : Wd} (h : f_X11_renew  w = some w') : uC4 G yX11_renew mX11_renew d [.ref 0] w none w' := by
  obtain ⟨d, rfl⟩ : ∃ e, d = e + 1 := ⟨d - 1, by omega⟩
  unfold f_X11_renew at h
  refine uC4_of (lv := [some (.ref 0)]) 0 pn_X11 ⟨rfl, rfl⟩ (Nat.le_of_ble_eq_true rfl) rfl ?_
  refine V.aload_n (pc := 0) dX11_renew_0 rfl ?_
  refine V.getR (t := 6) (pc := 1) dX11_renew_1 f_RX11_28 k_cl11 lx4_0 ly_0 rb_11_2 rr4_0_2 ?_
  refine V.aload_n (pc := 4) dX11_renew_4 rfl ?_
  refine V.getR (t := 3) (pc := 5) dX11_renew_5 f_RX11_21 k_cl11 lx4_0 ly_0 rb_11_1 rr4_0_1 ?_
  obtain ⟨w1, ew1, h⟩ := bnd_e h
  refine U4.callV (pc := 8) (As := [.ref 3]) (st := []) dX11_renew_8 l_RX11_317 (ok4_X4_load_3 (by omega)  ew1) lx4_6 ly_6 cn_4 (Nat.le_of_ble_eq_true rfl) rfl rfl (Nat.le_of_ble_eq_true rfl) ?_
  refine V.aload_n (pc := 11) dX11_renew_11 rfl ?_
  refine V.getR (t := 13) (pc := 12) dX11_renew_12 f_RX11_37 k_cl11 lx4_0 ly_0 rb_11_3 rr4_0_3 ?_
  obtain ⟨w2, ew2, h⟩ := bnd_e h
  refine U4.callV (pc := 15) (As := []) (st := []) dX11_renew_15 l_RX11_321 (ok4_X1_find (by omega)  ew2) lx4_13 ly_13 cn_1 (Nat.le_of_ble_eq_true rfl) rfl rfl (Nat.le_of_ble_eq_true rfl) ?_
  refine V.aload_n (pc := 18) dX11_renew_18 rfl ?_
  refine V.getR (t := 19) (pc := 19) dX11_renew_19 f_RX11_44 k_cl11 lx4_0 ly_0 rb_11_4 rr4_0_4 ?_
  obtain ⟨w3, ew3, h⟩ := letW_e h
  refine U4.callV (pc := 22) (As := []) (st := []) dX11_renew_22 l_RX11_324 (ok4_X3_forget (by omega)  ew3) lx4_19 ly_19 cn_3 (Nat.le_of_ble_eq_true rfl) rfl rfl (Nat.le_of_ble_eq_true rfl) ?_
  refine V.aload_n (pc := 25) dX11_renew_25 rfl ?_
  refine V.getR (t := 21) (pc := 26) dX11_renew_26 f_RX11_51 k_cl11 lx4_0 ly_0 rb_11_5 rr4_0_5 ?_
  obtain ⟨w4, ew4, h⟩ := letW_e h
  refine U4.callV (pc := 29) (As := []) (st := []) dX11_renew_29 l_RX11_327 (ok4_X2_forget (by omega)  ew4) lx4_21 ly_21 cn_2 (Nat.le_of_ble_eq_true rfl) rfl rfl (Nat.le_of_ble_eq_true rfl) ?_
  refine V.aload_n (pc := 32) dX11_renew_32 rfl ?_
  refine V.getR (t := 24) (pc := 33) dX11_renew_33 f_RX11_60 k_cl11 lx4_0 ly_0 rb_11_6 rr4_0_6 ?_
  obtain ⟨w5, ew5, h⟩ := letW_e h
  refine U4.callV (pc := 36) (As := []) (st := []) dX11_renew_36 l_RX11_328 (ok4_X10_forget (by omega)  ew5) lx4_24 ly_24 cn_10 (Nat.le_of_ble_eq_true rfl) rfl rfl (Nat.le_of_ble_eq_true rfl) ?_
  refine V.aload_n (pc := 39) dX11_renew_39 rfl ?_
  refine V.getR (t := 32) (pc := 40) dX11_renew_40 f_RX11_67 k_cl11 lx4_0 ly_0 rb_11_7 rr4_0_7 ?_
  obtain ⟨w6, ew6, h⟩ := letW_e h
  refine U4.callV (pc := 43) (As := []) (st := []) dX11_renew_43 l_RX11_329 (ok4_X5_forget (by omega)  ew6) lx4_32 ly_32 cn_5 (Nat.le_of_ble_eq_true rfl) rfl rfl (Nat.le_of_ble_eq_true rfl) ?_
  refine V.aload_n (pc := 46) dX11_renew_46 rfl ?_
  refine V.getR (t := 37) (pc := 47) dX11_renew_47 f_RX11_74 k_cl11 lx4_0 ly_0 rb_11_8 rr4_0_8 ?_
  refine V.aload_n (pc := 50) dX11_renew_50 rfl ?_
  refine V.getR (t := 3) (pc := 51) dX11_renew_51 f_RX11_21 k_cl11 lx4_0 ly_0 rb_11_1 rr4_0_1 ?_
  refine V.getI (pc := 54) dX11_renew_54 f_RX11_330 k_cl7 lx4_3 ly_3 rb_7_5 ?_
  obtain ⟨w7, ew7, h⟩ := bnd_e h
  refine U4.callV (pc := 57) (As := [.int (w6.1 3 5)]) (st := []) dX11_renew_57 l_RX11_332 (ok4_X0_restart (by omega) (w6.1 3 5) ew7) lx4_37 ly_37 cn_0 (Nat.le_of_ble_eq_true rfl) rfl rfl (Nat.le_of_ble_eq_true rfl) ?_
  obtain rfl := Option.some.inj h
  exact V.vret (pc := 60) dX11_renew_60 rfl (Nat.le_refl _) (Nat.le_refl _)

