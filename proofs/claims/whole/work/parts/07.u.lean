def rmD (d : Nat) : Room := { frames := d, cells := 0, slots := 0, locals := 64 * d }
abbrev vf (G : GT) (M : VM) (d : Nat) : VF := (G, M, (fun _ => True), rmD d, 0, 0)
abbrev U (F : VF) (pc : Nat) (lv : List (Option Value)) (st : List Value) (w : Wd) (Z : VZ) : Prop := V F 0 0 70 r0 pc lv st w Z
def uC (G : GT) (y : MethodName) (M : VM) (d : Nat) (av : List Value) (w : Wd) (res : Option Value) (w' : Wd) : Prop := vC G y M (rmD d) 0 0 70 r0 av w (res, 70, r0, w')
theorem uC_of {G : GT} {y : MethodName} {M : VM} {d : Nat} {av : List Value} {w w' : Wd} {res : Option Value} {lv : List (Option Value)} (kp : Nat) (hy : plainName y.cls = true) (hM : M.1 = y.cls ∧ M.2.1 = y.name) (hlen : (lg_sl av).length ≤ M.2.2.2.1) (hlv : lvA av ++ List.replicate kp none = lv)
    (k : U (vf G M d) 0 lv [] w (res, 70, r0, w')) : uC G y M d av w res w' := vC_of kp hy hM hlen (Nat.le_of_ble_eq_true rfl) (by rw [hlv]; exact k)
theorem rmOk_D {d mL : Nat} (h : mL ≤ 45) : rmOk (rmD (d + 1)) (rmD d) mL 0 0 0 0 := by
  refine ⟨rfl, rfl, ⟨Nat.le_refl _, ?_⟩, Nat.le_refl _, Nat.le_refl _⟩
  show 8 + (mL + 11) + 64 * d ≤ 64 * (d + 1)
  omega
section UC
variable {G : GT} {M0 : VM} {d pc : Nat} {lv : List (Option Value)} {st : List Value} {w : Wd} {Z : VZ}
theorem U.callV {i nA b ci : Nat} {y : MethodName} {M : VM} {As st0 : List Value} {res : Option Value} {w1 : Wd} (hd : decode M0.2.2.1 pc = .ok (.invokevirtual i, 3)) (hk : lkV M0.1 i y M nA) (hC : uC G y M d (.ref b :: As) w res w1) (hb : b < 70) (hl : lay b = (0, ci)) (hcl : (vwCl[ci]?).map (fun q => q.1) = some y.cls) (hR : M.2.2.2.1 ≤ 45) (hst : st0 = As.reverse ++ .ref b :: st) (hn : As.length = nA) (hs : (st.map fun v => v.category).sum ≤ 8)
    (kk : U (vf G M0 (d + 1)) (pc + 3) lv (res.toList ++ st) w1 Z) : U (vf G M0 (d + 1)) pc lv st0 w Z :=
  V.callV (F := vf G M0 (d + 1)) hd hk hC hb hl hcl (rmOk_D hR) hst hn hs (Nat.le_of_ble_eq_true rfl) kk
theorem U.callS {i nA : Nat} {y : MethodName} {M : VM} {As st0 : List Value} {res : Option Value} {w1 : Wd} (hd : decode M0.2.2.1 pc = .ok (.invokestatic i, 3)) (hk : lkS M0.1 i y M nA) (hC : uC G y M d As w res w1) (hR : M.2.2.2.1 ≤ 45) (hst : st0 = As.reverse ++ st) (hn : As.length = nA) (hs : (st.map fun v => v.category).sum ≤ 8)
    (kk : U (vf G M0 (d + 1)) (pc + 3) lv (res.toList ++ st) w1 Z) : U (vf G M0 (d + 1)) pc lv st0 w Z :=
  V.callS (F := vf G M0 (d + 1)) hd hk hC (rmOk_D hR) hst hn hs (Nat.le_of_ble_eq_true rfl) kk
theorem V.ialdX {F : VF} {i x : Int32} {k N : Nat} (hd : decode F.2.1.2.2.1 pc = .ok (.iaload, 1)) (hk : k < 70) (hl : lay k = (1, N)) (hi : inb i N = true) (hx : w.1 k i.toNatClampNeg = x) (kk : U F (pc + 1) lv (.int x :: st) w Z) : U F pc lv (.int i :: .ref k :: st) w Z := by
  subst hx; exact V.iald hd hk hl hi kk
theorem V.baldX {F : VF} {i x : Int32} {k N : Nat} (hd : decode F.2.1.2.2.1 pc = .ok (.baload, 1)) (hk : k < 70) (hl : lay k = (4, N)) (hi : inb i N = true) (hx : w.1 k i.toNatClampNeg = x) (kk : U F (pc + 1) lv (.int x :: st) w Z) : U F pc lv (.int i :: .ref k :: st) w Z := by
  subst hx; exact V.bald hd hk hl hi kk
theorem V.zaldX {F : VF} {i x : Int32} {k N : Nat} (hd : decode F.2.1.2.2.1 pc = .ok (.baload, 1)) (hk : k < 70) (hl : lay k = (3, N)) (hi : inb i N = true) (hx : w.1 k i.toNatClampNeg = x) (kk : U F (pc + 1) lv (.int x :: st) w Z) : U F pc lv (.int i :: .ref k :: st) w Z := by
  subst hx; exact V.zald hd hk hl hi kk
theorem V.laldX {F : VF} {i : Int32} {x : Int64} {k N : Nat} (hd : decode F.2.1.2.2.1 pc = .ok (.laload, 1)) (hk : k < 70) (hl : lay k = (2, N)) (hi : inb i N = true) (hx : w.2 i.toNatClampNeg = x) (kk : U F (pc + 1) lv (.long x :: st) w Z) : U F pc lv (.int i :: .ref k :: st) w Z := by
  subst hx; exact V.lald hd hk hl hi kk
theorem V.iastX {F : VF} {i x : Int32} {k N : Nat} {w1 : Wd} (hd : decode F.2.1.2.2.1 pc = .ok (.iastore, 1)) (hk : k < 70) (hl : lay k = (1, N)) (hi : inb i N = true) (hx : sI w k i.toNatClampNeg x = w1) (kk : U F (pc + 1) lv st w1 Z) : U F pc lv (.int x :: .int i :: .ref k :: st) w Z := by
  subst hx; exact V.iast hd hk hl hi kk
theorem V.zastX {F : VF} {i x : Int32} {k N : Nat} {w1 : Wd} (hd : decode F.2.1.2.2.1 pc = .ok (.bastore, 1)) (hk : k < 70) (hl : lay k = (3, N)) (hb : x = 0 ∨ x = 1) (hi : inb i N = true) (hx : sI w k i.toNatClampNeg x = w1) (kk : U F (pc + 1) lv st w1 Z) : U F pc lv (.int x :: .int i :: .ref k :: st) w Z := by
  subst hx; exact V.zast hd hk hl hi hb kk
theorem lay_long : ∀ a b, lay a = (2, b) → a = 28 := by
  intro a b h
  by_cases ha : a < 70
  · have hd : ∀ a, a < 70 → (lay a).1 = 2 → a = 28 := by decide +kernel
    exact hd a ha (by rw [h])
  · have hlen : layL.length = 70 := by decide +kernel
    have e : lay a = (9, 0) := by
      unfold lay
      rw [List.getD_eq_getElem?_getD, List.getElem?_eq_none (by omega)]
      rfl
    rw [e] at h
    exact absurd (show (9 : Nat) = 2 from congrArg Prod.fst h) (by decide)
theorem V.lastX {F : VF} {i : Int32} {x : Int64} {N : Nat} {w1 : Wd} (hd : decode F.2.1.2.2.1 pc = .ok (.lastore, 1)) (hl : lay 28 = (2, N)) (hi : inb i N = true) (hx : sL w i.toNatClampNeg x = w1) (kk : U F (pc + 1) lv st w1 Z) : U F pc lv (.long x :: .int i :: .ref 28 :: st) w Z := by
  subst hx; exact V.last hd (Nat.le_of_ble_eq_true rfl) hl lay_long hi kk
theorem V.putIX {F : VF} {i j k ci : Nat} {x : Int32} {w1 : Wd} (hd : decode F.2.1.2.2.1 pc = .ok (.putfield i, 3)) (hf : fOk F.2.1.1 i ci j) (hc : clOk ci) (hk : k < 70) (hl : lay k = (0, ci)) (hb : (refL.getD ci [])[j]? = some false)
    (hfin : ∀ C T N, vwCl[ci]? = some (C, T, N) → (T j).2.2.2 = false ∧ ((T j).2.2.1 = "I" ∨ ((T j).2.2.1 = "Z" ∧ (x = 0 ∨ x = 1)))) (hx : sI w k j x = w1) (kk : U F (pc + 3) lv st w1 Z) : U F pc lv (.int x :: .ref k :: st) w Z := by
  subst hx; exact V.putI hd hf hc hk hl hb hfin kk
end UC
theorem fin_I {ci j : Nat} {C0 : String} {T0 : u_T} {N0 : Nat} (h : vwCl[ci]? = some (C0, T0, N0)) (h1 : (T0 j).2.2.2 = false) (h2 : (T0 j).2.2.1 = "I") {x : Int32} : ∀ C T N, vwCl[ci]? = some (C, T, N) → (T j).2.2.2 = false ∧ ((T j).2.2.1 = "I" ∨ ((T j).2.2.1 = "Z" ∧ (x = 0 ∨ x = 1))) := by
  intro C T N e
  rw [h] at e
  cases e
  exact ⟨h1, Or.inl h2⟩
theorem fin_Z {ci j : Nat} {C0 : String} {T0 : u_T} {N0 : Nat} (h : vwCl[ci]? = some (C0, T0, N0)) (h1 : (T0 j).2.2.2 = false) (h2 : (T0 j).2.2.1 = "Z") {x : Int32} (hx : x = 0 ∨ x = 1) : ∀ C T N, vwCl[ci]? = some (C, T, N) → (T j).2.2.2 = false ∧ ((T j).2.2.1 = "I" ∨ ((T j).2.2.1 = "Z" ∧ (x = 0 ∨ x = 1))) := by
  intro C T N e
  rw [h] at e
  cases e
  exact ⟨h1, Or.inr ⟨h2, hx⟩⟩
/-! words of the methods' functions -/
def FU : Nat := 10 ^ 40
def letW {α β : Type} (a : α) (f : α → β) : β := f a
theorem letW_e {α β : Type} {a : α} {f : α → β} {r : β} (h : letW a f = r) : ∃ b, a = b ∧ f b = r := ⟨a, rfl, h⟩
def rdI {β : Type} (w : Wd) (k N : Nat) (i : Int32) (f : Int32 → Option β) : Option β := if inb i N = true then f (w.1 k i.toNatClampNeg) else none
theorem rdI_e {β : Type} {w : Wd} {k N : Nat} {i : Int32} {f : Int32 → Option β} {r : β} (h : rdI w k N i f = some r) : ∃ x, inb i N = true ∧ w.1 k i.toNatClampNeg = x ∧ f x = some r := by
  unfold rdI at h
  split at h
  next hi => exact ⟨_, hi, rfl, h⟩
  next => cases h
def rdL {β : Type} (w : Wd) (N : Nat) (i : Int32) (f : Int64 → Option β) : Option β := if inb i N = true then f (w.2 i.toNatClampNeg) else none
theorem rdL_e {β : Type} {w : Wd} {N : Nat} {i : Int32} {f : Int64 → Option β} {r : β} (h : rdL w N i f = some r) : ∃ x, inb i N = true ∧ w.2 i.toNatClampNeg = x ∧ f x = some r := by
  unfold rdL at h
  split at h
  next hi => exact ⟨_, hi, rfl, h⟩
  next => cases h
def wrI {β : Type} (w : Wd) (k N : Nat) (i x : Int32) (f : Wd → Option β) : Option β := if inb i N = true then f (sI w k i.toNatClampNeg x) else none
theorem wrI_e {β : Type} {w : Wd} {k N : Nat} {i x : Int32} {f : Wd → Option β} {r : β} (h : wrI w k N i x f = some r) : ∃ w1, inb i N = true ∧ sI w k i.toNatClampNeg x = w1 ∧ f w1 = some r := by
  unfold wrI at h
  split at h
  next hi => exact ⟨_, hi, rfl, h⟩
  next => cases h
def wrL {β : Type} (w : Wd) (N : Nat) (i : Int32) (x : Int64) (f : Wd → Option β) : Option β := if inb i N = true then f (sL w i.toNatClampNeg x) else none
theorem wrL_e {β : Type} {w : Wd} {N : Nat} {i : Int32} {x : Int64} {f : Wd → Option β} {r : β} (h : wrL w N i x f = some r) : ∃ w1, inb i N = true ∧ sL w i.toNatClampNeg x = w1 ∧ f w1 = some r := by
  unfold wrL at h
  split at h
  next hi => exact ⟨_, hi, rfl, h⟩
  next => cases h
abbrev rem32 (x y : Int32) : Int32 := x - x / y * y
def nzI {β : Type} (y : Int32) (f : Option β) : Option β := if y = 0 then none else f
theorem nzI_e {β : Type} {y : Int32} {f : Option β} {r : β} (h : nzI y f = some r) : ¬ y = 0 ∧ f = some r := by
  unfold nzI at h
  split at h
  next => cases h
  next hi => exact ⟨hi, h⟩
def bnd {α β : Type} (o : Option α) (f : α → Option β) : Option β := match o with
  | some p => f p
  | none => none
theorem bnd_e {α β : Type} {o : Option α} {f : α → Option β} {r : β} (h : bnd o f = some r) : ∃ x, o = some x ∧ f x = some r := by
  cases o with
  | none => cases h
  | some p => exact ⟨p, rfl, h⟩
def bnd2 {α β γ : Type} (o : Option (α × γ)) (f : α → γ → Option β) : Option β := match o with
  | some p => f p.1 p.2
  | none => none
theorem bnd2_e {α β γ : Type} {o : Option (α × γ)} {f : α → γ → Option β} {r : β} (h : bnd2 o f = some r) : ∃ x w1, o = some (x, w1) ∧ f x w1 = some r := by
  cases o with
  | none => cases h
  | some p => exact ⟨p.1, p.2, rfl, h⟩
theorem ite_e {α : Type} {c : Prop} [Decidable c] {a b r : α} (h : (if c then a else b) = r) : (c ∧ a = r) ∨ (¬ c ∧ b = r) := by
  by_cases hc : c
  · rw [if_pos hc] at h; exact Or.inl ⟨hc, h⟩
  · rw [if_neg hc] at h; exact Or.inr ⟨hc, h⟩
def chB {β : Type} (x : Int32) (f : Option β) : Option β := if x = 0 ∨ x = 1 then f else none
theorem chB_e {β : Type} {x : Int32} {f : Option β} {r : β} (h : chB x f = some r) : (x = 0 ∨ x = 1) ∧ f = some r := by
  unfold chB at h
  split at h
  next hi => exact ⟨hi, h⟩
  next => cases h
theorem pn_X0 : plainName RX0 = true := by decide +kernel
theorem pn_X1 : plainName RX1 = true := by decide +kernel
theorem pn_X2 : plainName RX2 = true := by decide +kernel
theorem pn_X3 : plainName RX3 = true := by decide +kernel
theorem pn_X4 : plainName RX4 = true := by decide +kernel
theorem pn_X5 : plainName RX5 = true := by decide +kernel
theorem pn_X6 : plainName RX6 = true := by decide +kernel
theorem pn_X7 : plainName RX7 = true := by decide +kernel
theorem pn_X8 : plainName RX8 = true := by decide +kernel
theorem pn_X9 : plainName RX9 = true := by decide +kernel
theorem pn_X10 : plainName RX10 = true := by decide +kernel
theorem pn_X11 : plainName RX11 = true := by decide +kernel
theorem pn_X12 : plainName RX12 = true := by decide +kernel
theorem pn_J6 : plainName RJ6 = true := by decide +kernel
theorem pn_J0 : plainName RJ0 = true := by decide +kernel
theorem pn_J1 : plainName RJ1 = true := by decide +kernel
theorem pn_J7 : plainName RJ7 = true := by decide +kernel
theorem pn_L : plainName RL = true := by decide +kernel
theorem ic_m1 : Int32.ofInt (-1) = (-1 : Int32) := by decide
theorem ic_0 : Int32.ofInt (0) = (0 : Int32) := by decide
theorem ic_1 : Int32.ofInt (1) = (1 : Int32) := by decide
theorem ic_2 : Int32.ofInt (2) = (2 : Int32) := by decide
theorem ic_3 : Int32.ofInt (3) = (3 : Int32) := by decide
theorem ic_4 : Int32.ofInt (4) = (4 : Int32) := by decide
theorem ic_5 : Int32.ofInt (5) = (5 : Int32) := by decide
theorem bp_m4 : (Int8.ofInt (-4)).toInt32 = (-4 : Int32) := by decide
theorem bp_m2 : (Int8.ofInt (-2)).toInt32 = (-2 : Int32) := by decide
theorem bp_6 : (Int8.ofInt (6)).toInt32 = (6 : Int32) := by decide
theorem bp_7 : (Int8.ofInt (7)).toInt32 = (7 : Int32) := by decide
theorem bp_8 : (Int8.ofInt (8)).toInt32 = (8 : Int32) := by decide
theorem bp_9 : (Int8.ofInt (9)).toInt32 = (9 : Int32) := by decide
theorem bp_10 : (Int8.ofInt (10)).toInt32 = (10 : Int32) := by decide
theorem bp_11 : (Int8.ofInt (11)).toInt32 = (11 : Int32) := by decide
theorem bp_12 : (Int8.ofInt (12)).toInt32 = (12 : Int32) := by decide
theorem bp_13 : (Int8.ofInt (13)).toInt32 = (13 : Int32) := by decide
theorem bp_14 : (Int8.ofInt (14)).toInt32 = (14 : Int32) := by decide
theorem bp_15 : (Int8.ofInt (15)).toInt32 = (15 : Int32) := by decide
theorem bp_16 : (Int8.ofInt (16)).toInt32 = (16 : Int32) := by decide
theorem bp_17 : (Int8.ofInt (17)).toInt32 = (17 : Int32) := by decide
theorem bp_18 : (Int8.ofInt (18)).toInt32 = (18 : Int32) := by decide
theorem bp_19 : (Int8.ofInt (19)).toInt32 = (19 : Int32) := by decide
theorem bp_20 : (Int8.ofInt (20)).toInt32 = (20 : Int32) := by decide
theorem bp_21 : (Int8.ofInt (21)).toInt32 = (21 : Int32) := by decide
theorem bp_22 : (Int8.ofInt (22)).toInt32 = (22 : Int32) := by decide
theorem bp_23 : (Int8.ofInt (23)).toInt32 = (23 : Int32) := by decide
theorem bp_24 : (Int8.ofInt (24)).toInt32 = (24 : Int32) := by decide
theorem bp_25 : (Int8.ofInt (25)).toInt32 = (25 : Int32) := by decide
theorem bp_26 : (Int8.ofInt (26)).toInt32 = (26 : Int32) := by decide
theorem bp_27 : (Int8.ofInt (27)).toInt32 = (27 : Int32) := by decide
theorem bp_28 : (Int8.ofInt (28)).toInt32 = (28 : Int32) := by decide
theorem bp_29 : (Int8.ofInt (29)).toInt32 = (29 : Int32) := by decide
theorem bp_30 : (Int8.ofInt (30)).toInt32 = (30 : Int32) := by decide
theorem bp_31 : (Int8.ofInt (31)).toInt32 = (31 : Int32) := by decide
theorem bp_32 : (Int8.ofInt (32)).toInt32 = (32 : Int32) := by decide
theorem bp_33 : (Int8.ofInt (33)).toInt32 = (33 : Int32) := by decide
theorem bp_34 : (Int8.ofInt (34)).toInt32 = (34 : Int32) := by decide
theorem bp_35 : (Int8.ofInt (35)).toInt32 = (35 : Int32) := by decide
theorem bp_36 : (Int8.ofInt (36)).toInt32 = (36 : Int32) := by decide
theorem bp_37 : (Int8.ofInt (37)).toInt32 = (37 : Int32) := by decide
theorem bp_38 : (Int8.ofInt (38)).toInt32 = (38 : Int32) := by decide
theorem bp_39 : (Int8.ofInt (39)).toInt32 = (39 : Int32) := by decide
theorem bp_40 : (Int8.ofInt (40)).toInt32 = (40 : Int32) := by decide
theorem bp_41 : (Int8.ofInt (41)).toInt32 = (41 : Int32) := by decide
theorem bp_42 : (Int8.ofInt (42)).toInt32 = (42 : Int32) := by decide
theorem bp_43 : (Int8.ofInt (43)).toInt32 = (43 : Int32) := by decide
theorem bp_44 : (Int8.ofInt (44)).toInt32 = (44 : Int32) := by decide
theorem bp_45 : (Int8.ofInt (45)).toInt32 = (45 : Int32) := by decide
theorem bp_46 : (Int8.ofInt (46)).toInt32 = (46 : Int32) := by decide
theorem bp_47 : (Int8.ofInt (47)).toInt32 = (47 : Int32) := by decide
theorem bp_48 : (Int8.ofInt (48)).toInt32 = (48 : Int32) := by decide
theorem bp_49 : (Int8.ofInt (49)).toInt32 = (49 : Int32) := by decide
theorem bp_50 : (Int8.ofInt (50)).toInt32 = (50 : Int32) := by decide
theorem bp_51 : (Int8.ofInt (51)).toInt32 = (51 : Int32) := by decide
theorem bp_52 : (Int8.ofInt (52)).toInt32 = (52 : Int32) := by decide
theorem bp_53 : (Int8.ofInt (53)).toInt32 = (53 : Int32) := by decide
theorem bp_54 : (Int8.ofInt (54)).toInt32 = (54 : Int32) := by decide
theorem bp_55 : (Int8.ofInt (55)).toInt32 = (55 : Int32) := by decide
theorem bp_56 : (Int8.ofInt (56)).toInt32 = (56 : Int32) := by decide
theorem bp_57 : (Int8.ofInt (57)).toInt32 = (57 : Int32) := by decide
theorem bp_58 : (Int8.ofInt (58)).toInt32 = (58 : Int32) := by decide
theorem bp_59 : (Int8.ofInt (59)).toInt32 = (59 : Int32) := by decide
theorem bp_60 : (Int8.ofInt (60)).toInt32 = (60 : Int32) := by decide
theorem bp_61 : (Int8.ofInt (61)).toInt32 = (61 : Int32) := by decide
theorem bp_62 : (Int8.ofInt (62)).toInt32 = (62 : Int32) := by decide
theorem bp_63 : (Int8.ofInt (63)).toInt32 = (63 : Int32) := by decide
theorem bp_64 : (Int8.ofInt (64)).toInt32 = (64 : Int32) := by decide
theorem bp_65 : (Int8.ofInt (65)).toInt32 = (65 : Int32) := by decide
theorem bp_66 : (Int8.ofInt (66)).toInt32 = (66 : Int32) := by decide
theorem bp_67 : (Int8.ofInt (67)).toInt32 = (67 : Int32) := by decide
theorem bp_68 : (Int8.ofInt (68)).toInt32 = (68 : Int32) := by decide
theorem bp_97 : (Int8.ofInt (97)).toInt32 = (97 : Int32) := by decide
theorem bp_99 : (Int8.ofInt (99)).toInt32 = (99 : Int32) := by decide
theorem bp_100 : (Int8.ofInt (100)).toInt32 = (100 : Int32) := by decide
theorem bp_101 : (Int8.ofInt (101)).toInt32 = (101 : Int32) := by decide
theorem bp_102 : (Int8.ofInt (102)).toInt32 = (102 : Int32) := by decide
theorem bp_104 : (Int8.ofInt (104)).toInt32 = (104 : Int32) := by decide
theorem bp_105 : (Int8.ofInt (105)).toInt32 = (105 : Int32) := by decide
theorem bp_108 : (Int8.ofInt (108)).toInt32 = (108 : Int32) := by decide
theorem bp_109 : (Int8.ofInt (109)).toInt32 = (109 : Int32) := by decide
theorem bp_110 : (Int8.ofInt (110)).toInt32 = (110 : Int32) := by decide
theorem bp_111 : (Int8.ofInt (111)).toInt32 = (111 : Int32) := by decide
theorem bp_112 : (Int8.ofInt (112)).toInt32 = (112 : Int32) := by decide
theorem bp_113 : (Int8.ofInt (113)).toInt32 = (113 : Int32) := by decide
theorem bp_114 : (Int8.ofInt (114)).toInt32 = (114 : Int32) := by decide
theorem bp_115 : (Int8.ofInt (115)).toInt32 = (115 : Int32) := by decide
theorem bp_116 : (Int8.ofInt (116)).toInt32 = (116 : Int32) := by decide
theorem bp_117 : (Int8.ofInt (117)).toInt32 = (117 : Int32) := by decide
theorem bp_121 : (Int8.ofInt (121)).toInt32 = (121 : Int32) := by decide
theorem bp_122 : (Int8.ofInt (122)).toInt32 = (122 : Int32) := by decide
theorem sp_128 : (Int16.ofInt (128)).toInt32 = (128 : Int32) := by decide
theorem sp_200 : (Int16.ofInt (200)).toInt32 = (200 : Int32) := by decide
theorem sp_240 : (Int16.ofInt (240)).toInt32 = (240 : Int32) := by decide
theorem sp_255 : (Int16.ofInt (255)).toInt32 = (255 : Int32) := by decide
theorem sp_256 : (Int16.ofInt (256)).toInt32 = (256 : Int32) := by decide
theorem sp_1024 : (Int16.ofInt (1024)).toInt32 = (1024 : Int32) := by decide
theorem sp_2560 : (Int16.ofInt (2560)).toInt32 = (2560 : Int32) := by decide
theorem sp_3072 : (Int16.ofInt (3072)).toInt32 = (3072 : Int32) := by decide
