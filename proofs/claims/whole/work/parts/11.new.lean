/-! making: objects, rows, final references; and what is there while the constructors run -/
def rT (l : List (Nat × Nat × Nat)) : RT := fun k j => (l.find? (fun q => q.1 == k && q.2.1 == j)).map (fun q => q.2.2)
theorem r0_rT : r0 = rT refT := rfl
theorem rT_app (l : List (Nat × Nat × Nat)) (k j t a b : Nat) : rT (l ++ [(k, j, t)]) a b = if (rT l a b).isSome then rT l a b else if a = k ∧ b = j then some t else none := by
  unfold rT
  rw [List.find?_append]
  cases h : l.find? (fun q => q.1 == a && q.2.1 == b) with
  | some q => simp
  | none =>
    simp only [Option.none_or, Option.map_none, Option.isSome_none, Bool.false_eq_true, if_false]
    by_cases e : a = k ∧ b = j
    · obtain ⟨rfl, rfl⟩ := e
      simp
    · rw [if_neg e]
      have : ((k == a) && (j == b)) = false := by
        simp only [Bool.and_eq_false_iff, beq_eq_false_iff_ne]
        by_cases e1 : k = a
        · right; intro e2; exact e ⟨e1.symm, e2.symm⟩
        · left; exact e1
      simp [this]
theorem cs_succ (G : GT) (n : Nat) (r : RT) (w : Wd) : cs G (n + 1) r w = cs G n r w ++ [(ad G n, cel G r w n)] := by
  unfold cs
  rw [List.range_succ, List.map_append]
  rfl
theorem fld_rset {G : GT} {w : Wd} {l : List (Nat × Nat × Nat)} {k j t : Nat} {bs : List Bool} (h : bs[j]? = some true) (hn : rT l k j = none) : fld G (rT (l ++ [(k, j, t)])) w k bs 0 = (fld G (rT l) w k bs 0).set j (.ref (ad G t)) := by
  apply List.ext_getElem?
  intro i
  rw [List.getElem?_set, fld_get, fld_get]
  by_cases e : j = i
  · subst e
    have hl : j < (fld G (rT l) w k bs 0).length := by
      have h1 : (fld G (rT l) w k bs 0)[j]? = some (va_rf ((rT l k (0 + j)).map (ad G))) := by rw [fld_get, h]; rfl
      exact (List.getElem?_eq_some_iff.mp h1).1
    rw [if_pos rfl, if_pos hl, h]
    simp [rT_app, hn, va_rf]
  · rw [if_neg e]
    have e2 : rT (l ++ [(k, j, t)]) k (0 + i) = rT l k (0 + i) := by
      rw [rT_app]
      have : ¬ (k = k ∧ 0 + i = j) := fun q => e (by have := q.2; omega)
      rw [if_neg this]
      cases hq : rT l k (0 + i) <;> simp
    rw [e2]
theorem fld_rrow {G : GT} {w : Wd} {r r' : RT} {k : Nat} (h : ∀ j, r' k j = r k j) : ∀ (bs : List Bool) (j : Nat), fld G r' w k bs j = fld G r w k bs j
  | [], _ => rfl
  | b :: bs, j => by simp only [fld, h]; rw [fld_rrow h bs (j + 1)]
theorem cel_rrow {G : GT} {w : Wd} {l : List (Nat × Nat × Nat)} {k j t a : Nat} (h : a ≠ k) : cel G (rT (l ++ [(k, j, t)])) w a = cel G (rT l) w a := by
  have e : ∀ b, rT (l ++ [(k, j, t)]) a b = rT l a b := by
    intro b
    rw [rT_app, if_neg (fun q => h q.1 : ¬ (a = k ∧ b = j))]
    cases hq : rT l a b <;> simp
  unfold cel
  split
  · rw [fld_rrow e]
  · rfl
  · rfl
theorem nest_no' : ∀ q ∈ NF, q.2.2.1 ≠ q.1 := by decide +kernel
theorem nest_no {own : String} {i : Nat} {a b c d : String} (h : (own, i, a, b, c, d) ∈ NF) : a ≠ own := nest_no' _ h
section VN
variable {F : VF} {cells slots n : Nat} {r : RT} {pc : Nat} {lv : List (Option Value)} {st : List Value} {w : Wd} {Z : VZ}
theorem V.new {i ci N : Nat} {C : String} (hd : decode F.2.1.2.2.1 pc = .ok (.new i, 3)) (hcl : Cond.classLink F.2.1.1 i C ∈ BIG) (hc : clOk ci) (hci : (vwCl[ci]?).map (fun q => q.1) = some C) (hl : lay n = (0, ci)) (hn : n < 1000) (hN : (refL.getD ci []).length = N) (hr : ∀ j, r n j = none) (hw : ∀ j, w.1 n j = 0) (hc1 : cells + 1 ≤ F.2.2.2.1.cells) (hs1 : slots + N ≤ F.2.2.2.1.slots)
    (kk : V F (cells + 1) (slots + N) (n + 1) r (pc + 3) lv (.ref n :: st) w Z) : V F cells slots n r pc lv st w Z :=
  fun h p l e s m args below meth c H locs ls C0 hP hz hS hl' => by
    obtain ⟨C1, T, N1, ty, e1, hin, hty, hnm, hlen, hinst, hini, hdef⟩ := hc
    rw [e1] at hci
    have hC : C1 = C := Option.some.inj hci
    subst hC
    have hNN : N1 = N := hlen.symm.trans hN
    subst hNN
    have hts := C0.2.2.2.2.2.1
    have hK := C0.2.2.2.2.2.2.2.2.1.1
    have hD : va_D (gA F.1) (cs F.1 n r w) := cs_D h
    have hKn := hK.1 ci _ e1
    refine W.newcK C0.1 C0.2.1 C0.2.2.2.2.1 (hts _ hcl) (hts _ hinst) (hts _ hini) rfl hd hc1 hs1 hKn.2.1 rfl fun H1 kC hkC e1' z1 o1 => ?_
    have hk : ∀ (k : Nat) (x : Nat × va_E), (cs F.1 n r w)[k]? = some x → H1[x.1]? = H[x.1]? := fun k x hx => o1 x.1 ((hP k x hx).lt)
    have ea : ad F.1 n = H.size := by rw [ad_lt hn, hz]
    have hP1 : va_P F.1.2.2.2.1 vwCl (cs F.1 (n + 1) r w) H1 := by
      rw [cs_succ]
      refine (hP.kept hk).app (fun k x hx => ?_)
      have hz' : k < 1 := (List.getElem?_eq_some_iff.mp hx).1
      rw [show k = 0 by omega] at hx
      cases hx
      rw [cel_obj hl, ea]
      refine ⟨_, e1, (u_born ty hts hin hKn hkC e1' hty).to (fun j hj => ?_)⟩
      have hg := fld_get F.1 r w n (refL.getD ci []) 0 j
      rcases hdef j hj with ⟨d1, d2⟩ | ⟨d1, d2⟩
      · rw [d2] at hg
        rw [d1]
        show _ = (fld F.1 r w n (refL.getD ci []) 0).getD j .null
        rw [List.getD_eq_getElem?_getD, hg]
        simp [hw]
      · rw [d2] at hg
        rw [d1]
        show _ = (fld F.1 r w n (refL.getD ci []) 0).getD j .null
        rw [List.getD_eq_getElem?_getD, hg]
        simp [hr, va_rf]
    have e2 : (.ref H.size : Value) :: st.map (rv F.1) = ((.ref n : Value) :: st).map (rv F.1) := by simp [rv, ea]
    show W p l e F.2.2.2.1 s m args below meth c H1 locs (cells + 1) (slots + N1) _ (F0 m (pc + 3) ls (.ref H.size :: st.map (rv F.1)))
    rw [e2]
    exact kk (by omega) p l e s m args below meth c H1 locs ls C0 hP1 (by rw [z1, hz]; omega) ⟨Nat.le_trans hS.1 (by omega), fun x h1 h2 => (o1 x (Nat.lt_of_lt_of_le h1 hS.1)).trans (hS.2.1 x h1 h2), hS.2.2⟩ hl'
theorem V.newa {N a : Nat} {atype : ArrayType} {v : Int32} (hd : decode F.2.1.2.2.1 pc = .ok (.newarray atype, 2)) (hty : newarray.typeOf atype = tyA a) (ha : a = 1 ∨ a = 3 ∨ a = 4) (hl : lay n = (a, N)) (hn : n < 1000) (hv0 : ¬ v < 0) (hN : v.toNatClampNeg = N) (hbytes : N * componentBytes (tyA a) ≤ 536870912) (harr : Cond.arrayClass (tyA a) ∈ BIG) (hw : ∀ j, w.1 n j = 0) (hc1 : cells + 1 ≤ F.2.2.2.1.cells) (hs1 : slots + N ≤ F.2.2.2.1.slots)
    (kk : V F (cells + 1) (slots + N) (n + 1) r (pc + 2) lv (.ref n :: st) w Z) : V F cells slots n r pc lv (.int v :: st) w Z :=
  fun h p l e s m args below meth c H locs ls C0 hP hz hS hl' => by
    have hts := C0.2.2.2.2.2.1
    have hK := C0.2.2.2.2.2.2.2.2.1.1
    have ea : ad F.1 n = H.size := by rw [ad_lt hn, hz]
    refine va_newaK C0.1 C0.2.1 (atype := atype) (by rw [hty]; exact hts _ harr) rfl hd rfl hv0 hN (by rw [hty]; exact hbytes) hc1 hs1 rfl fun H1 cA e1 z1 o1 hAr hNm => ?_
    have hcA : cA = F.1.2.2.2.2 a := by
      rw [hty] at hNm
      rcases ha with rfl | rfl | rfl
      · exact Option.some.inj (hNm.symm.trans (hK.2 0 _ rfl).2)
      · exact Option.some.inj (hNm.symm.trans (hK.2 2 _ rfl).2)
      · exact Option.some.inj (hNm.symm.trans (hK.2 3 _ rfl).2)
    have hdv : defaultValue (newarray.typeOf atype) = .int 0 := by rw [hty]; rcases ha with rfl | rfl | rfl <;> rfl
    have hce : cel F.1 r w n = .inl (F.1.2.2.2.2 a, N, .inl (w.1 n)) := by
      rcases ha with rfl | rfl | rfl
      · exact cel_int hl
      · exact cel_boo hl
      · exact cel_byt hl
    have hk : ∀ (k : Nat) (x : Nat × va_E), (cs F.1 n r w)[k]? = some x → H1[x.1]? = H[x.1]? := fun k x hx => o1 x.1 ((hP k x hx).lt)
    have hP1 : va_P F.1.2.2.2.1 vwCl (cs F.1 (n + 1) r w) H1 := by
      rw [cs_succ]
      refine (hP.kept hk).app (fun k x hx => ?_)
      have hz' : k < 1 := (List.getElem?_eq_some_iff.mp hx).1
      rw [show k = 0 by omega] at hx
      cases hx
      rw [hce, ea]
      show H1[H.size]? = some (vp_cell _ _)
      rw [e1, vp_cell_i, hcA, hdv]
      congr 2
      funext j
      rw [hw]
    have e2 : (.ref H.size : Value) :: st.map (rv F.1) = ((.ref n : Value) :: st).map (rv F.1) := by simp [rv, ea]
    show W p l e F.2.2.2.1 s m args below meth c H1 locs (cells + 1) (slots + N) _ (F0 m (pc + 2) ls (.ref H.size :: st.map (rv F.1)))
    rw [e2]
    exact kk (by omega) p l e s m args below meth c H1 locs ls C0 hP1 (by rw [z1, hz]; omega) ⟨Nat.le_trans hS.1 (by omega), fun x h1 h2 => (o1 x (Nat.lt_of_lt_of_le h1 hS.1)).trans (hS.2.1 x h1 h2), hS.2.2⟩ hl'
theorem V.newl {N : Nat} {v : Int32} (hd : decode F.2.1.2.2.1 pc = .ok (.newarray .long, 2)) (hl : lay n = (2, N)) (hn : n < 1000) (hv0 : ¬ v < 0) (hN : v.toNatClampNeg = N) (hbytes : N * componentBytes .long ≤ 536870912) (harr : Cond.arrayClass .long ∈ BIG) (hw : ∀ j, w.2 j = 0) (hc1 : cells + 1 ≤ F.2.2.2.1.cells) (hs1 : slots + N ≤ F.2.2.2.1.slots)
    (kk : V F (cells + 1) (slots + N) (n + 1) r (pc + 2) lv (.ref n :: st) w Z) : V F cells slots n r pc lv (.int v :: st) w Z :=
  fun h p l e s m args below meth c H locs ls C0 hP hz hS hl' => by
    have hts := C0.2.2.2.2.2.1
    have hK := C0.2.2.2.2.2.2.2.2.1.1
    have ea : ad F.1 n = H.size := by rw [ad_lt hn, hz]
    refine va_newaK C0.1 C0.2.1 (atype := .long) (hts _ harr) rfl hd rfl hv0 hN hbytes hc1 hs1 rfl fun H1 cA e1 z1 o1 hAr hNm => ?_
    have hcA : cA = F.1.2.2.2.2 2 := Option.some.inj (hNm.symm.trans (hK.2 1 _ rfl).2)
    have hk : ∀ (k : Nat) (x : Nat × va_E), (cs F.1 n r w)[k]? = some x → H1[x.1]? = H[x.1]? := fun k x hx => o1 x.1 ((hP k x hx).lt)
    have hP1 : va_P F.1.2.2.2.1 vwCl (cs F.1 (n + 1) r w) H1 := by
      rw [cs_succ]
      refine (hP.kept hk).app (fun k x hx => ?_)
      have hz' : k < 1 := (List.getElem?_eq_some_iff.mp hx).1
      rw [show k = 0 by omega] at hx
      cases hx
      rw [cel_lon hl, ea]
      show H1[H.size]? = some (vp_cell _ _)
      rw [e1, vp_cell_l, hcA]
      congr 2
      funext j
      rw [hw]
      rfl
    have e2 : (.ref H.size : Value) :: st.map (rv F.1) = ((.ref n : Value) :: st).map (rv F.1) := by simp [rv, ea]
    show W p l e F.2.2.2.1 s m args below meth c H1 locs (cells + 1) (slots + N) _ (F0 m (pc + 2) ls (.ref H.size :: st.map (rv F.1)))
    rw [e2]
    exact kk (by omega) p l e s m args below meth c H1 locs ls C0 hP1 (by rw [z1, hz]; omega) ⟨Nat.le_trans hS.1 (by omega), fun x h1 h2 => (o1 x (Nat.lt_of_lt_of_le h1 hS.1)).trans (hS.2.1 x h1 h2), hS.2.2⟩ hl'
theorem V.objInit {i a : Nat} (hd : decode F.2.1.2.2.1 pc = .ok (.invokespecial i, 3)) (hk : Cond.methodLink F.2.1.1 i Lib.objectInit ∈ BIG) (hi : Cond.instanceMethod Lib.objectInit ∈ BIG) (hc : Cond.code Lib.objectInit ⟨#[0xb1]⟩ 1 none ∈ BIG) (hR : 1 ≤ F.2.2.2.1.frames) (hR2 : (st.map fun v => v.category).sum + 12 ≤ F.2.2.2.1.locals) (kk : V F cells slots n r (pc + 3) lv st w Z) : V F cells slots n r pc lv (.ref a :: st) w Z :=
  fun h p l e s m args below meth c H locs ls C hP hz hS hl' =>
    W.objInit C.1 C.2.1 C.2.2.2.2.1 (C.2.2.2.2.2.1 _ hk) (C.2.2.2.2.2.1 _ hi) (C.2.2.2.2.2.1 _ hc) rfl (by rw [C.2.2.1]; exact hl'.1) rfl hd hR (by show 2 * 0 + ((st.map (rv F.1)).map fun v => v.category).sum + 12 ≤ _; rw [rv_cats]; omega) (kk h p l e s m args below meth c H locs ls C hP hz hS hl')
theorem V.putR {i j k ci t : Nat} {l0 : List (Nat × Nat × Nat)} (hd : decode F.2.1.2.2.1 pc = .ok (.putfield i, 3)) (hf : fOk F.2.1.1 i ci j) (hc : clOk ci) (hk : k < n) (hl : lay k = (0, ci)) (hb : (refL.getD ci [])[j]? = some true) (hnone : rT l0 k j = none) (hini : F.2.1.2.1 = "<init>")
    (hfin : ∀ C T N, vwCl[ci]? = some (C, T, N) → (T j).2.2.2 = true ∧ (T j).1 = F.2.1.1 ∧ ∃ ty, parseFieldDescriptor (T j).2.2.1 = some ty ∧ ∀ a, narrow ty (.ref a) = .ref a ∧ fits ty (.ref a) = true)
    (kk : V F cells slots n (rT (l0 ++ [(k, j, t)])) (pc + 3) lv st w Z) : V F cells slots n (rT l0) pc lv (.ref t :: .ref k :: st) w Z :=
  fun h p l e s m args below meth c H locs ls C hP hz hS hl' => by
    obtain ⟨C1, T, N, e1, hj, hlk⟩ := hf
    obtain ⟨C2, T2, N2, ty, e2, hin, hty, hnm, hlen, -, -, -⟩ := hc
    rw [e1] at e2
    cases e2
    obtain ⟨f1, f2, ty0, f3, f4⟩ := hfin _ _ _ e1
    have hty0 : ty j = ty0 := Option.some.inj ((hty j hj).symm.trans f3)
    obtain ⟨n1, n2⟩ := f4 (ad F.1 t)
    rw [← hty0] at n1 n2
    have hws := cs_get (G := F.1) (r := rT l0) (w := w) hk
    rw [cel_obj hl] at hws
    have hD : va_D (gA F.1) (cs F.1 n (rT l0) w) := cs_D h
    have hfl : j < (fld F.1 (rT l0) w k (refL.getD ci []) 0).length := by
      have h1 : (fld F.1 (rT l0) w k (refL.getD ci []) 0)[j]? = some (va_rf ((rT l0 k (0 + j)).map (ad F.1))) := by rw [fld_get, hb]; rfl
      exact (List.getElem?_eq_some_iff.mp h1).1
    have hset : (cs F.1 n (rT l0) w).set k (ad F.1 k, .inr (ci, (fld F.1 (rT l0) w k (refL.getD ci []) 0).set j (.ref (ad F.1 t)))) = cs F.1 n (rT (l0 ++ [(k, j, t)])) w :=
      cs_set (by rw [cel_obj hl, fld_rset hb hnone]) (fun a ha => cel_rrow ha)
    have hap := va_apart (own := F.2.1.1) C.2.2.2.2.2.1 hin ty hty hnm C.2.2.2.2.2.2.2.2.1.1 e1
    obtain ⟨q, h1, cell, q1, q2, q3, q4⟩ := hP k _ hws
    have hq : q = (C1, T, N) := Option.some.inj (h1.symm.trans e1)
    subst hq
    obtain ⟨hSl, hfc, kC, hkC, hkind⟩ := C.2.2.2.2.2.2.2.2.1.1.1 ci _ e1
    obtain ⟨cf, kf, fi, f, hi, hsl⟩ := hSl j hj
    have hlay := C.2.2.2.2.2.1 _ (hin _ (u_in_lay hj))
    unfold u_lay at hlay
    rw [if_pos f1] at hlay
    have hst := (u_facts hfc hkC (u_lays C.2.2.2.2.2.1 hin hj) hi).1
    have hcf : m.cls = cf := by
      obtain ⟨_, _, c', _, _, _, -, -, hf', -, -, -, hown2, -⟩ := Cond.laysFinal_spec hlay
      have e1 : c' = cf := by have := hi.symm.trans hf'; simp at this; exact this.1.symm
      rw [f2] at hown2
      rw [← e1]; exact Option.some.inj (C.2.2.2.2.1.symm.trans hown2)
    have h6 := u_fits hfc hkC hkind (Or.inr hlay) hi (hty j hj) n1 n2
    rcases hlk with hlk | ⟨host, hlk⟩
    · refine W.putFinK C.1 C.2.1 C.2.2.2.2.1 (C.2.2.2.2.2.1 _ hlk) hi hst hcf (C.2.2.2.2.2.2.2.1.trans hini) (by rw [q2]; exact h6) q1 q3 (by rw [hsl]; exact k2_hasslot (q4 j hj)) rfl rfl hd fun H' e1' e2' e3' => ?_
      rw [hsl] at e1' ⊢
      have g := hP.set hD hws (e := .inr (ci, (fld F.1 (rT l0) w k (refL.getD ci []) 0).set j (.ref (ad F.1 t)))) ⟨_, e1, t_OB.to (V := updV (vp_V (fld F.1 (rT l0) w k (refL.getD ci []) 0)) j (.ref (ad F.1 t))) ⟨_, e1', q2, q3, t_set q4 hap hj (.ref (ad F.1 t))⟩ (fun j' _ => vp_updV_set hfl (.ref (ad F.1 t)) j')⟩ e3'
      rw [hset] at g
      exact kk h p l e s m args below meth c H' _ ls C g (by rw [e2']; exact hz) (hS.put e2' e3' (hD.2 k _ hws)) hl'
    · exact absurd f2 (nest_no hlk)
end VN
