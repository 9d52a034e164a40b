def okC (sp dp n : Int32) (ns nd : Nat) : Bool := !decide (sp < 0) && !decide (dp < 0) && !decide (n < 0) && decide (sp.toNatClampNeg + n.toNatClampNeg ≤ ns) && decide (dp.toNatClampNeg + n.toNatClampNeg ≤ nd)
def cpW (w : Wd) (ks kd sp dp n : Nat) : Wd := (fun a b => if a = kd ∧ dp ≤ b ∧ b < dp + n then w.1 ks (sp + (b - dp)) else w.1 a b, w.2)
def cpI {β : Type} (w : Wd) (ks ns kd nd : Nat) (sp dp n : Int32) (f : Wd → Option β) : Option β := if okC sp dp n ns nd = true then f (cpW w ks kd sp.toNatClampNeg dp.toNatClampNeg n.toNatClampNeg) else none
theorem cpI_e {β : Type} {w : Wd} {ks ns kd nd : Nat} {sp dp n : Int32} {f : Wd → Option β} {r : β} (h : cpI w ks ns kd nd sp dp n f = some r) : ∃ w1, okC sp dp n ns nd = true ∧ cpW w ks kd sp.toNatClampNeg dp.toNatClampNeg n.toNatClampNeg = w1 ∧ f w1 = some r := by
  unfold cpI at h
  split at h
  next hi => exact ⟨_, hi, rfl, h⟩
  next => cases h
section UX
variable {F : VF} {pc : Nat} {lv : List (Option Value)} {st : List Value} {w : Wd} {Z : VZ}
theorem V.acopy {i ks kd ns nd : Nat} {sp dp nn : Int32} {w1 : Wd} (hd : decode F.2.1.2.2.1 pc = .ok (.invokestatic i, 3)) (hk : Cond.methodLink F.2.1.1 i arraycopyName ∈ BIG) (hks : ks < 70) (hkd : kd < 70) (hls : lay ks = (1, ns)) (hld : lay kd = (1, nd)) (hok : okC sp dp nn ns nd = true) (hR : 1 ≤ F.2.2.2.1.frames) (hR2 : (st.map fun v => v.category).sum + (nativeFrameWords "java/lang/System" "arraycopy" 5 + 11) ≤ F.2.2.2.1.locals)
    (hnat : Cond.native arraycopyName ∈ BIG) (hstat : Cond.static arraycopyName ∈ BIG) (hini : Cond.initialized "java/lang/System" ∈ BIG) (hx : cpW w ks kd sp.toNatClampNeg dp.toNatClampNeg nn.toNatClampNeg = w1) (kk : U F (pc + 3) lv st w1 Z) : U F pc lv (.int nn :: .int dp :: .ref kd :: .int sp :: .ref ks :: st) w Z :=
  fun h p l e s m args below meth c H locs ls C hP hz hS hl' => by
    subst hx
    have hts := C.2.2.2.2.2.1
    simp only [okC, Bool.and_eq_true, Bool.not_eq_true', decide_eq_false_iff_not, decide_eq_true_eq] at hok
    obtain ⟨⟨⟨⟨h1, h2⟩, h3⟩, h4⟩, h5⟩ := hok
    have nn' : ∀ z : Int32, ¬ z < 0 → z.toInt = (z.toNatClampNeg : Int) := by
      intro z hz
      have hz0 : (0 : Int) ≤ z.toInt := by
        have := Int32.not_lt.mp hz
        simpa using Int32.le_iff_toInt_le.mp this
      show z.toInt = ((z.toInt.toNat : Nat) : Int)
      omega
    have hws0 := cs_get (G := F.1) (r := r0) (w := w) hks
    have hws := cs_get (G := F.1) (r := r0) (w := w) hkd
    rw [cel_int hls] at hws0
    rw [cel_int hld] at hws
    have hD : va_D (gA F.1) (cs F.1 70 r0 w) := cs_D h
    intro T hT X
    have hc0 : H[ad F.1 ks]? = some (vp_cell (F.1.2.2.2.2 1) (ns, .inl (w.1 ks))) := hP ks _ hws0
    have hc1 : H[ad F.1 kd]? = some (vp_cell (F.1.2.2.2.2 1) (nd, .inl (w.1 kd))) := hP kd _ hws
    have hK := C.2.2.2.2.2.2.2.2.1.1
    obtain ⟨-, k0, hk0, cm0, hkk0⟩ := (hK.2 0 _ rfl).1 ns (fun j => .int (w.1 ks j))
    obtain ⟨-, k1, hk1, cm1, hkk1⟩ := (hK.2 0 _ rfl).1 nd (fun j => .int (w.1 kd j))
    obtain ⟨vm', X', step⟩ := X.arraycopy C.1 C.2.2.2.2.1 (hts _ hk) (hts _ hnat) (hts _ hstat) (hts _ hini) (src := ad F.1 ks) (dst := ad F.1 kd) (cs := vp_cell (F.1.2.2.2.2 1) (ns, .inl (w.1 ks))) (cd := vp_cell (F.1.2.2.2.2 1) (nd, .inl (w.1 kd))) (srcPos := sp) (destPos := dp) (n := nn) (by rw [hT]; exact hc0) (by rw [hT]; exact hc1)
      (fun _ h => by cases h) (fun _ h => by cases h) (fun h => by cases h) (fun h => by cases h) hk0 hk1 hkk0 hkk1 (by simp [refKind]) h1 h2 h3
      (by rw [nn' sp h1, nn' nn h3]; show ¬ _ > ((arrV _ ns (fun j => .int (w.1 ks j))).slots.size : Int); rw [arrV_size]; omega)
      (by rw [nn' dp h2, nn' nn h3]; show ¬ _ > ((arrV _ nd (fun j => .int (w.1 kd j))).slots.size : Int); rw [arrV_size]; omega)
      (fun vm₁ _ i hi => by
        have e : (vp_cell (F.1.2.2.2.2 1) (ns, .inl (w.1 ks))).slots.getD (sp.toNatClampNeg + i) .null = .int (w.1 ks (sp.toNatClampNeg + i)) := by
          show (arrV _ ns (fun j => .int (w.1 ks j))).slots.getD _ _ = _
          rw [Array.getD_eq_getD_getElem?, arrV_read _ _ (by omega)]
          rfl
        refine ⟨?_, ?_⟩
        · rw [e]; rfl
        · rw [e]; exact trivial)
      (g := F0 m pc ls (.int nn :: .int dp :: .ref (ad F.1 kd) :: .int sp :: .ref (ad F.1 ks) :: st.map (rv F.1))) rfl (by rw [C.2.2.1]; exact hl'.1) (rest := st.map (rv F.1)) rfl (by rw [C.2.1]; exact hd) hR (by show 2 * 0 + _ + _ ≤ _; rw [rv_cats]; omega)
    have e1 : copied (vp_cell (F.1.2.2.2.2 1) (ns, .inl (w.1 ks))) (vp_cell (F.1.2.2.2.2 1) (nd, .inl (w.1 kd))) sp dp nn = vp_cell (F.1.2.2.2.2 1) (nd, .inl (va_cpy (w.1 ks) (w.1 kd) sp.toNatClampNeg dp.toNatClampNeg nn.toNatClampNeg)) := va_copied (fun z => .int z) _ _ (w.1 ks) (w.1 kd) h4
    rw [e1] at X' step
    have hl : ad F.1 kd < H.size := (Array.getElem?_eq_some_iff.mp hc1).1
    have hheap : ((T.setVm vm').setCell (ad F.1 kd) (vp_cell (F.1.2.2.2.2 1) (nd, .inl (va_cpy (w.1 ks) (w.1 kd) sp.toNatClampNeg dp.toNatClampNeg nn.toNatClampNeg)))).heap = H.setIfInBounds (ad F.1 kd) (vp_cell (F.1.2.2.2.2 1) (nd, .inl (va_cpy (w.1 ks) (w.1 kd) sp.toNatClampNeg dp.toNatClampNeg nn.toNatClampNeg))) := by rw [← hT]; rfl
    have oq : ∀ q : Nat, q ≠ ad F.1 kd → (H.setIfInBounds (ad F.1 kd) (vp_cell (F.1.2.2.2.2 1) (nd, .inl (va_cpy (w.1 ks) (w.1 kd) sp.toNatClampNeg dp.toNatClampNeg nn.toNatClampNeg))))[q]? = H[q]? := fun q hq => by simp [Array.getElem?_setIfInBounds, Ne.symm hq]
    have g := hP.set (e := .inl (F.1.2.2.2.2 1, nd, .inl (va_cpy (w.1 ks) (w.1 kd) sp.toNatClampNeg dp.toNatClampNeg nn.toNatClampNeg))) hD hws (show (H.setIfInBounds (ad F.1 kd) (vp_cell (F.1.2.2.2.2 1) (nd, .inl (va_cpy (w.1 ks) (w.1 kd) sp.toNatClampNeg dp.toNatClampNeg nn.toNatClampNeg))))[ad F.1 kd]? = some _ by simp [Array.getElem?_setIfInBounds, hl]) oq
    have hset : (cs F.1 70 r0 w).set kd (ad F.1 kd, .inl (F.1.2.2.2.2 1, nd, .inl (va_cpy (w.1 ks) (w.1 kd) sp.toNatClampNeg dp.toNatClampNeg nn.toNatClampNeg))) = cs F.1 70 r0 (cpW w ks kd sp.toNatClampNeg dp.toNatClampNeg nn.toNatClampNeg) := by
      refine cs_set ?_ (fun a ha => cel_row (by funext b; simp [cpW, ha]) rfl)
      rw [cel_int hld]
      have e2 : (cpW w ks kd sp.toNatClampNeg dp.toNatClampNeg nn.toNatClampNeg).1 kd = va_cpy (w.1 ks) (w.1 kd) sp.toNatClampNeg dp.toNatClampNeg nn.toNatClampNeg := by funext b; simp [cpW, va_cpy]
      rw [e2]
    rw [hset] at g
    obtain ⟨t, a1, b1⟩ := kk h p l e s m args below meth c _ _ ls C g (by simp; exact hz) ⟨by simp; exact hS.1, fun q g1 g2 => by
        rw [oq q (fun e => g2 (by rw [e]; exact hD.2 kd _ hws))]
        exact hS.2.1 q g1 g2, fun q hq => by
        rcases List.mem_append.mp hq with h | h
        · exact hS.2.2 q h
        · obtain ⟨z, -, hz⟩ := List.mem_map.mp h
          rw [← hz]
          exact hD.2 kd _ hws⟩ hl' _ hheap X'
    exact ⟨t, step t a1, b1⟩
theorem V.mmax {i : Nat} {x y : Int32} (hd : decode F.2.1.2.2.1 pc = .ok (.invokestatic i, 3)) (hk : lkS F.2.1.1 i yJ9_max_7cf53 mJ9_max_7cf53 2) (hR : 1 ≤ F.2.2.2.1.frames) (hR2 : (st.map fun v => v.category).sum + 13 ≤ F.2.2.2.1.locals) (kk : U F (pc + 3) lv (.int (if x < y then y else x) :: st) w Z) : U F pc lv (.int y :: .int x :: st) w Z :=
  fun h p l e s m args below meth c H locs ls C hP hz hS hl' =>
    va_mmax C.1 C.2.1 (by rw [C.2.2.1]; exact hl'.1.symm) C.2.2.2.2.1 (C.2.2.2.2.2.1 _ hk.1) (C.2.2.2.2.2.1 _ hk.2.1) (C.2.2.2.2.2.1 _ hk.2.2.1) (C.2.2.2.2.2.1 _ hk.2.2.2.1) hR (by rw [rv_cats]; exact hR2) (Nat.zero_le _) (Nat.zero_le _) hd (kk h p l e s m args below meth c H locs ls C hP hz hS hl')
theorem V.mmin {i : Nat} {x y : Int32} (hd : decode F.2.1.2.2.1 pc = .ok (.invokestatic i, 3)) (hk : lkS F.2.1.1 i yJ9_min_7cf53 mJ9_min_7cf53 2) (hR : 1 ≤ F.2.2.2.1.frames) (hR2 : (st.map fun v => v.category).sum + 13 ≤ F.2.2.2.1.locals) (kk : U F (pc + 3) lv (.int (if y < x then y else x) :: st) w Z) : U F pc lv (.int y :: .int x :: st) w Z :=
  fun h p l e s m args below meth c H locs ls C hP hz hS hl' =>
    va_mmin C.1 C.2.1 (by rw [C.2.2.1]; exact hl'.1.symm) C.2.2.2.2.1 (C.2.2.2.2.2.1 _ hk.1) (C.2.2.2.2.2.1 _ hk.2.1) (C.2.2.2.2.2.1 _ hk.2.2.1) (C.2.2.2.2.2.1 _ hk.2.2.2.1) hR (by rw [rv_cats]; exact hR2) (Nat.zero_le _) (Nat.zero_le _) hd (kk h p l e s m args below meth c H locs ls C hP hz hS hl')
theorem V.ldcS {i j : Nat} {tx : String} (hd : decode F.2.1.2.2.1 pc = .ok (.ldc i, 2)) (hk : (F.2.1.1, i, tx, j) ∈ strL) (kk : U F (pc + 2) lv (.ref (1000 + j) :: st) w Z) : U F pc lv st w Z :=
  fun h p l e s m args below meth c H locs ls C hP hz hS hl' =>
    va_ldcS C.1 C.2.1 C.2.2.2.2.1 (C.2.2.2.2.2.2.2.2.1.2.1.1 _ hk) hd (kk h p l e s m args below meth c H locs ls C hP hz hS hl')
theorem V.ldcwS {i j : Nat} {tx : String} (hd : decode F.2.1.2.2.1 pc = .ok (.ldc_w i, 3)) (hk : (F.2.1.1, i, tx, j) ∈ strL) (kk : U F (pc + 3) lv (.ref (1000 + j) :: st) w Z) : U F pc lv st w Z :=
  fun h p l e s m args below meth c H locs ls C hP hz hS hl' => by
    have hZ := C.2.2.2.2.2.2.2.2.1.2.1.1 _ hk
    have hexec := C.1
    have hb := C.2.1
    intro T hT X
    obtain ⟨t, a1, b1⟩ := kk h p l e s m args below meth c H locs ls C hP hz hS hl' T hT X
    refine ⟨t, ?_, b1⟩
    obtain ⟨k, cf, i', a', hk1, hcf, hcp, -, hr, hev'⟩ := Cond.stringRef_spec C.2.2.2.2.1 hZ.1
    cases hZ.2.symm.trans hev'
    obtain ⟨k', hk', he⟩ := X.warmed.alike.2.2 _ _ hk1
    have hr' : k'.resolved[i]? = some (some (.string (ad F.1 (1000 + j)))) := by
      rcases X.warmed.entry hk1 hk' i with h | ⟨h, -⟩
      · rw [h]; exact hr
      · rw [hr] at h; cases h
    jvm_step X.here [hexec, hb, hd, ldc_w.wp_string (e := e) (s := T) (f := F0 m pc ls (st.map (rv F.1))) X.here.top hk' (by rw [he]; exact hcf) hcp hr']
    exact a1
end UX
