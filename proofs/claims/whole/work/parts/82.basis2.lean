/-! generators on both sides -/
noncomputable def genS (n : Nat) (T : Nat → Nat → Nat) : Nat → List Nat
  | 0 => []
  | e + 1 => if e = 0 then [] else if dcd (∃ B, isSpan n T (gset (genS n T e)) B ∧ B.testBit e = true) then genS n T e else genS n T e ++ [e]
section BASIS2
variable {n : Nat} {T : Nat → Nat → Nat} {iv : Nat → Nat}
theorem genS_one : genS n T 1 = [] := by simp [genS]
theorem genS_in {e B : Nat} (he : 1 ≤ e) (hs : isSpan n T (gset (genS n T e)) B) : genS n T (e + 1) = if B.testBit e then genS n T e else genS n T e ++ [e] := by
  simp only [genS]
  rw [if_neg (by omega)]
  cases q : B.testBit e with
  | true => rw [if_pos (dcd_iff.mpr ⟨B, hs, q⟩), if_pos rfl]
  | false =>
    rw [if_neg (fun z => by
      obtain ⟨B', h1, h2⟩ := dcd_iff.mp z
      rw [isSpan_one h1 hs, q] at h2; cases h2), if_neg Bool.false_ne_true]
theorem Enm_ext {gens o : List Nat} {l e : Nat} {frm by_ frm' by' : Nat → Nat} (h : Enm n T gens l o frm by_) (hl : l < gens.length) (h1 : oldF o frm frm') (h2 : oldF o by_ by') : Enm n T (gens ++ [e]) l o frm' by' := by
  obtain ⟨a1, a2, a3, a4, a5⟩ := h
  refine ⟨a1, a2, a3, fun j x hj hx => ?_, fun y lev g hy hle hg => ?_⟩
  · obtain ⟨i, y, g, b1, b2, b3, b4, b5, b6⟩ := a4 j x hj hx
    have hm := List.mem_of_getElem? hx
    rw [h1 x hm, h2 x hm]
    exact ⟨i, y, g, b1, b2, b3, b4, by rw [List.getElem?_append_left (by omega)]; exact b5, b6⟩
  · rw [List.getElem?_append_left (by omega)] at hg
    exact a5 y lev g hy hle hg
theorem pfx_take {Q Q' : List Nat} (h : pfx Q Q') {r : Nat} (hr : r ≤ Q.length) : Q'.take r = Q.take r := by
  apply List.ext_getElem?
  intro j
  rw [List.getElem?_take, List.getElem?_take]
  split
  · next c =>
    have := h j _ (List.getElem?_eq_getElem (show j < Q.length by omega))
    rw [this, List.getElem?_eq_getElem (show j < Q.length by omega)]
  · rfl
theorem BFp_ext {gens Q : List Nat} {L L' e : Nat} {frm by_ : Nat → Nat} {B : Nat} (h : BFp n T gens L Q frm by_ B) (hL : gens.length ≤ L' + 1) : BFp n T (gens ++ [e]) L' Q frm by_ B := by
  obtain ⟨a1, a2, a3, a4, a5⟩ := h
  refine ⟨a1, a2, a3, fun j x hj hx => ?_, a5⟩
  obtain ⟨i, y, g, b1, b2, b3, b4, b5, b6⟩ := a4 j x hj hx
  have := (List.getElem?_eq_some_iff.mp b5).1
  exact ⟨i, y, g, b1, b2, b3, by omega, by rw [List.getElem?_append_left this]; exact b5, b6⟩
theorem all_of {B : Nat} (hB : B < 2 ^ n) (h : ∀ x, x < n → B.testBit x = true) : B = 2 ^ n - 1 := ext_bit (fun x => ⟨fun hx => (all_bit n x).mpr (bit_lt hB hx), fun hx => h x ((all_bit n x).mp hx)⟩)
theorem full_len {Q : List Nat} (hn : Q.Nodup) (h1 : ∀ x, x ∈ Q → x < n) (h2 : ∀ x, x < n → x ∈ Q) : Q.length = n := by
  have a := nodup_len hn h1
  have b := nodup_sub (List.range n) Q List.nodup_range (fun x hx => h2 x (List.mem_range.mp hx))
  rw [List.length_range] at b
  omega
def fiK (w w' : Wd) : Prop := (∀ k, k ≠ 13 → k ≠ 14 → k ≠ 15 → k ≠ 16 → k ≠ 17 → k ≠ 18 → w'.1 k = w.1 k) ∧ w'.2 = w.2
theorem fiK.tr {a b c : Wd} (h : fiK a b) (g : fiK b c) : fiK a c := ⟨fun k x1 x2 x3 x4 x5 x6 => (g.1 k x1 x2 x3 x4 x5 x6).trans (h.1 k x1 x2 x3 x4 x5 x6), g.2.trans h.2⟩
theorem fiK.gx {w w' : Wd} (h : fiK w w') (hG : GX w n T iv) : GX w' n T iv := GX_cong hG (h.1 6 (by decide) (by decide) (by decide) (by decide) (by decide) (by decide)) (h.1 9 (by decide) (by decide) (by decide) (by decide) (by decide) (by decide)) (h.1 10 (by decide) (by decide) (by decide) (by decide) (by decide) (by decide))
theorem x_find {w : Wd} (hG : GX w n T iv) (hg : Gp n T iv) : ∃ w' ord frm by_ rch, f_X1_find w = some w' ∧ BX w' (genS n T n) ord frm by_ rch ∧ BO n T (genS n T n) ord frm by_ rch ∧ fiK w w' := by
  have h16 := hg.1.2
  have h1n := hg.1.1
  unfold f_X1_find
  rw [m_letW, m_letW, m_letW]
  obtain ⟨w0, hw0⟩ : ∃ w0, w0 = sI (sI (sI (sI w 13 6 0) 13 7 1) 13 8 1) 16 0 0 := ⟨_, rfl⟩
  have e0 : wrI (sI (sI (sI w 13 6 0) 13 7 1) 13 8 1) 16 16 0 0 (fun w4 => f_X1_find_L24 FU 1 w4) = f_X1_find_L24 FU (nI 1) w0 := by
    rw [hw0]; exact m_wr (i := 0) (by decide) (by decide) _
  rw [e0]
  have v13 : ∀ j, w0.1 13 j = if j = 8 then 1 else if j = 7 then 1 else if j = 6 then 0 else w.1 13 j := fun j => by
    rw [hw0, sI_at, if_neg (by rintro ⟨h, -⟩; revert h; decide), sI_at, sI_at, sI_at]
    simp only [true_and]
  have k0 : fiK w w0 := ⟨fun k x1 _ _ x4 _ _ => by rw [hw0]; funext j; rw [sI_at, sI_at, sI_at, sI_at]; simp [x1, x4], by rw [hw0]; rfl⟩
  have key := lrun (fun f e (s : Wd × List Nat × (Nat → Nat) × (Nat → Nat) × (Nat → Nat) × Nat) => f_X1_find_L24 f (nI e) s.1) n (fun s => some s.1) (fun e s => 1 ≤ e ∧ fiK w s.1 ∧ s.1.1 13 6 = nI (genS n T e).length ∧ (∀ (l g : Nat), (genS n T e)[l]? = some g → s.1.1 14 l = nI g ∧ s.1.1 15 l = nI (s.2.2.2.2.1 l)) ∧ BA s.1 s.2.1 s.2.2.1 s.2.2.2.1 s.2.2.2.2.2 ∧ BFp n T (genS n T e) (genS n T e).length s.2.1 s.2.2.1 s.2.2.2.1 s.2.2.2.2.2 ∧ isSpan n T (gset (genS n T e)) s.2.2.2.2.2 ∧ 2 ^ (genS n T e).length ≤ pc s.2.2.2.2.2 ∧ (∀ x, x < e → s.2.2.2.2.2.testBit x = true) ∧ (∀ g, g ∈ genS n T e → 0 < g ∧ g < n) ∧ (∀ l, l < (genS n T e).length → 1 ≤ s.2.2.2.2.1 l ∧ s.2.2.2.2.1 l ≤ s.2.1.length ∧ Enm n T (genS n T e) l (s.2.1.take (s.2.2.2.2.1 l)) s.2.2.1 s.2.2.2.1) ∧ (∀ l, l + 1 = (genS n T e).length → s.2.2.2.2.1 l = s.2.1.length) ∧ (genS n T e = [] → s.2.1 = [0])) ?_ ?_ (n - 1) 1 (w0, [0], (fun _ => 0), (fun _ => 0), (fun _ => 0), 1) FU (by omega) (FU_big (by omega)) ?_
  · obtain ⟨⟨w', Q, frm, by_, rch, B⟩, ⟨-, i1, i2, i3, i4, i5, i6, i7, i8, i9, i10, i11, i12⟩, i13⟩ := key
    dsimp only at i1 i2 i3 i4 i5 i6 i7 i8 i9 i10 i11 i12 i13
    have hlen : Q.length = n := full_len i5.1 i5.2.1 (fun x hx => (i5.2.2.2.2 x).mpr (i8 x hx))
    have h4 : (genS n T n).length ≤ 4 := by
      have h1 := pc_len i6.1 h16
      rcases Nat.lt_or_ge 4 (genS n T n).length with q | q
      · have : 2 ^ 5 ≤ 2 ^ (genS n T n).length := Nat.pow_le_pow_right (by decide) q
        omega
      · exact q
    refine ⟨w', Q, frm, by_, rch, i13, ⟨i2, i3, i4.2.2⟩, ⟨h4, i9, hlen, fun l hl => ?_, fun l hl => by rw [← hlen]; exact i11 l hl, fun hnil => ?_⟩, i1⟩
    · have := i10 l hl
      exact ⟨this.1, by rw [← hlen]; exact this.2.1, this.2.2⟩
    · rw [i12 hnil] at hlen
      exact hlen.symm
  · rintro e ⟨w1, Q, frm, by_, rch, B⟩ he ⟨i0, i1, i2, i3, i4, i5, i6, i7, i8, i9, i10, i11, i12⟩
    dsimp only at i1 i2 i3 i4 i5 i6 i7 i8 i9 i10 i11 i12
    have hG1 := i1.gx hG
    have hB31 := lt31 (le16 i6.1 h16)
    have eg := genS_in i0 i6
    obtain ⟨gens, hgd⟩ : ∃ gens, gens = genS n T e := ⟨_, rfl⟩
    rw [← hgd] at i2 i3 i5 i6 i7 i9 i10 i11 i12 eg
    cases hbt : B.testBit e with
    | true =>
      rw [hbt, if_pos rfl] at eg
      refine ⟨(w1, Q, frm, by_, rch, B), ⟨by omega, i1, ?_, ?_, i4, ?_, ?_, ?_, fun x hx => ?_, ?_, ?_, ?_, ?_⟩, fun f => ?_⟩
      · rw [eg]; exact i2
      · rw [eg]; exact i3
      · rw [eg]; exact i5
      · rw [eg]; exact i6
      · rw [eg]; exact i7
      · by_cases q : x = e
        · rw [q]; exact hbt
        · exact i8 x (by omega)
      · rw [eg]; exact i9
      · rw [eg]; exact i10
      · rw [eg]; exact i11
      · rw [eg]; exact i12
      · show f_X1_find_B24b (f_X1_find_L24 f) (nI e) w1 = _
        unfold f_X1_find_B24b
        rw [hG1.1, if_neg (nI_ge he (by omega)), i4.2.1, if_neg (by rw [x_bit0 hB31 (by omega), hbt]; decide), nI_1]
    | false =>
      rw [hbt, if_neg Bool.false_ne_true] at eg
      -- fewer than four so far
      have hr4 : gens.length < 4 := by
        have h1 := pc_len i6.1 h16
        have hlt : pc B < n := by
          rcases Nat.lt_or_ge (pc B) n with q | q
          · exact q
          · have hpa : pc B = pc (2 ^ n - 1) := by rw [pc_all h16]; omega
            have := pc_sub_eq (A := B) (B := 2 ^ n - 1) (by have := p16 h16; have := Nat.two_pow_pos n; omega) (fun x hx => (all_bit n x).mpr (bit_lt i6.1 hx)) hpa
            rw [this] at hbt
            rw [(all_bit n e).mpr he] at hbt; cases hbt
        rcases Nat.lt_or_ge gens.length 4 with q | q
        · exact q
        · have : 2 ^ 4 ≤ 2 ^ gens.length := Nat.pow_le_pow_right (by decide) q
          omega
      obtain ⟨w2, hw2⟩ : ∃ w2, w2 = sI (sI w1 13 6 (nI (gens.length + 1))) 14 gens.length (nI e) := ⟨_, rfl⟩
      have v2 : ∀ j, w2.1 13 j = if j = 6 then nI (gens.length + 1) else w1.1 13 j := fun j => by
        rw [hw2, sI_at, if_neg (by rintro ⟨h, -⟩; revert h; decide), sI_at]; simp only [true_and]
      have v214 : ∀ j, w2.1 14 j = if j = gens.length then nI e else w1.1 14 j := fun j => by
        rw [hw2, sI_at]
        by_cases q : j = gens.length
        · subst q; simp
        · rw [if_neg (fun z => q z.2), if_neg q, sI_at, if_neg (by rintro ⟨h, -⟩; revert h; decide)]
      have k2 : ∀ k, k ≠ 13 → k ≠ 14 → w2.1 k = w1.1 k := fun k x1 x2 => by rw [hw2]; funext j; rw [sI_at, sI_at]; simp [x1, x2]
      have kf2 : fiK w1 w2 := ⟨fun k x1 x2 _ _ _ _ => k2 k x1 x2, by rw [hw2]; rfl⟩
      have hA2 : BA w2 Q frm by_ B := ⟨by rw [v2, if_neg (by decide)]; exact i4.1, by rw [v2, if_neg (by decide)]; exact i4.2.1, by rw [k2 16 (by decide) (by decide), k2 17 (by decide) (by decide), k2 18 (by decide) (by decide)]; exact i4.2.2⟩
      have hlg : (gens ++ [e]).length = gens.length + 1 := by simp
      have hge : ∀ g, g ∈ gens ++ [e] → 0 < g ∧ g < n := fun g h => by
        rcases List.mem_append.mp h with q | q
        · exact i9 g q
        · rw [List.mem_singleton.mp q]; exact ⟨by omega, he⟩
      have hgs2 : ∀ (l g : Nat), (gens ++ [e])[l]? = some g → w2.1 14 l = nI g := fun l g h => by
        rw [v214]
        rcases Nat.lt_trichotomy l gens.length with q | q | q
        · rw [List.getElem?_append_left q] at h
          rw [if_neg (by omega)]; exact (i3 l g h).1
        · subst q
          rw [List.getElem?_append_right (Nat.le_refl _), Nat.sub_self] at h
          rw [if_pos rfl, ← Option.some.inj h]
        · rw [List.getElem?_eq_none (by simp; omega)] at h; cases h
      obtain ⟨w3, Q', frm', by', B', a1, a2, a3, a4, a5, a6, a7, a8⟩ := x_widen (gens := gens ++ [e]) (L := gens.length) hg (kf2.gx hG1) (by rw [v2, if_pos rfl, hlg]) hgs2 (fun g h => (hge g h).2) (by rw [hlg]; omega) (by rw [hlg]) hA2 (BFp_ext i5 (by omega))
      have hE := BFp_enm a3 a4
      have hsp := enm_span hg hE (by rw [hlg]; omega) (fun g h => (hge g h).2) a3.2.2.2.2
      have hQQ : Q.length ≤ Q'.length := by
        have h0 := (List.getElem?_eq_some_iff.mp i5.2.2.1).1
        have := a5 (Q.length - 1) _ (List.getElem?_eq_getElem (show Q.length - 1 < Q.length by omega))
        have := (List.getElem?_eq_some_iff.mp this).1
        omega
      have hQ'n := BFp_len a3
      have hsub : ∀ x, B.testBit x = true → B'.testBit x = true := fun x hx => (a3.2.2.2.2 x).mp (pfx_mem a5 ((i5.2.2.2.2 x).mpr hx))
      have heB : B'.testBit e = true := hsp.2.2.1 e (gset_bit.mpr (by simp))
      have hdb := clo_dbl hg i6.1 i6.2.1 he hbt hsub heB hsp.2.1
      obtain ⟨w4, hw4⟩ : ∃ w4, w4 = sI w3 15 gens.length (nI Q'.length) := ⟨_, rfl⟩
      have k4 : ∀ k, k ≠ 15 → w4.1 k = w3.1 k := fun k x1 => by rw [hw4]; funext j; rw [sI_at]; simp [x1]
      have v415 : ∀ j, w4.1 15 j = if j = gens.length then nI Q'.length else w1.1 15 j := fun j => by
        rw [hw4, sI_at]
        by_cases q : j = gens.length
        · subst q; simp
        · rw [if_neg (fun z => q z.2), if_neg q, a8.1 15 (by decide) (by decide) (by decide) (by decide), k2 15 (by decide) (by decide)]
      obtain ⟨rch', hrch⟩ : ∃ rch' : Nat → Nat, rch' = fun l => if l = gens.length then Q'.length else rch l := ⟨_, rfl⟩
      have rc1 : rch' gens.length = Q'.length := by rw [hrch]; dsimp only; rw [if_pos rfl]
      have rc2 : ∀ l, l < gens.length → rch' l = rch l := fun l hl => by rw [hrch]; dsimp only; rw [if_neg (by omega)]
      have kk3 : fiK w2 w3 := ⟨fun k x1 _ _ x4 x5 x6 => a8.1 k x1 x4 x5 x6, a8.2.2⟩
      have kk4 : fiK w3 w4 := ⟨fun k _ _ x3 _ _ _ => k4 k x3, by rw [hw4]; rfl⟩
      refine ⟨(w4, Q', frm', by', rch', B'), ⟨by omega, ((i1.tr kf2).tr kk3).tr kk4, ?_, ?_, ?_, ?_, ?_, ?_, fun x hx => ?_, ?_, ?_, ?_, ?_⟩, fun f => ?_⟩
      · dsimp only
        rw [eg, hlg, k4 13 (by decide), a8.2.1, v2, if_pos rfl]
      · dsimp only
        rw [eg]
        intro l g h
        refine ⟨by rw [k4 14 (by decide), a8.1 14 (by decide) (by decide) (by decide) (by decide)]; exact hgs2 l g h, ?_⟩
        rw [v415]
        have hl := (List.getElem?_eq_some_iff.mp h).1
        rw [hlg] at hl
        by_cases q : l = gens.length
        · rw [if_pos q, q, rc1]
        · rw [if_neg q, rc2 l (by omega)]
          rw [List.getElem?_append_left (by omega)] at h
          exact (i3 l g h).2
      · dsimp only
        exact ⟨by rw [k4 13 (by decide)]; exact a2.1, by rw [k4 13 (by decide)]; exact a2.2.1, by rw [k4 16 (by decide), k4 17 (by decide), k4 18 (by decide)]; exact a2.2.2⟩
      · dsimp only
        rw [eg, hlg]
        obtain ⟨b1, b2, b3, b4, b5⟩ := a3
        exact ⟨b1, b2, b3, fun j x hj hx => by
          obtain ⟨i, y, g, d1, d2, d3, d4, d5⟩ := b4 j x hj hx
          exact ⟨i, y, g, d1, d2, d3, by omega, d5⟩, b5⟩
      · dsimp only; rw [eg]; exact hsp
      · dsimp only
        rw [eg, hlg, Nat.pow_succ]; omega
      · dsimp only
        by_cases q : x = e
        · rw [q]; exact heB
        · exact hsub x (i8 x (by omega))
      · rw [eg]; exact hge
      · dsimp only
        rw [eg, hlg]
        intro l hl
        by_cases q : l = gens.length
        · rw [q, rc1, List.take_length]
          have h0 := (List.getElem?_eq_some_iff.mp i5.2.2.1).1
          exact ⟨by omega, Nat.le_refl _, hE⟩
        · have h1 := i10 l (by omega)
          rw [rc2 l (by omega), pfx_take a5 h1.2.1]
          exact ⟨h1.1, by omega, Enm_ext h1.2.2 (by omega) (fun x hx => a6 x (List.mem_of_mem_take hx)) (fun x hx => a7 x (List.mem_of_mem_take hx))⟩
      · dsimp only
        rw [eg, hlg]
        intro l hl
        rw [show l = gens.length by omega, rc1]
      · rw [eg]; intro h; simp at h
      · show f_X1_find_B24b (f_X1_find_L24 f) (nI e) w1 = _
        unfold f_X1_find_B24b
        rw [hG1.1, if_neg (nI_ge he (by omega)), i4.2.1, if_pos ((x_bit0 hB31 (by omega)).mpr hbt), i2, if_neg (show ¬ (4 : Int32) ≤ nI gens.length from nI_ge (b := 4) hr4 (by decide)), m_letW, nI_1, m_wr (by omega) (by decide), ← hw2, a1, bnd_some, a8.2.1, v2, if_pos rfl, a2.1, nI_pred, m_wr (by omega) (by decide), ← hw4, nI_1]
  · rintro f ⟨w1, Q, frm, by_, rch, B⟩ ⟨-, i1, -⟩
    dsimp only at i1
    show f_X1_find_B24b (f_X1_find_L24 f) (nI n) w1 = _
    unfold f_X1_find_B24b
    rw [(i1.gx hG).1, if_pos (nI_le (Nat.le_refl _) (by omega))]
  · rw [genS_one]
    have p1 : BFp n T [] 0 [0] (fun _ => 0) (fun _ => 0) 1 := ⟨by simp, fun x hx => by rw [List.mem_singleton.mp hx]; exact h1n, rfl, fun j x hj hx => by
      match j, hj with
      | j + 1, _ => simp at hx, fun x => by rw [List.mem_singleton, show (1 : Nat) = 2 ^ 0 from rfl, two_bit]; exact ⟨fun h => h.symm, fun h => h.symm⟩⟩
    refine ⟨Nat.le_refl _, k0, ?_, fun l g h => by simp at h, ⟨?_, ?_, fun j x hj => ?_⟩, p1, ?_, ?_, fun x hx => ?_, fun g h => by simp at h, fun l h => by simp at h, fun l h => by simp at h, fun _ => rfl⟩
    · dsimp only; rw [v13]; rfl
    · dsimp only; rw [v13]; rfl
    · dsimp only; rw [v13]; rfl
    · dsimp only at hj ⊢
      match j, hj with
      | 0, hj =>
        cases hj
        refine ⟨?_, fun h => by omega⟩
        rw [hw0, sI_at]; simp; rfl
      | j + 1, hj => simp at hj
    · dsimp only
      have hlt1 : 1 < 2 ^ n := by
        have := Nat.pow_le_pow_right (n := 2) (by decide) h1n; omega
      refine ⟨hlt1, clo_one hg, fun x hx => by have := gset_bit.mp hx; simp at this, fun C _ hcl _ x hx => ?_⟩
      rw [← (two_bit 0 x).mp hx]; exact hcl.1
    · dsimp only; exact (by decide : 2 ^ 0 ≤ pc 1)
    · dsimp only; rw [show x = 0 by omega]; rfl
/-! the reference -/
theorem y_gens {w : Wd} (hM : GM w n T iv) (hg : Gp n T iv) (h9 : w.1 44 9 = nI 0) (h4 : (genS n T n).length ≤ 4) : ∃ w', f_X12_laysGroup_L162 FU (nI 1) (nI 1) w = bnd (f_X12_laysWords w') (fun w1 => some w1) ∧ w'.1 44 9 = nI (genS n T n).length ∧ (∀ (l g : Nat), (genS n T n)[l]? = some g → w'.1 50 l = nI g) ∧ keepM (fun k => k = 50) (fun j => j = 9) w w' := by
  have h16 := hg.1.2
  have h1n := hg.1.1
  have mono : ∀ d e, 1 ≤ e → (genS n T e).length ≤ (genS n T (e + d)).length := by
    intro d
    induction d with
    | zero => intro e _; exact Nat.le_refl _
    | succ d ih =>
      intro e he
      have h1 := ih e he
      have : (genS n T (e + d)).length ≤ (genS n T (e + d + 1)).length := by
        simp only [genS]
        rw [if_neg (by omega)]
        split
        · exact Nat.le_refl _
        · simp
      rw [← Nat.add_assoc]; omega
  have key := lrun (fun f e (s : Wd × Nat) => f_X12_laysGroup_L162 f (nI s.2) (nI e) s.1) n (fun s => bnd (f_X12_laysWords s.1) (fun w1 => some w1)) (fun e s => 1 ≤ e ∧ isSpan n T (gset (genS n T e)) s.2 ∧ s.1.1 44 9 = nI (genS n T e).length ∧ (∀ (l g : Nat), (genS n T e)[l]? = some g → s.1.1 50 l = nI g) ∧ keepM (fun k => k = 50) (fun j => j = 9) w s.1) ?_ ?_ (n - 1) 1 (w, 1) FU (by omega) (FU_big (by omega)) ?_
  · obtain ⟨⟨w', B⟩, ⟨-, i1, i2, i3, i4⟩, i5⟩ := key
    exact ⟨w', i5, i2, i3, i4⟩
  · rintro e ⟨w1, B⟩ he ⟨i0, i1, i2, i3, i4⟩
    dsimp only at i1 i2 i3 i4
    have hB31 := lt31 (le16 i1.1 h16)
    have eg := genS_in i0 i1
    have hle := mono (n - (e + 1)) (e + 1) (by omega)
    rw [show e + 1 + (n - (e + 1)) = n by omega] at hle
    have hM1 : GM w1 n T iv := GM_cong hM (i4.2.1 1 (by decide)) (i4.1 47 (by decide) (by decide)) (i4.1 48 (by decide) (by decide)) (i4.1 49 (by decide) (by decide))
    cases hbt : B.testBit e with
    | true =>
      rw [hbt, if_pos rfl] at eg
      refine ⟨(w1, B), ⟨by omega, by rw [eg]; exact i1, by rw [eg]; exact i2, by rw [eg]; exact i3, i4⟩, fun f => ?_⟩
      show f_X12_laysGroup_B162b (f_X12_laysGroup_L162 f) (nI B) (nI e) w1 = _
      unfold f_X12_laysGroup_B162b
      rw [hM1.1, if_neg (nI_ge he (by omega)), if_neg (by rw [y_has0 hB31 (by omega), hbt]; decide), nI_1]
    | false =>
      rw [hbt, if_neg Bool.false_ne_true] at eg
      obtain ⟨r, hr⟩ : ∃ r, r = (genS n T e).length := ⟨_, rfl⟩
      rw [← hr] at i2
      have hlg : (genS n T (e + 1)).length = r + 1 := by rw [eg, List.length_append, hr]; rfl
      obtain ⟨w2, hw2⟩ : ∃ w2, w2 = sI (sI w1 50 r (nI e)) 44 9 (nI (r + 1)) := ⟨_, rfl⟩
      have k2 : keepM (fun k => k = 50) (fun j => j = 9) w1 w2 := ⟨fun k x1 x2 => by rw [hw2]; funext j; rw [sI_at, if_neg (fun z => x2 z.1), sI_at, if_neg (fun z => x1 z.1)], fun j hj => by rw [hw2, sI_at, if_neg (fun z => hj z.2), sI_at, if_neg (by rintro ⟨h, -⟩; revert h; decide)], by rw [hw2]; rfl⟩
      have hM2 : GM w2 n T iv := GM_cong hM1 (k2.2.1 1 (by decide)) (k2.1 47 (by decide) (by decide)) (k2.1 48 (by decide) (by decide)) (k2.1 49 (by decide) (by decide))
      obtain ⟨B', b1, b2⟩ := y_span hM2 hg (or2_lt i1.1 he)
      refine ⟨(w2, B'), ⟨by omega, by rw [eg]; exact span_add i1 b2, by rw [hlg, hw2, sI_at]; simp, ?_, ⟨fun k x1 x2 => (k2.1 k x1 x2).trans (i4.1 k x1 x2), fun j hj => (k2.2.1 j hj).trans (i4.2.1 j hj), k2.2.2.trans i4.2.2⟩⟩, fun f => ?_⟩
      · rw [eg]
        intro l g h
        dsimp only
        rw [hw2, sI_at, if_neg (by rintro ⟨h, -⟩; revert h; decide), sI_at]
        rcases Nat.lt_trichotomy l r with q | q | q
        · rw [List.getElem?_append_left (by omega)] at h
          rw [if_neg (fun z => by omega)]; exact i3 l g h
        · subst q
          rw [List.getElem?_append_right (by omega), hr, Nat.sub_self] at h
          rw [if_pos ⟨rfl, rfl⟩, ← Option.some.inj h]
        · rw [List.getElem?_eq_none (by simp; omega)] at h; cases h
      · show f_X12_laysGroup_B162b (f_X12_laysGroup_L162 f) (nI B) (nI e) w1 = _
        unfold f_X12_laysGroup_B162b
        rw [hM1.1, if_neg (nI_ge he (by omega)), if_pos ((y_has0 hB31 (by omega)).mpr hbt), i2, m_wr (by omega) (by decide), m_letW, m_shl1 (by omega), m_or, nI_1]
        have z1 : (sI w1 50 r (nI e)).1 44 9 = nI r := by rw [sI_at, if_neg (by rintro ⟨h, -⟩; revert h; decide)]; exact i2
        rw [z1, nI_1, ← hw2, b1, bnd_some]
  · rintro f ⟨w1, B⟩ ⟨-, i1, i2, i3, i4⟩
    dsimp only at i4
    show f_X12_laysGroup_B162b (f_X12_laysGroup_L162 f) (nI B) (nI n) w1 = _
    unfold f_X12_laysGroup_B162b
    rw [i4.2.1 1 (by decide), hM.1, if_pos (nI_le (Nat.le_refl _) (by omega))]
  · rw [genS_one]
    have hlt1 : 1 < 2 ^ n := by
      have := Nat.pow_le_pow_right (n := 2) (by decide) h1n; omega
    refine ⟨Nat.le_refl _, ⟨hlt1, clo_one hg, fun x hx => by have := gset_bit.mp hx; simp at this, fun C _ hcl _ x hx => ?_⟩, h9, fun l g h => by simp at h, fun _ _ _ => rfl, fun _ _ => rfl, rfl⟩
    rw [← (two_bit 0 x).mp hx]; exact hcl.1
theorem BO_span (hg : Gp n T iv) {gens ord : List Nat} {frm by_ rch : Nat → Nat} (hO : BO n T gens ord frm by_ rch) : isSpan n T (gset gens) (2 ^ n - 1) := by
  rcases Nat.eq_zero_or_pos gens.length with z | z
  · have hnil := List.length_eq_zero_iff.mp z
    have hn1 := hO.2.2.2.2.2 hnil
    subst hn1
    rw [hnil]
    exact ⟨by decide, clo_one hg, fun x hx => by have := gset_bit.mp hx; simp at this, fun C _ hcl _ x hx => by rw [← (two_bit 0 x).mp hx]; exact hcl.1⟩
  · obtain ⟨L, hL⟩ : ∃ L, L + 1 = gens.length := ⟨gens.length - 1, by omega⟩
    obtain ⟨e, ha⟩ := ord_all hg hO hL
    have hE := (hO.2.2.2.1 L (by omega)).2.2
    rw [e] at hE
    exact enm_span hg hE (by omega) (fun g h => (hO.2.1 g h).2) (fun x => by rw [all_bit]; exact ⟨hE.2.1 x, ha x⟩)
def BAy (w : Wd) (Q : List Nat) (h0 hb : Nat → Nat) : Prop := ∀ (j x : Nat), Q[j]? = some x → w.1 51 j = nI x ∧ (0 < j → w.1 52 j = nI (h0 x) ∧ w.1 53 j = nI (hb x))
def woK (w w' : Wd) : Prop := (∀ k, k ≠ 51 → k ≠ 52 → k ≠ 53 → w'.1 k = w.1 k) ∧ w'.2 = w.2
theorem y_words {gens : List Nat} {w : Wd} (hM : GM w n T iv) (hg : Gp n T iv) (h9 : w.1 44 9 = nI gens.length) (hgs : ∀ (l g : Nat), gens[l]? = some g → w.1 50 l = nI g) (hgn : ∀ g, g ∈ gens → 0 < g ∧ g < n) (hl4 : gens.length ≤ 4) (hsp : isSpan n T (gset gens) (2 ^ n - 1)) : ∃ w' hd h0 hb, f_X12_laysWords w = some w' ∧ BY w' gens hd h0 hb ∧ HO n T gens hd h0 hb ∧ woK w w' := by
  have h16 := hg.1.2
  have h1n := hg.1.1
  have hgn' := fun g (h : g ∈ gens) => (hgn g h).2
  unfold f_X12_laysWords
  obtain ⟨w0, hw0⟩ : ∃ w0, w0 = sI w 51 0 0 := ⟨_, rfl⟩
  have e0 : wrI w 51 16 0 0 (fun w1 => f_X12_laysWords_L13 FU 1 1 0 w1) = f_X12_laysWords_L13 FU (nI 1) (nI 1) (nI 0) w0 := by
    rw [hw0]; exact m_wr (i := 0) (by decide) (by decide) _
  rw [e0]
  have inn : ∀ i w1 Q1 f1 b1 B1, BAy w1 Q1 f1 b1 → BFp n T gens 4 Q1 f1 b1 B1 → BFc T gens Q1 i 0 → woK w w1 → i < Q1.length → ∃ w' Q' f' b' B', (∀ k13 : Int32 → Int32 → Int32 → Wd → Option Wd, f_X12_laysWords_L21 k13 FU (nI B1) (nI Q1.length) (nI i) (nI 0) w1 = k13 (nI B') (nI Q'.length) (nI (i + 1)) w') ∧ BAy w' Q' f' b' ∧ BFp n T gens 4 Q' f' b' B' ∧ BFc T gens Q' (i + 1) 0 ∧ pfx Q1 Q' ∧ woK w w' := by
    intro i w1 Q1 f1 b1 B1 a1 a2 a3 a4 hi
    have key := lrunK (fun (k13 : Int32 → Int32 → Int32 → Wd → Option Wd) f l (s : Wd × List Nat × (Nat → Nat) × (Nat → Nat) × Nat) => f_X12_laysWords_L21 k13 f (nI s.2.2.2.2) (nI s.2.1.length) (nI i) (nI l) s.1) gens.length (fun k13 s => k13 (nI s.2.2.2.2) (nI s.2.1.length) (nI (i + 1)) s.1) (fun l s => BAy s.1 s.2.1 s.2.2.1 s.2.2.2.1 ∧ BFp n T gens 4 s.2.1 s.2.2.1 s.2.2.2.1 s.2.2.2.2 ∧ BFc T gens s.2.1 i l ∧ pfx Q1 s.2.1 ∧ woK w s.1) ?_ ?_ gens.length 0 (w1, Q1, f1, b1, B1) FU (by omega) (FU_big (by omega)) ⟨a1, a2, a3, fun _ _ z => z, a4⟩
    · obtain ⟨⟨w', Q', f', b', B'⟩, ⟨c1, c2, c3, c4, c7⟩, c8⟩ := key
      dsimp only at c1 c2 c3 c4 c7
      refine ⟨w', Q', f', b', B', c8, c1, c2, ⟨fun i' y l g hi' hy hgl => ?_, fun y l g h => by omega⟩, c4, c7⟩
      by_cases q : i' = i
      · subst q; exact c3.2 y l g (List.getElem?_eq_some_iff.mp hgl).1 hy hgl
      · exact c3.1 i' y l g (by omega) hy hgl
    · rintro l ⟨w2, Q2, f2, b2, B2⟩ hl ⟨c1, c2, c3, c4, c7⟩
      dsimp only at c1 c2 c3 c4 c7
      have hgl := List.getElem?_eq_getElem hl
      obtain ⟨g, hgd⟩ : ∃ g, g = gens[l] := ⟨_, rfl⟩
      rw [← hgd] at hgl
      have hgng := hgn' g (List.mem_of_getElem? hgl)
      have hQ1i := List.getElem?_eq_getElem hi
      obtain ⟨y, hyd⟩ : ∃ y, y = Q1[i] := ⟨_, rfl⟩
      rw [← hyd] at hQ1i
      have hQ2i := c4 i y hQ1i
      have hyn := c2.2.1 y (List.mem_of_getElem? hQ2i)
      have hTn := hg.2.1 y g hyn hgng
      have hQl := BFp_len c2
      have hBl := lt31 (le16 (BFp_lt c2) h16)
      have hM2 : GM w2 n T iv := GM_cong hM (by rw [c7.1 44 (by decide) (by decide) (by decide)]) (c7.1 47 (by decide) (by decide) (by decide)) (c7.1 48 (by decide) (by decide) (by decide)) (c7.1 49 (by decide) (by decide) (by decide))
      have e50 : w2.1 50 l = nI g := by rw [c7.1 50 (by decide) (by decide) (by decide)]; exact hgs l g hgl
      have e51 : w2.1 51 i = nI y := (c1 i y hQ2i).1
      have hi2 := (List.getElem?_eq_some_iff.mp hQ2i).1
      have e9 : w2.1 44 9 = nI gens.length := by rw [c7.1 44 (by decide) (by decide) (by decide)]; exact h9
      obtain ⟨x, hxd⟩ : ∃ x, x = T y g := ⟨_, rfl⟩
      have step : BFc T gens Q2 i l → ∀ Q3, pfx Q2 Q3 → x ∈ Q3 → BFc T gens Q3 i (l + 1) := fun h Q3 hp hx => by
        refine ⟨fun i' y' l' g' hi' hy' hg' => ?_, fun y' l' g' hl' hy' hg' => ?_⟩
        · have hlt : i' < Q2.length := by omega
          have e : Q2[i']? = some y' := by
            have h1 := hp i' _ (List.getElem?_eq_getElem hlt)
            rw [hy'] at h1
            rw [List.getElem?_eq_getElem hlt, Option.some.inj h1]
          exact pfx_mem hp (h.1 i' y' l' g' hi' e hg')
        · have e : y' = y := by
            have h1 := hp i y hQ2i
            rw [hy'] at h1; exact Option.some.inj h1
          subst e
          by_cases q : l' = l
          · subst q
            rw [hgl] at hg'
            rw [← Option.some.inj hg', ← hxd]; exact hx
          · exact pfx_mem hp (h.2 y' l' g' (by omega) hQ2i hg')
      cases hbt : B2.testBit x with
      | true =>
        refine ⟨(w2, Q2, f2, b2, B2), ⟨c1, c2, step c3 Q2 (fun _ _ z => z) ((c2.2.2.2.2 x).mpr hbt), c4, c7⟩, fun k13 f => ?_⟩
        show f_X12_laysWords_B21b k13 (f_X12_laysWords_L21 k13 f) (nI B2) (nI Q2.length) (nI i) (nI l) w2 = _
        unfold f_X12_laysWords_B21b
        rw [e9, if_neg (nI_ge hl (by omega)), m_rd (by omega) (by decide), e51, m_rd (by omega) (by decide), e50, y_prod hM2 hg hyn hgng, bnd_some, ← hxd, if_neg (by rw [y_has0 hBl (by omega), hbt]; decide), nI_1]
      | false =>
        have hxn : x < n := by rw [hxd]; exact hTn
        have hP3 := BFp_add c2 hQ2i (show l ≤ 4 by omega) hgl hTn (by rw [← hxd]; exact hbt)
        rw [← hxd] at hP3
        have hQ3 := BFp_len hP3
        rw [List.length_append, List.length_singleton] at hQ3
        have hxQ : x ∉ Q2 := fun z => by rw [(c2.2.2.2.2 x).mp z] at hbt; cases hbt
        have hpf : pfx Q2 (Q2 ++ [x]) := fun j z hz => by rw [List.getElem?_append_left (List.getElem?_eq_some_iff.mp hz).1]; exact hz
        obtain ⟨w3, hw3⟩ : ∃ w3, w3 = sI (sI (sI w2 51 Q2.length (nI x)) 52 Q2.length (nI y)) 53 Q2.length (nI l) := ⟨_, rfl⟩
        have v51 : ∀ j, w3.1 51 j = if j = Q2.length then nI x else w2.1 51 j := fun j => by
          rw [hw3, sI_at, if_neg (by rintro ⟨h, -⟩; revert h; decide), sI_at, if_neg (by rintro ⟨h, -⟩; revert h; decide), sI_at]
          simp only [true_and]
        have v52 : ∀ j, w3.1 52 j = if j = Q2.length then nI y else w2.1 52 j := fun j => by
          rw [hw3, sI_at, if_neg (by rintro ⟨h, -⟩; revert h; decide), sI_at]
          simp only [true_and]
          by_cases q : j = Q2.length
          · rw [if_pos q, if_pos q]
          · rw [if_neg q, if_neg q, sI_at, if_neg (by rintro ⟨h, -⟩; revert h; decide)]
        have v53 : ∀ j, w3.1 53 j = if j = Q2.length then nI l else w2.1 53 j := fun j => by
          rw [hw3, sI_at]
          simp only [true_and]
          by_cases q : j = Q2.length
          · rw [if_pos q, if_pos q]
          · rw [if_neg q, if_neg q, sI_at, if_neg (by rintro ⟨h, -⟩; revert h; decide), sI_at, if_neg (by rintro ⟨h, -⟩; revert h; decide)]
        refine ⟨(w3, Q2 ++ [x], updN f2 x y, updN b2 x l, B2 ||| 2 ^ x), ⟨fun j z hz => ?_, hP3, step c3 _ hpf (by simp), fun j z hz => hpf j z (c4 j z hz), ⟨fun k x1 x2 x3 => ?_, ?_⟩⟩, fun k13 f => ?_⟩
        · dsimp only at hz ⊢
          rcases Nat.lt_trichotomy j Q2.length with r | r | r
          · rw [List.getElem?_append_left r] at hz
            have hne : z ≠ x := fun q => hxQ (q ▸ List.mem_of_getElem? hz)
            rw [v51, if_neg (by omega), v52, if_neg (by omega), v53, if_neg (by omega)]
            unfold updN
            rw [if_neg hne, if_neg hne]
            exact c1 j z hz
          · subst r
            rw [List.getElem?_append_right (Nat.le_refl _), Nat.sub_self] at hz
            have e : x = z := Option.some.inj hz
            subst e
            rw [v51, if_pos rfl, v52, if_pos rfl, v53, if_pos rfl]
            unfold updN
            rw [if_pos rfl, if_pos rfl]
            exact ⟨rfl, fun _ => ⟨rfl, rfl⟩⟩
          · rw [List.getElem?_eq_none (by simp; omega)] at hz; cases hz
        · dsimp only
          rw [← c7.1 k x1 x2 x3, hw3]; funext j; rw [sI_at, sI_at, sI_at]; simp [x1, x2, x3]
        · dsimp only; rw [hw3]; exact c7.2
        · dsimp only
          show f_X12_laysWords_B21b k13 (f_X12_laysWords_L21 k13 f) (nI B2) (nI Q2.length) (nI i) (nI l) w2 = _
          unfold f_X12_laysWords_B21b
          have z2 : (sI w2 51 Q2.length (nI x)).1 51 i = nI y := by rw [sI_at, if_neg (fun z => by omega)]; exact e51
          rw [e9, if_neg (nI_ge hl (by omega)), m_rd (by omega) (by decide), e51, m_rd (by omega) (by decide), e50, y_prod hM2 hg hyn hgng, bnd_some, ← hxd, if_pos ((y_has0 hBl (by omega)).mpr hbt), m_wr (by omega) (by decide), m_rd (by omega) (by decide), z2, m_wr (by omega) (by decide), m_wr (by omega) (by decide), ← hw3, m_shl1 (by omega), m_or, nI_1, nI_1, List.length_append]
          rfl
    · rintro k13 f ⟨w2, Q2, f2, b2, B2⟩ ⟨c1, c2, c3, c4, c7⟩
      dsimp only at c7
      show f_X12_laysWords_B21b k13 (f_X12_laysWords_L21 k13 f) (nI B2) (nI Q2.length) (nI i) (nI gens.length) w2 = _
      unfold f_X12_laysWords_B21b
      rw [c7.1 44 (by decide) (by decide) (by decide), h9, if_pos (nI_le (Nat.le_refl _) (by omega)), nI_1]
  have loop : ∀ d i w1 Q1 f1 b1 B1 f, 16 - i ≤ d → d < f → i ≤ Q1.length → BAy w1 Q1 f1 b1 → BFp n T gens 4 Q1 f1 b1 B1 → BFc T gens Q1 i 0 → woK w w1 → ∃ w' Q' f' b' B', f_X12_laysWords_L13 f (nI B1) (nI Q1.length) (nI i) w1 = some w' ∧ BAy w' Q' f' b' ∧ BFp n T gens 4 Q' f' b' B' ∧ BFc T gens Q' Q'.length 0 ∧ woK w w' := by
    intro d
    induction d with
    | zero =>
      intro i w1 Q1 f1 b1 B1 f hd hf hi a1 a2 a3 a7
      obtain ⟨f, rfl⟩ : ∃ q, f = q + 1 := ⟨f - 1, by omega⟩
      have hQl := BFp_len a2
      have e : i = Q1.length := by omega
      refine ⟨w1, Q1, f1, b1, B1, ?_, a1, a2, by rw [← e]; exact a3, a7⟩
      show f_X12_laysWords_B13b (f_X12_laysWords_L13 f) (nI B1) (nI Q1.length) (nI i) w1 = _
      unfold f_X12_laysWords_B13b
      rw [if_pos (nI_le (by omega) (by omega))]
    | succ d ih =>
      intro i w1 Q1 f1 b1 B1 f hd hf hi a1 a2 a3 a7
      obtain ⟨f, rfl⟩ : ∃ q, f = q + 1 := ⟨f - 1, by omega⟩
      have hQl := BFp_len a2
      have eL : ∀ x, f_X12_laysWords_B13b (f_X12_laysWords_L13 f) (nI B1) (nI Q1.length) (nI i) w1 = x → f_X12_laysWords_L13 (f + 1) (nI B1) (nI Q1.length) (nI i) w1 = x := fun x h => h
      by_cases c : i = Q1.length
      · refine ⟨w1, Q1, f1, b1, B1, eL _ ?_, a1, a2, by rw [← c]; exact a3, a7⟩
        unfold f_X12_laysWords_B13b
        rw [if_pos (nI_le (by omega) (by omega))]
      · have hlt : i < Q1.length := by omega
        obtain ⟨w2, Q2, f2, b2, B2, c1, c2, c3, c4, c5, c8⟩ := inn i w1 Q1 f1 b1 B1 a1 a2 a3 a7 hlt
        have hi2 : i + 1 ≤ Q2.length := by
          have := c5 i _ (List.getElem?_eq_getElem hlt)
          have := (List.getElem?_eq_some_iff.mp this).1
          omega
        obtain ⟨w', Q', f', b', B', g1, g2⟩ := ih (i + 1) w2 Q2 f2 b2 B2 f (by omega) (by omega) hi2 c2 c3 c4 c8
        refine ⟨w', Q', f', b', B', eL _ ?_, g2⟩
        unfold f_X12_laysWords_B13b
        rw [if_neg (nI_ge hlt (by omega))]
        exact (c1 (f_X12_laysWords_L13 f)).trans g1
  obtain ⟨w', Q', f', b', B', g1, g2, g3, g4, g5⟩ := loop 16 0 w0 [0] (fun _ => 0) (fun _ => 0) 1 FU (by omega) (FU_big (by decide)) (by omega) (fun j x hj => by
    match j, hj with
    | 0, hj =>
      cases hj
      refine ⟨?_, fun h => by omega⟩
      rw [hw0, sI_at]; simp; rfl
    | j + 1, hj => simp at hj) ⟨by simp, fun x hx => by rw [List.mem_singleton.mp hx]; exact h1n, rfl, fun j x hj hx => by
      match j, hj with
      | j + 1, _ => simp at hx, fun x => by rw [List.mem_singleton, show (1 : Nat) = 2 ^ 0 from rfl, two_bit]; exact ⟨fun h => h.symm, fun h => h.symm⟩⟩ ⟨fun i' y l g h => by omega, fun y l g h => by omega⟩ ⟨fun k x1 _ _ => by rw [hw0]; funext j; rw [sI_at]; simp [x1], by rw [hw0]; rfl⟩
  have hE := BFp_enm g3 g4
  have hs := enm_span hg hE (by omega) hgn' g3.2.2.2.2
  have hB' := isSpan_one hs hsp
  refine ⟨w', Q', f', b', g1, ⟨by rw [g5.1 44 (by decide) (by decide) (by decide)]; exact h9, fun l g h => by rw [g5.1 50 (by decide) (by decide) (by decide)]; exact hgs l g h, g2⟩, ⟨hl4, hgn, full_len g3.1 g3.2.1 (fun x hx => (g3.2.2.2.2 x).mpr (by rw [hB']; exact (all_bit n x).mpr hx)), hE⟩, g5⟩
end BASIS2
