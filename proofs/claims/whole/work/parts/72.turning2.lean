/-! the turns that the class holds: all levels -/
section TURNING2
variable {n : Nat} {T : Nat → Nat → Nat} {iv : Nat → Nat} {gens ord : List Nat} {frm by_ rch : Nat → Nat}
theorem cpW_at (w : Wd) (ks kd sp dp n a b : Nat) : (cpW w ks kd sp dp n).1 a b = if a = kd ∧ dp ≤ b ∧ b < dp + n then w.1 ks (sp + (b - dp)) else w.1 a b := rfl
def trK (w w' : Wd) : Prop := (∀ k, k ≠ 24 → k ≠ 25 → k ≠ 26 → k ≠ 30 → k ≠ 31 → w'.1 k = w.1 k) ∧ w'.2 = w.2 ∧ w'.1 24 9 = w.1 24 9
theorem trK.gx {w w' : Wd} (h : trK w w') (hG : GX w n T iv) : GX w' n T iv := GX_cong hG (h.1 6 (by decide) (by decide) (by decide) (by decide) (by decide)) (h.1 9 (by decide) (by decide) (by decide) (by decide) (by decide)) (h.1 10 (by decide) (by decide) (by decide) (by decide) (by decide))
theorem trK.bx {w w' : Wd} (h : trK w w') (hB : BX w gens ord frm by_ rch) : BX w' gens ord frm by_ rch := BX_cong hB (by rw [h.1 13 (by decide) (by decide) (by decide) (by decide) (by decide)]) (h.1 14 (by decide) (by decide) (by decide) (by decide) (by decide)) (h.1 15 (by decide) (by decide) (by decide) (by decide) (by decide)) (h.1 16 (by decide) (by decide) (by decide) (by decide) (by decide)) (h.1 17 (by decide) (by decide) (by decide) (by decide) (by decide)) (h.1 18 (by decide) (by decide) (by decide) (by decide) (by decide))
theorem trK.tr {a b c : Wd} (h : trK a b) (g : trK b c) : trK a c := ⟨fun k x1 x2 x3 x4 x5 => (g.1 k x1 x2 x3 x4 x5).trans (h.1 k x1 x2 x3 x4 x5), g.2.1.trans h.2.1, g.2.2.trans h.2.2⟩
def tcT (w w' : Wd) (h : tcK w w') : trK w w' := ⟨fun k _ _ _ x4 x5 => h.1 k x4 x5, h.2, by rw [h.1 24 (by decide) (by decide)]⟩
theorem x_level (hg : Gp n T iv) (hO : BO n T gens ord frm by_ rch) {L g : Nat} (hgL : gens[L]? = some g) {w : Wd} (hG : GX w n T iv) (hB : BX w gens ord frm by_ rch) (hr : w.1 29 4 = 0) (h0 : w.1 31 0 = 0) (hgo : ∀ l, l < L → w.1 30 l = nI (gens.getD l 0)) {a : Nat} (ha : a ≤ 15 * L) (h7 : w.1 24 7 = nI a) {ph : Nat → Nat → Nat} (hph : rws n w ph a) :
    ∃ (w' : Wd) (ph' : Nat → Nat → Nat), (∀ k24 : Int32 → Wd → Option (Int32 × Wd), f_X10_total_L47 k24 FU (nI L) (nI 1) w = f_X10_total_B47b k24 (fun _ _ _ => none) (nI L) (nI n) w') ∧ trK w w' ∧ w'.1 26 = w.1 26 ∧ w'.1 24 8 = w.1 24 8 ∧ w'.1 31 0 = 0 ∧ (∀ l, l < L → w'.1 30 l = w.1 30 l) ∧ w'.1 24 7 = nI (a + cntB (pG n T gens L g) n) ∧ (∀ i, i < a → ph' i = ph i) ∧ rws n w' ph' (a + cntB (pG n T gens L g) n) ∧ lvl n T gens ph' L g a (a + cntB (pG n T gens L g) n) n := by
  have h16 := hg.1.2
  have h1n := hg.1.1
  have hl4 := hO.1
  have hL := (List.getElem?_eq_some_iff.mp hgL).1
  have hgn := hO.2.1 g (List.mem_of_getElem? hgL)
  have key := lrunK (fun (k24 : Int32 → Wd → Option (Int32 × Wd)) f x (s : Wd × (Nat → Nat → Nat)) => f_X10_total_L47 k24 f (nI L) (nI x) s.1) n (fun k24 s => f_X10_total_B47b k24 (fun _ _ _ => none) (nI L) (nI n) s.1) (fun x s => 1 ≤ x ∧ trK w s.1 ∧ s.1.1 26 = w.1 26 ∧ s.1.1 24 8 = w.1 24 8 ∧ s.1.1 31 0 = 0 ∧ (∀ l, l < L → s.1.1 30 l = w.1 30 l) ∧ s.1.1 24 7 = nI (a + cntB (pG n T gens L g) x) ∧ (∀ i, i < a → s.2 i = ph i) ∧ rws n s.1 s.2 (a + cntB (pG n T gens L g) x) ∧ lvl n T gens s.2 L g a (a + cntB (pG n T gens L g) x) x) ?_ ?_ (n - 1) 1 (w, ph) FU (by omega) (FU_big (by omega)) ?_
  · obtain ⟨⟨w', ph'⟩, ⟨-, i1, i2, i3, i4, i5, i6, i7, i8, i9⟩, i10⟩ := key
    exact ⟨w', ph', i10, i1, i2, i3, i4, i5, i6, i7, i8, i9⟩
  · rintro x ⟨w1, ph1⟩ hx ⟨i0, i1, i2, i3, i4, i5, i6, i7, i8, i9⟩
    dsimp only at i1 i2 i3 i4 i5 i6 i7 i8 i9
    have hG1 := i1.gx hG
    have hB1 := i1.bx hB
    have hr1 : w1.1 29 4 = 0 := by rw [i1.1 29 (by decide) (by decide) (by decide) (by decide) (by decide)]; exact hr
    obtain ⟨w2, hw2⟩ : ∃ w2, w2 = sI w1 30 L (nI x) := ⟨_, rfl⟩
    have k2 : ∀ k, k ≠ 30 → w2.1 k = w1.1 k := fun k a => by rw [hw2]; funext j; rw [sI_at]; simp [a]
    have k2o : ∀ l, w2.1 30 l = if l = L then nI x else w1.1 30 l := fun l => by
      rw [hw2, sI_at]
      by_cases c : l = L
      · subst c; simp
      · rw [if_neg (fun z => c z.2), if_neg c]
    obtain ⟨gl', hgl'⟩ : ∃ gl', gl' = updN (fun l => gens.getD l 0) L x := ⟨_, rfl⟩
    have hgo2 : ∀ l, l ≤ L → w2.1 30 l = nI (gl' l) ∧ gl' l < n := fun l hl => by
      rw [k2o, hgl']
      unfold updN
      by_cases c : l = L
      · rw [if_pos c, if_pos c]; exact ⟨rfl, hx⟩
      · rw [if_neg c, if_neg c, i5 l (by omega), hgo l (by omega)]
        refine ⟨rfl, ?_⟩
        have := List.getElem?_eq_getElem (show l < gens.length by omega)
        show gens.getD l 0 < n
        rw [List.getD_eq_getElem?_getD, this]
        exact (hO.2.1 _ (List.mem_of_getElem? this)).2
    have hG2 : GX w2 n T iv := GX_cong hG1 (k2 6 (by decide)) (k2 9 (by decide)) (k2 10 (by decide))
    have hB2 : BX w2 gens ord frm by_ rch := BX_cong hB1 (by rw [k2 13 (by decide)]) (k2 14 (by decide)) (k2 15 (by decide)) (k2 16 (by decide)) (k2 17 (by decide)) (k2 18 (by decide))
    obtain ⟨hR1, hRn, hE⟩ := hO.2.2.2.1 L hL
    obtain ⟨s, hs⟩ := walk_ex hE T gl'
    obtain ⟨w3, b, c1, c2, c3, c4, c5, c6⟩ := x_fitT hG2 hg (by rw [k2 29 (by decide)]; exact hr1) hB2 hO hL hgo2 (by rw [k2 31 (by decide)]; exact i4) hs
    have mconv : ∀ ψ, (mts gens (L + 1) gl' ψ ↔ fixL gens L ψ ∧ ψ g = x) := fun ψ => by
      rw [fix_mts (by omega)]
      constructor
      · intro h
        refine ⟨fun l g' hl hg' => ?_, ?_⟩
        · have := h l g' (by omega) hg'
          rw [hgl'] at this; unfold updN at this; rw [if_neg (by omega)] at this; exact this
        · have := h L g (by omega) hgL
          rw [hgl'] at this; unfold updN at this; rw [if_pos rfl] at this; exact this
      · rintro ⟨h, e⟩ l g' hl hg'
        rw [hgl']; unfold updN
        by_cases c : l = L
        · subst c; rw [hgL] at hg'; rw [if_pos rfl, ← Option.some.inj hg']; exact e
        · rw [if_neg c]; exact h l g' (by omega) hg'
    have tk3 : tcK w1 w3 := ⟨fun k a b => by rw [c2 k b, k2 k a], by rw [c3, hw2]; rfl⟩
    have st : ∀ (k24 : Int32 → Wd → Option (Int32 × Wd)) f, f_X10_total_L47 k24 (f + 1) (nI L) (nI x) w1 = if b then bnd2 (f_X10_extend 20 (nI (L + 1)) w3) (fun x9 w10 => if x9 = 0 then f_X10_total_L47 k24 f (nI L) (nI (x + 1)) w10 else bnd (f_X10_addRow w10) fun w11 => f_X10_total_L47 k24 f (nI L) (nI (x + 1)) w11) else f_X10_total_L47 k24 f (nI L) (nI (x + 1)) w3 := by
      intro k24 f
      show f_X10_total_B47b k24 (f_X10_total_L47 k24 f) (nI L) (nI x) w1 = _
      unfold f_X10_total_B47b
      rw [hG1.1, if_neg (nI_ge hx (by omega)), m_wr (by omega) (by decide), ← hw2, c1, bnd2_some, nI_1, nI_1]
      cases b <;> simp [one_ne]
    have cb : cntB (pG n T gens L g) (x + 1) = cntB (pG n T gens L g) x + if pG n T gens L g x then 1 else 0 := by simp only [cntB]
    have no : ∀ w5, tcK w1 w5 → w5.1 31 0 = 0 → (∀ l, l < L → w5.1 30 l = w.1 30 l) → (¬ ∃ ψ, AUT n T ψ ∧ fixL gens L ψ ∧ ψ g = x) → 1 ≤ x + 1 ∧ trK w w5 ∧ w5.1 26 = w.1 26 ∧ w5.1 24 8 = w.1 24 8 ∧ w5.1 31 0 = 0 ∧ (∀ l, l < L → w5.1 30 l = w.1 30 l) ∧ w5.1 24 7 = nI (a + cntB (pG n T gens L g) (x + 1)) ∧ (∀ i, i < a → ph1 i = ph i) ∧ rws n w5 ph1 (a + cntB (pG n T gens L g) (x + 1)) ∧ lvl n T gens ph1 L g a (a + cntB (pG n T gens L g) (x + 1)) (x + 1) := by
      intro w5 t1 t2 t3 t4
      have hp : pG n T gens L g x = false := dcd_false.mpr t4
      have e24 := t1.1 24 (by decide) (by decide)
      rw [cb, hp]
      refine ⟨by omega, i1.tr (tcT _ _ t1), by rw [t1.1 26 (by decide) (by decide)]; exact i2, by rw [e24]; exact i3, t2, t3, by rw [e24]; exact i6, i7, fun i y hi hy => by rw [t1.1 25 (by decide) (by decide)]; exact i8 i y hi hy, i9.1, fun ψ p1 p2 p3 p4 => i9.2 ψ p1 p2 ?_ p4⟩
      rcases Nat.lt_or_ge (ψ g) x with z | z
      · exact z
      · exact absurd ⟨ψ, p1, p2, by omega⟩ t4
    cases hb : b with
    | false =>
      refine ⟨(w3, ph1), no w3 tk3 c4 (fun l hl => by rw [c2 30 (by decide), k2o, if_neg (by omega)]; exact i5 l hl) ?_, fun k24 f => by rw [st, hb]; rfl⟩
      rintro ⟨ψ, a1, a2, a3⟩
      have := c5.mpr (fit_of hg hO hL hs a1 ((mconv ψ).mpr ⟨a2, a3⟩))
      rw [hb] at this; cases this
    | true =>
      have hb5 := c5.mp hb
      obtain ⟨w5, u1, u2, u3, u4⟩ := x_ext hg hO (gens.length - (L + 1)) (L + 1) gl' w3 20 (by omega) (by omega) (by omega) (GX_cong hG2 (c2 6 (by decide)) (c2 9 (by decide)) (c2 10 (by decide))) (BX_cong hB2 (by rw [c2 13 (by decide)]) (c2 14 (by decide)) (c2 15 (by decide)) (c2 16 (by decide)) (c2 17 (by decide)) (c2 18 (by decide))) (by rw [c2 29 (by decide), k2 29 (by decide)]; exact hr1) c4 (fun l hl => by rw [c2 30 (by decide)]; exact hgo2 l (by omega)) (fun hd0 => by
        obtain ⟨e1, e2⟩ := aut_of hg hO (by omega) (fun l hl => (hgo2 l hl).2) hs hb5.1 hb5.2
        refine ⟨s, e1, e2, fun x hx => c6 hb x ?_⟩
        have := ord_all hg hO (L := L) (by omega)
        rw [this.1]; exact this.2 x hx)
      have h30 : ∀ l, l < L → w5.1 30 l = w.1 30 l := fun l hl => by rw [u3 l (by omega), c2 30 (by decide), k2o, if_neg (by omega)]; exact i5 l hl
      rcases u4 with ⟨v1, ψ, v2, v3, v4⟩ | ⟨v1, v2⟩
      · obtain ⟨f1, f2⟩ := (mconv ψ).mp v3
        have hp : pG n T gens L g x = true := dcd_iff.mpr ⟨ψ, v2, f1, f2⟩
        have tk5 := tcK_tr tk3 u1
        have e24 := tk5.1 24 (by decide) (by decide)
        have e7 : w5.1 24 7 = nI (a + cntB (pG n T gens L g) x) := by rw [e24]; exact i6
        have hcl := cnt_pG_le (gens := gens) (L := L) (x := x) hg hgn
        obtain ⟨M, hM⟩ : ∃ M, M = a + cntB (pG n T gens L g) x := ⟨_, rfl⟩
        rw [← hM] at e7 i8 i9
        have hM60 : M < 60 := by omega
        obtain ⟨w6, hw6⟩ : ∃ w6, w6 = sI (cpW w5 31 25 0 (M * 16) 16) 24 7 (nI (M + 1)) := ⟨_, rfl⟩
        have ea : f_X10_addRow w5 = some w6 := by
          unfold f_X10_addRow
          rw [e7, if_neg (show ¬ (64 : Int32) ≤ nI M from nI_ge (b := 64) (by omega) (by decide)), show nI M * (16 : Int32) = nI (M * 16) from pk_mul M 16]
          show cpI w5 31 16 25 1024 (nI 0) (nI (M * 16)) (nI 16) _ = _
          rw [m_cp (by omega) (by omega) (by decide) (by decide), m_letW]
          have : (cpW w5 31 25 0 (M * 16) 16).1 24 7 = nI M := by
            rw [cpW_at, if_neg (by rintro ⟨h, -⟩; revert h; decide)]; exact e7
          rw [this, nI_1, ← hw6]
        have k6 : ∀ k, k ≠ 24 → k ≠ 25 → w6.1 k = w5.1 k := fun k x1 x2 => by
          rw [hw6]; funext j; rw [sI_at, if_neg (fun z => x1 z.1)]
          rw [cpW_at, if_neg (fun z => x2 z.1)]
        have k6b : ∀ j, j ≠ 7 → w6.1 24 j = w5.1 24 j := fun j hj => by
          rw [hw6, sI_at, if_neg (fun z => hj z.2)]
          rw [cpW_at, if_neg (by rintro ⟨h, -⟩; revert h; decide)]
        have k6c : ∀ j, w6.1 25 j = if M * 16 ≤ j ∧ j < M * 16 + 16 then w5.1 31 (0 + (j - M * 16)) else w5.1 25 j := fun j => by
          rw [hw6, sI_at, if_neg (by rintro ⟨h, -⟩; revert h; decide)]
          rw [cpW_at]
          simp only [true_and]
        refine ⟨(w6, fun i => if i = M then ψ else ph1 i), ⟨by omega, ⟨fun k x1 x2 x3 x4 x5 => by rw [k6 k x1 x2, tk5.1 k x4 x5]; exact i1.1 k x1 x2 x3 x4 x5, by rw [hw6]; show w5.2 = _; rw [tk5.2]; exact i1.2.1, by rw [k6b 9 (by decide), e24]; exact i1.2.2⟩, by rw [k6 26 (by decide) (by decide), tk5.1 26 (by decide) (by decide)]; exact i2, by rw [k6b 8 (by decide), e24]; exact i3, by rw [k6 31 (by decide) (by decide)]; exact u2, fun l hl => by rw [k6 30 (by decide) (by decide)]; exact h30 l hl, ?_, fun i hi => ?_, ?_, ?_, ?_⟩, fun k24 f => by rw [st, hb, if_pos rfl, v1, bnd2_some, if_neg one_ne, ea, bnd_some]⟩
        · rw [cb, hp, if_pos rfl, ← Nat.add_assoc, ← hM, hw6, sI_at]; simp
        · dsimp only
          rw [if_neg (by omega)]; exact i7 i hi
        · rw [cb, hp, if_pos rfl, ← Nat.add_assoc, ← hM]
          intro i y hi hy
          dsimp only
          rw [k6c]
          by_cases c : i = M
          · rw [if_pos c, if_pos (by omega), show 0 + (16 * i + y - M * 16) = y by omega]; exact v4 y hy
          · rw [if_neg c, if_neg (by omega), tk5.1 25 (by decide) (by decide)]; exact i8 i y (by omega) hy
        · rw [cb, hp, if_pos rfl, ← Nat.add_assoc, ← hM]
          intro i h1 h2
          dsimp only
          by_cases c : i = M
          · rw [if_pos c]; exact ⟨v2, f1⟩
          · rw [if_neg c]; exact i9.1 i h1 (by omega)
        · rw [cb, hp, if_pos rfl, ← Nat.add_assoc, ← hM]
          intro φ p1 p2 p3 p4
          dsimp only
          rcases Nat.lt_or_ge (φ g) x with z | z
          · obtain ⟨i, j1, j2, j3⟩ := i9.2 φ p1 p2 z p4
            exact ⟨i, j1, by omega, by rw [if_neg (by omega)]; exact j3⟩
          · exact ⟨M, by omega, by omega, by rw [if_pos rfl, f2]; omega⟩
      · refine ⟨(w5, ph1), no w5 (tcK_tr tk3 u1) u2 h30 ?_, fun k24 f => by rw [st, hb, if_pos rfl, v1, bnd2_some, if_pos rfl]⟩
        rintro ⟨ψ, a1, a2, a3⟩
        exact v2 ⟨ψ, a1, (mconv ψ).mpr ⟨a2, a3⟩⟩
  · rintro k24 f ⟨w1, ph1⟩ ⟨i0, i1, -⟩
    show f_X10_total_B47b k24 (f_X10_total_L47 k24 f) (nI L) (nI n) w1 = _
    unfold f_X10_total_B47b
    dsimp only at i1
    rw [(i1.gx hG).1, if_pos (nI_le (Nat.le_refl _) (by omega)), if_pos (nI_le (Nat.le_refl _) (by omega))]
  · have h1 := cnt_pG_le (gens := gens) (L := L) (x := 1) hg hgn
    have e : cntB (pG n T gens L g) 1 = 0 := by omega
    refine ⟨Nat.le_refl _, ⟨fun _ _ _ _ _ _ => rfl, rfl, rfl⟩, rfl, rfl, h0, fun _ _ => rfl, ?_, fun _ _ => rfl, ?_, ?_, ?_⟩
    · rw [e]; exact h7
    · rw [e]; exact hph
    · intro i x1 x2; omega
    · intro ψ _ _ x3 x4; omega
theorem allV_len {m : Nat} : ∀ r, (allV m r).length = m ^ r := by
  intro r
  induction r with
  | zero => rfl
  | succ r ih =>
    simp only [allV]
    rw [len_flat _ (fun _ => m ^ r) _ (fun x _ => by rw [List.length_map, ih]), Nat.pow_succ, Nat.mul_comm]
    have : ∀ k, ((List.range k).map (fun _ => m ^ r)).sum = k * m ^ r := by
      intro k
      induction k with
      | zero => simp
      | succ k ihk => rw [List.range_succ, List.map_append, List.sum_append, ihk, Nat.succ_mul]; simp
    exact this m
theorem cntA_pos (p q : List Nat) (h : ∀ y, y ∈ q → y < n) : 0 < cntA n T p q := by
  unfold cntA
  apply List.length_pos_of_mem (a := q)
  rw [List.mem_filter]
  exact ⟨allV_mem.mpr ⟨rfl, h⟩, dcd_iff.mpr ⟨fun x => x, aut_id, by simp⟩⟩
theorem cntA_le (hn : n ≤ 16) (hl : gens.length ≤ 4) : cntA n T [] gens ≤ 65536 := by
  unfold cntA
  have h1 := List.length_filter_le (fun s => TVb n T ([] ++ gens) ([] ++ s)) (allV n gens.length)
  rw [allV_len] at h1
  have h2 : n ^ gens.length ≤ 16 ^ gens.length := Nat.pow_le_pow_left hn _
  have h3 : 16 ^ gens.length ≤ 16 ^ 4 := Nat.pow_le_pow_right (by decide) hl
  omega
theorem x_turns {w : Wd} (hG : GX w n T iv) (hg : Gp n T iv) (hB : BX w gens ord frm by_ rch) (hO : BO n T gens ord frm by_ rch) (hr : w.1 29 4 = 0) (h0 : w.1 31 0 = 0) (hI : TRI n T gens w) : ∃ w', f_X10_total w = some (nI (cntA n T [] gens), w') ∧ TR n T gens w' ∧ trK w w' ∧ w'.1 31 0 = 0 := by
  have h16 := hg.1.2
  have hl4 := hO.1
  have hgl : ∀ y, y ∈ gens → y < n := fun y hy => (hO.2.1 y hy).2
  have hpos := cntA_pos (T := T) [] gens hgl
  have hle := cntA_le (T := T) h16 hl4
  unfold f_X10_total
  rcases hI with hI | hI
  · rw [hI, if_pos (by decide), m_letW, m_letW]
    obtain ⟨w0, hw0⟩ : ∃ w0, w0 = sI (sI w 24 8 1) 24 7 0 := ⟨_, rfl⟩
    have k0 : ∀ k, k ≠ 24 → w0.1 k = w.1 k := fun k a => by rw [hw0]; funext j; rw [sI_at, sI_at]; simp [a]
    have k09 : w0.1 24 9 = w.1 24 9 := by rw [hw0, sI_at, if_neg (by rintro ⟨-, h⟩; revert h; decide), sI_at, if_neg (by rintro ⟨-, h⟩; revert h; decide)]
    rw [← hw0]
    have key := lrun (fun f L (s : Wd × (Nat → Nat → Nat) × (Nat → Nat) × Nat) => f_X10_total_L24 f (nI L) s.1) gens.length (fun s => some (s.1.1 24 8, s.1)) (fun L s => trK w s.1 ∧ s.1.1 31 0 = 0 ∧ (∀ l, l < L → s.1.1 30 l = nI (gens.getD l 0)) ∧ s.1.1 24 7 = nI (s.2.2.1 L) ∧ (∀ l, l ≤ L → 0 < L → s.1.1 26 l = nI (s.2.2.1 l)) ∧ s.2.2.1 L ≤ 15 * L ∧ (∀ l, l < L → s.2.2.1 l ≤ s.2.2.1 (l + 1)) ∧ rws n s.1 s.2.1 (s.2.2.1 L) ∧ (∀ (l g : Nat), l < L → gens[l]? = some g → lvl n T gens s.2.1 l g (s.2.2.1 l) (s.2.2.1 (l + 1)) n) ∧ s.1.1 24 8 = nI s.2.2.2 ∧ s.2.2.2 * cntA n T (gens.take L) (gens.drop L) = cntA n T [] gens) ?_ ?_ gens.length 0 (w0, (fun _ _ => 0), (fun _ => 0), 1) FU (by omega) (FU_big (by omega)) ?_
    · obtain ⟨⟨w', ph, sts, c⟩, ⟨i1, i2, i3, i4, i5, i6, i7, i8, i9, i10, i11⟩, i12⟩ := key
      dsimp only at i1 i2 i3 i4 i5 i6 i7 i8 i9 i10 i11 i12
      rw [List.drop_length, cntA_nil, Nat.mul_one] at i11
      refine ⟨w', ?_, ⟨ph, sts, by rw [i10, i11], by omega, fun hp L hL => i5 L hL hp, i7, i8, fun L g hLg => i9 L g (List.getElem?_eq_some_iff.mp hLg).1 hLg⟩, i1, i2⟩
      refine i12.trans ?_
      rw [i10, i11]
    · rintro L ⟨w1, ph, sts, c⟩ hL ⟨i1, i2, i3, i4, i5, i6, i7, i8, i9, i10, i11⟩
      dsimp only at i1 i2 i3 i4 i5 i6 i7 i8 i9 i10 i11
      have hgL := List.getElem?_eq_getElem hL
      obtain ⟨g, hgd⟩ : ∃ g, g = gens[L] := ⟨_, rfl⟩
      rw [← hgd] at hgL
      have hgn := hO.2.1 g (List.mem_of_getElem? hgL)
      obtain ⟨w2, hw2⟩ : ∃ w2, w2 = sI w1 26 L (nI (sts L)) := ⟨_, rfl⟩
      have k2 : ∀ k, k ≠ 26 → w2.1 k = w1.1 k := fun k a => by rw [hw2]; funext j; rw [sI_at]; simp [a]
      have t2 : trK w1 w2 := ⟨fun k _ _ x3 _ _ => k2 k x3, by rw [hw2]; rfl, by rw [k2 24 (by decide)]⟩
      have t2' := i1.tr t2
      obtain ⟨w3, ph', j0, j1, j2, j3, j4, j5, j6, j7, j8, j9⟩ := x_level hg hO hgL (t2'.gx hG) (t2'.bx hB) (by rw [t2'.1 29 (by decide) (by decide) (by decide) (by decide) (by decide)]; exact hr) (by rw [k2 31 (by decide)]; exact i2) (fun l hl => by rw [k2 30 (by decide)]; exact i3 l hl) i6 (by rw [k2 24 (by decide)]; exact i4) (fun i x hi hx => by rw [k2 25 (by decide)]; exact i8 i x hi hx)
      obtain ⟨N, hN⟩ : ∃ N, N = cntB (pG n T gens L g) n := ⟨_, rfl⟩
      have hNc : N = cnG n T (gens.take L) g := by rw [hN, ← cnt_len]; rfl
      have hNl : N ≤ 15 := by
        have := cnt_pG_le (gens := gens) (L := L) (x := n) hg hgn
        omega
      rw [← hN] at j6 j8 j9
      have h26L : w3.1 26 L = nI (sts L) := by rw [j2, hw2, sI_at]; simp
      obtain ⟨w4, hw4⟩ : ∃ w4, w4 = sI (sI (sI w3 30 L (nI g)) 26 (L + 1) (nI (sts L + N))) 24 8 (nI (c * N)) := ⟨_, rfl⟩
      have k4 : ∀ k, k ≠ 24 → k ≠ 26 → k ≠ 30 → w4.1 k = w3.1 k := fun k x1 x2 x3 => by rw [hw4]; funext j; rw [sI_at, sI_at, sI_at]; simp [x1, x2, x3]
      have k424 : ∀ j, j ≠ 8 → w4.1 24 j = w3.1 24 j := fun j hj => by rw [hw4, sI_at, if_neg (fun z => hj z.2), sI_at, if_neg (by rintro ⟨h, -⟩; revert h; decide), sI_at, if_neg (by rintro ⟨h, -⟩; revert h; decide)]
      have k426 : ∀ j, w4.1 26 j = if j = L + 1 then nI (sts L + N) else w3.1 26 j := fun j => by
        rw [hw4, sI_at, if_neg (by rintro ⟨h, -⟩; revert h; decide), sI_at]
        by_cases q : j = L + 1
        · subst q; simp
        · rw [if_neg (fun z => q z.2), if_neg q, sI_at, if_neg (by rintro ⟨h, -⟩; revert h; decide)]
      have k430 : ∀ j, w4.1 30 j = if j = L then nI g else w3.1 30 j := fun j => by
        rw [hw4, sI_at, if_neg (by rintro ⟨h, -⟩; revert h; decide), sI_at, if_neg (by rintro ⟨h, -⟩; revert h; decide), sI_at]
        by_cases q : j = L
        · subst q; simp
        · rw [if_neg (fun z => q z.2), if_neg q]
      have t4 : trK w3 w4 := ⟨fun k x1 _ x3 x4 _ => k4 k x1 x3 x4, by rw [hw4]; rfl, k424 9 (by decide)⟩
      obtain ⟨sts', hst'⟩ : ∃ sts' : Nat → Nat, sts' = fun l => if l = L + 1 then sts L + N else sts l := ⟨_, rfl⟩
      have stL : ∀ l, l ≤ L → sts' l = sts l := fun l hl => by rw [hst']; dsimp only; rw [if_neg (by omega)]
      have stL1 : sts' (L + 1) = sts L + N := by rw [hst']; dsimp only; rw [if_pos rfl]
      refine ⟨(w4, ph', sts', c * N), ⟨(t2'.tr j1).tr t4, by rw [k4 31 (by decide) (by decide) (by decide)]; exact j4, fun l hl => ?_, ?_, fun l hl _ => ?_, ?_, fun l hl => ?_, ?_, fun l g' hl hg' => ?_, ?_, ?_⟩, fun f => ?_⟩
      · dsimp only
        rw [k430]
        by_cases q : l = L
        · rw [if_pos q, q, List.getD_eq_getElem?_getD, hgL]; rfl
        · rw [if_neg q, j5 l (by omega), k2 30 (by decide)]; exact i3 l (by omega)
      · dsimp only
        rw [k424 7 (by decide), stL1]; exact j6
      · dsimp only
        rw [k426]
        by_cases q : l = L + 1
        · rw [if_pos q, q, stL1]
        · rw [if_neg q, stL l (by omega)]
          by_cases q2 : l = L
          · rw [q2]; exact h26L
          · rw [j2, hw2, sI_at, if_neg (fun z => q2 z.2)]
            exact i5 l (by omega) (by omega)
      · dsimp only
        rw [stL1]; omega
      · dsimp only
        by_cases q : l = L
        · rw [q, stL1, stL L (Nat.le_refl _)]; omega
        · rw [stL l (by omega), stL (l + 1) (by omega)]; exact i7 l (by omega)
      · dsimp only
        rw [stL1]
        intro i x hi hx
        rw [k4 25 (by decide) (by decide) (by decide)]; exact j8 i x hi hx
      · dsimp only
        by_cases q : l = L
        · subst q
          rw [hgL] at hg'
          rw [← Option.some.inj hg', stL1, stL l (Nat.le_refl _)]; exact j9
        · have hlt : l < L := by omega
          have := i9 l g' hlt hg'
          rw [stL l (by omega), stL (l + 1) (by omega)]
          have hmono : ∀ d, l + 1 + d ≤ L → sts (l + 1) ≤ sts (l + 1 + d) := by
            intro d
            induction d with
            | zero => intro _; exact Nat.le_refl _
            | succ d ih => intro h; have h1 := ih (by omega); have h2 := i7 (l + 1 + d) (by omega); rw [← Nat.add_assoc]; omega
          have hle2 : sts (l + 1) ≤ sts L := by
            have := hmono (L - (l + 1)) (by omega)
            rw [show l + 1 + (L - (l + 1)) = L by omega] at this; exact this
          refine ⟨fun i h1 h2 => by rw [j7 i (by omega)]; exact this.1 i h1 h2, fun ψ p1 p2 p3 p4 => ?_⟩
          obtain ⟨i, q1, q2, q3⟩ := this.2 ψ p1 p2 p3 p4
          exact ⟨i, q1, q2, by rw [j7 i (by omega)]; exact q3⟩
      · dsimp only
        rw [hw4, sI_at]; simp
      · dsimp only
        have hd : gens.drop L = g :: gens.drop (L + 1) := by rw [hgd]; exact List.drop_eq_getElem_cons hL
        have htk : gens.take (L + 1) = gens.take L ++ [g] := by rw [hgd]; exact List.take_succ_eq_append_getElem hL
        rw [← i11, hd, cntA_step hg (fun y hy => hgl y (List.mem_of_mem_take hy)) hgn.2 (fun y hy => hgl y (List.mem_of_mem_drop hy)), htk, ← hNc, Nat.mul_assoc]
      · show f_X10_total_B24b (f_X10_total_L24 f) (nI L) w1 = _
        unfold f_X10_total_B24b
        rw [(i1.bx hB).1, if_neg (nI_ge hL (by omega)), m_wr (by omega) (by decide), i4, ← hw2]
        refine (j0 (f_X10_total_L24 f)).trans ?_
        unfold f_X10_total_B47b
        rw [((t2'.tr j1).gx hG).1, if_pos (nI_le (Nat.le_refl _) (by omega)), m_rd (by omega) (by decide), (((t2'.tr j1).bx hB).2.1 L g hgL).1, m_wr (by omega) (by decide), nI_1, m_wr (by omega) (by decide), m_rd (by omega) (by decide), m_letW]
        have z1 : (sI w3 30 L (nI g)).1 24 7 = nI (sts L + N) := by rw [sI_at, if_neg (by rintro ⟨h, -⟩; revert h; decide)]; exact j6
        have z2 : (sI (sI w3 30 L (nI g)) 26 (L + 1) (nI (sts L + N))).1 24 8 = nI c := by rw [sI_at, if_neg (by rintro ⟨h, -⟩; revert h; decide), sI_at, if_neg (by rintro ⟨h, -⟩; revert h; decide), j3, k2 24 (by decide)]; exact i10
        have z3 : (sI (sI w3 30 L (nI g)) 26 (L + 1) (nI (sts L + N))).1 24 7 = nI (sts L + N) := by rw [sI_at, if_neg (by rintro ⟨h, -⟩; revert h; decide), z1]
        have z4 : (sI (sI w3 30 L (nI g)) 26 (L + 1) (nI (sts L + N))).1 26 L = nI (sts L) := by rw [sI_at, if_neg (fun z => by omega), sI_at, if_neg (by rintro ⟨h, -⟩; revert h; decide), h26L]
        rw [z1, z2, z3, z4, pk_sub (by omega), show sts L + N - sts L = N by omega, pk_mul, ← hw4]
    · rintro f ⟨w1, ph, sts, c⟩ ⟨i1, -⟩
      dsimp only at i1
      show f_X10_total_B24b (f_X10_total_L24 f) (nI gens.length) w1 = _
      unfold f_X10_total_B24b
      rw [(i1.bx hB).1, if_pos (nI_le (Nat.le_refl _) (by omega))]
    · refine ⟨⟨fun k x1 _ _ _ _ => k0 k x1, by rw [hw0]; rfl, k09⟩, by rw [k0 31 (by decide)]; exact h0, fun l hl => by omega, by dsimp only; rw [hw0, sI_at]; simp; rfl, fun l _ hl => by omega, by dsimp only; omega, fun l hl => by omega, fun i x hi => by dsimp only at hi; omega, fun l g hl => by omega, ?_, ?_⟩
      · dsimp only; rw [hw0, sI_at, if_neg (by rintro ⟨-, h⟩; revert h; decide), sI_at]; simp; rfl
      · dsimp only; rw [Nat.one_mul]; rfl
  · have hI' := hI
    obtain ⟨ph, sts, h8, -⟩ := hI
    rw [h8, if_neg (nI_nle hpos (by omega))]
    exact ⟨w, rfl, hI', ⟨fun _ _ _ _ _ _ => rfl, rfl, rfl⟩, h0⟩
end TURNING2
