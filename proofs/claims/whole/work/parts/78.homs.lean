/-! characters -/
noncomputable def HVb (n : Nat) (T : Nat → Nat → Nat) (m : Nat) (gens s : List Nat) : Bool := dcd (∃ φ, HOM n T m φ ∧ gens.map φ = s)
noncomputable def CLp (n : Nat) (T : Nat → Nat → Nat) (m : Nat) (gens p : List Nat) (d : Nat) : List (List Nat) := ((allV m d).map (fun t => p ++ t)).filter (HVb n T m gens)
noncomputable def CL (n : Nat) (T : Nat → Nat → Nat) (m : Nat) (gens : List Nat) : List (List Nat) := CLp n T m gens [] gens.length
section HOMS
variable {n m : Nat} {T : Nat → Nat → Nat} {iv : Nat → Nat} {gens ord hd : List Nat} {frm by_ rch h0 hb : Nat → Nat}
theorem CLp_succ {p : List Nat} {d : Nat} : CLp n T m gens p (d + 1) = (List.range m).flatMap (fun x => CLp n T m gens (p ++ [x]) d) := by
  unfold CLp
  simp only [allV]
  rw [List.map_flatMap, List.filter_flatMap]
  apply flat_congr
  intro x _
  rw [List.map_map]
  congr 1
  apply List.map_congr_left
  intro t _
  show p ++ x :: t = p ++ [x] ++ t
  rw [List.append_assoc]; rfl
/-- rows that the class holds -/
def hrw (n : Nat) (T : Nat → Nat → Nat) (m : Nat) (gens : List Nat) (w : Wd) (R : List (List Nat)) : Prop := w.1 32 4 = nI R.length ∧ ∀ (i : Nat) (s : List Nat), R[i]? = some s → ∃ φ, HOM n T m φ ∧ gens.map φ = s ∧ ∀ x, x < n → w.1 33 (16 * i + x) = nI (φ x)
def hoK (w w' : Wd) : Prop := (∀ k, k ≠ 32 → k ≠ 33 → k ≠ 35 → k ≠ 36 → w'.1 k = w.1 k) ∧ w'.2 = w.2
theorem hoK.rf (w : Wd) : hoK w w := ⟨fun _ _ _ _ _ => rfl, rfl⟩
theorem hoK.tr {a b c : Wd} (h : hoK a b) (g : hoK b c) : hoK a c := ⟨fun k x1 x2 x3 x4 => (g.1 k x1 x2 x3 x4).trans (h.1 k x1 x2 x3 x4), g.2.trans h.2⟩
theorem hoK.gx {w w' : Wd} (h : hoK w w') (hG : GX w n T iv) : GX w' n T iv := GX_cong hG (h.1 6 (by decide) (by decide) (by decide) (by decide)) (h.1 9 (by decide) (by decide) (by decide) (by decide)) (h.1 10 (by decide) (by decide) (by decide) (by decide))
theorem hoK.bx {w w' : Wd} (h : hoK w w') (hB : BX w gens ord frm by_ rch) : BX w' gens ord frm by_ rch := BX_cong hB (by rw [h.1 13 (by decide) (by decide) (by decide) (by decide)]) (h.1 14 (by decide) (by decide) (by decide) (by decide)) (h.1 15 (by decide) (by decide) (by decide) (by decide)) (h.1 16 (by decide) (by decide) (by decide) (by decide)) (h.1 17 (by decide) (by decide) (by decide) (by decide)) (h.1 18 (by decide) (by decide) (by decide) (by decide))
theorem fitR_of (hg : Gp n T iv) (hO : BO n T gens ord frm by_ rch) {L : Nat} (hL : L < gens.length) {gl s : Nat → Nat} (hs : WK (ord.take (rch L)) (adm m) frm by_ gl s) {ψ : Nat → Nat} (hψ : HOM n T m ψ) (hm : mts gens (L + 1) gl ψ) : fitC T gens L (ord.take (rch L)) (adm m) gl s := by
  obtain ⟨hR1, hRn, hE⟩ := hO.2.2.2.1 L hL
  exact (walk_eq' hg hE (fun g h => (hO.2.1 g h).2) hs (hom_zero hg hψ) (fun x y hx hy => hψ.2 x y (hE.2.1 x hx) (hE.2.1 y hy)) (fun lev g h1 h2 => hm lev g (by omega) h2)).1
theorem hom_of (hg : Gp n T iv) (hO : BO n T gens ord frm by_ rch) {L : Nat} (hL : L + 1 = gens.length) (h0m : 0 < m) {gl s : Nat → Nat} (hgl : ∀ l, l ≤ L → gl l < m) (hs : WK (ord.take (rch L)) (adm m) frm by_ gl s) (h2 : fitC T gens L (ord.take (rch L)) (adm m) gl s) : HOM n T m s ∧ mts gens (L + 1) gl s := by
  obtain ⟨hR1, hRn, hE⟩ := hO.2.2.2.1 L (by omega)
  obtain ⟨e, ha⟩ := ord_all hg hO hL
  have hgn := fun g (h : g ∈ gens) => (hO.2.1 g h).2
  rw [e] at hE hs h2
  exact ⟨⟨fun x hx => walk_mem_lt hE (Mon_add h0m) hgl hs (ha x hx), fun x y hx hy => (walk_hom' hg hE hgn (Mon_add h0m) hgl hs h2 (ha x hx) (ha y hy)).2⟩, fun l g hl h => walk_gen hg hE hgn (Mon_add h0m) hgl hs h2 (by omega) h⟩
theorem mts_map {k : Nat} {s : List Nat} (hs : s.length = gens.length) {φ : Nat → Nat} : gens.map φ = s ↔ mts gens gens.length (fun l => s.getD l 0) φ := by
  constructor
  · intro h l g hl hg
    have h1 : (gens.map φ)[l]? = some (φ g) := by rw [List.getElem?_map, hg]; rfl
    rw [h] at h1
    show φ g = s.getD l 0
    rw [List.getD_eq_getElem?_getD, h1]; rfl
  · intro h
    apply List.ext_getElem?
    intro l
    rcases Nat.lt_or_ge l gens.length with q | q
    · have hg := List.getElem?_eq_getElem q
      rw [List.getElem?_map, hg, List.getElem?_eq_getElem (show l < s.length by omega)]
      show some (φ gens[l]) = _
      rw [h l _ q hg]
      show some (s.getD l 0) = _
      rw [List.getD_eq_getElem?_getD, List.getElem?_eq_getElem (show l < s.length by omega)]
      rfl
    · rw [List.getElem?_eq_none (by simpa using q), List.getElem?_eq_none (by omega)]
theorem x_addH {w : Wd} (hn : n ≤ 16) {R : List (List Nat)} (h : hrw n T m gens w R) (hl : R.length < 16) {φ : Nat → Nat} {s : List Nat} (hφ : HOM n T m φ) (hs : gens.map φ = s) (hse : ∀ x, x < n → w.1 36 x = nI (φ x)) : ∃ w', f_X5_addRow w = some w' ∧ hrw n T m gens w' (R ++ [s]) ∧ (∀ k, k ≠ 32 → k ≠ 33 → w'.1 k = w.1 k) ∧ w'.2 = w.2 := by
  obtain ⟨w6, hw6⟩ : ∃ w6, w6 = sI (cpW w 36 33 0 (R.length * 16) 16) 32 4 (nI (R.length + 1)) := ⟨_, rfl⟩
  have k6c : ∀ j, w6.1 33 j = if R.length * 16 ≤ j ∧ j < R.length * 16 + 16 then w.1 36 (0 + (j - R.length * 16)) else w.1 33 j := fun j => by
    rw [hw6, sI_at, if_neg (by rintro ⟨h, -⟩; revert h; decide), cpW_at]
    simp only [true_and]
  refine ⟨w6, ?_, ⟨?_, fun i t ht => ?_⟩, fun k x1 x2 => ?_, by rw [hw6]; rfl⟩
  · unfold f_X5_addRow
    rw [h.1, if_neg (show ¬ (16 : Int32) ≤ nI R.length from nI_ge (b := 16) hl (by decide)), show nI R.length * (16 : Int32) = nI (R.length * 16) from pk_mul R.length 16]
    show cpI w 36 16 33 256 (nI 0) (nI (R.length * 16)) (nI 16) _ = _
    rw [m_cp (by omega) (by omega) (by decide) (by decide), m_letW, cpW_at, if_neg (by rintro ⟨h, -⟩; revert h; decide), h.1, nI_1, ← hw6]
  · rw [hw6, sI_at, List.length_append]; simp
  · rcases Nat.lt_trichotomy i R.length with q | q | q
    · rw [List.getElem?_append_left q] at ht
      obtain ⟨ψ, p1, p2, p3⟩ := h.2 i t ht
      exact ⟨ψ, p1, p2, fun x hx => by rw [k6c, if_neg (by omega)]; exact p3 x hx⟩
    · subst q
      rw [List.getElem?_append_right (Nat.le_refl _), Nat.sub_self] at ht
      refine ⟨φ, hφ, by rw [← Option.some.inj ht]; exact hs, fun x hx => ?_⟩
      rw [k6c, if_pos (by omega), show 0 + (16 * R.length + x - R.length * 16) = x by omega]; exact hse x hx
    · rw [List.getElem?_eq_none (by simp; omega)] at ht; cases ht
  · rw [hw6]; funext j; rw [sI_at, if_neg (fun z => x1 z.1), cpW_at, if_neg (fun z => x2 z.1)]
theorem x_list (hg : Gp n T iv) (hO : BO n T gens ord frm by_ rch) (h0m : 0 < m) (hm : m ≤ 16) : ∀ d (p : List Nat) w fu (R : List (List Nat)), p.length + d = gens.length → d < fu → GX w n T iv → BX w gens ord frm by_ rch → w.1 34 4 = nI m → w.1 36 0 = 0 → (∀ l, l < p.length → w.1 35 l = nI (p.getD l 0)) → (∀ x, x ∈ p → x < m) → (d = 0 → ∃ φ, HOM n T m φ ∧ gens.map φ = p ∧ ∀ x, x < n → w.1 36 x = nI (φ x)) → hrw n T m gens w R → R.length + (CLp n T m gens p d).length ≤ 16 → ∃ w', f_X5_list fu (nI p.length) w = some w' ∧ hrw n T m gens w' (R ++ CLp n T m gens p d) ∧ hoK w w' ∧ w'.1 36 0 = 0 ∧ ∀ l, l < p.length → w'.1 35 l = w.1 35 l := by
  have h16 := hg.1.2
  have h1n := hg.1.1
  have hl4 := hO.1
  intro d
  induction d with
  | zero =>
    intro p w fu R hd hf hG hB hr h0 hgo hp hse hR hlen
    obtain ⟨fu, rfl⟩ : ∃ q, fu = q + 1 := ⟨fu - 1, by omega⟩
    obtain ⟨φ, p1, p2, p3⟩ := hse rfl
    have eC : CLp n T m gens p 0 = [p] := by
      unfold CLp
      simp only [allV, List.map_cons, List.append_nil, List.map_nil, List.filter_cons, List.filter_nil]
      rw [if_pos (show HVb n T m gens p = true from dcd_iff.mpr ⟨φ, p1, p2⟩)]
    rw [eC] at hlen ⊢
    obtain ⟨w', a1, a2, a3, a4⟩ := x_addH h16 hR (by rw [List.length_singleton] at hlen; omega) p1 p2 p3
    refine ⟨w', ?_, a2, ⟨fun k x1 x2 _ _ => a3 k x1 x2, a4⟩, by rw [a3 36 (by decide) (by decide)]; exact h0, fun l hl => by rw [a3 35 (by decide) (by decide)]⟩
    show f_X5_listb (f_X5_list fu) (nI p.length) w = _
    unfold f_X5_listb
    rw [hB.1, if_pos (nI_le (by omega) (by omega)), a1, bnd_some]
  | succ d ih =>
    intro p w fu R hd hf hG hB hr h0 hgo hp _ hR hlen
    obtain ⟨fu, rfl⟩ : ∃ q, fu = q + 1 := ⟨fu - 1, by omega⟩
    obtain ⟨L, hLd⟩ : ∃ L, L = p.length := ⟨_, rfl⟩
    have hL : L < gens.length := by omega
    have hgL := List.getElem?_eq_getElem hL
    rw [CLp_succ] at hlen ⊢
    have pre : ∀ x, x ≤ m → ((List.range x).flatMap (fun y => CLp n T m gens (p ++ [y]) d)).length ≤ ((List.range m).flatMap (fun y => CLp n T m gens (p ++ [y]) d)).length := fun x hx => by
      have : List.range m = List.range x ++ (List.range (m - x)).map (x + ·) := by rw [← List.range_add]; congr 1; omega
      rw [this, List.flatMap_append, List.length_append]; omega
    have key := lrun (fun f x (s : Wd) => f_X5_list_L23 (f_X5_list fu) f (nI L) (nI x) s) m (fun s => some s) (fun x s => hoK w s ∧ s.1 36 0 = 0 ∧ (∀ l, l < L → s.1 35 l = w.1 35 l) ∧ hrw n T m gens s (R ++ (List.range x).flatMap (fun y => CLp n T m gens (p ++ [y]) d))) ?_ ?_ m 0 w FU (by omega) (FU_big (by omega)) ⟨hoK.rf w, h0, fun _ _ => rfl, by simpa using hR⟩
    · obtain ⟨w', ⟨a1, a2, a3, a4⟩, a5⟩ := key
      refine ⟨w', ?_, a4, a1, a2, fun l hl => a3 l (by omega)⟩
      show f_X5_listb (f_X5_list fu) (nI p.length) w = _
      unfold f_X5_listb
      rw [hB.1, ← hLd, if_neg (nI_ge hL (by omega)), if_pos (show nI L < (4 : Int32) from nI_lt (b := 4) (by omega) (by decide))]
      exact a5
    · rintro x w1 hx ⟨i1, i2, i3, i4⟩
      have hG1 := i1.gx hG
      have hB1 := i1.bx hB
      have hr1 : w1.1 34 4 = nI m := by rw [i1.1 34 (by decide) (by decide) (by decide) (by decide)]; exact hr
      obtain ⟨w2, hw2⟩ : ∃ w2, w2 = sI w1 35 L (nI x) := ⟨_, rfl⟩
      have k2 : ∀ k, k ≠ 35 → w2.1 k = w1.1 k := fun k a => by rw [hw2]; funext j; rw [sI_at]; simp [a]
      have k2o : ∀ l, w2.1 35 l = if l = L then nI x else w1.1 35 l := fun l => by
        rw [hw2, sI_at]
        by_cases c : l = L
        · subst c; simp
        · rw [if_neg (fun z => c z.2), if_neg c]
      obtain ⟨gl', hgl'⟩ : ∃ gl' : Nat → Nat, gl' = fun l => (p ++ [x]).getD l 0 := ⟨_, rfl⟩
      have glL : gl' L = x := by rw [hgl', hLd]; simp
      have gll : ∀ l, l < L → gl' l = p.getD l 0 := fun l hl => by
        rw [hgl']
        show (p ++ [x]).getD l 0 = _
        rw [List.getD_eq_getElem?_getD, List.getElem?_append_left (by omega), List.getD_eq_getElem?_getD]
      have hgo2 : ∀ l, l ≤ L → w2.1 35 l = nI (gl' l) ∧ gl' l < m := fun l hl => by
        rw [k2o]
        by_cases c : l = L
        · rw [if_pos c, c, glL]; exact ⟨rfl, hx⟩
        · rw [if_neg c, i3 l (by omega), hgo l (by omega), gll l (by omega)]
          refine ⟨rfl, ?_⟩
          have := List.getElem?_eq_getElem (show l < p.length by omega)
          rw [List.getD_eq_getElem?_getD, this]
          exact hp _ (List.mem_of_getElem? this)
      have hG2 : GX w2 n T iv := GX_cong hG1 (k2 6 (by decide)) (k2 9 (by decide)) (k2 10 (by decide))
      have hB2 : BX w2 gens ord frm by_ rch := BX_cong hB1 (by rw [k2 13 (by decide)]) (k2 14 (by decide)) (k2 15 (by decide)) (k2 16 (by decide)) (k2 17 (by decide)) (k2 18 (by decide))
      obtain ⟨hR1, hRn, hE⟩ := hO.2.2.2.1 L hL
      obtain ⟨s, hs⟩ := walk_ex hE (adm m) gl'
      obtain ⟨w3, b, c1, c2, c3, c4, c5, c6⟩ := x_fitR hG2 hg (by rw [k2 34 (by decide)]; exact hr1) h0m hm hB2 hO hL hgo2 (by rw [k2 36 (by decide)]; exact i2) hs
      have eR : (List.range (x + 1)).flatMap (fun y => CLp n T m gens (p ++ [y]) d) = (List.range x).flatMap (fun y => CLp n T m gens (p ++ [y]) d) ++ CLp n T m gens (p ++ [x]) d := by
        rw [List.range_succ, List.flatMap_append]; simp
      have tk3 : hoK w1 w3 := ⟨fun k _ _ x3 x4 => by rw [c2 k x4, k2 k x3], by rw [c3, hw2]; rfl⟩
      have st : ∀ f, f_X5_list_L23 (f_X5_list fu) (f + 1) (nI L) (nI x) w1 = if b then bnd (f_X5_list fu (nI (L + 1)) w3) (fun w4 => f_X5_list_L23 (f_X5_list fu) f (nI L) (nI (x + 1)) w4) else f_X5_list_L23 (f_X5_list fu) f (nI L) (nI (x + 1)) w3 := by
        intro f
        show f_X5_list_B23b (f_X5_list fu) (f_X5_list_L23 (f_X5_list fu) f) (nI L) (nI x) w1 = _
        unfold f_X5_list_B23b
        rw [hr1, if_neg (nI_ge hx (by omega)), m_wr (by omega) (by decide), ← hw2, c1, bnd2_some, nI_1, nI_1]
        cases b <;> simp [one_ne]
      have e32 : ∀ w5 : Wd, w5.1 32 = w1.1 32 → w5.1 33 = w1.1 33 → ∀ R', hrw n T m gens w1 R' → hrw n T m gens w5 R' := fun w5 x1 x2 R' h => by
        unfold hrw at *
        rw [x1, x2]; exact h
      have hr3 := e32 w3 (by rw [c2 32 (by decide), k2 32 (by decide)]) (by rw [c2 33 (by decide), k2 33 (by decide)]) _ i4
      cases hbt : b with
      | false =>
        have eC : CLp n T m gens (p ++ [x]) d = [] := by
          unfold CLp
          rw [List.filter_eq_nil_iff]
          intro t ht h
          obtain ⟨t', ht', rfl⟩ := List.mem_map.mp ht
          obtain ⟨φ, q1, q2⟩ := dcd_iff.mp h
          have := c5.mpr (fitR_of hg hO hL hs q1 (fun l g hl hg' => by
            have e : (gens.map φ)[l]? = some (φ g) := by rw [List.getElem?_map, hg']; rfl
            rw [q2, List.getElem?_append_left (by simp; omega)] at e
            rw [hgl']
            show φ g = (p ++ [x]).getD l 0
            rw [List.getD_eq_getElem?_getD, e]; rfl))
          rw [hbt] at this; cases this
        refine ⟨w3, ⟨i1.tr tk3, c4, fun l hl => by rw [c2 35 (by decide), k2o, if_neg (by omega)]; exact i3 l hl, by rw [eR, eC, List.append_nil]; exact hr3⟩, fun f => by rw [st, hbt]; rfl⟩
      | true =>
        have hb5 := c5.mp hbt
        have hpl : (p ++ [x]).length = L + 1 := by simp [hLd]
        have hle := pre (x + 1) (by omega)
        rw [eR, List.length_append] at hle
        obtain ⟨w4, u1, u2, u3, u4, u5⟩ := ih (p ++ [x]) w3 fu (R ++ (List.range x).flatMap (fun y => CLp n T m gens (p ++ [y]) d)) (by rw [hpl]; omega) (by omega) (GX_cong hG2 (c2 6 (by decide)) (c2 9 (by decide)) (c2 10 (by decide))) (BX_cong hB2 (by rw [c2 13 (by decide)]) (c2 14 (by decide)) (c2 15 (by decide)) (c2 16 (by decide)) (c2 17 (by decide)) (c2 18 (by decide))) (by rw [c2 34 (by decide), k2 34 (by decide)]; exact hr1) c4 (fun l hl => by rw [c2 35 (by decide), (hgo2 l (by omega)).1, hgl']) (fun y hy => by
            rcases List.mem_append.mp hy with h | h
            · exact hp y h
            · rw [List.mem_singleton.mp h]; exact hx) (fun hd0 => by
            subst hd0
            obtain ⟨e1, e2⟩ := hom_of hg hO (L := L) (by omega) h0m (fun l hl => (hgo2 l hl).2) hs hb5
            refine ⟨s, e1, ?_, fun y hy => c6 y ?_⟩
            · rw [mts_map (k := 0) (by rw [hpl]; omega)]
              intro l g hl hg'
              have := e2 l g (by omega) hg'
              rw [hgl'] at this; exact this
            · have := ord_all hg hO (L := L) (by omega)
              rw [this.1]; exact this.2 y hy) hr3 (by rw [List.length_append]; omega)
        rw [hpl] at u1 u5
        refine ⟨w4, ⟨(i1.tr tk3).tr u3, u4, fun l hl => by rw [u5 l (by omega), c2 35 (by decide), k2o, if_neg (by omega)]; exact i3 l hl, by rw [eR, ← List.append_assoc]; exact u2⟩, fun f => by rw [st, hbt, if_pos rfl, u1, bnd_some]⟩
    · rintro f w1 ⟨i1, -⟩
      show f_X5_list_B23b (f_X5_list fu) (f_X5_list_L23 (f_X5_list fu) f) (nI L) (nI m) w1 = _
      unfold f_X5_list_B23b
      rw [i1.1 34 (by decide) (by decide) (by decide) (by decide), hr, if_pos (nI_le (Nat.le_refl _) (by omega))]
/-- what the class holds of one ring -/
def HR (n : Nat) (T : Nat → Nat → Nat) (gens : List Nat) (w : Wd) (m : Nat) : Prop := w.1 34 4 = nI m ∧ hrw n T m gens w (CL n T m gens)
def HRI (n : Nat) (T : Nat → Nat → Nat) (gens : List Nat) (w : Wd) : Prop := w.1 36 0 = 0 ∧ (w.1 34 4 = 0 ∨ ∃ m, 1 ≤ m ∧ m ≤ 16 ∧ HR n T gens w m)
theorem x_into {w : Wd} (hG : GX w n T iv) (hg : Gp n T iv) (hB : BX w gens ord frm by_ rch) (hO : BO n T gens ord frm by_ rch) (h0m : 0 < m) (hm : m ≤ 16) (hC : (CL n T m gens).length ≤ 16) (hI : HRI n T gens w) : ∃ w', f_X5_totalInto (nI m) w = some (nI (CL n T m gens).length, w') ∧ HR n T gens w' m ∧ w'.1 36 0 = 0 ∧ (∀ k, k ≠ 32 → k ≠ 33 → k ≠ 34 → k ≠ 35 → k ≠ 36 → w'.1 k = w.1 k) ∧ w'.2 = w.2 := by
  unfold f_X5_totalInto
  by_cases c : w.1 34 4 = nI m
  · rw [if_pos c]
    rcases hI.2 with h | ⟨m', h1, h2, h3⟩
    · rw [h] at c; exact absurd c.symm (nI_ne0 h0m (by omega))
    · have e : m' = m := (m_inj (by omega) (by omega)).mp (h3.1.symm.trans c)
      subst e
      exact ⟨w, by rw [h3.2.1], h3, hI.1, fun _ _ _ _ _ _ => rfl, rfl⟩
  · rw [if_neg c, m_letW, m_letW]
    obtain ⟨w2, hw2⟩ : ∃ w2, w2 = sI (sI w 34 4 (nI m)) 32 4 0 := ⟨_, rfl⟩
    have k2 : ∀ k, k ≠ 32 → k ≠ 34 → w2.1 k = w.1 k := fun k a b => by rw [hw2]; funext j; rw [sI_at, sI_at]; simp [a, b]
    have e34 : w2.1 34 4 = nI m := by rw [hw2, sI_at, if_neg (by rintro ⟨h, -⟩; revert h; decide), sI_at]; simp
    obtain ⟨w', a1, a2, a3, a4, a5⟩ := x_list hg hO h0m hm gens.length [] w2 20 [] (by simp) (by have := hO.1; omega) (GX_cong hG (k2 6 (by decide) (by decide)) (k2 9 (by decide) (by decide)) (k2 10 (by decide) (by decide))) (BX_cong hB (by rw [k2 13 (by decide) (by decide)]) (k2 14 (by decide) (by decide)) (k2 15 (by decide) (by decide)) (k2 16 (by decide) (by decide)) (k2 17 (by decide) (by decide)) (k2 18 (by decide) (by decide))) e34 (by rw [k2 36 (by decide) (by decide)]; exact hI.1) (fun l hl => by simp at hl) (fun x hx => by simp at hx) (fun hd0 => by
      have hn1 := hO.2.2.2.2.2 (List.length_eq_zero_iff.mp hd0)
      refine ⟨fun _ => 0, ⟨fun _ _ => h0m, fun _ _ _ _ => by show 0 = (0 + 0) % m; rw [Nat.add_zero, Nat.zero_mod]⟩, by rw [List.length_eq_zero_iff.mp hd0]; rfl, fun x hx => ?_⟩
      rw [show x = 0 by omega, k2 36 (by decide) (by decide), hI.1]; rfl) ⟨by rw [hw2, sI_at]; simp; rfl, fun i s h => by simp at h⟩ (by rw [List.length_nil, Nat.zero_add]; exact hC)
    rw [List.nil_append] at a2
    have a1 : f_X5_list 20 0 w2 = some w' := a1
    refine ⟨w', ?_, ⟨by rw [a3.1 34 (by decide) (by decide) (by decide) (by decide)]; exact e34, a2⟩, a4, fun k x1 x2 x3 x4 x5 => by rw [a3.1 k x1 x2 x4 x5, k2 k x1 x3], by rw [a3.2, hw2]; rfl⟩
    rw [← hw2, a1, bnd_some]
    have : w'.1 32 4 = nI (CL n T m gens).length := a2.1
    rw [this]
end HOMS
