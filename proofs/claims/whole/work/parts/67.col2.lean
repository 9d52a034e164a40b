/-! the reference's search -/
def BD : Nat → Nat
  | 0 => 1
  | r + 1 => 18 * (BD r + 2)
section COL2
variable {n : Nat} {T : Nat → Nat → Nat} {iv : Nat → Nat}
def stY (n : Nat) (T : Nat → Nat → Nat) (iv : Nat → Nat) (es : List Nat) (w : Wd) : Prop := GM w n T iv ∧ w.1 44 22 = nI es.length ∧ ∀ (i x : Nat), es[i]? = some x → w.1 61 i = nI x
theorem stY_cong {es : List Nat} {w w' : Wd} (h : stY n T iv es w) (k : ∀ q, q ≠ 58 → q ≠ 59 → q ≠ 60 → w'.1 q = w.1 q) : stY n T iv es w' := by
  refine ⟨GM_cong h.1 (by rw [k 44 (by decide) (by decide) (by decide)]) (k 47 (by decide) (by decide) (by decide)) (k 48 (by decide) (by decide) (by decide)) (k 49 (by decide) (by decide) (by decide)), ?_, ?_⟩
  · rw [k 44 (by decide) (by decide) (by decide)]; exact h.2.1
  · rw [k 61 (by decide) (by decide) (by decide)]; exact h.2.2
def lvR (most : Nat) (es : List Nat) (o : Option (List Nat)) (k : Nat) (P : Nat → Nat) (w w' : Wd) (d : Nat) (run : Nat → Option (Int32 × Wd)) : Prop :=
  (∀ q, q ≠ 58 → q ≠ 59 → q ≠ 60 → w'.1 q = w.1 q) ∧ w'.2 = w.2 ∧ (∀ j, j < k → w'.1 58 j = w.1 58 j) ∧ (∀ j, j ≤ k → w'.1 60 j = w.1 60 j) ∧
  ((∃ cs : List Nat, o = some cs ∧ (∀ f, run (f + d) = some (1, w')) ∧ (∀ (j c : Nat), cs[j]? = some c → w'.1 58 (k + j) = nI c)) ∨
   (o = none ∧ (∀ f, run (f + d) = f_X12_partsInto_L53 f (nI most) (nI k + (-1)) w') ∧ (∀ q, q < 16 → w'.1 59 q = nI (P q)) ∧ ∀ j, k ≤ j → j < es.length → w'.1 58 j = -1))
def lvS (n : Nat) (T : Nat → Nat → Nat) (iv : Nat → Nat) (most : Nat) (es : List Nat) (r : Nat) : Prop := ∀ k b P w, k + r = es.length → stY n T iv es w → w.1 60 k = nI b → b ≤ 16 → (∀ (x : Nat), es[k]? = some x → ∀ q, P q < 2 ^ x) → (∀ q, q < 16 → w.1 59 q = nI (P q)) → (∀ j, k ≤ j → j < es.length → w.1 58 j = -1) → ∃ d w', d ≤ BD r ∧ lvR most es (srch n T most (es.drop k) b P) k P w w' d (fun f => f_X12_partsInto_L53 f (nI most) (nI k) w)
theorem y_lv0 {most : Nat} {es : List Nat} (hl : es.length ≤ 15) : lvS n T iv most es 0 := by
  intro k b P w hk hs h60 hb hP h59 h58
  have e : k = es.length := by omega
  subst e
  refine ⟨1, w, Nat.le_refl _, fun _ _ _ _ => rfl, rfl, fun _ _ => rfl, fun _ _ => rfl, Or.inl ⟨[], by rw [List.drop_length]; rfl, fun f => ?_, fun j c h => by simp at h⟩⟩
  show f_X12_partsInto_B53b (f_X12_partsInto_L53 f) (nI most) (nI es.length) w = _
  unfold f_X12_partsInto_B53b
  rw [if_neg (nI_pos (by omega)), hs.2.1, if_pos (nI_le (Nat.le_refl _) (by omega)), if_neg (nI_nlt (Nat.le_refl _) (by omega))]
theorem y_G (hg : Gp n T iv) {most : Nat} {es : List Nat} (hm : most ≤ 16) (hl : es.length ≤ 15) (hes : ∀ x, x ∈ es → x < n) (hso : ∀ (j x y : Nat), es[j]? = some x → es[j + 1]? = some y → x < y) {r k : Nat} (hr : k + 1 + r = es.length) (ih : lvS n T iv most es r) {e b : Nat} (he : es[k]? = some e) (hb : b ≤ 16) {P : Nat → Nat} (hP : ∀ q, P q < 2 ^ e) :
    ∀ kk c w fu, kk + c = 17 → kk < fu → stY n T iv es w → w.1 60 k = nI b → (∀ q, q < 16 → w.1 59 q = nI (P q)) → (∀ j, k < j → j < es.length → w.1 58 j = -1) → ∃ d w', d ≤ kk * (BD r + 2) ∧ lvR most es (tryC n T most (srch n T most (es.drop (k + 1))) e b P kk c) k P w w' d (fun f => f_X12_partsInto_L110 (f_X12_partsInto_L53 f) fu (nI most) (nI k) (nI (2 ^ e)) (nI c) w) := by
  have h16 := hg.1.2
  have hen : e < n := hes e (List.mem_of_getElem? he)
  intro kk
  induction kk with
  | zero =>
    intro c w fu hc hf hs h60 h59 h58
    obtain ⟨fu, rfl⟩ : ∃ q, fu = q + 1 := ⟨fu - 1, by omega⟩
    refine ⟨0, sI w 58 k (-1), by omega, fun q a _ _ => by funext j; rw [sI_at]; simp [a], rfl, fun j hj => by rw [sI_at, if_neg (fun z => by omega)], fun j _ => by rw [sI_at]; simp, Or.inr ⟨rfl, fun f => ?_, fun q hq => by rw [sI_at, if_neg (by rintro ⟨h, -⟩; revert h; decide)]; exact h59 q hq, fun j h1 h2 => ?_⟩⟩
    · show f_X12_partsInto_B110b (f_X12_partsInto_L53 f) (f_X12_partsInto_L110 (f_X12_partsInto_L53 f) fu) (nI most) (nI k) (nI (2 ^ e)) (nI c) w = _
      unfold f_X12_partsInto_B110b f_X12_partsInto_J149
      rw [if_pos (nI_le (a := most) (b := c) (by omega) (by omega)), if_pos (nI_le (a := most) (b := c) (by omega) (by omega)), m_wr (by omega) (by decide)]
    · rw [sI_at]
      by_cases q : j = k
      · subst q; simp
      · rw [if_neg (fun z => q z.2)]; exact h58 j (by omega) h2
  | succ kk ihk =>
    intro c w fu hc hf hs h60 h59 h58
    obtain ⟨fu, rfl⟩ : ∃ q, fu = q + 1 := ⟨fu - 1, by omega⟩
    simp only [tryC]
    by_cases dd : b < c ∨ most ≤ c
    · rw [if_pos dd]
      refine ⟨0, sI w 58 k (-1), by omega, fun q a _ _ => by funext j; rw [sI_at]; simp [a], rfl, fun j hj => by rw [sI_at, if_neg (fun z => by omega)], fun j _ => by rw [sI_at]; simp, Or.inr ⟨rfl, fun f => ?_, fun q hq => by rw [sI_at, if_neg (by rintro ⟨h, -⟩; revert h; decide)]; exact h59 q hq, fun j h1 h2 => ?_⟩⟩
      · show f_X12_partsInto_B110b (f_X12_partsInto_L53 f) (f_X12_partsInto_L110 (f_X12_partsInto_L53 f) fu) (nI most) (nI k) (nI (2 ^ e)) (nI c) w = _
        unfold f_X12_partsInto_B110b f_X12_partsInto_J149
        by_cases d2 : most ≤ c
        · rw [if_pos (nI_le d2 (by omega)), if_pos (nI_le d2 (by omega)), m_wr (by omega) (by decide)]
        · have hbc : b < c := by omega
          rw [if_neg (nI_ge (a := c) (b := most) (by omega) (by omega)), if_neg (nI_ge (a := c) (b := most) (by omega) (by omega)), m_rd (by omega) (by decide), m_rd (by omega) (by decide), h60, if_pos (nI_lt hbc (by omega)), if_neg (nI_ge hbc (by omega)), m_wr (by omega) (by decide)]
      · rw [sI_at]
        by_cases q : j = k
        · subst q; simp
        · rw [if_neg (fun z => q z.2)]; exact h58 j (by omega) h2
    · rw [if_neg dd]
      have hc16 : c < 16 := by omega
      have hPc := hP c
      have hPn : P c < 2 ^ n := Nat.lt_of_lt_of_le hPc (Nat.pow_le_pow_right (by decide) (by omega))
      have hPo := or2_lt hPn hen
      obtain ⟨b', hb'⟩ : ∃ b', b' = if b < c + 1 then c + 1 else b := ⟨_, rfl⟩
      have st : ∀ f, f_X12_partsInto_L110 (f_X12_partsInto_L53 f) (fu + 1) (nI most) (nI k) (nI (2 ^ e)) (nI c) w = if fr n T (P c ||| 2 ^ e) then f_X12_partsInto_L53 f (nI most) (nI (k + 1)) (sI (sI (sI w 58 k (nI c)) 59 c (nI (P c ||| 2 ^ e))) 60 (k + 1) (nI b')) else f_X12_partsInto_L110 (f_X12_partsInto_L53 f) fu (nI most) (nI k) (nI (2 ^ e)) (nI (c + 1)) w := by
        intro f
        show f_X12_partsInto_B110b (f_X12_partsInto_L53 f) (f_X12_partsInto_L110 (f_X12_partsInto_L53 f) fu) (nI most) (nI k) (nI (2 ^ e)) (nI c) w = _
        unfold f_X12_partsInto_B110b
        rw [if_neg (nI_ge (a := c) (b := most) (by omega) (by omega)), m_rd (by omega) (by decide), h60, if_neg (nI_nlt (a := b) (b := c) (by omega) (by omega)), m_rd hc16 (by decide), h59 c hc16, m_or, y_isFree hs.1 hg hPo, bnd_some, nI_1]
        cases q : fr n T (P c ||| 2 ^ e) with
        | false => rw [if_neg Bool.false_ne_true, if_pos rfl, if_neg Bool.false_ne_true]
        | true =>
          rw [if_pos rfl, if_neg one_ne, if_pos rfl]
          unfold f_X12_partsInto_J149
          rw [if_neg (nI_ge (a := c) (b := most) (by omega) (by omega)), m_rd (by omega) (by decide), h60, if_pos (nI_le (a := c) (b := b) (by omega) (by omega)), m_wr (by omega) (by decide), m_rd hc16 (by decide), sI_at, if_neg (by rintro ⟨h, -⟩; revert h; decide), h59 c hc16, m_or, m_wr hc16 (by decide), m_rd (by omega) (by decide), m_rd (by omega) (by decide), nI_1, m_wr (by omega) (by decide), m_wr (by omega) (by decide)]
          have e60 : (sI (sI w 58 k (nI c)) 59 c (nI (P c ||| 2 ^ e))).1 60 k = nI b := by rw [sI_at, if_neg (by rintro ⟨h, -⟩; revert h; decide), sI_at, if_neg (by rintro ⟨h, -⟩; revert h; decide), h60]
          rw [e60, nI_1]
          simp only [m_inj (show c < 2 ^ 31 by omega) (show b < 2 ^ 31 by omega)]
          by_cases cb : c = b
          · rw [if_pos cb, hb', if_pos (by omega)]
          · rw [if_neg cb, hb', if_neg (by omega)]
      cases q : fr n T (P c ||| 2 ^ e) with
      | false =>
        rw [if_neg Bool.false_ne_true]
        obtain ⟨d, w', h1, h2⟩ := ihk (c + 1) w fu (by omega) (by omega) hs h60 h59 h58
        refine ⟨d, w', by rw [Nat.succ_mul]; omega, ?_⟩
        simp only [st, q, Bool.false_eq_true, ↓reduceIte]
        exact h2
      | true =>
        rw [if_pos rfl]
        obtain ⟨w10, hw10⟩ : ∃ w10, w10 = sI (sI (sI w 58 k (nI c)) 59 c (nI (P c ||| 2 ^ e))) 60 (k + 1) (nI b') := ⟨_, rfl⟩
        have k10 : ∀ q, q ≠ 58 → q ≠ 59 → q ≠ 60 → w10.1 q = w.1 q := fun q a1 a2 a3 => by rw [hw10]; funext j; rw [sI_at, sI_at, sI_at]; simp [a1, a2, a3]
        have h58' : ∀ j, w10.1 58 j = if j = k then nI c else w.1 58 j := fun j => by
          rw [hw10, sI_at, if_neg (by rintro ⟨h, -⟩; revert h; decide), sI_at, if_neg (by rintro ⟨h, -⟩; revert h; decide), sI_at]
          by_cases r : j = k
          · subst r; simp
          · rw [if_neg (fun z => r z.2), if_neg r]
        have h59' : ∀ q, q < 16 → w10.1 59 q = nI (updN P c (P c ||| 2 ^ e) q) := fun q hq => by
          rw [hw10, sI_at, if_neg (by rintro ⟨h, -⟩; revert h; decide), sI_at]
          unfold updN
          by_cases r : q = c
          · subst r; simp
          · rw [if_neg (fun z => r z.2), if_neg r, sI_at, if_neg (by rintro ⟨h, -⟩; revert h; decide)]; exact h59 q hq
        have h60' : ∀ j, w10.1 60 j = if j = k + 1 then nI b' else w.1 60 j := fun j => by
          rw [hw10, sI_at]
          by_cases r : j = k + 1
          · subst r; simp
          · rw [if_neg (fun z => r z.2), if_neg r, sI_at, if_neg (by rintro ⟨h, -⟩; revert h; decide), sI_at, if_neg (by rintro ⟨h, -⟩; revert h; decide)]
        obtain ⟨d1, w2, g1, g2, g3, g4, g5, g6⟩ := ih (k + 1) b' (updN P c (P c ||| 2 ^ e)) w10 (by omega) (stY_cong hs k10) (by rw [h60', if_pos rfl]) (by rw [hb']; split <;> omega) (fun x hx q => by
            have hex := hso k e x he hx
            unfold updN
            split
            · exact or2_lt (Nat.lt_of_lt_of_le hPc (Nat.pow_le_pow_right (by decide) (by omega))) hex
            · exact Nat.lt_of_lt_of_le (hP q) (Nat.pow_le_pow_right (by decide) (by omega))) h59' (fun j h1 h2 => by rw [h58', if_neg (by omega)]; exact h58 j (by omega) h2)
        have k2 : ∀ q, q ≠ 58 → q ≠ 59 → q ≠ 60 → w2.1 q = w.1 q := fun q a1 a2 a3 => (g2 q a1 a2 a3).trans (k10 q a1 a2 a3)
        rw [← hb']
        rcases g6 with ⟨cs, s1, s2, s3⟩ | ⟨s1, s2, s3, s4⟩
        · rw [s1]
          refine ⟨d1, w2, by rw [Nat.succ_mul]; omega, k2, by rw [g3, hw10]; rfl, fun j hj => by rw [g4 j (by omega), h58', if_neg (by omega)], fun j hj => by rw [g5 j (by omega), h60', if_neg (by omega)], Or.inl ⟨c :: cs, rfl, fun f => ?_, fun j y hy => ?_⟩⟩
          · show f_X12_partsInto_L110 (f_X12_partsInto_L53 (f + d1)) (fu + 1) (nI most) (nI k) (nI (2 ^ e)) (nI c) w = _
            rw [st, q, if_pos rfl, ← hw10]
            exact s2 f
          · cases j with
            | zero =>
              simp only [List.getElem?_cons_zero, Option.some.injEq] at hy
              rw [Nat.add_zero, g4 k (by omega), h58', if_pos rfl, hy]
            | succ j =>
              rw [List.getElem?_cons_succ] at hy
              rw [show k + (j + 1) = k + 1 + j by omega]
              exact s3 j y hy
        · rw [s1]
          obtain ⟨w6, hw6⟩ : ∃ w6, w6 = sI w2 59 c (nI (P c)) := ⟨_, rfl⟩
          have k6 : ∀ q, q ≠ 59 → w6.1 q = w2.1 q := fun q a => by rw [hw6]; funext j; rw [sI_at]; simp [a]
          have h59'' : ∀ q, q < 16 → w6.1 59 q = nI (P q) := fun q hq => by
            rw [hw6, sI_at]
            by_cases r : q = c
            · subst r; simp
            · rw [if_neg (fun z => r z.2), s3 q hq]; unfold updN; rw [if_neg r]
          have hs2 := stY_cong hs k2
          have hs6 := stY_cong hs2 (w' := w6) (fun q a1 a2 a3 => k6 q a2)
          obtain ⟨d2, w', t1, t2, t3, t4, t5, t6⟩ := ihk (c + 1) w6 FU (by omega) (FU_big (by omega)) hs6 (by rw [k6 60 (by decide), g5 k (by omega), h60', if_neg (by omega)]; exact h60) h59'' (fun j h1 h2 => by rw [k6 58 (by decide)]; exact s4 j (by omega) h2)
          have run : ∀ f, f_X12_partsInto_L110 (f_X12_partsInto_L53 (f + (d2 + 1 + d1))) (fu + 1) (nI most) (nI k) (nI (2 ^ e)) (nI c) w = f_X12_partsInto_L110 (f_X12_partsInto_L53 (f + d2)) FU (nI most) (nI k) (nI (2 ^ e)) (nI (c + 1)) w6 := fun f => by
            have a1 := s2 (f + d2 + 1)
            dsimp only at a1
            rw [st, q, if_pos rfl, ← hw10, show f + (d2 + 1 + d1) = f + d2 + 1 + d1 by omega, a1, pk_m1]
            show f_X12_partsInto_B53b (f_X12_partsInto_L53 (f + d2)) (nI most) (nI k) w2 = _
            unfold f_X12_partsInto_B53b
            have e58 : w2.1 58 k = nI c := by rw [g4 k (by omega), h58', if_pos rfl]
            rw [if_neg (nI_pos (by omega)), hs2.2.1, if_neg (nI_ge (a := k) (by omega) (by omega)), m_rd (by omega) (by decide), hs2.2.2 k e he, m_rd (by omega) (by decide), e58, if_neg (nI_pos (by omega)), m_rd (by omega) (by decide), e58, m_rd hc16 (by decide), s3 c hc16, m_shl1 (by omega)]
            have e9 : nI (updN P c (P c ||| 2 ^ e) c) &&& (nI (2 ^ e) ^^^ (-1)) = nI (P c) := by
              unfold updN
              rw [if_pos rfl, m_compl (lt31 (le16 hPo h16)), or_back hPc]
            rw [e9, m_wr hc16 (by decide), ← hw6, m_rd (by omega) (by decide), k6 58 (by decide), e58, nI_1]
          refine ⟨d2 + 1 + d1, w', by rw [Nat.succ_mul]; omega, fun q a1 a2 a3 => by rw [t2 q a1 a2 a3, k6 q a2, k2 q a1 a2 a3], by rw [t3, hw6]; show w2.2 = _; rw [g3, hw10]; rfl, fun j hj => by rw [t4 j hj, k6 58 (by decide), g4 j (by omega), h58', if_neg (by omega)], fun j hj => by rw [t5 j hj, k6 60 (by decide), g5 j (by omega), h60', if_neg (by omega)], ?_⟩
          rcases t6 with ⟨cs, u1, u2, u3⟩ | ⟨u1, u2, u3, u4⟩
          · exact Or.inl ⟨cs, u1, fun f => (run f).trans (u2 f), u3⟩
          · exact Or.inr ⟨u1, fun f => (run f).trans (u2 f), u3, u4⟩
theorem y_lv (hg : Gp n T iv) {most : Nat} {es : List Nat} (hm : most ≤ 16) (hl : es.length ≤ 15) (hes : ∀ x, x ∈ es → x < n) (hso : ∀ (j x y : Nat), es[j]? = some x → es[j + 1]? = some y → x < y) : ∀ r, lvS n T iv most es r := by
  have h16 := hg.1.2
  intro r
  induction r with
  | zero => exact y_lv0 hl
  | succ r ih =>
    intro k b P w hk hs h60 hb hP h59 h58
    have hkl : k < es.length := by omega
    have he := List.getElem?_eq_getElem hkl
    have hen := hes _ (List.getElem_mem hkl)
    obtain ⟨d, w', h1, h2⟩ := y_G hg hm hl hes hso (r := r) (k := k) (by omega) ih he hb (hP _ he) 17 0 w FU (by omega) (FU_big (by decide)) hs h60 h59 (fun j a b => h58 j (by omega) b)
    have hdrop : es.drop k = es[k] :: es.drop (k + 1) := List.drop_eq_getElem_cons hkl
    rw [hdrop]
    simp only [srch]
    refine ⟨d + 1, w', by simp only [BD]; omega, ?_⟩
    have run : ∀ f, f_X12_partsInto_L53 (f + (d + 1)) (nI most) (nI k) w = f_X12_partsInto_L110 (f_X12_partsInto_L53 (f + d)) FU (nI most) (nI k) (nI (2 ^ es[k])) (nI 0) w := fun f => by
      show f_X12_partsInto_B53b (f_X12_partsInto_L53 (f + d)) (nI most) (nI k) w = _
      unfold f_X12_partsInto_B53b
      have e58 := h58 k (Nat.le_refl _) hkl
      rw [if_neg (nI_pos (by omega)), hs.2.1, if_neg (nI_ge hkl (by omega)), m_rd (by omega) (by decide), hs.2.2 k _ he, m_rd (by omega) (by decide), e58, if_pos (by decide), m_rd (by omega) (by decide), e58, m_shl1 (by omega)]
      rfl
    unfold lvR at h2 ⊢
    simp only [run]
    exact h2
theorem els_len {S : Nat} : (els n S 1).length ≤ n - 1 := by
  unfold els
  have := List.length_filter_le (fun x => S.testBit x) (List.range' 1 (n - 1))
  rw [List.length_range'] at this
  exact this
theorem els_so {S : Nat} : ∀ (j x y : Nat), (els n S 1)[j]? = some x → (els n S 1)[j + 1]? = some y → x < y := by
  intro j x y h1 h2
  have hp : (els n S 1).Pairwise (· < ·) := by
    unfold els
    exact List.Pairwise.filter _ List.pairwise_lt_range'
  obtain ⟨a1, a2⟩ := List.getElem?_eq_some_iff.mp h1
  obtain ⟨b1, b2⟩ := List.getElem?_eq_some_iff.mp h2
  have := List.pairwise_iff_getElem.mp hp j (j + 1) a1 b1 (by omega)
  rw [a2, b2] at this
  exact this
theorem y_into (hg : Gp n T iv) {most : Nat} (hm : most ≤ 16) {S : Nat} {w : Wd} (hs : stY n T iv (els n S 1) w) : ∃ w', f_X12_partsInto (nI most) w = some (if (srch n T most (els n S 1) 0 (fun _ => 0)).isSome then 1 else 0, w') ∧ (∀ q, q ≠ 58 → q ≠ 59 → q ≠ 60 → w'.1 q = w.1 q) ∧ w'.2 = w.2 ∧ ∀ cs, srch n T most (els n S 1) 0 (fun _ => 0) = some cs → ∀ (j c : Nat), cs[j]? = some c → w'.1 58 j = nI c := by
  have h16 := hg.1.2
  have hl := els_len (n := n) (S := S)
  obtain ⟨es, hes⟩ : ∃ es, es = els n S 1 := ⟨_, rfl⟩
  have hmem : ∀ x, x ∈ es → x < n := fun x hx => (els_mem.mp (hes ▸ hx)).2.1
  have hso : ∀ (j x y : Nat), es[j]? = some x → es[j + 1]? = some y → x < y := by rw [hes]; exact els_so
  rw [← hes] at hs hl ⊢
  unfold f_X12_partsInto
  have k1 := lrun (fun f i (s : Wd) => f_X12_partsInto_L2 f (nI most) (nI i) s) 16 (fun s => f_X12_partsInto_L23 FU (nI most) 0 s) (fun i s => (∀ q, q ≠ 58 → q ≠ 59 → q ≠ 60 → s.1 q = w.1 q) ∧ s.2 = w.2 ∧ ∀ j, j < i → s.1 59 j = 0) ?_ ?_ 16 0 w FU (by omega) (FU_big (by omega)) ⟨fun _ _ _ _ => rfl, rfl, fun j h => by omega⟩
  · obtain ⟨w1, ⟨a1, a2, a3⟩, a4⟩ := k1
    have k2 := lrun (fun f i (s : Wd) => f_X12_partsInto_L23 f (nI most) (nI i) s) es.length (fun s => f_X12_partsInto_L53 FU (nI most) 0 (sI s 60 0 0)) (fun i s => (∀ q, q ≠ 58 → q ≠ 59 → q ≠ 60 → s.1 q = w.1 q) ∧ s.2 = w.2 ∧ (∀ j, j < 16 → s.1 59 j = 0) ∧ ∀ j, j < i → s.1 58 j = -1) ?_ ?_ es.length 0 w1 FU (by omega) (FU_big (by omega)) ⟨a1, a2, a3, fun j h => by omega⟩
    · obtain ⟨w2, ⟨b1, b2, b3, b4⟩, b5⟩ := k2
      obtain ⟨w3, hw3⟩ : ∃ w3, w3 = sI w2 60 0 0 := ⟨_, rfl⟩
      have c1 : ∀ q, q ≠ 60 → w3.1 q = w2.1 q := fun q a => by rw [hw3]; funext j; rw [sI_at]; simp [a]
      obtain ⟨d, w', h1, h2, h3, h4, h5, h6⟩ := y_lv hg hm (by omega) hmem hso es.length 0 0 (fun _ => 0) w3 (by omega) (stY_cong hs (fun q a1 a2 a3 => (c1 q a3).trans (b1 q a1 a2 a3))) (by rw [hw3, sI_at]; simp; rfl) (by omega) (fun x _ q => Nat.two_pow_pos x) (fun q hq => by rw [c1 59 (by decide)]; exact b3 q hq) (fun j _ hj => by rw [c1 58 (by decide)]; exact b4 j hj)
      rw [List.drop_zero] at h6
      have hd : d + 1 ≤ FU := by
        have : BD es.length ≤ BD 15 := (by decide +kernel : ∀ q, q < 16 → BD q ≤ BD 15) es.length (by omega)
        have h2 : BD 15 + 1 ≤ 10 ^ 30 := by decide +kernel
        have := FU_big (n := 10 ^ 30 - 1) (by decide)
        omega
      obtain ⟨f0, hf0⟩ : ∃ f0, FU = f0 + 1 + d := ⟨FU - 1 - d, by omega⟩
      refine ⟨w', ?_, fun q a1 a2 a3 => by rw [h2 q a1 a2 a3, c1 q a3, b1 q a1 a2 a3], by rw [h3, hw3]; exact b2, ?_⟩
      · refine a4.trans (b5.trans ?_)
        rw [← hw3]
        show f_X12_partsInto_L53 FU (nI most) (nI 0) w3 = _
        rw [hf0]
        rcases h6 with ⟨cs, s1, s2, s3⟩ | ⟨s1, s2, s3, s4⟩
        · rw [s1]; exact s2 (f0 + 1)
        · rw [s1]
          refine (s2 (f0 + 1)).trans ?_
          show f_X12_partsInto_B53b (f_X12_partsInto_L53 f0) (nI most) (-1) w' = _
          unfold f_X12_partsInto_B53b
          rw [if_pos (by decide), h2 44 (by decide) (by decide) (by decide), c1 44 (by decide), b1 44 (by decide) (by decide) (by decide), hs.2.1, if_pos]
          · rfl
          · exact Int32.lt_of_lt_of_le (by decide : (-1 : Int32) < 0) (nI_pos' (by omega))
      · intro cs hcs j c hj
        rcases h6 with ⟨cs', s1, s2, s3⟩ | ⟨s1, s2, s3, s4⟩
        · rw [hcs] at s1
          rw [← Option.some.inj s1] at s3
          have := s3 j c hj
          rw [Nat.zero_add] at this; exact this
        · rw [hcs] at s1; cases s1
    · rintro i s hi ⟨b1, b2, b3, b4⟩
      refine ⟨sI s 58 i (-1), ⟨fun q a1 a2 a3 => by rw [← b1 q a1 a2 a3]; funext j; rw [sI_at]; simp [a1], b2, fun j hj => by rw [sI_at, if_neg (by rintro ⟨h, -⟩; revert h; decide)]; exact b3 j hj, fun j hj => ?_⟩, fun f => ?_⟩
      · rw [sI_at]
        split
        · rfl
        · next q => exact b4 j (by omega)
      · show f_X12_partsInto_B23b (f_X12_partsInto_L23 f) (nI most) (nI i) s = _
        unfold f_X12_partsInto_B23b
        rw [b1 44 (by decide) (by decide) (by decide), hs.2.1, if_neg (nI_ge hi (by omega)), m_wr (by omega) (by decide), nI_1]
    · rintro f s ⟨b1, b2, b3, b4⟩
      show f_X12_partsInto_B23b (f_X12_partsInto_L23 f) (nI most) (nI es.length) s = _
      unfold f_X12_partsInto_B23b
      rw [b1 44 (by decide) (by decide) (by decide), hs.2.1, if_pos (nI_le (Nat.le_refl _) (by omega))]
      show wrI s 60 17 (nI 0) 0 _ = _
      rw [m_wr (by decide) (by decide)]
  · rintro i s hi ⟨b1, b2, b3⟩
    refine ⟨sI s 59 i 0, ⟨fun q a1 a2 a3 => by rw [← b1 q a1 a2 a3]; funext j; rw [sI_at]; simp [a2], b2, fun j hj => ?_⟩, fun f => ?_⟩
    · rw [sI_at]
      split
      · rfl
      · next q => exact b3 j (by omega)
    · show f_X12_partsInto_B2b (f_X12_partsInto_L2 f) (nI most) (nI i) s = _
      unfold f_X12_partsInto_B2b
      rw [if_neg (show ¬ (16 : Int32) ≤ nI i from nI_ge (b := 16) hi (by decide)), m_wr hi (by decide), nI_1]
  · rintro f s _
    show f_X12_partsInto_B2b (f_X12_partsInto_L2 f) (nI most) (nI 16) s = _
    unfold f_X12_partsInto_B2b
    rw [if_pos (show (16 : Int32) ≤ nI 16 from nI_le (a := 16) (by decide) (by decide))]
end COL2
