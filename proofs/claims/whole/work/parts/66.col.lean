/-! the fewest free sets into which a set parts: one search, on both sides -/
def updN (P : Nat → Nat) (c x : Nat) : Nat → Nat := fun j => if j = c then x else P j
def tryC (n : Nat) (T : Nat → Nat → Nat) (most : Nat) (rc : Nat → (Nat → Nat) → Option (List Nat)) (e b : Nat) (P : Nat → Nat) : Nat → Nat → Option (List Nat)
  | 0, _ => none
  | k + 1, c => if b < c ∨ most ≤ c then none else if fr n T (P c ||| 2 ^ e) then (match rc (if b < c + 1 then c + 1 else b) (updN P c (P c ||| 2 ^ e)) with
    | some cs => some (c :: cs)
    | none => tryC n T most rc e b P k (c + 1)) else tryC n T most rc e b P k (c + 1)
def srch (n : Nat) (T : Nat → Nat → Nat) (most : Nat) : List Nat → Nat → (Nat → Nat) → Option (List Nat)
  | [], _, _ => some []
  | e :: es, b, P => tryC n T most (srch n T most es) e b P 17 0
def els (n S e : Nat) : List Nat := (List.range' e (n - e)).filter (fun x => S.testBit x)
section COL
variable {n : Nat} {T : Nat → Nat → Nat} {iv : Nat → Nat}
theorem els_nil {S : Nat} : els n S n = [] := by unfold els; rw [Nat.sub_self]; rfl
theorem els_cons {S e : Nat} (he : e < n) : els n S e = if S.testBit e then e :: els n S (e + 1) else els n S (e + 1) := by
  unfold els
  rw [show n - e = (n - (e + 1)) + 1 by omega, List.range'_succ, List.filter_cons]
theorem els_mem {S e x : Nat} : x ∈ els n S e ↔ e ≤ x ∧ x < n ∧ S.testBit x = true := by
  unfold els
  rw [List.mem_filter, List.mem_range'_1]
  constructor
  · rintro ⟨⟨h1, h2⟩, h3⟩; exact ⟨h1, by omega, h3⟩
  · rintro ⟨h1, h2, h3⟩; exact ⟨⟨h1, by omega⟩, h3⟩
def pOk (n : Nat) (T : Nat → Nat → Nat) (e : Nat) (P : Nat → Nat) : Prop := ∀ c, P c < 2 ^ e ∧ fr n T (P c) = true
theorem pOk_step {e c : Nat} {P : Nat → Nat} (h : pOk n T e P) (hf : fr n T (P c ||| 2 ^ e) = true) : pOk n T (e + 1) (updN P c (P c ||| 2 ^ e)) := by
  intro q
  have hq := h q
  have hc := h c
  unfold updN
  split
  · exact ⟨or2_lt (Nat.lt_of_lt_of_le hc.1 (Nat.pow_le_pow_right (by decide) (by omega))) (by omega), hf⟩
  · exact ⟨Nat.lt_of_lt_of_le hq.1 (Nat.pow_le_pow_right (by decide) (by omega)), hq.2⟩
theorem pOk_mono {e : Nat} {P : Nat → Nat} (h : pOk n T e P) : pOk n T (e + 1) P := fun q => ⟨Nat.lt_of_lt_of_le (h q).1 (Nat.pow_le_pow_right (by decide) (by omega)), (h q).2⟩
theorem or_back {A e : Nat} (h : A < 2 ^ e) : (A ||| 2 ^ e) ^^^ ((A ||| 2 ^ e) &&& 2 ^ e) = A := by
  apply ext_bit
  intro x
  rw [dif_bit, sb_or, Nat.testBit_two_pow]
  constructor
  · rintro ⟨a | a, b⟩
    · exact a
    · subst a; simp at b
  · intro a
    have := bit_lt h a
    exact ⟨Or.inl a, by simp; omega⟩
/-- what the class's search does -/
def colR (n : Nat) (T : Nat → Nat → Nat) (o : Option (List Nat)) (es : List Nat) (e : Nat) (P : Nat → Nat) (w w' : Wd) (r : Option (Int32 × Wd)) : Prop :=
  (∀ k, k ≠ 22 → k ≠ 23 → w'.1 k = w.1 k) ∧ w'.2 = w.2 ∧ (∀ x, x < e → w'.1 23 x = w.1 23 x) ∧
  ((∃ cs, o = some cs ∧ r = some (1, w') ∧ cs.length = es.length ∧ ∀ (j x c : Nat), es[j]? = some x → cs[j]? = some c → w'.1 23 x = nI c) ∨
   (o = none ∧ r = some (0, w') ∧ ∀ c, c < 16 → w'.1 22 c = nI (P c)))
theorem x_col (hg : Gp n T iv) {S most : Nat} (hS : S < 2 ^ n) (hm : most ≤ 16) : ∀ m e b P w fu, e + m = n → 1 ≤ e → m < fu → b ≤ 16 → GX w n T iv → w.1 21 4 = nI most → pOk n T e P → (∀ c, c < 16 → w.1 22 c = nI (P c)) → ∃ w', colR n T (srch n T most (els n S e) b P) (els n S e) e P w w' (f_X2_goesOn fu (nI e) (nI b) (nI S) w) := by
  have h16 := hg.1.2
  have h31 := lt31 (le16 hS h16)
  intro m
  induction m with
  | zero =>
    intro e b P w fu he h1 hf hb hG hmo hP hw
    obtain ⟨fu, rfl⟩ : ∃ q, fu = q + 1 := ⟨fu - 1, by omega⟩
    have he' : e = n := by omega
    subst he'
    rw [els_nil]
    refine ⟨w, fun _ _ _ => rfl, rfl, fun _ _ => rfl, Or.inl ⟨[], rfl, ?_, rfl, fun j x c h => by simp at h⟩⟩
    show f_X2_goesOnb (f_X2_goesOn fu) (nI e) (nI b) (nI S) w = _
    unfold f_X2_goesOnb
    rw [hG.1, if_pos (nI_le (Nat.le_refl _) (by omega))]
  | succ m ih =>
    intro e b P w fu he h1 hf hb hG hmo hP hw
    obtain ⟨fu, rfl⟩ : ∃ q, fu = q + 1 := ⟨fu - 1, by omega⟩
    have hen : e < n := by omega
    rw [els_cons hen]
    have eB : ∀ r, f_X2_goesOnb (f_X2_goesOn fu) (nI e) (nI b) (nI S) w = r → f_X2_goesOn (fu + 1) (nI e) (nI b) (nI S) w = r := fun r h => h
    by_cases hb' : S.testBit e = true
    · rw [if_pos hb']
      simp only [srch]
      have key : ∀ k c w f, k + c = 17 → k < f → GX w n T iv → w.1 21 4 = nI most → (∀ c, c < 16 → w.1 22 c = nI (P c)) → ∃ w', colR n T (tryC n T most (srch n T most (els n S (e + 1))) e b P k c) (e :: els n S (e + 1)) e P w w' (f_X2_goesOn_L40 (f_X2_goesOn fu) f (nI e) (nI b) (nI S) (nI c) w) := by
        intro k
        induction k with
        | zero =>
          intro c w f hc hf2 hG hmo hw
          obtain ⟨f, rfl⟩ : ∃ q, f = q + 1 := ⟨f - 1, by omega⟩
          refine ⟨w, fun _ _ _ => rfl, rfl, fun _ _ => rfl, Or.inr ⟨rfl, ?_, hw⟩⟩
          show f_X2_goesOn_B40b (f_X2_goesOn fu) (f_X2_goesOn_L40 (f_X2_goesOn fu) f) (nI e) (nI b) (nI S) (nI c) w = _
          unfold f_X2_goesOn_B40b
          rw [if_pos (nI_lt (a := b) (b := c) (by omega) (by omega))]
        | succ k ihk =>
          intro c w f hc hf2 hG hmo hw
          obtain ⟨f, rfl⟩ : ∃ q, f = q + 1 := ⟨f - 1, by omega⟩
          simp only [tryC]
          have eL : ∀ r, f_X2_goesOn_B40b (f_X2_goesOn fu) (f_X2_goesOn_L40 (f_X2_goesOn fu) f) (nI e) (nI b) (nI S) (nI c) w = r → f_X2_goesOn_L40 (f_X2_goesOn fu) (f + 1) (nI e) (nI b) (nI S) (nI c) w = r := fun r h => h
          by_cases d : b < c ∨ most ≤ c
          · rw [if_pos d]
            refine ⟨w, fun _ _ _ => rfl, rfl, fun _ _ => rfl, Or.inr ⟨rfl, eL _ ?_, hw⟩⟩
            unfold f_X2_goesOn_B40b
            rcases d with d | d
            · rw [if_pos (nI_lt d (by omega))]
            · rw [hmo, if_pos (nI_le d (by omega))]
              split <;> rfl
          · rw [if_neg d]
            have hPc := hP c
            have hPn : P c < 2 ^ n := Nat.lt_of_lt_of_le hPc.1 (Nat.pow_le_pow_right (by decide) (by omega))
            have hc16 : c < 16 := by omega
            have st : f_X2_goesOn_L40 (f_X2_goesOn fu) (f + 1) (nI e) (nI b) (nI S) (nI c) w = (if fr n T (P c ||| 2 ^ e) then
                bnd2 (f_X2_goesOn fu (nI (e + 1)) (nI (if b < c + 1 then c + 1 else b)) (nI S) (sI (sI w 22 c (nI (P c ||| 2 ^ e))) 23 e (nI c))) (fun x6 w7 => if x6 = 0 then rdI w7 22 16 (nI c) fun x8 => wrI w7 22 16 (nI c) (x8 &&& ((1 <<< (nI e &&& 31)) ^^^ (-1))) fun w9 => f_X2_goesOn_L40 (f_X2_goesOn fu) f (nI e) (nI b) (nI S) (nI (c + 1)) w9 else some (1, w7))
                else f_X2_goesOn_L40 (f_X2_goesOn fu) f (nI e) (nI b) (nI S) (nI (c + 1)) w) := by
              apply eL
              unfold f_X2_goesOn_B40b
              rw [if_neg (nI_nlt (a := b) (b := c) (by omega) (by omega)), hmo, if_neg (nI_ge (a := c) (b := most) (by omega) (by omega)), m_rd hc16 (by decide), hw c hc16, x_stays hG hg (le16 hPn h16) hen hPc.2, bnd_some, nI_1]
              cases q : fr n T (P c ||| 2 ^ e) with
              | false => rw [if_neg Bool.false_ne_true, if_pos rfl, if_neg Bool.false_ne_true]
              | true =>
                rw [if_pos rfl, if_neg one_ne, if_pos rfl, m_rd hc16 (by decide), hw c hc16, m_shl1 (by omega), m_or, m_wr hc16 (by decide), m_wr (by omega) (by decide), nI_1]
                have emax : (if nI b < nI (c + 1) then nI (c + 1) else nI b) = nI (if b < c + 1 then c + 1 else b) := by
                  simp only [m_lt (show b < 2 ^ 31 by omega) (show c + 1 < 2 ^ 31 by omega)]
                  split <;> rfl
                rw [emax]
            rw [st]
            cases q : fr n T (P c ||| 2 ^ e) with
            | false =>
              rw [if_neg Bool.false_ne_true, if_neg Bool.false_ne_true]
              exact ihk (c + 1) w f (by omega) (by omega) hG hmo hw
            | true =>
              rw [if_pos rfl, if_pos rfl]
              obtain ⟨w5, hw5⟩ : ∃ w5, w5 = sI (sI w 22 c (nI (P c ||| 2 ^ e))) 23 e (nI c) := ⟨_, rfl⟩
              have k5 : ∀ k, k ≠ 22 → k ≠ 23 → w5.1 k = w.1 k := fun k a b => by rw [hw5]; funext j; rw [sI_at, sI_at]; simp [a, b]
              have h22 : ∀ q, q < 16 → w5.1 22 q = nI (updN P c (P c ||| 2 ^ e) q) := fun q hq => by
                rw [hw5, sI_at, if_neg (by rintro ⟨h, -⟩; revert h; decide), sI_at]
                unfold updN
                by_cases r : q = c
                · subst r; simp
                · rw [if_neg (fun z => r z.2), if_neg r]; exact hw q hq
              have h23 : ∀ x, w5.1 23 x = if x = e then nI c else w.1 23 x := fun x => by
                rw [hw5, sI_at]
                by_cases r : x = e
                · subst r; simp
                · rw [if_neg (fun z => r z.2), if_neg r, sI_at, if_neg (by rintro ⟨h, -⟩; revert h; decide)]
              rw [← hw5]
              obtain ⟨w7, r1, r2, r3, r4⟩ := ih (e + 1) (if b < c + 1 then c + 1 else b) (updN P c (P c ||| 2 ^ e)) w5 fu (by omega) (by omega) (by omega) (by split <;> omega) (GX_cong hG (k5 6 (by decide) (by decide)) (k5 9 (by decide) (by decide)) (k5 10 (by decide) (by decide))) (by rw [k5 21 (by decide) (by decide)]; exact hmo) (pOk_step hP q) h22
              rcases r4 with ⟨cs, s1, s2, s3, s4⟩ | ⟨s1, s2, s3⟩
              · rw [s1, s2, bnd2_some, if_neg one_ne]
                refine ⟨w7, fun k a b => (r1 k a b).trans (k5 k a b), by rw [r2, hw5]; rfl, fun x hx => ?_, Or.inl ⟨c :: cs, rfl, rfl, by simp [s3], fun j x y hx hy => ?_⟩⟩
                · rw [r3 x (by omega), h23, if_neg (by omega)]
                · cases j with
                  | zero =>
                    simp only [List.getElem?_cons_zero, Option.some.injEq] at hx hy
                    rw [← hx, ← hy, r3 e (by omega), h23, if_pos rfl]
                  | succ j =>
                    rw [List.getElem?_cons_succ] at hx hy
                    exact s4 j x y hx hy
              · rw [s1, s2, bnd2_some, if_pos rfl, m_rd hc16 (by decide), m_wr hc16 (by decide), s3 c hc16]
                have e9 : nI (updN P c (P c ||| 2 ^ e) c) &&& ((1 <<< (nI e &&& 31)) ^^^ (-1)) = nI (P c) := by
                  unfold updN
                  rw [if_pos rfl, m_shl1 (by omega), m_compl (lt31 (le16 (or2_lt hPn hen) h16)), or_back hPc.1]
                rw [e9]
                obtain ⟨w9, hw9⟩ : ∃ w9, w9 = sI w7 22 c (nI (P c)) := ⟨_, rfl⟩
                have k9 : ∀ k, k ≠ 22 → w9.1 k = w7.1 k := fun k a => by rw [hw9]; funext j; rw [sI_at]; simp [a]
                have h22' : ∀ q, q < 16 → w9.1 22 q = nI (P q) := fun q hq => by
                  rw [hw9, sI_at]
                  by_cases r : q = c
                  · subst r; simp
                  · rw [if_neg (fun z => r z.2), s3 q hq]; unfold updN; rw [if_neg r]
                rw [← hw9]
                obtain ⟨w', t1, t2, t3, t4⟩ := ihk (c + 1) w9 f (by omega) (by omega) (GX_cong hG (by rw [k9 6 (by decide), r1 6 (by decide) (by decide), k5 6 (by decide) (by decide)]) (by rw [k9 9 (by decide), r1 9 (by decide) (by decide), k5 9 (by decide) (by decide)]) (by rw [k9 10 (by decide), r1 10 (by decide) (by decide), k5 10 (by decide) (by decide)])) (by rw [k9 21 (by decide), r1 21 (by decide) (by decide), k5 21 (by decide) (by decide)]; exact hmo) h22'
                refine ⟨w', fun k a b => by rw [t1 k a b, k9 k a, r1 k a b, k5 k a b], by rw [t2, hw9]; show w7.2 = _; rw [r2, hw5]; rfl, fun x hx => by rw [t3 x hx, k9 23 (by decide), r3 x (by omega), h23, if_neg (by omega)], t4⟩
      obtain ⟨w', r⟩ := key 17 0 w FU (by omega) (FU_big (by decide)) hG hmo hw
      refine ⟨w', ?_⟩
      have eS : f_X2_goesOn (fu + 1) (nI e) (nI b) (nI S) w = f_X2_goesOn_L40 (f_X2_goesOn fu) FU (nI e) (nI b) (nI S) (nI 0) w := by
        apply eB
        unfold f_X2_goesOnb
        rw [hG.1, if_neg (nI_ge hen (by omega)), if_pos (show nI e < (16 : Int32) from nI_lt (b := 16) (by omega) (by decide)), if_neg (by rw [x_bit0 h31 (by omega), hb']; decide)]
        rfl
      rw [eS]; exact r
    · rw [if_neg hb']
      obtain ⟨w', r1, r2, r3, r4⟩ := ih (e + 1) b P w fu (by omega) (by omega) (by omega) hb hG hmo (pOk_mono hP) hw
      have eS : ∀ x, (x = 0 ∨ x = 1) → f_X2_goesOn fu (nI (e + 1)) (nI b) (nI S) w = some (x, w') → f_X2_goesOn (fu + 1) (nI e) (nI b) (nI S) w = some (x, w') := fun x hx h => by
        apply eB
        unfold f_X2_goesOnb
        rw [hG.1, if_neg (nI_ge hen (by omega)), if_pos (show nI e < (16 : Int32) from nI_lt (b := 16) (by omega) (by decide)), if_pos (by rw [x_bit0 h31 (by omega)]; simpa using hb'), nI_1, h, bnd2_some]
        unfold chB
        rw [if_pos hx]
      refine ⟨w', r1, r2, fun x hx => r3 x (by omega), ?_⟩
      rcases r4 with ⟨cs, s1, s2, s3, s4⟩ | ⟨s1, s2, s3⟩
      · exact Or.inl ⟨cs, s1, eS 1 (Or.inr rfl) s2, s3, s4⟩
      · exact Or.inr ⟨s1, eS 0 (Or.inl rfl) s2, s3⟩
/-- with so many as there are elements, one is found -/
theorem srch_some (hg : Gp n T iv) : ∀ es b P most, (∀ e, e ∈ es → 0 < e ∧ e < n) → b + es.length ≤ most → most ≤ 16 → (∀ c, b ≤ c → P c = 0) → ∃ cs, srch n T most es b P = some cs := by
  intro es
  induction es with
  | nil => intro b P most _ _ _ _; exact ⟨[], rfl⟩
  | cons e es ih =>
    intro b P most he hm h16 hP
    simp only [srch]
    rw [List.length_cons] at hm
    have he0 := he e List.mem_cons_self
    have hfr : fr n T (2 ^ e) = true := by
      rw [fr_iff]
      intro a c ha hc h1 h2
      rw [← (two_bit e a).mp h1, ← (two_bit e c).mp h2]
      cases q : (2 ^ e).testBit (T e e) with
      | false => rfl
      | true =>
        have q := (two_bit e _).mp q
        have h0 := hg.2.2.1 e he0.2
        have := T_canL hg he0.2 he0.2 (show 0 < n by omega) (q.symm.trans h0.2.symm)
        omega
    have key : ∀ k c, k + c = 17 → c ≤ b → ∃ cs, tryC n T most (srch n T most es) e b P k c = some cs := by
      intro k
      induction k with
      | zero => intro c h1 h2; omega
      | succ k ihk =>
        intro c h1 h2
        simp only [tryC]
        rw [if_neg (by omega)]
        by_cases c1 : fr n T (P c ||| 2 ^ e) = true
        · rw [if_pos c1]
          cases q : srch n T most es (if b < c + 1 then c + 1 else b) (updN P c (P c ||| 2 ^ e)) with
          | some cs => exact ⟨c :: cs, rfl⟩
          | none =>
            rcases Nat.lt_or_ge c b with r | r
            · exact ihk (c + 1) (by omega) (by omega)
            · exfalso
              obtain ⟨cs, hcs⟩ := ih (if b < c + 1 then c + 1 else b) (updN P c (P c ||| 2 ^ e)) most (fun x hx => he x (List.mem_cons_of_mem _ hx)) (by rw [if_pos (by omega)]; omega) h16 (fun y hy => by
                rw [if_pos (by omega)] at hy
                unfold updN
                rw [if_neg (by omega)]
                exact hP y (by omega))
              rw [q] at hcs; cases hcs
        · rw [if_neg c1]
          rcases Nat.lt_or_ge c b with r | r
          · exact ihk (c + 1) (by omega) (by omega)
          · exfalso
            apply c1
            rw [hP c (by omega), Nat.zero_or]; exact hfr
    exact key 17 0 (by omega) (by omega)
end COL
