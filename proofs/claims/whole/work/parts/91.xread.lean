/-! the class reads what the text says -/
def kR (w w' : Wd) : Prop := (∀ k, k ≠ 3 → k ≠ 4 → k ≠ 5 → w'.1 k = w.1 k) ∧ w'.2 = w.2
theorem kR.rf (w : Wd) : kR w w := ⟨fun _ _ _ _ => rfl, rfl⟩
theorem kR.tr {a b c : Wd} (h : kR a b) (g : kR b c) : kR a c := ⟨fun k x y z => (g.1 k x y z).trans (h.1 k x y z), g.2.trans h.2⟩
theorem kR.st {w : Wd} {c : Nat} (hc : c = 3 ∨ c = 4 ∨ c = 5) (j : Nat) (x : Int32) : kR w (sI w c j x) := ⟨fun k x y z => sI_row _ _ _ _ (by omega), rfl⟩
theorem kR.tp {w w' : Wd} {L : Nat} {B : Nat → Nat} (h : kR w w') (ht : TPx w L B) : TPx w' L B := TPx_cong ht (by rw [h.1 1 (by decide) (by decide) (by decide)]) (h.1 2 (by decide) (by decide) (by decide))
section XREAD
variable {w : Wd} {L : Nat} {B : Nat → Nat}
theorem w37_k (w : Wd) (s d : Nat) : kR w (w37 w s d) := (kR.st (Or.inl rfl) _ _).tr ((kR.st (Or.inl rfl) _ _).tr (kR.st (Or.inl rfl) _ _))
theorem w37_at (w : Wd) (s d j : Nat) : (w37 w s d).1 3 j = if j = 6 then nI d else if j = 7 then nI s else w.1 3 j := by
  unfold w37
  rw [sI_at, sI_at, sI_at]
  by_cases c : j = 6
  · rw [if_pos ⟨rfl, c⟩, if_pos c]
  · rw [if_neg (fun z => c z.2), if_neg c]
    by_cases c2 : j = 7
    · rw [if_pos ⟨rfl, c2⟩, if_pos c2]
    · rw [if_neg (fun z => c2 z.2), if_neg c2, if_neg (fun z => c z.2)]
theorem w37_row (w : Wd) (s d k : Nat) (hk : k ≠ 3) : (w37 w s d).1 k = w.1 k := by
  unfold w37
  rw [sI_row _ _ _ _ hk, sI_row _ _ _ _ hk, sI_row _ _ _ _ hk]
/-- the class met a fault at place p -/
def FLT (w : Wd) (L p : Nat) : Prop := w.1 3 8 = nI p ∧ p ≤ 200 ∧ ∃ e, e ≤ L ∧ w.1 3 6 = nI e
def setO (w' : Wd) (L n : Nat) (c : Int32) : Nat ⊕ (Nat × Nat) → Prop
  | .inl p => FLT w' L p
  | .inr (p, R) => w'.1 3 8 = -1 ∧ w'.1 3 6 = nI p ∧ p ≤ L ∧ w'.1 3 5 = nI R ∧ w'.1 3 3 = c
theorem x_setL {n : Nat} (hn : 1 ≤ n) (hn16 : n ≤ 16) (c : Int32) : ∀ f' i e S (w : Wd) fu, TPx w L B → w.1 3 6 = nI e → w.1 3 8 = -1 → w.1 3 4 = nI n → w.1 3 5 = nI S → w.1 3 3 = c → S < 2 ^ n → i + f' = 201 → i ≤ e → e ≤ L → f' + 1 < fu → ∃ w', f_X7_readSet_L2 fu (nI i) w = some w' ∧ setO w' L n c (pset B L n f' e S) ∧ (∀ k, k ≠ 3 → w'.1 k = w.1 k) ∧ w'.2 = w.2 := by
  intro f'
  induction f' with
  | zero => intro i e S w fu h h6 h8 h4 h5 h3 hS hi hie heL hf; have := h.1; omega
  | succ f' ih =>
    intro i e S w fu h h6 h8 h4 h5 h3 hS hi hie heL hf
    have hL := h.1
    obtain ⟨fu, rfl⟩ : ∃ g, fu = g + 1 := ⟨fu - 1, by omega⟩
    have hS31 : S < 2 ^ 31 := Nat.lt_of_lt_of_le hS (Nat.pow_le_pow_right (by decide) (by omega))
    obtain ⟨s, hs⟩ : ∃ s, s = runL (cB B) L e := ⟨_, rfl⟩
    have hsl := runL_le (cB B) heL
    have eL : f_X7_readSet_L2 (fu + 1) (nI i) w = f_X7_readSet_B2b (f_X7_readSet_L2 fu) (nI i) w := rfl
    rw [eL]
    unfold f_X7_readSet_B2b
    rw [if_neg (show ¬ (200 : Int32) < nI i from fun z => by have := (m_lt (a := 200) (by decide) (by omega)).mp z; omega), if_pos h8, x_blanks h h6 heL, bnd_some, sI_same]
    simp only [pset]
    rw [← hs] at hsl ⊢
    have hT1 : TPx (sI w 3 6 (nI s)) L B := (kR.st (Or.inl rfl) _ _).tp h
    by_cases c1 : s < L ∧ B s = 59
    · rw [if_pos c1, x_byte hT1 c1.1, bnd_some, if_pos (show nI (B s) = 59 by rw [c1.2]; rfl), m_letW, nI_1, sI_sI]
      refine ⟨_, rfl, ⟨?_, sI_same _ _ _ _, by omega, ?_, ?_⟩, fun k hk => sI_row _ _ _ _ hk, rfl⟩
      · rw [sI_at, if_neg (fun z => by omega)]; exact h8
      · rw [sI_at, if_neg (fun z => by omega)]; exact h5
      · rw [sI_at, if_neg (fun z => by omega)]; exact h3
    · rw [if_neg c1]
      have e2 : ∃ x, f_X9_byteAt (nI s) (sI w 3 6 (nI s)) = some x ∧ ¬ x = 59 := by
        by_cases c2 : s < L
        · exact ⟨_, x_byte hT1 c2, fun z => c1 ⟨c2, (by32 (h.2.2.2 s) 59 (by decide)).mp z⟩⟩
        · exact ⟨_, x_byteE hT1 (by omega) (by omega), by decide⟩
      obtain ⟨x, e2, e3⟩ := e2
      rw [e2, bnd_some, if_neg e3, m_letW, sI_sI, sI_id rfl, h4, show nI n - 1 = nI (n - 1) from pk_sub (b := 1) hn]
      have hrn := x_rnum h (lo := 0) (hi := n - 1) h6 heL (by decide) (by omega)
      rw [← hs] at hrn
      have hrn : f_X7_readNumber 0 (nI (n - 1)) w = _ := hrn
      cases hp : pnum B L e 0 (n - 1) with
      | none =>
        rw [hp] at hrn
        dsimp only at hrn ⊢
        rw [hrn]
        obtain ⟨w5, hw5⟩ : ∃ w5, w5 = sI (w37 w s (runL (cD B) L s)) 3 8 (nI s) := ⟨_, rfl⟩
        rw [← hw5]
        have e8 : w5.1 3 8 = nI s := by rw [hw5, sI_same]
        have hne := nI_ne1 (S := s) (by omega)
        refine ⟨w5, ?_, ⟨e8, by omega, runL (cD B) L s, (runL_le (cD B) hsl.2).2, ?_⟩, fun k hk => ?_, ?_⟩
        · show (if w5.1 3 8 = -1 then _ else f_X7_readSet_J97 (f_X7_readSet_L2 fu) (nI i) (-1) w5) = _
          rw [e8, if_neg hne]
          unfold f_X7_readSet_J97
          rw [e8, if_neg hne, nI_1]
          obtain ⟨fu, rfl⟩ : ∃ g, fu = g + 1 := ⟨fu - 1, by omega⟩
          show f_X7_readSet_B2b (f_X7_readSet_L2 fu) (nI (i + 1)) w5 = _
          unfold f_X7_readSet_B2b
          rw [e8, if_neg hne]
          split <;> rfl
        · rw [hw5, sI_at, if_neg (fun z => by omega), w37_at, if_pos rfl]
        · rw [hw5, sI_row _ _ _ _ hk, w37_row _ _ _ _ hk]
        · rw [hw5]; rfl
      | some vd =>
        obtain ⟨v, d⟩ := vd
        obtain ⟨p1, p2, p3, p4, p5, p6, p7⟩ := pnum_lo hp
        rw [hp] at hrn
        dsimp only at hrn ⊢
        rw [hrn]
        rw [← hs] at p3 p5 p6
        have hdl := runL_le (cD B) hsl.2
        rw [← p3] at hdl
        obtain ⟨w5, hw5⟩ : ∃ w5, w5 = w37 w s d := ⟨_, rfl⟩
        rw [← hw5]
        have a8 : w5.1 3 8 = -1 := by rw [hw5, w37_at, if_neg (by decide), if_neg (by decide)]; exact h8
        have a5 : w5.1 3 5 = nI S := by rw [hw5, w37_at, if_neg (by decide), if_neg (by decide)]; exact h5
        have a7 : w5.1 3 7 = nI s := by rw [hw5, w37_at, if_neg (by decide), if_pos rfl]
        have a6 : w5.1 3 6 = nI d := by rw [hw5, w37_at, if_pos rfl]
        have ak : ∀ k, k ≠ 3 → w5.1 k = w.1 k := fun k hk => by rw [hw5, w37_row _ _ _ _ hk]
        have a2 : w5.2 = w.2 := by rw [hw5]; rfl
        by_cases cb : S.testBit v = true
        · rw [if_pos cb]
          obtain ⟨w6, hw6⟩ : ∃ w6, w6 = sI w5 3 8 (nI s) := ⟨_, rfl⟩
          have e8 : w6.1 3 8 = nI s := by rw [hw6, sI_same]
          have hne := nI_ne1 (S := s) (by omega)
          refine ⟨w6, ?_, ⟨e8, by omega, d, hdl.2, ?_⟩, fun k hk => ?_, ?_⟩
          · show (if w5.1 3 8 = -1 then (if ((w5.1 3 5 >>> (nI v &&& 31)) &&& 1) = 0 then f_X7_readSet_J97 (f_X7_readSet_L2 fu) (nI i) (nI v) w5 else letW (sI w5 3 8 (w5.1 3 7)) fun w6 => f_X7_readSet_J97 (f_X7_readSet_L2 fu) (nI i) (nI v) w6) else _) = _
            rw [if_pos a8, a5, if_neg (by rw [x_bit0 hS31 (by omega), cb]; decide), m_letW, a7, ← hw6]
            unfold f_X7_readSet_J97
            rw [e8, if_neg hne, nI_1]
            obtain ⟨fu, rfl⟩ : ∃ g, fu = g + 1 := ⟨fu - 1, by omega⟩
            show f_X7_readSet_B2b (f_X7_readSet_L2 fu) (nI (i + 1)) w6 = _
            unfold f_X7_readSet_B2b
            rw [e8, if_neg hne]
            split <;> rfl
          · rw [hw6, sI_at, if_neg (fun z => by omega)]; exact a6
          · rw [hw6, sI_row _ _ _ _ hk]; exact ak k hk
          · rw [hw6]; exact a2
        · have cb' : S.testBit v = false := by simpa using cb
          rw [if_neg cb]
          obtain ⟨w6, hw6⟩ : ∃ w6, w6 = sI w5 3 5 (nI (S ||| 2 ^ v)) := ⟨_, rfl⟩
          have hk6 : kR w w6 := by rw [hw6, hw5]; exact (w37_k w s d).tr (kR.st (Or.inl rfl) _ _)
          obtain ⟨w', g1, g2, g3, g4⟩ := ih (i + 1) d (S ||| 2 ^ v) w6 fu (hk6.tp h) (by rw [hw6, sI_at, if_neg (fun z => by omega)]; exact a6) (by rw [hw6, sI_at, if_neg (fun z => by omega)]; exact a8) (by rw [hw6, sI_at, if_neg (fun z => by omega), hw5, w37_at, if_neg (by decide), if_neg (by decide)]; exact h4) (by rw [hw6, sI_same]) (by rw [hw6, sI_at, if_neg (fun z => by omega), hw5, w37_at, if_neg (by decide), if_neg (by decide)]; exact h3) (Nat.or_lt_two_pow hS (Nat.pow_lt_pow_right (by decide) (by omega))) (by omega) (by omega) hdl.2 (by omega)
          refine ⟨w', ?_, g2, fun k hk => ?_, ?_⟩
          · show (if w5.1 3 8 = -1 then (if ((w5.1 3 5 >>> (nI v &&& 31)) &&& 1) = 0 then f_X7_readSet_J97 (f_X7_readSet_L2 fu) (nI i) (nI v) w5 else letW (sI w5 3 8 (w5.1 3 7)) fun w6 => f_X7_readSet_J97 (f_X7_readSet_L2 fu) (nI i) (nI v) w6) else _) = _
            rw [if_pos a8, a5, if_pos ((x_bit0 hS31 (by omega)).mpr cb')]
            unfold f_X7_readSet_J97
            rw [if_pos a8, a5, m_shl1 (by omega), m_or, m_letW, ← hw6, nI_1]
            exact g1
          · rw [g3 k hk, hw6, sI_row _ _ _ _ hk]; exact ak k hk
          · rw [g4, hw6]; exact a2
end XREAD
