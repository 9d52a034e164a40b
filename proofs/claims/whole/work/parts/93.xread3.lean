/-! the class reads the tape -/
section XREAD3
variable {w : Wd} {L : Nat} {B : Nat → Nat}
def rdO (r : Int32) (w' : Wd) : Nat ⊕ (List (Nat × Nat) × Nat) → Prop
  | .inl p => r = nI p ∧ p ≤ 200
  | .inr (gs, S) => r = -1 ∧ FCr w' gs ∧ w'.1 3 5 = nI S
theorem pstp_0 (B : Nat → Nat) (L d : Nat) : pstp B L d = match pst0 B L d with
    | .inr q => .inr (runL (cB B) L q)
    | .inl p => .inl p := by
  unfold pstp pst0
  split <;> rfl
theorem x_stops {p : Nat} (h : w.1 3 8 = nI p) (hp : p ≤ 200) (fu : Nat) (x l : Int32) : f_X7_readTape_L33 (fu + 1) x l w = some (nI p, w) := by
  show f_X7_readTape_B33b (f_X7_readTape_L33 fu) x l w = _
  unfold f_X7_readTape_B33b
  rw [h, if_neg (nI_ne1 (by omega))]
  split
  · rfl
  · split <;> rfl
theorem x_fault {p : Nat} (h : FLT w L p) (ht : TPx w L B) (fu : Nat) (x l : Int32) : ∃ w', (bnd (f_X7_skipBlanks w) fun w3 => f_X7_readTape_L33 (fu + 1) x l w3) = some (nI p, w') ∧ kR w w' ∧ p ≤ 200 := by
  obtain ⟨h8, hp, e, he, h6⟩ := h
  rw [x_blanks ht h6 he, bnd_some]
  refine ⟨_, x_stops ?_ hp fu x l, kR.st (Or.inl rfl) _ _, hp⟩
  rw [sI_at, if_neg (fun z => by omega)]; exact h8
theorem x_tape : ∀ f' i q fs (w : Wd) fu, XR w L B q fs → FAM fs → i + f' = 201 → i ≤ q → q ≤ L → f' + 2 < fu → ∃ r w', f_X7_readTape_L33 fu 0 (nI i) w = some (r, w') ∧ kR w w' ∧ rdO r w' (pread B L f' q fs) := by
  intro f'
  induction f' with
  | zero => intro i q fs w fu h hF hi hiq hqL hf; have := h.1.1; omega
  | succ f' ih =>
    intro i q fs w fu h hF hi hiq hqL hf
    have hL := h.1.1
    obtain ⟨fu, rfl⟩ : ∃ g, fu = g + 1 := ⟨fu - 1, by omega⟩
    have hn16 := hF.2
    have hn1 := (gst_ok hF.1).1
    have eL : f_X7_readTape_L33 (fu + 1) 0 (nI i) w = f_X7_readTape_B33b (f_X7_readTape_L33 fu) 0 (nI i) w := rfl
    rw [eL]
    unfold f_X7_readTape_B33b
    rw [if_neg (show ¬ (200 : Int32) < nI i from fun z => by have := (m_lt (a := 200) (by decide) (by omega)).mp z; omega), h.1.2.1, h.2.1]
    simp only [pread]
    by_cases c0 : L ≤ q
    · rw [if_pos (nI_le c0 (by omega)), if_pos c0]
      exact ⟨_, w, by rw [h.2.2.1], kR.rf w, rfl, h.2.2.2.2.1, h.2.2.2.2.2⟩
    · rw [if_neg (nI_ge (by omega) (by omega)), if_neg c0, if_pos h.2.2.1, if_pos trivial]
      obtain ⟨fu, rfl⟩ : ∃ g, fu = g + 1 := ⟨fu - 1, by omega⟩
      -- what follows a part
      have fin : ∀ (w2 : Wd) f o, adO w2 L B fs f o → FAM (fs ++ [f]) → kR w w2 → (∀ q', o = .inr q' → q < q') → ∃ r w', (bnd (f_X7_skipBlanks w2) fun w3 => f_X7_readTape_L33 (fu + 1) 0 (nI i + 1) w3) = some (r, w') ∧ kR w w' ∧ rdO r w' (match (match o with
          | .inr q => (.inr (runL (cB B) L q) : Nat ⊕ Nat)
          | .inl p => .inl p) with
        | .inr q' => pread B L f' q' (fs ++ [f])
        | .inl p => .inl p) := by
        intro w2 f o ho hF2 hk hq'
        cases o with
        | inl p =>
          obtain ⟨w', g1, g2, g3⟩ := x_fault ho (hk.tp h.1) fu 0 (nI i + 1)
          exact ⟨_, w', g1, hk.tr g2, rfl, g3⟩
        | inr q2 =>
          obtain ⟨x1, x2⟩ := ho
          have hlt := hq' q2 rfl
          have hr := runL_le (cB B) x2
          rw [x_blanks x1.1 x1.2.1 x2, bnd_some, nI_1]
          obtain ⟨r, w', g1, g2, g3⟩ := ih (i + 1) (runL (cB B) L q2) (fs ++ [f]) _ (fu + 1) (XR_pos x1) hF2 (by omega) (by omega) hr.2 (by omega)
          exact ⟨r, w', g1, hk.tr ((kR.st (Or.inl rfl) _ _).tr g2), g3⟩
      have flt : ∀ (w2 : Wd) p (x : Int32), FLT w2 L p → kR w w2 → ∃ r w', (bnd (f_X7_skipBlanks w2) fun w3 => f_X7_readTape_L33 (fu + 1) x (nI i + 1) w3) = some (r, w') ∧ kR w w' ∧ rdO r w' (.inl p) := by
        intro w2 p x ho hk
        obtain ⟨w', g1, g2, g3⟩ := x_fault ho (hk.tp h.1) fu x (nI i + 1)
        exact ⟨_, w', g1, hk.tr g2, rfl, g3⟩
      unfold f_X7_readPart
      obtain ⟨e, hed⟩ : ∃ e, e = runL (cA B) L q := ⟨_, rfl⟩
      have hel := runL_le (cA B) hqL
      rw [x_letters h.1 h.2.1 hqL, bnd_some]
      rw [← hed] at hel ⊢
      have h1 : XR (sI w 3 6 (nI e)) L B e fs := XR_pos h
      have k1 : kR w (sI w 3 6 (nI e)) := kR.st (Or.inl rfl) _ _
      obtain ⟨w1, hw1⟩ : ∃ w1, w1 = sI w 3 6 (nI e) := ⟨_, rfl⟩
      rw [← hw1] at h1 k1 ⊢
      have hsl := runL_le (cB B) hel.2
      rw [h.2.1, x_isW0 h1.1 h1.2.1 hel.1 hel.2, x_isW1 h1.1 h1.2.1 hel.1 hel.2, x_isW2 h1.1 h1.2.1 hel.1 hel.2, x_isW3 h1.1 h1.2.1 hel.1 hel.2, bnd_some, bnd_some, bnd_some, bnd_some]
      by_cases b0 : isW B q e 0 = true
      · rw [if_pos b0, if_pos b0, if_neg (by decide)]
        have hqe : q < e := by have := (isW_iff.mp b0).1; have hl : (wrd 0).length = 6 := by decide
                               omega
        obtain ⟨w', g1, g2, g3⟩ := x_facN (k := 0) (lo := 2) (hi := 16) hF h1 hel.2 (by decide) (by decide) (fun x => x) (fun v a b => ⟨allF_mem.mpr (Or.inl ⟨rfl, a, b⟩), rfl⟩)
        have g1 : (bnd2 (f_X7_readNumber 2 16 w1) fun x12 w13 => bnd (f_X7_addFactor 0 x12 x12 (w13.1 3 7) w13) fun w14 => some ((0 : Int32), w14)) = some (0, w') := g1
        rw [g1]
        show ∃ r w'', (bnd (f_X7_skipBlanks w') fun w3 => f_X7_readTape_L33 (fu + 1) 0 (nI i + 1) w3) = some (r, w'') ∧ _
        cases hp : pnum B L e 2 16 with
        | none =>
          rw [hp] at g3
          exact flt w' _ 0 g3 (k1.tr g2)
        | some vd =>
          obtain ⟨v, d⟩ := vd
          obtain ⟨p1, p2, p3, p4, p5, p6, p7⟩ := pnum_lo hp
          rw [hp] at g3
          dsimp only at g3 ⊢
          by_cases c : (gst fs).1 * v ≤ 16
          · have c' : (gst fs).1 * fsz (0, v) ≤ 16 := c
            rw [if_pos c'] at g3
            rw [if_pos c, pstp_0]
            have hdl := runL_le (cD B) hsl.2
            rw [← p3] at hdl
            exact fin w' (0, v) _ g3 (fam_snoc hF (allF_mem.mpr (Or.inl ⟨rfl, p1, p2⟩)) c') (k1.tr g2) (fun q' hq' => by
              unfold pst0 at hq'
              have := runL_le (cB B) hdl.2
              split at hq'
              · cases hq'; omega
              · cases hq')
          · have c' : ¬ (gst fs).1 * fsz (0, v) ≤ 16 := c
            rw [if_neg c'] at g3
            rw [if_neg c]
            exact flt w' _ 0 g3 (k1.tr g2)
      · rw [if_neg b0, if_neg b0, if_pos rfl]
        by_cases b1 : isW B q e 1 = true
        · rw [if_pos b1, if_pos b1, if_neg (by decide)]
          have hqe : q < e := by have := (isW_iff.mp b1).1; have hl : (wrd 1).length = 8 := by decide
                                 omega
          obtain ⟨w', g1, g2, g3⟩ := x_facN (k := 1) (lo := 1) (hi := 8) hF h1 hel.2 (by decide) (by decide) (fun x => 2 * x) (fun v a b => ⟨allF_mem.mpr (Or.inr (Or.inl ⟨rfl, a, b⟩)), pk_mul 2 v⟩)
          have g1 : (bnd2 (f_X7_readNumber 1 8 w1) fun x9 w10 => bnd (f_X7_addFactor 1 x9 (2 * x9) (w10.1 3 7) w10) fun w11 => some ((0 : Int32), w11)) = some (0, w') := g1
          rw [g1]
          show ∃ r w'', (bnd (f_X7_skipBlanks w') fun w3 => f_X7_readTape_L33 (fu + 1) 0 (nI i + 1) w3) = some (r, w'') ∧ _
          cases hp : pnum B L e 1 8 with
          | none =>
            rw [hp] at g3
            exact flt w' _ 0 g3 (k1.tr g2)
          | some vd =>
            obtain ⟨v, d⟩ := vd
            obtain ⟨p1, p2, p3, p4, p5, p6, p7⟩ := pnum_lo hp
            rw [hp] at g3
            dsimp only at g3 ⊢
            by_cases c : (gst fs).1 * (2 * v) ≤ 16
            · have c' : (gst fs).1 * fsz (1, v) ≤ 16 := c
              rw [if_pos c'] at g3
              rw [if_pos c, pstp_0]
              have hdl := runL_le (cD B) hsl.2
              rw [← p3] at hdl
              exact fin w' (1, v) _ g3 (fam_snoc hF (allF_mem.mpr (Or.inr (Or.inl ⟨rfl, p1, p2⟩))) c') (k1.tr g2) (fun q' hq' => by
                unfold pst0 at hq'
                have := runL_le (cB B) hdl.2
                split at hq'
                · cases hq'; omega
                · cases hq')
            · have c' : ¬ (gst fs).1 * fsz (1, v) ≤ 16 := c
              rw [if_neg c'] at g3
              rw [if_neg c]
              exact flt w' _ 0 g3 (k1.tr g2)
        · rw [if_neg b1, if_neg b1, if_pos rfl]
          by_cases b2 : isW B q e 2 = true
          · rw [if_pos b2, if_pos b2, if_neg (by decide)]
            have hqe : q < e := by have := (isW_iff.mp b2).1; have hl : (wrd 2).length = 10 := by decide
                                   omega
            obtain ⟨w', g1, g3, g2⟩ := x_addf (f := (2, 0)) hF (allF_mem.mpr (Or.inr (Or.inr ⟨rfl, rfl⟩))) h1 hel.2 (p := q) (by omega)
            have g1 : f_X7_addFactor 2 0 8 (nI q) w1 = some w' := g1
            rw [g1, bnd_some]
            show ∃ r w'', (bnd (f_X7_skipBlanks w') fun w3 => f_X7_readTape_L33 (fu + 1) 0 (nI i + 1) w3) = some (r, w'') ∧ _
            by_cases c : (gst fs).1 * 8 ≤ 16
            · have c' : (gst fs).1 * fsz (2, 0) ≤ 16 := c
              rw [if_pos c'] at g3
              rw [if_pos c, pstp_0]
              exact fin w' (2, 0) _ g3 (fam_snoc hF (allF_mem.mpr (Or.inr (Or.inr ⟨rfl, rfl⟩))) c') (k1.tr g2) (fun q' hq' => by
                unfold pst0 at hq'
                split at hq'
                · cases hq'; omega
                · cases hq')
            · have c' : ¬ (gst fs).1 * fsz (2, 0) ≤ 16 := c
              rw [if_neg c'] at g3
              rw [if_neg c]
              exact flt w' _ 0 g3 (k1.tr g2)
          · rw [if_neg b2, if_neg b2, if_pos rfl]
            by_cases b3 : isW B q e 3 = true
            · rw [if_pos b3, if_pos b3, if_neg (by decide)]
              have hqe : q < e := by have := (isW_iff.mp b3).1; have hl : (wrd 3).length = 3 := by decide
                                     omega
              unfold f_X7_readSet
              obtain ⟨w', g1, g2, g3, g4⟩ := x_setL hn1 hn16 (nI fs.length) 201 0 e 0 w1 FU h1.1 h1.2.1 h1.2.2.1 h1.2.2.2.1 h1.2.2.2.2.2 h1.2.2.2.2.1.1 (Nat.two_pow_pos _) (by omega) (by omega) hel.2 (FU_big (by decide))
              have g1 : f_X7_readSet_L2 FU 0 w1 = some w' := g1
              have k2 : kR w w' := k1.tr ⟨fun k x _ _ => g3 k x, g4⟩
              rw [g1, bnd_some]
              show ∃ r w'', (bnd (f_X7_skipBlanks w') fun w3 => f_X7_readTape_L33 (fu + 1) 1 (nI i + 1) w3) = some (r, w'') ∧ _
              cases ho : pset B L (gst fs).1 201 e 0 with
              | inl p =>
                rw [ho] at g2
                exact flt w' p 1 g2 k2
              | inr pR =>
                obtain ⟨p, S⟩ := pR
                rw [ho] at g2
                obtain ⟨s8, s6, sp, s5, s3⟩ := g2
                have hr := runL_le (cB B) sp
                obtain ⟨t, htd⟩ : ∃ t, t = runL (cB B) L p := ⟨_, rfl⟩
                rw [x_blanks (k2.tp h.1) s6 sp, bnd_some]
                dsimp only
                rw [← htd] at hr ⊢
                obtain ⟨w3, hw3⟩ : ∃ w3, w3 = sI w' 3 6 (nI t) := ⟨_, rfl⟩
                have k3 : kR w w3 := by rw [hw3]; exact k2.tr (kR.st (Or.inl rfl) _ _)
                have T3 := k3.tp h.1
                have q6 : w3.1 3 6 = nI t := by rw [hw3, sI_same]
                have q8 : w3.1 3 8 = -1 := by rw [hw3, sI_at, if_neg (fun z => by omega)]; exact s8
                rw [← hw3]
                have eB : f_X7_readTape_L33 (fu + 1) 1 (nI i + 1) w3 = f_X7_readTape_B33b (f_X7_readTape_L33 fu) 1 (nI i + 1) w3 := rfl
                rw [eB]
                unfold f_X7_readTape_B33b
                rw [nI_1, if_neg (show ¬ (200 : Int32) < nI (i + 1) from fun z => by have := (m_lt (a := 200) (by decide) (by omega)).mp z; omega), T3.2.1, q6, q8]
                by_cases c : L ≤ t
                · rw [if_pos (nI_le c (by omega)), if_pos c]
                  refine ⟨_, w3, rfl, k3, rfl, ⟨?_, fun j f hj => ?_⟩, ?_⟩
                  · rw [hw3, sI_at, if_neg (fun z => by omega)]; exact s3
                  · rw [hw3, sI_row _ _ _ _ (by decide), sI_row _ _ _ _ (by decide), g3 4 (by decide), g3 5 (by decide)]; exact h1.2.2.2.2.1.2 j f hj
                  · rw [hw3, sI_at, if_neg (fun z => by omega)]; exact s5
                · rw [if_neg (nI_ge (by omega) (by omega)), if_neg c, if_pos rfl, if_neg (by decide), m_letW]
                  obtain ⟨fu, rfl⟩ : ∃ g, fu = g + 1 := ⟨fu - 1, by omega⟩
                  refine ⟨_, _, x_stops (p := t) (sI_same _ _ _ _) (by omega) fu 1 _, k3.tr (kR.st (Or.inl rfl) _ _), rfl, by omega⟩
            · rw [if_neg b3, if_neg b3, if_pos rfl, m_letW]
              refine flt (sI w1 3 8 (nI q)) q 0 ⟨sI_same _ _ _ _, by omega, e, hel.2, ?_⟩ (k1.tr (kR.st (Or.inl rfl) _ _))
              rw [sI_at, if_neg (fun z => by omega)]; exact h1.2.1
theorem x_readTape (h : TPx w L B) : ∃ r w', f_X7_readTape w = some (r, w') ∧ kR w w' ∧ rdO r w' (pread B L 201 (runL (cB B) L 0) []) := by
  unfold f_X7_readTape
  rw [m_letW, m_letW, m_letW, m_letW, m_letW]
  obtain ⟨w5, hw5⟩ : ∃ w5, w5 = sI (sI (sI (sI (sI w 3 3 0) 3 4 1) 3 5 0) 3 6 0) 3 8 (-1) := ⟨_, rfl⟩
  rw [← hw5]
  have k5 : kR w w5 := by rw [hw5]; exact (kR.st (Or.inl rfl) _ _).tr ((kR.st (Or.inl rfl) _ _).tr ((kR.st (Or.inl rfl) _ _).tr ((kR.st (Or.inl rfl) _ _).tr (kR.st (Or.inl rfl) _ _))))
  have hX : XR w5 L B 0 [] := by
    refine ⟨k5.tp h, ?_, ?_, ?_, ⟨?_, fun i f hi => by cases hi⟩, ?_⟩ <;> rw [hw5] <;> simp [sI_at] <;> rfl
  have hr := runL_le (cB B) (Nat.zero_le L)
  rw [x_blanks hX.1 hX.2.1 (Nat.zero_le _), bnd_some]
  obtain ⟨r, w', g1, g2, g3⟩ := x_tape 201 0 (runL (cB B) L 0) [] _ FU (XR_pos hX) fam_nil (by omega) (by omega) hr.2 (FU_big (by decide))
  exact ⟨r, w', g1, k5.tr ((kR.st (Or.inl rfl) _ _).tr g2), g3⟩
end XREAD3
