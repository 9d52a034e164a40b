/-! the reference reads the tape: the loop -/
section YTAPE3
variable {w : Wd} {L : Nat} {B : Nat → Nat}
theorem y_tape : ∀ f' i q fs (w : Wd) fu, YR w L B q fs → FAM fs → i + f' = 201 → i ≤ q → q ≤ L → f' + 2 < fu → ∃ w1, f_X12_text_L36 fu 1 w = f_X12_text_J81 w1 ∧ kZ w w1 ∧ ytO w1 (pread B L f' q fs) := by
  intro f'
  induction f' with
  | zero => intro i q fs w fu h hF hi hiq hqL hf; have := h.1.1; omega
  | succ f' ih =>
    intro i q fs w fu h hF hi hiq hqL hf
    have hL := h.1.1
    obtain ⟨fu, rfl⟩ : ∃ g, fu = g + 1 := ⟨fu - 1, by omega⟩
    have hn16 := hF.2
    have hn1 := (gst_ok hF.1).1
    obtain ⟨a1, a2, a3, ⟨t34, t32, t33, t35⟩, a5, a6, a7⟩ := id h
    obtain ⟨l1, l2, l3, l4⟩ := tok_le (B := B) (adj := false) hqL
    have eL : f_X12_text_L36 (fu + 1) 1 w = f_X12_text_B36b (f_X12_text_L36 fu) 1 w := rfl
    rw [eL]
    unfold f_X12_text_B36b
    rw [if_pos a3, if_neg (by decide), t33]
    simp only [pread]
    by_cases c0 : L ≤ q
    · rw [if_pos (show nI (tkK B L false q) = 0 by rw [l4.mpr c0]; rfl), if_pos c0]
      refine ⟨w, ?_, kZ.rf w, a3, a6, a5, a7⟩
      unfold f_X12_text_J62
      rw [if_pos a3, t33, if_pos (show nI (tkK B L false q) = 0 by rw [l4.mpr c0]; rfl)]
    · rw [if_neg (show ¬ nI (tkK B L false q) = 0 from fun z => c0 (l4.mp ((by32 (by omega) 0 (by decide)).mp z))), if_neg c0]
      obtain ⟨fu, rfl⟩ : ∃ g, fu = g + 1 := ⟨fu - 1, by omega⟩
      have flt : ∀ (x : Int32) (w2 : Wd) p, ¬ w2.1 44 36 = 0 → w2.1 44 34 = nI p → kZ w w2 → ∃ w1, f_X12_text_L36 (fu + 1) x w2 = f_X12_text_J81 w1 ∧ kZ w w1 ∧ ytO w1 (.inl p) := fun x w2 p h1 h2 hk => ⟨w2, y_stops h1 fu x, hk, h1, h2⟩
      have fin : ∀ (x : Int32) (w2 : Wd) f d o, yfO x w2 L B fs f d o → FAM (fs ++ [f]) → kZ w w2 → q ≤ d → ∃ w1, f_X12_text_L36 (fu + 1) x w2 = f_X12_text_J81 w1 ∧ kZ w w1 ∧ ytO w1 (match o with
          | .inr q' => pread B L f' q' (fs ++ [f])
          | .inl p => .inl p) := by
        intro x w2 f d o ho hF2 hk hqd
        cases o with
        | inl p => exact flt x w2 p ho.1 ho.2 hk
        | inr q2 =>
          obtain ⟨rfl, y1, y2, y3⟩ := ho
          obtain ⟨w1, g1, g2, g3⟩ := ih (i + 1) q2 (fs ++ [f]) w2 (fu + 1) y1 hF2 (by omega) (by omega) y2 (by omega)
          exact ⟨w1, g1, hk.tr g2, g3⟩
      by_cases cA1 : cA B q = true
      · have hK : tkK B L false q = 1 := tok_word.1.mpr ⟨by omega, cA1⟩
        have hE : tkE B L q = runL (cA B) L q := tok_word.2 ⟨by omega, cA1⟩
        obtain ⟨e, hed⟩ : ∃ e, e = runL (cA B) L q := ⟨_, rfl⟩
        have hel := runL_le (cA B) hqL
        have hlt := runL_true (c := cA B) (Nat.lt_of_not_le c0) cA1
        rw [hE] at t32
        rw [hK] at t33
        have hlet : ∀ j, q ≤ j → j < e → cA B j = true := fun j h1 h2 => scn_in (cA B) (L - q) q j h1 (by rw [hed] at h2; exact h2)
        rw [← hed] at hel hlt t32 ⊢
        have tk : ∀ r, r < 4 → f_X12_takesWord (nI r) w = if isW B q e r then bnd (f_X12_goesOn w) (fun w2 => some (1, w2)) else some (0, w) := fun r hr => y_takes a1 a2 hr t34 t32 hel.1 hel.2 hlet a3 t33
        obtain ⟨w2, g1, g2, b1, b2, b3, b4, b5, b6, b7⟩ := YR_word h t33 hel.2 t32
        have hsl := runL_le (cB B) hel.2
        rw [g1, bnd_some] at tk
        unfold f_X12_readsOne
        rw [show f_X12_takesWord 0 w = _ from tk 0 (by decide)]
        by_cases p0 : isW B q e 0 = true
        · rw [if_pos p0, if_pos p0, m_bnd2 rfl, if_neg (by decide), t34]
          obtain ⟨x, w', q1, q2, q3⟩ := y_facN (k := 0) (lo := 2) (hi := 16) hF (by decide) (by decide) (by decide) hel.2 (nI q) (fun v x y => allF_mem.mpr (Or.inl ⟨rfl, x, y⟩)) (eR0 _) b1 b2 b3 b4 b5 b6 b7
          have q1 : (bnd (f_X12_readsFactor 0 (nI q) w2) fun w1 => f_X12_readsOne_J80 0 w1) = some (x, w') := q1
          rw [q1, m_bnd2 rfl]
          cases hp : pnum B L e 2 16 with
          | none => rw [hp] at q3; exact flt x w' _ q3.1 q3.2 (g2.z.tr q2)
          | some vd =>
            obtain ⟨v, d⟩ := vd
            obtain ⟨p1, p2, p3, p4, p5, p6, p7⟩ := pnum_lo hp
            rw [hp] at q3
            dsimp only at q3 ⊢
            by_cases c : (gst fs).1 * v ≤ 16
            · have c' : (gst fs).1 * fsz (0, v) ≤ 16 := c
              rw [if_pos c'] at q3
              rw [if_pos c]
              exact fin x w' (0, v) d _ q3 (fam_snoc hF (allF_mem.mpr (Or.inl ⟨rfl, p1, p2⟩)) c') (g2.z.tr q2) (by omega)
            · have c' : ¬ (gst fs).1 * fsz (0, v) ≤ 16 := c
              rw [if_neg c'] at q3
              rw [if_neg c]
              exact flt x w' _ q3.1 q3.2 (g2.z.tr q2)
        · rw [if_neg p0, if_neg p0, m_bnd2 rfl, if_pos rfl, show f_X12_takesWord 1 w = _ from tk 1 (by decide)]
          by_cases p1 : isW B q e 1 = true
          · rw [if_pos p1, if_pos p1, m_bnd2 rfl, if_neg (by decide), t34]
            obtain ⟨x, w', q1, q2, q3⟩ := y_facN (k := 1) (lo := 1) (hi := 8) hF (by decide) (by decide) (by decide) hel.2 (nI q) (fun v x y => allF_mem.mpr (Or.inr (Or.inl ⟨rfl, x, y⟩))) (eR1 _) b1 b2 b3 b4 b5 b6 b7
            have q1 : (bnd (f_X12_readsFactor 1 (nI q) w2) fun w1 => f_X12_readsOne_J80 0 w1) = some (x, w') := q1
            rw [q1, m_bnd2 rfl]
            cases hp : pnum B L e 1 8 with
            | none => rw [hp] at q3; exact flt x w' _ q3.1 q3.2 (g2.z.tr q2)
            | some vd =>
              obtain ⟨v, d⟩ := vd
              obtain ⟨p1, p2, p3, p4, p5, p6, p7⟩ := pnum_lo hp
              rw [hp] at q3
              dsimp only at q3 ⊢
              by_cases c : (gst fs).1 * (2 * v) ≤ 16
              · have c' : (gst fs).1 * fsz (1, v) ≤ 16 := c
                rw [if_pos c'] at q3
                rw [if_pos c]
                exact fin x w' (1, v) d _ q3 (fam_snoc hF (allF_mem.mpr (Or.inr (Or.inl ⟨rfl, p1, p2⟩))) c') (g2.z.tr q2) (by omega)
              · have c' : ¬ (gst fs).1 * fsz (1, v) ≤ 16 := c
                rw [if_neg c'] at q3
                rw [if_neg c]
                exact flt x w' _ q3.1 q3.2 (g2.z.tr q2)
          · rw [if_neg p1, if_neg p1, m_bnd2 rfl, if_pos rfl, show f_X12_takesWord 2 w = _ from tk 2 (by decide)]
            by_cases p2 : isW B q e 2 = true
            · rw [if_pos p2, if_pos p2, m_bnd2 rfl, if_neg (by decide), t34]
              obtain ⟨x, w', q1, q2, q3⟩ := y_facQ (q := q) hF hel.2 b1 b2 b3 b4 b5 b6 b7
              rw [q1, m_bnd2 rfl]
              by_cases c : (gst fs).1 * 8 ≤ 16
              · rw [if_pos c] at q3
                rw [if_pos c]
                exact fin x w' (2, 0) e _ q3 (fam_snoc hF (allF_mem.mpr (Or.inr (Or.inr ⟨rfl, rfl⟩))) c) (g2.z.tr q2) (by omega)
              · rw [if_neg c] at q3
                rw [if_neg c]
                exact flt x w' _ q3.1 q3.2 (g2.z.tr q2)
            · rw [if_neg p2, if_neg p2, m_bnd2 rfl, if_pos rfl, show f_X12_takesWord 3 w = _ from tk 3 (by decide)]
              by_cases p3 : isW B q e 3 = true
              · rw [if_pos p3, if_pos p3, m_bnd2 rfl, if_neg (by decide)]
                unfold f_X12_readsSet
                obtain ⟨w', q1, q2, q3⟩ := y_setL hn1 hn16 201 0 e 1 0 w2 FU b1 (Or.inl rfl) b4 b3 b7 b5 (Nat.two_pow_pos _) (by omega) (by omega) hel.2 (FU_big (by decide))
                rw [q1, m_bnd2 rfl]
                have k3 : kZ w w' := g2.z.tr ⟨fun k _ y => q3.1 k (fun z => z) y, fun j x => q3.2.1 j (fun z => x (by unfold sJ at z; unfold zJ; omega)), q3.2.2⟩
                cases ho : pset B L (gst fs).1 201 e 0 with
                | inl p => rw [ho] at q2; exact flt 0 w' p q2.1 q2.2 k3
                | inr pR =>
                  obtain ⟨p, S⟩ := pR
                  rw [ho] at q2
                  obtain ⟨s1, s2, s3, s4⟩ := q2
                  have hr := runL_le (cB B) s4
                  obtain ⟨m1, m2, m3, m4⟩ := tok_le (B := B) (adj := false) hr.2
                  dsimp only
                  have eB : f_X12_text_L36 (fu + 1) 0 w' = f_X12_text_J62 w' := by
                    show f_X12_text_B36b (f_X12_text_L36 fu) 0 w' = _
                    unfold f_X12_text_B36b
                    rw [if_pos s1, if_pos rfl]
                  rw [eB]
                  unfold f_X12_text_J62
                  rw [if_pos s1, s2.2.2.1]
                  by_cases c : L ≤ runL (cB B) L p
                  · rw [if_pos c, if_pos (show nI (tkK B L false (runL (cB B) L p)) = 0 by rw [m4.mpr c]; rfl)]
                    refine ⟨w', rfl, k3, s1, ⟨?_, fun j f hj => ?_⟩, ?_, s3⟩
                    · rw [q3.2.1 39 (by unfold sJ; omega)]; exact b6.1
                    · rw [q3.1 68 (fun z => z) (by decide), q3.1 69 (fun z => z) (by decide)]; exact b6.2 j f hj
                    · rw [q3.2.1 40 (by unfold sJ; omega)]; exact b7
                  · rw [if_neg c, if_neg (show ¬ nI (tkK B L false (runL (cB B) L p)) = 0 from fun z => c (m4.mp ((by32 (by omega) 0 (by decide)).mp z))), m_letW]
                    refine ⟨_, rfl, k3.tr (kZ.st (by unfold zJ; omega) _), by rw [sI_same]; decide, ?_⟩
                    rw [sI_at, if_neg (fun z => by omega)]; exact s2.1
              · rw [if_neg p3, if_neg p3, m_bnd2 rfl, if_pos rfl, m_letW, y_J80F (by rw [sI_same]; decide), m_bnd2 rfl]
                refine flt 0 _ q (by rw [sI_same]; decide) ?_ (kZ.st (by unfold zJ; omega) _)
                rw [sI_at, if_neg (fun z => by omega)]; exact t34
      · have hK : ¬ tkK B L false q = 1 := fun z => cA1 (tok_word.1.mp z).2
        have h1 : ¬ w.1 44 33 = 1 := fun z => hK ((by32 (by omega) 1 (by decide)).mp (t33.symm.trans z))
        have hr : runL (cA B) L q = q := runL_false (Or.inr (by simpa using cA1))
        rw [hr, isW_no (by decide), isW_no (by decide), isW_no (by decide), isW_no (by decide)]
        unfold f_X12_readsOne
        rw [y_takesN (Or.inr h1), m_bnd2 rfl, if_pos rfl, y_takesN (Or.inr h1), m_bnd2 rfl, if_pos rfl, y_takesN (Or.inr h1), m_bnd2 rfl, if_pos rfl, y_takesN (Or.inr h1), m_bnd2 rfl, if_pos rfl, m_letW, y_J80F (by rw [sI_same]; decide), m_bnd2 rfl]
        refine flt 0 _ q (by rw [sI_same]; decide) ?_ (kZ.st (by unfold zJ; omega) _)
        rw [sI_at, if_neg (fun z => by omega)]; exact t34
end YTAPE3
