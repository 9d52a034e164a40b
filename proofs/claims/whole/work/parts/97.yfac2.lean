/-! the reference reads a factor -/
section YFAC2
variable {w : Wd} {L : Nat} {B : Nat → Nat}
theorem y_facN {fs : List (Nat × Nat)} (hF : FAM fs) {k lo hi e : Nat} (hk : k < 2) (hlo : lo < 100) (hhi : hi < 100) (he : e ≤ L) (l2 : Int32) (hm : ∀ v, lo ≤ v → v ≤ hi → (k, v) ∈ allF) (eR : f_X12_readsFactor (nI k) l2 w = (if w.1 44 33 = 2 then f_X12_readsFactor_J38 (nI k) l2 (nI hi) (w.1 44 35) (nI lo) w else some (sI w 44 36 1))) (h : TPy w L B) (hW : WDS w) (h36 : w.1 44 36 = 0) (ht : tkS w B L (adjB 1 e (runL (cB B) L e)) (runL (cB B) L e)) (h41 : w.1 44 41 = nI 0) (hz : FCz w fs) (h40 : w.1 44 40 = nI (gst fs).1) : ∃ x w', (bnd (f_X12_readsFactor (nI k) l2 w) fun w1 => f_X12_readsOne_J80 0 w1) = some (x, w') ∧ kZ w w' ∧ (match pnum B L e lo hi with
    | some (v, d) => yfO x w' L B fs (k, v) d (if (gst fs).1 * fsz (k, v) ≤ 16 then pstp B L d else .inl (runL (cB B) L e))
    | none => ¬ w'.1 44 36 = 0 ∧ w'.1 44 34 = nI (runL (cB B) L e)) := by
  have hL := h.1
  have hsl := runL_le (cB B) he
  have htn := tok_num (B := B) (L := L) (e := e) (k := 1) (lo := lo) (hi := hi) (Or.inl rfl)
  obtain ⟨s, hs⟩ : ∃ s, s = runL (cB B) L e := ⟨_, rfl⟩
  obtain ⟨adj, hadj⟩ : ∃ adj, adj = adjB 1 e s := ⟨_, rfl⟩
  rw [← hs] at hsl ht htn ⊢
  rw [← hadj] at ht htn
  obtain ⟨t34, t32, t33, t35⟩ := ht
  obtain ⟨l1, l2', l3, l4⟩ := tok_le (B := B) (adj := adj) hsl.2
  have hk2 : ¬ nI k = 2 := fun z => by have := (by32 (b := k) (by omega) 2 (by decide)).mp z; omega
  have flt : ∃ x w', (bnd (some (sI w 44 36 1)) fun w1 => f_X12_readsOne_J80 0 w1) = some (x, w') ∧ kZ w w' ∧ (¬ w'.1 44 36 = 0 ∧ w'.1 44 34 = nI s) := by
    refine ⟨_, _, by rw [bnd_some]; exact y_J80F (by rw [sI_same]; decide), kZ.st (by unfold zJ; omega) _, by rw [sI_same]; decide, ?_⟩
    rw [sI_at, if_neg (fun z => by omega)]; exact t34
  rw [eR, t33]
  by_cases c2 : tkK B L adj s = 2
  · have hv := avl_lt h.2.2.2 s (tkE B L s)
    have e35 := t35 c2
    obtain ⟨v, hvd⟩ : ∃ v, v = avl B s (tkE B L s) := ⟨_, rfl⟩
    rw [← hvd] at hv e35 htn
    rw [if_pos (show nI (tkK B L adj s) = 2 by rw [c2]; rfl), e35]
    unfold f_X12_readsFactor_J38
    by_cases cr : lo ≤ v ∧ v ≤ hi
    · have hnin : ¬ f_X12_in (nI v) (nI lo) (nI hi) = 0 := by
        unfold f_X12_in
        rw [if_neg (fun z => by have := (m_lt (by omega) (by omega)).mp z; omega), if_neg (fun z => by have := (m_lt (by omega) (by omega)).mp z; omega)]
        decide
      have hfa := hm v cr.1 cr.2
      have hsz := (fac_0 (k, v) hfa).2.1
      have hmul : (gst fs).1 * fsz (k, v) ≤ 256 := Nat.le_trans (Nat.mul_le_mul hF.2 hsz) (by decide)
      have ey : f_X12_sizeOf (nI k) (nI v) = nI (fsz (k, v)) := (fac_y (k, v) hfa).1
      rw [if_neg hnin, htn, if_pos (show tkK B L adj s = 2 ∧ lo ≤ v ∧ v ≤ hi from ⟨c2, cr⟩)]
      dsimp only
      unfold f_X12_readsFactor_J51
      rw [if_neg hk2, e35]
      unfold f_X12_readsFactor_J64
      rw [h40, ey, pk_mul, if_neg hk2, if_neg hk2]
      by_cases c : (gst fs).1 * fsz (k, v) ≤ 16
      · rw [if_pos (show nI ((gst fs).1 * fsz (k, v)) ≤ (16 : Int32) from nI_le (b := 16) c (by decide)), if_pos c]
        obtain ⟨w3, g1, g2, g3⟩ := y_goesOn h (e := tkE B L s) (k := 2) t32 (by rw [t33, c2]) (by decide) l3
        rw [g1, bnd_some]
        obtain ⟨x, w', q1, q2, q3⟩ := y_after (f := (k, v)) hF hfa c _ l3 (g3.tp h) (fun j hj => by rw [g3.1 67 (fun z => z) (by decide)]; exact hW j hj) (by rw [g3.2.1 36 (by unfold fJ; omega)]; exact h36) g2 (by rw [g3.2.1 41 (by unfold fJ; omega)]; exact h41) ⟨by rw [g3.2.1 39 (by unfold fJ; omega)]; exact hz.1, fun i f hi => by rw [g3.1 68 (fun z => z) (by decide), g3.1 69 (fun z => z) (by decide)]; exact hz.2 i f hi⟩ (by rw [g3.2.1 40 (by unfold fJ; omega)]; exact h40)
        exact ⟨x, w', q1, g3.z.tr q2, q3⟩
      · rw [if_neg (show ¬ nI ((gst fs).1 * fsz (k, v)) ≤ (16 : Int32) from nI_ge (a := 16) (by omega) (by omega)), if_neg c, m_letW]
        exact flt
    · have hin : f_X12_in (nI v) (nI lo) (nI hi) = 0 := by
        unfold f_X12_in
        by_cases y : v < lo
        · rw [if_pos ((m_lt (by omega) (by omega)).mpr y)]
        · rw [if_neg (fun z => y ((m_lt (by omega) (by omega)).mp z)), if_pos ((m_lt (by omega) (by omega)).mpr (by omega))]
      rw [if_pos hin, htn, if_neg (show ¬ (tkK B L adj s = 2 ∧ lo ≤ v ∧ v ≤ hi) from fun z => cr z.2), m_letW]
      exact flt
  · rw [if_neg (show ¬ nI (tkK B L adj s) = 2 from fun z => c2 ((by32 (by omega) 2 (by decide)).mp z)), htn, if_neg (fun z => c2 z.1)]
    exact flt
end YFAC2
