/-! the reference reads a part -/
section YTAPE
variable {w : Wd} {L : Nat} {B : Nat → Nat}
theorem y_facQ {fs : List (Nat × Nat)} (hF : FAM fs) {e q : Nat} (he : e ≤ L) (h : TPy w L B) (hW : WDS w) (h36 : w.1 44 36 = 0) (ht : tkS w B L (adjB 1 e (runL (cB B) L e)) (runL (cB B) L e)) (h41 : w.1 44 41 = nI 0) (hz : FCz w fs) (h40 : w.1 44 40 = nI (gst fs).1) : ∃ x w', (bnd (f_X12_readsFactor 2 (nI q) w) fun w1 => f_X12_readsOne_J80 0 w1) = some (x, w') ∧ kZ w w' ∧ yfO x w' L B fs (2, 0) e (if (gst fs).1 * 8 ≤ 16 then pstp B L e else .inl q) := by
  have hfa : ((2, 0) : Nat × Nat) ∈ allF := allF_mem.mpr (Or.inr (Or.inr ⟨rfl, rfl⟩))
  have hn16 := hF.2
  have eR : f_X12_readsFactor 2 (nI q) w = f_X12_readsFactor_J64 2 (nI q) 0 w := by
    unfold f_X12_readsFactor f_X12_readsFactor_J11 f_X12_readsFactor_J51
    rw [if_neg (by decide), if_pos rfl, if_pos rfl]
  have ey : f_X12_sizeOf 2 0 = nI 8 := by decide
  rw [eR]
  unfold f_X12_readsFactor_J64
  rw [h40, ey, pk_mul, if_pos rfl, if_pos rfl]
  by_cases c : (gst fs).1 * 8 ≤ 16
  · rw [if_pos (show nI ((gst fs).1 * 8) ≤ (16 : Int32) from nI_le (b := 16) c (by decide)), if_pos c]
    exact y_after (f := (2, 0)) hF hfa c _ he h hW h36 ht h41 hz h40
  · rw [if_neg (show ¬ nI ((gst fs).1 * 8) ≤ (16 : Int32) from nI_ge (a := 16) (by omega) (by omega)), if_neg c, m_letW, m_letW, bnd_some]
    refine ⟨_, _, y_J80F (by rw [sI_same]; decide), (kZ.st (by unfold zJ; omega) _).tr (kZ.st (by unfold zJ; omega) _), by rw [sI_same]; decide, ?_⟩
    rw [sI_at, if_neg (fun z => by omega), sI_same]
theorem eR0 (l2 : Int32) : f_X12_readsFactor (nI 0) l2 w = (if w.1 44 33 = 2 then f_X12_readsFactor_J38 (nI 0) l2 (nI 16) (w.1 44 35) (nI 2) w else some (sI w 44 36 1)) := by
  unfold f_X12_readsFactor f_X12_readsFactor_J11
  rw [if_pos (show nI 0 = 0 by decide), if_neg (show ¬ nI 0 = 2 by decide), if_pos (show nI 0 = 0 by decide)]
  rfl
theorem eR1 (l2 : Int32) : f_X12_readsFactor (nI 1) l2 w = (if w.1 44 33 = 2 then f_X12_readsFactor_J38 (nI 1) l2 (nI 8) (w.1 44 35) (nI 1) w else some (sI w 44 36 1)) := by
  unfold f_X12_readsFactor f_X12_readsFactor_J11
  rw [if_neg (show ¬ nI 1 = 0 by decide), if_neg (show ¬ nI 1 = 2 by decide), if_neg (show ¬ nI 1 = 0 by decide)]
  rfl
end YTAPE
