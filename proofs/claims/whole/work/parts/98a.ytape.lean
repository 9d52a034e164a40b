/-! the reference reads the tape -/
section YTAPE2
variable {w : Wd} {L : Nat} {B : Nat → Nat}
def ytO (w' : Wd) : Nat ⊕ (List (Nat × Nat) × Nat) → Prop
  | .inl p => ¬ w'.1 44 36 = 0 ∧ w'.1 44 34 = nI p
  | .inr (gs, S) => w'.1 44 36 = 0 ∧ FCz w' gs ∧ w'.1 44 40 = nI (gst gs).1 ∧ w'.1 44 41 = nI S
theorem y_stops (h : ¬ w.1 44 36 = 0) (fu : Nat) (x : Int32) : f_X12_text_L36 (fu + 1) x w = f_X12_text_J81 w := by
  show f_X12_text_B36b (f_X12_text_L36 fu) x w = _
  unfold f_X12_text_B36b f_X12_text_J62
  rw [if_neg h, if_neg h]
/-- after a word: what the next token leaves as it was -/
theorem YR_word {q e : Nat} {fs : List (Nat × Nat)} (h : YR w L B q fs) (h3 : w.1 44 33 = nI 1) (he : e ≤ L) (h2 : w.1 44 32 = nI e) : ∃ w', f_X12_goesOn w = some w' ∧ kF w w' ∧ TPy w' L B ∧ WDS w' ∧ w'.1 44 36 = 0 ∧ tkS w' B L (adjB 1 e (runL (cB B) L e)) (runL (cB B) L e) ∧ w'.1 44 41 = nI 0 ∧ FCz w' fs ∧ w'.1 44 40 = nI (gst fs).1 := by
  obtain ⟨a1, a2, a3, a4, a5, a6, a7⟩ := h
  obtain ⟨w', g1, g2, g3⟩ := y_goesOn a1 h2 h3 (by decide) he
  refine ⟨w', g1, g3, g3.tp a1, fun j hj => ?_, ?_, g2, ?_, ⟨?_, fun i f hi => ?_⟩, ?_⟩
  · rw [g3.1 67 (fun z => z) (by decide)]; exact a2 j hj
  · rw [g3.2.1 36 (by unfold fJ; omega)]; exact a3
  · rw [g3.2.1 41 (by unfold fJ; omega)]; exact a7
  · rw [g3.2.1 39 (by unfold fJ; omega)]; exact a6.1
  · rw [g3.1 68 (fun z => z) (by decide), g3.1 69 (fun z => z) (by decide)]; exact a6.2 i f hi
  · rw [g3.2.1 40 (by unfold fJ; omega)]; exact a5
end YTAPE2
