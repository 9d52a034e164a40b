/-! text: the reference's start -/
section TEXT
variable {w : Wd} {L : Nat} {B : Nat → Nat}
theorem y_text0 (h : TPy w L B) (hW : WDS w) : ∃ w1, f_X12_text w = f_X12_text_J81 w1 ∧ kZ w w1 ∧ ytO w1 (pread B L 201 (runL (cB B) L 0) []) := by
  unfold f_X12_text
  rw [m_letW, m_letW, m_letW, m_letW, m_letW, m_letW]
  obtain ⟨w6, hw6⟩ : ∃ w6, w6 = sI (sI (sI (sI (sI (sI w 44 39 0) 44 40 1) 44 41 0) 44 32 0) 44 33 3) 44 36 0 := ⟨_, rfl⟩
  rw [← hw6]
  have k6 : kZ w w6 := by
    rw [hw6]
    exact (kZ.st (by unfold zJ; omega) _).tr ((kZ.st (by unfold zJ; omega) _).tr ((kZ.st (by unfold zJ; omega) _).tr ((kZ.st (by unfold zJ; omega) _).tr ((kZ.st (by unfold zJ; omega) _).tr (kZ.st (by unfold zJ; omega) _)))))
  have T6 := k6.tp h
  obtain ⟨w7, g1, g2, g3⟩ := y_goesOn T6 (e := 0) (k := 3) (by rw [hw6]; simp [sI_at]; rfl) (by rw [hw6]; simp [sI_at]; rfl) (by decide) (Nat.zero_le _)
  have ha : adjB 3 0 (runL (cB B) L 0) = false := by unfold adjB; simp
  rw [ha] at g2
  rw [g1, bnd_some]
  have hr := runL_le (cB B) (Nat.zero_le L)
  have hY : YR w7 L B (runL (cB B) L 0) [] := by
    refine ⟨g3.tp T6, fun j hj => ?_, ?_, g2, ?_, ⟨?_, fun i f hi => by cases hi⟩, ?_⟩
    · rw [g3.1 67 (fun z => z) (by decide), k6.1 67 (by omega) (by decide)]; exact hW j hj
    · rw [g3.2.1 36 (by unfold fJ; omega), hw6, sI_same]
    · rw [g3.2.1 40 (by unfold fJ; omega), hw6]; simp [sI_at]; rfl
    · rw [g3.2.1 39 (by unfold fJ; omega), hw6]; simp [sI_at]; rfl
    · rw [g3.2.1 41 (by unfold fJ; omega), hw6]; simp [sI_at]; rfl
  obtain ⟨w1, q1, q2, q3⟩ := y_tape 201 0 (runL (cB B) L 0) [] w7 FU hY fam_nil (by omega) (by omega) hr.2 (FU_big (by decide))
  exact ⟨w1, q1, k6.tr (g3.z.tr q2), q3⟩
end TEXT
