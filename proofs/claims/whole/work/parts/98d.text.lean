/-! text: the reference's end -/
section TEXT2
variable {w : Wd}
theorem y_copies {fs : List (Nat × Nat)} (hk : fs.length ≤ 4) (hz : ∀ i f, fs[i]? = some f → w.1 68 i = nI f.1 ∧ w.1 69 i = nI f.2) (h2 : w.1 44 2 = nI fs.length) : ∃ w', f_X12_text_L119 FU (nI 0) w = (bnd (f_X12_laysGroup w') fun w1 => bnd (f_X12_startsRow (w1.1 44 41) w1) fun w2 => some ((sI w2 44 15 0).1 44 1, sI w2 44 15 0)) ∧ FCy w' fs ∧ kY (fun k => k = 45 ∨ k = 46) w w' := by
  have key := lrun (fun f i (s : Wd) => f_X12_text_L119 f (nI i) s) fs.length (fun s => (bnd (f_X12_laysGroup s) fun w1 => bnd (f_X12_startsRow (w1.1 44 41) w1) fun w2 => some ((sI w2 44 15 0).1 44 1, sI w2 44 15 0))) (fun i s => (∀ j f, j < i → fs[j]? = some f → s.1 45 j = nI f.1 ∧ s.1 46 j = nI f.2) ∧ kY (fun k => k = 45 ∨ k = 46) w s) ?_ ?_ fs.length 0 w FU (by omega) (FU_big (by omega)) ⟨fun j f hj => absurd hj (Nat.not_lt_zero _), fun _ _ => rfl, rfl⟩
  · obtain ⟨s, ⟨g1, g2⟩, g3⟩ := key
    refine ⟨s, g3, ⟨?_, fun i f hi => g1 i f (List.getElem?_eq_some_iff.mp hi).1 hi⟩, g2⟩
    rw [g2.1 44 (by decide)]; exact h2
  · rintro i s hi ⟨g1, g2⟩
    have hfi := List.getElem?_eq_getElem hi
    obtain ⟨f, hfd⟩ : ∃ f, f = fs[i] := ⟨_, rfl⟩
    rw [← hfd] at hfi
    obtain ⟨z1, z2⟩ := hz i f hfi
    refine ⟨sI (sI s 45 i (nI f.1)) 46 i (nI f.2), ⟨fun j g hj hg => ?_, kY_set (kY_set g2 (Or.inl rfl) _ _) (Or.inr rfl) _ _⟩, fun fu => ?_⟩
    · rw [sI_row _ _ _ _ (show 45 ≠ 46 by decide), sI_at, sI_at, sI_row _ _ _ _ (show 46 ≠ 45 by decide)]
      by_cases q : j = i
      · subst q
        rw [hfi] at hg
        rw [if_pos ⟨rfl, rfl⟩, if_pos ⟨rfl, rfl⟩, Option.some.inj hg]; exact ⟨rfl, rfl⟩
      · rw [if_neg (fun z => q z.2), if_neg (fun z => q z.2)]; exact g1 j g (by omega) hg
    · show f_X12_text_B119b (f_X12_text_L119 fu) (nI i) s = _
      unfold f_X12_text_B119b
      rw [g2.1 44 (by decide), h2, if_neg (nI_ge hi (by omega)), m_rd (by omega) (by decide), g2.1 68 (by decide), z1, m_wr (by omega) (by decide), m_rd (by omega) (by decide), sI_row _ _ _ _ (show 69 ≠ 45 by decide), g2.1 69 (by decide), z2, m_wr (by omega) (by decide), nI_1]
  · rintro f s ⟨-, g2⟩
    show f_X12_text_B119b (f_X12_text_L119 f) (nI fs.length) s = _
    unfold f_X12_text_B119b
    rw [g2.1 44 (by decide), h2, if_pos (nI_le (Nat.le_refl _) (by omega))]
    rfl
end TEXT2
