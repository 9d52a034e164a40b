/-! the reference keeps a factor -/
section YFAC
variable {w : Wd} {L : Nat} {B : Nat → Nat}
def yfO (x : Int32) (w' : Wd) (L : Nat) (B : Nat → Nat) (fs : List (Nat × Nat)) (f : Nat × Nat) (d : Nat) : Nat ⊕ Nat → Prop
  | .inl p => ¬ w'.1 44 36 = 0 ∧ w'.1 44 34 = nI p
  | .inr q => x = 1 ∧ YR w' L B q (fs ++ [f]) ∧ q ≤ L ∧ d < q
theorem y_after {fs : List (Nat × Nat)} {f : Nat × Nat} (hF : FAM fs) (hf : f ∈ allF) (c : (gst fs).1 * fsz f ≤ 16) (adj : Bool) {d : Nat} (hd : d ≤ L) (h : TPy w L B) (hW : WDS w) (h36 : w.1 44 36 = 0) (ht : tkS w B L adj (runL (cB B) L d)) (h41 : w.1 44 41 = nI 0) (hz : FCz w fs) (h40 : w.1 44 40 = nI (gst fs).1) : ∃ x w', (bnd (f_X12_readsFactor_J107 (nI f.1) (nI f.2) w) fun w1 => f_X12_readsOne_J80 0 w1) = some (x, w') ∧ kZ w w' ∧ yfO x w' L B fs f d (pstp B L d) := by
  have hL := h.1
  have hk4 : fs.length < 4 := by
    have h2 := (fam_fok (fam_snoc hF hf c)).1
    rw [List.length_append, List.length_singleton] at h2
    omega
  have hrl := runL_le (cB B) hd
  unfold f_X12_readsFactor_J107
  rw [hz.1, m_wr (by omega) (by decide)]
  have e39 : (sI w 68 fs.length (nI f.1)).1 44 39 = nI fs.length := by rw [sI_row _ _ _ _ (by decide)]; exact hz.1
  rw [e39, m_wr (by omega) (by decide), m_letW, m_letW]
  have e39' : (sI (sI w 68 fs.length (nI f.1)) 69 fs.length (nI f.2)).1 44 39 = nI fs.length := by rw [sI_row _ _ _ _ (by decide), sI_row _ _ _ _ (by decide)]; exact hz.1
  rw [e39', nI_1]
  have e40 : (sI (sI (sI w 68 fs.length (nI f.1)) 69 fs.length (nI f.2)) 44 39 (nI (fs.length + 1))).1 44 40 = nI (gst fs).1 := by rw [sI_at, if_neg (fun z => by omega), sI_row _ _ _ _ (by decide), sI_row _ _ _ _ (by decide)]; exact h40
  rw [e40, (fac_y f hf).1, pk_mul, bnd_some]
  obtain ⟨w5, hw5⟩ : ∃ w5, w5 = sI (sI (sI (sI w 68 fs.length (nI f.1)) 69 fs.length (nI f.2)) 44 39 (nI (fs.length + 1))) 44 40 (nI ((gst fs).1 * fsz f)) := ⟨_, rfl⟩
  rw [← hw5]
  have v44 : ∀ j, j ≠ 39 → j ≠ 40 → w5.1 44 j = w.1 44 j := fun j j3 j4 => by rw [hw5, sI_at, if_neg (fun z => j4 z.2), sI_at, if_neg (fun z => j3 z.2), sI_row _ _ _ _ (by decide), sI_row _ _ _ _ (by decide)]
  have vk : ∀ k, k ≠ 44 → k ≠ 68 → k ≠ 69 → w5.1 k = w.1 k := fun k k1 k2 k3 => by rw [hw5, sI_row _ _ _ _ k1, sI_row _ _ _ _ k1, sI_row _ _ _ _ k3, sI_row _ _ _ _ k2]
  have k5 : kZ w w5 := ⟨fun k k1 k2 => vk k k2 (by omega) (by omega), fun j hj => v44 j (by unfold zJ at hj; omega) (by unfold zJ at hj; omega), by rw [hw5]; rfl⟩
  have v39 : w5.1 44 39 = nI (fs ++ [f]).length := by rw [hw5, sI_at, if_neg (fun z => by omega), sI_same, List.length_append]; rfl
  have v40 : w5.1 44 40 = nI (gst (fs ++ [f])).1 := by rw [hw5, sI_same, gst_snoc]; rfl
  have v68 : ∀ j, w5.1 68 j = if j = fs.length then nI f.1 else w.1 68 j := fun j => by
    rw [hw5, sI_row _ _ _ _ (by decide), sI_row _ _ _ _ (by decide), sI_row _ _ _ _ (by decide), sI_at]; simp only [true_and]
  have v69 : ∀ j, w5.1 69 j = if j = fs.length then nI f.2 else w.1 69 j := fun j => by
    rw [hw5, sI_row _ _ _ _ (by decide), sI_row _ _ _ _ (by decide), sI_at]; simp only [true_and]
    by_cases y : j = fs.length
    · rw [if_pos y, if_pos y]
    · rw [if_neg y, if_neg y, sI_row _ _ _ _ (by decide)]
  have hz5 : FCz w5 (fs ++ [f]) := by
    refine ⟨v39, fun i g hg => ?_⟩
    rw [v68, v69]
    rcases Nat.lt_trichotomy i fs.length with y | y | y
    · rw [List.getElem?_append_left y] at hg
      rw [if_neg (by omega), if_neg (by omega)]; exact hz.2 i g hg
    · rw [y, List.getElem?_append_right (Nat.le_refl _), Nat.sub_self] at hg
      rw [if_pos y, if_pos y, Option.some.inj hg]; exact ⟨rfl, rfl⟩
    · rw [List.getElem?_eq_none (by simp; omega)] at hg; cases hg
  have T5 := k5.tp h
  have p36 : w5.1 44 36 = 0 := by rw [v44 36 (by decide) (by decide)]; exact h36
  obtain ⟨t34, t32, t33, -⟩ := ht
  unfold pstp
  obtain ⟨t, htd⟩ : ∃ t, t = runL (cB B) L d := ⟨_, rfl⟩
  rw [← htd] at t34 t32 t33 hrl ⊢
  have hl4 := (tok_le (B := B) (adj := adj) hrl.2).1
  by_cases cs : t < L ∧ B t = 59
  · rw [if_pos cs]
    have hK := (tok_stop (B := B) adj).1.mpr cs
    have hE := (tok_stop (B := B) (L := L) adj).2 cs
    rw [hE] at t32
    obtain ⟨w', g1, g2, g3⟩ := y_J80S (l := 0) T5 p36 (by rw [v44 33 (by decide) (by decide), t33, hK]) (p := t + 1) (by omega) (by rw [v44 32 (by decide) (by decide)]; exact t32)
    have hr2 := runL_le (cB B) (show t + 1 ≤ L by omega)
    refine ⟨_, w', g1, k5.tr g3.z, rfl, ⟨g3.tp T5, fun k hk => ?_, ?_, g2, ?_, ⟨?_, fun i g hg => ?_⟩, ?_⟩, hr2.2, by omega⟩
    · rw [g3.1 67 (fun z => z) (by decide), vk 67 (by decide) (by decide) (by decide)]; exact hW k hk
    · rw [g3.2.1 36 (by unfold fJ; omega)]; exact p36
    · rw [g3.2.1 40 (by unfold fJ; omega)]; exact v40
    · rw [g3.2.1 39 (by unfold fJ; omega)]; exact v39
    · rw [g3.1 68 (fun z => z) (by decide), g3.1 69 (fun z => z) (by decide)]; exact hz5.2 i g hg
    · rw [g3.2.1 41 (by unfold fJ; omega), v44 41 (by decide) (by decide)]; exact h41
  · rw [if_neg cs]
    have h3 : ¬ w5.1 44 33 = 3 := fun z => by
      rw [v44 33 (by decide) (by decide), t33] at z
      have := (by32 (b := tkK B L adj t) (by omega) 3 (by decide)).mp z
      exact cs ((tok_stop adj).1.mp this)
    refine ⟨_, _, y_J80N p36 h3, k5.tr (kZ.st (by unfold zJ; omega) _), by rw [sI_same]; decide, ?_⟩
    rw [sI_at, if_neg (fun z => by omega), v44 34 (by decide) (by decide)]; exact t34
end YFAC
