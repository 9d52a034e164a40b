/-! one token of the reference -/
def gj (l : Int32) (w : Wd) : Option Wd :=
  bnd (f_X12_here w) fun x1 =>
  if x1 = (-1) then
    letW (sI w 44 33 0) fun w6 =>
    some w6
  else
    if (f_X12_in x1 97 122) = 0 then
      if (f_X12_in x1 48 57) = 0 then
        letW (sI w 44 32 ((w.1 44 32) + 1)) fun w2 =>
        if x1 = 59 then
          letW (sI w2 44 33 3) fun w4 =>
          some w4
        else
          letW (sI w2 44 33 4) fun w3 =>
          some w3
      else
        letW (sI w 44 35 0) fun w5 =>
        f_X12_goesOn_L165 FU l w5
    else
      f_X12_goesOn_L105 FU l w
theorem gj67 (w : Wd) : f_X12_goesOn_J67 w = gj 1 w := rfl
theorem gj71 (w : Wd) : f_X12_goesOn_J71 w = gj 0 w := rfl
section TOK2
variable {w : Wd} {L : Nat} {B : Nat → Nat}
def tkS (w' : Wd) (B : Nat → Nat) (L : Nat) (adj : Bool) (s : Nat) : Prop := w'.1 44 34 = nI s ∧ w'.1 44 32 = nI (tkE B L s) ∧ w'.1 44 33 = nI (tkK B L adj s) ∧ (tkK B L adj s = 2 → w'.1 44 35 = nI (avl B s (tkE B L s)))
theorem y_gj (adj : Bool) (h : TPy w L B) {s : Nat} (h2 : w.1 44 32 = nI s) (h4 : w.1 44 34 = nI s) (hs : s ≤ L) : ∃ w', gj (if adj then 1 else 0) w = some w' ∧ tkS w' B L adj s ∧ kF w w' := by
  have hL := h.1
  have hb := h.2.2.2 s
  unfold gj
  by_cases c : L ≤ s
  · refine ⟨sI w 44 33 0, ?_, ⟨?_, ?_, ?_, fun z => ?_⟩, kF.st (by unfold fJ; omega) _⟩
    · rw [y_hereE h h2 c (by omega), bnd_some, if_pos rfl, m_letW]
    · rw [sI_at, if_neg (fun z => by omega)]; exact h4
    · rw [sI_at, if_neg (fun z => by omega)]; unfold tkE; rw [if_pos c]; exact h2
    · rw [sI_same]; unfold tkK; rw [if_pos c]; rfl
    · unfold tkK at z; rw [if_pos c] at z; omega
  · rw [y_here h h2 (by omega), bnd_some, if_neg (nI_ne1 (by omega))]
    by_cases cA1 : cA B s = true
    · have ca := cA1
      unfold cA at ca
      rw [Bool.and_eq_true, Nat.ble_eq, Nat.ble_eq] at ca
      rw [if_neg (show ¬ f_X12_in (nI (B s)) 97 122 = 0 from fun z => (in_eq hb 97 122 (by decide) (by decide)).mp z ca), y_letters _ (L - s) s w FU h h2 (by omega) (FU_big (by omega))]
      refine ⟨_, rfl, ⟨?_, ?_, ?_, fun z => ?_⟩, (kF.st (by unfold fJ; omega) _).tr (kF.st (by unfold fJ; omega) _)⟩
      · rw [sI_at, if_neg (fun z => by omega), sI_at, if_neg (fun z => by omega)]; exact h4
      · rw [sI_at, if_neg (fun z => by omega), sI_same]; unfold tkE; rw [if_neg c, if_pos cA1]; rfl
      · rw [sI_same]; unfold tkK; rw [if_neg c, if_pos cA1]; cases adj <;> rfl
      · unfold tkK at z; rw [if_neg c, if_pos cA1] at z; cases adj <;> simp at z
    · have ca : ¬ (97 ≤ B s ∧ B s ≤ 122) := fun z => cA1 (by unfold cA; rw [Bool.and_eq_true, Nat.ble_eq, Nat.ble_eq]; exact z)
      rw [if_pos (show f_X12_in (nI (B s)) 97 122 = 0 from (in_eq hb 97 122 (by decide) (by decide)).mpr ca)]
      by_cases cD1 : cD B s = true
      · have cd := cD1
        unfold cD at cd
        rw [Bool.and_eq_true, Nat.ble_eq, Nat.ble_eq] at cd
        rw [if_neg (show ¬ f_X12_in (nI (B s)) 48 57 = 0 from fun z => (in_eq hb 48 57 (by decide) (by decide)).mp z cd), m_letW]
        have hk : kF w (sI w 44 35 0) := kF.st (by unfold fJ; omega) _
        obtain ⟨w', g1, g2, g3, g4, g5, g6⟩ := y_digits (if adj then 1 else 0) (s := s) (L - s) s (sI w 44 35 0) FU (hk.tp h) (by rw [sI_at, if_neg (fun z => by omega)]; exact h2) (by rw [sI_at, if_neg (fun z => by omega)]; exact h4) (by rw [sI_same]; unfold avl; rw [if_pos rfl]; rfl) (Nat.le_refl _) (fun i h1 h2 => by omega) (by omega) (FU_big (by omega))
        have eE : tkE B L s = scn (cD B) (L - s) s := by unfold tkE; rw [if_neg c, if_neg cA1, if_pos cD1]; rfl
        refine ⟨w', g1, ⟨g3, by rw [eE]; exact g2, ?_, fun _ => by rw [eE]; exact g4⟩, hk.tr g6⟩
        rw [g5]; unfold tkK
        rw [if_neg c, if_neg cA1, if_pos cD1, eE]
        cases adj <;> by_cases c2 : scn (cD B) (L - s) s - s ≤ 2 <;> simp [c2] <;> rfl
      · have cd : ¬ (48 ≤ B s ∧ B s ≤ 57) := fun z => cD1 (by unfold cD; rw [Bool.and_eq_true, Nat.ble_eq, Nat.ble_eq]; exact z)
        rw [if_pos (show f_X12_in (nI (B s)) 48 57 = 0 from (in_eq hb 48 57 (by decide) (by decide)).mpr cd), m_letW, h2, nI_1]
        refine ⟨sI (sI w 44 32 (nI (s + 1))) 44 33 (if B s = 59 then 3 else 4), ?_, ⟨?_, ?_, ?_, fun z => ?_⟩, (kF.st (by unfold fJ; omega) _).tr (kF.st (by unfold fJ; omega) _)⟩
        · by_cases e : B s = 59
          · rw [if_pos e, if_pos (show nI (B s) = 59 by rw [e]; rfl), m_letW]
          · rw [if_neg e, if_neg (show ¬ nI (B s) = 59 from fun z => e ((by32 hb 59 (by decide)).mp z)), m_letW]
        · rw [sI_at, if_neg (fun z => by omega), sI_at, if_neg (fun z => by omega)]; exact h4
        · rw [sI_at, if_neg (fun z => by omega), sI_same]; unfold tkE; rw [if_neg c, if_neg cA1, if_neg cD1]
        · rw [sI_same]; unfold tkK; rw [if_neg c, if_neg cA1, if_neg cD1]; split <;> rfl
        · unfold tkK at z; rw [if_neg c, if_neg cA1, if_neg cD1] at z; split at z <;> omega
def gFin (l1 l2 : Int32) (w4 : Wd) : Option Wd := if (w4.1 44 34) = l2 then (if l1 = 1 then f_X12_goesOn_J67 w4 else if l1 = 2 then f_X12_goesOn_J67 w4 else f_X12_goesOn_J71 w4) else f_X12_goesOn_J71 w4
theorem y_blk0 (l1 l2 : Int32) : ∀ d q (w : Wd) f, TPy w L B → w.1 44 32 = nI q → q + d = L → d < f → f_X12_goesOn_L10 f l1 l2 w = gFin l1 l2 (sI (sI w 44 32 (nI (scn (cB B) d q))) 44 34 (nI (scn (cB B) d q))) := by
  intro d
  induction d with
  | zero =>
    intro q w f h h6 hd hf
    obtain ⟨f, rfl⟩ : ∃ g, f = g + 1 := ⟨f - 1, by omega⟩
    have hL := h.1
    show f_X12_goesOn_B10b (f_X12_goesOn_L10 f) l1 l2 w = _
    unfold f_X12_goesOn_B10b
    rw [y_hereE h h6 (by omega) (by omega), bnd_some, bnd_some, if_neg (by decide), if_neg (by decide), show scn (cB B) 0 q = q from rfl, sI_id h6, h6]
    rfl
  | succ d ih =>
    intro q w f h h6 hd hf
    obtain ⟨f, rfl⟩ : ∃ g, f = g + 1 := ⟨f - 1, by omega⟩
    have hL := h.1
    have hb := h.2.2.2 q
    have go : f_X12_goesOn_L10 f l1 l2 (sI w 44 32 (nI q + 1)) = gFin l1 l2 (sI (sI w 44 32 (nI (scn (cB B) d (q + 1)))) 44 34 (nI (scn (cB B) d (q + 1)))) := by
      rw [nI_1, ih (q + 1) _ f ((kF.st (by unfold fJ; omega) _).tp h) (sI_same _ _ _ _) (by omega) (by omega), sI_sI]
    show f_X12_goesOn_B10b (f_X12_goesOn_L10 f) l1 l2 w = _
    unfold f_X12_goesOn_B10b
    have e : scn (cB B) (d + 1) q = if cB B q then scn (cB B) d (q + 1) else q := rfl
    rw [y_here h h6 (by omega), bnd_some, bnd_some, m_letW, m_letW, h6, go, e]
    by_cases c1 : B q = 32
    · rw [if_pos (show nI (B q) = 32 by rw [c1]; rfl), if_pos (show cB B q = true by unfold cB; rw [c1]; rfl)]
    · rw [if_neg (show ¬ nI (B q) = 32 from fun z => c1 ((by32 hb 32 (by decide)).mp z))]
      by_cases c2 : B q = 10
      · rw [if_pos (show nI (B q) = 10 by rw [c2]; rfl), if_pos (show cB B q = true by unfold cB; rw [c2]; rfl)]
      · rw [if_neg (show ¬ nI (B q) = 10 from fun z => c2 ((by32 hb 10 (by decide)).mp z)), if_neg (show ¬ cB B q = true by unfold cB; simp [c1, c2]), sI_id h6]
        rfl
def adjB (k e s : Nat) : Bool := s == e && (k == 1 || k == 2)
theorem y_goesOn (h : TPy w L B) {e k : Nat} (h2 : w.1 44 32 = nI e) (h3 : w.1 44 33 = nI k) (hk : k ≤ 4) (he : e ≤ L) : ∃ w', f_X12_goesOn w = some w' ∧ tkS w' B L (adjB k e (runL (cB B) L e)) (runL (cB B) L e) ∧ kF w w' := by
  have hL := h.1
  unfold f_X12_goesOn
  rw [h2, h3, y_blk0 _ _ (L - e) e w FU h h2 (by omega) (FU_big (by omega))]
  obtain ⟨s, hsd⟩ : ∃ s, s = scn (cB B) (L - e) e := ⟨_, rfl⟩
  have hsl := scn_le (cB B) (L - e) e
  rw [show runL (cB B) L e = s from hsd.symm, ← hsd]
  rw [← hsd] at hsl
  obtain ⟨w4, hw4⟩ : ∃ w4, w4 = sI (sI w 44 32 (nI s)) 44 34 (nI s) := ⟨_, rfl⟩
  have k4 : kF w w4 := by rw [hw4]; exact (kF.st (by unfold fJ; omega) _).tr (kF.st (by unfold fJ; omega) _)
  rw [← hw4]
  obtain ⟨w', g1, g2, g3⟩ := y_gj (adjB k e s) (k4.tp h) (s := s) (by rw [hw4, sI_at, if_neg (fun z => by omega), sI_same]) (by rw [hw4, sI_same]) (by omega)
  refine ⟨w', ?_, g2, k4.tr g3⟩
  rw [← g1]
  unfold gFin adjB
  rw [show w4.1 44 34 = nI s by rw [hw4, sI_same], gj67, gj71]
  by_cases c : s = e
  · rw [if_pos (by rw [c])]
    by_cases c1 : k = 1
    · rw [if_pos (show nI k = 1 by rw [c1]; rfl)]; simp [c, c1]
    · rw [if_neg (show ¬ nI k = 1 from fun z => c1 ((by32 (by omega) 1 (by decide)).mp z))]
      by_cases c2 : k = 2
      · rw [if_pos (show nI k = 2 by rw [c2]; rfl)]; simp [c, c2]
      · rw [if_neg (show ¬ nI k = 2 from fun z => c2 ((by32 (by omega) 2 (by decide)).mp z))]; simp [c1, c2]
  · rw [if_neg (fun z => c ((m_inj (by omega) (by omega)).mp z))]; simp [c]
end TOK2
