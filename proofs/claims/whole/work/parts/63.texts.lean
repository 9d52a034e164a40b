/-! texts: words and numbers, one behind the other -/
def TX (w : Wd) (Q : List Int32) : Prop := w.1 41 1 = nI Q.length ∧ ∀ k x, Q[k]? = some x → w.1 42 k = x
def TY (w : Wd) (Q : List Int32) : Prop := w.1 44 28 = nI Q.length ∧ ∀ k x, Q[k]? = some x → w.1 65 k = x
def wordsL : List Int32 := [99, 121, 99, 108, 105, 99, 0, 100, 105, 104, 101, 100, 114, 97, 108, 0, 113, 117, 97, 116, 101, 114, 110, 105, 111, 110, 0, 115, 101, 116, 0, 115, 105, 122, 101, 0, 116, 114, 105, 112, 108, 101, 115, 0, 102, 114, 101, 101, 0, 102, 117, 108, 108, 0, 111, 112, 101, 110, 0, 99, 111, 109, 112, 108, 101, 116, 101, 0]
def WDS (w : Wd) : Prop := ∀ k, k < 68 → w.1 67 k = wordsL.getD k 0
def wSt (r : Nat) : Nat := [0, 7, 16, 27, 31, 36, 44, 49, 54, 59].getD r 0
def wCl (r : Nat) : Nat := [0, 1, 2, 3, 4, 9, 5, 7, 6, 8].getD r 0
def XW (w w' : Wd) : Prop := (∀ k, k ≠ 41 → k ≠ 42 → w'.1 k = w.1 k) ∧ w'.2 = w.2
def YW (w w' : Wd) : Prop := keepM (fun k => k = 65) (fun j => j = 28) w w'
theorem XW.rf (w : Wd) : XW w w := ⟨fun _ _ _ => rfl, rfl⟩
theorem XW.tr {a b c : Wd} (h : XW a b) (g : XW b c) : XW a c := ⟨fun k p q => (g.1 k p q).trans (h.1 k p q), g.2.trans h.2⟩
theorem YW.rf (w : Wd) : YW w w := ⟨fun _ _ _ => rfl, fun _ _ => rfl, rfl⟩
theorem YW.tr {a b c : Wd} (h : YW a b) (g : YW b c) : YW a c := ⟨fun k p q => (g.1 k p q).trans (h.1 k p q), fun j p => (g.2.1 j p).trans (h.2.1 j p), g.2.2.trans h.2.2⟩
def XA (f : Wd → Option Wd) (A : List Int32) : Prop := ∀ w Q, TX w Q → Q.length + A.length ≤ 128 → ∃ w', f w = some w' ∧ TX w' (Q ++ A) ∧ XW w w'
def YA (f : Wd → Option Wd) (A : List Int32) : Prop := ∀ w Q, WDS w → TY w Q → Q.length + A.length ≤ 200 → ∃ w', f w = some w' ∧ TY w' (Q ++ A) ∧ YW w w'
theorem app_get {Q : List Int32} {c x : Int32} {k : Nat} (h : (Q ++ [c])[k]? = some x) : (k < Q.length ∧ Q[k]? = some x) ∨ (k = Q.length ∧ x = c) := by
  rcases Nat.lt_trichotomy k Q.length with q | q | q
  · rw [List.getElem?_append_left q] at h; exact Or.inl ⟨q, h⟩
  · subst q
    rw [List.getElem?_append_right (Nat.le_refl _), Nat.sub_self] at h
    exact Or.inr ⟨rfl, (Option.some.inj h).symm⟩
  · rw [List.getElem?_eq_none (by simp; omega)] at h; cases h
theorem x_sign (c : Int32) : XA (f_X6_addSign c) [c] := by
  intro w Q h hl
  simp only [List.length_singleton] at hl
  refine ⟨sI (sI w 41 1 (nI (Q.length + 1))) 42 Q.length c, ?_, ⟨?_, ?_⟩, fun k a b => ?_, rfl⟩
  · unfold f_X6_addSign
    rw [h.1, if_neg (show ¬ (128 : Int32) ≤ nI Q.length from nI_ge (b := 128) (by omega) (by decide)), m_letW, nI_1, m_wr (by omega) (by decide)]
  · rw [sI_at, sI_at]; simp
  · intro k x hk
    rw [sI_at, sI_at]
    rcases app_get hk with ⟨a, b⟩ | ⟨a, b⟩
    · rw [if_neg (fun z => by omega), if_neg (fun z => by omega)]; exact h.2 k x b
    · rw [if_pos ⟨rfl, a⟩, b]
  · funext j; rw [sI_at, sI_at]; simp [a, b]
theorem y_sign (c : Int32) : YA (f_X12_writes c) [c] := by
  intro w Q _ h hl
  simp only [List.length_singleton] at hl
  refine ⟨sI (sI w 65 Q.length c) 44 28 (nI (Q.length + 1)), ?_, ⟨?_, ?_⟩, fun k a b => ?_, fun j hj => ?_, rfl⟩
  · unfold f_X12_writes
    rw [h.1, m_wr (by omega) (by decide), m_letW, sI_at, if_neg (by omega), h.1, nI_1]
  · rw [sI_at]; simp
  · intro k x hk
    rw [sI_at, sI_at]
    rcases app_get hk with ⟨a, b⟩ | ⟨a, b⟩
    · rw [if_neg (fun z => by omega), if_neg (fun z => by omega)]; exact h.2 k x b
    · rw [if_neg (fun z => by omega), if_pos ⟨rfl, a⟩, b]
  · funext j; rw [sI_at, sI_at, if_neg (fun z => b z.1), if_neg (fun z => a z.1)]
  · rw [sI_at, sI_at, if_neg (fun z => hj z.2), if_neg (fun z => by omega)]
theorem XA.cat {f g : Wd → Option Wd} {A B : List Int32} (hf : XA f A) (hg : XA g B) : XA (fun w => bnd (f w) g) (A ++ B) := by
  intro w Q h hl
  rw [List.length_append] at hl
  obtain ⟨w1, a1, a2, a3⟩ := hf w Q h (by omega)
  obtain ⟨w2, b1, b2, b3⟩ := hg w1 (Q ++ A) a2 (by rw [List.length_append]; omega)
  exact ⟨w2, by show bnd (f w) g = _; rw [a1, bnd_some, b1], by rw [← List.append_assoc]; exact b2, a3.tr b3⟩
theorem YW.wds {w w' : Wd} (h : YW w w') (hw : WDS w) : WDS w' := fun k hk => by rw [h.1 67 (by decide) (by decide)]; exact hw k hk
theorem YA.cat {f g : Wd → Option Wd} {A B : List Int32} (hf : YA f A) (hg : YA g B) : YA (fun w => bnd (f w) g) (A ++ B) := by
  intro w Q hw h hl
  rw [List.length_append] at hl
  obtain ⟨w1, a1, a2, a3⟩ := hf w Q hw h (by omega)
  obtain ⟨w2, b1, b2, b3⟩ := hg w1 (Q ++ A) (a3.wds hw) a2 (by rw [List.length_append]; omega)
  exact ⟨w2, by show bnd (f w) g = _; rw [a1, bnd_some, b1], by rw [← List.append_assoc]; exact b2, a3.tr b3⟩
theorem XA.nil : XA some [] := fun w Q h _ => ⟨w, rfl, by rw [List.append_nil]; exact h, XW.rf w⟩
theorem YA.nil : YA some [] := fun w Q _ h _ => ⟨w, rfl, by rw [List.append_nil]; exact h, YW.rf w⟩
theorem XA.snoc {f : Wd → Option Wd} {A : List Int32} (hf : XA f A) : XA (fun w => bnd (f w) fun w1 => some w1) A := by
  have := hf.cat XA.nil; rw [List.append_nil] at this; exact this
theorem YA.snoc {f : Wd → Option Wd} {A : List Int32} (hf : YA f A) : YA (fun w => bnd (f w) fun w1 => some w1) A := by
  have := hf.cat YA.nil; rw [List.append_nil] at this; exact this
/-! words -/
abbrev wrd (j : Nat) : List Int32 := bytS.getD j []
theorem wrd_len : ∀ j, j < 10 → (wrd j).length = lenS.getD j 0 := by decide +kernel
theorem wrd_le : ∀ j, j < 10 → (wrd j).length ≤ 10 := by decide +kernel
theorem chS_n {β : Type} {j i : Nat} (hj : j < 10) (h : i < (wrd j).length) (f : Int32 → Option β) : chS j (nI i) f = f ((wrd j).getD i 0) := by
  have h2 := wrd_le j hj
  unfold chS
  rw [← wrd_len j hj, if_pos (m_inb h (by omega)), nI_clamp (by omega)]
theorem x_word0 : XA f_X6_addWord_1000 (wrd 0) := by
  intro w Q h hl
  have hlen : (wrd 0).length = 6 := by decide
  have key := lrun (fun f i (s : Wd) => f_X6_addWord_1000_L2 f (nI i) s) 6 (fun s => some s) (fun i s => TX s (Q ++ (wrd 0).take i) ∧ XW w s) ?_ ?_ 6 0 w FU (by omega) (FU_big (by decide)) ⟨by rw [List.take_zero, List.append_nil]; exact h, XW.rf w⟩
  · obtain ⟨w', ⟨a1, a2⟩, a3⟩ := key
    rw [List.take_of_length_le (by omega)] at a1
    exact ⟨w', a3, a1, a2⟩
  · rintro i s hi ⟨a1, a2⟩
    have hi' : i < (wrd 0).length := by omega
    obtain ⟨s', b1, b2, b3⟩ := x_sign ((wrd 0).getD i 0) s _ a1 (by rw [List.length_append, List.length_take, List.length_singleton]; omega)
    refine ⟨s', ⟨?_, a2.tr b3⟩, fun f => ?_⟩
    · rw [List.take_succ_eq_append_getElem hi', ← List.append_assoc]
      rw [List.getD_eq_getElem?_getD, List.getElem?_eq_getElem hi'] at b2
      exact b2
    · show f_X6_addWord_1000_B2b (f_X6_addWord_1000_L2 f) (nI i) s = _
      unfold f_X6_addWord_1000_B2b
      rw [if_neg (show ¬ (6 : Int32) ≤ nI i from nI_ge (b := 6) hi (by decide)), chS_n (by decide) hi', b1, bnd_some, nI_1]
  · rintro f s ⟨a1, a2⟩
    show f_X6_addWord_1000_B2b (f_X6_addWord_1000_L2 f) (nI 6) s = _
    unfold f_X6_addWord_1000_B2b
    rw [if_pos (show (6 : Int32) ≤ nI 6 from nI_le (a := 6) (by decide) (by decide))]
theorem x_word1 : XA f_X6_addWord_1001 (wrd 1) := by
  intro w Q h hl
  have hlen : (wrd 1).length = 8 := by decide
  have key := lrun (fun f i (s : Wd) => f_X6_addWord_1001_L2 f (nI i) s) 8 (fun s => some s) (fun i s => TX s (Q ++ (wrd 1).take i) ∧ XW w s) ?_ ?_ 8 0 w FU (by omega) (FU_big (by decide)) ⟨by rw [List.take_zero, List.append_nil]; exact h, XW.rf w⟩
  · obtain ⟨w', ⟨a1, a2⟩, a3⟩ := key
    rw [List.take_of_length_le (by omega)] at a1
    exact ⟨w', a3, a1, a2⟩
  · rintro i s hi ⟨a1, a2⟩
    have hi' : i < (wrd 1).length := by omega
    obtain ⟨s', b1, b2, b3⟩ := x_sign ((wrd 1).getD i 0) s _ a1 (by rw [List.length_append, List.length_take, List.length_singleton]; omega)
    refine ⟨s', ⟨?_, a2.tr b3⟩, fun f => ?_⟩
    · rw [List.take_succ_eq_append_getElem hi', ← List.append_assoc]
      rw [List.getD_eq_getElem?_getD, List.getElem?_eq_getElem hi'] at b2
      exact b2
    · show f_X6_addWord_1001_B2b (f_X6_addWord_1001_L2 f) (nI i) s = _
      unfold f_X6_addWord_1001_B2b
      rw [if_neg (show ¬ (8 : Int32) ≤ nI i from nI_ge (b := 8) hi (by decide)), chS_n (by decide) hi', b1, bnd_some, nI_1]
  · rintro f s ⟨a1, a2⟩
    show f_X6_addWord_1001_B2b (f_X6_addWord_1001_L2 f) (nI 8) s = _
    unfold f_X6_addWord_1001_B2b
    rw [if_pos (show (8 : Int32) ≤ nI 8 from nI_le (a := 8) (by decide) (by decide))]
theorem x_word2 : XA f_X6_addWord_1002 (wrd 2) := by
  intro w Q h hl
  have hlen : (wrd 2).length = 10 := by decide
  have key := lrun (fun f i (s : Wd) => f_X6_addWord_1002_L2 f (nI i) s) 10 (fun s => some s) (fun i s => TX s (Q ++ (wrd 2).take i) ∧ XW w s) ?_ ?_ 10 0 w FU (by omega) (FU_big (by decide)) ⟨by rw [List.take_zero, List.append_nil]; exact h, XW.rf w⟩
  · obtain ⟨w', ⟨a1, a2⟩, a3⟩ := key
    rw [List.take_of_length_le (by omega)] at a1
    exact ⟨w', a3, a1, a2⟩
  · rintro i s hi ⟨a1, a2⟩
    have hi' : i < (wrd 2).length := by omega
    obtain ⟨s', b1, b2, b3⟩ := x_sign ((wrd 2).getD i 0) s _ a1 (by rw [List.length_append, List.length_take, List.length_singleton]; omega)
    refine ⟨s', ⟨?_, a2.tr b3⟩, fun f => ?_⟩
    · rw [List.take_succ_eq_append_getElem hi', ← List.append_assoc]
      rw [List.getD_eq_getElem?_getD, List.getElem?_eq_getElem hi'] at b2
      exact b2
    · show f_X6_addWord_1002_B2b (f_X6_addWord_1002_L2 f) (nI i) s = _
      unfold f_X6_addWord_1002_B2b
      rw [if_neg (show ¬ (10 : Int32) ≤ nI i from nI_ge (b := 10) hi (by decide)), chS_n (by decide) hi', b1, bnd_some, nI_1]
  · rintro f s ⟨a1, a2⟩
    show f_X6_addWord_1002_B2b (f_X6_addWord_1002_L2 f) (nI 10) s = _
    unfold f_X6_addWord_1002_B2b
    rw [if_pos (show (10 : Int32) ≤ nI 10 from nI_le (a := 10) (by decide) (by decide))]
theorem x_word3 : XA f_X6_addWord_1003 (wrd 3) := by
  intro w Q h hl
  have hlen : (wrd 3).length = 3 := by decide
  have key := lrun (fun f i (s : Wd) => f_X6_addWord_1003_L2 f (nI i) s) 3 (fun s => some s) (fun i s => TX s (Q ++ (wrd 3).take i) ∧ XW w s) ?_ ?_ 3 0 w FU (by omega) (FU_big (by decide)) ⟨by rw [List.take_zero, List.append_nil]; exact h, XW.rf w⟩
  · obtain ⟨w', ⟨a1, a2⟩, a3⟩ := key
    rw [List.take_of_length_le (by omega)] at a1
    exact ⟨w', a3, a1, a2⟩
  · rintro i s hi ⟨a1, a2⟩
    have hi' : i < (wrd 3).length := by omega
    obtain ⟨s', b1, b2, b3⟩ := x_sign ((wrd 3).getD i 0) s _ a1 (by rw [List.length_append, List.length_take, List.length_singleton]; omega)
    refine ⟨s', ⟨?_, a2.tr b3⟩, fun f => ?_⟩
    · rw [List.take_succ_eq_append_getElem hi', ← List.append_assoc]
      rw [List.getD_eq_getElem?_getD, List.getElem?_eq_getElem hi'] at b2
      exact b2
    · show f_X6_addWord_1003_B2b (f_X6_addWord_1003_L2 f) (nI i) s = _
      unfold f_X6_addWord_1003_B2b
      rw [if_neg (show ¬ (3 : Int32) ≤ nI i from nI_ge (b := 3) hi (by decide)), chS_n (by decide) hi', b1, bnd_some, nI_1]
  · rintro f s ⟨a1, a2⟩
    show f_X6_addWord_1003_B2b (f_X6_addWord_1003_L2 f) (nI 3) s = _
    unfold f_X6_addWord_1003_B2b
    rw [if_pos (show (3 : Int32) ≤ nI 3 from nI_le (a := 3) (by decide) (by decide))]
theorem x_word4 : XA f_X6_addWord_1004 (wrd 4) := by
  intro w Q h hl
  have hlen : (wrd 4).length = 4 := by decide
  have key := lrun (fun f i (s : Wd) => f_X6_addWord_1004_L2 f (nI i) s) 4 (fun s => some s) (fun i s => TX s (Q ++ (wrd 4).take i) ∧ XW w s) ?_ ?_ 4 0 w FU (by omega) (FU_big (by decide)) ⟨by rw [List.take_zero, List.append_nil]; exact h, XW.rf w⟩
  · obtain ⟨w', ⟨a1, a2⟩, a3⟩ := key
    rw [List.take_of_length_le (by omega)] at a1
    exact ⟨w', a3, a1, a2⟩
  · rintro i s hi ⟨a1, a2⟩
    have hi' : i < (wrd 4).length := by omega
    obtain ⟨s', b1, b2, b3⟩ := x_sign ((wrd 4).getD i 0) s _ a1 (by rw [List.length_append, List.length_take, List.length_singleton]; omega)
    refine ⟨s', ⟨?_, a2.tr b3⟩, fun f => ?_⟩
    · rw [List.take_succ_eq_append_getElem hi', ← List.append_assoc]
      rw [List.getD_eq_getElem?_getD, List.getElem?_eq_getElem hi'] at b2
      exact b2
    · show f_X6_addWord_1004_B2b (f_X6_addWord_1004_L2 f) (nI i) s = _
      unfold f_X6_addWord_1004_B2b
      rw [if_neg (show ¬ (4 : Int32) ≤ nI i from nI_ge (b := 4) hi (by decide)), chS_n (by decide) hi', b1, bnd_some, nI_1]
  · rintro f s ⟨a1, a2⟩
    show f_X6_addWord_1004_B2b (f_X6_addWord_1004_L2 f) (nI 4) s = _
    unfold f_X6_addWord_1004_B2b
    rw [if_pos (show (4 : Int32) ≤ nI 4 from nI_le (a := 4) (by decide) (by decide))]
theorem x_word5 : XA f_X6_addWord_1005 (wrd 5) := by
  intro w Q h hl
  have hlen : (wrd 5).length = 4 := by decide
  have key := lrun (fun f i (s : Wd) => f_X6_addWord_1005_L2 f (nI i) s) 4 (fun s => some s) (fun i s => TX s (Q ++ (wrd 5).take i) ∧ XW w s) ?_ ?_ 4 0 w FU (by omega) (FU_big (by decide)) ⟨by rw [List.take_zero, List.append_nil]; exact h, XW.rf w⟩
  · obtain ⟨w', ⟨a1, a2⟩, a3⟩ := key
    rw [List.take_of_length_le (by omega)] at a1
    exact ⟨w', a3, a1, a2⟩
  · rintro i s hi ⟨a1, a2⟩
    have hi' : i < (wrd 5).length := by omega
    obtain ⟨s', b1, b2, b3⟩ := x_sign ((wrd 5).getD i 0) s _ a1 (by rw [List.length_append, List.length_take, List.length_singleton]; omega)
    refine ⟨s', ⟨?_, a2.tr b3⟩, fun f => ?_⟩
    · rw [List.take_succ_eq_append_getElem hi', ← List.append_assoc]
      rw [List.getD_eq_getElem?_getD, List.getElem?_eq_getElem hi'] at b2
      exact b2
    · show f_X6_addWord_1005_B2b (f_X6_addWord_1005_L2 f) (nI i) s = _
      unfold f_X6_addWord_1005_B2b
      rw [if_neg (show ¬ (4 : Int32) ≤ nI i from nI_ge (b := 4) hi (by decide)), chS_n (by decide) hi', b1, bnd_some, nI_1]
  · rintro f s ⟨a1, a2⟩
    show f_X6_addWord_1005_B2b (f_X6_addWord_1005_L2 f) (nI 4) s = _
    unfold f_X6_addWord_1005_B2b
    rw [if_pos (show (4 : Int32) ≤ nI 4 from nI_le (a := 4) (by decide) (by decide))]
theorem x_word6 : XA f_X6_addWord_1006 (wrd 6) := by
  intro w Q h hl
  have hlen : (wrd 6).length = 4 := by decide
  have key := lrun (fun f i (s : Wd) => f_X6_addWord_1006_L2 f (nI i) s) 4 (fun s => some s) (fun i s => TX s (Q ++ (wrd 6).take i) ∧ XW w s) ?_ ?_ 4 0 w FU (by omega) (FU_big (by decide)) ⟨by rw [List.take_zero, List.append_nil]; exact h, XW.rf w⟩
  · obtain ⟨w', ⟨a1, a2⟩, a3⟩ := key
    rw [List.take_of_length_le (by omega)] at a1
    exact ⟨w', a3, a1, a2⟩
  · rintro i s hi ⟨a1, a2⟩
    have hi' : i < (wrd 6).length := by omega
    obtain ⟨s', b1, b2, b3⟩ := x_sign ((wrd 6).getD i 0) s _ a1 (by rw [List.length_append, List.length_take, List.length_singleton]; omega)
    refine ⟨s', ⟨?_, a2.tr b3⟩, fun f => ?_⟩
    · rw [List.take_succ_eq_append_getElem hi', ← List.append_assoc]
      rw [List.getD_eq_getElem?_getD, List.getElem?_eq_getElem hi'] at b2
      exact b2
    · show f_X6_addWord_1006_B2b (f_X6_addWord_1006_L2 f) (nI i) s = _
      unfold f_X6_addWord_1006_B2b
      rw [if_neg (show ¬ (4 : Int32) ≤ nI i from nI_ge (b := 4) hi (by decide)), chS_n (by decide) hi', b1, bnd_some, nI_1]
  · rintro f s ⟨a1, a2⟩
    show f_X6_addWord_1006_B2b (f_X6_addWord_1006_L2 f) (nI 4) s = _
    unfold f_X6_addWord_1006_B2b
    rw [if_pos (show (4 : Int32) ≤ nI 4 from nI_le (a := 4) (by decide) (by decide))]
theorem x_word7 : XA f_X6_addWord_1007 (wrd 7) := by
  intro w Q h hl
  have hlen : (wrd 7).length = 4 := by decide
  have key := lrun (fun f i (s : Wd) => f_X6_addWord_1007_L2 f (nI i) s) 4 (fun s => some s) (fun i s => TX s (Q ++ (wrd 7).take i) ∧ XW w s) ?_ ?_ 4 0 w FU (by omega) (FU_big (by decide)) ⟨by rw [List.take_zero, List.append_nil]; exact h, XW.rf w⟩
  · obtain ⟨w', ⟨a1, a2⟩, a3⟩ := key
    rw [List.take_of_length_le (by omega)] at a1
    exact ⟨w', a3, a1, a2⟩
  · rintro i s hi ⟨a1, a2⟩
    have hi' : i < (wrd 7).length := by omega
    obtain ⟨s', b1, b2, b3⟩ := x_sign ((wrd 7).getD i 0) s _ a1 (by rw [List.length_append, List.length_take, List.length_singleton]; omega)
    refine ⟨s', ⟨?_, a2.tr b3⟩, fun f => ?_⟩
    · rw [List.take_succ_eq_append_getElem hi', ← List.append_assoc]
      rw [List.getD_eq_getElem?_getD, List.getElem?_eq_getElem hi'] at b2
      exact b2
    · show f_X6_addWord_1007_B2b (f_X6_addWord_1007_L2 f) (nI i) s = _
      unfold f_X6_addWord_1007_B2b
      rw [if_neg (show ¬ (4 : Int32) ≤ nI i from nI_ge (b := 4) hi (by decide)), chS_n (by decide) hi', b1, bnd_some, nI_1]
  · rintro f s ⟨a1, a2⟩
    show f_X6_addWord_1007_B2b (f_X6_addWord_1007_L2 f) (nI 4) s = _
    unfold f_X6_addWord_1007_B2b
    rw [if_pos (show (4 : Int32) ≤ nI 4 from nI_le (a := 4) (by decide) (by decide))]
theorem x_word8 : XA f_X6_addWord_1008 (wrd 8) := by
  intro w Q h hl
  have hlen : (wrd 8).length = 8 := by decide
  have key := lrun (fun f i (s : Wd) => f_X6_addWord_1008_L2 f (nI i) s) 8 (fun s => some s) (fun i s => TX s (Q ++ (wrd 8).take i) ∧ XW w s) ?_ ?_ 8 0 w FU (by omega) (FU_big (by decide)) ⟨by rw [List.take_zero, List.append_nil]; exact h, XW.rf w⟩
  · obtain ⟨w', ⟨a1, a2⟩, a3⟩ := key
    rw [List.take_of_length_le (by omega)] at a1
    exact ⟨w', a3, a1, a2⟩
  · rintro i s hi ⟨a1, a2⟩
    have hi' : i < (wrd 8).length := by omega
    obtain ⟨s', b1, b2, b3⟩ := x_sign ((wrd 8).getD i 0) s _ a1 (by rw [List.length_append, List.length_take, List.length_singleton]; omega)
    refine ⟨s', ⟨?_, a2.tr b3⟩, fun f => ?_⟩
    · rw [List.take_succ_eq_append_getElem hi', ← List.append_assoc]
      rw [List.getD_eq_getElem?_getD, List.getElem?_eq_getElem hi'] at b2
      exact b2
    · show f_X6_addWord_1008_B2b (f_X6_addWord_1008_L2 f) (nI i) s = _
      unfold f_X6_addWord_1008_B2b
      rw [if_neg (show ¬ (8 : Int32) ≤ nI i from nI_ge (b := 8) hi (by decide)), chS_n (by decide) hi', b1, bnd_some, nI_1]
  · rintro f s ⟨a1, a2⟩
    show f_X6_addWord_1008_B2b (f_X6_addWord_1008_L2 f) (nI 8) s = _
    unfold f_X6_addWord_1008_B2b
    rw [if_pos (show (8 : Int32) ≤ nI 8 from nI_le (a := 8) (by decide) (by decide))]
theorem x_word9 : XA f_X6_addWord_1009 (wrd 9) := by
  intro w Q h hl
  have hlen : (wrd 9).length = 7 := by decide
  have key := lrun (fun f i (s : Wd) => f_X6_addWord_1009_L2 f (nI i) s) 7 (fun s => some s) (fun i s => TX s (Q ++ (wrd 9).take i) ∧ XW w s) ?_ ?_ 7 0 w FU (by omega) (FU_big (by decide)) ⟨by rw [List.take_zero, List.append_nil]; exact h, XW.rf w⟩
  · obtain ⟨w', ⟨a1, a2⟩, a3⟩ := key
    rw [List.take_of_length_le (by omega)] at a1
    exact ⟨w', a3, a1, a2⟩
  · rintro i s hi ⟨a1, a2⟩
    have hi' : i < (wrd 9).length := by omega
    obtain ⟨s', b1, b2, b3⟩ := x_sign ((wrd 9).getD i 0) s _ a1 (by rw [List.length_append, List.length_take, List.length_singleton]; omega)
    refine ⟨s', ⟨?_, a2.tr b3⟩, fun f => ?_⟩
    · rw [List.take_succ_eq_append_getElem hi', ← List.append_assoc]
      rw [List.getD_eq_getElem?_getD, List.getElem?_eq_getElem hi'] at b2
      exact b2
    · show f_X6_addWord_1009_B2b (f_X6_addWord_1009_L2 f) (nI i) s = _
      unfold f_X6_addWord_1009_B2b
      rw [if_neg (show ¬ (7 : Int32) ≤ nI i from nI_ge (b := 7) hi (by decide)), chS_n (by decide) hi', b1, bnd_some, nI_1]
  · rintro f s ⟨a1, a2⟩
    show f_X6_addWord_1009_B2b (f_X6_addWord_1009_L2 f) (nI 7) s = _
    unfold f_X6_addWord_1009_B2b
    rw [if_pos (show (7 : Int32) ≤ nI 7 from nI_le (a := 7) (by decide) (by decide))]
def wfO : Nat → Nat → Nat → Option Nat
  | 0, _, _ => none
  | k + 1, fr, op => if op = 0 then some fr else if 68 ≤ fr then none else wfO k (fr + 1) (if wordsL.getD fr 0 = 0 then op - 1 else op)
theorem y_from_loop {w : Wd} (hw : WDS w) : ∀ k fr op r f, wfO k fr op = some r → op < 2 ^ 31 → k < f → f_X12_wordFrom_L4 f (nI fr) (nI op) w = some (nI r) := by
  intro k
  induction k with
  | zero => intro fr op r f h; cases h
  | succ k ih =>
    intro fr op r f h ho hf
    obtain ⟨f, rfl⟩ : ∃ q, f = q + 1 := ⟨f - 1, by omega⟩
    show f_X12_wordFrom_B4b (f_X12_wordFrom_L4 f) (nI fr) (nI op) w = _
    unfold f_X12_wordFrom_B4b
    simp only [wfO] at h
    rcases Nat.eq_zero_or_pos op with q | q
    · subst q
      rw [if_pos rfl] at h
      rw [if_pos (show nI 0 ≤ 0 by decide), Option.some.inj h]
    · rw [if_neg (by omega)] at h
      split at h
      · cases h
      · next c =>
        rw [if_neg (nI_nle q ho), m_rd (by omega) (by decide), hw fr (by omega), nI_1]
        obtain ⟨o', rfl⟩ : ∃ o', op = o' + 1 := ⟨op - 1, by omega⟩
        split at h
        · next d => rw [if_pos d, pk_m1]; exact ih _ _ _ _ h (by omega) (by omega)
        · next d => rw [if_neg d]; exact ih _ _ _ _ h ho (by omega)
theorem wfO_ok : ∀ r, r < 10 → wfO 69 0 r = some (wSt r) := by decide +kernel
theorem y_from {w : Wd} (hw : WDS w) {r : Nat} (hr : r < 10) : f_X12_wordFrom (nI r) w = some (nI (wSt r)) := y_from_loop hw 69 0 r _ FU (wfO_ok r hr) (by omega) (FU_big (by decide))
theorem wrd_at : ∀ r, r < 10 → wSt r + (wrd (wCl r)).length < 68 ∧ wordsL.getD (wSt r + (wrd (wCl r)).length) 0 = 0 ∧ ∀ i, i < (wrd (wCl r)).length → wordsL.getD (wSt r + i) 0 = (wrd (wCl r)).getD i 0 ∧ ¬ (wrd (wCl r)).getD i 0 = 0 := by decide +kernel
theorem y_word {r : Nat} (hr : r < 10) : YA (f_X12_writesWord (nI r)) (wrd (wCl r)) := by
  intro w Q hw h hl
  obtain ⟨c1, c2, c3⟩ := wrd_at r hr
  unfold f_X12_writesWord
  rw [y_from hw hr, bnd_some]
  have key := lrun (fun f i (s : Wd) => f_X12_writesWord_L6 f (nI (wSt r + i)) s) (wrd (wCl r)).length (fun s => some s) (fun i s => TY s (Q ++ (wrd (wCl r)).take i) ∧ YW w s) ?_ ?_ (wrd (wCl r)).length 0 w FU (by omega) (FU_big (by omega)) ⟨by rw [List.take_zero, List.append_nil]; exact h, YW.rf w⟩
  · obtain ⟨w', ⟨a1, a2⟩, a3⟩ := key
    rw [List.take_length] at a1
    exact ⟨w', a3, a1, a2⟩
  · rintro i s hi ⟨a1, a2⟩
    have hs := a2.wds hw
    obtain ⟨s', b1, b2, b3⟩ := y_sign ((wrd (wCl r)).getD i 0) s _ hs a1 (by rw [List.length_append, List.length_take, List.length_singleton]; omega)
    refine ⟨s', ⟨?_, a2.tr b3⟩, fun f => ?_⟩
    · rw [List.take_succ_eq_append_getElem hi, ← List.append_assoc]
      rw [List.getD_eq_getElem?_getD, List.getElem?_eq_getElem hi] at b2
      exact b2
    · show f_X12_writesWord_B6b (f_X12_writesWord_L6 f) (nI (wSt r + i)) s = _
      unfold f_X12_writesWord_B6b
      rw [m_rd (by omega) (by decide), m_rd (by omega) (by decide), hs _ (by omega), (c3 i hi).1, if_neg (c3 i hi).2, b1, bnd_some, nI_1]
      rfl
  · rintro f s ⟨a1, a2⟩
    have hs := a2.wds hw
    show f_X12_writesWord_B6b (f_X12_writesWord_L6 f) (nI (wSt r + (wrd (wCl r)).length)) s = _
    unfold f_X12_writesWord_B6b
    rw [m_rd c1 (by decide), hs _ c1, c2, if_pos rfl]
/-! numbers -/
def nmT (v : Nat) : List Int32 := (if v < 10 then [] else [nI (48 + v / 10 % 10)]) ++ [nI (48 + v % 10)]
def nmL (v : Nat) : List Int32 := [32] ++ ((if v < 100 then [] else [nI (48 + v / 100)]) ++ nmT v)
theorem nm_dig {v : Nat} (hv : v < 2 ^ 31) : (48 : Int32) + rem32 (nI v) 10 = nI (48 + v % 10) ∧ (48 : Int32) + rem32 (nI v / 10) 10 = nI (48 + v / 10 % 10) ∧ (48 : Int32) + nI v / 100 = nI (48 + v / 100) := by
  refine ⟨?_, ?_, ?_⟩
  · have := pk_rem (a := v) (d := 10) hv (by decide) (by decide)
    show nI 48 + (nI v - nI v / nI 10 * nI 10) = _
    rw [this, nI_add]
  · have h1 := pk_div (a := v) (d := 10) hv (by decide) (by decide)
    have := pk_rem (a := v / 10) (d := 10) (by omega) (by decide) (by decide)
    show nI 48 + (nI v / nI 10 - nI v / nI 10 / nI 10 * nI 10) = _
    rw [h1, this, nI_add]
  · have h1 := pk_div (a := v) (d := 100) hv (by decide) (by decide)
    show nI 48 + nI v / nI 100 = _
    rw [h1, nI_add]
theorem x_numT {v : Nat} (hv : v < 2 ^ 31) : XA (f_X6_addNumber_J23 (nI v)) (nmT v) := by
  obtain ⟨d1, d2, d3⟩ := nm_dig hv
  unfold f_X6_addNumber_J23 nmT
  rw [d1, d2]
  by_cases c : v < 10
  · simp only [if_pos c, if_pos (show nI v < (10 : Int32) from nI_lt (b := 10) c (by decide)), List.nil_append]
    exact (x_sign _).snoc
  · simp only [if_neg c, if_neg (show ¬ nI v < (10 : Int32) from nI_nlt (b := 10) (by omega) hv)]
    exact (x_sign _).cat (x_sign _).snoc
theorem x_num {v : Nat} (hv : v < 2 ^ 31) : XA (f_X6_addNumber (nI v)) (nmL v) := by
  obtain ⟨d1, d2, d3⟩ := nm_dig hv
  unfold f_X6_addNumber nmL
  rw [d3]
  by_cases c : v < 100
  · simp only [if_pos c, if_pos (show nI v < (100 : Int32) from nI_lt (b := 100) c (by decide)), List.nil_append]
    exact (x_sign _).cat (x_numT hv)
  · simp only [if_neg c, if_neg (show ¬ nI v < (100 : Int32) from nI_nlt (b := 100) (by omega) hv)]
    exact (x_sign _).cat ((x_sign _).cat (x_numT hv))
theorem y_numT {v : Nat} (hv : v < 2 ^ 31) : YA (f_X12_writesNumber_J23 (nI v)) (nmT v) := by
  obtain ⟨d1, d2, d3⟩ := nm_dig hv
  unfold f_X12_writesNumber_J23 nmT
  rw [d1, d2]
  by_cases c : v < 10
  · simp only [if_pos c, if_pos (show nI v ≤ (9 : Int32) from nI_le (b := 9) (by omega) (by decide)), List.nil_append]
    exact (y_sign _).snoc
  · simp only [if_neg c, if_neg (show ¬ nI v ≤ (9 : Int32) from nI_ge (a := 9) (by omega) hv)]
    exact (y_sign _).cat (y_sign _).snoc
theorem y_num {v : Nat} (hv : v < 2 ^ 31) : YA (f_X12_writesNumber (nI v)) (nmL v) := by
  obtain ⟨d1, d2, d3⟩ := nm_dig hv
  unfold f_X12_writesNumber nmL
  rw [d3]
  by_cases c : v < 100
  · simp only [if_pos c, if_pos (show nI v ≤ (99 : Int32) from nI_le (b := 99) (by omega) (by decide)), List.nil_append]
    exact (y_sign _).cat (y_numT hv)
  · simp only [if_neg c, if_neg (show ¬ nI v ≤ (99 : Int32) from nI_ge (a := 99) (by omega) hv)]
    exact (y_sign _).cat ((y_sign _).cat (y_numT hv))
theorem nmL_le (v : Nat) : (nmL v).length ≤ 4 := by
  unfold nmL nmT
  by_cases c : v < 100 <;> by_cases d : v < 10 <;> simp [c, d]
theorem nmL_le3 {v : Nat} (h : v < 100) : (nmL v).length ≤ 3 := by
  unfold nmL nmT
  by_cases d : v < 10 <;> simp [h, d]
theorem x_end : XA f_X6_addEnd [59] := (x_sign 59).snoc
theorem x_cnt0 {v : Nat} (hv : v < 2 ^ 31) : XA (f_X6_addCounted_1000 (nI v)) (wrd 0 ++ (nmL v ++ [59])) := x_word0.cat ((x_num hv).cat x_end.snoc)
theorem x_cnt1 {v : Nat} (hv : v < 2 ^ 31) : XA (f_X6_addCounted_1001 (nI v)) (wrd 1 ++ (nmL v ++ [59])) := x_word1.cat ((x_num hv).cat x_end.snoc)
theorem x_cnt4 {v : Nat} (hv : v < 2 ^ 31) : XA (f_X6_addCounted_1004 (nI v)) (wrd 4 ++ (nmL v ++ [59])) := x_word4.cat ((x_num hv).cat x_end.snoc)
theorem x_cnt6 {v : Nat} (hv : v < 2 ^ 31) : XA (f_X6_addCounted_1006 (nI v)) (wrd 6 ++ (nmL v ++ [59])) := x_word6.cat ((x_num hv).cat x_end.snoc)
theorem x_cnt9 {v : Nat} (hv : v < 2 ^ 31) : XA (f_X6_addCounted_1009 (nI v)) (wrd 9 ++ (nmL v ++ [59])) := x_word9.cat ((x_num hv).cat x_end.snoc)
theorem y_line {r : Nat} (hr : r < 10) : YA (f_X12_writesLine (nI r)) (wrd (wCl r) ++ [59]) := (y_word hr).cat (y_sign 59).snoc
theorem y_rowW {r v : Nat} (hr : r < 10) (hv : v < 2 ^ 31) : YA (f_X12_writesRow (nI r) (nI v)) (wrd (wCl r) ++ (nmL v ++ [59])) := (y_word hr).cat ((y_num hv).cat (y_sign 59).snoc)
/-- what is told of a text -/
def tld (Q : List Int32) (i : Int32) : Int32 := if i = -1 then nI Q.length else if nI Q.length ≤ i then -2 else Q.getD i.toNatClampNeg 0
theorem x_answer {w : Wd} {Q : List Int32} (h : TX w Q) (hQ : Q.length ≤ 128) {i : Int32} (hi : (-1) ≤ i) : f_X6_answer i w = some (tld Q i) := by
  unfold f_X6_answer tld
  rw [h.1]
  by_cases c : i = -1
  · rw [if_pos c, if_pos c]
  · rw [if_neg c, if_neg c]
    have hi0 : ¬ i < 0 := by
      intro q
      apply c
      apply Int32.toInt_inj.mp
      have h1 : (-1 : Int32).toInt ≤ i.toInt := Int32.le_iff_toInt_le.mp hi
      have h2 : i.toInt < (0 : Int32).toInt := Int32.lt_iff_toInt_lt.mp q
      have e1 : (-1 : Int32).toInt = -1 := by decide
      have e0 : (0 : Int32).toInt = 0 := by decide
      rw [e1] at h1 ⊢
      rw [e0] at h2
      omega
    rw [if_neg hi0]
    split
    · rfl
    · next d =>
      obtain ⟨k, hk, rfl⟩ := nI_of hi0
      rw [m_le (by omega) hk] at d
      rw [m_rd (by omega) (by decide), nI_clamp hk, h.2 k (Q.getD k 0) (by rw [List.getD_eq_getElem?_getD, List.getElem?_eq_getElem (by omega)]; rfl)]
theorem y_told {w : Wd} {Q : List Int32} (h : TY w Q) (hQ : Q.length ≤ 128) {i : Int32} (hi : (-1) ≤ i) : f_X12_toldText i w = some (tld Q i) := by
  unfold f_X12_toldText tld
  rw [h.1]
  by_cases c : i = -1
  · rw [if_pos c, if_pos c]
  · rw [if_neg c, if_neg c]
    have hi0 : ¬ i < 0 := by
      intro q
      apply c
      apply Int32.toInt_inj.mp
      have h1 : (-1 : Int32).toInt ≤ i.toInt := Int32.le_iff_toInt_le.mp hi
      have h2 : i.toInt < (0 : Int32).toInt := Int32.lt_iff_toInt_lt.mp q
      have e1 : (-1 : Int32).toInt = -1 := by decide
      have e0 : (0 : Int32).toInt = 0 := by decide
      rw [e1] at h1 ⊢
      rw [e0] at h2
      omega
    split
    · rfl
    · next d =>
      obtain ⟨k, hk, rfl⟩ := nI_of hi0
      rw [m_le (by omega) hk] at d
      rw [m_rd (by omega) (by decide), nI_clamp hk, h.2 k (Q.getD k 0) (by rw [List.getD_eq_getElem?_getD, List.getElem?_eq_getElem (by omega)]; rfl)]
