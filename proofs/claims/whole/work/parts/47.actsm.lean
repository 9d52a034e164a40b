/-! acts of the reference -/
/-- only the cells of K may be other ones; of the reference's own numbers only those of J -/
def keepM (K : Nat → Prop) (J : Nat → Prop) (w w' : Wd) : Prop := (∀ k, ¬ K k → k ≠ 44 → w'.1 k = w.1 k) ∧ (∀ j, ¬ J j → w'.1 44 j = w.1 44 j) ∧ w'.2 = w.2
def gs (q : Nat) : Nat := if q = 0 then 19 else if q < 4 then q + 15 else q - 4
theorem gs_lt {q : Nat} (h : q < 20) : gs q < 20 := by unfold gs; split; omega; split <;> omega
def sg (p : Nat) : Nat := if p < 16 then p + 4 else if p < 19 then p - 15 else 0
theorem gs_sg {p : Nat} (h : p < 20) : gs (sg p) = p ∧ sg p < 20 := by unfold sg; split; (constructor; (unfold gs; split; omega; split <;> omega); omega); split; (constructor; (unfold gs; split; omega; split <;> omega); omega); (constructor; (unfold gs; split <;> omega); omega)
theorem gs_inj {q p : Nat} (hq : q < 20) (hp : p < 20) : gs q = p ↔ q = sg p := by
  unfold gs sg
  constructor
  · intro h
    split at h
    · split; omega; split <;> omega
    · split at h
      · split; omega; split <;> omega
      · split; omega; split <;> omega
  · intro h
    subst h
    have := (gs_sg hp).1
    unfold gs sg at this
    exact this
def AM (w : Wd) (v : Nat → Int32) (H : List (Nat × Int32)) : Prop := (∀ q, q < 20 → w.1 54 q = v (gs q)) ∧ w.1 44 15 = nI H.length ∧ H.length ≤ 12 ∧ ∀ j, j < H.length → ∀ q, q < 20 → w.1 55 (20 * (H.length - 1 - j) + q) = und v H (j + 1) (gs q)
theorem y_copy {w : Wd} {a : Nat} (ha : a < 12) (hw : w.1 44 15 = nI a) : ∃ w', f_X12_keeps_L52 FU (nI 0) w = some w' ∧ (∀ k, k ≠ 44 → k ≠ 55 → w'.1 k = w.1 k) ∧ (∀ j, j ≠ 15 → w'.1 44 j = w.1 44 j) ∧ w'.2 = w.2 ∧ w'.1 44 15 = nI (a + 1) ∧ ∀ b, w'.1 55 b = if 20 * a ≤ b ∧ b < 20 * a + 20 then w.1 54 (b - 20 * a) else w.1 55 b := by
  have key := lup (fun f i (x : Wd) => f_X12_keeps_L52 f (nI i) x) 20 (fun i x => sI x 55 (20 * a + i) (x.1 54 i)) (fun x => some (sI x 44 15 (x.1 44 15 + 1))) (fun i x => (∀ k, k ≠ 55 → x.1 k = w.1 k) ∧ x.2 = w.2 ∧ ∀ b, x.1 55 b = if 20 * a ≤ b ∧ b < 20 * a + i then w.1 54 (b - 20 * a) else w.1 55 b) ?_ ?_ ?_ 20 0 w FU (by omega) (FU_big (by decide)) ⟨fun _ _ => rfl, rfl, fun b => by rw [if_neg (by omega)]⟩
  · obtain ⟨k1, k2, k3, k4⟩ := key
    refine ⟨_, k1, fun k h1 h2 => ?_, fun j hj => ?_, k3, ?_, fun b => ?_⟩
    · rw [sI_row _ _ _ _ h1]; exact k2 k h2
    · rw [sI_at, if_neg (fun z => hj z.2), k2 44 (by decide)]
    · rw [sI_same, k2 44 (by decide), hw, nI_1]
    · rw [sI_at, if_neg (by omega)]; exact k4 b
  · intro f i x hi ⟨g1, g2, g3⟩
    show f_X12_keeps_B52b (f_X12_keeps_L52 f) (nI i) x = _
    unfold f_X12_keeps_B52b
    rw [if_neg (by show ¬ nI 20 ≤ _; rw [m_le (by decide) (by omega)]; omega), m_rd hi (by decide), g1 44 (by decide), hw]
    show wrI x 55 240 (nI 20 * nI a + nI i) _ _ = _
    rw [pk_mul, nI_add, m_wr (by omega) (by decide), nI_1]
  · intro i x hi ⟨g1, g2, g3⟩
    refine ⟨fun k hk => by rw [sI_row _ _ _ _ hk]; exact g1 k hk, g2, fun b => ?_⟩
    rw [sI_at, g3 b, g1 54 (by decide)]
    by_cases c : b = 20 * a + i
    · rw [if_pos ⟨rfl, c⟩, if_pos (by omega), show b - 20 * a = i by omega]
    · rw [if_neg (fun z => c z.2)]
      by_cases d : 20 * a ≤ b ∧ b < 20 * a + i
      · rw [if_pos d, if_pos (by omega)]
      · rw [if_neg d, if_neg (by omega)]
  · intro f x ⟨g1, g2, g3⟩
    show f_X12_keeps_B52b (f_X12_keeps_L52 f) (nI 20) x = _
    unfold f_X12_keeps_B52b
    rw [if_pos (by show nI 20 ≤ nI 20; rw [m_le (by decide) (by decide)]; omega)]
    rfl
theorem y_slide {w : Wd} (hw : w.1 44 15 = nI 12) : ∃ w1, f_X12_keeps_L12 FU (nI 20) w = f_X12_keeps_L52 FU (nI 0) w1 ∧ (∀ k, k ≠ 44 → k ≠ 55 → w1.1 k = w.1 k) ∧ (∀ j, j ≠ 15 → w1.1 44 j = w.1 44 j) ∧ w1.2 = w.2 ∧ w1.1 44 15 = nI 11 ∧ ∀ b, w1.1 55 b = if b < 220 then w.1 55 (b + 20) else w.1 55 b := by
  have key := lup (fun f i (x : Wd) => f_X12_keeps_L12 f (nI i) x) 240 (fun i x => sI x 55 (i - 20) (x.1 55 i)) (fun x => f_X12_keeps_L52 FU (nI 0) (sI x 44 15 (x.1 44 15 - 1))) (fun i x => 20 ≤ i ∧ (∀ k, k ≠ 55 → x.1 k = w.1 k) ∧ x.2 = w.2 ∧ ∀ b, x.1 55 b = if b + 20 < i then w.1 55 (b + 20) else w.1 55 b) ?_ ?_ ?_ 220 20 w FU (by omega) (FU_big (by decide)) ⟨Nat.le_refl _, fun _ _ => rfl, rfl, fun b => by rw [if_neg (by omega)]⟩
  · obtain ⟨k1, -, k2, k3, k4⟩ := key
    refine ⟨_, k1, fun k h1 h2 => ?_, fun j hj => ?_, k3, ?_, fun b => ?_⟩
    · rw [sI_row _ _ _ _ h1]; exact k2 k h2
    · rw [sI_at, if_neg (fun z => hj z.2), k2 44 (by decide)]
    · rw [sI_same, k2 44 (by decide), hw]; rfl
    · rw [sI_at, if_neg (by omega), k4 b]
      by_cases c : b < 220
      · rw [if_pos (by omega), if_pos c]
      · rw [if_neg (by omega), if_neg c]
  · intro f i x hi ⟨g0, g1, g2, g3⟩
    show f_X12_keeps_B12b (f_X12_keeps_L12 f) (nI i) x = _
    unfold f_X12_keeps_B12b
    rw [if_neg (by show ¬ nI 240 ≤ _; rw [m_le (by decide) (by omega)]; omega), m_rd hi (by decide)]
    show wrI x 55 240 (nI i - nI 20) _ _ = _
    rw [pk_sub g0, m_wr (by omega) (by decide), nI_1]
  · intro i x hi ⟨g0, g1, g2, g3⟩
    refine ⟨by omega, fun k hk => by rw [sI_row _ _ _ _ hk]; exact g1 k hk, g2, fun b => ?_⟩
    rw [sI_at, g3 b, g3 i]
    by_cases c : b = i - 20
    · rw [if_pos ⟨rfl, c⟩, if_neg (by omega), if_pos (by omega), show b + 20 = i by omega]
    · rw [if_neg (fun z => c z.2)]
      by_cases d : b + 20 < i
      · rw [if_pos d, if_pos (by omega)]
      · rw [if_neg d, if_neg (by omega)]
  · intro f x ⟨g0, g1, g2, g3⟩
    show f_X12_keeps_B12b (f_X12_keeps_L12 f) (nI 240) x = _
    unfold f_X12_keeps_B12b
    rw [if_pos (by show nI 240 ≤ nI 240; rw [m_le (by decide) (by decide)]; omega)]
    rfl
theorem und_succ (v : Nat → Int32) (p : Nat) (o : Int32) (t : List (Nat × Int32)) (j : Nat) : und v ((p, o) :: t) (j + 1) = und (upd v p o) t j := rfl
theorem und_take : ∀ (t : List (Nat × Int32)) (v : Nat → Int32) (m j : Nat), j ≤ m → und v (t.take m) j = und v t j
  | [], v, m, j, _ => by simp
  | q :: t, v, 0, j, h => by have : j = 0 := by omega
                             subst this; cases hq : (q :: t).take 0 <;> rfl
  | q :: t, v, m + 1, 0, h => rfl
  | q :: t, v, m + 1, j + 1, h => by
    show und (upd v q.1 q.2) (t.take m) j = und (upd v q.1 q.2) t j
    exact und_take t _ m j (by omega)
theorem upd_back (v : Nat → Int32) (p : Nat) (y : Int32) : upd (upd v p y) p (v p) = v := by funext k; simp only [upd]; split <;> simp_all
theorem y_changes0 {w : Wd} {v : Nat → Int32} {H : List (Nat × Int32)} (h : AM w v H) {p : Nat} (hp : p < 20) {y : Int32} (he : v p = y) : f_X12_changes (nI (sg p)) y w = some ((-1), w) := by
  have hs := gs_sg hp
  unfold f_X12_changes
  rw [m_rd hs.2 (by decide), h.1 _ hs.2, hs.1, if_pos he]
theorem y_changes1 {w : Wd} {v : Nat → Int32} {H : List (Nat × Int32)} (h : AM w v H) {p : Nat} (hp : p < 20) {y : Int32} (he : ¬ v p = y) : ∃ w', f_X12_changes (nI (sg p)) y w = some (v p, w') ∧ AM w' (upd v p y) (((p, v p) :: H).take 12) ∧ keepM (fun k => k = 54 ∨ k = 55) (fun j => j = 15) w w' := by
  have hs := gs_sg hp
  obtain ⟨h1, h2, h3, h4⟩ := id h
  have keeps : ∃ w', f_X12_keeps w = some w' ∧ (∀ k, k ≠ 44 → k ≠ 55 → w'.1 k = w.1 k) ∧ (∀ j, j ≠ 15 → w'.1 44 j = w.1 44 j) ∧ w'.2 = w.2 ∧ w'.1 44 15 = nI (((p, v p) :: H).take 12).length ∧ ∀ j, j < (((p, v p) :: H).take 12).length → ∀ q, q < 20 → w'.1 55 (20 * ((((p, v p) :: H).take 12).length - 1 - j) + q) = und v H j (gs q) := by
    unfold f_X12_keeps
    rw [h2]
    rw [List.length_take, List.length_cons]
    by_cases c : H.length = 12
    · rw [if_pos (by rw [c]; rfl)]
      obtain ⟨w1, e1, g1, g2, g3, g4, g5⟩ := y_slide (w := w) (by rw [h2, c])
      obtain ⟨w', e2, k1, k2, k3, k4, k5⟩ := y_copy (w := w1) (a := 11) (by decide) g4
      refine ⟨w', e1.trans e2, fun k a b => (k1 k a b).trans (g1 k a b), fun j a => (k2 j a).trans (g2 j a), k3.trans g3, by rw [k4, c]; rfl, fun j hj q hq => ?_⟩
      rw [k5]
      by_cases c2 : j = 0
      · subst c2
        rw [if_pos (by omega), g1 54 (by decide) (by decide), show 20 * (min 12 (H.length + 1) - 1 - 0) + q - 20 * 11 = q by omega, h1 q hq]
        cases H <;> rfl
      · rw [if_neg (by omega), g5, if_pos (by omega)]
        obtain ⟨i, rfl⟩ : ∃ i, j = i + 1 := ⟨j - 1, by omega⟩
        rw [show 20 * (min 12 (H.length + 1) - 1 - (i + 1)) + q + 20 = 20 * (H.length - 1 - i) + q by omega]
        exact h4 i (by omega) q hq
    · rw [if_neg (by show ¬ nI H.length = nI 12; rw [m_inj (by omega) (by decide)]; exact c)]
      obtain ⟨w', e2, k1, k2, k3, k4, k5⟩ := y_copy (w := w) (a := H.length) (by omega) h2
      refine ⟨w', e2, k1, k2, k3, by rw [k4]; congr 1; omega, fun j hj q hq => ?_⟩
      rw [k5]
      by_cases c2 : j = 0
      · subst c2
        rw [if_pos (by omega), show 20 * (min 12 (H.length + 1) - 1 - 0) + q - 20 * H.length = q by omega, h1 q hq]
        cases H <;> rfl
      · rw [if_neg (by omega)]
        obtain ⟨i, rfl⟩ : ∃ i, j = i + 1 := ⟨j - 1, by omega⟩
        rw [show 20 * (min 12 (H.length + 1) - 1 - (i + 1)) + q = 20 * (H.length - 1 - i) + q by omega]
        exact h4 i (by omega) q hq
  obtain ⟨w1, e1, k1, k2, k3, k4, k5⟩ := keeps
  unfold f_X12_changes
  rw [m_rd hs.2 (by decide), h1 _ hs.2, hs.1, if_neg he, m_bnd e1, m_rd hs.2 (by decide), m_wr hs.2 (by decide), k1 54 (by decide) (by decide), h1 _ hs.2, hs.1]
  refine ⟨_, rfl, ⟨fun q hq => ?_, ?_, ?_, fun j hj q hq => ?_⟩, fun k a b => ?_, fun j a => ?_, k3⟩
  · rw [sI_at]
    by_cases c : q = sg p
    · rw [if_pos ⟨rfl, c⟩, c, hs.1]; simp [upd]
    · rw [if_neg (fun z => c z.2), k1 54 (by decide) (by decide), h1 q hq]
      have : gs q ≠ p := fun z => c ((gs_inj hq hp).mp z)
      simp [upd, this]
  · rw [sI_at, if_neg (by omega), k4]
  · rw [List.length_take]; omega
  · rw [sI_at, if_neg (by omega), k5 j hj q hq]
    have hj12 : j + 1 ≤ 12 := by rw [List.length_take] at hj; omega
    rw [und_take _ _ 12 (j + 1) hj12, und_succ, upd_back]
  · rw [sI_row _ _ _ _ (fun z => a (Or.inl z)), k1 k b (fun z => a (Or.inr z))]
  · rw [sI_at, if_neg (by omega), k2 j a]
theorem y_undo0 {w : Wd} {v : Nat → Int32} (h : AM w v []) : f_X12_undo w = some ((-1), w) := by
  unfold f_X12_undo
  rw [h.2.1, if_pos (show nI ([] : List (Nat × Int32)).length = 0 from rfl)]
theorem y_undo1 {w : Wd} {v : Nat → Int32} {p : Nat} {o : Int32} {H : List (Nat × Int32)} (h : AM w v ((p, o) :: H)) : ∃ w', f_X12_undo w = some (nI H.length, w') ∧ AM w' (upd v p o) H ∧ keepM (fun k => k = 54) (fun j => j = 15) w w' := by
  obtain ⟨h1, h2, h3, h4⟩ := h
  rw [List.length_cons] at h2 h3 h4
  unfold f_X12_undo
  rw [h2, if_neg (by rw [nIz (by omega)]; omega), m_letW, nI_pred]
  have hs : (sI w 44 15 (nI H.length)).1 44 15 = nI H.length := sI_same _ _ _ _
  have key := lup (fun f i (x : Wd) => f_X12_undo_L21 f (nI i) x) 20 (fun i x => sI x 54 i (x.1 55 (20 * H.length + i))) (fun x => some (nI H.length, x)) (fun i x => (∀ k, k ≠ 54 → x.1 k = (sI w 44 15 (nI H.length)).1 k) ∧ x.2 = w.2 ∧ ∀ b, x.1 54 b = if b < i then w.1 55 (20 * H.length + b) else w.1 54 b) ?_ ?_ ?_ 20 0 (sI w 44 15 (nI H.length)) FU (by omega) (FU_big (by decide)) ⟨fun _ _ => rfl, rfl, fun b => by rw [if_neg (by omega), sI_at, if_neg (by omega)]⟩
  · obtain ⟨k1, k2, k3, k4⟩ := key
    refine ⟨_, k1, ⟨fun q hq => ?_, ?_, by omega, fun j hj q hq => ?_⟩, fun k a b => ?_, fun j a => ?_, k3⟩
    · rw [k4, if_pos hq]
      have := h4 0 (by omega) q hq
      rw [show H.length + 1 - 1 - 0 = H.length by omega] at this
      rw [this, und_succ]
      cases H <;> rfl
    · rw [k2 44 (by decide)]; exact hs
    · rw [k2 55 (by decide), sI_row _ _ _ _ (by decide)]
      have := h4 (j + 1) (by omega) q hq
      rw [show H.length + 1 - 1 - (j + 1) = H.length - 1 - j by omega] at this
      rw [this, und_succ]
    · rw [k2 k a, sI_row _ _ _ _ b]
    · rw [k2 44 (by decide), sI_at, if_neg (fun z => a z.2)]
  · intro f i x hi ⟨g1, g2, g3⟩
    show f_X12_undo_B21b (f_X12_undo_L21 f) (nI i) x = _
    unfold f_X12_undo_B21b
    rw [if_neg (by show ¬ nI 20 ≤ _; rw [m_le (by decide) (by omega)]; omega), g1 44 (by decide), hs]
    show rdI x 55 240 (nI 20 * nI H.length + nI i) _ = _
    rw [pk_mul, nI_add, m_rd (by omega) (by decide), m_wr hi (by decide), nI_1]
  · intro i x hi ⟨g1, g2, g3⟩
    refine ⟨fun k hk => by rw [sI_row _ _ _ _ hk]; exact g1 k hk, g2, fun b => ?_⟩
    rw [sI_at, g3 b, g1 55 (by decide), sI_row _ _ _ _ (by decide)]
    by_cases c : b = i
    · rw [if_pos ⟨rfl, c⟩, if_pos (by omega), c]
    · rw [if_neg (fun z => c z.2)]
      by_cases d : b < i
      · rw [if_pos d, if_pos (by omega)]
      · rw [if_neg d, if_neg (by omega)]
  · intro f x ⟨g1, g2, g3⟩
    show f_X12_undo_B21b (f_X12_undo_L21 f) (nI 20) x = _
    unfold f_X12_undo_B21b
    rw [if_pos (by show nI 20 ≤ nI 20; rw [m_le (by decide) (by decide)]; omega), g1 44 (by decide), hs]
theorem x_undo0 {w : Wd} {v : Nat → Int32} (h : AX w v []) : f_X11_undo w = some ((-1), w) := by
  unfold f_X11_undo f_X0_takeBack
  rw [h.2.1, if_pos (show nI ([] : List (Nat × Int32)).length = 0 from rfl)]
  rfl
theorem x_undo1 {w : Wd} {v : Nat → Int32} {p : Nat} {o : Int32} {H : List (Nat × Int32)} (h : AX w v ((p, o) :: H)) : ∃ w', f_X11_undo w = some (nI H.length, w') ∧ AX w' (upd v p o) H ∧ (∀ k, k ≠ 37 → k ≠ 38 → w'.1 k = w.1 k) ∧ w'.2 = w.2 := by
  obtain ⟨h1, h2, h3, nx, h4, h5, h6⟩ := h
  rw [List.length_cons] at h2 h3
  obtain ⟨p1, p2, p3⟩ := h6 0 _ rfl
  dsimp only at p1 p2 p3
  have fin : ∀ nx', nx' < 12 → nx' = (nx + 11) % 12 → ∃ w', (letW (sI w 37 3 (nI nx')) fun w1 => rdI w1 39 12 (w1.1 37 3) fun x2 => rdI w1 40 12 (w1.1 37 3) fun x3 => wrI w1 38 20 x2 x3 fun w4 => letW (sI w4 37 4 ((w4.1 37 4) - 1)) fun w5 => some ((w5.1 37 4), w5)) = some (nI H.length, w') ∧ AX w' (upd v p o) H ∧ (∀ k, k ≠ 37 → k ≠ 38 → w'.1 k = w.1 k) ∧ w'.2 = w.2 := by
    intro nx' hl hn
    simp only [m_letW]
    rw [sI_same, m_rd hl (by decide), m_rd hl (by decide)]
    rw [show (sI w 37 3 (nI nx')).1 39 nx' = nI p from by rw [sI_at, if_neg (by omega), ← p1, hn]; rfl, show (sI w 37 3 (nI nx')).1 40 nx' = o from by rw [sI_at, if_neg (by omega), ← p2, hn]; rfl, m_wr p3 (by decide)]
    rw [show (sI (sI w 37 3 (nI nx')) 38 p o).1 37 4 = nI (H.length + 1) from by rw [sI_at, if_neg (by omega), sI_at, if_neg (by omega)]; exact h2, nI_pred, sI_same]
    refine ⟨_, rfl, ⟨fun q hq => ?_, sI_same _ _ _ _, by omega, nx', hl, ?_, fun j q hj => ?_⟩, fun k a b => ?_, rfl⟩
    · rw [sI_at, if_neg (by omega), sI_at]
      by_cases c : q = p
      · rw [if_pos ⟨rfl, c⟩, c]; simp [upd]
      · rw [if_neg (fun z => c z.2), sI_at, if_neg (by omega), h1 q hq]; simp [upd, c]
    · rw [sI_at, if_neg (by omega), sI_at, if_neg (by omega), sI_same]
    · have hj12 : j < 11 := by have := (List.getElem?_eq_some_iff.mp hj).1; omega
      obtain ⟨g1, g2, g3⟩ := h6 (j + 1) q (by simpa using hj)
      have e : (nx' + 11 - j) % 12 = (nx + 11 - (j + 1)) % 12 := by omega
      rw [e]
      exact ⟨by simpa [sI_at] using g1, by simpa [sI_at] using g2, g3⟩
    · funext z
      rw [sI_at, if_neg (by omega), sI_at, if_neg (by omega), sI_at, if_neg (by omega)]
  have res : ∃ w', f_X0_takeBack w = some (nI H.length, w') ∧ AX w' (upd v p o) H ∧ (∀ k, k ≠ 37 → k ≠ 38 → w'.1 k = w.1 k) ∧ w'.2 = w.2 := by
    unfold f_X0_takeBack
    rw [h2, if_neg (by rw [nIz (by omega)]; omega), h5]
    by_cases c : nx = 0
    · rw [if_pos (by show nI nx ≤ nI 0; rw [m_le (by omega) (by decide)]; omega)]
      exact fin 11 (by decide) (by omega)
    · rw [if_neg (by show ¬ nI nx ≤ nI 0; rw [m_le (by omega) (by decide)]; omega)]
      have e : nI nx - 1 = nI (nx - 1) := by show nI nx - nI 1 = _; rw [pk_sub (by omega)]
      rw [e]
      exact fin (nx - 1) (by omega) (by omega)
  obtain ⟨w', e, r⟩ := res
  exact ⟨w', by unfold f_X11_undo; rw [m_bnd2 e], r⟩
