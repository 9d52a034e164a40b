/-! acts: what they change, what can be undone -/
def und (v : Nat → Int32) : List (Nat × Int32) → Nat → Nat → Int32
  | _, 0 => v
  | [], _ + 1 => v
  | q :: t, j + 1 => und (upd v q.1 q.2) t j
def AX (w : Wd) (v : Nat → Int32) (H : List (Nat × Int32)) : Prop := (∀ p, p < 20 → w.1 38 p = v p) ∧ w.1 37 4 = nI H.length ∧ H.length ≤ 12 ∧ ∃ nx, nx < 12 ∧ w.1 37 3 = nI nx ∧ ∀ j q, H[j]? = some q → w.1 39 ((nx + 11 - j) % 12) = nI q.1 ∧ w.1 40 ((nx + 11 - j) % 12) = q.2 ∧ q.1 < 20
theorem sI_at (w : Wd) (k i : Nat) (x : Int32) (a b : Nat) : (sI w k i x).1 a b = if a = k ∧ b = i then x else w.1 a b := rfl
theorem x_change0 {w : Wd} {v : Nat → Int32} {H : List (Nat × Int32)} (h : AX w v H) {p : Nat} (hp : p < 20) {y : Int32} (he : v p = y) : f_X0_change (nI p) y w = some (0, w) := by
  unfold f_X0_change
  rw [if_neg (nI_pos (by omega)), if_neg (by show ¬ nI 20 ≤ nI p; rw [m_le (by decide) (by omega)]; omega), m_rd hp (by decide), h.1 p hp, if_pos he]
set_option maxHeartbeats 1000000 in
theorem x_change1 {w : Wd} {v : Nat → Int32} {H : List (Nat × Int32)} (h : AX w v H) {p : Nat} (hp : p < 20) {y : Int32} (he : ¬ v p = y) : ∃ w', f_X0_change (nI p) y w = some (1, w') ∧ AX w' (upd v p y) (((p, v p) :: H).take 12) ∧ (∀ k, k ≠ 37 → k ≠ 38 → k ≠ 39 → k ≠ 40 → w'.1 k = w.1 k) ∧ w'.2 = w.2 := by
  obtain ⟨h1, h2, h3, nx, h4, h5, h6⟩ := h
  unfold f_X0_change
  rw [if_neg (nI_pos (by omega)), if_neg (by show ¬ nI 20 ≤ nI p; rw [m_le (by decide) (by omega)]; omega), m_rd hp (by decide), h1 p hp, if_neg he, h5, m_wr h4 (by decide), m_rd hp (by decide)]
  rw [show (sI w 39 nx (nI p)).1 38 p = v p from (by rw [sI_at, if_neg (by omega)]; exact h1 p hp), show (sI w 39 nx (nI p)).1 37 3 = nI nx from (by rw [sI_at, if_neg (by omega)]; exact h5), m_wr h4 (by decide)]
  rw [show (sI (sI w 39 nx (nI p)) 40 nx (v p)).1 37 3 = nI nx from (by rw [sI_at, if_neg (by omega), sI_at, if_neg (by omega)]; exact h5), nI_1]
  have fin : ∀ nx', nx' = (nx + 1) % 12 → ∃ w', (letW (sI (sI (sI w 39 nx (nI p)) 40 nx (v p)) 37 3 (nI nx')) fun w5 => letW (sI w5 37 4 (if 12 < ((w5.1 37 4) + 1) then 12 else ((w5.1 37 4) + 1))) fun w6 => wrI w6 38 20 (nI p) y fun w7 => some ((1 : Int32), w7)) = some (1, w') ∧ AX w' (upd v p y) (((p, v p) :: H).take 12) ∧ (∀ k, k ≠ 37 → k ≠ 38 → k ≠ 39 → k ≠ 40 → w'.1 k = w.1 k) ∧ w'.2 = w.2 := by
    intro nx' hnx
    simp only [m_letW]
    rw [m_wr hp (by decide)]
    rw [show (sI (sI (sI w 39 nx (nI p)) 40 nx (v p)) 37 3 (nI nx')).1 37 4 = nI H.length from (by rw [sI_at, if_neg (by omega), sI_at, if_neg (by omega), sI_at, if_neg (by omega)]; exact h2), nI_1]
    have e12 : (if (12 : Int32) < nI (H.length + 1) then (12 : Int32) else nI (H.length + 1)) = nI (((p, v p) :: H).take 12).length := by
      rw [List.length_take, List.length_cons]
      by_cases c : 12 < H.length + 1
      · rw [if_pos (by show nI 12 < _; rw [m_lt (by decide) (by omega)]; exact c), Nat.min_eq_left (by omega)]; rfl
      · rw [if_neg (by show ¬ nI 12 < _; rw [m_lt (by decide) (by omega)]; exact c), Nat.min_eq_right (by omega)]
    rw [e12]
    refine ⟨_, rfl, ⟨fun q hq => ?_, ?_, ?_, nx', by omega, ?_, fun j q hj => ?_⟩, fun k k1 k2 k3 k4 => ?_, rfl⟩
    · rw [sI_at]
      by_cases c : q = p
      · rw [if_pos ⟨rfl, c⟩, c]; simp [upd]
      · rw [if_neg (fun z => c z.2), sI_at, if_neg (by omega), sI_at, if_neg (by omega), sI_at, if_neg (by omega), sI_at, if_neg (by omega), h1 q hq]; simp [upd, c]
    · rw [sI_at, if_neg (by omega), sI_at, if_pos ⟨rfl, rfl⟩]
    · rw [List.length_take]; omega
    · rw [sI_at, if_neg (by omega), sI_at, if_neg (by omega), sI_at, if_pos ⟨rfl, rfl⟩]
    · have hj12 : j < 12 := by
        have := (List.getElem?_eq_some_iff.mp hj).1
        rw [List.length_take] at this; omega
      rw [List.getElem?_take_of_lt hj12] at hj
      match j, hj with
      | 0, hj =>
        cases hj
        have e : (nx' + 11 - 0) % 12 = nx := by omega
        rw [e]
        exact ⟨by simp [sI_at], by simp [sI_at], hp⟩
      | j + 1, hj =>
        have e : (nx' + 11 - (j + 1)) % 12 = (nx + 11 - j) % 12 := by omega
        have ne : (nx + 11 - j) % 12 ≠ nx := by omega
        obtain ⟨g1, g2, g3⟩ := h6 j q (by simpa using hj)
        rw [e]
        exact ⟨by simpa [sI_at, ne] using g1, by simpa [sI_at, ne] using g2, g3⟩
    · funext b
      rw [sI_at, if_neg (by omega), sI_at, if_neg (by omega), sI_at, if_neg (by omega), sI_at, if_neg (by omega), sI_at, if_neg (by omega)]
  by_cases c : nx + 1 < 12
  · rw [if_neg (by show ¬ nI 12 ≤ _; rw [m_le (by decide) (by omega)]; omega)]
    exact fin (nx + 1) (by omega)
  · rw [if_pos (by show nI 12 ≤ _; rw [m_le (by decide) (by omega)]; omega)]
    exact fin 0 (by omega)
