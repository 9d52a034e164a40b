/-! the reference's tokens against the pure reading -/
section YREAD
variable {w : Wd} {L : Nat} {B : Nat → Nat}
theorem runL_false {c : Nat → Bool} {L s : Nat} (h : L ≤ s ∨ c s = false) : runL c L s = s := by
  unfold runL
  cases hd : L - s with
  | zero => rfl
  | succ d =>
    rcases h with h | h
    · omega
    · show (if c s then scn c d (s + 1) else s) = s
      rw [h]; rfl
theorem runL_true {c : Nat → Bool} {L s : Nat} (h1 : s < L) (h : c s = true) : s < runL c L s := by
  unfold runL
  obtain ⟨d, hd⟩ : ∃ d, L - s = d + 1 := ⟨L - s - 1, by omega⟩
  rw [hd]
  show s < (if c s then scn c d (s + 1) else s)
  rw [h, if_pos rfl]
  have := scn_le c d (s + 1)
  omega
theorem cA_nD {s : Nat} (h : cA B s = true) : cD B s = false := by
  unfold cA at h
  rw [Bool.and_eq_true, Nat.ble_eq, Nat.ble_eq] at h
  cases hd : cD B s with
  | false => rfl
  | true =>
    unfold cD at hd
    rw [Bool.and_eq_true, Nat.ble_eq, Nat.ble_eq] at hd
    omega
/-- a number's token is what the pure reading reads -/
theorem tok_num {e k lo hi : Nat} (hk : k = 1 ∨ k = 2) : pnum B L e lo hi = if tkK B L (adjB k e (runL (cB B) L e)) (runL (cB B) L e) = 2 ∧ lo ≤ avl B (runL (cB B) L e) (tkE B L (runL (cB B) L e)) ∧ avl B (runL (cB B) L e) (tkE B L (runL (cB B) L e)) ≤ hi then some (avl B (runL (cB B) L e) (tkE B L (runL (cB B) L e)), tkE B L (runL (cB B) L e)) else none := by
  obtain ⟨s, hs⟩ : ∃ s, s = runL (cB B) L e := ⟨_, rfl⟩
  unfold pnum
  rw [← hs]
  have hadj : adjB k e s = (s == e) := by
    unfold adjB
    rcases hk with h | h <;> rw [h] <;> simp
  rw [hadj]
  by_cases c0 : L ≤ s
  · have hd : runL (cD B) L s = s := runL_false (Or.inl c0)
    rw [hd, if_neg (fun z => by omega), if_neg (fun z => by
      have := z.1
      unfold tkK at this
      rw [if_pos c0] at this
      omega)]
  · by_cases cA1 : cA B s = true
    · have hd : runL (cD B) L s = s := runL_false (Or.inr (cA_nD cA1))
      rw [hd, if_neg (fun z => by omega), if_neg (fun z => by
        have := z.1
        unfold tkK at this
        rw [if_neg c0, if_pos cA1] at this
        split at this <;> omega)]
    · by_cases cD1 : cD B s = true
      · have hE : tkE B L s = runL (cD B) L s := by unfold tkE; rw [if_neg c0, if_neg cA1, if_pos cD1]
        have hlt := runL_true (c := cD B) (Nat.lt_of_not_le c0) cD1
        have hK : tkK B L (s == e) s = 2 ↔ s ≠ e ∧ runL (cD B) L s - s ≤ 2 := by
          unfold tkK
          rw [if_neg c0, if_neg cA1, if_pos cD1, hE]
          by_cases ce : s = e
          · simp [ce]
          · by_cases c2 : runL (cD B) L s - s ≤ 2 <;> simp [ce, c2]
        rw [hE]
        by_cases cc : s ≠ e ∧ 1 ≤ runL (cD B) L s - s ∧ runL (cD B) L s - s ≤ 2 ∧ lo ≤ avl B s (runL (cD B) L s) ∧ avl B s (runL (cD B) L s) ≤ hi
        · rw [if_pos cc, if_pos ⟨hK.mpr ⟨cc.1, cc.2.2.1⟩, cc.2.2.2⟩]
        · rw [if_neg cc, if_neg (fun z => cc ⟨(hK.mp z.1).1, by omega, (hK.mp z.1).2, z.2⟩)]
      · have cD0 : cD B s = false := by simpa using cD1
        have hd : runL (cD B) L s = s := runL_false (Or.inr cD0)
        rw [hd, if_neg (fun z => by omega), if_neg (fun z => by
          have := z.1
          unfold tkK at this
          rw [if_neg c0, if_neg cA1, if_neg cD1] at this
          split at this <;> omega)]
/-- a stop's token -/
theorem tok_stop {s : Nat} (adj : Bool) : (tkK B L adj s = 3 ↔ s < L ∧ B s = 59) ∧ (s < L ∧ B s = 59 → tkE B L s = s + 1) := by
  have hn : B s = 59 → cA B s = false ∧ cD B s = false := fun h => by unfold cA cD; rw [h]; exact ⟨rfl, rfl⟩
  constructor
  · constructor
    · intro h
      unfold tkK at h
      split at h
      · omega
      · split at h
        · split at h <;> omega
        · split at h
          · split at h
            · omega
            · split at h <;> omega
          · split at h
            · exact ⟨by omega, by assumption⟩
            · omega
    · rintro ⟨h1, h2⟩
      obtain ⟨a, b⟩ := hn h2
      unfold tkK
      rw [if_neg (by omega), a, b, if_neg (by decide), if_neg (by decide), if_pos h2]
  · rintro ⟨h1, h2⟩
    obtain ⟨a, b⟩ := hn h2
    unfold tkE
    rw [if_neg (by omega), a, b, if_neg (by decide), if_neg (by decide)]
/-- a word's token -/
theorem tok_word {s : Nat} : (tkK B L false s = 1 ↔ s < L ∧ cA B s = true) ∧ (s < L ∧ cA B s = true → tkE B L s = runL (cA B) L s) := by
  constructor
  · constructor
    · intro h
      unfold tkK at h
      split at h
      · omega
      · split at h
        · exact ⟨by omega, by assumption⟩
        · split at h
          · split at h
            · omega
            · split at h <;> omega
          · split at h <;> omega
    · rintro ⟨h1, h2⟩
      unfold tkK
      rw [if_neg (by omega), if_pos h2]; rfl
  · rintro ⟨h1, h2⟩
    unfold tkE
    rw [if_neg (by omega), if_pos h2]
theorem tok_le {adj : Bool} {s : Nat} (hs : s ≤ L) : tkK B L adj s ≤ 4 ∧ s ≤ tkE B L s ∧ tkE B L s ≤ L ∧ (tkK B L adj s = 0 ↔ L ≤ s) := by
  have h1 := runL_le (cA B) hs
  have h2 := runL_le (cD B) hs
  refine ⟨?_, ?_, ?_, ?_⟩
  · unfold tkK; repeat (first | omega | split)
  · unfold tkE; repeat (first | omega | split)
  · unfold tkE; repeat (first | omega | split)
  · unfold tkK
    constructor
    · intro h; repeat (first | omega | split at h)
    · intro h; rw [if_pos h]
theorem isW_no {q r : Nat} (hr : r < 4) : isW B q q r = false := by
  cases h : isW B q q r with
  | false => rfl
  | true =>
    have := (isW_iff.mp h).1
    have hl : ∀ r, r < 4 → 0 < (wrd r).length := by decide
    have := hl r hr
    omega
/-- the reference between two parts -/
def FCz (w : Wd) (fs : List (Nat × Nat)) : Prop := w.1 44 39 = nI fs.length ∧ ∀ i f, fs[i]? = some f → w.1 68 i = nI f.1 ∧ w.1 69 i = nI f.2
def zJ (j : Nat) : Prop := (32 ≤ j ∧ j ≤ 36) ∨ (39 ≤ j ∧ j ≤ 41)
def kZ (w w' : Wd) : Prop := keepM (fun k => k = 68 ∨ k = 69) zJ w w'
theorem kZ.rf (w : Wd) : kZ w w := ⟨fun _ _ _ => rfl, fun _ _ => rfl, rfl⟩
theorem kZ.tr {a b c : Wd} (h : kZ a b) (g : kZ b c) : kZ a c := ⟨fun k x y => (g.1 k x y).trans (h.1 k x y), fun j x => (g.2.1 j x).trans (h.2.1 j x), g.2.2.trans h.2.2⟩
theorem kF.z {a b : Wd} (h : kF a b) : kZ a b := ⟨fun k _ y => h.1 k (fun z => z) y, fun j x => h.2.1 j (fun z => x (by unfold fJ at z; unfold zJ; omega)), h.2.2⟩
theorem kZ.tp {w w' : Wd} (h : kZ w w') (ht : TPy w L B) : TPy w' L B := TPy_cong ht (h.2.1 30 (by unfold zJ; omega)) (h.1 66 (by omega) (by decide))
theorem kZ.st {j : Nat} (hj : zJ j) (x : Int32) : kZ w (sI w 44 j x) := ⟨fun k _ h44 => sI_row _ _ _ _ h44, fun i hi => by rw [sI_at, if_neg (show ¬ (44 = 44 ∧ i = j) from fun z => hi (z.2 ▸ hj))], rfl⟩
def YR (w : Wd) (L : Nat) (B : Nat → Nat) (q : Nat) (fs : List (Nat × Nat)) : Prop := TPy w L B ∧ WDS w ∧ w.1 44 36 = 0 ∧ tkS w B L false q ∧ w.1 44 40 = nI (gst fs).1 ∧ FCz w fs ∧ w.1 44 41 = nI 0
end YREAD
