/-! the tape of both sides, and the words of it -/
theorem sI_id {w : Wd} {k i : Nat} {x : Int32} (h : w.1 k i = x) : sI w k i x = w := by
  have e : (sI w k i x).1 = w.1 := by
    funext a b
    rw [sI_at]
    by_cases q : a = k ∧ b = i
    · rw [if_pos q, q.1, q.2, h]
    · rw [if_neg q]
  exact Prod.ext e rfl
theorem sI_sI (w : Wd) (k i : Nat) (x y : Int32) : sI (sI w k i x) k i y = sI w k i y := by
  have e : (sI (sI w k i x) k i y).1 = (sI w k i y).1 := by
    funext a b
    rw [sI_at, sI_at, sI_at]
    by_cases q : a = k ∧ b = i
    · rw [if_pos q, if_pos q]
    · rw [if_neg q, if_neg q, if_neg q]
  exact Prod.ext e rfl
def scn (c : Nat → Bool) : Nat → Nat → Nat
  | 0, q => q
  | d + 1, q => if c q then scn c d (q + 1) else q
theorem scn_le (c : Nat → Bool) : ∀ d q, q ≤ scn c d q ∧ scn c d q ≤ q + d := by
  intro d
  induction d with
  | zero => intro q; exact ⟨Nat.le_refl _, Nat.le_refl _⟩
  | succ d ih =>
    intro q
    simp only [scn]
    split
    · have := ih (q + 1); omega
    · omega
theorem scn_in (c : Nat → Bool) : ∀ d q i, q ≤ i → i < scn c d q → c i = true := by
  intro d
  induction d with
  | zero => intro q i h1 h2; simp only [scn] at h2; omega
  | succ d ih =>
    intro q i h1 h2
    simp only [scn] at h2
    split at h2
    · rename_i hc
      by_cases e : i = q
      · rw [e]; exact hc
      · exact ih (q + 1) i (by omega) h2
    · omega
theorem scn_out (c : Nat → Bool) : ∀ d q, scn c d q < q + d → c (scn c d q) = false := by
  intro d
  induction d with
  | zero => intro q h; simp only [scn] at h; omega
  | succ d ih =>
    intro q h
    simp only [scn] at h ⊢
    split
    · rename_i hc
      rw [if_pos hc] at h
      exact ih (q + 1) (by omega)
    · rename_i hc; simpa using hc
def runL (c : Nat → Bool) (L q : Nat) : Nat := scn c (L - q) q
def cB (B : Nat → Nat) (i : Nat) : Bool := B i == 32 || B i == 10
def cA (B : Nat → Nat) (i : Nat) : Bool := Nat.ble 97 (B i) && Nat.ble (B i) 122
def cD (B : Nat → Nat) (i : Nat) : Bool := Nat.ble 48 (B i) && Nat.ble (B i) 57
def TPx (w : Wd) (L : Nat) (B : Nat → Nat) : Prop := L ≤ 200 ∧ w.1 1 1 = nI L ∧ (∀ i, i < L → w.1 2 i = nI (B i)) ∧ ∀ i, B i < 256
def TPy (w : Wd) (L : Nat) (B : Nat → Nat) : Prop := L ≤ 200 ∧ w.1 44 30 = nI L ∧ (∀ i, i < L → w.1 66 i = nI (B i)) ∧ ∀ i, B i < 256
theorem TPx_cong {w w' : Wd} {L : Nat} {B : Nat → Nat} (h : TPx w L B) (e1 : w'.1 1 1 = w.1 1 1) (e2 : w'.1 2 = w.1 2) : TPx w' L B := by
  unfold TPx at *; rw [e1, e2]; exact h
theorem TPy_cong {w w' : Wd} {L : Nat} {B : Nat → Nat} (h : TPy w L B) (e1 : w'.1 44 30 = w.1 44 30) (e2 : w'.1 66 = w.1 66) : TPy w' L B := by
  unfold TPy at *; rw [e1, e2]; exact h
section SCAN
variable {w : Wd} {L : Nat} {B : Nat → Nat}
theorem x_byte (h : TPx w L B) {q : Nat} (hq : q < L) : f_X9_byteAt (nI q) w = some (nI (B q)) := by
  have hL := h.1
  unfold f_X9_byteAt
  rw [if_neg (nI_pos (by omega)), h.2.1, if_neg (nI_ge hq (by omega)), if_neg (show ¬ (200 : Int32) ≤ nI q from nI_ge (b := 200) (by omega) (by decide)), m_rd (by omega) (by decide), h.2.2.1 q hq]
theorem x_byteE (h : TPx w L B) {q : Nat} (hq : L ≤ q) (hq2 : q ≤ 200) : f_X9_byteAt (nI q) w = some (-1) := by
  have hL := h.1
  unfold f_X9_byteAt
  rw [if_neg (nI_pos (by omega)), h.2.1, if_pos (nI_le hq (by omega))]
theorem y_here (h : TPy w L B) {q : Nat} (h32 : w.1 44 32 = nI q) (hq : q < L) : f_X12_here w = some (nI (B q)) := by
  have hL := h.1
  unfold f_X12_here
  rw [h.2.1, h32, if_neg (nI_ge hq (by omega)), m_rd (by omega) (by decide), h.2.2.1 q hq]
theorem y_hereE (h : TPy w L B) {q : Nat} (h32 : w.1 44 32 = nI q) (hq : L ≤ q) (hq2 : q ≤ 200) : f_X12_here w = some (-1) := by
  have hL := h.1
  unfold f_X12_here
  rw [h.2.1, h32, if_pos (nI_le hq (by omega))]
theorem by32 {b : Nat} (hb : b < 256) (c : Nat) (hc : c < 256) : (nI b = nI c) ↔ b = c := m_inj (by omega) (by omega)
theorem x_blanks0 : ∀ d q (w : Wd) f, TPx w L B → w.1 3 6 = nI q → q + d = L → d < f → f_X7_skipBlanks_L0 f w = some (sI w 3 6 (nI (scn (cB B) d q))) := by
  intro d
  induction d with
  | zero =>
    intro q w f h h6 hd hf
    obtain ⟨f, rfl⟩ : ∃ g, f = g + 1 := ⟨f - 1, by omega⟩
    have hL := h.1
    show f_X7_skipBlanks_B0b (f_X7_skipBlanks_L0 f) w = _
    unfold f_X7_skipBlanks_B0b
    rw [h.2.1, h6, if_pos (nI_le (by omega) (by omega)), show scn (cB B) 0 q = q from rfl, sI_id h6]
  | succ d ih =>
    intro q w f h h6 hd hf
    obtain ⟨f, rfl⟩ : ∃ g, f = g + 1 := ⟨f - 1, by omega⟩
    have hL := h.1
    have hb := h.2.2.2 q
    have go : f_X7_skipBlanks_L0 f (sI w 3 6 (nI q + 1)) = some (sI w 3 6 (nI (scn (cB B) d (q + 1)))) := by
      rw [nI_1, ih (q + 1) _ f (TPx_cong h (by rw [sI_row _ _ _ _ (by decide)]) (sI_row _ _ _ _ (by decide))) (sI_same _ _ _ _) (by omega) (by omega), sI_sI]
    show f_X7_skipBlanks_B0b (f_X7_skipBlanks_L0 f) w = _
    unfold f_X7_skipBlanks_B0b
    rw [h.2.1, h6, if_neg (nI_ge (by omega) (by omega)), x_byte h (by omega), bnd_some, bnd_some, m_letW, go]
    have e : scn (cB B) (d + 1) q = if cB B q then scn (cB B) d (q + 1) else q := rfl
    rw [e]
    by_cases c1 : B q = 32
    · rw [if_pos (show nI (B q) = 32 by rw [c1]; rfl), if_pos (show cB B q = true by unfold cB; rw [c1]; rfl)]
    · rw [if_neg (show ¬ nI (B q) = 32 from fun z => c1 ((by32 hb 32 (by decide)).mp z))]
      by_cases c2 : B q = 10
      · rw [if_pos (show nI (B q) = 10 by rw [c2]; rfl), if_pos (show cB B q = true by unfold cB; rw [c2]; rfl)]
      · rw [if_neg (show ¬ nI (B q) = 10 from fun z => c2 ((by32 hb 10 (by decide)).mp z)), if_neg (show ¬ cB B q = true by unfold cB; simp [c1, c2]), sI_id h6]
theorem x_blanks (h : TPx w L B) {q : Nat} (h6 : w.1 3 6 = nI q) (hq : q ≤ L) : f_X7_skipBlanks w = some (sI w 3 6 (nI (runL (cB B) L q))) := x_blanks0 (L - q) q w FU h h6 (by omega) (FU_big (by have := h.1; omega))
theorem x_skip0 {lo hi : Nat} (hlo : lo < 256) (hhi : hi < 256) : ∀ d q (w : Wd) f, TPx w L B → w.1 3 6 = nI q → q + d = L → d < f → f_X7_skipAll_L0 f (nI lo) (nI hi) w = some (sI w 3 6 (nI (scn (fun i => Nat.ble lo (B i) && Nat.ble (B i) hi) d q))) := by
  intro d
  induction d with
  | zero =>
    intro q w f h h6 hd hf
    obtain ⟨f, rfl⟩ : ∃ g, f = g + 1 := ⟨f - 1, by omega⟩
    have hL := h.1
    show f_X7_skipAll_B0b (f_X7_skipAll_L0 f) (nI lo) (nI hi) w = _
    unfold f_X7_skipAll_B0b
    rw [h.2.1, h6, if_pos (nI_le (by omega) (by omega)), show scn (fun i => Nat.ble lo (B i) && Nat.ble (B i) hi) 0 q = q from rfl, sI_id h6]
  | succ d ih =>
    intro q w f h h6 hd hf
    obtain ⟨f, rfl⟩ : ∃ g, f = g + 1 := ⟨f - 1, by omega⟩
    have hL := h.1
    have hb := h.2.2.2 q
    have go : f_X7_skipAll_L0 f (nI lo) (nI hi) (sI w 3 6 (nI q + 1)) = some (sI w 3 6 (nI (scn (fun i => Nat.ble lo (B i) && Nat.ble (B i) hi) d (q + 1)))) := by
      rw [nI_1, ih (q + 1) _ f (TPx_cong h (by rw [sI_row _ _ _ _ (by decide)]) (sI_row _ _ _ _ (by decide))) (sI_same _ _ _ _) (by omega) (by omega), sI_sI]
    show f_X7_skipAll_B0b (f_X7_skipAll_L0 f) (nI lo) (nI hi) w = _
    unfold f_X7_skipAll_B0b
    rw [h.2.1, h6, if_neg (nI_ge (by omega) (by omega)), x_byte h (by omega), bnd_some, bnd_some, m_letW, go]
    have e : scn (fun i => Nat.ble lo (B i) && Nat.ble (B i) hi) (d + 1) q = if (Nat.ble lo (B q) && Nat.ble (B q) hi) then scn (fun i => Nat.ble lo (B i) && Nat.ble (B i) hi) d (q + 1) else q := rfl
    rw [e]
    by_cases c1 : B q < lo
    · rw [if_pos ((m_lt (by omega) (by omega)).mpr c1), if_neg (show ¬ (Nat.ble lo (B q) && Nat.ble (B q) hi) = true by rw [Bool.and_eq_true, Nat.ble_eq, Nat.ble_eq]; omega), sI_id h6]
    · rw [if_neg (fun z => c1 ((m_lt (by omega) (by omega)).mp z))]
      by_cases c2 : hi < B q
      · rw [if_pos ((m_lt (by omega) (by omega)).mpr c2), if_neg (show ¬ (Nat.ble lo (B q) && Nat.ble (B q) hi) = true by rw [Bool.and_eq_true, Nat.ble_eq, Nat.ble_eq]; omega), sI_id h6]
      · rw [if_neg (fun z => c2 ((m_lt (by omega) (by omega)).mp z)), if_pos (show (Nat.ble lo (B q) && Nat.ble (B q) hi) = true by rw [Bool.and_eq_true, Nat.ble_eq, Nat.ble_eq]; omega)]
theorem x_letters (h : TPx w L B) {q : Nat} (h6 : w.1 3 6 = nI q) (hq : q ≤ L) : f_X7_skipAll 97 122 w = some (sI w 3 6 (nI (runL (cA B) L q))) := x_skip0 (lo := 97) (hi := 122) (by decide) (by decide) (L - q) q w FU h h6 (by omega) (FU_big (by have := h.1; omega))
theorem x_digits (h : TPx w L B) {q : Nat} (h6 : w.1 3 6 = nI q) (hq : q ≤ L) : f_X7_skipAll 48 57 w = some (sI w 3 6 (nI (runL (cD B) L q))) := x_skip0 (lo := 48) (hi := 57) (by decide) (by decide) (L - q) q w FU h h6 (by omega) (FU_big (by have := h.1; omega))
end SCAN
/-! the reference's tokens -/
theorem in_eq {b : Nat} (hb : b < 256) (lo hi : Nat) (hl : lo < 256) (hh : hi < 256) : (f_X12_in (nI b) (nI lo) (nI hi) = 0) ↔ ¬ (lo ≤ b ∧ b ≤ hi) := by
  unfold f_X12_in
  by_cases c1 : b < lo
  · rw [if_pos ((m_lt (by omega) (by omega)).mpr c1)]; exact ⟨fun _ => by omega, fun _ => rfl⟩
  · rw [if_neg (fun z => c1 ((m_lt (by omega) (by omega)).mp z))]
    by_cases c2 : hi < b
    · rw [if_pos ((m_lt (by omega) (by omega)).mpr c2)]; exact ⟨fun _ => by omega, fun _ => rfl⟩
    · rw [if_neg (fun z => c2 ((m_lt (by omega) (by omega)).mp z))]; exact ⟨fun z => absurd z (by decide), fun z => absurd (by omega) z⟩
def avl (B : Nat → Nat) (s p : Nat) : Nat := if p = s then 0 else if p = s + 1 then B s - 48 else 10 * (B s - 48) + (B (s + 1) - 48)
def tkE (B : Nat → Nat) (L s : Nat) : Nat := if L ≤ s then s else if cA B s then runL (cA B) L s else if cD B s then runL (cD B) L s else s + 1
def tkK (B : Nat → Nat) (L : Nat) (adj : Bool) (s : Nat) : Nat := if L ≤ s then 0 else if cA B s then (if adj then 4 else 1) else if cD B s then (if adj then 4 else if tkE B L s - s ≤ 2 then 2 else 4) else if B s = 59 then 3 else 4
def fJ (j : Nat) : Prop := j = 32 ∨ j = 33 ∨ j = 34 ∨ j = 35
def kF (w w' : Wd) : Prop := keepM (fun _ => False) fJ w w'
theorem kF.rf (w : Wd) : kF w w := ⟨fun _ _ _ => rfl, fun _ _ => rfl, rfl⟩
theorem kF.tr {a b c : Wd} (h : kF a b) (g : kF b c) : kF a c := ⟨fun k x y => (g.1 k x y).trans (h.1 k x y), fun j x => (g.2.1 j x).trans (h.2.1 j x), g.2.2.trans h.2.2⟩
theorem kF.st {w : Wd} {j : Nat} (hj : fJ j) (x : Int32) : kF w (sI w 44 j x) := ⟨fun k _ h44 => sI_row _ _ _ _ h44, fun i hi => by rw [sI_at, if_neg (show ¬ (44 = 44 ∧ i = j) from fun z => hi (z.2 ▸ hj))], rfl⟩
theorem kF.tp {w w' : Wd} {L : Nat} {B : Nat → Nat} (h : kF w w') (ht : TPy w L B) : TPy w' L B := TPy_cong ht (h.2.1 30 (by unfold fJ; omega)) (h.1 66 (fun z => z) (by decide))
section TOK
variable {w : Wd} {L : Nat} {B : Nat → Nat}
theorem y_letters (l : Int32) : ∀ d q (w : Wd) f, TPy w L B → w.1 44 32 = nI q → q + d = L → d < f → f_X12_goesOn_L105 f l w = some (sI (sI w 44 32 (nI (scn (cA B) d q))) 44 33 (if l = 0 then 1 else 4)) := by
  intro d
  induction d with
  | zero =>
    intro q w f h h6 hd hf
    obtain ⟨f, rfl⟩ : ∃ g, f = g + 1 := ⟨f - 1, by omega⟩
    have hL := h.1
    show f_X12_goesOn_B105b (f_X12_goesOn_L105 f) l w = _
    unfold f_X12_goesOn_B105b
    rw [y_hereE h h6 (by omega) (by omega), bnd_some, if_pos (by decide), show scn (cA B) 0 q = q from rfl, sI_id h6]
    split <;> rfl
  | succ d ih =>
    intro q w f h h6 hd hf
    obtain ⟨f, rfl⟩ : ∃ g, f = g + 1 := ⟨f - 1, by omega⟩
    have hL := h.1
    have hb := h.2.2.2 q
    show f_X12_goesOn_B105b (f_X12_goesOn_L105 f) l w = _
    unfold f_X12_goesOn_B105b
    have e : scn (cA B) (d + 1) q = if cA B q then scn (cA B) d (q + 1) else q := rfl
    rw [y_here h h6 (by omega), bnd_some, e]
    by_cases c : 97 ≤ B q ∧ B q ≤ 122
    · rw [if_neg (show ¬ f_X12_in (nI (B q)) 97 122 = 0 from fun z => (in_eq hb 97 122 (by decide) (by decide)).mp z c), if_pos (by unfold cA; rw [Bool.and_eq_true, Nat.ble_eq, Nat.ble_eq]; exact c), m_letW, h6, nI_1, ih (q + 1) _ f ((kF.st (by unfold fJ; omega) _).tp h) (sI_same _ _ _ _) (by omega) (by omega), sI_sI]
    · rw [if_pos (show f_X12_in (nI (B q)) 97 122 = 0 from (in_eq hb 97 122 (by decide) (by decide)).mpr c), if_neg (show ¬ cA B q = true by unfold cA; rw [Bool.and_eq_true, Nat.ble_eq, Nat.ble_eq]; exact c), sI_id h6]
      split <;> rfl
theorem y_digits (l : Int32) {s : Nat} : ∀ d q (w : Wd) f, TPy w L B → w.1 44 32 = nI q → w.1 44 34 = nI s → w.1 44 35 = nI (avl B s q) → s ≤ q → (∀ i, s ≤ i → i < q → cD B i = true) → q + d = L → d < f → ∃ w', f_X12_goesOn_L165 f l w = some w' ∧ w'.1 44 32 = nI (scn (cD B) d q) ∧ w'.1 44 34 = nI s ∧ w'.1 44 35 = nI (avl B s (scn (cD B) d q)) ∧ w'.1 44 33 = (if l = 0 then (if scn (cD B) d q - s ≤ 2 then 2 else 4) else 4) ∧ kF w w' := by
  have fin : ∀ q (w : Wd), q ≤ 200 → w.1 44 32 = nI q → w.1 44 34 = nI s → w.1 44 35 = nI (avl B s q) → s ≤ q → ∃ w', (if l = 0 then (if ((w.1 44 32) - (w.1 44 34)) ≤ 2 then (letW (sI w 44 33 2) fun w3 => some w3) else (letW (sI w 44 33 4) fun w4 => some w4)) else (letW (sI w 44 33 4) fun w2 => some w2)) = some w' ∧ w'.1 44 32 = nI q ∧ w'.1 44 34 = nI s ∧ w'.1 44 35 = nI (avl B s q) ∧ w'.1 44 33 = (if l = 0 then (if q - s ≤ 2 then 2 else 4) else 4) ∧ kF w w' := by
    intro q w hq h6 h4 h5 hs
    refine ⟨sI w 44 33 (if l = 0 then (if q - s ≤ 2 then 2 else 4) else 4), ?_, ?_, ?_, ?_, sI_same _ _ _ _, kF.st (by unfold fJ; omega) _⟩
    · rw [h6, h4, pk_sub hs]
      by_cases c : l = 0
      · rw [if_pos c, if_pos c]
        by_cases c2 : q - s ≤ 2
        · rw [if_pos c2, if_pos (show nI (q - s) ≤ (2 : Int32) from nI_le (b := 2) c2 (by decide))]; rfl
        · rw [if_neg c2, if_neg (show ¬ nI (q - s) ≤ (2 : Int32) from nI_ge (a := 2) (by omega) (by omega))]; rfl
      · rw [if_neg c, if_neg c]; rfl
    · rw [sI_at, if_neg (fun z => by omega)]; exact h6
    · rw [sI_at, if_neg (fun z => by omega)]; exact h4
    · rw [sI_at, if_neg (fun z => by omega)]; exact h5
  intro d
  induction d with
  | zero =>
    intro q w f h h6 h4 h5 hs hin hd hf
    obtain ⟨f, rfl⟩ : ∃ g, f = g + 1 := ⟨f - 1, by omega⟩
    have hL := h.1
    obtain ⟨w', g1, g2⟩ := fin q w (by omega) h6 h4 h5 hs
    refine ⟨w', ?_, g2⟩
    show f_X12_goesOn_B165b (f_X12_goesOn_L165 f) l w = _
    unfold f_X12_goesOn_B165b
    rw [y_hereE h h6 (by omega) (by omega), bnd_some, if_pos (by decide)]
    exact g1
  | succ d ih =>
    intro q w f h h6 h4 h5 hs hin hd hf
    obtain ⟨f, rfl⟩ : ∃ g, f = g + 1 := ⟨f - 1, by omega⟩
    have hL := h.1
    have hb := h.2.2.2 q
    have e : scn (cD B) (d + 1) q = if cD B q then scn (cD B) d (q + 1) else q := rfl
    have eL : f_X12_goesOn_L165 (f + 1) l w = f_X12_goesOn_B165b (f_X12_goesOn_L165 f) l w := rfl
    rw [e, eL]
    unfold f_X12_goesOn_B165b
    rw [y_here h h6 (by omega), bnd_some]
    by_cases c : 48 ≤ B q ∧ B q ≤ 57
    · have hc : cD B q = true := by unfold cD; rw [Bool.and_eq_true, Nat.ble_eq, Nat.ble_eq]; exact c
      rw [if_neg (show ¬ f_X12_in (nI (B q)) 48 57 = 0 from fun z => (in_eq hb 48 57 (by decide) (by decide)).mp z c), if_pos hc, h6, h4, pk_sub hs]
      have hin' : ∀ i, s ≤ i → i < q + 1 → cD B i = true := fun i h1 h2 => by
        by_cases r : i = q
        · rw [r]; exact hc
        · exact hin i h1 (by omega)
      by_cases c2 : 2 ≤ q - s
      · rw [if_pos (show (2 : Int32) ≤ nI (q - s) from nI_le (a := 2) c2 (by omega)), m_letW, nI_1]
        have hk : kF w (sI w 44 32 (nI (q + 1))) := kF.st (by unfold fJ; omega) _
        obtain ⟨w', g1, g2, g3, g4, g5, g6⟩ := ih (q + 1) (sI w 44 32 (nI (q + 1))) f (hk.tp h) (sI_same _ _ _ _) (by rw [sI_at, if_neg (fun z => by omega)]; exact h4) (by rw [sI_at, if_neg (fun z => by omega), h5]; unfold avl; rw [if_neg (by omega), if_neg (by omega), if_neg (by omega), if_neg (by omega)]) (by omega) hin' (by omega) (by omega)
        exact ⟨w', g1, g2, g3, g4, g5, hk.tr g6⟩
      · rw [if_neg (show ¬ (2 : Int32) ≤ nI (q - s) from nI_ge (b := 2) (by omega) (by decide)), bnd_some, m_letW, m_letW, h5]
        have ev : (10 : Int32) * nI (avl B s q) + nI (B q) - 48 = nI (avl B s (q + 1)) := by
          show nI 10 * nI (avl B s q) + nI (B q) - nI 48 = _
          rw [pk_mul, nI_add, pk_sub (by omega)]
          congr 1
          unfold avl
          by_cases r : q = s
          · rw [if_pos r, if_neg (by omega), if_pos (by omega), r]; omega
          · have r1 : q = s + 1 := by omega
            have hs0 := hin s (Nat.le_refl _) (by omega)
            unfold cD at hs0
            rw [Bool.and_eq_true, Nat.ble_eq, Nat.ble_eq] at hs0
            rw [if_neg r, if_pos r1, if_neg (by omega), if_neg (by omega), r1]
            rw [r1] at c
            omega
        rw [ev]
        obtain ⟨w2, hw2⟩ : ∃ w2, w2 = sI (sI w 44 35 (nI (avl B s (q + 1)))) 44 32 (nI (q + 1)) := ⟨_, rfl⟩
        have e32 : (sI w 44 35 (nI (avl B s (q + 1)))).1 44 32 = nI q := by rw [sI_at, if_neg (fun z => by omega)]; exact h6
        rw [e32, nI_1, ← hw2]
        have hk : kF w w2 := by rw [hw2]; exact (kF.st (by unfold fJ; omega) _).tr (kF.st (by unfold fJ; omega) _)
        obtain ⟨w', g1, g2, g3, g4, g5, g6⟩ := ih (q + 1) w2 f (hk.tp h) (by rw [hw2, sI_same]) (by rw [hw2, sI_at, if_neg (fun z => by omega), sI_at, if_neg (fun z => by omega)]; exact h4) (by rw [hw2, sI_at, if_neg (fun z => by omega), sI_same]) (by omega) hin' (by omega) (by omega)
        exact ⟨w', g1, g2, g3, g4, g5, hk.tr g6⟩
    · rw [if_pos (show f_X12_in (nI (B q)) 48 57 = 0 from (in_eq hb 48 57 (by decide) (by decide)).mpr c), if_neg (show ¬ cD B q = true by unfold cD; rw [Bool.and_eq_true, Nat.ble_eq, Nat.ble_eq]; exact c)]
      exact fin q w (by omega) h6 h4 h5 hs
end TOK
