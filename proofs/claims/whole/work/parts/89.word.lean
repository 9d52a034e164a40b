/-! words read by both sides -/
def isW (B : Nat → Nat) (q e r : Nat) : Bool := (e - q == (wrd r).length) && (List.range (wrd r).length).all (fun i => decide (nI (B (q + i)) = (wrd r).getD i 0))
theorem isW_iff {B : Nat → Nat} {q e r : Nat} : isW B q e r = true ↔ e - q = (wrd r).length ∧ ∀ i, i < (wrd r).length → nI (B (q + i)) = (wrd r).getD i 0 := by
  unfold isW
  rw [Bool.and_eq_true, beq_iff_eq, List.all_eq_true]
  constructor
  · rintro ⟨h1, h2⟩; exact ⟨h1, fun i hi => of_decide_eq_true (h2 i (List.mem_range.mpr hi))⟩
  · rintro ⟨h1, h2⟩; exact ⟨h1, fun i hi => decide_eq_true (h2 i (List.mem_range.mp hi))⟩
section WRD
variable {w : Wd} {L : Nat} {B : Nat → Nat}
theorem x_isW0 (h : TPx w L B) {q e : Nat} (h6 : w.1 3 6 = nI e) (hq : q ≤ e) (he : e ≤ L) : f_X7_isWord_1000 (nI q) w = some (if isW B q e 0 then 1 else 0) := by
  have hL := h.1
  have hlen : (wrd 0).length = 6 := by decide
  unfold f_X7_isWord_1000
  rw [h6, pk_sub hq]
  by_cases c : e - q = 6
  · rw [if_pos (show nI (e - q) = 6 by rw [c]; rfl)]
    have key : ∀ d i f, i + d = 6 → d < f → (∀ j, j < i → nI (B (q + j)) = (wrd 0).getD j 0) → f_X7_isWord_1000_L17 f (nI q) (nI i) w = some (if isW B q e 0 then 1 else 0) := by
      intro d
      induction d with
      | zero =>
        intro i f hi hf hp
        obtain ⟨f, rfl⟩ : ∃ g, f = g + 1 := ⟨f - 1, by omega⟩
        show f_X7_isWord_1000_B17b (f_X7_isWord_1000_L17 f) (nI q) (nI i) w = _
        unfold f_X7_isWord_1000_B17b
        rw [if_pos (show (6 : Int32) ≤ nI i from nI_le (a := 6) (by omega) (by omega)), if_pos (isW_iff.mpr ⟨by rw [hlen]; exact c, fun j hj => hp j (by omega)⟩)]
      | succ d ih =>
        intro i f hi hf hp
        obtain ⟨f, rfl⟩ : ∃ g, f = g + 1 := ⟨f - 1, by omega⟩
        show f_X7_isWord_1000_B17b (f_X7_isWord_1000_L17 f) (nI q) (nI i) w = _
        unfold f_X7_isWord_1000_B17b
        rw [if_neg (show ¬ (6 : Int32) ≤ nI i from nI_ge (b := 6) (by omega) (by decide)), nI_add, x_byte h (by omega), bnd_some, chS_n (by decide) (by omega), nI_1]
        by_cases g : nI (B (q + i)) = (wrd 0).getD i 0
        · rw [if_pos g]
          refine ih (i + 1) f (by omega) (by omega) (fun j hj => ?_)
          by_cases z : j = i
          · rw [z]; exact g
          · exact hp j (by omega)
        · rw [if_neg g, if_neg (fun z => g ((isW_iff.mp z).2 i (by omega)))]
    exact key 6 0 FU (by omega) (FU_big (by decide)) (fun j hj => by omega)
  · rw [if_neg (show ¬ nI (e - q) = 6 from fun z => c ((m_inj (b := 6) (by omega) (by decide)).mp z)), if_neg (fun z => c (by have := (isW_iff.mp z).1; omega))]
theorem x_isW1 (h : TPx w L B) {q e : Nat} (h6 : w.1 3 6 = nI e) (hq : q ≤ e) (he : e ≤ L) : f_X7_isWord_1001 (nI q) w = some (if isW B q e 1 then 1 else 0) := by
  have hL := h.1
  have hlen : (wrd 1).length = 8 := by decide
  unfold f_X7_isWord_1001
  rw [h6, pk_sub hq]
  by_cases c : e - q = 8
  · rw [if_pos (show nI (e - q) = 8 by rw [c]; rfl)]
    have key : ∀ d i f, i + d = 8 → d < f → (∀ j, j < i → nI (B (q + j)) = (wrd 1).getD j 0) → f_X7_isWord_1001_L17 f (nI q) (nI i) w = some (if isW B q e 1 then 1 else 0) := by
      intro d
      induction d with
      | zero =>
        intro i f hi hf hp
        obtain ⟨f, rfl⟩ : ∃ g, f = g + 1 := ⟨f - 1, by omega⟩
        show f_X7_isWord_1001_B17b (f_X7_isWord_1001_L17 f) (nI q) (nI i) w = _
        unfold f_X7_isWord_1001_B17b
        rw [if_pos (show (8 : Int32) ≤ nI i from nI_le (a := 8) (by omega) (by omega)), if_pos (isW_iff.mpr ⟨by rw [hlen]; exact c, fun j hj => hp j (by omega)⟩)]
      | succ d ih =>
        intro i f hi hf hp
        obtain ⟨f, rfl⟩ : ∃ g, f = g + 1 := ⟨f - 1, by omega⟩
        show f_X7_isWord_1001_B17b (f_X7_isWord_1001_L17 f) (nI q) (nI i) w = _
        unfold f_X7_isWord_1001_B17b
        rw [if_neg (show ¬ (8 : Int32) ≤ nI i from nI_ge (b := 8) (by omega) (by decide)), nI_add, x_byte h (by omega), bnd_some, chS_n (by decide) (by omega), nI_1]
        by_cases g : nI (B (q + i)) = (wrd 1).getD i 0
        · rw [if_pos g]
          refine ih (i + 1) f (by omega) (by omega) (fun j hj => ?_)
          by_cases z : j = i
          · rw [z]; exact g
          · exact hp j (by omega)
        · rw [if_neg g, if_neg (fun z => g ((isW_iff.mp z).2 i (by omega)))]
    exact key 8 0 FU (by omega) (FU_big (by decide)) (fun j hj => by omega)
  · rw [if_neg (show ¬ nI (e - q) = 8 from fun z => c ((m_inj (b := 8) (by omega) (by decide)).mp z)), if_neg (fun z => c (by have := (isW_iff.mp z).1; omega))]
theorem x_isW2 (h : TPx w L B) {q e : Nat} (h6 : w.1 3 6 = nI e) (hq : q ≤ e) (he : e ≤ L) : f_X7_isWord_1002 (nI q) w = some (if isW B q e 2 then 1 else 0) := by
  have hL := h.1
  have hlen : (wrd 2).length = 10 := by decide
  unfold f_X7_isWord_1002
  rw [h6, pk_sub hq]
  by_cases c : e - q = 10
  · rw [if_pos (show nI (e - q) = 10 by rw [c]; rfl)]
    have key : ∀ d i f, i + d = 10 → d < f → (∀ j, j < i → nI (B (q + j)) = (wrd 2).getD j 0) → f_X7_isWord_1002_L17 f (nI q) (nI i) w = some (if isW B q e 2 then 1 else 0) := by
      intro d
      induction d with
      | zero =>
        intro i f hi hf hp
        obtain ⟨f, rfl⟩ : ∃ g, f = g + 1 := ⟨f - 1, by omega⟩
        show f_X7_isWord_1002_B17b (f_X7_isWord_1002_L17 f) (nI q) (nI i) w = _
        unfold f_X7_isWord_1002_B17b
        rw [if_pos (show (10 : Int32) ≤ nI i from nI_le (a := 10) (by omega) (by omega)), if_pos (isW_iff.mpr ⟨by rw [hlen]; exact c, fun j hj => hp j (by omega)⟩)]
      | succ d ih =>
        intro i f hi hf hp
        obtain ⟨f, rfl⟩ : ∃ g, f = g + 1 := ⟨f - 1, by omega⟩
        show f_X7_isWord_1002_B17b (f_X7_isWord_1002_L17 f) (nI q) (nI i) w = _
        unfold f_X7_isWord_1002_B17b
        rw [if_neg (show ¬ (10 : Int32) ≤ nI i from nI_ge (b := 10) (by omega) (by decide)), nI_add, x_byte h (by omega), bnd_some, chS_n (by decide) (by omega), nI_1]
        by_cases g : nI (B (q + i)) = (wrd 2).getD i 0
        · rw [if_pos g]
          refine ih (i + 1) f (by omega) (by omega) (fun j hj => ?_)
          by_cases z : j = i
          · rw [z]; exact g
          · exact hp j (by omega)
        · rw [if_neg g, if_neg (fun z => g ((isW_iff.mp z).2 i (by omega)))]
    exact key 10 0 FU (by omega) (FU_big (by decide)) (fun j hj => by omega)
  · rw [if_neg (show ¬ nI (e - q) = 10 from fun z => c ((m_inj (b := 10) (by omega) (by decide)).mp z)), if_neg (fun z => c (by have := (isW_iff.mp z).1; omega))]
theorem x_isW3 (h : TPx w L B) {q e : Nat} (h6 : w.1 3 6 = nI e) (hq : q ≤ e) (he : e ≤ L) : f_X7_isWord_1003 (nI q) w = some (if isW B q e 3 then 1 else 0) := by
  have hL := h.1
  have hlen : (wrd 3).length = 3 := by decide
  unfold f_X7_isWord_1003
  rw [h6, pk_sub hq]
  by_cases c : e - q = 3
  · rw [if_pos (show nI (e - q) = 3 by rw [c]; rfl)]
    have key : ∀ d i f, i + d = 3 → d < f → (∀ j, j < i → nI (B (q + j)) = (wrd 3).getD j 0) → f_X7_isWord_1003_L17 f (nI q) (nI i) w = some (if isW B q e 3 then 1 else 0) := by
      intro d
      induction d with
      | zero =>
        intro i f hi hf hp
        obtain ⟨f, rfl⟩ : ∃ g, f = g + 1 := ⟨f - 1, by omega⟩
        show f_X7_isWord_1003_B17b (f_X7_isWord_1003_L17 f) (nI q) (nI i) w = _
        unfold f_X7_isWord_1003_B17b
        rw [if_pos (show (3 : Int32) ≤ nI i from nI_le (a := 3) (by omega) (by omega)), if_pos (isW_iff.mpr ⟨by rw [hlen]; exact c, fun j hj => hp j (by omega)⟩)]
      | succ d ih =>
        intro i f hi hf hp
        obtain ⟨f, rfl⟩ : ∃ g, f = g + 1 := ⟨f - 1, by omega⟩
        show f_X7_isWord_1003_B17b (f_X7_isWord_1003_L17 f) (nI q) (nI i) w = _
        unfold f_X7_isWord_1003_B17b
        rw [if_neg (show ¬ (3 : Int32) ≤ nI i from nI_ge (b := 3) (by omega) (by decide)), nI_add, x_byte h (by omega), bnd_some, chS_n (by decide) (by omega), nI_1]
        by_cases g : nI (B (q + i)) = (wrd 3).getD i 0
        · rw [if_pos g]
          refine ih (i + 1) f (by omega) (by omega) (fun j hj => ?_)
          by_cases z : j = i
          · rw [z]; exact g
          · exact hp j (by omega)
        · rw [if_neg g, if_neg (fun z => g ((isW_iff.mp z).2 i (by omega)))]
    exact key 3 0 FU (by omega) (FU_big (by decide)) (fun j hj => by omega)
  · rw [if_neg (show ¬ nI (e - q) = 3 from fun z => c ((m_inj (b := 3) (by omega) (by decide)).mp z)), if_neg (fun z => c (by have := (isW_iff.mp z).1; omega))]
theorem y_takes (h : TPy w L B) (hW : WDS w) {q e r : Nat} (hr : r < 4) (h4 : w.1 44 34 = nI q) (h2 : w.1 44 32 = nI e) (hq : q ≤ e) (he : e ≤ L) (hl : ∀ i, q ≤ i → i < e → cA B i = true) (h6 : w.1 44 36 = 0) (h3 : w.1 44 33 = nI 1) : f_X12_takesWord (nI r) w = if isW B q e r then bnd (f_X12_goesOn w) (fun w2 => some (1, w2)) else some (0, w) := by
  have hL := h.1
  have hcl : wCl r = r := by
    have : ∀ r, r < 4 → wCl r = r := by decide
    exact this r hr
  have hwa := wrd_at r (by omega)
  rw [hcl] at hwa
  obtain ⟨c1, c2, c3⟩ := hwa
  unfold f_X12_takesWord
  rw [if_pos h6, if_pos (show w.1 44 33 = 1 from h3), y_from hW (by omega), bnd_some]
  have key : ∀ d i f, q + i + d = e → d < f → i ≤ (wrd r).length → (∀ j, j < i → nI (B (q + j)) = (wrd r).getD j 0) → f_X12_takesWord_L25 f (nI (wSt r)) (nI i) w = if isW B q e r then bnd (f_X12_goesOn w) (fun w2 => some (1, w2)) else some (0, w) := by
    intro d
    induction d with
    | zero =>
      intro i f hi hf hin hp
      obtain ⟨f, rfl⟩ : ∃ g, f = g + 1 := ⟨f - 1, by omega⟩
      show f_X12_takesWord_B25b (f_X12_takesWord_L25 f) (nI (wSt r)) (nI i) w = _
      unfold f_X12_takesWord_B25b f_X12_takesWord_J66
      rw [h4, h2, nI_add, if_pos (nI_le (by omega) (by omega)), if_pos (by rw [show q + i = e by omega]), nI_add, m_rd (by omega) (by decide), hW _ (by omega)]
      by_cases z : i = (wrd r).length
      · rw [z, if_pos c2, if_pos (isW_iff.mpr ⟨by omega, fun j hj => hp j (by omega)⟩)]
      · have c4 := c3 i (by omega)
        rw [c4.1, if_neg c4.2, if_neg (fun y => z (by have := (isW_iff.mp y).1; omega))]
    | succ d ih =>
      intro i f hi hf hin hp
      obtain ⟨f, rfl⟩ : ∃ g, f = g + 1 := ⟨f - 1, by omega⟩
      show f_X12_takesWord_B25b (f_X12_takesWord_L25 f) (nI (wSt r)) (nI i) w = _
      unfold f_X12_takesWord_B25b f_X12_takesWord_J66
      rw [h4, h2, nI_add, if_neg (nI_ge (by omega) (by omega)), nI_add, m_rd (by omega) (by decide), hW _ (by omega), m_rd (by omega) (by decide), h.2.2.1 (q + i) (by omega), if_neg (show ¬ nI (q + i) = nI e from fun z => by have := (m_inj (by omega) (by omega)).mp z; omega), nI_1]
      have hb := h.2.2.2 (q + i)
      by_cases z : i = (wrd r).length
      · have ha := hl (q + i) (by omega) (by omega)
        unfold cA at ha
        rw [Bool.and_eq_true, Nat.ble_eq, Nat.ble_eq] at ha
        rw [z, c2, if_neg (fun y => by
          have := (by32 (b := 0) (by decide) (B (q + (wrd r).length)) (by rw [← z]; exact hb)).mp y
          rw [← z] at this
          omega), if_neg (fun y => by have := (isW_iff.mp y).1; omega)]
      · have c4 := c3 i (by omega)
        rw [c4.1]
        by_cases g : (wrd r).getD i 0 = nI (B (q + i))
        · rw [if_pos g]
          refine ih (i + 1) f (by omega) (by omega) (by omega) (fun j hj => ?_)
          by_cases y : j = i
          · rw [y]; exact g.symm
          · exact hp j (by omega)
        · rw [if_neg g, if_neg (fun y => g ((isW_iff.mp y).2 i (by omega)).symm)]
  exact key (e - q) 0 FU (by omega) (FU_big (by omega)) (Nat.zero_le _) (fun j hj => by omega)
theorem y_takesN (h : ¬ w.1 44 36 = 0 ∨ ¬ w.1 44 33 = 1) (r : Int32) : f_X12_takesWord r w = some (0, w) := by
  unfold f_X12_takesWord
  by_cases c : w.1 44 36 = 0
  · rw [if_pos c, if_neg (by rcases h with h | h; exact absurd c h; exact h)]
  · rw [if_neg c]
end WRD
