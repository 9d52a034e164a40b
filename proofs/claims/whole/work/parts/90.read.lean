/-! what a text says, and the class's reading of it -/
def pnum (B : Nat → Nat) (L e lo hi : Nat) : Option (Nat × Nat) :=
  if runL (cB B) L e ≠ e ∧ 1 ≤ runL (cD B) L (runL (cB B) L e) - runL (cB B) L e ∧ runL (cD B) L (runL (cB B) L e) - runL (cB B) L e ≤ 2 ∧ lo ≤ avl B (runL (cB B) L e) (runL (cD B) L (runL (cB B) L e)) ∧ avl B (runL (cB B) L e) (runL (cD B) L (runL (cB B) L e)) ≤ hi then some (avl B (runL (cB B) L e) (runL (cD B) L (runL (cB B) L e)), runL (cD B) L (runL (cB B) L e)) else none
theorem runL_le (c : Nat → Bool) {L q : Nat} (h : q ≤ L) : q ≤ runL c L q ∧ runL c L q ≤ L := by
  have := scn_le c (L - q) q
  unfold runL
  omega
section READ
variable {w : Wd} {L : Nat} {B : Nat → Nat}
def w37 (w : Wd) (s d : Nat) : Wd := sI (sI (sI w 3 6 (nI s)) 3 7 (nI s)) 3 6 (nI d)
theorem x_rnum (h : TPx w L B) {e lo hi : Nat} (h6 : w.1 3 6 = nI e) (he : e ≤ L) (hlo : lo < 100) (hhi : hi < 100) : f_X7_readNumber (nI lo) (nI hi) w = match pnum B L e lo hi with
    | some (v, d) => some (nI v, w37 w (runL (cB B) L e) d)
    | none => some (-1, sI (w37 w (runL (cB B) L e) (runL (cD B) L (runL (cB B) L e))) 3 8 (nI (runL (cB B) L e))) := by
  have hL := h.1
  unfold f_X7_readNumber
  obtain ⟨s, hs⟩ : ∃ s, s = runL (cB B) L e := ⟨_, rfl⟩
  have hsl := runL_le (cB B) he
  rw [x_blanks h h6 he, bnd_some, m_letW, sI_same]
  unfold pnum
  rw [← hs] at hsl ⊢
  have hT2 : TPx (sI (sI w 3 6 (nI s)) 3 7 (nI s)) L B := TPx_cong h (by rw [sI_row _ _ _ _ (by decide), sI_row _ _ _ _ (by decide)]) (by rw [sI_row _ _ _ _ (by decide), sI_row _ _ _ _ (by decide)])
  rw [x_digits hT2 (q := s) (by rw [sI_at, if_neg (fun z => by omega), sI_same]) hsl.2, bnd_some]
  obtain ⟨d, hd⟩ : ∃ d, d = runL (cD B) L s := ⟨_, rfl⟩
  have hdl := runL_le (cD B) hsl.2
  have hin : ∀ i, s ≤ i → i < d → 48 ≤ B i ∧ B i ≤ 57 := fun i h1 h2 => by
    have := scn_in (cD B) (L - s) s i h1 (by rw [hd] at h2; exact h2)
    unfold cD at this
    rw [Bool.and_eq_true, Nat.ble_eq, Nat.ble_eq] at this
    exact this
  rw [← hd] at hdl ⊢
  obtain ⟨w3, hw3⟩ : ∃ w3, w3 = w37 w s d := ⟨_, rfl⟩
  have e3 : sI (sI (sI w 3 6 (nI s)) 3 7 (nI s)) 3 6 (nI d) = w3 := hw3.symm
  rw [e3, ← hw3]
  have hT3 : TPx w3 L B := by rw [hw3]; exact TPx_cong hT2 (by rw [w37, sI_row _ _ _ _ (by decide)]) (by rw [w37, sI_row _ _ _ _ (by decide)])
  have e37 : w3.1 3 7 = nI s := by rw [hw3, w37, sI_at, if_neg (fun z => by omega), sI_same]
  have e36 : w3.1 3 6 = nI d := by rw [hw3, w37, sI_same]
  rw [e37, e36, h6]
  by_cases c1 : s = e
  · rw [if_pos (by rw [c1]), if_neg (fun z => z.1 c1), m_letW]
  · rw [if_neg (fun z => c1 ((m_inj (by omega) (by omega)).mp z)), pk_sub hdl.1]
    by_cases c2 : d - s < 1
    · rw [if_pos (show nI (d - s) < (1 : Int32) from (m_lt (b := 1) (by omega) (by decide)).mpr c2), if_neg (fun z => by omega), m_letW]
    · rw [if_neg (show ¬ nI (d - s) < (1 : Int32) from fun z => c2 ((m_lt (b := 1) (by omega) (by decide)).mp z))]
      by_cases c3 : d - s ≤ 2
      · rw [if_pos (show nI (d - s) ≤ (2 : Int32) from nI_le (b := 2) c3 (by decide))]
        have hv : ∀ v, v = avl B s d → f_X7_readNumber_J112 (nI lo) (nI hi) (nI v) w3 = match (if s ≠ e ∧ 1 ≤ d - s ∧ d - s ≤ 2 ∧ lo ≤ avl B s d ∧ avl B s d ≤ hi then some (avl B s d, d) else none) with
            | some (v, d) => some (nI v, w37 w s d)
            | none => some (-1, sI w3 3 8 (nI s)) := by
          intro v hv
          have hv99 : v ≤ 99 := by
            rw [hv]; unfold avl
            have b1 := hin s (Nat.le_refl _) (by omega)
            split
            · omega
            · split
              · omega
              · have b2 := hin (s + 1) (by omega) (by omega)
                omega
          rw [← hv]
          unfold f_X7_readNumber_J112
          by_cases c4 : v < lo
          · rw [if_pos ((m_lt (by omega) (by omega)).mpr c4), if_neg (fun z => by omega), e37, m_letW]
          · rw [if_neg (fun z => c4 ((m_lt (by omega) (by omega)).mp z))]
            by_cases c5 : v ≤ hi
            · rw [if_pos (nI_le c5 (by omega)), if_pos ⟨c1, by omega, c3, by omega, c5⟩, hw3]
            · rw [if_neg (nI_ge (by omega) (by omega)), if_neg (fun z => c5 z.2.2.2.2), e37, m_letW]
        have e1 : nI d - 1 = nI (d - 1) := pk_sub (b := 1) (by omega)
        have b1 := hin (d - 1) (by omega) (by omega)
        rw [e1, x_byte hT3 (by omega), bnd_some, show nI (B (d - 1)) - 48 = nI (B (d - 1) - 48) from pk_sub (b := 48) b1.1]
        by_cases c4 : d - s = 2
        · have b2 := hin s (Nat.le_refl _) (by omega)
          rw [if_pos (show nI (d - s) = 2 by rw [c4]; rfl), x_byte hT3 (by omega), bnd_some, show nI (B s) - 48 = nI (B s - 48) from pk_sub (b := 48) b2.1, show (10 : Int32) * nI (B s - 48) = nI (10 * (B s - 48)) from pk_mul 10 _, nI_add]
          exact hv _ (by unfold avl; rw [if_neg (by omega), if_neg (by omega), show d - 1 = s + 1 by omega]; omega)
        · rw [if_neg (show ¬ nI (d - s) = 2 from fun z => c4 ((m_inj (b := 2) (by omega) (by decide)).mp z))]
          exact hv _ (by unfold avl; rw [if_neg (by omega), if_pos (by omega), show d - 1 = s by omega])
      · rw [if_neg (show ¬ nI (d - s) ≤ (2 : Int32) from nI_ge (a := 2) (by omega) (by omega)), if_neg (fun z => c3 z.2.2.1), m_letW]
end READ
/-- the set at the end: from place e on -/
def pset (B : Nat → Nat) (L n : Nat) : Nat → Nat → Nat → Nat ⊕ (Nat × Nat)
  | 0, e, _ => .inl e
  | f + 1, e, S => if runL (cB B) L e < L ∧ B (runL (cB B) L e) = 59 then .inr (runL (cB B) L e + 1, S) else match pnum B L e 0 (n - 1) with
    | some (v, d) => if S.testBit v then .inl (runL (cB B) L e) else pset B L n f d (S ||| 2 ^ v)
    | none => .inl (runL (cB B) L e)
/-- after a factor: the stop -/
def pstp (B : Nat → Nat) (L d : Nat) : Nat ⊕ Nat := if runL (cB B) L d < L ∧ B (runL (cB B) L d) = 59 then .inr (runL (cB B) L (runL (cB B) L d + 1)) else .inl (runL (cB B) L d)
def pread (B : Nat → Nat) (L : Nat) : Nat → Nat → List (Nat × Nat) → Nat ⊕ (List (Nat × Nat) × Nat)
  | 0, q, _ => .inl q
  | f + 1, q, fs => if L ≤ q then .inr (fs, 0) else
    if isW B q (runL (cA B) L q) 0 then (match pnum B L (runL (cA B) L q) 2 16 with
      | some (v, d) => if (gst fs).1 * v ≤ 16 then (match pstp B L d with
        | .inr q' => pread B L f q' (fs ++ [(0, v)])
        | .inl p => .inl p) else .inl (runL (cB B) L (runL (cA B) L q))
      | none => .inl (runL (cB B) L (runL (cA B) L q)))
    else if isW B q (runL (cA B) L q) 1 then (match pnum B L (runL (cA B) L q) 1 8 with
      | some (v, d) => if (gst fs).1 * (2 * v) ≤ 16 then (match pstp B L d with
        | .inr q' => pread B L f q' (fs ++ [(1, v)])
        | .inl p => .inl p) else .inl (runL (cB B) L (runL (cA B) L q))
      | none => .inl (runL (cB B) L (runL (cA B) L q)))
    else if isW B q (runL (cA B) L q) 2 then (if (gst fs).1 * 8 ≤ 16 then (match pstp B L (runL (cA B) L q) with
        | .inr q' => pread B L f q' (fs ++ [(2, 0)])
        | .inl p => .inl p) else .inl q)
    else if isW B q (runL (cA B) L q) 3 then (match pset B L (gst fs).1 201 (runL (cA B) L q) 0 with
      | .inr (p, S) => if L ≤ runL (cB B) L p then .inr (fs, S) else .inl (runL (cB B) L p)
      | .inl p => .inl p)
    else .inl q
theorem pnum_lo {B : Nat → Nat} {L e lo hi v d : Nat} (h : pnum B L e lo hi = some (v, d)) : lo ≤ v ∧ v ≤ hi ∧ d = runL (cD B) L (runL (cB B) L e) ∧ v = avl B (runL (cB B) L e) d ∧ runL (cB B) L e < d ∧ runL (cB B) L e ≠ e ∧ d - runL (cB B) L e ≤ 2 := by
  unfold pnum at h
  split at h
  · rename_i c
    obtain ⟨rfl, rfl⟩ := Prod.mk.inj (Option.some.inj h)
    exact ⟨c.2.2.2.1, c.2.2.2.2, rfl, rfl, by omega, c.1, c.2.2.1⟩
  · cases h
theorem pset_ok {B : Nat → Nat} {L n : Nat} (hn : 1 ≤ n) : ∀ f e S p R, S < 2 ^ n → pset B L n f e S = .inr (p, R) → R < 2 ^ n := by
  intro f
  induction f with
  | zero => intro e S p R _ h; cases h
  | succ f ih =>
    intro e S p R hS h
    simp only [pset] at h
    split at h
    · cases h; exact hS
    · split at h
      · rename_i v d hv
        split at h
        · cases h
        · have := (pnum_lo hv).2.1
          exact ih d _ p R (Nat.or_lt_two_pow hS (Nat.pow_lt_pow_right (by decide) (by omega))) h
      · cases h
theorem fam_snoc {fs : List (Nat × Nat)} {f : Nat × Nat} (h : FAM fs) (hf : f ∈ allF) (hn : (gst fs).1 * fsz f ≤ 16) : FAM (fs ++ [f]) := by
  refine ⟨fun g hg => ?_, ?_⟩
  · rcases List.mem_append.mp hg with q | q
    · exact h.1 g q
    · rw [List.mem_singleton.mp q]; exact hf
  · rw [gst_snoc]; exact hn
theorem fam_nil : FAM [] := ⟨fun f hf => absurd hf List.not_mem_nil, (by decide : 1 ≤ 16)⟩
theorem pread_ok {B : Nat → Nat} {L : Nat} : ∀ f q fs gs S, FAM fs → pread B L f q fs = .inr (gs, S) → FAM gs ∧ S < 2 ^ (gst gs).1 := by
  intro f
  induction f with
  | zero => intro q fs gs S _ h; cases h
  | succ f ih =>
    intro q fs gs S hF h
    have h1 := (gst_ok hF.1).1
    simp only [pread] at h
    split at h
    · cases h; exact ⟨hF, Nat.two_pow_pos _⟩
    · split at h
      · split at h
        · rename_i v d hv
          have hv := pnum_lo hv
          split at h
          · rename_i c
            split at h
            · exact ih _ _ _ _ (fam_snoc (f := (0, v)) hF (allF_mem.mpr (Or.inl ⟨rfl, hv.1, hv.2.1⟩)) c) h
            · cases h
          · cases h
        · cases h
      · split at h
        · split at h
          · rename_i v d hv
            have hv := pnum_lo hv
            split at h
            · rename_i c
              split at h
              · exact ih _ _ _ _ (fam_snoc (f := (1, v)) hF (allF_mem.mpr (Or.inr (Or.inl ⟨rfl, hv.1, hv.2.1⟩))) c) h
              · cases h
            · cases h
          · cases h
        · split at h
          · split at h
            · rename_i c
              split at h
              · exact ih _ _ _ _ (fam_snoc (f := (2, 0)) hF (allF_mem.mpr (Or.inr (Or.inr ⟨rfl, rfl⟩))) c) h
              · cases h
            · cases h
          · split at h
            · split at h
              · rename_i p R hp
                split at h
                · cases h; exact ⟨hF, pset_ok h1 _ _ _ _ _ (Nat.two_pow_pos _) hp⟩
                · cases h
              · cases h
            · cases h
