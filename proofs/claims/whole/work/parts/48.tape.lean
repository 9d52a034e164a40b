/-! the tape -/
theorem m_su : ∀ n, n < 32 → (((nI n).toUInt32 &&& Int32.toUInt32 31).toBitVec % 32).toNat = n := by decide +kernel
theorem b255 (i : Nat) (hi : i < 32) : (255 : Int32).toBitVec.getLsbD i = decide (i < 8) := (by decide +kernel : ∀ i, i < 32 → (255 : Int32).toBitVec.getLsbD i = decide (i < 8)) i hi
/-- the byte of a number, the highest first -/
def byt (a : Int32) (j : Nat) : Int32 := (a >>> (nI (24 - 8 * j) &&& 31)) &&& 255
theorem byt_u (a : Int32) {s : Nat} (hs : s ≤ 24) : ((a.toUInt32 >>> ((nI s).toUInt32 &&& Int32.toUInt32 31)).toInt32) &&& 255 = (a >>> (nI s &&& 31)) &&& 255 := by
  apply Int32.toBitVec_inj.mp
  apply BitVec.eq_of_getLsbD_eq
  intro i hi
  rw [Int32.toBitVec_and, Int32.toBitVec_and, BitVec.getLsbD_and, BitVec.getLsbD_and, b255 i hi]
  by_cases c : i < 8
  · congr 1
    show (a.toUInt32 >>> ((nI s).toUInt32 &&& Int32.toUInt32 31)).toBitVec.getLsbD i = _
    rw [UInt32.toBitVec_shiftRight, Int32.toBitVec_shiftRight]
    show (a.toUInt32.toBitVec >>> (((nI s).toUInt32 &&& Int32.toUInt32 31).toBitVec % 32).toNat).getLsbD i = (a.toBitVec.sshiftRight ((nI s &&& 31).toBitVec.smod 32).toNat).getLsbD i
    rw [m_su s (by omega), m_sl s (by omega), BitVec.getLsbD_ushiftRight, BitVec.getLsbD_sshiftRight]
    simp [hi, show s + i < 32 by omega]
  · simp [c]
theorem byt_nat (a : Int32) (j : Nat) : ∃ b, b < 256 ∧ byt a j = nI b := pk_andE _ (m := 255) 8 (by decide)
def sh (j : Nat) : Int32 := if j = 0 then 24 else if j = 1 then 16 else if j = 2 then 8 else if j = 3 then 0 else (-8)
theorem sh_ok : ∀ j, j < 4 → sh j = nI (24 - 8 * j) ∧ sh j + (-8) = sh (j + 1) ∧ ¬ sh j < 0 := by decide +kernel
theorem x_four {w : Wd} {L : Nat} (hL : L + 4 ≤ 200) (hw : w.1 1 1 = nI L) (a : Int32) : ∃ w', f_X9_addFour a w = some w' ∧ (∀ k, k ≠ 1 → k ≠ 2 → w'.1 k = w.1 k) ∧ (∀ j, j ≠ 1 → w'.1 1 j = w.1 1 j) ∧ w'.2 = w.2 ∧ w'.1 1 1 = nI (L + 4) ∧ ∀ b, w'.1 2 b = if L ≤ b ∧ b < L + 4 then byt a (b - L) else w.1 2 b := by
  have key := lup (fun f j (x : Wd) => f_X9_addFour_L3 f a (sh j) x) 4 (fun j x => sI (sI x 1 1 (nI (L + j + 1))) 2 (L + j) (byt a j)) (fun x => some x) (fun j x => (∀ k, k ≠ 1 → k ≠ 2 → x.1 k = w.1 k) ∧ (∀ i, i ≠ 1 → x.1 1 i = w.1 1 i) ∧ x.2 = w.2 ∧ x.1 1 1 = nI (L + j) ∧ ∀ b, x.1 2 b = if L ≤ b ∧ b < L + j then byt a (b - L) else w.1 2 b) ?_ ?_ ?_ 4 0 w FU (by omega) (FU_big (by decide)) ⟨fun _ _ _ => rfl, fun _ _ => rfl, rfl, hw, fun b => by rw [if_neg (by omega)]⟩
  · obtain ⟨k1, k2, k3, k4, k5, k6⟩ := key
    exact ⟨_, k1, k2, k3, k4, k5, k6⟩
  · intro f j x hj ⟨g1, g2, g3, g4, g5⟩
    obtain ⟨s1, s2, s3⟩ := sh_ok j hj
    show f_X9_addFour_B3b (f_X9_addFour_L3 f) a (sh j) x = _
    unfold f_X9_addFour_B3b
    rw [if_neg s3, g4, if_neg (nI_pos (by omega)), if_neg (by show ¬ nI 200 ≤ _; rw [m_le (by decide) (by omega)]; omega), m_letW, m_wr (by omega) (by decide), s2, nI_1, s1, byt_u a (by omega)]
    rfl
  · intro j x hj ⟨g1, g2, g3, g4, g5⟩
    refine ⟨fun k a b => by rw [sI_row _ _ _ _ b, sI_row _ _ _ _ a]; exact g1 k a b, fun i hi => by rw [sI_at, if_neg (by omega), sI_at, if_neg (fun z => hi z.2)]; exact g2 i hi, g3, by rw [sI_at, if_neg (by omega), sI_same]; rfl, fun b => ?_⟩
    rw [sI_at]
    by_cases c : b = L + j
    · rw [if_pos ⟨rfl, c⟩, if_pos (by omega), show b - L = j by omega]
    · rw [if_neg (fun z => c z.2), sI_at, if_neg (by omega), g5 b]
      by_cases d : L ≤ b ∧ b < L + j
      · rw [if_pos d, if_pos (by omega)]
      · rw [if_neg d, if_neg (by omega)]
  · intro f x _
    show f_X9_addFour_B3b (f_X9_addFour_L3 f) a (sh 4) x = _
    unfold f_X9_addFour_B3b
    rw [if_pos (by decide)]
def wo (a b c d e : Int32) (k : Nat) : Int32 := if 4 ≤ k then (if 8 ≤ k then (if 12 ≤ k then (if 16 ≤ k then e else d) else c) else b) else a
def byts (a b c d e : Int32) (k : Nat) : Int32 := byt (wo a b c d e k) (k % 4)
theorem x_feed {w : Wd} {L : Nat} (hL : L + 20 ≤ 200) (hw : w.1 1 1 = nI L) (a b c d e : Int32) : ∃ w', f_X11_feed a b c d e w = some (nI (L + 20), w') ∧ (∀ k, k ≠ 1 → k ≠ 2 → w'.1 k = w.1 k) ∧ (∀ j, j ≠ 1 → w'.1 1 j = w.1 1 j) ∧ w'.2 = w.2 ∧ w'.1 1 1 = nI (L + 20) ∧ ∀ i, w'.1 2 i = if L ≤ i ∧ i < L + 20 then byts a b c d e (i - L) else w.1 2 i := by
  obtain ⟨w1, e1, a1, b1, c1, d1, f1⟩ := x_four (w := w) (L := L) (by omega) hw a
  obtain ⟨w2, e2, a2, b2, c2, d2, f2⟩ := x_four (w := w1) (L := L + 4) (by omega) d1 b
  obtain ⟨w3, e3, a3, b3, c3, d3, f3⟩ := x_four (w := w2) (L := L + 4 + 4) (by omega) d2 c
  obtain ⟨w4, e4, a4, b4, c4, d4, f4⟩ := x_four (w := w3) (L := L + 4 + 4 + 4) (by omega) d3 d
  obtain ⟨w5, e5, a5, b5, c5, d5, f5⟩ := x_four (w := w4) (L := L + 4 + 4 + 4 + 4) (by omega) d4 e
  have d5 : w5.1 1 1 = nI (L + 20) := d5
  refine ⟨w5, ?_, fun k p q => by rw [a5 k p q, a4 k p q, a3 k p q, a2 k p q, a1 k p q], fun j p => by rw [b5 j p, b4 j p, b3 j p, b2 j p, b1 j p], by rw [c5, c4, c3, c2, c1], d5, fun i => ?_⟩
  · unfold f_X11_feed
    rw [hw, if_pos (by show nI L + nI 20 ≤ nI 200; rw [nI_add, m_le (by omega) (by decide)]; omega), m_bnd e1, m_bnd e2, m_bnd e3, m_bnd e4, m_bnd e5, d5]
  · rw [f5, f4, f3, f2, f1]
    unfold byts wo
    by_cases g0 : L ≤ i
    · by_cases g1 : i < L + 4
      · rw [if_neg (by omega), if_neg (by omega), if_neg (by omega), if_neg (by omega), if_pos (by omega), if_pos (by omega), if_neg (by omega), show (i - L) % 4 = i - L by omega]
      · by_cases g2 : i < L + 8
        · rw [if_neg (by omega), if_neg (by omega), if_neg (by omega), if_pos (by omega), if_pos (by omega), if_pos (by omega), if_neg (by omega), show (i - L) % 4 = i - (L + 4) by omega]
        · by_cases g3 : i < L + 12
          · rw [if_neg (by omega), if_neg (by omega), if_pos (by omega), if_pos (by omega), if_pos (by omega), if_pos (by omega), if_neg (by omega), show (i - L) % 4 = i - (L + 4 + 4) by omega]
          · by_cases g4 : i < L + 16
            · rw [if_neg (by omega), if_pos (by omega), if_pos (by omega), if_pos (by omega), if_pos (by omega), if_pos (by omega), if_neg (by omega), show (i - L) % 4 = i - (L + 4 + 4 + 4) by omega]
            · by_cases g5 : i < L + 20
              · rw [if_pos (by omega), if_pos (by omega), if_pos (by omega), if_pos (by omega), if_pos (by omega), if_pos (by omega), show (i - L) % 4 = i - (L + 4 + 4 + 4 + 4) by omega]
              · rw [if_neg (by omega), if_neg (by omega), if_neg (by omega), if_neg (by omega), if_neg (by omega), if_neg (by omega)]
    · rw [if_neg (by omega), if_neg (by omega), if_neg (by omega), if_neg (by omega), if_neg (by omega), if_neg (by omega)]
theorem rem4 : ∀ k, k < 20 → (24 : Int32) - 8 * rem32 (nI k) 4 = nI (24 - 8 * (k % 4)) := by decide +kernel
theorem y_feed {w : Wd} {L : Nat} (hL : L + 20 ≤ 200) (hw : w.1 44 30 = nI L) (a b c d e : Int32) : ∃ w', f_X12_feed a b c d e w = some (nI (L + 20), w') ∧ keepM (fun k => k = 66) (fun j => j = 30) w w' ∧ w'.1 44 30 = nI (L + 20) ∧ ∀ i, w'.1 66 i = if L ≤ i ∧ i < L + 20 then byts a b c d e (i - L) else w.1 66 i := by
  have key := lup (fun f j (x : Wd) => f_X12_feed_L18 f a b c d e (nI j) x) 20 (fun j x => sI (sI x 66 (L + j) (byts a b c d e j)) 44 30 (nI (L + j + 1))) (fun x => some (nI (L + 20), x)) (fun j x => keepM (fun k => k = 66) (fun j => j = 30) w x ∧ x.1 44 30 = nI (L + j) ∧ ∀ i, x.1 66 i = if L ≤ i ∧ i < L + j then byts a b c d e (i - L) else w.1 66 i) ?_ ?_ ?_ 20 0 w FU (by omega) (FU_big (by decide)) ⟨⟨fun _ _ _ => rfl, fun _ _ => rfl, rfl⟩, hw, fun i => by rw [if_neg (by omega)]⟩
  · obtain ⟨k1, k2, k3, k4⟩ := key
    refine ⟨_, ?_, k2, k3, k4⟩
    unfold f_X12_feed
    rw [hw, if_pos (by show nI L + nI 20 ≤ nI 200; rw [nI_add, m_le (by omega) (by decide)]; omega)]
    exact k1
  · intro f j x hj ⟨g1, g2, g3⟩
    show f_X12_feed_B18b (f_X12_feed_L18 f) a b c d e (nI j) x = _
    unfold f_X12_feed_B18b
    have l4 : ((4 : Int32) ≤ nI j) ↔ 4 ≤ j := m_le (a := 4) (by decide) (by omega)
    have l8 : ((8 : Int32) ≤ nI j) ↔ 8 ≤ j := m_le (a := 8) (by decide) (by omega)
    have l12 : ((12 : Int32) ≤ nI j) ↔ 12 ≤ j := m_le (a := 12) (by decide) (by omega)
    have l16 : ((16 : Int32) ≤ nI j) ↔ 16 ≤ j := m_le (a := 16) (by decide) (by omega)
    have tail : ∀ u : Int32, wo a b c d e j = u → (wrI x 66 200 (x.1 44 30) ((u >>> (((24 : Int32) - (8 * (rem32 (nI j) 4))) &&& 31)) &&& 255) fun w1 => letW (sI w1 44 30 ((w1.1 44 30) + 1)) fun w2 => f_X12_feed_L18 f a b c d e (nI j + 1) w2) = f_X12_feed_L18 f a b c d e (nI (j + 1)) (sI (sI x 66 (L + j) (byts a b c d e j)) 44 30 (nI (L + j + 1))) := by
      intro u hu
      rw [g2, m_wr (by omega) (by decide), m_letW, rem4 j hj, sI_at, if_neg (by omega), g2, nI_1, nI_1]
      unfold byts
      rw [hu]
      rfl
    rw [if_neg (by show ¬ nI 20 ≤ _; rw [m_le (by decide) (by omega)]; omega)]
    by_cases c4 : 4 ≤ j
    · rw [if_pos (l4.mpr c4)]
      by_cases c8 : 8 ≤ j
      · rw [if_pos (l8.mpr c8)]
        by_cases c12 : 12 ≤ j
        · rw [if_pos (l12.mpr c12)]
          by_cases c16 : 16 ≤ j
          · rw [if_pos (l16.mpr c16)]; exact tail e (by simp [wo, c4, c8, c12, c16])
          · rw [if_neg (fun z => c16 (l16.mp z))]; exact tail d (by simp [wo, c4, c8, c12, c16])
        · rw [if_neg (fun z => c12 (l12.mp z))]; exact tail c (by simp [wo, c4, c8, c12])
      · rw [if_neg (fun z => c8 (l8.mp z))]; exact tail b (by simp [wo, c4, c8])
    · rw [if_neg (fun z => c4 (l4.mp z))]; exact tail a (by simp [wo, c4])
  · intro j x hj ⟨⟨g1, g1', g1''⟩, g2, g3⟩
    refine ⟨⟨fun k p q => by rw [sI_row _ _ _ _ q, sI_row _ _ _ _ p]; exact g1 k p q, fun i p => by rw [sI_at, if_neg (fun z => p z.2), sI_row _ _ _ _ (by decide)]; exact g1' i p, g1''⟩, by rw [sI_same]; rfl, fun i => ?_⟩
    rw [sI_at, if_neg (by omega), sI_at]
    by_cases c : i = L + j
    · rw [if_pos ⟨rfl, c⟩, if_pos (by omega), show i - L = j by omega]
    · rw [if_neg (fun z => c z.2), g3 i]
      by_cases d : L ≤ i ∧ i < L + j
      · rw [if_pos d, if_pos (by omega)]
      · rw [if_neg d, if_neg (by omega)]
  · intro f x ⟨g1, g2, g3⟩
    show f_X12_feed_B18b (f_X12_feed_L18 f) a b c d e (nI 20) x = _
    unfold f_X12_feed_B18b
    rw [if_pos (by show nI 20 ≤ nI 20; rw [m_le (by decide) (by decide)]; omega), g2]
