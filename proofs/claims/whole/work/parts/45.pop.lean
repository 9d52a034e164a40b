/-! how many bits: of sixteen -/
def cntB (p : Nat → Bool) : Nat → Nat
  | 0 => 0
  | k + 1 => cntB p k + (if p k then 1 else 0)
def pc (S : Nat) : Nat := cntB (fun i => S.testBit i) 16
theorem cntB_le (p : Nat → Bool) : ∀ n, cntB p n ≤ n
  | 0 => Nat.le_refl _
  | n + 1 => by have := cntB_le p n; simp only [cntB]; split <;> omega
theorem cntB_cong {p q : Nat → Bool} : ∀ {n : Nat}, (∀ k, k < n → p k = q k) → cntB p n = cntB q n
  | 0, _ => rfl
  | n + 1, h => by rw [cntB, cntB, cntB_cong (fun k hk => h k (by omega)), h n (by omega)]
theorem cntB_split (p : Nat → Bool) (m : Nat) : ∀ n, cntB p (m + n) = cntB p m + cntB (fun k => p (m + k)) n
  | 0 => rfl
  | n + 1 => by
    have h := cntB_split p m n
    show cntB p (m + n) + _ = cntB p m + (cntB (fun k => p (m + k)) n + _)
    rw [h]; exact Nat.add_assoc _ _ _
theorem pc_le (S : Nat) : pc S ≤ 16 := cntB_le _ 16
def pc8 (b : Nat) : Nat := cntB (fun i => b.testBit i) 8
theorem spl_bit {h l i : Nat} (hl : l < 256) : (256 * h + l).testBit i = if i < 8 then l.testBit i else h.testBit (i - 8) := Nat.testBit_two_pow_mul_add h (i := 8) hl i
theorem pc_spl {h l : Nat} (hl : l < 256) : pc (256 * h + l) = pc8 l + pc8 h := by
  unfold pc
  rw [show (16 : Nat) = 8 + 8 from rfl, cntB_split]
  unfold pc8
  congr 1
  · exact cntB_cong (fun k hk => by rw [spl_bit hl, if_pos hk])
  · exact cntB_cong (fun k hk => by rw [spl_bit hl, if_neg (by omega)]; congr 1; omega)
theorem and_spl {h l mh ml : Nat} (hl : l < 256) (hm : ml < 256) : (256 * h + l) &&& (256 * mh + ml) = 256 * (h &&& mh) + (l &&& ml) := by
  apply Nat.eq_of_testBit_eq
  intro i
  rw [Nat.testBit_and, spl_bit hl, spl_bit hm, spl_bit (Nat.lt_of_le_of_lt Nat.and_le_left hl)]
  split <;> rw [Nat.testBit_and]
def s1 (x : Nat) : Nat := x - (x / 2 &&& 1431655765)
def s2 (x : Nat) : Nat := (x &&& 858993459) + (x / 4 &&& 858993459)
def s3 (x : Nat) : Nat := (x + x / 16) &&& 252645135
theorem q1 : ∀ l, l < 256 → ∀ p, p < 2 → (128 * p + l / 2) &&& 85 = l / 2 &&& 85 := by decide +kernel
theorem q1' : ∀ l, l < 256 → l / 2 &&& 1431655765 = l / 2 &&& 85 ∧ (l / 2 &&& 85) ≤ l ∧ s1 l < 256 := by decide +kernel
theorem q2 : ∀ l, l < 256 → ∀ p, p < 4 → (64 * p + l / 4) &&& 51 = l / 4 &&& 51 := by decide +kernel
theorem q2' : ∀ l, l < 256 → l &&& 858993459 = l &&& 51 ∧ l / 4 &&& 858993459 = l / 4 &&& 51 ∧ s2 l < 256 := by decide +kernel
theorem q4 : ∀ l, l < 256 → s3 (s2 (s1 l)) = pc8 l ∧ s2 (s1 l) < 256 ∧ pc8 l ≤ 8 ∧ s2 (s1 l) + s2 (s1 l) / 16 < 256 ∧ s2 (s1 l) % 16 + s2 (s1 l) / 16 < 16 := by decide +kernel
theorem s1_spl {h l : Nat} (hh : h < 256) (hl : l < 256) : s1 (256 * h + l) = 256 * s1 h + s1 l := by
  obtain ⟨a1, a2, -⟩ := q1' l hl
  obtain ⟨b1, b2, -⟩ := q1' h hh
  unfold s1
  have e : (256 * h + l) / 2 &&& 1431655765 = 256 * (h / 2 &&& 85) + (l / 2 &&& 85) := by
    have e1 : (256 * h + l) / 2 = 256 * (h / 2) + (128 * (h % 2) + l / 2) := by omega
    have e2 : (1431655765 : Nat) = 256 * 5592405 + 85 := by decide
    have e3 : h / 2 &&& 5592405 = h / 2 &&& 85 := (by decide +kernel : ∀ h, h < 256 → h / 2 &&& 5592405 = h / 2 &&& 85) h hh
    rw [e1, e2, and_spl (by omega) (by decide), q1 l hl (h % 2) (by omega), e3]
  rw [e, a1, b1]
  omega
theorem s2_spl {h l : Nat} (hh : h < 256) (hl : l < 256) : s2 (256 * h + l) = 256 * s2 h + s2 l := by
  obtain ⟨a1, a2, -⟩ := q2' l hl
  obtain ⟨b1, b2, -⟩ := q2' h hh
  unfold s2
  have e0 : (858993459 : Nat) = 256 * 3355443 + 51 := by decide
  have c1 : (256 * h + l) &&& 858993459 = 256 * (h &&& 51) + (l &&& 51) := by
    have e3 : h &&& 3355443 = h &&& 51 := (by decide +kernel : ∀ h, h < 256 → h &&& 3355443 = h &&& 51) h hh
    rw [e0, and_spl hl (by decide), e3]
  have c2 : (256 * h + l) / 4 &&& 858993459 = 256 * (h / 4 &&& 51) + (l / 4 &&& 51) := by
    have e1 : (256 * h + l) / 4 = 256 * (h / 4) + (64 * (h % 4) + l / 4) := by omega
    have e3 : h / 4 &&& 3355443 = h / 4 &&& 51 := (by decide +kernel : ∀ h, h < 256 → h / 4 &&& 3355443 = h / 4 &&& 51) h hh
    rw [e1, e0, and_spl (by omega) (by decide), q2 l hl (h % 4) (by omega), e3]
  rw [c1, c2, a1, a2, b1, b2]
  omega
theorem and15 : ∀ x, x < 256 → ∀ c, c < 16 → x + 16 * c < 256 → (x + 16 * c) &&& 15 = x &&& 15 := by decide +kernel
theorem s3_spl {h l : Nat} (hh : h < 256) (hl : l < 256) (hs : l + l / 16 + 16 * (h % 16) < 256) (hs2 : h + h / 16 < 256) : s3 (256 * h + l) = 256 * s3 h + s3 l := by
  unfold s3
  have e0 : (252645135 : Nat) = 256 * 986895 + 15 := by decide
  have e1 : 256 * h + l + (256 * h + l) / 16 = 256 * (h + h / 16) + (l + l / 16 + 16 * (h % 16)) := by omega
  have k1 : (l + l / 16) &&& 252645135 = (l + l / 16) &&& 15 := (by decide +kernel : ∀ x, x < 256 → x &&& 252645135 = x &&& 15) _ (by omega)
  have k2 : (h + h / 16) &&& 252645135 = (h + h / 16) &&& 986895 := (by decide +kernel : ∀ x, x < 256 → x &&& 252645135 = x &&& 986895) _ hs2
  have k3 : (256 * (h + h / 16) + (l + l / 16 + 16 * (h % 16))) &&& 252645135 = 256 * ((h + h / 16) &&& 986895) + ((l + l / 16) &&& 15) := by
    rw [e0, and_spl hs (by decide), and15 _ (by omega) (h % 16) (Nat.mod_lt _ (by decide)) hs]
  rw [e1, k3, k1, k2]
theorem q5 : ∀ l, l < 256 → s2 (s1 l) / 16 ≤ 4 ∧ s2 (s1 l) % 16 ≤ 4 ∧ s2 (s1 l) < 256 ∧ s1 l < 256 ∧ s3 (s2 (s1 l)) = pc8 l ∧ pc8 l ≤ 8 := by decide +kernel
theorem bc_nat {S : Nat} (hS : S < 65536) : (s3 (s2 (s1 S)) + s3 (s2 (s1 S)) / 256 + (s3 (s2 (s1 S)) + s3 (s2 (s1 S)) / 256) / 65536) &&& 63 = pc S ∧ s1 S < 2 ^ 31 ∧ s2 (s1 S) < 2 ^ 30 ∧ s3 (s2 (s1 S)) < 2 ^ 30 ∧ (S / 2 &&& 1431655765) ≤ S := by
  obtain ⟨h, l, hh, hl, rfl⟩ : ∃ h l, h < 256 ∧ l < 256 ∧ S = 256 * h + l := ⟨S / 256, S % 256, by omega, Nat.mod_lt _ (by decide), by omega⟩
  obtain ⟨a1, a2, a3, a4, a5, a6⟩ := q5 l hl
  obtain ⟨b1, b2, b3, b4, b5, b6⟩ := q5 h hh
  have e1 := s1_spl hh hl
  have e2 : s2 (s1 (256 * h + l)) = 256 * s2 (s1 h) + s2 (s1 l) := by rw [e1, s2_spl b4 a4]
  have e3 : s3 (s2 (s1 (256 * h + l))) = 256 * pc8 h + pc8 l := by rw [e2, s3_spl b3 a3 (by omega) (by omega), a5, b5]
  have e4 : ∀ a, a < 9 → ∀ b, b < 9 → (256 * b + a + (256 * b + a) / 256 + (256 * b + a + (256 * b + a) / 256) / 65536) &&& 63 = a + b := by decide +kernel
  refine ⟨by rw [e3, e4 (pc8 l) (by omega) (pc8 h) (by omega), pc_spl hl], by rw [e1]; omega, by rw [e2]; omega, by rw [e3]; omega, ?_⟩
  exact Nat.le_trans Nat.and_le_left (Nat.div_le_self _ _)
theorem m_ushr {x : Nat} (hx : x < 2 ^ 31) (k : Nat) (hk : k < 32) : ((nI x).toUInt32 >>> ((nI k).toUInt32 &&& Int32.toUInt32 31)).toInt32 = nI (x / 2 ^ k) := pk_ushrN (by omega) (nI k) k ((by decide +kernel : ∀ n, n < 32 → (((nI n).toUInt32 &&& Int32.toUInt32 31).toBitVec % 32).toNat = n) k hk)
theorem x_pc {S : Nat} (hS : S < 65536) : f_J6_bitCount_0f7a4 (nI S) = nI (pc S) := by
  obtain ⟨h1, h2, h3, h4, h5⟩ := bc_nat hS
  have e1 : nI S - ((((nI S).toUInt32 >>> ((1 : Int32).toUInt32 &&& Int32.toUInt32 31)).toInt32) &&& 1431655765) = nI (s1 S) := by
    rw [show (1 : Int32) = nI 1 from rfl, m_ushr (by omega) 1 (by decide)]
    show nI S - (nI (S / 2 ^ 1) &&& nI 1431655765) = _
    rw [m_and, pk_sub (by simpa using h5)]
    simp [s1]
  have e2 : (nI (s1 S) &&& 858993459) + ((((nI (s1 S)).toUInt32 >>> ((2 : Int32).toUInt32 &&& Int32.toUInt32 31)).toInt32) &&& 858993459) = nI (s2 (s1 S)) := by
    rw [show (2 : Int32) = nI 2 from rfl, m_ushr h2 2 (by decide)]
    show (nI (s1 S) &&& nI 858993459) + (nI (s1 S / 2 ^ 2) &&& nI 858993459) = _
    rw [m_and, m_and, nI_add]
    rfl
  have e3 : (nI (s2 (s1 S)) + (((nI (s2 (s1 S))).toUInt32 >>> ((4 : Int32).toUInt32 &&& Int32.toUInt32 31)).toInt32)) &&& 252645135 = nI (s3 (s2 (s1 S))) := by
    rw [show (4 : Int32) = nI 4 from rfl, m_ushr (by omega) 4 (by decide)]
    show (nI (s2 (s1 S)) + nI (s2 (s1 S) / 2 ^ 4)) &&& nI 252645135 = _
    rw [nI_add, m_and]
    rfl
  unfold f_J6_bitCount_0f7a4
  rw [e1, e2, e3]
  rw [show (8 : Int32) = nI 8 from rfl, m_ushr (by omega) 8 (by decide), nI_add, show (16 : Int32) = nI 16 from rfl, m_ushr (by omega) 16 (by decide), nI_add]
  show nI _ &&& nI 63 = _
  rw [m_and]
  congr 1
/-! the reference's count -/
theorem low8 : ∀ l, l < 256 → l ≠ 0 → pc8 (l &&& (l - 1)) + 1 = pc8 l ∧ (l &&& (l - 1)) < 256 := by decide +kernel
theorem pc8z : pc8 0 = 0 := by decide
theorem pc_low {S : Nat} (hS : S < 65536) (h0 : S ≠ 0) : pc (S &&& (S - 1)) + 1 = pc S ∧ S &&& (S - 1) < 65536 := by
  refine ⟨?_, Nat.lt_of_le_of_lt Nat.and_le_left hS⟩
  obtain ⟨h, l, hh, hl, rfl⟩ : ∃ h l, h < 256 ∧ l < 256 ∧ S = 256 * h + l := ⟨S / 256, S % 256, by omega, Nat.mod_lt _ (by decide), by omega⟩
  by_cases hz : l = 0
  · subst hz
    have e : 256 * h + 0 - 1 = 256 * (h - 1) + 255 := by omega
    obtain ⟨g1, g2⟩ := low8 h hh (by omega)
    rw [e, and_spl (by decide) (by decide), Nat.zero_and, pc_spl (by decide), pc_spl (by decide), pc8z]
    omega
  · have e : 256 * h + l - 1 = 256 * h + (l - 1) := by omega
    obtain ⟨g1, g2⟩ := low8 l hl hz
    rw [e, and_spl hl (by omega), Nat.and_self, pc_spl g2, pc_spl hl]
    omega
theorem pc_zero : pc 0 = 0 := by decide
theorem y_ones_loop : ∀ k S c f, S < 65536 → pc S = k → k < f → f_X12_ones_L4 f (nI c) (nI S) = some (nI (c + k)) := by
  intro k
  induction k with
  | zero =>
    intro S c f hS hp hf
    obtain ⟨f, rfl⟩ : ∃ q, f = q + 1 := ⟨f - 1, by omega⟩
    show f_X12_ones_B4b (f_X12_ones_L4 f) (nI c) (nI S) = _
    unfold f_X12_ones_B4b
    by_cases h0 : S = 0
    · subst h0; rw [if_pos (show nI 0 = 0 from rfl)]; rfl
    · have := (pc_low hS h0).1; omega
  | succ k ih =>
    intro S c f hS hp hf
    obtain ⟨f, rfl⟩ : ∃ q, f = q + 1 := ⟨f - 1, by omega⟩
    have h0 : S ≠ 0 := fun q => by rw [q, pc_zero] at hp; omega
    obtain ⟨g1, g2⟩ := pc_low hS h0
    show f_X12_ones_B4b (f_X12_ones_L4 f) (nI c) (nI S) = _
    unfold f_X12_ones_B4b
    rw [if_neg (fun q => h0 ((nIz (by omega)).mp q)), nI_1]
    have e : nI S &&& (nI S - 1) = nI (S &&& (S - 1)) := by
      show nI S &&& (nI S - nI 1) = _
      rw [pk_sub (by omega), m_and]
    rw [e, ih _ (c + 1) f g2 (by omega) (by omega)]
    congr 2
    omega
theorem y_ones {S : Nat} (hS : S < 65536) : f_X12_ones (nI S) = some (nI (pc S)) := by
  unfold f_X12_ones
  refine (show f_X12_ones_L4 FU (nI 0) (nI S) = _ from y_ones_loop (pc S) S 0 FU hS rfl (FU_big (by have := pc_le S; omega))).trans ?_
  rw [Nat.zero_add]
