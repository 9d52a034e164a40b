/-! the group at hand, on both sides -/
def Gp (n : Nat) (T : Nat → Nat → Nat) (iv : Nat → Nat) : Prop := (1 ≤ n ∧ n ≤ 16) ∧ (∀ a b, a < n → b < n → T a b < n) ∧ (∀ a, a < n → T 0 a = a ∧ T a 0 = a) ∧ (∀ a b c, a < n → b < n → c < n → T (T a b) c = T a (T b c)) ∧ ∀ a, a < n → iv a < n ∧ T a (iv a) = 0 ∧ T (iv a) a = 0
def GX (w : Wd) (n : Nat) (T : Nat → Nat → Nat) (iv : Nat → Nat) : Prop := w.1 6 7 = nI n ∧ w.1 6 8 = nI (2 ^ n - 1) ∧ (∀ a b, a < n → b < n → w.1 9 (16 * a + b) = nI (T a b)) ∧ ∀ a, a < n → w.1 10 a = nI (iv a)
/-- all products of two of a set -/
def mv (n : Nat) (T : Nat → Nat → Nat) (g S : Nat) (left : Bool) : Nat := orF (fun e => if S.testBit e then 2 ^ (if left then T g e else T e g) else 0) n
def pr (n : Nat) (T : Nat → Nat → Nat) (S R : Nat) : Nat := orF (fun e => if S.testBit e then mv n T e R true else 0) n
def ivs (n : Nat) (iv : Nat → Nat) (S : Nat) : Nat := orF (fun e => if S.testBit e then 2 ^ iv e else 0) n
def GM (w : Wd) (n : Nat) (T : Nat → Nat → Nat) (iv : Nat → Nat) : Prop := w.1 44 1 = nI n ∧ (∀ a b, a < n → b < n → w.1 47 (16 * a + b) = nI (T a b)) ∧ (∀ a, a < n → w.1 48 a = nI (iv a)) ∧ ∀ S, S < 2 ^ n → w.1 49 S = nI (pr n T S S)
theorem m_mask15 {a : Nat} (h : a < 16) : nI a &&& 15 = nI a := by
  show nI a &&& nI (2 ^ 4 - 1) = nI a
  rw [m_and, Nat.and_two_pow_sub_one_eq_mod, Nat.mod_eq_of_lt h]
section GR
variable {w : Wd} {n : Nat} {T : Nat → Nat → Nat} {iv : Nat → Nat}
theorem mv_bit {g S x : Nat} {left : Bool} : (mv n T g S left).testBit x = true ↔ ∃ e, e < n ∧ S.testBit e = true ∧ (if left then T g e else T e g) = x := by
  unfold mv
  rw [orF_bit]
  constructor
  · rintro ⟨e, he, h⟩
    split at h
    next q => exact ⟨e, he, q, (two_bit _ _).mp h⟩
    next => simp at h
  · rintro ⟨e, he, q, h⟩
    exact ⟨e, he, by rw [if_pos q]; exact (two_bit _ _).mpr h⟩
theorem pr_bit {S R x : Nat} : (pr n T S R).testBit x = true ↔ ∃ a b, a < n ∧ b < n ∧ S.testBit a = true ∧ R.testBit b = true ∧ T a b = x := by
  unfold pr
  rw [orF_bit]
  constructor
  · rintro ⟨e, he, h⟩
    split at h
    next q =>
      obtain ⟨b, hb, hR, h⟩ := mv_bit.mp h
      exact ⟨e, b, he, hb, q, hR, by simpa using h⟩
    next => simp at h
  · rintro ⟨a, b, ha, hb, hS, hR, h⟩
    exact ⟨a, ha, by rw [if_pos hS]; exact mv_bit.mpr ⟨b, hb, hR, by simpa using h⟩⟩
theorem ivs_bit {S x : Nat} : (ivs n iv S).testBit x = true ↔ ∃ e, e < n ∧ S.testBit e = true ∧ iv e = x := by
  unfold ivs
  rw [orF_bit]
  constructor
  · rintro ⟨e, he, h⟩
    split at h
    next q => exact ⟨e, he, q, (two_bit _ _).mp h⟩
    next => simp at h
  · rintro ⟨e, he, q, h⟩
    exact ⟨e, he, by rw [if_pos q]; exact (two_bit _ _).mpr h⟩
theorem mv_lt (hg : Gp n T iv) {g S : Nat} {left : Bool} (h : g < n) : mv n T g S left < 2 ^ n := by
  apply lt_two
  intro x hx
  obtain ⟨e, he, -, rfl⟩ := mv_bit.mp hx
  split
  · exact hg.2.1 g e h he
  · exact hg.2.1 e g he h
theorem pr_lt (hg : Gp n T iv) {S R : Nat} : pr n T S R < 2 ^ n := by
  apply lt_two
  intro x hx
  obtain ⟨a, b, ha, hb, -, -, rfl⟩ := pr_bit.mp hx
  exact hg.2.1 a b ha hb
theorem ivs_lt (hg : Gp n T iv) {S : Nat} : ivs n iv S < 2 ^ n := by
  apply lt_two
  intro x hx
  obtain ⟨e, he, -, rfl⟩ := ivs_bit.mp hx
  exact (hg.2.2.2.2 e he).1
/-! one-line methods -/
theorem x_times (hG : GX w n T iv) (hg : Gp n T iv) {a b : Nat} (ha : a < n) (hb : b < n) : f_X4_times (nI a) (nI b) w = some (nI (T a b)) := by
  have h16 := hg.1.2
  unfold f_X4_times
  rw [m_mask15 (by omega), m_mask15 (by omega)]
  show rdI w 9 256 (nI a * nI 16 + nI b) _ = _
  rw [pk_mul, nI_add, m_rd (by omega) (by decide), show a * 16 + b = 16 * a + b by omega, hG.2.2.1 a b ha hb]
theorem x_inv (hG : GX w n T iv) (hg : Gp n T iv) {a : Nat} (ha : a < n) : f_X4_inverseOf (nI a) w = some (nI (iv a)) := by
  have h16 := hg.1.2
  unfold f_X4_inverseOf
  rw [m_mask15 (by omega), m_rd (by omega) (by decide), hG.2.2.2 a ha]
theorem y_prod (hM : GM w n T iv) (hg : Gp n T iv) {a b : Nat} (ha : a < n) (hb : b < n) : f_X12_product0 (nI a) (nI b) w = some (nI (T a b)) := by
  have h16 := hg.1.2
  unfold f_X12_product0
  show rdI w 47 256 (nI 16 * nI a + nI b) _ = _
  rw [pk_mul, nI_add, m_rd (by omega) (by decide), hM.2.1 a b ha hb]
theorem y_has {S e : Nat} (hS : S < 2 ^ 31) (he : e < 31) : f_X12_has (nI S) (nI e) = if S.testBit e then 1 else 0 := by
  unfold f_X12_has
  rw [m_bit hS (by omega)]
  cases S.testBit e <;> rfl
theorem y_has0 {S e : Nat} (hS : S < 2 ^ 31) (he : e < 31) : (f_X12_has (nI S) (nI e) = 0) ↔ S.testBit e = false := by
  rw [y_has hS he]
  cases S.testBit e <;> simp
theorem x_bit0 {S e : Nat} (hS : S < 2 ^ 31) (he : e < 31) : ((nI S >>> (nI e &&& 31)) &&& 1 = 0) ↔ S.testBit e = false := by
  rw [m_bit hS (by omega)]
  cases S.testBit e <;> simp <;> decide
/-! moved, shifted -/
theorem x_moved (hG : GX w n T iv) (hg : Gp n T iv) {g S : Nat} (h : g < n) (hS : S < 2 ^ 16) (l : Int32) : f_X4_moved (nI g) (nI S) l w = some (nI (mv n T g S (decide (l ≠ 0)))) := by
  have h16 := hg.1.2
  have hS' : S < 2 ^ 31 := Nat.lt_trans hS (by decide)
  have key := lup (fun f i (acc : Nat) => f_X4_moved_L6 f (nI g) (nI S) l (nI acc) (nI i) w) n (fun e acc => acc ||| (if S.testBit e then 2 ^ (if decide (l ≠ 0) then T g e else T e g) else 0)) (fun acc => some (nI acc)) (fun _ _ => True) ?_ (fun _ _ _ _ => trivial) ?_ n 0 0 FU (by omega) (FU_big (by omega)) trivial
  · exact key.1
  · intro f i acc hi _
    show f_X4_moved_B6b (f_X4_moved_L6 f) (nI g) (nI S) l (nI acc) (nI i) w = _
    unfold f_X4_moved_B6b
    rw [hG.1, if_neg (by rw [m_le (by omega) (by omega)]; omega)]
    by_cases hb : S.testBit i = true
    · rw [if_neg (by rw [x_bit0 hS' (by omega), hb]; decide)]
      by_cases hl : l = 0
      · rw [if_pos hl, m_bnd (x_times hG hg hi h), m_shl1 (by have := hg.2.1 i g hi h; omega), m_or, nI_1]
        simp [hb, hl]
      · rw [if_neg hl, m_bnd (x_times hG hg h hi), m_shl1 (by have := hg.2.1 g i h hi; omega), m_or, nI_1]
        simp [hb, hl]
    · rw [if_pos (by rw [x_bit0 hS' (by omega)]; simpa using hb), nI_1]
      simp [hb]
  · intro f acc _
    show f_X4_moved_B6b (f_X4_moved_L6 f) (nI g) (nI S) l (nI acc) (nI n) w = _
    unfold f_X4_moved_B6b
    rw [hG.1, if_pos (by rw [m_le (by omega) (by omega)]; omega)]
theorem y_shifted (hM : GM w n T iv) (hg : Gp n T iv) {g S : Nat} (h : g < n) (hS : S < 2 ^ 16) (l : Int32) : f_X12_shifted (nI S) (nI g) l w = some (nI (mv n T g S (decide (l ≠ 0)))) := by
  have h16 := hg.1.2
  have hS' : S < 2 ^ 31 := Nat.lt_trans hS (by decide)
  have key := lup (fun f i (acc : Nat) => f_X12_shifted_L6 f (nI S) (nI g) l (nI acc) (nI i) w) n (fun e acc => acc ||| (if S.testBit e then 2 ^ (if decide (l ≠ 0) then T g e else T e g) else 0)) (fun acc => some (nI acc)) (fun _ _ => True) ?_ (fun _ _ _ _ => trivial) ?_ n 0 0 FU (by omega) (FU_big (by omega)) trivial
  · exact key.1
  · intro f i acc hi _
    show f_X12_shifted_B6b (f_X12_shifted_L6 f) (nI S) (nI g) l (nI acc) (nI i) w = _
    unfold f_X12_shifted_B6b
    rw [hM.1, if_neg (by rw [m_le (by omega) (by omega)]; omega)]
    by_cases hb : S.testBit i = true
    · rw [if_neg (by rw [y_has0 hS' (by omega), hb]; decide)]
      by_cases hl : l = 0
      · rw [if_pos hl, m_bnd (y_prod hM hg hi h), m_shl1 (by have := hg.2.1 i g hi h; omega), m_or, nI_1]
        simp [hb, hl]
      · rw [if_neg hl, m_bnd (y_prod hM hg h hi), m_shl1 (by have := hg.2.1 g i h hi; omega), m_or, nI_1]
        simp [hb, hl]
    · rw [if_pos (by rw [y_has0 hS' (by omega)]; simpa using hb), nI_1]
      simp [hb]
  · intro f acc _
    show f_X12_shifted_B6b (f_X12_shifted_L6 f) (nI S) (nI g) l (nI acc) (nI n) w = _
    unfold f_X12_shifted_B6b
    rw [hM.1, if_pos (by rw [m_le (by omega) (by omega)]; omega)]
end GR
