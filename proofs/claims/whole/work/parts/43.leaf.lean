section LEAF
variable {w : Wd} {n : Nat} {T : Nat → Nat → Nat} {iv : Nat → Nat}
theorem lt31 {S : Nat} (h : S < 2 ^ 16) : S < 2 ^ 31 := Nat.lt_trans h (by decide)
theorem le16 {S n : Nat} (h : S < 2 ^ n) (hn : n ≤ 16) : S < 2 ^ 16 := Nat.lt_of_lt_of_le h (Nat.pow_le_pow_right (by decide) hn)
/-! inverses of a set -/
theorem x_ivs (hG : GX w n T iv) (hg : Gp n T iv) {S : Nat} (hS : S < 2 ^ 16) : f_X4_inversesOf (nI S) w = some (nI (ivs n iv S)) := by
  have h16 := hg.1.2
  have key := lup (fun f i (acc : Nat) => f_X4_inversesOf_L4 f (nI S) (nI acc) (nI i) w) n (fun e acc => acc ||| (if S.testBit e then 2 ^ iv e else 0)) (fun acc => some (nI acc)) (fun _ _ => True) ?_ (fun _ _ _ _ => trivial) ?_ n 0 0 FU (by omega) (FU_big (by omega)) trivial
  · exact key.1
  · intro f i acc hi _
    show f_X4_inversesOf_B4b (f_X4_inversesOf_L4 f) (nI S) (nI acc) (nI i) w = _
    unfold f_X4_inversesOf_B4b
    rw [hG.1, if_neg (by rw [m_le (by omega) (by omega)]; omega)]
    by_cases hb : S.testBit i = true
    · rw [if_neg (by rw [x_bit0 (lt31 hS) (by omega), hb]; decide), m_bnd (x_inv hG hg hi), m_shl1 (by have := (hg.2.2.2.2 i hi).1; omega), m_or, nI_1]
      simp [hb]
    · rw [if_pos (by rw [x_bit0 (lt31 hS) (by omega)]; simpa using hb), nI_1]
      simp [hb]
  · intro f acc _
    show f_X4_inversesOf_B4b (f_X4_inversesOf_L4 f) (nI S) (nI acc) (nI n) w = _
    unfold f_X4_inversesOf_B4b
    rw [hG.1, if_pos (by rw [m_le (by omega) (by omega)]; omega)]
theorem y_ivs (hM : GM w n T iv) (hg : Gp n T iv) {S : Nat} (hS : S < 2 ^ 16) : f_X12_inverses (nI S) w = some (nI (ivs n iv S)) := by
  have h16 := hg.1.2
  have key := lup (fun f i (acc : Nat) => f_X12_inverses_L4 f (nI S) (nI acc) (nI i) w) n (fun e acc => acc ||| (if S.testBit e then 2 ^ iv e else 0)) (fun acc => some (nI acc)) (fun _ _ => True) ?_ (fun _ _ _ _ => trivial) ?_ n 0 0 FU (by omega) (FU_big (by omega)) trivial
  · exact key.1
  · intro f i acc hi _
    show f_X12_inverses_B4b (f_X12_inverses_L4 f) (nI S) (nI acc) (nI i) w = _
    unfold f_X12_inverses_B4b
    rw [hM.1, if_neg (by rw [m_le (by omega) (by omega)]; omega)]
    by_cases hb : S.testBit i = true
    · rw [if_neg (by rw [y_has0 (lt31 hS) (by omega), hb]; decide), m_rd (by omega) (by decide), hM.2.2.1 i hi, m_shl1 (by have := (hg.2.2.2.2 i hi).1; omega), m_or, nI_1]
      simp [hb]
    · rw [if_pos (by rw [y_has0 (lt31 hS) (by omega)]; simpa using hb), nI_1]
      simp [hb]
  · intro f acc _
    show f_X12_inverses_B4b (f_X12_inverses_L4 f) (nI S) (nI acc) (nI n) w = _
    unfold f_X12_inverses_B4b
    rw [hM.1, if_pos (by rw [m_le (by omega) (by omega)]; omega)]
/-! products of two sets -/
theorem x_pr (hG : GX w n T iv) (hg : Gp n T iv) {S R : Nat} (hS : S < 2 ^ 16) (hR : R < 2 ^ 16) : f_X4_productsOf (nI S) (nI R) w = some (nI (pr n T S R)) := by
  have h16 := hg.1.2
  have key := lup (fun f i (acc : Nat) => f_X4_productsOf_L5 f (nI S) (nI R) (nI acc) (nI i) w) n (fun e acc => acc ||| (if S.testBit e then mv n T e R true else 0)) (fun acc => some (nI acc)) (fun _ _ => True) ?_ (fun _ _ _ _ => trivial) ?_ n 0 0 FU (by omega) (FU_big (by omega)) trivial
  · exact key.1
  · intro f i acc hi _
    show f_X4_productsOf_B5b (f_X4_productsOf_L5 f) (nI S) (nI R) (nI acc) (nI i) w = _
    unfold f_X4_productsOf_B5b
    rw [hG.1, if_neg (by rw [m_le (by omega) (by omega)]; omega)]
    by_cases hb : S.testBit i = true
    · rw [if_neg (by rw [x_bit0 (lt31 hS) (by omega), hb]; decide), m_bnd (x_mvL hG hg hi hR), m_or, nI_1]
      simp [hb]
    · rw [if_pos (by rw [x_bit0 (lt31 hS) (by omega)]; simpa using hb), nI_1]
      simp [hb]
  · intro f acc _
    show f_X4_productsOf_B5b (f_X4_productsOf_L5 f) (nI S) (nI R) (nI acc) (nI n) w = _
    unfold f_X4_productsOf_B5b
    rw [hG.1, if_pos (by rw [m_le (by omega) (by omega)]; omega)]
theorem y_pr (hM : GM w n T iv) (hg : Gp n T iv) {S R : Nat} (hS : S < 2 ^ 16) (hR : R < 2 ^ 16) : f_X12_productsOfTwo (nI S) (nI R) w = some (nI (pr n T S R)) := by
  have h16 := hg.1.2
  have key := lup (fun f i (acc : Nat) => f_X12_productsOfTwo_L5 f (nI S) (nI R) (nI acc) (nI i) w) n (fun e acc => acc ||| (if S.testBit e then mv n T e R true else 0)) (fun acc => some (nI acc)) (fun _ _ => True) ?_ (fun _ _ _ _ => trivial) ?_ n 0 0 FU (by omega) (FU_big (by omega)) trivial
  · exact key.1
  · intro f i acc hi _
    show f_X12_productsOfTwo_B5b (f_X12_productsOfTwo_L5 f) (nI S) (nI R) (nI acc) (nI i) w = _
    unfold f_X12_productsOfTwo_B5b
    rw [hM.1, if_neg (by rw [m_le (by omega) (by omega)]; omega)]
    by_cases hb : S.testBit i = true
    · rw [if_neg (by rw [y_has0 (lt31 hS) (by omega), hb]; decide), m_bnd (y_shL hM hg hi hR), m_or, nI_1]
      simp [hb]
    · rw [if_pos (by rw [y_has0 (lt31 hS) (by omega)]; simpa using hb), nI_1]
      simp [hb]
  · intro f acc _
    show f_X12_productsOfTwo_B5b (f_X12_productsOfTwo_L5 f) (nI S) (nI R) (nI acc) (nI n) w = _
    unfold f_X12_productsOfTwo_B5b
    rw [hM.1, if_pos (by rw [m_le (by omega) (by omega)]; omega)]
/-! conjugates -/
def cj (T : Nat → Nat → Nat) (iv : Nat → Nat) (g e : Nat) : Nat := T (T g e) (iv g)
def cjs (n : Nat) (T : Nat → Nat → Nat) (iv : Nat → Nat) (g S : Nat) : Nat := orF (fun e => if S.testBit e then 2 ^ cj T iv g e else 0) n
theorem cj_lt (hg : Gp n T iv) {g e : Nat} (h : g < n) (he : e < n) : cj T iv g e < n := hg.2.1 _ _ (hg.2.1 g e h he) (hg.2.2.2.2 g h).1
theorem cjs_bit {g S x : Nat} : (cjs n T iv g S).testBit x = true ↔ ∃ e, e < n ∧ S.testBit e = true ∧ cj T iv g e = x := by
  unfold cjs
  rw [orF_bit]
  constructor
  · rintro ⟨e, he, h⟩
    split at h
    next q => exact ⟨e, he, q, (two_bit _ _).mp h⟩
    next => simp at h
  · rintro ⟨e, he, q, h⟩
    exact ⟨e, he, by rw [if_pos q]; exact (two_bit _ _).mpr h⟩
theorem ext_bit {a b : Nat} (h : ∀ x, a.testBit x = true ↔ b.testBit x = true) : a = b := by
  apply Nat.eq_of_testBit_eq
  intro x
  have := h x
  cases q1 : a.testBit x <;> cases q2 : b.testBit x <;> simp_all
theorem mv_cj (hg : Gp n T iv) {g S : Nat} (h : g < n) : mv n T (iv g) (mv n T g S true) false = cjs n T iv g S := by
  apply ext_bit
  intro x
  rw [mv_bit, cjs_bit]
  constructor
  · rintro ⟨e, he, h1, h2⟩
    obtain ⟨q, hq, g1, g2⟩ := mv_bit.mp h1
    simp only [if_true] at g2
    exact ⟨q, hq, g1, by unfold cj; rw [g2]; simpa using h2⟩
  · rintro ⟨e, he, h1, h2⟩
    exact ⟨T g e, hg.2.1 g e h he, mv_bit.mpr ⟨e, he, h1, by simp⟩, by simpa [cj] using h2⟩
theorem x_conj (hG : GX w n T iv) (hg : Gp n T iv) {g S : Nat} (h : g < n) (hS : S < 2 ^ 16) : f_X4_conjugated (nI g) (nI S) w = some (nI (cjs n T iv g S)) := by
  unfold f_X4_conjugated
  rw [m_bnd (x_inv hG hg h), m_bnd (x_mvL hG hg h hS), m_bnd (x_mvR hG hg (hg.2.2.2.2 g h).1 (le16 (mv_lt hg h) hg.1.2)), mv_cj hg h]
theorem y_conj (hM : GM w n T iv) (hg : Gp n T iv) {g e : Nat} (h : g < n) (he : e < n) : f_X12_conjugate (nI g) (nI e) w = some (nI (cj T iv g e)) := by
  have h16 := hg.1.2
  unfold f_X12_conjugate
  rw [m_bnd (y_prod hM hg h he), m_rd (by omega) (by decide), hM.2.2.1 g h, m_bnd (y_prod hM hg (hg.2.1 g e h he) (hg.2.2.2.2 g h).1)]
  rfl
def alk (n : Nat) (T : Nat → Nat → Nat) (iv : Nat → Nat) (e : Nat) : Nat := orF (fun g => 2 ^ cj T iv g e) n
theorem alk_bit {e x : Nat} : (alk n T iv e).testBit x = true ↔ ∃ g, g < n ∧ cj T iv g e = x := by
  unfold alk
  rw [orF_bit]
  simp only [two_bit]
theorem alk_lt (hg : Gp n T iv) {e : Nat} (he : e < n) : alk n T iv e < 2 ^ n := by
  apply lt_two
  intro x hx
  obtain ⟨g, h, rfl⟩ := alk_bit.mp hx
  exact cj_lt hg h he
theorem cjs_one {g e : Nat} (he : e < n) : cjs n T iv g (2 ^ e) = 2 ^ cj T iv g e := by
  apply ext_bit
  intro x
  rw [cjs_bit, two_bit]
  constructor
  · rintro ⟨q, -, h1, h2⟩
    rw [two_bit] at h1
    subst h1
    exact h2
  · intro h
    exact ⟨e, he, (two_bit _ _).mpr rfl, h⟩
theorem x_alike (hG : GX w n T iv) (hg : Gp n T iv) {e : Nat} (he : e < n) : f_X4_alikeOf (nI e) w = some (nI (alk n T iv e)) := by
  have h16 := hg.1.2
  have h2 : 2 ^ e < 2 ^ 16 := Nat.pow_lt_pow_right (by decide) (by omega)
  have key := lup (fun f i (acc : Nat) => f_X4_alikeOf_L4 f (nI e) (nI acc) (nI i) w) n (fun g acc => acc ||| 2 ^ cj T iv g e) (fun acc => some (nI acc)) (fun _ _ => True) ?_ (fun _ _ _ _ => trivial) ?_ n 0 0 FU (by omega) (FU_big (by omega)) trivial
  · exact key.1
  · intro f i acc hi _
    show f_X4_alikeOf_B4b (f_X4_alikeOf_L4 f) (nI e) (nI acc) (nI i) w = _
    unfold f_X4_alikeOf_B4b
    rw [hG.1, if_neg (by rw [m_le (by omega) (by omega)]; omega), m_shl1 (by omega), m_bnd (x_conj hG hg hi h2), cjs_one he, m_or, nI_1]
  · intro f acc _
    show f_X4_alikeOf_B4b (f_X4_alikeOf_L4 f) (nI e) (nI acc) (nI n) w = _
    unfold f_X4_alikeOf_B4b
    rw [hG.1, if_pos (by rw [m_le (by omega) (by omega)]; omega)]
theorem y_alike (hM : GM w n T iv) (hg : Gp n T iv) {e : Nat} (he : e < n) : f_X12_alikeTo (nI e) w = some (nI (alk n T iv e)) := by
  have h16 := hg.1.2
  have key := lup (fun f i (acc : Nat) => f_X12_alikeTo_L4 f (nI e) (nI acc) (nI i) w) n (fun g acc => acc ||| 2 ^ cj T iv g e) (fun acc => some (nI acc)) (fun _ _ => True) ?_ (fun _ _ _ _ => trivial) ?_ n 0 0 FU (by omega) (FU_big (by omega)) trivial
  · exact key.1
  · intro f i acc hi _
    show f_X12_alikeTo_B4b (f_X12_alikeTo_L4 f) (nI e) (nI acc) (nI i) w = _
    unfold f_X12_alikeTo_B4b
    rw [hM.1, if_neg (by rw [m_le (by omega) (by omega)]; omega), m_bnd (y_conj hM hg hi he), m_shl1 (by have := cj_lt hg hi he; omega), m_or, nI_1]
  · intro f acc _
    show f_X12_alikeTo_B4b (f_X12_alikeTo_L4 f) (nI e) (nI acc) (nI n) w = _
    unfold f_X12_alikeTo_B4b
    rw [hM.1, if_pos (by rw [m_le (by omega) (by omega)]; omega)]
/-! what may yet come -/
def opn (n : Nat) (T : Nat → Nat → Nat) (S : Nat) : Nat := orF (fun e => if !S.testBit e && fr n T (S ||| 2 ^ e) then 2 ^ e else 0) n
theorem opn_bit {S x : Nat} : (opn n T S).testBit x = true ↔ x < n ∧ S.testBit x = false ∧ fr n T (S ||| 2 ^ x) = true := by
  unfold opn
  rw [orF_bit]
  constructor
  · rintro ⟨e, he, h⟩
    split at h
    next q =>
      rw [two_bit] at h
      subst h
      simp only [Bool.and_eq_true, Bool.not_eq_true'] at q
      exact ⟨he, q.1, q.2⟩
    next => simp at h
  · rintro ⟨h1, h2, h3⟩
    exact ⟨x, h1, by rw [if_pos (by simp [h2, h3])]; exact (two_bit _ _).mpr rfl⟩
theorem opn_lt {S : Nat} : opn n T S < 2 ^ n := lt_two (fun x hx => (opn_bit.mp hx).1)
theorem fr_sub {S R : Nat} (h : ∀ x, S.testBit x = true → R.testBit x = true) (hR : fr n T R = true) : fr n T S = true := by
  rw [fr_iff] at hR ⊢
  intro a b ha hb h1 h2
  cases q : S.testBit (T a b) with
  | false => rfl
  | true => have := hR a b ha hb (h a h1) (h b h2); rw [h _ q] at this; cases this
theorem opn_nfree {S : Nat} (h : fr n T S = false) : opn n T S = 0 := by
  apply ext_bit
  intro x
  rw [opn_bit]
  simp only [Nat.zero_testBit, Bool.false_eq_true, iff_false]
  rintro ⟨-, -, h3⟩
  rw [fr_sub (fun y hy => (sb_or S x y).mpr (Or.inl hy)) h3] at h
  cases h
theorem or2_lt {S e n : Nat} (hS : S < 2 ^ n) (he : e < n) : S ||| 2 ^ e < 2 ^ n := Nat.or_lt_two_pow hS (Nat.pow_lt_pow_right (by decide) he)
theorem ite01 {c : Bool} : ((if c then (1 : Int32) else 0) = 0) ↔ c = false := by cases c <;> simp
theorem x_open (hG : GX w n T iv) (hg : Gp n T iv) {S : Nat} (hS : S < 2 ^ 16) : f_X4_openOf (nI S) w = some (nI (opn n T S)) := by
  have h16 := hg.1.2
  unfold f_X4_openOf
  rw [m_bnd (x_isFree hG hg hS)]
  cases hf : fr n T S with
  | false => rw [opn_nfree hf]; simp; rfl
  | true =>
    rw [if_neg (by simp)]
    have key := lup (fun f i (acc : Nat) => f_X4_openOf_L14 f (nI S) (nI acc) (nI i) w) n (fun e acc => acc ||| (if !S.testBit e && fr n T (S ||| 2 ^ e) then 2 ^ e else 0)) (fun acc => some (nI acc)) (fun _ _ => True) ?_ (fun _ _ _ _ => trivial) ?_ n 0 0 FU (by omega) (FU_big (by omega)) trivial
    · exact key.1
    · intro f i acc hi _
      show f_X4_openOf_B14b (f_X4_openOf_L14 f) (nI S) (nI acc) (nI i) w = _
      unfold f_X4_openOf_B14b
      rw [hG.1, if_neg (by rw [m_le (by omega) (by omega)]; omega)]
      by_cases hb : S.testBit i = true
      · rw [if_neg (by rw [x_bit0 (lt31 hS) (by omega), hb]; decide), nI_1]
        simp [hb]
      · rw [if_pos (by rw [x_bit0 (lt31 hS) (by omega)]; simpa using hb), m_bnd (x_stays hG hg hS hi hf), nI_1]
        cases hq : fr n T (S ||| 2 ^ i) with
        | false => simp
        | true => rw [if_neg (by simp), m_shl1 (by omega), m_or]; simp [hb]
    · intro f acc _
      show f_X4_openOf_B14b (f_X4_openOf_L14 f) (nI S) (nI acc) (nI n) w = _
      unfold f_X4_openOf_B14b
      rw [hG.1, if_pos (by rw [m_le (by omega) (by omega)]; omega)]
theorem y_open (hM : GM w n T iv) (hg : Gp n T iv) {S : Nat} (hS : S < 2 ^ n) : f_X12_openTo (nI S) w = some (nI (opn n T S)) := by
  have h16 := hg.1.2
  have hS16 := le16 hS h16
  have key := lup (fun f i (acc : Nat) => f_X12_openTo_L4 f (nI S) (nI acc) (nI i) w) n (fun e acc => acc ||| (if !S.testBit e && fr n T (S ||| 2 ^ e) then 2 ^ e else 0)) (fun acc => some (nI acc)) (fun _ _ => True) ?_ (fun _ _ _ _ => trivial) ?_ n 0 0 FU (by omega) (FU_big (by omega)) trivial
  · exact key.1
  · intro f i acc hi _
    show f_X12_openTo_B4b (f_X12_openTo_L4 f) (nI S) (nI acc) (nI i) w = _
    unfold f_X12_openTo_B4b
    rw [hM.1, if_neg (by rw [m_le (by omega) (by omega)]; omega)]
    by_cases hb : S.testBit i = true
    · rw [if_neg (by rw [y_has0 (lt31 hS16) (by omega), hb]; decide), nI_1]
      simp [hb]
    · rw [if_pos (by rw [y_has0 (lt31 hS16) (by omega)]; simpa using hb), m_shl1 (by omega), m_or, m_bnd (y_isFree hM hg (or2_lt hS hi)), nI_1]
      cases hq : fr n T (S ||| 2 ^ i) with
      | false => simp
      | true => rw [if_neg (by simp), m_or]; simp [hb]
  · intro f acc _
    show f_X12_openTo_B4b (f_X12_openTo_L4 f) (nI S) (nI acc) (nI n) w = _
    unfold f_X12_openTo_B4b
    rw [hM.1, if_pos (by rw [m_le (by omega) (by omega)]; omega)]
end LEAF
