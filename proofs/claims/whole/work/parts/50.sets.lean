/-! what is an element, what a set: any number -/
section SETS
variable {w : Wd} {n : Nat} {T : Nat → Nat → Nat} {iv : Nat → Nat}
theorem elem_or (hG : GX w n T iv) (hM : GM w n T iv) (hg : Gp n T iv) (l : Int32) : (∃ a, a < n ∧ l = nI a ∧ f_X4_holds l w = 1 ∧ f_X12_isElement l w = 1) ∨ (f_X4_holds l w = 0 ∧ f_X12_isElement l w = 0) := by
  have h16 := hg.1
  have e1 : nI n - 1 = nI (n - 1) := by show nI n - nI 1 = _; rw [pk_sub h16.1]
  unfold f_X4_holds f_X12_isElement f_X12_in
  rw [hG.1, hM.1, e1]
  rcases pk_ix l (n := n) (by omega) with h | h | ⟨a, ha, rfl⟩
  · right; rw [if_pos h, if_pos h]; exact ⟨rfl, rfl⟩
  · have h0 : ¬ l < 0 := fun q => by
      rw [Int32.lt_iff_toInt_lt] at q
      rw [Int32.le_iff_toInt_le, nI_toInt (by omega)] at h
      have : (0 : Int32).toInt = 0 := by decide
      omega
    have h1 : nI (n - 1) < l := by
      rw [Int32.lt_iff_toInt_lt, nI_toInt (by omega)]
      rw [Int32.le_iff_toInt_le, nI_toInt (by omega)] at h
      omega
    right
    rw [if_neg h0, if_pos h, if_neg h0, if_pos h1]; exact ⟨rfl, rfl⟩
  · left
    refine ⟨a, ha, rfl, ?_, ?_⟩
    · rw [if_neg (nI_pos (by omega)), if_neg (by rw [m_le (by omega) (by omega)]; omega)]
    · rw [if_neg (nI_pos (by omega)), if_neg (by rw [m_lt (by omega) (by omega)]; omega)]
theorem of32 (x : Int32) : ∃ S, S < 2 ^ 32 ∧ x = nI S := ⟨x.toBitVec.toNat, x.toBitVec.isLt, by
  apply Int32.toBitVec_inj.mp
  show x.toBitVec = BitVec.ofNat 32 x.toBitVec.toNat
  simp⟩
theorem nIz32 {a : Nat} (h : a < 2 ^ 32) : nI a = 0 ↔ a = 0 := by
  constructor
  · intro q
    have := congrArg (fun z : Int32 => z.toBitVec.toNat) q
    rw [pk_tn h] at this
    exact this
  · intro q; rw [q]; rfl
theorem m_compl32 {a b : Nat} (ha : a < 2 ^ 32) : nI a &&& (nI b ^^^ (-1)) = nI (a ^^^ (a &&& b)) := by
  have e1 : (-1 : Int32) = nI (2 ^ 32 - 1) := by decide
  rw [e1, m_xor, m_and]
  congr 1
  apply Nat.eq_of_testBit_eq
  intro i
  rw [Nat.testBit_and, Nat.testBit_xor, Nat.testBit_xor, Nat.testBit_and, Nat.testBit_two_pow_sub_one]
  by_cases hi : i < 32
  · simp only [hi, decide_true]
    cases a.testBit i <;> cases b.testBit i <;> rfl
  · rw [Nat.testBit_lt_two_pow (x := a) (i := i) (Nat.lt_of_lt_of_le ha (Nat.pow_le_pow_right (by decide) (by omega)))]
    simp
theorem within_iff {S n : Nat} : S ^^^ (S &&& (2 ^ n - 1)) = 0 ↔ S < 2 ^ n := by
  constructor
  · intro h
    apply lt_two
    intro x hx
    rcases Nat.lt_or_ge x n with q | q
    · exact q
    · have : (S ^^^ (S &&& (2 ^ n - 1))).testBit x = true := (dif_bit _ _ _).mpr ⟨hx, by rw [Nat.testBit_two_pow_sub_one]; simp; omega⟩
      rw [h] at this; simp at this
  · intro h
    apply ext_bit
    intro x
    rw [dif_bit]
    simp only [Nat.zero_testBit, Bool.false_eq_true, iff_false]
    rintro ⟨h1, h2⟩
    rw [Nat.testBit_two_pow_sub_one] at h2
    have := bit_lt h h1
    simp [this] at h2
theorem set_or (hG : GX w n T iv) (hM : GM w n T iv) (hg : Gp n T iv) (l : Int32) : (∃ S, S < 2 ^ n ∧ l = nI S ∧ f_X4_holdsSet l w = 1 ∧ f_X12_isSet l w = 1) ∨ (f_X4_holdsSet l w = 0 ∧ f_X12_isSet l w = 0) := by
  have h16 := hg.1
  have p1 := p16 h16.2
  have p0 : 0 < 2 ^ n := Nat.two_pow_pos n
  obtain ⟨S, hS, rfl⟩ := of32 l
  have hx : S ^^^ (S &&& (2 ^ n - 1)) < 2 ^ 32 := Nat.xor_lt_two_pow hS (Nat.lt_of_le_of_lt Nat.and_le_left hS)
  unfold f_X4_holdsSet f_X12_isSet f_X12_in
  rw [hG.2.1, y_all hM hg, m_compl32 hS]
  by_cases c : S < 2 ^ n
  · left
    refine ⟨S, c, rfl, ?_, ?_⟩
    · rw [if_pos ((nIz32 hx).mpr (within_iff.mpr c))]
    · rw [if_neg (nI_pos (by omega)), if_neg (by rw [m_lt (by omega) (by omega)]; omega)]
  · right
    refine ⟨by rw [if_neg (fun q => c (within_iff.mp ((nIz32 hx).mp q)))], ?_⟩
    by_cases d : nI S < 0
    · rw [if_pos d]
    · obtain ⟨j, hj, e⟩ := nI_of d
      have ej : S = j := by
        have := congrArg (fun z : Int32 => z.toBitVec.toNat) e
        rwa [pk_tn hS, pk_tn (by omega)] at this
      subst ej
      rw [if_neg d, if_pos (by rw [m_lt (by omega) (by omega)]; omega)]
theorem one_ne : ¬ (1 : Int32) = 0 := by decide
/-! calls that only read -/
theorem c_products (hG : GX w n T iv) (hM : GM w n T iv) (hg : Gp n T iv) (a b : Int32) : ∃ r, f_X11_products a b w = some r ∧ f_X12_products a b w = some r := by
  have h16 := hg.1.2
  unfold f_X11_products f_X12_products
  rcases set_or hG hM hg a with ⟨S, hS, rfl, e1, e2⟩ | ⟨e1, e2⟩
  · rcases set_or hG hM hg b with ⟨R, hR, rfl, e3, e4⟩ | ⟨e3, e4⟩
    · rw [e1, e2, e3, e4, if_neg one_ne, if_neg one_ne, if_neg one_ne, if_neg one_ne, m_bnd (x_pr hG hg (le16 hS h16) (le16 hR h16)), m_bnd (y_pr hM hg (le16 hS h16) (le16 hR h16))]
      exact ⟨_, rfl, rfl⟩
    · rw [e1, e2, e3, e4]; exact ⟨_, rfl, rfl⟩
  · rw [e1, e2]; exact ⟨_, rfl, rfl⟩
theorem c_open (hG : GX w n T iv) (hM : GM w n T iv) (hg : Gp n T iv) (a : Int32) : ∃ r, f_X11_open a w = some r ∧ f_X12_open a w = some r := by
  have h16 := hg.1.2
  unfold f_X11_open f_X12_open
  rcases set_or hG hM hg a with ⟨S, hS, rfl, e1, e2⟩ | ⟨e1, e2⟩
  · rw [e1, e2, if_neg one_ne, if_neg one_ne, m_bnd (x_open hG hg (le16 hS h16)), m_bnd (y_open hM hg hS)]
    exact ⟨_, rfl, rfl⟩
  · rw [e1, e2]; exact ⟨_, rfl, rfl⟩
theorem c_quotients (hG : GX w n T iv) (hM : GM w n T iv) (hg : Gp n T iv) (a : Int32) : ∃ r, f_X11_quotients a w = some r ∧ f_X12_quotients a w = some r := by
  have h16 := hg.1.2
  unfold f_X11_quotients f_X12_quotients
  rcases set_or hG hM hg a with ⟨S, hS, rfl, e1, e2⟩ | ⟨e1, e2⟩
  · rw [e1, e2, if_neg one_ne, if_neg one_ne, m_bnd (x_ivs hG hg (le16 hS h16)), m_bnd (x_pr hG hg (le16 hS h16) (le16 (ivs_lt hg) h16)), m_bnd (y_ivs hM hg (le16 hS h16)), m_bnd (y_pr hM hg (le16 hS h16) (le16 (ivs_lt hg) h16))]
    exact ⟨_, rfl, rfl⟩
  · rw [e1, e2]; exact ⟨_, rfl, rfl⟩
theorem c_even (hG : GX w n T iv) (hM : GM w n T iv) (hg : Gp n T iv) (a : Int32) : ∃ r, f_X11_even a w = some r ∧ f_X12_even a w = some r := by
  have h16 := hg.1.2
  unfold f_X11_even f_X12_even
  rcases set_or hG hM hg a with ⟨S, hS, rfl, e1, e2⟩ | ⟨e1, e2⟩
  · rw [e1, e2, if_neg one_ne, if_neg one_ne, m_bnd (x_ivs hG hg (le16 hS h16)), m_bnd (y_ivs hM hg (le16 hS h16))]
    by_cases h : nI (ivs n iv S) = nI S
    · rw [if_pos h]; exact ⟨_, rfl, rfl⟩
    · rw [if_neg h]; exact ⟨_, rfl, rfl⟩
  · rw [e1, e2]; exact ⟨_, rfl, rfl⟩
theorem c_product (hG : GX w n T iv) (hM : GM w n T iv) (hg : Gp n T iv) (a b : Int32) : ∃ r, f_X11_product a b w = some r ∧ f_X12_product a b w = some r := by
  unfold f_X11_product f_X12_product
  rcases elem_or hG hM hg a with ⟨x, hx, rfl, e1, e2⟩ | ⟨e1, e2⟩
  · rcases elem_or hG hM hg b with ⟨y, hy, rfl, e3, e4⟩ | ⟨e3, e4⟩
    · rw [e1, e2, e3, e4, if_neg one_ne, if_neg one_ne, if_neg one_ne, if_neg one_ne, m_bnd (x_times hG hg hx hy), m_bnd (y_prod hM hg hx hy)]
      exact ⟨_, rfl, rfl⟩
    · rw [e1, e2, e3, e4]; exact ⟨_, rfl, rfl⟩
  · rw [e1, e2]; exact ⟨_, rfl, rfl⟩
theorem c_inverse (hG : GX w n T iv) (hM : GM w n T iv) (hg : Gp n T iv) (a : Int32) : ∃ r, f_X11_inverse a w = some r ∧ f_X12_inverse a w = some r := by
  have h16 := hg.1.2
  unfold f_X11_inverse f_X12_inverse
  rcases elem_or hG hM hg a with ⟨x, hx, rfl, e1, e2⟩ | ⟨e1, e2⟩
  · rw [e1, e2, if_neg one_ne, if_neg one_ne, m_bnd (x_inv hG hg hx), m_rd (by omega) (by decide), hM.2.2.1 x hx]
    exact ⟨_, rfl, rfl⟩
  · rw [e1, e2]; exact ⟨_, rfl, rfl⟩
theorem c_alike (hG : GX w n T iv) (hM : GM w n T iv) (hg : Gp n T iv) (a : Int32) : ∃ r, f_X11_alike a w = some r ∧ f_X12_alike a w = some r := by
  unfold f_X11_alike f_X12_alike
  rcases elem_or hG hM hg a with ⟨x, hx, rfl, e1, e2⟩ | ⟨e1, e2⟩
  · rw [e1, e2, if_neg one_ne, if_neg one_ne, m_bnd (x_alike hG hg hx), m_bnd (y_alike hM hg hx)]
    exact ⟨_, rfl, rfl⟩
  · rw [e1, e2]; exact ⟨_, rfl, rfl⟩
end SETS
