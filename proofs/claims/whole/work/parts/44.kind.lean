section KIND
variable {w : Wd} {n : Nat} {T : Nat → Nat → Nat} {iv : Nat → Nat}
/-- the highest kind of a free set -/
def kd (n : Nat) (T : Nat → Nat → Nat) (S : Nat) : Nat := if opn n T S = 0 then (if pr n T S S ||| S = 2 ^ n - 1 then 2 else 1) else 0
theorem all_bit (n x : Nat) : (2 ^ n - 1).testBit x = true ↔ x < n := by rw [Nat.testBit_two_pow_sub_one]; simp
theorem kd_lt (S : Nat) : kd n T S < 3 := by unfold kd; split <;> (try split) <;> decide
theorem opn_z {S : Nat} : opn n T S = 0 ↔ ∀ e, e < n → S.testBit e = false → fr n T (S ||| 2 ^ e) = false := by
  constructor
  · intro h e he hb
    cases q : fr n T (S ||| 2 ^ e) with
    | false => rfl
    | true =>
      have : (opn n T S).testBit e = true := opn_bit.mpr ⟨he, hb, q⟩
      rw [h] at this; simp at this
  · intro h
    apply ext_bit
    intro x
    rw [opn_bit]
    simp only [Nat.zero_testBit, Bool.false_eq_true, iff_false]
    rintro ⟨h1, h2, h3⟩
    rw [h x h1 h2] at h3; cases h3
theorem x_kind (hG : GX w n T iv) (hg : Gp n T iv) {S : Nat} (hS : S < 2 ^ 16) (hf : fr n T S = true) : f_X4_kindOf (nI S) w = some (nI (kd n T S)) := by
  have h16 := hg.1.2
  have p1 := p16 h16
  have key := lfind (fun f i => f_X4_kindOf_L2 f (nI S) (nI i) w) n (fun e => !S.testBit e && fr n T (S ||| 2 ^ e)) (fun _ => some 0) (if pr n T S S ||| S = 2 ^ n - 1 then some 2 else some 1) ?_ ?_ ?_ n 0 FU (by omega) (FU_big (by omega))
  · unfold f_X4_kindOf
    refine (show f_X4_kindOf_L2 FU (nI S) (nI 0) w = _ from key).trans ?_
    cases h : fst (fun e => !S.testBit e && fr n T (S ||| 2 ^ e)) 0 n with
    | none =>
      have ho : opn n T S = 0 := opn_z.mpr (fun e he hb => by
        have := fst_none.mp h e (Nat.zero_le _) (by omega)
        simpa [hb] using this)
      unfold kd
      rw [if_pos ho]
      simp only [selO]
      split <;> rfl
    | some j =>
      obtain ⟨-, g2, g3, -⟩ := fst_some h
      simp only [Bool.and_eq_true, Bool.not_eq_true'] at g3
      have ho : ¬ opn n T S = 0 := fun q => by rw [opn_z.mp q j (by omega) g3.1] at g3; simp at g3
      unfold kd
      rw [if_neg ho]
      rfl
  · intro f i hi hp
    show f_X4_kindOf_B2b (f_X4_kindOf_L2 f) (nI S) (nI i) w = _
    unfold f_X4_kindOf_B2b
    rw [hG.1, if_neg (by rw [m_le (by omega) (by omega)]; omega)]
    by_cases hb : S.testBit i = true
    · rw [if_neg (by rw [x_bit0 (lt31 hS) (by omega), hb]; decide), nI_1]
    · have hp : fr n T (S ||| 2 ^ i) = false := by simpa [hb] using hp
      rw [if_pos (by rw [x_bit0 (lt31 hS) (by omega)]; simpa using hb), m_bnd (x_stays hG hg hS hi hf), hp, nI_1]
      simp
  · intro f i hi hp
    show f_X4_kindOf_B2b (f_X4_kindOf_L2 f) (nI S) (nI i) w = _
    unfold f_X4_kindOf_B2b
    simp only [Bool.and_eq_true, Bool.not_eq_true'] at hp
    rw [hG.1, if_neg (by rw [m_le (by omega) (by omega)]; omega), if_pos (by rw [x_bit0 (lt31 hS) (by omega)]; exact hp.1), m_bnd (x_stays hG hg hS hi hf), hp.2]
    simp
  · intro f
    show f_X4_kindOf_B2b (f_X4_kindOf_L2 f) (nI S) (nI n) w = _
    unfold f_X4_kindOf_B2b
    have hp := pr_lt hg (S := S) (R := S)
    have ho : pr n T S S ||| S < 2 ^ 31 := lt31 (Nat.or_lt_two_pow (le16 hp h16) hS)
    rw [hG.1, if_pos (by rw [m_le (by omega) (by omega)]; omega), m_bnd (x_pr hG hg hS hS), m_or, hG.2.1]
    have e : (nI (pr n T S S ||| S) = nI (2 ^ n - 1)) ↔ pr n T S S ||| S = 2 ^ n - 1 := m_inj ho (by omega)
    by_cases h : pr n T S S ||| S = 2 ^ n - 1
    · rw [if_pos (e.mpr h), if_pos h]
    · rw [if_neg (fun q => h (e.mp q)), if_neg h]
/-- all but a set -/
theorem m_compl {a b : Nat} (ha : a < 2 ^ 31) : nI a &&& (nI b ^^^ (-1)) = nI (a ^^^ (a &&& b)) := by
  have e1 : (-1 : Int32) = nI (2 ^ 32 - 1) := by decide
  rw [e1, m_xor, m_and]
  congr 1
  apply Nat.eq_of_testBit_eq
  intro i
  rw [Nat.testBit_and, Nat.testBit_xor, Nat.testBit_xor, Nat.testBit_and, Nat.testBit_two_pow_sub_one]
  by_cases hi : i < 32
  · simp only [hi, decide_true]
    cases a.testBit i <;> cases b.testBit i <;> rfl
  · rw [Nat.testBit_lt_two_pow (x := a) (i := i) (Nat.lt_of_lt_of_le ha (Nat.pow_le_pow_right (by decide) (by omega)))]
    simp
theorem y_all (hM : GM w n T iv) (hg : Gp n T iv) : f_X12_all w = nI (2 ^ n - 1) := by
  have h16 := hg.1.2
  unfold f_X12_all
  rw [hM.1, m_shl1 (by omega)]
  show nI (2 ^ n) - nI 1 = _
  rw [pk_sub (Nat.one_le_two_pow)]
theorem full_of_complete {S : Nat} (h : pr n T S S ||| S = 2 ^ n - 1) : opn n T S = 0 := by
  rw [opn_z]
  intro e he hb
  have h1 : (pr n T S S ||| S).testBit e = true := by rw [h]; exact (all_bit n e).mpr he
  rw [Nat.testBit_or, hb, Bool.or_false] at h1
  obtain ⟨a, b, ha, hb', g1, g2, rfl⟩ := pr_bit.mp h1
  cases q : fr n T (S ||| 2 ^ T a b) with
  | false => rfl
  | true =>
    have := fr_iff.mp q a b ha hb' ((sb_or _ _ _).mpr (Or.inl g1)) ((sb_or _ _ _).mpr (Or.inl g2))
    rw [(sb_or _ _ _).mpr (Or.inr rfl)] at this
    cases this
theorem compl_iff (hg : Gp n T iv) {S : Nat} (hS : S < 2 ^ n) (hf : fr n T S = true) : (pr n T S S = (2 ^ n - 1) ^^^ ((2 ^ n - 1) &&& S)) ↔ pr n T S S ||| S = 2 ^ n - 1 := by
  have hdis : ∀ x, S.testBit x = true → (pr n T S S).testBit x = false := by
    intro x hx
    cases q : (pr n T S S).testBit x with
    | false => rfl
    | true =>
      obtain ⟨a, b, ha, hb, g1, g2, rfl⟩ := pr_bit.mp q
      rw [fr_iff.mp hf a b ha hb g1 g2] at hx; cases hx
  constructor
  · intro h
    apply ext_bit
    intro x
    rw [Nat.testBit_or, h, Nat.testBit_xor, Nat.testBit_and]
    have a1 := all_bit n x
    cases q : S.testBit x with
    | false => simp
    | true => have := bit_lt hS q; simp [(all_bit n x).mpr this]
  · intro h
    apply ext_bit
    intro x
    rw [Nat.testBit_xor, Nat.testBit_and]
    have h1 : (pr n T S S ||| S).testBit x = (2 ^ n - 1).testBit x := by rw [h]
    rw [Nat.testBit_or] at h1
    cases q : S.testBit x with
    | false => rw [q, Bool.or_false] at h1; rw [h1]; simp
    | true => rw [hdis x q]; simp
theorem y_isOf (hM : GM w n T iv) (hg : Gp n T iv) {S k : Nat} (hS : S < 2 ^ n) (hk : k < 3) : f_X12_isOf (nI S) (nI k) w = some (if fr n T S && decide (k ≤ kd n T S) then 1 else 0) := by
  have h16 := hg.1.2
  have p1 := p16 h16
  unfold f_X12_isOf
  rw [m_bnd (y_isFree hM hg hS)]
  cases hf : fr n T S with
  | false => simp
  | true =>
    rw [if_neg (by simp)]
    have k3 : k = 0 ∨ k = 1 ∨ k = 2 := by omega
    rcases k3 with rfl | rfl | rfl
    · rw [if_pos (show nI 0 = 0 from rfl)]; simp
    · rw [if_neg (show ¬ nI 1 = 0 by decide), if_pos (show nI 1 = 1 from rfl), m_bnd (y_open hM hg hS)]
      have e : (nI (opn n T S) = 0) ↔ opn n T S = 0 := nIz (by have := opn_lt (n := n) (T := T) (S := S); omega)
      by_cases h : opn n T S = 0
      · rw [if_pos (e.mpr h)]
        have : 1 ≤ kd n T S := by unfold kd; rw [if_pos h]; split <;> decide
        simp [this]
      · rw [if_neg (fun q => h (e.mp q))]
        have : kd n T S = 0 := by unfold kd; rw [if_neg h]
        simp [this]
    · rw [if_neg (show ¬ nI 2 = 0 by decide), if_neg (show ¬ nI 2 = 1 by decide), m_rd (by omega) (by decide), hM.2.2.2 S hS, y_all hM hg, m_compl (by omega)]
      have hp := pr_lt hg (S := S) (R := S)
      have hx : (2 ^ n - 1) ^^^ ((2 ^ n - 1) &&& S) < 2 ^ n := Nat.xor_lt_two_pow (by omega) (Nat.lt_of_le_of_lt Nat.and_le_right hS)
      have e : (nI (pr n T S S) = nI ((2 ^ n - 1) ^^^ ((2 ^ n - 1) &&& S))) ↔ pr n T S S ||| S = 2 ^ n - 1 := by
        rw [m_inj (by omega) (by omega)]
        exact compl_iff hg hS hf
      by_cases h : pr n T S S ||| S = 2 ^ n - 1
      · rw [if_pos (e.mpr h)]
        have : kd n T S = 2 := by unfold kd; rw [if_pos (full_of_complete h), if_pos h]
        simp [this]
      · rw [if_neg (fun q => h (e.mp q))]
        have : kd n T S ≤ 1 := by unfold kd; rw [if_neg h]; split <;> decide
        have : ¬ 2 ≤ kd n T S := by omega
        simp [this]
end KIND
