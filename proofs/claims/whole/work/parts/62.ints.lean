/-! sets of whole numbers -/
theorem nI_lsb (X j : Nat) (hj : j < 32) : (nI X).toBitVec.getLsbD j = X.testBit j := by
  show (BitVec.ofNat 32 X).getLsbD j = _
  rw [BitVec.getLsbD_ofNat]
  simp [hj]
theorem b1_lsb : ∀ i, i < 32 → (1 : Int32).toBitVec.getLsbD i = decide (i = 0) := by decide +kernel
theorem m_bitG {X j : Nat} (h : j < 32) : (nI X >>> (nI j &&& 31)) &&& 1 = nI (if X.testBit j then 1 else 0) := by
  apply Int32.toBitVec_inj.mp
  apply BitVec.eq_of_getLsbD_eq
  intro i hi
  rw [Int32.toBitVec_and, BitVec.getLsbD_and, b1_lsb i hi, Int32.toBitVec_shiftRight, nI_lsb _ i hi]
  show (((nI X).toBitVec.sshiftRight ((nI j &&& 31).toBitVec.smod 32).toNat).getLsbD i && decide (i = 0)) = _
  rw [m_sl j h, BitVec.getLsbD_sshiftRight]
  by_cases c : i = 0
  · subst c
    rw [Nat.add_zero, nI_lsb X j h]
    cases X.testBit j <;> simp [h]
  · cases q : X.testBit j with
    | true => simp only [c, decide_false, Bool.and_false, ↓reduceIte]; rw [show (1 : Nat) = 2 ^ 0 from rfl, Nat.testBit_two_pow]; simp; omega
    | false => simp [c]
theorem m_bitG0 {X j : Nat} (h : j < 32) : ((nI X >>> (nI j &&& 31)) &&& 1 = 0) ↔ X.testBit j = false := by
  rw [m_bitG h]
  cases X.testBit j <;> simp <;> decide
theorem m_shlG {X k : Nat} (h : k < 32) : nI X <<< (nI k &&& 31) = nI (X * 2 ^ k) := by
  apply Int32.toBitVec_inj.mp
  apply BitVec.eq_of_toNat_eq
  rw [pk_shl _ _ k (m_sl k h)]
  show X % 2 ^ 32 * 2 ^ k % 2 ^ 32 = (X * 2 ^ k) % 2 ^ 32
  rw [Nat.mod_mul_mod]
def sfr (S : Nat) : Prop := ∀ a b, S.testBit a = true → S.testBit b = true → S.testBit (a + b) = false
def sfB (S : Nat) : Bool := allB (fun a => allB (fun b => !(S.testBit a && S.testBit b && S.testBit (a + b))) 32) 32
theorem sfB_iff {S : Nat} (hS : S < 2 ^ 32) : sfB S = true ↔ sfr S := by
  unfold sfB sfr
  rw [allB_iff]
  constructor
  · intro h a b ha hb
    have := allB_iff.mp (h a (bit_lt hS ha)) b (bit_lt hS hb)
    simpa [ha, hb] using this
  · intro h a _
    rw [allB_iff]
    intro b _
    cases ha : S.testBit a <;> cases hb : S.testBit b <;> simp
    exact h a b ha hb
def gdW (next : Nat) (l : Int32) (S R : Nat) : Bool := sfB (S ||| R * 2 ^ next) && (decide (l = -1) || decide (nI (pc R) = l))
def cW (next m : Nat) (l : Int32) (S : Nat) : Nat := cntB (gdW next l S) (2 ^ m)
theorem cnt_par (p : Nat → Bool) : ∀ N, cntB p (2 * N) = cntB (fun i => p (2 * i)) N + cntB (fun i => p (2 * i + 1)) N := by
  intro N
  induction N with
  | zero => rfl
  | succ N ih =>
    rw [show 2 * (N + 1) = 2 * N + 1 + 1 by omega]
    simp only [cntB]
    rw [ih]; omega
theorem pc_dbl {R : Nat} (hR : R < 2 ^ 15) : pc (2 * R) = pc R ∧ pc (2 * R + 1) = pc R + 1 := by
  have h15 : R.testBit 15 = false := Nat.testBit_lt_two_pow hR
  have e0 : pc R = cntB (fun i => R.testBit i) 15 := by
    unfold pc; rw [show 16 = 15 + 1 from rfl]; simp only [cntB, h15]; simp
  have e1 : ∀ X, pc X = (if X.testBit 0 then 1 else 0) + cntB (fun k => X.testBit (1 + k)) 15 := fun X => by
    unfold pc
    rw [show 16 = 1 + 15 from rfl, cntB_split]
    simp only [cntB]
    omega
  constructor
  · rw [e1, e0, show (2 * R).testBit 0 = false by simp]
    rw [cntB_cong (q := fun i => R.testBit i) (fun k _ => by rw [Nat.add_comm 1 k, Nat.testBit_succ]; congr 1; omega)]
    simp
  · rw [e1, e0, show (2 * R + 1).testBit 0 = true by simp]
    rw [cntB_cong (q := fun i => R.testBit i) (fun k _ => by rw [Nat.add_comm 1 k, Nat.testBit_succ]; congr 1; omega)]
    simp; omega
theorem cW_zero (next : Nat) {m : Nat} {S : Nat} (hm : m ≤ 16) (h : sfB S = true) : cW next m (nI 0) S = 1 := by
  unfold cW
  have := cnt_one (p := gdW next (nI 0) S) (y := 0) (n := 2 ^ m) (fun i hi => by
    unfold gdW
    have hp := pc_le i
    simp only [show (nI 0 = (-1 : Int32)) = False by decide, decide_false, Bool.false_or, m_inj (show pc i < 2 ^ 31 by omega) (show 0 < 2 ^ 31 by decide)]
    constructor
    · intro q
      simp only [Bool.and_eq_true, decide_eq_true_eq] at q
      exact pc_nil (le16 hi hm) q.2
    · intro q
      subst q
      simp [h, pc_zero])
  rw [this, if_pos (Nat.two_pow_pos m)]
theorem cW_end {next S : Nat} {l : Int32} (h : sfB S = true) : cW next 0 l S = if l = -1 ∨ l = 0 then 1 else 0 := by
  unfold cW
  simp only [Nat.pow_zero, cntB]
  unfold gdW
  rw [Nat.zero_mul, Nat.or_zero, h, pc_zero]
  by_cases c : l = -1
  · simp [c]
  · by_cases d : l = 0
    · simp [d]; decide
    · simp [c, d, show ¬ nI 0 = l from fun q => d q.symm]
theorem sums_bit {S X next : Nat} (hX : ∀ j, X.testBit j = true ↔ ∃ a b, S.testBit a = true ∧ S.testBit b = true ∧ a + b = j) : ∀ j, (X ||| (S ||| 2 ^ next) * 2 ^ next).testBit j = true ↔ ∃ a b, (S ||| 2 ^ next).testBit a = true ∧ (S ||| 2 ^ next).testBit b = true ∧ a + b = j := by
  intro j
  rw [Nat.testBit_or, Bool.or_eq_true, hX, Nat.mul_comm, Nat.testBit_two_pow_mul, Bool.and_eq_true, decide_eq_true_eq]
  constructor
  · rintro (⟨a, b, h1, h2, h3⟩ | ⟨h1, h2⟩)
    · exact ⟨a, b, (sb_or _ _ _).mpr (Or.inl h1), (sb_or _ _ _).mpr (Or.inl h2), h3⟩
    · exact ⟨next, j - next, (sb_or _ _ _).mpr (Or.inr rfl), h2, by omega⟩
  · rintro ⟨a, b, h1, h2, h3⟩
    rcases (sb_or _ _ _).mp h1 with q | q
    · rcases (sb_or _ _ _).mp h2 with r | r
      · exact Or.inl ⟨a, b, q, r, h3⟩
      · refine Or.inr ⟨by omega, ?_⟩
        rw [show j - next = a by omega]; exact h1
    · refine Or.inr ⟨by omega, ?_⟩
      rw [show j - next = b by omega]; exact h2
theorem x_whole {n0 : Nat} (hn : n0 ≤ 16) : ∀ m next f l S X, next + m = n0 + 1 → 1 ≤ next → m < f → (l = -1 ∨ ∃ k, k < 2 ^ 31 ∧ l = nI k) → S < 2 ^ next → sfr S → (∀ j, X.testBit j = true ↔ ∃ a b, S.testBit a = true ∧ S.testBit b = true ∧ a + b = j) → f_X11_wholeSets f (nI next) (nI n0) l (nI S) (nI X) = some (nI (cW next m l S)) := by
  intro m
  induction m with
  | zero =>
    intro next f l S X h1 h2 hf hl hS hs hX
    obtain ⟨f, rfl⟩ : ∃ q, f = q + 1 := ⟨f - 1, by omega⟩
    have hs' : sfB S = true := (sfB_iff (Nat.lt_of_lt_of_le hS (Nat.pow_le_pow_right (by decide) (by omega)))).mpr hs
    show f_X11_wholeSetsb (f_X11_wholeSets f) (nI next) (nI n0) l (nI S) (nI X) = _
    unfold f_X11_wholeSetsb
    rw [cW_end hs', if_pos (nI_lt (a := n0) (b := next) (by omega) (by omega))]
    rcases hl with rfl | ⟨k, hk, rfl⟩
    · rfl
    · rcases Nat.eq_zero_or_pos k with q | q
      · subst q; rfl
      · have g1 : ¬ nI k = 0 := nI_ne0 q hk
        have g2 : ¬ nI k ≤ 0 := nI_nle q hk
        simp [g1, g2, nI_ne1 hk]; rfl
  | succ m ih =>
    intro next f l S X h1 h2 hf hl hS hs hX
    obtain ⟨f, rfl⟩ : ∃ q, f = q + 1 := ⟨f - 1, by omega⟩
    have h32 : ∀ {Y e : Nat}, Y < 2 ^ e → e ≤ 32 → Y < 2 ^ 32 := fun h1 h2 => Nat.lt_of_lt_of_le h1 (Nat.pow_le_pow_right (by decide) h2)
    have hs' : sfB S = true := (sfB_iff (h32 hS (by omega))).mpr hs
    have hR15 : ∀ i, i < 2 ^ m → i < 2 ^ 15 := fun i hi => Nat.lt_of_lt_of_le hi (Nat.pow_le_pow_right (by decide) (by omega))
    show f_X11_wholeSetsb (f_X11_wholeSets f) (nI next) (nI n0) l (nI S) (nI X) = _
    unfold f_X11_wholeSetsb
    by_cases hl0 : l = 0
    · subst hl0
      rw [if_pos rfl, if_pos (by decide), show (0 : Int32) = nI 0 from rfl, cW_zero next (by omega) hs']
      rfl
    · rw [if_neg hl0, if_neg (nI_nlt (a := n0) (b := next) (by omega) (by omega)), if_pos (show nI next ≤ (16 : Int32) from nI_le (b := 16) (by omega) (by decide)), nI_1, ih (next + 1) f l S X (by omega) (by omega) (by omega) hl (by rw [Nat.pow_succ]; omega) hs hX, bnd_some]
      have ev : ∀ i, gdW next l S (2 * i) = (sfB (S ||| i * 2 ^ (next + 1)) && (decide (l = -1) || decide (nI (pc (2 * i)) = l))) := fun i => by
        unfold gdW
        rw [show 2 * i * 2 ^ next = i * 2 ^ (next + 1) by rw [Nat.pow_succ, Nat.mul_comm 2 i, Nat.mul_assoc, Nat.mul_comm 2]]
      have c1 : cntB (fun i => gdW next l S (2 * i)) (2 ^ m) = cW (next + 1) m l S := by
        unfold cW
        apply cntB_cong
        intro i hi
        rw [ev, (pc_dbl (hR15 i hi)).1]
        rfl
      have c0 : cW next (m + 1) l S = cW (next + 1) m l S + cntB (fun i => gdW next l S (2 * i + 1)) (2 ^ m) := by
        rw [← c1]
        unfold cW
        rw [Nat.pow_succ, Nat.mul_comm, cnt_par]
      have eo : ∀ i, S ||| (2 * i + 1) * 2 ^ next = (S ||| 2 ^ next) ||| i * 2 ^ (next + 1) := fun i => by
        rw [Nat.or_assoc]
        congr 1
        have := Nat.two_pow_add_eq_or_of_lt (i := next + 1) (b := 2 ^ next) (Nat.pow_lt_pow_right (by decide) (by omega)) i
        rw [Nat.or_comm, Nat.mul_comm i, ← this, Nat.pow_succ, Nat.add_mul, Nat.one_mul, Nat.mul_comm (2 * i), Nat.mul_assoc]
      have hSn : (S ||| 2 ^ next) < 2 ^ (next + 1) := or2_lt (Nat.lt_of_lt_of_le hS (Nat.pow_le_pow_right (by decide) (by omega))) (by omega)
      cases hb : X.testBit next with
      | true =>
        obtain ⟨a, b, ha, hb', hab⟩ := (hX next).mp hb
        have z : cntB (fun i => gdW next l S (2 * i + 1)) (2 ^ m) = 0 := by
          apply cnt_none
          intro i hi
          unfold gdW
          rw [eo]
          have hlt : (S ||| 2 ^ next ||| i * 2 ^ (next + 1)) < 2 ^ 32 := by
            have h3 : i * 2 ^ (next + 1) < 2 ^ (m + (next + 1)) := by rw [Nat.pow_add 2 m (next + 1)]; exact Nat.mul_lt_mul_of_pos_right hi (Nat.two_pow_pos _)
            exact Nat.or_lt_two_pow (h32 hSn (by omega)) (h32 h3 (by omega))
          have : sfB (S ||| 2 ^ next ||| i * 2 ^ (next + 1)) = false := by
            cases q : sfB (S ||| 2 ^ next ||| i * 2 ^ (next + 1)) with
            | false => rfl
            | true =>
              have q := (sfB_iff hlt).mp q a b (by simp [ha]) (by simp [hb'])
              rw [hab] at q
              simp at q
          rw [this]; rfl
        rw [if_neg (by rw [m_bitG0 (by omega), hb]; decide), c0, z]
        rfl
      | false =>
        rw [if_pos ((m_bitG0 (by omega)).mpr hb), m_shl1 (by omega), m_or, m_shlG (by omega), m_or]
        have hs2 : sfr (S ||| 2 ^ next) := by
          intro a b ha hb'
          rcases (sb_or _ _ _).mp ha with p | p
          · have p1 := bit_lt hS p
            rcases (sb_or _ _ _).mp hb' with q | q
            · cases r : (S ||| 2 ^ next).testBit (a + b) with
              | false => rfl
              | true =>
                rcases (sb_or _ _ _).mp r with t | t
                · rw [hs a b p q] at t; cases t
                · rw [(hX next).mpr ⟨a, b, p, q, t⟩] at hb; cases hb
            · have : a ≠ 0 := by
                intro z; subst z
                have := hs 0 0 p p
                rw [p] at this; cases this
              apply Nat.testBit_lt_two_pow
              exact Nat.lt_of_lt_of_le hSn (Nat.pow_le_pow_right (by decide) (by omega))
          · have hb0 : b ≠ 0 := by
              intro z; subst z
              rcases (sb_or _ _ _).mp hb' with q | q
              · have := hs 0 0 q q
                rw [q] at this; cases this
              · omega
            apply Nat.testBit_lt_two_pow
            exact Nat.lt_of_lt_of_le hSn (Nat.pow_le_pow_right (by decide) (by omega))
        have hX2 := sums_bit (next := next) hX
        rcases hl with rfl | ⟨k, hk, rfl⟩
        · rw [if_pos rfl, ih (next + 1) f (-1) (S ||| 2 ^ next) _ (by omega) (by omega) (by omega) (Or.inl rfl) hSn hs2 hX2, bnd_some, nI_add, c0]
          congr 3
          unfold cW
          apply cntB_cong
          intro i hi
          unfold gdW
          rw [eo]; simp
        · have hk0 : k ≠ 0 := fun z => hl0 (z ▸ rfl)
          obtain ⟨k, rfl⟩ : ∃ q, k = q + 1 := ⟨k - 1, by omega⟩
          rw [if_neg (nI_ne1 hk), nI_pred, ih (next + 1) f (nI k) (S ||| 2 ^ next) _ (by omega) (by omega) (by omega) (Or.inr ⟨k, by omega, rfl⟩) hSn hs2 hX2, bnd_some, nI_add, c0]
          congr 3
          unfold cW
          apply cntB_cong
          intro i hi
          have hp := pc_le i
          unfold gdW
          rw [eo, (pc_dbl (hR15 i hi)).2]
          simp only [nI_ne1 hk, nI_ne1 (show k < 2 ^ 31 by omega), m_inj (show pc i + 1 < 2 ^ 31 by omega) hk, m_inj (show pc i < 2 ^ 31 by omega) (show k < 2 ^ 31 by omega)]
          congr 2
          simp
theorem sub_shift {S x : Nat} : (S * 2 ^ (x + 1) &&& S = 0) ↔ ∀ y, S.testBit y = true → S.testBit (x + y + 1) = false := by
  rw [and0]
  constructor
  · intro h y hy
    cases q : S.testBit (x + y + 1) with
    | false => rfl
    | true =>
      refine absurd ⟨?_, q⟩ (h (x + y + 1))
      rw [Nat.mul_comm, Nat.testBit_two_pow_mul, show x + y + 1 - (x + 1) = y by omega, hy]
      simp
  · rintro h z ⟨h1, h2⟩
    rw [Nat.mul_comm, Nat.testBit_two_pow_mul, Bool.and_eq_true, decide_eq_true_eq] at h1
    have := h _ h1.2
    rw [show x + (z - (x + 1)) + 1 = z by omega, h2] at this
    cases this
theorem y_sumless {S : Nat} (hS : S < 2 ^ 16) : f_X12_isSumless (nI S) = some (if sfB (0 ||| S * 2 ^ 1) then 1 else 0) := by
  have h31 := lt31 hS
  obtain ⟨p, hp⟩ : ∃ p : Nat → Bool, p = fun x => S.testBit x && decide (¬ (S * 2 ^ (x + 1) &&& S = 0)) := ⟨_, rfl⟩
  have fin : ∀ k i f, i + k = 16 → k < f → f_X12_isSumless_L2 f (nI S) (nI i) = selO (fst p i k) (fun _ => some 0) (some 1) := by
    intro k
    induction k with
    | zero =>
      intro i f hi hf
      obtain ⟨f, rfl⟩ : ∃ q, f = q + 1 := ⟨f - 1, by omega⟩
      show f_X12_isSumless_B2b (f_X12_isSumless_L2 f) (nI S) (nI i) = _
      unfold f_X12_isSumless_B2b
      rw [m_shr h31 (by omega), show S / 2 ^ i = 0 from Nat.div_eq_of_lt (by rw [show i = 16 by omega]; exact hS), if_pos (show nI 0 = 0 from rfl)]
      rfl
    | succ k ih =>
      intro i f hi hf
      obtain ⟨f, rfl⟩ : ∃ q, f = q + 1 := ⟨f - 1, by omega⟩
      show f_X12_isSumless_B2b (f_X12_isSumless_L2 f) (nI S) (nI i) = _
      unfold f_X12_isSumless_B2b
      have hdl : S / 2 ^ i < 2 ^ 31 := Nat.lt_of_le_of_lt (Nat.div_le_self _ _) h31
      have hand : S * 2 ^ (i + 1) &&& S < 2 ^ 31 := Nat.lt_of_le_of_lt Nat.and_le_right h31
      rw [m_shr h31 (by omega), nI_1, m_shlG (by omega), m_and]
      simp only [nIz hdl, nIz hand, y_has0 h31 (show i < 31 by omega)]
      by_cases d : S / 2 ^ i = 0
      · have hno : ∀ j, i ≤ j → S.testBit j = false := fun j hj => by
          have h1 : S < 2 ^ i := by
            rcases Nat.lt_or_ge S (2 ^ i) with q | q
            · exact q
            · have := Nat.div_pos q (Nat.two_pow_pos i); omega
          exact Nat.testBit_lt_two_pow (Nat.lt_of_lt_of_le h1 (Nat.pow_le_pow_right (by decide) hj))
        rw [if_pos d, fst_none.mpr (fun j h1 h2 => by rw [hp]; simp [hno j h1])]
        rfl
      · rw [if_neg d]
        by_cases b : S.testBit i = false
        · rw [if_pos b, ih (i + 1) f (by omega) (by omega)]
          show _ = selO (fst p i (k + 1)) _ _
          simp only [fst, hp, b, Bool.false_and, Bool.false_eq_true, ↓reduceIte]
        · have b' : S.testBit i = true := by simpa using b
          rw [if_neg b]
          by_cases c : S * 2 ^ (i + 1) &&& S = 0
          · rw [if_pos c, ih (i + 1) f (by omega) (by omega)]
            show _ = selO (fst p i (k + 1)) _ _
            simp only [fst, hp, c, not_true_eq_false, decide_false, Bool.and_false, Bool.false_eq_true, ↓reduceIte]
          · rw [if_neg c]
            show _ = selO (fst p i (k + 1)) _ _
            simp only [fst, hp, c, not_false_eq_true, decide_true, b', Bool.and_true, ↓reduceIte]
            rfl
  unfold f_X12_isSumless
  refine (fin 16 0 FU (by omega) (FU_big (by decide))).trans ?_
  have hlt : S * 2 ^ 1 < 2 ^ 32 := by omega
  rw [Nat.zero_or]
  have tb : ∀ j, (S * 2 ^ 1).testBit j = (decide (1 ≤ j) && S.testBit (j - 1)) := fun j => by rw [Nat.mul_comm, Nat.testBit_two_pow_mul]
  cases q : fst p 0 16 with
  | none =>
    have q := fst_none.mp q
    have : sfB (S * 2 ^ 1) = true := by
      rw [sfB_iff hlt]
      intro a b ha hb
      rw [tb, Bool.and_eq_true, decide_eq_true_eq] at ha hb
      have h1 := q (a - 1) (by omega) (by have := bit_lt hS ha.2; omega)
      rw [hp] at h1
      simp only [ha.2, Bool.true_and, decide_eq_false_iff_not, Classical.not_not] at h1
      have h2 := sub_shift.mp h1 (b - 1) hb.2
      rw [tb, show a + b - 1 = a - 1 + (b - 1) + 1 by omega, h2, Bool.and_false]
    rw [this]; rfl
  | some x =>
    obtain ⟨-, h2, h3, -⟩ := fst_some q
    rw [hp] at h3
    simp only [Bool.and_eq_true, decide_eq_true_eq] at h3
    have : sfB (S * 2 ^ 1) = false := by
      cases r : sfB (S * 2 ^ 1) with
      | false => rfl
      | true =>
        have r := (sfB_iff hlt).mp r
        refine absurd (sub_shift.mpr (fun y hy => ?_)) h3.2
        have := r (x + 1) (y + 1) (by rw [tb]; simp [h3.1]) (by rw [tb]; simp [hy])
        rw [tb, show x + 1 + (y + 1) - 1 = x + y + 1 by omega, show decide (1 ≤ x + 1 + (y + 1)) = true by simp; omega, Bool.true_and] at this
        exact this
    rw [this]; rfl
theorem c_ints (a b : Int32) : ∃ r, f_X11_ints a b = some r ∧ f_X12_ints a b = some r := by
  unfold f_X11_ints f_X12_ints
  rcases tri_or a (lo := 0) (hi := 16) (by decide) (by decide) with ⟨m, -, hm, rfl⟩ | h | ⟨q1, q2, q3, q4, q5⟩
  · have c1 : f_X12_in (nI m) 0 16 = 1 := by
      unfold f_X12_in
      rw [if_neg (nI_pos (by omega)), if_neg (show ¬ (16 : Int32) < nI m from nI_nlt (a := 16) (by omega) (by omega))]
    rw [if_neg (nI_pos (by omega)), if_neg (show ¬ (16 : Int32) < nI m from nI_nlt (a := 16) (by omega) (by omega)), c1, if_neg one_ne]
    by_cases hb : (-1) ≤ b
    · rw [if_pos hb, if_pos hb]
      have hb2 : b = -1 ∨ ∃ k, k < 2 ^ 31 ∧ b = nI k := by
        by_cases c : b < 0
        · left
          apply Int32.toInt_inj.mp
          have h1 : (-1 : Int32).toInt ≤ b.toInt := Int32.le_iff_toInt_le.mp hb
          have h2 : b.toInt < (0 : Int32).toInt := Int32.lt_iff_toInt_lt.mp c
          have e1 : (-1 : Int32).toInt = -1 := by decide
          have e0 : (0 : Int32).toInt = 0 := by decide
          rw [e1] at h1 ⊢
          rw [e0] at h2
          omega
        · exact Or.inr (nI_of c)
      have kx := x_whole hm m 1 20 b 0 0 (by omega) (by omega) (by omega) hb2 (by decide) (fun a b h => by simp at h) (fun j => by simp)
      have kx : f_X11_wholeSets 20 1 (nI m) b 0 0 = some (nI (cW 1 m b 0)) := kx
      refine ⟨nI (cW 1 m b 0), by rw [kx, bnd_some], ?_⟩
      have h65 := p16 hm
      have key := lup (fun f i (s : Nat) => f_X12_ints_L22 f (nI m) b (nI s) (nI i)) (2 ^ m) (fun i s => s + if gdW 1 b 0 i then 1 else 0) (fun s => some (nI s)) (fun _ _ => True) ?_ (fun _ _ _ _ => trivial) ?_ (2 ^ m) 0 0 FU (by omega) (FU_big (by omega)) trivial
      · have := key.1
        rw [rng_add, Nat.zero_add, sumF_cnt] at this
        exact this
      · intro f i s hi _
        show f_X12_ints_B22b (f_X12_ints_L22 f) (nI m) b (nI s) (nI i) = _
        unfold f_X12_ints_B22b
        rw [m_shl1 (by omega), if_neg (nI_ge hi (by omega)), y_sumless (le16 hi hm), bnd_some, y_ones (le16 hi hm), bnd_some, nI_1, nI_1]
        unfold gdW
        generalize 0 ||| i * 2 ^ 1 = z
        by_cases c1 : sfB z = true <;> by_cases c3 : b = -1 <;> by_cases c4 : nI (pc i) = b <;> simp [c1, c3, c4, one_ne]
      · intro f s _
        show f_X12_ints_B22b (f_X12_ints_L22 f) (nI m) b (nI s) (nI (2 ^ m)) = _
        unfold f_X12_ints_B22b
        rw [m_shl1 (by omega), if_pos (nI_le (Nat.le_refl _) (by omega))]
    · rw [if_neg hb, if_neg hb]
      exact ⟨-1, rfl, rfl⟩
  · have h : a < 0 := h
    have c1 : f_X12_in a 0 16 = 0 := by unfold f_X12_in; rw [if_pos h]
    exact ⟨-1, by rw [if_pos h], by rw [c1, if_pos rfl]⟩
  · have q2 : (16 : Int32) < a := q2
    have c1 : f_X12_in a 0 16 = 0 := by unfold f_X12_in; rw [if_neg q5, if_pos q2]
    exact ⟨-1, by rw [if_neg q5, if_pos q2], by rw [c1, if_pos rfl]⟩
