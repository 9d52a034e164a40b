/-! loops that look for the first one -/
def fst (p : Nat → Bool) (i : Nat) : Nat → Option Nat
  | 0 => none
  | k + 1 => if p i then some i else fst p (i + 1) k
def selO {β : Type} (o : Option Nat) (hit : Nat → β) (out : β) : β := match o with
  | some j => hit j
  | none => out
theorem lfind {β : Type} (L : Nat → Nat → β) (n : Nat) (p : Nat → Bool) (hit : Nat → β) (out : β) (hs : ∀ f i, i < n → p i = false → L (f + 1) i = L f (i + 1)) (hh : ∀ f i, i < n → p i = true → L (f + 1) i = hit i) (hd : ∀ f, L (f + 1) n = out) :
    ∀ k i f, i + k = n → k < f → L f i = selO (fst p i k) hit out := by
  intro k
  induction k with
  | zero =>
    intro i f hi hf
    obtain ⟨f, rfl⟩ : ∃ q, f = q + 1 := ⟨f - 1, by omega⟩
    have e : i = n := by omega
    subst e
    exact hd f
  | succ k ih =>
    intro i f hi hf
    obtain ⟨f, rfl⟩ : ∃ q, f = q + 1 := ⟨f - 1, by omega⟩
    cases hp : p i with
    | true => rw [hh f i (by omega) hp]; simp [fst, hp, selO]
    | false => rw [hs f i (by omega) hp, ih (i + 1) f (by omega) (by omega)]; simp [fst, hp]
theorem fst_none {p : Nat → Bool} : ∀ {k i : Nat}, fst p i k = none ↔ ∀ j, i ≤ j → j < i + k → p j = false := by
  intro k
  induction k with
  | zero => intro i; simp only [fst, true_iff]; intro j h1 h2; omega
  | succ k ih =>
    intro i
    simp only [fst]
    split
    next h =>
      simp only [reduceCtorEq, false_iff]
      intro q
      have := q i (Nat.le_refl _) (by omega)
      rw [h] at this; cases this
    next h =>
      rw [ih]
      constructor
      · intro q j h1 h2
        rcases Nat.lt_or_ge i j with g | g
        · exact q j (by omega) (by omega)
        · have : j = i := by omega
          subst this
          simpa using h
      · intro q j h1 h2
        exact q j (by omega) (by omega)
theorem fst_some {p : Nat → Bool} : ∀ {k i j : Nat}, fst p i k = some j → i ≤ j ∧ j < i + k ∧ p j = true ∧ ∀ q, i ≤ q → q < j → p q = false := by
  intro k
  induction k with
  | zero => intro i j h; simp [fst] at h
  | succ k ih =>
    intro i j h
    simp only [fst] at h
    split at h
    next hp =>
      cases h
      exact ⟨Nat.le_refl _, by omega, hp, fun q h1 h2 => by omega⟩
    next hp =>
      obtain ⟨g1, g2, g3, g4⟩ := ih h
      refine ⟨by omega, by omega, g3, fun q h1 h2 => ?_⟩
      rcases Nat.lt_or_ge i q with g | g
      · exact g4 q (by omega) h2
      · have : q = i := by omega
        subst this
        simpa using hp
theorem and0 {a b : Nat} : a &&& b = 0 ↔ ∀ x, ¬ (a.testBit x = true ∧ b.testBit x = true) := by
  constructor
  · intro h x ⟨h1, h2⟩
    have : (a &&& b).testBit x = true := by rw [Nat.testBit_and, h1, h2]; rfl
    rw [h] at this
    simp at this
  · intro h
    apply Nat.eq_of_testBit_eq
    intro x
    rw [Nat.testBit_and, Nat.zero_testBit]
    have := h x
    cases q1 : a.testBit x <;> cases q2 : b.testBit x <;> simp_all
theorem nIz {a : Nat} (h : a < 2 ^ 31) : nI a = 0 ↔ a = 0 := m_inj (b := 0) h (by decide)
theorem div_bit (A i : Nat) : (A / 2 ^ i).testBit 0 = A.testBit i := by rw [Nat.testBit_div_two_pow]; simp
theorem and1z (x : Nat) : x &&& 1 = 0 ↔ x.testBit 0 = false := by
  rw [Nat.and_one_is_mod, Nat.testBit_zero]
  have : x % 2 < 2 := Nat.mod_lt _ (by decide)
  rcases (show x % 2 = 0 ∨ x % 2 = 1 by omega) with q | q <;> simp [q]
theorem m_or3 {A B C i j k : Nat} (hA : A < 2 ^ 31) (hB : B < 2 ^ 31) (hC : C < 2 ^ 31) (hi : i < 32) (hj : j < 32) (hk : k < 32) : ((((nI A >>> (nI i &&& 31)) ||| (nI B >>> (nI j &&& 31))) ||| (nI C >>> (nI k &&& 31))) &&& 1 = 0) ↔ A.testBit i = false ∧ B.testBit j = false ∧ C.testBit k = false := by
  rw [m_shr hA hi, m_shr hB hj, m_shr hC hk, m_or, m_or, show (1 : Int32) = nI 1 from rfl, m_and, nIz (Nat.lt_of_le_of_lt Nat.and_le_right (by decide)), and1z, Nat.testBit_or, Nat.testBit_or, div_bit, div_bit, div_bit]
  cases A.testBit i <;> cases B.testBit j <;> cases C.testBit k <;> simp
section FRE
variable {w : Wd} {n : Nat} {T : Nat → Nat → Nat} {iv : Nat → Nat}
/-- free: no product of two lies in the set -/
def fr (n : Nat) (T : Nat → Nat → Nat) (S : Nat) : Bool := decide (S &&& pr n T S S = 0)
theorem fr_iff {S : Nat} : fr n T S = true ↔ ∀ a b, a < n → b < n → S.testBit a = true → S.testBit b = true → S.testBit (T a b) = false := by
  unfold fr
  rw [decide_eq_true_iff, and0]
  constructor
  · intro h a b ha hb h1 h2
    cases q : S.testBit (T a b) with
    | false => rfl
    | true => exact absurd ⟨q, pr_bit.mpr ⟨a, b, ha, hb, h1, h2, rfl⟩⟩ (h (T a b))
  · intro h x ⟨h1, h2⟩
    obtain ⟨a, b, ha, hb, g1, g2, rfl⟩ := pr_bit.mp h2
    rw [h a b ha hb g1 g2] at h1
    cases h1
theorem x_mvL (hG : GX w n T iv) (hg : Gp n T iv) {g S : Nat} (h : g < n) (hS : S < 2 ^ 16) : f_X4_moved (nI g) (nI S) 1 w = some (nI (mv n T g S true)) := by
  rw [x_moved hG hg h hS 1, show decide ((1 : Int32) ≠ 0) = true from by decide]
theorem x_mvR (hG : GX w n T iv) (hg : Gp n T iv) {g S : Nat} (h : g < n) (hS : S < 2 ^ 16) : f_X4_moved (nI g) (nI S) 0 w = some (nI (mv n T g S false)) := by
  rw [x_moved hG hg h hS 0, show decide ((0 : Int32) ≠ 0) = false from by decide]
theorem y_shL (hM : GM w n T iv) (hg : Gp n T iv) {g S : Nat} (h : g < n) (hS : S < 2 ^ 16) : f_X12_shifted (nI S) (nI g) 1 w = some (nI (mv n T g S true)) := by
  rw [y_shifted hM hg h hS 1, show decide ((1 : Int32) ≠ 0) = true from by decide]
theorem y_shR (hM : GM w n T iv) (hg : Gp n T iv) {g S : Nat} (h : g < n) (hS : S < 2 ^ 16) : f_X12_shifted (nI S) (nI g) 0 w = some (nI (mv n T g S false)) := by
  rw [y_shifted hM hg h hS 0, show decide ((0 : Int32) ≠ 0) = false from by decide]
theorem x_isFree (hG : GX w n T iv) (hg : Gp n T iv) {S : Nat} (hS : S < 2 ^ 16) : f_X4_isFree (nI S) w = some (if fr n T S then 1 else 0) := by
  have h16 := hg.1.2
  have hS' : S < 2 ^ 31 := Nat.lt_trans hS (by decide)
  have hand : ∀ i, i < n → ((nI (mv n T i S true) &&& nI S = 0) ↔ mv n T i S true &&& S = 0) := fun i hi => by
    rw [m_and, nIz (Nat.lt_of_le_of_lt Nat.and_le_right hS')]
  have key := lfind (fun f i => f_X4_isFree_L2 f (nI S) (nI i) w) n (fun i => S.testBit i && !decide (mv n T i S true &&& S = 0)) (fun _ => some 0) (some 1) ?_ ?_ ?_ n 0 FU (by omega) (FU_big (by omega))
  · unfold f_X4_isFree
    refine (show f_X4_isFree_L2 FU (nI S) (nI 0) w = _ from key).trans ?_
    cases h : fst (fun i => S.testBit i && !decide (mv n T i S true &&& S = 0)) 0 n with
    | none =>
      have hf : fr n T S = true := by
        rw [fr_iff]
        intro a b ha hb h1 h2
        have := fst_none.mp h a (Nat.zero_le _) (by omega)
        simp only [h1, Bool.true_and, Bool.not_eq_false', decide_eq_true_eq] at this
        cases q : S.testBit (T a b) with
        | false => rfl
        | true => exact absurd ⟨mv_bit.mpr ⟨b, hb, h2, by simp⟩, q⟩ (and0.mp this (T a b))
      simp [selO, hf]
    | some j =>
      obtain ⟨-, g2, g3, -⟩ := fst_some h
      have hf : fr n T S = false := by
        cases q : fr n T S with
        | false => rfl
        | true =>
          rw [fr_iff] at q
          simp only [Bool.and_eq_true, Bool.not_eq_true', decide_eq_false_iff_not] at g3
          exfalso
          apply g3.2
          rw [and0]
          intro x ⟨h1, h2⟩
          obtain ⟨e, he, h3, rfl⟩ := mv_bit.mp h1
          simp only [if_true] at h2
          rw [q j e (by omega) he g3.1 h3] at h2
          cases h2
      simp [selO, hf]
  · intro f i hi hp
    show f_X4_isFree_B2b (f_X4_isFree_L2 f) (nI S) (nI i) w = _
    unfold f_X4_isFree_B2b
    rw [hG.1, if_neg (by rw [m_le (by omega) (by omega)]; omega)]
    by_cases hb : S.testBit i = true
    · simp only [hb, Bool.true_and, Bool.not_eq_false', decide_eq_true_eq] at hp
      rw [if_neg (by rw [x_bit0 hS' (by omega), hb]; decide), m_bnd (x_mvL hG hg hi hS), if_pos ((hand i hi).mpr hp), nI_1]
    · rw [if_pos (by rw [x_bit0 hS' (by omega)]; simpa using hb), nI_1]
  · intro f i hi hp
    show f_X4_isFree_B2b (f_X4_isFree_L2 f) (nI S) (nI i) w = _
    unfold f_X4_isFree_B2b
    simp only [Bool.and_eq_true, Bool.not_eq_true', decide_eq_false_iff_not] at hp
    rw [hG.1, if_neg (by rw [m_le (by omega) (by omega)]; omega), if_neg (by rw [x_bit0 hS' (by omega), hp.1]; decide), m_bnd (x_mvL hG hg hi hS), if_neg (fun q => hp.2 ((hand i hi).mp q))]
  · intro f
    show f_X4_isFree_B2b (f_X4_isFree_L2 f) (nI S) (nI n) w = _
    unfold f_X4_isFree_B2b
    rw [hG.1, if_pos (by rw [m_le (by omega) (by omega)]; omega)]
theorem y_isFree (hM : GM w n T iv) (hg : Gp n T iv) {S : Nat} (hS : S < 2 ^ n) : f_X12_isFree (nI S) w = some (if fr n T S then 1 else 0) := by
  have h16 := p16 hg.1.2
  unfold f_X12_isFree
  rw [m_rd (by omega) (by decide), hM.2.2.2 S hS]
  unfold f_X12_isFreeBy fr
  rw [m_and]
  have e : (nI (S &&& pr n T S S) = 0) ↔ (S &&& pr n T S S = 0) := nIz (Nat.lt_of_le_of_lt Nat.and_le_left (by omega))
  by_cases h : S &&& pr n T S S = 0
  · rw [if_pos (e.mpr h)]; simp [h]
  · rw [if_neg (fun q => h (e.mp q))]; simp [h]
theorem sb_or (S e x : Nat) : (S ||| 2 ^ e).testBit x = true ↔ S.testBit x = true ∨ x = e := by
  rw [Nat.testBit_or, Bool.or_eq_true, two_bit]
  constructor
  · rintro (h | h)
    · exact Or.inl h
    · exact Or.inr h.symm
  · rintro (h | h)
    · exact Or.inl h
    · exact Or.inr h.symm
theorem fr_add (hg : Gp n T iv) {S e : Nat} (he : e < n) (hf : fr n T S = true) : fr n T (S ||| 2 ^ e) = true ↔ ((S ||| 2 ^ e).testBit (T e e) = false ∧ ∀ x, x < n → S.testBit x = true → (S ||| 2 ^ e).testBit (T x e) = false ∧ (S ||| 2 ^ e).testBit (T e x) = false ∧ S.testBit (T (iv x) e) = false) := by
  rw [fr_iff] at hf
  rw [fr_iff]
  have ebit : (S ||| 2 ^ e).testBit e = true := (sb_or S e e).mpr (Or.inr rfl)
  constructor
  · intro h
    refine ⟨h e e he he ebit ebit, fun x hx hS => ?_⟩
    have hx1 : (S ||| 2 ^ e).testBit x = true := (sb_or S e x).mpr (Or.inl hS)
    refine ⟨h x e hx he hx1 ebit, h e x he hx ebit hx1, ?_⟩
    cases q : S.testBit (T (iv x) e) with
    | false => rfl
    | true =>
      have hi := hg.2.2.2.2 x hx
      have hy := hg.2.1 _ _ hi.1 he
      have h1 := h x (T (iv x) e) hx hy hx1 ((sb_or S e _).mpr (Or.inl q))
      rw [← hg.2.2.2.1 x (iv x) e hx hi.1 he, hi.2.1, (hg.2.2.1 e he).1, ebit] at h1
      cases h1
  · rintro ⟨h0, h⟩ a b ha hb h1 h2
    rcases (sb_or S e a).mp h1 with g1 | rfl
    · rcases (sb_or S e b).mp h2 with g2 | rfl
      · cases q : (S ||| 2 ^ e).testBit (T a b) with
        | false => rfl
        | true =>
          rcases (sb_or S e _).mp q with q | q
          · rw [hf a b ha hb g1 g2] at q; cases q
          · have hi := hg.2.2.2.2 a ha
            have h3 := (h a ha g1).2.2
            rw [← q, ← hg.2.2.2.1 (iv a) a b hi.1 ha hb, hi.2.2, (hg.2.2.1 b hb).1, g2] at h3
            cases h3
      · exact (h a ha g1).1
    · rcases (sb_or S a b).mp h2 with g2 | rfl
      · exact (h b hb g2).2.1
      · exact h0
theorem x_stays (hG : GX w n T iv) (hg : Gp n T iv) {S e : Nat} (hS : S < 2 ^ 16) (he : e < n) (hf : fr n T S = true) : f_X4_staysFree (nI S) (nI e) w = some (if fr n T (S ||| 2 ^ e) then 1 else 0) := by
  have h16 := hg.1.2
  have hS' : S < 2 ^ 31 := Nat.lt_trans hS (by decide)
  have he' : 2 ^ e < 2 ^ 16 := Nat.pow_lt_pow_right (by decide) (by omega)
  have hM16 : S ||| 2 ^ e < 2 ^ 16 := Nat.or_lt_two_pow hS he'
  have hM' : S ||| 2 ^ e < 2 ^ 31 := Nat.lt_trans hM16 (by decide)
  have tl : ∀ a b, a < n → b < n → T a b < 31 := fun a b ha hb => by have := hg.2.1 a b ha hb; omega
  have hadd := fr_add hg he hf
  have key := lfind (fun f i => f_X4_staysFree_L24 f (nI S) (nI e) (nI (S ||| 2 ^ e)) (nI i) w) n (fun x => S.testBit x && !(!(S ||| 2 ^ e).testBit (T x e) && !(S ||| 2 ^ e).testBit (T e x) && !S.testBit (T (iv x) e))) (fun _ => some 0) (some 1) ?_ ?_ ?_ n 0 FU (by omega) (FU_big (by omega))
  · unfold f_X4_staysFree
    rw [m_bnd (x_times hG hg he he), m_shl1 (by omega), m_or]
    by_cases h0 : (S ||| 2 ^ e).testBit (T e e) = true
    · rw [if_neg (by rw [x_bit0 hM' (tl e e he he), h0]; decide)]
      have : fr n T (S ||| 2 ^ e) = false := by
        cases q : fr n T (S ||| 2 ^ e) with
        | false => rfl
        | true => rw [(hadd.mp q).1] at h0; cases h0
      simp [this]
    · rw [if_pos (by rw [x_bit0 hM' (tl e e he he)]; simpa using h0)]
      refine (show f_X4_staysFree_L24 FU (nI S) (nI e) (nI (S ||| 2 ^ e)) (nI 0) w = _ from key).trans ?_
      cases h : fst (fun x => S.testBit x && !(!(S ||| 2 ^ e).testBit (T x e) && !(S ||| 2 ^ e).testBit (T e x) && !S.testBit (T (iv x) e))) 0 n with
      | none =>
        have : fr n T (S ||| 2 ^ e) = true := hadd.mpr ⟨by simpa using h0, fun x hx hb => by
          have := fst_none.mp h x (Nat.zero_le _) (by omega)
          simpa [hb, and_assoc] using this⟩
        simp [selO, this]
      | some j =>
        obtain ⟨-, g2, g3, -⟩ := fst_some h
        have : fr n T (S ||| 2 ^ e) = false := by
          cases q : fr n T (S ||| 2 ^ e) with
          | false => rfl
          | true =>
            simp only [Bool.and_eq_true] at g3
            obtain ⟨k1, k2, k3⟩ := (hadd.mp q).2 j (by omega) g3.1
            simp [k1, k2, k3] at g3
        simp [selO, this]
  · intro f i hi hp
    show f_X4_staysFree_B24b (f_X4_staysFree_L24 f) (nI S) (nI e) (nI (S ||| 2 ^ e)) (nI i) w = _
    unfold f_X4_staysFree_B24b
    rw [hG.1, if_neg (by rw [m_le (by omega) (by omega)]; omega)]
    by_cases hb : S.testBit i = true
    · have hi2 := hg.2.2.2.2 i hi
      have hp : (S ||| 2 ^ e).testBit (T i e) = false ∧ (S ||| 2 ^ e).testBit (T e i) = false ∧ S.testBit (T (iv i) e) = false := by simpa [hb, and_assoc] using hp
      rw [if_neg (by rw [x_bit0 hS' (by omega), hb]; decide), m_bnd (x_times hG hg hi he), m_bnd (x_times hG hg he hi), m_bnd (x_inv hG hg hi), m_bnd (x_times hG hg hi2.1 he)]
      rw [if_pos ((m_or3 hM' hM' hS' (by have := tl i e hi he; omega) (by have := tl e i he hi; omega) (by have := tl (iv i) e hi2.1 he; omega)).mpr hp), nI_1]
    · rw [if_pos (by rw [x_bit0 hS' (by omega)]; simpa using hb), nI_1]
  · intro f i hi hp
    show f_X4_staysFree_B24b (f_X4_staysFree_L24 f) (nI S) (nI e) (nI (S ||| 2 ^ e)) (nI i) w = _
    unfold f_X4_staysFree_B24b
    have hi2 := hg.2.2.2.2 i hi
    simp only [Bool.and_eq_true] at hp
    rw [hG.1, if_neg (by rw [m_le (by omega) (by omega)]; omega), if_neg (by rw [x_bit0 hS' (by omega), hp.1]; decide), m_bnd (x_times hG hg hi he), m_bnd (x_times hG hg he hi), m_bnd (x_inv hG hg hi), m_bnd (x_times hG hg hi2.1 he)]
    rw [if_neg]
    intro q
    obtain ⟨k1, k2, k3⟩ := (m_or3 hM' hM' hS' (by have := tl i e hi he; omega) (by have := tl e i he hi; omega) (by have := tl (iv i) e hi2.1 he; omega)).mp q
    simp [k1, k2, k3] at hp
  · intro f
    show f_X4_staysFree_B24b (f_X4_staysFree_L24 f) (nI S) (nI e) (nI (S ||| 2 ^ e)) (nI n) w = _
    unfold f_X4_staysFree_B24b
    rw [hG.1, if_pos (by rw [m_le (by omega) (by omega)]; omega)]
end FRE
