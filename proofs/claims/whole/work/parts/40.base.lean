/-! pure words: numbers -/
theorem m_lit (n : Nat) : (OfNat.ofNat n : Int32) = nI n := rfl
theorem m_and (a b : Nat) : nI a &&& nI b = nI (a &&& b) := by
  apply Int32.toBitVec_inj.1
  show BitVec.ofNat 32 a &&& BitVec.ofNat 32 b = BitVec.ofNat 32 (a &&& b)
  apply BitVec.eq_of_getLsbD_eq
  intro i hi
  simp [hi]
theorem m_or (a b : Nat) : nI a ||| nI b = nI (a ||| b) := by
  apply Int32.toBitVec_inj.1
  show BitVec.ofNat 32 a ||| BitVec.ofNat 32 b = BitVec.ofNat 32 (a ||| b)
  apply BitVec.eq_of_getLsbD_eq
  intro i hi
  simp [hi]
theorem m_xor (a b : Nat) : nI a ^^^ nI b = nI (a ^^^ b) := by
  apply Int32.toBitVec_inj.1
  show BitVec.ofNat 32 a ^^^ BitVec.ofNat 32 b = BitVec.ofNat 32 (a ^^^ b)
  apply BitVec.eq_of_getLsbD_eq
  intro i hi
  simp [hi]
theorem m_sl : ∀ n, n < 32 → ((nI n &&& 31).toBitVec.smod 32).toNat = n := by decide +kernel
theorem m_shl1 {e : Nat} (h : e < 31) : (1 : Int32) <<< (nI e &&& 31) = nI (2 ^ e) := by
  have h2 : 2 ^ e < 2 ^ 31 := Nat.pow_lt_pow_right (by decide) h
  have := pk_shlN (n := 1) (nI e &&& 31) e (m_sl e (by omega)) (by omega)
  rw [Nat.one_mul] at this
  exact this
theorem m_shr {S e : Nat} (hS : S < 2 ^ 31) (h : e < 32) : nI S >>> (nI e &&& 31) = nI (S / 2 ^ e) := pk_shrN hS (nI e &&& 31) e (m_sl e h)
theorem m_bit {S e : Nat} (hS : S < 2 ^ 31) (h : e < 32) : (nI S >>> (nI e &&& 31)) &&& 1 = nI (if S.testBit e then 1 else 0) := by
  rw [m_shr hS h, show (1 : Int32) = nI 1 from rfl, m_and, Nat.and_one_is_mod]
  congr 1
  rw [Nat.testBit_eq_decide_div_mod_eq]
  have : S / 2 ^ e % 2 < 2 := Nat.mod_lt _ (by decide)
  rcases (show S / 2 ^ e % 2 = 0 ∨ S / 2 ^ e % 2 = 1 by omega) with q | q <;> simp [q]
theorem m_inj {a b : Nat} (ha : a < 2 ^ 31) (hb : b < 2 ^ 31) : nI a = nI b ↔ a = b := nI_eq ha hb
theorem m_le {a b : Nat} (ha : a < 2 ^ 31) (hb : b < 2 ^ 31) : nI a ≤ nI b ↔ a ≤ b := nI_leI ha hb
theorem m_lt {a b : Nat} (ha : a < 2 ^ 31) (hb : b < 2 ^ 31) : nI a < nI b ↔ a < b := nI_ltI ha hb
theorem m_inb {i N : Nat} (h : i < N) (hN : N < 2 ^ 31) : inb (nI i) N = true := by
  have h1 : ¬ nI i < 0 := nI_pos (by omega)
  have h2 : (nI i).toNatClampNeg = i := nI_clamp (by omega)
  simp [inb, h1, h2, h]
theorem m_rd {β : Type} {w : Wd} {k N i : Nat} (h : i < N) (hN : N < 2 ^ 31) (f : Int32 → Option β) : rdI w k N (nI i) f = f (w.1 k i) := by
  unfold rdI
  rw [if_pos (m_inb h hN), nI_clamp (by omega)]
theorem m_wr {β : Type} {w : Wd} {k N i : Nat} {x : Int32} (h : i < N) (hN : N < 2 ^ 31) (f : Wd → Option β) : wrI w k N (nI i) x f = f (sI w k i x) := by
  unfold wrI
  rw [if_pos (m_inb h hN), nI_clamp (by omega)]
theorem m_bnd {α β : Type} {o : Option α} {a : α} (h : o = some a) (f : α → Option β) : bnd o f = f a := by rw [h]; rfl
theorem m_bnd2 {α β γ : Type} {o : Option (α × γ)} {a : α} {c : γ} (h : o = some (a, c)) (f : α → γ → Option β) : bnd2 o f = f a c := by rw [h]; rfl
theorem m_letW {α β : Type} (a : α) (f : α → β) : letW a f = f a := rfl
theorem FU_big {n : Nat} (h : n < 10 ^ 30) : n < FU := Nat.lt_of_lt_of_le h (by unfold FU; exact Nat.pow_le_pow_right (by decide) (by decide))
/-! loops that count up -/
def rng {σ : Type} (g : Nat → σ → σ) (i : Nat) : Nat → σ → σ
  | 0, s => s
  | k + 1, s => rng g (i + 1) k (g i s)
theorem lup {σ β : Type} (L : Nat → Nat → σ → β) (n : Nat) (g : Nat → σ → σ) (out : σ → β) (I : Nat → σ → Prop)
    (hs : ∀ f i s, i < n → I i s → L (f + 1) i s = L f (i + 1) (g i s)) (hk : ∀ i s, i < n → I i s → I (i + 1) (g i s)) (hd : ∀ f s, I n s → L (f + 1) n s = out s) :
    ∀ k i s f, i + k = n → k < f → I i s → L f i s = out (rng g i k s) ∧ I n (rng g i k s) := by
  intro k
  induction k with
  | zero =>
    intro i s f hi hf h
    obtain ⟨f, rfl⟩ : ∃ q, f = q + 1 := ⟨f - 1, by omega⟩
    have e : i = n := by omega
    subst e
    exact ⟨hd f s h, h⟩
  | succ k ih =>
    intro i s f hi hf h
    obtain ⟨f, rfl⟩ : ∃ q, f = q + 1 := ⟨f - 1, by omega⟩
    rw [hs f i s (by omega) h]
    exact ih (i + 1) (g i s) f (by omega) (by omega) (hk i s (by omega) h)
/-- the union of what each gives -/
def orF (f : Nat → Nat) (n : Nat) : Nat := rng (fun e acc => acc ||| f e) 0 n 0
theorem rng_or_bit (f : Nat → Nat) (x : Nat) : ∀ k i acc, (rng (fun e acc => acc ||| f e) i k acc).testBit x = true ↔ acc.testBit x = true ∨ ∃ e, i ≤ e ∧ e < i + k ∧ (f e).testBit x = true := by
  intro k
  induction k with
  | zero =>
    intro i acc
    simp only [rng]
    constructor
    · exact Or.inl
    · rintro (h | ⟨e, h1, h2, -⟩)
      · exact h
      · omega
  | succ k ih =>
    intro i acc
    simp only [rng]
    rw [ih]
    simp only [Nat.testBit_or, Bool.or_eq_true]
    constructor
    · rintro ((h | h) | ⟨e, h1, h2, h3⟩)
      · exact Or.inl h
      · exact Or.inr ⟨i, Nat.le_refl _, by omega, h⟩
      · exact Or.inr ⟨e, by omega, by omega, h3⟩
    · rintro (h | ⟨e, h1, h2, h3⟩)
      · exact Or.inl (Or.inl h)
      · rcases Nat.lt_or_ge i e with q | q
        · exact Or.inr ⟨e, by omega, by omega, h3⟩
        · have : e = i := by omega
          subst this
          exact Or.inl (Or.inr h3)
theorem orF_bit {f : Nat → Nat} {n x : Nat} : (orF f n).testBit x = true ↔ ∃ e, e < n ∧ (f e).testBit x = true := by
  unfold orF
  rw [rng_or_bit]
  simp
theorem two_bit (a x : Nat) : (2 ^ a).testBit x = true ↔ a = x := by
  rw [Nat.testBit_two_pow]; simp
theorem lt_two {a n : Nat} (h : ∀ x, a.testBit x = true → x < n) : a < 2 ^ n := by
  apply Nat.lt_pow_two_of_testBit
  intro i hi
  cases q : a.testBit i with
  | false => rfl
  | true => have := h i q; omega
theorem bit_lt {a n x : Nat} (h : a < 2 ^ n) (hx : a.testBit x = true) : x < n := by
  rcases Nat.lt_or_ge x n with q | q
  · exact q
  · have : a < 2 ^ x := Nat.lt_of_lt_of_le h (Nat.pow_le_pow_right (by decide) q)
    rw [Nat.testBit_lt_two_pow this] at hx
    cases hx
theorem orF_lt {f : Nat → Nat} {n m : Nat} (h : ∀ e, e < n → f e < 2 ^ m) : orF f n < 2 ^ m := by
  apply lt_two
  intro x hx
  obtain ⟨e, he, h1⟩ := orF_bit.mp hx
  exact bit_lt (h e he) h1
theorem p31 {n : Nat} (h : n ≤ 16) : 2 ^ n < 2 ^ 31 := Nat.pow_lt_pow_right (by decide) (by omega)
theorem p16 {n : Nat} (h : n ≤ 16) : 2 ^ n ≤ 65536 := Nat.pow_le_pow_right (n := 2) (by decide) h
