/-! loops with an end of their own, and sums -/
theorem bnd_some {α β : Type} (a : α) (f : α → Option β) : bnd (some a) f = f a := rfl
theorem bnd2_some {α β γ : Type} (a : α) (c : γ) (f : α → γ → Option β) : bnd2 (some (a, c)) f = f a c := rfl
def allB (p : Nat → Bool) (n : Nat) : Bool := (fst (fun i => !p i) 0 n).isNone
theorem allB_iff {p : Nat → Bool} {n : Nat} : allB p n = true ↔ ∀ i, i < n → p i = true := by
  unfold allB
  rw [Option.isNone_iff_eq_none, fst_none]
  constructor
  · intro h i hi; have := h i (Nat.zero_le _) (by omega); simpa using this
  · intro h i _ hi; have := h i (by omega); simp [this]
theorem allB_sel {β : Type} (p : Nat → Bool) (n : Nat) (x y : β) : selO (fst (fun i => !p i) 0 n) (fun _ => x) y = if allB p n then y else x := by
  unfold allB
  cases fst (fun i => !p i) 0 n <;> simp [selO]
theorem rng_and_iff (p : Nat → Bool) : ∀ k i s, rng (fun i s => s && p i) i k s = true ↔ s = true ∧ ∀ j, i ≤ j → j < i + k → p j = true := by
  intro k
  induction k with
  | zero => intro i s; simp only [rng]; exact ⟨fun h => ⟨h, fun j h1 h2 => by omega⟩, fun h => h.1⟩
  | succ k ih =>
    intro i s
    simp only [rng]
    rw [ih, Bool.and_eq_true]
    constructor
    · rintro ⟨⟨h1, h2⟩, h3⟩
      refine ⟨h1, fun j g1 g2 => ?_⟩
      rcases Nat.lt_or_ge i j with q | q
      · exact h3 j (by omega) (by omega)
      · rw [show j = i by omega]; exact h2
    · rintro ⟨h1, h2⟩
      exact ⟨⟨h1, h2 i (Nat.le_refl _) (by omega)⟩, fun j g1 g2 => h2 j (by omega) (by omega)⟩
theorem rng_and (p : Nat → Bool) (n : Nat) : rng (fun i s => s && p i) 0 n true = allB p n := by
  rw [Bool.eq_iff_iff, rng_and_iff, allB_iff]
  exact ⟨fun h i hi => h.2 i (Nat.zero_le _) (by omega), fun h => ⟨rfl, fun i _ hi => h i (by omega)⟩⟩
theorem rng_cong {σ : Type} {g g' : Nat → σ → σ} : ∀ k i s, (∀ j s, i ≤ j → j < i + k → g j s = g' j s) → rng g i k s = rng g' i k s := by
  intro k
  induction k with
  | zero => intro i s _; rfl
  | succ k ih =>
    intro i s h
    simp only [rng]
    rw [h i s (Nat.le_refl _) (by omega)]
    exact ih _ _ (fun j s h1 h2 => h j s (by omega) (by omega))
def sumF (f : Nat → Nat) (n : Nat) : Nat := rng (fun i acc => acc + f i) 0 n 0
theorem rng_addA (f : Nat → Nat) : ∀ k i a b, rng (fun i acc => acc + f i) i k (a + b) = a + rng (fun i acc => acc + f i) i k b := by
  intro k
  induction k with
  | zero => intro i a b; rfl
  | succ k ih => intro i a b; simp only [rng]; rw [Nat.add_assoc]; exact ih _ _ _
theorem rng_add (f : Nat → Nat) (n a : Nat) : rng (fun i acc => acc + f i) 0 n a = a + sumF f n := rng_addA f n 0 a 0
theorem rng_succ {σ : Type} (g : Nat → σ → σ) : ∀ k i s, rng g i (k + 1) s = g (i + k) (rng g i k s) := by
  intro k
  induction k with
  | zero => intro i s; rfl
  | succ k ih =>
    intro i s
    have := ih (i + 1) (g i s)
    rw [show rng g i (k + 1 + 1) s = rng g (i + 1) (k + 1) (g i s) from rfl, this, show i + 1 + k = i + (k + 1) by omega]
    rfl
theorem sumF_succ (f : Nat → Nat) (n : Nat) : sumF f (n + 1) = sumF f n + f n := by
  unfold sumF
  rw [rng_succ, Nat.zero_add]
theorem sumF_zero (f : Nat → Nat) : sumF f 0 = 0 := rfl
theorem sumF_cong {f g : Nat → Nat} : ∀ {n}, (∀ i, i < n → f i = g i) → sumF f n = sumF g n := by
  intro n h
  unfold sumF
  exact rng_cong n 0 0 (fun j s _ h2 => by rw [h j (by omega)])
theorem sumF_le {f : Nat → Nat} {c : Nat} : ∀ {n}, (∀ i, i < n → f i ≤ c) → sumF f n ≤ n * c := by
  intro n
  induction n with
  | zero => intro _; rw [sumF_zero]; omega
  | succ n ih => intro h; rw [sumF_succ, Nat.succ_mul]; have := ih (fun i hi => h i (by omega)); have := h n (by omega); omega
theorem sumF_cnt (p : Nat → Bool) : ∀ n, sumF (fun i => if p i then 1 else 0) n = cntB p n := by
  intro n
  induction n with
  | zero => rfl
  | succ n ih => rw [sumF_succ, ih]; simp only [cntB]
/-- one place alone -/
theorem cnt_one {p : Nat → Bool} {y : Nat} : ∀ {n}, (∀ i, i < n → (p i = true ↔ i = y)) → cntB p n = if y < n then 1 else 0 := by
  intro n
  induction n with
  | zero => intro _; rfl
  | succ n ih =>
    intro h
    simp only [cntB]
    rw [ih (fun i hi => h i (by omega))]
    have := h n (by omega)
    by_cases c : n = y
    · rw [if_pos (this.mpr c), if_neg (by omega), if_pos (by omega)]
    · rw [if_neg (fun q => c (this.mp q))]
      by_cases d : y < n
      · rw [if_pos d, if_pos (by omega)]
      · rw [if_neg d, if_neg (by omega)]
theorem cnt_none {p : Nat → Bool} : ∀ {n}, (∀ i, i < n → p i = false) → cntB p n = 0 := by
  intro n
  induction n with
  | zero => intro _; rfl
  | succ n ih =>
    intro h
    simp only [cntB]
    rw [ih (fun i hi => h i (by omega)), h n (by omega)]; rfl
/-! how many a set holds -/
theorem cnt_set {p q : Nat → Bool} {x : Nat} : ∀ {n}, x < n → p x = false → q x = true → (∀ i, i ≠ x → q i = p i) → cntB q n = cntB p n + 1 := by
  intro n
  induction n with
  | zero => intro h; omega
  | succ n ih =>
    intro h h1 h2 h3
    simp only [cntB]
    by_cases c : n = x
    · subst c
      rw [cntB_cong (p := q) (q := p) (fun k hk => h3 k (by omega)), h1, h2]; simp
    · rw [ih (by omega) h1 h2 h3, h3 n c]; omega
theorem pc_add {A x : Nat} (hx : x < 16) (h : A.testBit x = false) : pc (A ||| 2 ^ x) = pc A + 1 := by
  apply cnt_set hx h
  · rw [Nat.testBit_or, (two_bit x x).mpr rfl]; simp
  · intro i hi
    rw [Nat.testBit_or]
    cases q : (2 ^ x).testBit i with
    | false => simp
    | true => exact absurd ((two_bit x i).mp q).symm hi
/-- a set sent by a way that sends no two to one -/
theorem pc_img {B : Nat → Bool} {φ : Nat → Nat} : ∀ {n}, (∀ e, e < n → φ e < 16) → (∀ e d, e < n → d < n → φ e = φ d → e = d) → pc (orF (fun e => if B e then 2 ^ φ e else 0) n) = cntB B n := by
  intro n
  induction n with
  | zero => intro _ _; exact pc_zero
  | succ n ih =>
    intro h1 h2
    have := ih (fun e he => h1 e (by omega)) (fun e d he hd => h2 e d (by omega) (by omega))
    unfold orF at this ⊢
    rw [rng_succ, Nat.zero_add]
    simp only [cntB]
    cases q : B n with
    | false => simpa using this
    | true =>
      simp only [if_true]
      rw [pc_add (h1 n (by omega)), this]
      cases r : (rng (fun e acc => acc ||| if B e = true then 2 ^ φ e else 0) 0 n 0).testBit (φ n) with
      | false => rfl
      | true =>
        obtain ⟨e, he, h⟩ := orF_bit.mp r
        split at h
        next => have := h2 e n (by omega) (by omega) ((two_bit _ _).mp h); omega
        next => simp at h
section READ
variable {w : Wd} {n : Nat} {T : Nat → Nat → Nat} {iv : Nat → Nat}
theorem T_canL (hg : Gp n T iv) {a b c : Nat} (ha : a < n) (hb : b < n) (hc : c < n) (h : T a b = T a c) : b = c := by
  have hi := hg.2.2.2.2 a ha
  have h1 := congrArg (T (iv a)) h
  rwa [← hg.2.2.2.1 _ _ _ hi.1 ha hb, ← hg.2.2.2.1 _ _ _ hi.1 ha hc, hi.2.2, (hg.2.2.1 b hb).1, (hg.2.2.1 c hc).1] at h1
theorem T_canR (hg : Gp n T iv) {a b c : Nat} (ha : a < n) (hb : b < n) (hc : c < n) (h : T b a = T c a) : b = c := by
  have hi := hg.2.2.2.2 a ha
  have h1 := congrArg (fun z => T z (iv a)) h
  rwa [hg.2.2.2.1 _ _ _ hb ha hi.1, hg.2.2.2.1 _ _ _ hc ha hi.1, hi.2.1, (hg.2.2.1 b hb).2, (hg.2.2.1 c hc).2] at h1
/-! the centre -/
def cmt (n : Nat) (T : Nat → Nat → Nat) (a : Nat) : Bool := allB (fun b => decide (T a b = T b a)) n
theorem x_comm (hG : GX w n T iv) (hg : Gp n T iv) {a : Nat} (ha : a < n) : f_X4_commutes (nI a) w = some (if cmt n T a then 1 else 0) := by
  have h16 := hg.1.2
  have key := lfind (fun f i => f_X4_commutes_L2 f (nI a) (nI i) w) n (fun i => !decide (T a i = T i a)) (fun _ => some 0) (some 1) ?_ ?_ ?_ n 0 FU (by omega) (FU_big (by omega))
  · refine (show f_X4_commutes_L2 FU (nI a) (nI 0) w = _ from key).trans ?_
    rw [allB_sel]
    unfold cmt
    split <;> rfl
  · intro f i hi hp
    have t1 := hg.2.1 a i ha hi
    have t2 := hg.2.1 i a hi ha
    show f_X4_commutes_B2b (f_X4_commutes_L2 f) (nI a) (nI i) w = _
    unfold f_X4_commutes_B2b
    have hp : T a i = T i a := by simpa using hp
    simp (disch := omega) only [hG.1, m_le, Nat.not_le.mpr hi, ↓reduceIte, x_times hG hg, bnd_some, m_inj, hp, nI_1]
  · intro f i hi hp
    have t1 := hg.2.1 a i ha hi
    have t2 := hg.2.1 i a hi ha
    show f_X4_commutes_B2b (f_X4_commutes_L2 f) (nI a) (nI i) w = _
    unfold f_X4_commutes_B2b
    have hp : ¬ T a i = T i a := by simpa using hp
    simp (disch := omega) only [hG.1, m_le, Nat.not_le.mpr hi, ↓reduceIte, x_times hG hg, bnd_some, m_inj, hp, nI_1]
  · intro f
    show f_X4_commutes_B2b (f_X4_commutes_L2 f) (nI a) (nI n) w = _
    unfold f_X4_commutes_B2b
    simp (disch := omega) only [hG.1, m_le, Nat.le_refl, ↓reduceIte]
theorem y_centre_in (hM : GM w n T iv) (hg : Gp n T iv) {a : Nat} (ha : a < n) (k4 : Int32 → Int32 → Wd → Option Int32) (acc : Nat) : f_X12_centreNow_L17 k4 FU (nI acc) (nI a) 1 0 w = if cmt n T a then k4 (nI (acc ||| 2 ^ a)) (nI (a + 1)) w else k4 (nI acc) (nI (a + 1)) w := by
  have h16 := hg.1.2
  have key := lup (fun f i (s : Bool) => f_X12_centreNow_L17 k4 f (nI acc) (nI a) (if s then 1 else 0) (nI i) w) n (fun i s => s && decide (T a i = T i a)) (fun s => if s then k4 (nI (acc ||| 2 ^ a)) (nI (a + 1)) w else k4 (nI acc) (nI (a + 1)) w) (fun _ _ => True) ?_ (fun _ _ _ _ => trivial) ?_ n 0 true FU (by omega) (FU_big (by omega)) trivial
  · have := key.1
    rw [rng_and] at this
    exact this
  · intro f i s hi _
    have t1 := hg.2.1 a i ha hi
    have t2 := hg.2.1 i a hi ha
    cases s with
    | false => simp (disch := omega) only [f_X12_centreNow_L17, f_X12_centreNow_B17b, hM.1, m_le, Nat.not_le.mpr hi, ↓reduceIte, nI_1, Bool.false_and, Bool.false_eq_true]
    | true =>
      by_cases hp : T a i = T i a
      · simp (disch := omega) only [f_X12_centreNow_L17, f_X12_centreNow_B17b, hM.1, m_le, Nat.not_le.mpr hi, ↓reduceIte, nI_1, one_ne, y_prod hM hg, bnd_some, m_inj, hp, decide_true, Bool.and_self]
      · simp (disch := omega) only [f_X12_centreNow_L17, f_X12_centreNow_B17b, hM.1, m_le, Nat.not_le.mpr hi, ↓reduceIte, nI_1, one_ne, y_prod hM hg, bnd_some, m_inj, hp, decide_false, Bool.and_false, Bool.false_eq_true]
  · intro f s _
    cases s with
    | false => simp (disch := omega) only [f_X12_centreNow_L17, f_X12_centreNow_B17b, hM.1, m_le, Nat.le_refl, ↓reduceIte, nI_1, Bool.false_eq_true]
    | true => simp (disch := omega) only [f_X12_centreNow_L17, f_X12_centreNow_B17b, hM.1, m_le, Nat.le_refl, ↓reduceIte, nI_1, one_ne, m_shl1, m_or]
def cen (n : Nat) (T : Nat → Nat → Nat) : Nat := orF (fun a => if cmt n T a then 2 ^ a else 0) n
theorem x_centre (hG : GX w n T iv) (hg : Gp n T iv) : f_X11_centre w = some (nI (cen n T)) := by
  have h16 := hg.1.2
  have key := lup (fun f i (acc : Nat) => f_X11_centre_L4 f (nI acc) (nI i) w) n (fun a acc => acc ||| (if cmt n T a then 2 ^ a else 0)) (fun acc => some (nI acc)) (fun _ _ => True) ?_ (fun _ _ _ _ => trivial) ?_ n 0 0 FU (by omega) (FU_big (by omega)) trivial
  · exact key.1
  · intro f i acc hi _
    by_cases hp : cmt n T i = true
    · simp (disch := omega) only [f_X11_centre_L4, f_X11_centre_B4b, hG.1, m_le, Nat.not_le.mpr hi, ↓reduceIte, nI_1, x_comm hG hg, bnd_some, hp, one_ne, m_shl1, m_or]
    · simp (disch := omega) only [f_X11_centre_L4, f_X11_centre_B4b, hG.1, m_le, Nat.not_le.mpr hi, ↓reduceIte, nI_1, x_comm hG hg, bnd_some, hp, Nat.or_zero, Bool.false_eq_true]
  · intro f acc _
    simp (disch := omega) only [f_X11_centre_L4, f_X11_centre_B4b, hG.1, m_le, Nat.le_refl, ↓reduceIte]
theorem y_centre (hM : GM w n T iv) (hg : Gp n T iv) : f_X12_centreNow w = some (nI (cen n T)) := by
  have h16 := hg.1.2
  have key := lup (fun f i (acc : Nat) => f_X12_centreNow_L4 f (nI acc) (nI i) w) n (fun a acc => acc ||| (if cmt n T a then 2 ^ a else 0)) (fun acc => some (nI acc)) (fun _ _ => True) ?_ (fun _ _ _ _ => trivial) ?_ n 0 0 FU (by omega) (FU_big (by omega)) trivial
  · exact key.1
  · intro f i acc hi _
    by_cases hp : cmt n T i = true
    · simp (disch := omega) only [f_X12_centreNow_L4, f_X12_centreNow_B4b, hM.1, m_le, Nat.not_le.mpr hi, ↓reduceIte, nI_1, y_centre_in hM hg, bnd_some, hp]
    · simp (disch := omega) only [f_X12_centreNow_L4, f_X12_centreNow_B4b, hM.1, m_le, Nat.not_le.mpr hi, ↓reduceIte, nI_1, y_centre_in hM hg, bnd_some, hp, Nat.or_zero, Bool.false_eq_true]
  · intro f acc _
    simp (disch := omega) only [f_X12_centreNow_L4, f_X12_centreNow_B4b, hM.1, m_le, Nat.le_refl, ↓reduceIte]
theorem c_centre (hG : GX w n T iv) (hM : GM w n T iv) (hg : Gp n T iv) : ∃ r, f_X11_centre w = some r ∧ f_X12_centre w = some r := ⟨_, x_centre hG hg, by unfold f_X12_centre; rw [y_centre hM hg]; rfl⟩
/-! periods -/
theorem c_period (hG : GX w n T iv) (hM : GM w n T iv) (hg : Gp n T iv) (a l : Int32) : ∃ r, f_X11_period a l w = some r ∧ f_X12_period a l w = some r := by
  have h16 := hg.1.2
  unfold f_X11_period f_X12_period
  rcases set_or hG hM hg a with ⟨S, hS, rfl, e1, e2⟩ | ⟨e1, e2⟩
  · rw [e1, e2, if_neg one_ne, if_neg one_ne]
    have hS6 := le16 hS h16
    have hb : ∀ i, i < n → mv n T i S (decide (l ≠ 0)) < 2 ^ 31 := fun i hi => lt31 (le16 (mv_lt hg hi) h16)
    have hS1 := lt31 hS6
    have keyx := lup (fun f i (acc : Nat) => f_X11_period_L18 f (nI S) l (nI acc) (nI i) w) n (fun g acc => acc ||| (if mv n T g S (decide (l ≠ 0)) = S then 2 ^ g else 0)) (fun acc => some (nI acc)) (fun _ _ => True) ?_ (fun _ _ _ _ => trivial) ?_ n 0 0 FU (by omega) (FU_big (by omega)) trivial
    have keyy := lup (fun f i (acc : Nat) => f_X12_period_L15 f (nI S) l (nI acc) (nI i) w) n (fun g acc => acc ||| (if mv n T g S (decide (l ≠ 0)) = S then 2 ^ g else 0)) (fun acc => some (nI acc)) (fun _ _ => True) ?_ (fun _ _ _ _ => trivial) ?_ n 0 0 FU (by omega) (FU_big (by omega)) trivial
    · exact ⟨_, keyx.1, keyy.1⟩
    · intro f i acc hi _
      have hbi := hb i hi
      by_cases hp : mv n T i S (decide (l ≠ 0)) = S
      · simp (disch := omega) only [f_X12_period_L15, f_X12_period_B15b, hM.1, m_le, Nat.not_le.mpr hi, ↓reduceIte, nI_1, y_shifted hM hg hi hS6 l, bnd_some, hp, m_shl1, m_or]
      · simp (disch := omega) only [f_X12_period_L15, f_X12_period_B15b, hM.1, m_le, Nat.not_le.mpr hi, ↓reduceIte, nI_1, y_shifted hM hg hi hS6 l, bnd_some, m_inj, hp, Nat.or_zero]
    · intro f acc _
      simp (disch := omega) only [f_X12_period_L15, f_X12_period_B15b, hM.1, m_le, Nat.le_refl, ↓reduceIte]
    · intro f i acc hi _
      have hbi := hb i hi
      by_cases hp : mv n T i S (decide (l ≠ 0)) = S
      · simp (disch := omega) only [f_X11_period_L18, f_X11_period_B18b, hG.1, m_le, Nat.not_le.mpr hi, ↓reduceIte, nI_1, x_moved hG hg hi hS6 l, bnd_some, hp, m_shl1, m_or]
      · simp (disch := omega) only [f_X11_period_L18, f_X11_period_B18b, hG.1, m_le, Nat.not_le.mpr hi, ↓reduceIte, nI_1, x_moved hG hg hi hS6 l, bnd_some, m_inj, hp, Nat.or_zero]
    · intro f acc _
      simp (disch := omega) only [f_X11_period_L18, f_X11_period_B18b, hG.1, m_le, Nat.le_refl, ↓reduceIte]
  · rw [e1, e2]; exact ⟨_, rfl, rfl⟩
end READ
