/-! fill, thin -/
theorem cnt_dif {p q : Nat → Bool} : ∀ {m}, (∀ i, i < m → q i = true → p i = true) → cntB (fun i => p i && !q i) m + cntB q m = cntB p m := by
  intro m
  induction m with
  | zero => intro _; rfl
  | succ m ih =>
    intro h
    have h1 := ih (fun i hi => h i (by omega))
    have h2 := h m (by omega)
    simp only [cntB]
    by_cases c : p m = true <;> by_cases d : q m = true <;> simp [c, d] at h2 ⊢ <;> omega
theorem pc_dif {S F : Nat} (h : ∀ x, S.testBit x = true → F.testBit x = true) : pc (F ^^^ (F &&& S)) + pc S = pc F := by
  have := cnt_dif (p := fun i => F.testBit i) (q := fun i => S.testBit i) (m := 16) (fun i _ => h i)
  unfold pc
  rw [← this]
  congr 1
  apply cntB_cong
  intro k _
  cases hx : (F ^^^ (F &&& S)).testBit k with
  | true => have := (dif_bit F S k).mp hx; simp [this.1, this.2]
  | false =>
    cases a : F.testBit k <;> cases b : S.testBit k <;> simp
    have := (dif_bit F S k).mpr ⟨a, b⟩
    rw [hx] at this; cases this
theorem lrunK {κ σ β : Type} (L : κ → Nat → Nat → σ → β) (n : Nat) (out : κ → σ → β) (I : Nat → σ → Prop)
    (hs : ∀ i s, i < n → I i s → ∃ s', I (i + 1) s' ∧ ∀ c f, L c (f + 1) i s = L c f (i + 1) s') (hd : ∀ c f s, I n s → L c (f + 1) n s = out c s) :
    ∀ k i s f, i + k = n → k < f → I i s → ∃ s', I n s' ∧ ∀ c, L c f i s = out c s' := by
  intro k
  induction k with
  | zero =>
    intro i s f hi hf h
    obtain ⟨f, rfl⟩ : ∃ q, f = q + 1 := ⟨f - 1, by omega⟩
    have e : i = n := by omega
    subst e
    exact ⟨s, h, fun c => hd c f s h⟩
  | succ k ih =>
    intro i s f hi hf h
    obtain ⟨f, rfl⟩ : ∃ q, f = q + 1 := ⟨f - 1, by omega⟩
    obtain ⟨s', h1, h2⟩ := hs i s (by omega) h
    obtain ⟨s2, h3, h4⟩ := ih (i + 1) s' f (by omega) (by omega) h1
    exact ⟨s2, h3, fun c => by rw [h2 c f, h4 c]⟩
section FILL
variable {w : Wd} {n : Nat} {T : Nat → Nat → Nat} {iv : Nat → Nat} {v : Nat → Int32} {H : List (Nat × Int32)}
def filS (n : Nat) (T : Nat → Nat → Nat) (e F : Nat) : Nat := if !F.testBit e && fr n T (F ||| 2 ^ e) then F ||| 2 ^ e else F
def filF (n : Nat) (T : Nat → Nat → Nat) (S : Nat) : Nat := rng (filS n T) 0 n S
def filI (n : Nat) (T : Nat → Nat → Nat) (S : Nat) (_ F : Nat) : Prop := fr n T F = true ∧ F < 2 ^ n ∧ ∀ x, S.testBit x = true → F.testBit x = true
theorem filS_ok {S i F : Nat} (hi : i < n) (h : filI n T S i F) : filI n T S (i + 1) (filS n T i F) := by
  unfold filS
  split
  next c =>
    simp only [Bool.and_eq_true] at c
    exact ⟨c.2, or2_lt h.2.1 hi, fun x hx => (sb_or _ _ _).mpr (Or.inl (h.2.2 x hx))⟩
  next => exact h
theorem c_fill (hG : GX w n T iv) (hM : GM w n T iv) (hg : Gp n T iv) (hA : ACT n w v H) : ∃ r w1 w2, f_X11_fill w = some (r, w1) ∧ f_X12_fill w1 = some (r, w2) ∧ actD n w w2 := by
  have h16 := hg.1.2
  unfold f_X11_fill f_X12_fill
  obtain ⟨S, hS, eS⟩ := act_v hA (p := 19) (by decide) (by decide)
  have hS6 := le16 hS h16
  rw [x_set hA.1, bnd_some, eS, x_isFree hG hg hS6, bnd_some]
  by_cases hf : fr n T S = true
  · have hI : filI n T S 0 S := ⟨hf, hS, fun _ h => h⟩
    have hF : filI n T S n (filF n T S) := by
      have := rng_ind (g := filS n T) (filI n T S) n 0 S hI (fun j s _ h2 h3 => filS_ok (by omega) h3)
      rw [Nat.zero_add] at this; exact this
    have kx := lup (fun f i (F : Nat) => f_X11_fill_L25 f (nI S) (nI F) (nI i) w) n (filS n T) (fun F => bnd2 (f_X0_change 19 (nI F) w) fun x1 w2 => if x1 = 0 then some ((-1), w2) else some ((f_J6_bitCount_0f7a4 (nI F &&& (nI S ^^^ (-1)))), w2)) (filI n T S) ?_ (fun i s hi h => filS_ok hi h) ?_ n 0 S FU (by omega) (FU_big (by omega)) hI
    · obtain ⟨w1, h1, h2, h3, h4⟩ := act_both hA (p := 19) (by omega) (pok_set (by omega) hF.2.1) (fun _ _ => rfl) rfl
      obtain ⟨w2, g1, g2, g3⟩ := h4 w1 (fun _ _ => rfl) rfl
      obtain ⟨hM1, e44, e54, e55⟩ := GM_of hM h2
      have hY := AM_cong hA.2.1 e54 e55 (by rw [e44])
      have ky := lup (fun f i (F : Nat) => f_X12_fill_L24 f (nI F) (nI i) w1) n (filS n T) (fun F => bnd (f_X12_ones (nI F)) fun x1 => bnd (f_X12_ones (nI S)) fun x3 => bnd2 (f_X12_changes 0 (nI F) w1) fun x4 w5 => if x4 = (-1) then some ((-1), w5) else some ((x1 - x3), w5)) (filI n T S) ?_ (fun i s hi h => filS_ok hi h) ?_ n 0 S FU (by omega) (FU_big (by omega)) hI
      · have hp := pc_dif hF.2.2
        rw [eS] at h1 g1
        refine ⟨if nI S = nI (filF n T S) then (-1) else nI (pc (filF n T S) - pc S), w1, w2, ?_, ?_, g2⟩
        · rw [hf, if_pos rfl, if_neg one_ne]
          refine kx.1.trans ?_
          show bnd2 (f_X0_change (nI 19) (nI (filF n T S)) w) (fun x1 w2 => if x1 = 0 then some ((-1), w2) else some ((f_J6_bitCount_0f7a4 (nI (filF n T S) &&& (nI S ^^^ (-1)))), w2)) = _
          rw [h1, bnd2_some, m_compl (lt31 (le16 hF.2.1 h16)), x_pc (dif_lt (le16 hF.2.1 h16))]
          by_cases c : nI S = nI (filF n T S)
          · simp only [c, ↓reduceIte]
          · simp only [c, ↓reduceIte, one_ne]
            rw [show pc (filF n T S ^^^ (filF n T S &&& S)) = pc (filF n T S) - pc S by omega]
        · rw [y_row0 hY, eS, y_isFree hM1 hg hS, bnd_some, hf, if_pos rfl, if_neg one_ne, y_row0 hY, eS]
          refine ky.1.trans ?_
          show bnd (f_X12_ones (nI (filF n T S))) _ = _
          rw [y_ones (le16 hF.2.1 h16), bnd_some, y_ones hS6, bnd_some]
          show bnd2 (f_X12_changes (nI (sg 19)) (nI (filF n T S)) w1) _ = _
          rw [g1, bnd2_some]
          by_cases c : nI S = nI (filF n T S)
          · simp only [c, ↓reduceIte]
          · rw [if_neg c, if_neg c, if_neg (nI_ne1 (lt31 hS6)), pk_sub (by omega)]
      · intro f i F hi h
        have hF6 := le16 h.2.1 h16
        show f_X12_fill_B24b (f_X12_fill_L24 f) (nI F) (nI i) w1 = _
        unfold f_X12_fill_B24b
        rw [hM1.1, if_neg (nI_ge hi (by omega))]
        unfold filS
        cases hb : F.testBit i with
        | true => rw [if_neg (by rw [y_has0 (lt31 hF6) (by omega), hb]; decide), nI_1]; simp
        | false =>
          rw [if_pos ((y_has0 (lt31 hF6) (by omega)).mpr hb), m_shl1 (by omega), m_or, y_isFree hM1 hg (or2_lt h.2.1 hi), bnd_some, nI_1]
          cases hq : fr n T (F ||| 2 ^ i) <;> simp [one_ne]
      · intro f F h
        show f_X12_fill_B24b (f_X12_fill_L24 f) (nI F) (nI n) w1 = _
        unfold f_X12_fill_B24b
        rw [hM1.1, if_pos (nI_le (Nat.le_refl _) (by omega))]
        congr 1
        funext x1
        rw [y_row0 hY, eS]
    · intro f i F hi h
      have hF6 := le16 h.2.1 h16
      show f_X11_fill_B25b (f_X11_fill_L25 f) (nI S) (nI F) (nI i) w = _
      unfold f_X11_fill_B25b
      rw [hG.1, if_neg (nI_ge hi (by omega))]
      unfold filS
      cases hb : F.testBit i with
      | true => rw [if_neg (by rw [x_bit0 (lt31 hF6) (by omega), hb]; decide), nI_1]; simp
      | false =>
        rw [if_pos ((x_bit0 (lt31 hF6) (by omega)).mpr hb), x_stays hG hg hF6 hi h.1, bnd_some, m_shl1 (by omega), m_or, nI_1]
        cases hq : fr n T (F ||| 2 ^ i) <;> simp [one_ne]
    · intro f F h
      show f_X11_fill_B25b (f_X11_fill_L25 f) (nI S) (nI F) (nI n) w = _
      unfold f_X11_fill_B25b
      rw [hG.1, if_pos (nI_le (Nat.le_refl _) (by omega))]
  · have hf' : fr n T S = false := by simpa using hf
    refine ⟨-1, w, w, by rw [hf']; rfl, ?_, actD_rfl hA⟩
    rw [y_row0 hA.2.1, eS, y_isFree hM hg hS, bnd_some, hf']; rfl
/-! thin -/
def addc (c : Nat → Nat) (M : Nat) : Nat → Nat := fun e => c e + if M.testBit e then 1 else 0
def m3 (T : Nat → Nat → Nat) (x y : Nat) : Nat := 2 ^ x ||| 2 ^ y ||| 2 ^ T x y
def tyS (T : Nat → Nat → Nat) (S x y : Nat) (c : Nat → Nat) : Nat → Nat := if tri T S x y then addc c (m3 T x y) else c
def tyY (n : Nat) (T : Nat → Nat → Nat) (S x : Nat) (c : Nat → Nat) : Nat → Nat := rng (tyS T S x) 0 n c
def tyT (n : Nat) (T : Nat → Nat → Nat) (S : Nat) : Nat → Nat := rng (tyY n T S) 0 n (fun _ => 0)
def bsy (n : Nat) (c : Nat → Nat) : Nat := rng (fun e b => if c b < c e then e else b) 1 (n - 1) 0
theorem m3_lt (hg : Gp n T iv) {x y : Nat} (hx : x < n) (hy : y < n) : m3 T x y < 2 ^ n := Nat.or_lt_two_pow (Nat.or_lt_two_pow (Nat.pow_lt_pow_right (by decide) hx) (Nat.pow_lt_pow_right (by decide) hy)) (Nat.pow_lt_pow_right (by decide) (hg.2.1 x y hx hy))
theorem m3_bit {x y e : Nat} : (m3 T x y).testBit e = true ↔ x = e ∨ y = e ∨ T x y = e := by
  unfold m3
  rw [Nat.testBit_or, Nat.testBit_or, Bool.or_eq_true, Bool.or_eq_true, two_bit, two_bit, two_bit, or_assoc]
theorem tyS_le {S x y e : Nat} {c : Nat → Nat} : tyS T S x y c e ≤ c e + 1 := by
  unfold tyS addc; split
  · dsimp only; split <;> omega
  · omega
theorem tyS_ge {S x y e : Nat} {c : Nat → Nat} : c e ≤ tyS T S x y c e := by
  unfold tyS addc; split
  · dsimp only; omega
  · omega
theorem tyY_le {S x e : Nat} {c : Nat → Nat} : tyY n T S x c e ≤ c e + n := by
  have := rng_ind (g := tyS T S x) (fun i s => s e ≤ c e + i) n 0 c (by omega) (fun j s _ _ h => Nat.le_trans tyS_le (by omega))
  rw [Nat.zero_add] at this; exact this
theorem tyT_le {S e : Nat} : tyT n T S e ≤ n * n := by
  have := rng_ind (g := tyY n T S) (fun i s => s e ≤ i * n) n 0 (fun _ => 0) (by omega) (fun j s _ _ h => Nat.le_trans tyY_le (by rw [Nat.succ_mul]; omega))
  rw [Nat.zero_add] at this; exact this
theorem tyT_in {S e : Nat} (h : 0 < tyT n T S e) : S.testBit e = true := by
  have st : ∀ x y c, (∀ e, 0 < c e → S.testBit e = true) → ∀ e, 0 < tyS T S x y c e → S.testBit e = true := by
    intro x y c hc e he
    unfold tyS at he
    split at he
    next q =>
      unfold tri at q
      simp only [Bool.and_eq_true] at q
      unfold addc at he
      by_cases b : (m3 T x y).testBit e = true
      · rcases m3_bit.mp b with r | r | r
        · rw [← r]; exact q.1.1
        · rw [← r]; exact q.1.2
        · rw [← r]; exact q.2
      · rw [if_neg b] at he; exact hc e he
    next => exact hc e he
  have := rng_ind (g := tyY n T S) (fun _ s => ∀ e, 0 < s e → S.testBit e = true) n 0 (fun _ => 0) (fun e h => by simp at h) (fun x s _ _ hs => by
    have := rng_ind (g := tyS T S x) (fun _ s => ∀ e, 0 < s e → S.testBit e = true) n 0 s hs (fun y s _ _ h => st x y s h)
    exact this)
  exact this e h
theorem tyY_ge {S x e : Nat} {c : Nat → Nat} : c e ≤ tyY n T S x c e := by
  have := rng_ind (g := tyS T S x) (fun i s => c e ≤ s e) n 0 c (Nat.le_refl _) (fun j s _ _ h => Nat.le_trans h tyS_ge)
  exact this
theorem tyT_pos {S x y : Nat} (hx : x < n) (hy : y < n) (h : tri T S x y = true) : 0 < tyT n T S x := by
  have := rng_ind (g := tyY n T S) (fun i s => x < i → 0 < s x) n 0 (fun _ => 0) (fun q => by omega) (fun j s _ _ hs q => by
    rcases Nat.lt_or_ge x j with r | r
    · exact Nat.lt_of_lt_of_le (hs r) tyY_ge
    · have e : j = x := by omega
      subst e
      have := rng_ind (g := tyS T S j) (fun i s => y < i → 0 < s j) n 0 s (fun q => by omega) (fun k s _ _ hs q => by
        rcases Nat.lt_or_ge y k with r | r
        · exact Nat.lt_of_lt_of_le (hs r) tyS_ge
        · have e : k = y := by omega
          subst e
          unfold tyS
          rw [if_pos h]
          unfold addc
          rw [if_pos (m3_bit.mpr (Or.inl rfl))]
          omega)
      exact this (by omega))
  exact this (by omega)
theorem bsy_ok {c : Nat → Nat} (hn : 1 ≤ n) : bsy n c < n ∧ ∀ e, e < n → c e ≤ c (bsy n c) := by
  have := rng_ind (g := fun e b => if c b < c e then e else b) (fun i b => b < i ∧ ∀ e, e < i → c e ≤ c b) (n - 1) 1 0 ⟨by omega, fun e he => by rw [show e = 0 by omega]; exact Nat.le_refl _⟩ (fun j b h1 h2 h => by
    split
    next q =>
      refine ⟨by omega, fun e he => ?_⟩
      rcases Nat.lt_or_ge e j with r | r
      · have := h.2 e r; omega
      · rw [show e = j by omega]; exact Nat.le_refl _
    next q =>
      refine ⟨by omega, fun e he => ?_⟩
      rcases Nat.lt_or_ge e j with r | r
      · exact h.2 e r
      · rw [show e = j by omega]; omega)
  rw [show 1 + (n - 1) = n by omega] at this
  exact this
theorem bsy_in (hg : Gp n T iv) {S : Nat} (hf : fr n T S = false) : S.testBit (bsy n (tyT n T S)) = true ∧ bsy n (tyT n T S) < n := by
  have hb := bsy_ok (c := tyT n T S) hg.1.1
  refine ⟨?_, hb.1⟩
  apply tyT_in (n := n) (T := T)
  have : ∃ x y, x < n ∧ y < n ∧ tri T S x y = true := by
    apply Classical.byContradiction
    intro hn
    have : fr n T S = true := by
      rw [fr_iff]
      intro a b ha hb h1 h2
      cases h3 : S.testBit (T a b) with
      | false => rfl
      | true => exact absurd ⟨a, b, ha, hb, by unfold tri; simp [h1, h2, h3]⟩ hn
    rw [this] at hf; cases hf
  obtain ⟨x, y, hx, hy, h⟩ := this
  have h1 := tyT_pos hx hy h
  have h2 := hb.2 x hx
  omega
theorem x_fill43 (w : Wd) : ∃ w', f_J7_fill_53178_43 0 w = some w' ∧ (∀ k, k ≠ 43 → w'.1 k = w.1 k) ∧ w'.2 = w.2 ∧ ∀ j, j < 17 → w'.1 43 j = 0 := by
  have key := lrun (fun f i (s : Wd) => f_J7_fill_53178_43_L5 f 0 (nI i) 17 s) 17 (fun s => some s) (fun i s => (∀ k, k ≠ 43 → s.1 k = w.1 k) ∧ s.2 = w.2 ∧ ∀ j, j < i → s.1 43 j = 0) ?_ ?_ 17 0 w FU (by omega) (FU_big (by omega)) ⟨fun _ _ => rfl, rfl, fun j h => by omega⟩
  · obtain ⟨w', h1, h2⟩ := key
    exact ⟨w', h2, h1.1, h1.2.1, h1.2.2⟩
  · rintro i s hi ⟨h1, h2, h3⟩
    refine ⟨sI s 43 i 0, ⟨fun k hk => ?_, h2, fun j hj => ?_⟩, fun f => ?_⟩
    · rw [← h1 k hk]; funext j; rw [sI_at]; simp [hk]
    · rw [sI_at]
      split
      · rfl
      · next q => exact h3 j (by omega)
    · show f_J7_fill_53178_43_B5b (f_J7_fill_53178_43_L5 f) 0 (nI i) 17 s = _
      unfold f_J7_fill_53178_43_B5b
      rw [if_neg (show ¬ (17 : Int32) ≤ nI i from nI_ge (b := 17) hi (by decide)), m_wr hi (by decide), nI_1]
  · rintro f s _
    show f_J7_fill_53178_43_B5b (f_J7_fill_53178_43_L5 f) 0 (nI 17) 17 s = _
    unfold f_J7_fill_53178_43_B5b
    rw [if_pos (show (17 : Int32) ≤ nI 17 from nI_le (by decide) (by decide))]
theorem x_addT {w : Wd} (hG : w.1 6 7 = nI n) (hn : n ≤ 16) {M : Nat} (hM : M < 2 ^ 31) {c : Nat → Nat} (hc : ∀ e, e < n → w.1 43 e = nI (c e)) : ∃ w', f_X11_addToTally (nI M) w = some w' ∧ (∀ k, k ≠ 43 → w'.1 k = w.1 k) ∧ w'.2 = w.2 ∧ ∀ e, e < n → w'.1 43 e = nI (addc c M e) := by
  have key := lrun (fun f i (s : Wd) => f_X11_addToTally_L2 f (nI M) (nI i) s) n (fun s => some s) (fun i s => (∀ k, k ≠ 43 → s.1 k = w.1 k) ∧ s.2 = w.2 ∧ ∀ e, e < n → s.1 43 e = nI (if e < i then addc c M e else c e)) ?_ ?_ n 0 w FU (by omega) (FU_big (by omega)) ⟨fun _ _ => rfl, rfl, fun e h => by rw [if_neg (by omega)]; exact hc e h⟩
  · obtain ⟨w', h1, h2⟩ := key
    exact ⟨w', h2, h1.1, h1.2.1, fun e he => by rw [h1.2.2 e he, if_pos he]⟩
  · rintro i s hi ⟨h1, h2, h3⟩
    refine ⟨sI s 43 i (nI (addc c M i)), ⟨fun k hk => ?_, h2, fun e he => ?_⟩, fun f => ?_⟩
    · rw [← h1 k hk]; funext j; rw [sI_at]; simp [hk]
    · rw [sI_at]
      by_cases q : e = i
      · subst q; simp
      · rw [if_neg (fun r => q r.2), h3 e he]
        by_cases r : e < i
        · rw [if_pos r, if_pos (by omega)]
        · rw [if_neg r, if_neg (by omega)]
    · show f_X11_addToTally_B2b (f_X11_addToTally_L2 f) (nI M) (nI i) s = _
      unfold f_X11_addToTally_B2b
      rw [h1 6 (by decide), hG, if_neg (nI_ge hi (by omega)), m_rd (by omega) (by decide), m_wr (by omega) (by decide), h3 i hi, if_neg (by omega), m_bit hM (by omega), nI_add, nI_1]
      rfl
  · rintro f s ⟨h1, h2, h3⟩
    show f_X11_addToTally_B2b (f_X11_addToTally_L2 f) (nI M) (nI n) s = _
    unfold f_X11_addToTally_B2b
    rw [h1 6 (by decide), hG, if_pos (nI_le (Nat.le_refl _) (by omega))]
theorem x_busyY (hG : GX w n T iv) (hg : Gp n T iv) {S : Nat} (hS : S < 2 ^ n) {x : Nat} (hx : x < n) {c : Nat → Nat} (hc : ∀ e, e < n → w.1 43 e = nI (c e)) : ∃ w' : Wd, (∀ k10 : Int32 → Int32 → Wd → Option (Int32 × Wd), f_X11_busiest_L23 k10 FU (nI S) (nI x) (nI 0) w = k10 (nI S) (nI (x + 1)) w') ∧ (∀ k, k ≠ 43 → w'.1 k = w.1 k) ∧ w'.2 = w.2 ∧ ∀ e, e < n → w'.1 43 e = nI (tyY n T S x c e) := by
  have h16 := hg.1.2
  have h31 := lt31 (le16 hS h16)
  have key := lrunK (fun (k10 : Int32 → Int32 → Wd → Option (Int32 × Wd)) f i (s : Wd × (Nat → Nat)) => f_X11_busiest_L23 k10 f (nI S) (nI x) (nI i) s.1) n (fun k10 s => k10 (nI S) (nI (x + 1)) s.1) (fun i s => (∀ k, k ≠ 43 → s.1.1 k = w.1 k) ∧ s.1.2 = w.2 ∧ (∀ e, e < n → s.1.1 43 e = nI (s.2 e)) ∧ s.2 = rng (tyS T S x) 0 i c) ?_ ?_ n 0 (w, c) FU (by omega) (FU_big (by omega)) ⟨fun _ _ => rfl, rfl, hc, rfl⟩
  · obtain ⟨⟨w', c'⟩, h1, h2⟩ := key
    refine ⟨w', h2, h1.1, h1.2.1, fun e he => ?_⟩
    have h5 : c' = tyY n T S x c := h1.2.2.2
    rw [← h5]; exact h1.2.2.1 e he
  · rintro i ⟨w1, c1⟩ hi ⟨h1, h2, h3, h4⟩
    have hG1 : GX w1 n T iv := GX_cong hG (h1 6 (by decide)) (h1 9 (by decide)) (h1 10 (by decide))
    have hT := hg.2.1 x i hx hi
    have hm := m3_lt hg hx hi
    have e4 : ∀ q : Nat → Nat, q = tyS T S x i c1 → q = rng (tyS T S x) 0 (i + 1) c := fun q hq => by
      rw [rng_succ, Nat.zero_add, ← h4]; exact hq
    by_cases t : tri T S x i = true
    · obtain ⟨w2, g1, g2, g3, g4⟩ := x_addT hG1.1 h16 (lt31 (le16 hm h16)) h3
      refine ⟨(w2, addc c1 (m3 T x i)), ⟨fun k hk => (g2 k hk).trans (h1 k hk), g3.trans h2, g4, e4 _ (by unfold tyS; rw [if_pos t])⟩, fun k10 f => ?_⟩
      show f_X11_busiest_B23b k10 (f_X11_busiest_L23 k10 f) (nI S) (nI x) (nI i) w1 = _
      unfold f_X11_busiest_B23b
      rw [hG1.1, if_neg (nI_ge hi (by omega)), x_isTriple hG1 hg h31 hx hi, bnd_some, t, if_pos rfl, if_neg one_ne, x_times hG1 hg hx hi, bnd_some, m_shl1 (by omega), m_shl1 (by omega), m_shl1 (by omega), m_or, m_or]
      show bnd (f_X11_addToTally (nI (m3 T x i)) w1) _ = _
      rw [g1, bnd_some, nI_1]
    · refine ⟨(w1, c1), ⟨h1, h2, h3, e4 _ (by unfold tyS; rw [if_neg t])⟩, fun k10 f => ?_⟩
      show f_X11_busiest_B23b k10 (f_X11_busiest_L23 k10 f) (nI S) (nI x) (nI i) w1 = _
      unfold f_X11_busiest_B23b
      rw [hG1.1, if_neg (nI_ge hi (by omega)), x_isTriple hG1 hg h31 hx hi, bnd_some, if_neg t, if_pos rfl, nI_1]
  · rintro k10 f ⟨w1, c1⟩ ⟨h1, h2, h3, h4⟩
    show f_X11_busiest_B23b k10 (f_X11_busiest_L23 k10 f) (nI S) (nI x) (nI n) w1 = _
    unfold f_X11_busiest_B23b
    rw [h1 6 (by decide), hG.1, if_pos (nI_le (Nat.le_refl _) (by omega)), nI_1]
theorem x_busy {w : Wd} (hG : GX w n T iv) (hg : Gp n T iv) {S : Nat} (hS : S < 2 ^ n) : ∃ w', f_X11_busiest (nI S) w = some (nI (bsy n (tyT n T S)), w') ∧ (∀ k, k ≠ 43 → w'.1 k = w.1 k) ∧ w'.2 = w.2 := by
  have h16 := hg.1.2
  have h1n := hg.1.1
  unfold f_X11_busiest
  obtain ⟨w0, a1, a2, a3, a4⟩ := x_fill43 w
  rw [a1, bnd_some]
  have key := lrun (fun f i (s : Wd × (Nat → Nat)) => f_X11_busiest_L10 f (nI S) (nI i) s.1) n (fun s => f_X11_busiest_L90 FU 0 1 s.1) (fun i s => (∀ k, k ≠ 43 → s.1.1 k = w.1 k) ∧ s.1.2 = w.2 ∧ (∀ e, e < n → s.1.1 43 e = nI (s.2 e)) ∧ s.2 = rng (tyY n T S) 0 i (fun _ => 0)) ?_ ?_ n 0 (w0, fun _ => 0) FU (by omega) (FU_big (by omega)) ⟨a2, a3, fun e he => a4 e (by omega), rfl⟩
  · obtain ⟨⟨w', c'⟩, ⟨h1, h2, h3, h4⟩, h5⟩ := key
    have h4 : c' = tyT n T S := h4
    subst h4
    have hcb : ∀ e, tyT n T S e < 2 ^ 31 := fun e => by
      have h1 := tyT_le (n := n) (T := T) (S := S) (e := e)
      have h2 : n * n ≤ 16 * 16 := Nat.mul_le_mul h16 h16
      omega
    refine ⟨w', h5.trans ?_, h1, h2⟩
    have key := lup (fun f i (b : Nat) => f_X11_busiest_L90 f (nI b) (nI i) w') n (fun e b => if tyT n T S b < tyT n T S e then e else b) (fun b => some (nI b, w')) (fun _ b => b < n) ?_ (fun i b hi hb => by split <;> omega) ?_ (n - 1) 1 0 FU (by omega) (FU_big (by omega)) (by omega)
    · exact key.1
    · intro f i b hi hb
      show f_X11_busiest_B90b (f_X11_busiest_L90 f) (nI b) (nI i) w' = _
      unfold f_X11_busiest_B90b
      dsimp only at h3 h1
      rw [h1 6 (by decide), hG.1, if_neg (nI_ge hi (by omega)), m_rd (by omega) (by decide), m_rd (by omega) (by decide), h3 i hi, h3 b hb, nI_1]
      simp only [m_le (hcb i) (hcb b)]
      by_cases c : tyT n T S i ≤ tyT n T S b
      · rw [if_pos c, if_neg (by omega)]
      · rw [if_neg c, if_pos (by omega)]
    · intro f b hb
      show f_X11_busiest_B90b (f_X11_busiest_L90 f) (nI b) (nI n) w' = _
      unfold f_X11_busiest_B90b
      dsimp only at h1
      rw [h1 6 (by decide), hG.1, if_pos (nI_le (Nat.le_refl _) (by omega))]
  · rintro i ⟨w1, c1⟩ hi ⟨h1, h2, h3, h4⟩
    have hG1 : GX w1 n T iv := GX_cong hG (h1 6 (by decide)) (h1 9 (by decide)) (h1 10 (by decide))
    obtain ⟨w2, g5, g2, g3, g4⟩ := x_busyY hG1 hg hS hi h3
    refine ⟨(w2, tyY n T S i c1), ⟨fun k hk => (g2 k hk).trans (h1 k hk), g3.trans h2, g4, ?_⟩, fun f => ?_⟩
    · rw [rng_succ, Nat.zero_add, ← h4]
    · show f_X11_busiest_B10b (f_X11_busiest_L10 f) (nI S) (nI i) w1 = _
      unfold f_X11_busiest_B10b
      rw [hG1.1, if_neg (nI_ge hi (by omega))]
      exact g5 (f_X11_busiest_L10 f)
  · rintro f ⟨w1, c1⟩ ⟨h1, h2, h3, h4⟩
    show f_X11_busiest_B10b (f_X11_busiest_L10 f) (nI S) (nI n) w1 = _
    unfold f_X11_busiest_B10b
    rw [h1 6 (by decide), hG.1, if_pos (nI_le (Nat.le_refl _) (by omega))]
/-! the reference's count -/
theorem y_mostZ {w : Wd} (hM : w.1 44 1 = nI n) (hn : n ≤ 16) (S : Int32) : ∃ w', f_X12_mostIn_L2 FU S (nI 0) w = f_X12_mostIn_L25 FU S 0 w' ∧ (∀ k, k ≠ 56 → w'.1 k = w.1 k) ∧ w'.2 = w.2 ∧ ∀ e, e < n → w'.1 56 e = nI 0 := by
  have key := lrun (fun f i (s : Wd) => f_X12_mostIn_L2 f S (nI i) s) n (fun s => f_X12_mostIn_L25 FU S 0 s) (fun i s => (∀ k, k ≠ 56 → s.1 k = w.1 k) ∧ s.2 = w.2 ∧ ∀ j, j < i → s.1 56 j = nI 0) ?_ ?_ n 0 w FU (by omega) (FU_big (by omega)) ⟨fun _ _ => rfl, rfl, fun j h => by omega⟩
  · obtain ⟨w', h1, h2⟩ := key
    exact ⟨w', h2, h1.1, h1.2.1, h1.2.2⟩
  · rintro i s hi ⟨h1, h2, h3⟩
    refine ⟨sI s 56 i 0, ⟨fun k hk => ?_, h2, fun j hj => ?_⟩, fun f => ?_⟩
    · rw [← h1 k hk]; funext j; rw [sI_at]; simp [hk]
    · rw [sI_at]
      split
      · rfl
      · next q => exact h3 j (by omega)
    · show f_X12_mostIn_B2b (f_X12_mostIn_L2 f) S (nI i) s = _
      unfold f_X12_mostIn_B2b
      rw [h1 44 (by decide), hM, if_neg (nI_ge hi (by omega)), m_wr (by omega) (by decide), nI_1]
  · rintro f s ⟨h1, h2, h3⟩
    show f_X12_mostIn_B2b (f_X12_mostIn_L2 f) S (nI n) s = _
    unfold f_X12_mostIn_B2b
    rw [h1 44 (by decide), hM, if_pos (nI_le (Nat.le_refl _) (by omega))]
theorem y_addT {w : Wd} (hG : w.1 44 1 = nI n) (hn : n ≤ 16) {M : Nat} (hM : M < 2 ^ 31) {c : Nat → Nat} (hc : ∀ e, e < n → w.1 56 e = nI (c e)) (S x : Int32) (y : Nat) : ∃ w' : Wd, (∀ (q : (Int32 → Int32 → Wd → Option (Int32 × Wd)) × (Int32 → Int32 → Int32 → Wd → Option (Int32 × Wd))), f_X12_mostIn_L96 q.1 q.2 FU S x (nI y) (nI M) (nI 0) w = q.2 S x (nI (y + 1)) w') ∧ (∀ k, k ≠ 56 → w'.1 k = w.1 k) ∧ w'.2 = w.2 ∧ ∀ e, e < n → w'.1 56 e = nI (addc c M e) := by
  have key := lrunK (fun (q : (Int32 → Int32 → Wd → Option (Int32 × Wd)) × (Int32 → Int32 → Int32 → Wd → Option (Int32 × Wd))) f i (s : Wd) => f_X12_mostIn_L96 q.1 q.2 f S x (nI y) (nI M) (nI i) s) n (fun q s => q.2 S x (nI (y + 1)) s) (fun i s => (∀ k, k ≠ 56 → s.1 k = w.1 k) ∧ s.2 = w.2 ∧ ∀ e, e < n → s.1 56 e = nI (if e < i then addc c M e else c e)) ?_ ?_ n 0 w FU (by omega) (FU_big (by omega)) ⟨fun _ _ => rfl, rfl, fun e h => by rw [if_neg (by omega)]; exact hc e h⟩
  · obtain ⟨w', h1, h2⟩ := key
    exact ⟨w', h2, h1.1, h1.2.1, fun e he => by rw [h1.2.2 e he, if_pos he]⟩
  · rintro i s hi ⟨h1, h2, h3⟩
    cases b : M.testBit i with
    | true =>
      refine ⟨sI s 56 i (nI (addc c M i)), ⟨fun k hk => ?_, h2, fun e he => ?_⟩, fun q f => ?_⟩
      · rw [← h1 k hk]; funext j; rw [sI_at]; simp [hk]
      · rw [sI_at]
        by_cases q : e = i
        · subst q; simp
        · rw [if_neg (fun r => q r.2), h3 e he]
          by_cases r : e < i
          · rw [if_pos r, if_pos (by omega)]
          · rw [if_neg r, if_neg (by omega)]
      · show f_X12_mostIn_B96b q.1 q.2 (f_X12_mostIn_L96 q.1 q.2 f) S x (nI y) (nI M) (nI i) s = _
        unfold f_X12_mostIn_B96b
        rw [h1 44 (by decide), hG, if_neg (nI_ge hi (by omega)), if_neg (by rw [y_has0 hM (by omega), b]; decide), m_rd (by omega) (by decide), m_wr (by omega) (by decide), h3 i hi, if_neg (by omega), nI_1, nI_1]
        unfold addc
        rw [if_pos b]
    | false =>
      refine ⟨s, ⟨h1, h2, fun e he => ?_⟩, fun q f => ?_⟩
      · rw [h3 e he]
        by_cases r : e < i
        · rw [if_pos r, if_pos (by omega)]
        · rw [if_neg r]
          by_cases t : e = i
          · subst t; rw [if_pos (by omega)]; unfold addc; rw [b]; rfl
          · rw [if_neg (by omega)]
      · show f_X12_mostIn_B96b q.1 q.2 (f_X12_mostIn_L96 q.1 q.2 f) S x (nI y) (nI M) (nI i) s = _
        unfold f_X12_mostIn_B96b
        rw [h1 44 (by decide), hG, if_neg (nI_ge hi (by omega)), if_pos ((y_has0 hM (by omega)).mpr b), nI_1]
  · rintro q f s ⟨h1, h2, h3⟩
    show f_X12_mostIn_B96b q.1 q.2 (f_X12_mostIn_L96 q.1 q.2 f) S x (nI y) (nI M) (nI n) s = _
    unfold f_X12_mostIn_B96b
    rw [h1 44 (by decide), hG, if_pos (nI_le (Nat.le_refl _) (by omega)), nI_1]
theorem y_mostY {w : Wd} (hM : GM w n T iv) (hg : Gp n T iv) {S : Nat} (hS : S < 2 ^ n) {x : Nat} (hx : x < n) {c : Nat → Nat} (hc : ∀ e, e < n → w.1 56 e = nI (c e)) : ∃ w' : Wd, (∀ k25 : Int32 → Int32 → Wd → Option (Int32 × Wd), f_X12_mostIn_L35 k25 FU (nI S) (nI x) (nI 0) w = k25 (nI S) (nI (x + 1)) w') ∧ (∀ k, k ≠ 56 → w'.1 k = w.1 k) ∧ w'.2 = w.2 ∧ ∀ e, e < n → w'.1 56 e = nI (tyY n T S x c e) := by
  have h16 := hg.1.2
  have h31 := lt31 (le16 hS h16)
  have key := lrunK (fun (k25 : Int32 → Int32 → Wd → Option (Int32 × Wd)) f i (s : Wd × (Nat → Nat)) => f_X12_mostIn_L35 k25 f (nI S) (nI x) (nI i) s.1) n (fun k25 s => k25 (nI S) (nI (x + 1)) s.1) (fun i s => (∀ k, k ≠ 56 → s.1.1 k = w.1 k) ∧ s.1.2 = w.2 ∧ (∀ e, e < n → s.1.1 56 e = nI (s.2 e)) ∧ s.2 = rng (tyS T S x) 0 i c) ?_ ?_ n 0 (w, c) FU (by omega) (FU_big (by omega)) ⟨fun _ _ => rfl, rfl, hc, rfl⟩
  · obtain ⟨⟨w', c'⟩, h1, h2⟩ := key
    refine ⟨w', h2, h1.1, h1.2.1, fun e he => ?_⟩
    have h5 : c' = tyY n T S x c := h1.2.2.2
    rw [← h5]; exact h1.2.2.1 e he
  · rintro i ⟨w1, c1⟩ hi ⟨h1, h2, h3, h4⟩
    have hM1 : GM w1 n T iv := GM_cong hM (by rw [h1 44 (by decide)]) (h1 47 (by decide)) (h1 48 (by decide)) (h1 49 (by decide))
    have hT := hg.2.1 x i hx hi
    have hm := m3_lt hg hx hi
    have e4 : ∀ q : Nat → Nat, q = tyS T S x i c1 → q = rng (tyS T S x) 0 (i + 1) c := fun q hq => by
      rw [rng_succ, Nat.zero_add, ← h4]; exact hq
    by_cases t : tri T S x i = true
    · obtain ⟨w2, g1, g2, g3, g4⟩ := y_addT hM1.1 h16 (lt31 (le16 hm h16)) h3 (nI S) (nI x) i
      refine ⟨(w2, addc c1 (m3 T x i)), ⟨fun k hk => (g2 k hk).trans (h1 k hk), g3.trans h2, g4, e4 _ (by unfold tyS; rw [if_pos t])⟩, fun k25 f => ?_⟩
      unfold tri at t
      simp only [Bool.and_eq_true] at t
      show f_X12_mostIn_B35b k25 (f_X12_mostIn_L35 k25 f) (nI S) (nI x) (nI i) w1 = _
      unfold f_X12_mostIn_B35b
      rw [hM1.1, if_neg (nI_ge hi (by omega)), y_prod hM1 hg hx hi, bnd_some, if_neg (by rw [y_has0 h31 (by omega), t.1.1]; decide), if_neg (by rw [y_has0 h31 (by omega), t.1.2]; decide), if_neg (by rw [y_has0 h31 (by omega), t.2]; decide), m_shl1 (by omega), m_shl1 (by omega), m_shl1 (by omega), m_or, m_or]
      exact g1 (k25, f_X12_mostIn_L35 k25 f)
    · refine ⟨(w1, c1), ⟨h1, h2, h3, e4 _ (by unfold tyS; rw [if_neg t])⟩, fun k25 f => ?_⟩
      show f_X12_mostIn_B35b k25 (f_X12_mostIn_L35 k25 f) (nI S) (nI x) (nI i) w1 = _
      unfold f_X12_mostIn_B35b
      rw [hM1.1, if_neg (nI_ge hi (by omega)), y_prod hM1 hg hx hi, bnd_some, nI_1]
      simp only [y_has0 h31 (show x < 31 by omega), y_has0 h31 (show i < 31 by omega), y_has0 h31 (show T x i < 31 by omega)]
      unfold tri at t
      cases a : S.testBit x <;> cases b : S.testBit i <;> cases d : S.testBit (T x i) <;> simp [a, b, d] at t ⊢
  · rintro k25 f ⟨w1, c1⟩ ⟨h1, h2, h3, h4⟩
    show f_X12_mostIn_B35b k25 (f_X12_mostIn_L35 k25 f) (nI S) (nI x) (nI n) w1 = _
    unfold f_X12_mostIn_B35b
    rw [h1 44 (by decide), hM.1, if_pos (nI_le (Nat.le_refl _) (by omega)), nI_1]
theorem y_most {w : Wd} (hM : GM w n T iv) (hg : Gp n T iv) {S : Nat} (hS : S < 2 ^ n) : ∃ w', f_X12_mostIn (nI S) w = some (nI (bsy n (tyT n T S)), w') ∧ (∀ k, k ≠ 56 → w'.1 k = w.1 k) ∧ w'.2 = w.2 := by
  have h16 := hg.1.2
  have h1n := hg.1.1
  unfold f_X12_mostIn
  obtain ⟨w0, a1, a2, a3, a4⟩ := y_mostZ hM.1 h16 (nI S)
  refine (show ∃ w', f_X12_mostIn_L2 FU (nI S) (nI 0) w = some (nI (bsy n (tyT n T S)), w') ∧ (∀ k, k ≠ 56 → w'.1 k = w.1 k) ∧ w'.2 = w.2 from ?_)
  rw [a1]
  have key := lrun (fun f i (s : Wd × (Nat → Nat)) => f_X12_mostIn_L25 f (nI S) (nI i) s.1) n (fun s => f_X12_mostIn_L148 FU 0 1 s.1) (fun i s => (∀ k, k ≠ 56 → s.1.1 k = w.1 k) ∧ s.1.2 = w.2 ∧ (∀ e, e < n → s.1.1 56 e = nI (s.2 e)) ∧ s.2 = rng (tyY n T S) 0 i (fun _ => 0)) ?_ ?_ n 0 (w0, fun _ => 0) FU (by omega) (FU_big (by omega)) ⟨a2, a3, a4, rfl⟩
  · obtain ⟨⟨w', c'⟩, ⟨h1, h2, h3, h4⟩, h5⟩ := key
    have h4 : c' = tyT n T S := h4
    subst h4
    have hcb : ∀ e, tyT n T S e < 2 ^ 31 := fun e => by
      have h1 := tyT_le (n := n) (T := T) (S := S) (e := e)
      have h2 : n * n ≤ 16 * 16 := Nat.mul_le_mul h16 h16
      omega
    refine ⟨w', h5.trans ?_, h1, h2⟩
    have key := lup (fun f i (b : Nat) => f_X12_mostIn_L148 f (nI b) (nI i) w') n (fun e b => if tyT n T S b < tyT n T S e then e else b) (fun b => some (nI b, w')) (fun _ b => b < n) ?_ (fun i b hi hb => by split <;> omega) ?_ (n - 1) 1 0 FU (by omega) (FU_big (by omega)) (by omega)
    · exact key.1
    · intro f i b hi hb
      show f_X12_mostIn_B148b (f_X12_mostIn_L148 f) (nI b) (nI i) w' = _
      unfold f_X12_mostIn_B148b
      dsimp only at h3 h1
      rw [h1 44 (by decide), hM.1, if_neg (nI_ge hi (by omega)), m_rd (by omega) (by decide), m_rd (by omega) (by decide), h3 i hi, h3 b hb, nI_1]
      simp only [m_le (hcb i) (hcb b)]
      by_cases c : tyT n T S i ≤ tyT n T S b
      · rw [if_pos c, if_neg (by omega)]
      · rw [if_neg c, if_pos (by omega)]
    · intro f b hb
      show f_X12_mostIn_B148b (f_X12_mostIn_L148 f) (nI b) (nI n) w' = _
      unfold f_X12_mostIn_B148b
      dsimp only at h1
      rw [h1 44 (by decide), hM.1, if_pos (nI_le (Nat.le_refl _) (by omega))]
  · rintro i ⟨w1, c1⟩ hi ⟨h1, h2, h3, h4⟩
    have hM1 : GM w1 n T iv := GM_cong hM (by rw [h1 44 (by decide)]) (h1 47 (by decide)) (h1 48 (by decide)) (h1 49 (by decide))
    obtain ⟨w2, g5, g2, g3, g4⟩ := y_mostY hM1 hg hS hi h3
    refine ⟨(w2, tyY n T S i c1), ⟨fun k hk => (g2 k hk).trans (h1 k hk), g3.trans h2, g4, ?_⟩, fun f => ?_⟩
    · rw [rng_succ, Nat.zero_add, ← h4]
    · show f_X12_mostIn_B25b (f_X12_mostIn_L25 f) (nI S) (nI i) w1 = _
      unfold f_X12_mostIn_B25b
      rw [hM1.1, if_neg (nI_ge hi (by omega))]
      exact g5 (f_X12_mostIn_L25 f)
  · rintro f ⟨w1, c1⟩ ⟨h1, h2, h3, h4⟩
    show f_X12_mostIn_B25b (f_X12_mostIn_L25 f) (nI S) (nI n) w1 = _
    unfold f_X12_mostIn_B25b
    rw [h1 44 (by decide), hM.1, if_pos (nI_le (Nat.le_refl _) (by omega))]
def thn (n : Nat) (T : Nat → Nat → Nat) : Nat → Nat → Nat
  | 0, S => S
  | k + 1, S => if fr n T S then S else thn n T k (S ^^^ (S &&& 2 ^ bsy n (tyT n T S)))
theorem pc_out {S b : Nat} (hb : b < 16) (h : S.testBit b = true) : pc (S ^^^ (S &&& 2 ^ b)) + 1 = pc S := by
  have := pc_dif (S := 2 ^ b) (F := S) (fun x hx => by rw [← (two_bit b x).mp hx]; exact h)
  have h1 : pc (2 ^ b) = 1 := (by decide +kernel : ∀ b, b < 16 → pc (2 ^ b) = 1) b hb
  omega
theorem pc_nil {S : Nat} (hS : S < 2 ^ 16) (h : pc S = 0) : S = 0 := by
  have := pc_sub_eq (A := 0) (B := S) hS (fun x hx => by simp at hx) (by rw [h]; exact pc_zero)
  exact this.symm
theorem fr_zero : fr n T 0 = true := by rw [fr_iff]; intro a b _ _ h; simp at h
theorem thn_sub : ∀ k S x, (thn n T k S).testBit x = true → S.testBit x = true
  | 0, S, x, h => h
  | k + 1, S, x, h => by
    simp only [thn] at h
    split at h
    · exact h
    · exact ((dif_bit _ _ _).mp (thn_sub k _ x h)).1
theorem x_thin_loop (hg : Gp n T iv) {S0 : Nat} : ∀ m S step w f, GX w n T iv → S < 2 ^ n → pc S ≤ m → pc S + step ≤ 16 → m < f → ∃ w', f_X11_thin_L12 f (nI S0) (nI S) (nI step) w = f_X11_thin_J47 (nI S0) (nI (thn n T m S)) w' ∧ (∀ k, k ≠ 43 → w'.1 k = w.1 k) ∧ w'.2 = w.2 := by
  have h16 := hg.1.2
  intro m
  induction m with
  | zero =>
    intro S step w f hG hS hm hs hf
    obtain ⟨f, rfl⟩ : ∃ q, f = q + 1 := ⟨f - 1, by omega⟩
    have h0 := pc_nil (le16 hS h16) (by omega)
    subst h0
    refine ⟨w, ?_, fun _ _ => rfl, rfl⟩
    show f_X11_thin_B12b (f_X11_thin_L12 f) (nI S0) (nI 0) (nI step) w = _
    unfold f_X11_thin_B12b
    rw [x_isFree hG hg (by decide), fr_zero]
    simp only [↓reduceIte, bnd_some, one_ne, thn, ite_self]
  | succ m ih =>
    intro S step w f hG hS hm hs hf
    obtain ⟨f, rfl⟩ : ∃ q, f = q + 1 := ⟨f - 1, by omega⟩
    have hS6 := le16 hS h16
    by_cases c : fr n T S = true
    · refine ⟨w, ?_, fun _ _ => rfl, rfl⟩
      show f_X11_thin_B12b (f_X11_thin_L12 f) (nI S0) (nI S) (nI step) w = _
      unfold f_X11_thin_B12b
      rw [x_isFree hG hg hS6, c]
      simp only [↓reduceIte, bnd_some, one_ne, thn, ite_self, c]
    · have c' : fr n T S = false := by simpa using c
      have hb := bsy_in hg c'
      have hp := pc_out (by omega) hb.1
      obtain ⟨w1, a1, a2, a3⟩ := x_busy hG hg hS
      obtain ⟨w', g1, g2, g3⟩ := ih (S ^^^ (S &&& 2 ^ bsy n (tyT n T S))) (step + 1) w1 f (GX_cong hG (a2 6 (by decide)) (a2 9 (by decide)) (a2 10 (by decide))) (dif_lt hS) (by omega) (by omega) (by omega)
      refine ⟨w', ?_, fun k hk => (g2 k hk).trans (a2 k hk), g3.trans a3⟩
      show f_X11_thin_B12b (f_X11_thin_L12 f) (nI S0) (nI S) (nI step) w = _
      unfold f_X11_thin_B12b
      rw [if_neg (show ¬ (16 : Int32) ≤ nI step from nI_ge (b := 16) (by omega) (by decide)), x_isFree hG hg hS6, c', bnd_some, if_neg Bool.false_ne_true, if_pos rfl, a1, bnd2_some, m_shl1 (by omega), m_compl (lt31 hS6), nI_1, g1]
      simp only [thn, c', Bool.false_eq_true, ↓reduceIte]
theorem y_thin_loop (hg : Gp n T iv) : ∀ m S w f, GM w n T iv → S < 2 ^ n → pc S ≤ m → m < f → fr n T (thn n T m S) = true ∧ ∃ w', f_X12_thin_L7 f (nI S) w = f_X12_thin_B7b (fun _ _ => none) (nI (thn n T m S)) w' ∧ (∀ k, k ≠ 56 → w'.1 k = w.1 k) ∧ w'.2 = w.2 := by
  have h16 := hg.1.2
  intro m
  induction m with
  | zero =>
    intro S w f hM hS hm hf
    obtain ⟨f, rfl⟩ : ∃ q, f = q + 1 := ⟨f - 1, by omega⟩
    have h0 := pc_nil (le16 hS h16) (by omega)
    subst h0
    refine ⟨fr_zero, w, ?_, fun _ _ => rfl, rfl⟩
    show f_X12_thin_B7b (f_X12_thin_L7 f) (nI 0) w = _
    unfold f_X12_thin_B7b
    simp only [thn]
    rw [y_isFree hM hg hS, fr_zero]
    simp only [↓reduceIte, bnd_some, one_ne]
  | succ m ih =>
    intro S w f hM hS hm hf
    obtain ⟨f, rfl⟩ : ∃ q, f = q + 1 := ⟨f - 1, by omega⟩
    have hS6 := le16 hS h16
    by_cases c : fr n T S = true
    · simp only [thn, c, ↓reduceIte]
      refine ⟨trivial, w, ?_, fun _ _ => rfl, rfl⟩
      show f_X12_thin_B7b (f_X12_thin_L7 f) (nI S) w = _
      unfold f_X12_thin_B7b
      rw [y_isFree hM hg hS, c]
      simp only [↓reduceIte, bnd_some, one_ne]
    · have c' : fr n T S = false := by simpa using c
      have hb := bsy_in hg c'
      have hp := pc_out (by omega) hb.1
      obtain ⟨w1, a1, a2, a3⟩ := y_most hM hg hS
      obtain ⟨g0, w', g1, g2, g3⟩ := ih (S ^^^ (S &&& 2 ^ bsy n (tyT n T S))) w1 f (GM_cong hM (by rw [a2 44 (by decide)]) (a2 47 (by decide)) (a2 48 (by decide)) (a2 49 (by decide))) (dif_lt hS) (by omega) (by omega)
      simp only [thn, c', Bool.false_eq_true, ↓reduceIte]
      refine ⟨g0, w', ?_, fun k hk => (g2 k hk).trans (a2 k hk), g3.trans a3⟩
      show f_X12_thin_B7b (f_X12_thin_L7 f) (nI S) w = _
      conv => lhs; unfold f_X12_thin_B7b
      rw [y_isFree hM hg hS, c', bnd_some, if_neg Bool.false_ne_true, if_pos rfl, a1, bnd2_some, m_shl1 (by omega), m_compl (lt31 hS6), g1]
theorem c_thin (hG : GX w n T iv) (hM : GM w n T iv) (hg : Gp n T iv) (hA : ACT n w v H) : ∃ r w1 w2, f_X11_thin w = some (r, w1) ∧ f_X12_thin w1 = some (r, w2) ∧ actD n w w2 := by
  have h16 := hg.1.2
  unfold f_X11_thin f_X12_thin
  obtain ⟨S, hS, eS⟩ := act_v hA (p := 19) (by decide) (by decide)
  have hS6 := le16 hS h16
  have hp16 := pc_le S
  obtain ⟨wa, b1, b2, b3⟩ := x_thin_loop hg (S0 := S) 16 S 0 w FU hG hS hp16 (by omega) (FU_big (by decide))
  have hsub := thn_sub (n := n) (T := T) 16 S
  obtain ⟨R, hRd⟩ : ∃ R, R = thn n T 16 S := ⟨_, rfl⟩
  have hR : R < 2 ^ n := lt_two (fun x hx => bit_lt hS (hsub x (hRd ▸ hx)))
  rw [← hRd] at b1 hsub
  obtain ⟨w1, h1, h2, h3, h4⟩ := act_both hA (p := 19) (by omega) (pok_set (by omega) hR) b2 b3
  obtain ⟨hM1, e44, e54, e55⟩ := GM_of hM h2
  obtain ⟨d0, wb, d1, d2, d3⟩ := y_thin_loop hg 16 S w1 FU hM1 hS hp16 (FU_big (by decide))
  rw [← hRd] at d0 d1
  obtain ⟨w2, g1, g2, g3⟩ := h4 wb d2 d3
  have hY := AM_cong hA.2.1 e54 e55 (by rw [e44])
  have hYb := AM_cong hY (d2 54 (by decide)) (d2 55 (by decide)) (by rw [d2 44 (by decide)])
  have hMb := GM_cong hM1 (w' := wb) (by rw [d2 44 (by decide)]) (d2 47 (by decide)) (d2 48 (by decide)) (d2 49 (by decide))
  have hp := pc_dif hsub
  rw [eS] at h1 g1
  refine ⟨if nI S = nI R then (-1) else nI (pc S - pc R), w1, w2, ?_, ?_, g2⟩
  · rw [x_set hA.1, bnd_some, eS]
    refine b1.trans ?_
    unfold f_X11_thin_J47
    show bnd2 (f_X0_change (nI 19) (nI R) wa) _ = _
    rw [h1, bnd2_some, m_compl (lt31 hS6), x_pc (dif_lt hS6), show pc (S ^^^ (S &&& R)) = pc S - pc R by omega]
    by_cases c : nI S = nI R
    · simp only [c, ↓reduceIte]
    · simp only [c, ↓reduceIte, one_ne]
  · rw [y_row0 hY, eS, d1]
    unfold f_X12_thin_B7b
    rw [y_isFree hMb hg hR, bnd_some, d0, if_pos rfl, if_neg one_ne, y_row0 hYb, eS, y_ones hS6, bnd_some, y_ones (le16 hR h16), bnd_some]
    show bnd2 (f_X12_changes (nI (sg 19)) (nI R) wb) _ = _
    rw [g1, bnd2_some]
    by_cases c : nI S = nI R
    · simp only [c, ↓reduceIte]
    · rw [if_neg c, if_neg c, if_neg (nI_ne1 (lt31 hS6)), pk_sub (by omega)]
end FILL
