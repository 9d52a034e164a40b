/-! spans, cosets, orders, powers -/
theorem GX_cong {w w' : Wd} {n : Nat} {T : Nat → Nat → Nat} {iv : Nat → Nat} (h : GX w n T iv) (h6 : w'.1 6 = w.1 6) (h9 : w'.1 9 = w.1 9) (h10 : w'.1 10 = w.1 10) : GX w' n T iv := by
  unfold GX at h ⊢
  rw [h6, h9, h10]; exact h
theorem GM_cong {w w' : Wd} {n : Nat} {T : Nat → Nat → Nat} {iv : Nat → Nat} (h : GM w n T iv) (h1 : w'.1 44 1 = w.1 44 1) (h47 : w'.1 47 = w.1 47) (h48 : w'.1 48 = w.1 48) (h49 : w'.1 49 = w.1 49) : GM w' n T iv := by
  unfold GM at h ⊢
  rw [h1, h47, h48, h49]; exact h
section READ3
variable {w : Wd} {n : Nat} {T : Nat → Nat → Nat} {iv : Nat → Nat}
theorem c_span (hG : GX w n T iv) (hM : GM w n T iv) (hg : Gp n T iv) (a : Int32) : ∃ r w', f_X11_span a w = some (r, w') ∧ (∀ k, k ≠ 11 → w'.1 k = w.1 k) ∧ w'.2 = w.2 ∧ f_X12_span a w' = some r := by
  unfold f_X11_span f_X12_span
  rcases set_or hG hM hg a with ⟨S, hS, rfl, e1, e2⟩ | ⟨e1, e2⟩
  · obtain ⟨R, w', h1, h2, h3, h4⟩ := x_span hG hg hS
    have hG' := GX_cong hG (h3 6 (by decide)) (h3 9 (by decide)) (h3 10 (by decide))
    have hM' := GM_cong hM (by rw [h3 44 (by decide)]) (h3 47 (by decide)) (h3 48 (by decide)) (h3 49 (by decide))
    obtain ⟨R', g1, g2⟩ := y_span hM' hg hS
    have := isSpan_one h2 g2
    subst this
    have e2' : f_X12_isSet (nI S) w' = 1 := by
      rcases set_or hG' hM' hg (nI S) with ⟨_, _, _, _, q⟩ | ⟨q, _⟩
      · exact q
      · exfalso
        have : f_X4_holdsSet (nI S) w' = f_X4_holdsSet (nI S) w := by unfold f_X4_holdsSet; rw [h3 6 (by decide)]
        rw [this, e1] at q; exact one_ne q
    refine ⟨nI R, w', ?_, h3, h4, ?_⟩
    · rw [e1, if_neg one_ne, h1]; rfl
    · rw [e2', if_neg one_ne, g1]; rfl
  · exact ⟨_, w, by rw [e1, if_pos rfl], fun _ _ => rfl, rfl, by rw [e2, if_pos rfl]⟩
theorem x_isSub (hG : GX w n T iv) (hg : Gp n T iv) {S : Nat} (hS : S < 2 ^ n) : ∃ w' b, f_X4_isSubgroup (nI S) w = some (if b then 1 else 0, w') ∧ (b = true ↔ clo n T S) ∧ (∀ k, k ≠ 11 → w'.1 k = w.1 k) ∧ w'.2 = w.2 := by
  obtain ⟨R, w', h1, h2, h3, h4⟩ := x_span hG hg hS
  have hR := lt31 (le16 h2.1 hg.1.2)
  have hS1 := lt31 (le16 hS hg.1.2)
  refine ⟨w', decide (R = S), ?_, ?_, h3, h4⟩
  · unfold f_X4_isSubgroup
    simp only [h1, bnd2_some, m_inj hR hS1]
    by_cases c : R = S
    · simp [c]
    · simp [c]
  · rw [decide_eq_true_iff]
    constructor
    · rintro rfl; exact h2.2.1
    · intro h; exact isSpan_one h2 ((isSpan_self hS).mpr h)
theorem c_coset (hG : GX w n T iv) (hM : GM w n T iv) (hg : Gp n T iv) (a b l : Int32) : ∃ r w', f_X11_coset a b l w = some (r, w') ∧ (∀ k, k ≠ 11 → w'.1 k = w.1 k) ∧ w'.2 = w.2 ∧ f_X12_coset a b l w' = some r := by
  rcases set_or hG hM hg a with ⟨S, hS, rfl, e1, e2⟩ | ⟨e1, e2⟩
  · rcases elem_or hG hM hg b with ⟨x, hx, rfl, e3, e4⟩ | ⟨e3, e4⟩
    · have hS6 := le16 hS hg.1.2
      obtain ⟨w', c, h1, h2, h3, h4⟩ := x_isSub hG hg hS
      have hG' := GX_cong hG (h3 6 (by decide)) (h3 9 (by decide)) (h3 10 (by decide))
      have hM' := GM_cong hM (by rw [h3 44 (by decide)]) (h3 47 (by decide)) (h3 48 (by decide)) (h3 49 (by decide))
      obtain ⟨c', g1, g2⟩ := y_isSub hM' hg hS
      have : c = c' := by rw [Bool.eq_iff_iff, h2, g2]
      subst this
      have e2' : f_X12_isSet (nI S) w' = 1 := by rw [← e2]; unfold f_X12_isSet f_X12_all; rw [h3 44 (by decide)]
      have e4' : f_X12_isElement (nI x) w' = 1 := by rw [← e4]; unfold f_X12_isElement; rw [h3 44 (by decide)]
      unfold f_X11_coset f_X12_coset
      cases c with
      | true =>
        refine ⟨nI (mv n T x S (decide (l ≠ 0))), w', ?_, h3, h4, ?_⟩
        · simp only [e1, e3, one_ne, ↓reduceIte, h1, bnd2_some, x_moved hG' hg hx hS6 l, bnd_some]
        · simp only [e2', e4', one_ne, ↓reduceIte, g1, bnd_some, y_shifted hM' hg hx hS6 l]
      | false =>
        refine ⟨-2, w', ?_, h3, h4, ?_⟩
        · simp only [e1, e3, one_ne, ↓reduceIte, h1, bnd2_some, Bool.false_eq_true]
        · simp only [e2', e4', one_ne, ↓reduceIte, g1, bnd_some, Bool.false_eq_true]
    · exact ⟨-1, w, by unfold f_X11_coset; simp only [e1, e3, one_ne, ↓reduceIte], fun _ _ => rfl, rfl, by unfold f_X12_coset; simp only [e2, e4, one_ne, ↓reduceIte]⟩
  · exact ⟨-1, w, by unfold f_X11_coset; simp only [e1, ↓reduceIte], fun _ _ => rfl, rfl, by unfold f_X12_coset; simp only [e2, ↓reduceIte]⟩
theorem c_normal (hG : GX w n T iv) (hM : GM w n T iv) (hg : Gp n T iv) (a : Int32) : ∃ r w', f_X11_normal a w = some (r, w') ∧ (∀ k, k ≠ 11 → w'.1 k = w.1 k) ∧ w'.2 = w.2 ∧ f_X12_normal a w' = some r := by
  have h16 := hg.1.2
  rcases set_or hG hM hg a with ⟨S, hS, rfl, e1, e2⟩ | ⟨e1, e2⟩
  · have hS6 := le16 hS hg.1.2
    obtain ⟨w', c, h1, h2, h3, h4⟩ := x_isSub hG hg hS
    have hG' := GX_cong hG (h3 6 (by decide)) (h3 9 (by decide)) (h3 10 (by decide))
    have hM' := GM_cong hM (by rw [h3 44 (by decide)]) (h3 47 (by decide)) (h3 48 (by decide)) (h3 49 (by decide))
    obtain ⟨c', g1, g2⟩ := y_isSub hM' hg hS
    have : c = c' := by rw [Bool.eq_iff_iff, h2, g2]
    subst this
    have e2' : f_X12_isSet (nI S) w' = 1 := by rw [← e2]; unfold f_X12_isSet f_X12_all; rw [h3 44 (by decide)]
    unfold f_X11_normal f_X12_normal
    cases c with
    | true =>
      simp only [e1, e2', one_ne, ↓reduceIte, h1, bnd2_some, g1, bnd_some]
      have kx := lfind (fun f i => f_X11_normal_L29 f (nI S) (nI i) w') n (fun i => !decide (mv n T i S true = mv n T i S false)) (fun _ => some (0, w')) (some (1, w')) ?_ ?_ ?_ n 0 FU (by omega) (FU_big (by omega))
      have ky := lfind (fun f i => f_X12_normal_L23 f (nI S) (nI i) w') n (fun i => !decide (mv n T i S true = mv n T i S false)) (fun _ => some 0) (some 1) ?_ ?_ ?_ n 0 FU (by omega) (FU_big (by omega))
      · rw [allB_sel] at kx ky
        cases q : allB (fun i => decide (mv n T i S true = mv n T i S false)) n with
        | true =>
          rw [q] at kx ky
          exact ⟨1, w', kx, h3, h4, by simp only [e2', one_ne, ↓reduceIte, g1, bnd_some]; exact ky⟩
        | false =>
          rw [q] at kx ky
          exact ⟨0, w', kx, h3, h4, by simp only [e2', one_ne, ↓reduceIte, g1, bnd_some]; exact ky⟩
      · intro f i hi hp
        have hp : mv n T i S true = mv n T i S false := by simpa using hp
        simp (disch := omega) only [f_X12_normal_L23, f_X12_normal_B23b, hM'.1, Nat.not_le.mpr hi, m_le, ↓reduceIte, nI_1, bnd_some, y_shL hM' hg hi hS6, y_shR hM' hg hi hS6, hp]
      · intro f i hi hp
        have hp : ¬ mv n T i S true = mv n T i S false := by simpa using hp
        have b1 := lt31 (le16 (mv_lt hg hi (S := S) (left := true)) h16)
        have b2 := lt31 (le16 (mv_lt hg hi (S := S) (left := false)) h16)
        simp (disch := omega) only [f_X12_normal_L23, f_X12_normal_B23b, hM'.1, Nat.not_le.mpr hi, m_le, ↓reduceIte, nI_1, bnd_some, y_shL hM' hg hi hS6, y_shR hM' hg hi hS6, m_inj, hp]
      · intro f
        simp (disch := omega) only [f_X12_normal_L23, f_X12_normal_B23b, hM'.1, Nat.le_refl, m_le, ↓reduceIte]
      · intro f i hi hp
        have hp : mv n T i S true = mv n T i S false := by simpa using hp
        simp (disch := omega) only [f_X11_normal_L29, f_X11_normal_B29b, hG'.1, Nat.not_le.mpr hi, m_le, ↓reduceIte, nI_1, bnd_some, x_mvL hG' hg hi hS6, x_mvR hG' hg hi hS6, hp]
      · intro f i hi hp
        have hp : ¬ mv n T i S true = mv n T i S false := by simpa using hp
        have b1 := lt31 (le16 (mv_lt hg hi (S := S) (left := true)) h16)
        have b2 := lt31 (le16 (mv_lt hg hi (S := S) (left := false)) h16)
        simp (disch := omega) only [f_X11_normal_L29, f_X11_normal_B29b, hG'.1, Nat.not_le.mpr hi, m_le, ↓reduceIte, nI_1, bnd_some, x_mvL hG' hg hi hS6, x_mvR hG' hg hi hS6, m_inj, hp]
      · intro f
        simp (disch := omega) only [f_X11_normal_L29, f_X11_normal_B29b, hG'.1, Nat.le_refl, m_le, ↓reduceIte]
    | false =>
      refine ⟨-2, w', ?_, h3, h4, ?_⟩
      · simp only [e1, one_ne, ↓reduceIte, h1, bnd2_some, Bool.false_eq_true]
      · simp only [e2', one_ne, ↓reduceIte, g1, bnd_some, Bool.false_eq_true]
  · exact ⟨-1, w, by unfold f_X11_normal; simp only [e1, ↓reduceIte], fun _ _ => rfl, rfl, by unfold f_X12_normal; simp only [e2, ↓reduceIte]⟩
/-! powers of sets -/
theorem pr_assoc (hg : Gp n T iv) (A B C : Nat) : pr n T (pr n T A B) C = pr n T A (pr n T B C) := by
  apply ext_bit
  intro x
  rw [pr_bit, pr_bit]
  constructor
  · rintro ⟨ab, c, h1, h2, h3, h4, rfl⟩
    obtain ⟨a, b, ha, hb, g1, g2, rfl⟩ := pr_bit.mp h3
    exact ⟨a, T b c, ha, hg.2.1 b c hb h2, g1, pr_bit.mpr ⟨b, c, hb, h2, g2, h4, rfl⟩, (hg.2.2.2.1 a b c ha hb h2).symm⟩
  · rintro ⟨a, bc, h1, h2, h3, h4, rfl⟩
    obtain ⟨b, c, hb, hc, g1, g2, rfl⟩ := pr_bit.mp h4
    exact ⟨T a b, c, hg.2.1 a b h1 hb, hc, pr_bit.mpr ⟨a, b, h1, hb, h3, g1, rfl⟩, g2, hg.2.2.2.1 a b c h1 hb hc⟩
theorem pr_one (hg : Gp n T iv) {A : Nat} (hA : A < 2 ^ n) : pr n T 1 A = A ∧ pr n T A 1 = A := by
  have h1 : ∀ x, (1 : Nat).testBit x = true ↔ x = 0 := fun x => by
    have := two_bit 0 x
    rw [show (2 : Nat) ^ 0 = 1 from rfl] at this
    rw [this]; exact eq_comm
  constructor
  · apply ext_bit
    intro x
    rw [pr_bit]
    constructor
    · rintro ⟨a, b, ha, hb, g1, g2, rfl⟩
      rw [(h1 a).mp g1, (hg.2.2.1 b hb).1]; exact g2
    · intro h
      have := bit_lt hA h
      exact ⟨0, x, by omega, this, (h1 0).mpr rfl, h, (hg.2.2.1 x this).1⟩
  · apply ext_bit
    intro x
    rw [pr_bit]
    constructor
    · rintro ⟨a, b, ha, hb, g1, g2, rfl⟩
      rw [(h1 b).mp g2, (hg.2.2.1 a ha).2]; exact g1
    · intro h
      have := bit_lt hA h
      exact ⟨x, 0, this, by omega, h, (h1 0).mpr rfl, (hg.2.2.1 x this).2⟩
def spw (n : Nat) (T : Nat → Nat → Nat) (S : Nat) : Nat → Nat
  | 0 => 1
  | k + 1 => pr n T (spw n T S k) S
theorem spw_lt (hg : Gp n T iv) (S k : Nat) : spw n T S k < 2 ^ n := by
  cases k with
  | zero => show 1 < 2 ^ n; exact Nat.one_lt_two_pow (by have := hg.1.1; omega)
  | succ k => exact pr_lt hg
theorem spw_one (hg : Gp n T iv) {S : Nat} (hS : S < 2 ^ n) : spw n T S 1 = S := (pr_one hg hS).1
theorem spw_add (hg : Gp n T iv) (S i : Nat) : ∀ j, spw n T S (i + j) = pr n T (spw n T S i) (spw n T S j) := by
  intro j
  induction j with
  | zero => exact ((pr_one hg (spw_lt hg S i)).2).symm
  | succ j ih =>
    show pr n T (spw n T S (i + j)) S = pr n T (spw n T S i) (pr n T (spw n T S j) S)
    rw [ih, pr_assoc hg]
theorem spw_mul (hg : Gp n T iv) (S i : Nat) : ∀ j, spw n T (spw n T S i) j = spw n T S (i * j) := by
  intro j
  induction j with
  | zero => rfl
  | succ j ih =>
    show pr n T (spw n T (spw n T S i) j) (spw n T S i) = _
    rw [ih, ← spw_add hg, Nat.mul_succ]
theorem x_power_loop (hG : GX w n T iv) (hg : Gp n T iv) : ∀ m r q f, r < 2 ^ n → q < 2 ^ n → m < 2 ^ 30 → m < f → f_X11_power_L32 f (nI r) (nI q) (nI m) w = some (nI (pr n T r (spw n T q m))) := by
  have h16 := hg.1.2
  intro m
  induction m using Nat.strongRecOn with
  | ind m ih =>
    intro r q f hr hq hm hf
    obtain ⟨f, rfl⟩ : ∃ k, f = k + 1 := ⟨f - 1, by omega⟩
    show f_X11_power_B32b (f_X11_power_L32 f) (nI r) (nI q) (nI m) w = _
    unfold f_X11_power_B32b
    by_cases hz : m = 0
    · subst hz
      rw [if_pos (show nI 0 ≤ 0 by decide)]
      show some (nI r) = some (nI (pr n T r 1))
      rw [(pr_one hg hr).2]
    · have e1 : nI m >>> ((1 : Int32) &&& 31) = nI (m / 2) := m_shr (S := m) (e := 1) (by omega) (by decide)
      have e2 : nI m &&& 1 = nI (m % 2) := by
        rw [show (1 : Int32) = nI 1 from rfl, m_and, Nat.and_one_is_mod]
      have z2 : (nI (m % 2) = 0) ↔ m % 2 = 0 := nIz (by omega)
      have hr6 := le16 hr h16
      have hq6 := le16 hq h16
      have sq : spw n T (pr n T q q) (m / 2) = spw n T q (2 * (m / 2)) := by
        rw [← spw_mul hg q 2]
        congr 1
        show _ = pr n T (spw n T q 1) q
        rw [spw_one hg hq]
      rw [if_neg (nI_nle (by omega) (by omega))]
      simp only [e1, e2, z2, x_pr hG hg hq6 hq6, x_pr hG hg hr6 hq6, bnd_some]
      by_cases c : m % 2 = 0
      · rw [if_pos c, ih (m / 2) (by omega) r _ f hr (pr_lt hg) (by omega) (by omega), sq, show 2 * (m / 2) = m by omega]
      · rw [if_neg c, ih (m / 2) (by omega) _ _ f (pr_lt hg) (pr_lt hg) (by omega) (by omega), sq, pr_assoc hg]
        have := spw_add hg q 1 (2 * (m / 2))
        rw [spw_one hg hq] at this
        rw [← this, show 1 + 2 * (m / 2) = m by omega]
theorem c_power (hG : GX w n T iv) (hM : GM w n T iv) (hg : Gp n T iv) (a b : Int32) : ∃ r, f_X11_power a b w = some r ∧ f_X12_power a b w = some r := by
  have h16 := hg.1.2
  unfold f_X11_power f_X12_power f_X12_in
  rcases set_or hG hM hg a with ⟨S, hS, rfl, e1, e2⟩ | ⟨e1, e2⟩
  · have hS6 := le16 hS h16
    rw [e1, e2, if_neg one_ne, if_neg one_ne]
    rcases tri_or b (lo := 1) (hi := 99) (by omega) (by omega) with ⟨q, h1, h2, rfl⟩ | h | ⟨h1, h2, h3, h4, h5⟩
    · have c1 : ¬ nI q < 1 := nI_nlt (b := 1) h1 (by omega)
      have c2 : nI q ≤ 99 := nI_le (b := 99) h2 (by omega)
      have c3 : ¬ 99 < nI q := nI_nlt (a := 99) h2 (by omega)
      rw [if_neg c1, if_pos c2, if_neg c1, if_neg c3, if_neg one_ne]
      have kx := x_power_loop hG hg q 1 S FU (spw_lt hg S 0) hS (by omega) (FU_big (by omega))
      rw [(pr_one hg (spw_lt hg S q)).1] at kx
      refine ⟨_, kx, ?_⟩
      have ky : ∀ k i f, i + k = q → 1 ≤ i → k < f → f_X12_power_L25 f (nI S) (nI q) (nI (spw n T S i)) (nI i) w = some (nI (spw n T S q)) := by
        intro k
        induction k with
        | zero =>
          intro i f hi h1 hf
          obtain ⟨f, rfl⟩ : ∃ k, f = k + 1 := ⟨f - 1, by omega⟩
          rw [show i = q by omega]
          simp (disch := omega) only [f_X12_power_L25, f_X12_power_B25b, m_le, ↓reduceIte, nI_1, bnd_some, bnd2_some, Nat.le_refl]
        | succ k ih =>
          intro i f hi h1 hf
          obtain ⟨f, rfl⟩ : ∃ k, f = k + 1 := ⟨f - 1, by omega⟩
          have := ih (i + 1) f (by omega) (by omega) (by omega)
          have hn : ¬ q ≤ i := by omega
          have hp := y_pr hM hg (le16 (spw_lt hg S i) h16) hS6
          simp (disch := omega) only [f_X12_power_L25, f_X12_power_B25b, m_le, ↓reduceIte, nI_1, bnd_some, bnd2_some, hn, hp]
          exact this
      have := ky (q - 1) 1 FU (by omega) (by omega) (FU_big (by omega))
      rw [spw_one hg hS] at this
      exact this
    · rw [if_pos (show b < 1 from h), if_pos (show b < 1 from h)]; exact ⟨_, rfl, rfl⟩
    · rw [if_neg (show ¬ b < 1 from h1), if_neg (show ¬ b ≤ 99 from h4), if_neg (show ¬ b < 1 from h1), if_pos (show 99 < b from h2)]; exact ⟨_, rfl, rfl⟩
  · rw [e1, e2]; exact ⟨_, rfl, rfl⟩
end READ3
