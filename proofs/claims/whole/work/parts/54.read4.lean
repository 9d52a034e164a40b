/-! orders, covers, kin, copies -/
section READ4
variable {w : Wd} {n : Nat} {T : Nat → Nat → Nat} {iv : Nat → Nat}
def pw (T : Nat → Nat → Nat) (a : Nat) : Nat → Nat
  | 0 => 0
  | k + 1 => T (pw T a k) a
theorem pw_lt (hg : Gp n T iv) {a : Nat} (ha : a < n) : ∀ k, pw T a k < n
  | 0 => by show 0 < n; omega
  | k + 1 => hg.2.1 _ _ (pw_lt hg ha k) ha
theorem pw_add (hg : Gp n T iv) {a : Nat} (ha : a < n) (i : Nat) : ∀ j, pw T a (i + j) = T (pw T a i) (pw T a j)
  | 0 => ((hg.2.2.1 _ (pw_lt hg ha i)).2).symm
  | j + 1 => by
    show T (pw T a (i + j)) a = T (pw T a i) (T (pw T a j) a)
    rw [pw_add hg ha i j, hg.2.2.2.1 _ _ _ (pw_lt hg ha i) (pw_lt hg ha j) ha]
theorem pw_dif (hg : Gp n T iv) {a i j : Nat} (ha : a < n) (hij : i ≤ j) (h : pw T a i = pw T a j) : pw T a (j - i) = 0 := by
  have e : pw T a j = T (pw T a i) (pw T a (j - i)) := by rw [← pw_add hg ha, show i + (j - i) = j by omega]
  rw [← h] at e
  have hi := pw_lt hg ha i
  have := hg.2.2.1 (pw T a i) hi
  exact (T_canL hg hi (show 0 < n by omega) (pw_lt hg ha (j - i)) (this.2.trans e)).symm
/-- the order: the first power that is 0 -/
theorem ord_ex (hg : Gp n T iv) {a : Nat} (ha : a < n) : ∃ m, 0 < m ∧ m ≤ n ∧ pw T a m = 0 ∧ ∀ j, 0 < j → j < m → ¬ pw T a j = 0 := by
  have ex : ∃ m, 0 < m ∧ m ≤ n ∧ pw T a m = 0 := by
    apply Classical.byContradiction
    intro hn
    have nd : ((List.range (n + 1)).map (pw T a)).Nodup := by
      rw [List.nodup_iff_pairwise_ne, List.pairwise_map]
      refine List.Pairwise.imp_of_mem (R := fun i j => i < j) ?_ List.pairwise_lt_range
      intro i j hi hj hlt h
      rw [List.mem_range] at hi hj
      exact hn ⟨j - i, by omega, by omega, pw_dif hg ha (Nat.le_of_lt hlt) h⟩
    have := nodup_len nd (n := n) (fun x hx => by
      obtain ⟨k, -, rfl⟩ := List.mem_map.mp hx
      exact pw_lt hg ha k)
    rw [List.length_map, List.length_range] at this
    omega
  obtain ⟨m, h1, h2⟩ := pk_least (fun m => 0 < m ∧ m ≤ n ∧ pw T a m = 0) ex
  exact ⟨m, h1.1, h1.2.1, h1.2.2, fun j h3 h4 h5 => h2 j h4 ⟨h3, by omega, h5⟩⟩
def pws (T : Nat → Nat → Nat) (a m : Nat) : Nat := orF (fun k => if true then 2 ^ pw T a k else 0) m
theorem pws_bit {a m x : Nat} : (pws T a m).testBit x = true ↔ ∃ k, k < m ∧ pw T a k = x := by
  unfold pws
  rw [orF_bit]
  simp only [if_true, two_bit]
theorem pw_mod (hg : Gp n T iv) {a m : Nat} (ha : a < n) (h0 : 0 < m) (hm : pw T a m = 0) : ∀ k, ∃ j, j < m ∧ pw T a k = pw T a j := by
  intro k
  induction k with
  | zero => exact ⟨0, h0, rfl⟩
  | succ k ih =>
    obtain ⟨j, hj, e⟩ := ih
    by_cases c : j + 1 < m
    · exact ⟨j + 1, c, by show T (pw T a k) a = T (pw T a j) a; rw [e]⟩
    · refine ⟨0, h0, ?_⟩
      show T (pw T a k) a = 0
      rw [e, show T (pw T a j) a = pw T a (j + 1) from rfl, show j + 1 = m by omega, hm]
theorem pws_span (hg : Gp n T iv) {a m : Nat} (ha : a < n) (h0 : 0 < m) (hm : pw T a m = 0) : isSpan n T (2 ^ a) (pws T a m) := by
  have h1 : ∀ k, (pws T a m).testBit (pw T a k) = true := fun k => by
    obtain ⟨j, hj, e⟩ := pw_mod hg ha h0 hm k
    exact pws_bit.mpr ⟨j, hj, e.symm⟩
  have ea : pw T a 1 = a := (hg.2.2.1 a ha).1
  refine ⟨lt_two (fun x hx => by obtain ⟨k, -, rfl⟩ := pws_bit.mp hx; exact pw_lt hg ha k), ⟨h1 0, ?_⟩, ?_, ?_⟩
  · intro x y _ _ hx hy
    obtain ⟨i, -, rfl⟩ := pws_bit.mp hx
    obtain ⟨j, -, rfl⟩ := pws_bit.mp hy
    rw [← pw_add hg ha]; exact h1 _
  · intro x hx
    have := (two_bit a x).mp hx
    subst this
    have := h1 1
    rwa [ea] at this
  · intro C hC hcl hS x hx
    obtain ⟨k, -, rfl⟩ := pws_bit.mp hx
    clear hx
    induction k with
    | zero => exact hcl.1
    | succ k ih => exact hcl.2 _ _ (pw_lt hg ha k) ha ih (hS a ((two_bit a a).mpr rfl))
theorem pc_pws (hg : Gp n T iv) {a m : Nat} (ha : a < n) (hm : ∀ j, 0 < j → j < m → ¬ pw T a j = 0) : pc (pws T a m) = m := by
  have h16 := hg.1.2
  have := pc_img (B := fun _ => true) (φ := pw T a) (n := m) (fun e _ => by have := pw_lt hg ha e; omega) (fun e d he hd h => by
    rcases Nat.lt_trichotomy e d with q | q | q
    · exact absurd (pw_dif hg ha (Nat.le_of_lt q) h) (hm (d - e) (by omega) (by omega))
    · exact q
    · exact absurd (pw_dif hg ha (Nat.le_of_lt q) h.symm) (hm (e - d) (by omega) (by omega)))
  have h2 : cntB (fun _ => true) m = m := by
    clear this hm
    induction m with
    | zero => rfl
    | succ m ih => simp only [cntB, ih]; simp
  rw [h2] at this
  exact this
theorem c_orderOf (hG : GX w n T iv) (hM : GM w n T iv) (hg : Gp n T iv) (a : Int32) : ∃ r w', f_X11_orderOf a w = some (r, w') ∧ (∀ k, k ≠ 11 → w'.1 k = w.1 k) ∧ w'.2 = w.2 ∧ f_X12_orderOf a w' = some r := by
  have h16 := hg.1.2
  rcases elem_or hG hM hg a with ⟨x, hx, rfl, e1, e2⟩ | ⟨e1, e2⟩
  · obtain ⟨m, m0, mn, hm, hmin⟩ := ord_ex hg hx
    have h2x : 2 ^ x < 2 ^ n := Nat.pow_lt_pow_right (by decide) hx
    obtain ⟨R, w', h1, h2, h3, h4⟩ := x_span hG hg h2x
    have := isSpan_one h2 (pws_span hg hx m0 hm)
    subst this
    have hM' := GM_cong hM (by rw [h3 44 (by decide)]) (h3 47 (by decide)) (h3 48 (by decide)) (h3 49 (by decide))
    have e2' : f_X12_isElement (nI x) w' = 1 := by rw [← e2]; unfold f_X12_isElement; rw [h3 44 (by decide)]
    refine ⟨nI m, w', ?_, h3, h4, ?_⟩
    · unfold f_X11_orderOf
      simp (disch := omega) only [e1, one_ne, ↓reduceIte, m_shl1, h1, bnd2_some]
      rw [x_pc (le16 h2.1 h16), pc_pws hg hx hmin]
    · have ky : ∀ k i f, i + k = m → 1 ≤ i → k < f → f_X12_orderOf_L14 f (nI x) (nI i) (nI (pw T x i)) w' = some (nI m) := by
        intro k
        induction k with
        | zero =>
          intro i f hi h1 hf
          obtain ⟨f, rfl⟩ : ∃ k, f = k + 1 := ⟨f - 1, by omega⟩
          have hi' : i = m := by omega
          show f_X12_orderOf_B14b (f_X12_orderOf_L14 f) (nI x) (nI i) (nI (pw T x i)) w' = _
          unfold f_X12_orderOf_B14b
          rw [hi', hm]; rfl
        | succ k ih =>
          intro i f hi h1 hf
          obtain ⟨f, rfl⟩ : ∃ k, f = k + 1 := ⟨f - 1, by omega⟩
          have hl := pw_lt hg hx i
          show f_X12_orderOf_B14b (f_X12_orderOf_L14 f) (nI x) (nI i) (nI (pw T x i)) w' = _
          unfold f_X12_orderOf_B14b
          rw [if_neg (by rw [nIz (by omega)]; exact hmin i (by omega) (by omega)), y_prod hM' hg hl hx, bnd_some, nI_1]
          exact ih (i + 1) f (by omega) (by omega) (by omega)
      have := ky (m - 1) 1 FU (by omega) (by omega) (FU_big (by omega))
      rw [show pw T x 1 = x from (hg.2.2.1 x hx).1] at this
      unfold f_X12_orderOf
      rw [e2', if_neg one_ne]
      exact this
  · exact ⟨-1, w, by unfold f_X11_orderOf; simp only [e1, ↓reduceIte], fun _ _ => rfl, rfl, by unfold f_X12_orderOf; simp only [e2, ↓reduceIte]⟩
/-! sizes of products -/
theorem cnt_mono {p q : Nat → Bool} : ∀ {m}, (∀ i, i < m → p i = true → q i = true) → cntB p m ≤ cntB q m := by
  intro m
  induction m with
  | zero => intro _; exact Nat.le_refl _
  | succ m ih =>
    intro h
    simp only [cntB]
    have := ih (fun i hi => h i (by omega))
    cases c : p m with
    | false => simp; omega
    | true => rw [h m (by omega) c]; simp; omega
theorem cnt_eq {p q : Nat → Bool} : ∀ {m}, (∀ i, i < m → p i = true → q i = true) → cntB p m = cntB q m → ∀ i, i < m → q i = true → p i = true := by
  intro m
  induction m with
  | zero => intro _ _ i hi; omega
  | succ m ih =>
    intro h he i hi hq
    simp only [cntB] at he
    have hle := cnt_mono (fun i (hi : i < m) => h i (by omega))
    have hm := h m (by omega)
    have he2 : cntB p m = cntB q m ∧ p m = q m := by
      cases c : p m <;> cases d : q m <;> rw [c, d] at he <;> simp at he hm ⊢ <;> first | (constructor <;> omega) | omega | skip
      rw [c] at hm; rw [d] at hm; simp at hm
    by_cases c : i = m
    · rw [c, he2.2, ← c]; exact hq
    · exact ih (fun i hi => h i (by omega)) he2.1 i (by omega) hq
theorem pc_sub {A B : Nat} (h : ∀ x, A.testBit x = true → B.testBit x = true) : pc A ≤ pc B := cnt_mono (fun i _ => h i)
theorem pc_sub_eq {A B : Nat} (hB : B < 2 ^ 16) (h : ∀ x, A.testBit x = true → B.testBit x = true) (he : pc A = pc B) : A = B := ext_bit (fun x => ⟨h x, fun q => cnt_eq (fun i _ => h i) he x (bit_lt hB q) q⟩)
theorem pc_mvR (hg : Gp n T iv) {g S : Nat} (h : g < n) (hS : S < 2 ^ n) : pc (mv n T g S false) = pc S := by
  have h16 := hg.1.2
  have := pc_img (B := fun e => S.testBit e) (φ := fun e => T e g) (n := n) (fun e he => by have := hg.2.1 e g he h; omega) (fun e d he hd q => T_canR hg h he hd q)
  have e1 : mv n T g S false = orF (fun e => if S.testBit e = true then 2 ^ T e g else 0) n := by unfold mv; simp
  rw [e1, this]
  unfold pc
  have : cntB (fun i => S.testBit i) 16 = cntB (fun i => S.testBit i) (n + (16 - n)) := by congr 1; omega
  rw [this, cntB_split, cnt_none (p := fun k => S.testBit (n + k)), Nat.add_zero]
  intro i _
  cases q : S.testBit (n + i) with
  | false => rfl
  | true => have := bit_lt hS q; omega
theorem mv_in_pr (hg : Gp n T iv) {A S s : Nat} (hs : s < n) (h : S.testBit s = true) : ∀ x, (mv n T s A false).testBit x = true → (pr n T A S).testBit x = true := by
  intro x hx
  obtain ⟨e, he, h1, h2⟩ := mv_bit.mp hx
  exact pr_bit.mpr ⟨e, s, he, hs, h1, h, by simpa using h2⟩
theorem pc_pr_ge (hg : Gp n T iv) {A S s : Nat} (hA : A < 2 ^ n) (h : S.testBit s = true) (hs : s < n) : pc A ≤ pc (pr n T A S) := by
  rw [← pc_mvR hg hs hA]; exact pc_sub (mv_in_pr hg hs h)
theorem pr_mvR (hg : Gp n T iv) {A B s : Nat} (hs : s < n) : pr n T A (mv n T s B false) = mv n T s (pr n T A B) false := by
  apply ext_bit
  intro x
  rw [pr_bit, mv_bit]
  constructor
  · rintro ⟨a, y, ha, hy, h1, h2, rfl⟩
    obtain ⟨b, hb, h3, h4⟩ := mv_bit.mp h2
    have h4 : T b s = y := by simpa using h4
    subst h4
    exact ⟨T a b, hg.2.1 a b ha hb, pr_bit.mpr ⟨a, b, ha, hb, h1, h3, rfl⟩, by simpa using hg.2.2.2.1 a b s ha hb hs⟩
  · rintro ⟨y, hy, h1, h2⟩
    have h2 : T y s = x := by simpa using h2
    subst h2
    obtain ⟨a, b, ha, hb, h3, h4, rfl⟩ := pr_bit.mp h1
    exact ⟨a, T b s, ha, hg.2.1 b s hb hs, h3, mv_bit.mpr ⟨b, hb, h4, by simp⟩, (hg.2.2.2.1 a b s ha hb hs).symm⟩
/-- where a power grows no more, all behind it are shifts -/
theorem spw_stuck (hg : Gp n T iv) {S k : Nat} (hS : S < 2 ^ n) (he : pc (spw n T S (k + 1)) = pc (spw n T S k)) : pc (spw n T S (k + 2)) = pc (spw n T S (k + 1)) := by
  have h16 := hg.1.2
  by_cases c : S = 0
  · subst c
    have z : ∀ B, pr n T B 0 = 0 := fun B => ext_bit (fun x => by
      rw [pr_bit]; simp)
    show pc (pr n T _ 0) = pc (pr n T _ 0)
    rw [z, z]
  · obtain ⟨s, hs⟩ : ∃ s, S.testBit s = true := by
      apply Classical.byContradiction
      intro q
      apply c
      apply ext_bit
      intro x
      simp only [Nat.zero_testBit, Bool.false_eq_true, iff_false]
      exact fun h => q ⟨x, h⟩
    have hsn := bit_lt hS hs
    have e1 : mv n T s (spw n T S k) false = spw n T S (k + 1) := pc_sub_eq (le16 (spw_lt hg S (k + 1)) h16) (mv_in_pr hg hsn hs) (by rw [pc_mvR hg hsn (spw_lt hg S k), he])
    have e2 : ∀ j, spw n T S (j + 1) = pr n T S (spw n T S j) := fun j => by
      rw [Nat.add_comm j 1, spw_add hg, spw_one hg hS]
    rw [e2 (k + 1)]
    conv => lhs; rw [← e1, pr_mvR hg hsn, ← e2]
    exact pc_mvR hg hsn (spw_lt hg S (k + 1))
theorem pc_all {n : Nat} (h : n ≤ 16) : pc (2 ^ n - 1) = n := (by decide +kernel : ∀ n, n < 17 → pc (2 ^ n - 1) = n) n (by omega)
theorem spw_never (hg : Gp n T iv) {S k : Nat} (hS : S < 2 ^ n) (he : pc (spw n T S (k + 1)) = pc (spw n T S k)) (hk : ¬ spw n T S k = 2 ^ n - 1) : ∀ j, k ≤ j → ¬ spw n T S j = 2 ^ n - 1 := by
  have h16 := hg.1.2
  have all : ∀ j, pc (spw n T S (k + j + 1)) = pc (spw n T S (k + j)) := by
    intro j
    induction j with
    | zero => exact he
    | succ j ih => exact spw_stuck hg hS ih
  have all2 : ∀ j, pc (spw n T S (k + j)) = pc (spw n T S k) := by
    intro j
    induction j with
    | zero => rfl
    | succ j ih => rw [← ih]; exact all j
  intro j hj h
  have h1 := all2 (j - k)
  rw [show k + (j - k) = j by omega, h] at h1
  apply hk
  apply pc_sub_eq (le16 (by have := Nat.two_pow_pos n; omega) h16)
  · intro x hx; rw [all_bit]; exact bit_lt (spw_lt hg S k) hx
  · rw [h1]
theorem c_covers (hG : GX w n T iv) (hM : GM w n T iv) (hg : Gp n T iv) (a : Int32) : ∃ r, f_X11_covers a w = some r ∧ f_X12_covers a w = some r := by
  have h16 := hg.1.2
  have p1 := p16 h16
  have p0 := Nat.two_pow_pos n
  unfold f_X11_covers f_X12_covers
  rcases set_or hG hM hg a with ⟨S, hS, rfl, e1, e2⟩ | ⟨e1, e2⟩
  · have hS6 := le16 hS h16
    rw [e1, e2, if_neg one_ne, if_neg one_ne]
    have lt99 : ∀ k, k < 1000 → ((99 : Int32) < nI k ↔ 99 < k) := fun k hk => m_lt (a := 99) (by omega) (by omega)
    have sl : ∀ k, spw n T S k < 2 ^ 16 := fun k => le16 (spw_lt hg S k) h16
    have sl1 : ∀ k, spw n T S k < 2 ^ 31 := fun k => lt31 (sl k)
    have iall : ∀ k, (nI (spw n T S k) = nI (2 ^ n - 1)) ↔ spw n T S k = 2 ^ n - 1 := fun k => m_inj (sl1 k) (by omega)
    have never : ∀ m k f, k + m = 100 → m < f → (∀ j, k ≤ j → ¬ spw n T S j = 2 ^ n - 1) → f_X12_covers_L14 f (nI S) (nI (spw n T S k)) (nI k) w = some (-2) := by
      intro m
      induction m with
      | zero =>
        intro k f hk hf _
        obtain ⟨f, rfl⟩ : ∃ k, f = k + 1 := ⟨f - 1, by omega⟩
        show f_X12_covers_B14b (f_X12_covers_L14 f) (nI S) (nI (spw n T S k)) (nI k) w = _
        unfold f_X12_covers_B14b
        rw [if_pos ((lt99 k (by omega)).mpr (by omega))]
      | succ m ih =>
        intro k f hk hf h
        obtain ⟨f, rfl⟩ : ∃ k, f = k + 1 := ⟨f - 1, by omega⟩
        show f_X12_covers_B14b (f_X12_covers_L14 f) (nI S) (nI (spw n T S k)) (nI k) w = _
        unfold f_X12_covers_B14b
        rw [if_neg (fun q => by have := (lt99 k (by omega)).mp q; omega), y_all hM hg, if_neg (fun q => h k (Nat.le_refl _) ((iall k).mp q)), y_pr hM hg (sl k) hS6, bnd_some, nI_1]
        exact ih (k + 1) f (by omega) (by omega) (fun j hj => h j (by omega))
    have main : ∀ m k f f', k + m = 100 → m < f → m < f' → ∃ r, f_X11_covers_L17 f (nI S) (nI (spw n T S k)) (nI k) w = some r ∧ f_X12_covers_L14 f' (nI S) (nI (spw n T S k)) (nI k) w = some r := by
      intro m
      induction m with
      | zero =>
        intro k f f' hk hf hf'
        obtain ⟨f, rfl⟩ : ∃ k, f = k + 1 := ⟨f - 1, by omega⟩
        obtain ⟨f', rfl⟩ : ∃ k, f' = k + 1 := ⟨f' - 1, by omega⟩
        show ∃ r, f_X11_covers_B17b (f_X11_covers_L17 f) (nI S) (nI (spw n T S k)) (nI k) w = some r ∧ f_X12_covers_B14b (f_X12_covers_L14 f') (nI S) (nI (spw n T S k)) (nI k) w = some r
        unfold f_X11_covers_B17b f_X12_covers_B14b
        rw [if_pos ((lt99 k (by omega)).mpr (by omega)), if_pos ((lt99 k (by omega)).mpr (by omega))]
        exact ⟨_, rfl, rfl⟩
      | succ m ih =>
        intro k f f' hk hf hf'
        obtain ⟨f, rfl⟩ : ∃ k, f = k + 1 := ⟨f - 1, by omega⟩
        by_cases c : spw n T S k = 2 ^ n - 1
        · obtain ⟨f', rfl⟩ : ∃ k, f' = k + 1 := ⟨f' - 1, by omega⟩
          refine ⟨nI k, ?_, ?_⟩
          · show f_X11_covers_B17b (f_X11_covers_L17 f) (nI S) (nI (spw n T S k)) (nI k) w = _
            unfold f_X11_covers_B17b
            rw [if_neg (fun q => by have := (lt99 k (by omega)).mp q; omega), hG.2.1, if_pos ((iall k).mpr c)]
          · show f_X12_covers_B14b (f_X12_covers_L14 f') (nI S) (nI (spw n T S k)) (nI k) w = _
            unfold f_X12_covers_B14b
            rw [if_neg (fun q => by have := (lt99 k (by omega)).mp q; omega), y_all hM hg, if_pos ((iall k).mpr c)]
        · have hp : f_X4_productsOf (nI (spw n T S k)) (nI S) w = some (nI (spw n T S (k + 1))) := x_pr hG hg (sl k) hS6
          have hb1 := pc_le (spw n T S k)
          have hb2 := pc_le (spw n T S (k + 1))
          have ex : f_X11_covers_L17 (f + 1) (nI S) (nI (spw n T S k)) (nI k) w = if pc (spw n T S (k + 1)) = pc (spw n T S k) then some (-2) else f_X11_covers_L17 f (nI S) (nI (spw n T S (k + 1))) (nI (k + 1)) w := by
            show f_X11_covers_B17b (f_X11_covers_L17 f) (nI S) (nI (spw n T S k)) (nI k) w = _
            unfold f_X11_covers_B17b
            rw [if_neg (fun q => by have := (lt99 k (by omega)).mp q; omega), hG.2.1, if_neg (fun q => c ((iall k).mp q)), hp, bnd_some, x_pc (sl (k + 1)), x_pc (sl k), nI_1]
            simp (disch := omega) only [m_inj]
          rw [ex]
          by_cases d : pc (spw n T S (k + 1)) = pc (spw n T S k)
          · rw [if_pos d]
            exact ⟨_, rfl, never (m + 1) k f' hk hf' (spw_never hg hS d c)⟩
          · rw [if_neg d]
            obtain ⟨f', rfl⟩ : ∃ k, f' = k + 1 := ⟨f' - 1, by omega⟩
            have ey : f_X12_covers_L14 (f' + 1) (nI S) (nI (spw n T S k)) (nI k) w = f_X12_covers_L14 f' (nI S) (nI (spw n T S (k + 1))) (nI (k + 1)) w := by
              show f_X12_covers_B14b (f_X12_covers_L14 f') (nI S) (nI (spw n T S k)) (nI k) w = _
              unfold f_X12_covers_B14b
              rw [if_neg (fun q => by have := (lt99 k (by omega)).mp q; omega), y_all hM hg, if_neg (fun q => c ((iall k).mp q)), y_pr hM hg (sl k) hS6, bnd_some, nI_1]
              rfl
            rw [ey]
            exact ih (k + 1) f f' (by omega) (by omega) (by omega)
    have := main 99 1 FU FU (by omega) (FU_big (by omega)) (FU_big (by omega))
    rw [spw_one hg hS] at this
    exact this
  · rw [e1, e2]; exact ⟨_, rfl, rfl⟩
/-! kin -/
theorem cj_self (hg : Gp n T iv) {e : Nat} (he : e < n) : cj T iv 0 e = e := by
  have h0 := hg.2.2.2.2 0 (by omega)
  have e0 : iv 0 = 0 := by
    have := (hg.2.2.1 (iv 0) h0.1).1
    rw [h0.2.1] at this; exact this.symm
  unfold cj
  rw [(hg.2.2.1 e he).1, e0, (hg.2.2.1 e he).2]
theorem iv_T (hg : Gp n T iv) {g h : Nat} (hg1 : g < n) (hh : h < n) : iv (T g h) = T (iv h) (iv g) := by
  have i1 := hg.2.2.2.2 g hg1
  have i2 := hg.2.2.2.2 h hh
  have l := hg.2.1 g h hg1 hh
  have i3 := hg.2.2.2.2 _ l
  apply T_canL hg l i3.1 (hg.2.1 _ _ i2.1 i1.1)
  rw [i3.2.1, ← hg.2.2.2.1 _ _ _ l i2.1 i1.1, hg.2.2.2.1 g h _ hg1 hh i2.1, i2.2.1, (hg.2.2.1 g hg1).2, i1.2.1]
theorem cj_T (hg : Gp n T iv) {g h e : Nat} (hg1 : g < n) (hh : h < n) (he : e < n) : cj T iv g (cj T iv h e) = cj T iv (T g h) e := by
  have i1 := (hg.2.2.2.2 g hg1).1
  have i2 := (hg.2.2.2.2 h hh).1
  unfold cj
  rw [iv_T hg hg1 hh, ← hg.2.2.2.1 _ _ _ hg1 (hg.2.1 h e hh he) i2, ← hg.2.2.2.1 _ _ _ hg1 hh he, ← hg.2.2.2.1 _ _ _ (hg.2.1 _ _ (hg.2.1 _ _ hg1 hh) he) i2 i1]
theorem cj_back (hg : Gp n T iv) {g e : Nat} (h : g < n) (he : e < n) : cj T iv (iv g) (cj T iv g e) = e := by
  have i := hg.2.2.2.2 g h
  rw [cj_T hg i.1 h he, i.2.2, cj_self hg he]
def kmn (n : Nat) (T : Nat → Nat → Nat) (iv : Nat → Nat) (e : Nat) : Bool := allB (fun g => decide (e ≤ cj T iv g e)) n
theorem kmn_iff (hg : Gp n T iv) {e : Nat} (he : e < n) : (alk n T iv e &&& (2 ^ e - 1) = 0) ↔ kmn n T iv e = true := by
  rw [and0]
  unfold kmn
  rw [allB_iff]
  constructor
  · intro h g hg1
    simp only [decide_eq_true_eq]
    rcases Nat.lt_or_ge (cj T iv g e) e with q | q
    · exact absurd ⟨alk_bit.mpr ⟨g, hg1, rfl⟩, (all_bit _ _).mpr q⟩ (h (cj T iv g e))
    · exact q
  · intro h x ⟨h1, h2⟩
    obtain ⟨g, hg1, rfl⟩ := alk_bit.mp h1
    have := h g hg1
    simp only [decide_eq_true_eq] at this
    rw [all_bit] at h2
    omega
theorem x_kin (hG : GX w n T iv) (hg : Gp n T iv) : f_X11_kin w = some (nI (cntB (kmn n T iv) n)) := by
  have h16 := hg.1.2
  have key := lup (fun f i (acc : Nat) => f_X11_kin_L4 f (nI acc) (nI i) w) n (fun e acc => acc + (if kmn n T iv e then 1 else 0)) (fun acc => some (nI acc)) (fun _ _ => True) ?_ (fun _ _ _ _ => trivial) ?_ n 0 0 FU (by omega) (FU_big (by omega)) trivial
  · have := key.1
    rw [rng_add, sumF_cnt, Nat.zero_add] at this
    exact this
  · intro f i acc hi _
    have e1 : (1 : Int32) <<< (nI i &&& 31) - 1 = nI (2 ^ i - 1) := by
      rw [m_shl1 (by omega)]; exact pk_sub (Nat.two_pow_pos i)
    have ha := alk_lt hg hi
    have ha1 := lt31 (le16 ha h16)
    have e2 : (nI (alk n T iv i) &&& nI (2 ^ i - 1) = 0) ↔ kmn n T iv i = true := by
      rw [m_and, nIz (Nat.lt_of_le_of_lt Nat.and_le_left ha1), kmn_iff hg hi]
    by_cases c : kmn n T iv i = true
    · simp (disch := omega) only [f_X11_kin_L4, f_X11_kin_B4b, hG.1, Nat.not_le.mpr hi, m_le, ↓reduceIte, nI_1, bnd_some, bnd2_some, x_alike hG hg hi, e1, e2, c]
    · simp (disch := omega) only [f_X11_kin_L4, f_X11_kin_B4b, hG.1, Nat.not_le.mpr hi, m_le, ↓reduceIte, nI_1, bnd_some, bnd2_some, x_alike hG hg hi, e1, e2, c, Bool.false_eq_true, Nat.add_zero]
  · intro f acc _
    simp (disch := omega) only [f_X11_kin_L4, f_X11_kin_B4b, hG.1, Nat.le_refl, m_le, ↓reduceIte, nI_1, bnd_some, bnd2_some]
theorem cnt_sub {p q : Nat → Bool} {x : Nat} : ∀ {m}, x < m → p x = true → q x = false → (∀ i, i ≠ x → q i = p i) → cntB p m = cntB q m + 1 := fun h h1 h2 h3 => cnt_set h h2 h1 (fun i hi => (h3 i hi).symm)
theorem y_kin_loop (hM : GM w n T iv) (hg : Gp n T iv) : ∀ m O c f, O < 2 ^ n → (∀ e g, e < n → g < n → O.testBit e = true → O.testBit (cj T iv g e) = true) → pc O ≤ m → m < f → f_X12_kin_L7 f (nI c) (nI O) w = some (nI (c + cntB (fun e => kmn n T iv e && O.testBit e) n)) := by
  have h16 := hg.1.2
  intro m
  induction m with
  | zero =>
    intro O c f hO _ hp hf
    obtain ⟨f, rfl⟩ : ∃ k, f = k + 1 := ⟨f - 1, by omega⟩
    have : O = 0 := (pc_sub_eq (A := 0) (le16 hO h16) (fun x hx => by simp at hx) (by rw [pc_zero]; omega)).symm
    subst this
    show f_X12_kin_B7b (f_X12_kin_L7 f) (nI c) (nI 0) w = _
    unfold f_X12_kin_B7b
    rw [if_pos nI_0, cnt_none (fun i _ => by simp)]; rfl
  | succ m ih =>
    intro O c f hO hcl hp hf
    obtain ⟨f, rfl⟩ : ∃ k, f = k + 1 := ⟨f - 1, by omega⟩
    have hO1 := lt31 (le16 hO h16)
    show f_X12_kin_B7b (f_X12_kin_L7 f) (nI c) (nI O) w = _
    unfold f_X12_kin_B7b
    by_cases z : O = 0
    · subst z
      rw [if_pos nI_0, cnt_none (fun i _ => by simp)]; rfl
    · rw [if_neg (by rw [nIz hO1]; exact z)]
      -- the least of O
      obtain ⟨s, hs⟩ : ∃ s, O.testBit s = true := by
        apply Classical.byContradiction
        intro q
        apply z
        apply ext_bit
        intro x
        simp only [Nat.zero_testBit, Bool.false_eq_true, iff_false]
        exact fun h => q ⟨x, h⟩
      obtain ⟨e, he, hmin⟩ := pk_least (fun e => O.testBit e = true) ⟨s, hs⟩
      have hen := bit_lt hO he
      have inn : ∀ k i f', i + k = e → k < f' → f_X12_kin_L13 (f_X12_kin_L7 f) f' (nI c) (nI O) (nI i) w = f_X12_kin_L7 f (nI (c + 1)) (nI (O ^^^ (O &&& alk n T iv e))) w := by
        intro k
        induction k with
        | zero =>
          intro i f' hi hf'
          obtain ⟨f', rfl⟩ : ∃ k, f' = k + 1 := ⟨f' - 1, by omega⟩
          rw [show i = e by omega]
          show f_X12_kin_B13b (f_X12_kin_L7 f) (f_X12_kin_L13 (f_X12_kin_L7 f) f') (nI c) (nI O) (nI e) w = _
          unfold f_X12_kin_B13b
          rw [if_neg (by rw [y_has0 hO1 (by omega), he]; decide), y_alike hM hg hen, bnd_some, nI_1, m_compl hO1]
        | succ k ih2 =>
          intro i f' hi hf'
          obtain ⟨f', rfl⟩ : ∃ k, f' = k + 1 := ⟨f' - 1, by omega⟩
          show f_X12_kin_B13b (f_X12_kin_L7 f) (f_X12_kin_L13 (f_X12_kin_L7 f) f') (nI c) (nI O) (nI i) w = _
          unfold f_X12_kin_B13b
          rw [if_pos (by rw [y_has0 hO1 (by omega)]; simpa using hmin i (by omega)), nI_1]
          exact ih2 (i + 1) f' (by omega) (by omega)
      refine (inn e 0 FU (by omega) (FU_big (by omega))).trans ?_
      have hself : (alk n T iv e).testBit e = true := alk_bit.mpr ⟨0, by omega, cj_self hg hen⟩
      have hO' : O ^^^ (O &&& alk n T iv e) < 2 ^ n := lt_two (fun x hx => bit_lt hO ((dif_bit _ _ _).mp hx).1)
      rw [ih _ (c + 1) f hO' ?_ ?_ (by omega)]
      · congr 2
        rw [cnt_sub (p := fun d => kmn n T iv d && O.testBit d) (q := fun d => kmn n T iv d && (O ^^^ (O &&& alk n T iv e)).testBit d) (x := e) hen]
        · omega
        · have : kmn n T iv e = true := allB_iff.mpr (fun g hg1 => by
            simp only [decide_eq_true_eq]
            rcases Nat.lt_or_ge (cj T iv g e) e with q | q
            · exact absurd (hcl e g hen hg1 he) (hmin _ q)
            · exact q)
          simp [this, he]
        · have : (O ^^^ (O &&& alk n T iv e)).testBit e = false := by
            cases q : (O ^^^ (O &&& alk n T iv e)).testBit e with
            | false => rfl
            | true => rw [((dif_bit _ _ _).mp q).2] at hself; cases hself
          simp [this]
        · intro d hd
          cases k : kmn n T iv d with
          | false => rfl
          | true =>
            simp only [Bool.true_and]
            rw [Bool.eq_iff_iff, dif_bit]
            constructor
            · exact fun h => h.1
            · intro h
              refine ⟨h, ?_⟩
              have hdn := bit_lt hO h
              cases q : (alk n T iv e).testBit d with
              | false => rfl
              | true =>
                exfalso
                obtain ⟨g, hg1, hgd⟩ := alk_bit.mp q
                have i := hg.2.2.2.2 g hg1
                have h1 := allB_iff.mp k (iv g) i.1
                simp only [decide_eq_true_eq] at h1
                rw [← hgd, cj_back hg hg1 hen, hgd] at h1
                rcases Nat.lt_or_ge d e with r | r
                · exact hmin d r h
                · omega
      · intro d g hd hg1 h
        obtain ⟨h1, h2⟩ := (dif_bit _ _ _).mp h
        refine (dif_bit _ _ _).mpr ⟨hcl d g hd hg1 h1, ?_⟩
        cases q : (alk n T iv e).testBit (cj T iv g d) with
        | false => rfl
        | true =>
          exfalso
          obtain ⟨g2, hg2, e2⟩ := alk_bit.mp q
          have i := hg.2.2.2.2 g hg1
          have : (alk n T iv e).testBit d = true := alk_bit.mpr ⟨T (iv g) g2, hg.2.1 _ _ i.1 hg2, by
            rw [← cj_T hg i.1 hg2 hen, e2, cj_back hg hg1 hd]⟩
          rw [this] at h2; cases h2
      · have : pc O = pc (O ^^^ (O &&& alk n T iv e) ||| 2 ^ e) ∨ pc (O ^^^ (O &&& alk n T iv e) ||| 2 ^ e) ≤ pc O := Or.inr (pc_sub (fun x hx => by
          rcases (sb_or _ _ _).mp hx with h | h
          · exact ((dif_bit _ _ _).mp h).1
          · rw [h]; exact he))
        rw [pc_add (by omega) (by
          cases q : (O ^^^ (O &&& alk n T iv e)).testBit e with
          | false => rfl
          | true => rw [((dif_bit _ _ _).mp q).2] at hself; cases hself)] at this
        omega
theorem c_kin (hG : GX w n T iv) (hM : GM w n T iv) (hg : Gp n T iv) : ∃ r, f_X11_kin w = some r ∧ f_X12_kin w = some r := by
  refine ⟨_, x_kin hG hg, ?_⟩
  unfold f_X12_kin
  rw [y_all hM hg]
  have p0 := Nat.two_pow_pos n
  have := y_kin_loop hM hg 16 (2 ^ n - 1) 0 FU (by omega) (fun e g he hg1 _ => (all_bit _ _).mpr (cj_lt hg hg1 he)) (pc_le _) (FU_big (by omega))
  rw [Nat.zero_add, cntB_cong (q := kmn n T iv) (fun k hk => by rw [(all_bit n k).mpr hk, Bool.and_true])] at this
  exact this
end READ4
