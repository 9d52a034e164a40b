/-! the reference's walk -/
def BY (w : Wd) (gens hd : List Nat) (h0 hb : Nat → Nat) : Prop := w.1 44 9 = nI gens.length ∧ (∀ (l g : Nat), gens[l]? = some g → w.1 50 l = nI g) ∧ ∀ (j x : Nat), hd[j]? = some x → w.1 51 j = nI x ∧ (0 < j → w.1 52 j = nI (h0 x) ∧ w.1 53 j = nI (hb x))
def HO (n : Nat) (T : Nat → Nat → Nat) (gens hd : List Nat) (h0 hb : Nat → Nat) : Prop := gens.length ≤ 4 ∧ (∀ g, g ∈ gens → 0 < g ∧ g < n) ∧ hd.length = n ∧ Enm n T gens 4 hd h0 hb
theorem BY_cong {w w' : Wd} {gens hd : List Nat} {h0 hb : Nat → Nat} (h : BY w gens hd h0 hb) (e1 : w'.1 44 9 = w.1 44 9) (e2 : w'.1 50 = w.1 50) (e3 : w'.1 51 = w.1 51) (e4 : w'.1 52 = w.1 52) (e5 : w'.1 53 = w.1 53) : BY w' gens hd h0 hb := by
  unfold BY at *
  rw [e1, e2, e3, e4, e5]; exact h
section ISTURN
variable {n m : Nat} {T : Nat → Nat → Nat} {iv : Nat → Nat} {gens hd : List Nat} {h0 hb gl s : Nat → Nat}
theorem hd_all (hO : HO n T gens hd h0 hb) : ∀ x, x < n → x ∈ hd := by
  intro y hy
  apply Classical.byContradiction
  intro hn
  have := nodup_sub hd ((List.range n).erase y) hO.2.2.2.1 (fun x hx => (List.mem_erase_of_ne (fun (q : x = y) => hn (by rw [← q]; exact hx))).mpr (List.mem_range.mpr (hO.2.2.2.2.1 x hx)))
  rw [List.length_erase_of_mem (List.mem_range.mpr hy), List.length_range, hO.2.2.1] at this
  omega
theorem hb_lt (hO : HO n T gens hd h0 hb) {j x : Nat} (hj : 0 < j) (hx : hd[j]? = some x) : hb x < gens.length := by
  obtain ⟨i, y, g, -, -, -, -, h5, -⟩ := hO.2.2.2.2.2.2.1 j x hj hx
  exact (List.getElem?_eq_some_iff.mp h5).1
/-- the last look at a way of sending, over a row s that lies in cell 62 -/
theorem y_chkT {w : Wd} (hM : GM w n T iv) (hg : Gp n T iv) (hB : BY w gens hd h0 hb) (hO : HO n T gens hd h0 hb) (hgo : ∀ l, l < gens.length → w.1 63 l = nI (gl l) ∧ gl l < n) (hse : ∀ x, x < n → w.1 62 x = nI (s x) ∧ s x < n) : ∃ b : Bool, f_X12_isTurn_L82 FU 0 w = some (if b then 1 else 0, w) ∧ (b = true ↔ fitC T gens 4 hd T gl s) := by
  have h16 := hg.1.2
  have hl4 := hO.1
  have hgen : ∀ l, l < gens.length → ∃ g, gens[l]? = some g ∧ g < n := fun l hl => by
    have := List.getElem?_eq_getElem hl
    exact ⟨_, this, (hO.2.1 _ (List.mem_of_getElem? this)).2⟩
  obtain ⟨p, hp⟩ : ∃ p : Nat → Nat → Bool, p = fun x l => decide (s (T x (gens.getD l 0)) = T (s x) (gl l)) := ⟨_, rfl⟩
  have inn : ∀ (k82 : Int32 → Wd → Option (Int32 × Wd)) x, x < n → f_X12_isTurn_L92 k82 FU (nI x) (nI 0) w = if allB (p x) gens.length then k82 (nI (x + 1)) w else some (0, w) := by
    intro k82 x hx
    have B : ∀ f l g, l < gens.length → gens[l]? = some g → g < n → f_X12_isTurn_L92 k82 (f + 1) (nI x) (nI l) w = if nI (s (T x g)) = nI (T (s x) (gl l)) then f_X12_isTurn_L92 k82 f (nI x) (nI (l + 1)) w else some (0, w) := by
      intro f l g hl hg1 hg2
      show f_X12_isTurn_B92b k82 (f_X12_isTurn_L92 k82 f) (nI x) (nI l) w = _
      unfold f_X12_isTurn_B92b
      have hT := hg.2.1 x g hx hg2
      rw [hB.1, if_neg (nI_ge hl (by omega)), m_rd (by omega) (by decide), hB.2.1 l g hg1, y_prod hM hg hx hg2, bnd_some, m_rd (by omega) (by decide), (hse _ hT).1, m_rd (by omega) (by decide), (hse x hx).1, m_rd (by omega) (by decide), (hgo l hl).1, y_prod hM hg (hse x hx).2 (hgo l hl).2, bnd_some, nI_1]
    have key := lfind (fun f l => f_X12_isTurn_L92 k82 f (nI x) (nI l) w) gens.length (fun l => !p x l) (fun _ => some (0, w)) (k82 (nI (x + 1)) w) ?_ ?_ ?_ gens.length 0 FU (by omega) (FU_big (by omega))
    · rw [key, allB_sel]
    · intro f l hl hpl
      obtain ⟨g, hg1, hg2⟩ := hgen l hl
      have eg : gens.getD l 0 = g := by rw [List.getD_eq_getElem?_getD, hg1]; rfl
      rw [hp] at hpl
      simp only [Bool.not_eq_false', decide_eq_true_eq, eg] at hpl
      rw [B f l g hl hg1 hg2, hpl, if_pos rfl]
    · intro f l hl hpl
      obtain ⟨g, hg1, hg2⟩ := hgen l hl
      have eg : gens.getD l 0 = g := by rw [List.getD_eq_getElem?_getD, hg1]; rfl
      rw [hp] at hpl
      simp only [Bool.not_eq_true', decide_eq_false_iff_not, eg] at hpl
      have b1 := (hse _ (hg.2.1 x g hx hg2)).2
      have b2 := hg.2.1 _ _ (hse x hx).2 (hgo l hl).2
      rw [B f l g hl hg1 hg2, if_neg (by rw [m_inj (by omega) (by omega)]; exact hpl)]
    · intro f
      show f_X12_isTurn_B92b k82 (f_X12_isTurn_L92 k82 f) (nI x) (nI gens.length) w = _
      unfold f_X12_isTurn_B92b
      rw [hB.1, if_pos (nI_le (Nat.le_refl _) (by omega)), nI_1]
  have key := lfind (fun f i => f_X12_isTurn_L82 f (nI i) w) n (fun i => !allB (p i) gens.length) (fun _ => some (0, w)) (some (1, w)) ?_ ?_ ?_ n 0 FU (by omega) (FU_big (by omega))
  · refine ⟨allB (fun i => allB (p i) gens.length) n, ?_, ?_⟩
    · refine key.trans ?_
      rw [allB_sel]
      cases allB (fun i => allB (p i) gens.length) n <;> rfl
    · rw [allB_iff]
      constructor
      · intro h y lev g hy _ hgl
        have hl := (List.getElem?_eq_some_iff.mp hgl).1
        have := allB_iff.mp (h y (hO.2.2.2.2.1 y hy)) lev hl
        rw [hp] at this
        simp only [decide_eq_true_eq] at this
        rw [List.getD_eq_getElem?_getD, hgl] at this
        exact this
      · intro h x hx
        rw [allB_iff]
        intro l hl
        obtain ⟨g, hg1, hg2⟩ := hgen l hl
        rw [hp]
        simp only [decide_eq_true_eq]
        rw [List.getD_eq_getElem?_getD, hg1]
        exact h x l g (hd_all hO x hx) (by omega) hg1
  · intro f i hi hpi
    show f_X12_isTurn_B82b (f_X12_isTurn_L82 f) (nI i) w = _
    unfold f_X12_isTurn_B82b
    rw [hM.1, if_neg (nI_ge hi (by omega))]
    have := inn (f_X12_isTurn_L82 f) i hi
    rw [Bool.not_eq_false'] at hpi
    rw [hpi, if_pos rfl] at this
    exact this
  · intro f i hi hpi
    show f_X12_isTurn_B82b (f_X12_isTurn_L82 f) (nI i) w = _
    unfold f_X12_isTurn_B82b
    rw [hM.1, if_neg (nI_ge hi (by omega))]
    have := inn (f_X12_isTurn_L82 f) i hi
    rw [Bool.not_eq_true'] at hpi
    rw [hpi, if_neg Bool.false_ne_true] at this
    exact this
  · intro f
    show f_X12_isTurn_B82b (f_X12_isTurn_L82 f) (nI n) w = _
    unfold f_X12_isTurn_B82b
    rw [hM.1, if_pos (nI_le (Nat.le_refl _) (by omega))]
theorem y_chkR {w : Wd} (hM : GM w n T iv) (hg : Gp n T iv) (h0m : 0 < m) (hm : m ≤ 16) (hB : BY w gens hd h0 hb) (hO : HO n T gens hd h0 hb) (hgo : ∀ l, l < gens.length → w.1 63 l = nI (gl l) ∧ gl l < m) (hse : ∀ x, x < n → w.1 62 x = nI (s x) ∧ s x < m) : ∃ b : Bool, f_X12_isCharacter_L61 FU (nI m) 0 w = some (if b then 1 else 0, w) ∧ (b = true ↔ fitC T gens 4 hd (adm m) gl s) := by
  have h16 := hg.1.2
  have hl4 := hO.1
  have hgen : ∀ l, l < gens.length → ∃ g, gens[l]? = some g ∧ g < n := fun l hl => by
    have := List.getElem?_eq_getElem hl
    exact ⟨_, this, (hO.2.1 _ (List.mem_of_getElem? this)).2⟩
  obtain ⟨p, hp⟩ : ∃ p : Nat → Nat → Bool, p = fun x l => decide (s (T x (gens.getD l 0)) = adm m (s x) (gl l)) := ⟨_, rfl⟩
  have inn : ∀ (k61 : Int32 → Int32 → Wd → Option (Int32 × Wd)) x, x < n → f_X12_isCharacter_L71 k61 FU (nI m) (nI x) (nI 0) w = if allB (p x) gens.length then k61 (nI m) (nI (x + 1)) w else some (0, w) := by
    intro k61 x hx
    have B : ∀ f l g, l < gens.length → gens[l]? = some g → g < n → f_X12_isCharacter_L71 k61 (f + 1) (nI m) (nI x) (nI l) w = if nI (s (T x g)) = nI (adm m (s x) (gl l)) then f_X12_isCharacter_L71 k61 f (nI m) (nI x) (nI (l + 1)) w else some (0, w) := by
      intro f l g hl hg1 hg2
      show f_X12_isCharacter_B71b k61 (f_X12_isCharacter_L71 k61 f) (nI m) (nI x) (nI l) w = _
      unfold f_X12_isCharacter_B71b
      have hT := hg.2.1 x g hx hg2
      have b1 := (hse x hx).2
      have b2 := (hgo l hl).2
      rw [hB.1, if_neg (nI_ge hl (by omega)), m_rd (by omega) (by decide), hB.2.1 l g hg1, y_prod hM hg hx hg2, bnd_some, m_rd (by omega) (by decide), (hse _ hT).1, m_rd (by omega) (by decide), (hse x hx).1, m_rd (by omega) (by decide), (hgo l hl).1, nI_1]
      unfold nzI
      rw [if_neg (nI_ne0 h0m (by omega)), nI_add]
      show (if nI (s (T x g)) = nI (s x + gl l) - nI (s x + gl l) / nI m * nI m then _ else _) = _
      rw [pk_rem (by omega) h0m (by omega)]
      rfl
    have key := lfind (fun f l => f_X12_isCharacter_L71 k61 f (nI m) (nI x) (nI l) w) gens.length (fun l => !p x l) (fun _ => some (0, w)) (k61 (nI m) (nI (x + 1)) w) ?_ ?_ ?_ gens.length 0 FU (by omega) (FU_big (by omega))
    · rw [key, allB_sel]
    · intro f l hl hpl
      obtain ⟨g, hg1, hg2⟩ := hgen l hl
      have eg : gens.getD l 0 = g := by rw [List.getD_eq_getElem?_getD, hg1]; rfl
      rw [hp] at hpl
      simp only [Bool.not_eq_false', decide_eq_true_eq, eg] at hpl
      rw [B f l g hl hg1 hg2, hpl, if_pos rfl]
    · intro f l hl hpl
      obtain ⟨g, hg1, hg2⟩ := hgen l hl
      have eg : gens.getD l 0 = g := by rw [List.getD_eq_getElem?_getD, hg1]; rfl
      rw [hp] at hpl
      simp only [Bool.not_eq_true', decide_eq_false_iff_not, eg] at hpl
      have b1 := (hse _ (hg.2.1 x g hx hg2)).2
      have b2 := (Mon_add h0m).2.1 _ _ (hse x hx).2 (hgo l hl).2
      rw [B f l g hl hg1 hg2, if_neg (by rw [m_inj (by omega) (by omega)]; exact hpl)]
    · intro f
      show f_X12_isCharacter_B71b k61 (f_X12_isCharacter_L71 k61 f) (nI m) (nI x) (nI gens.length) w = _
      unfold f_X12_isCharacter_B71b
      rw [hB.1, if_pos (nI_le (Nat.le_refl _) (by omega)), nI_1]
  have key := lfind (fun f i => f_X12_isCharacter_L61 f (nI m) (nI i) w) n (fun i => !allB (p i) gens.length) (fun _ => some (0, w)) (some (1, w)) ?_ ?_ ?_ n 0 FU (by omega) (FU_big (by omega))
  · refine ⟨allB (fun i => allB (p i) gens.length) n, ?_, ?_⟩
    · refine key.trans ?_
      rw [allB_sel]
      cases allB (fun i => allB (p i) gens.length) n <;> rfl
    · rw [allB_iff]
      constructor
      · intro h y lev g hy _ hgl
        have hl := (List.getElem?_eq_some_iff.mp hgl).1
        have := allB_iff.mp (h y (hO.2.2.2.2.1 y hy)) lev hl
        rw [hp] at this
        simp only [decide_eq_true_eq] at this
        rw [List.getD_eq_getElem?_getD, hgl] at this
        exact this
      · intro h x hx
        rw [allB_iff]
        intro l hl
        obtain ⟨g, hg1, hg2⟩ := hgen l hl
        rw [hp]
        simp only [decide_eq_true_eq]
        rw [List.getD_eq_getElem?_getD, hg1]
        exact h x l g (hd_all hO x hx) (by omega) hg1
  · intro f i hi hpi
    show f_X12_isCharacter_B61b (f_X12_isCharacter_L61 f) (nI m) (nI i) w = _
    unfold f_X12_isCharacter_B61b
    rw [hM.1, if_neg (nI_ge hi (by omega))]
    have := inn (f_X12_isCharacter_L61 f) i hi
    rw [Bool.not_eq_false'] at hpi
    rw [hpi, if_pos rfl] at this
    exact this
  · intro f i hi hpi
    show f_X12_isCharacter_B61b (f_X12_isCharacter_L61 f) (nI m) (nI i) w = _
    unfold f_X12_isCharacter_B61b
    rw [hM.1, if_neg (nI_ge hi (by omega))]
    have := inn (f_X12_isCharacter_L61 f) i hi
    rw [Bool.not_eq_true'] at hpi
    rw [hpi, if_neg Bool.false_ne_true] at this
    exact this
  · intro f
    show f_X12_isCharacter_B61b (f_X12_isCharacter_L61 f) (nI m) (nI n) w = _
    unfold f_X12_isCharacter_B61b
    rw [hM.1, if_pos (nI_le (Nat.le_refl _) (by omega))]
/-- what is known of the next one in the row -/
theorem hd_step (hO : HO n T gens hd h0 hb) {i : Nat} (hi : i < n) (h1 : 1 ≤ i) : ∃ x i' g, hd[i]? = some x ∧ x < n ∧ i' < i ∧ hd[i']? = some (h0 x) ∧ h0 x < n ∧ hb x < gens.length ∧ gens[hb x]? = some g ∧ x = T (h0 x) g ∧ x ≠ 0 := by
  have hE := hO.2.2.2
  have ei := List.getElem?_eq_getElem (show i < hd.length by rw [hO.2.2.1]; exact hi)
  obtain ⟨i', y, g, a1, a2, a3, a4, a5, a6⟩ := hE.2.2.2.1 i _ (by omega) ei
  refine ⟨_, i', g, ei, hE.2.1 _ (List.mem_of_getElem? ei), a1, by rw [a3]; exact a2, by rw [a3]; exact hE.2.1 _ (List.mem_of_getElem? a2), (List.getElem?_eq_some_iff.mp a5).1, a5, by rw [a3]; exact a6, fun e => nd_ne hE.1 ei hE.2.2.1 (by omega) e⟩
theorem y_isTurn {w : Wd} (hM : GM w n T iv) (hg : Gp n T iv) (hB : BY w gens hd h0 hb) (hO : HO n T gens hd h0 hb) (hgo : ∀ l, l < gens.length → w.1 63 l = nI (gl l)) (hgl : ∀ l, gl l < n) : ∃ w' b, f_X12_isTurn w = some (if b then 1 else 0, w') ∧ (∀ k, k ≠ 62 → w'.1 k = w.1 k) ∧ w'.2 = w.2 ∧ (b = true ↔ ∃ φ, AUT n T φ ∧ mts gens gens.length gl φ) ∧ (b = true → ∃ φ, AUT n T φ ∧ mts gens gens.length gl φ ∧ ∀ x, x < n → w'.1 62 x = nI (φ x)) := by
  have h16 := hg.1.2
  have h1n := hg.1.1
  have hl4 := hO.1
  have hE := hO.2.2.2
  have hgn := fun g (h : g ∈ gens) => (hO.2.1 g h).2
  obtain ⟨s, hs⟩ := walk_ex hE T gl
  have hlt := walk_lt hE (Mon_T hg) (fun l _ => hgl l) hs
  have conv : ∀ φ, AUT n T φ → mts gens gens.length gl φ → (InjO hd s ∧ fitC T gens 4 hd T gl s) ∧ ∀ x, x ∈ hd → φ x = s x := fun φ p1 p2 => by
    have := walk_eq' hg hE hgn hs (aut_zero hg p1) (fun x y hx hy => p1.2.1 x y (hE.2.1 x hx) (hE.2.1 y hy)) (fun lev g _ h2 => p2 lev g (List.getElem?_eq_some_iff.mp h2).1 h2)
    refine ⟨⟨fun x y hx hy e => ?_, this.1⟩, this.2⟩
    rw [← this.2 x hx, ← this.2 y hy] at e
    exact p1.2.2 x y (hE.2.1 x hx) (hE.2.1 y hy) e
  have key : ∀ k i M w1 f, i + k = n → 1 ≤ i → k < f → (∀ k, k ≠ 62 → w1.1 k = w.1 k) → w1.2 = w.2 → (∀ (j x : Nat), j < i → hd[j]? = some x → w1.1 62 x = nI (s x)) → M < 2 ^ 16 → (∀ y, M.testBit y = true ↔ ∃ (j x : Nat), j < i ∧ hd[j]? = some x ∧ s x = y) → (∀ (j j' x x' : Nat), j < i → j' < i → hd[j]? = some x → hd[j']? = some x' → s x = s x' → x = x') →
      ∃ w', (∀ k, k ≠ 62 → w'.1 k = w.1 k) ∧ w'.2 = w.2 ∧ ((f_X12_isTurn_L11 f (nI M) (nI i) w1 = f_X12_isTurn_L82 FU 0 w' ∧ (∀ x, x < n → w'.1 62 x = nI (s x)) ∧ InjO hd s) ∨ (f_X12_isTurn_L11 f (nI M) (nI i) w1 = some (0, w') ∧ ¬ InjO hd s)) := by
    intro k
    induction k with
    | zero =>
      intro i M w1 f hi h1 hf k1 k2 k4 hMl k5 k6
      obtain ⟨f, rfl⟩ : ∃ q, f = q + 1 := ⟨f - 1, by omega⟩
      refine ⟨w1, k1, k2, Or.inl ⟨?_, fun x hx => ?_, fun x y hx hy e => ?_⟩⟩
      · show f_X12_isTurn_B11b (f_X12_isTurn_L11 f) (nI M) (nI i) w1 = _
        unfold f_X12_isTurn_B11b
        rw [k1 44 (by decide), hM.1, if_pos (nI_le (by omega) (by omega))]
      · obtain ⟨j, hj⟩ := List.getElem?_of_mem (hd_all hO x hx)
        have := (List.getElem?_eq_some_iff.mp hj).1
        exact k4 j x (by rw [hO.2.2.1] at this; omega) hj
      · obtain ⟨j, hj⟩ := List.getElem?_of_mem hx
        obtain ⟨j', hj'⟩ := List.getElem?_of_mem hy
        have q1 := (List.getElem?_eq_some_iff.mp hj).1
        have q2 := (List.getElem?_eq_some_iff.mp hj').1
        rw [hO.2.2.1] at q1 q2
        exact k6 j j' x y (by omega) (by omega) hj hj' e
    | succ k ih =>
      intro i M w1 f hi h1 hf k1 k2 k4 hMl k5 k6
      obtain ⟨f, rfl⟩ : ∃ q, f = q + 1 := ⟨f - 1, by omega⟩
      obtain ⟨x, i', g, a1, a2, a3, a4, a5, a6, a7, a8, a9⟩ := hd_step hO (show i < n by omega) h1
      have hM1 : GM w1 n T iv := GM_cong hM (by rw [k1 44 (by decide)]) (k1 47 (by decide)) (k1 48 (by decide)) (k1 49 (by decide))
      have hbx := (hB.2.2 i x a1).2 (by omega)
      have hsx : s x = T (s (h0 x)) (gl (hb x)) := hs.2 i x (by omega) a1
      have hsx' := hlt _ _ a1
      have hsy' := hlt _ _ a4
      have e1 : w1.1 52 i = nI (h0 x) := by rw [k1 52 (by decide)]; exact hbx.1
      have e2 : w1.1 62 (h0 x) = nI (s (h0 x)) := k4 i' _ a3 a4
      have e3 : w1.1 53 i = nI (hb x) := by rw [k1 53 (by decide)]; exact hbx.2
      have e4 : w1.1 63 (hb x) = nI (gl (hb x)) := by rw [k1 63 (by decide)]; exact hgo _ a6
      have e5 : w1.1 51 i = nI x := by rw [k1 51 (by decide)]; exact (hB.2.2 i x a1).1
      obtain ⟨w7, hw7⟩ : ∃ w7, w7 = sI w1 62 x (nI (s x)) := ⟨_, rfl⟩
      have st : f_X12_isTurn_L11 (f + 1) (nI M) (nI i) w1 = if M.testBit (s x) then some (0, w1) else f_X12_isTurn_L11 f (nI (M ||| 2 ^ s x)) (nI (i + 1)) w7 := by
        show f_X12_isTurn_B11b (f_X12_isTurn_L11 f) (nI M) (nI i) w1 = _
        unfold f_X12_isTurn_B11b
        rw [hM1.1, if_neg (nI_ge (a := i) (by omega) (by omega)), m_rd (by omega) (by decide), e1, m_rd (by omega) (by decide), e2, m_rd (by omega) (by decide), e3, m_rd (by omega) (by decide), e4, y_prod hM1 hg hsy' (hgl _), bnd_some, ← hsx, m_rd (by omega) (by decide), e5, m_wr (by omega) (by decide), ← hw7, m_shl1 (by omega), m_or, nI_1]
        simp only [y_has0 (lt31 hMl) (show s x < 31 by omega)]
        cases M.testBit (s x) <;> simp
      have q1 : ∀ k, k ≠ 62 → w7.1 k = w.1 k := fun k hk => by rw [hw7, ← k1 k hk]; funext j; rw [sI_at]; simp [hk]
      have q2 : w7.2 = w.2 := by rw [hw7]; exact k2
      have q4 : ∀ (j z : Nat), j < i + 1 → hd[j]? = some z → w7.1 62 z = nI (s z) := fun j z hj hz => by
        by_cases c : j = i
        · subst c; rw [a1] at hz; rw [← Option.some.inj hz, hw7, sI_at]; simp
        · rw [hw7, sI_at, if_neg]
          · exact k4 j z (by omega) hz
          · rintro ⟨-, h⟩
            exact nd_ne hE.1 hz a1 c h
      cases hbt : M.testBit (s x) with
      | true =>
        rw [hbt, if_pos rfl] at st
        refine ⟨w1, k1, k2, Or.inr ⟨st, fun hinj => ?_⟩⟩
        obtain ⟨j, z, j1, j2, j3⟩ := (k5 _).mp hbt
        exact nd_ne hE.1 j2 a1 (by omega) (hinj z x (List.mem_of_getElem? j2) (List.mem_of_getElem? a1) j3)
      | false =>
        rw [hbt, if_neg Bool.false_ne_true] at st
        rw [st]
        have hnew : ∀ (j z : Nat), j < i → hd[j]? = some z → s z ≠ s x := fun j z hj hz e => by
          rw [(k5 _).mpr ⟨j, z, hj, hz, e⟩] at hbt; cases hbt
        refine ih (i + 1) (M ||| 2 ^ s x) w7 f (by omega) (by omega) (by omega) q1 q2 q4 (or2_lt hMl (by omega)) (fun y => ?_) (fun j j' z z' b1 b2 b3 b4 b5 => ?_)
        · rw [sb_or, k5]
          constructor
          · rintro (⟨j, z, a, b, c⟩ | a)
            · exact ⟨j, z, by omega, b, c⟩
            · exact ⟨i, x, by omega, a1, a.symm⟩
          · rintro ⟨j, z, a, b, c⟩
            by_cases d : j = i
            · subst d; rw [a1] at b; rw [← Option.some.inj b] at c; exact Or.inr c.symm
            · exact Or.inl ⟨j, z, by omega, b, c⟩
        · by_cases d : j = i
          · subst d
            rw [a1] at b3
            have b3 := Option.some.inj b3
            subst b3
            by_cases d' : j' = j
            · subst d'; rw [a1] at b4; exact Option.some.inj b4
            · exact absurd b5.symm (hnew j' z' (by omega) b4)
          · by_cases d' : j' = i
            · subst d'
              rw [a1] at b4
              have b4 := Option.some.inj b4
              subst b4
              exact absurd b5 (hnew j z (by omega) b3)
            · exact k6 j j' z z' (by omega) (by omega) b3 b4 b5
  obtain ⟨w0, hw0⟩ : ∃ w0, w0 = sI w 62 0 0 := ⟨_, rfl⟩
  have e0 : f_X12_isTurn w = f_X12_isTurn_L11 FU (nI 1) (nI 1) w0 := by
    unfold f_X12_isTurn
    rw [hw0]
    exact m_wr (i := 0) (by decide) (by decide) _
  obtain ⟨w', g1, g2, g4⟩ := key (n - 1) 1 1 w0 FU (by omega) (by omega) (FU_big (by omega)) (fun k hk => by rw [hw0]; funext j; rw [sI_at]; simp [hk]) (by rw [hw0]; rfl) (fun j x hj hx => by
      rw [show j = 0 by omega, hE.2.2.1] at hx
      rw [← Option.some.inj hx, hs.1, hw0, sI_at]; simp; rfl) (by decide) (fun y => by
      rw [show (1 : Nat) = 2 ^ 0 from rfl, two_bit]
      constructor
      · intro h; subst h; exact ⟨0, 0, by omega, hE.2.2.1, hs.1⟩
      · rintro ⟨j, x, a, b, c⟩
        rw [show j = 0 by omega, hE.2.2.1] at b
        rw [← Option.some.inj b, hs.1] at c; exact c) (fun j j' x x' a b c d _ => by
      rw [show j = 0 by omega] at c
      rw [show j' = 0 by omega] at d
      rw [c] at d
      exact Option.some.inj d)
  rw [e0]
  rcases g4 with ⟨a1, a2, a3⟩ | ⟨a1, a2⟩
  · obtain ⟨b, b1, b2⟩ := y_chkT (gl := gl) (s := s) (GM_cong hM (by rw [g1 44 (by decide)]) (g1 47 (by decide)) (g1 48 (by decide)) (g1 49 (by decide))) hg (BY_cong hB (by rw [g1 44 (by decide)]) (g1 50 (by decide)) (g1 51 (by decide)) (g1 52 (by decide)) (g1 53 (by decide))) hO (fun l hl => by rw [g1 63 (by decide)]; exact ⟨hgo l hl, hgl l⟩) (fun x hx => ⟨a2 x hx, walk_mem_lt hE (Mon_T hg) (fun l _ => hgl l) hs (hd_all hO x hx)⟩)
    have fin : b = true → AUT n T s ∧ mts gens gens.length gl s := fun hbt => by
      have hf := b2.mp hbt
      exact ⟨⟨fun x hx => walk_mem_lt hE (Mon_T hg) (fun l _ => hgl l) hs (hd_all hO x hx), fun x y hx hy => (walk_hom' hg hE hgn (Mon_T hg) (fun l _ => hgl l) hs hf (hd_all hO x hx) (hd_all hO y hy)).2, fun x y hx hy => a3 x y (hd_all hO x hx) (hd_all hO y hy)⟩, fun l g hl h => walk_gen hg hE hgn (Mon_T hg) (fun l _ => hgl l) hs hf (by omega) h⟩
    refine ⟨w', b, a1.trans b1, g1, g2, ⟨fun h => ⟨s, fin h⟩, ?_⟩, fun h => ⟨s, (fin h).1, (fin h).2, a2⟩⟩
    rintro ⟨φ, p1, p2⟩
    exact b2.mpr (conv φ p1 p2).1.2
  · refine ⟨w', false, a1, g1, g2, ⟨fun h => absurd h Bool.false_ne_true, ?_⟩, fun h => absurd h Bool.false_ne_true⟩
    rintro ⟨φ, p1, p2⟩
    exact absurd (conv φ p1 p2).1.1 a2
/-- ways into a ring -/
def HOM (n : Nat) (T : Nat → Nat → Nat) (m : Nat) (φ : Nat → Nat) : Prop := (∀ x, x < n → φ x < m) ∧ ∀ x y, x < n → y < n → φ (T x y) = adm m (φ x) (φ y)
theorem hom_zero (hg : Gp n T iv) {φ : Nat → Nat} (h : HOM n T m φ) : φ 0 = 0 := by
  have h0 := hg.1.1
  have h1 := h.2 0 0 h0 h0
  rw [(hg.2.2.1 0 h0).1] at h1
  have hp := h.1 0 h0
  unfold adm at h1
  rcases Nat.lt_or_ge (φ 0 + φ 0) m with z | z
  · rw [Nat.mod_eq_of_lt z] at h1; omega
  · rw [Nat.mod_eq_sub_mod z, Nat.mod_eq_of_lt (by omega)] at h1; omega
theorem y_isChar {w : Wd} (hM : GM w n T iv) (hg : Gp n T iv) (h0m : 0 < m) (hm : m ≤ 16) (hB : BY w gens hd h0 hb) (hO : HO n T gens hd h0 hb) (hgo : ∀ l, l < gens.length → w.1 63 l = nI (gl l)) (hgl : ∀ l, gl l < m) : ∃ w' b, f_X12_isCharacter (nI m) w = some (if b then 1 else 0, w') ∧ (∀ k, k ≠ 62 → w'.1 k = w.1 k) ∧ w'.2 = w.2 ∧ (b = true ↔ ∃ φ, HOM n T m φ ∧ mts gens gens.length gl φ) ∧ (b = true → ∃ φ, HOM n T m φ ∧ mts gens gens.length gl φ ∧ ∀ x, x < n → w'.1 62 x = nI (φ x)) := by
  have h16 := hg.1.2
  have h1n := hg.1.1
  have hl4 := hO.1
  have hE := hO.2.2.2
  have hgn := fun g (h : g ∈ gens) => (hO.2.1 g h).2
  obtain ⟨s, hs⟩ := walk_ex hE (adm m) gl
  have hlt := walk_lt hE (Mon_add h0m) (fun l _ => hgl l) hs
  have key : ∀ k i w1 f, i + k = n → 1 ≤ i → k < f → (∀ k, k ≠ 62 → w1.1 k = w.1 k) → w1.2 = w.2 → (∀ (j x : Nat), j < i → hd[j]? = some x → w1.1 62 x = nI (s x)) →
      ∃ w', (∀ k, k ≠ 62 → w'.1 k = w.1 k) ∧ w'.2 = w.2 ∧ f_X12_isCharacter_L9 f (nI m) (nI i) w1 = f_X12_isCharacter_L61 FU (nI m) 0 w' ∧ ∀ x, x < n → w'.1 62 x = nI (s x) := by
    intro k
    induction k with
    | zero =>
      intro i w1 f hi h1 hf k1 k2 k4
      obtain ⟨f, rfl⟩ : ∃ q, f = q + 1 := ⟨f - 1, by omega⟩
      refine ⟨w1, k1, k2, ?_, fun x hx => ?_⟩
      · show f_X12_isCharacter_B9b (f_X12_isCharacter_L9 f) (nI m) (nI i) w1 = _
        unfold f_X12_isCharacter_B9b
        rw [k1 44 (by decide), hM.1, if_pos (nI_le (by omega) (by omega))]
      · obtain ⟨j, hj⟩ := List.getElem?_of_mem (hd_all hO x hx)
        have := (List.getElem?_eq_some_iff.mp hj).1
        exact k4 j x (by rw [hO.2.2.1] at this; omega) hj
    | succ k ih =>
      intro i w1 f hi h1 hf k1 k2 k4
      obtain ⟨f, rfl⟩ : ∃ q, f = q + 1 := ⟨f - 1, by omega⟩
      obtain ⟨x, i', g, a1, a2, a3, a4, a5, a6, a7, a8, a9⟩ := hd_step hO (show i < n by omega) h1
      have hbx := (hB.2.2 i x a1).2 (by omega)
      have hsx : s x = adm m (s (h0 x)) (gl (hb x)) := hs.2 i x (by omega) a1
      have hsy' := hlt _ _ a4
      have hgl' := hgl (hb x)
      have e1 : w1.1 52 i = nI (h0 x) := by rw [k1 52 (by decide)]; exact hbx.1
      have e2 : w1.1 62 (h0 x) = nI (s (h0 x)) := k4 i' _ a3 a4
      have e3 : w1.1 53 i = nI (hb x) := by rw [k1 53 (by decide)]; exact hbx.2
      have e4 : w1.1 63 (hb x) = nI (gl (hb x)) := by rw [k1 63 (by decide)]; exact hgo _ a6
      have e5 : w1.1 51 i = nI x := by rw [k1 51 (by decide)]; exact (hB.2.2 i x a1).1
      obtain ⟨w7, hw7⟩ : ∃ w7, w7 = sI w1 62 x (nI (s x)) := ⟨_, rfl⟩
      have q1 : ∀ k, k ≠ 62 → w7.1 k = w.1 k := fun k hk => by rw [hw7, ← k1 k hk]; funext j; rw [sI_at]; simp [hk]
      have q2 : w7.2 = w.2 := by rw [hw7]; exact k2
      have q4 : ∀ (j z : Nat), j < i + 1 → hd[j]? = some z → w7.1 62 z = nI (s z) := fun j z hj hz => by
        by_cases c : j = i
        · subst c; rw [a1] at hz; rw [← Option.some.inj hz, hw7, sI_at]; simp
        · rw [hw7, sI_at, if_neg]
          · exact k4 j z (by omega) hz
          · rintro ⟨-, h⟩
            exact nd_ne hE.1 hz a1 c h
      obtain ⟨w', u1, u2, u3, u4⟩ := ih (i + 1) w7 f (by omega) (by omega) (by omega) q1 q2 q4
      refine ⟨w', u1, u2, ?_, u4⟩
      rw [← u3]
      show f_X12_isCharacter_B9b (f_X12_isCharacter_L9 f) (nI m) (nI i) w1 = _
      unfold f_X12_isCharacter_B9b
      rw [k1 44 (by decide), hM.1, if_neg (nI_ge (a := i) (by omega) (by omega)), m_rd (by omega) (by decide), e5, m_rd (by omega) (by decide), e1, m_rd (by omega) (by decide), e2, m_rd (by omega) (by decide), e3, m_rd (by omega) (by decide), e4]
      unfold nzI
      rw [if_neg (nI_ne0 h0m (by omega)), nI_add]
      show wrI w1 62 16 (nI x) (nI (s (h0 x) + gl (hb x)) - nI (s (h0 x) + gl (hb x)) / nI m * nI m) _ = _
      rw [pk_rem (by omega) h0m (by omega), m_wr (by omega) (by decide), nI_1]
      have : nI ((s (h0 x) + gl (hb x)) % m) = nI (s x) := by rw [hsx]; rfl
      rw [this, ← hw7]
  obtain ⟨w0, hw0⟩ : ∃ w0, w0 = sI w 62 0 0 := ⟨_, rfl⟩
  have e0 : f_X12_isCharacter (nI m) w = f_X12_isCharacter_L9 FU (nI m) (nI 1) w0 := by
    unfold f_X12_isCharacter
    rw [hw0]
    exact m_wr (i := 0) (by decide) (by decide) _
  obtain ⟨w', g1, g2, a1, a2⟩ := key (n - 1) 1 w0 FU (by omega) (by omega) (FU_big (by omega)) (fun k hk => by rw [hw0]; funext j; rw [sI_at]; simp [hk]) (by rw [hw0]; rfl) (fun j x hj hx => by
      rw [show j = 0 by omega, hE.2.2.1] at hx
      rw [← Option.some.inj hx, hs.1, hw0, sI_at]; simp; rfl)
  rw [e0]
  obtain ⟨b, b1, b2⟩ := y_chkR (gl := gl) (s := s) (GM_cong hM (by rw [g1 44 (by decide)]) (g1 47 (by decide)) (g1 48 (by decide)) (g1 49 (by decide))) hg h0m hm (BY_cong hB (by rw [g1 44 (by decide)]) (g1 50 (by decide)) (g1 51 (by decide)) (g1 52 (by decide)) (g1 53 (by decide))) hO (fun l hl => by rw [g1 63 (by decide)]; exact ⟨hgo l hl, hgl l⟩) (fun x hx => ⟨a2 x hx, walk_mem_lt hE (Mon_add h0m) (fun l _ => hgl l) hs (hd_all hO x hx)⟩)
  have fin : b = true → HOM n T m s ∧ mts gens gens.length gl s := fun hbt => by
    have hf := b2.mp hbt
    exact ⟨⟨fun x hx => walk_mem_lt hE (Mon_add h0m) (fun l _ => hgl l) hs (hd_all hO x hx), fun x y hx hy => (walk_hom' hg hE hgn (Mon_add h0m) (fun l _ => hgl l) hs hf (hd_all hO x hx) (hd_all hO y hy)).2⟩, fun l g hl h => walk_gen hg hE hgn (Mon_add h0m) (fun l _ => hgl l) hs hf (by omega) h⟩
  refine ⟨w', b, a1.trans b1, g1, g2, ⟨fun h => ⟨s, fin h⟩, ?_⟩, fun h => ⟨s, (fin h).1, (fin h).2, a2⟩⟩
  rintro ⟨φ, p1, p2⟩
  exact b2.mpr (walk_eq' hg hE hgn hs (hom_zero hg p1) (fun x y hx hy => p1.2 x y (hE.2.1 x hx) (hE.2.1 y hy)) (fun lev g _ h2 => p2 lev g (List.getElem?_eq_some_iff.mp h2).1 h2)).1
end ISTURN
