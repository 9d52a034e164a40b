/-! the class's walk along the generators -/
def BX (w : Wd) (gens ord : List Nat) (frm by_ rch : Nat → Nat) : Prop := w.1 13 6 = nI gens.length ∧ (∀ (l g : Nat), gens[l]? = some g → w.1 14 l = nI g ∧ w.1 15 l = nI (rch l)) ∧ ∀ (j x : Nat), ord[j]? = some x → w.1 16 j = nI x ∧ (0 < j → w.1 17 x = nI (frm x) ∧ w.1 18 x = nI (by_ x))
def BO (n : Nat) (T : Nat → Nat → Nat) (gens ord : List Nat) (frm by_ rch : Nat → Nat) : Prop := gens.length ≤ 4 ∧ (∀ g, g ∈ gens → 0 < g ∧ g < n) ∧ ord.length = n ∧ (∀ l, l < gens.length → 1 ≤ rch l ∧ rch l ≤ n ∧ Enm n T gens l (ord.take (rch l)) frm by_) ∧ (∀ l, l + 1 = gens.length → rch l = n) ∧ (gens = [] → n = 1)
theorem BX_cong {w w' : Wd} {gens ord : List Nat} {frm by_ rch : Nat → Nat} (h : BX w gens ord frm by_ rch) (e1 : w'.1 13 6 = w.1 13 6) (e2 : w'.1 14 = w.1 14) (e3 : w'.1 15 = w.1 15) (e4 : w'.1 16 = w.1 16) (e5 : w'.1 17 = w.1 17) (e6 : w'.1 18 = w.1 18) : BX w' gens ord frm by_ rch := by
  unfold BX at *
  rw [e1, e2, e3, e4, e5, e6]; exact h
def InjO (o : List Nat) (s : Nat → Nat) : Prop := ∀ x y, x ∈ o → y ∈ o → s x = s y → x = y
theorem take_get {o : List Nat} {R j x : Nat} (h : (o.take R)[j]? = some x) : o[j]? = some x ∧ j < R := by
  rw [List.getElem?_take] at h
  split at h
  · next c => exact ⟨h, c⟩
  · cases h
theorem get_take {o : List Nat} {R j x : Nat} (h : o[j]? = some x) (hj : j < R) : (o.take R)[j]? = some x := by rw [List.getElem?_take, if_pos hj]; exact h
section FITS
variable {n : Nat} {T : Nat → Nat → Nat} {iv : Nat → Nat} {gens ord : List Nat} {L m : Nat} {frm by_ rch gl s : Nat → Nat}
theorem x_joinT {w : Wd} (hG : GX w n T iv) (hg : Gp n T iv) (hr : w.1 29 4 = 0) {a b : Nat} (ha : a < n) (hb : b < n) : f_X8_joined_29 (nI a) (nI b) w = some (nI (T a b)) := by
  unfold f_X8_joined_29
  rw [if_pos hr, x_times hG hg ha hb, bnd_some]
theorem x_joinR {w : Wd} (hr : w.1 34 4 = nI m) (h0 : 0 < m) (hm : m ≤ 16) {a b : Nat} (ha : a < m) (hb : b < m) : f_X8_joined_34 (nI a) (nI b) w = some (nI (adm m a b)) := by
  unfold f_X8_joined_34 adm
  rw [hr, if_neg (nI_ne0 h0 (by omega)), nI_add]
  by_cases c : a + b < m
  · rw [if_pos (nI_lt c (by omega)), Nat.mod_eq_of_lt c]
  · rw [if_neg (nI_nlt (by omega) (by omega)), pk_sub (by omega), Nat.mod_eq_sub_mod (by omega), Nat.mod_eq_of_lt (by omega)]
/-- the second look: whether products go to joins -/
theorem x_chk29 {w : Wd} (hG : GX w n T iv) (hg : Gp n T iv) (hr : w.1 29 4 = 0) (hB : BX w gens ord frm by_ rch) (hO : BO n T gens ord frm by_ rch) (hL : L < gens.length) (hgo : ∀ l, l ≤ L → w.1 30 l = nI (gl l) ∧ gl l < n) (hse : ∀ x, x ∈ ord.take (rch L) → w.1 31 x = nI (s x) ∧ s x < n) : ∃ b : Bool, f_X8_fits_29_L118 FU (nI L) (nI (rch L)) 0 w = some (if b then 1 else 0, w) ∧ (b = true ↔ fitC T gens L (ord.take (rch L)) T gl s) := by
  have h16 := hg.1.2
  have hl4 := hO.1
  obtain ⟨hR1, hRn, hE⟩ := hO.2.2.2.1 L hL
  have hgen : ∀ l, l ≤ L → ∃ g, gens[l]? = some g ∧ g < n := fun l hl => by
    have := List.getElem?_eq_getElem (show l < gens.length by omega)
    exact ⟨_, this, (hO.2.1 _ (List.mem_of_getElem? this)).2⟩
  have hel : ∀ i, i < rch L → ∃ x, ord[i]? = some x ∧ x ∈ ord.take (rch L) ∧ x < n := fun i hi => by
    have := List.getElem?_eq_getElem (show i < ord.length by rw [hO.2.2.1]; omega)
    have h2 := List.mem_of_getElem? (get_take this hi)
    exact ⟨_, this, h2, hE.2.1 _ h2⟩
  obtain ⟨p, hp⟩ : ∃ p : Nat → Nat → Bool, p = fun i l => decide (s (T (ord.getD i 0) (gens.getD l 0)) = T (s (ord.getD i 0)) (gl l)) := ⟨_, rfl⟩
  have inn : ∀ (k118 : Int32 → Int32 → Int32 → Wd → Option (Int32 × Wd)) i, i < rch L → f_X8_fits_29_L139 k118 FU (nI L) (nI (rch L)) (nI i) (nI (ord.getD i 0)) (nI 0) w = if allB (p i) (L + 1) then k118 (nI L) (nI (rch L)) (nI (i + 1)) w else some (0, w) := by
    intro k118 i hi
    obtain ⟨x, hx1, hx2, hx3⟩ := hel i hi
    have ex : ord.getD i 0 = x := by rw [List.getD_eq_getElem?_getD, hx1]; rfl
    have key := lfind (fun f l => f_X8_fits_29_L139 k118 f (nI L) (nI (rch L)) (nI i) (nI (ord.getD i 0)) (nI l) w) (L + 1) (fun l => !p i l) (fun _ => some (0, w)) (k118 (nI L) (nI (rch L)) (nI (i + 1)) w) ?_ ?_ ?_ (L + 1) 0 FU (by omega) (FU_big (by omega))
    · rw [key, allB_sel]
    · intro f l hl hpl
      obtain ⟨g, hg1, hg2⟩ := hgen l (by omega)
      have eg : gens.getD l 0 = g := by rw [List.getD_eq_getElem?_getD, hg1]; rfl
      have hTo := hE.2.2.2.2 x l g hx2 (by omega) hg1
      show f_X8_fits_29_B139b k118 (f_X8_fits_29_L139 k118 f) (nI L) (nI (rch L)) (nI i) (nI (ord.getD i 0)) (nI l) w = _
      unfold f_X8_fits_29_B139b
      rw [ex, if_neg (nI_nlt (by omega) (by omega)), m_rd (by omega) (by decide), (hse x hx2).1, m_rd (by omega) (by decide), (hgo l (by omega)).1, x_joinT hG hg hr (hse x hx2).2 (hgo l (by omega)).2, bnd_some, m_rd (by omega) (by decide), (hB.2.1 l g hg1).1, x_times hG hg hx3 hg2, bnd_some, m_rd (by have := hE.2.1 _ hTo; omega) (by decide), (hse _ hTo).1, nI_1]
      rw [hp] at hpl
      simp only [Bool.not_eq_false', decide_eq_true_eq, ex, eg] at hpl
      rw [hpl, if_pos rfl]
    · intro f l hl hpl
      obtain ⟨g, hg1, hg2⟩ := hgen l (by omega)
      have eg : gens.getD l 0 = g := by rw [List.getD_eq_getElem?_getD, hg1]; rfl
      have hTo := hE.2.2.2.2 x l g hx2 (by omega) hg1
      show f_X8_fits_29_B139b k118 (f_X8_fits_29_L139 k118 f) (nI L) (nI (rch L)) (nI i) (nI (ord.getD i 0)) (nI l) w = _
      unfold f_X8_fits_29_B139b
      rw [ex, if_neg (nI_nlt (by omega) (by omega)), m_rd (by omega) (by decide), (hse x hx2).1, m_rd (by omega) (by decide), (hgo l (by omega)).1, x_joinT hG hg hr (hse x hx2).2 (hgo l (by omega)).2, bnd_some, m_rd (by omega) (by decide), (hB.2.1 l g hg1).1, x_times hG hg hx3 hg2, bnd_some, m_rd (by have := hE.2.1 _ hTo; omega) (by decide), (hse _ hTo).1, nI_1]
      rw [hp] at hpl
      simp only [Bool.not_eq_true', decide_eq_false_iff_not, ex, eg] at hpl
      have b1 := (hse _ hTo).2
      have b2 := (Mon_T hg).2.1 _ _ (hse x hx2).2 (hgo l (by omega)).2
      rw [if_neg (by rw [m_inj (by omega) (by omega)]; exact hpl)]
    · intro f
      show f_X8_fits_29_B139b k118 (f_X8_fits_29_L139 k118 f) (nI L) (nI (rch L)) (nI i) (nI (ord.getD i 0)) (nI (L + 1)) w = _
      unfold f_X8_fits_29_B139b
      rw [if_pos (nI_lt (by omega) (by omega)), nI_1]
  have key := lfind (fun f i => f_X8_fits_29_L118 f (nI L) (nI (rch L)) (nI i) w) (rch L) (fun i => !allB (p i) (L + 1)) (fun _ => some (0, w)) (some (1, w)) ?_ ?_ ?_ (rch L) 0 FU (by omega) (FU_big (by omega))
  · refine ⟨allB (fun i => allB (p i) (L + 1)) (rch L), ?_, ?_⟩
    · refine key.trans ?_
      rw [allB_sel]
      cases allB (fun i => allB (p i) (L + 1)) (rch L) <;> rfl
    · rw [allB_iff]
      constructor
      · intro h y lev g hy hlev hgl
        obtain ⟨j, hj⟩ := List.getElem?_of_mem hy
        obtain ⟨j1, j2⟩ := take_get hj
        have := allB_iff.mp (h j j2) lev (by omega)
        rw [hp] at this
        simp only [decide_eq_true_eq] at this
        rw [List.getD_eq_getElem?_getD, List.getD_eq_getElem?_getD, j1, hgl] at this
        exact this
      · intro h i hi
        rw [allB_iff]
        intro l hl
        obtain ⟨x, hx1, hx2, hx3⟩ := hel i hi
        obtain ⟨g, hg1, hg2⟩ := hgen l (by omega)
        rw [hp]
        simp only [decide_eq_true_eq]
        rw [List.getD_eq_getElem?_getD, List.getD_eq_getElem?_getD, hx1, hg1]
        exact h x l g hx2 (by omega) hg1
  · intro f i hi hpi
    obtain ⟨x, hx1, hx2, hx3⟩ := hel i hi
    have ex : ord.getD i 0 = x := by rw [List.getD_eq_getElem?_getD, hx1]; rfl
    show f_X8_fits_29_B118b (f_X8_fits_29_L118 f) (nI L) (nI (rch L)) (nI i) w = _
    unfold f_X8_fits_29_B118b
    rw [if_neg (nI_ge hi (by omega)), m_rd (by omega) (by decide), (hB.2.2 i x hx1).1, ← ex]
    have := inn (f_X8_fits_29_L118 f) i hi
    rw [Bool.not_eq_false'] at hpi
    rw [hpi, if_pos rfl] at this
    exact this
  · intro f i hi hpi
    obtain ⟨x, hx1, hx2, hx3⟩ := hel i hi
    have ex : ord.getD i 0 = x := by rw [List.getD_eq_getElem?_getD, hx1]; rfl
    show f_X8_fits_29_B118b (f_X8_fits_29_L118 f) (nI L) (nI (rch L)) (nI i) w = _
    unfold f_X8_fits_29_B118b
    rw [if_neg (nI_ge hi (by omega)), m_rd (by omega) (by decide), (hB.2.2 i x hx1).1, ← ex]
    have := inn (f_X8_fits_29_L118 f) i hi
    rw [Bool.not_eq_true'] at hpi
    rw [hpi, if_neg Bool.false_ne_true] at this
    exact this
  · intro f
    show f_X8_fits_29_B118b (f_X8_fits_29_L118 f) (nI L) (nI (rch L)) (nI (rch L)) w = _
    unfold f_X8_fits_29_B118b
    rw [if_pos (nI_le (Nat.le_refl _) (by omega))]
/-- the second look: whether products go to joins -/
theorem x_chk34 {w : Wd} (hG : GX w n T iv) (hg : Gp n T iv) (hr : w.1 34 4 = nI m) (h0 : 0 < m) (hm : m ≤ 16) (hB : BX w gens ord frm by_ rch) (hO : BO n T gens ord frm by_ rch) (hL : L < gens.length) (hgo : ∀ l, l ≤ L → w.1 35 l = nI (gl l) ∧ gl l < m) (hse : ∀ x, x ∈ ord.take (rch L) → w.1 36 x = nI (s x) ∧ s x < m) : ∃ b : Bool, f_X8_fits_34_L118 FU (nI L) (nI (rch L)) 0 w = some (if b then 1 else 0, w) ∧ (b = true ↔ fitC T gens L (ord.take (rch L)) (adm m) gl s) := by
  have h16 := hg.1.2
  have hl4 := hO.1
  obtain ⟨hR1, hRn, hE⟩ := hO.2.2.2.1 L hL
  have hgen : ∀ l, l ≤ L → ∃ g, gens[l]? = some g ∧ g < n := fun l hl => by
    have := List.getElem?_eq_getElem (show l < gens.length by omega)
    exact ⟨_, this, (hO.2.1 _ (List.mem_of_getElem? this)).2⟩
  have hel : ∀ i, i < rch L → ∃ x, ord[i]? = some x ∧ x ∈ ord.take (rch L) ∧ x < n := fun i hi => by
    have := List.getElem?_eq_getElem (show i < ord.length by rw [hO.2.2.1]; omega)
    have h2 := List.mem_of_getElem? (get_take this hi)
    exact ⟨_, this, h2, hE.2.1 _ h2⟩
  obtain ⟨p, hp⟩ : ∃ p : Nat → Nat → Bool, p = fun i l => decide (s (T (ord.getD i 0) (gens.getD l 0)) = (adm m) (s (ord.getD i 0)) (gl l)) := ⟨_, rfl⟩
  have inn : ∀ (k118 : Int32 → Int32 → Int32 → Wd → Option (Int32 × Wd)) i, i < rch L → f_X8_fits_34_L139 k118 FU (nI L) (nI (rch L)) (nI i) (nI (ord.getD i 0)) (nI 0) w = if allB (p i) (L + 1) then k118 (nI L) (nI (rch L)) (nI (i + 1)) w else some (0, w) := by
    intro k118 i hi
    obtain ⟨x, hx1, hx2, hx3⟩ := hel i hi
    have ex : ord.getD i 0 = x := by rw [List.getD_eq_getElem?_getD, hx1]; rfl
    have key := lfind (fun f l => f_X8_fits_34_L139 k118 f (nI L) (nI (rch L)) (nI i) (nI (ord.getD i 0)) (nI l) w) (L + 1) (fun l => !p i l) (fun _ => some (0, w)) (k118 (nI L) (nI (rch L)) (nI (i + 1)) w) ?_ ?_ ?_ (L + 1) 0 FU (by omega) (FU_big (by omega))
    · rw [key, allB_sel]
    · intro f l hl hpl
      obtain ⟨g, hg1, hg2⟩ := hgen l (by omega)
      have eg : gens.getD l 0 = g := by rw [List.getD_eq_getElem?_getD, hg1]; rfl
      have hTo := hE.2.2.2.2 x l g hx2 (by omega) hg1
      show f_X8_fits_34_B139b k118 (f_X8_fits_34_L139 k118 f) (nI L) (nI (rch L)) (nI i) (nI (ord.getD i 0)) (nI l) w = _
      unfold f_X8_fits_34_B139b
      rw [ex, if_neg (nI_nlt (by omega) (by omega)), m_rd (by omega) (by decide), (hse x hx2).1, m_rd (by omega) (by decide), (hgo l (by omega)).1, x_joinR hr h0 hm (hse x hx2).2 (hgo l (by omega)).2, bnd_some, m_rd (by omega) (by decide), (hB.2.1 l g hg1).1, x_times hG hg hx3 hg2, bnd_some, m_rd (by have := hE.2.1 _ hTo; omega) (by decide), (hse _ hTo).1, nI_1]
      rw [hp] at hpl
      simp only [Bool.not_eq_false', decide_eq_true_eq, ex, eg] at hpl
      rw [hpl, if_pos rfl]
    · intro f l hl hpl
      obtain ⟨g, hg1, hg2⟩ := hgen l (by omega)
      have eg : gens.getD l 0 = g := by rw [List.getD_eq_getElem?_getD, hg1]; rfl
      have hTo := hE.2.2.2.2 x l g hx2 (by omega) hg1
      show f_X8_fits_34_B139b k118 (f_X8_fits_34_L139 k118 f) (nI L) (nI (rch L)) (nI i) (nI (ord.getD i 0)) (nI l) w = _
      unfold f_X8_fits_34_B139b
      rw [ex, if_neg (nI_nlt (by omega) (by omega)), m_rd (by omega) (by decide), (hse x hx2).1, m_rd (by omega) (by decide), (hgo l (by omega)).1, x_joinR hr h0 hm (hse x hx2).2 (hgo l (by omega)).2, bnd_some, m_rd (by omega) (by decide), (hB.2.1 l g hg1).1, x_times hG hg hx3 hg2, bnd_some, m_rd (by have := hE.2.1 _ hTo; omega) (by decide), (hse _ hTo).1, nI_1]
      rw [hp] at hpl
      simp only [Bool.not_eq_true', decide_eq_false_iff_not, ex, eg] at hpl
      have b1 := (hse _ hTo).2
      have b2 := (Mon_add h0).2.1 _ _ (hse x hx2).2 (hgo l (by omega)).2
      rw [if_neg (by rw [m_inj (by omega) (by omega)]; exact hpl)]
    · intro f
      show f_X8_fits_34_B139b k118 (f_X8_fits_34_L139 k118 f) (nI L) (nI (rch L)) (nI i) (nI (ord.getD i 0)) (nI (L + 1)) w = _
      unfold f_X8_fits_34_B139b
      rw [if_pos (nI_lt (by omega) (by omega)), nI_1]
  have key := lfind (fun f i => f_X8_fits_34_L118 f (nI L) (nI (rch L)) (nI i) w) (rch L) (fun i => !allB (p i) (L + 1)) (fun _ => some (0, w)) (some (1, w)) ?_ ?_ ?_ (rch L) 0 FU (by omega) (FU_big (by omega))
  · refine ⟨allB (fun i => allB (p i) (L + 1)) (rch L), ?_, ?_⟩
    · refine key.trans ?_
      rw [allB_sel]
      cases allB (fun i => allB (p i) (L + 1)) (rch L) <;> rfl
    · rw [allB_iff]
      constructor
      · intro h y lev g hy hlev hgl
        obtain ⟨j, hj⟩ := List.getElem?_of_mem hy
        obtain ⟨j1, j2⟩ := take_get hj
        have := allB_iff.mp (h j j2) lev (by omega)
        rw [hp] at this
        simp only [decide_eq_true_eq] at this
        rw [List.getD_eq_getElem?_getD, List.getD_eq_getElem?_getD, j1, hgl] at this
        exact this
      · intro h i hi
        rw [allB_iff]
        intro l hl
        obtain ⟨x, hx1, hx2, hx3⟩ := hel i hi
        obtain ⟨g, hg1, hg2⟩ := hgen l (by omega)
        rw [hp]
        simp only [decide_eq_true_eq]
        rw [List.getD_eq_getElem?_getD, List.getD_eq_getElem?_getD, hx1, hg1]
        exact h x l g hx2 (by omega) hg1
  · intro f i hi hpi
    obtain ⟨x, hx1, hx2, hx3⟩ := hel i hi
    have ex : ord.getD i 0 = x := by rw [List.getD_eq_getElem?_getD, hx1]; rfl
    show f_X8_fits_34_B118b (f_X8_fits_34_L118 f) (nI L) (nI (rch L)) (nI i) w = _
    unfold f_X8_fits_34_B118b
    rw [if_neg (nI_ge hi (by omega)), m_rd (by omega) (by decide), (hB.2.2 i x hx1).1, ← ex]
    have := inn (f_X8_fits_34_L118 f) i hi
    rw [Bool.not_eq_false'] at hpi
    rw [hpi, if_pos rfl] at this
    exact this
  · intro f i hi hpi
    obtain ⟨x, hx1, hx2, hx3⟩ := hel i hi
    have ex : ord.getD i 0 = x := by rw [List.getD_eq_getElem?_getD, hx1]; rfl
    show f_X8_fits_34_B118b (f_X8_fits_34_L118 f) (nI L) (nI (rch L)) (nI i) w = _
    unfold f_X8_fits_34_B118b
    rw [if_neg (nI_ge hi (by omega)), m_rd (by omega) (by decide), (hB.2.2 i x hx1).1, ← ex]
    have := inn (f_X8_fits_34_L118 f) i hi
    rw [Bool.not_eq_true'] at hpi
    rw [hpi, if_neg Bool.false_ne_true] at this
    exact this
  · intro f
    show f_X8_fits_34_B118b (f_X8_fits_34_L118 f) (nI L) (nI (rch L)) (nI (rch L)) w = _
    unfold f_X8_fits_34_B118b
    rw [if_pos (nI_le (Nat.le_refl _) (by omega))]
theorem x_fitT {w : Wd} (hG : GX w n T iv) (hg : Gp n T iv) (hr : w.1 29 4 = 0) (hB : BX w gens ord frm by_ rch) (hO : BO n T gens ord frm by_ rch) (hL : L < gens.length) (hgo : ∀ l, l ≤ L → w.1 30 l = nI (gl l) ∧ gl l < n) (h0 : w.1 31 0 = 0) (hs : WK (ord.take (rch L)) T frm by_ gl s) : ∃ w' b, f_X8_fits_29 (nI L) w = some (if b then 1 else 0, w') ∧ (∀ k, k ≠ 31 → w'.1 k = w.1 k) ∧ w'.2 = w.2 ∧ w'.1 31 0 = 0 ∧ (b = true ↔ InjO (ord.take (rch L)) s ∧ fitC T gens L (ord.take (rch L)) T gl s) ∧ (b = true → ∀ x, x ∈ ord.take (rch L) → w'.1 31 x = nI (s x)) := by
  have h16 := hg.1.2
  have hl4 := hO.1
  obtain ⟨hR1, hRn, hE⟩ := hO.2.2.2.1 L hL
  have hlt := walk_lt hE (Mon_T hg) (fun l hl => (hgo l hl).2) hs
  have key : ∀ k i M w1 f, i + k = rch L → 1 ≤ i → k < f → (∀ k, k ≠ 31 → w1.1 k = w.1 k) → w1.2 = w.2 → w1.1 31 0 = 0 → (∀ (j x : Nat), j < i → ord[j]? = some x → w1.1 31 x = nI (s x)) → M < 2 ^ 16 → (∀ y, M.testBit y = true ↔ ∃ (j x : Nat), j < i ∧ ord[j]? = some x ∧ s x = y) → (∀ (j j' x x' : Nat), j < i → j' < i → ord[j]? = some x → ord[j']? = some x' → s x = s x' → x = x') →
      ∃ w', (∀ k, k ≠ 31 → w'.1 k = w.1 k) ∧ w'.2 = w.2 ∧ w'.1 31 0 = 0 ∧ ((f_X8_fits_29_L15 f (nI L) (nI (rch L)) (nI M) (nI i) w1 = f_X8_fits_29_L118 FU (nI L) (nI (rch L)) 0 w' ∧ (∀ x, x ∈ ord.take (rch L) → w'.1 31 x = nI (s x)) ∧ InjO (ord.take (rch L)) s) ∨ (f_X8_fits_29_L15 f (nI L) (nI (rch L)) (nI M) (nI i) w1 = some (0, w') ∧ ¬ InjO (ord.take (rch L)) s)) := by
    intro k
    induction k with
    | zero =>
      intro i M w1 f hi h1 hf k1 k2 k3 k4 hM k5 k6
      obtain ⟨f, rfl⟩ : ∃ q, f = q + 1 := ⟨f - 1, by omega⟩
      have e : i = rch L := by omega
      refine ⟨w1, k1, k2, k3, Or.inl ⟨?_, fun x hx => ?_, fun x y hx hy e => ?_⟩⟩
      · show f_X8_fits_29_B15b (f_X8_fits_29_L15 f) (nI L) (nI (rch L)) (nI M) (nI i) w1 = _
        unfold f_X8_fits_29_B15b
        rw [if_pos (nI_le (by omega) (by omega))]
      · obtain ⟨j, hj⟩ := List.getElem?_of_mem hx
        obtain ⟨j1, j2⟩ := take_get hj
        exact k4 j x (by omega) j1
      · obtain ⟨j, hj⟩ := List.getElem?_of_mem hx
        obtain ⟨j1, j2⟩ := take_get hj
        obtain ⟨j', hj'⟩ := List.getElem?_of_mem hy
        obtain ⟨j3, j4⟩ := take_get hj'
        exact k6 j j' x y (by omega) (by omega) j1 j3 e
    | succ k ih =>
      intro i M w1 f hi h1 hf k1 k2 k3 k4 hM k5 k6
      obtain ⟨f, rfl⟩ : ∃ q, f = q + 1 := ⟨f - 1, by omega⟩
      have hin : i < ord.length := by rw [hO.2.2.1]; omega
      have ei := List.getElem?_eq_getElem hin
      obtain ⟨x, hx⟩ : ∃ x, x = ord[i] := ⟨_, rfl⟩
      rw [← hx] at ei
      have ei' := get_take ei (show i < rch L by omega)
      obtain ⟨i', y, g, i1, i2, i3, i4, i5, i6⟩ := hE.2.2.2.1 i x (by omega) ei'
      obtain ⟨i2', i2''⟩ := take_get i2
      have hxn := hE.2.1 x (List.mem_of_getElem? ei')
      have hyn := hE.2.1 y (List.mem_of_getElem? i2)
      have hsx := hs.2 i x (by omega) ei'
      have hsy := hlt _ _ i2
      have hsxl := hlt _ _ ei'
      have hGw : GX w1 n T iv := GX_cong hG (k1 6 (by decide)) (k1 9 (by decide)) (k1 10 (by decide))
      have hbx := (hB.2.2 i x ei).2 (by omega)
      have e1 : w1.1 16 i = nI x := by rw [k1 16 (by decide)]; exact (hB.2.2 i x ei).1
      have e2 : w1.1 17 x = nI y := by rw [k1 17 (by decide), hbx.1, i3]
      have e3 : w1.1 31 y = nI (s y) := k4 i' y i1 i2'
      have e4 : w1.1 18 x = nI (by_ x) := by rw [k1 18 (by decide)]; exact hbx.2
      have e5 : w1.1 30 (by_ x) = nI (gl (by_ x)) := by rw [k1 30 (by decide)]; exact (hgo _ i4).1
      have hr1 : w1.1 29 4 = w.1 29 4 := by rw [k1 29 (by decide)]
      have hsx' : s x = T (s y) (gl (by_ x)) := by rw [hsx, i3]
      obtain ⟨w7, hw7⟩ : ∃ w7, w7 = sI w1 31 x (nI (s x)) := ⟨_, rfl⟩
      have q1 : ∀ k, k ≠ 31 → w7.1 k = w.1 k := fun k hk => by rw [hw7, ← k1 k hk]; funext j; rw [sI_at]; simp [hk]
      have q2 : w7.2 = w.2 := by rw [hw7]; exact k2
      have ex7 : w7.1 31 x = nI (s x) := by rw [hw7, sI_at]; simp
      have q3 : w7.1 31 0 = 0 := by
        rw [hw7, sI_at, if_neg]
        · exact k3
        · rintro ⟨-, h⟩
          exact nd_ne hE.1 hE.2.2.1 ei' (by omega) h
      have q4 : ∀ (j z : Nat), j < i + 1 → ord[j]? = some z → w7.1 31 z = nI (s z) := fun j z hj hz => by
        by_cases c : j = i
        · subst c; rw [ei] at hz; rw [← Option.some.inj hz]; exact ex7
        · rw [hw7, sI_at, if_neg]
          · exact k4 j z (by omega) hz
          · rintro ⟨-, h⟩
            exact nd_ne hE.1 (get_take hz (by omega)) ei' c h
      have st : f_X8_fits_29_L15 (f + 1) (nI L) (nI (rch L)) (nI M) (nI i) w1 = if M.testBit (s x) then some (0, w7) else f_X8_fits_29_L15 f (nI L) (nI (rch L)) (nI (M ||| 2 ^ s x)) (nI (i + 1)) w7 := by
        show f_X8_fits_29_B15b (f_X8_fits_29_L15 f) (nI L) (nI (rch L)) (nI M) (nI i) w1 = _
        unfold f_X8_fits_29_B15b
        rw [if_neg (nI_ge (a := i) (by omega) (by omega)), m_rd (by omega) (by decide), e1, m_rd (by omega) (by decide), e2, m_rd (by omega) (by decide), e3, m_rd (by omega) (by decide), e4, m_rd (by omega) (by decide), e5, x_joinT hGw hg (by rw [hr1]; exact hr) hsy (hgo _ i4).2, bnd_some, ← hsx', m_wr (by omega) (by decide), ← hw7, if_pos (by rw [q1 29 (by decide)]; exact hr), m_rd (by omega) (by decide), m_rd (by omega) (by decide), ex7, m_shl1 (by omega), m_or, nI_1]
        simp only [x_bit0 (lt31 hM) (show s x < 31 by omega)]
        cases M.testBit (s x) <;> simp
      cases hb : M.testBit (s x) with
      | true =>
        rw [hb, if_pos rfl] at st
        refine ⟨w7, q1, q2, q3, Or.inr ⟨st, fun hinj => ?_⟩⟩
        obtain ⟨j, z, j1, j2, j3⟩ := (k5 _).mp hb
        have := hinj z x (List.mem_of_getElem? (get_take j2 (by omega))) (List.mem_of_getElem? ei') j3
        exact nd_ne hE.1 (get_take j2 (by omega)) ei' (by omega) this
      | false =>
        rw [hb, if_neg Bool.false_ne_true] at st
        rw [st]
        have hnew : ∀ (j z : Nat), j < i → ord[j]? = some z → s z ≠ s x := fun j z hj hz e => by
          rw [(k5 _).mpr ⟨j, z, hj, hz, e⟩] at hb; cases hb
        refine ih (i + 1) (M ||| 2 ^ s x) w7 f (by omega) (by omega) (by omega) q1 q2 q3 q4 (or2_lt hM (by omega)) (fun y => ?_) (fun j j' z z' a1 a2 a3 a4 a5 => ?_)
        · rw [sb_or, k5]
          constructor
          · rintro (⟨j, z, a, b, c⟩ | a)
            · exact ⟨j, z, by omega, b, c⟩
            · exact ⟨i, x, by omega, ei, a.symm⟩
          · rintro ⟨j, z, a, b, c⟩
            by_cases d : j = i
            · subst d; rw [ei] at b; rw [← Option.some.inj b] at c; exact Or.inr c.symm
            · exact Or.inl ⟨j, z, by omega, b, c⟩
        · by_cases d : j = i
          · subst d
            rw [ei] at a3
            have a3 := Option.some.inj a3
            subst a3
            by_cases d' : j' = j
            · subst d'; rw [ei] at a4; exact Option.some.inj a4
            · exact absurd a5.symm (hnew j' z' (by omega) a4)
          · by_cases d' : j' = i
            · subst d'
              rw [ei] at a4
              have a4 := Option.some.inj a4
              subst a4
              exact absurd a5 (hnew j z (by omega) a3)
            · exact k6 j j' z z' (by omega) (by omega) a3 a4 a5
  have hgl := List.getElem?_eq_getElem hL
  have hrc := (hB.2.1 L _ hgl).2
  have ho0 : ord[0]? = some 0 := (take_get hE.2.2.1).1
  obtain ⟨w', g1, g2, g3, g4⟩ := key (rch L - 1) 1 1 w FU (by omega) (by omega) (FU_big (by omega)) (fun _ _ => rfl) rfl h0 (fun j x hj hx => by
      rw [show j = 0 by omega, ho0] at hx
      rw [← Option.some.inj hx, hs.1]; exact h0) (by decide) (fun y => by
      rw [show (1 : Nat) = 2 ^ 0 from rfl, two_bit]
      constructor
      · intro h; subst h; exact ⟨0, 0, by omega, ho0, hs.1⟩
      · rintro ⟨j, x, a, b, c⟩
        rw [show j = 0 by omega, ho0] at b
        rw [← Option.some.inj b, hs.1] at c; exact c) (fun j j' x x' a b c d _ => by
      rw [show j = 0 by omega] at c
      rw [show j' = 0 by omega] at d
      rw [c] at d
      exact Option.some.inj d)
  have e0 : f_X8_fits_29 (nI L) w = f_X8_fits_29_L15 FU (nI L) (nI (rch L)) (nI 1) (nI 1) w := by
    unfold f_X8_fits_29
    rw [m_rd (by omega) (by decide), hrc]
    rfl
  rw [e0]
  rcases g4 with ⟨a1, a2, a3⟩ | ⟨a1, a2⟩
  · obtain ⟨b, b1, b2⟩ := x_chk29 (gl := gl) (s := s) (GX_cong hG (g1 6 (by decide)) (g1 9 (by decide)) (g1 10 (by decide))) hg (by rw [g1 29 (by decide)]; exact hr) (BX_cong hB (by rw [g1 13 (by decide)]) (g1 14 (by decide)) (g1 15 (by decide)) (g1 16 (by decide)) (g1 17 (by decide)) (g1 18 (by decide))) hO hL (fun l hl => by rw [g1 30 (by decide)]; exact hgo l hl) (fun x hx => ⟨a2 x hx, walk_mem_lt hE (Mon_T hg) (fun l hl => (hgo l hl).2) hs hx⟩)
    exact ⟨w', b, a1.trans b1, g1, g2, g3, by rw [b2]; exact ⟨fun h => ⟨a3, h⟩, fun h => h.2⟩, fun _ => a2⟩
  · exact ⟨w', false, a1, g1, g2, g3, ⟨fun h => absurd h Bool.false_ne_true, fun h => absurd h.1 a2⟩, fun h => absurd h Bool.false_ne_true⟩
theorem x_fitR {w : Wd} (hG : GX w n T iv) (hg : Gp n T iv) (hr : w.1 34 4 = nI m) (h0m : 0 < m) (hm : m ≤ 16) (hB : BX w gens ord frm by_ rch) (hO : BO n T gens ord frm by_ rch) (hL : L < gens.length) (hgo : ∀ l, l ≤ L → w.1 35 l = nI (gl l) ∧ gl l < m) (h0 : w.1 36 0 = 0) (hs : WK (ord.take (rch L)) (adm m) frm by_ gl s) : ∃ w' b, f_X8_fits_34 (nI L) w = some (if b then 1 else 0, w') ∧ (∀ k, k ≠ 36 → w'.1 k = w.1 k) ∧ w'.2 = w.2 ∧ w'.1 36 0 = 0 ∧ (b = true ↔ fitC T gens L (ord.take (rch L)) (adm m) gl s) ∧ ∀ x, x ∈ ord.take (rch L) → w'.1 36 x = nI (s x) := by
  have h16 := hg.1.2
  have hl4 := hO.1
  obtain ⟨hR1, hRn, hE⟩ := hO.2.2.2.1 L hL
  have hlt := walk_lt hE (Mon_add h0m) (fun l hl => (hgo l hl).2) hs
  have key : ∀ k i M w1 f, i + k = rch L → 1 ≤ i → k < f → (∀ k, k ≠ 36 → w1.1 k = w.1 k) → w1.2 = w.2 → w1.1 36 0 = 0 → (∀ (j x : Nat), j < i → ord[j]? = some x → w1.1 36 x = nI (s x)) →
      ∃ w', (∀ k, k ≠ 36 → w'.1 k = w.1 k) ∧ w'.2 = w.2 ∧ w'.1 36 0 = 0 ∧ f_X8_fits_34_L15 f (nI L) (nI (rch L)) M (nI i) w1 = f_X8_fits_34_L118 FU (nI L) (nI (rch L)) 0 w' ∧ ∀ x, x ∈ ord.take (rch L) → w'.1 36 x = nI (s x) := by
    intro k
    induction k with
    | zero =>
      intro i M w1 f hi h1 hf k1 k2 k3 k4
      obtain ⟨f, rfl⟩ : ∃ q, f = q + 1 := ⟨f - 1, by omega⟩
      refine ⟨w1, k1, k2, k3, ?_, fun x hx => ?_⟩
      · show f_X8_fits_34_B15b (f_X8_fits_34_L15 f) (nI L) (nI (rch L)) M (nI i) w1 = _
        unfold f_X8_fits_34_B15b
        rw [if_pos (nI_le (by omega) (by omega))]
      · obtain ⟨j, hj⟩ := List.getElem?_of_mem hx
        obtain ⟨j1, j2⟩ := take_get hj
        exact k4 j x (by omega) j1
    | succ k ih =>
      intro i M w1 f hi h1 hf k1 k2 k3 k4
      obtain ⟨f, rfl⟩ : ∃ q, f = q + 1 := ⟨f - 1, by omega⟩
      have hin : i < ord.length := by rw [hO.2.2.1]; omega
      have ei := List.getElem?_eq_getElem hin
      obtain ⟨x, hx⟩ : ∃ x, x = ord[i] := ⟨_, rfl⟩
      rw [← hx] at ei
      have ei' := get_take ei (show i < rch L by omega)
      obtain ⟨i', y, g, i1, i2, i3, i4, i5, i6⟩ := hE.2.2.2.1 i x (by omega) ei'
      obtain ⟨i2', i2''⟩ := take_get i2
      have hxn := hE.2.1 x (List.mem_of_getElem? ei')
      have hyn := hE.2.1 y (List.mem_of_getElem? i2)
      have hsx := hs.2 i x (by omega) ei'
      have hsy := hlt _ _ i2
      have hsxl := hlt _ _ ei'
      have hGw : GX w1 n T iv := GX_cong hG (k1 6 (by decide)) (k1 9 (by decide)) (k1 10 (by decide))
      have hbx := (hB.2.2 i x ei).2 (by omega)
      have e1 : w1.1 16 i = nI x := by rw [k1 16 (by decide)]; exact (hB.2.2 i x ei).1
      have e2 : w1.1 17 x = nI y := by rw [k1 17 (by decide), hbx.1, i3]
      have e3 : w1.1 36 y = nI (s y) := k4 i' y i1 i2'
      have e4 : w1.1 18 x = nI (by_ x) := by rw [k1 18 (by decide)]; exact hbx.2
      have e5 : w1.1 35 (by_ x) = nI (gl (by_ x)) := by rw [k1 35 (by decide)]; exact (hgo _ i4).1
      have hr1 : w1.1 34 4 = w.1 34 4 := by rw [k1 34 (by decide)]
      have hsx' : s x = (adm m) (s y) (gl (by_ x)) := by rw [hsx, i3]
      obtain ⟨w7, hw7⟩ : ∃ w7, w7 = sI w1 36 x (nI (s x)) := ⟨_, rfl⟩
      have q1 : ∀ k, k ≠ 36 → w7.1 k = w.1 k := fun k hk => by rw [hw7, ← k1 k hk]; funext j; rw [sI_at]; simp [hk]
      have q2 : w7.2 = w.2 := by rw [hw7]; exact k2
      have ex7 : w7.1 36 x = nI (s x) := by rw [hw7, sI_at]; simp
      have q3 : w7.1 36 0 = 0 := by
        rw [hw7, sI_at, if_neg]
        · exact k3
        · rintro ⟨-, h⟩
          exact nd_ne hE.1 hE.2.2.1 ei' (by omega) h
      have q4 : ∀ (j z : Nat), j < i + 1 → ord[j]? = some z → w7.1 36 z = nI (s z) := fun j z hj hz => by
        by_cases c : j = i
        · subst c; rw [ei] at hz; rw [← Option.some.inj hz]; exact ex7
        · rw [hw7, sI_at, if_neg]
          · exact k4 j z (by omega) hz
          · rintro ⟨-, h⟩
            exact nd_ne hE.1 (get_take hz (by omega)) ei' c h
      obtain ⟨w', a1, a2, a3, a4, a5⟩ := ih (i + 1) (M ||| (1 <<< (nI (s x) &&& 31))) w7 f (by omega) (by omega) (by omega) q1 q2 q3 q4
      refine ⟨w', a1, a2, a3, ?_, a5⟩
      rw [← a4]
      show f_X8_fits_34_B15b (f_X8_fits_34_L15 f) (nI L) (nI (rch L)) M (nI i) w1 = _
      unfold f_X8_fits_34_B15b
      have hr7 : w7.1 34 4 = nI m := by rw [q1 34 (by decide)]; exact hr
      rw [if_neg (nI_ge (a := i) (by omega) (by omega)), m_rd (by omega) (by decide), e1, m_rd (by omega) (by decide), e2, m_rd (by omega) (by decide), e3, m_rd (by omega) (by decide), e4, m_rd (by omega) (by decide), e5, x_joinR (by rw [hr1]; exact hr) h0m hm hsy (hgo _ i4).2, bnd_some, ← hsx', m_wr (by omega) (by decide), ← hw7, hr7, if_neg (nI_ne0 h0m (by omega)), m_rd (by omega) (by decide), ex7, nI_1]
  have hgl := List.getElem?_eq_getElem hL
  have hrc := (hB.2.1 L _ hgl).2
  have ho0 : ord[0]? = some 0 := (take_get hE.2.2.1).1
  obtain ⟨w', g1, g2, g3, a1, a2⟩ := key (rch L - 1) 1 (nI 1) w FU (by omega) (by omega) (FU_big (by omega)) (fun _ _ => rfl) rfl h0 (fun j x hj hx => by
      rw [show j = 0 by omega, ho0] at hx
      rw [← Option.some.inj hx, hs.1]; exact h0)
  have e0 : f_X8_fits_34 (nI L) w = f_X8_fits_34_L15 FU (nI L) (nI (rch L)) (nI 1) (nI 1) w := by
    unfold f_X8_fits_34
    rw [m_rd (by omega) (by decide), hrc]
    rfl
  rw [e0]
  obtain ⟨b, b1, b2⟩ := x_chk34 (gl := gl) (s := s) (GX_cong hG (g1 6 (by decide)) (g1 9 (by decide)) (g1 10 (by decide))) hg (by rw [g1 34 (by decide)]; exact hr) h0m hm (BX_cong hB (by rw [g1 13 (by decide)]) (g1 14 (by decide)) (g1 15 (by decide)) (g1 16 (by decide)) (g1 17 (by decide)) (g1 18 (by decide))) hO hL (fun l hl => by rw [g1 35 (by decide)]; exact hgo l hl) (fun x hx => ⟨a2 x hx, walk_mem_lt hE (Mon_add h0m) (fun l hl => (hgo l hl).2) hs hx⟩)
  exact ⟨w', b, a1.trans b1, g1, g2, g3, b2, a2⟩
end FITS
