/-! nth, best, mean, usual -/
theorem lnth {β : Type} (L : Nat → Nat → Nat → β) (N t : Nat) (p : Nat → Bool) (hit : Nat → β) (out : β)
    (h0 : ∀ f j a, j < N → a ≤ t → p j = false → L (f + 1) j a = L f (j + 1) a)
    (h1 : ∀ f j a, j < N → a < t → p j = true → L (f + 1) j a = L f (j + 1) (a + 1))
    (h2 : ∀ f j, j < N → p j = true → L (f + 1) j t = hit j) (hd : ∀ f a, L (f + 1) N a = out) :
    ∀ k j a f, j + k = N → k < f → a ≤ t → L f j a = selO (((List.range' j k).filter p)[t - a]?) hit out := by
  intro k
  induction k with
  | zero =>
    intro j a f hj hf ha
    obtain ⟨f, rfl⟩ : ∃ q, f = q + 1 := ⟨f - 1, by omega⟩
    have e : j = N := by omega
    subst e
    rw [hd f a]; rfl
  | succ k ih =>
    intro j a f hj hf ha
    obtain ⟨f, rfl⟩ : ∃ q, f = q + 1 := ⟨f - 1, by omega⟩
    rw [List.range'_succ, List.filter_cons]
    cases c : p j with
    | false => rw [if_neg Bool.false_ne_true, h0 f j a (by omega) ha c]; exact ih (j + 1) a f (by omega) (by omega) ha
    | true =>
      rw [if_pos rfl]
      rcases Nat.lt_or_ge a t with q | q
      · rw [h1 f j a (by omega) q c, ih (j + 1) (a + 1) f (by omega) (by omega) (by omega), show t - a = (t - (a + 1)) + 1 by omega, List.getElem?_cons_succ]
      · have e : a = t := by omega
        subst e
        rw [h2 f j (by omega) c, Nat.sub_self]; rfl
theorem selO_map {β : Type} (g : Nat → Nat) (o : Option Nat) (hit : Nat → β) (out : β) : selO o (fun j => hit (g j)) out = selO (o.map g) hit out := by cases o <;> rfl
section COUNTED2
variable {n : Nat} {T : Nat → Nat → Nat} {iv : Nat → Nat}
theorem FL_filter (q : Nat → Bool) : ((List.range' 0 (FL n T).length).filter (fun j => q ((FL n T).getD j 0))).map (fun j => (FL n T).getD j 0) = (List.range' 0 (2 ^ n)).filter (fun i => q i && fr n T i) := by
  rw [← List.range_eq_range', ← List.range_eq_range']
  have h1 : (List.range (FL n T).length).filter (fun j => q ((FL n T).getD j 0)) = (List.range (FL n T).length).filter (q ∘ fun j => (FL n T).getD j 0) := rfl
  rw [h1, ← List.filter_map, ← list_getD]
  unfold FL FLe
  rw [List.filter_filter]
theorem c_nth {w : Wd} (hG : GX w n T iv) (hM : GM w n T iv) (hg : Gp n T iv) (hF : (FL n T).length < 3072) (hI : FRI n T w) (a b c : Int32) : ∃ r w1, f_X11_nth a b c w = some (r, w1) ∧ f_X12_nth a b c w1 = some r ∧ frD n T w w1 := by
  have h16 := hg.1.2
  have h65 := p16 h16
  unfold f_X11_nth f_X12_nth
  rcases kind_or a with ⟨k, hk, rfl, e1, e2⟩ | ⟨e1, e2⟩
  · simp only [e1, e2, one_ne, ↓reduceIte]
    by_cases hb : b < 0
    · simp only [hb, ↓reduceIte]
      exact ⟨-1, w, rfl, rfl, frD_rfl hI⟩
    · simp only [hb, ↓reduceIte]
      have hb1 : ¬ b = -1 := fun h => hb (h ▸ by decide)
      by_cases hc : (0 : Int32) ≤ c
      · simp only [hc, ↓reduceIte]
        obtain ⟨t, ht, rfl⟩ := nI_of (x := c) (by rw [Int32.not_lt]; exact hc)
        obtain ⟨w1, t1, t2, t3, t4⟩ := x_total hG hg hF hI
        have hM1 := GM_frees hM t3
        rw [t1, bnd2_some]
        have kx := lnth (fun f j a => f_X11_nth_L32 f (nI k) b (nI t) (nI a) (nI (FL n T).length) (nI j) w1) (FL n T).length t (fun j => fts n T k b ((FL n T).getD j 0)) (fun j => some (nI ((FL n T).getD j 0), w1)) (some (-2, w1)) ?_ ?_ ?_ ?_ (FL n T).length 0 0 FU (by omega) (FU_big (by omega)) (by omega)
        · have ky := lnth (fun f j a => f_X12_nth_L23 f (nI k) b (nI (t - a)) (nI j) w1) (2 ^ n) t (fun i => fts n T k b i && fr n T i) (fun j => some (nI j)) (some (-2)) ?_ ?_ ?_ ?_ (2 ^ n) 0 0 FU (by omega) (FU_big (by omega)) (by omega)
          · rw [Nat.sub_zero] at kx ky
            refine ⟨selO (((List.range' 0 (2 ^ n)).filter (fun i => fts n T k b i && fr n T i))[t]?) nI (-2), w1, kx.trans ?_, ky.trans ?_, frD_of t2 t3 t4⟩
            · rw [selO_map (fun j => (FL n T).getD j 0) _ (fun S => some (nI S, w1)), ← List.getElem?_map, FL_filter]
              cases ((List.range' 0 (2 ^ n)).filter (fun i => fts n T k b i && fr n T i))[t]? <;> rfl
            · cases ((List.range' 0 (2 ^ n)).filter (fun i => fts n T k b i && fr n T i))[t]? <;> rfl
          · intro f j a hj ha h
            show f_X12_nth_B23b (f_X12_nth_L23 f) (nI k) b (nI (t - a)) (nI j) w1 = _
            unfold f_X12_nth_B23b
            rw [if_neg (all_in hM1 hg hj), y_ones (le16 hj h16), bnd_some, y_isOf hM1 hg hj hk, bnd_some, nI_1]
            unfold fts at h
            by_cases c1 : fr n T j = true <;> by_cases c2 : k ≤ kd n T j <;> by_cases c4 : nI (pc j) = b <;> simp [c1, c2, c4, hb1] at h ⊢
          · intro f j a hj ha h
            show f_X12_nth_B23b (f_X12_nth_L23 f) (nI k) b (nI (t - a)) (nI j) w1 = _
            unfold f_X12_nth_B23b
            obtain ⟨m, hm⟩ : ∃ m, t - a = m + 1 := ⟨t - a - 1, by omega⟩
            rw [if_neg (all_in hM1 hg hj), y_ones (le16 hj h16), bnd_some, y_isOf hM1 hg hj hk, bnd_some, nI_1, hm, pk_m1, show t - (a + 1) = m by omega]
            unfold fts at h
            have hz : ¬ nI (m + 1) = 0 := nI_ne0 (by omega) (by omega)
            by_cases c1 : fr n T j = true <;> by_cases c2 : k ≤ kd n T j <;> by_cases c4 : nI (pc j) = b <;> simp [c1, c2, c4, hb1] at h ⊢
            simp [hz, one_ne]
          · intro f j hj h
            show f_X12_nth_B23b (f_X12_nth_L23 f) (nI k) b (nI (t - t)) (nI j) w1 = _
            unfold f_X12_nth_B23b
            rw [if_neg (all_in hM1 hg hj), y_ones (le16 hj h16), bnd_some, y_isOf hM1 hg hj hk, bnd_some, Nat.sub_self, nI_0]
            unfold fts at h
            by_cases c1 : fr n T j = true <;> by_cases c2 : k ≤ kd n T j <;> by_cases c4 : nI (pc j) = b <;> simp [c1, c2, c4, hb1] at h ⊢
          · intro f a
            show f_X12_nth_B23b (f_X12_nth_L23 f) (nI k) b (nI (t - a)) (nI (2 ^ n)) w1 = _
            unfold f_X12_nth_B23b
            rw [if_pos (all_end hM1 hg)]
        · intro f j a hj ha h
          show f_X11_nth_B32b (f_X11_nth_L32 f) (nI k) b (nI t) (nI a) (nI (FL n T).length) (nI j) w1 = _
          unfold f_X11_nth_B32b
          rw [if_neg (nI_ge hj (by omega)), x_fits t2 h16 hF hj hk, bnd_some, h, if_neg Bool.false_ne_true, if_pos rfl, nI_1]
        · intro f j a hj ha h
          show f_X11_nth_B32b (f_X11_nth_L32 f) (nI k) b (nI t) (nI a) (nI (FL n T).length) (nI j) w1 = _
          unfold f_X11_nth_B32b
          rw [if_neg (nI_ge hj (by omega)), x_fits t2 h16 hF hj hk, bnd_some, h, if_pos rfl, if_neg one_ne, if_neg (by rw [m_inj (by omega) ht]; omega), nI_1, nI_1]
        · intro f j hj h
          show f_X11_nth_B32b (f_X11_nth_L32 f) (nI k) b (nI t) (nI t) (nI (FL n T).length) (nI j) w1 = _
          unfold f_X11_nth_B32b
          rw [if_neg (nI_ge hj (by omega)), x_fits t2 h16 hF hj hk, bnd_some, h, if_pos rfl, if_neg one_ne, if_pos rfl, x_setAt t2 h16 hF hj, bnd_some]
        · intro f a
          show f_X11_nth_B32b (f_X11_nth_L32 f) (nI k) b (nI t) (nI a) (nI (FL n T).length) (nI (FL n T).length) w1 = _
          unfold f_X11_nth_B32b
          rw [if_pos (nI_le (Nat.le_refl _) (by omega))]
      · simp only [hc, ↓reduceIte]
        exact ⟨-1, w, rfl, rfl, frD_rfl hI⟩
  · exact ⟨-1, w, by simp only [e1, ↓reduceIte], by simp only [e2, ↓reduceIte], frD_rfl hI⟩
/-! weights -/
def wt (v : Nat → Int32) (e : Nat) : Nat := (v e).toNatClampNeg
theorem wt_ok {v : Nat → Int32} (hv : ∀ p, p < 20 → pok n p (v p)) {e : Nat} (he : e < 16) : v e = nI (wt v e) ∧ wt v e ≤ 9 := by
  obtain ⟨x, h1, h2⟩ := (hv e (by omega)).2 he
  unfold wt
  rw [h2, nI_clamp (by omega)]
  exact ⟨rfl, h1⟩
def wsm (v : Nat → Int32) (S : Nat) : Nat := sumF (fun e => if S.testBit e then wt v e else 0) 16
theorem sumF_z {f : Nat → Nat} {m : Nat} : ∀ {k}, (∀ e, m ≤ e → e < m + k → f e = 0) → sumF f (m + k) = sumF f m := by
  intro k
  induction k with
  | zero => intro _; rfl
  | succ k ih =>
    intro h
    rw [show m + (k + 1) = (m + k) + 1 by omega, sumF_succ, ih (fun e h1 h2 => h e h1 (by omega)), h (m + k) (by omega) (by omega)]
    rfl
theorem wsm_le {v : Nat → Int32} (hv : ∀ p, p < 20 → pok n p (v p)) (S : Nat) : wsm v S ≤ 144 := by
  have := sumF_le (f := fun e => if S.testBit e then wt v e else 0) (c := 9) (n := 16) (fun e he => by
    have := (wt_ok hv he).2
    split <;> omega)
  exact this
theorem wsm_n {v : Nat → Int32} {S : Nat} (hS : S < 2 ^ n) (hn : n ≤ 16) : wsm v S = sumF (fun e => if S.testBit e then wt v e else 0) n := by
  unfold wsm
  have := sumF_z (f := fun e => if S.testBit e then wt v e else 0) (m := n) (k := 16 - n) (fun e h1 _ => by
    rw [if_neg]
    intro h
    have := bit_lt hS h
    omega)
  rw [show n + (16 - n) = 16 by omega] at this
  exact this
theorem x_weight {w : Wd} {v : Nat → Int32} {H : List (Nat × Int32)} (h : AX w v H) (hv : ∀ p, p < 20 → pok n p (v p)) {S : Nat} (hS : S < 2 ^ 16) : f_X0_weightOf (nI S) w = some (nI (wsm v S)) := by
  unfold f_X0_weightOf
  have key := lup (fun f i (acc : Nat) => f_X0_weightOf_L4 f (nI S) (nI acc) (nI i) w) 16 (fun e acc => acc + if S.testBit e then wt v e else 0) (fun acc => some (nI acc)) (fun _ _ => True) ?_ (fun _ _ _ _ => trivial) ?_ 16 0 0 FU (by omega) (FU_big (by omega)) trivial
  · have := key.1
    rw [rng_add, Nat.zero_add] at this
    exact this
  · intro f i acc hi _
    show f_X0_weightOf_B4b (f_X0_weightOf_L4 f) (nI S) (nI acc) (nI i) w = _
    unfold f_X0_weightOf_B4b
    rw [if_neg (show ¬ (16 : Int32) ≤ nI i from nI_ge (b := 16) hi (by decide)), nI_1]
    cases hb : S.testBit i with
    | true => rw [if_neg (by rw [x_bit0 (lt31 hS) (by omega), hb]; decide), m_rd (by omega) (by decide), h.1 i (by omega), (wt_ok hv hi).1, nI_add]; rfl
    | false => rw [if_pos ((x_bit0 (lt31 hS) (by omega)).mpr hb)]; rfl
  · intro f acc _
    show f_X0_weightOf_B4b (f_X0_weightOf_L4 f) (nI S) (nI acc) (nI 16) w = _
    unfold f_X0_weightOf_B4b
    rw [if_pos (show (16 : Int32) ≤ nI 16 from nI_le (a := 16) (by decide) (by decide))]
theorem y_weight {w : Wd} {v : Nat → Int32} {H : List (Nat × Int32)} (h : AM w v H) (hM : GM w n T iv) (hg : Gp n T iv) (hv : ∀ p, p < 20 → pok n p (v p)) {S : Nat} (hS : S < 2 ^ n) : f_X12_weightOf (nI S) w = some (nI (wsm v S)) := by
  have h16 := hg.1.2
  have h31 := lt31 (le16 hS h16)
  unfold f_X12_weightOf
  have key := lup (fun f i (acc : Nat) => f_X12_weightOf_L4 f (nI S) (nI acc) (nI i) w) n (fun e acc => acc + if S.testBit e then wt v e else 0) (fun acc => some (nI acc)) (fun _ _ => True) ?_ (fun _ _ _ _ => trivial) ?_ n 0 0 FU (by omega) (FU_big (by omega)) trivial
  · have := key.1
    rw [rng_add, Nat.zero_add, ← wsm_n hS h16] at this
    exact this
  · intro f i acc hi _
    show f_X12_weightOf_B4b (f_X12_weightOf_L4 f) (nI S) (nI acc) (nI i) w = _
    unfold f_X12_weightOf_B4b
    rw [hM.1, if_neg (nI_ge hi (by omega)), nI_1]
    cases hb : S.testBit i with
    | true =>
      have egs : gs (4 + i) = i := by unfold gs; rw [if_neg (by omega), if_neg (by omega)]; omega
      rw [if_neg (by rw [y_has0 h31 (by omega), hb]; decide), show (4 : Int32) + nI i = nI (4 + i) from nI_add 4 i, y_row h (by omega), egs, (wt_ok hv (by omega)).1, nI_add]; rfl
    | false => rw [if_pos ((y_has0 h31 (by omega)).mpr hb)]; rfl
  · intro f acc _
    show f_X12_weightOf_B4b (f_X12_weightOf_L4 f) (nI S) (nI acc) (nI n) w = _
    unfold f_X12_weightOf_B4b
    rw [hM.1, if_pos (nI_le (Nat.le_refl _) (by omega))]
def bsS (v : Nat → Int32) (S : Nat) (s : Nat × Nat) : Nat × Nat := if s.1 < wsm v S then (wsm v S, S) else s
theorem wsm_zero {v : Nat → Int32} : wsm v 0 = 0 := by
  unfold wsm
  have := sumF_z (f := fun e => if (0 : Nat).testBit e then wt v e else 0) (m := 0) (k := 16) (fun e _ _ => by simp)
  exact this
theorem c_best {w : Wd} {v : Nat → Int32} {H : List (Nat × Int32)} (hG : GX w n T iv) (hM : GM w n T iv) (hg : Gp n T iv) (hF : (FL n T).length < 3072) (hI : FRI n T w) (hA : ACT n w v H) (a : Int32) : ∃ r w1, f_X11_best a w = some (r, w1) ∧ f_X12_best a w1 = some r ∧ frD n T w w1 := by
  have h16 := hg.1.2
  unfold f_X11_best f_X12_best
  rcases tri_or a (lo := 0) (hi := 1) (by decide) (by decide) with ⟨q, -, hq, rfl⟩ | h | ⟨q1, q2, q3, q4, q5⟩
  · obtain ⟨w1, t1, t2, t3, t4⟩ := x_total hG hg hF hI
    have hM1 := GM_frees hM t3
    have hX := AX_cong hA.1 (t3 37 (by decide) (by decide)) (t3 38 (by decide) (by decide)) (t3 39 (by decide) (by decide)) (t3 40 (by decide) (by decide))
    have hY := AM_cong hA.2.1 (t3 54 (by decide) (by decide)) (t3 55 (by decide) (by decide)) (by rw [t3 44 (by decide) (by decide)])
    have hv := hA.2.2.1
    have hz : ∀ x y : Int32, (if nI q = 0 then x else y) = (if q = 0 then x else y) := fun x y => by simp only [nIz (show q < 2 ^ 31 by omega)]
    have c1 : f_X12_in (nI q) 0 1 = 1 := by
      unfold f_X12_in
      rw [if_neg (nI_pos (by omega)), if_neg (show ¬ (1 : Int32) < nI q from nI_nlt (a := 1) (by omega) (by omega))]
    have hp := FL_pos (n := n) (T := T)
    obtain ⟨F, hFU⟩ : ∃ F, FU = F + 1 := ⟨FU - 1, by have := FU_big (n := 0) (by decide); omega⟩
    have hFb : (FL n T).length < F := by have := FU_big (n := 5000) (by decide); omega
    refine ⟨if q = 0 then nI (FS n T (bsS v) (0, 0)).1 else nI (FS n T (bsS v) (0, 0)).2, w1, ?_, ?_, frD_of t2 t3 t4⟩
    · rw [if_neg (nI_pos (by omega)), if_pos (show nI q ≤ (1 : Int32) from nI_le hq (by decide)), t1, bnd2_some]
      have st : f_X11_best_L27 FU (nI q) (-1) 0 (nI (FL n T).length) 0 w1 = f_X11_best_L27 F (nI q) (nI 0) (nI 0) (nI (FL n T).length) (nI 1) w1 := by
        rw [hFU]
        show f_X11_best_B27b (f_X11_best_L27 F) (nI q) (-1) 0 (nI (FL n T).length) (nI 0) w1 = _
        unfold f_X11_best_B27b
        rw [if_neg (nI_ge hp (by omega)), x_setAt t2 h16 hF hp, bnd_some, FL_zero, x_weight hX hv (by decide), wsm_zero, bnd_some, bnd_some, if_neg (by decide), nI_1]
      rw [st]
      have key := lup (fun f i (s : Nat × Nat) => f_X11_best_L27 f (nI q) (nI s.1) (nI s.2) (nI (FL n T).length) (nI i) w1) (FL n T).length (fun i s => bsS v ((FL n T).getD i 0) s) (fun s => some (if q = 0 then nI s.1 else nI s.2, w1)) (fun _ s => s.1 ≤ 144) ?_ ?_ ?_ ((FL n T).length - 1) 1 (0, 0) F (by omega) (by omega) (by decide)
      · have h0 : rng (fun i s => bsS v ((FL n T).getD i 0) s) 1 ((FL n T).length - 1) (0, 0) = FS n T (bsS v) (0, 0) := by
          unfold FS
          rw [← rng_list]
          obtain ⟨m, hm⟩ : ∃ m, (FL n T).length = m + 1 := ⟨(FL n T).length - 1, by omega⟩
          rw [hm]
          show _ = rng (fun i s => bsS v ((FL n T).getD i 0) s) 1 m (bsS v ((FL n T).getD 0 0) (0, 0))
          rw [FL_zero]
          unfold bsS
          rw [wsm_zero]
          rfl
        rw [← h0]
        exact key.1
      · intro f i s hi hs
        have hS := (FL_get hi).1
        show f_X11_best_B27b (f_X11_best_L27 f) (nI q) (nI s.1) (nI s.2) (nI (FL n T).length) (nI i) w1 = _
        unfold f_X11_best_B27b
        rw [if_neg (nI_ge hi (by omega)), x_setAt t2 h16 hF hi, bnd_some, x_weight hX hv (le16 hS h16), bnd_some, bnd_some, nI_1]
        generalize (FL n T).getD i 0 = S at *
        have hw := wsm_le hv S
        simp only [m_le (show wsm v S < 2 ^ 31 by omega) (show s.1 < 2 ^ 31 by omega)]
        unfold bsS
        by_cases c : wsm v S ≤ s.1
        · rw [if_pos c, if_neg (by omega)]
        · rw [if_neg c, if_pos (by omega)]
      · intro i s hi hs
        have := wsm_le hv ((FL n T).getD i 0)
        unfold bsS
        split
        · exact this
        · exact hs
      · intro f s hs
        show f_X11_best_B27b (f_X11_best_L27 f) (nI q) (nI s.1) (nI s.2) (nI (FL n T).length) (nI (FL n T).length) w1 = _
        unfold f_X11_best_B27b
        rw [if_pos (nI_le (Nat.le_refl _) (by omega)), ← hz]
        split <;> rfl
    · rw [c1, if_neg one_ne]
      refine lupY (n := n) (T := T) (fun f i (s : Nat × Nat) => f_X12_best_L18 f (nI q) (nI s.2) (nI s.1) (nI i) w1) (bsS v) (fun s => some (if q = 0 then nI s.1 else nI s.2)) (fun s => s.1 ≤ 144) h16 ?_ (fun S s _ hs => by
        have := wsm_le hv S
        unfold bsS
        split
        · exact this
        · exact hs) ?_ (0, 0) (by decide)
      · intro f i s hi hs
        have hw := wsm_le hv i
        show f_X12_best_B18b (f_X12_best_L18 f) (nI q) (nI s.2) (nI s.1) (nI i) w1 = _
        unfold f_X12_best_B18b
        rw [if_neg (all_in hM1 hg hi), y_weight hY hM1 hg hv hi, bnd_some, y_isFree hM1 hg hi, bnd_some, nI_1]
        simp only [m_le (show wsm v i < 2 ^ 31 by omega) (show s.1 < 2 ^ 31 by omega)]
        unfold bsS
        by_cases c : wsm v i ≤ s.1
        · simp [c, show ¬ s.1 < wsm v i by omega]
        · cases fr n T i <;> simp [one_ne, c, show s.1 < wsm v i by omega]
      · intro f s hs
        show f_X12_best_B18b (f_X12_best_L18 f) (nI q) (nI s.2) (nI s.1) (nI (2 ^ n)) w1 = _
        unfold f_X12_best_B18b
        rw [if_pos (all_end hM1 hg), ← hz]
        split <;> rfl
  · have h : a < 0 := h
    have c1 : f_X12_in a 0 1 = 0 := by unfold f_X12_in; rw [if_pos h]
    exact ⟨-1, w, by rw [if_pos h], by rw [c1, if_pos rfl], frD_rfl hI⟩
  · have q2 : (1 : Int32) < a := q2
    have q4 : ¬ a ≤ 1 := q4
    have c1 : f_X12_in a 0 1 = 0 := by unfold f_X12_in; rw [if_neg q5, if_pos q2]
    exact ⟨-1, w, by rw [if_neg q5, if_neg q4], by rw [c1, if_pos rfl], frD_rfl hI⟩
end COUNTED2
