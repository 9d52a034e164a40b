/-! copies -/
theorem lrun {σ β : Type} (L : Nat → Nat → σ → β) (n : Nat) (out : σ → β) (I : Nat → σ → Prop)
    (hs : ∀ i s, i < n → I i s → ∃ s', I (i + 1) s' ∧ ∀ f, L (f + 1) i s = L f (i + 1) s') (hd : ∀ f s, I n s → L (f + 1) n s = out s) :
    ∀ k i s f, i + k = n → k < f → I i s → ∃ s', I n s' ∧ L f i s = out s' := by
  intro k
  induction k with
  | zero =>
    intro i s f hi hf h
    obtain ⟨f, rfl⟩ : ∃ q, f = q + 1 := ⟨f - 1, by omega⟩
    have e : i = n := by omega
    subst e
    exact ⟨s, h, hd f s h⟩
  | succ k ih =>
    intro i s f hi hf h
    obtain ⟨f, rfl⟩ : ∃ q, f = q + 1 := ⟨f - 1, by omega⟩
    obtain ⟨s', h1, h2⟩ := hs i s (by omega) h
    rw [h2 f]
    exact ih (i + 1) s' f (by omega) (by omega) h1
theorem cnt_len (p : Nat → Bool) : ∀ N, ((List.range N).filter p).length = cntB p N := by
  intro N
  induction N with
  | zero => rfl
  | succ N ih =>
    rw [List.range_succ, List.filter_append, List.length_append, ih]
    simp only [cntB]
    cases h : p N <;> simp [h]
theorem nodup_cnt {Q : List Nat} {p : Nat → Bool} {N : Nat} (h : Q.Nodup) (hm : ∀ x, x ∈ Q ↔ x < N ∧ p x = true) : Q.length = cntB p N := by
  rw [← cnt_len p N]
  apply List.Perm.length_eq
  rw [List.perm_ext_iff_of_nodup h (List.Nodup.sublist List.filter_sublist List.nodup_range)]
  intro x
  rw [hm, List.mem_filter, List.mem_range]
/-- a row of a cell holds a list -/
def rowIs (r : Nat → Int32) (Q : List Nat) : Prop := ∀ k x, Q[k]? = some x → r k = nI x
theorem rowIs_at {r : Nat → Int32} {Q : List Nat} (h : rowIs r Q) {k : Nat} (hk : k < Q.length) : r k = nI Q[k] := h k _ (List.getElem?_eq_getElem hk)
theorem rowIs_add {r r' : Nat → Int32} {Q : List Nat} {x : Nat} (h : rowIs r Q) (h1 : r' Q.length = nI x) (h2 : ∀ k, k < Q.length → r' k = r k) : rowIs r' (Q ++ [x]) := by
  intro k y hk
  by_cases c : k < Q.length
  · rw [List.getElem?_append_left c] at hk
    rw [h2 k c]; exact h k y hk
  · rw [List.getElem?_append_right (by omega)] at hk
    have : k - Q.length = 0 := by
      rcases Nat.eq_zero_or_pos (k - Q.length) with q | q
      · exact q
      · rw [List.getElem?_eq_none (by simp; omega)] at hk; cases hk
    rw [this] at hk
    cases hk
    rw [show k = Q.length by omega]; exact h1
section COPIES
variable {w : Wd} {n : Nat} {T : Nat → Nat → Nat} {iv : Nat → Nat}
theorem x_cop_in {S g c : Nat} {Q : List Nat} (hQ : Q.length ≤ 16) (hx : ∀ x, x ∈ Q → x < 2 ^ 31) (hc : c < 2 ^ 31) {w : Wd} (h : rowIs (w.1 43) Q) (k : Int32 → Int32 → Int32 → Wd → Option (Int32 × Wd)) :
    ∀ m i f, i + m = Q.length → m + 1 < f → f_X11_copies_L46 k f (nI S) (nI Q.length) (nI g) (nI c) 1 (nI i) w = if c ∈ Q.drop i then k (nI S) (nI Q.length) (nI (g + 1)) w else k (nI S) (nI (Q.length + 1)) (nI (g + 1)) (sI w 43 Q.length (nI c)) := by
  intro m
  induction m with
  | zero =>
    intro i f hi hf
    obtain ⟨f, rfl⟩ : ∃ q, f = q + 1 := ⟨f - 1, by omega⟩
    rw [List.drop_eq_nil_of_le (by omega), if_neg (by simp)]
    show f_X11_copies_B46b k (f_X11_copies_L46 k f) (nI S) (nI Q.length) (nI g) (nI c) 1 (nI i) w = _
    unfold f_X11_copies_B46b
    rw [if_pos (nI_le (by omega) (by omega)), if_neg one_ne, m_wr (by omega) (by decide), nI_1, nI_1]
  | succ m ih =>
    intro i f hi hf
    obtain ⟨f, rfl⟩ : ∃ q, f = q + 1 := ⟨f - 1, by omega⟩
    have hlt : i < Q.length := by omega
    rw [List.drop_eq_getElem_cons hlt]
    show f_X11_copies_B46b k (f_X11_copies_L46 k f) (nI S) (nI Q.length) (nI g) (nI c) 1 (nI i) w = _
    unfold f_X11_copies_B46b
    have e1 : (nI Q[i] = nI c) ↔ Q[i] = c := m_inj (hx _ (List.getElem_mem hlt)) hc
    rw [if_neg (nI_ge hlt (by omega)), if_neg one_ne, m_rd (by omega) (by decide), rowIs_at h hlt]
    simp only [nI_1]
    by_cases d : Q[i] = c
    · rw [if_pos (e1.mpr d), if_pos (by rw [d]; exact List.mem_cons_self)]
      obtain ⟨f, rfl⟩ : ∃ q, f = q + 1 := ⟨f - 1, by omega⟩
      show f_X11_copies_B46b k (f_X11_copies_L46 k f) (nI S) (nI Q.length) (nI g) (nI c) 0 (nI (i + 1)) w = _
      unfold f_X11_copies_B46b
      simp only [↓reduceIte, ite_self, nI_1]
    · rw [if_neg (fun q => d (e1.mp q)), ih (i + 1) f (by omega) (by omega)]
      simp only [List.mem_cons, Ne.symm d, false_or]
theorem x_cop (hg : Gp n T iv) {S : Nat} (hS : S < 2 ^ n) {w : Wd} (hG : GX w n T iv) : ∃ (w' : Wd) (Q : List Nat), f_X11_copies_L17 FU (nI S) (nI 0) (nI 0) w = some (nI Q.length, w') ∧ (∀ k, k ≠ 43 → w'.1 k = w.1 k) ∧ w'.2 = w.2 ∧ Q.Nodup ∧ (Q.length = cntB (fun g => allB (fun h => !decide (mv n T h S true = mv n T g S true)) g) n) := by
  have h16 := hg.1.2
  have hS6 := le16 hS h16
  have key := lrun (fun f i (s : Wd × List Nat) => f_X11_copies_L17 f (nI S) (nI s.2.length) (nI i) s.1) n (fun s => some (nI s.2.length, s.1)) (fun i s => (∀ k, k ≠ 43 → s.1.1 k = w.1 k) ∧ s.1.2 = w.2 ∧ rowIs (s.1.1 43) s.2 ∧ s.2.Nodup ∧ (∀ x, x ∈ s.2 ↔ ∃ h, h < i ∧ mv n T h S true = x) ∧ s.2.length ≤ i ∧ s.2.length = cntB (fun g => allB (fun h => !decide (mv n T h S true = mv n T g S true)) g) i) ?_ ?_ n 0 (w, []) FU (by omega) (FU_big (by omega)) ⟨fun _ _ => rfl, rfl, fun k x h => by simp at h, List.nodup_nil, fun x => by simp, by simp, rfl⟩
  · obtain ⟨⟨w', Q⟩, h1, h2⟩ := key
    exact ⟨w', Q, h2, h1.1, h1.2.1, h1.2.2.2.1, h1.2.2.2.2.2.2⟩
  · rintro i ⟨w1, Q⟩ hi ⟨h1, h2, h3, h4, h5, h6, h7⟩
    have hG1 : GX w1 n T iv := GX_cong hG (h1 6 (by decide)) (h1 9 (by decide)) (h1 10 (by decide))
    have hc := lt31 (le16 (mv_lt hg hi (S := S) (left := true)) h16)
    have hxs : ∀ x, x ∈ Q → x < 2 ^ 31 := fun x hx => by
      obtain ⟨h, hh, rfl⟩ := (h5 x).mp hx
      exact lt31 (le16 (mv_lt hg (by omega)) h16)
    have st : ∀ f, f_X11_copies_L17 (f + 1) (nI S) (nI Q.length) (nI i) w1 = if mv n T i S true ∈ Q then f_X11_copies_L17 f (nI S) (nI Q.length) (nI (i + 1)) w1 else f_X11_copies_L17 f (nI S) (nI (Q.length + 1)) (nI (i + 1)) (sI w1 43 Q.length (nI (mv n T i S true))) := by
      intro f
      show f_X11_copies_B17b (f_X11_copies_L17 f) (nI S) (nI Q.length) (nI i) w1 = _
      unfold f_X11_copies_B17b
      rw [hG1.1, if_neg (nI_ge hi (by omega)), x_mvL hG1 hg hi hS6, bnd_some]
      exact x_cop_in (by dsimp only at h6; omega) hxs hc h3 (f_X11_copies_L17 f) Q.length 0 FU (by omega) (FU_big (by dsimp only at h6; omega))
    have new : allB (fun h => !decide (mv n T h S true = mv n T i S true)) i = true ↔ ¬ mv n T i S true ∈ Q := by
      rw [allB_iff, h5]
      simp only [Bool.not_eq_true', decide_eq_false_iff_not]
      exact ⟨fun a ⟨h, b, c⟩ => a h b c, fun a h b c => a ⟨h, b, c⟩⟩
    by_cases c : mv n T i S true ∈ Q
    · refine ⟨(w1, Q), ⟨h1, h2, h3, h4, fun x => ?_, by dsimp only at h6 ⊢; omega, ?_⟩, fun f => by rw [st f, if_pos c]⟩
      · rw [h5]
        constructor
        · rintro ⟨h, a, b⟩; exact ⟨h, by omega, b⟩
        · rintro ⟨h, a, b⟩
          by_cases d : h = i
          · subst d; rw [← h5, ← b]; exact c
          · exact ⟨h, by omega, b⟩
      · simp only [cntB]
        rw [if_neg (fun q => new.mp q c)]; dsimp only at h7 ⊢; omega
    · refine ⟨(sI w1 43 Q.length (nI (mv n T i S true)), Q ++ [mv n T i S true]), ⟨fun k hk => ?_, h2, ?_, ?_, fun x => ?_, by simp; dsimp only at h6; omega, ?_⟩, fun f => by rw [st f, if_neg c]; simp⟩
      · rw [← h1 k hk]; funext j; rw [sI_at]; simp [hk]
      · apply rowIs_add h3
        · rw [sI_at]; simp
        · intro k hk; rw [sI_at, if_neg (fun q => Nat.ne_of_lt hk q.2)]
      · rw [List.nodup_append]
        refine ⟨h4, by simp, fun a ha b hb => ?_⟩
        simp only [List.mem_singleton] at hb
        subst hb
        exact fun q => c (q ▸ ha)
      · rw [List.mem_append, h5]
        simp only [List.mem_singleton]
        constructor
        · rintro (⟨h, a, b⟩ | rfl)
          · exact ⟨h, by omega, b⟩
          · exact ⟨i, by omega, rfl⟩
        · rintro ⟨h, a, b⟩
          by_cases d : h = i
          · subst d; exact Or.inr b.symm
          · exact Or.inl ⟨h, by omega, b⟩
      · simp only [cntB, List.length_append, List.length_singleton]
        rw [if_pos (new.mpr c)]; dsimp only at h7; omega
  · rintro f ⟨w1, Q⟩ ⟨h1, h2, h3, h4, h5, h6, h7⟩
    show f_X11_copies_B17b (f_X11_copies_L17 f) (nI S) (nI Q.length) (nI n) w1 = _
    unfold f_X11_copies_B17b
    rw [h1 6 (by decide), hG.1, if_pos (nI_le (Nat.le_refl _) (by omega))]
theorem y_cop (hM : GM w n T iv) (hg : Gp n T iv) {S : Nat} (hS : S < 2 ^ n) : f_X12_copies_L14 FU (nI S) (nI 0) (nI 0) w = some (nI (cntB (fun g => allB (fun h => !decide (mv n T h S true = mv n T g S true)) g) n)) := by
  have h16 := hg.1.2
  have hS6 := le16 hS h16
  have hb : ∀ i, i < n → mv n T i S true < 2 ^ 31 := fun i hi => lt31 (le16 (mv_lt hg hi) h16)
  have inn : ∀ (k : Int32 → Int32 → Int32 → Wd → Option Int32) c g, g < n → f_X12_copies_L28 k FU (nI S) (nI c) (nI g) 1 0 w = if allB (fun h => !decide (mv n T h S true = mv n T g S true)) g then k (nI S) (nI (c + 1)) (nI (g + 1)) w else k (nI S) (nI c) (nI (g + 1)) w := by
    intro k c g hgn
    have key := lup (fun f i (s : Bool) => f_X12_copies_L28 k f (nI S) (nI c) (nI g) (if s then 1 else 0) (nI i) w) g (fun h s => s && !decide (mv n T h S true = mv n T g S true)) (fun s => if s then k (nI S) (nI (c + 1)) (nI (g + 1)) w else k (nI S) (nI c) (nI (g + 1)) w) (fun _ _ => True) ?_ (fun _ _ _ _ => trivial) ?_ g 0 true FU (by omega) (FU_big (by omega)) trivial
    · have := key.1
      rw [rng_and] at this
      exact this
    · intro f i s hi _
      have b1 := hb i (by omega)
      have b2 := hb g hgn
      cases s with
      | false => simp (disch := omega) only [f_X12_copies_L28, f_X12_copies_B28b, m_le, ↓reduceIte, nI_1, bnd_some, bnd2_some, Nat.not_le.mpr hi, Bool.false_and, Bool.false_eq_true]
      | true =>
        by_cases d : mv n T i S true = mv n T g S true
        · simp (disch := omega) only [f_X12_copies_L28, f_X12_copies_B28b, m_le, ↓reduceIte, nI_1, bnd_some, bnd2_some, Nat.not_le.mpr hi, one_ne, y_shL hM hg (show i < n by omega) hS6, y_shL hM hg hgn hS6, d, decide_true, Bool.not_true, Bool.and_false, Bool.false_eq_true]
        · simp (disch := omega) only [f_X12_copies_L28, f_X12_copies_B28b, m_le, ↓reduceIte, nI_1, bnd_some, bnd2_some, Nat.not_le.mpr hi, one_ne, y_shL hM hg (show i < n by omega) hS6, y_shL hM hg hgn hS6, m_inj, d, decide_false, Bool.not_false, Bool.and_true]
    · intro f s _
      cases s with
      | false => simp (disch := omega) only [f_X12_copies_L28, f_X12_copies_B28b, m_le, ↓reduceIte, nI_1, bnd_some, bnd2_some, Nat.le_refl, Bool.false_eq_true]
      | true => simp (disch := omega) only [f_X12_copies_L28, f_X12_copies_B28b, m_le, ↓reduceIte, nI_1, bnd_some, bnd2_some, Nat.le_refl, one_ne]
  have key := lup (fun f i (acc : Nat) => f_X12_copies_L14 f (nI S) (nI acc) (nI i) w) n (fun g acc => acc + (if allB (fun h => !decide (mv n T h S true = mv n T g S true)) g then 1 else 0)) (fun acc => some (nI acc)) (fun _ _ => True) ?_ (fun _ _ _ _ => trivial) ?_ n 0 0 FU (by omega) (FU_big (by omega)) trivial
  · have := key.1
    rw [rng_add, sumF_cnt, Nat.zero_add] at this
    exact this
  · intro f i acc hi _
    by_cases c : allB (fun h => !decide (mv n T h S true = mv n T i S true)) i = true
    · simp (disch := omega) only [f_X12_copies_L14, f_X12_copies_B14b, hM.1, Nat.not_le.mpr hi, m_le, ↓reduceIte, nI_1, bnd_some, bnd2_some, inn _ acc i hi, c]
    · simp (disch := omega) only [f_X12_copies_L14, f_X12_copies_B14b, hM.1, Nat.not_le.mpr hi, m_le, ↓reduceIte, nI_1, bnd_some, bnd2_some, inn _ acc i hi, c, Nat.add_zero, Bool.false_eq_true]
  · intro f acc _
    simp (disch := omega) only [f_X12_copies_L14, f_X12_copies_B14b, hM.1, Nat.le_refl, m_le, ↓reduceIte, nI_1, bnd_some, bnd2_some]
theorem c_copies (hG : GX w n T iv) (hM : GM w n T iv) (hg : Gp n T iv) (a : Int32) : ∃ r w', f_X11_copies a w = some (r, w') ∧ (∀ k, k ≠ 43 → w'.1 k = w.1 k) ∧ w'.2 = w.2 ∧ f_X12_copies a w' = some r := by
  unfold f_X11_copies f_X12_copies
  rcases set_or hG hM hg a with ⟨S, hS, rfl, e1, e2⟩ | ⟨e1, e2⟩
  · obtain ⟨w', Q, h1, h2, h3, h4, h5⟩ := x_cop hg hS hG
    have hM' := GM_cong hM (by rw [h2 44 (by decide)]) (h2 47 (by decide)) (h2 48 (by decide)) (h2 49 (by decide))
    have e2' : f_X12_isSet (nI S) w' = 1 := by rw [← e2]; unfold f_X12_isSet f_X12_all; rw [h2 44 (by decide)]
    refine ⟨_, w', by rw [e1, if_neg one_ne]; exact h1, h2, h3, ?_⟩
    rw [e2', if_neg one_ne, h5]
    exact y_cop hM' hg hS
  · exact ⟨-1, w, by simp only [e1, ↓reduceIte], fun _ _ => rfl, rfl, by simp only [e2, ↓reduceIte]⟩
end COPIES
