/-! spans -/
def clo (n : Nat) (T : Nat → Nat → Nat) (C : Nat) : Prop := C.testBit 0 = true ∧ ∀ a b, a < n → b < n → C.testBit a = true → C.testBit b = true → C.testBit (T a b) = true
def isSpan (n : Nat) (T : Nat → Nat → Nat) (S R : Nat) : Prop := R < 2 ^ n ∧ clo n T R ∧ (∀ x, S.testBit x = true → R.testBit x = true) ∧ ∀ C, C < 2 ^ n → clo n T C → (∀ x, S.testBit x = true → C.testBit x = true) → ∀ x, R.testBit x = true → C.testBit x = true
theorem isSpan_one {n : Nat} {T : Nat → Nat → Nat} {S R R' : Nat} (h : isSpan n T S R) (h' : isSpan n T S R') : R = R' := ext_bit (fun x => ⟨h.2.2.2 R' h'.1 h'.2.1 h'.2.2.1 x, h'.2.2.2 R h.1 h.2.1 h.2.2.1 x⟩)
section SPAN
variable {n : Nat} {T : Nat → Nat → Nat} {iv : Nat → Nat}
theorem x_queue {S B i : Nat} {k14 : Int32 → Int32 → Int32 → Int32 → Wd → Option (Int32 × Wd)} {Q : List Nat} {M : Nat} (h16 : n ≤ 16) (hM : M < 2 ^ 16) {w : Wd} (hn : w.1 6 7 = nI n) (hQ : ∀ k x, Q[k]? = some x → w.1 11 k = nI x) (hlen : (Q ++ (List.range n).filter (fun e => M.testBit e)).length ≤ 16) :
    ∃ w', f_X4_spanOf_L54 k14 FU (nI S) (nI B) (nI Q.length) (nI i) (nI M) (nI 0) w = k14 (nI S) (nI B) (nI (Q ++ (List.range n).filter (fun e => M.testBit e)).length) (nI (i + 1)) w' ∧ (∀ k, k ≠ 11 → w'.1 k = w.1 k) ∧ w'.2 = w.2 ∧ ∀ k x, (Q ++ (List.range n).filter (fun e => M.testBit e))[k]? = some x → w'.1 11 k = nI x := by
  have mono : ∀ e, e ≤ n → (Q ++ (List.range e).filter (fun e => M.testBit e)).length ≤ (Q ++ (List.range n).filter (fun e => M.testBit e)).length := by
    intro e he
    obtain ⟨d, rfl⟩ : ∃ d, n = e + d := ⟨n - e, by omega⟩
    rw [List.range_add, List.filter_append, ← List.append_assoc, List.length_append (as := Q ++ _)]
    omega
  have key := lup (fun f e (x : Nat × Wd) => f_X4_spanOf_L54 k14 f (nI S) (nI B) (nI x.1) (nI i) (nI M) (nI e) x.2) n (fun e x => if M.testBit e then (x.1 + 1, sI x.2 11 x.1 (nI e)) else x) (fun x => k14 (nI S) (nI B) (nI x.1) (nI (i + 1)) x.2) (fun e x => x.1 = (Q ++ (List.range e).filter (fun e => M.testBit e)).length ∧ (∀ k, k ≠ 11 → x.2.1 k = w.1 k) ∧ x.2.2 = w.2 ∧ ∀ k y, (Q ++ (List.range e).filter (fun e => M.testBit e))[k]? = some y → x.2.1 11 k = nI y) ?_ ?_ ?_ n 0 (Q.length, w) FU (by omega) (FU_big (by omega)) ⟨by simp, fun _ _ => rfl, rfl, fun k y h => hQ k y (by simpa using h)⟩
  · obtain ⟨k1, k2, k3, k4, k5⟩ := key
    refine ⟨_, ?_, k3, k4, k5⟩
    rw [← k2]
    exact k1
  · intro f e x he ⟨g1, g2, g3, g4⟩
    show f_X4_spanOf_B54b k14 (f_X4_spanOf_L54 k14 f) (nI S) (nI B) (nI x.1) (nI i) (nI M) (nI e) x.2 = _
    unfold f_X4_spanOf_B54b
    rw [g2 6 (by decide), hn, if_neg (by rw [m_le (by omega) (by omega)]; omega)]
    by_cases hb : M.testBit e = true
    · have l1 := mono (e + 1) (by omega)
      rw [List.range_succ, List.filter_append] at l1
      simp only [List.filter_cons, hb, if_true, List.filter_nil, List.length_append, List.length_cons, List.length_nil] at l1 g1
      have hx : x.1 < 16 := by
        simp only [List.length_append] at hlen
        omega
      rw [if_neg (by rw [x_bit0 (lt31 hM) (by omega), hb]; decide), m_mask15 hx, m_wr hx (by decide), nI_1, nI_1, if_pos hb]
    · rw [if_pos (by rw [x_bit0 (lt31 hM) (by omega)]; simpa using hb), nI_1, if_neg hb]
  · intro e x he ⟨g1, g2, g3, g4⟩
    by_cases hb : M.testBit e = true
    · rw [if_pos hb]
      rw [List.range_succ, List.filter_append]
      simp only [List.filter_cons, hb, if_true, List.filter_nil]
      rw [← List.append_assoc]
      refine ⟨by simp only [List.length_append, List.length_cons, List.length_nil] at g1 ⊢; omega, fun k hk => by rw [sI_row _ _ _ _ hk]; exact g2 k hk, g3, fun k y hy => ?_⟩
      rw [sI_at]
      by_cases c : k = x.1
      · rw [if_pos ⟨rfl, c⟩]
        rw [c, g1, List.getElem?_append_right (Nat.le_refl _)] at hy
        simp at hy
        rw [hy]
      · rw [if_neg (fun z => c z.2)]
        have hk : k < x.1 := by
          have := (List.getElem?_eq_some_iff.mp hy).1
          simp only [List.length_append, List.length_cons, List.length_nil] at this g1
          omega
        rw [List.getElem?_append_left (by omega)] at hy
        exact g4 k y hy
    · rw [if_neg hb]
      rw [List.range_succ, List.filter_append]
      simp only [List.filter_cons, hb, List.filter_nil, Bool.false_eq_true, if_false, List.append_nil]
      exact ⟨g1, g2, g3, g4⟩
  · intro f x ⟨g1, g2, g3, g4⟩
    show f_X4_spanOf_B54b k14 (f_X4_spanOf_L54 k14 f) (nI S) (nI B) (nI x.1) (nI i) (nI M) (nI n) x.2 = _
    unfold f_X4_spanOf_B54b
    rw [g2 6 (by decide), hn, if_pos (by rw [m_le (by omega) (by omega)]; omega), nI_1]
/-- what holds of the queue -/
def qOk (n : Nat) (T : Nat → Nat → Nat) (S B i : Nat) (Q : List Nat) : Prop := Q.Nodup ∧ (∀ x, x ∈ Q ↔ B.testBit x = true) ∧ (∀ x, x ∈ Q → x < n) ∧ i ≤ Q.length ∧ Q[0]? = some 0 ∧ (∀ k x, k < i → Q[k]? = some x → ∀ s, S.testBit s = true → T x s ∈ Q) ∧ (∀ j x, 0 < j → Q[j]? = some x → ∃ k y s, k < j ∧ Q[k]? = some y ∧ S.testBit s = true ∧ x = T y s) ∧ ∀ C, clo n T C → (∀ x, S.testBit x = true → C.testBit x = true) → ∀ x, x ∈ Q → C.testBit x = true
theorem nodup_len {n : Nat} {Q : List Nat} (h : Q.Nodup) (hl : ∀ x, x ∈ Q → x < n) : Q.length ≤ n := by
  have h1 : Q.length ≤ (List.range n).length := List.Nodup.length_le_of_subset h (fun x hx => List.mem_range.mpr (hl x hx))
  simpa using h1
theorem qOk_end (hg : Gp n T iv) {S B : Nat} (hS : S < 2 ^ n) {Q : List Nat} (h : qOk n T S B Q.length Q) : isSpan n T S B := by
  obtain ⟨h1, h2, h3, -, h5, h6, h7, h8⟩ := h
  have hB : B < 2 ^ n := lt_two (fun x hx => h3 x ((h2 x).mpr hx))
  have z0 : B.testBit 0 = true := (h2 0).mp (List.mem_of_getElem? h5)
  have step : ∀ x, x ∈ Q → ∀ s, S.testBit s = true → T x s ∈ Q := by
    intro x hx s hs
    obtain ⟨k, hk⟩ := List.getElem?_of_mem hx
    exact h6 k x (List.getElem?_eq_some_iff.mp hk).1 hk s hs
  have prod : ∀ (j b : Nat), Q[j]? = some b → ∀ a, a ∈ Q → T a b ∈ Q := by
    intro j
    induction j using Nat.strongRecOn with
    | ind j ih =>
      intro b hb a ha
      by_cases c : j = 0
      · subst c
        rw [h5] at hb
        cases hb
        rw [(hg.2.2.1 a (h3 a ha)).2]; exact ha
      · obtain ⟨k, y, s, hk, hy, hs, rfl⟩ := h7 j b (by omega) hb
        have hy' := List.mem_of_getElem? hy
        rw [← hg.2.2.2.1 a y s (h3 a ha) (h3 y hy') (bit_lt hS hs)]
        exact step _ (ih k hk y hy a ha) s hs
  refine ⟨hB, ⟨z0, fun a b ha hb g1 g2 => ?_⟩, fun x hx => ?_, fun C _ hc hs x hx => h8 C hc hs x ((h2 x).mpr hx)⟩
  · obtain ⟨k, hk⟩ := List.getElem?_of_mem ((h2 b).mpr g2)
    exact (h2 _).mp (prod k b hk a ((h2 a).mpr g1))
  · have := step 0 (List.mem_of_getElem? h5) x hx
    rw [(hg.2.2.1 x (bit_lt hS hx)).1] at this
    exact (h2 x).mp this
theorem dif_bit (a b x : Nat) : (a ^^^ (a &&& b)).testBit x = true ↔ a.testBit x = true ∧ b.testBit x = false := by
  rw [Nat.testBit_xor, Nat.testBit_and]
  cases a.testBit x <;> cases b.testBit x <;> simp
theorem qOk_step (hg : Gp n T iv) {S B i y : Nat} (hS : S < 2 ^ n) {Q : List Nat} (h : qOk n T S B i Q) (hi : Q[i]? = some y) : qOk n T S (B ||| (mv n T y S true ^^^ (mv n T y S true &&& B))) (i + 1) (Q ++ (List.range n).filter (fun e => (mv n T y S true ^^^ (mv n T y S true &&& B)).testBit e)) := by
  obtain ⟨h1, h2, h3, h4, h5, h6, h7, h8⟩ := h
  have hy := h3 y (List.mem_of_getElem? hi)
  have hil := (List.getElem?_eq_some_iff.mp hi).1
  have mem : ∀ x, x ∈ (List.range n).filter (fun e => (mv n T y S true ^^^ (mv n T y S true &&& B)).testBit e) ↔ (mv n T y S true).testBit x = true ∧ B.testBit x = false := by
    intro x
    rw [List.mem_filter, List.mem_range, dif_bit]
    exact ⟨fun q => q.2, fun q => ⟨bit_lt (mv_lt hg hy) q.1, q⟩⟩
  refine ⟨?_, fun x => ?_, fun x hx => ?_, by rw [List.length_append]; omega, ?_, fun k x hk hx s hs => ?_, fun j x hj hx => ?_, fun C hc hs x hx => ?_⟩
  · rw [List.nodup_append]
    refine ⟨h1, List.Nodup.sublist List.filter_sublist List.nodup_range, fun a ha b hb e => ?_⟩
    subst e
    have q1 := (h2 a).mp ha
    rw [((mem a).mp hb).2] at q1
    cases q1
  · rw [List.mem_append, h2, mem, Nat.testBit_or, Bool.or_eq_true, dif_bit]
  · rcases List.mem_append.mp hx with q | q
    · exact h3 x q
    · exact bit_lt (mv_lt hg hy) ((mem x).mp q).1
  · rw [List.getElem?_append_left (by omega)]; exact h5
  · rcases Nat.lt_or_ge k i with c | c
    · rw [List.getElem?_append_left (by omega)] at hx
      exact List.mem_append_left _ (h6 k x c hx s hs)
    · have : k = i := by omega
      subst this
      rw [List.getElem?_append_left hil, hi] at hx
      cases hx
      have hsn := bit_lt hS hs
      cases q : B.testBit (T y s) with
      | true => exact List.mem_append_left _ ((h2 _).mpr q)
      | false => exact List.mem_append_right _ ((mem _).mpr ⟨mv_bit.mpr ⟨s, hsn, hs, by simp⟩, q⟩)
  · rcases Nat.lt_or_ge j Q.length with c | c
    · rw [List.getElem?_append_left c] at hx
      obtain ⟨k, z, s, k1, k2, k3, k4⟩ := h7 j x hj hx
      exact ⟨k, z, s, k1, by rw [List.getElem?_append_left (by omega)]; exact k2, k3, k4⟩
    · rw [List.getElem?_append_right c] at hx
      obtain ⟨e, he, h9, h10⟩ := mv_bit.mp ((mem x).mp (List.mem_of_getElem? hx)).1
      exact ⟨i, y, e, by omega, by rw [List.getElem?_append_left hil]; exact hi, h9, by simpa using h10.symm⟩
  · rcases List.mem_append.mp hx with q | q
    · exact h8 C hc hs x q
    · obtain ⟨e, he, h9, h10⟩ := mv_bit.mp ((mem x).mp q).1
      simp only [if_true] at h10
      subst h10
      exact hc.2 y e hy he (h8 C hc hs y (List.mem_of_getElem? hi)) (hs e h9)
theorem x_span_loop (hg : Gp n T iv) {S : Nat} (hS : S < 2 ^ n) : ∀ m i Q B w f, GX w n T iv → qOk n T S B i Q → (∀ k x, Q[k]? = some x → w.1 11 k = nI x) → n - i ≤ m → m < f → ∃ R w', f_X4_spanOf_L14 f (nI S) (nI B) (nI Q.length) (nI i) w = some (nI R, w') ∧ isSpan n T S R ∧ (∀ k, k ≠ 11 → w'.1 k = w.1 k) ∧ w'.2 = w.2 := by
  have h16 := hg.1.2
  intro m
  induction m with
  | zero =>
    intro i Q B w f hG hq hw hm hf
    obtain ⟨f, rfl⟩ : ∃ q, f = q + 1 := ⟨f - 1, by omega⟩
    have hl := nodup_len hq.1 hq.2.2.1
    have e : i = Q.length := by have := hq.2.2.2.1; omega
    subst e
    refine ⟨B, w, ?_, qOk_end hg hS hq, fun _ _ => rfl, rfl⟩
    show f_X4_spanOf_B14b (f_X4_spanOf_L14 f) (nI S) (nI B) (nI Q.length) (nI Q.length) w = _
    unfold f_X4_spanOf_B14b
    rw [if_pos (by rw [m_le (by omega) (by omega)]; omega)]
  | succ m ih =>
    intro i Q B w f hG hq hw hm hf
    obtain ⟨f, rfl⟩ : ∃ q, f = q + 1 := ⟨f - 1, by omega⟩
    have hl := nodup_len hq.1 hq.2.2.1
    have hil := hq.2.2.2.1
    show ∃ R w', f_X4_spanOf_B14b (f_X4_spanOf_L14 f) (nI S) (nI B) (nI Q.length) (nI i) w = _ ∧ _
    unfold f_X4_spanOf_B14b
    by_cases c : i = Q.length
    · subst c
      refine ⟨B, w, ?_, qOk_end hg hS hq, fun _ _ => rfl, rfl⟩
      rw [if_pos (by rw [m_le (by omega) (by omega)]; omega)]
    · have hi : i < Q.length := by omega
      obtain ⟨y, hy⟩ : ∃ y, Q[i]? = some y := ⟨_, List.getElem?_eq_getElem hi⟩
      have hyn := hq.2.2.1 y (List.mem_of_getElem? hy)
      have hst := qOk_step hg hS hq hy
      have hmv := mv_lt hg (S := S) (left := true) hyn
      have hB : B < 2 ^ n := lt_two (fun x hx => hq.2.2.1 x ((hq.2.1 x).mpr hx))
      have hM : mv n T y S true ^^^ (mv n T y S true &&& B) < 2 ^ n := Nat.xor_lt_two_pow hmv (Nat.lt_of_le_of_lt Nat.and_le_left hmv)
      rw [if_neg (by rw [m_le (by omega) (by omega)]; omega), if_neg (by show ¬ nI 16 ≤ nI i; rw [m_le (by decide) (by omega)]; omega), m_rd (by omega) (by decide), hw i y hy, m_bnd (x_mvL hG hg hyn (le16 hS h16)), m_compl (lt31 (le16 hmv h16)), m_or]
      obtain ⟨w', e1, e2, e3, e4⟩ := x_queue (n := n) (S := S) (B := B ||| (mv n T y S true ^^^ (mv n T y S true &&& B))) (i := i) (k14 := f_X4_spanOf_L14 f) (Q := Q) (M := mv n T y S true ^^^ (mv n T y S true &&& B)) h16 (le16 hM h16) hG.1 hw (Nat.le_trans (nodup_len hst.1 hst.2.2.1) h16)
      have hG' : GX w' n T iv := ⟨by rw [e2 6 (by decide)]; exact hG.1, by rw [e2 6 (by decide)]; exact hG.2.1, fun a b ha hb => by rw [e2 9 (by decide)]; exact hG.2.2.1 a b ha hb, fun a ha => by rw [e2 10 (by decide)]; exact hG.2.2.2 a ha⟩
      obtain ⟨R, w'', g1, g2, g3, g4⟩ := ih (i + 1) _ _ w' f hG' hst e4 (by omega) (by omega)
      exact ⟨R, w'', (show _ = _ from e1).trans g1, g2, fun k hk => (g3 k hk).trans (e2 k hk), g4.trans e3⟩
theorem x_span {w : Wd} (hG : GX w n T iv) (hg : Gp n T iv) {S : Nat} (hS : S < 2 ^ n) : ∃ R w', f_X4_spanOf (nI S) w = some (nI R, w') ∧ isSpan n T S R ∧ (∀ k, k ≠ 11 → w'.1 k = w.1 k) ∧ w'.2 = w.2 := by
  have h16 := hg.1.2
  have hq : qOk n T S 1 0 [0] := by
    refine ⟨by simp, fun x => ?_, fun x hx => ?_, by simp, rfl, fun k x hk => by omega, fun j x hj hx => ?_, fun C hc _ x hx => ?_⟩
    · rw [show (1 : Nat) = 2 ^ 0 from rfl, two_bit]; simp; exact eq_comm
    · simp at hx; subst hx; exact hg.1.1
    · match j, hx with
      | 0, _ => omega
      | j + 1, hx => simp at hx
    · simp at hx; subst hx; exact hc.1
  have hG' : GX (sI w 11 0 0) n T iv := ⟨by rw [sI_row _ _ _ _ (by decide)]; exact hG.1, by rw [sI_row _ _ _ _ (by decide)]; exact hG.2.1, fun a b ha hb => by rw [sI_row _ _ _ _ (by decide)]; exact hG.2.2.1 a b ha hb, fun a ha => by rw [sI_row _ _ _ _ (by decide)]; exact hG.2.2.2 a ha⟩
  obtain ⟨R, w', g1, g2, g3, g4⟩ := x_span_loop hg hS n 0 [0] 1 (sI w 11 0 0) FU hG' hq (fun k x hx => by
    match k, hx with
    | 0, hx => cases hx; exact sI_same _ _ _ _
    | k + 1, hx => simp at hx) (by omega) (FU_big (by omega))
  refine ⟨R, w', ?_, g2, fun k hk => by rw [g3 k hk, sI_row _ _ _ _ hk], g4⟩
  unfold f_X4_spanOf
  show wrI w 11 16 (nI 0) 0 _ = _
  rw [m_wr (by decide) (by decide)]
  exact g1
theorem or_le (a b : Nat) : a ≤ a ||| b := Nat.left_le_or
theorem y_span_loop {w : Wd} (hM : GM w n T iv) (hg : Gp n T iv) {S : Nat} : ∀ m own f, own < 2 ^ n → own.testBit 0 = true → (∀ x, S.testBit x = true → own.testBit x = true) → (∀ C, clo n T C → (∀ x, S.testBit x = true → C.testBit x = true) → ∀ x, own.testBit x = true → C.testBit x = true) → 2 ^ n - own ≤ m → m < f → ∃ R, f_X12_spanOf_L13 f (nI own) (nI (own ||| pr n T own own)) w = some (nI R) ∧ isSpan n T S R := by
  have h16 := hg.1.2
  have p1 := p16 h16
  intro m
  induction m with
  | zero => intro own f h1 h2 h3 h4 hm hf; omega
  | succ m ih =>
    intro own f h1 h2 h3 h4 hm hf
    obtain ⟨f, rfl⟩ : ∃ q, f = q + 1 := ⟨f - 1, by omega⟩
    have hp := pr_lt hg (S := own) (R := own)
    have ho : own ||| pr n T own own < 2 ^ n := Nat.or_lt_two_pow h1 hp
    have hle := or_le own (pr n T own own)
    show ∃ R, f_X12_spanOf_B13b (f_X12_spanOf_L13 f) (nI own) (nI (own ||| pr n T own own)) w = _ ∧ _
    unfold f_X12_spanOf_B13b
    by_cases c : own ||| pr n T own own = own
    · refine ⟨own, by rw [if_pos (by rw [c])], h1, ⟨h2, fun a b ha hb g1 g2 => ?_⟩, h3, fun C _ hc hs => h4 C hc hs⟩
      have : (own ||| pr n T own own).testBit (T a b) = true := by
        rw [Nat.testBit_or, Bool.or_eq_true]; exact Or.inr (pr_bit.mpr ⟨a, b, ha, hb, g1, g2, rfl⟩)
      rwa [c] at this
    · rw [if_neg (by rw [m_inj (by omega) (by omega)]; exact c), m_rd (by omega) (by decide), hM.2.2.2 _ ho, m_or]
      refine ih (own ||| pr n T own own) f ho ?_ (fun x hx => ?_) (fun C hc hs x hx => ?_) (by omega) (by omega)
      · rw [Nat.testBit_or, h2]; rfl
      · rw [Nat.testBit_or, h3 x hx]; rfl
      · rw [Nat.testBit_or, Bool.or_eq_true] at hx
        rcases hx with hx | hx
        · exact h4 C hc hs x hx
        · obtain ⟨a, b, ha, hb, g1, g2, rfl⟩ := pr_bit.mp hx
          exact hc.2 a b ha hb (h4 C hc hs a g1) (h4 C hc hs b g2)
theorem y_span {w : Wd} (hM : GM w n T iv) (hg : Gp n T iv) {S : Nat} (hS : S < 2 ^ n) : ∃ R, f_X12_spanOf (nI S) w = some (nI R) ∧ isSpan n T S R := by
  have h16 := hg.1.2
  have p1 := p16 h16
  have h1 : S ||| 1 < 2 ^ n := Nat.or_lt_two_pow hS (by have := Nat.pow_le_pow_right (n := 2) (by decide) hg.1.1; omega)
  have b1 : ∀ x, (S ||| 1).testBit x = true ↔ S.testBit x = true ∨ x = 0 := fun x => sb_or S 0 x
  have key := y_span_loop hM hg (S := S) (2 ^ n) (S ||| 1) FU h1 ((b1 0).mpr (Or.inr rfl)) (fun x hx => (b1 x).mpr (Or.inl hx)) (fun C hc hs x hx => by
    rcases (b1 x).mp hx with q | rfl
    · exact hs x q
    · exact hc.1) (by omega) (FU_big (by omega))
  obtain ⟨R, g1, g2⟩ := key
  refine ⟨R, ?_, g2⟩
  unfold f_X12_spanOf
  show rdI w 49 65536 (nI S ||| nI 1) _ = _
  rw [m_or, m_rd (by omega) (by decide), hM.2.2.2 _ h1]
  show f_X12_spanOf_L13 FU (nI S ||| nI 1) ((nI S ||| nI 1) ||| _) w = _
  rw [m_or, m_or]
  exact g1
theorem span_ex {w : Wd} (hG : GX w n T iv) (hM : GM w n T iv) (hg : Gp n T iv) {S : Nat} (hS : S < 2 ^ n) : ∃ R w', isSpan n T S R ∧ f_X4_spanOf (nI S) w = some (nI R, w') ∧ (∀ k, k ≠ 11 → w'.1 k = w.1 k) ∧ w'.2 = w.2 ∧ f_X12_spanOf (nI S) w = some (nI R) := by
  obtain ⟨R, w', e1, h1, f1, f2⟩ := x_span hG hg hS
  obtain ⟨R', e2, h2⟩ := y_span hM hg hS
  rw [isSpan_one h2 h1] at e2
  exact ⟨R, w', h1, e1, f1, f2, e2⟩
/-- a subgroup is its own span -/
theorem isSpan_self {S : Nat} (hS : S < 2 ^ n) : isSpan n T S S ↔ clo n T S :=
  ⟨fun h => h.2.1, fun h => ⟨hS, h, fun _ q => q, fun _ _ _ hs => hs⟩⟩
theorem y_isSub {w : Wd} (hM : GM w n T iv) (hg : Gp n T iv) {S : Nat} (hS : S < 2 ^ n) : ∃ b : Bool, f_X12_isSubgroup (nI S) w = some (if b then 1 else 0) ∧ (b = true ↔ clo n T S) := by
  have h16 := hg.1.2
  have p1 := p16 h16
  have hp := pr_lt hg (S := S) (R := S)
  unfold f_X12_isSubgroup
  by_cases h0 : S.testBit 0 = true
  · rw [if_neg (by show ¬ f_X12_has (nI S) (nI 0) = 0; rw [y_has0 (by omega) (by decide), h0]; decide), m_rd (by omega) (by decide), hM.2.2.2 S hS, m_compl (by omega)]
    have e : (nI (pr n T S S ^^^ (pr n T S S &&& S)) = 0) ↔ clo n T S := by
      rw [nIz (by have := Nat.xor_lt_two_pow hp (Nat.lt_of_le_of_lt Nat.and_le_left hp : pr n T S S &&& S < 2 ^ n); omega)]
      constructor
      · intro h
        refine ⟨h0, fun a b ha hb g1 g2 => ?_⟩
        cases q : S.testBit (T a b) with
        | true => rfl
        | false =>
          have : (pr n T S S ^^^ (pr n T S S &&& S)).testBit (T a b) = true := (dif_bit _ _ _).mpr ⟨pr_bit.mpr ⟨a, b, ha, hb, g1, g2, rfl⟩, q⟩
          rw [h] at this; simp at this
      · intro h
        apply ext_bit
        intro x
        rw [dif_bit]
        simp only [Nat.zero_testBit, Bool.false_eq_true, iff_false]
        rintro ⟨h1, h2⟩
        obtain ⟨a, b, ha, hb, g1, g2, rfl⟩ := pr_bit.mp h1
        rw [h.2 a b ha hb g1 g2] at h2; cases h2
    by_cases hc : clo n T S
    · exact ⟨true, by rw [if_pos (e.mpr hc)]; rfl, by simp [hc]⟩
    · exact ⟨false, by rw [if_neg (fun q => hc (e.mp q))]; rfl, by simp [hc]⟩
  · rw [if_pos (by show f_X12_has (nI S) (nI 0) = 0; rw [y_has0 (by omega) (by decide)]; simpa using h0)]
    exact ⟨false, rfl, by simp; exact fun q => h0 q.1⟩
end SPAN
