/-! what is counted over all free sets -/
def FS {σ : Type} (n : Nat) (T : Nat → Nat → Nat) (g : Nat → σ → σ) (s : σ) : σ := (FL n T).foldl (fun s x => g x s) s
def frD (n : Nat) (T : Nat → Nat → Nat) (w w1 : Wd) : Prop := FRI n T w1 ∧ (∀ k, k ≠ 19 → k ≠ 20 → k ≠ 43 → k ≠ 57 → w1.1 k = w.1 k) ∧ w1.2 = w.2
section COUNTED
variable {n : Nat} {T : Nat → Nat → Nat} {iv : Nat → Nat}
theorem lupF {σ β : Type} (L : Nat → Nat → σ → β) (g : Nat → σ → σ) (out : σ → β) (I : σ → Prop) (hl : (FL n T).length < 3072) (hs : ∀ f i s, i < (FL n T).length → I s → L (f + 1) i s = L f (i + 1) (g ((FL n T).getD i 0) s)) (hk : ∀ S s, S < 2 ^ n → I s → I (g S s)) (hd : ∀ f s, I s → L (f + 1) (FL n T).length s = out s) (s : σ) (h0 : I s) : L FU 0 s = out (FS n T g s) ∧ I (FS n T g s) := by
  have := lup L (FL n T).length (fun i s => g ((FL n T).getD i 0) s) out (fun _ s => I s) hs (fun i s hi h => hk _ _ (FL_get hi).1 h) hd (FL n T).length 0 s FU (by omega) (FU_big (by omega)) h0
  rw [rng_list] at this
  exact this
theorem lupY {σ β : Type} (L : Nat → Nat → σ → β) (g : Nat → σ → σ) (out : σ → β) (I : σ → Prop) (hn : n ≤ 16) (hs : ∀ f i s, i < 2 ^ n → I s → L (f + 1) i s = L f (i + 1) (if fr n T i then g i s else s)) (hk : ∀ S s, S < 2 ^ n → I s → I (g S s)) (hd : ∀ f s, I s → L (f + 1) (2 ^ n) s = out s) (s : σ) (h0 : I s) : L FU 0 s = out (FS n T g s) := by
  have hp := p16 hn
  have := lup L (2 ^ n) (fun i s => if fr n T i then g i s else s) out (fun _ s => I s) hs (fun i s hi h => by split; exact hk _ _ hi h; exact h) hd (2 ^ n) 0 s FU (by omega) (FU_big (by omega)) h0
  rw [← FL_foldl] at this
  exact this.1
theorem foldl_le {g : Nat → Nat → Nat} {c : Nat} (hg : ∀ S s, g S s ≤ s + c) : ∀ (Q : List Nat) (s : Nat), Q.foldl (fun s x => g x s) s ≤ s + Q.length * c := by
  intro Q
  induction Q with
  | nil => intro s; simp
  | cons x Q ih =>
    intro s
    have h1 := ih (g x s)
    have h2 := hg x s
    simp only [List.foldl_cons, List.length_cons, Nat.succ_mul]
    omega
theorem all_in {w : Wd} (hM : GM w n T iv) (hg : Gp n T iv) {i : Nat} (hi : i < 2 ^ n) : ¬ f_X12_all w < nI i := by
  have := p16 hg.1.2
  rw [y_all hM hg]; exact nI_nlt (by omega) (by omega)
theorem all_end {w : Wd} (hM : GM w n T iv) (hg : Gp n T iv) : f_X12_all w < nI (2 ^ n) := by
  have := p16 hg.1.2
  have := Nat.two_pow_pos n
  rw [y_all hM hg]; exact nI_lt (by omega) (by omega)
theorem GM_frees {w w1 : Wd} (hM : GM w n T iv) (h : ∀ k, k ≠ 19 → k ≠ 20 → w1.1 k = w.1 k) : GM w1 n T iv := GM_cong hM (by rw [h 44 (by decide) (by decide)]) (h 47 (by decide) (by decide)) (h 48 (by decide) (by decide)) (h 49 (by decide) (by decide))
theorem frD_of {w w1 : Wd} (h1 : FR n T w1) (h2 : ∀ k, k ≠ 19 → k ≠ 20 → w1.1 k = w.1 k) (h3 : w1.2 = w.2) : frD n T w w1 := ⟨Or.inr h1, fun k a b _ _ => h2 k a b, h3⟩
theorem frD_rfl {w : Wd} (h1 : FRI n T w) : frD n T w w := ⟨h1, fun _ _ _ _ _ => rfl, rfl⟩
def b2n (b : Bool) : Nat := if b then 1 else 0
theorem c_many {w : Wd} (hG : GX w n T iv) (hM : GM w n T iv) (hg : Gp n T iv) (hF : (FL n T).length < 3072) (hI : FRI n T w) (a b : Int32) : ∃ r w1, f_X11_many a b w = some (r, w1) ∧ f_X12_many a b w1 = some r ∧ frD n T w w1 := by
  have h16 := hg.1.2
  unfold f_X11_many f_X12_many
  rcases kind_or a with ⟨k, hk, rfl, e1, e2⟩ | ⟨e1, e2⟩
  · simp only [e1, e2, one_ne, ↓reduceIte]
    by_cases hb : (-1) ≤ b
    · simp only [hb, ↓reduceIte]
      obtain ⟨w1, t1, t2, t3, t4⟩ := x_total hG hg hF hI
      have hM1 := GM_frees hM t3
      rw [t1, bnd2_some]
      refine ⟨nI (FS n T (fun S s => s + b2n (fts n T k b S)) 0), w1, ?_, ?_, frD_of t2 t3 t4⟩
      · refine (lupF (n := n) (T := T) (fun f i (s : Nat) => f_X11_many_L28 f (nI k) b (nI s) (nI (FL n T).length) (nI i) w1) (fun S s => s + b2n (fts n T k b S)) (fun s => some (nI s, w1)) (fun _ => True) hF ?_ (fun _ _ _ _ => trivial) ?_ 0 trivial).1
        · intro f i s hi _
          show f_X11_many_B28b (f_X11_many_L28 f) (nI k) b (nI s) (nI (FL n T).length) (nI i) w1 = _
          unfold f_X11_many_B28b
          rw [if_neg (nI_ge hi (by omega)), x_fits t2 h16 hF hi hk, bnd_some, nI_1, nI_1]
          unfold b2n
          cases fts n T k b ((FL n T).getD i 0) <;> simp [one_ne]
        · intro f s _
          show f_X11_many_B28b (f_X11_many_L28 f) (nI k) b (nI s) (nI (FL n T).length) (nI (FL n T).length) w1 = _
          unfold f_X11_many_B28b
          rw [if_pos (nI_le (Nat.le_refl _) (by omega))]
      · refine lupY (n := n) (T := T) (fun f i (s : Nat) => f_X12_many_L19 f (nI k) b (nI s) (nI i) w1) (fun S s => s + b2n (fts n T k b S)) (fun s => some (nI s)) (fun _ => True) h16 ?_ (fun _ _ _ _ => trivial) ?_ 0 trivial
        · intro f i s hi _
          show f_X12_many_B19b (f_X12_many_L19 f) (nI k) b (nI s) (nI i) w1 = _
          unfold f_X12_many_B19b
          rw [if_neg (all_in hM1 hg hi), y_isOf hM1 hg hi hk, y_ones (le16 hi h16), nI_1, nI_1]
          simp only [bnd_some]
          unfold b2n fts
          by_cases c1 : fr n T i = true <;> by_cases c2 : k ≤ kd n T i <;> by_cases c3 : b = -1 <;> by_cases c4 : nI (pc i) = b <;> simp [c1, c2, c3, c4, one_ne]
        · intro f s _
          show f_X12_many_B19b (f_X12_many_L19 f) (nI k) b (nI s) (nI (2 ^ n)) w1 = _
          unfold f_X12_many_B19b
          rw [if_pos (all_end hM1 hg)]
    · simp only [hb, ↓reduceIte]
      exact ⟨-1, w, rfl, rfl, frD_rfl hI⟩
  · exact ⟨-1, w, by simp only [e1, ↓reduceIte], by simp only [e2, ↓reduceIte], frD_rfl hI⟩
theorem c_greatest {w : Wd} (hG : GX w n T iv) (hM : GM w n T iv) (hg : Gp n T iv) (hF : (FL n T).length < 3072) (hI : FRI n T w) : ∃ r w1, f_X11_greatest w = some (r, w1) ∧ f_X12_greatest w1 = some r ∧ frD n T w w1 := by
  have h16 := hg.1.2
  unfold f_X11_greatest f_X12_greatest
  obtain ⟨w1, t1, t2, t3, t4⟩ := x_total hG hg hF hI
  have hM1 := GM_frees hM t3
  rw [t1, bnd2_some]
  refine ⟨nI (FS n T (fun S m => if m < pc S then pc S else m) 0), w1, ?_, ?_, frD_of t2 t3 t4⟩
  · refine (lupF (n := n) (T := T) (fun f i (s : Nat) => f_X11_greatest_L12 f (nI s) (nI (FL n T).length) (nI i) w1) (fun S m => if m < pc S then pc S else m) (fun s => some (nI s, w1)) (fun s => s ≤ 16) hF ?_ (fun S s _ h => by have := pc_le S; split <;> omega) ?_ 0 (by omega)).1
    · intro f i s hi h
      have hp := pc_le ((FL n T).getD i 0)
      show f_X11_greatest_B12b (f_X11_greatest_L12 f) (nI s) (nI (FL n T).length) (nI i) w1 = _
      unfold f_X11_greatest_B12b
      rw [if_neg (nI_ge hi (by omega)), x_setAt t2 h16 hF hi, bnd_some, x_pc (le16 (FL_get hi).1 h16), nI_1]
      congr 1
      by_cases c : s < pc ((FL n T).getD i 0)
      · rw [if_pos c, if_pos (nI_lt c (by omega))]
      · rw [if_neg c, if_neg (nI_nlt (by omega) (by omega))]
    · intro f s _
      show f_X11_greatest_B12b (f_X11_greatest_L12 f) (nI s) (nI (FL n T).length) (nI (FL n T).length) w1 = _
      unfold f_X11_greatest_B12b
      rw [if_pos (nI_le (Nat.le_refl _) (by omega))]
  · refine lupY (n := n) (T := T) (fun f i (s : Nat) => f_X12_greatest_L4 f (nI s) (nI i) w1) (fun S m => if m < pc S then pc S else m) (fun s => some (nI s)) (fun s => s ≤ 16) h16 ?_ (fun S s _ h => by have := pc_le S; split <;> omega) ?_ 0 (by omega)
    · intro f i s hi h
      have hp := pc_le i
      show f_X12_greatest_B4b (f_X12_greatest_L4 f) (nI s) (nI i) w1 = _
      unfold f_X12_greatest_B4b
      rw [if_neg (all_in hM1 hg hi), y_isFree hM1 hg hi, y_ones (le16 hi h16), nI_1]
      simp only [bnd_some, m_le (show pc i < 2 ^ 31 by omega) (show s < 2 ^ 31 by omega)]
      by_cases c : pc i ≤ s
      · simp [c, show ¬ s < pc i by omega]
      · cases fr n T i <;> simp [one_ne, c, show s < pc i by omega]
    · intro f s _
      show f_X12_greatest_B4b (f_X12_greatest_L4 f) (nI s) (nI (2 ^ n)) w1 = _
      unfold f_X12_greatest_B4b
      rw [if_pos (all_end hM1 hg)]
theorem c_within {w : Wd} (hG : GX w n T iv) (hM : GM w n T iv) (hg : Gp n T iv) (hF : (FL n T).length < 3072) (hI : FRI n T w) (a l : Int32) : ∃ r w1, f_X11_within a l w = some (r, w1) ∧ f_X12_within a l w1 = some r ∧ frD n T w w1 := by
  have h16 := hg.1.2
  unfold f_X11_within f_X12_within
  rcases set_or hG hM hg a with ⟨A, hA, rfl, e1, e2⟩ | ⟨e1, e2⟩
  · obtain ⟨w1, t1, t2, t3, t4⟩ := x_total hG hg hF hI
    have hM1 := GM_frees hM t3
    have e2' : f_X12_isSet (nI A) w1 = 1 := by rw [isS_cong (w := w) (by rw [t3 44 (by decide) (by decide)]), e2]
    have hA31 := lt31 (le16 hA h16)
    refine ⟨nI (FS n T (fun S s => s + b2n (if l = 0 then decide (S ^^^ (S &&& A) = 0) else decide (A ^^^ (A &&& S) = 0))) 0), w1, ?_, ?_, frD_of t2 t3 t4⟩
    · rw [e1, if_neg one_ne, t1, bnd2_some]
      refine (lupF (n := n) (T := T) (fun f i (s : Nat) => f_X11_within_L27 f (nI A) l (nI s) (nI (FL n T).length) (nI i) w1) (fun S s => s + b2n (if l = 0 then decide (S ^^^ (S &&& A) = 0) else decide (A ^^^ (A &&& S) = 0))) (fun s => some (nI s, w1)) (fun _ => True) hF ?_ (fun _ _ _ _ => trivial) ?_ 0 trivial).1
      · intro f i s hi _
        have hS := (FL_get hi).1
        show f_X11_within_B27b (f_X11_within_L27 f) (nI A) l (nI s) (nI (FL n T).length) (nI i) w1 = _
        unfold f_X11_within_B27b
        rw [if_neg (nI_ge hi (by omega)), x_setAt t2 h16 hF hi, bnd_some, m_compl (lt31 (le16 hS h16)), m_compl hA31, nI_1, nI_1]
        generalize (FL n T).getD i 0 = S at *
        simp only [nIz (lt31 (le16 (dif_lt hS (R := A)) h16)), nIz (lt31 (le16 (dif_lt hA (R := S)) h16))]
        unfold b2n
        by_cases c1 : l = 0 <;> by_cases c2 : S ^^^ (S &&& A) = 0 <;> by_cases c3 : A ^^^ (A &&& S) = 0 <;> simp [c1, c2, c3]
      · intro f s _
        show f_X11_within_B27b (f_X11_within_L27 f) (nI A) l (nI s) (nI (FL n T).length) (nI (FL n T).length) w1 = _
        unfold f_X11_within_B27b
        rw [if_pos (nI_le (Nat.le_refl _) (by omega))]
    · rw [e2', if_neg one_ne]
      refine lupY (n := n) (T := T) (fun f i (s : Nat) => f_X12_within_L15 f (nI A) l (nI s) (nI i) w1) (fun S s => s + b2n (if l = 0 then decide (S ^^^ (S &&& A) = 0) else decide (A ^^^ (A &&& S) = 0))) (fun s => some (nI s)) (fun _ => True) h16 ?_ (fun _ _ _ _ => trivial) ?_ 0 trivial
      · intro f i s hS _
        show f_X12_within_B15b (f_X12_within_L15 f) (nI A) l (nI s) (nI i) w1 = _
        unfold f_X12_within_B15b
        rw [if_neg (all_in hM1 hg hS), y_isFree hM1 hg hS, bnd_some, m_compl (lt31 (le16 hS h16)), m_compl hA31, nI_1, nI_1]
        simp only [nIz (lt31 (le16 (dif_lt hS (R := A)) h16)), nIz (lt31 (le16 (dif_lt hA (R := i)) h16))]
        unfold b2n
        by_cases c0 : fr n T i = true <;> by_cases c1 : l = 0 <;> by_cases c2 : i ^^^ (i &&& A) = 0 <;> by_cases c3 : A ^^^ (A &&& i) = 0 <;> simp [c0, c1, c2, c3, one_ne]
      · intro f s _
        show f_X12_within_B15b (f_X12_within_L15 f) (nI A) l (nI s) (nI (2 ^ n)) w1 = _
        unfold f_X12_within_B15b
        rw [if_pos (all_end hM1 hg)]
  · exact ⟨-1, w, by simp only [e1, ↓reduceIte], by simp only [e2, ↓reduceIte], frD_rfl hI⟩
/-! nearest -/
def nrS (n : Nat) (T : Nat → Nat → Nat) (A k S : Nat) (s : Nat × Int32) : Nat × Int32 := if decide (k ≤ kd n T S) && decide (pc (S ^^^ A) < s.1) then (pc (S ^^^ A), nI S) else s
theorem c_nearest {w : Wd} (hG : GX w n T iv) (hM : GM w n T iv) (hg : Gp n T iv) (hF : (FL n T).length < 3072) (hI : FRI n T w) (a b c : Int32) : ∃ r w1, f_X11_nearest a b c w = some (r, w1) ∧ f_X12_nearest a b c w1 = some r ∧ frD n T w w1 := by
  have h16 := hg.1.2
  unfold f_X11_nearest f_X12_nearest
  rcases set_or hG hM hg a with ⟨A, hA, rfl, e1, e2⟩ | ⟨e1, e2⟩
  · rcases kind_or b with ⟨k, hk, rfl, k1, k2⟩ | ⟨k1, k2⟩
    · rcases tri_or c (lo := 0) (hi := 1) (by decide) (by decide) with ⟨q, -, hq, rfl⟩ | h | ⟨q1, q2, q3, q4, q5⟩
      · obtain ⟨w1, t1, t2, t3, t4⟩ := x_total hG hg hF hI
        have hM1 := GM_frees hM t3
        have hA6 := le16 hA h16
        have c1 : f_X12_in (nI q) 0 1 = 1 := by
          unfold f_X12_in
          rw [if_neg (nI_pos (by omega)), if_neg (show ¬ (1 : Int32) < nI q from nI_nlt (a := 1) (by omega) (by omega))]
        have e2' : f_X12_isSet (nI A) w1 = 1 := by rw [isS_cong (w := w) (by rw [t3 44 (by decide) (by decide)]), e2]
        obtain ⟨Z, hZ⟩ : ∃ Z, Z = FS n T (nrS n T A k) (17, -2) := ⟨_, rfl⟩
        have kx := lupF (n := n) (T := T) (fun f i (s : Nat × Int32) => f_X11_nearest_L49 f (nI A) (nI k) (nI q) (nI s.1) s.2 (nI (FL n T).length) (nI i) w1) (nrS n T A k) (fun s => some (if s.2 = (-2) then s.2 else if q = 1 then s.2 else nI s.1, w1)) (fun s => s.1 ≤ 17 ∧ (s.2 = -2 ∨ ∃ S, S < 2 ^ 16 ∧ s.2 = nI S)) hF ?_ (fun S s hS h => by
            unfold nrS; split
            · exact ⟨by have := pc_le (S ^^^ A); omega, Or.inr ⟨S, le16 hS h16, rfl⟩⟩
            · exact h) ?_ (17, -2) ⟨by omega, Or.inl rfl⟩
        · have ky := lupY (n := n) (T := T) (fun f i (s : Nat × Int32) => f_X12_nearest_L37 f (nI A) (nI k) (nI q) s.2 (nI s.1) (nI i) w1) (nrS n T A k) (fun s => some (if q = 0 then (if s.2 < 0 then s.2 else nI s.1) else s.2)) (fun s => s.1 ≤ 17) h16 ?_ (fun S s hS h => by
              unfold nrS; split
              · have := pc_le (S ^^^ A); dsimp only; omega
              · exact h) ?_ (17, -2) (by omega)
          · refine ⟨_, w1, by rw [e1, if_neg one_ne, k1, if_neg one_ne, if_neg (nI_pos (by omega)), if_pos (show nI q ≤ (1 : Int32) from nI_le hq (by decide)), t1, bnd2_some]; exact kx.1, ?_, frD_of t2 t3 t4⟩
            rw [e2', if_neg one_ne, k2, if_neg one_ne, c1, if_neg one_ne]
            refine ky.trans ?_
            have kz := kx.2
            rw [← hZ] at kz ⊢
            congr 1
            rcases (show q = 0 ∨ q = 1 by omega) with rfl | rfl
            · rcases kz.2 with r | ⟨S, hS, r⟩
              · rw [r]; rfl
              · rw [r, if_pos rfl, if_neg (nI_pos (lt31 hS)), if_neg (fun h => by
                  have := nI_pos (lt31 hS); rw [h] at this; exact this (by decide))]
                rfl
            · simp
          · intro f i s hS hs
            have hx := Nat.xor_lt_two_pow (le16 hS h16) hA6
            have hp := pc_le (i ^^^ A)
            show f_X12_nearest_B37b (f_X12_nearest_L37 f) (nI A) (nI k) (nI q) s.2 (nI s.1) (nI i) w1 = _
            unfold f_X12_nearest_B37b
            rw [if_neg (all_in hM1 hg hS), m_xor, y_ones hx, bnd_some, y_isOf hM1 hg hS hk, bnd_some, nI_1]
            simp only [m_le (show s.1 < 2 ^ 31 by omega) (show pc (i ^^^ A) < 2 ^ 31 by omega)]
            unfold nrS
            by_cases c1 : fr n T i = true <;> by_cases c2 : k ≤ kd n T i <;> by_cases c3 : s.1 ≤ pc (i ^^^ A) <;> simp [c1, c2, c3, one_ne, Nat.not_lt.mpr, Nat.not_le.mp]
          · intro f s hs
            show f_X12_nearest_B37b (f_X12_nearest_L37 f) (nI A) (nI k) (nI q) s.2 (nI s.1) (nI (2 ^ n)) w1 = _
            unfold f_X12_nearest_B37b
            rw [if_pos (all_end hM1 hg)]
            rcases (show q = 0 ∨ q = 1 by omega) with rfl | rfl
            · rw [if_pos rfl, if_pos (show nI 0 = 0 from rfl)]; split <;> rfl
            · rw [if_neg (show ¬ nI 1 = 0 from one_ne), if_neg (by decide)]
        · intro f i s hi hs
          have hS := (FL_get hi).1
          have hx := Nat.xor_lt_two_pow (le16 hS h16) hA6
          show f_X11_nearest_B49b (f_X11_nearest_L49 f) (nI A) (nI k) (nI q) (nI s.1) s.2 (nI (FL n T).length) (nI i) w1 = _
          unfold f_X11_nearest_B49b
          rw [if_neg (nI_ge hi (by omega)), x_setAt t2 h16 hF hi, bnd_some, bnd_some, x_fits t2 h16 hF hi hk, bnd_some, m_xor, x_pc hx, nI_1]
          generalize (FL n T).getD i 0 = S at *
          have hp := pc_le (S ^^^ A)
          simp only [m_le (show s.1 < 2 ^ 31 by omega) (show pc (S ^^^ A) < 2 ^ 31 by omega)]
          unfold nrS fts
          by_cases c2 : k ≤ kd n T S <;> by_cases c3 : s.1 ≤ pc (S ^^^ A) <;> simp [c2, c3, one_ne]
          · rw [if_neg (by omega)]
          · rw [if_pos (by omega)]
        · intro f s hs
          show f_X11_nearest_B49b (f_X11_nearest_L49 f) (nI A) (nI k) (nI q) (nI s.1) s.2 (nI (FL n T).length) (nI (FL n T).length) w1 = _
          unfold f_X11_nearest_B49b
          rw [if_pos (nI_le (Nat.le_refl _) (by omega))]
          simp only [show (nI q = 1 ↔ q = 1) from m_inj (b := 1) (by omega) (by decide)]
          split
          · rfl
          · split <;> rfl
      · have h : c < 0 := h
        have c1 : f_X12_in c 0 1 = 0 := by unfold f_X12_in; rw [if_pos h]
        exact ⟨-1, w, by rw [e1, if_neg one_ne, k1, if_neg one_ne, if_pos h], by rw [e2, if_neg one_ne, k2, if_neg one_ne, c1, if_pos rfl], frD_rfl hI⟩
      · have q2 : (1 : Int32) < c := q2
        have q4 : ¬ c ≤ 1 := q4
        have c1 : f_X12_in c 0 1 = 0 := by unfold f_X12_in; rw [if_neg q5, if_pos q2]
        exact ⟨-1, w, by rw [e1, if_neg one_ne, k1, if_neg one_ne, if_neg q5, if_neg q4], by rw [e2, if_neg one_ne, k2, if_neg one_ne, c1, if_pos rfl], frD_rfl hI⟩
    · exact ⟨-1, w, by rw [e1, if_neg one_ne, k1, if_pos rfl], by rw [e2, if_neg one_ne, k2, if_pos rfl], frD_rfl hI⟩
  · exact ⟨-1, w, by simp only [e1, ↓reduceIte], by simp only [e2, ↓reduceIte], frD_rfl hI⟩
end COUNTED
