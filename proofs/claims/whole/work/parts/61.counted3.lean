/-! mean, usual -/
theorem rng_app {σ : Type} (g : Nat → σ → σ) : ∀ a i b s, rng g i (a + b) s = rng g (i + a) b (rng g i a s) := by
  intro a
  induction a with
  | zero => intro i b s; rw [Nat.zero_add]; rfl
  | succ a ih =>
    intro i b s
    rw [show a + 1 + b = (a + b) + 1 by omega]
    show rng g (i + 1) (a + b) (g i s) = rng g (i + (a + 1)) b (rng g (i + 1) a (g i s))
    rw [ih, show i + 1 + a = i + (a + 1) by omega]
theorem rng_same {σ : Type} {g : Nat → σ → σ} {s : σ} : ∀ k i, (∀ j, i ≤ j → j < i + k → g j s = s) → rng g i k s = s := by
  intro k
  induction k with
  | zero => intro i _; rfl
  | succ k ih =>
    intro i h
    show rng g (i + 1) k (g i s) = s
    rw [h i (by omega) (by omega)]
    exact ih (i + 1) (fun j h1 h2 => h j (by omega) (by omega))
theorem gcd_stp (a b : Nat) : Nat.gcd a b = Nat.gcd b (a % b) := by
  rw [Nat.gcd_comm, Nat.gcd_rec, Nat.gcd_comm]
theorem mod_half {a b k : Nat} (h : b < 2 ^ (k + 1)) (h0 : 0 < a) (h1 : a < b) : b % a < 2 ^ k := by
  rw [Nat.pow_succ] at h
  rcases Nat.lt_or_ge (2 ^ k) a with q | q
  · have e : b % a = b - a := by
      rw [Nat.mod_eq_sub_mod (by omega), Nat.mod_eq_of_lt (by omega)]
    omega
  · have := Nat.mod_lt b h0
    omega
theorem x_gcd : ∀ k a b step f, a < 2 ^ 31 → b < 2 ^ 31 → b < 2 ^ k → step + 2 * k ≤ 63 → 2 * k < f → f_X11_greatestDivisor_L7 f (nI a) (nI b) (nI step) = some (nI (Nat.gcd a b)) := by
  intro k
  induction k with
  | zero =>
    intro a b step f ha hb hk hs hf
    obtain ⟨f, rfl⟩ : ∃ q, f = q + 1 := ⟨f - 1, by omega⟩
    have e : b = 0 := by omega
    subst e
    show f_X11_greatestDivisor_B7b (f_X11_greatestDivisor_L7 f) (nI a) (nI 0) (nI step) = _
    unfold f_X11_greatestDivisor_B7b
    rw [if_neg (show ¬ (64 : Int32) ≤ nI step from nI_ge (b := 64) (by omega) (by decide)), if_pos (show nI 0 = 0 from rfl), Nat.gcd_zero_right]
  | succ k ih =>
    intro a b step f ha hb hk hs hf
    obtain ⟨f, rfl⟩ : ∃ q, f = q + 1 := ⟨f - 1, by omega⟩
    show f_X11_greatestDivisor_B7b (f_X11_greatestDivisor_L7 f) (nI a) (nI b) (nI step) = _
    unfold f_X11_greatestDivisor_B7b
    rw [if_neg (show ¬ (64 : Int32) ≤ nI step from nI_ge (b := 64) (by omega) (by decide))]
    rcases Nat.eq_zero_or_pos b with r | r
    · subst r
      rw [if_pos (show nI 0 = 0 from rfl), Nat.gcd_zero_right]
    · have hz := nI_ne0 r hb
      rw [if_neg hz]
      unfold nzI
      rw [if_neg hz]
      show f_X11_greatestDivisor_L7 f (nI b) (nI a - nI a / nI b * nI b) (nI step + 1) = _
      rw [pk_rem ha r hb, nI_1, gcd_stp a b]
      have hm := Nat.mod_lt a r
      generalize a % b = c at *
      obtain ⟨f, rfl⟩ : ∃ q, f = q + 1 := ⟨f - 1, by omega⟩
      show f_X11_greatestDivisor_B7b (f_X11_greatestDivisor_L7 f) (nI b) (nI c) (nI (step + 1)) = _
      unfold f_X11_greatestDivisor_B7b
      rw [if_neg (show ¬ (64 : Int32) ≤ nI (step + 1) from nI_ge (b := 64) (by omega) (by decide))]
      rcases Nat.eq_zero_or_pos c with t | t
      · subst t
        rw [if_pos (show nI 0 = 0 from rfl), Nat.gcd_zero_right]
      · have hz := nI_ne0 t (by omega)
        rw [if_neg hz]
        unfold nzI
        rw [if_neg hz]
        show f_X11_greatestDivisor_L7 f (nI c) (nI b - nI b / nI c * nI c) (nI (step + 1) + 1) = _
        have hh := mod_half hk t hm
        have hl := Nat.mod_lt b t
        rw [pk_rem hb t (by omega), nI_1, gcd_stp b c]
        exact ih c (b % c) (step + 2) f (by omega) (by omega) hh (by omega) (by omega)
theorem y_gcd {w : Wd} (l x y : Int32) : ∀ b a f, a < 2 ^ 31 → b < 2 ^ 31 → b < f → f_X12_mean_L72 f l x y (nI a) (nI b) w = (if l = 0 then nzI (nI (Nat.gcd a b)) (some (y / nI (Nat.gcd a b))) else nzI (nI (Nat.gcd a b)) (some (x / nI (Nat.gcd a b)))) := by
  intro b
  induction b using Nat.strongRecOn with
  | ind b ih =>
    intro a f ha hb hf
    obtain ⟨f, rfl⟩ : ∃ q, f = q + 1 := ⟨f - 1, by omega⟩
    show f_X12_mean_B72b (f_X12_mean_L72 f) l x y (nI a) (nI b) w = _
    unfold f_X12_mean_B72b
    rcases Nat.eq_zero_or_pos b with r | r
    · subst r
      rw [if_pos (show nI 0 = 0 from rfl), Nat.gcd_zero_right]
    · have hz := nI_ne0 r hb
      rw [if_neg hz]
      conv => lhs; unfold nzI
      rw [if_neg hz]
      show f_X12_mean_L72 f l x y (nI b) (nI a - nI a / nI b * nI b) w = _
      have hm := Nat.mod_lt a r
      rw [pk_rem ha r hb, gcd_stp a b]
      exact ih (a % b) hm b f hb (by omega) (by omega)
section COUNTED3
variable {n : Nat} {T : Nat → Nat → Nat} {iv : Nat → Nat}
def mnS (n : Nat) (T : Nat → Nat → Nat) (k S : Nat) (s : Nat × Nat) : Nat × Nat := if k ≤ kd n T S then (s.1 + pc S, s.2 + 1) else s
theorem mn_le (k : Nat) : ∀ (Q : List Nat) (s : Nat × Nat), (Q.foldl (fun s x => mnS n T k x s) s).1 ≤ s.1 + 16 * Q.length ∧ (Q.foldl (fun s x => mnS n T k x s) s).2 ≤ s.2 + Q.length := by
  intro Q
  induction Q with
  | nil => intro s; simp
  | cons x Q ih =>
    intro s
    have h1 := ih (mnS n T k x s)
    have h2 := pc_le x
    simp only [List.foldl_cons, List.length_cons]
    unfold mnS at h1 ⊢
    split at h1
    next c => simp only [c, ↓reduceIte] at h1 ⊢; constructor <;> omega
    next c => simp only [c, ↓reduceIte] at h1 ⊢; constructor <;> omega
theorem c_mean {w : Wd} (hG : GX w n T iv) (hM : GM w n T iv) (hg : Gp n T iv) (hF : (FL n T).length < 3072) (hI : FRI n T w) (a l : Int32) : ∃ r w1, f_X11_mean a l w = some (r, w1) ∧ f_X12_mean a l w1 = some r ∧ frD n T w w1 := by
  have h16 := hg.1.2
  unfold f_X11_mean f_X12_mean
  rcases kind_or a with ⟨k, hk, rfl, e1, e2⟩ | ⟨e1, e2⟩
  · simp only [e1, e2, one_ne, ↓reduceIte]
    obtain ⟨w1, t1, t2, t3, t4⟩ := x_total hG hg hF hI
    have hM1 := GM_frees hM t3
    rw [t1, bnd2_some]
    have kx := lupF (n := n) (T := T) (fun f i (s : Nat × Nat) => f_X11_mean_L26 f (nI k) l (nI s.1) (nI s.2) (nI (FL n T).length) (nI i) w1) (mnS n T k) (fun s => f_X11_mean_B26b (fun _ _ _ _ _ _ _ => none) (nI k) l (nI s.1) (nI s.2) (nI (FL n T).length) (nI (FL n T).length) w1) (fun _ => True) hF ?_ (fun _ _ _ _ => trivial) ?_ (0, 0) trivial
    · have ky := lupY (n := n) (T := T) (fun f i (s : Nat × Nat) => f_X12_mean_L17 f (nI k) l (nI s.2) (nI s.1) (nI i) w1) (mnS n T k) (fun s => if nI s.2 = 0 then some (-2) else f_X12_mean_L72 FU l (nI s.2) (nI s.1) (nI s.1) (nI s.2) w1) (fun _ => True) h16 ?_ (fun _ _ _ _ => trivial) ?_ (0, 0) trivial
      · have hb := mn_le (n := n) (T := T) k (FL n T) (0, 0)
        have hb : (FS n T (mnS n T k) (0, 0)).1 ≤ 0 + 16 * (FL n T).length ∧ (FS n T (mnS n T k) (0, 0)).2 ≤ 0 + (FL n T).length := hb
        obtain ⟨Z, hZ⟩ : ∃ Z, Z = FS n T (mnS n T k) (0, 0) := ⟨_, rfl⟩
        rw [← hZ] at hb kx ky
        have kx := kx.1
        rw [y_gcd l _ _ Z.2 Z.1 FU (by omega) (by omega) (FU_big (by omega))] at ky
        have ex : f_X11_greatestDivisor (nI Z.1) (nI Z.2) = some (nI (Nat.gcd Z.1 Z.2)) := by
          unfold f_X11_greatestDivisor
          exact x_gcd 12 Z.1 Z.2 0 FU (by omega) (by omega) (by omega) (by decide) (FU_big (by decide))
        unfold f_X11_mean_B26b at kx
        rw [if_pos (nI_le (Nat.le_refl _) (by omega)), ex, bnd_some] at kx
        by_cases hz : Z.2 = 0
        · have hz' : nI Z.2 = 0 := by rw [hz]; rfl
          rw [if_pos hz'] at kx ky
          exact ⟨-2, w1, kx, ky, frD_of t2 t3 t4⟩
        · have hz' : ¬ nI Z.2 = 0 := nI_ne0 (by omega) (by omega)
          rw [if_neg hz'] at kx ky
          have g0 : 0 < Nat.gcd Z.1 Z.2 := Nat.gcd_pos_of_pos_right _ (by omega)
          have g1 : Nat.gcd Z.1 Z.2 ≤ Z.2 := Nat.gcd_le_right _ (by omega)
          have hsh : (if 1 < nI (Nat.gcd Z.1 Z.2) then nI (Nat.gcd Z.1 Z.2) else 1) = nI (Nat.gcd Z.1 Z.2) := by
            rcases Nat.lt_or_ge 1 (Nat.gcd Z.1 Z.2) with q | q
            · rw [if_pos (show (1 : Int32) < nI (Nat.gcd Z.1 Z.2) from nI_lt (a := 1) q (by omega))]
            · rw [show Nat.gcd Z.1 Z.2 = 1 by omega]; rfl
          rw [hsh] at kx
          have hn0 : ¬ nI (Nat.gcd Z.1 Z.2) = 0 := nI_ne0 g0 (by omega)
          unfold nzI at kx ky
          simp only [hn0, ↓reduceIte] at kx ky
          by_cases hl : l = 0
          · simp only [hl, ↓reduceIte] at kx ky ⊢
            exact ⟨_, w1, kx, ky, frD_of t2 t3 t4⟩
          · simp only [hl, ↓reduceIte] at kx ky ⊢
            exact ⟨_, w1, kx, ky, frD_of t2 t3 t4⟩
      · intro f i s hi _
        show f_X12_mean_B17b (f_X12_mean_L17 f) (nI k) l (nI s.2) (nI s.1) (nI i) w1 = _
        unfold f_X12_mean_B17b
        rw [if_neg (all_in hM1 hg hi), y_isOf hM1 hg hi hk, bnd_some, y_ones (le16 hi h16), bnd_some, nI_1, nI_1, nI_add]
        unfold mnS
        by_cases c1 : fr n T i = true <;> by_cases c2 : k ≤ kd n T i <;> simp [c1, c2, one_ne]
      · intro f s _
        show f_X12_mean_B17b (f_X12_mean_L17 f) (nI k) l (nI s.2) (nI s.1) (nI (2 ^ n)) w1 = _
        unfold f_X12_mean_B17b
        rw [if_pos (all_end hM1 hg)]
    · intro f i s hi _
      show f_X11_mean_B26b (f_X11_mean_L26 f) (nI k) l (nI s.1) (nI s.2) (nI (FL n T).length) (nI i) w1 = _
      have hS := le16 (FL_get hi).1 h16
      unfold f_X11_mean_B26b
      rw [if_neg (nI_ge hi (by omega)), x_fits t2 h16 hF hi hk, bnd_some, x_setAt t2 h16 hF hi, bnd_some, x_pc hS, nI_1, nI_1, nI_add]
      generalize (FL n T).getD i 0 = S at *
      unfold mnS fts
      by_cases c2 : k ≤ kd n T S <;> simp [c2, one_ne]
    · intro f s _
      show f_X11_mean_B26b (f_X11_mean_L26 f) (nI k) l (nI s.1) (nI s.2) (nI (FL n T).length) (nI (FL n T).length) w1 = _
      unfold f_X11_mean_B26b
      rw [if_pos (nI_le (Nat.le_refl _) (by omega)), if_pos (nI_le (Nat.le_refl _) (by omega))]
  · exact ⟨-1, w, by simp only [e1, ↓reduceIte], by simp only [e2, ↓reduceIte], frD_rfl hI⟩
/-! usual -/
def bmp (c : Nat → Nat) (p : Nat) : Nat → Nat := fun j => if j = p then c j + 1 else c j
def usS (n : Nat) (T : Nat → Nat → Nat) (k S : Nat) (c : Nat → Nat) : Nat → Nat := if k ≤ kd n T S then bmp c (pc S) else c
theorem us_le (k j : Nat) : ∀ (Q : List Nat) (s : Nat → Nat), Q.foldl (fun s x => usS n T k x s) s j ≤ s j + Q.length := by
  intro Q
  induction Q with
  | nil => intro s; simp
  | cons x Q ih =>
    intro s
    have h1 := ih (usS n T k x s)
    have h2 : usS n T k x s j ≤ s j + 1 := by
      unfold usS bmp
      split
      · dsimp only; split <;> omega
      · omega
    simp only [List.foldl_cons, List.length_cons]
    omega
theorem us_hi (k j : Nat) : ∀ (Q : List Nat) (s : Nat → Nat), (∀ S, S ∈ Q → pc S < j) → Q.foldl (fun s x => usS n T k x s) s j = s j := by
  intro Q
  induction Q with
  | nil => intro s _; rfl
  | cons x Q ih =>
    intro s h
    have h1 := ih (usS n T k x s) (fun S hS => h S (List.mem_cons_of_mem _ hS))
    have h2 := h x List.mem_cons_self
    simp only [List.foldl_cons]
    rw [h1]
    unfold usS bmp
    split
    · dsimp only; rw [if_neg (by omega)]
    · rfl
theorem pc_len {S : Nat} (hS : S < 2 ^ n) (hn : n ≤ 16) : pc S ≤ n := by
  have := pc_sub (A := S) (B := 2 ^ n - 1) (fun x hx => (all_bit n x).mpr (bit_lt hS hx))
  rw [pc_all hn] at this
  exact this
def uwS (c : Nat → Nat) (k : Nat) (s : Int32 × Nat) : Int32 × Nat := if s.2 < c k then (nI k, c k) else s
theorem c_usual {w : Wd} (hG : GX w n T iv) (hM : GM w n T iv) (hg : Gp n T iv) (hF : (FL n T).length < 3072) (hI : FRI n T w) (a : Int32) : ∃ r w1 w2, f_X11_usual a w = some (r, w1) ∧ f_X12_usual a w1 = some (r, w2) ∧ frD n T w w2 := by
  have h16 := hg.1.2
  have h65 := p16 h16
  unfold f_X11_usual f_X12_usual
  rcases kind_or a with ⟨k, hk, rfl, e1, e2⟩ | ⟨e1, e2⟩
  · simp only [e1, e2, one_ne, ↓reduceIte]
    obtain ⟨w0, z1, z2, z3, z4⟩ := x_fill43 w
    rw [z1, bnd_some]
    have hI0 : FRI n T w0 := by
      unfold FRI FR at *
      rw [z2 19 (by decide), z2 20 (by decide)]; exact hI
    obtain ⟨w3, t1, t2, t3, t4⟩ := x_total (GX_cong hG (z2 6 (by decide)) (z2 9 (by decide)) (z2 10 (by decide))) hg hF hI0
    rw [t1, bnd2_some]
    obtain ⟨C, hC⟩ : ∃ C, C = FS n T (usS n T k) (fun _ => 0) := ⟨_, rfl⟩
    have hCle : ∀ j, C j < 2 ^ 31 := fun j => by
      have := us_le (n := n) (T := T) k j (FL n T) (fun _ => 0)
      have e : C j ≤ 0 + (FL n T).length := by rw [hC]; exact this
      omega
    have hChi : ∀ j, n < j → C j = 0 := fun j hj => by
      rw [hC]
      exact us_hi k j (FL n T) (fun _ => 0) (fun S hS => by
        have := pc_len (FLe_mem.mp hS).1 h16
        omega)
    have kx := lrun (fun f i (s : Wd × (Nat → Nat)) => f_X11_usual_L27 f (nI k) (nI (FL n T).length) (nI i) s.1) (FL n T).length (fun s => f_X11_usual_L80 FU (-2) 0 0 s.1) (fun i s => (∀ k, k ≠ 43 → s.1.1 k = w3.1 k) ∧ s.1.2 = w3.2 ∧ (∀ j, j < 17 → s.1.1 43 j = nI (s.2 j)) ∧ s.2 = rng (fun i s => usS n T k ((FL n T).getD i 0) s) 0 i (fun _ => 0)) ?_ ?_ (FL n T).length 0 (w3, fun _ => 0) FU (by omega) (FU_big (by omega)) ⟨fun _ _ => rfl, rfl, fun j hj => by rw [t3 43 (by decide) (by decide), z4 j hj]; rfl, rfl⟩
    · obtain ⟨⟨w1, c1⟩, ⟨a1, a2, a3, a4⟩, a5⟩ := kx
      have a4 : c1 = C := by dsimp only at a4; rw [a4, rng_list, hC]; rfl
      subst a4
      dsimp only at a1 a2 a3
      have kx2 := lup (fun f i (s : Int32 × Nat) => f_X11_usual_L80 f s.1 (nI s.2) (nI i) w1) 17 (uwS c1) (fun s => some (s.1, w1)) (fun _ s => s.2 < 2 ^ 31) ?_ (fun i s _ h => by unfold uwS; split; exact hCle i; exact h) ?_ 17 0 (-2, 0) FU (by omega) (FU_big (by omega)) (by decide)
      · have hM1 : GM w1 n T iv := GM_cong hM (by rw [a1 44 (by decide), t3 44 (by decide) (by decide), z2 44 (by decide)]) (by rw [a1 47 (by decide), t3 47 (by decide) (by decide), z2 47 (by decide)]) (by rw [a1 48 (by decide), t3 48 (by decide) (by decide), z2 48 (by decide)]) (by rw [a1 49 (by decide), t3 49 (by decide) (by decide), z2 49 (by decide)])
        have ky0 := lrun (fun f i (s : Wd) => f_X12_usual_L11 f (nI k) (nI i) s) 17 (fun s => f_X12_usual_L32 FU (nI k) 0 s) (fun i s => (∀ k, k ≠ 57 → s.1 k = w1.1 k) ∧ s.2 = w1.2 ∧ ∀ j, j < i → s.1 57 j = 0) ?_ ?_ 17 0 w1 FU (by omega) (FU_big (by omega)) ⟨fun _ _ => rfl, rfl, fun j h => by omega⟩
        · obtain ⟨w4, ⟨b1, b2, b3⟩, b4⟩ := ky0
          have hM4 : GM w4 n T iv := GM_cong hM1 (by rw [b1 44 (by decide)]) (b1 47 (by decide)) (b1 48 (by decide)) (b1 49 (by decide))
          have ky := lrun (fun f i (s : Wd × (Nat → Nat)) => f_X12_usual_L32 f (nI k) (nI i) s.1) (2 ^ n) (fun s => f_X12_usual_L76 FU (-2) 0 0 s.1) (fun i s => (∀ k, k ≠ 57 → s.1.1 k = w1.1 k) ∧ s.1.2 = w1.2 ∧ (∀ j, j < 17 → s.1.1 57 j = nI (s.2 j)) ∧ s.2 = rng (fun i s => if fr n T i then usS n T k i s else s) 0 i (fun _ => 0)) ?_ ?_ (2 ^ n) 0 (w4, fun _ => 0) FU (by omega) (FU_big (by omega)) ⟨b1, b2, b3, rfl⟩
          · obtain ⟨⟨w2, c2⟩, ⟨d1, d2, d3, d4⟩, d5⟩ := ky
            have d4 : c2 = c1 := by dsimp only at d4; rw [d4, ← FL_foldl, hC]; rfl
            subst d4
            dsimp only at d1 d2 d3
            have ky2 := lup (fun f i (s : Int32 × Nat) => f_X12_usual_L76 f s.1 (nI s.2) (nI i) w2) (n + 1) (uwS c2) (fun s => some (s.1, w2)) (fun _ s => s.2 < 2 ^ 31) ?_ (fun i s _ h => by unfold uwS; split; exact hCle i; exact h) ?_ (n + 1) 0 (-2, 0) FU (by omega) (FU_big (by omega)) (by decide)
            · have e17 : rng (uwS c2) 0 17 (-2, 0) = rng (uwS c2) 0 (n + 1) (-2, 0) := by
                have := rng_app (uwS c2) (n + 1) 0 (17 - (n + 1)) (-2, 0)
                rw [show n + 1 + (17 - (n + 1)) = 17 by omega] at this
                rw [this]
                apply rng_same
                intro j h1 _
                unfold uwS
                rw [hChi j (by omega), if_neg (by omega)]
              refine ⟨(rng (uwS c2) 0 (n + 1) (-2, 0)).1, w1, w2, ?_, ?_, ?_, fun k h1 h2 h3 h4 => ?_, ?_⟩
              · refine a5.trans ?_
                rw [← e17]; exact kx2.1
              · refine b4.trans (d5.trans ky2.1)
              · unfold FRI FR at *
                refine Or.inr ?_
                rw [d1 19 (by decide), d1 20 (by decide), a1 19 (by decide), a1 20 (by decide)]
                exact t2
              · rw [d1 k h4, a1 k h3, t3 k h1 h2, z2 k h3]
              · rw [d2, a2, t4, z3]
            · intro f i s hi hs
              show f_X12_usual_B76b (f_X12_usual_L76 f) s.1 (nI s.2) (nI i) w2 = _
              unfold f_X12_usual_B76b
              rw [d1 44 (by decide), hM1.1, if_neg (nI_nlt (by omega) (by omega)), m_rd (by omega) (by decide), m_rd (by omega) (by decide), d3 i (by omega), nI_1]
              simp only [m_lt hs (hCle i)]
              unfold uwS
              split <;> rfl
            · intro f s hs
              show f_X12_usual_B76b (f_X12_usual_L76 f) s.1 (nI s.2) (nI (n + 1)) w2 = _
              unfold f_X12_usual_B76b
              rw [d1 44 (by decide), hM1.1, if_pos (nI_lt (by omega) (by omega))]
          · rintro i ⟨w5, c5⟩ hi ⟨d1, d2, d3, d4⟩
            dsimp only at d1 d2 d3
            have hM5 : GM w5 n T iv := GM_cong hM1 (by rw [d1 44 (by decide)]) (d1 47 (by decide)) (d1 48 (by decide)) (d1 49 (by decide))
            have hp := pc_le i
            have e4 : ∀ q : Nat → Nat, q = (if fr n T i then usS n T k i c5 else c5) → q = rng (fun i s => if fr n T i then usS n T k i s else s) 0 (i + 1) (fun _ => 0) := fun q hq => by
              rw [rng_succ, Nat.zero_add]
              dsimp only at d4
              rw [← d4]; exact hq
            by_cases c : (fr n T i && decide (k ≤ kd n T i)) = true
            · have c' := c
              simp only [Bool.and_eq_true, decide_eq_true_eq] at c'
              refine ⟨(sI w5 57 (pc i) (nI (c5 (pc i) + 1)), bmp c5 (pc i)), ⟨fun k hk => ?_, d2, fun j hj => ?_, e4 _ (by rw [c'.1, if_pos rfl]; unfold usS; rw [if_pos c'.2])⟩, fun f => ?_⟩
              · rw [← d1 k hk]; funext j; rw [sI_at]; simp [hk]
              · rw [sI_at]
                show _ = nI (bmp c5 (pc i) j)
                unfold bmp
                by_cases q : j = pc i
                · subst q; simp
                · rw [if_neg (fun r => q r.2), if_neg q, d3 j hj]
              · show f_X12_usual_B32b (f_X12_usual_L32 f) (nI k) (nI i) w5 = _
                unfold f_X12_usual_B32b
                rw [if_neg (all_in hM5 hg hi), y_isOf hM5 hg hi hk, bnd_some, c, if_pos rfl, if_neg one_ne, y_ones (le16 hi h16), bnd_some, m_rd (by omega) (by decide), m_wr (by omega) (by decide), d3 _ (by omega), nI_1, nI_1]
            · refine ⟨(w5, c5), ⟨d1, d2, d3, e4 _ ?_⟩, fun f => ?_⟩
              · unfold usS
                by_cases c1 : fr n T i = true <;> by_cases c2 : k ≤ kd n T i <;> simp [c1, c2] at c ⊢
              · show f_X12_usual_B32b (f_X12_usual_L32 f) (nI k) (nI i) w5 = _
                unfold f_X12_usual_B32b
                rw [if_neg (all_in hM5 hg hi), y_isOf hM5 hg hi hk, bnd_some, if_neg c, if_pos rfl, nI_1]
          · rintro f ⟨w5, c5⟩ ⟨d1, d2, d3, d4⟩
            dsimp only at d1
            have hM5 : GM w5 n T iv := GM_cong hM1 (by rw [d1 44 (by decide)]) (d1 47 (by decide)) (d1 48 (by decide)) (d1 49 (by decide))
            show f_X12_usual_B32b (f_X12_usual_L32 f) (nI k) (nI (2 ^ n)) w5 = _
            unfold f_X12_usual_B32b
            rw [if_pos (all_end hM5 hg)]
        · rintro i s hi ⟨h1, h2, h3⟩
          refine ⟨sI s 57 i 0, ⟨fun k hk => ?_, h2, fun j hj => ?_⟩, fun f => ?_⟩
          · rw [← h1 k hk]; funext j; rw [sI_at]; simp [hk]
          · rw [sI_at]
            split
            · rfl
            · next q => exact h3 j (by omega)
          · show f_X12_usual_B11b (f_X12_usual_L11 f) (nI k) (nI i) s = _
            unfold f_X12_usual_B11b
            rw [if_neg (show ¬ (16 : Int32) < nI i from nI_nlt (a := 16) (by omega) (by decide)), m_wr (by omega) (by decide), nI_1]
        · rintro f s ⟨h1, h2, h3⟩
          show f_X12_usual_B11b (f_X12_usual_L11 f) (nI k) (nI 17) s = _
          unfold f_X12_usual_B11b
          rw [if_pos (show (16 : Int32) < nI 17 from nI_lt (a := 16) (by decide) (by decide))]
      · intro f i s hi hs
        show f_X11_usual_B80b (f_X11_usual_L80 f) s.1 (nI s.2) (nI i) w1 = _
        unfold f_X11_usual_B80b
        rw [if_neg (show ¬ (17 : Int32) ≤ nI i from nI_ge (b := 17) hi (by decide)), m_rd hi (by decide), m_rd hi (by decide), a3 i hi, nI_1]
        simp only [m_le (hCle i) hs]
        unfold uwS
        by_cases c : c1 i ≤ s.2
        · rw [if_pos c, if_neg (by omega)]
        · rw [if_neg c, if_pos (by omega)]
      · intro f s hs
        show f_X11_usual_B80b (f_X11_usual_L80 f) s.1 (nI s.2) (nI 17) w1 = _
        unfold f_X11_usual_B80b
        rw [if_pos (show (17 : Int32) ≤ nI 17 from nI_le (a := 17) (by decide) (by decide))]
    · rintro i ⟨w5, c5⟩ hi ⟨a1, a2, a3, a4⟩
      dsimp only at a1 a2 a3
      have t5 : FR n T w5 := by
        unfold FR at *
        rw [a1 19 (by decide), a1 20 (by decide)]; exact t2
      have hS := le16 (FL_get hi).1 h16
      have e4 : ∀ q : Nat → Nat, q = usS n T k ((FL n T).getD i 0) c5 → q = rng (fun i s => usS n T k ((FL n T).getD i 0) s) 0 (i + 1) (fun _ => 0) := fun q hq => by
        rw [rng_succ, Nat.zero_add]
        dsimp only at a4
        rw [← a4]; exact hq
      have B : ∀ f, f_X11_usual_L27 (f + 1) (nI k) (nI (FL n T).length) (nI i) w5 = if k ≤ kd n T ((FL n T).getD i 0) then f_X11_usual_L27 f (nI k) (nI (FL n T).length) (nI (i + 1)) (sI w5 43 (pc ((FL n T).getD i 0)) (nI (c5 (pc ((FL n T).getD i 0)) + 1))) else f_X11_usual_L27 f (nI k) (nI (FL n T).length) (nI (i + 1)) w5 := by
        intro f
        show f_X11_usual_B27b (f_X11_usual_L27 f) (nI k) (nI (FL n T).length) (nI i) w5 = _
        unfold f_X11_usual_B27b
        rw [if_neg (nI_ge hi (by omega)), x_fits t5 h16 hF hi hk, bnd_some, x_setAt t5 h16 hF hi, bnd_some, x_pc hS, nI_1]
        generalize (FL n T).getD i 0 = S at *
        have hp := pc_le S
        rw [m_rd (by omega) (by decide), m_wr (by omega) (by decide), a3 _ (by omega), nI_1]
        unfold fts
        by_cases c2 : k ≤ kd n T S <;> simp [c2, one_ne]
      have hp := pc_le ((FL n T).getD i 0)
      by_cases c : k ≤ kd n T ((FL n T).getD i 0)
      · refine ⟨(sI w5 43 (pc ((FL n T).getD i 0)) (nI (c5 (pc ((FL n T).getD i 0)) + 1)), bmp c5 (pc ((FL n T).getD i 0))), ⟨fun k hk => ?_, a2, fun j hj => ?_, e4 _ (by unfold usS; rw [if_pos c])⟩, fun f => by rw [B f, if_pos c]⟩
        · rw [← a1 k hk]; funext j; rw [sI_at]; simp [hk]
        · rw [sI_at]
          show _ = nI (bmp c5 (pc ((FL n T).getD i 0)) j)
          unfold bmp
          by_cases q : j = pc ((FL n T).getD i 0)
          · subst q; simp
          · rw [if_neg (fun r => q r.2), if_neg q, a3 j hj]
      · exact ⟨(w5, c5), ⟨a1, a2, a3, e4 _ (by unfold usS; rw [if_neg c])⟩, fun f => by rw [B f, if_neg c]⟩
    · rintro f ⟨w5, c5⟩ ⟨a1, a2, a3, a4⟩
      show f_X11_usual_B27b (f_X11_usual_L27 f) (nI k) (nI (FL n T).length) (nI (FL n T).length) w5 = _
      unfold f_X11_usual_B27b
      rw [if_pos (nI_le (Nat.le_refl _) (by omega))]
  · exact ⟨-1, w, w, by simp only [e1, ↓reduceIte], by simp only [e2, ↓reduceIte], frD_rfl hI⟩
end COUNTED3
