/-! how many characters there are: never more than elements -/
def tb (n : Nat) (φ : Nat → Nat) : List Nat := (List.range n).map φ
theorem tb_get {n a : Nat} {φ : Nat → Nat} (h : a < n) : (tb n φ).getD a 0 = φ a := by
  unfold tb
  rw [List.getD_eq_getElem?_getD, List.getElem?_map, List.getElem?_range h]; rfl
theorem tb_cong {n : Nat} {φ ψ : Nat → Nat} (h : ∀ a, a < n → φ a = ψ a) : tb n φ = tb n ψ := List.map_congr_left (fun a ha => h a (List.mem_range.mp ha))
def facA (f : Nat × Nat) (m : Nat) : List (Nat × Nat) :=
  if f.1 = 0 then ((List.range m).filter (fun x => f.2 * x % m == 0)).map (fun x => (x, 0))
  else if f.1 = 1 then ((List.range m).filter (fun x => f.2 * x % m == 0)).flatMap (fun x => ((List.range m).filter (fun y => 2 * y % m == 0)).map (fun y => (x, y)))
  else ((List.range m).filter (fun x => 4 * x % m == 0)).flatMap (fun x => ((List.range m).filter (fun y => 2 * y % m == 2 * x % m)).map (fun y => (x, y)))
def facV (f : Nat × Nat) (m : Nat) (p : Nat × Nat) (e : Nat) : Nat :=
  if f.1 = 0 then e * p.1 % m else if f.1 = 1 then ((e % f.2) * p.1 % m + (e / f.2) * p.2) % m
  else if e = 0 then 0 else if e = 1 then p.1 else if e = 2 then p.2 else if e = 3 then (p.1 + p.2) % m else if e = 4 then (p.1 + p.1) % m else if e = 5 then ((p.1 + p.1) % m + p.1) % m else if e = 6 then ((p.1 + p.1) % m + p.2) % m else ((p.1 + p.1) % m + (p.1 + p.2) % m) % m
set_option maxRecDepth 100000 in
theorem facA_len : ∀ f ∈ allF, ∀ m, m < 17 → (facA f m).length ≤ fsz f := by decide +kernel
theorem add_self_mod {a m : Nat} (h : a < m) (e : a = (a + a) % m) : a = 0 := by
  rcases Nat.lt_or_ge (a + a) m with q | q
  · rw [Nat.mod_eq_of_lt q] at e; omega
  · rw [Nat.mod_eq_sub_mod q, Nat.mod_eq_of_lt (by omega)] at e; omega
theorem fac_hom {f : Nat × Nat} (hf : f ∈ allF) {m : Nat} {φ : Nat → Nat} (h : HOM (fsz f) (fpr f) m φ) : ∃ p, p ∈ facA f m ∧ ∀ e, e < fsz f → φ e = facV f m p e := by
  obtain ⟨t, k⟩ := f
  obtain ⟨h1, h2⟩ := h
  unfold adm at h2
  obtain ⟨g1, -, g3, -, -⟩ := fac_0 (t, k) hf
  have z : φ 0 = 0 := by
    have := h2 0 0 (by omega) (by omega)
    rw [g3] at this
    exact add_self_mod (h1 0 (by omega)) this
  rcases allF_mem.mp hf with ⟨a, b, c⟩ | ⟨a, b, c⟩ | ⟨a, b⟩
  · dsimp only at a b c
    subst a
    have sz : fsz (0, k) = k := rfl
    have fp : ∀ x y, fpr (0, k) x y = (x + y) % k := fun x y => rfl
    rw [sz] at h1 h2
    have up : ∀ e, e < k → φ e = e * φ 1 % m := by
      intro e
      induction e with
      | zero => intro _; rw [z]; simp
      | succ e ih =>
        intro he
        have := h2 e 1 (by omega) (by omega)
        rw [fp, Nat.mod_eq_of_lt he, ih (by omega)] at this
        rw [this, Nat.mod_add_mod, Nat.succ_mul]
    have last := h2 (k - 1) 1 (by omega) (by omega)
    rw [fp, show k - 1 + 1 = k by omega, Nat.mod_self, z, up (k - 1) (by omega), Nat.mod_add_mod, ← Nat.succ_mul, show (k - 1).succ = k by omega] at last
    refine ⟨(φ 1, 0), ?_, fun e he => ?_⟩
    · unfold facA
      rw [if_pos rfl]
      exact List.mem_map.mpr ⟨φ 1, List.mem_filter.mpr ⟨List.mem_range.mpr (h1 1 (by omega)), by simp [← last]⟩, rfl⟩
    · unfold facV
      rw [if_pos rfl]; exact up e (by rw [sz] at he; exact he)
  · dsimp only at a b c
    subst a
    have sz : fsz (1, k) = 2 * k := rfl
    have fp : ∀ x y, fpr (1, k) x y = (if x / k = 0 then (x % k + y % k) % k else (x % k + k - y % k) % k) + k * ((x / k + y / k) % 2) := fun x y => rfl
    rw [sz] at h1 h2
    have dz : ∀ e, e < k → e / k = 0 := fun e he => Nat.div_eq_of_lt he
    have up : ∀ e, e < k → φ e = e * φ (1 % k) % m := by
      intro e
      induction e with
      | zero => intro _; rw [z]; simp
      | succ e ih =>
        intro he
        have := h2 e 1 (by omega) (by omega)
        have e1 : 1 % k = 1 := Nat.mod_eq_of_lt (by omega)
        rw [fp, if_pos (dz e (by omega)), dz e (by omega), dz 1 (by omega), Nat.mod_eq_of_lt (show e < k by omega), e1, Nat.mod_eq_of_lt he] at this
        simp only [Nat.add_zero, Nat.zero_mod, Nat.mul_zero] at this
        rw [ih (by omega), e1] at this
        rw [this, Nat.mod_add_mod, Nat.succ_mul, e1]
    have last : k * φ (1 % k) % m = 0 := by
      rcases Nat.lt_or_ge 1 k with q | q
      · have e1 : 1 % k = 1 := Nat.mod_eq_of_lt q
        have := h2 (k - 1) 1 (by omega) (by omega)
        rw [fp, if_pos (dz _ (by omega)), dz _ (by omega), dz 1 q, Nat.mod_eq_of_lt (show k - 1 < k by omega), e1, show k - 1 + 1 = k by omega, Nat.mod_self] at this
        simp only [Nat.add_zero, Nat.zero_mod, Nat.mul_zero] at this
        rw [z, up (k - 1) (by omega), e1, Nat.mod_add_mod, ← Nat.succ_mul, show (k - 1).succ = k by omega] at this
        rw [e1]; exact this.symm
      · have e1 : 1 % k = 0 := by rw [show k = 1 by omega]
        rw [e1, z]; simp
    have kk : k / k = 1 := Nat.div_self (by omega)
    have tw : 2 * φ k % m = 0 := by
      have := h2 k k (by omega) (by omega)
      rw [fp, if_neg (by rw [kk]; decide), kk, Nat.mod_self, Nat.zero_add, Nat.sub_zero, Nat.mod_self] at this
      simp only [Nat.zero_add, Nat.reduceAdd, Nat.reduceMod, Nat.mul_zero] at this
      rw [z] at this
      rw [Nat.two_mul]; exact this.symm
    refine ⟨(φ (1 % k), φ k), ?_, fun e he => ?_⟩
    · unfold facA
      rw [if_neg (show ¬ (1 : Nat) = 0 by decide), if_pos rfl]
      refine List.mem_flatMap.mpr ⟨φ (1 % k), List.mem_filter.mpr ⟨List.mem_range.mpr (h1 _ (by have := Nat.mod_lt 1 (show 0 < k by omega); omega)), by simp [last]⟩, List.mem_map.mpr ⟨φ k, List.mem_filter.mpr ⟨List.mem_range.mpr (h1 k (by omega)), by simp [tw]⟩, rfl⟩⟩
    · unfold facV
      rw [if_neg (show ¬ (1 : Nat) = 0 by decide), if_pos rfl]
      rw [sz] at he
      dsimp only
      rcases Nat.lt_or_ge e k with q | q
      · rw [dz e q, Nat.mod_eq_of_lt q, Nat.zero_mul, Nat.add_zero, Nat.mod_mod]; exact up e q
      · have hi : e - k < k := by omega
        have := h2 (e - k) k (by omega) (by omega)
        rw [fp, if_pos (dz _ hi), dz _ hi, kk, Nat.mod_self, Nat.mod_eq_of_lt hi, Nat.add_zero, Nat.mod_eq_of_lt hi] at this
        simp only [Nat.zero_add, Nat.reduceMod, Nat.mul_one] at this
        rw [show e - k + k = e by omega] at this
        have d1 : e / k = 1 := by rw [show e = (e - k) + k * 1 by omega, (dm hi).2]
        have d2 : e % k = e - k := by rw [show e = (e - k) + k * 1 by omega, (dm hi).1]; omega
        rw [this, d1, d2, up _ hi, Nat.one_mul]
  · dsimp only at a b
    subst a b
    have sz : fsz (2, 0) = 8 := rfl
    have fp : ∀ x y, fpr (2, 0) x y = qp x y := fun x y => rfl
    rw [sz] at h1 h2
    have q : ∀ x y, x < 8 → y < 8 → φ (qp x y) = (φ x + φ y) % m := fun x y hx hy => h2 x y hx hy
    have q4 : φ 4 = (φ 1 + φ 1) % m := q 1 1 (by decide) (by decide)
    have q4' : φ 4 = (φ 2 + φ 2) % m := q 2 2 (by decide) (by decide)
    have q0 : φ 0 = (φ 4 + φ 4) % m := q 4 4 (by decide) (by decide)
    have q3 : φ 3 = (φ 1 + φ 2) % m := q 1 2 (by decide) (by decide)
    have q5 : φ 5 = (φ 4 + φ 1) % m := q 4 1 (by decide) (by decide)
    have q6 : φ 6 = (φ 4 + φ 2) % m := q 4 2 (by decide) (by decide)
    have q7 : φ 7 = (φ 4 + φ 3) % m := q 4 3 (by decide) (by decide)
    refine ⟨(φ 1, φ 2), ?_, fun e he => ?_⟩
    · unfold facA
      rw [if_neg (by decide), if_neg (by decide)]
      have r1 : 4 * φ 1 % m = 0 := by
        rw [z, q4, Nat.mod_add_mod, Nat.add_mod_mod] at q0
        rw [show 4 * φ 1 = φ 1 + φ 1 + (φ 1 + φ 1) by omega]; exact q0.symm
      have r2 : 2 * φ 2 % m = 2 * φ 1 % m := by rw [Nat.two_mul, Nat.two_mul, ← q4, ← q4']
      exact List.mem_flatMap.mpr ⟨φ 1, List.mem_filter.mpr ⟨List.mem_range.mpr (h1 1 (by decide)), by simp [r1]⟩, List.mem_map.mpr ⟨φ 2, List.mem_filter.mpr ⟨List.mem_range.mpr (h1 2 (by decide)), by simp [r2]⟩, rfl⟩⟩
    · unfold facV
      rw [if_neg (by decide), if_neg (by decide)]
      rw [sz] at he
      dsimp only
      rw [← q3, ← q4, ← q5, ← q6, ← q7]
      match e, he with
      | 0, _ => exact z
      | 1, _ => rfl
      | 2, _ => rfl
      | 3, _ => rfl
      | 4, _ => rfl
      | 5, _ => rfl
      | 6, _ => rfl
      | 7, _ => rfl
def HomB (n : Nat) (T : Nat → Nat → Nat) (m K : Nat) : Prop := ∃ A : List (List Nat), A.length ≤ K ∧ ∀ φ, HOM n T m φ → tb n φ ∈ A
theorem homB_fac {f : Nat × Nat} (hf : f ∈ allF) {m : Nat} (hm : m ≤ 16) : HomB (fsz f) (fpr f) m (fsz f) := by
  refine ⟨(facA f m).map (fun p => tb (fsz f) (facV f m p)), by rw [List.length_map]; exact facA_len f hf m (by omega), fun φ h => ?_⟩
  obtain ⟨p, h1, h2⟩ := fac_hom hf h
  exact List.mem_map.mpr ⟨p, h1, (tb_cong h2).symm⟩
theorem flat_len2 {α β γ : Type} (g : α → β → γ) (C : List β) : ∀ (A : List α), (A.flatMap (fun t => C.map (g t))).length = A.length * C.length := by
  intro A
  induction A with
  | nil => simp
  | cons a t ih => rw [List.flatMap_cons, List.length_append, ih, List.length_map, List.length_cons, Nat.succ_mul]; omega
theorem homB_step {s : GS} {f : Nat × Nat} (hf : f ∈ allF) (hs : GpA s.1 s.2.1 s.2.2) {m K : Nat} (hm : m ≤ 16) (h : HomB s.1 s.2.1 m K) : HomB (gstep s f).1 (gstep s f).2.1 m (K * fsz f) := by
  obtain ⟨n, T, iv⟩ := s
  obtain ⟨h1, h2, h3, h4, h5⟩ := hs
  dsimp only at h1 h2 h3 h4 h5 h
  obtain ⟨f1, f2, f3, f4, f5⟩ := fac_0 f hf
  obtain ⟨A, hA, hA2⟩ := h
  obtain ⟨C, hC, hC2⟩ := homB_fac hf hm
  unfold gstep
  dsimp only
  refine ⟨A.flatMap (fun t => C.map (fun u => (List.range (n * fsz f)).map (fun a => (t.getD (a % n) 0 + u.getD (a / n) 0) % m))), ?_, fun φ hφ => ?_⟩
  · rw [flat_len2]; exact Nat.mul_le_mul hA hC
  · have T00 : T 0 0 = 0 := (h3 0 h1).1
    have big : ∀ x, x < n → x < n * fsz f := fun x hx => by
      have : n * 1 ≤ n * fsz f := Nat.mul_le_mul_left _ (by omega)
      omega
    have bigy : ∀ y, y < fsz f → n * y < n * fsz f := fun y hy => Nat.mul_lt_mul_of_pos_left hy h1
    have ny : ∀ y, n * y % n = 0 ∧ n * y / n = y := fun y => ⟨Nat.mul_mod_right n y, Nat.mul_div_cancel_left y h1⟩
    have H1 : HOM n T m φ := by
      refine ⟨fun x hx => hφ.1 x (big x hx), fun x y hx hy => ?_⟩
      have := hφ.2 x y (big x hx) (big y hy)
      dsimp only at this
      rw [Nat.mod_eq_of_lt hx, Nat.mod_eq_of_lt hy, Nat.div_eq_of_lt hx, Nat.div_eq_of_lt hy, f3] at this
      exact this
    have H2 : HOM (fsz f) (fpr f) m (fun y => φ (n * y)) := by
      refine ⟨fun y hy => hφ.1 _ (bigy y hy), fun x y hx hy => ?_⟩
      have := hφ.2 (n * x) (n * y) (bigy x hx) (bigy y hy)
      dsimp only at this
      rw [(ny x).1, (ny x).2, (ny y).1, (ny y).2, T00, Nat.zero_add] at this
      exact this
    refine List.mem_flatMap.mpr ⟨tb n φ, hA2 φ H1, List.mem_map.mpr ⟨tb (fsz f) (fun y => φ (n * y)), hC2 _ H2, ?_⟩⟩
    unfold tb
    apply List.map_congr_left
    intro a ha
    rw [List.mem_range] at ha
    have l1 : a % n < n := Nat.mod_lt _ h1
    have l2 : a / n < fsz f := Nat.div_lt_of_lt_mul ha
    show ((tb n φ).getD (a % n) 0 + (tb (fsz f) (fun y => φ (n * y))).getD (a / n) 0) % m = φ a
    rw [tb_get l1, tb_get l2]
    have := hφ.2 (a % n) (n * (a / n)) (big _ l1) (bigy _ l2)
    dsimp only at this
    rw [Nat.mod_mod, (ny _).1, (ny _).2, Nat.div_eq_of_lt l1, (h3 _ l1).2, (f4 _ l2).1, Nat.mod_add_div] at this
    exact this.symm
theorem homB_gst {fs : List (Nat × Nat)} (h : ∀ f, f ∈ fs → f ∈ allF) {m : Nat} (hm : m ≤ 16) : HomB (gst fs).1 (gst fs).2.1 m (gst fs).1 := by
  have key : ∀ (l : List (Nat × Nat)) (s : GS), (∀ f, f ∈ l → f ∈ allF) → GpA s.1 s.2.1 s.2.2 → HomB s.1 s.2.1 m s.1 → HomB (l.foldl gstep s).1 (l.foldl gstep s).2.1 m (l.foldl gstep s).1 := by
    intro l
    induction l with
    | nil => intro s _ _ h; exact h
    | cons f l ih => intro s hl hs hh; exact ih (gstep s f) (fun g hg => hl g (List.mem_cons_of_mem _ hg)) (gstep_ok (hl f List.mem_cons_self) hs) (homB_step (hl f List.mem_cons_self) hs hm hh)
  refine key fs _ h (gst_ok (fs := []) (fun f hf => absurd hf List.not_mem_nil)) ⟨[[0]], Nat.le_refl _, fun φ hφ => ?_⟩
  have h0 : φ 0 = 0 := add_self_mod (hφ.1 0 Nat.one_pos) (hφ.2 0 0 Nat.one_pos Nat.one_pos)
  show [φ 0] ∈ [[0]]
  rw [h0]; exact List.mem_singleton.mpr rfl
theorem CL_le {fs : List (Nat × Nat)} (hF : FAM fs) {m : Nat} (hm : m ≤ 16) {gens : List Nat} (hg : ∀ g, g ∈ gens → g < (gst fs).1) : (CL (gst fs).1 (gst fs).2.1 m gens).length ≤ 16 := by
  obtain ⟨A, hA, hA2⟩ := homB_gst hF.1 hm
  have hn := hF.2
  have := nodup_sub (CL (gst fs).1 (gst fs).2.1 m gens) (A.map (fun t => gens.map (fun g => t.getD g 0))) ?_ (fun s hs => ?_)
  · rw [List.length_map] at this; omega
  · unfold CL CLp
    exact (nodup_map (allV_nodup _) (fun x y _ _ e => e)).sublist List.filter_sublist
  · obtain ⟨φ, q1, q2⟩ := dcd_iff.mp (List.mem_filter.mp hs).2
    refine List.mem_map.mpr ⟨tb (gst fs).1 φ, hA2 φ q1, ?_⟩
    rw [← q2]
    exact List.map_congr_left (fun g h => tb_get (hg g h))
