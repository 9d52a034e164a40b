/-! factors and the groups put together of them -/
def fsz (f : Nat × Nat) : Nat := if f.1 = 0 then f.2 else if f.1 = 1 then 2 * f.2 else 8
def qp (x y : Nat) : Nat :=
  let a := x % 4
  let b := y % 4
  let o := (x / 4 + y / 4) % 2
  if a = 0 ∨ b = 0 then a + b + 4 * o else if a = b then 4 * (1 - o) else (6 - a - b) + 4 * (if b = a % 3 + 1 then o else 1 - o)
def fpr (f : Nat × Nat) (x y : Nat) : Nat := if f.1 = 0 then (x + y) % f.2 else if f.1 = 1 then (if x / f.2 = 0 then (x % f.2 + y % f.2) % f.2 else (x % f.2 + f.2 - y % f.2) % f.2) + f.2 * ((x / f.2 + y / f.2) % 2) else qp x y
def fiv (f : Nat × Nat) (x : Nat) : Nat := ((List.range (fsz f)).find? (fun y => fpr f x y == 0)).getD 0
def allF : List (Nat × Nat) := (List.range 15).map (fun i => (0, i + 2)) ++ (List.range 8).map (fun i => (1, i + 1)) ++ [(2, 0)]
theorem allF_mem {f : Nat × Nat} : f ∈ allF ↔ (f.1 = 0 ∧ 2 ≤ f.2 ∧ f.2 ≤ 16) ∨ (f.1 = 1 ∧ 1 ≤ f.2 ∧ f.2 ≤ 8) ∨ (f.1 = 2 ∧ f.2 = 0) := by
  unfold allF
  obtain ⟨a, b⟩ := f
  simp only [List.mem_append, List.mem_map, List.mem_range, List.mem_singleton, Prod.mk.injEq]
  constructor
  · rintro ((⟨i, h1, h2, h3⟩ | ⟨i, h1, h2, h3⟩) | ⟨h1, h2⟩)
    · exact Or.inl ⟨h2.symm, by omega, by omega⟩
    · exact Or.inr (Or.inl ⟨h2.symm, by omega, by omega⟩)
    · exact Or.inr (Or.inr ⟨h1, h2⟩)
  · rintro (⟨h1, h2, h3⟩ | ⟨h1, h2, h3⟩ | ⟨h1, h2⟩)
    · exact Or.inl (Or.inl ⟨b - 2, by omega, h1.symm, by omega⟩)
    · exact Or.inl (Or.inr ⟨b - 1, by omega, h1.symm, by omega⟩)
    · exact Or.inr ⟨h1, h2⟩
set_option maxRecDepth 100000 in
theorem fac_x : ∀ f ∈ allF, ∀ x, x < fsz f → ∀ y, y < fsz f → f_X4_factorProduct (nI f.1) (nI f.2) (nI x) (nI y) = nI (fpr f x y) := by decide +kernel
set_option maxRecDepth 100000 in
theorem fac_y : ∀ f ∈ allF, f_X12_sizeOf (nI f.1) (nI f.2) = nI (fsz f) ∧ ∀ x, x < fsz f → ∀ y, y < fsz f → f_X12_inFactor (nI f.1) (nI f.2) (nI x) (nI y) = some (nI (fpr f x y)) := by decide +kernel
theorem fac_0 : ∀ f ∈ allF, 2 ≤ fsz f ∧ fsz f ≤ 16 ∧ fpr f 0 0 = 0 ∧ (∀ x, x < fsz f → fpr f 0 x = x ∧ fpr f x 0 = x ∧ fiv f x < fsz f ∧ fpr f x (fiv f x) = 0 ∧ fpr f (fiv f x) x = 0) ∧ ∀ x, x < fsz f → ∀ y, y < fsz f → fpr f x y < fsz f := by decide +kernel
set_option maxRecDepth 100000 in
theorem fac_a : ∀ f ∈ allF, ∀ x, x < fsz f → ∀ y, y < fsz f → ∀ z, z < fsz f → fpr f (fpr f x y) z = fpr f x (fpr f y z) := by decide +kernel
abbrev GS := Nat × (Nat → Nat → Nat) × (Nat → Nat)
def gstep (s : GS) (f : Nat × Nat) : GS := (s.1 * fsz f, (fun a b => s.2.1 (a % s.1) (b % s.1) + s.1 * fpr f (a / s.1) (b / s.1)), fun a => s.2.2 (a % s.1) + s.1 * fiv f (a / s.1))
def gst (fs : List (Nat × Nat)) : GS := fs.foldl gstep (1, (fun _ _ => 0), fun _ => 0)
theorem gst_snoc (fs : List (Nat × Nat)) (f : Nat × Nat) : gst (fs ++ [f]) = gstep (gst fs) f := by unfold gst; rw [List.foldl_append]; rfl
def GpA (n : Nat) (T : Nat → Nat → Nat) (iv : Nat → Nat) : Prop := 1 ≤ n ∧ (∀ a b, a < n → b < n → T a b < n) ∧ (∀ a, a < n → T 0 a = a ∧ T a 0 = a) ∧ (∀ a b c, a < n → b < n → c < n → T (T a b) c = T a (T b c)) ∧ ∀ a, a < n → iv a < n ∧ T a (iv a) = 0 ∧ T (iv a) a = 0
theorem dm {n a x : Nat} (ha : a < n) : (a + n * x) % n = a ∧ (a + n * x) / n = x := by
  have hn : 0 < n := by omega
  rw [Nat.add_mul_mod_self_left, Nat.add_mul_div_left _ _ hn, Nat.mod_eq_of_lt ha, Nat.div_eq_of_lt ha, Nat.zero_add]
  exact ⟨rfl, rfl⟩
theorem dlt {n a x s : Nat} (ha : a < n) (hx : x < s) : a + n * x < n * s := by
  have : n * (x + 1) ≤ n * s := Nat.mul_le_mul_left n hx
  rw [Nat.mul_succ] at this
  omega
theorem gstep_ok {s : GS} {f : Nat × Nat} (hf : f ∈ allF) (h : GpA s.1 s.2.1 s.2.2) : GpA (gstep s f).1 (gstep s f).2.1 (gstep s f).2.2 := by
  obtain ⟨n, T, iv⟩ := s
  obtain ⟨h1, h2, h3, h4, h5⟩ := h
  dsimp only at h1 h2 h3 h4 h5
  obtain ⟨f1, f2, f3, f4, f5⟩ := fac_0 f hf
  have f6 := fac_a f hf
  unfold gstep
  dsimp only
  have md : ∀ a, a < n * fsz f → a % n < n ∧ a / n < fsz f := fun a ha => ⟨Nat.mod_lt _ h1, Nat.div_lt_of_lt_mul ha⟩
  have ds : ∀ a, a % n + n * (a / n) = a := fun a => Nat.mod_add_div a n
  refine ⟨Nat.mul_pos h1 (by omega), fun a b ha hb => ?_, fun a ha => ?_, fun a b c ha hb hc => ?_, fun a ha => ?_⟩
  · have ma := md a ha
    have mb := md b hb
    exact dlt (h2 _ _ ma.1 mb.1) (f5 _ ma.2 _ mb.2)
  · have ma := md a ha
    dsimp only
    rw [Nat.zero_mod, Nat.zero_div, (h3 _ ma.1).1, (h3 _ ma.1).2, (f4 _ ma.2).1, (f4 _ ma.2).2.1, ds]
    exact ⟨rfl, rfl⟩
  · have ma := md a ha
    have mb := md b hb
    have mc := md c hc
    dsimp only
    rw [(dm (h2 _ _ ma.1 mb.1)).1, (dm (h2 _ _ ma.1 mb.1)).2, (dm (h2 _ _ mb.1 mc.1)).1, (dm (h2 _ _ mb.1 mc.1)).2, h4 _ _ _ ma.1 mb.1 mc.1, f6 _ ma.2 _ mb.2 _ mc.2]
  · have ma := md a ha
    obtain ⟨i1, i2, i3⟩ := h5 _ ma.1
    obtain ⟨-, -, j1, j2, j3⟩ := f4 _ ma.2
    refine ⟨dlt i1 j1, ?_, ?_⟩
    · dsimp only; rw [(dm i1).1, (dm i1).2, i2, j2]; simp
    · dsimp only; rw [(dm i1).1, (dm i1).2, i3, j3]; simp
theorem gst_ok {fs : List (Nat × Nat)} (h : ∀ f, f ∈ fs → f ∈ allF) : GpA (gst fs).1 (gst fs).2.1 (gst fs).2.2 := by
  have key : ∀ (l : List (Nat × Nat)) (s : GS), (∀ f, f ∈ l → f ∈ allF) → GpA s.1 s.2.1 s.2.2 → GpA (l.foldl gstep s).1 (l.foldl gstep s).2.1 (l.foldl gstep s).2.2 := by
    intro l
    induction l with
    | nil => intro s _ h; exact h
    | cons f l ih => intro s hl hs; exact ih (gstep s f) (fun g hg => hl g (List.mem_cons_of_mem _ hg)) (gstep_ok (hl f List.mem_cons_self) hs)
  refine key fs _ h ⟨Nat.le_refl _, fun a b ha hb => Nat.one_pos, fun a ha => ?_, fun a b c _ _ _ => rfl, fun a _ => ⟨Nat.one_pos, rfl, rfl⟩⟩
  dsimp only at ha ⊢
  rw [show a = 0 by omega]; exact ⟨rfl, rfl⟩
def FAM (fs : List (Nat × Nat)) : Prop := (∀ f, f ∈ fs → f ∈ allF) ∧ (gst fs).1 ≤ 16
theorem fam_gp {fs : List (Nat × Nat)} (h : FAM fs) : Gp (gst fs).1 (gst fs).2.1 (gst fs).2.2 := by
  obtain ⟨a1, a2, a3, a4, a5⟩ := gst_ok h.1
  exact ⟨⟨a1, h.2⟩, a2, a3, a4, a5⟩
theorem gst_size : ∀ (fs : List (Nat × Nat)), (gst fs).1 = fs.foldl (fun n f => n * fsz f) 1 := by
  intro fs
  unfold gst
  have key : ∀ (l : List (Nat × Nat)) (s : GS), (l.foldl gstep s).1 = l.foldl (fun n f => n * fsz f) s.1 := by
    intro l
    induction l with
    | nil => intro s; rfl
    | cons f l ih => intro s; rw [List.foldl_cons, List.foldl_cons, ih]; rfl
  exact key fs _
theorem fam_pre {fs : List (Nat × Nat)} {f : Nat × Nat} (h : FAM (fs ++ [f])) : FAM fs ∧ f ∈ allF ∧ (gst fs).1 * fsz f ≤ 16 := by
  have hf : f ∈ allF := h.1 f (by simp)
  have h2 := h.2
  rw [gst_snoc] at h2
  have h2 : (gst fs).1 * fsz f ≤ 16 := h2
  have := (fac_0 f hf).1
  refine ⟨⟨fun g hg => h.1 g (List.mem_append.mpr (Or.inl hg)), ?_⟩, hf, h2⟩
  have : (gst fs).1 * 1 ≤ (gst fs).1 * fsz f := Nat.mul_le_mul_left _ (by omega)
  omega
theorem fam_len {fs : List (Nat × Nat)} (h : FAM fs) : 2 ^ fs.length ≤ (gst fs).1 := by
  have key : ∀ (l : List (Nat × Nat)) (a : Nat), (∀ f, f ∈ l → f ∈ allF) → a * 2 ^ l.length ≤ l.foldl (fun n f => n * fsz f) a := by
    intro l
    induction l with
    | nil => intro a _; show a * 1 ≤ a; omega
    | cons f l ih =>
      intro a hl
      have h1 := ih (a * fsz f) (fun g hg => hl g (List.mem_cons_of_mem _ hg))
      have h2 := (fac_0 f (hl f List.mem_cons_self)).1
      rw [List.foldl_cons, List.length_cons, Nat.pow_succ]
      refine Nat.le_trans ?_ h1
      rw [Nat.mul_comm (2 ^ l.length) 2, ← Nat.mul_assoc]
      exact Nat.mul_le_mul_right _ (Nat.mul_le_mul_left _ h2)
  have := key fs 1 h.1
  rw [gst_size]
  omega
theorem fam_fok {fs : List (Nat × Nat)} (h : FAM fs) : FOK fs := by
  refine ⟨?_, fun f hf => ?_⟩
  · have h1 := fam_len h
    have h2 := h.2
    rcases Nat.lt_or_ge 4 fs.length with q | q
    · have : 2 ^ 5 ≤ 2 ^ fs.length := Nat.pow_le_pow_right (by decide) q
      omega
    · exact q
  · rcases allF_mem.mp (h.1 f hf) with ⟨a, b, c⟩ | ⟨a, b, c⟩ | ⟨a, b⟩ <;> omega
