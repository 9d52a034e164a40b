/-! the class lays the group of a list of factors -/
def PU (U : Nat → Nat → Nat) (D : Nat → Nat → Prop) (w : Wd) : Prop := ∀ a b, a < 16 → b < 16 → D a b → w.1 9 (16 * a + b) = nI (U a b)
theorem PU_set {U : Nat → Nat → Nat} {D : Nat → Nat → Prop} {w : Wd} (h : PU U D w) {a b : Nat} (ha : a < 16) (hb : b < 16) : PU U (fun x y => D x y ∨ (x = a ∧ y = b)) (sI w 9 (16 * a + b) (nI (U a b))) := by
  intro x y hx hy hd
  rw [sI_at]
  by_cases q : x = a ∧ y = b
  · obtain ⟨rfl, rfl⟩ := q
    rw [if_pos ⟨rfl, rfl⟩]
  · rw [if_neg (fun z => q (by omega))]
    rcases hd with hd | hd
    · exact h x y hx hy hd
    · exact absurd hd q
theorem PU_mono {U : Nat → Nat → Nat} {D E : Nat → Nat → Prop} {w : Wd} (h : PU U D w) (hd : ∀ a b, a < 16 → b < 16 → E a b → D a b) : PU U E w := fun a b ha hb he => h a b ha hb (hd a b ha hb he)
def k9 (w w' : Wd) : Prop := (∀ k, k ≠ 9 → w'.1 k = w.1 k) ∧ w'.2 = w.2
theorem k9_set {w w' : Wd} (h : k9 w w') (i : Nat) (x : Int32) : k9 w (sI w' 9 i x) := ⟨fun k hk => by rw [← h.1 k hk]; funext j; rw [sI_at, if_neg (fun z => hk z.1)], h.2⟩
theorem x_tms {w : Wd} {a b : Nat} (ha : a < 16) (hb : b < 16) : f_X4_times (nI a) (nI b) w = some (w.1 9 (16 * a + b)) := by
  unfold f_X4_times
  rw [m_mask15 (by omega), m_mask15 (by omega)]
  show rdI w 9 256 (nI a * nI 16 + nI b) _ = _
  rw [pk_mul, nI_add, m_rd (by omega) (by decide), show a * 16 + b = 16 * a + b by omega]
theorem x_block {U : Nat → Nat → Nat} {D : Nat → Nat → Prop} {w : Wd} {n X Y o : Nat} (hX : X + n ≤ 16) (hY : Y + n ≤ 16) (hU : ∀ a b, a < n → b < n → D a b ∧ U (X + a) (Y + b) = U a b + o) (h : PU U D w) : ∃ w', f_X4_addBlock (nI n) (nI X) (nI Y) (nI o) w = some w' ∧ PU U (fun a b => D a b ∨ (X ≤ a ∧ a < X + n ∧ Y ≤ b ∧ b < Y + n)) w' ∧ k9 w w' := by
  unfold f_X4_addBlock
  have inn : ∀ a w1, a < n → PU U (fun x y => D x y ∨ (X ≤ x ∧ x < X + a ∧ Y ≤ y ∧ y < Y + n)) w1 → k9 w w1 → ∃ w', (PU U (fun x y => D x y ∨ (X ≤ x ∧ x < X + (a + 1) ∧ Y ≤ y ∧ y < Y + n)) w' ∧ k9 w w') ∧ ∀ k3 : Int32 → Int32 → Int32 → Int32 → Int32 → Wd → Option Wd, f_X4_addBlock_L12 k3 FU (nI n) (nI X) (nI Y) (nI o) (nI a) (nI 0) w1 = k3 (nI n) (nI X) (nI Y) (nI o) (nI (a + 1)) w' := by
    intro a w1 ha h1 h2
    have key := lrunK (fun (k3 : Int32 → Int32 → Int32 → Int32 → Int32 → Wd → Option Wd) f b (s : Wd) => f_X4_addBlock_L12 k3 f (nI n) (nI X) (nI Y) (nI o) (nI a) (nI b) s) n (fun k3 s => k3 (nI n) (nI X) (nI Y) (nI o) (nI (a + 1)) s) (fun b s => PU U (fun x y => (D x y ∨ (X ≤ x ∧ x < X + a ∧ Y ≤ y ∧ y < Y + n)) ∨ (x = X + a ∧ Y ≤ y ∧ y < Y + b)) s ∧ k9 w s) ?_ ?_ n 0 w1 FU (by omega) (FU_big (by omega)) ⟨PU_mono h1 (fun x y _ _ z => by rcases z with z | z; exact z; omega), h2⟩
    · obtain ⟨w', ⟨g1, g2⟩, g3⟩ := key
      refine ⟨w', ⟨PU_mono g1 (fun x y _ _ z => ?_), g2⟩, g3⟩
      rcases z with z | z
      · exact Or.inl (Or.inl z)
      · by_cases q : x = X + a
        · exact Or.inr ⟨q, z.2.2⟩
        · exact Or.inl (Or.inr ⟨z.1, by omega, z.2.2⟩)
    · rintro b s hb ⟨g1, g2⟩
      have hab := hU a b ha hb
      have g3 := PU_set g1 (a := X + a) (b := Y + b) (by omega) (by omega)
      refine ⟨_, ⟨PU_mono g3 (fun x y _ _ z => ?_), k9_set g2 _ _⟩, fun k3 f => ?_⟩
      · rcases z with z | z
        · exact Or.inl (Or.inl z)
        · by_cases q : y = Y + b
          · exact Or.inr ⟨z.1, q⟩
          · exact Or.inl (Or.inr ⟨z.1, z.2.1, by omega⟩)
      · show f_X4_addBlock_B12b k3 (f_X4_addBlock_L12 k3 f) (nI n) (nI X) (nI Y) (nI o) (nI a) (nI b) s = _
        unfold f_X4_addBlock_B12b
        rw [if_neg (nI_ge hb (by omega)), x_tms (by omega) (by omega), bnd_some, g1 a b (by omega) (by omega) (Or.inl (Or.inl hab.1)), nI_add, nI_add, nI_add, m_mask15 (by omega), m_mask15 (by omega)]
        show wrI s 9 256 (nI (X + a) * nI 16 + nI (Y + b)) _ _ = _
        rw [pk_mul, nI_add, m_wr (by omega) (by decide), ← hab.2, nI_1, show (X + a) * 16 + (Y + b) = 16 * (X + a) + (Y + b) by omega]
    · rintro k3 f s -
      show f_X4_addBlock_B12b k3 (f_X4_addBlock_L12 k3 f) (nI n) (nI X) (nI Y) (nI o) (nI a) (nI n) s = _
      unfold f_X4_addBlock_B12b
      rw [if_pos (nI_le (Nat.le_refl _) (by omega)), nI_1]
  have key := lrun (fun f a (s : Wd) => f_X4_addBlock_L3 f (nI n) (nI X) (nI Y) (nI o) (nI a) s) n (fun s => some s) (fun a s => PU U (fun x y => D x y ∨ (X ≤ x ∧ x < X + a ∧ Y ≤ y ∧ y < Y + n)) s ∧ k9 w s) ?_ ?_ n 0 w FU (by omega) (FU_big (by omega)) ⟨PU_mono h (fun x y _ _ z => by rcases z with z | z; exact z; omega), fun _ _ => rfl, rfl⟩
  · obtain ⟨w', ⟨g1, g2⟩, g3⟩ := key
    exact ⟨w', g3, g1, g2⟩
  · rintro a s ha ⟨g1, g2⟩
    obtain ⟨w', g3, g4⟩ := inn a s ha g1 g2
    refine ⟨w', g3, fun f => ?_⟩
    show f_X4_addBlock_B3b (f_X4_addBlock_L3 f) (nI n) (nI X) (nI Y) (nI o) (nI a) s = _
    unfold f_X4_addBlock_B3b
    rw [if_neg (nI_ge ha (by omega))]
    exact g4 _
  · rintro f s -
    show f_X4_addBlock_B3b (f_X4_addBlock_L3 f) (nI n) (nI X) (nI Y) (nI o) (nI n) s = _
    unfold f_X4_addBlock_B3b
    rw [if_pos (nI_le (Nat.le_refl _) (by omega))]
theorem divlt {n a x s : Nat} (h : 0 < n) : a / n < x ↔ a < n * x := by rw [Nat.div_lt_iff_lt_mul h, Nat.mul_comm]
theorem x_addF {w : Wd} {s : GS} {f : Nat × Nat} (hf : f ∈ allF) (hs : GpA s.1 s.2.1 s.2.2) (hn : s.1 * fsz f ≤ 16) (hw : w.1 6 7 = nI s.1) (hT : ∀ a b, a < s.1 → b < s.1 → w.1 9 (16 * a + b) = nI (s.2.1 a b)) : ∃ w', f_X4_addFactor (nI f.1) (nI f.2) w = some w' ∧ w'.1 6 7 = nI (gstep s f).1 ∧ (∀ a b, a < (gstep s f).1 → b < (gstep s f).1 → w'.1 9 (16 * a + b) = nI ((gstep s f).2.1 a b)) ∧ (∀ k, k ≠ 9 → k ≠ 6 → w'.1 k = w.1 k) ∧ (∀ j, j ≠ 7 → w'.1 6 j = w.1 6 j) ∧ w'.2 = w.2 := by
  obtain ⟨f1, f2, f3, f4, f5⟩ := fac_0 f hf
  have hn1 := hs.1
  have eA : f_X4_addFactor (nI f.1) (nI f.2) w = f_X4_addFactor_L31 FU (nI f.1) (nI f.2) (nI (fsz f)) (nI s.1) (nI 0) w := by
    unfold f_X4_addFactor
    rw [hw]
    rcases allF_mem.mp hf with ⟨a, b, c⟩ | ⟨a, b, c⟩ | ⟨a, b⟩
    · rw [a, if_pos (by decide), show fsz f = f.2 from if_pos a]; rfl
    · rw [a, if_neg (by decide), if_pos (by decide), show fsz f = 2 * f.2 by unfold fsz; rw [if_neg (by omega), if_pos a], ← pk_mul]; rfl
    · rw [a, if_neg (by decide), if_neg (by decide), show fsz f = 8 by unfold fsz; rw [if_neg (by omega), if_neg (by omega)]]; rfl
  rw [eA]
  obtain ⟨n, T, iv⟩ := s
  dsimp only at hs hn hw hT hn1 ⊢
  obtain ⟨U, hUd⟩ : ∃ U : Nat → Nat → Nat, U = fun a b => T (a % n) (b % n) + n * fpr f (a / n) (b / n) := ⟨_, rfl⟩
  have hU0 : ∀ a b x y, a < n → b < n → U (n * x + a) (n * y + b) = T a b + n * fpr f x y := fun a b x y ha hb => by
    rw [hUd]; dsimp only
    rw [Nat.add_comm (n * x), Nat.add_comm (n * y), (dm ha).1, (dm ha).2, (dm hb).1, (dm hb).2]
  have hUb : ∀ a b, a < n → b < n → U a b = T a b := fun a b ha hb => by
    have := hU0 a b 0 0 ha hb
    rw [Nat.mul_zero, Nat.zero_add, Nat.zero_add, f3, Nat.mul_zero, Nat.add_zero] at this
    exact this
  have hs0 : ∀ x, x < fsz f → n * x + n ≤ n * fsz f := fun x hx => by rw [← Nat.mul_succ]; exact Nat.mul_le_mul_left n hx
  have hD0 : PU U (fun a b => a < n ∧ b < n) w := fun a b _ _ hd => by rw [hT a b hd.1 hd.2, hUb a b hd.1 hd.2]
  have inn : ∀ x w1, x < fsz f → PU U (fun a b => (a < n ∧ b < n) ∨ (a < n * x ∧ b < n * fsz f)) w1 → k9 w w1 → ∃ w', (PU U (fun a b => (a < n ∧ b < n) ∨ (a < n * (x + 1) ∧ b < n * fsz f)) w' ∧ k9 w w') ∧ ∀ k31 : Int32 → Int32 → Int32 → Int32 → Int32 → Wd → Option Wd, f_X4_addFactor_L40 k31 FU (nI f.1) (nI f.2) (nI (fsz f)) (nI n) (nI x) (nI 0) w1 = k31 (nI f.1) (nI f.2) (nI (fsz f)) (nI n) (nI (x + 1)) w' := by
    intro x w1 hx h1 h2
    have key := lrunK (fun (k31 : Int32 → Int32 → Int32 → Int32 → Int32 → Wd → Option Wd) f' y (s : Wd) => f_X4_addFactor_L40 k31 f' (nI f.1) (nI f.2) (nI (fsz f)) (nI n) (nI x) (nI y) s) (fsz f) (fun k31 s => k31 (nI f.1) (nI f.2) (nI (fsz f)) (nI n) (nI (x + 1)) s) (fun y s => PU U (fun a b => ((a < n ∧ b < n) ∨ (a < n * x ∧ b < n * fsz f)) ∨ (n * x ≤ a ∧ a < n * x + n ∧ b < n * y)) s ∧ k9 w s) ?_ ?_ (fsz f) 0 w1 FU (by omega) (FU_big (by omega)) ⟨PU_mono h1 (fun a b _ _ z => by rcases z with z | z; exact z; omega), h2⟩
    · obtain ⟨w', ⟨g1, g2⟩, g3⟩ := key
      refine ⟨w', ⟨PU_mono g1 (fun a b _ _ z => ?_), g2⟩, g3⟩
      rw [Nat.mul_succ] at z
      rcases z with z | z
      · exact Or.inl (Or.inl z)
      · by_cases q : a < n * x
        · exact Or.inl (Or.inr ⟨q, z.2⟩)
        · exact Or.inr ⟨by omega, z.1, z.2⟩
    · rintro y s hy ⟨g1, g2⟩
      have hx1 := hs0 x hx
      have hy1 := hs0 y hy
      obtain ⟨w', e1, e2, e3⟩ := x_block (n := n) (X := n * x) (Y := n * y) (o := n * fpr f x y) (by omega) (by omega) (fun a b ha hb => ⟨Or.inl (Or.inl ⟨ha, hb⟩), by rw [hU0 a b x y ha hb, hUb a b ha hb]⟩) g1
      refine ⟨w', ⟨PU_mono e2 (fun a b _ _ z => ?_), ⟨fun k hk => (e3.1 k hk).trans (g2.1 k hk), e3.2.trans g2.2⟩⟩, fun k31 f' => ?_⟩
      · rw [Nat.mul_succ] at z
        rcases z with z | z
        · exact Or.inl (Or.inl z)
        · by_cases q : b < n * y
          · exact Or.inl (Or.inr ⟨z.1, z.2.1, q⟩)
          · exact Or.inr ⟨z.1, z.2.1, by omega, z.2.2⟩
      · show f_X4_addFactor_B40b k31 (f_X4_addFactor_L40 k31 f') (nI f.1) (nI f.2) (nI (fsz f)) (nI n) (nI x) (nI y) s = _
        unfold f_X4_addFactor_B40b
        rw [if_neg (nI_ge hy (by omega)), fac_x f hf x hx y hy, pk_mul, pk_mul, pk_mul, e1, bnd_some, nI_1]
    · rintro k31 f' s -
      show f_X4_addFactor_B40b k31 (f_X4_addFactor_L40 k31 f') (nI f.1) (nI f.2) (nI (fsz f)) (nI n) (nI x) (nI (fsz f)) s = _
      unfold f_X4_addFactor_B40b
      rw [if_pos (nI_le (Nat.le_refl _) (by omega)), nI_1]
  have key := lrun (fun f' x (s : Wd) => f_X4_addFactor_L31 f' (nI f.1) (nI f.2) (nI (fsz f)) (nI n) (nI x) s) (fsz f) (fun s => some (sI s 6 7 (nI (n * fsz f)))) (fun x s => PU U (fun a b => (a < n ∧ b < n) ∨ (a < n * x ∧ b < n * fsz f)) s ∧ k9 w s) ?_ ?_ (fsz f) 0 w FU (by omega) (FU_big (by omega)) ⟨PU_mono hD0 (fun x y _ _ z => by rcases z with z | z; exact z; omega), fun _ _ => rfl, rfl⟩
  · obtain ⟨w', ⟨g1, g2⟩, g3⟩ := key
    refine ⟨_, g3, rfl, fun a b ha hb => ?_, fun k h9 h6 => ?_, fun j hj => ?_, g2.2⟩
    · rw [sI_at, if_neg (by rintro ⟨h, -⟩; revert h; decide)]
      have ha : a < n * fsz f := ha
      have hb : b < n * fsz f := hb
      rw [g1 a b (by omega) (by omega) (Or.inr ⟨ha, hb⟩), hUd]; rfl
    · rw [← g2.1 k h9]; funext j; rw [sI_at, if_neg (fun z => h6 z.1)]
    · rw [sI_at, if_neg (fun z => hj z.2), g2.1 6 (by decide)]
  · rintro x s hx ⟨g1, g2⟩
    obtain ⟨w', g3, g4⟩ := inn x s hx g1 g2
    refine ⟨w', g3, fun f' => ?_⟩
    show f_X4_addFactor_B31b (f_X4_addFactor_L31 f') (nI f.1) (nI f.2) (nI (fsz f)) (nI n) (nI x) s = _
    unfold f_X4_addFactor_B31b
    rw [if_neg (nI_ge hx (by omega))]
    exact g4 _
  · rintro f' s -
    show f_X4_addFactor_B31b (f_X4_addFactor_L31 f') (nI f.1) (nI f.2) (nI (fsz f)) (nI n) (nI (fsz f)) s = _
    unfold f_X4_addFactor_B31b
    rw [if_pos (nI_le (Nat.le_refl _) (by omega)), pk_mul]
    rfl
def k10 (w w' : Wd) : Prop := (∀ k, k ≠ 10 → w'.1 k = w.1 k) ∧ w'.2 = w.2
theorem x_invs {w : Wd} {n : Nat} {T : Nat → Nat → Nat} {iv : Nat → Nat} (hg : Gp n T iv) (hw : w.1 6 7 = nI n) (hT : ∀ a b, a < n → b < n → w.1 9 (16 * a + b) = nI (T a b)) : ∃ w', f_X4_load_3_L96 FU (nI 0) w = some w' ∧ (∀ a, a < n → w'.1 10 a = nI (iv a)) ∧ k10 w w' := by
  have h16 := hg.1.2
  have inn : ∀ a w1, a < n → (∀ i, i < a → w1.1 10 i = nI (iv i)) → k10 w w1 → ∃ w', ((∀ i, i < a + 1 → w'.1 10 i = nI (iv i)) ∧ k10 w w') ∧ ∀ k96 : Int32 → Wd → Option Wd, f_X4_load_3_L106 k96 FU (nI a) (nI 0) w1 = k96 (nI (a + 1)) w' := by
    intro a w1 ha h1 h2
    obtain ⟨i1, i2, i3⟩ := hg.2.2.2.2 a ha
    have key := lrunK (fun (k96 : Int32 → Wd → Option Wd) f b (s : Wd) => f_X4_load_3_L106 k96 f (nI a) (nI b) s) n (fun k96 s => k96 (nI (a + 1)) s) (fun b s => (∀ i, i < a → s.1 10 i = nI (iv i)) ∧ (iv a < b → s.1 10 a = nI (iv a)) ∧ k10 w s) ?_ ?_ n 0 w1 FU (by omega) (FU_big (by omega)) ⟨h1, fun z => absurd z (Nat.not_lt_zero _), h2⟩
    · obtain ⟨w', ⟨g1, g2, g3⟩, g4⟩ := key
      refine ⟨w', ⟨fun i hi => ?_, g3⟩, g4⟩
      by_cases q : i = a
      · rw [q]; exact g2 i1
      · exact g1 i (by omega)
    · rintro b s hb ⟨g1, g2, g3⟩
      have e67 : s.1 6 7 = nI n := by rw [g3.1 6 (by decide)]; exact hw
      have e9 : s.1 9 (16 * a + b) = nI (T a b) := by rw [g3.1 9 (by decide)]; exact hT a b ha hb
      have hTn := hg.2.1 a b ha hb
      have eL : ∀ (k96 : Int32 → Wd → Option Wd) f, f_X4_load_3_L106 k96 (f + 1) (nI a) (nI b) s = if nI (T a b) = 0 then f_X4_load_3_L106 k96 f (nI a) (nI (b + 1)) (sI s 10 a (nI b)) else f_X4_load_3_L106 k96 f (nI a) (nI (b + 1)) s := fun k96 f => by
        show f_X4_load_3_B106b k96 (f_X4_load_3_L106 k96 f) (nI a) (nI b) s = _
        unfold f_X4_load_3_B106b
        rw [e67, if_neg (nI_ge hb (by omega)), x_tms (by omega) (by omega), bnd_some, e9, m_wr (by omega) (by decide), nI_1]
      by_cases c : T a b = 0
      · have hbi : b = iv a := by
          have h1 := hg.2.2.2.1 (iv a) a b i1 ha hb
          rw [c, i3, (hg.2.2.1 b hb).1, (hg.2.2.1 (iv a) i1).2] at h1
          exact h1
        refine ⟨sI s 10 a (nI b), ⟨fun i hi => ?_, fun _ => ?_, ⟨fun k hk => ?_, g3.2⟩⟩, fun k96 f => ?_⟩
        · rw [sI_at, if_neg (fun z => by omega)]; exact g1 i hi
        · rw [sI_at, if_pos ⟨rfl, rfl⟩, hbi]
        · rw [← g3.1 k hk]; funext j; rw [sI_at, if_neg (fun z => hk z.1)]
        · rw [eL, c, if_pos (by decide)]
      · refine ⟨s, ⟨g1, fun z => ?_, g3⟩, fun k96 f => ?_⟩
        · by_cases q : iv a = b
          · exact absurd (q ▸ i2) c
          · exact g2 (by omega)
        · rw [eL, if_neg (show ¬ nI (T a b) = (0 : Int32) from fun z => c ((m_inj (b := 0) (by omega) (by decide)).mp z))]
    · rintro k96 f s ⟨-, -, g3⟩
      show f_X4_load_3_B106b k96 (f_X4_load_3_L106 k96 f) (nI a) (nI n) s = _
      unfold f_X4_load_3_B106b
      rw [g3.1 6 (by decide), hw, if_pos (nI_le (Nat.le_refl _) (by omega)), nI_1]
  have key := lrun (fun f a (s : Wd) => f_X4_load_3_L96 f (nI a) s) n (fun s => some s) (fun a s => (∀ i, i < a → s.1 10 i = nI (iv i)) ∧ k10 w s) ?_ ?_ n 0 w FU (by omega) (FU_big (by omega)) ⟨fun i hi => absurd hi (Nat.not_lt_zero _), fun _ _ => rfl, rfl⟩
  · obtain ⟨w', ⟨g1, g2⟩, g3⟩ := key
    exact ⟨w', g3, g1, g2⟩
  · rintro a s ha ⟨g1, g2⟩
    obtain ⟨w', g3, g4⟩ := inn a s ha g1 g2
    refine ⟨w', g3, fun f => ?_⟩
    show f_X4_load_3_B96b (f_X4_load_3_L96 f) (nI a) s = _
    unfold f_X4_load_3_B96b
    rw [g2.1 6 (by decide), hw, if_neg (nI_ge ha (by omega))]
    exact g4 _
  · rintro f s ⟨-, g2⟩
    show f_X4_load_3_B96b (f_X4_load_3_L96 f) (nI n) s = _
    unfold f_X4_load_3_B96b
    rw [g2.1 6 (by decide), hw, if_pos (nI_le (Nat.le_refl _) (by omega))]
theorem x_fill9 {w : Wd} : ∃ w', f_J7_fill_53178_9 0 w = some w' ∧ (∀ p, p < 256 → w'.1 9 p = nI 0) ∧ k9 w w' := by
  unfold f_J7_fill_53178_9
  have key := lrun (fun f i (s : Wd) => f_J7_fill_53178_9_L5 f 0 (nI i) 256 s) 256 (fun s => some s) (fun i s => (∀ p, p < i → s.1 9 p = nI 0) ∧ k9 w s) ?_ ?_ 256 0 w FU (by omega) (FU_big (by decide)) ⟨fun i hi => absurd hi (Nat.not_lt_zero _), fun _ _ => rfl, rfl⟩
  · obtain ⟨w', ⟨g1, g2⟩, g3⟩ := key
    exact ⟨w', g3, g1, g2⟩
  · rintro i s hi ⟨g1, g2⟩
    refine ⟨sI s 9 i 0, ⟨fun p hp => ?_, k9_set g2 _ _⟩, fun f => ?_⟩
    · rw [sI_at]
      by_cases q : p = i
      · rw [if_pos ⟨rfl, q⟩]; rfl
      · rw [if_neg (fun z => q z.2)]; exact g1 p (by omega)
    · show f_J7_fill_53178_9_B5b (f_J7_fill_53178_9_L5 f) 0 (nI i) 256 s = _
      unfold f_J7_fill_53178_9_B5b
      rw [if_neg (show ¬ (256 : Int32) ≤ nI i from nI_ge (b := 256) hi (by decide)), m_wr hi (by decide), nI_1]
  · rintro f s -
    show f_J7_fill_53178_9_B5b (f_J7_fill_53178_9_L5 f) 0 (nI 256) 256 s = _
    unfold f_J7_fill_53178_9_B5b
    rw [if_pos (by decide)]
/-- what the reader has read -/
def FCr (w : Wd) (fs : List (Nat × Nat)) : Prop := w.1 3 3 = nI fs.length ∧ ∀ i f, fs[i]? = some f → w.1 4 i = nI f.1 ∧ w.1 5 i = nI f.2
def loK (w w' : Wd) : Prop := (∀ k, k ≠ 6 → k ≠ 7 → k ≠ 8 → k ≠ 9 → k ≠ 10 → w'.1 k = w.1 k) ∧ w'.2 = w.2
theorem x_load {w : Wd} {fs : List (Nat × Nat)} (hF : FAM fs) (hr : FCr w fs) : ∃ w', f_X4_load_3 w = some w' ∧ GX w' (gst fs).1 (gst fs).2.1 (gst fs).2.2 ∧ FCx w' fs ∧ w'.1 6 9 = -1 ∧ loK w w' := by
  have hk4 := (fam_fok hF).1
  have hgp := fam_gp hF
  unfold f_X4_load_3
  obtain ⟨w2, a1, a2, a3⟩ := x_fill9 (w := sI w 6 7 1)
  rw [m_letW, a1, bnd_some, m_letW]
  obtain ⟨w3, hw3⟩ : ∃ w3, w3 = sI w2 6 6 (w2.1 3 3) := ⟨_, rfl⟩
  rw [← hw3]
  have o2 : ∀ k, k ≠ 6 → k ≠ 9 → w2.1 k = w.1 k := fun k h6 h9 => by
    rw [a3.1 k h9]; funext j; rw [sI_at, if_neg (fun z => h6 z.1)]
  have e66 : w3.1 6 6 = nI fs.length := by rw [hw3, sI_same, o2 3 (by decide) (by decide)]; exact hr.1
  have e67 : w3.1 6 7 = nI 1 := by
    rw [hw3, sI_at, if_neg (fun z => by omega), a3.1 6 (by decide), sI_same]; rfl
  have o3 : ∀ k, k ≠ 6 → k ≠ 9 → w3.1 k = w.1 k := fun k h6 h9 => by
    rw [← o2 k h6 h9, hw3]; funext j; rw [sI_at, if_neg (fun z => h6 z.1)]
  have e9 : ∀ p, p < 256 → w3.1 9 p = nI 0 := fun p hp => by
    rw [hw3, sI_at, if_neg (fun z => by omega)]; exact a2 p hp
  have key := lrun (fun f i (s : Wd) => f_X4_load_3_L23 f (nI i) s) fs.length (fun s => f_X4_load_3_L96 FU 0 (sI (sI s 6 8 ((1 <<< ((s.1 6 7) &&& 31)) - 1)) 6 9 (-1))) (fun i s => s.1 6 6 = nI fs.length ∧ s.1 6 7 = nI (gst (fs.take i)).1 ∧ (∀ a b, a < (gst (fs.take i)).1 → b < (gst (fs.take i)).1 → s.1 9 (16 * a + b) = nI ((gst (fs.take i)).2.1 a b)) ∧ (∀ j f, j < i → fs[j]? = some f → s.1 7 j = nI f.1 ∧ s.1 8 j = nI f.2) ∧ (∀ k, k ≠ 6 → k ≠ 7 → k ≠ 8 → k ≠ 9 → s.1 k = w.1 k) ∧ s.2 = w.2) ?_ ?_ fs.length 0 w3 FU (by omega) (FU_big (by omega)) ⟨e66, e67, fun a b ha hb => ?_, fun j f hj => absurd hj (Nat.not_lt_zero _), fun k h6 _ _ h9 => o3 k h6 h9, by rw [hw3]; exact a3.2⟩
  · obtain ⟨s, ⟨g1, g2, g3, g4, g5, g6⟩, g7⟩ := key
    rw [List.take_length] at g2 g3
    obtain ⟨s2, hs2⟩ : ∃ s2, s2 = sI (sI s 6 8 ((1 <<< ((s.1 6 7) &&& 31)) - 1)) 6 9 (-1) := ⟨_, rfl⟩
    rw [← hs2] at g7
    have v6 : ∀ j, j ≠ 8 → j ≠ 9 → s2.1 6 j = s.1 6 j := fun j h8 h9 => by rw [hs2, sI_at, if_neg (fun z => h9 z.2), sI_at, if_neg (fun z => h8 z.2)]
    have vk : ∀ k, k ≠ 6 → s2.1 k = s.1 k := fun k hk => by rw [hs2, sI_row _ _ _ _ hk, sI_row _ _ _ _ hk]
    obtain ⟨w', d1, d2, d3⟩ := x_invs hgp (w := s2) (by rw [v6 7 (by decide) (by decide)]; exact g2) (fun a b ha hb => by rw [vk 9 (by decide)]; exact g3 a b ha hb)
    have h16 := hgp.1.2
    refine ⟨w', g7.trans d1, ⟨?_, ?_, fun a b ha hb => ?_, d2⟩, ⟨?_, fun j f hj => ?_⟩, ?_, ⟨fun k x1 x2 x3 x4 x5 => ?_, ?_⟩⟩
    · rw [d3.1 6 (by decide), v6 7 (by decide) (by decide)]; exact g2
    · rw [d3.1 6 (by decide), hs2, sI_at, if_neg (fun z => by omega), sI_same, g2, m_shl1 (by omega)]
      exact pk_sub (Nat.one_le_two_pow)
    · rw [d3.1 9 (by decide), vk 9 (by decide)]; exact g3 a b ha hb
    · rw [d3.1 6 (by decide), v6 6 (by decide) (by decide)]; exact g1
    · rw [d3.1 7 (by decide), vk 7 (by decide), d3.1 8 (by decide), vk 8 (by decide)]
      exact g4 j f (List.getElem?_eq_some_iff.mp hj).1 hj
    · rw [d3.1 6 (by decide), hs2, sI_same]
    · rw [d3.1 k x5, vk k x1]; exact g5 k x1 x2 x3 x4
    · rw [d3.2, hs2]; exact g6
  · rintro i s hi ⟨g1, g2, g3, g4, g5, g6⟩
    have hfi := List.getElem?_eq_getElem hi
    obtain ⟨f, hfd⟩ : ∃ f, f = fs[i] := ⟨_, rfl⟩
    rw [← hfd] at hfi
    have hfm : f ∈ fs := List.mem_of_getElem? hfi
    have hfa := hF.1 f hfm
    have htk : fs.take (i + 1) = fs.take i ++ [f] := by rw [List.take_succ, hfi]; rfl
    have hFt : FAM (fs.take (i + 1)) := by
      have key : ∀ d i, i + d = fs.length → FAM (fs.take i) := by
        intro d
        induction d with
        | zero => intro i h; rw [show i = fs.length by omega, List.take_length]; exact hF
        | succ d ih =>
          intro i h
          have := ih (i + 1) (by omega)
          have hi' : i < fs.length := by omega
          rw [List.take_succ, List.getElem?_eq_getElem hi'] at this
          exact (fam_pre this).1
      exact key (fs.length - (i + 1)) (i + 1) (by omega)
    rw [htk] at hFt
    obtain ⟨p1, p2, p3⟩ := fam_pre hFt
    obtain ⟨s4, hs4⟩ : ∃ s4, s4 = sI (sI s 7 i (nI f.1)) 8 i (nI f.2) := ⟨_, rfl⟩
    have v7 : ∀ j, s4.1 7 j = if j = i then nI f.1 else s.1 7 j := fun j => by
      rw [hs4, sI_at, if_neg (by rintro ⟨h, -⟩; revert h; decide), sI_at]; simp only [true_and]
    have v8 : ∀ j, s4.1 8 j = if j = i then nI f.2 else s.1 8 j := fun j => by
      rw [hs4, sI_at]; simp only [true_and]
      by_cases q : j = i
      · rw [if_pos q, if_pos q]
      · rw [if_neg q, if_neg q, sI_at, if_neg (by rintro ⟨h, -⟩; revert h; decide)]
    have vk : ∀ k, k ≠ 7 → k ≠ 8 → s4.1 k = s.1 k := fun k h7 h8 => by rw [hs4, sI_row _ _ _ _ h8, sI_row _ _ _ _ h7]
    obtain ⟨w', d1, d2, d3, d4, d5, d6⟩ := x_addF (w := s4) p2 (gst_ok p1.1) p3 (by rw [vk 6 (by decide) (by decide)]; exact g2) (fun a b ha hb => by rw [vk 9 (by decide) (by decide)]; exact g3 a b ha hb)
    refine ⟨w', ⟨?_, ?_, ?_, fun j f' hj hf' => ?_, fun k x6 x7 x8 x9 => ?_, ?_⟩, fun fu => ?_⟩
    · rw [d5 6 (by decide), vk 6 (by decide) (by decide)]; exact g1
    · rw [htk, gst_snoc]; exact d2
    · rw [htk, gst_snoc]; exact d3
    · rw [d4 7 (by decide) (by decide), d4 8 (by decide) (by decide), v7, v8]
      by_cases q : j = i
      · subst q
        rw [hfi] at hf'
        rw [if_pos rfl, if_pos rfl, Option.some.inj hf']; exact ⟨rfl, rfl⟩
      · rw [if_neg q, if_neg q]; exact g4 j f' (by omega) hf'
    · rw [d4 k x9 x6, vk k x7 x8]; exact g5 k x6 x7 x8 x9
    · rw [d6, hs4]; exact g6
    · show f_X4_load_3_B23b (f_X4_load_3_L23 fu) (nI i) s = _
      unfold f_X4_load_3_B23b
      have r4 : s.1 4 i = nI f.1 := by rw [g5 4 (by decide) (by decide) (by decide) (by decide)]; exact (hr.2 i f hfi).1
      have r5 : (sI s 7 i (nI f.1)).1 5 i = nI f.2 := by rw [sI_at, if_neg (by rintro ⟨h, -⟩; revert h; decide), g5 5 (by decide) (by decide) (by decide) (by decide)]; exact (hr.2 i f hfi).2
      have r7 : s4.1 7 i = nI f.1 := by rw [v7, if_pos rfl]
      have r8 : s4.1 8 i = nI f.2 := by rw [v8, if_pos rfl]
      rw [g1, if_neg (nI_ge hi (by omega)), m_rd (by omega) (by decide), r4, m_wr (by omega) (by decide), m_rd (by omega) (by decide), r5, m_wr (by omega) (by decide), ← hs4, m_rd (by omega) (by decide), r7, m_rd (by omega) (by decide), r8, d1, bnd_some, nI_1]
  · rintro f s ⟨g1, -⟩
    show f_X4_load_3_B23b (f_X4_load_3_L23 f) (nI fs.length) s = _
    unfold f_X4_load_3_B23b
    rw [g1, if_pos (nI_le (Nat.le_refl _) (by omega))]
    rfl
  · rw [List.take_zero] at ha hb ⊢
    have ha : a < 1 := ha
    have hb : b < 1 := hb
    rw [show a = 0 by omega, show b = 0 by omega]
    exact e9 0 (by decide)
