/-! the reference lays the group of a list of factors -/
theorem nz_pos {β : Type} {a : Nat} (h0 : 0 < a) (h : a < 2 ^ 31) (f : Option β) : nzI (nI a) f = f := by
  unfold nzI
  rw [if_neg (nI_ne0 h0 h)]
theorem y_prodBy {w : Wd} {fs : List (Nat × Nat)} (hF : FAM fs) (hy : FCy w fs) {a b : Nat} (ha : a < (gst fs).1) (hb : b < (gst fs).1) : f_X12_productBy (nI a) (nI b) w = some (nI ((gst fs).2.1 a b)) := by
  have hk4 := (fam_fok hF).1
  have h16 := hF.2
  have hFt : ∀ d i, i + d = fs.length → FAM (fs.take i) := by
    intro d
    induction d with
    | zero => intro i h; rw [show i = fs.length by omega, List.take_length]; exact hF
    | succ d ih =>
      intro i h
      have := ih (i + 1) (by omega)
      have hi' : i < fs.length := by omega
      rw [List.take_succ, List.getElem?_eq_getElem hi'] at this
      exact (fam_pre this).1
  unfold f_X12_productBy
  have key := lrun (fun f i (s : Nat × Nat) => f_X12_productBy_L8 f (nI a) (nI b) (nI s.1) (nI s.2) (nI i) w) fs.length (fun s => some (nI s.1)) (fun i s => s.2 = (gst (fs.take i)).1 ∧ s.1 = (gst (fs.take i)).2.1 (a % s.2) (b % s.2)) ?_ ?_ fs.length 0 (0, 1) FU (by omega) (FU_big (by omega)) ⟨rfl, rfl⟩
  · obtain ⟨⟨r, m⟩, ⟨g1, g2⟩, g3⟩ := key
    dsimp only at g1 g2 g3
    rw [List.take_length] at g1 g2
    rw [g1, Nat.mod_eq_of_lt ha, Nat.mod_eq_of_lt hb] at g2
    rw [← g2]; exact g3
  · rintro i ⟨r, m⟩ hi ⟨g1, g2⟩
    dsimp only at g1 g2
    have hfi := List.getElem?_eq_getElem hi
    obtain ⟨f, hfd⟩ : ∃ f, f = fs[i] := ⟨_, rfl⟩
    rw [← hfd] at hfi
    have htk : fs.take (i + 1) = fs.take i ++ [f] := by rw [List.take_succ, hfi]; rfl
    have hp := hFt (fs.length - (i + 1)) (i + 1) (by omega)
    rw [htk] at hp
    obtain ⟨p1, p2, p3⟩ := fam_pre hp
    rw [← g1] at p3
    obtain ⟨f1, f2, f3, f4, f5⟩ := fac_0 f p2
    obtain ⟨y1, y2⟩ := fac_y f p2
    have hm1 : 1 ≤ m := by rw [g1]; exact (gst_ok p1.1).1
    have hm16 : m ≤ 16 := by rw [g1]; exact p1.2
    refine ⟨(r + m * fpr f (a / m % fsz f) (b / m % fsz f), m * fsz f), ⟨?_, ?_⟩, fun fu => ?_⟩
    · rw [htk, gst_snoc, g1]; rfl
    · rw [htk, gst_snoc]
      show r + m * fpr f (a / m % fsz f) (b / m % fsz f) = (gst (fs.take i)).2.1 (a % (m * fsz f) % (gst (fs.take i)).1) (b % (m * fsz f) % (gst (fs.take i)).1) + (gst (fs.take i)).1 * fpr f (a % (m * fsz f) / (gst (fs.take i)).1) (b % (m * fsz f) / (gst (fs.take i)).1)
      rw [← g1, Nat.mod_mul_right_mod, Nat.mod_mul_right_mod, Nat.mod_mul_right_div_self, Nat.mod_mul_right_div_self, ← g2]
    · show f_X12_productBy_B8b (f_X12_productBy_L8 fu) (nI a) (nI b) (nI r) (nI m) (nI i) w = _
      unfold f_X12_productBy_B8b
      obtain ⟨e1, e2⟩ := hy.2 i f hfi
      have hda : a / m < 2 ^ 31 := by have := Nat.div_le_self a m; omega
      have hdb : b / m < 2 ^ 31 := by have := Nat.div_le_self b m; omega
      rw [hy.1, if_neg (nI_ge hi (by omega)), m_rd (by omega) (by decide), m_rd (by omega) (by decide), m_rd (by omega) (by decide), m_rd (by omega) (by decide), e1, e2, y1, nz_pos (by omega) (by omega), nz_pos (by omega) (by omega), nz_pos (by omega) (by omega), nz_pos (by omega) (by omega)]
      rw [pk_div (by omega) (by omega) (by omega), pk_div (by omega) (by omega) (by omega)]
      unfold rem32
      rw [pk_rem hda (by omega) (by omega), pk_rem hdb (by omega) (by omega), y2 _ (Nat.mod_lt _ (by omega)) _ (Nat.mod_lt _ (by omega)), bnd_some, pk_mul, nI_add, pk_mul, nI_1]
  · rintro f ⟨r, m⟩ -
    show f_X12_productBy_B8b (f_X12_productBy_L8 f) (nI a) (nI b) (nI r) (nI m) (nI fs.length) w = _
    unfold f_X12_productBy_B8b
    rw [hy.1, if_pos (nI_le (Nat.le_refl _) (by omega))]
def kY (K : Nat → Prop) (w w' : Wd) : Prop := (∀ k, ¬ K k → w'.1 k = w.1 k) ∧ w'.2 = w.2
theorem kY_set {K : Nat → Prop} {w w' : Wd} (h : kY K w w') {c : Nat} (hc : K c) (i : Nat) (x : Int32) : kY K w (sI w' c i x) := ⟨fun k hk => by rw [← h.1 k hk]; exact sI_row _ _ _ _ (fun z => hk (z ▸ hc)), h.2⟩
section LG
variable {w : Wd} {n : Nat} {T : Nat → Nat → Nat} {iv : Nat → Nat}
theorem y_tab (hn : n ≤ 16) (hw : w.1 44 1 = nI n) (hP : ∀ s, kY (fun k => k = 47) w s → ∀ a b, a < n → b < n → f_X12_productBy (nI a) (nI b) s = some (nI (T a b))) : ∃ w', f_X12_laysGroup w = f_X12_laysGroup_L51 FU (nI 0) w' ∧ (∀ a b, a < n → b < n → w'.1 47 (16 * a + b) = nI (T a b)) ∧ kY (fun k => k = 47) w w' := by
  unfold f_X12_laysGroup
  have inn : ∀ a w1, a < n → (∀ i j, i < a → j < n → w1.1 47 (16 * i + j) = nI (T i j)) → kY (fun k => k = 47) w w1 → ∃ w', ((∀ i j, i < a + 1 → j < n → w'.1 47 (16 * i + j) = nI (T i j)) ∧ kY (fun k => k = 47) w w') ∧ ∀ k2 : Int32 → Wd → Option Wd, f_X12_laysGroup_L12 k2 FU (nI a) (nI 0) w1 = k2 (nI (a + 1)) w' := by
    intro a w1 ha h1 h2
    have key := lrunK (fun (k2 : Int32 → Wd → Option Wd) f b (s : Wd) => f_X12_laysGroup_L12 k2 f (nI a) (nI b) s) n (fun k2 s => k2 (nI (a + 1)) s) (fun b s => (∀ i j, i < a → j < n → s.1 47 (16 * i + j) = nI (T i j)) ∧ (∀ j, j < b → s.1 47 (16 * a + j) = nI (T a j)) ∧ kY (fun k => k = 47) w s) ?_ ?_ n 0 w1 FU (by omega) (FU_big (by omega)) ⟨h1, fun _ z => absurd z (Nat.not_lt_zero _), h2⟩
    · obtain ⟨w', ⟨g1, g2, g3⟩, g4⟩ := key
      refine ⟨w', ⟨fun i j hi hj => ?_, g3⟩, g4⟩
      by_cases q : i = a
      · rw [q]; exact g2 j hj
      · exact g1 i j (by omega) hj
    · rintro b s hb ⟨g1, g2, g3⟩
      refine ⟨sI s 47 (16 * a + b) (nI (T a b)), ⟨fun i j hi hj => ?_, fun j hj => ?_, kY_set g3 rfl _ _⟩, fun k2 f => ?_⟩
      · rw [sI_at, if_neg (fun z => by omega)]; exact g1 i j hi hj
      · rw [sI_at]
        by_cases q : j = b
        · rw [q, if_pos ⟨rfl, rfl⟩]
        · rw [if_neg (fun z => q (by omega))]; exact g2 j (by omega)
      · show f_X12_laysGroup_B12b k2 (f_X12_laysGroup_L12 k2 f) (nI a) (nI b) s = _
        unfold f_X12_laysGroup_B12b
        rw [g3.1 44 (by decide), hw, if_neg (nI_ge hb (by omega)), hP s g3 a b ha hb, bnd_some]
        show wrI s 47 256 (nI 16 * nI a + nI b) _ _ = _
        rw [pk_mul, nI_add, m_wr (by omega) (by decide), nI_1]
    · rintro k2 f s ⟨-, -, g3⟩
      show f_X12_laysGroup_B12b k2 (f_X12_laysGroup_L12 k2 f) (nI a) (nI n) s = _
      unfold f_X12_laysGroup_B12b
      rw [g3.1 44 (by decide), hw, if_pos (nI_le (Nat.le_refl _) (by omega)), nI_1]
  have key := lrun (fun f a (s : Wd) => f_X12_laysGroup_L2 f (nI a) s) n (fun s => f_X12_laysGroup_L51 FU (nI 0) s) (fun a s => (∀ i j, i < a → j < n → s.1 47 (16 * i + j) = nI (T i j)) ∧ kY (fun k => k = 47) w s) ?_ ?_ n 0 w FU (by omega) (FU_big (by omega)) ⟨fun i _ hi => absurd hi (Nat.not_lt_zero _), fun _ _ => rfl, rfl⟩
  · obtain ⟨w', ⟨g1, g2⟩, g3⟩ := key
    exact ⟨w', g3, g1, g2⟩
  · rintro a s ha ⟨g1, g2⟩
    obtain ⟨w', g3, g4⟩ := inn a s ha g1 g2
    refine ⟨w', g3, fun f => ?_⟩
    show f_X12_laysGroup_B2b (f_X12_laysGroup_L2 f) (nI a) s = _
    unfold f_X12_laysGroup_B2b
    rw [g2.1 44 (by decide), hw, if_neg (nI_ge ha (by omega))]
    exact g4 _
  · rintro f s ⟨-, g2⟩
    show f_X12_laysGroup_B2b (f_X12_laysGroup_L2 f) (nI n) s = _
    unfold f_X12_laysGroup_B2b
    rw [g2.1 44 (by decide), hw, if_pos (nI_le (Nat.le_refl _) (by omega))]
    rfl
theorem y_prod47 (hn : n ≤ 16) (hT : ∀ a b, a < n → b < n → w.1 47 (16 * a + b) = nI (T a b)) {a b : Nat} (ha : a < n) (hb : b < n) : f_X12_product0 (nI a) (nI b) w = some (nI (T a b)) := by
  unfold f_X12_product0
  show rdI w 47 256 (nI 16 * nI a + nI b) _ = _
  rw [pk_mul, nI_add, m_rd (by omega) (by decide), hT a b ha hb]
theorem y_invs (hg : Gp n T iv) (hw : w.1 44 1 = nI n) (hT : ∀ a b, a < n → b < n → w.1 47 (16 * a + b) = nI (T a b)) : ∃ w', f_X12_laysGroup_L51 FU (nI 0) w = f_X12_laysGroup_L106 FU (nI 0) (sI w' 49 0 0) ∧ (∀ a, a < n → w'.1 48 a = nI (iv a)) ∧ kY (fun k => k = 48) w w' := by
  have h16 := hg.1.2
  have inn : ∀ a w1, a < n → (∀ i, i < a → w1.1 48 i = nI (iv i)) → kY (fun k => k = 48) w w1 → ∃ w', ((∀ i, i < a + 1 → w'.1 48 i = nI (iv i)) ∧ kY (fun k => k = 48) w w') ∧ ∀ k51 : Int32 → Wd → Option Wd, f_X12_laysGroup_L61 k51 FU (nI a) (nI 0) w1 = k51 (nI (a + 1)) w' := by
    intro a w1 ha h1 h2
    obtain ⟨i1, i2, i3⟩ := hg.2.2.2.2 a ha
    have key := lrunK (fun (k51 : Int32 → Wd → Option Wd) f b (s : Wd) => f_X12_laysGroup_L61 k51 f (nI a) (nI b) s) n (fun k51 s => k51 (nI (a + 1)) s) (fun b s => (∀ i, i < a → s.1 48 i = nI (iv i)) ∧ (iv a < b → s.1 48 a = nI (iv a)) ∧ kY (fun k => k = 48) w s) ?_ ?_ n 0 w1 FU (by omega) (FU_big (by omega)) ⟨h1, fun z => absurd z (Nat.not_lt_zero _), h2⟩
    · obtain ⟨w', ⟨g1, g2, g3⟩, g4⟩ := key
      refine ⟨w', ⟨fun i hi => ?_, g3⟩, g4⟩
      by_cases q : i = a
      · rw [q]; exact g2 i1
      · exact g1 i (by omega)
    · rintro b s hb ⟨g1, g2, g3⟩
      have e1 : s.1 44 1 = nI n := by rw [g3.1 44 (by decide)]; exact hw
      have hTs : ∀ a b, a < n → b < n → s.1 47 (16 * a + b) = nI (T a b) := fun a b ha hb => by rw [g3.1 47 (by decide)]; exact hT a b ha hb
      have hTn := hg.2.1 a b ha hb
      have eL : ∀ (k51 : Int32 → Wd → Option Wd) f, f_X12_laysGroup_L61 k51 (f + 1) (nI a) (nI b) s = if nI (T a b) = 0 then f_X12_laysGroup_L61 k51 f (nI a) (nI (b + 1)) (sI s 48 a (nI b)) else f_X12_laysGroup_L61 k51 f (nI a) (nI (b + 1)) s := fun k51 f => by
        show f_X12_laysGroup_B61b k51 (f_X12_laysGroup_L61 k51 f) (nI a) (nI b) s = _
        unfold f_X12_laysGroup_B61b
        rw [e1, if_neg (nI_ge hb (by omega)), y_prod47 h16 hTs ha hb, bnd_some, m_wr (by omega) (by decide), nI_1]
      by_cases c : T a b = 0
      · have hbi : b = iv a := by
          have h1 := hg.2.2.2.1 (iv a) a b i1 ha hb
          rw [c, i3, (hg.2.2.1 b hb).1, (hg.2.2.1 (iv a) i1).2] at h1
          exact h1
        refine ⟨sI s 48 a (nI b), ⟨fun i hi => ?_, fun _ => ?_, kY_set g3 rfl _ _⟩, fun k51 f => ?_⟩
        · rw [sI_at, if_neg (fun z => by omega)]; exact g1 i hi
        · rw [sI_at, if_pos ⟨rfl, rfl⟩, hbi]
        · rw [eL, c, if_pos (by decide)]
      · refine ⟨s, ⟨g1, fun z => ?_, g3⟩, fun k51 f => ?_⟩
        · by_cases q : iv a = b
          · exact absurd (q ▸ i2) c
          · exact g2 (by omega)
        · rw [eL, if_neg (show ¬ nI (T a b) = (0 : Int32) from fun z => c ((m_inj (b := 0) (by omega) (by decide)).mp z))]
    · rintro k51 f s ⟨-, -, g3⟩
      show f_X12_laysGroup_B61b k51 (f_X12_laysGroup_L61 k51 f) (nI a) (nI n) s = _
      unfold f_X12_laysGroup_B61b
      rw [g3.1 44 (by decide), hw, if_pos (nI_le (Nat.le_refl _) (by omega)), nI_1]
  have key := lrun (fun f a (s : Wd) => f_X12_laysGroup_L51 f (nI a) s) n (fun s => f_X12_laysGroup_L106 FU (nI 0) (sI s 49 0 0)) (fun a s => (∀ i, i < a → s.1 48 i = nI (iv i)) ∧ kY (fun k => k = 48) w s) ?_ ?_ n 0 w FU (by omega) (FU_big (by omega)) ⟨fun i hi => absurd hi (Nat.not_lt_zero _), fun _ _ => rfl, rfl⟩
  · obtain ⟨w', ⟨g1, g2⟩, g3⟩ := key
    exact ⟨w', g3, g1, g2⟩
  · rintro a s ha ⟨g1, g2⟩
    obtain ⟨w', g3, g4⟩ := inn a s ha g1 g2
    refine ⟨w', g3, fun f => ?_⟩
    show f_X12_laysGroup_B51b (f_X12_laysGroup_L51 f) (nI a) s = _
    unfold f_X12_laysGroup_B51b
    rw [g2.1 44 (by decide), hw, if_neg (nI_ge ha (by omega))]
    exact g4 _
  · rintro f s ⟨-, g2⟩
    show f_X12_laysGroup_B51b (f_X12_laysGroup_L51 f) (nI n) s = _
    unfold f_X12_laysGroup_B51b
    rw [g2.1 44 (by decide), hw, if_pos (nI_le (Nat.le_refl _) (by omega))]
    exact m_wr (i := 0) (by decide) (by decide) _
/-- products of a set, one element more -/
theorem pr_add {R e : Nat} (he : e < n) (hR : R < 2 ^ e) (x : Nat) : (pr n T (R ||| 2 ^ e) (R ||| 2 ^ e)).testBit x = true ↔ (pr n T R R).testBit x = true ∨ T e e = x ∨ ∃ i, i < e ∧ R.testBit i = true ∧ (T e i = x ∨ T i e = x) := by
  have hb : ∀ i, R.testBit i = true → i < e := fun i hi => by
    rcases Nat.lt_or_ge i e with q | q
    · exact q
    · rw [Nat.testBit_lt_two_pow (Nat.lt_of_lt_of_le hR (Nat.pow_le_pow_right (by decide) q))] at hi; cases hi
  have ho : ∀ i, (R ||| 2 ^ e).testBit i = true ↔ R.testBit i = true ∨ i = e := fun i => by
    rw [Nat.testBit_or, Nat.testBit_two_pow, Bool.or_eq_true, decide_eq_true_eq]
    exact ⟨fun h => h.imp id Eq.symm, fun h => h.imp id Eq.symm⟩
  rw [pr_bit, pr_bit]
  constructor
  · rintro ⟨a, b, h1, h2, h3, h4, h5⟩
    rcases (ho a).mp h3 with p | p <;> rcases (ho b).mp h4 with q | q
    · exact Or.inl ⟨a, b, h1, h2, p, q, h5⟩
    · exact Or.inr (Or.inr ⟨a, hb a p, p, Or.inr (q ▸ h5)⟩)
    · exact Or.inr (Or.inr ⟨b, hb b q, q, Or.inl (p ▸ h5)⟩)
    · exact Or.inr (Or.inl (by rw [p, q] at h5; exact h5))
  · rintro (⟨a, b, h1, h2, h3, h4, h5⟩ | h | ⟨i, h1, h2, h3 | h3⟩)
    · exact ⟨a, b, h1, h2, (ho a).mpr (Or.inl h3), (ho b).mpr (Or.inl h4), h5⟩
    · exact ⟨e, e, he, he, (ho e).mpr (Or.inr rfl), (ho e).mpr (Or.inr rfl), h⟩
    · exact ⟨e, i, he, by omega, (ho e).mpr (Or.inr rfl), (ho i).mpr (Or.inl h2), h3⟩
    · exact ⟨i, e, by omega, he, (ho i).mpr (Or.inl h2), (ho e).mpr (Or.inr rfl), h3⟩
theorem y_below (hg : Gp n T iv) (hT : ∀ a b, a < n → b < n → w.1 47 (16 * a + b) = nI (T a b)) {R e : Nat} (he : e < n) (hR : R < 2 ^ e) (h49 : w.1 49 R = nI (pr n T R R)) : f_X12_productsBelow (nI R) (nI e) w = some (nI (pr n T (R ||| 2 ^ e) (R ||| 2 ^ e))) := by
  have h16 := hg.1.2
  have hR16 : R < 65536 := Nat.lt_of_lt_of_le hR (show 2 ^ e ≤ 2 ^ 16 from Nat.pow_le_pow_right (by decide) (by omega))
  unfold f_X12_productsBelow
  rw [m_rd hR16 (by decide), h49, y_prod47 h16 hT he he, bnd_some]
  have hee := hg.2.1 e e he he
  rw [m_shl1 (by omega), m_or]
  have key := lrun (fun f i (s : Nat) => f_X12_productsBelow_L19 f (nI R) (nI e) (nI s) (nI i) w) e (fun s => some (nI s)) (fun i s => ∀ x, s.testBit x = true ↔ (pr n T R R).testBit x = true ∨ T e e = x ∨ ∃ j, j < i ∧ R.testBit j = true ∧ (T e j = x ∨ T j e = x)) ?_ ?_ e 0 (pr n T R R ||| 2 ^ T e e) FU (by omega) (FU_big (by omega)) ?_
  · obtain ⟨s, g1, g2⟩ := key
    have : s = pr n T (R ||| 2 ^ e) (R ||| 2 ^ e) := Nat.eq_of_testBit_eq (fun x => by rw [Bool.eq_iff_iff, g1 x, pr_add he hR x])
    rw [← this]; exact g2
  · rintro i s hi g1
    have eL : ∀ f, f_X12_productsBelow_L19 (f + 1) (nI R) (nI e) (nI s) (nI i) w = if f_X12_has (nI R) (nI i) = 0 then f_X12_productsBelow_L19 f (nI R) (nI e) (nI s) (nI (i + 1)) w else f_X12_productsBelow_L19 f (nI R) (nI e) (nI (s ||| (2 ^ T e i ||| 2 ^ T i e))) (nI (i + 1)) w := fun f => by
      show f_X12_productsBelow_B19b (f_X12_productsBelow_L19 f) (nI R) (nI e) (nI s) (nI i) w = _
      unfold f_X12_productsBelow_B19b
      have t1 := hg.2.1 e i he (by omega)
      have t2 := hg.2.1 i e (by omega) he
      rw [if_neg (nI_ge hi (by omega)), y_prod47 h16 hT he (show i < n by omega), bnd_some, y_prod47 h16 hT (show i < n by omega) he, bnd_some, m_shl1 (by omega), m_shl1 (by omega), m_or, m_or, nI_1]
    by_cases c : R.testBit i = true
    · refine ⟨s ||| (2 ^ T e i ||| 2 ^ T i e), fun x => ?_, fun f => ?_⟩
      · rw [Nat.testBit_or, Bool.or_eq_true, g1 x, Nat.testBit_or, Bool.or_eq_true, Nat.testBit_two_pow, Nat.testBit_two_pow, decide_eq_true_eq, decide_eq_true_eq]
        constructor
        · rintro ((h | h | ⟨j, h1, h2, h3⟩) | h)
          · exact Or.inl h
          · exact Or.inr (Or.inl h)
          · exact Or.inr (Or.inr ⟨j, by omega, h2, h3⟩)
          · exact Or.inr (Or.inr ⟨i, by omega, c, h⟩)
        · rintro (h | h | ⟨j, h1, h2, h3⟩)
          · exact Or.inl (Or.inl h)
          · exact Or.inl (Or.inr (Or.inl h))
          · by_cases q : j = i
            · subst q; exact Or.inr h3
            · exact Or.inl (Or.inr (Or.inr ⟨j, by omega, h2, h3⟩))
      · rw [eL, if_neg (fun z => by rw [(y_has0 (by omega) (by omega)).mp z] at c; cases c)]
    · have c' : R.testBit i = false := by simpa using c
      refine ⟨s, fun x => ?_, fun f => ?_⟩
      · rw [g1 x]
        constructor
        · rintro (h | h | ⟨j, h1, h2, h3⟩)
          · exact Or.inl h
          · exact Or.inr (Or.inl h)
          · exact Or.inr (Or.inr ⟨j, by omega, h2, h3⟩)
        · rintro (h | h | ⟨j, h1, h2, h3⟩)
          · exact Or.inl h
          · exact Or.inr (Or.inl h)
          · by_cases q : j = i
            · subst q; exact absurd h2 c
            · exact Or.inr (Or.inr ⟨j, by omega, h2, h3⟩)
      · rw [eL, if_pos ((y_has0 (by omega) (by omega)).mpr c')]
  · rintro f s -
    show f_X12_productsBelow_B19b (f_X12_productsBelow_L19 f) (nI R) (nI e) (nI s) (nI e) w = _
    unfold f_X12_productsBelow_B19b
    rw [if_pos (nI_le (Nat.le_refl _) (by omega))]
  · intro x
    rw [Nat.testBit_or, Bool.or_eq_true, Nat.testBit_two_pow, decide_eq_true_eq]
    constructor
    · rintro (h | h)
      · exact Or.inl h
      · exact Or.inr (Or.inl h)
    · rintro (h | h | ⟨j, h1, -⟩)
      · exact Or.inl h
      · exact Or.inr h
      · exact absurd h1 (Nat.not_lt_zero _)
theorem y_dp (hg : Gp n T iv) (hw : w.1 44 1 = nI n) (hT : ∀ a b, a < n → b < n → w.1 47 (16 * a + b) = nI (T a b)) (h0 : w.1 49 0 = nI 0) : ∃ w', f_X12_laysGroup_L106 FU (nI 0) w = f_X12_laysGroup_L162 FU (nI 1) (nI 1) (sI w' 44 9 0) ∧ (∀ S, S < 2 ^ n → w'.1 49 S = nI (pr n T S S)) ∧ kY (fun k => k = 49) w w' := by
  have h16 := hg.1.2
  have inn : ∀ e w1, e < n → (∀ S, S < 2 ^ e → w1.1 49 S = nI (pr n T S S)) → kY (fun k => k = 49) w w1 → ∃ w', ((∀ S, S < 2 ^ (e + 1) → w'.1 49 S = nI (pr n T S S)) ∧ kY (fun k => k = 49) w w') ∧ ∀ k106 : Int32 → Wd → Option Wd, f_X12_laysGroup_L118 k106 FU (nI e) (nI (2 ^ e)) w1 = k106 (nI (e + 1)) w' := by
    intro e w1 he h1 h2
    have hp16 : 2 ^ (e + 1) ≤ 65536 := show 2 ^ (e + 1) ≤ 2 ^ 16 from Nat.pow_le_pow_right (by decide) (by omega)
    have hp2 : 2 ^ (e + 1) = 2 ^ e + 2 ^ e := by rw [Nat.pow_succ]; omega
    have e2 : (2 : Int32) <<< (nI e &&& 31) = nI (2 ^ (e + 1)) := by
      show nI 2 <<< (nI e &&& 31) = _
      rw [m_shlG (by omega), Nat.pow_succ, Nat.mul_comm]
    have key := lrunK (fun (k106 : Int32 → Wd → Option Wd) f i (s : Wd) => f_X12_laysGroup_L118 k106 f (nI e) (nI (2 ^ e + i)) s) (2 ^ e) (fun k106 s => k106 (nI (e + 1)) s) (fun i s => (∀ S, S < 2 ^ e + i → s.1 49 S = nI (pr n T S S)) ∧ kY (fun k => k = 49) w s) ?_ ?_ (2 ^ e) 0 w1 FU (by omega) (FU_big (by omega)) ⟨h1, h2⟩
    · obtain ⟨w', ⟨g1, g2⟩, g3⟩ := key
      exact ⟨w', ⟨fun S hS => g1 S (by omega), g2⟩, g3⟩
    · rintro i s hi ⟨g1, g2⟩
      have hTs : ∀ a b, a < n → b < n → s.1 47 (16 * a + b) = nI (T a b) := fun a b ha hb => by rw [g2.1 47 (by decide)]; exact hT a b ha hb
      have hor : i ||| 2 ^ e = 2 ^ e + i := by
        have h := Nat.two_pow_add_eq_or_of_lt hi 1
        rw [Nat.mul_one] at h
        rw [Nat.or_comm]; exact h.symm
      have hxo : (2 ^ e + i) ^^^ 2 ^ e = i := by
        apply Nat.eq_of_testBit_eq
        intro x
        rw [← hor, Nat.testBit_xor, Nat.testBit_or, Nat.testBit_two_pow]
        by_cases q : e = x
        · subst q
          rw [Nat.testBit_lt_two_pow hi]; simp
        · simp [q]
      have hB := y_below hg hTs he hi (g1 i (by omega))
      rw [hor] at hB
      refine ⟨sI s 49 (2 ^ e + i) (nI (pr n T (2 ^ e + i) (2 ^ e + i))), ⟨fun S hS => ?_, kY_set g2 rfl _ _⟩, fun k106 f => ?_⟩
      · rw [sI_at]
        by_cases q : S = 2 ^ e + i
        · rw [q, if_pos ⟨rfl, rfl⟩]
        · rw [if_neg (fun z => q z.2)]; exact g1 S (by omega)
      · show f_X12_laysGroup_B118b k106 (f_X12_laysGroup_L118 k106 f) (nI e) (nI (2 ^ e + i)) s = _
        unfold f_X12_laysGroup_B118b
        rw [e2, if_neg (nI_ge (by omega) (by omega)), m_shl1 (by omega), m_xor, hxo, hB, bnd_some, m_wr (by omega) (by decide), nI_1]
        rfl
    · rintro k106 f s -
      show f_X12_laysGroup_B118b k106 (f_X12_laysGroup_L118 k106 f) (nI e) (nI (2 ^ e + 2 ^ e)) s = _
      unfold f_X12_laysGroup_B118b
      rw [e2, if_pos (nI_le (by omega) (by omega)), nI_1]
  have key := lrun (fun f a (s : Wd) => f_X12_laysGroup_L106 f (nI a) s) n (fun s => f_X12_laysGroup_L162 FU (nI 1) (nI 1) (sI s 44 9 0)) (fun a s => (∀ S, S < 2 ^ a → s.1 49 S = nI (pr n T S S)) ∧ kY (fun k => k = 49) w s) ?_ ?_ n 0 w FU (by omega) (FU_big (by omega)) ⟨fun S hS => ?_, fun _ _ => rfl, rfl⟩
  · obtain ⟨w', ⟨g1, g2⟩, g3⟩ := key
    exact ⟨w', g3, g1, g2⟩
  · rintro a s ha ⟨g1, g2⟩
    obtain ⟨w', g3, g4⟩ := inn a s ha g1 g2
    refine ⟨w', g3, fun f => ?_⟩
    show f_X12_laysGroup_B106b (f_X12_laysGroup_L106 f) (nI a) s = _
    unfold f_X12_laysGroup_B106b
    rw [g2.1 44 (by decide), hw, if_neg (nI_ge ha (by omega)), m_shl1 (by omega)]
    exact g4 _
  · rintro f s ⟨-, g2⟩
    show f_X12_laysGroup_B106b (f_X12_laysGroup_L106 f) (nI n) s = _
    unfold f_X12_laysGroup_B106b
    rw [g2.1 44 (by decide), hw, if_pos (nI_le (Nat.le_refl _) (by omega))]
    rfl
  · have hS : S < 1 := hS
    rw [show S = 0 by omega, h0]
    have : pr n T 0 0 = 0 := Nat.eq_of_testBit_eq (fun x => by
      rw [Bool.eq_iff_iff, pr_bit]
      constructor
      · rintro ⟨a, b, h1, h2, h3, h4, h5⟩; rw [Nat.zero_testBit] at h3; cases h3
      · intro h; rw [Nat.zero_testBit] at h; cases h)
    rw [this]
end LG
