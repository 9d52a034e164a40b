/-! more calls that only read -/
theorem tri_or (l : Int32) {lo hi : Nat} (h : lo ≤ hi) (h2 : hi + 1 < 2 ^ 31) : (∃ j, lo ≤ j ∧ j ≤ hi ∧ l = nI j) ∨ l < nI lo ∨ (¬ l < nI lo ∧ nI hi < l ∧ nI (hi + 1) ≤ l ∧ ¬ l ≤ nI hi ∧ ¬ l < 0) := by
  have t0 : (0 : Int32).toInt = 0 := by decide
  have t1 := nI_toInt (n := lo) (by omega)
  have t2 := nI_toInt (n := hi) (by omega)
  have t3 := nI_toInt (n := hi + 1) (by omega)
  by_cases c : l < nI lo
  · exact Or.inr (Or.inl c)
  · by_cases d : nI hi < l
    · refine Or.inr (Or.inr ⟨c, d, ?_, ?_, ?_⟩)
      · rw [Int32.le_iff_toInt_le]; rw [Int32.lt_iff_toInt_lt] at d; omega
      · rw [Int32.le_iff_toInt_le]; rw [Int32.lt_iff_toInt_lt] at d; omega
      · rw [Int32.lt_iff_toInt_lt]; rw [Int32.lt_iff_toInt_lt] at d; omega
    · have : ¬ l < 0 := by
        rw [Int32.lt_iff_toInt_lt]; rw [Int32.lt_iff_toInt_lt] at c; omega
      obtain ⟨j, hj, rfl⟩ := nI_of this
      rw [m_lt hj (by omega)] at c
      rw [m_lt (by omega) hj] at d
      exact Or.inl ⟨j, by omega, by omega, rfl⟩
theorem kind_or (l : Int32) : (∃ k, k < 3 ∧ l = nI k ∧ f_X11_isKind l = 1 ∧ f_X12_isKind l = 1) ∨ (f_X11_isKind l = 0 ∧ f_X12_isKind l = 0) := by
  unfold f_X11_isKind f_X12_isKind f_X12_in
  rcases tri_or l (lo := 0) (hi := 2) (by omega) (by omega) with ⟨j, h1, h2, rfl⟩ | h | ⟨h1, h2, h3, h4, h5⟩
  · left
    refine ⟨j, by omega, rfl, ?_, ?_⟩
    · rw [if_neg (nI_pos (by omega)), if_neg (show ¬ (3 : Int32) ≤ nI j from fun q => by have := (m_le (a := 3) (b := j) (by omega) (by omega)).mp q; omega)]
    · rw [if_neg (nI_pos (by omega)), if_neg (show ¬ (2 : Int32) < nI j from fun q => by have := (m_lt (a := 2) (b := j) (by omega) (by omega)).mp q; omega)]
  · right
    rw [if_pos (show l < 0 from h), if_pos (show l < 0 from h)]; exact ⟨rfl, rfl⟩
  · right
    rw [if_neg (show ¬ l < 0 from h1), if_pos (show (3 : Int32) ≤ l from h3), if_neg (show ¬ l < 0 from h1), if_pos (show (2 : Int32) < l from h2)]; exact ⟨rfl, rfl⟩
theorem m_and3 {A B C i j k : Nat} (hA : A < 2 ^ 31) (hB : B < 2 ^ 31) (hC : C < 2 ^ 31) (hi : i < 32) (hj : j < 32) (hk : k < 32) : ((((nI A >>> (nI i &&& 31)) &&& (nI B >>> (nI j &&& 31))) &&& (nI C >>> (nI k &&& 31))) &&& 1 = 0) ↔ (A.testBit i && B.testBit j && C.testBit k) = false := by
  rw [m_shr hA hi, m_shr hB hj, m_shr hC hk, m_and, m_and, show (1 : Int32) = nI 1 from rfl, m_and, nIz (Nat.lt_of_le_of_lt Nat.and_le_right (by decide)), and1z, Nat.testBit_and, Nat.testBit_and, div_bit, div_bit, div_bit]
theorem m_and2 {A B i j : Nat} (hA : A < 2 ^ 31) (hB : B < 2 ^ 31) (hi : i < 32) (hj : j < 32) : (((nI A >>> (nI i &&& 31)) &&& (nI B >>> (nI j &&& 31))) &&& 1) = nI (if (A.testBit i && B.testBit j) then 1 else 0) := by
  rw [m_shr hA hi, m_shr hB hj, m_and, show (1 : Int32) = nI 1 from rfl, m_and, Nat.and_one_is_mod]
  congr 1
  have : ((A / 2 ^ i &&& B / 2 ^ j) % 2 = 1) ↔ (A.testBit i && B.testBit j) = true := by
    rw [← div_bit A i, ← div_bit B j, ← Nat.testBit_and, Nat.testBit_zero, decide_eq_true_iff]
  have l2 : (A / 2 ^ i &&& B / 2 ^ j) % 2 < 2 := Nat.mod_lt _ (by decide)
  by_cases c : (A.testBit i && B.testBit j) = true
  · rw [if_pos c]; exact this.mpr c
  · rw [if_neg c]
    rcases (show (A / 2 ^ i &&& B / 2 ^ j) % 2 = 0 ∨ (A / 2 ^ i &&& B / 2 ^ j) % 2 = 1 by omega) with q | q
    · exact q
    · exact absurd (this.mp q) c
section READ2
variable {w : Wd} {n : Nat} {T : Nat → Nat → Nat} {iv : Nat → Nat}
theorem c_is (hG : GX w n T iv) (hM : GM w n T iv) (hg : Gp n T iv) (a b : Int32) : ∃ r, f_X11_is a b w = some r ∧ f_X12_is a b w = some r := by
  have h16 := hg.1.2
  unfold f_X11_is f_X12_is
  rcases set_or hG hM hg a with ⟨S, hS, rfl, e1, e2⟩ | ⟨e1, e2⟩
  · rcases kind_or b with ⟨k, hk, rfl, e3, e4⟩ | ⟨e3, e4⟩
    · have hS6 := le16 hS h16
      have hkd := kd_lt (n := n) (T := T) S
      simp only [e1, e2, e3, e4, one_ne, ↓reduceIte, x_isFree hG hg hS6, y_isOf hM hg hS hk, bnd_some]
      cases hf : fr n T S with
      | false => exact ⟨0, by simp, by simp⟩
      | true =>
        simp (disch := omega) only [↓reduceIte, one_ne, x_kind hG hg hS6 hf, bnd_some, m_lt, Bool.true_and, decide_eq_true_eq]
        by_cases c : k ≤ kd n T S
        · exact ⟨1, by rw [if_neg (by omega)], by rw [if_pos c]; simp⟩
        · exact ⟨0, by rw [if_pos (by omega)], by rw [if_neg c]; simp⟩
    · rw [e1, e2, e3, e4]; exact ⟨_, rfl, rfl⟩
  · rw [e1, e2]; exact ⟨_, rfl, rfl⟩
/-! triples -/
def tri (T : Nat → Nat → Nat) (S x y : Nat) : Bool := S.testBit x && S.testBit y && S.testBit (T x y)
theorem x_isTriple (hG : GX w n T iv) (hg : Gp n T iv) {S x y : Nat} (hS : S < 2 ^ 31) (hx : x < n) (hy : y < n) : f_X4_isTriple (nI S) (nI x) (nI y) w = some (if tri T S x y then 1 else 0) := by
  have h16 := hg.1.2
  have t := hg.2.1 x y hx hy
  unfold f_X4_isTriple
  simp (disch := omega) only [x_times hG hg, bnd_some, m_and3]
  unfold tri
  cases S.testBit x && S.testBit y && S.testBit (T x y) <;> rfl
theorem mv_and (hg : Gp n T iv) {x S : Nat} (hx : x < n) : mv n T x S true &&& S = orF (fun e => if S.testBit e && S.testBit (T x e) then 2 ^ T x e else 0) n := by
  apply ext_bit
  intro b
  rw [Nat.testBit_and, Bool.and_eq_true, mv_bit, orF_bit]
  constructor
  · rintro ⟨⟨e, he, h1, h2⟩, h3⟩
    have h2 : T x e = b := by simpa using h2
    subst h2
    exact ⟨e, he, by rw [h1, h3]; simp⟩
  · rintro ⟨e, he, h⟩
    split at h
    next q =>
      have := (two_bit _ _).mp h
      subst this
      rw [Bool.and_eq_true] at q
      exact ⟨⟨e, he, q.1, by simp⟩, q.2⟩
    next => simp at h
theorem pc_mv (hg : Gp n T iv) {x S : Nat} (hx : x < n) : pc (mv n T x S true &&& S) = cntB (fun y => S.testBit y && S.testBit (T x y)) n := by
  have h16 := hg.1.2
  rw [mv_and hg hx]
  exact pc_img (fun e he => by have := hg.2.1 x e hx he; omega) (fun e d he hd h => T_canL hg hx he hd h)
def trs (n : Nat) (T : Nat → Nat → Nat) (S : Nat) : Nat := sumF (fun x => sumF (fun y => if tri T S x y then 1 else 0) n) n
theorem x_triples (hG : GX w n T iv) (hg : Gp n T iv) {S : Nat} (hS : S < 2 ^ 16) : f_X4_countTriples (nI S) w = some (nI (trs n T S)) := by
  have h16 := hg.1.2
  have hS1 := lt31 hS
  have key := lup (fun f i (acc : Nat) => f_X4_countTriples_L4 f (nI S) (nI acc) (nI i) w) n (fun x acc => acc + sumF (fun y => if tri T S x y then 1 else 0) n) (fun acc => some (nI acc)) (fun _ _ => True) ?_ (fun _ _ _ _ => trivial) ?_ n 0 0 FU (by omega) (FU_big (by omega)) trivial
  · exact key.1
  · intro f i acc hi _
    by_cases hb : S.testBit i = true
    · have hl : mv n T i S true &&& S < 65536 := Nat.lt_of_le_of_lt Nat.and_le_right hS
      simp (disch := omega) only [f_X4_countTriples_L4, f_X4_countTriples_B4b, hG.1, Nat.not_le.mpr hi, m_le, ↓reduceIte, nI_1, bnd_some, bnd2_some, x_bit0, hb, x_mvL hG hg hi hS, m_and, x_pc hl, nI_add, pc_mv hg hi, sumF_cnt, tri, Bool.true_and, Bool.true_eq_false]
    · have hb : S.testBit i = false := by simpa using hb
      simp (disch := omega) only [f_X4_countTriples_L4, f_X4_countTriples_B4b, hG.1, Nat.not_le.mpr hi, m_le, ↓reduceIte, nI_1, bnd_some, bnd2_some, x_bit0, hb, sumF_cnt, tri, Bool.false_and]
      rw [cnt_none (fun _ _ => rfl)]; rfl
  · intro f acc _
    simp (disch := omega) only [f_X4_countTriples_L4, f_X4_countTriples_B4b, hG.1, Nat.le_refl, m_le, ↓reduceIte, nI_1, bnd_some, bnd2_some]
theorem y_triples (hM : GM w n T iv) (hg : Gp n T iv) {S : Nat} (hS : S < 2 ^ 16) : f_X12_triplesOf (nI S) w = some (nI (trs n T S)) := by
  have h16 := hg.1.2
  have hS1 := lt31 hS
  have inn : ∀ (k4 : Int32 → Int32 → Int32 → Wd → Option Int32) x acc, x < n → f_X12_triplesOf_L15 k4 FU (nI S) (nI acc) (nI x) 0 w = k4 (nI S) (nI (acc + sumF (fun y => if tri T S x y then 1 else 0) n)) (nI (x + 1)) w := by
    intro k4 x acc hx
    have key := lup (fun f i (acc : Nat) => f_X12_triplesOf_L15 k4 f (nI S) (nI acc) (nI x) (nI i) w) n (fun y acc => acc + (if tri T S x y then 1 else 0)) (fun acc => k4 (nI S) (nI acc) (nI (x + 1)) w) (fun _ _ => True) ?_ (fun _ _ _ _ => trivial) ?_ n 0 acc FU (by omega) (FU_big (by omega)) trivial
    · have := key.1
      rw [rng_add] at this
      exact this
    · intro f i acc hi _
      have t := hg.2.1 x i hx hi
      cases h1 : S.testBit x <;> cases h2 : S.testBit i <;> cases h3 : S.testBit (T x i) <;> simp (disch := omega) only [f_X12_triplesOf_L15, f_X12_triplesOf_B15b, hM.1, Nat.not_le.mpr hi, m_le, ↓reduceIte, nI_1, bnd_some, bnd2_some, y_has0, h1, h2, h3, tri, y_prod hM hg, Bool.and_true, Bool.and_false, Bool.false_eq_true, Bool.true_eq_false, Nat.add_zero]
    · intro f acc _
      simp (disch := omega) only [f_X12_triplesOf_L15, f_X12_triplesOf_B15b, hM.1, Nat.le_refl, m_le, ↓reduceIte, nI_1, bnd_some, bnd2_some]
  have key := lup (fun f i (acc : Nat) => f_X12_triplesOf_L4 f (nI S) (nI acc) (nI i) w) n (fun x acc => acc + sumF (fun y => if tri T S x y then 1 else 0) n) (fun acc => some (nI acc)) (fun _ _ => True) ?_ (fun _ _ _ _ => trivial) ?_ n 0 0 FU (by omega) (FU_big (by omega)) trivial
  · exact key.1
  · intro f i acc hi _
    simp (disch := omega) only [f_X12_triplesOf_L4, f_X12_triplesOf_B4b, hM.1, Nat.not_le.mpr hi, m_le, ↓reduceIte, nI_1, bnd_some, bnd2_some, inn _ i acc hi]
  · intro f acc _
    simp (disch := omega) only [f_X12_triplesOf_L4, f_X12_triplesOf_B4b, hM.1, Nat.le_refl, m_le, ↓reduceIte, nI_1, bnd_some, bnd2_some]
theorem c_triples (hG : GX w n T iv) (hM : GM w n T iv) (hg : Gp n T iv) (a : Int32) : ∃ r, f_X11_triples a w = some r ∧ f_X12_triples a w = some r := by
  unfold f_X11_triples f_X12_triples
  rcases set_or hG hM hg a with ⟨S, hS, rfl, e1, e2⟩ | ⟨e1, e2⟩
  · have hS6 := le16 hS hg.1.2
    rw [e1, e2, if_neg one_ne, if_neg one_ne, x_triples hG hg hS6, y_triples hM hg hS6]; exact ⟨_, rfl, rfl⟩
  · rw [e1, e2]; exact ⟨_, rfl, rfl⟩
/-! the first triple -/
def ans3 (T : Nat → Nat → Nat) (q x y : Nat) : Int32 := if q = 0 then nI x else if q = 1 then nI y else nI (T x y)
theorem c_triple (hG : GX w n T iv) (hM : GM w n T iv) (hg : Gp n T iv) (a b : Int32) : ∃ r, f_X11_triple a b w = some r ∧ f_X12_triple a b w = some r := by
  have h16 := hg.1.2
  unfold f_X11_triple f_X12_triple f_X12_in
  rcases set_or hG hM hg a with ⟨S, hS, rfl, e1, e2⟩ | ⟨e1, e2⟩
  · have hS6 := le16 hS h16
    have hS1 := lt31 hS6
    rw [e1, e2, if_neg one_ne, if_neg one_ne]
    rcases tri_or b (lo := 0) (hi := 2) (by omega) (by omega) with ⟨q, h1, h2, rfl⟩ | h | ⟨h1, h2, h3, h4, h5⟩
    · have c0 : ¬ nI q < 0 := nI_pos (by omega)
      have c2 : nI q ≤ 2 := nI_le (b := 2) h2 (by omega)
      have c2' : ¬ 2 < nI q := nI_nlt (b := q) (a := 2) h2 (by omega)
      rw [if_neg c0, if_pos c2, if_neg c0, if_neg c2', if_neg one_ne]
      have z0 : (nI q = 0) ↔ q = 0 := nIz (by omega)
      have z1 : (nI q = 1) ↔ q = 1 := m_inj (b := 1) (by omega) (by omega)
      have innx : ∀ (k : Int32 → Int32 → Int32 → Wd → Option Int32) x, x < n → f_X11_triple_L38 k FU (nI S) (nI q) (nI x) 0 w = selO (fst (tri T S x) 0 n) (fun y => some (ans3 T q x y)) (k (nI S) (nI q) (nI (x + 1)) w) := by
        intro k x hx
        refine lfind (fun f i => f_X11_triple_L38 k f (nI S) (nI q) (nI x) (nI i) w) n (tri T S x) (fun y => some (ans3 T q x y)) (k (nI S) (nI q) (nI (x + 1)) w) ?_ ?_ ?_ n 0 FU (by omega) (FU_big (by omega))
        · intro f i hi hp
          simp (disch := omega) only [f_X11_triple_L38, f_X11_triple_B38b, hG.1, Nat.not_le.mpr hi, m_le, ↓reduceIte, nI_1, bnd_some, bnd2_some, x_isTriple hG hg hS1 hx hi, hp, Bool.false_eq_true]
        · intro f i hi hp
          have t := hg.2.1 x i hx hi
          simp (disch := omega) only [f_X11_triple_L38, f_X11_triple_B38b, hG.1, Nat.not_le.mpr hi, m_le, ↓reduceIte, nI_1, bnd_some, bnd2_some, x_isTriple hG hg hS1 hx hi, hp, one_ne, z0, z1, ans3, x_times hG hg]
          split
          · rfl
          · split <;> rfl
        · intro f
          simp (disch := omega) only [f_X11_triple_L38, f_X11_triple_B38b, hG.1, Nat.le_refl, m_le, ↓reduceIte, nI_1, bnd_some, bnd2_some]
      have inny : ∀ (k : Int32 → Int32 → Int32 → Wd → Option Int32) x, x < n → f_X12_triple_L32 k FU (nI S) (nI q) (nI x) 0 w = selO (fst (tri T S x) 0 n) (fun y => some (ans3 T q x y)) (k (nI S) (nI q) (nI (x + 1)) w) := by
        intro k x hx
        refine lfind (fun f i => f_X12_triple_L32 k f (nI S) (nI q) (nI x) (nI i) w) n (tri T S x) (fun y => some (ans3 T q x y)) (k (nI S) (nI q) (nI (x + 1)) w) ?_ ?_ ?_ n 0 FU (by omega) (FU_big (by omega))
        · intro f i hi hp
          have t := hg.2.1 x i hx hi
          unfold tri at hp
          cases h1 : S.testBit x <;> cases h2 : S.testBit i <;> cases h3 : S.testBit (T x i) <;> first | (rw [h1, h2, h3] at hp; cases hp; done) | simp (disch := omega) only [f_X12_triple_L32, f_X12_triple_B32b, hM.1, Nat.not_le.mpr hi, m_le, ↓reduceIte, nI_1, bnd_some, bnd2_some, y_has0, h1, h2, h3, y_prod hM hg, Bool.true_eq_false]
        · intro f i hi hp
          have t := hg.2.1 x i hx hi
          unfold tri at hp
          simp only [Bool.and_eq_true] at hp
          simp (disch := omega) only [f_X12_triple_L32, f_X12_triple_B32b, hM.1, Nat.not_le.mpr hi, m_le, ↓reduceIte, nI_1, bnd_some, bnd2_some, y_has0, hp.1.1, hp.1.2, hp.2, y_prod hM hg, Bool.true_eq_false, z0, z1, ans3]
          split
          · rfl
          · split <;> rfl
        · intro f
          simp (disch := omega) only [f_X12_triple_L32, f_X12_triple_B32b, hM.1, Nat.le_refl, m_le, ↓reduceIte, nI_1, bnd_some, bnd2_some]
      have kx := lfind (fun f i => f_X11_triple_L24 f (nI S) (nI q) (nI i) w) n (fun x => (fst (tri T S x) 0 n).isSome) (fun x => some (selO (fst (tri T S x) 0 n) (fun y => ans3 T q x y) 0)) (some (-2)) ?_ ?_ ?_ n 0 FU (by omega) (FU_big (by omega))
      have ky := lfind (fun f i => f_X12_triple_L21 f (nI S) (nI q) (nI i) w) n (fun x => (fst (tri T S x) 0 n).isSome) (fun x => some (selO (fst (tri T S x) 0 n) (fun y => ans3 T q x y) 0)) (some (-2)) ?_ ?_ ?_ n 0 FU (by omega) (FU_big (by omega))
      · cases h : fst (fun x => (fst (tri T S x) 0 n).isSome) 0 n with
        | none => rw [h] at kx ky; exact ⟨_, kx, ky⟩
        | some j => rw [h] at kx ky; exact ⟨_, kx, ky⟩
      · intro f i hi hp
        simp (disch := omega) only [f_X12_triple_L21, f_X12_triple_B21b, hM.1, Nat.not_le.mpr hi, m_le, ↓reduceIte, nI_1, bnd_some, bnd2_some, inny _ i hi]
        cases h : fst (tri T S i) 0 n with
        | none => rfl
        | some j => rw [h] at hp; cases hp
      · intro f i hi hp
        simp (disch := omega) only [f_X12_triple_L21, f_X12_triple_B21b, hM.1, Nat.not_le.mpr hi, m_le, ↓reduceIte, nI_1, bnd_some, bnd2_some, inny _ i hi]
        cases h : fst (tri T S i) 0 n with
        | none => rw [h] at hp; cases hp
        | some j => rfl
      · intro f
        simp (disch := omega) only [f_X12_triple_L21, f_X12_triple_B21b, hM.1, Nat.le_refl, m_le, ↓reduceIte, nI_1, bnd_some, bnd2_some]
      · intro f i hi hp
        simp (disch := omega) only [f_X11_triple_L24, f_X11_triple_B24b, hG.1, Nat.not_le.mpr hi, m_le, ↓reduceIte, nI_1, bnd_some, bnd2_some, innx _ i hi]
        cases h : fst (tri T S i) 0 n with
        | none => rfl
        | some j => rw [h] at hp; cases hp
      · intro f i hi hp
        simp (disch := omega) only [f_X11_triple_L24, f_X11_triple_B24b, hG.1, Nat.not_le.mpr hi, m_le, ↓reduceIte, nI_1, bnd_some, bnd2_some, innx _ i hi]
        cases h : fst (tri T S i) 0 n with
        | none => rw [h] at hp; cases hp
        | some j => rfl
      · intro f
        simp (disch := omega) only [f_X11_triple_L24, f_X11_triple_B24b, hG.1, Nat.le_refl, m_le, ↓reduceIte, nI_1, bnd_some, bnd2_some]
    · rw [if_pos (show b < 0 from h), if_pos (show b < 0 from h)]; exact ⟨_, rfl, rfl⟩
    · rw [if_neg (show ¬ b < 0 from h1), if_neg (show ¬ b ≤ 2 from h4), if_neg (show ¬ b < 0 from h1), if_pos (show 2 < b from h2)]; exact ⟨_, rfl, rfl⟩
  · rw [e1, e2]; exact ⟨_, rfl, rfl⟩
/-! ways, energy -/
def wys (n : Nat) (T : Nat → Nat → Nat) (iv : Nat → Nat) (S e : Nat) : Nat := sumF (fun x => if S.testBit x && S.testBit (T (iv x) e) then 1 else 0) n
theorem wys_le {S e : Nat} : wys n T iv S e ≤ n := by
  have := sumF_le (f := fun x => if S.testBit x && S.testBit (T (iv x) e) then 1 else 0) (c := 1) (n := n) (fun i _ => by split <;> omega)
  unfold wys; omega
theorem x_ways (hG : GX w n T iv) (hg : Gp n T iv) {S e : Nat} (hS : S < 2 ^ 16) (he : e < n) : f_X4_waysOf (nI S) (nI e) w = some (nI (wys n T iv S e)) := by
  have h16 := hg.1.2
  have hS1 := lt31 hS
  have key := lup (fun f i (acc : Nat) => f_X4_waysOf_L5 f (nI S) (nI e) (nI acc) (nI i) w) n (fun x acc => acc + (if S.testBit x && S.testBit (T (iv x) e) then 1 else 0)) (fun acc => some (nI acc)) (fun _ _ => True) ?_ (fun _ _ _ _ => trivial) ?_ n 0 0 FU (by omega) (FU_big (by omega)) trivial
  · exact key.1
  · intro f i acc hi _
    have t := (hg.2.2.2.2 i hi).1
    have t2 := hg.2.1 _ e t he
    simp (disch := omega) only [f_X4_waysOf_L5, f_X4_waysOf_B5b, hG.1, Nat.not_le.mpr hi, m_le, ↓reduceIte, nI_1, bnd_some, bnd2_some, x_inv hG hg, x_times hG hg, m_and2, nI_add]
  · intro f acc _
    simp (disch := omega) only [f_X4_waysOf_L5, f_X4_waysOf_B5b, hG.1, Nat.le_refl, m_le, ↓reduceIte, nI_1, bnd_some, bnd2_some]
theorem y_ways (hM : GM w n T iv) (hg : Gp n T iv) {S e : Nat} (hS : S < 2 ^ 16) (he : e < n) : f_X12_waysOf (nI S) (nI e) w = some (nI (wys n T iv S e)) := by
  have h16 := hg.1.2
  have hS1 := lt31 hS
  have inn : ∀ (k5 : Int32 → Int32 → Int32 → Int32 → Wd → Option Int32) x acc, x < n → f_X12_waysOf_L17 k5 FU (nI S) (nI e) (nI acc) (nI x) 0 w = k5 (nI S) (nI e) (nI (acc + (if S.testBit x && S.testBit (T (iv x) e) then 1 else 0))) (nI (x + 1)) w := by
    intro k5 x acc hx
    have hi := hg.2.2.2.2 x hx
    have hy := hg.2.1 _ e hi.1 he
    have key := lup (fun f i (acc : Nat) => f_X12_waysOf_L17 k5 f (nI S) (nI e) (nI acc) (nI x) (nI i) w) n (fun y acc => acc + (if S.testBit x && S.testBit y && decide (T x y = e) then 1 else 0)) (fun acc => k5 (nI S) (nI e) (nI acc) (nI (x + 1)) w) (fun _ _ => True) ?_ (fun _ _ _ _ => trivial) ?_ n 0 acc FU (by omega) (FU_big (by omega)) trivial
    · have := key.1
      rw [rng_add, sumF_cnt] at this
      refine Eq.trans this ?_
      congr 2
      have e1 : T x (T (iv x) e) = e := by rw [← hg.2.2.2.1 _ _ _ hx hi.1 he, hi.2.1, (hg.2.2.1 e he).1]
      have e2 : ∀ y, y < n → T x y = e → y = T (iv x) e := fun y hy' h => by rw [← h, ← hg.2.2.2.1 _ _ _ hi.1 hx hy', hi.2.2, (hg.2.2.1 y hy').1]
      by_cases c : (S.testBit x && S.testBit (T (iv x) e)) = true
      · rw [if_pos c, cnt_one (y := T (iv x) e), if_pos hy]
        intro y hy'
        simp only [Bool.and_eq_true, decide_eq_true_eq] at c ⊢
        constructor
        · rintro ⟨-, h⟩; exact e2 y hy' h
        · rintro rfl; exact ⟨⟨c.1, c.2⟩, e1⟩
      · rw [if_neg c, cnt_none]
        intro y hy'
        cases q : (S.testBit x && S.testBit y && decide (T x y = e)) with
        | false => rfl
        | true =>
          simp only [Bool.and_eq_true, decide_eq_true_eq] at q c
          exact absurd ⟨q.1.1, (e2 y hy' q.2) ▸ q.1.2⟩ c
    · intro f i acc hi _
      have t := hg.2.1 x i hx hi
      by_cases h3 : T x i = e
      · cases h1 : S.testBit x <;> cases h2 : S.testBit i <;> simp (disch := omega) only [f_X12_waysOf_L17, f_X12_waysOf_B17b, hM.1, Nat.not_le.mpr hi, m_le, ↓reduceIte, nI_1, bnd_some, bnd2_some, y_has0, h1, h2, h3, y_prod hM hg, Bool.and_true, Bool.and_false, Bool.false_eq_true, Bool.true_eq_false, Nat.add_zero, decide_true]
      · cases h1 : S.testBit x <;> cases h2 : S.testBit i <;> simp (disch := omega) only [f_X12_waysOf_L17, f_X12_waysOf_B17b, hM.1, Nat.not_le.mpr hi, m_le, ↓reduceIte, nI_1, bnd_some, bnd2_some, y_has0, h1, h2, h3, y_prod hM hg, m_inj, Bool.and_true, Bool.and_false, Bool.false_eq_true, Bool.true_eq_false, Nat.add_zero, decide_false]
    · intro f acc _
      simp (disch := omega) only [f_X12_waysOf_L17, f_X12_waysOf_B17b, hM.1, Nat.le_refl, m_le, ↓reduceIte, nI_1, bnd_some, bnd2_some]
  have key := lup (fun f i (acc : Nat) => f_X12_waysOf_L5 f (nI S) (nI e) (nI acc) (nI i) w) n (fun x acc => acc + (if S.testBit x && S.testBit (T (iv x) e) then 1 else 0)) (fun acc => some (nI acc)) (fun _ _ => True) ?_ (fun _ _ _ _ => trivial) ?_ n 0 0 FU (by omega) (FU_big (by omega)) trivial
  · exact key.1
  · intro f i acc hi _
    simp (disch := omega) only [f_X12_waysOf_L5, f_X12_waysOf_B5b, hM.1, Nat.not_le.mpr hi, m_le, ↓reduceIte, nI_1, bnd_some, bnd2_some, inn _ i acc hi]
  · intro f acc _
    simp (disch := omega) only [f_X12_waysOf_L5, f_X12_waysOf_B5b, hM.1, Nat.le_refl, m_le, ↓reduceIte, nI_1, bnd_some, bnd2_some]
theorem c_ways (hG : GX w n T iv) (hM : GM w n T iv) (hg : Gp n T iv) (a b : Int32) : ∃ r, f_X11_ways a b w = some r ∧ f_X12_ways a b w = some r := by
  unfold f_X11_ways f_X12_ways
  rcases set_or hG hM hg a with ⟨S, hS, rfl, e1, e2⟩ | ⟨e1, e2⟩
  · have hS6 := le16 hS hg.1.2
    rcases elem_or hG hM hg b with ⟨x, hx, rfl, e3, e4⟩ | ⟨e3, e4⟩
    · rw [e1, e2, e3, e4, if_neg one_ne, if_neg one_ne, if_neg one_ne, if_neg one_ne, x_ways hG hg hS6 hx, y_ways hM hg hS6 hx]; exact ⟨_, rfl, rfl⟩
    · rw [e1, e2, e3, e4]; exact ⟨_, rfl, rfl⟩
  · rw [e1, e2]; exact ⟨_, rfl, rfl⟩
theorem c_energy (hG : GX w n T iv) (hM : GM w n T iv) (hg : Gp n T iv) (a : Int32) : ∃ r, f_X11_energy a w = some r ∧ f_X12_energy a w = some r := by
  have h16 := hg.1.2
  unfold f_X11_energy f_X12_energy
  rcases set_or hG hM hg a with ⟨S, hS, rfl, e1, e2⟩ | ⟨e1, e2⟩
  · have hS6 := le16 hS hg.1.2
    rw [e1, e2, if_neg one_ne, if_neg one_ne]
    have kx := lup (fun f i (acc : Nat) => f_X11_energy_L17 f (nI S) (nI acc) (nI i) w) n (fun x acc => acc + wys n T iv S x * wys n T iv S x) (fun acc => some (nI acc)) (fun _ _ => True) ?_ (fun _ _ _ _ => trivial) ?_ n 0 0 FU (by omega) (FU_big (by omega)) trivial
    have ky := lup (fun f i (acc : Nat) => f_X12_energy_L14 f (nI S) (nI acc) (nI i) w) n (fun x acc => acc + wys n T iv S x * wys n T iv S x) (fun acc => some (nI acc)) (fun _ _ => True) ?_ (fun _ _ _ _ => trivial) ?_ n 0 0 FU (by omega) (FU_big (by omega)) trivial
    · exact ⟨_, kx.1, ky.1⟩
    · intro f i acc hi _
      simp (disch := omega) only [f_X12_energy_L14, f_X12_energy_B14b, hM.1, Nat.not_le.mpr hi, m_le, ↓reduceIte, nI_1, bnd_some, bnd2_some, y_ways hM hg hS6 hi, pk_mul, nI_add]
    · intro f acc _
      simp (disch := omega) only [f_X12_energy_L14, f_X12_energy_B14b, hM.1, Nat.le_refl, m_le, ↓reduceIte, nI_1, bnd_some, bnd2_some]
    · intro f i acc hi _
      simp (disch := omega) only [f_X11_energy_L17, f_X11_energy_B17b, hG.1, Nat.not_le.mpr hi, m_le, ↓reduceIte, nI_1, bnd_some, bnd2_some, x_ways hG hg hS6 hi, pk_mul, nI_add]
    · intro f acc _
      simp (disch := omega) only [f_X11_energy_L17, f_X11_energy_B17b, hG.1, Nat.le_refl, m_le, ↓reduceIte, nI_1, bnd_some, bnd2_some]
  · rw [e1, e2]; exact ⟨_, rfl, rfl⟩
end READ2
