/-! generators, and how elements come about -/
def BFp (n : Nat) (T : Nat → Nat → Nat) (gens : List Nat) (L : Nat) (Q : List Nat) (frm by_ : Nat → Nat) (B : Nat) : Prop := Q.Nodup ∧ (∀ x, x ∈ Q → x < n) ∧ Q[0]? = some 0 ∧ (∀ (j x : Nat), 0 < j → Q[j]? = some x → ∃ (i y g : Nat), i < j ∧ Q[i]? = some y ∧ frm x = y ∧ by_ x ≤ L ∧ gens[by_ x]? = some g ∧ x = T y g) ∧ ∀ x, x ∈ Q ↔ B.testBit x = true
/-- all that Q's first i give, and what its i-th gives by the first lev -/
def BFc (T : Nat → Nat → Nat) (gens Q : List Nat) (i lev : Nat) : Prop := (∀ (i' y l g : Nat), i' < i → Q[i']? = some y → gens[l]? = some g → T y g ∈ Q) ∧ ∀ (y l g : Nat), l < lev → Q[i]? = some y → gens[l]? = some g → T y g ∈ Q
section BASIS
variable {n : Nat} {T : Nat → Nat → Nat} {iv : Nat → Nat} {gens : List Nat} {L : Nat}
theorem BFp_len {Q : List Nat} {frm by_ : Nat → Nat} {B : Nat} (h : BFp n T gens L Q frm by_ B) : Q.length ≤ n := nodup_len h.1 h.2.1
theorem BFp_lt {Q : List Nat} {frm by_ : Nat → Nat} {B : Nat} (h : BFp n T gens L Q frm by_ B) : B < 2 ^ n := lt_two (fun x hx => h.2.1 x ((h.2.2.2.2 x).mpr hx))
theorem BFp_add {Q : List Nat} {frm by_ : Nat → Nat} {B i y lev g : Nat} (h : BFp n T gens L Q frm by_ B) (hy : Q[i]? = some y) (hl : lev ≤ L) (hg : gens[lev]? = some g) (hx : T y g < n) (hb : B.testBit (T y g) = false) : BFp n T gens L (Q ++ [T y g]) (updN frm (T y g) y) (updN by_ (T y g) lev) (B ||| 2 ^ T y g) := by
  obtain ⟨h1, h2, h3, h4, h5⟩ := h
  have hil := (List.getElem?_eq_some_iff.mp hy).1
  have hno : T y g ∉ Q := fun z => by rw [(h5 _).mp z] at hb; cases hb
  refine ⟨?_, fun x hx' => ?_, ?_, fun j x hj hjx => ?_, fun x => ?_⟩
  · rw [List.nodup_append]
    refine ⟨h1, by simp, fun a ha b hb => ?_⟩
    simp only [List.mem_singleton] at hb
    subst hb
    exact fun z => hno (z ▸ ha)
  · rcases List.mem_append.mp hx' with q | q
    · exact h2 x q
    · rw [List.mem_singleton.mp q]; exact hx
  · rw [List.getElem?_append_left (by omega)]; exact h3
  · rcases Nat.lt_trichotomy j Q.length with r | r | r
    · rw [List.getElem?_append_left r] at hjx
      obtain ⟨i', y', g', a1, a2, a3, a4, a5, a6⟩ := h4 j x hj hjx
      have hne : x ≠ T y g := fun z => hno (z ▸ List.mem_of_getElem? hjx)
      refine ⟨i', y', g', a1, by rw [List.getElem?_append_left (by omega)]; exact a2, ?_, ?_, ?_, a6⟩
      · unfold updN; rw [if_neg hne]; exact a3
      · unfold updN; rw [if_neg hne]; exact a4
      · unfold updN; rw [if_neg hne]; exact a5
    · subst r
      rw [List.getElem?_append_right (Nat.le_refl _), Nat.sub_self] at hjx
      have e : T y g = x := Option.some.inj hjx
      refine ⟨i, y, g, hil, by rw [List.getElem?_append_left hil]; exact hy, ?_, ?_, ?_, e.symm⟩
      · unfold updN; rw [if_pos e.symm]
      · unfold updN; rw [if_pos e.symm]; exact hl
      · unfold updN; rw [if_pos e.symm]; exact hg
    · rw [List.getElem?_eq_none (by simp; omega)] at hjx; cases hjx
  · rw [List.mem_append, List.mem_singleton, sb_or, h5]
theorem BFp_enm {Q : List Nat} {frm by_ : Nat → Nat} {B : Nat} (h : BFp n T gens L Q frm by_ B) (hc : BFc T gens Q Q.length 0) : Enm n T gens L Q frm by_ := ⟨h.1, h.2.1, h.2.2.1, h.2.2.2.1, fun y lev g hy _ hg => by
  obtain ⟨j, hj⟩ := List.getElem?_of_mem hy
  exact hc.1 j y lev g (List.getElem?_eq_some_iff.mp hj).1 hj hg⟩
theorem enm_mul (hg : Gp n T iv) {o : List Nat} {frm by_ : Nat → Nat} (he : Enm n T gens L o frm by_) (hgn : ∀ g, g ∈ gens → g < n) {x : Nat} (hx : x ∈ o) : ∀ (j y : Nat), o[j]? = some y → T x y ∈ o := by
  intro j
  induction j using Nat.strongRecOn with
  | ind j ih =>
    intro y hy
    have hxn := he.2.1 x hx
    rcases Nat.eq_zero_or_pos j with z | z
    · subst z
      rw [he.2.2.1] at hy
      rw [← Option.some.inj hy, (hg.2.2.1 x hxn).2]; exact hx
    · obtain ⟨i, y', g, i1, i2, i3, i4, i5, i6⟩ := he.2.2.2.1 j y z hy
      have a1 := ih i i1 y' i2
      have hy'n := he.2.1 y' (List.mem_of_getElem? i2)
      rw [i6, ← hg.2.2.2.1 x y' g hxn hy'n (hgn g (List.mem_of_getElem? i5))]
      exact he.2.2.2.2 _ _ _ a1 i4 i5
def gset (gens : List Nat) : Nat := gens.foldl (fun a g => a ||| 2 ^ g) 0
theorem gset_bit {gens : List Nat} {x : Nat} : (gset gens).testBit x = true ↔ x ∈ gens := by
  unfold gset
  have : ∀ (l : List Nat) a, (l.foldl (fun a g => a ||| 2 ^ g) a).testBit x = true ↔ a.testBit x = true ∨ x ∈ l := by
    intro l
    induction l with
    | nil => intro a; simp
    | cons g l ih =>
      intro a
      rw [List.foldl_cons, ih, sb_or, List.mem_cons, or_assoc]
  rw [this]; simp
theorem enm_span (hg : Gp n T iv) {o : List Nat} {frm by_ : Nat → Nat} {B : Nat} (he : Enm n T gens L o frm by_) (hL : gens.length ≤ L + 1) (hgn : ∀ g, g ∈ gens → g < n) (hB : ∀ x, x ∈ o ↔ B.testBit x = true) : isSpan n T (gset gens) B := by
  refine ⟨lt_two (fun x hx => he.2.1 x ((hB x).mpr hx)), ⟨(hB 0).mp (List.mem_of_getElem? he.2.2.1), fun a b _ _ ha hb => ?_⟩, fun x hx => ?_, fun C hC hcl hs x hx => ?_⟩
  · obtain ⟨j, hj⟩ := List.getElem?_of_mem ((hB b).mpr hb)
    exact (hB _).mp (enm_mul hg he hgn ((hB a).mpr ha) j b hj)
  · have hm := gset_bit.mp hx
    obtain ⟨l, hl⟩ := List.getElem?_of_mem hm
    exact (hB x).mp (enm_gen hg he hgn (by have := (List.getElem?_eq_some_iff.mp hl).1; omega) hl)
  · obtain ⟨j, hj⟩ := List.getElem?_of_mem ((hB x).mpr hx)
    have key : ∀ (j x : Nat), o[j]? = some x → C.testBit x = true := by
      intro j
      induction j using Nat.strongRecOn with
      | ind j ih =>
        intro x hx
        rcases Nat.eq_zero_or_pos j with z | z
        · subst z
          rw [he.2.2.1] at hx
          rw [← Option.some.inj hx]; exact hcl.1
        · obtain ⟨i, y, g, i1, i2, i3, i4, i5, i6⟩ := he.2.2.2.1 j x z hx
          rw [i6]
          exact hcl.2 y g (he.2.1 y (List.mem_of_getElem? i2)) (hgn g (List.mem_of_getElem? i5)) (ih i i1 y i2) (hs g (gset_bit.mpr (List.mem_of_getElem? i5)))
    exact key j x hj
theorem gset_add {gens : List Nat} {e : Nat} : gset (gens ++ [e]) = gset gens ||| 2 ^ e := by unfold gset; rw [List.foldl_append]; rfl
theorem span_add {B B' e : Nat} (h : isSpan n T (gset gens) B) (h' : isSpan n T (B ||| 2 ^ e) B') : isSpan n T (gset (gens ++ [e])) B' := by
  refine ⟨h'.1, h'.2.1, fun x hx => ?_, fun C hC hcl hs x hx => ?_⟩
  · rw [gset_add] at hx
    apply h'.2.2.1
    rcases (sb_or _ _ _).mp hx with q | q
    · exact (sb_or _ _ _).mpr (Or.inl (h.2.2.1 x q))
    · exact (sb_or _ _ _).mpr (Or.inr q)
  · rw [gset_add] at hs
    refine h'.2.2.2 C hC hcl (fun y hy => ?_) x hx
    rcases (sb_or _ _ _).mp hy with q | q
    · exact h.2.2.2 C hC hcl (fun z hz => hs z ((sb_or _ _ _).mpr (Or.inl hz))) y q
    · exact hs y ((sb_or _ _ _).mpr (Or.inr q))
/-- a subgroup holds inverses; with one element more it doubles -/
theorem clo_iv (hg : Gp n T iv) {B x : Nat} (hc : clo n T B) (hx : x < n) (hb : B.testBit x = true) : B.testBit (iv x) = true := by
  obtain ⟨m, m0, mn, hm, -⟩ := ord_ex hg hx
  have hp : ∀ k, B.testBit (pw T x k) = true := by
    intro k
    induction k with
    | zero => exact hc.1
    | succ k ih => exact hc.2 _ _ (pw_lt hg hx k) hx ih hb
  have e : iv x = pw T x (m - 1) := by
    have h1 : T (pw T x (m - 1)) x = 0 := by
      have : pw T x (m - 1 + 1) = T (pw T x (m - 1)) x := rfl
      rw [← this, show m - 1 + 1 = m by omega, hm]
    have hiv := hg.2.2.2.2 x hx
    exact T_canR hg hx hiv.1 (pw_lt hg hx (m - 1)) (hiv.2.2.trans h1.symm)
  rw [e]; exact hp _
theorem clo_dbl (hg : Gp n T iv) {B B' e : Nat} (hB : B < 2 ^ n) (hc : clo n T B) (he : e < n) (hb : B.testBit e = false) (h1 : ∀ x, B.testBit x = true → B'.testBit x = true) (h2 : B'.testBit e = true) (hc' : clo n T B') : 2 * pc B ≤ pc B' := by
  have hmv := pc_mvR hg he hB
  have hsub : ∀ x, (B ||| mv n T e B false).testBit x = true → B'.testBit x = true := fun x hx => by
    rw [Nat.testBit_or, Bool.or_eq_true] at hx
    rcases hx with q | q
    · exact h1 x q
    · obtain ⟨y, hy, h3, h4⟩ := mv_bit.mp q
      rw [← h4]
      exact hc'.2 y e hy he (h1 y h3) h2
  have hdis : ∀ x, B.testBit x = true → (mv n T e B false).testBit x = true → False := fun x q1 q2 => by
    obtain ⟨y, hy, h3, h4⟩ := mv_bit.mp q2
    have h4 : T y e = x := h4
    have hiv := hg.2.2.2.2 y hy
    have e1 : T (iv y) (T y e) = e := by rw [← hg.2.2.2.1 _ _ _ hiv.1 hy he, hiv.2.2, (hg.2.2.1 e he).1]
    have := hc.2 (iv y) (T y e) hiv.1 (hg.2.1 y e hy he) (clo_iv hg hc hy h3) (by rw [h4]; exact q1)
    rw [e1, hb] at this; cases this
  have := pc_dif (S := B) (F := B ||| mv n T e B false) (fun x hx => by rw [Nat.testBit_or, hx]; rfl)
  have e2 : (B ||| mv n T e B false) ^^^ ((B ||| mv n T e B false) &&& B) = mv n T e B false := by
    apply ext_bit
    intro x
    rw [dif_bit, Nat.testBit_or, Bool.or_eq_true]
    constructor
    · rintro ⟨a | a, b⟩
      · rw [a] at b; cases b
      · exact a
    · intro a
      refine ⟨Or.inr a, ?_⟩
      cases q : B.testBit x with
      | false => rfl
      | true => exact (hdis x q a).elim
  rw [e2, hmv] at this
  have h3 := pc_sub hsub
  omega
/-! the class widens -/
def BA (w : Wd) (Q : List Nat) (frm by_ : Nat → Nat) (B : Nat) : Prop := w.1 13 7 = nI Q.length ∧ w.1 13 8 = nI B ∧ ∀ (j x : Nat), Q[j]? = some x → w.1 16 j = nI x ∧ (0 < j → w.1 17 x = nI (frm x) ∧ w.1 18 x = nI (by_ x))
def wiK (w w' : Wd) : Prop := (∀ k, k ≠ 13 → k ≠ 16 → k ≠ 17 → k ≠ 18 → w'.1 k = w.1 k) ∧ w'.1 13 6 = w.1 13 6 ∧ w'.2 = w.2
theorem wiK.rf (w : Wd) : wiK w w := ⟨fun _ _ _ _ _ => rfl, rfl, rfl⟩
theorem wiK.tr {a b c : Wd} (h : wiK a b) (g : wiK b c) : wiK a c := ⟨fun k x y z t => (g.1 k x y z t).trans (h.1 k x y z t), g.2.1.trans h.2.1, g.2.2.trans h.2.2⟩
theorem wiK.gx {w w' : Wd} (h : wiK w w') (hG : GX w n T iv) : GX w' n T iv := GX_cong hG (h.1 6 (by decide) (by decide) (by decide) (by decide)) (h.1 9 (by decide) (by decide) (by decide) (by decide)) (h.1 10 (by decide) (by decide) (by decide) (by decide))
def oldF (Q : List Nat) (f f' : Nat → Nat) : Prop := ∀ x, x ∈ Q → f' x = f x
theorem x_widen (hg : Gp n T iv) {w : Wd} (hG : GX w n T iv) (h6 : w.1 13 6 = nI gens.length) (hgs : ∀ (l g : Nat), gens[l]? = some g → w.1 14 l = nI g) (hgn : ∀ g, g ∈ gens → g < n) (hl4 : gens.length ≤ 4) (hL : L + 1 = gens.length) {Q : List Nat} {frm by_ : Nat → Nat} {B : Nat} (hA : BA w Q frm by_ B) (hP : BFp n T gens L Q frm by_ B) :
    ∃ w' Q' frm' by' B', f_X1_widen w = some w' ∧ BA w' Q' frm' by' B' ∧ BFp n T gens L Q' frm' by' B' ∧ BFc T gens Q' Q'.length 0 ∧ pfx Q Q' ∧ oldF Q frm frm' ∧ oldF Q by_ by' ∧ wiK w w' := by
  have h16 := hg.1.2
  -- one element, all generators
  have inn : ∀ i w1 Q1 f1 b1 B1, BA w1 Q1 f1 b1 B1 → BFp n T gens L Q1 f1 b1 B1 → BFc T gens Q1 i 0 → wiK w w1 → i < Q1.length → ∃ w' Q' f' b' B', (∀ k2 : Int32 → Wd → Option Wd, f_X1_widen_L18 k2 FU (nI i) (nI 0) w1 = k2 (nI (i + 1)) w') ∧ BA w' Q' f' b' B' ∧ BFp n T gens L Q' f' b' B' ∧ BFc T gens Q' (i + 1) 0 ∧ pfx Q1 Q' ∧ oldF Q1 f1 f' ∧ oldF Q1 b1 b' ∧ wiK w w' := by
    intro i w1 Q1 f1 b1 B1 a1 a2 a3 a4 hi
    have key := lrunK (fun (k2 : Int32 → Wd → Option Wd) f l (s : Wd × List Nat × (Nat → Nat) × (Nat → Nat) × Nat) => f_X1_widen_L18 k2 f (nI i) (nI l) s.1) gens.length (fun k2 s => k2 (nI (i + 1)) s.1) (fun l s => BA s.1 s.2.1 s.2.2.1 s.2.2.2.1 s.2.2.2.2 ∧ BFp n T gens L s.2.1 s.2.2.1 s.2.2.2.1 s.2.2.2.2 ∧ BFc T gens s.2.1 i l ∧ pfx Q1 s.2.1 ∧ oldF Q1 f1 s.2.2.1 ∧ oldF Q1 b1 s.2.2.2.1 ∧ wiK w s.1) ?_ ?_ gens.length 0 (w1, Q1, f1, b1, B1) FU (by omega) (FU_big (by omega)) ⟨a1, a2, a3, fun _ _ z => z, fun _ _ => rfl, fun _ _ => rfl, a4⟩
    · obtain ⟨⟨w', Q', f', b', B'⟩, ⟨c1, c2, c3, c4, c5, c6, c7⟩, c8⟩ := key
      dsimp only at c1 c2 c3 c4 c5 c6 c7
      refine ⟨w', Q', f', b', B', c8, c1, c2, ⟨fun i' y l g hi' hy hgl => ?_, fun y l g h => by omega⟩, c4, c5, c6, c7⟩
      by_cases q : i' = i
      · subst q; exact c3.2 y l g (List.getElem?_eq_some_iff.mp hgl).1 hy hgl
      · exact c3.1 i' y l g (by omega) hy hgl
    · rintro l ⟨w2, Q2, f2, b2, B2⟩ hl ⟨c1, c2, c3, c4, c5, c6, c7⟩
      dsimp only at c1 c2 c3 c4 c5 c6 c7
      have hgl := List.getElem?_eq_getElem hl
      obtain ⟨g, hgd⟩ : ∃ g, g = gens[l] := ⟨_, rfl⟩
      rw [← hgd] at hgl
      have hgn' := hgn g (List.mem_of_getElem? hgl)
      have hQ1i := List.getElem?_eq_getElem hi
      obtain ⟨y, hyd⟩ : ∃ y, y = Q1[i] := ⟨_, rfl⟩
      rw [← hyd] at hQ1i
      have hQ2i := c4 i y hQ1i
      have hyn := c2.2.1 y (List.mem_of_getElem? hQ2i)
      have hTn := hg.2.1 y g hyn hgn'
      have hQl := BFp_len c2
      have hBl := lt31 (le16 (BFp_lt c2) h16)
      have hG2 := c7.gx hG
      have e14 : w2.1 14 l = nI g := by rw [c7.1 14 (by decide) (by decide) (by decide) (by decide)]; exact hgs l g hgl
      have e16 : w2.1 16 i = nI y := (c1.2.2 i y hQ2i).1
      have hi2 := (List.getElem?_eq_some_iff.mp hQ2i).1
      have e6 : w2.1 13 6 = nI gens.length := by rw [c7.2.1]; exact h6
      obtain ⟨x, hxd⟩ : ∃ x, x = T y g := ⟨_, rfl⟩
      have step : BFc T gens Q2 i l → ∀ Q3, pfx Q2 Q3 → x ∈ Q3 → BFc T gens Q3 i (l + 1) := fun h Q3 hp hx => by
        refine ⟨fun i' y' l' g' hi' hy' hg' => ?_, fun y' l' g' hl' hy' hg' => ?_⟩
        · have hlt : i' < Q2.length := by omega
          have e : Q2[i']? = some y' := by
            have h1 := hp i' _ (List.getElem?_eq_getElem hlt)
            rw [hy'] at h1
            rw [List.getElem?_eq_getElem hlt, Option.some.inj h1]
          exact pfx_mem hp (h.1 i' y' l' g' hi' e hg')
        · have e : y' = y := by
            have h1 := hp i y hQ2i
            rw [hy'] at h1; exact Option.some.inj h1
          subst e
          by_cases q : l' = l
          · subst q
            rw [hgl] at hg'
            rw [← Option.some.inj hg', ← hxd]; exact hx
          · exact pfx_mem hp (h.2 y' l' g' (by omega) hQ2i hg')
      cases hbt : B2.testBit x with
      | true =>
        refine ⟨(w2, Q2, f2, b2, B2), ⟨c1, c2, step c3 Q2 (fun _ _ z => z) ((c2.2.2.2.2 x).mpr hbt), c4, c5, c6, c7⟩, fun k2 f => ?_⟩
        show f_X1_widen_B18b k2 (f_X1_widen_L18 k2 f) (nI i) (nI l) w2 = _
        unfold f_X1_widen_B18b
        rw [e6, if_neg (nI_ge hl (by omega)), m_rd (by omega) (by decide), e16, m_rd (by omega) (by decide), e14, x_times hG2 hg hyn hgn', bnd_some, ← hxd, c1.2.1, if_neg (by rw [x_bit0 hBl (by omega), hbt]; decide), nI_1]
      | false =>
        have hxn : x < n := by rw [hxd]; exact hTn
        have hP3 := BFp_add c2 hQ2i (show l ≤ L by omega) hgl hTn (by rw [← hxd]; exact hbt)
        rw [← hxd] at hP3
        have hQ3 := BFp_len hP3
        rw [List.length_append, List.length_singleton] at hQ3
        have hxQ : x ∉ Q2 := fun z => by rw [(c2.2.2.2.2 x).mp z] at hbt; cases hbt
        have hpf : pfx Q2 (Q2 ++ [x]) := fun j z hz => by rw [List.getElem?_append_left (List.getElem?_eq_some_iff.mp hz).1]; exact hz
        obtain ⟨w3, hw3⟩ : ∃ w3, w3 = sI (sI (sI (sI (sI w2 13 8 (nI (B2 ||| 2 ^ x))) 13 7 (nI (Q2.length + 1))) 16 Q2.length (nI x)) 17 x (nI y)) 18 x (nI l) := ⟨_, rfl⟩
        have v16 : ∀ j, w3.1 16 j = if j = Q2.length then nI x else w2.1 16 j := fun j => by
          rw [hw3, sI_at, if_neg (by rintro ⟨h, -⟩; revert h; decide), sI_at, if_neg (by rintro ⟨h, -⟩; revert h; decide), sI_at]
          by_cases q : j = Q2.length
          · subst q; simp
          · rw [if_neg (fun z => q z.2), if_neg q, sI_at, if_neg (by rintro ⟨h, -⟩; revert h; decide), sI_at, if_neg (by rintro ⟨h, -⟩; revert h; decide)]
        have v17 : ∀ j, w3.1 17 j = if j = x then nI y else w2.1 17 j := fun j => by
          rw [hw3, sI_at, if_neg (by rintro ⟨h, -⟩; revert h; decide), sI_at]
          by_cases q : j = x
          · subst q; simp
          · rw [if_neg (fun z => q z.2), if_neg q, sI_at, if_neg (by rintro ⟨h, -⟩; revert h; decide), sI_at, if_neg (by rintro ⟨h, -⟩; revert h; decide), sI_at, if_neg (by rintro ⟨h, -⟩; revert h; decide)]
        have v18 : ∀ j, w3.1 18 j = if j = x then nI l else w2.1 18 j := fun j => by
          rw [hw3, sI_at]
          by_cases q : j = x
          · subst q; simp
          · rw [if_neg (fun z => q z.2), if_neg q, sI_at, if_neg (by rintro ⟨h, -⟩; revert h; decide), sI_at, if_neg (by rintro ⟨h, -⟩; revert h; decide), sI_at, if_neg (by rintro ⟨h, -⟩; revert h; decide), sI_at, if_neg (by rintro ⟨h, -⟩; revert h; decide)]
        have v13 : ∀ j, w3.1 13 j = if j = 7 then nI (Q2.length + 1) else if j = 8 then nI (B2 ||| 2 ^ x) else w2.1 13 j := fun j => by
          rw [hw3, sI_at, if_neg (by rintro ⟨h, -⟩; revert h; decide), sI_at, if_neg (by rintro ⟨h, -⟩; revert h; decide), sI_at, if_neg (by rintro ⟨h, -⟩; revert h; decide), sI_at, sI_at]
          simp only [true_and]
        have k3 : wiK w2 w3 := ⟨fun k x1 x2 x3 x4 => by rw [hw3]; funext j; rw [sI_at, sI_at, sI_at, sI_at, sI_at]; simp [x1, x2, x3, x4], by rw [v13, if_neg (by decide), if_neg (by decide)], by rw [hw3]; rfl⟩
        refine ⟨(w3, Q2 ++ [x], updN f2 x y, updN b2 x l, B2 ||| 2 ^ x), ⟨⟨?_, ?_, fun j z hz => ?_⟩, hP3, step c3 _ hpf (by simp), fun j z hz => hpf j z (c4 j z hz), fun z hz => ?_, fun z hz => ?_, c7.tr k3⟩, fun k2 f => ?_⟩
        · dsimp only; rw [v13, if_pos rfl, List.length_append, List.length_singleton]
        · dsimp only; rw [v13, if_neg (by decide), if_pos rfl]
        · dsimp only at hz ⊢
          rcases Nat.lt_trichotomy j Q2.length with r | r | r
          · rw [List.getElem?_append_left r] at hz
            have hne : z ≠ x := fun q => hxQ (q ▸ List.mem_of_getElem? hz)
            rw [v16, if_neg (by omega), v17, v18, if_neg hne, if_neg hne]
            unfold updN
            rw [if_neg hne, if_neg hne]
            exact c1.2.2 j z hz
          · subst r
            rw [List.getElem?_append_right (Nat.le_refl _), Nat.sub_self] at hz
            have e : x = z := Option.some.inj hz
            subst e
            rw [v16, if_pos rfl, v17, if_pos rfl, v18, if_pos rfl]
            unfold updN
            rw [if_pos rfl, if_pos rfl]
            exact ⟨rfl, fun _ => ⟨rfl, rfl⟩⟩
          · rw [List.getElem?_eq_none (by simp; omega)] at hz; cases hz
        · dsimp only
          unfold updN
          rw [if_neg (fun (q : z = x) => hxQ (by rw [← q]; exact pfx_mem c4 hz))]; exact c5 z hz
        · dsimp only
          unfold updN
          rw [if_neg (fun (q : z = x) => hxQ (by rw [← q]; exact pfx_mem c4 hz))]; exact c6 z hz
        · show f_X1_widen_B18b k2 (f_X1_widen_L18 k2 f) (nI i) (nI l) w2 = _
          unfold f_X1_widen_B18b
          rw [e6, if_neg (nI_ge hl (by omega)), m_rd (by omega) (by decide), e16, m_rd (by omega) (by decide), e14, x_times hG2 hg hyn hgn', bnd_some, ← hxd, c1.2.1, if_pos ((x_bit0 hBl (by omega)).mpr hbt), c1.1, if_neg (show ¬ (16 : Int32) ≤ nI Q2.length from nI_ge (b := 16) (by omega) (by decide)), m_letW, m_letW, m_shl1 (by omega), m_or]
          have z1 : (sI w2 13 8 (nI (B2 ||| 2 ^ x))).1 13 7 = nI Q2.length := by rw [sI_at, if_neg (by rintro ⟨-, h⟩; revert h; decide)]; exact c1.1
          have z2 : (sI (sI (sI w2 13 8 (nI (B2 ||| 2 ^ x))) 13 7 (nI (Q2.length + 1))) 16 Q2.length (nI x)).1 16 i = nI y := by rw [sI_at, if_neg (fun z => by omega), sI_at, if_neg (by rintro ⟨h, -⟩; revert h; decide), sI_at, if_neg (by rintro ⟨h, -⟩; revert h; decide)]; exact e16
          rw [z1, nI_1, m_wr (by omega) (by decide), m_rd (by omega) (by decide), z2, m_wr (by omega) (by decide), m_wr (by omega) (by decide), nI_1, ← hw3]
    · rintro k2 f ⟨w2, Q2, f2, b2, B2⟩ ⟨c1, c2, c3, c4, c5, c6, c7⟩
      dsimp only at c7
      show f_X1_widen_B18b k2 (f_X1_widen_L18 k2 f) (nI i) (nI gens.length) w2 = _
      unfold f_X1_widen_B18b
      rw [c7.2.1, h6, if_pos (nI_le (Nat.le_refl _) (by omega)), nI_1]
  have loop : ∀ d i w1 Q1 f1 b1 B1 f, 16 - i ≤ d → d < f → i ≤ Q1.length → BA w1 Q1 f1 b1 B1 → BFp n T gens L Q1 f1 b1 B1 → BFc T gens Q1 i 0 → pfx Q Q1 → oldF Q frm f1 → oldF Q by_ b1 → wiK w w1 → ∃ w' Q' frm' by' B', f_X1_widen_L2 f (nI i) w1 = some w' ∧ BA w' Q' frm' by' B' ∧ BFp n T gens L Q' frm' by' B' ∧ BFc T gens Q' Q'.length 0 ∧ pfx Q Q' ∧ oldF Q frm frm' ∧ oldF Q by_ by' ∧ wiK w w' := by
    intro d
    induction d with
    | zero =>
      intro i w1 Q1 f1 b1 B1 f hd hf hi a1 a2 a3 a4 a5 a6 a7
      obtain ⟨f, rfl⟩ : ∃ q, f = q + 1 := ⟨f - 1, by omega⟩
      have hQl := BFp_len a2
      have e : i = Q1.length := by omega
      refine ⟨w1, Q1, f1, b1, B1, ?_, a1, a2, by rw [← e]; exact a3, a4, a5, a6, a7⟩
      show f_X1_widen_B2b (f_X1_widen_L2 f) (nI i) w1 = _
      unfold f_X1_widen_B2b
      rw [a1.1, if_pos (nI_le (by omega) (by omega))]
    | succ d ih =>
      intro i w1 Q1 f1 b1 B1 f hd hf hi a1 a2 a3 a4 a5 a6 a7
      obtain ⟨f, rfl⟩ : ∃ q, f = q + 1 := ⟨f - 1, by omega⟩
      have hQl := BFp_len a2
      have eL : ∀ x, f_X1_widen_B2b (f_X1_widen_L2 f) (nI i) w1 = x → f_X1_widen_L2 (f + 1) (nI i) w1 = x := fun x h => h
      by_cases c : i = Q1.length
      · refine ⟨w1, Q1, f1, b1, B1, eL _ ?_, a1, a2, by rw [← c]; exact a3, a4, a5, a6, a7⟩
        unfold f_X1_widen_B2b
        rw [a1.1, if_pos (nI_le (by omega) (by omega))]
      · have hlt : i < Q1.length := by omega
        obtain ⟨w2, Q2, f2, b2, B2, c1, c2, c3, c4, c5, c6, c7, c8⟩ := inn i w1 Q1 f1 b1 B1 a1 a2 a3 a7 hlt
        have hi2 : i + 1 ≤ Q2.length := by
          have := c5 i _ (List.getElem?_eq_getElem hlt)
          have := (List.getElem?_eq_some_iff.mp this).1
          omega
        obtain ⟨w', Q', f', b', B', g1, g2⟩ := ih (i + 1) w2 Q2 f2 b2 B2 f (by omega) (by omega) hi2 c2 c3 c4 (fun j z hz => c5 j z (a4 j z hz)) (fun x hx => (c6 x (pfx_mem a4 hx)).trans (a5 x hx)) (fun x hx => (c7 x (pfx_mem a4 hx)).trans (a6 x hx)) c8
        refine ⟨w', Q', f', b', B', eL _ ?_, g2⟩
        unfold f_X1_widen_B2b
        rw [a1.1, if_neg (nI_ge hlt (by omega)), if_neg (show ¬ (16 : Int32) ≤ nI i from nI_ge (b := 16) (by omega) (by decide))]
        exact (c1 (f_X1_widen_L2 f)).trans g1
  exact loop 16 0 w Q frm by_ B FU (by omega) (FU_big (by decide)) (by omega) hA hP ⟨fun i' y l g h => by omega, fun y l g h => by omega⟩ (fun _ _ z => z) (fun _ _ => rfl) (fun _ _ => rfl) (wiK.rf w)
end BASIS
