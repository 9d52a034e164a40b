/-! ways to send a group: pure words -/
def Mon (q : Nat) (J : Nat → Nat → Nat) : Prop := 0 < q ∧ (∀ a b, a < q → b < q → J a b < q) ∧ (∀ a b c, a < q → b < q → c < q → J (J a b) c = J a (J b c)) ∧ ∀ a, a < q → J a 0 = a ∧ J 0 a = a
def adm (m a b : Nat) : Nat := (a + b) % m
theorem Mon_add {m : Nat} (hm : 0 < m) : Mon m (adm m) := by
  refine ⟨hm, fun a b _ _ => Nat.mod_lt _ hm, fun a b c _ _ _ => ?_, fun a ha => ?_⟩
  · unfold adm; rw [Nat.mod_add_mod, Nat.add_mod_mod, Nat.add_assoc]
  · unfold adm; rw [Nat.add_zero, Nat.zero_add, Nat.mod_eq_of_lt ha]; exact ⟨rfl, rfl⟩
def Enm (n : Nat) (T : Nat → Nat → Nat) (gens : List Nat) (L : Nat) (o : List Nat) (frm by_ : Nat → Nat) : Prop :=
  o.Nodup ∧ (∀ x, x ∈ o → x < n) ∧ o[0]? = some 0 ∧ (∀ (j x : Nat), 0 < j → o[j]? = some x → ∃ (i y g : Nat), i < j ∧ o[i]? = some y ∧ frm x = y ∧ by_ x ≤ L ∧ gens[by_ x]? = some g ∧ x = T y g) ∧ ∀ (y lev g : Nat), y ∈ o → lev ≤ L → gens[lev]? = some g → T y g ∈ o
def WK (o : List Nat) (J : Nat → Nat → Nat) (frm by_ gl s : Nat → Nat) : Prop := s 0 = 0 ∧ ∀ (j x : Nat), 0 < j → o[j]? = some x → s x = J (s (frm x)) (gl (by_ x))
def fitC (T : Nat → Nat → Nat) (gens : List Nat) (L : Nat) (o : List Nat) (J : Nat → Nat → Nat) (gl s : Nat → Nat) : Prop := ∀ (y lev g : Nat), y ∈ o → lev ≤ L → gens[lev]? = some g → s (T y g) = J (s y) (gl lev)
theorem nd_ne {o : List Nat} (h : o.Nodup) {i j x y : Nat} (hi : o[i]? = some x) (hj : o[j]? = some y) (hn : i ≠ j) : x ≠ y := by
  intro e
  subst e
  obtain ⟨a1, a2⟩ := List.getElem?_eq_some_iff.mp hi
  obtain ⟨b1, b2⟩ := List.getElem?_eq_some_iff.mp hj
  exact hn ((List.getElem_inj h).mp (a2.trans b2.symm))
section SEND
variable {n : Nat} {T : Nat → Nat → Nat} {iv : Nat → Nat} {gens o : List Nat} {L q : Nat} {frm by_ gl s : Nat → Nat} {J : Nat → Nat → Nat}
theorem Mon_T (hg : Gp n T iv) : Mon n T := ⟨hg.1.1, hg.2.1, hg.2.2.2.1, fun a ha => ⟨(hg.2.2.1 a ha).2, (hg.2.2.1 a ha).1⟩⟩
theorem walk_ex (he : Enm n T gens L o frm by_) (J : Nat → Nat → Nat) (gl : Nat → Nat) : ∃ s, WK o J frm by_ gl s := by
  obtain ⟨h1, h2, h3, h4, h5⟩ := he
  have key : ∀ k, k ≤ o.length → ∃ s : Nat → Nat, s 0 = 0 ∧ ∀ (j x : Nat), 0 < j → j < k → o[j]? = some x → s x = J (s (frm x)) (gl (by_ x)) := by
    intro k
    induction k with
    | zero => intro _; exact ⟨fun _ => 0, rfl, fun j x _ h => by omega⟩
    | succ k ih =>
      intro hk
      obtain ⟨s, s0, s1⟩ := ih (by omega)
      rcases Nat.eq_zero_or_pos k with z | z
      · subst z; exact ⟨s, s0, fun j x a b => by omega⟩
      · have ek := List.getElem?_eq_getElem (show k < o.length by omega)
        refine ⟨updN s o[k] (J (s (frm o[k])) (gl (by_ o[k]))), ?_, fun j x a b hx => ?_⟩
        · unfold updN
          rw [if_neg (nd_ne h1 h3 ek (by omega))]; exact s0
        · obtain ⟨i, y, g, i1, i2, i3, -⟩ := h4 j x a hx
          unfold updN
          by_cases c : j = k
          · subst c
            rw [hx] at ek
            have := Option.some.inj ek
            rw [if_pos this, ← this, i3, if_neg (nd_ne h1 i2 hx (by omega))]
          · rw [if_neg (nd_ne h1 hx ek c), i3, if_neg (nd_ne h1 i2 ek (by omega)), s1 j x a (by omega) hx, i3]
  obtain ⟨s, s0, s1⟩ := key o.length (Nat.le_refl _)
  exact ⟨s, s0, fun j x a hx => s1 j x a (List.getElem?_eq_some_iff.mp hx).1 hx⟩
theorem walk_lt (he : Enm n T gens L o frm by_) (hm : Mon q J) (hgl : ∀ l, l ≤ L → gl l < q) (hs : WK o J frm by_ gl s) : ∀ (j x : Nat), o[j]? = some x → s x < q := by
  intro j
  induction j using Nat.strongRecOn with
  | ind j ih =>
    intro x hx
    rcases Nat.eq_zero_or_pos j with z | z
    · subst z
      rw [he.2.2.1] at hx
      rw [← Option.some.inj hx, hs.1]; exact hm.1
    · obtain ⟨i, y, g, i1, i2, i3, i4, -⟩ := he.2.2.2.1 j x z hx
      rw [hs.2 j x z hx, i3]
      exact hm.2.1 _ _ (ih i i1 y i2) (hgl _ i4)
theorem walk_mem_lt (he : Enm n T gens L o frm by_) (hm : Mon q J) (hgl : ∀ l, l ≤ L → gl l < q) (hs : WK o J frm by_ gl s) {x : Nat} (hx : x ∈ o) : s x < q := by
  obtain ⟨j, hj⟩ := List.getElem?_of_mem hx
  exact walk_lt he hm hgl hs j x hj
theorem enm_gen (hg : Gp n T iv) (he : Enm n T gens L o frm by_) (hgn : ∀ g, g ∈ gens → g < n) {lev g : Nat} (h1 : lev ≤ L) (h2 : gens[lev]? = some g) : g ∈ o := by
  have := he.2.2.2.2 0 lev g (List.mem_of_getElem? he.2.2.1) h1 h2
  rw [(hg.2.2.1 g (hgn g (List.mem_of_getElem? h2))).1] at this
  exact this
theorem walk_hom (hg : Gp n T iv) (he : Enm n T gens L o frm by_) (hgn : ∀ g, g ∈ gens → g < n) (hm : Mon q J) (hgl : ∀ l, l ≤ L → gl l < q) (hs : WK o J frm by_ gl s) (hf : fitC T gens L o J gl s) : ∀ x, x ∈ o → ∀ (j y : Nat), o[j]? = some y → T x y ∈ o ∧ s (T x y) = J (s x) (s y) := by
  intro x hx j
  induction j using Nat.strongRecOn with
  | ind j ih =>
    intro y hy
    have hxn := he.2.1 x hx
    rcases Nat.eq_zero_or_pos j with z | z
    · subst z
      rw [he.2.2.1] at hy
      rw [← Option.some.inj hy, (hg.2.2.1 x hxn).2, hs.1, (hm.2.2.2 _ (walk_mem_lt he hm hgl hs hx)).1]
      exact ⟨hx, rfl⟩
    · obtain ⟨i, y', g, i1, i2, i3, i4, i5, i6⟩ := he.2.2.2.1 j y z hy
      obtain ⟨a1, a2⟩ := ih i i1 y' i2
      have hy'o := List.mem_of_getElem? i2
      have hy'n := he.2.1 y' hy'o
      have hgn' := hgn g (List.mem_of_getElem? i5)
      have e : T x y = T (T x y') g := by rw [i6, hg.2.2.2.1 x y' g hxn hy'n hgn']
      rw [e]
      refine ⟨he.2.2.2.2 _ _ _ a1 i4 i5, ?_⟩
      rw [hf _ _ _ a1 i4 i5, a2, hm.2.2.1 _ _ _ (walk_mem_lt he hm hgl hs hx) (walk_mem_lt he hm hgl hs hy'o) (hgl _ i4), hs.2 j y z hy, i3]
theorem walk_hom' (hg : Gp n T iv) (he : Enm n T gens L o frm by_) (hgn : ∀ g, g ∈ gens → g < n) (hm : Mon q J) (hgl : ∀ l, l ≤ L → gl l < q) (hs : WK o J frm by_ gl s) (hf : fitC T gens L o J gl s) {x y : Nat} (hx : x ∈ o) (hy : y ∈ o) : T x y ∈ o ∧ s (T x y) = J (s x) (s y) := by
  obtain ⟨j, hj⟩ := List.getElem?_of_mem hy
  exact walk_hom hg he hgn hm hgl hs hf x hx j y hj
theorem walk_gen (hg : Gp n T iv) (he : Enm n T gens L o frm by_) (hgn : ∀ g, g ∈ gens → g < n) (hm : Mon q J) (hgl : ∀ l, l ≤ L → gl l < q) (hs : WK o J frm by_ gl s) (hf : fitC T gens L o J gl s) {lev g : Nat} (h1 : lev ≤ L) (h2 : gens[lev]? = some g) : s g = gl lev := by
  have := hf 0 lev g (List.mem_of_getElem? he.2.2.1) h1 h2
  rw [(hg.2.2.1 g (hgn g (List.mem_of_getElem? h2))).1, hs.1, (hm.2.2.2 _ (hgl _ h1)).2] at this
  exact this
/-- whoever sends products to joins, and the generators so, is the walk -/
theorem walk_eq (hg : Gp n T iv) (he : Enm n T gens L o frm by_) (hgn : ∀ g, g ∈ gens → g < n) (hs : WK o J frm by_ gl s) {φ : Nat → Nat} (p0 : φ 0 = 0) (p1 : ∀ x y, x ∈ o → y ∈ o → φ (T x y) = J (φ x) (φ y)) (p2 : ∀ (lev g : Nat), lev ≤ L → gens[lev]? = some g → φ g = gl lev) : ∀ (j x : Nat), o[j]? = some x → φ x = s x := by
  intro j
  induction j using Nat.strongRecOn with
  | ind j ih =>
    intro x hx
    rcases Nat.eq_zero_or_pos j with z | z
    · subst z
      rw [he.2.2.1] at hx
      rw [← Option.some.inj hx, hs.1, p0]
    · obtain ⟨i, y, g, i1, i2, i3, i4, i5, i6⟩ := he.2.2.2.1 j x z hx
      rw [hs.2 j x z hx, i3, ← ih i i1 y i2]
      conv => lhs; rw [i6]
      rw [p1 y g (List.mem_of_getElem? i2) (enm_gen hg he hgn i4 i5), p2 _ _ i4 i5]
theorem walk_eq' (hg : Gp n T iv) (he : Enm n T gens L o frm by_) (hgn : ∀ g, g ∈ gens → g < n) (hs : WK o J frm by_ gl s) {φ : Nat → Nat} (p0 : φ 0 = 0) (p1 : ∀ x y, x ∈ o → y ∈ o → φ (T x y) = J (φ x) (φ y)) (p2 : ∀ (lev g : Nat), lev ≤ L → gens[lev]? = some g → φ g = gl lev) : fitC T gens L o J gl s ∧ ∀ x, x ∈ o → φ x = s x := by
  have h : ∀ x, x ∈ o → φ x = s x := fun x hx => by
    obtain ⟨j, hj⟩ := List.getElem?_of_mem hx
    exact walk_eq hg he hgn hs p0 p1 p2 j x hj
  refine ⟨fun y lev g hy hl hgl => ?_, h⟩
  rw [← h _ (he.2.2.2.2 y lev g hy hl hgl), p1 y g hy (enm_gen hg he hgn hl hgl), h y hy, p2 lev g hl hgl]
/-! turns -/
def AUT (n : Nat) (T : Nat → Nat → Nat) (φ : Nat → Nat) : Prop := (∀ x, x < n → φ x < n) ∧ (∀ x y, x < n → y < n → φ (T x y) = T (φ x) (φ y)) ∧ ∀ x y, x < n → y < n → φ x = φ y → x = y
theorem aut_zero (hg : Gp n T iv) {φ : Nat → Nat} (h : AUT n T φ) : φ 0 = 0 := by
  have h0 := hg.1.1
  have h1 := h.2.1 0 0 h0 h0
  rw [(hg.2.2.1 0 h0).1] at h1
  have hp := h.1 0 h0
  exact (T_canL hg hp h0 hp ((hg.2.2.1 _ hp).2.trans h1)).symm
theorem aut_id : AUT n T (fun x => x) := ⟨fun _ h => h, fun _ _ _ _ => rfl, fun _ _ _ _ h => h⟩
theorem aut_comp {φ ψ : Nat → Nat} (h : AUT n T φ) (g : AUT n T ψ) : AUT n T (fun x => ψ (φ x)) := ⟨fun x hx => g.1 _ (h.1 x hx), fun x y hx hy => by show ψ (φ (T x y)) = T (ψ (φ x)) (ψ (φ y)); rw [h.2.1 x y hx hy, g.2.1 _ _ (h.1 x hx) (h.1 y hy)], fun x y hx hy e => h.2.2 x y hx hy (g.2.2 _ _ (h.1 x hx) (h.1 y hy) e)⟩
theorem nodup_sub {α : Type} [DecidableEq α] : ∀ (l1 l2 : List α), l1.Nodup → (∀ x, x ∈ l1 → x ∈ l2) → l1.length ≤ l2.length := by
  intro l1
  induction l1 with
  | nil => intro l2 _ _; simp
  | cons a t ih =>
    intro l2 h hs
    rw [List.nodup_cons] at h
    have ha := hs a List.mem_cons_self
    have := ih (l2.erase a) h.2 (fun x hx => by
      have hne : x ≠ a := fun e => h.1 (e ▸ hx)
      exact (List.mem_erase_of_ne hne).mpr (hs x (List.mem_cons_of_mem _ hx)))
    rw [List.length_erase_of_mem ha] at this
    have hp := List.length_pos_of_mem ha
    rw [List.length_cons]; omega
theorem nodup_map {α β : Type} {f : α → β} : ∀ {l : List α}, l.Nodup → (∀ x y, x ∈ l → y ∈ l → f x = f y → x = y) → (l.map f).Nodup := by
  intro l
  induction l with
  | nil => intro _ _; exact List.nodup_nil
  | cons a t ih =>
    intro h hf
    rw [List.nodup_cons] at h
    rw [List.map_cons, List.nodup_cons]
    refine ⟨fun hm => ?_, ih h.2 (fun x y hx hy => hf x y (List.mem_cons_of_mem _ hx) (List.mem_cons_of_mem _ hy))⟩
    obtain ⟨b, hb, e⟩ := List.mem_map.mp hm
    have := hf b a (List.mem_cons_of_mem _ hb) List.mem_cons_self e
    exact h.1 (this ▸ hb)
theorem aut_surj {φ : Nat → Nat} (h : AUT n T φ) : ∀ y, y < n → ∃ x, x < n ∧ φ x = y := by
  intro y hy
  apply Classical.byContradiction
  intro hn
  have hnd : ((List.range n).map φ).Nodup := nodup_map List.nodup_range (fun a b ha hb => h.2.2 a b (List.mem_range.mp ha) (List.mem_range.mp hb))
  have := nodup_sub ((List.range n).map φ) ((List.range n).erase y) hnd (fun x hx => by
    obtain ⟨a, ha, rfl⟩ := List.mem_map.mp hx
    have ha := List.mem_range.mp ha
    exact (List.mem_erase_of_ne (fun e => hn ⟨a, ha, e⟩)).mpr (List.mem_range.mpr (h.1 a ha)))
  rw [List.length_erase_of_mem (List.mem_range.mpr hy), List.length_map, List.length_range] at this
  omega
theorem aut_inv (hg : Gp n T iv) {φ : Nat → Nat} (h : AUT n T φ) : ∃ ψ, AUT n T ψ ∧ (∀ x, x < n → ψ (φ x) = x) ∧ ∀ y, y < n → φ (ψ y) = y := by
  obtain ⟨ψ, hψ⟩ : ∃ ψ : Nat → Nat, ∀ y, y < n → ψ y < n ∧ φ (ψ y) = y := by
    have : ∀ y, ∃ x, y < n → x < n ∧ φ x = y := fun y => by
      by_cases c : y < n
      · obtain ⟨x, h1, h2⟩ := aut_surj h y c
        exact ⟨x, fun _ => ⟨h1, h2⟩⟩
      · exact ⟨0, fun q => absurd q c⟩
    exact ⟨fun y => Classical.choose (this y), fun y => Classical.choose_spec (this y)⟩
  have back : ∀ x, x < n → ψ (φ x) = x := fun x hx => h.2.2 _ _ (hψ _ (h.1 x hx)).1 hx (hψ _ (h.1 x hx)).2
  refine ⟨ψ, ⟨fun x hx => (hψ x hx).1, fun x y hx hy => ?_, fun x y hx hy e => ?_⟩, back, fun y hy => (hψ y hy).2⟩
  · have hx' := hψ x hx
    have hy' := hψ y hy
    have e := h.2.1 (ψ x) (ψ y) hx'.1 hy'.1
    rw [hx'.2, hy'.2] at e
    rw [← e, back _ (hg.2.1 _ _ hx'.1 hy'.1)]
  · rw [← (hψ x hx).2, ← (hψ y hy).2, e]
/-! rows of numbers, in their order -/
def allV (m : Nat) : Nat → List (List Nat)
  | 0 => [[]]
  | r + 1 => (List.range m).flatMap (fun a => (allV m r).map (fun s => a :: s))
theorem allV_mem {m : Nat} : ∀ {r : Nat} {s : List Nat}, s ∈ allV m r ↔ s.length = r ∧ ∀ x, x ∈ s → x < m := by
  intro r
  induction r with
  | zero =>
    intro s
    simp only [allV, List.mem_singleton]
    constructor
    · rintro rfl; simp
    · rintro ⟨h, -⟩; exact List.length_eq_zero_iff.mp h
  | succ r ih =>
    intro s
    simp only [allV, List.mem_flatMap, List.mem_map, List.mem_range]
    constructor
    · rintro ⟨a, ha, t, ht, rfl⟩
      have := ih.mp ht
      refine ⟨by simp [this.1], fun x hx => ?_⟩
      rcases List.mem_cons.mp hx with rfl | hx
      · exact ha
      · exact this.2 x hx
    · rintro ⟨h1, h2⟩
      cases s with
      | nil => simp at h1
      | cons a t =>
        exact ⟨a, h2 a List.mem_cons_self, t, ih.mpr ⟨by simpa using h1, fun x hx => h2 x (List.mem_cons_of_mem _ hx)⟩, rfl⟩
theorem allV_nodup {m : Nat} : ∀ r, (allV m r).Nodup := by
  intro r
  induction r with
  | zero => simp [allV]
  | succ r ih =>
    simp only [allV]
    rw [List.nodup_iff_pairwise_ne, List.pairwise_flatMap]
    refine ⟨fun a _ => ?_, ?_⟩
    · rw [← List.nodup_iff_pairwise_ne]
      exact nodup_map ih (fun x y _ _ e => (List.cons.inj e).2)
    · refine List.Pairwise.imp_of_mem ?_ (List.nodup_iff_pairwise_ne.mp (List.nodup_range (n := m)))
      intro a b _ _ hab x hx y hy e
      obtain ⟨x', -, rfl⟩ := List.mem_map.mp hx
      obtain ⟨y', -, rfl⟩ := List.mem_map.mp hy
      exact hab (List.cons.inj e).1
theorem filter_inj {α : Type} [DecidableEq α] {A : List α} (hA : A.Nodup) {p q : α → Bool} {f : α → α} (h1 : ∀ x, x ∈ A → p x = true → f x ∈ A ∧ q (f x) = true) (h2 : ∀ x y, x ∈ A → y ∈ A → f x = f y → x = y) : (A.filter p).length ≤ (A.filter q).length := by
  have := nodup_sub ((A.filter p).map f) (A.filter q) (nodup_map (hA.sublist List.filter_sublist) (fun x y hx hy => h2 x y (List.mem_filter.mp hx).1 (List.mem_filter.mp hy).1)) (fun x hx => by
    obtain ⟨a, ha, rfl⟩ := List.mem_map.mp hx
    obtain ⟨b, c⟩ := List.mem_filter.mp ha
    exact List.mem_filter.mpr (h1 a b c))
  rw [List.length_map] at this
  exact this
/-! how many turns there are -/
noncomputable def dcd (p : Prop) : Bool := @decide p (Classical.propDecidable p)
theorem dcd_iff {p : Prop} : dcd p = true ↔ p := by unfold dcd; exact @decide_eq_true_iff p (Classical.propDecidable p)
theorem dcd_false {p : Prop} : dcd p = false ↔ ¬ p := by unfold dcd; exact @decide_eq_false_iff_not p (Classical.propDecidable p)
noncomputable def TVb (n : Nat) (T : Nat → Nat → Nat) (gens s : List Nat) : Bool := dcd (∃ φ, AUT n T φ ∧ gens.map φ = s)
noncomputable def cntA (n : Nat) (T : Nat → Nat → Nat) (p q : List Nat) : Nat := ((allV n q.length).filter (fun s => TVb n T (p ++ q) (p ++ s))).length
noncomputable def cnG (n : Nat) (T : Nat → Nat → Nat) (p : List Nat) (g : Nat) : Nat := ((List.range n).filter (fun x => dcd (∃ φ, AUT n T φ ∧ (∀ y, y ∈ p → φ y = y) ∧ φ g = x))).length
theorem map_fix {φ : Nat → Nat} {p : List Nat} (h : ∀ y, y ∈ p → φ y = y) : p.map φ = p := by
  have : p.map φ = p.map id := List.map_congr_left h
  rw [this, List.map_id]
theorem len_flat {α : Type} (f : Nat → List α) (c : Nat → Nat) : ∀ (l : List Nat), (∀ x, x ∈ l → (f x).length = c x) → (l.flatMap f).length = (l.map c).sum := by
  intro l
  induction l with
  | nil => intro _; rfl
  | cons a t ih => intro h; rw [List.flatMap_cons, List.length_append, List.map_cons, List.sum_cons, ih (fun x hx => h x (List.mem_cons_of_mem _ hx)), h a List.mem_cons_self]
theorem sum_if {p : Nat → Bool} {k : Nat} : ∀ (l : List Nat), (l.map (fun x => if p x then k else 0)).sum = (l.filter p).length * k := by
  intro l
  induction l with
  | nil => simp
  | cons a t ih =>
    rw [List.map_cons, List.sum_cons, ih, List.filter_cons]
    cases p a
    · simp
    · simp only [↓reduceIte, List.length_cons, Nat.succ_mul]; omega
theorem cntA_step (hg : Gp n T iv) {p q : List Nat} {g : Nat} (hp : ∀ y, y ∈ p → y < n) (hgn : g < n) (hq : ∀ y, y ∈ q → y < n) : cntA n T p (g :: q) = cnG n T p g * cntA n T (p ++ [g]) q := by
  unfold cntA
  rw [List.length_cons]
  simp only [allV]
  rw [List.filter_flatMap, len_flat _ (fun x => if dcd (∃ φ, AUT n T φ ∧ (∀ y, y ∈ p → φ y = y) ∧ φ g = x) then ((allV n q.length).filter (fun s => TVb n T (p ++ [g] ++ q) (p ++ [g] ++ s))).length else 0), sum_if]
  · rfl
  · intro x hx
    rw [List.mem_range] at hx
    rw [List.filter_map, List.length_map]
    have eg : p ++ [g] ++ q = p ++ g :: q := by rw [List.append_assoc]; rfl
    by_cases c : ∃ φ, AUT n T φ ∧ (∀ y, y ∈ p → φ y = y) ∧ φ g = x
    · rw [if_pos (dcd_iff.mpr c)]
      obtain ⟨ψ, h1, h2, h3⟩ := c
      obtain ⟨ψ', k1, k2, k3⟩ := aut_inv hg h1
      have hpf : ∀ y, y ∈ p → ψ' y = y := fun y hy => by
        have := k2 y (hp y hy)
        rw [h2 y hy] at this; exact this
      have gx : ψ' x = g := by rw [← h3]; exact k2 g hgn
      apply Nat.le_antisymm
      · refine filter_inj (allV_nodup _) (f := fun s => s.map ψ') (fun s hs hq' => ?_) (fun s t hs ht e => ?_)
        · have hs' := allV_mem.mp hs
          refine ⟨allV_mem.mpr ⟨by rw [List.length_map]; exact hs'.1, fun y hy => ?_⟩, ?_⟩
          · obtain ⟨z, hz, rfl⟩ := List.mem_map.mp hy
            exact k1.1 z (hs'.2 z hz)
          · obtain ⟨φ, f1, f2⟩ := dcd_iff.mp hq'
            apply dcd_iff.mpr
            refine ⟨fun y => ψ' (φ y), aut_comp f1 k1, ?_⟩
            show List.map (ψ' ∘ φ) _ = _
            rw [eg, ← List.map_map (f := φ) (g := ψ'), f2]
            show List.map ψ' (p ++ x :: s) = _
            rw [List.map_append, List.map_cons, map_fix hpf, gx, List.append_assoc]
            rfl
        · have hs' := (allV_mem.mp hs).2
          have ht' := (allV_mem.mp ht).2
          have e2 : (s.map ψ').map ψ = (t.map ψ').map ψ := congrArg (List.map ψ) e
          rw [List.map_map, List.map_map] at e2
          rw [← map_fix (φ := ψ ∘ ψ') (fun y hy => k3 y (hs' y hy)), e2, map_fix (φ := ψ ∘ ψ') (fun y hy => k3 y (ht' y hy))]
      · refine filter_inj (allV_nodup _) (f := fun s => s.map ψ) (fun s hs hq' => ?_) (fun s t hs ht e => ?_)
        · have hs' := allV_mem.mp hs
          refine ⟨allV_mem.mpr ⟨by rw [List.length_map]; exact hs'.1, fun y hy => ?_⟩, ?_⟩
          · obtain ⟨z, hz, rfl⟩ := List.mem_map.mp hy
            exact h1.1 z (hs'.2 z hz)
          · obtain ⟨φ, f1, f2⟩ := dcd_iff.mp hq'
            apply dcd_iff.mpr
            refine ⟨fun y => ψ (φ y), aut_comp f1 h1, ?_⟩
            show List.map (ψ ∘ φ) _ = _
            rw [← eg, ← List.map_map (f := φ) (g := ψ), f2, List.append_assoc, List.map_append, List.map_append, map_fix h2]
            show p ++ ([ψ g] ++ s.map ψ) = _
            rw [h3]
            rfl
        · have hs' := (allV_mem.mp hs).2
          have ht' := (allV_mem.mp ht).2
          have e2 : (s.map ψ).map ψ' = (t.map ψ).map ψ' := congrArg (List.map ψ') e
          rw [List.map_map, List.map_map] at e2
          rw [← map_fix (φ := ψ' ∘ ψ) (fun y hy => k2 y (hs' y hy)), e2, map_fix (φ := ψ' ∘ ψ) (fun y hy => k2 y (ht' y hy))]
    · rw [if_neg (fun q => c (dcd_iff.mp q)), List.length_eq_zero_iff, List.filter_eq_nil_iff]
      intro s _ hs
      apply c
      obtain ⟨φ, f1, f2⟩ := dcd_iff.mp hs
      rw [List.map_append, List.map_cons] at f2
      obtain ⟨e1, e2⟩ := List.append_inj f2 (by rw [List.length_map])
      refine ⟨φ, f1, fun y hy => ?_, (List.cons.inj e2).1⟩
      have e3 : p.map φ = p.map id := by rw [e1, List.map_id]
      exact List.map_inj_left.mp e3 y hy
theorem cntA_nil {p : List Nat} : cntA n T p [] = 1 := by
  unfold cntA
  simp only [List.length_nil, allV, List.append_nil, List.filter_cons, List.filter_nil]
  rw [if_pos (show TVb n T p p = true from dcd_iff.mpr ⟨fun x => x, aut_id, by simp⟩)]
  rfl
end SEND
