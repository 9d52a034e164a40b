/-! images of sets; the reference's turns and orbits -/
def im (n : Nat) (φ : Nat → Nat) (S : Nat) : Nat := orF (fun e => if S.testBit e then 2 ^ φ e else 0) n
def ORB (n : Nat) (T : Nat → Nat → Nat) (S x : Nat) : Prop := ∃ φ, AUT n T φ ∧ im n φ S = x
section ORBS
variable {n m : Nat} {T : Nat → Nat → Nat} {iv : Nat → Nat} {gens hd : List Nat} {h0 hb : Nat → Nat}
theorem im_bit {φ : Nat → Nat} {S x : Nat} : (im n φ S).testBit x = true ↔ ∃ e, e < n ∧ S.testBit e = true ∧ φ e = x := by
  unfold im
  rw [orF_bit]
  constructor
  · rintro ⟨e, he, h⟩
    split at h
    next q => exact ⟨e, he, q, (two_bit _ _).mp h⟩
    next => simp at h
  · rintro ⟨e, he, q, h⟩
    exact ⟨e, he, by rw [if_pos q]; exact (two_bit _ _).mpr h⟩
theorem im_lt {φ : Nat → Nat} {S : Nat} (h : ∀ x, x < n → φ x < n) : im n φ S < 2 ^ n := lt_two (fun x hx => by
  obtain ⟨e, he, -, rfl⟩ := im_bit.mp hx
  exact h e he)
theorem im_comp {φ ψ : Nat → Nat} {S : Nat} (h : ∀ x, x < n → φ x < n) : im n ψ (im n φ S) = im n (fun x => ψ (φ x)) S := by
  apply ext_bit
  intro x
  rw [im_bit, im_bit]
  constructor
  · rintro ⟨e, he, h1, h2⟩
    obtain ⟨d, hd, h3, h4⟩ := im_bit.mp h1
    exact ⟨d, hd, h3, by show ψ (φ d) = x; rw [h4]; exact h2⟩
  · rintro ⟨e, he, h1, h2⟩
    exact ⟨φ e, h e he, im_bit.mpr ⟨e, he, h1, rfl⟩, h2⟩
theorem im_cong {φ ψ : Nat → Nat} {S : Nat} (h : ∀ x, x < n → φ x = ψ x) : im n φ S = im n ψ S := by
  apply ext_bit
  intro x
  rw [im_bit, im_bit]
  constructor
  · rintro ⟨e, he, h1, h2⟩; exact ⟨e, he, h1, by rw [← h e he]; exact h2⟩
  · rintro ⟨e, he, h1, h2⟩; exact ⟨e, he, h1, by rw [h e he]; exact h2⟩
theorem im_id {S : Nat} (hS : S < 2 ^ n) : im n (fun x => x) S = S := by
  apply ext_bit
  intro x
  rw [im_bit]
  constructor
  · rintro ⟨e, he, h1, h2⟩; rw [← h2]; exact h1
  · intro h; exact ⟨x, bit_lt hS h, h, rfl⟩
theorem orb_self {S : Nat} (hS : S < 2 ^ n) : ORB n T S S := ⟨fun x => x, aut_id, im_id hS⟩
theorem orb_lt {S x : Nat} (h : ORB n T S x) : x < 2 ^ n := by
  obtain ⟨φ, h1, rfl⟩ := h
  exact im_lt h1.1
theorem mts_row {φ : Nat → Nat} {c : Nat} : gens.map φ = dgL n gens.length c ↔ mts gens gens.length (dgN n gens.length c) φ := by
  constructor
  · intro h l g hl hg
    have h1 : (gens.map φ)[l]? = some (φ g) := by rw [List.getElem?_map, hg]; rfl
    rw [h, dgL_get hl] at h1
    exact (Option.some.inj h1).symm
  · intro h
    apply List.ext_getElem?
    intro l
    rcases Nat.lt_or_ge l gens.length with q | q
    · have hg := List.getElem?_eq_getElem q
      rw [List.getElem?_map, hg, dgL_get q]
      show some (φ gens[l]) = _
      rw [h l _ q hg]
    · rw [List.getElem?_eq_none (by simpa using q), List.getElem?_eq_none (by unfold dgL; simpa using q)]
/-- each turn has its row -/
theorem aut_row {φ : Nat → Nat} (hgn : ∀ g, g ∈ gens → g < n) (h : ∀ x, x < n → φ x < m) : ∃ c, c < m ^ gens.length ∧ gens.map φ = dgL m gens.length c := by
  have : gens.map φ ∈ allV m gens.length := allV_mem.mpr ⟨by simp, fun x hx => by
    obtain ⟨g, hg, rfl⟩ := List.mem_map.mp hx
    exact h g (hgn g hg)⟩
  rw [allV_dg] at this
  obtain ⟨c, hc, e⟩ := List.mem_map.mp this
  exact ⟨c, List.mem_range.mp hc, e.symm⟩
theorem hom_uniq (hg : Gp n T iv) (hO : HO n T gens hd h0 hb) {J : Nat → Nat → Nat} {φ ψ : Nat → Nat} (p0 : φ 0 = 0) (p1 : ∀ x y, x < n → y < n → φ (T x y) = J (φ x) (φ y)) (q0 : ψ 0 = 0) (q1 : ∀ x y, x < n → y < n → ψ (T x y) = J (ψ x) (ψ y)) (he : ∀ g, g ∈ gens → φ g = ψ g) : ∀ x, x < n → φ x = ψ x := by
  have hE := hO.2.2.2
  have hgn := fun g (h : g ∈ gens) => (hO.2.1 g h).2
  obtain ⟨s, hs⟩ := walk_ex hE J (fun l => φ (gens.getD l 0))
  have a := walk_eq' hg hE hgn hs p0 (fun x y hx hy => p1 x y (hE.2.1 x hx) (hE.2.1 y hy)) (fun lev g _ h2 => by show φ g = φ (gens.getD lev 0); rw [List.getD_eq_getElem?_getD, h2]; rfl)
  have b := walk_eq' hg hE hgn hs q0 (fun x y hx hy => q1 x y (hE.2.1 x hx) (hE.2.1 y hy)) (fun lev g _ h2 => by show ψ g = φ (gens.getD lev 0); rw [List.getD_eq_getElem?_getD, h2]; exact (he g (List.mem_of_getElem? h2)).symm)
  intro x hx
  rw [a.2 x (hd_all hO x hx), b.2 x (hd_all hO x hx)]
theorem aut_uniq (hg : Gp n T iv) (hO : HO n T gens hd h0 hb) {φ ψ : Nat → Nat} (h1 : AUT n T φ) (h2 : AUT n T ψ) (he : gens.map φ = gens.map ψ) : ∀ x, x < n → φ x = ψ x := hom_uniq hg hO (aut_zero hg h1) h1.2.1 (aut_zero hg h2) h2.2.1 (fun g hg => List.map_inj_left.mp he g hg)
def envY (n : Nat) (T : Nat → Nat → Nat) (iv : Nat → Nat) (gens hd : List Nat) (h0 hb : Nat → Nat) (w : Wd) : Prop := GM w n T iv ∧ BY w gens hd h0 hb
theorem envY_cong {w w' : Wd} (h : envY n T iv gens hd h0 hb w) (k : ∀ q, 44 < q → q < 54 → w'.1 q = w.1 q) (e1 : w'.1 44 1 = w.1 44 1) (e9 : w'.1 44 9 = w.1 44 9) : envY n T iv gens hd h0 hb w' := ⟨GM_cong h.1 e1 (k 47 (by decide) (by decide)) (k 48 (by decide) (by decide)) (k 49 (by decide) (by decide)), BY_cong h.2 e9 (k 50 (by decide) (by decide)) (k 51 (by decide) (by decide)) (k 52 (by decide) (by decide)) (k 53 (by decide) (by decide))⟩
theorem y_turns {w : Wd} (hv : envY n T iv gens hd h0 hb w) (hg : Gp n T iv) (hO : HO n T gens hd h0 hb) : ∃ w', f_X12_turns w = some (nI (cntA n T [] gens), w') ∧ (∀ k, k ≠ 62 → k ≠ 63 → w'.1 k = w.1 k) ∧ w'.2 = w.2 := by
  have h16 := hg.1.2
  have h1n := hg.1.1
  have hl4 := hO.1
  have hN : 0 < n ^ gens.length := Nat.pow_pos h1n
  have hNl : n ^ gens.length ≤ 65536 := by
    have h2 : n ^ gens.length ≤ 16 ^ gens.length := Nat.pow_le_pow_left h16 _
    have h3 : 16 ^ gens.length ≤ 16 ^ 4 := Nat.pow_le_pow_right (by decide) hl4
    omega
  unfold f_X12_turns
  obtain ⟨w1, a1, a2, a3, a4⟩ := y_first w
  rw [a1, bnd_some]
  have key := lrun (fun f i (s : Wd × Nat) => f_X12_turns_L8 f (nI s.2) (if i < n ^ gens.length then 1 else 0) s.1) (n ^ gens.length) (fun s => some (nI s.2, s.1)) (fun i s => (∀ k, k ≠ 62 → k ≠ 63 → s.1.1 k = w.1 k) ∧ s.1.2 = w.2 ∧ (i < n ^ gens.length → RI s.1 n gens.length i) ∧ s.2 = cntB (fun c => TVb n T gens (dgL n gens.length c)) i) ?_ ?_ (n ^ gens.length) 0 (w1, 0) FU (by omega) (FU_big (by omega)) ⟨fun k _ h => a2 k h, a3, fun _ => a4 n gens.length (by omega), rfl⟩
  · obtain ⟨⟨w', c⟩, ⟨b1, b2, b3, b4⟩, b5⟩ := key
    dsimp only at b1 b2 b3 b4 b5
    rw [if_pos hN] at b5
    refine ⟨w', b5.trans ?_, b1, b2⟩
    have : cntA n T [] gens = c := by
      rw [b4, ← cnt_len]
      unfold cntA
      rw [List.nil_append]
      simp only [List.nil_append]
      rw [allV_filter, List.length_map]
    rw [this]
  · rintro i ⟨w2, c⟩ hi ⟨b1, b2, b3, b4⟩
    dsimp only at b1 b2 b3 b4
    have hv2 : envY n T iv gens hd h0 hb w2 := envY_cong hv (fun q _ _ => b1 q (by omega) (by omega)) (by rw [b1 44 (by decide) (by decide)]) (by rw [b1 44 (by decide) (by decide)])
    have hR := b3 hi
    obtain ⟨w3, b, c1, c2, c3, c4, c5⟩ := y_isTurn hv2.1 hg hv2.2 hO hR (fun l => Nat.mod_lt _ h1n)
    obtain ⟨w4, d1, d2, d3, d4⟩ := y_next (w := w3) h1n h16 hl4 hi (by rw [c2 44 (by decide)]; exact hv2.2.1) (RI_cong hR (c2 63 (by decide)))
    have hbT : b = TVb n T gens (dgL n gens.length i) := by
      have : b = true ↔ TVb n T gens (dgL n gens.length i) = true := by
        rw [c4]
        unfold TVb
        rw [dcd_iff]
        exact ⟨fun ⟨φ, p, q⟩ => ⟨φ, p, mts_row.mpr q⟩, fun ⟨φ, p, q⟩ => ⟨φ, p, mts_row.mp q⟩⟩
      cases b <;> cases hT : TVb n T gens (dgL n gens.length i) <;> simp [hT] at this ⊢
    refine ⟨(w4, c + if b then 1 else 0), ⟨fun k x1 x2 => by rw [d2 k x2, c2 k x1, b1 k x1 x2], by rw [d3, c3, b2], d4, ?_⟩, fun f => ?_⟩
    · dsimp only
      simp only [cntB]
      rw [← b4, hbT]
    · dsimp only
      rw [if_pos hi]
      show f_X12_turns_B8b (f_X12_turns_L8 f) (nI c) 1 w2 = _
      unfold f_X12_turns_B8b
      rw [if_neg one_ne, c1, bnd2_some, c2 44 (by decide), hv2.1.1, d1, bnd2_some, bnd2_some, nI_1]
      cases b <;> simp [one_ne]
  · rintro f ⟨w2, c⟩ _
    dsimp only
    rw [if_neg (Nat.lt_irrefl _)]
    show f_X12_turns_B8b (f_X12_turns_L8 f) (nI c) 0 w2 = _
    unfold f_X12_turns_B8b
    rw [if_pos rfl]
theorem y_sent {w : Wd} (hM : GM w n T iv) (hn : n ≤ 16) {φ : Nat → Nat} (hφ : ∀ x, x < n → φ x < n) (h : ∀ x, x < n → w.1 62 x = nI (φ x)) {S : Nat} (hS : S < 2 ^ n) : f_X12_sentSet (nI S) w = some (nI (im n φ S)) := by
  have h31 := lt31 (le16 hS hn)
  unfold f_X12_sentSet
  have key := lup (fun f i (acc : Nat) => f_X12_sentSet_L4 f (nI S) (nI acc) (nI i) w) n (fun e acc => acc ||| (if S.testBit e then 2 ^ φ e else 0)) (fun acc => some (nI acc)) (fun _ _ => True) ?_ (fun _ _ _ _ => trivial) ?_ n 0 0 FU (by omega) (FU_big (by omega)) trivial
  · exact key.1
  · intro f i acc hi _
    have := hφ i hi
    show f_X12_sentSet_B4b (f_X12_sentSet_L4 f) (nI S) (nI acc) (nI i) w = _
    unfold f_X12_sentSet_B4b
    rw [hM.1, if_neg (nI_ge hi (by omega)), nI_1]
    cases hb : S.testBit i with
    | true => rw [if_neg (by rw [y_has0 h31 (by omega), hb]; decide), m_rd (by omega) (by decide), h i hi, m_shl1 (by omega), m_or]; rfl
    | false => rw [if_pos ((y_has0 h31 (by omega)).mpr hb)]; simp
  · intro f acc _
    show f_X12_sentSet_B4b (f_X12_sentSet_L4 f) (nI S) (nI acc) (nI n) w = _
    unfold f_X12_sentSet_B4b
    rw [hM.1, if_pos (nI_le (Nat.le_refl _) (by omega))]
/-- all images, and the least -/
def isOrb (n : Nat) (T : Nat → Nat → Nat) (S : Nat) (Q : List Nat) : Prop := Q.Nodup ∧ ∀ x, x ∈ Q ↔ ORB n T S x
theorem isOrb_len {S : Nat} {Q Q' : List Nat} (h : isOrb n T S Q) (h' : isOrb n T S Q') : Q.length = Q'.length := Nat.le_antisymm (nodup_sub Q Q' h.1 (fun x hx => (h'.2 x).mpr ((h.2 x).mp hx))) (nodup_sub Q' Q h'.1 (fun x hx => (h.2 x).mpr ((h'.2 x).mp hx)))
def lstO (n : Nat) (T : Nat → Nat → Nat) (S μ : Nat) : Prop := ORB n T S μ ∧ ∀ x, ORB n T S x → μ ≤ x
theorem lstO_one {S μ μ' : Nat} (h : lstO n T S μ) (h' : lstO n T S μ') : μ = μ' := Nat.le_antisymm (h.2 _ h'.1) (h'.2 _ h.1)
def orK (k : Nat) : Prop := k = 62 ∨ k = 63 ∨ k = 64
theorem y_orbit {w : Wd} (hv : envY n T iv gens hd h0 hb w) (hg : Gp n T iv) (hO : HO n T gens hd h0 hb) {S : Nat} (hS : S < 2 ^ n) : ∃ w' Q μ, f_X12_orbitOf (nI S) w = some (nI Q.length, w') ∧ isOrb n T S Q ∧ w'.1 44 26 = nI μ ∧ lstO n T S μ ∧ keepM orK (fun j => j = 26) w w' := by
  have h16 := hg.1.2
  have h1n := hg.1.1
  have hl4 := hO.1
  have h65 := p16 h16
  have hgn := fun g (h : g ∈ gens) => (hO.2.1 g h).2
  have hN : 0 < n ^ gens.length := Nat.pow_pos h1n
  have hNl : n ^ gens.length ≤ 65536 := by
    have h2 : n ^ gens.length ≤ 16 ^ gens.length := Nat.pow_le_pow_left h16 _
    have h3 : 16 ^ gens.length ≤ 16 ^ 4 := Nat.pow_le_pow_right (by decide) hl4
    omega
  unfold f_X12_orbitOf
  have k0 := lrun (fun f i (s : Wd) => f_X12_orbitOf_L2 f (nI S) (nI i) s) (2 ^ n) (fun s => bnd (f_X12_firstRow s) fun w1 => letW (sI w1 44 26 (nI S)) fun w2 => f_X12_orbitOf_L36 FU (nI S) 0 1 w2) (fun i s => (∀ k, k ≠ 64 → s.1 k = w.1 k) ∧ s.2 = w.2 ∧ ∀ j, j < i → s.1 64 j = 0) ?_ ?_ (2 ^ n) 0 w FU (by omega) (FU_big (by omega)) ⟨fun _ _ => rfl, rfl, fun j h => by omega⟩
  · obtain ⟨w0, ⟨z1, z2, z3⟩, z4⟩ := k0
    obtain ⟨w1, a1, a2, a3, a4⟩ := y_first w0
    obtain ⟨w2, hw2⟩ : ∃ w2, w2 = sI w1 44 26 (nI S) := ⟨_, rfl⟩
    have kk2 : keepM orK (fun j => j = 26) w w2 := by
      refine ⟨fun k hk h44 => ?_, fun j hj => ?_, ?_⟩
      · unfold orK at hk
        rw [hw2]; funext j
        rw [sI_at, if_neg (fun z => h44 z.1), a2 k (by omega), z1 k (by omega)]
      · rw [hw2, sI_at, if_neg (fun z => hj z.2), a2 44 (by decide), z1 44 (by decide)]
      · rw [hw2]; show w1.2 = _; rw [a3, z2]
    have key := lrun (fun f i (s : Wd × List Nat × Nat) => f_X12_orbitOf_L36 f (nI S) (nI s.2.1.length) (if i < n ^ gens.length then 1 else 0) s.1) (n ^ gens.length) (fun s => some (nI s.2.1.length, s.1)) (fun i s => keepM orK (fun j => j = 26) w s.1 ∧ (i < n ^ gens.length → RI s.1 n gens.length i) ∧ (∀ x, x < 2 ^ n → s.1.1 64 x = if s.2.1.contains x then 1 else 0) ∧ s.2.1.Nodup ∧ (∀ x, x ∈ s.2.1 ↔ ∃ c φ, c < i ∧ AUT n T φ ∧ gens.map φ = dgL n gens.length c ∧ im n φ S = x) ∧ s.1.1 44 26 = nI s.2.2 ∧ (s.2.2 = S ∨ s.2.2 ∈ s.2.1) ∧ s.2.2 ≤ S ∧ ∀ x, x ∈ s.2.1 → s.2.2 ≤ x) ?_ ?_ (n ^ gens.length) 0 (w2, [], S) FU (by omega) (FU_big (by omega)) ?_
    · obtain ⟨⟨w', Q, μ⟩, ⟨i1, i2, i3, i4, i5, i6, i7, i8, i9⟩, i10⟩ := key
      dsimp only at i1 i2 i3 i4 i5 i6 i7 i8 i9 i10
      rw [if_pos hN] at i10
      have hQ : ∀ x, x ∈ Q ↔ ORB n T S x := fun x => by
        rw [i5]
        constructor
        · rintro ⟨c, φ, -, p2, -, p4⟩; exact ⟨φ, p2, p4⟩
        · rintro ⟨φ, p2, p4⟩
          obtain ⟨c, hc, e⟩ := aut_row (m := n) hgn p2.1
          exact ⟨c, φ, hc, p2, e, p4⟩
      refine ⟨w', Q, μ, ?_, ⟨i4, hQ⟩, i6, ⟨?_, fun x hx => i9 x ((hQ x).mpr hx)⟩, i1⟩
      · refine z4.trans ?_
        rw [a1, bnd_some, m_letW, ← hw2]; exact i10
      · rcases i7 with h | h
        · rw [h]; exact orb_self hS
        · exact (hQ μ).mp h
    · rintro i ⟨w3, Q, μ⟩ hi ⟨i1, i2, i3, i4, i5, i6, i7, i8, i9⟩
      dsimp only at i1 i2 i3 i4 i5 i6 i7 i8 i9
      have hv3 : envY n T iv gens hd h0 hb w3 := envY_cong hv (fun q _ _ => i1.1 q (by unfold orK; omega) (by omega)) (i1.2.1 1 (by decide)) (i1.2.1 9 (by decide))
      have hR := i2 hi
      obtain ⟨w4, b, c1, c2, c3, c4, c5⟩ := y_isTurn hv3.1 hg hv3.2 hO hR (fun l => Nat.mod_lt _ h1n)
      have k4 : keepM orK (fun j => j = 26) w w4 := ⟨fun k hk h44 => by rw [c2 k (by unfold orK at hk; omega)]; exact i1.1 k hk h44, fun j hj => by rw [c2 44 (by decide)]; exact i1.2.1 j hj, by rw [c3]; exact i1.2.2⟩
      cases hb : b with
      | false =>
        obtain ⟨w5, d1, d2, d3, d4⟩ := y_next (w := w4) h1n h16 hl4 hi (by rw [c2 44 (by decide)]; exact hv3.2.1) (RI_cong hR (c2 63 (by decide)))
        have no : ¬ ∃ φ, AUT n T φ ∧ gens.map φ = dgL n gens.length i := by
          rintro ⟨φ, p1, p2⟩
          have := c4.mpr ⟨φ, p1, mts_row.mp p2⟩
          rw [hb] at this; cases this
        refine ⟨(w5, Q, μ), ⟨⟨fun k hk h44 => by rw [d2 k (by unfold orK at hk; omega)]; exact k4.1 k hk h44, fun j hj => by rw [d2 44 (by decide)]; exact k4.2.1 j hj, by rw [d3]; exact k4.2.2⟩, d4, fun x hx => by dsimp only; rw [d2 64 (by decide), c2 64 (by decide)]; exact i3 x hx, i4, fun x => ?_, by dsimp only; rw [d2 44 (by decide), c2 44 (by decide)]; exact i6, i7, i8, i9⟩, fun f => ?_⟩
        · dsimp only
          rw [i5]
          constructor
          · rintro ⟨c, φ, p1, p2⟩; exact ⟨c, φ, by omega, p2⟩
          · rintro ⟨c, φ, p1, p2, p3, p4⟩
            by_cases q : c = i
            · subst q; exact absurd ⟨φ, p2, p3⟩ no
            · exact ⟨c, φ, by omega, p2, p3, p4⟩
        · dsimp only
          rw [if_pos hi]
          show f_X12_orbitOf_B36b (f_X12_orbitOf_L36 f) (nI S) (nI Q.length) 1 w3 = _
          unfold f_X12_orbitOf_B36b
          rw [if_neg one_ne, c1, hb, bnd2_some, if_neg Bool.false_ne_true, if_pos rfl, c2 44 (by decide), hv3.1.1, d1, bnd2_some]
      | true =>
        obtain ⟨φ, p1, p2, p3⟩ := c5 hb
        have hM4 : GM w4 n T iv := GM_cong hv3.1 (by rw [c2 44 (by decide)]) (c2 47 (by decide)) (c2 48 (by decide)) (c2 49 (by decide))
        have hy := im_lt (S := S) p1.1
        obtain ⟨y, hyd⟩ : ∃ y, y = im n φ S := ⟨_, rfl⟩
        rw [← hyd] at hy
        obtain ⟨w5, hw5⟩ : ∃ w5, w5 = (if μ ≤ y then sI w4 64 y 1 else sI (sI w4 64 y 1) 44 26 (nI y)) := ⟨_, rfl⟩
        have q5 : ∀ k, k ≠ 64 → k ≠ 44 → w5.1 k = w4.1 k := fun k x1 x2 => by
          rw [hw5]; split
          · funext j; rw [sI_at, if_neg (fun z => x1 z.1)]
          · funext j; rw [sI_at, if_neg (fun z => x2 z.1), sI_at, if_neg (fun z => x1 z.1)]
        have q5j : ∀ j, j ≠ 26 → w5.1 44 j = w4.1 44 j := fun j hj => by
          rw [hw5]; split
          · rw [sI_at, if_neg (by rintro ⟨h, -⟩; revert h; decide)]
          · rw [sI_at, if_neg (fun z => hj z.2), sI_at, if_neg (by rintro ⟨h, -⟩; revert h; decide)]
        have q5m : ∀ x, w5.1 64 x = if x = y then 1 else w4.1 64 x := fun x => by
          rw [hw5]; split
          · rw [sI_at]
            by_cases q : x = y
            · rw [if_pos ⟨rfl, q⟩, if_pos q]
            · rw [if_neg (fun z => q z.2), if_neg q]
          · rw [sI_at, if_neg (by rintro ⟨h, -⟩; revert h; decide), sI_at]
            by_cases q : x = y
            · rw [if_pos ⟨rfl, q⟩, if_pos q]
            · rw [if_neg (fun z => q z.2), if_neg q]
        have hμ31 : μ < 2 ^ 31 := by have := lt31 (le16 hS h16); omega
        have hy31 := lt31 (le16 hy h16)
        have e26 : w4.1 44 26 = nI μ := by rw [c2 44 (by decide)]; exact i6
        have q526 : w5.1 44 26 = nI (if μ ≤ y then μ else y) := by
          rw [hw5]; split
          · rw [sI_at, if_neg (by rintro ⟨h, -⟩; revert h; decide)]; exact e26
          · rw [sI_at]; simp
        have q52 : w5.2 = w4.2 := by rw [hw5]; split <;> rfl
        have e64 : w4.1 64 y = if Q.contains y then 1 else 0 := by rw [c2 64 (by decide)]; exact i3 y hy
        obtain ⟨w6, d1, d2, d3, d4⟩ := y_next (w := w5) h1n h16 hl4 hi (by rw [q5j 9 (by decide), c2 44 (by decide)]; exact hv3.2.1) (RI_cong hR (by rw [q5 63 (by decide) (by decide), c2 63 (by decide)]))
        obtain ⟨Q', hQ'⟩ : ∃ Q', Q' = if Q.contains y then Q else Q ++ [y] := ⟨_, rfl⟩
        have memQ' : ∀ x, x ∈ Q' ↔ x ∈ Q ∨ x = y := fun x => by
          rw [hQ']
          by_cases q : Q.contains y = true
          · rw [if_pos q]
            have : y ∈ Q := List.contains_iff_mem.mp q
            exact ⟨Or.inl, fun h => h.elim id (fun e => e ▸ this)⟩
          · rw [if_neg q, List.mem_append, List.mem_singleton]
        refine ⟨(w6, Q', if μ ≤ y then μ else y), ⟨⟨fun k hk h44 => by rw [d2 k (by unfold orK at hk; omega), q5 k (by unfold orK at hk; omega) h44]; exact k4.1 k hk h44, fun j hj => by rw [d2 44 (by decide), q5j j hj]; exact k4.2.1 j hj, by rw [d3, q52]; exact k4.2.2⟩, d4, fun x hx => ?_, ?_, fun x => ?_, ?_, ?_, ?_, fun x hx => ?_⟩, fun f => ?_⟩
        · dsimp only
          rw [d2 64 (by decide), q5m, c2 64 (by decide), i3 x hx]
          have h1 : Q'.contains x = true ↔ Q.contains x = true ∨ x = y := by rw [List.contains_iff_mem, List.contains_iff_mem]; exact memQ' x
          by_cases q : x = y
          · rw [if_pos q, if_pos (h1.mpr (Or.inr q))]
          · rw [if_neg q]
            by_cases r : Q.contains x = true
            · rw [if_pos r, if_pos (h1.mpr (Or.inl r))]
            · rw [if_neg r, if_neg (fun z => (h1.mp z).elim r q)]
        · dsimp only
          rw [hQ']
          by_cases q : Q.contains y = true
          · rw [if_pos q]; exact i4
          · rw [if_neg q, List.nodup_append]
            refine ⟨i4, by simp, fun a ha b hb => ?_⟩
            simp only [List.mem_singleton] at hb
            subst hb
            exact fun z => q (List.contains_iff_mem.mpr (z ▸ ha))
        · dsimp only
          rw [memQ', i5]
          constructor
          · rintro (⟨c, ψ, r1, r2⟩ | r)
            · exact ⟨c, ψ, by omega, r2⟩
            · exact ⟨i, φ, by omega, p1, mts_row.mpr p2, by rw [r, hyd]⟩
          · rintro ⟨c, ψ, r1, r2, r3, r4⟩
            by_cases q : c = i
            · subst q
              right
              rw [← r4, hyd]
              exact im_cong (aut_uniq hg hO r2 p1 (r3.trans (mts_row.mpr p2).symm))
            · exact Or.inl ⟨c, ψ, by omega, r2, r3, r4⟩
        · dsimp only
          rw [d2 44 (by decide)]; exact q526
        · dsimp only
          by_cases q : μ ≤ y
          · rw [if_pos q]
            exact i7.imp id (fun h => (memQ' μ).mpr (Or.inl h))
          · rw [if_neg q]; exact Or.inr ((memQ' y).mpr (Or.inr rfl))
        · dsimp only
          split <;> omega
        · dsimp only at hx ⊢
          rcases (memQ' x).mp hx with h | h
          · have := i9 x h
            split <;> omega
          · subst h
            split <;> omega
        · dsimp only
          rw [if_pos hi]
          show f_X12_orbitOf_B36b (f_X12_orbitOf_L36 f) (nI S) (nI Q.length) 1 w3 = _
          unfold f_X12_orbitOf_B36b
          rw [if_neg one_ne, c1, hb, bnd2_some, if_pos rfl, if_neg one_ne, y_sent hM4 h16 p1.1 p3 hS, bnd_some, ← hyd, m_rd (by omega) (by decide), e64]
          have J : ∀ l : Int32, f_X12_orbitOf_J67 (f_X12_orbitOf_L36 f) (nI S) l (nI y) w4 = f_X12_orbitOf_L36 f (nI S) l (if i + 1 < n ^ gens.length then 1 else 0) w6 := by
            intro l
            unfold f_X12_orbitOf_J67
            have e26' : (sI w4 64 y 1).1 44 26 = nI μ := by rw [sI_at, if_neg (by rintro ⟨h, -⟩; revert h; decide)]; exact e26
            rw [m_wr (by omega) (by decide), e26']
            by_cases q : μ ≤ y
            · rw [if_pos (nI_le q hy31)]
              rw [if_pos q] at hw5
              rw [← hw5, q5j 1 (by decide), hM4.1, d1, bnd2_some]
            · rw [if_neg (nI_ge (a := y) (by omega) hμ31), m_letW]
              rw [if_neg q] at hw5
              rw [← hw5, q5j 1 (by decide), hM4.1, d1, bnd2_some]
          rw [J, J, nI_1]
          by_cases q : Q.contains y = true
          · rw [if_pos q] at hQ' ⊢
            rw [if_neg one_ne, hQ']
          · rw [if_neg q] at hQ' ⊢
            rw [if_pos rfl, hQ', List.length_append]
            rfl
    · rintro f ⟨w3, Q, μ⟩ _
      dsimp only
      rw [if_neg (Nat.lt_irrefl _)]
      show f_X12_orbitOf_B36b (f_X12_orbitOf_L36 f) (nI S) (nI Q.length) 0 w3 = _
      unfold f_X12_orbitOf_B36b
      rw [if_pos rfl]
    · refine ⟨kk2, fun _ => RI_cong (a4 n gens.length (by omega)) (by rw [hw2]; funext j; rw [sI_at]; simp), fun x hx => ?_, List.nodup_nil, fun x => ?_, ?_, Or.inl rfl, Nat.le_refl _, fun x hx => by simp at hx⟩
      · dsimp only
        rw [hw2, sI_at, if_neg (by rintro ⟨h, -⟩; revert h; decide), a2 64 (by decide), z3 x hx]; rfl
      · dsimp only
        constructor
        · intro h; simp at h
        · rintro ⟨c, φ, h, -⟩; omega
      · dsimp only
        rw [hw2, sI_at]; simp
  · rintro i s hi ⟨z1, z2, z3⟩
    have hMs : GM s n T iv := GM_cong hv.1 (by rw [z1 44 (by decide)]) (z1 47 (by decide)) (z1 48 (by decide)) (z1 49 (by decide))
    refine ⟨sI s 64 i 0, ⟨fun k hk => ?_, z2, fun j hj => ?_⟩, fun f => ?_⟩
    · rw [← z1 k hk]; funext j; rw [sI_at]; simp [hk]
    · rw [sI_at]
      split
      · rfl
      · next q => exact z3 j (by omega)
    · show f_X12_orbitOf_B2b (f_X12_orbitOf_L2 f) (nI S) (nI i) s = _
      unfold f_X12_orbitOf_B2b
      rw [if_neg (all_in hMs hg hi), m_wr (by omega) (by decide), nI_1]
  · rintro f s ⟨z1, z2, z3⟩
    have hMs : GM s n T iv := GM_cong hv.1 (by rw [z1 44 (by decide)]) (z1 47 (by decide)) (z1 48 (by decide)) (z1 49 (by decide))
    show f_X12_orbitOf_B2b (f_X12_orbitOf_L2 f) (nI S) (nI (2 ^ n)) s = _
    unfold f_X12_orbitOf_B2b
    rw [if_pos (all_end hMs hg)]
end ORBS
