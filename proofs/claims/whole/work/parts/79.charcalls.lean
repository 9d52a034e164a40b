/-! characters, character, lift, lifted -/
def lf (n : Nat) (φ : Nat → Nat) (N : Nat) : Nat := orF (fun e => if N.testBit (φ e) then 2 ^ e else 0) n
theorem filt_at {p : Nat → Bool} {N c : Nat} (hc : c < N) (hp : p c = true) : ((List.range N).filter p)[cntB p c]? = some c := by
  have e : List.range N = List.range c ++ (c :: (List.range (N - c - 1)).map (fun j => c + (j + 1))) := by
    have h1 : N = c + ((N - c - 1) + 1) := by omega
    conv => lhs; rw [h1]
    rw [List.range_add, List.range_succ_eq_map, List.map_cons, List.map_map]
    rfl
  rw [e, List.filter_append, List.getElem?_append_right (by rw [cnt_len]; exact Nat.le_refl _), cnt_len, Nat.sub_self, List.filter_cons, if_pos hp]
  rfl
section CHARS
variable {n m : Nat} {T : Nat → Nat → Nat} {iv : Nat → Nat} {gens ord hd : List Nat} {frm by_ rch h0 hb : Nat → Nat}
theorem lf_cong {φ ψ : Nat → Nat} {N : Nat} (h : ∀ x, x < n → φ x = ψ x) : lf n φ N = lf n ψ N := by
  unfold lf
  apply ext_bit
  intro x
  rw [orF_bit, orF_bit]
  constructor
  · rintro ⟨e, he, h1⟩; exact ⟨e, he, by rw [← h e he]; exact h1⟩
  · rintro ⟨e, he, h1⟩; exact ⟨e, he, by rw [h e he]; exact h1⟩
theorem lf_lt {φ : Nat → Nat} {N : Nat} : lf n φ N < 2 ^ n := lt_two (fun x hx => by
  obtain ⟨e, he, h⟩ := orF_bit.mp hx
  split at h
  · rw [← (two_bit _ _).mp h]; exact he
  · simp at h)
theorem CL_dg : CL n T m gens = ((List.range (m ^ gens.length)).filter (fun c => HVb n T m gens (dgL m gens.length c))).map (dgL m gens.length) := by
  unfold CL CLp
  have : (allV m gens.length).map (fun t => [] ++ t) = allV m gens.length := by simp
  rw [this, allV_filter]
theorem CL_len : (CL n T m gens).length = cntB (fun c => HVb n T m gens (dgL m gens.length c)) (m ^ gens.length) := by rw [CL_dg, List.length_map, cnt_len]
theorem CL_at {c : Nat} (hc : c < m ^ gens.length) (hp : HVb n T m gens (dgL m gens.length c) = true) : (CL n T m gens)[cntB (fun c => HVb n T m gens (dgL m gens.length c)) c]? = some (dgL m gens.length c) := by
  rw [CL_dg, List.getElem?_map, filt_at hc hp]; rfl
theorem hom_uniq2 (hg : Gp n T iv) (hO : HO n T gens hd h0 hb) {φ ψ : Nat → Nat} (h1 : HOM n T m φ) (h2 : HOM n T m ψ) (he : gens.map φ = gens.map ψ) : ∀ x, x < n → φ x = ψ x := hom_uniq hg hO (hom_zero hg h1) h1.2 (hom_zero hg h2) h2.2 (fun g hg => List.map_inj_left.mp he g hg)
theorem row_le (hm : m ≤ 16) (hl : gens.length ≤ 4) : m ^ gens.length ≤ 65536 := by
  have h2 : m ^ gens.length ≤ 16 ^ gens.length := Nat.pow_le_pow_left hm _
  have h3 : 16 ^ gens.length ≤ 16 ^ 4 := Nat.pow_le_pow_right (by decide) hl
  omega
/-- one row of the reference -/
theorem y_charstep {w : Wd} (hv : envY n T iv gens hd h0 hb w) (hg : Gp n T iv) (hO : HO n T gens hd h0 hb) (h0m : 0 < m) (hm : m ≤ 16) {c : Nat} (hR : RI w m gens.length c) : ∃ w', f_X12_isCharacter (nI m) w = some (if HVb n T m gens (dgL m gens.length c) then 1 else 0, w') ∧ (∀ k, k ≠ 62 → w'.1 k = w.1 k) ∧ w'.2 = w.2 ∧ (HVb n T m gens (dgL m gens.length c) = true → ∃ φ, HOM n T m φ ∧ gens.map φ = dgL m gens.length c ∧ ∀ x, x < n → w'.1 62 x = nI (φ x)) := by
  have row : ∀ φ, gens.map φ = dgL m gens.length c ↔ mts gens gens.length (dgN m gens.length c) φ := fun φ => by
    rw [mts_map (k := 0) (by unfold dgL; simp)]
    constructor
    · intro h l g hl hg'
      have := h l g hl hg'
      have e : (dgL m gens.length c).getD l 0 = dgN m gens.length c l := dgL_getD hl
      rw [← e]; exact this
    · intro h l g hl hg'
      show φ g = (dgL m gens.length c).getD l 0
      rw [dgL_getD hl]; exact h l g hl hg'
  obtain ⟨w', b, c1, c2, c3, c4, c5⟩ := y_isChar hv.1 hg h0m hm hv.2 hO hR (fun l => Nat.mod_lt _ h0m)
  have hbT : b = HVb n T m gens (dgL m gens.length c) := by
    have : b = true ↔ HVb n T m gens (dgL m gens.length c) = true := by
      rw [c4]
      unfold HVb
      rw [dcd_iff]
      exact ⟨fun ⟨φ, p, q⟩ => ⟨φ, p, (row φ).mpr q⟩, fun ⟨φ, p, q⟩ => ⟨φ, p, (row φ).mp q⟩⟩
    cases b <;> cases hT : HVb n T m gens (dgL m gens.length c) <;> simp [hT] at this ⊢
  rw [← hbT]
  exact ⟨w', c1, c2, c3, fun h => by
    obtain ⟨φ, p1, p2, p3⟩ := c5 h
    exact ⟨φ, p1, (row φ).mpr p2, p3⟩⟩
def chK (w w' : Wd) : Prop := (∀ k, k ≠ 62 → k ≠ 63 → w'.1 k = w.1 k) ∧ w'.2 = w.2
theorem chK.env {w w' : Wd} (h : chK w w') (hv : envY n T iv gens hd h0 hb w) : envY n T iv gens hd h0 hb w' := envY_cong hv (fun q _ _ => h.1 q (by omega) (by omega)) (by rw [h.1 44 (by decide) (by decide)]) (by rw [h.1 44 (by decide) (by decide)])
theorem y_chars {w : Wd} (hv : envY n T iv gens hd h0 hb w) (hg : Gp n T iv) (hO : HO n T gens hd h0 hb) (h0m : 0 < m) (hm : m ≤ 16) : ∃ w', bnd (f_X12_firstRow w) (fun w1 => f_X12_characters_L17 FU (nI m) 0 1 w1) = some (nI (CL n T m gens).length, w') ∧ chK w w' := by
  have hl4 := hO.1
  have hN : 0 < m ^ gens.length := Nat.pow_pos h0m
  have hNl := row_le (gens := gens) hm hl4
  obtain ⟨w1, a1, a2, a3, a4⟩ := y_first w
  rw [a1, bnd_some]
  have key := lrun (fun f i (s : Wd × Nat) => f_X12_characters_L17 f (nI m) (nI s.2) (if i < m ^ gens.length then 1 else 0) s.1) (m ^ gens.length) (fun s => some (nI s.2, s.1)) (fun i s => chK w s.1 ∧ (i < m ^ gens.length → RI s.1 m gens.length i) ∧ s.2 = cntB (fun c => HVb n T m gens (dgL m gens.length c)) i) ?_ ?_ (m ^ gens.length) 0 (w1, 0) FU (by omega) (FU_big (by omega)) ⟨⟨fun k _ h => a2 k h, a3⟩, fun _ => a4 m gens.length (by omega), rfl⟩
  · obtain ⟨⟨w', c⟩, ⟨b1, b3, b4⟩, b5⟩ := key
    dsimp only at b1 b3 b4 b5
    rw [if_pos hN] at b5
    refine ⟨w', b5.trans ?_, b1⟩
    rw [CL_len, b4]
  · rintro i ⟨w2, c⟩ hi ⟨b1, b3, b4⟩
    dsimp only at b1 b3 b4
    have hv2 := b1.env hv
    obtain ⟨w3, c1, c2, c3, c4⟩ := y_charstep hv2 hg hO h0m hm (b3 hi)
    obtain ⟨w4, d1, d2, d3, d4⟩ := y_next (w := w3) h0m hm hl4 hi (by rw [c2 44 (by decide)]; exact hv2.2.1) (RI_cong (b3 hi) (c2 63 (by decide)))
    refine ⟨(w4, c + if HVb n T m gens (dgL m gens.length i) then 1 else 0), ⟨⟨fun k x1 x2 => by rw [d2 k x2, c2 k x1, b1.1 k x1 x2], by rw [d3, c3, b1.2]⟩, d4, ?_⟩, fun f => ?_⟩
    · dsimp only
      simp only [cntB]
      rw [← b4]
    · dsimp only
      rw [if_pos hi]
      show f_X12_characters_B17b (f_X12_characters_L17 f) (nI m) (nI c) 1 w2 = _
      unfold f_X12_characters_B17b
      rw [if_neg one_ne, c1, bnd2_some, d1, bnd2_some, bnd2_some, nI_1]
      cases HVb n T m gens (dgL m gens.length i) <;> simp [one_ne]
  · rintro f ⟨w2, c⟩ _
    dsimp only
    rw [if_neg (Nat.lt_irrefl _)]
    show f_X12_characters_B17b (f_X12_characters_L17 f) (nI m) (nI c) 0 w2 = _
    unfold f_X12_characters_B17b
    rw [if_pos rfl]
theorem y_walks {w : Wd} (hv : envY n T iv gens hd h0 hb w) (hg : Gp n T iv) (hO : HO n T gens hd h0 hb) (h0m : 0 < m) (hm : m ≤ 16) {t : Nat} (ht : t < 2 ^ 31) : ∃ w', chK w w' ∧ ((∃ s φ, (CL n T m gens)[t]? = some s ∧ HOM n T m φ ∧ gens.map φ = s ∧ f_X12_walks (nI m) (nI t) w = some (0, w') ∧ ∀ x, x < n → w'.1 62 x = nI (φ x)) ∨ ((CL n T m gens).length ≤ t ∧ f_X12_walks (nI m) (nI t) w = some (-1, w'))) := by
  have hl4 := hO.1
  have hN : 0 < m ^ gens.length := Nat.pow_pos h0m
  have hNl := row_le (gens := gens) hm hl4
  obtain ⟨w1, a1, a2, a3, a4⟩ := y_first w
  have key : ∀ d c w2 f, c + d = m ^ gens.length → d < f → chK w w2 → (c < m ^ gens.length → RI w2 m gens.length c) → cntB (fun c => HVb n T m gens (dgL m gens.length c)) c ≤ t → ∃ w', chK w w' ∧ ((∃ s φ, (CL n T m gens)[t]? = some s ∧ HOM n T m φ ∧ gens.map φ = s ∧ f_X12_walks_L9 f (nI m) (nI (t - cntB (fun c => HVb n T m gens (dgL m gens.length c)) c)) (if c < m ^ gens.length then 1 else 0) w2 = some (0, w') ∧ ∀ x, x < n → w'.1 62 x = nI (φ x)) ∨ ((CL n T m gens).length ≤ t ∧ f_X12_walks_L9 f (nI m) (nI (t - cntB (fun c => HVb n T m gens (dgL m gens.length c)) c)) (if c < m ^ gens.length then 1 else 0) w2 = some (-1, w'))) := by
    intro d
    induction d with
    | zero =>
      intro c w2 f hc hf k1 k2 k3
      obtain ⟨f, rfl⟩ : ∃ q, f = q + 1 := ⟨f - 1, by omega⟩
      have e : c = m ^ gens.length := by omega
      refine ⟨w2, k1, Or.inr ⟨by rw [CL_len, ← e]; exact k3, ?_⟩⟩
      rw [if_neg (by omega)]
      rfl
    | succ d ih =>
      intro c w2 f hc hf k1 k2 k3
      obtain ⟨f, rfl⟩ : ∃ q, f = q + 1 := ⟨f - 1, by omega⟩
      have hcl : c < m ^ gens.length := by omega
      have hv2 := k1.env hv
      obtain ⟨w3, c1, c2, c3, c4⟩ := y_charstep hv2 hg hO h0m hm (k2 hcl)
      have ck3 : chK w w3 := ⟨fun k x1 x2 => by rw [c2 k x1, k1.1 k x1 x2], by rw [c3, k1.2]⟩
      obtain ⟨w4, d1, d2, d3, d4⟩ := y_next (w := w3) h0m hm hl4 hcl (by rw [c2 44 (by decide)]; exact hv2.2.1) (RI_cong (k2 hcl) (c2 63 (by decide)))
      have ck4 : chK w w4 := ⟨fun k x1 x2 => by rw [d2 k x2, ck3.1 k x1 x2], by rw [d3, ck3.2]⟩
      rw [if_pos hcl]
      have cs : cntB (fun c => HVb n T m gens (dgL m gens.length c)) (c + 1) = cntB (fun c => HVb n T m gens (dgL m gens.length c)) c + if HVb n T m gens (dgL m gens.length c) then 1 else 0 := rfl
      obtain ⟨A, hA⟩ : ∃ A, A = cntB (fun c => HVb n T m gens (dgL m gens.length c)) c := ⟨_, rfl⟩
      rw [← hA] at k3 cs ⊢
      have eL : ∀ x, f_X12_walks_B9b (f_X12_walks_L9 f) (nI m) (nI (t - A)) 1 w2 = x → f_X12_walks_L9 (f + 1) (nI m) (nI (t - A)) 1 w2 = x := fun x h => h
      cases hb' : HVb n T m gens (dgL m gens.length c) with
      | false =>
        rw [hb', if_neg Bool.false_ne_true, Nat.add_zero] at cs
        have := ih (c + 1) w4 f (by omega) (by omega) ck4 d4 (by rw [cs]; exact k3)
        rw [cs] at this
        have st : f_X12_walks_L9 (f + 1) (nI m) (nI (t - A)) 1 w2 = f_X12_walks_L9 f (nI m) (nI (t - A)) (if c + 1 < m ^ gens.length then 1 else 0) w4 := by
          apply eL
          unfold f_X12_walks_B9b
          rw [if_neg one_ne, c1, hb', bnd2_some, if_neg Bool.false_ne_true, if_pos rfl, d1, bnd2_some]
        rw [st]; exact this
      | true =>
        rw [hb', if_pos rfl] at cs
        rcases Nat.lt_or_ge A t with q | q
        · have := ih (c + 1) w4 f (by omega) (by omega) ck4 d4 (by rw [cs]; omega)
          rw [cs] at this
          have st : f_X12_walks_L9 (f + 1) (nI m) (nI (t - A)) 1 w2 = f_X12_walks_L9 f (nI m) (nI (t - (A + 1))) (if c + 1 < m ^ gens.length then 1 else 0) w4 := by
            apply eL
            obtain ⟨z, hz⟩ : ∃ z, t - A = z + 1 := ⟨t - A - 1, by omega⟩
            unfold f_X12_walks_B9b
            rw [if_neg one_ne, c1, hb', bnd2_some, if_pos rfl, if_neg one_ne, hz, if_neg (nI_ne0 (by omega) (by omega)), d1, bnd2_some, pk_m1, show t - (A + 1) = z by omega]
          rw [st]; exact this
        · have e : A = t := by omega
          obtain ⟨φ, p1, p2, p3⟩ := c4 hb'
          have hat := CL_at hcl hb'
          rw [← hA, e] at hat
          refine ⟨w3, ck3, Or.inl ⟨_, φ, hat, p1, p2, eL _ ?_, p3⟩⟩
          unfold f_X12_walks_B9b
          rw [if_neg one_ne, c1, hb', bnd2_some, if_pos rfl, if_neg one_ne, e, Nat.sub_self, if_pos (show nI 0 = 0 from rfl)]
  obtain ⟨w', g1, g2⟩ := key (m ^ gens.length) 0 w1 FU (by omega) (FU_big (by omega)) ⟨fun k _ h => a2 k h, a3⟩ (fun _ => a4 m gens.length (by omega)) (Nat.zero_le _)
  rw [if_pos hN] at g2
  refine ⟨w', g1, ?_⟩
  unfold f_X12_walks
  rw [a1, bnd_some]
  exact g2
theorem x_value {w : Wd} {R : List (List Nat)} (hR : R.length ≤ 16) {i : Nat} (hi : i < R.length) (h4 : w.1 32 4 = nI R.length) {φ : Nat → Nat} (h : ∀ x, x < n → w.1 33 (16 * i + x) = nI (φ x)) (hn : n ≤ 16) {e : Nat} (he : e < n) : f_X5_valueOf (nI i) (nI e) w = some (nI (φ e)) := by
  unfold f_X5_valueOf
  rw [if_neg (nI_pos (by omega)), h4, if_neg (nI_ge hi (by omega)), m_mask15 (by omega), show nI i * (16 : Int32) = nI (i * 16) from pk_mul i 16, nI_add, m_rd (by omega) (by decide), show i * 16 + e = 16 * i + e by omega, h e he]
theorem x_lift {w : Wd} (hG : GX w n T iv) {R : List (List Nat)} (hR : R.length ≤ 16) {i : Nat} (hi : i < R.length) (h4 : w.1 32 4 = nI R.length) {φ : Nat → Nat} (h : ∀ x, x < n → w.1 33 (16 * i + x) = nI (φ x)) (hφ : ∀ x, x < n → φ x < 16) (hn : n ≤ 16) {N : Nat} (hN : N < 2 ^ 16) : f_X5_liftOf (nI i) (nI N) w = some (nI (lf n φ N)) := by
  unfold f_X5_liftOf
  have key := lup (fun f e (acc : Nat) => f_X5_liftOf_L5 f (nI i) (nI N) (nI acc) (nI e) w) n (fun e acc => acc ||| (if N.testBit (φ e) then 2 ^ e else 0)) (fun acc => some (nI acc)) (fun _ _ => True) ?_ (fun _ _ _ _ => trivial) ?_ n 0 0 FU (by omega) (FU_big (by omega)) trivial
  · exact key.1
  · intro f e acc he _
    have := hφ e he
    show f_X5_liftOf_B5b (f_X5_liftOf_L5 f) (nI i) (nI N) (nI acc) (nI e) w = _
    unfold f_X5_liftOf_B5b
    rw [hG.1, if_neg (nI_ge he (by omega)), x_value hR hi h4 h hn he, bnd_some, m_shl1 (by omega), m_or, nI_1]
    cases hb : N.testBit (φ e) with
    | true => rw [if_neg (by rw [x_bit0 (lt31 hN) (by omega), hb]; decide)]; rfl
    | false => rw [if_pos ((x_bit0 (lt31 hN) (by omega)).mpr hb)]; simp
  · intro f acc _
    show f_X5_liftOf_B5b (f_X5_liftOf_L5 f) (nI i) (nI N) (nI acc) (nI n) w = _
    unfold f_X5_liftOf_B5b
    rw [hG.1, if_pos (nI_le (Nat.le_refl _) (by omega))]
theorem y_lift {w : Wd} (hM : GM w n T iv) {φ : Nat → Nat} (h : ∀ x, x < n → w.1 62 x = nI (φ x)) (hφ : ∀ x, x < n → φ x < 16) (hn : n ≤ 16) {N : Nat} (hN : N < 2 ^ 16) : f_X12_liftNow (nI N) w = some (nI (lf n φ N)) := by
  unfold f_X12_liftNow
  have key := lup (fun f e (acc : Nat) => f_X12_liftNow_L4 f (nI N) (nI acc) (nI e) w) n (fun e acc => acc ||| (if N.testBit (φ e) then 2 ^ e else 0)) (fun acc => some (nI acc)) (fun _ _ => True) ?_ (fun _ _ _ _ => trivial) ?_ n 0 0 FU (by omega) (FU_big (by omega)) trivial
  · exact key.1
  · intro f e acc he _
    have := hφ e he
    show f_X12_liftNow_B4b (f_X12_liftNow_L4 f) (nI N) (nI acc) (nI e) w = _
    unfold f_X12_liftNow_B4b
    rw [hM.1, if_neg (nI_ge he (by omega)), m_rd (by omega) (by decide), h e he, m_shl1 (by omega), m_or, nI_1]
    cases hb : N.testBit (φ e) with
    | true => rw [if_neg (by rw [y_has0 (lt31 hN) (by omega), hb]; decide)]; rfl
    | false => rw [if_pos ((y_has0 (lt31 hN) (by omega)).mpr hb)]; simp
  · intro f acc _
    show f_X12_liftNow_B4b (f_X12_liftNow_L4 f) (nI N) (nI acc) (nI n) w = _
    unfold f_X12_liftNow_B4b
    rw [hM.1, if_pos (nI_le (Nat.le_refl _) (by omega))]
/-! the calls -/
def hoC (k : Nat) : Prop := k = 32 ∨ k = 33 ∨ k = 34 ∨ k = 35 ∨ k = 36 ∨ k = 62 ∨ k = 63
def hoD (n : Nat) (T : Nat → Nat → Nat) (gens : List Nat) (w w2 : Wd) : Prop := HRI n T gens w2 ∧ (∀ k, ¬ hoC k → w2.1 k = w.1 k) ∧ w2.2 = w.2
theorem HRI_cong {w w' : Wd} (h : HRI n T gens w) (e1 : w'.1 36 = w.1 36) (e2 : w'.1 34 = w.1 34) (e3 : w'.1 32 = w.1 32) (e4 : w'.1 33 = w.1 33) : HRI n T gens w' := by
  unfold HRI HR hrw at *
  rw [e1, e2, e3, e4]; exact h
theorem hoD_of {w w1 w2 : Wd} (h1 : 1 ≤ m) (h2 : m ≤ 16) (a2 : HR n T gens w1 m) (a3 : w1.1 36 0 = 0) (a4 : ∀ k, k ≠ 32 → k ≠ 33 → k ≠ 34 → k ≠ 35 → k ≠ 36 → w1.1 k = w.1 k) (a5 : w1.2 = w.2) (b : chK w1 w2) : hoD n T gens w w2 := by
  refine ⟨HRI_cong ⟨a3, Or.inr ⟨m, h1, h2, a2⟩⟩ (b.1 36 (by decide) (by decide)) (b.1 34 (by decide) (by decide)) (b.1 32 (by decide) (by decide)) (b.1 33 (by decide) (by decide)), fun k hk => ?_, b.2.trans a5⟩
  unfold hoC at hk
  rw [b.1 k (by omega) (by omega), a4 k (by omega) (by omega) (by omega) (by omega) (by omega)]
theorem hoD_rfl {w : Wd} (h : HRI n T gens w) : hoD n T gens w w := ⟨h, fun _ _ => rfl, rfl⟩
theorem c_characters {w : Wd} (hG : GX w n T iv) (hv : envY n T iv gens hd h0 hb w) (hg : Gp n T iv) (hB : BX w gens ord frm by_ rch) (hO : BO n T gens ord frm by_ rch) (hH : HO n T gens hd h0 hb) (hI : HRI n T gens w) (hC : ∀ m, 1 ≤ m → m ≤ 16 → (CL n T m gens).length ≤ 16) (a : Int32) : ∃ r w1 w2, f_X11_characters a w = some (r, w1) ∧ f_X12_characters a w1 = some (r, w2) ∧ hoD n T gens w w2 := by
  unfold f_X11_characters f_X12_characters
  rcases ring_or a with ⟨m, h1, h2, rfl, e1, e2⟩ | ⟨e1, e2⟩
  · obtain ⟨w1, a1, a2, a3, a4, a5⟩ := x_into hG hg hB hO h1 h2 (hC m h1 h2) hI
    have e := fun k (q : 37 ≤ k) => a4 k (by omega) (by omega) (by omega) (by omega) (by omega)
    obtain ⟨w2, b1, b2⟩ := y_chars (envY_cong hv (fun q _ _ => e q (by omega)) (by rw [e 44 (by decide)]) (by rw [e 44 (by decide)])) hg hH h1 h2
    exact ⟨_, w1, w2, by rw [e1, if_neg one_ne, a1, bnd2_some], by rw [e2, if_neg one_ne]; exact b1, hoD_of h1 h2 a2 a3 a4 a5 b2⟩
  · exact ⟨-1, w, w, by simp only [e1, ↓reduceIte], by simp only [e2, ↓reduceIte], hoD_rfl hI⟩
theorem c_character {w : Wd} (hG : GX w n T iv) (hv : envY n T iv gens hd h0 hb w) (hg : Gp n T iv) (hB : BX w gens ord frm by_ rch) (hO : BO n T gens ord frm by_ rch) (hH : HO n T gens hd h0 hb) (hI : HRI n T gens w) (hC : ∀ m, 1 ≤ m → m ≤ 16 → (CL n T m gens).length ≤ 16) (a b c : Int32) : ∃ r w1 w2, f_X11_character a b c w = some (r, w1) ∧ f_X12_character a b c w1 = some (r, w2) ∧ hoD n T gens w w2 := by
  have h16 := hg.1.2
  unfold f_X11_character f_X12_character
  rcases ring_or a with ⟨m, h1, h2, rfl, e1, e2⟩ | ⟨e1, e2⟩
  · rcases elem_or hG hv.1 hg c with ⟨x, hx, rfl, c1, c2⟩ | ⟨c1, c2⟩
    · by_cases hb0 : (0 : Int32) ≤ b
      · obtain ⟨t, ht, rfl⟩ := nI_of (x := b) (by rw [Int32.not_lt]; exact hb0)
        obtain ⟨w1, a1, a2, a3, a4, a5⟩ := x_into hG hg hB hO h1 h2 (hC m h1 h2) hI
        have e := fun k (q : 37 ≤ k) => a4 k (by omega) (by omega) (by omega) (by omega) (by omega)
        have hCm := hC m h1 h2
        obtain ⟨w2, b1, b2⟩ := y_walks (envY_cong hv (fun q _ _ => e q (by omega)) (by rw [e 44 (by decide)]) (by rw [e 44 (by decide)])) hg hH h1 h2 ht
        have hD := hoD_of h1 h2 a2 a3 a4 a5 b1
        rcases b2 with ⟨s, φ, d1, d2, d3, d4, d5⟩ | ⟨d1, d2⟩
        · have hlt := (List.getElem?_eq_some_iff.mp d1).1
          obtain ⟨ψ, p1, p2, p3⟩ := a2.2.2 t s d1
          have eq := hom_uniq2 hg hH d2 p1 (d3.trans p2.symm) x hx
          refine ⟨nI (ψ x), w1, w2, ?_, ?_, hD⟩
          · rw [e1, if_neg one_ne, c1, if_neg one_ne, if_pos hb0, a1, bnd2_some, if_neg (nI_ge hlt (by omega)), x_value hCm hlt a2.2.1 p3 h16 hx, bnd_some]
          · rw [e2, if_neg one_ne, if_neg (nI_pos ht), isE_cong (w := w) (by rw [e 44 (by decide)]), c2, if_neg one_ne, d4, bnd2_some, if_pos (by decide), m_rd (by omega) (by decide), d5 x hx, eq]
        · refine ⟨-2, w1, w2, ?_, ?_, hD⟩
          · rw [e1, if_neg one_ne, c1, if_neg one_ne, if_pos hb0, a1, bnd2_some, if_pos (nI_le d1 ht)]
          · rw [e2, if_neg one_ne, if_neg (nI_pos ht), isE_cong (w := w) (by rw [e 44 (by decide)]), c2, if_neg one_ne, d2, bnd2_some, if_neg (by decide)]
      · have hb1 : b < 0 := by rw [← Int32.not_le]; exact hb0
        exact ⟨-1, w, w, by rw [e1, if_neg one_ne, c1, if_neg one_ne, if_neg hb0], by rw [e2, if_neg one_ne, if_pos hb1], hoD_rfl hI⟩
    · refine ⟨-1, w, w, by rw [e1, if_neg one_ne, c1, if_pos rfl], ?_, hoD_rfl hI⟩
      rw [e2, if_neg one_ne, c2, if_pos rfl]
      split <;> rfl
  · exact ⟨-1, w, w, by simp only [e1, ↓reduceIte], by simp only [e2, ↓reduceIte], hoD_rfl hI⟩
theorem shl_m1 : ∀ m, m < 17 → (-1 : Int32) <<< (nI m &&& 31) = (nI (2 ^ m - 1) ^^^ (-1)) := by decide +kernel
theorem num_or (hm1 : 1 ≤ m) (hm : m ≤ 16) (l : Int32) : (∃ N, N < 2 ^ m ∧ l = nI N ∧ (l &&& ((-1) <<< (nI m &&& 31)) = 0) ∧ f_X12_in l 0 ((1 <<< (nI m &&& 31)) - 1) = 1) ∨ (¬ (l &&& ((-1) <<< (nI m &&& 31)) = 0) ∧ f_X12_in l 0 ((1 <<< (nI m &&& 31)) - 1) = 0) := by
  have h65 := p16 hm
  have h2 : 2 ≤ 2 ^ m := by have := Nat.pow_le_pow_right (n := 2) (by decide) hm1; omega
  have e1 : (1 : Int32) <<< (nI m &&& 31) - 1 = nI (2 ^ m - 1) := by
    rw [m_shl1 (by omega)]
    obtain ⟨q, hq⟩ : ∃ q, 2 ^ m = q + 1 := ⟨2 ^ m - 1, by omega⟩
    rw [hq, nI_pred]; rfl
  have key : ∀ X, X < 2 ^ 32 → ((nI X &&& ((-1) <<< (nI m &&& 31)) = 0) ↔ X < 2 ^ m) := fun X hX => by
    rw [shl_m1 m (by omega), m_compl32 hX, nIz32 (by
      apply lt_two
      intro x hx
      exact bit_lt hX ((dif_bit _ _ _).mp hx).1), within_iff]
  unfold f_X12_in
  rw [e1]
  rcases tri_or l (lo := 0) (hi := 2 ^ m - 1) (by omega) (by omega) with ⟨j, -, hj, rfl⟩ | h | ⟨q1, q2, q3, q4, q5⟩
  · exact Or.inl ⟨j, by omega, rfl, (key j (by omega)).mpr (by omega), by rw [if_neg (nI_pos (by omega)), if_neg (nI_nlt hj (by omega))]⟩
  · have h : l < 0 := h
    right
    refine ⟨fun z => ?_, by rw [if_pos h]⟩
    obtain ⟨X, hX, rfl⟩ := of32 l
    have := (key X hX).mp z
    exact nI_pos (show X < 2 ^ 31 by omega) h
  · right
    refine ⟨fun z => ?_, by rw [if_neg q5, if_pos q2]⟩
    obtain ⟨X, hX, rfl⟩ := of32 l
    have := (key X hX).mp z
    exact nI_nlt (a := 2 ^ m - 1) (b := X) (by omega) (by omega) q2
theorem c_lift {w : Wd} (hG : GX w n T iv) (hv : envY n T iv gens hd h0 hb w) (hg : Gp n T iv) (hB : BX w gens ord frm by_ rch) (hO : BO n T gens ord frm by_ rch) (hH : HO n T gens hd h0 hb) (hI : HRI n T gens w) (hC : ∀ m, 1 ≤ m → m ≤ 16 → (CL n T m gens).length ≤ 16) (a b c : Int32) : ∃ r w1 w2, f_X11_lift a b c w = some (r, w1) ∧ f_X12_lift a b c w1 = some (r, w2) ∧ hoD n T gens w w2 := by
  have h16 := hg.1.2
  unfold f_X11_lift f_X12_lift
  rcases ring_or a with ⟨m, h1, h2, rfl, e1, e2⟩ | ⟨e1, e2⟩
  · by_cases hb0 : b < 0
    · exact ⟨-1, w, w, by rw [e1, if_neg one_ne, if_pos hb0], by rw [e2, if_neg one_ne, if_pos hb0], hoD_rfl hI⟩
    · rcases num_or h1 h2 c with ⟨N, hN, rfl, c1, c2⟩ | ⟨c1, c2⟩
      · obtain ⟨t, ht, rfl⟩ := nI_of hb0
        obtain ⟨w1, a1, a2, a3, a4, a5⟩ := x_into hG hg hB hO h1 h2 (hC m h1 h2) hI
        have e := fun k (q : 37 ≤ k) => a4 k (by omega) (by omega) (by omega) (by omega) (by omega)
        have hCm := hC m h1 h2
        have hv1 := envY_cong (w' := w1) hv (fun q _ _ => e q (by omega)) (by rw [e 44 (by decide)]) (by rw [e 44 (by decide)])
        obtain ⟨w2, b1, b2⟩ := y_walks hv1 hg hH h1 h2 ht
        have hD := hoD_of h1 h2 a2 a3 a4 a5 b1
        have hN6 : N < 2 ^ 16 := Nat.lt_of_lt_of_le hN (Nat.pow_le_pow_right (by decide) h2)
        rcases b2 with ⟨s, φ, d1, d2, d3, d4, d5⟩ | ⟨d1, d2⟩
        · have hlt := (List.getElem?_eq_some_iff.mp d1).1
          obtain ⟨ψ, p1, p2, p3⟩ := a2.2.2 t s d1
          have eq := hom_uniq2 hg hH d2 p1 (d3.trans p2.symm)
          refine ⟨nI (lf n ψ N), w1, w2, ?_, ?_, hD⟩
          · rw [e1, if_neg one_ne, if_neg hb0, if_pos c1, a1, bnd2_some, if_neg (nI_ge hlt (by omega)), x_lift (GX_cong hG (a4 6 (by decide) (by decide) (by decide) (by decide) (by decide)) (a4 9 (by decide) (by decide) (by decide) (by decide) (by decide)) (a4 10 (by decide) (by decide) (by decide) (by decide) (by decide))) hCm hlt a2.2.1 p3 (fun x hx => by have := p1.1 x hx; omega) h16 hN6, bnd_some]
          · rw [e2, if_neg one_ne, if_neg hb0, c2, if_neg one_ne, d4, bnd2_some, if_pos (by decide), y_lift (b1.env hv1).1 d5 (fun x hx => by have := d2.1 x hx; omega) h16 hN6, bnd_some, lf_cong eq]
        · refine ⟨-2, w1, w2, ?_, ?_, hD⟩
          · rw [e1, if_neg one_ne, if_neg hb0, if_pos c1, a1, bnd2_some, if_pos (nI_le d1 ht)]
          · rw [e2, if_neg one_ne, if_neg hb0, c2, if_neg one_ne, d2, bnd2_some, if_neg (by decide)]
      · exact ⟨-1, w, w, by rw [e1, if_neg one_ne, if_neg hb0, if_neg c1], by rw [e2, if_neg one_ne, if_neg hb0, c2, if_pos rfl], hoD_rfl hI⟩
  · exact ⟨-1, w, w, by simp only [e1, ↓reduceIte], by simp only [e2, ↓reduceIte], hoD_rfl hI⟩
theorem mid_lt {m : Nat} (hm : m ≤ 16) : mid m < 2 ^ 16 := by
  apply lt_two
  intro x hx
  unfold mid at hx
  obtain ⟨e, he, h⟩ := orF_bit.mp hx
  split at h
  · rw [← (two_bit _ _).mp h]; omega
  · simp at h
/-- how many the lift by a row has -/
noncomputable def vl (n : Nat) (T : Nat → Nat → Nat) (m : Nat) (gens : List Nat) (N : Nat) (s : List Nat) : Nat := @dite Nat (∃ φ, HOM n T m φ ∧ gens.map φ = s) (Classical.propDecidable _) (fun h => pc (lf n (Classical.choose h) N)) (fun _ => 0)
theorem vl_of (hg : Gp n T iv) (hO : HO n T gens hd h0 hb) {N : Nat} {s : List Nat} {φ : Nat → Nat} (h1 : HOM n T m φ) (h2 : gens.map φ = s) : vl n T m gens N s = pc (lf n φ N) := by
  unfold vl
  have h : ∃ φ, HOM n T m φ ∧ gens.map φ = s := ⟨φ, h1, h2⟩
  rw [dif_pos h]
  have hs := Classical.choose_spec h
  rw [lf_cong (hom_uniq2 hg hO hs.1 h1 (hs.2.trans h2.symm))]
theorem foldl_getD {σ : Type} (g : List Nat → σ → σ) : ∀ (Q : List (List Nat)) (s : σ), rng (fun i s => g (Q.getD i []) s) 0 Q.length s = Q.foldl (fun s x => g x s) s := by
  intro Q s
  rw [rng_foldl]
  have : Q = (List.range Q.length).map (fun i => Q.getD i []) := by
    apply List.ext_getElem
    · simp
    · intro i h1 h2; simp [h1]
  conv => rhs; rw [this]
  rw [List.foldl_map]
theorem c_lifted {w : Wd} (hG : GX w n T iv) (hv : envY n T iv gens hd h0 hb w) (hg : Gp n T iv) (hB : BX w gens ord frm by_ rch) (hO : BO n T gens ord frm by_ rch) (hH : HO n T gens hd h0 hb) (hI : HRI n T gens w) (hC : ∀ m, 1 ≤ m → m ≤ 16 → (CL n T m gens).length ≤ 16) (a : Int32) : ∃ r w1 w2, f_X11_lifted a w = some (r, w1) ∧ f_X12_lifted a w1 = some (r, w2) ∧ hoD n T gens w w2 := by
  have h16 := hg.1.2
  unfold f_X11_lifted f_X12_lifted
  rcases ring_or a with ⟨m, h1, h2, rfl, e1, e2⟩ | ⟨e1, e2⟩
  · obtain ⟨w1, a1, a2, a3, a4, a5⟩ := x_into hG hg hB hO h1 h2 (hC m h1 h2) hI
    have e := fun k (q : 37 ≤ k) => a4 k (by omega) (by omega) (by omega) (by omega) (by omega)
    have hCm := hC m h1 h2
    have hv1 := envY_cong (w' := w1) hv (fun q _ _ => e q (by omega)) (by rw [e 44 (by decide)]) (by rw [e 44 (by decide)])
    have hG1 : GX w1 n T iv := GX_cong hG (a4 6 (by decide) (by decide) (by decide) (by decide) (by decide)) (a4 9 (by decide) (by decide) (by decide) (by decide) (by decide)) (a4 10 (by decide) (by decide) (by decide) (by decide) (by decide))
    have hmid := mid_lt h2
    have hl4 := hH.1
    have hNr : 0 < m ^ gens.length := Nat.pow_pos h1
    have hNl := row_le (gens := gens) h2 hl4
    obtain ⟨g, hgd⟩ : ∃ g : List Nat → Nat → Nat, g = fun s M => if M < vl n T m gens (mid m) s then vl n T m gens (mid m) s else M := ⟨_, rfl⟩
    have gle : ∀ s M, M ≤ 16 → g s M ≤ 16 := fun s M hM => by
      rw [hgd]
      show (if M < vl n T m gens (mid m) s then vl n T m gens (mid m) s else M) ≤ 16
      split
      · unfold vl; split
        · exact pc_le _
        · omega
      · exact hM
    have kx := lup (fun f i (M : Nat) => f_X11_lifted_L23 f (nI m) (nI M) (nI (CL n T m gens).length) (nI i) w1) (CL n T m gens).length (fun i M => g ((CL n T m gens).getD i []) M) (fun M => some (nI M, w1)) (fun _ M => M ≤ 16) ?_ (fun i M _ h => gle _ M h) ?_ (CL n T m gens).length 0 0 FU (by omega) (FU_big (by omega)) (by omega)
    · obtain ⟨w0, b1, b2, b3, b4⟩ := y_first w1
      have ky := lrun (fun f i (s : Wd × Nat) => f_X12_lifted_L17 f (nI m) (nI s.2) (if i < m ^ gens.length then 1 else 0) s.1) (m ^ gens.length) (fun s => some (nI s.2, s.1)) (fun i s => chK w1 s.1 ∧ (i < m ^ gens.length → RI s.1 m gens.length i) ∧ s.2 ≤ 16 ∧ s.2 = rng (fun c M => if HVb n T m gens (dgL m gens.length c) then g (dgL m gens.length c) M else M) 0 i 0) ?_ ?_ (m ^ gens.length) 0 (w0, 0) FU (by omega) (FU_big (by omega)) ⟨⟨fun k _ h => b2 k h, b3⟩, fun _ => b4 m gens.length (by omega), by dsimp only; omega, rfl⟩
      · obtain ⟨⟨w2, M⟩, ⟨c1, c2, c3, c4⟩, c5⟩ := ky
        dsimp only at c1 c2 c3 c4 c5
        rw [if_pos hNr] at c5
        refine ⟨nI M, w1, w2, ?_, ?_, hoD_of h1 h2 a2 a3 a4 a5 c1⟩
        · rw [e1, if_neg one_ne, a1, bnd2_some]
          refine kx.1.trans ?_
          rw [foldl_getD g, c4, rng_foldl, CL_dg, List.foldl_map, List.foldl_filter]
        · rw [e2, if_neg one_ne, b1, bnd_some]; exact c5
      · rintro i ⟨w3, M⟩ hi ⟨c1, c2, c3, c4⟩
        dsimp only at c1 c2 c3 c4
        have hv3 := c1.env hv1
        obtain ⟨w4, d1, d2, d3, d4⟩ := y_charstep hv3 hg hH h1 h2 (c2 hi)
        obtain ⟨w5, f1, f2, f3, f4⟩ := y_next (w := w4) h1 h2 hl4 hi (by rw [d2 44 (by decide)]; exact hv3.2.1) (RI_cong (c2 hi) (d2 63 (by decide)))
        have hM4 : GM w4 n T iv := GM_cong hv3.1 (by rw [d2 44 (by decide)]) (d2 47 (by decide)) (d2 48 (by decide)) (d2 49 (by decide))
        refine ⟨(w5, if HVb n T m gens (dgL m gens.length i) then g (dgL m gens.length i) M else M), ⟨⟨fun k x1 x2 => by rw [f2 k x2, d2 k x1, c1.1 k x1 x2], by rw [f3, d3, c1.2]⟩, f4, ?_, ?_⟩, fun f => ?_⟩
        · dsimp only
          split
          · exact gle _ M c3
          · exact c3
        · dsimp only
          rw [rng_succ, Nat.zero_add, ← c4]
        · dsimp only
          rw [if_pos hi]
          show f_X12_lifted_B17b (f_X12_lifted_L17 f) (nI m) (nI M) 1 w3 = _
          unfold f_X12_lifted_B17b
          rw [if_neg one_ne, d1, bnd2_some]
          cases hb' : HVb n T m gens (dgL m gens.length i) with
          | false => rw [if_neg Bool.false_ne_true, if_pos rfl, f1, bnd2_some, if_neg Bool.false_ne_true]
          | true =>
            obtain ⟨φ, p1, p2, p3⟩ := d4 hb'
            have ev := vl_of hg hH (N := mid m) p1 p2
            have hpc := pc_le (lf n φ (mid m))
            rw [if_pos rfl, if_neg one_ne, y_mid h2, bnd_some, y_lift hM4 p3 (fun x hx => by have := p1.1 x hx; omega) h16 hmid, bnd_some, y_ones (le16 lf_lt h16), bnd_some, f1, bnd2_some, bnd2_some, if_pos rfl]
            simp only [m_le (show pc (lf n φ (mid m)) < 2 ^ 31 by omega) (show M < 2 ^ 31 by omega)]
            rw [hgd]
            show _ = f_X12_lifted_L17 f (nI m) (nI (if M < vl n T m gens (mid m) (dgL m gens.length i) then vl n T m gens (mid m) (dgL m gens.length i) else M)) _ w5
            rw [ev]
            by_cases q : pc (lf n φ (mid m)) ≤ M
            · rw [if_pos q, if_neg (show ¬ M < pc (lf n φ (mid m)) by omega)]
            · rw [if_neg q, if_pos (show M < pc (lf n φ (mid m)) by omega)]
      · rintro f ⟨w3, M⟩ _
        dsimp only
        rw [if_neg (Nat.lt_irrefl _)]
        show f_X12_lifted_B17b (f_X12_lifted_L17 f) (nI m) (nI M) 0 w3 = _
        unfold f_X12_lifted_B17b
        rw [if_pos rfl]
    · intro f i M hi hM
      have hgt := List.getElem?_eq_getElem hi
      obtain ⟨φ, p1, p2, p3⟩ := a2.2.2 i _ hgt
      have ev := vl_of hg hH (N := mid m) p1 p2
      have hpc := pc_le (lf n φ (mid m))
      have eg : (CL n T m gens).getD i [] = (CL n T m gens)[i] := by rw [List.getD_eq_getElem?_getD, hgt]; rfl
      show f_X11_lifted_B23b (f_X11_lifted_L23 f) (nI m) (nI M) (nI (CL n T m gens).length) (nI i) w1 = _
      unfold f_X11_lifted_B23b
      rw [if_neg (nI_ge hi (by omega)), x_mid h2, bnd_some, x_lift hG1 hCm hi a2.2.1 p3 (fun x hx => by have := p1.1 x hx; omega) h16 hmid, bnd_some, x_pc (le16 lf_lt h16), nI_1, eg, hgd]
      show _ = f_X11_lifted_L23 f (nI m) (nI (if M < vl n T m gens (mid m) (CL n T m gens)[i] then vl n T m gens (mid m) (CL n T m gens)[i] else M)) _ _ w1
      rw [ev]
      congr 1
      by_cases q : M < pc (lf n φ (mid m))
      · rw [if_pos q, if_pos (nI_lt q (by omega))]
      · rw [if_neg q, if_neg (nI_nlt (by omega) (by omega))]
    · intro f M hM
      show f_X11_lifted_B23b (f_X11_lifted_L23 f) (nI m) (nI M) (nI (CL n T m gens).length) (nI (CL n T m gens).length) w1 = _
      unfold f_X11_lifted_B23b
      rw [if_pos (nI_le (Nat.le_refl _) (by omega))]
  · exact ⟨-1, w, w, by simp only [e1, ↓reduceIte], by simp only [e2, ↓reduceIte], hoD_rfl hI⟩
end CHARS
