/-! turns, image, orbit, orbits -/
def TU (n : Nat) (T : Nat → Nat → Nat) (gens : List Nat) (w : Wd) : Prop := w.1 29 4 = 0 ∧ w.1 31 0 = 0 ∧ TRI n T gens w
def tuK (k : Nat) : Prop := k = 19 ∨ k = 20 ∨ k = 24 ∨ k = 25 ∨ k = 26 ∨ k = 27 ∨ k = 30 ∨ k = 31 ∨ k = 62 ∨ k = 63 ∨ k = 64
def tuD (n : Nat) (T : Nat → Nat → Nat) (gens : List Nat) (w w2 : Wd) : Prop := TU n T gens w2 ∧ FRI n T w2 ∧ (∀ k, ¬ tuK k → k ≠ 44 → w2.1 k = w.1 k) ∧ ∀ j, j ≠ 26 → w2.1 44 j = w.1 44 j
def metP (n : Nat) (w : Wd) (K : Nat → Prop) : Prop := ∀ x, x < 2 ^ n → (K x → w.1 64 x = 1) ∧ (¬ K x → w.1 64 x = 0)
section TCALLS
variable {n : Nat} {T : Nat → Nat → Nat} {iv : Nat → Nat} {gens ord hd : List Nat} {frm by_ rch h0 hb : Nat → Nat}
theorem TRI_cong {w w' : Wd} (h : TRI n T gens w) (e1 : w'.1 24 8 = w.1 24 8) (e2 : w'.1 25 = w.1 25) (e3 : w'.1 26 = w.1 26) : TRI n T gens w' := by
  unfold TRI TR rws at *
  rw [e1, e2, e3]; exact h
theorem FRI_cong {w w' : Wd} (h : FRI n T w) (e1 : w'.1 19 2 = w.1 19 2) (e2 : w'.1 20 = w.1 20) : FRI n T w' := by
  unfold FRI FR at *
  rw [e1, e2]; exact h
theorem tuD_rfl {w : Wd} (h : TU n T gens w) (h2 : FRI n T w) : tuD n T gens w w := ⟨h, h2, fun _ _ _ => rfl, fun _ _ => rfl⟩
theorem c_turns {w : Wd} (hG : GX w n T iv) (hv : envY n T iv gens hd h0 hb w) (hg : Gp n T iv) (hB : BX w gens ord frm by_ rch) (hO : BO n T gens ord frm by_ rch) (hH : HO n T gens hd h0 hb) (hT : TU n T gens w) (hF : FRI n T w) : ∃ r w1 w2, f_X11_turns w = some (r, w1) ∧ f_X12_turns w1 = some (r, w2) ∧ tuD n T gens w w2 := by
  obtain ⟨w1, a1, a2, a3, a4⟩ := x_turns hG hg hB hO hT.1 hT.2.1 hT.2.2
  have e := fun k (q : 32 ≤ k) => a3.1 k (by omega) (by omega) (by omega) (by omega) (by omega)
  obtain ⟨w2, b1, b2, b3⟩ := y_turns (envY_cong hv (fun q _ _ => e q (by omega)) (by rw [e 44 (by decide)]) (by rw [e 44 (by decide)])) hg hH
  refine ⟨_, w1, w2, by unfold f_X11_turns; rw [a1, bnd2_some], b1, ⟨by rw [b2 29 (by decide) (by decide), a3.1 29 (by decide) (by decide) (by decide) (by decide) (by decide)]; exact hT.1, by rw [b2 31 (by decide) (by decide)]; exact a4, TRI_cong (Or.inr a2) (by rw [b2 24 (by decide) (by decide)]) (b2 25 (by decide) (by decide)) (b2 26 (by decide) (by decide))⟩, FRI_cong hF (by rw [b2 19 (by decide) (by decide), a3.1 19 (by decide) (by decide) (by decide) (by decide) (by decide)]) (by rw [b2 20 (by decide) (by decide), a3.1 20 (by decide) (by decide) (by decide) (by decide) (by decide)]), fun k hk h44 => ?_, fun j hj => ?_⟩
  · unfold tuK at hk
    rw [b2 k (by omega) (by omega), a3.1 k (by omega) (by omega) (by omega) (by omega) (by omega)]
  · rw [b2 44 (by decide) (by decide), e 44 (by decide)]
theorem both_orb {w : Wd} (hG : GX w n T iv) (hv : envY n T iv gens hd h0 hb w) (hg : Gp n T iv) (hB : BX w gens ord frm by_ rch) (hO : BO n T gens ord frm by_ rch) (hH : HO n T gens hd h0 hb) (hT : TU n T gens w) (hF : FRI n T w) {S : Nat} (hS : S < 2 ^ n) (hOB : ∀ Q, OQ n T S Q → Q.length ≤ 2560) :
    ∃ w0 w1 w2 c μ, f_X10_forgetImages w = some w0 ∧ f_X10_spread (nI S) w0 = some w1 ∧ w1.1 24 9 = nI c ∧ f_X10_leastImage w1 = some (nI μ) ∧ w1.1 44 = w.1 44 ∧ f_X12_orbitOf (nI S) w1 = some (nI c, w2) ∧ w2.1 44 26 = nI μ ∧ tuD n T gens w w2 := by
  obtain ⟨w0, z1, z2, z3⟩ := x_forget w
  obtain ⟨w1, Q, a1, a2, a3, a4, a5, a6⟩ := x_spread (GX_cong hG (by rw [z2]) (by rw [z2]) (by rw [z2])) hg (BX_cong hB (by rw [z2]) (by rw [z2]) (by rw [z2]) (by rw [z2]) (by rw [z2]) (by rw [z2])) hO hH (by rw [z2]; exact hT.1) (by rw [z2]; exact hT.2.1) (TRI_cong hT.2.2 (by rw [z2]) (by rw [z2]) (by rw [z2])) hS hOB (K := fun _ => False) (fun _ _ _ h => h) (fun h => h) (fun y hy => by rw [z3 y hy]; simp)
  have hlen := hOB Q ⟨a2.1, fun x hx => (a2.2 x).mp hx⟩
  obtain ⟨μ, m1, m2⟩ := x_least a3 hg.1.2 a2 hS hlen
  have e := fun k (q : 32 ≤ k) => a6 k (by omega) (by omega) (by omega) (by omega) (by omega) (by omega)
  rw [z2] at e a6
  obtain ⟨w2, Q', μ', b1, b2, b3, b4, b5⟩ := y_orbit (envY_cong hv (fun q _ _ => e q (by omega)) (by rw [e 44 (by decide)]) (by rw [e 44 (by decide)])) hg hH hS
  have el := isOrb_len a2 b2
  have em := lstO_one m2 b4
  subst em
  have kb := fun k (h1 : k ≠ 62) (h2 : k ≠ 63) (h3 : k ≠ 64) (h4 : k ≠ 44) => b5.1 k (by unfold orK; omega) h4
  refine ⟨w0, w1, w2, Q.length, μ, z1, a1, a3.1, m1, e 44 (by decide), by rw [el]; exact b1, b3, ⟨by rw [kb 29 (by decide) (by decide) (by decide) (by decide), a6 29 (by decide) (by decide) (by decide) (by decide) (by decide) (by decide)]; exact hT.1, by rw [kb 31 (by decide) (by decide) (by decide) (by decide)]; exact a5, TRI_cong (Or.inr a4) (by rw [kb 24 (by decide) (by decide) (by decide) (by decide)]) (kb 25 (by decide) (by decide) (by decide) (by decide)) (kb 26 (by decide) (by decide) (by decide) (by decide))⟩, FRI_cong hF (by rw [kb 19 (by decide) (by decide) (by decide) (by decide), a6 19 (by decide) (by decide) (by decide) (by decide) (by decide) (by decide)]) (by rw [kb 20 (by decide) (by decide) (by decide) (by decide), a6 20 (by decide) (by decide) (by decide) (by decide) (by decide) (by decide)]), fun k hk h44 => ?_, fun j hj => ?_⟩
  · unfold tuK at hk
    rw [kb k (by omega) (by omega) (by omega) h44, a6 k (by omega) (by omega) (by omega) (by omega) (by omega) (by omega)]
  · rw [b5.2.1 j hj, e 44 (by decide)]
theorem c_image {w : Wd} (hG : GX w n T iv) (hv : envY n T iv gens hd h0 hb w) (hg : Gp n T iv) (hB : BX w gens ord frm by_ rch) (hO : BO n T gens ord frm by_ rch) (hH : HO n T gens hd h0 hb) (hT : TU n T gens w) (hF : FRI n T w) (hOB : ∀ S, S < 2 ^ n → ∀ Q, OQ n T S Q → Q.length ≤ 2560) (a : Int32) : ∃ r w1 w2, f_X11_image a w = some (r, w1) ∧ f_X12_image a w1 = some (r, w2) ∧ tuD n T gens w w2 := by
  unfold f_X11_image f_X12_image
  rcases set_or hG hv.1 hg a with ⟨S, hS, rfl, e1, e2⟩ | ⟨e1, e2⟩
  · obtain ⟨w0, w1, w2, c, μ, h1, h2, h3, h4, h5, h6, h7, h8⟩ := both_orb hG hv hg hB hO hH hT hF hS (hOB S hS)
    refine ⟨nI μ, w1, w2, ?_, ?_, h8⟩
    · rw [e1, if_neg one_ne, h1, bnd_some, h2, bnd_some, h4, bnd_some]
    · rw [isS_cong (w := w) (by rw [h5]), e2, if_neg one_ne, h6, bnd2_some, h7]
  · exact ⟨-1, w, w, by simp only [e1, ↓reduceIte], by simp only [e2, ↓reduceIte], tuD_rfl hT hF⟩
theorem c_orbit {w : Wd} (hG : GX w n T iv) (hv : envY n T iv gens hd h0 hb w) (hg : Gp n T iv) (hB : BX w gens ord frm by_ rch) (hO : BO n T gens ord frm by_ rch) (hH : HO n T gens hd h0 hb) (hT : TU n T gens w) (hF : FRI n T w) (hOB : ∀ S, S < 2 ^ n → ∀ Q, OQ n T S Q → Q.length ≤ 2560) (a : Int32) : ∃ r w1 w2, f_X11_orbit a w = some (r, w1) ∧ f_X12_orbit a w1 = some (r, w2) ∧ tuD n T gens w w2 := by
  unfold f_X11_orbit f_X12_orbit
  rcases set_or hG hv.1 hg a with ⟨S, hS, rfl, e1, e2⟩ | ⟨e1, e2⟩
  · obtain ⟨w0, w1, w2, c, μ, h1, h2, h3, h4, h5, h6, h7, h8⟩ := both_orb hG hv hg hB hO hH hT hF hS (hOB S hS)
    refine ⟨nI c, w1, w2, ?_, ?_, h8⟩
    · rw [e1, if_neg one_ne, h1, bnd_some, h2, bnd_some, h3]
    · rw [isS_cong (w := w) (by rw [h5]), e2, if_neg one_ne, h6, bnd2_some]
  · exact ⟨-1, w, w, by simp only [e1, ↓reduceIte], by simp only [e2, ↓reduceIte], tuD_rfl hT hF⟩
/-! orbits -/
noncomputable def oS (n : Nat) (T : Nat → Nat → Nat) (k : Nat) (b : Int32) (S : Nat) (s : Nat × (Nat → Prop)) : Nat × (Nat → Prop) := if dcd (fts n T k b S = true ∧ ¬ s.2 S) then (s.1 + 1, fun x => s.2 x ∨ ORB n T S x) else s
theorem oS_kcl {k S : Nat} {b : Int32} {s : Nat × (Nat → Prop)} (h : kcl n T s.2) : kcl n T (oS n T k b S s).2 := by
  unfold oS
  split
  · intro φ x hφ hx
    rcases hx with hx | hx
    · exact Or.inl (h φ x hφ hx)
    · exact Or.inr (orb_trans hx hφ)
  · exact h
/-- the reference marks all images of one set -/
theorem y_mark {w : Wd} (hv : envY n T iv gens hd h0 hb w) (hg : Gp n T iv) (hO : HO n T gens hd h0 hb) {S : Nat} (hS : S < 2 ^ n) {K : Nat → Prop} (hm : metP n w K) (hR : RI w n gens.length 0) (l1 l2 l3 : Int32) : ∃ w' : Wd, (∀ k41 : Int32 → Int32 → Int32 → Int32 → Wd → Option (Int32 × Wd), f_X12_orbits_L92 k41 FU l1 l2 l3 (nI S) 1 w = k41 l1 l2 l3 (nI (S + 1)) w') ∧ metP n w' (fun x => K x ∨ ORB n T S x) ∧ (∀ k, k ≠ 62 → k ≠ 63 → k ≠ 64 → w'.1 k = w.1 k) ∧ w'.2 = w.2 := by
  have h16 := hg.1.2
  have h1n := hg.1.1
  have hl4 := hO.1
  have h65 := p16 h16
  have hgn := fun g (h : g ∈ gens) => (hO.2.1 g h).2
  have hN : 0 < n ^ gens.length := Nat.pow_pos h1n
  have hNl : n ^ gens.length ≤ 65536 := by
    have h2 : n ^ gens.length ≤ 16 ^ gens.length := Nat.pow_le_pow_left h16 _
    have h3 : 16 ^ gens.length ≤ 16 ^ 4 := Nat.pow_le_pow_right (by decide) hl4
    omega
  have key := lrunK (fun (k41 : Int32 → Int32 → Int32 → Int32 → Wd → Option (Int32 × Wd)) f i (s : Wd) => f_X12_orbits_L92 k41 f l1 l2 l3 (nI S) (if i < n ^ gens.length then 1 else 0) s) (n ^ gens.length) (fun k41 s => k41 l1 l2 l3 (nI (S + 1)) s) (fun i s => (∀ k, k ≠ 62 → k ≠ 63 → k ≠ 64 → s.1 k = w.1 k) ∧ s.2 = w.2 ∧ (i < n ^ gens.length → RI s n gens.length i) ∧ metP n s (fun x => K x ∨ ∃ c φ, c < i ∧ AUT n T φ ∧ gens.map φ = dgL n gens.length c ∧ im n φ S = x)) ?_ ?_ (n ^ gens.length) 0 w FU (by omega) (FU_big (by omega)) ⟨fun _ _ _ _ => rfl, rfl, fun _ => hR, fun x hx => ⟨fun h => (hm x hx).1 (h.elim id (fun ⟨c, φ, z, _⟩ => by omega)), fun h => (hm x hx).2 (fun z => h (Or.inl z))⟩⟩
  · obtain ⟨w', ⟨b1, b2, b3, b4⟩, b5⟩ := key
    refine ⟨w', fun k41 => ?_, fun x hx => ?_, b1, b2⟩
    · have := b5 k41
      rw [if_pos hN] at this
      exact this
    · have e : (K x ∨ ORB n T S x) ↔ (K x ∨ ∃ c φ, c < n ^ gens.length ∧ AUT n T φ ∧ gens.map φ = dgL n gens.length c ∧ im n φ S = x) := by
        constructor
        · rintro (h | ⟨φ, p1, p2⟩)
          · exact Or.inl h
          · obtain ⟨c, hc, ec⟩ := aut_row (m := n) hgn p1.1
            exact Or.inr ⟨c, φ, hc, p1, ec, p2⟩
        · rintro (h | ⟨c, φ, -, p1, -, p2⟩)
          · exact Or.inl h
          · exact Or.inr ⟨φ, p1, p2⟩
      exact ⟨fun h => (b4 x hx).1 (e.mp h), fun h => (b4 x hx).2 (fun z => h (e.mpr z))⟩
  · rintro i w3 hi ⟨i1, i2, i3, i4⟩
    have hv3 : envY n T iv gens hd h0 hb w3 := envY_cong hv (fun q _ _ => i1 q (by omega) (by omega) (by omega)) (by rw [i1 44 (by decide) (by decide) (by decide)]) (by rw [i1 44 (by decide) (by decide) (by decide)])
    have hR3 := i3 hi
    obtain ⟨w4, b, c1, c2, c3, c4, c5⟩ := y_isTurn hv3.1 hg hv3.2 hO hR3 (fun l => Nat.mod_lt _ h1n)
    cases hbt : b with
    | false =>
      obtain ⟨w5, d1, d2, d3, d4⟩ := y_next (w := w4) h1n h16 hl4 hi (by rw [c2 44 (by decide)]; exact hv3.2.1) (RI_cong hR3 (c2 63 (by decide)))
      have no : ¬ ∃ φ, AUT n T φ ∧ gens.map φ = dgL n gens.length i := by
        rintro ⟨φ, p1, p2⟩
        have := c4.mpr ⟨φ, p1, mts_row.mp p2⟩
        rw [hbt] at this; cases this
      refine ⟨w5, ⟨fun k x1 x2 x3 => by rw [d2 k x2, c2 k x1, i1 k x1 x2 x3], by rw [d3, c3, i2], d4, fun x hx => ?_⟩, fun k41 f => ?_⟩
      · have e : (K x ∨ ∃ c φ, c < i + 1 ∧ AUT n T φ ∧ gens.map φ = dgL n gens.length c ∧ im n φ S = x) ↔ (K x ∨ ∃ c φ, c < i ∧ AUT n T φ ∧ gens.map φ = dgL n gens.length c ∧ im n φ S = x) := by
          constructor
          · rintro (h | ⟨c, φ, q1, p1, p2, p3⟩)
            · exact Or.inl h
            · by_cases z : c = i
              · subst z; exact absurd ⟨φ, p1, p2⟩ no
              · exact Or.inr ⟨c, φ, by omega, p1, p2, p3⟩
          · rintro (h | ⟨c, φ, q1, p⟩)
            · exact Or.inl h
            · exact Or.inr ⟨c, φ, by omega, p⟩
        rw [d2 64 (by decide), c2 64 (by decide)]
        exact ⟨fun h => (i4 x hx).1 (e.mp h), fun h => (i4 x hx).2 (fun z => h (e.mpr z))⟩
      · rw [if_pos hi]
        show f_X12_orbits_B92b k41 (f_X12_orbits_L92 k41 f) l1 l2 l3 (nI S) 1 w3 = _
        unfold f_X12_orbits_B92b
        rw [if_neg one_ne, c1, hbt, bnd2_some, if_neg Bool.false_ne_true, if_pos rfl, c2 44 (by decide), hv3.1.1, d1, bnd2_some]
    | true =>
      obtain ⟨φ, p1, p2, p3⟩ := c5 hbt
      have hM4 : GM w4 n T iv := GM_cong hv3.1 (by rw [c2 44 (by decide)]) (c2 47 (by decide)) (c2 48 (by decide)) (c2 49 (by decide))
      have hy := im_lt (S := S) p1.1
      obtain ⟨y, hyd⟩ : ∃ y, y = im n φ S := ⟨_, rfl⟩
      rw [← hyd] at hy
      obtain ⟨w5, hw5⟩ : ∃ w5, w5 = sI w4 64 y 1 := ⟨_, rfl⟩
      have q5 : ∀ k, k ≠ 64 → w5.1 k = w4.1 k := fun k x1 => by rw [hw5]; funext j; rw [sI_at]; simp [x1]
      obtain ⟨w6, d1, d2, d3, d4⟩ := y_next (w := w5) h1n h16 hl4 hi (by rw [q5 44 (by decide), c2 44 (by decide)]; exact hv3.2.1) (RI_cong hR3 (by rw [q5 63 (by decide), c2 63 (by decide)]))
      refine ⟨w6, ⟨fun k x1 x2 x3 => by rw [d2 k x2, q5 k x3, c2 k x1, i1 k x1 x2 x3], by rw [d3, hw5]; show w4.2 = _; rw [c3, i2], d4, fun x hx => ?_⟩, fun k41 f => ?_⟩
      · have e : (K x ∨ ∃ c φ, c < i + 1 ∧ AUT n T φ ∧ gens.map φ = dgL n gens.length c ∧ im n φ S = x) ↔ (x = y ∨ (K x ∨ ∃ c φ, c < i ∧ AUT n T φ ∧ gens.map φ = dgL n gens.length c ∧ im n φ S = x)) := by
          constructor
          · rintro (h | ⟨c, ψ, q1, r1, r2, r3⟩)
            · exact Or.inr (Or.inl h)
            · by_cases z : c = i
              · subst z
                left
                rw [← r3, hyd]
                exact im_cong (aut_uniq hg hO r1 p1 (r2.trans (mts_row.mpr p2).symm))
              · exact Or.inr (Or.inr ⟨c, ψ, by omega, r1, r2, r3⟩)
          · rintro (h | h | ⟨c, ψ, q1, p⟩)
            · exact Or.inr ⟨i, φ, by omega, p1, mts_row.mpr p2, by rw [h, hyd]⟩
            · exact Or.inl h
            · exact Or.inr ⟨c, ψ, by omega, p⟩
        have ev : w6.1 64 x = if x = y then 1 else w3.1 64 x := by
          rw [d2 64 (by decide), hw5, sI_at, c2 64 (by decide)]
          by_cases z : x = y
          · rw [if_pos ⟨rfl, z⟩, if_pos z]
          · rw [if_neg (fun t => z t.2), if_neg z]
        rw [ev]
        by_cases z : x = y
        · rw [if_pos z]
          exact ⟨fun _ => rfl, fun h => absurd (e.mpr (Or.inl z)) h⟩
        · rw [if_neg z]
          exact ⟨fun h => (i4 x hx).1 ((e.mp h).resolve_left z), fun h => (i4 x hx).2 (fun t => h (e.mpr (Or.inr t)))⟩
      · rw [if_pos hi]
        show f_X12_orbits_B92b k41 (f_X12_orbits_L92 k41 f) l1 l2 l3 (nI S) 1 w3 = _
        unfold f_X12_orbits_B92b
        rw [if_neg one_ne, c1, hbt, bnd2_some, if_pos rfl, if_neg one_ne, y_sent hM4 h16 p1.1 p3 hS, bnd_some, ← hyd, m_wr (by omega) (by decide), ← hw5, q5 44 (by decide), hM4.1, d1, bnd2_some]
  · rintro k41 f w3 _
    rw [if_neg (Nat.lt_irrefl _)]
    show f_X12_orbits_B92b k41 (f_X12_orbits_L92 k41 f) l1 l2 l3 (nI S) 0 w3 = _
    unfold f_X12_orbits_B92b
    rw [if_pos rfl, nI_1]
theorem c_orbits {w : Wd} (hG : GX w n T iv) (hv : envY n T iv gens hd h0 hb w) (hg : Gp n T iv) (hB : BX w gens ord frm by_ rch) (hO : BO n T gens ord frm by_ rch) (hH : HO n T gens hd h0 hb) (hT : TU n T gens w) (hF : (FL n T).length < 3072) (hI : FRI n T w) (hOB : ∀ S, S < 2 ^ n → ∀ Q, OQ n T S Q → Q.length ≤ 2560) (a b : Int32) : ∃ r w1 w2, f_X11_orbits a b w = some (r, w1) ∧ f_X12_orbits a b w1 = some (r, w2) ∧ tuD n T gens w w2 := by
  have h16 := hg.1.2
  have h1n := hg.1.1
  have h65 := p16 h16
  unfold f_X11_orbits f_X12_orbits
  rcases kind_or a with ⟨k, hk, rfl, e1, e2⟩ | ⟨e1, e2⟩
  · simp only [e1, e2, one_ne, ↓reduceIte]
    by_cases hb0 : (0 : Int32) ≤ b
    · simp only [hb0, ↓reduceIte]
      have hb1 : ¬ b = -1 := fun h => by rw [h] at hb0; exact absurd hb0 (by decide)
      obtain ⟨w0, z1, z2, z3⟩ := x_forget w
      rw [z1, bnd_some]
      obtain ⟨w3, t1, t2, t3, t4⟩ := x_total (GX_cong hG (by rw [z2]) (by rw [z2]) (by rw [z2])) hg hF (FRI_cong hI (by rw [z2]) (by rw [z2]))
      rw [z2] at t3
      rw [t1, bnd2_some]
      obtain ⟨Z, hZ⟩ : ∃ Z, Z = FS n T (oS n T k b) (0, fun _ => False) := ⟨_, rfl⟩
      have kx := lrun (fun f i (s : Wd × (Nat × (Nat → Prop))) => f_X11_orbits_L34 f (nI k) b (nI s.2.1) (nI (FL n T).length) (nI i) s.1) (FL n T).length (fun s => some (nI s.2.1, s.1)) (fun i s => (∀ k, ¬ tuK k → s.1.1 k = w.1 k) ∧ TU n T gens s.1 ∧ FR n T s.1 ∧ (∀ y, y < 65536 → (MK s.1 y = true ↔ s.2.2 y)) ∧ kcl n T s.2.2 ∧ s.2 = rng (fun i s => oS n T k b ((FL n T).getD i 0) s) 0 i (0, fun _ => False)) ?_ ?_ (FL n T).length 0 (w3, (0, fun _ => False)) FU (by omega) (FU_big (by omega)) ?_
      · obtain ⟨⟨w1, Z1⟩, ⟨a1, a2, a3, a4, a5, a6⟩, a7⟩ := kx
        dsimp only at a1 a2 a3 a4 a5 a6 a7
        have a6 : Z1 = Z := by rw [a6, rng_list, hZ]; rfl
        subst a6
        have hv1 : envY n T iv gens hd h0 hb w1 := envY_cong hv (fun q _ _ => a1 q (by unfold tuK; omega)) (by rw [a1 44 (by unfold tuK; omega)]) (by rw [a1 44 (by unfold tuK; omega)])
        have ky0 := lrun (fun f i (s : Wd) => f_X12_orbits_L15 f (nI k) b (nI i) s) (2 ^ n) (fun s => f_X12_orbits_L41 FU (nI k) b 0 0 s) (fun i s => (∀ k, k ≠ 64 → s.1 k = w1.1 k) ∧ s.2 = w1.2 ∧ ∀ j, j < i → s.1 64 j = 0) ?_ ?_ (2 ^ n) 0 w1 FU (by omega) (FU_big (by omega)) ⟨fun _ _ => rfl, rfl, fun j h => by omega⟩
        · obtain ⟨w4, ⟨y1, y2, y3⟩, y4⟩ := ky0
          have ky := lrun (fun f i (s : Wd × (Nat × (Nat → Prop))) => f_X12_orbits_L41 f (nI k) b (nI s.2.1) (nI i) s.1) (2 ^ n) (fun s => some (nI s.2.1, s.1)) (fun i s => (∀ k, k ≠ 62 → k ≠ 63 → k ≠ 64 → s.1.1 k = w1.1 k) ∧ s.1.2 = w1.2 ∧ metP n s.1 s.2.2 ∧ s.2 = rng (fun i s => if fr n T i then oS n T k b i s else s) 0 i (0, fun _ => False)) ?_ ?_ (2 ^ n) 0 (w4, (0, fun _ => False)) FU (by omega) (FU_big (by omega)) ⟨fun k _ _ x3 => y1 k x3, y2, fun x hx => ⟨fun h => h.elim, fun _ => y3 x hx⟩, rfl⟩
          · obtain ⟨⟨w2, Z2⟩, ⟨d1, d2, d3, d4⟩, d5⟩ := ky
            dsimp only at d1 d2 d3 d4 d5
            have d4 : Z2 = Z1 := by rw [d4, ← FL_foldl, hZ]; rfl
            subst d4
            refine ⟨nI Z2.1, w1, w2, a7, y4.trans d5, ⟨by rw [d1 29 (by decide) (by decide) (by decide)]; exact a2.1, by rw [d1 31 (by decide) (by decide) (by decide)]; exact a2.2.1, TRI_cong a2.2.2 (by rw [d1 24 (by decide) (by decide) (by decide)]) (d1 25 (by decide) (by decide) (by decide)) (d1 26 (by decide) (by decide) (by decide))⟩, FRI_cong (Or.inr a3) (by rw [d1 19 (by decide) (by decide) (by decide)]) (d1 20 (by decide) (by decide) (by decide)), fun q hq h44 => ?_, fun j hj => ?_⟩
            · have hq' := hq
              unfold tuK at hq'
              rw [d1 q (by omega) (by omega) (by omega), a1 q hq]
            · rw [d1 44 (by decide) (by decide) (by decide), a1 44 (by unfold tuK; omega)]
          · rintro i ⟨w5, Z5⟩ hi ⟨d1, d2, d3, d4⟩
            dsimp only at d1 d2 d3 d4
            have hv5 : envY n T iv gens hd h0 hb w5 := envY_cong hv1 (fun q _ _ => d1 q (by omega) (by omega) (by omega)) (by rw [d1 44 (by decide) (by decide) (by decide)]) (by rw [d1 44 (by decide) (by decide) (by decide)])
            have e4 : ∀ q, q = (if fr n T i then oS n T k b i Z5 else Z5) → q = rng (fun i s => if fr n T i then oS n T k b i s else s) 0 (i + 1) (0, fun _ => False) := fun q hq => by
              rw [rng_succ, Nat.zero_add, ← d4]; exact hq
            have skip : (¬ (fr n T i = true ∧ fts n T k b i = true ∧ ¬ Z5.2 i)) → (if fr n T i then oS n T k b i Z5 else Z5) = Z5 := fun h => by
              by_cases q : fr n T i = true
              · rw [if_pos q]; unfold oS; rw [if_neg (fun z => h ⟨q, (dcd_iff.mp z).1, (dcd_iff.mp z).2⟩)]
              · rw [if_neg q]
            have B : ∀ f, f_X12_orbits_L41 (f + 1) (nI k) b (nI Z5.1) (nI i) w5 = if nI (pc i) = b then (if w5.1 64 i = 0 then (if (fr n T i && decide (k ≤ kd n T i)) then bnd (f_X12_firstRow w5) (fun w4 => f_X12_orbits_L92 (f_X12_orbits_L41 f) FU (nI k) b (nI (Z5.1 + 1)) (nI i) 1 w4) else f_X12_orbits_L41 f (nI k) b (nI Z5.1) (nI (i + 1)) w5) else f_X12_orbits_L41 f (nI k) b (nI Z5.1) (nI (i + 1)) w5) else f_X12_orbits_L41 f (nI k) b (nI Z5.1) (nI (i + 1)) w5 := by
              intro f
              show f_X12_orbits_B41b (f_X12_orbits_L41 f) (nI k) b (nI Z5.1) (nI i) w5 = _
              unfold f_X12_orbits_B41b
              rw [if_neg (all_in hv5.1 hg hi), y_ones (le16 hi h16), bnd_some, m_rd (by omega) (by decide), y_isOf hv5.1 hg hi hk, bnd_some, nI_1, nI_1]
              cases (fr n T i && decide (k ≤ kd n T i)) <;> simp [one_ne]
            by_cases c : fr n T i = true ∧ fts n T k b i = true ∧ ¬ Z5.2 i
            · obtain ⟨c1, c2, c3⟩ := c
              have c2' := c2
              unfold fts at c2'
              simp only [hb1, decide_false, Bool.false_or, Bool.and_eq_true, decide_eq_true_eq] at c2'
              obtain ⟨w6, f1, f2, f3, f4⟩ := y_first w5
              have hv6 : envY n T iv gens hd h0 hb w6 := envY_cong hv5 (fun q _ _ => f2 q (by omega)) (by rw [f2 44 (by decide)]) (by rw [f2 44 (by decide)])
              obtain ⟨w7, g1, g2, g3, g4⟩ := y_mark hv6 hg hH hi (K := Z5.2) (fun x hx => by rw [f2 64 (by decide)]; exact d3 x hx) (f4 n gens.length (by have := hH.1; omega)) (nI k) b (nI (Z5.1 + 1))
              have eo : (if fr n T i then oS n T k b i Z5 else Z5) = (Z5.1 + 1, fun x => Z5.2 x ∨ ORB n T i x) := by
                rw [if_pos c1]; unfold oS; rw [if_pos (dcd_iff.mpr ⟨c2, c3⟩)]
              refine ⟨(w7, (Z5.1 + 1, fun x => Z5.2 x ∨ ORB n T i x)), ⟨fun q x1 x2 x3 => by rw [g3 q x1 x2 x3, f2 q x2, d1 q x1 x2 x3], by rw [g4, f3, d2], g2, e4 _ eo.symm⟩, fun f => ?_⟩
              dsimp only
              rw [B f, if_pos c2'.2, if_pos ((d3 i hi).2 c3), c1, Bool.true_and, if_pos (by simp [c2'.1]), f1, bnd_some]
              exact g1 (f_X12_orbits_L41 f)
            · refine ⟨(w5, Z5), ⟨d1, d2, d3, e4 _ (skip c).symm⟩, fun f => ?_⟩
              dsimp only
              rw [B f]
              by_cases r1 : nI (pc i) = b
              · rw [if_pos r1]
                by_cases r2 : w5.1 64 i = 0
                · rw [if_pos r2]
                  have hK : ¬ Z5.2 i := fun z => by
                    have := (d3 i hi).1 z
                    rw [r2] at this; exact absurd this.symm one_ne
                  rw [if_neg]
                  intro z
                  simp only [Bool.and_eq_true, decide_eq_true_eq] at z
                  apply c
                  refine ⟨z.1, ?_, hK⟩
                  unfold fts
                  simp [z.2, r1]
                · rw [if_neg r2]
              · rw [if_neg r1]
          · rintro f ⟨w5, Z5⟩ ⟨d1, d2, d3, d4⟩
            dsimp only at d1
            have hv5 : envY n T iv gens hd h0 hb w5 := envY_cong hv1 (fun q _ _ => d1 q (by omega) (by omega) (by omega)) (by rw [d1 44 (by decide) (by decide) (by decide)]) (by rw [d1 44 (by decide) (by decide) (by decide)])
            show f_X12_orbits_B41b (f_X12_orbits_L41 f) (nI k) b (nI Z5.1) (nI (2 ^ n)) w5 = _
            unfold f_X12_orbits_B41b
            rw [if_pos (all_end hv5.1 hg)]
        · rintro i s hi ⟨y1, y2, y3⟩
          have hMs : GM s n T iv := GM_cong hv1.1 (by rw [y1 44 (by decide)]) (y1 47 (by decide)) (y1 48 (by decide)) (y1 49 (by decide))
          refine ⟨sI s 64 i 0, ⟨fun k hk => ?_, y2, fun j hj => ?_⟩, fun f => ?_⟩
          · rw [← y1 k hk]; funext j; rw [sI_at]; simp [hk]
          · rw [sI_at]
            split
            · rfl
            · next q => exact y3 j (by omega)
          · show f_X12_orbits_B15b (f_X12_orbits_L15 f) (nI k) b (nI i) s = _
            unfold f_X12_orbits_B15b
            rw [if_neg (all_in hMs hg hi), m_wr (by omega) (by decide), nI_1]
        · rintro f s ⟨y1, y2, y3⟩
          have hMs : GM s n T iv := GM_cong hv1.1 (by rw [y1 44 (by decide)]) (y1 47 (by decide)) (y1 48 (by decide)) (y1 49 (by decide))
          show f_X12_orbits_B15b (f_X12_orbits_L15 f) (nI k) b (nI (2 ^ n)) s = _
          unfold f_X12_orbits_B15b
          rw [if_pos (all_end hMs hg)]
      · rintro i ⟨w5, Z5⟩ hi ⟨a1, a2, a3, a4, a5, a6⟩
        dsimp only at a1 a2 a3 a4 a5 a6
        have hSn := (FL_get hi).1
        have hS6 := le16 hSn h16
        have e4 : ∀ q, q = oS n T k b ((FL n T).getD i 0) Z5 → q = rng (fun i s => oS n T k b ((FL n T).getD i 0) s) 0 (i + 1) (0, fun _ => False) := fun q hq => by
          rw [rng_succ, Nat.zero_add, ← a6]; exact hq
        have B : ∀ f, f_X11_orbits_L34 (f + 1) (nI k) b (nI Z5.1) (nI (FL n T).length) (nI i) w5 = if fts n T k b ((FL n T).getD i 0) then (if MK w5 ((FL n T).getD i 0) then f_X11_orbits_L34 f (nI k) b (nI Z5.1) (nI (FL n T).length) (nI (i + 1)) w5 else bnd (f_X10_spread (nI ((FL n T).getD i 0)) w5) (fun w6 => f_X11_orbits_L34 f (nI k) b (nI (Z5.1 + 1)) (nI (FL n T).length) (nI (i + 1)) w6)) else f_X11_orbits_L34 f (nI k) b (nI Z5.1) (nI (FL n T).length) (nI (i + 1)) w5 := by
          intro f
          show f_X11_orbits_B34b (f_X11_orbits_L34 f) (nI k) b (nI Z5.1) (nI (FL n T).length) (nI i) w5 = _
          unfold f_X11_orbits_B34b
          rw [if_neg (nI_ge hi (by omega)), x_fits a3 h16 hF hi hk, bnd_some, x_setAt a3 h16 hF hi, bnd_some, x_knows hS6, bnd_some, bnd_some, nI_1, nI_1]
          generalize (FL n T).getD i 0 = S at *
          cases fts n T k b S <;> cases MK w5 S <;> simp [one_ne]
        have kt := fun q (h : ¬ tuK q) => a1 q h
        by_cases c : fts n T k b ((FL n T).getD i 0) = true ∧ ¬ Z5.2 ((FL n T).getD i 0)
        · obtain ⟨c1, c2⟩ := c
          have hmk : MK w5 ((FL n T).getD i 0) = false := by
            cases q : MK w5 ((FL n T).getD i 0) with
            | false => rfl
            | true => exact absurd ((a4 _ hS6).mp q) c2
          obtain ⟨w6, Q, g1, g2, g3, g4, g5, g6⟩ := x_spread (w := w5) (GX_cong hG (kt 6 (by unfold tuK; omega)) (kt 9 (by unfold tuK; omega)) (kt 10 (by unfold tuK; omega))) hg (BX_cong hB (by rw [kt 13 (by unfold tuK; omega)]) (kt 14 (by unfold tuK; omega)) (kt 15 (by unfold tuK; omega)) (kt 16 (by unfold tuK; omega)) (kt 17 (by unfold tuK; omega)) (kt 18 (by unfold tuK; omega))) hO hH a2.1 a2.2.1 a2.2.2 hSn (hOB _ hSn) a5 c2 a4
          have eo : oS n T k b ((FL n T).getD i 0) Z5 = (Z5.1 + 1, fun x => Z5.2 x ∨ ORB n T ((FL n T).getD i 0) x) := by
            unfold oS; rw [if_pos (dcd_iff.mpr ⟨c1, c2⟩)]
          refine ⟨(w6, (Z5.1 + 1, fun x => Z5.2 x ∨ ORB n T ((FL n T).getD i 0) x)), ⟨fun q hq => ?_, ⟨?_, g5, Or.inr g4⟩, ?_, fun y hy => ?_, ?_, e4 _ eo.symm⟩, fun f => ?_⟩
          · have hq' := hq
            unfold tuK at hq'
            rw [g6 q (by omega) (by omega) (by omega) (by omega) (by omega) (by omega)]; exact a1 q hq
          · rw [g6 29 (by decide) (by decide) (by decide) (by decide) (by decide) (by decide)]; exact a2.1
          · unfold FR at *
            rw [g6 19 (by decide) (by decide) (by decide) (by decide) (by decide) (by decide), g6 20 (by decide) (by decide) (by decide) (by decide) (by decide) (by decide)]
            exact a3
          · dsimp only
            rw [g3.2.2 y hy, g2.2]
          · have := oS_kcl (k := k) (S := (FL n T).getD i 0) (b := b) a5
            rw [eo] at this; exact this
          · dsimp only
            rw [B f, c1, if_pos rfl, hmk, if_neg Bool.false_ne_true, g1, bnd_some]
        · have eo : oS n T k b ((FL n T).getD i 0) Z5 = Z5 := by unfold oS; rw [if_neg (fun z => c (dcd_iff.mp z))]
          refine ⟨(w5, Z5), ⟨a1, a2, a3, a4, a5, e4 _ eo.symm⟩, fun f => ?_⟩
          dsimp only
          rw [B f]
          by_cases r1 : fts n T k b ((FL n T).getD i 0) = true
          · rw [if_pos r1]
            have hK : Z5.2 ((FL n T).getD i 0) := Classical.byContradiction (fun z => c ⟨r1, z⟩)
            rw [(a4 _ hS6).mpr hK, if_pos rfl]
          · rw [if_neg r1]
      · rintro f ⟨w5, Z5⟩ _
        show f_X11_orbits_B34b (f_X11_orbits_L34 f) (nI k) b (nI Z5.1) (nI (FL n T).length) (nI (FL n T).length) w5 = _
        unfold f_X11_orbits_B34b
        rw [if_pos (nI_le (Nat.le_refl _) (by omega))]
      · refine ⟨fun q hq => ?_, ⟨?_, ?_, ?_⟩, t2, fun y hy => ?_, fun _ _ _ h => h, rfl⟩
        · unfold tuK at hq
          exact t3 q (by omega) (by omega)
        · dsimp only; rw [t3 29 (by decide) (by decide)]; exact hT.1
        · dsimp only; rw [t3 31 (by decide) (by decide)]; exact hT.2.1
        · exact TRI_cong hT.2.2 (by dsimp only; rw [t3 24 (by decide) (by decide)]) (t3 25 (by decide) (by decide)) (t3 26 (by decide) (by decide))
        · dsimp only
          have : MK w3 y = MK w0 y := by unfold MK; rw [t4]
          rw [this, z3 y hy]; simp
    · simp only [hb0, ↓reduceIte]
      exact ⟨-1, w, w, rfl, rfl, tuD_rfl hT hI⟩
  · exact ⟨-1, w, w, by simp only [e1, ↓reduceIte], by simp only [e2, ↓reduceIte], tuD_rfl hT hI⟩
end TCALLS
