/-! the class reads a part, and the tape -/
section XREAD2
variable {w : Wd} {L : Nat} {B : Nat → Nat}
def XR (w : Wd) (L : Nat) (B : Nat → Nat) (q : Nat) (fs : List (Nat × Nat)) : Prop := TPx w L B ∧ w.1 3 6 = nI q ∧ w.1 3 8 = -1 ∧ w.1 3 4 = nI (gst fs).1 ∧ FCr w fs ∧ w.1 3 5 = nI 0
/-- after a factor, before the blanks behind the stop are skipped -/
def pst0 (B : Nat → Nat) (L d : Nat) : Nat ⊕ Nat := if runL (cB B) L d < L ∧ B (runL (cB B) L d) = 59 then .inr (runL (cB B) L d + 1) else .inl (runL (cB B) L d)
def adO (w' : Wd) (L : Nat) (B : Nat → Nat) (fs : List (Nat × Nat)) (f : Nat × Nat) : Nat ⊕ Nat → Prop
  | .inl p => FLT w' L p
  | .inr q => XR w' L B q (fs ++ [f]) ∧ q ≤ L
theorem x_addf {fs : List (Nat × Nat)} {f : Nat × Nat} (hF : FAM fs) (hf : f ∈ allF) {d p : Nat} (h : XR w L B d fs) (hd : d ≤ L) (hp : p ≤ 200) : ∃ w', f_X7_addFactor (nI f.1) (nI f.2) (nI (fsz f)) (nI p) w = some w' ∧ adO w' L B fs f (if (gst fs).1 * fsz f ≤ 16 then pst0 B L d else .inl p) ∧ kR w w' := by
  obtain ⟨h1, h6, h8, h4, ⟨h3, hfc⟩, h5⟩ := h
  have hL := h1.1
  obtain ⟨z1, z2, -⟩ := fac_0 f hf
  have hn16 := hF.2
  have hn1 := (gst_ok hF.1).1
  have hmul : (gst fs).1 * fsz f ≤ 256 := Nat.le_trans (Nat.mul_le_mul hn16 z2) (by decide)
  unfold f_X7_addFactor
  rw [if_pos h8, h4, pk_mul]
  by_cases c : (gst fs).1 * fsz f ≤ 16
  · rw [if_neg (show ¬ (16 : Int32) < nI ((gst fs).1 * fsz f) from fun z => by have := (m_lt (a := 16) (by decide) (by omega)).mp z; omega), if_pos c]
    have hk4 : fs.length < 4 := by
      have h2 := (fam_fok (fam_snoc hF hf c)).1
      rw [List.length_append, List.length_singleton] at h2
      omega
    rw [h3, if_pos (show nI fs.length < (4 : Int32) from (m_lt (b := 4) (by omega) (by decide)).mpr hk4), m_wr (by omega) (by decide)]
    have e33 : (sI w 4 fs.length (nI f.1)).1 3 3 = nI fs.length := by rw [sI_row _ _ _ _ (by decide)]; exact h3
    rw [e33, m_wr (by omega) (by decide), m_letW, m_letW]
    have e33' : (sI (sI w 4 fs.length (nI f.1)) 5 fs.length (nI f.2)).1 3 3 = nI fs.length := by rw [sI_row _ _ _ _ (by decide), sI_row _ _ _ _ (by decide)]; exact h3
    rw [e33', nI_1]
    have e34 : (sI (sI (sI w 4 fs.length (nI f.1)) 5 fs.length (nI f.2)) 3 3 (nI (fs.length + 1))).1 3 4 = nI (gst fs).1 := by rw [sI_at, if_neg (fun z => by omega), sI_row _ _ _ _ (by decide), sI_row _ _ _ _ (by decide)]; exact h4
    rw [e34, pk_mul]
    obtain ⟨w5, hw5⟩ : ∃ w5, w5 = sI (sI (sI (sI w 4 fs.length (nI f.1)) 5 fs.length (nI f.2)) 3 3 (nI (fs.length + 1))) 3 4 (nI ((gst fs).1 * fsz f)) := ⟨_, rfl⟩
    rw [← hw5]
    have k5 : kR w w5 := by rw [hw5]; exact (kR.st (by omega) _ _).tr ((kR.st (by omega) _ _).tr ((kR.st (by omega) _ _).tr (kR.st (by omega) _ _)))
    have v3 : ∀ j, j ≠ 3 → j ≠ 4 → w5.1 3 j = w.1 3 j := fun j j3 j4 => by rw [hw5, sI_at, if_neg (fun z => j4 z.2), sI_at, if_neg (fun z => j3 z.2), sI_row _ _ _ _ (by decide), sI_row _ _ _ _ (by decide)]
    have v33 : w5.1 3 3 = nI (fs ++ [f]).length := by rw [hw5, sI_at, if_neg (fun z => by omega), sI_same, List.length_append]; rfl
    have v34 : w5.1 3 4 = nI (gst (fs ++ [f])).1 := by rw [hw5, sI_same, gst_snoc]; rfl
    have v4 : ∀ j, w5.1 4 j = if j = fs.length then nI f.1 else w.1 4 j := fun j => by
      rw [hw5, sI_row _ _ _ _ (by decide), sI_row _ _ _ _ (by decide), sI_row _ _ _ _ (by decide), sI_at]; simp only [true_and]
    have v5 : ∀ j, w5.1 5 j = if j = fs.length then nI f.2 else w.1 5 j := fun j => by
      rw [hw5, sI_row _ _ _ _ (by decide), sI_row _ _ _ _ (by decide), sI_at]; simp only [true_and]
      by_cases y : j = fs.length
      · rw [if_pos y, if_pos y]
      · rw [if_neg y, if_neg y, sI_row _ _ _ _ (by decide)]
    have hfc5 : ∀ i g, (fs ++ [f])[i]? = some g → w5.1 4 i = nI g.1 ∧ w5.1 5 i = nI g.2 := fun i g hg => by
      rw [v4, v5]
      rcases Nat.lt_trichotomy i fs.length with y | y | y
      · rw [List.getElem?_append_left y] at hg
        rw [if_neg (by omega), if_neg (by omega)]; exact hfc i g hg
      · rw [y, List.getElem?_append_right (Nat.le_refl _), Nat.sub_self] at hg
        rw [if_pos y, if_pos y, Option.some.inj hg]; exact ⟨rfl, rfl⟩
      · rw [List.getElem?_eq_none (by simp; omega)] at hg; cases hg
    have T5 := k5.tp h1
    rw [x_blanks T5 (q := d) (by rw [v3 6 (by decide) (by decide)]; exact h6) hd, bnd_some, sI_same]
    unfold pst0
    obtain ⟨t, ht⟩ : ∃ t, t = runL (cB B) L d := ⟨_, rfl⟩
    have htl := runL_le (cB B) hd
    rw [← ht] at htl ⊢
    have T6 : TPx (sI w5 3 6 (nI t)) L B := (kR.st (Or.inl rfl) _ _).tp T5
    by_cases c1 : t < L ∧ B t = 59
    · rw [if_pos c1, x_byte T6 c1.1, bnd_some, if_pos (show nI (B t) = 59 by rw [c1.2]; rfl), m_letW, nI_1, sI_sI]
      refine ⟨_, rfl, ⟨⟨(kR.st (Or.inl rfl) _ _).tp T5, sI_same _ _ _ _, ?_, ?_, ⟨?_, fun i g hg => ?_⟩, ?_⟩, by omega⟩, k5.tr (kR.st (Or.inl rfl) _ _)⟩
      · rw [sI_at, if_neg (fun z => by omega), v3 8 (by decide) (by decide)]; exact h8
      · rw [sI_at, if_neg (fun z => by omega)]; exact v34
      · rw [sI_at, if_neg (fun z => by omega)]; exact v33
      · rw [sI_row _ _ _ _ (by decide), sI_row _ _ _ _ (by decide)]; exact hfc5 i g hg
      · rw [sI_at, if_neg (fun z => by omega), v3 5 (by decide) (by decide)]; exact h5
    · rw [if_neg c1]
      have e2 : ∃ x, f_X9_byteAt (nI t) (sI w5 3 6 (nI t)) = some x ∧ ¬ x = 59 := by
        by_cases c2 : t < L
        · exact ⟨_, x_byte T6 c2, fun z => c1 ⟨c2, (by32 (h1.2.2.2 t) 59 (by decide)).mp z⟩⟩
        · exact ⟨_, x_byteE T6 (by omega) (by omega), by decide⟩
      obtain ⟨x, e2, e3⟩ := e2
      rw [e2, bnd_some, if_neg e3, m_letW]
      refine ⟨_, rfl, ⟨sI_same _ _ _ _, by omega, t, htl.2, ?_⟩, k5.tr ((kR.st (Or.inl rfl) _ _).tr (kR.st (Or.inl rfl) _ _))⟩
      rw [sI_at, if_neg (fun z => by omega), sI_same]
  · rw [if_pos (show (16 : Int32) < nI ((gst fs).1 * fsz f) from (m_lt (a := 16) (by decide) (by omega)).mpr (by omega)), if_neg c, m_letW]
    refine ⟨_, rfl, ⟨sI_same _ _ _ _, hp, d, hd, ?_⟩, kR.st (Or.inl rfl) _ _⟩
    rw [sI_at, if_neg (fun z => by omega)]; exact h6
theorem x_addfF {k v sz p : Int32} {r : Nat} (h : w.1 3 8 = nI r) (hr : r ≤ 200) : f_X7_addFactor k v sz p w = some w := by
  unfold f_X7_addFactor
  rw [h, if_neg (nI_ne1 (by omega))]
theorem XR_num {q s d : Nat} {fs : List (Nat × Nat)} (h : XR w L B q fs) : XR (w37 w s d) L B d fs := by
  obtain ⟨h1, h6, h8, h4, ⟨h3, hfc⟩, h5⟩ := h
  refine ⟨(w37_k w s d).tp h1, ?_, ?_, ?_, ⟨?_, ?_⟩, ?_⟩
  · rw [w37_at, if_pos rfl]
  · rw [w37_at, if_neg (by decide), if_neg (by decide)]; exact h8
  · rw [w37_at, if_neg (by decide), if_neg (by decide)]; exact h4
  · rw [w37_at, if_neg (by decide), if_neg (by decide)]; exact h3
  · rw [w37_row _ _ _ _ (by decide), w37_row _ _ _ _ (by decide)]; exact hfc
  · rw [w37_at, if_neg (by decide), if_neg (by decide)]; exact h5
theorem XR_pos {q e : Nat} {fs : List (Nat × Nat)} (h : XR w L B q fs) : XR (sI w 3 6 (nI e)) L B e fs := by
  obtain ⟨h1, h6, h8, h4, ⟨h3, hfc⟩, h5⟩ := h
  refine ⟨(kR.st (Or.inl rfl) _ _).tp h1, sI_same _ _ _ _, ?_, ?_, ⟨?_, ?_⟩, ?_⟩
  · rw [sI_at, if_neg (fun z => by omega)]; exact h8
  · rw [sI_at, if_neg (fun z => by omega)]; exact h4
  · rw [sI_at, if_neg (fun z => by omega)]; exact h3
  · rw [sI_row _ _ _ _ (by decide), sI_row _ _ _ _ (by decide)]; exact hfc
  · rw [sI_at, if_neg (fun z => by omega)]; exact h5
/-- a factor with a number -/
theorem x_facN {fs : List (Nat × Nat)} (hF : FAM fs) {k lo hi e : Nat} (h : XR w L B e fs) (he : e ≤ L) (hlo : lo < 100) (hhi : hi < 100) (m : Int32 → Int32) (hm : ∀ v, lo ≤ v → v ≤ hi → (k, v) ∈ allF ∧ m (nI v) = nI (fsz (k, v))) : ∃ w', (bnd2 (f_X7_readNumber (nI lo) (nI hi) w) fun x w1 => bnd (f_X7_addFactor (nI k) x (m x) (w1.1 3 7) w1) fun w2 => some ((0 : Int32), w2)) = some (0, w') ∧ kR w w' ∧ (match pnum B L e lo hi with
    | some (v, d) => adO w' L B fs (k, v) (if (gst fs).1 * fsz (k, v) ≤ 16 then pst0 B L d else .inl (runL (cB B) L e))
    | none => FLT w' L (runL (cB B) L e)) := by
  have hL := h.1.1
  have hsl := runL_le (cB B) he
  have hrn := x_rnum h.1 (lo := lo) (hi := hi) h.2.1 he hlo hhi
  cases hp : pnum B L e lo hi with
  | none =>
    rw [hp] at hrn
    dsimp only at hrn ⊢
    rw [m_bnd2 hrn]
    refine ⟨sI (w37 w (runL (cB B) L e) (runL (cD B) L (runL (cB B) L e))) 3 8 (nI (runL (cB B) L e)), ?_, ?_, ?_⟩
    · rw [x_addfF (sI_same _ _ _ _) (by omega), bnd_some]
    · exact (w37_k _ _ _).tr (kR.st (Or.inl rfl) _ _)
    · refine ⟨sI_same _ _ _ _, by omega, _, (runL_le (cD B) hsl.2).2, ?_⟩
      rw [sI_at, if_neg (fun z => by omega), w37_at, if_pos rfl]
  | some vd =>
    obtain ⟨v, d⟩ := vd
    obtain ⟨p1, p2, p3, p4, p5, p6, p7⟩ := pnum_lo hp
    rw [hp] at hrn
    dsimp only at hrn ⊢
    rw [m_bnd2 hrn]
    obtain ⟨m1, m2⟩ := hm v p1 p2
    have hdl := runL_le (cD B) hsl.2
    rw [← p3] at hdl
    obtain ⟨w', g1, g2, g3⟩ := x_addf (f := (k, v)) hF m1 (XR_num h (s := runL (cB B) L e) (d := d)) hdl.2 (p := runL (cB B) L e) (by omega)
    refine ⟨w', ?_, (w37_k _ _ _).tr g3, g2⟩
    rw [w37_at, if_neg (by decide), if_pos rfl, m2]
    show bnd (f_X7_addFactor (nI k) (nI v) (nI (fsz (k, v))) (nI (runL (cB B) L e)) (w37 w (runL (cB B) L e) d)) _ = _
    rw [g1, bnd_some]
end XREAD2
