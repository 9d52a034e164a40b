/-! text: the call -/
def kpL (R J : List Nat) (w w' : Wd) : Prop := (∀ k, k ∉ R → k ≠ 44 → w'.1 k = w.1 k) ∧ ∀ j, j ∉ J → w'.1 44 j = w.1 44 j
theorem kpL.tr {R J : List Nat} {a b c : Wd} (h : kpL R J a b) (g : kpL R J b c) : kpL R J a c := ⟨fun k x y => (g.1 k x y).trans (h.1 k x y), fun j x => (g.2 j x).trans (h.2 j x)⟩
def txJ : List Nat := [1, 2, 9, 15, 30, 32, 33, 34, 35, 36, 39, 40, 41]
def txR : List Nat := [1, 3, 4, 5, 6, 7, 8, 9, 10, 13, 14, 15, 16, 17, 18, 19, 21, 24, 34, 37, 38, 45, 46, 47, 48, 49, 50, 51, 52, 53, 54, 68, 69]
def txF (w w2 : Wd) : Prop := w2.1 1 1 = nI 0 ∧ w2.1 44 30 = nI 0 ∧ kpL [1, 3, 4, 5, 68, 69] [30, 32, 33, 34, 35, 36, 39, 40, 41] w w2
def NEWx (fs : List (Nat × Nat)) (gens ord : List Nat) (frm by_ rch : Nat → Nat) (S : Nat) (w : Wd) : Prop := GX w (gst fs).1 (gst fs).2.1 (gst fs).2.2 ∧ FCx w fs ∧ w.1 6 9 = -1 ∧ BX w gens ord frm by_ rch ∧ AX w (v0 S) [] ∧ w.1 19 2 = 0 ∧ w.1 21 3 = -1 ∧ w.1 24 8 = 0 ∧ w.1 34 4 = 0
def NEWy (fs : List (Nat × Nat)) (gens hd : List Nat) (h0 hb : Nat → Nat) (S : Nat) (w : Wd) : Prop := GM w (gst fs).1 (gst fs).2.1 (gst fs).2.2 ∧ FCy w fs ∧ BY w gens hd h0 hb ∧ AM w (v0 S) []
def txN (w w2 : Wd) : Prop := ∃ (fs : List (Nat × Nat)) (S : Nat) (gens ord hd : List Nat) (frm by_ rch h0 hb : Nat → Nat), FAM fs ∧ S < 2 ^ (gst fs).1 ∧ BO (gst fs).1 (gst fs).2.1 gens ord frm by_ rch ∧ HO (gst fs).1 (gst fs).2.1 gens hd h0 hb ∧ NEWx fs gens ord frm by_ rch S w2 ∧ NEWy fs gens hd h0 hb S w2 ∧ w2.1 1 1 = nI 0 ∧ w2.1 44 30 = nI 0 ∧ kpL txR txJ w w2
theorem NEWx_cong {fs : List (Nat × Nat)} {gens ord : List Nat} {frm by_ rch : Nat → Nat} {S : Nat} {w w' : Wd} (h : NEWx fs gens ord frm by_ rch S w) (e : ∀ k, k < 44 → w'.1 k = w.1 k) : NEWx fs gens ord frm by_ rch S w' := by
  obtain ⟨a1, a2, a3, a4, a5, a6, a7, a8, a9⟩ := h
  refine ⟨GX_cong a1 (e 6 (by decide)) (e 9 (by decide)) (e 10 (by decide)), FCx_cong a2 (by rw [e 6 (by decide)]) (e 7 (by decide)) (e 8 (by decide)), by rw [e 6 (by decide)]; exact a3, BX_cong a4 (by rw [e 13 (by decide)]) (e 14 (by decide)) (e 15 (by decide)) (e 16 (by decide)) (e 17 (by decide)) (e 18 (by decide)), AX_cong a5 (e 37 (by decide)) (e 38 (by decide)) (e 39 (by decide)) (e 40 (by decide)), by rw [e 19 (by decide)]; exact a6, by rw [e 21 (by decide)]; exact a7, by rw [e 24 (by decide)]; exact a8, by rw [e 34 (by decide)]; exact a9⟩
section TEXT3
variable {w : Wd}
theorem y_new {fs : List (Nat × Nat)} {S : Nat} (hF : FAM fs) {ord : List Nat} {frm by_ rch : Nat → Nat} (hO : BO (gst fs).1 (gst fs).2.1 (genS (gst fs).1 (gst fs).2.1 (gst fs).1) ord frm by_ rch) (hy : FCy w fs) (hw : w.1 44 1 = nI (gst fs).1) (hS : w.1 44 41 = nI S) : ∃ w' hd h0 hb, (bnd (f_X12_laysGroup w) fun w1 => bnd (f_X12_startsRow (w1.1 44 41) w1) fun w2 => some ((sI w2 44 15 0).1 44 1, sI w2 44 15 0)) = some (nI (gst fs).1, w') ∧ HO (gst fs).1 (gst fs).2.1 (genS (gst fs).1 (gst fs).2.1 (gst fs).1) hd h0 hb ∧ NEWy fs (genS (gst fs).1 (gst fs).2.1 (gst fs).1) hd h0 hb S w' ∧ kpL [47, 48, 49, 50, 51, 52, 53, 54] [9, 15] w w' := by
  obtain ⟨w8, hd, h0, hb, d1, d2, d3, d4, d5⟩ := y_lays hF hy hw hO
  have e41 : w8.1 44 41 = nI S := by rw [d5.2.1 41 (by decide)]; exact hS
  obtain ⟨w9, f1, f2, f3, f4⟩ := y_starts (w := w8) (S := S)
  have e44 : ∀ j, j ≠ 15 → (sI w9 44 15 0).1 44 j = w8.1 44 j := fun j hj => by rw [sI_at, if_neg (fun z => hj z.2), f3 44 (by decide)]
  have ek : ∀ k, k ≠ 44 → k ≠ 54 → (sI w9 44 15 0).1 k = w8.1 k := fun k h1 h2 => by rw [sI_row _ _ _ _ h1, f3 k h2]
  have hM := GM_cong d2 (e44 1 (by decide)) (ek 47 (by decide) (by decide)) (ek 48 (by decide) (by decide)) (ek 49 (by decide) (by decide))
  refine ⟨sI w9 44 15 0, hd, h0, hb, ?_, d4, ⟨hM, FCy_cong hy (by rw [e44 2 (by decide), d5.2.1 2 (by decide)]) (by rw [ek 45 (by decide) (by decide), d5.1 45 (by decide) (by decide)]) (by rw [ek 46 (by decide) (by decide), d5.1 46 (by decide) (by decide)]), BY_cong d3 (e44 9 (by decide)) (ek 50 (by decide) (by decide)) (ek 51 (by decide) (by decide)) (ek 52 (by decide) (by decide)) (ek 53 (by decide) (by decide)), f2⟩, fun k hk h44 => ?_, fun j hj => ?_⟩
  · rw [d1, bnd_some, e41, f1, bnd_some, hM.1]
  · simp only [List.mem_cons, List.not_mem_nil, or_false, not_or] at hk
    rw [ek k h44 (by omega), d5.1 k (by omega) h44]
  · simp only [List.mem_cons, List.not_mem_nil, or_false, not_or] at hj
    rw [e44 j (by omega), d5.2.1 j (by omega)]
theorem c_text {L : Nat} {B : Nat → Nat} (hx : TPx w L B) (hy : TPy w L B) (hW : WDS w) (hnx : ∃ nx, nx < 12 ∧ w.1 37 3 = nI nx) : ∃ r w1 w2, f_X11_text w = some (r, w1) ∧ f_X12_text w1 = some (r, w2) ∧ (txF w w2 ∨ txN w w2) := by
  obtain ⟨r, w1, a1, a2, a3⟩ := x_readTape hx
  have ex : f_X11_text w = letW (sI w1 1 1 0) fun w3 => if r = (-1) then bnd (f_X11_renew w3) fun w4 => some ((w4.1 6 7), w4) else some (((-4) - r), w3) := by
    unfold f_X11_text; rw [a1, m_bnd2 rfl]
  rw [ex, m_letW]
  have s1 : ∀ k, k ≠ 1 → k ≠ 3 → k ≠ 4 → k ≠ 5 → (sI w1 1 1 0).1 k = w.1 k := fun k x1 x3 x4 x5 => by rw [sI_row _ _ _ _ x1, a2.1 k x3 x4 x5]
  cases hp : pread B L 201 (runL (cB B) L 0) [] with
  | inl p =>
    rw [hp] at a3
    obtain ⟨rfl, hp2⟩ := a3
    rw [if_neg (nI_ne1 (by omega))]
    obtain ⟨w3, b1, b2, b3⟩ := y_text0 (w := sI w1 1 1 0) (L := L) (B := B) (TPy_cong hy (by rw [s1 44 (by decide) (by decide) (by decide) (by decide)]) (s1 66 (by decide) (by decide) (by decide) (by decide))) (fun j hj => by rw [s1 67 (by decide) (by decide) (by decide) (by decide)]; exact hW j hj)
    rw [hp] at b3
    refine ⟨_, _, sI w3 44 30 0, rfl, ?_, Or.inl ⟨?_, ?_, fun k hk h44 => ?_, fun j hj => ?_⟩⟩
    · rw [b1]
      unfold f_X12_text_J81
      rw [m_letW, if_neg (by rw [sI_at, if_neg (fun z => by omega)]; exact b3.1), sI_at, if_neg (fun z => by omega), b3.2]
    · rw [sI_row _ _ _ _ (by decide), b2.1 1 (by decide) (by decide), sI_same]; rfl
    · rw [sI_same]; rfl
    · simp only [List.mem_cons, List.not_mem_nil, or_false, not_or] at hk
      rw [sI_row _ _ _ _ h44, b2.1 k (by omega) h44, s1 k (by omega) (by omega) (by omega) (by omega)]
    · simp only [List.mem_cons, List.not_mem_nil, or_false, not_or] at hj
      rw [sI_at, if_neg (fun z => hj.1 z.2), b2.2.1 j (by unfold zJ; omega), s1 44 (by decide) (by decide) (by decide) (by decide)]
  | inr q =>
    obtain ⟨fs, S⟩ := q
    rw [hp] at a3
    obtain ⟨rfl, c2, c3⟩ := a3
    obtain ⟨hF, hS⟩ := pread_ok 201 _ [] fs S fam_nil hp
    rw [if_pos rfl]
    obtain ⟨w2, ord, frm, by_, rch, d1, d2, d3, d4, d5, d6, d7, d8, d9, d10, d11, d12, d13⟩ := x_renew (w := sI w1 1 1 0) hF ⟨by rw [sI_row _ _ _ _ (by decide)]; exact c2.1, fun i f hi => by rw [sI_row _ _ _ _ (by decide), sI_row _ _ _ _ (by decide)]; exact c2.2 i f hi⟩ (by rw [sI_row _ _ _ _ (by decide)]; exact c3) (by rw [s1 37 (by decide) (by decide) (by decide) (by decide)]; exact hnx)
    rw [d1, bnd_some, d2.1]
    have s2 : ∀ k, ¬ reC k → k ≠ 1 → k ≠ 3 → k ≠ 4 → k ≠ 5 → w2.1 k = w.1 k := fun k x0 x1 x3 x4 x5 => by rw [d12 k x0, s1 k x1 x3 x4 x5]
    obtain ⟨w3, b1, b2, b3⟩ := y_text0 (w := w2) (L := L) (B := B) (TPy_cong hy (by rw [s2 44 (by unfold reC; omega) (by decide) (by decide) (by decide) (by decide)]) (s2 66 (by unfold reC; omega) (by decide) (by decide) (by decide) (by decide))) (fun j hj => by rw [s2 67 (by unfold reC; omega) (by decide) (by decide) (by decide) (by decide)]; exact hW j hj)
    rw [hp] at b3
    obtain ⟨e1, e2, e3, e4⟩ := b3
    obtain ⟨w6, hw6⟩ : ∃ w6, w6 = sI (sI (sI w3 44 30 0) 44 1 (nI (gst fs).1)) 44 2 (nI fs.length) := ⟨_, rfl⟩
    have eJ : f_X12_text w2 = f_X12_text_L119 FU 0 w6 := by
      rw [b1]
      unfold f_X12_text_J81
      rw [m_letW, if_pos (by rw [sI_at, if_neg (fun z => by omega)]; exact e1), m_letW, m_letW]
      rw [show (sI w3 44 30 0).1 44 40 = nI (gst fs).1 from (by rw [sI_at, if_neg (fun z => by omega)]; exact e3)]
      rw [show (sI (sI w3 44 30 0) 44 1 (nI (gst fs).1)).1 44 39 = nI fs.length from (by rw [sI_at, if_neg (fun z => by omega), sI_at, if_neg (fun z => by omega)]; exact e2.1), hw6]
    have v6 : ∀ k, k ≠ 44 → w6.1 k = w3.1 k := fun k hk => by rw [hw6, sI_row _ _ _ _ hk, sI_row _ _ _ _ hk, sI_row _ _ _ _ hk]
    have u6 : ∀ j, j ≠ 30 → j ≠ 1 → j ≠ 2 → w6.1 44 j = w3.1 44 j := fun j x1 x2 x3 => by rw [hw6, sI_at, if_neg (fun z => x3 z.2), sI_at, if_neg (fun z => x2 z.2), sI_at, if_neg (fun z => x1 z.2)]
    obtain ⟨w7, f1, f2, f3⟩ := y_copies (w := w6) (fs := fs) (fam_fok hF).1 (fun i f hi => by rw [v6 68 (by decide), v6 69 (by decide)]; exact e2.2 i f hi) (by rw [hw6, sI_same])
    obtain ⟨w8, hd, h0, hb, g1, g2, g3, g4⟩ := y_new (w := w7) (S := S) hF d6 f2 (by rw [f3.1 44 (by decide), hw6, sI_at, if_neg (fun z => by omega), sI_same]) (by rw [f3.1 44 (by decide), u6 41 (by decide) (by decide) (by decide)]; exact e4)
    have t8 : ∀ k, k < 44 → w8.1 k = w2.1 k := fun k hk => by
      rw [g4.1 k (by simp only [List.mem_cons, List.not_mem_nil, or_false, not_or]; omega) (by omega), f3.1 k (by omega), v6 k (by omega), b2.1 k (by omega) (by omega)]
    refine ⟨_, _, w8, rfl, ?_, Or.inr ⟨fs, S, genS (gst fs).1 (gst fs).2.1 (gst fs).1, ord, hd, frm, by_, rch, h0, hb, hF, hS, d6, g2, NEWx_cong ⟨d2, d3, d4, d5, d7, d8, d9, d10, d11⟩ t8, g3, ?_, ?_, fun k hk h44 => ?_, fun j hj => ?_⟩⟩
    · rw [eJ]
      exact f1.trans g1
    · rw [t8 1 (by decide), d12 1 (by unfold reC; omega), sI_same]; rfl
    · rw [g4.2 30 (by decide), f3.1 44 (by decide), hw6, sI_at, if_neg (fun z => by omega), sI_at, if_neg (fun z => by omega), sI_same]; rfl
    · unfold txR at hk
      simp only [List.mem_cons, List.not_mem_nil, or_false, not_or] at hk
      rw [g4.1 k (by simp only [List.mem_cons, List.not_mem_nil, or_false, not_or]; omega) h44, f3.1 k (by omega), v6 k h44, b2.1 k (by omega) h44, s2 k (by unfold reC; omega) (by omega) (by omega) (by omega) (by omega)]
    · unfold txJ at hj
      simp only [List.mem_cons, List.not_mem_nil, or_false, not_or] at hj
      rw [g4.2 j (by simp only [List.mem_cons, List.not_mem_nil, or_false, not_or]; omega), f3.1 44 (by decide), u6 j (by omega) (by omega) (by omega), b2.2.1 j (by unfold zJ; omega), s2 44 (by unfold reC; omega) (by decide) (by decide) (by decide) (by decide)]
end TEXT3
