/-! each call keeps the invariant, and both answer alike -/
section STEPS
variable {w : Wd}
/-- feed -/
theorem st_0 (h : INV w) (a1 a2 a3 a4 a5 : Int32) : ∃ w', stp_0 a1 a2 a3 a4 a5 w w' ∧ INV w' := by
  obtain ⟨fs, gens, ord, hd, frm, by_, rch, h0, hb, hI⟩ := h
  obtain ⟨hS, hX, ⟨v, H, hA⟩, hFr, hCo, hT, hHo, hSu, L, B, tx, ty⟩ := id hI
  have hg := fam_gp hS.1
  obtain ⟨r, w1, w2, e1, e2, e3⟩ := c_feed tx ty a1 a2 a3 a4 a5
  exact ⟨_, ⟨r, w1, w2, e1, e2, rfl⟩, fs, gens, ord, hd, frm, by_, rch, h0, hb, INVp_kp (R := [1, 2, 66]) (J := [30]) hI (e3.2) (by decide) (Or.inl (by decide)) (Or.inl (by decide)) (Or.inl (by decide)) (Or.inl (by decide)) (Or.inl (by decide)) (Or.inl (by decide)) (Or.inr e3.1)⟩
/-- back -/
theorem st_1 (h : INV w) (a1 a2 a3 a4 a5 : Int32) : ∃ w', stp_1 a1 a2 a3 a4 a5 w w' ∧ INV w' := by
  obtain ⟨fs, gens, ord, hd, frm, by_, rch, h0, hb, hI⟩ := h
  obtain ⟨hS, hX, ⟨v, H, hA⟩, hFr, hCo, hT, hHo, hSu, L, B, tx, ty⟩ := id hI
  have hg := fam_gp hS.1
  obtain ⟨r, w1, w2, e1, e2, e3⟩ := c_back tx ty a1
  exact ⟨_, ⟨r, w1, w2, e1, e2, rfl⟩, fs, gens, ord, hd, frm, by_, rch, h0, hb, INVp_kp (R := [1, 2, 66]) (J := [30]) hI (e3.2) (by decide) (Or.inl (by decide)) (Or.inl (by decide)) (Or.inl (by decide)) (Or.inl (by decide)) (Or.inl (by decide)) (Or.inl (by decide)) (Or.inr e3.1)⟩
/-- text -/
theorem st_2 (h : INV w) (a1 a2 a3 a4 a5 : Int32) : ∃ w', stp_2 a1 a2 a3 a4 a5 w w' ∧ INV w' := by
  exact st_text h
/-- put -/
theorem st_3 (h : INV w) (a1 a2 a3 a4 a5 : Int32) : ∃ w', stp_3 a1 a2 a3 a4 a5 w w' ∧ INV w' := by
  obtain ⟨fs, gens, ord, hd, frm, by_, rch, h0, hb, hI⟩ := h
  obtain ⟨hS, hX, ⟨v, H, hA⟩, hFr, hCo, hT, hHo, hSu, L, B, tx, ty⟩ := id hI
  have hg := fam_gp hS.1
  obtain ⟨r, w1, w2, e1, e2, e3⟩ := c_put hX.1 hX.2.1 hg hA a1 a2
  exact ⟨_, ⟨r, w1, w2, e1, e2, rfl⟩, fs, gens, ord, hd, frm, by_, rch, h0, hb, INVp_kp (R := [37, 38, 39, 40, 43, 54, 55, 56]) (J := [15]) hI (actD_kp e3) (by decide) (Or.inr e3.1) (Or.inl (by decide)) (Or.inl (by decide)) (Or.inl (by decide)) (Or.inl (by decide)) (Or.inl (by decide)) (Or.inl (by decide))⟩
/-- become -/
theorem st_4 (h : INV w) (a1 a2 a3 a4 a5 : Int32) : ∃ w', stp_4 a1 a2 a3 a4 a5 w w' ∧ INV w' := by
  obtain ⟨fs, gens, ord, hd, frm, by_, rch, h0, hb, hI⟩ := h
  obtain ⟨hS, hX, ⟨v, H, hA⟩, hFr, hCo, hT, hHo, hSu, L, B, tx, ty⟩ := id hI
  have hg := fam_gp hS.1
  obtain ⟨r, w1, w2, e1, e2, e3⟩ := c_become hX.1 hX.2.1 hg hA a1
  exact ⟨_, ⟨r, w1, w2, e1, e2, rfl⟩, fs, gens, ord, hd, frm, by_, rch, h0, hb, INVp_kp (R := [37, 38, 39, 40, 43, 54, 55, 56]) (J := [15]) hI (actD_kp e3) (by decide) (Or.inr e3.1) (Or.inl (by decide)) (Or.inl (by decide)) (Or.inl (by decide)) (Or.inl (by decide)) (Or.inl (by decide)) (Or.inl (by decide))⟩
/-- fill -/
theorem st_5 (h : INV w) (a1 a2 a3 a4 a5 : Int32) : ∃ w', stp_5 a1 a2 a3 a4 a5 w w' ∧ INV w' := by
  obtain ⟨fs, gens, ord, hd, frm, by_, rch, h0, hb, hI⟩ := h
  obtain ⟨hS, hX, ⟨v, H, hA⟩, hFr, hCo, hT, hHo, hSu, L, B, tx, ty⟩ := id hI
  have hg := fam_gp hS.1
  obtain ⟨r, w1, w2, e1, e2, e3⟩ := c_fill hX.1 hX.2.1 hg hA 
  exact ⟨_, ⟨r, w1, w2, e1, e2, rfl⟩, fs, gens, ord, hd, frm, by_, rch, h0, hb, INVp_kp (R := [37, 38, 39, 40, 43, 54, 55, 56]) (J := [15]) hI (actD_kp e3) (by decide) (Or.inr e3.1) (Or.inl (by decide)) (Or.inl (by decide)) (Or.inl (by decide)) (Or.inl (by decide)) (Or.inl (by decide)) (Or.inl (by decide))⟩
/-- thin -/
theorem st_6 (h : INV w) (a1 a2 a3 a4 a5 : Int32) : ∃ w', stp_6 a1 a2 a3 a4 a5 w w' ∧ INV w' := by
  obtain ⟨fs, gens, ord, hd, frm, by_, rch, h0, hb, hI⟩ := h
  obtain ⟨hS, hX, ⟨v, H, hA⟩, hFr, hCo, hT, hHo, hSu, L, B, tx, ty⟩ := id hI
  have hg := fam_gp hS.1
  obtain ⟨r, w1, w2, e1, e2, e3⟩ := c_thin hX.1 hX.2.1 hg hA 
  exact ⟨_, ⟨r, w1, w2, e1, e2, rfl⟩, fs, gens, ord, hd, frm, by_, rch, h0, hb, INVp_kp (R := [37, 38, 39, 40, 43, 54, 55, 56]) (J := [15]) hI (actD_kp e3) (by decide) (Or.inr e3.1) (Or.inl (by decide)) (Or.inl (by decide)) (Or.inl (by decide)) (Or.inl (by decide)) (Or.inl (by decide)) (Or.inl (by decide))⟩
/-- shift -/
theorem st_7 (h : INV w) (a1 a2 a3 a4 a5 : Int32) : ∃ w', stp_7 a1 a2 a3 a4 a5 w w' ∧ INV w' := by
  obtain ⟨fs, gens, ord, hd, frm, by_, rch, h0, hb, hI⟩ := h
  obtain ⟨hS, hX, ⟨v, H, hA⟩, hFr, hCo, hT, hHo, hSu, L, B, tx, ty⟩ := id hI
  have hg := fam_gp hS.1
  obtain ⟨r, w1, w2, e1, e2, e3⟩ := c_shift hX.1 hX.2.1 hg hA a1 (bz a2)
  exact ⟨_, ⟨r, w1, w2, e1, e2, rfl⟩, fs, gens, ord, hd, frm, by_, rch, h0, hb, INVp_kp (R := [37, 38, 39, 40, 43, 54, 55, 56]) (J := [15]) hI (actD_kp e3) (by decide) (Or.inr e3.1) (Or.inl (by decide)) (Or.inl (by decide)) (Or.inl (by decide)) (Or.inl (by decide)) (Or.inl (by decide)) (Or.inl (by decide))⟩
/-- invert -/
theorem st_8 (h : INV w) (a1 a2 a3 a4 a5 : Int32) : ∃ w', stp_8 a1 a2 a3 a4 a5 w w' ∧ INV w' := by
  obtain ⟨fs, gens, ord, hd, frm, by_, rch, h0, hb, hI⟩ := h
  obtain ⟨hS, hX, ⟨v, H, hA⟩, hFr, hCo, hT, hHo, hSu, L, B, tx, ty⟩ := id hI
  have hg := fam_gp hS.1
  obtain ⟨r, w1, w2, e1, e2, e3⟩ := c_invert hX.1 hX.2.1 hg hA 
  exact ⟨_, ⟨r, w1, w2, e1, e2, rfl⟩, fs, gens, ord, hd, frm, by_, rch, h0, hb, INVp_kp (R := [37, 38, 39, 40, 43, 54, 55, 56]) (J := [15]) hI (actD_kp e3) (by decide) (Or.inr e3.1) (Or.inl (by decide)) (Or.inl (by decide)) (Or.inl (by decide)) (Or.inl (by decide)) (Or.inl (by decide)) (Or.inl (by decide))⟩
/-- turn -/
theorem st_9 (h : INV w) (a1 a2 a3 a4 a5 : Int32) : ∃ w', stp_9 a1 a2 a3 a4 a5 w w' ∧ INV w' := by
  obtain ⟨fs, gens, ord, hd, frm, by_, rch, h0, hb, hI⟩ := h
  obtain ⟨hS, hX, ⟨v, H, hA⟩, hFr, hCo, hT, hHo, hSu, L, B, tx, ty⟩ := id hI
  have hg := fam_gp hS.1
  obtain ⟨r, w1, w2, e1, e2, e3⟩ := c_turn hX.1 hX.2.1 hg hA a1
  exact ⟨_, ⟨r, w1, w2, e1, e2, rfl⟩, fs, gens, ord, hd, frm, by_, rch, h0, hb, INVp_kp (R := [37, 38, 39, 40, 43, 54, 55, 56]) (J := [15]) hI (actD_kp e3) (by decide) (Or.inr e3.1) (Or.inl (by decide)) (Or.inl (by decide)) (Or.inl (by decide)) (Or.inl (by decide)) (Or.inl (by decide)) (Or.inl (by decide))⟩
/-- weigh -/
theorem st_10 (h : INV w) (a1 a2 a3 a4 a5 : Int32) : ∃ w', stp_10 a1 a2 a3 a4 a5 w w' ∧ INV w' := by
  obtain ⟨fs, gens, ord, hd, frm, by_, rch, h0, hb, hI⟩ := h
  obtain ⟨hS, hX, ⟨v, H, hA⟩, hFr, hCo, hT, hHo, hSu, L, B, tx, ty⟩ := id hI
  have hg := fam_gp hS.1
  obtain ⟨r, w1, w2, e1, e2, e3⟩ := c_weigh hX.1 hX.2.1 hg hA a1 a2
  exact ⟨_, ⟨r, w1, w2, e1, e2, rfl⟩, fs, gens, ord, hd, frm, by_, rch, h0, hb, INVp_kp (R := [37, 38, 39, 40, 43, 54, 55, 56]) (J := [15]) hI (actD_kp e3) (by decide) (Or.inr e3.1) (Or.inl (by decide)) (Or.inl (by decide)) (Or.inl (by decide)) (Or.inl (by decide)) (Or.inl (by decide)) (Or.inl (by decide))⟩
/-- keep -/
theorem st_11 (h : INV w) (a1 a2 a3 a4 a5 : Int32) : ∃ w', stp_11 a1 a2 a3 a4 a5 w w' ∧ INV w' := by
  obtain ⟨fs, gens, ord, hd, frm, by_, rch, h0, hb, hI⟩ := h
  obtain ⟨hS, hX, ⟨v, H, hA⟩, hFr, hCo, hT, hHo, hSu, L, B, tx, ty⟩ := id hI
  have hg := fam_gp hS.1
  obtain ⟨r, w1, w2, e1, e2, e3⟩ := c_keep hX.1 hX.2.1 hg hA a1
  exact ⟨_, ⟨r, w1, w2, e1, e2, rfl⟩, fs, gens, ord, hd, frm, by_, rch, h0, hb, INVp_kp (R := [37, 38, 39, 40, 43, 54, 55, 56]) (J := [15]) hI (actD_kp e3) (by decide) (Or.inr e3.1) (Or.inl (by decide)) (Or.inl (by decide)) (Or.inl (by decide)) (Or.inl (by decide)) (Or.inl (by decide)) (Or.inl (by decide))⟩
/-- take -/
theorem st_12 (h : INV w) (a1 a2 a3 a4 a5 : Int32) : ∃ w', stp_12 a1 a2 a3 a4 a5 w w' ∧ INV w' := by
  obtain ⟨fs, gens, ord, hd, frm, by_, rch, h0, hb, hI⟩ := h
  obtain ⟨hS, hX, ⟨v, H, hA⟩, hFr, hCo, hT, hHo, hSu, L, B, tx, ty⟩ := id hI
  have hg := fam_gp hS.1
  obtain ⟨r, w1, w2, e1, e2, e3⟩ := c_take hX.1 hX.2.1 hg hA a1
  exact ⟨_, ⟨r, w1, w2, e1, e2, rfl⟩, fs, gens, ord, hd, frm, by_, rch, h0, hb, INVp_kp (R := [37, 38, 39, 40, 43, 54, 55, 56]) (J := [15]) hI (actD_kp e3) (by decide) (Or.inr e3.1) (Or.inl (by decide)) (Or.inl (by decide)) (Or.inl (by decide)) (Or.inl (by decide)) (Or.inl (by decide)) (Or.inl (by decide))⟩
/-- undo -/
theorem st_13 (h : INV w) (a1 a2 a3 a4 a5 : Int32) : ∃ w', stp_13 a1 a2 a3 a4 a5 w w' ∧ INV w' := by
  obtain ⟨fs, gens, ord, hd, frm, by_, rch, h0, hb, hI⟩ := h
  obtain ⟨hS, hX, ⟨v, H, hA⟩, hFr, hCo, hT, hHo, hSu, L, B, tx, ty⟩ := id hI
  have hg := fam_gp hS.1
  obtain ⟨r, w1, w2, e1, e2, e3⟩ := c_undo hA 
  exact ⟨_, ⟨r, w1, w2, e1, e2, rfl⟩, fs, gens, ord, hd, frm, by_, rch, h0, hb, INVp_kp (R := [37, 38, 39, 40, 43, 54, 55, 56]) (J := [15]) hI (actD_kp e3) (by decide) (Or.inr e3.1) (Or.inl (by decide)) (Or.inl (by decide)) (Or.inl (by decide)) (Or.inl (by decide)) (Or.inl (by decide)) (Or.inl (by decide))⟩
/-- product -/
theorem st_14 (h : INV w) (a1 a2 a3 a4 a5 : Int32) : ∃ w', stp_14 a1 a2 a3 a4 a5 w w' ∧ INV w' := by
  obtain ⟨fs, gens, ord, hd, frm, by_, rch, h0, hb, hI⟩ := h
  obtain ⟨hS, hX, ⟨v, H, hA⟩, hFr, hCo, hT, hHo, hSu, L, B, tx, ty⟩ := id hI
  have hg := fam_gp hS.1
  obtain ⟨r, e1, e2⟩ := c_product hX.1 hX.2.1 hg a1 a2
  exact ⟨_, ⟨r, e1, e2, rfl⟩, fs, gens, ord, hd, frm, by_, rch, h0, hb, hI⟩
/-- inverse -/
theorem st_15 (h : INV w) (a1 a2 a3 a4 a5 : Int32) : ∃ w', stp_15 a1 a2 a3 a4 a5 w w' ∧ INV w' := by
  obtain ⟨fs, gens, ord, hd, frm, by_, rch, h0, hb, hI⟩ := h
  obtain ⟨hS, hX, ⟨v, H, hA⟩, hFr, hCo, hT, hHo, hSu, L, B, tx, ty⟩ := id hI
  have hg := fam_gp hS.1
  obtain ⟨r, e1, e2⟩ := c_inverse hX.1 hX.2.1 hg a1
  exact ⟨_, ⟨r, e1, e2, rfl⟩, fs, gens, ord, hd, frm, by_, rch, h0, hb, hI⟩
/-- orderOf -/
theorem st_16 (h : INV w) (a1 a2 a3 a4 a5 : Int32) : ∃ w', stp_16 a1 a2 a3 a4 a5 w w' ∧ INV w' := by
  obtain ⟨fs, gens, ord, hd, frm, by_, rch, h0, hb, hI⟩ := h
  obtain ⟨hS, hX, ⟨v, H, hA⟩, hFr, hCo, hT, hHo, hSu, L, B, tx, ty⟩ := id hI
  have hg := fam_gp hS.1
  obtain ⟨r, w1, e1, e2, e3, e4⟩ := c_orderOf hX.1 hX.2.1 hg a1
  exact ⟨_, ⟨r, w1, e1, e4, rfl⟩, fs, gens, ord, hd, frm, by_, rch, h0, hb, INVp_kp (R := [11]) (J := []) hI (kp_ne (fun k hk => e2 k (by simpa using hk)) (by decide)) (by decide) (Or.inl (by decide)) (Or.inl (by decide)) (Or.inl (by decide)) (Or.inl (by decide)) (Or.inl (by decide)) (Or.inl (by decide)) (Or.inl (by decide))⟩
/-- centre -/
theorem st_17 (h : INV w) (a1 a2 a3 a4 a5 : Int32) : ∃ w', stp_17 a1 a2 a3 a4 a5 w w' ∧ INV w' := by
  obtain ⟨fs, gens, ord, hd, frm, by_, rch, h0, hb, hI⟩ := h
  obtain ⟨hS, hX, ⟨v, H, hA⟩, hFr, hCo, hT, hHo, hSu, L, B, tx, ty⟩ := id hI
  have hg := fam_gp hS.1
  obtain ⟨r, e1, e2⟩ := c_centre hX.1 hX.2.1 hg 
  exact ⟨_, ⟨r, e1, e2, rfl⟩, fs, gens, ord, hd, frm, by_, rch, h0, hb, hI⟩
/-- span -/
theorem st_18 (h : INV w) (a1 a2 a3 a4 a5 : Int32) : ∃ w', stp_18 a1 a2 a3 a4 a5 w w' ∧ INV w' := by
  obtain ⟨fs, gens, ord, hd, frm, by_, rch, h0, hb, hI⟩ := h
  obtain ⟨hS, hX, ⟨v, H, hA⟩, hFr, hCo, hT, hHo, hSu, L, B, tx, ty⟩ := id hI
  have hg := fam_gp hS.1
  obtain ⟨r, w1, e1, e2, e3, e4⟩ := c_span hX.1 hX.2.1 hg a1
  exact ⟨_, ⟨r, w1, e1, e4, rfl⟩, fs, gens, ord, hd, frm, by_, rch, h0, hb, INVp_kp (R := [11]) (J := []) hI (kp_ne (fun k hk => e2 k (by simpa using hk)) (by decide)) (by decide) (Or.inl (by decide)) (Or.inl (by decide)) (Or.inl (by decide)) (Or.inl (by decide)) (Or.inl (by decide)) (Or.inl (by decide)) (Or.inl (by decide))⟩
/-- subgroups -/
theorem st_19 (h : INV w) (a1 a2 a3 a4 a5 : Int32) : ∃ w', stp_19 a1 a2 a3 a4 a5 w w' ∧ INV w' := by
  obtain ⟨fs, gens, ord, hd, frm, by_, rch, h0, hb, hI⟩ := h
  obtain ⟨hS, hX, ⟨v, H, hA⟩, hFr, hCo, hT, hHo, hSu, L, B, tx, ty⟩ := id hI
  have hg := fam_gp hS.1
  obtain ⟨r, w1, e1, e2, e3, e4⟩ := c_subgroups hX.1 hX.2.1 hg (fam_sb hS.1) hSu
  exact ⟨_, ⟨r, w1, e1, e2, rfl⟩, fs, gens, ord, hd, frm, by_, rch, h0, hb, INVp_sb hI e3 e4⟩
/-- coset -/
theorem st_20 (h : INV w) (a1 a2 a3 a4 a5 : Int32) : ∃ w', stp_20 a1 a2 a3 a4 a5 w w' ∧ INV w' := by
  obtain ⟨fs, gens, ord, hd, frm, by_, rch, h0, hb, hI⟩ := h
  obtain ⟨hS, hX, ⟨v, H, hA⟩, hFr, hCo, hT, hHo, hSu, L, B, tx, ty⟩ := id hI
  have hg := fam_gp hS.1
  obtain ⟨r, w1, e1, e2, e3, e4⟩ := c_coset hX.1 hX.2.1 hg a1 a2 (bz a3)
  exact ⟨_, ⟨r, w1, e1, e4, rfl⟩, fs, gens, ord, hd, frm, by_, rch, h0, hb, INVp_kp (R := [11]) (J := []) hI (kp_ne (fun k hk => e2 k (by simpa using hk)) (by decide)) (by decide) (Or.inl (by decide)) (Or.inl (by decide)) (Or.inl (by decide)) (Or.inl (by decide)) (Or.inl (by decide)) (Or.inl (by decide)) (Or.inl (by decide))⟩
/-- generator -/
theorem st_21 (h : INV w) (a1 a2 a3 a4 a5 : Int32) : ∃ w', stp_21 a1 a2 a3 a4 a5 w w' ∧ INV w' := by
  obtain ⟨fs, gens, ord, hd, frm, by_, rch, h0, hb, hI⟩ := h
  obtain ⟨hS, hX, ⟨v, H, hA⟩, hFr, hCo, hT, hHo, hSu, L, B, tx, ty⟩ := id hI
  have hg := fam_gp hS.1
  obtain ⟨r, e1, e2⟩ := c_generator hS.2.1.1 hX.2.2.2.2.2.1.1 hX.2.2.2.2.2.2.1 (fun i hi => by rw [hX.2.2.2.2.2.2.2.1 i _ (List.getElem?_eq_getElem hi), (hX.2.2.2.2.2.1.2.1 i _ (List.getElem?_eq_getElem hi)).1]) a1
  exact ⟨_, ⟨r, e1, e2, rfl⟩, fs, gens, ord, hd, frm, by_, rch, h0, hb, hI⟩
/-- alike -/
theorem st_22 (h : INV w) (a1 a2 a3 a4 a5 : Int32) : ∃ w', stp_22 a1 a2 a3 a4 a5 w w' ∧ INV w' := by
  obtain ⟨fs, gens, ord, hd, frm, by_, rch, h0, hb, hI⟩ := h
  obtain ⟨hS, hX, ⟨v, H, hA⟩, hFr, hCo, hT, hHo, hSu, L, B, tx, ty⟩ := id hI
  have hg := fam_gp hS.1
  obtain ⟨r, e1, e2⟩ := c_alike hX.1 hX.2.1 hg a1
  exact ⟨_, ⟨r, e1, e2, rfl⟩, fs, gens, ord, hd, frm, by_, rch, h0, hb, hI⟩
/-- kin -/
theorem st_23 (h : INV w) (a1 a2 a3 a4 a5 : Int32) : ∃ w', stp_23 a1 a2 a3 a4 a5 w w' ∧ INV w' := by
  obtain ⟨fs, gens, ord, hd, frm, by_, rch, h0, hb, hI⟩ := h
  obtain ⟨hS, hX, ⟨v, H, hA⟩, hFr, hCo, hT, hHo, hSu, L, B, tx, ty⟩ := id hI
  have hg := fam_gp hS.1
  obtain ⟨r, e1, e2⟩ := c_kin hX.1 hX.2.1 hg 
  exact ⟨_, ⟨r, e1, e2, rfl⟩, fs, gens, ord, hd, frm, by_, rch, h0, hb, hI⟩
/-- normal -/
theorem st_24 (h : INV w) (a1 a2 a3 a4 a5 : Int32) : ∃ w', stp_24 a1 a2 a3 a4 a5 w w' ∧ INV w' := by
  obtain ⟨fs, gens, ord, hd, frm, by_, rch, h0, hb, hI⟩ := h
  obtain ⟨hS, hX, ⟨v, H, hA⟩, hFr, hCo, hT, hHo, hSu, L, B, tx, ty⟩ := id hI
  have hg := fam_gp hS.1
  obtain ⟨r, w1, e1, e2, e3, e4⟩ := c_normal hX.1 hX.2.1 hg a1
  exact ⟨_, ⟨r, w1, e1, e4, rfl⟩, fs, gens, ord, hd, frm, by_, rch, h0, hb, INVp_kp (R := [11]) (J := []) hI (kp_ne (fun k hk => e2 k (by simpa using hk)) (by decide)) (by decide) (Or.inl (by decide)) (Or.inl (by decide)) (Or.inl (by decide)) (Or.inl (by decide)) (Or.inl (by decide)) (Or.inl (by decide)) (Or.inl (by decide))⟩
/-- power -/
theorem st_25 (h : INV w) (a1 a2 a3 a4 a5 : Int32) : ∃ w', stp_25 a1 a2 a3 a4 a5 w w' ∧ INV w' := by
  obtain ⟨fs, gens, ord, hd, frm, by_, rch, h0, hb, hI⟩ := h
  obtain ⟨hS, hX, ⟨v, H, hA⟩, hFr, hCo, hT, hHo, hSu, L, B, tx, ty⟩ := id hI
  have hg := fam_gp hS.1
  obtain ⟨r, e1, e2⟩ := c_power hX.1 hX.2.1 hg a1 a2
  exact ⟨_, ⟨r, e1, e2, rfl⟩, fs, gens, ord, hd, frm, by_, rch, h0, hb, hI⟩
/-- covers -/
theorem st_26 (h : INV w) (a1 a2 a3 a4 a5 : Int32) : ∃ w', stp_26 a1 a2 a3 a4 a5 w w' ∧ INV w' := by
  obtain ⟨fs, gens, ord, hd, frm, by_, rch, h0, hb, hI⟩ := h
  obtain ⟨hS, hX, ⟨v, H, hA⟩, hFr, hCo, hT, hHo, hSu, L, B, tx, ty⟩ := id hI
  have hg := fam_gp hS.1
  obtain ⟨r, e1, e2⟩ := c_covers hX.1 hX.2.1 hg a1
  exact ⟨_, ⟨r, e1, e2, rfl⟩, fs, gens, ord, hd, frm, by_, rch, h0, hb, hI⟩
/-- is -/
theorem st_27 (h : INV w) (a1 a2 a3 a4 a5 : Int32) : ∃ w', stp_27 a1 a2 a3 a4 a5 w w' ∧ INV w' := by
  obtain ⟨fs, gens, ord, hd, frm, by_, rch, h0, hb, hI⟩ := h
  obtain ⟨hS, hX, ⟨v, H, hA⟩, hFr, hCo, hT, hHo, hSu, L, B, tx, ty⟩ := id hI
  have hg := fam_gp hS.1
  obtain ⟨r, e1, e2⟩ := c_is hX.1 hX.2.1 hg a1 a2
  exact ⟨_, ⟨r, e1, e2, rfl⟩, fs, gens, ord, hd, frm, by_, rch, h0, hb, hI⟩
/-- triples -/
theorem st_28 (h : INV w) (a1 a2 a3 a4 a5 : Int32) : ∃ w', stp_28 a1 a2 a3 a4 a5 w w' ∧ INV w' := by
  obtain ⟨fs, gens, ord, hd, frm, by_, rch, h0, hb, hI⟩ := h
  obtain ⟨hS, hX, ⟨v, H, hA⟩, hFr, hCo, hT, hHo, hSu, L, B, tx, ty⟩ := id hI
  have hg := fam_gp hS.1
  obtain ⟨r, e1, e2⟩ := c_triples hX.1 hX.2.1 hg a1
  exact ⟨_, ⟨r, e1, e2, rfl⟩, fs, gens, ord, hd, frm, by_, rch, h0, hb, hI⟩
/-- triple -/
theorem st_29 (h : INV w) (a1 a2 a3 a4 a5 : Int32) : ∃ w', stp_29 a1 a2 a3 a4 a5 w w' ∧ INV w' := by
  obtain ⟨fs, gens, ord, hd, frm, by_, rch, h0, hb, hI⟩ := h
  obtain ⟨hS, hX, ⟨v, H, hA⟩, hFr, hCo, hT, hHo, hSu, L, B, tx, ty⟩ := id hI
  have hg := fam_gp hS.1
  obtain ⟨r, e1, e2⟩ := c_triple hX.1 hX.2.1 hg a1 a2
  exact ⟨_, ⟨r, e1, e2, rfl⟩, fs, gens, ord, hd, frm, by_, rch, h0, hb, hI⟩
/-- products -/
theorem st_30 (h : INV w) (a1 a2 a3 a4 a5 : Int32) : ∃ w', stp_30 a1 a2 a3 a4 a5 w w' ∧ INV w' := by
  obtain ⟨fs, gens, ord, hd, frm, by_, rch, h0, hb, hI⟩ := h
  obtain ⟨hS, hX, ⟨v, H, hA⟩, hFr, hCo, hT, hHo, hSu, L, B, tx, ty⟩ := id hI
  have hg := fam_gp hS.1
  obtain ⟨r, e1, e2⟩ := c_products hX.1 hX.2.1 hg a1 a2
  exact ⟨_, ⟨r, e1, e2, rfl⟩, fs, gens, ord, hd, frm, by_, rch, h0, hb, hI⟩
/-- quotients -/
theorem st_31 (h : INV w) (a1 a2 a3 a4 a5 : Int32) : ∃ w', stp_31 a1 a2 a3 a4 a5 w w' ∧ INV w' := by
  obtain ⟨fs, gens, ord, hd, frm, by_, rch, h0, hb, hI⟩ := h
  obtain ⟨hS, hX, ⟨v, H, hA⟩, hFr, hCo, hT, hHo, hSu, L, B, tx, ty⟩ := id hI
  have hg := fam_gp hS.1
  obtain ⟨r, e1, e2⟩ := c_quotients hX.1 hX.2.1 hg a1
  exact ⟨_, ⟨r, e1, e2, rfl⟩, fs, gens, ord, hd, frm, by_, rch, h0, hb, hI⟩
/-- even -/
theorem st_32 (h : INV w) (a1 a2 a3 a4 a5 : Int32) : ∃ w', stp_32 a1 a2 a3 a4 a5 w w' ∧ INV w' := by
  obtain ⟨fs, gens, ord, hd, frm, by_, rch, h0, hb, hI⟩ := h
  obtain ⟨hS, hX, ⟨v, H, hA⟩, hFr, hCo, hT, hHo, hSu, L, B, tx, ty⟩ := id hI
  have hg := fam_gp hS.1
  obtain ⟨r, e1, e2⟩ := c_even hX.1 hX.2.1 hg a1
  exact ⟨_, ⟨r, e1, e2, rfl⟩, fs, gens, ord, hd, frm, by_, rch, h0, hb, hI⟩
/-- copies -/
theorem st_33 (h : INV w) (a1 a2 a3 a4 a5 : Int32) : ∃ w', stp_33 a1 a2 a3 a4 a5 w w' ∧ INV w' := by
  obtain ⟨fs, gens, ord, hd, frm, by_, rch, h0, hb, hI⟩ := h
  obtain ⟨hS, hX, ⟨v, H, hA⟩, hFr, hCo, hT, hHo, hSu, L, B, tx, ty⟩ := id hI
  have hg := fam_gp hS.1
  obtain ⟨r, w1, e1, e2, e3, e4⟩ := c_copies hX.1 hX.2.1 hg a1
  exact ⟨_, ⟨r, w1, e1, e4, rfl⟩, fs, gens, ord, hd, frm, by_, rch, h0, hb, INVp_kp (R := [43]) (J := []) hI (kp_ne (fun k hk => e2 k (by simpa using hk)) (by decide)) (by decide) (Or.inl (by decide)) (Or.inl (by decide)) (Or.inl (by decide)) (Or.inl (by decide)) (Or.inl (by decide)) (Or.inl (by decide)) (Or.inl (by decide))⟩
/-- open -/
theorem st_34 (h : INV w) (a1 a2 a3 a4 a5 : Int32) : ∃ w', stp_34 a1 a2 a3 a4 a5 w w' ∧ INV w' := by
  obtain ⟨fs, gens, ord, hd, frm, by_, rch, h0, hb, hI⟩ := h
  obtain ⟨hS, hX, ⟨v, H, hA⟩, hFr, hCo, hT, hHo, hSu, L, B, tx, ty⟩ := id hI
  have hg := fam_gp hS.1
  obtain ⟨r, e1, e2⟩ := c_open hX.1 hX.2.1 hg a1
  exact ⟨_, ⟨r, e1, e2, rfl⟩, fs, gens, ord, hd, frm, by_, rch, h0, hb, hI⟩
/-- period -/
theorem st_35 (h : INV w) (a1 a2 a3 a4 a5 : Int32) : ∃ w', stp_35 a1 a2 a3 a4 a5 w w' ∧ INV w' := by
  obtain ⟨fs, gens, ord, hd, frm, by_, rch, h0, hb, hI⟩ := h
  obtain ⟨hS, hX, ⟨v, H, hA⟩, hFr, hCo, hT, hHo, hSu, L, B, tx, ty⟩ := id hI
  have hg := fam_gp hS.1
  obtain ⟨r, e1, e2⟩ := c_period hX.1 hX.2.1 hg a1 (bz a2)
  exact ⟨_, ⟨r, e1, e2, rfl⟩, fs, gens, ord, hd, frm, by_, rch, h0, hb, hI⟩
/-- ways -/
theorem st_36 (h : INV w) (a1 a2 a3 a4 a5 : Int32) : ∃ w', stp_36 a1 a2 a3 a4 a5 w w' ∧ INV w' := by
  obtain ⟨fs, gens, ord, hd, frm, by_, rch, h0, hb, hI⟩ := h
  obtain ⟨hS, hX, ⟨v, H, hA⟩, hFr, hCo, hT, hHo, hSu, L, B, tx, ty⟩ := id hI
  have hg := fam_gp hS.1
  obtain ⟨r, e1, e2⟩ := c_ways hX.1 hX.2.1 hg a1 a2
  exact ⟨_, ⟨r, e1, e2, rfl⟩, fs, gens, ord, hd, frm, by_, rch, h0, hb, hI⟩
/-- energy -/
theorem st_37 (h : INV w) (a1 a2 a3 a4 a5 : Int32) : ∃ w', stp_37 a1 a2 a3 a4 a5 w w' ∧ INV w' := by
  obtain ⟨fs, gens, ord, hd, frm, by_, rch, h0, hb, hI⟩ := h
  obtain ⟨hS, hX, ⟨v, H, hA⟩, hFr, hCo, hT, hHo, hSu, L, B, tx, ty⟩ := id hI
  have hg := fam_gp hS.1
  obtain ⟨r, e1, e2⟩ := c_energy hX.1 hX.2.1 hg a1
  exact ⟨_, ⟨r, e1, e2, rfl⟩, fs, gens, ord, hd, frm, by_, rch, h0, hb, hI⟩
/-- many -/
theorem st_38 (h : INV w) (a1 a2 a3 a4 a5 : Int32) : ∃ w', stp_38 a1 a2 a3 a4 a5 w w' ∧ INV w' := by
  obtain ⟨fs, gens, ord, hd, frm, by_, rch, h0, hb, hI⟩ := h
  obtain ⟨hS, hX, ⟨v, H, hA⟩, hFr, hCo, hT, hHo, hSu, L, B, tx, ty⟩ := id hI
  have hg := fam_gp hS.1
  have hFL := fam_FL hS.1
  obtain ⟨r, w1, e1, e2, e3⟩ := c_many hX.1 hX.2.1 hg hFL hFr a1 a2
  exact ⟨_, ⟨r, w1, e1, e2, rfl⟩, fs, gens, ord, hd, frm, by_, rch, h0, hb, INVp_kp (R := [19, 20, 43, 57]) (J := []) hI (frD_kp e3) (by decide) (Or.inl (by decide)) (Or.inr e3.1) (Or.inl (by decide)) (Or.inl (by decide)) (Or.inl (by decide)) (Or.inl (by decide)) (Or.inl (by decide))⟩
/-- greatest -/
theorem st_39 (h : INV w) (a1 a2 a3 a4 a5 : Int32) : ∃ w', stp_39 a1 a2 a3 a4 a5 w w' ∧ INV w' := by
  obtain ⟨fs, gens, ord, hd, frm, by_, rch, h0, hb, hI⟩ := h
  obtain ⟨hS, hX, ⟨v, H, hA⟩, hFr, hCo, hT, hHo, hSu, L, B, tx, ty⟩ := id hI
  have hg := fam_gp hS.1
  have hFL := fam_FL hS.1
  obtain ⟨r, w1, e1, e2, e3⟩ := c_greatest hX.1 hX.2.1 hg hFL hFr 
  exact ⟨_, ⟨r, w1, e1, e2, rfl⟩, fs, gens, ord, hd, frm, by_, rch, h0, hb, INVp_kp (R := [19, 20, 43, 57]) (J := []) hI (frD_kp e3) (by decide) (Or.inl (by decide)) (Or.inr e3.1) (Or.inl (by decide)) (Or.inl (by decide)) (Or.inl (by decide)) (Or.inl (by decide)) (Or.inl (by decide))⟩
/-- nth -/
theorem st_40 (h : INV w) (a1 a2 a3 a4 a5 : Int32) : ∃ w', stp_40 a1 a2 a3 a4 a5 w w' ∧ INV w' := by
  obtain ⟨fs, gens, ord, hd, frm, by_, rch, h0, hb, hI⟩ := h
  obtain ⟨hS, hX, ⟨v, H, hA⟩, hFr, hCo, hT, hHo, hSu, L, B, tx, ty⟩ := id hI
  have hg := fam_gp hS.1
  have hFL := fam_FL hS.1
  obtain ⟨r, w1, e1, e2, e3⟩ := c_nth hX.1 hX.2.1 hg hFL hFr a1 a2 a3
  exact ⟨_, ⟨r, w1, e1, e2, rfl⟩, fs, gens, ord, hd, frm, by_, rch, h0, hb, INVp_kp (R := [19, 20, 43, 57]) (J := []) hI (frD_kp e3) (by decide) (Or.inl (by decide)) (Or.inr e3.1) (Or.inl (by decide)) (Or.inl (by decide)) (Or.inl (by decide)) (Or.inl (by decide)) (Or.inl (by decide))⟩
/-- within -/
theorem st_41 (h : INV w) (a1 a2 a3 a4 a5 : Int32) : ∃ w', stp_41 a1 a2 a3 a4 a5 w w' ∧ INV w' := by
  obtain ⟨fs, gens, ord, hd, frm, by_, rch, h0, hb, hI⟩ := h
  obtain ⟨hS, hX, ⟨v, H, hA⟩, hFr, hCo, hT, hHo, hSu, L, B, tx, ty⟩ := id hI
  have hg := fam_gp hS.1
  have hFL := fam_FL hS.1
  obtain ⟨r, w1, e1, e2, e3⟩ := c_within hX.1 hX.2.1 hg hFL hFr a1 (bz a2)
  exact ⟨_, ⟨r, w1, e1, e2, rfl⟩, fs, gens, ord, hd, frm, by_, rch, h0, hb, INVp_kp (R := [19, 20, 43, 57]) (J := []) hI (frD_kp e3) (by decide) (Or.inl (by decide)) (Or.inr e3.1) (Or.inl (by decide)) (Or.inl (by decide)) (Or.inl (by decide)) (Or.inl (by decide)) (Or.inl (by decide))⟩
/-- nearest -/
theorem st_42 (h : INV w) (a1 a2 a3 a4 a5 : Int32) : ∃ w', stp_42 a1 a2 a3 a4 a5 w w' ∧ INV w' := by
  obtain ⟨fs, gens, ord, hd, frm, by_, rch, h0, hb, hI⟩ := h
  obtain ⟨hS, hX, ⟨v, H, hA⟩, hFr, hCo, hT, hHo, hSu, L, B, tx, ty⟩ := id hI
  have hg := fam_gp hS.1
  have hFL := fam_FL hS.1
  obtain ⟨r, w1, e1, e2, e3⟩ := c_nearest hX.1 hX.2.1 hg hFL hFr a1 a2 a3
  exact ⟨_, ⟨r, w1, e1, e2, rfl⟩, fs, gens, ord, hd, frm, by_, rch, h0, hb, INVp_kp (R := [19, 20, 43, 57]) (J := []) hI (frD_kp e3) (by decide) (Or.inl (by decide)) (Or.inr e3.1) (Or.inl (by decide)) (Or.inl (by decide)) (Or.inl (by decide)) (Or.inl (by decide)) (Or.inl (by decide))⟩
/-- best -/
theorem st_43 (h : INV w) (a1 a2 a3 a4 a5 : Int32) : ∃ w', stp_43 a1 a2 a3 a4 a5 w w' ∧ INV w' := by
  obtain ⟨fs, gens, ord, hd, frm, by_, rch, h0, hb, hI⟩ := h
  obtain ⟨hS, hX, ⟨v, H, hA⟩, hFr, hCo, hT, hHo, hSu, L, B, tx, ty⟩ := id hI
  have hg := fam_gp hS.1
  have hFL := fam_FL hS.1
  obtain ⟨r, w1, e1, e2, e3⟩ := c_best hX.1 hX.2.1 hg hFL hFr hA a1
  exact ⟨_, ⟨r, w1, e1, e2, rfl⟩, fs, gens, ord, hd, frm, by_, rch, h0, hb, INVp_kp (R := [19, 20, 43, 57]) (J := []) hI (frD_kp e3) (by decide) (Or.inl (by decide)) (Or.inr e3.1) (Or.inl (by decide)) (Or.inl (by decide)) (Or.inl (by decide)) (Or.inl (by decide)) (Or.inl (by decide))⟩
/-- mean -/
theorem st_44 (h : INV w) (a1 a2 a3 a4 a5 : Int32) : ∃ w', stp_44 a1 a2 a3 a4 a5 w w' ∧ INV w' := by
  obtain ⟨fs, gens, ord, hd, frm, by_, rch, h0, hb, hI⟩ := h
  obtain ⟨hS, hX, ⟨v, H, hA⟩, hFr, hCo, hT, hHo, hSu, L, B, tx, ty⟩ := id hI
  have hg := fam_gp hS.1
  have hFL := fam_FL hS.1
  obtain ⟨r, w1, e1, e2, e3⟩ := c_mean hX.1 hX.2.1 hg hFL hFr a1 (bz a2)
  exact ⟨_, ⟨r, w1, e1, e2, rfl⟩, fs, gens, ord, hd, frm, by_, rch, h0, hb, INVp_kp (R := [19, 20, 43, 57]) (J := []) hI (frD_kp e3) (by decide) (Or.inl (by decide)) (Or.inr e3.1) (Or.inl (by decide)) (Or.inl (by decide)) (Or.inl (by decide)) (Or.inl (by decide)) (Or.inl (by decide))⟩
/-- usual -/
theorem st_45 (h : INV w) (a1 a2 a3 a4 a5 : Int32) : ∃ w', stp_45 a1 a2 a3 a4 a5 w w' ∧ INV w' := by
  obtain ⟨fs, gens, ord, hd, frm, by_, rch, h0, hb, hI⟩ := h
  obtain ⟨hS, hX, ⟨v, H, hA⟩, hFr, hCo, hT, hHo, hSu, L, B, tx, ty⟩ := id hI
  have hg := fam_gp hS.1
  have hFL := fam_FL hS.1
  obtain ⟨r, w1, w2, e1, e2, e3⟩ := c_usual hX.1 hX.2.1 hg hFL hFr a1
  exact ⟨_, ⟨r, w1, w2, e1, e2, rfl⟩, fs, gens, ord, hd, frm, by_, rch, h0, hb, INVp_kp (R := [19, 20, 43, 57]) (J := []) hI (frD_kp e3) (by decide) (Or.inl (by decide)) (Or.inr e3.1) (Or.inl (by decide)) (Or.inl (by decide)) (Or.inl (by decide)) (Or.inl (by decide)) (Or.inl (by decide))⟩
/-- parts -/
theorem st_46 (h : INV w) (a1 a2 a3 a4 a5 : Int32) : ∃ w', stp_46 a1 a2 a3 a4 a5 w w' ∧ INV w' := by
  obtain ⟨fs, gens, ord, hd, frm, by_, rch, h0, hb, hI⟩ := h
  obtain ⟨hS, hX, ⟨v, H, hA⟩, hFr, hCo, hT, hHo, hSu, L, B, tx, ty⟩ := id hI
  have hg := fam_gp hS.1
  obtain ⟨r, w1, w2, e1, e2, e3⟩ := c_parts hX.1 hX.2.1 hg hCo a1
  exact ⟨_, ⟨r, w1, w2, e1, e2, rfl⟩, fs, gens, ord, hd, frm, by_, rch, h0, hb, INVp_kp (R := [21, 22, 23, 58, 59, 60, 61]) (J := [22]) hI (coD_kp e3) (by decide) (Or.inl (by decide)) (Or.inl (by decide)) (Or.inr e3.1) (Or.inl (by decide)) (Or.inl (by decide)) (Or.inl (by decide)) (Or.inl (by decide))⟩
/-- classes -/
theorem st_47 (h : INV w) (a1 a2 a3 a4 a5 : Int32) : ∃ w', stp_47 a1 a2 a3 a4 a5 w w' ∧ INV w' := by
  obtain ⟨fs, gens, ord, hd, frm, by_, rch, h0, hb, hI⟩ := h
  obtain ⟨hS, hX, ⟨v, H, hA⟩, hFr, hCo, hT, hHo, hSu, L, B, tx, ty⟩ := id hI
  have hg := fam_gp hS.1
  obtain ⟨r, w1, w2, e1, e2, e3⟩ := c_classes hX.1 hX.2.1 hg hCo 
  exact ⟨_, ⟨r, w1, w2, e1, e2, rfl⟩, fs, gens, ord, hd, frm, by_, rch, h0, hb, INVp_kp (R := [21, 22, 23, 58, 59, 60, 61]) (J := [22]) hI (coD_kp e3) (by decide) (Or.inl (by decide)) (Or.inl (by decide)) (Or.inr e3.1) (Or.inl (by decide)) (Or.inl (by decide)) (Or.inl (by decide)) (Or.inl (by decide))⟩
/-- colour -/
theorem st_48 (h : INV w) (a1 a2 a3 a4 a5 : Int32) : ∃ w', stp_48 a1 a2 a3 a4 a5 w w' ∧ INV w' := by
  obtain ⟨fs, gens, ord, hd, frm, by_, rch, h0, hb, hI⟩ := h
  obtain ⟨hS, hX, ⟨v, H, hA⟩, hFr, hCo, hT, hHo, hSu, L, B, tx, ty⟩ := id hI
  have hg := fam_gp hS.1
  obtain ⟨r, w1, w2, e1, e2, e3⟩ := c_colour hX.1 hX.2.1 hg hCo a1
  exact ⟨_, ⟨r, w1, w2, e1, e2, rfl⟩, fs, gens, ord, hd, frm, by_, rch, h0, hb, INVp_kp (R := [21, 22, 23, 58, 59, 60, 61]) (J := [22]) hI (coD_kp e3) (by decide) (Or.inl (by decide)) (Or.inl (by decide)) (Or.inr e3.1) (Or.inl (by decide)) (Or.inl (by decide)) (Or.inl (by decide)) (Or.inl (by decide))⟩
/-- turns -/
theorem st_49 (h : INV w) (a1 a2 a3 a4 a5 : Int32) : ∃ w', stp_49 a1 a2 a3 a4 a5 w w' ∧ INV w' := by
  obtain ⟨fs, gens, ord, hd, frm, by_, rch, h0, hb, hI⟩ := h
  obtain ⟨hS, hX, ⟨v, H, hA⟩, hFr, hCo, hT, hHo, hSu, L, B, tx, ty⟩ := id hI
  have hg := fam_gp hS.1
  obtain ⟨r, w1, w2, e1, e2, e3⟩ := c_turns hX.1 ⟨hX.2.1, hX.2.2.2.2.2.2⟩ hg hX.2.2.2.2.2.1 hS.2.1 hS.2.2 hT hFr 
  exact ⟨_, ⟨r, w1, w2, e1, e2, rfl⟩, fs, gens, ord, hd, frm, by_, rch, h0, hb, INVp_kp (R := [19, 20, 24, 25, 26, 27, 30, 31, 62, 63, 64]) (J := [26]) hI (tuD_kp e3) (by decide) (Or.inl (by decide)) (Or.inr e3.2.1) (Or.inl (by decide)) (Or.inr e3.1) (Or.inl (by decide)) (Or.inl (by decide)) (Or.inl (by decide))⟩
/-- image -/
theorem st_50 (h : INV w) (a1 a2 a3 a4 a5 : Int32) : ∃ w', stp_50 a1 a2 a3 a4 a5 w w' ∧ INV w' := by
  obtain ⟨fs, gens, ord, hd, frm, by_, rch, h0, hb, hI⟩ := h
  obtain ⟨hS, hX, ⟨v, H, hA⟩, hFr, hCo, hT, hHo, hSu, L, B, tx, ty⟩ := id hI
  have hg := fam_gp hS.1
  have hOB : ∀ S, S < 2 ^ (gst fs).1 → ∀ Q, OQ (gst fs).1 (gst fs).2.1 S Q → Q.length ≤ 2560 := fun S hS' Q hQ => fam_orb hS.1 hS' hQ
  obtain ⟨r, w1, w2, e1, e2, e3⟩ := c_image hX.1 ⟨hX.2.1, hX.2.2.2.2.2.2⟩ hg hX.2.2.2.2.2.1 hS.2.1 hS.2.2 hT hFr hOB a1
  exact ⟨_, ⟨r, w1, w2, e1, e2, rfl⟩, fs, gens, ord, hd, frm, by_, rch, h0, hb, INVp_kp (R := [19, 20, 24, 25, 26, 27, 30, 31, 62, 63, 64]) (J := [26]) hI (tuD_kp e3) (by decide) (Or.inl (by decide)) (Or.inr e3.2.1) (Or.inl (by decide)) (Or.inr e3.1) (Or.inl (by decide)) (Or.inl (by decide)) (Or.inl (by decide))⟩
/-- orbit -/
theorem st_51 (h : INV w) (a1 a2 a3 a4 a5 : Int32) : ∃ w', stp_51 a1 a2 a3 a4 a5 w w' ∧ INV w' := by
  obtain ⟨fs, gens, ord, hd, frm, by_, rch, h0, hb, hI⟩ := h
  obtain ⟨hS, hX, ⟨v, H, hA⟩, hFr, hCo, hT, hHo, hSu, L, B, tx, ty⟩ := id hI
  have hg := fam_gp hS.1
  have hOB : ∀ S, S < 2 ^ (gst fs).1 → ∀ Q, OQ (gst fs).1 (gst fs).2.1 S Q → Q.length ≤ 2560 := fun S hS' Q hQ => fam_orb hS.1 hS' hQ
  obtain ⟨r, w1, w2, e1, e2, e3⟩ := c_orbit hX.1 ⟨hX.2.1, hX.2.2.2.2.2.2⟩ hg hX.2.2.2.2.2.1 hS.2.1 hS.2.2 hT hFr hOB a1
  exact ⟨_, ⟨r, w1, w2, e1, e2, rfl⟩, fs, gens, ord, hd, frm, by_, rch, h0, hb, INVp_kp (R := [19, 20, 24, 25, 26, 27, 30, 31, 62, 63, 64]) (J := [26]) hI (tuD_kp e3) (by decide) (Or.inl (by decide)) (Or.inr e3.2.1) (Or.inl (by decide)) (Or.inr e3.1) (Or.inl (by decide)) (Or.inl (by decide)) (Or.inl (by decide))⟩
/-- orbits -/
theorem st_52 (h : INV w) (a1 a2 a3 a4 a5 : Int32) : ∃ w', stp_52 a1 a2 a3 a4 a5 w w' ∧ INV w' := by
  obtain ⟨fs, gens, ord, hd, frm, by_, rch, h0, hb, hI⟩ := h
  obtain ⟨hS, hX, ⟨v, H, hA⟩, hFr, hCo, hT, hHo, hSu, L, B, tx, ty⟩ := id hI
  have hg := fam_gp hS.1
  have hFL := fam_FL hS.1
  have hOB : ∀ S, S < 2 ^ (gst fs).1 → ∀ Q, OQ (gst fs).1 (gst fs).2.1 S Q → Q.length ≤ 2560 := fun S hS' Q hQ => fam_orb hS.1 hS' hQ
  obtain ⟨r, w1, w2, e1, e2, e3⟩ := c_orbits hX.1 ⟨hX.2.1, hX.2.2.2.2.2.2⟩ hg hX.2.2.2.2.2.1 hS.2.1 hS.2.2 hT hFL hFr hOB a1 a2
  exact ⟨_, ⟨r, w1, w2, e1, e2, rfl⟩, fs, gens, ord, hd, frm, by_, rch, h0, hb, INVp_kp (R := [19, 20, 24, 25, 26, 27, 30, 31, 62, 63, 64]) (J := [26]) hI (tuD_kp e3) (by decide) (Or.inl (by decide)) (Or.inr e3.2.1) (Or.inl (by decide)) (Or.inr e3.1) (Or.inl (by decide)) (Or.inl (by decide)) (Or.inl (by decide))⟩
/-- characters -/
theorem st_53 (h : INV w) (a1 a2 a3 a4 a5 : Int32) : ∃ w', stp_53 a1 a2 a3 a4 a5 w w' ∧ INV w' := by
  obtain ⟨fs, gens, ord, hd, frm, by_, rch, h0, hb, hI⟩ := h
  obtain ⟨hS, hX, ⟨v, H, hA⟩, hFr, hCo, hT, hHo, hSu, L, B, tx, ty⟩ := id hI
  have hg := fam_gp hS.1
  have hC : ∀ m, 1 ≤ m → m ≤ 16 → (CL (gst fs).1 (gst fs).2.1 m gens).length ≤ 16 := fun m _ hm => CL_le hS.1 hm (fun g hgm => (hS.2.1.2.1 g hgm).2)
  obtain ⟨r, w1, w2, e1, e2, e3⟩ := c_characters hX.1 ⟨hX.2.1, hX.2.2.2.2.2.2⟩ hg hX.2.2.2.2.2.1 hS.2.1 hS.2.2 hHo hC a1
  exact ⟨_, ⟨r, w1, w2, e1, e2, rfl⟩, fs, gens, ord, hd, frm, by_, rch, h0, hb, INVp_kp (R := [32, 33, 34, 35, 36, 62, 63]) (J := []) hI (hoD_kp e3) (by decide) (Or.inl (by decide)) (Or.inl (by decide)) (Or.inl (by decide)) (Or.inl (by decide)) (Or.inr e3.1) (Or.inl (by decide)) (Or.inl (by decide))⟩
/-- character -/
theorem st_54 (h : INV w) (a1 a2 a3 a4 a5 : Int32) : ∃ w', stp_54 a1 a2 a3 a4 a5 w w' ∧ INV w' := by
  obtain ⟨fs, gens, ord, hd, frm, by_, rch, h0, hb, hI⟩ := h
  obtain ⟨hS, hX, ⟨v, H, hA⟩, hFr, hCo, hT, hHo, hSu, L, B, tx, ty⟩ := id hI
  have hg := fam_gp hS.1
  have hC : ∀ m, 1 ≤ m → m ≤ 16 → (CL (gst fs).1 (gst fs).2.1 m gens).length ≤ 16 := fun m _ hm => CL_le hS.1 hm (fun g hgm => (hS.2.1.2.1 g hgm).2)
  obtain ⟨r, w1, w2, e1, e2, e3⟩ := c_character hX.1 ⟨hX.2.1, hX.2.2.2.2.2.2⟩ hg hX.2.2.2.2.2.1 hS.2.1 hS.2.2 hHo hC a1 a2 a3
  exact ⟨_, ⟨r, w1, w2, e1, e2, rfl⟩, fs, gens, ord, hd, frm, by_, rch, h0, hb, INVp_kp (R := [32, 33, 34, 35, 36, 62, 63]) (J := []) hI (hoD_kp e3) (by decide) (Or.inl (by decide)) (Or.inl (by decide)) (Or.inl (by decide)) (Or.inl (by decide)) (Or.inr e3.1) (Or.inl (by decide)) (Or.inl (by decide))⟩
/-- lift -/
theorem st_55 (h : INV w) (a1 a2 a3 a4 a5 : Int32) : ∃ w', stp_55 a1 a2 a3 a4 a5 w w' ∧ INV w' := by
  obtain ⟨fs, gens, ord, hd, frm, by_, rch, h0, hb, hI⟩ := h
  obtain ⟨hS, hX, ⟨v, H, hA⟩, hFr, hCo, hT, hHo, hSu, L, B, tx, ty⟩ := id hI
  have hg := fam_gp hS.1
  have hC : ∀ m, 1 ≤ m → m ≤ 16 → (CL (gst fs).1 (gst fs).2.1 m gens).length ≤ 16 := fun m _ hm => CL_le hS.1 hm (fun g hgm => (hS.2.1.2.1 g hgm).2)
  obtain ⟨r, w1, w2, e1, e2, e3⟩ := c_lift hX.1 ⟨hX.2.1, hX.2.2.2.2.2.2⟩ hg hX.2.2.2.2.2.1 hS.2.1 hS.2.2 hHo hC a1 a2 a3
  exact ⟨_, ⟨r, w1, w2, e1, e2, rfl⟩, fs, gens, ord, hd, frm, by_, rch, h0, hb, INVp_kp (R := [32, 33, 34, 35, 36, 62, 63]) (J := []) hI (hoD_kp e3) (by decide) (Or.inl (by decide)) (Or.inl (by decide)) (Or.inl (by decide)) (Or.inl (by decide)) (Or.inr e3.1) (Or.inl (by decide)) (Or.inl (by decide))⟩
/-- middle -/
theorem st_56 (h : INV w) (a1 a2 a3 a4 a5 : Int32) : ∃ w', stp_56 a1 a2 a3 a4 a5 w w' ∧ INV w' := by
  obtain ⟨r, e1, e2⟩ := c_middle a1
  exact ⟨w, ⟨r, e1, e2, rfl⟩, h⟩
/-- lifted -/
theorem st_57 (h : INV w) (a1 a2 a3 a4 a5 : Int32) : ∃ w', stp_57 a1 a2 a3 a4 a5 w w' ∧ INV w' := by
  obtain ⟨fs, gens, ord, hd, frm, by_, rch, h0, hb, hI⟩ := h
  obtain ⟨hS, hX, ⟨v, H, hA⟩, hFr, hCo, hT, hHo, hSu, L, B, tx, ty⟩ := id hI
  have hg := fam_gp hS.1
  have hC : ∀ m, 1 ≤ m → m ≤ 16 → (CL (gst fs).1 (gst fs).2.1 m gens).length ≤ 16 := fun m _ hm => CL_le hS.1 hm (fun g hgm => (hS.2.1.2.1 g hgm).2)
  obtain ⟨r, w1, w2, e1, e2, e3⟩ := c_lifted hX.1 ⟨hX.2.1, hX.2.2.2.2.2.2⟩ hg hX.2.2.2.2.2.1 hS.2.1 hS.2.2 hHo hC a1
  exact ⟨_, ⟨r, w1, w2, e1, e2, rfl⟩, fs, gens, ord, hd, frm, by_, rch, h0, hb, INVp_kp (R := [32, 33, 34, 35, 36, 62, 63]) (J := []) hI (hoD_kp e3) (by decide) (Or.inl (by decide)) (Or.inl (by decide)) (Or.inl (by decide)) (Or.inl (by decide)) (Or.inr e3.1) (Or.inl (by decide)) (Or.inl (by decide))⟩
/-- ints -/
theorem st_58 (h : INV w) (a1 a2 a3 a4 a5 : Int32) : ∃ w', stp_58 a1 a2 a3 a4 a5 w w' ∧ INV w' := by
  obtain ⟨r, e1, e2⟩ := c_ints a1 a2
  exact ⟨w, ⟨r, e1, e2, rfl⟩, h⟩
/-- spell -/
theorem st_59 (h : INV w) (a1 a2 a3 a4 a5 : Int32) : ∃ w', stp_59 a1 a2 a3 a4 a5 w w' ∧ INV w' := by
  obtain ⟨fs, gens, ord, hd, frm, by_, rch, h0, hb, hI⟩ := h
  obtain ⟨hS, hX, ⟨v, H, hA⟩, hFr, hCo, hT, hHo, hSu, L, B, tx, ty⟩ := id hI
  have hg := fam_gp hS.1
  obtain ⟨r, w1, w2, e1, e2, e3⟩ := c_spell hX.1 hX.2.1 hg hX.2.2.2.2.1 hA hX.2.2.1 hX.2.2.2.1 (fam_fok hS.1) a1
  exact ⟨_, ⟨r, w1, w2, e1, e2, rfl⟩, fs, gens, ord, hd, frm, by_, rch, h0, hb, INVp_kp (R := [41, 42, 65]) (J := [28]) hI (txK_kp e3) (by decide) (Or.inl (by decide)) (Or.inl (by decide)) (Or.inl (by decide)) (Or.inl (by decide)) (Or.inl (by decide)) (Or.inl (by decide)) (Or.inl (by decide))⟩
/-- report -/
theorem st_60 (h : INV w) (a1 a2 a3 a4 a5 : Int32) : ∃ w', stp_60 a1 a2 a3 a4 a5 w w' ∧ INV w' := by
  obtain ⟨fs, gens, ord, hd, frm, by_, rch, h0, hb, hI⟩ := h
  obtain ⟨hS, hX, ⟨v, H, hA⟩, hFr, hCo, hT, hHo, hSu, L, B, tx, ty⟩ := id hI
  have hg := fam_gp hS.1
  obtain ⟨r, w1, w2, e1, e2, e3⟩ := c_report hX.1 hX.2.1 hg hX.2.2.2.2.1 hA a1
  exact ⟨_, ⟨r, w1, w2, e1, e2, rfl⟩, fs, gens, ord, hd, frm, by_, rch, h0, hb, INVp_kp (R := [41, 42, 65]) (J := [28]) hI (txK_kp e3) (by decide) (Or.inl (by decide)) (Or.inl (by decide)) (Or.inl (by decide)) (Or.inl (by decide)) (Or.inl (by decide)) (Or.inl (by decide)) (Or.inl (by decide))⟩
/-- count -/
theorem st_61 (h : INV w) (a1 a2 a3 a4 a5 : Int32) : ∃ w', stp_61 a1 a2 a3 a4 a5 w w' ∧ INV w' := by
  obtain ⟨fs, gens, ord, hd, frm, by_, rch, h0, hb, hI⟩ := h
  obtain ⟨hS, hX, ⟨v, H, hA⟩, hFr, hCo, hT, hHo, hSu, L, B, tx, ty⟩ := id hI
  have hg := fam_gp hS.1
  obtain ⟨r, e1, e2⟩ := c_count hX.1 hX.2.1 hg hA hX.2.2.1 hX.2.2.2.1 (by rw [ty.2.1, tx.2.1]) (by rw [hX.2.2.2.2.2.2.1, hX.2.2.2.2.2.1.1]) a1
  exact ⟨_, ⟨r, e1, e2, rfl⟩, fs, gens, ord, hd, frm, by_, rch, h0, hb, hI⟩
end STEPS
