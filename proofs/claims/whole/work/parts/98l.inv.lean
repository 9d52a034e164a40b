/-! the invariant -/
def GRP (fs : List (Nat × Nat)) (gens ord hd : List Nat) (frm by_ rch h0 hb : Nat → Nat) (w : Wd) : Prop := GX w (gst fs).1 (gst fs).2.1 (gst fs).2.2 ∧ GM w (gst fs).1 (gst fs).2.1 (gst fs).2.2 ∧ FCx w fs ∧ FCy w fs ∧ WDS w ∧ BX w gens ord frm by_ rch ∧ BY w gens hd h0 hb
def TAP (w : Wd) : Prop := ∃ L B, TPx w L B ∧ TPy w L B
def INVp (fs : List (Nat × Nat)) (gens ord hd : List Nat) (frm by_ rch h0 hb : Nat → Nat) (w : Wd) : Prop := (FAM fs ∧ BO (gst fs).1 (gst fs).2.1 gens ord frm by_ rch ∧ HO (gst fs).1 (gst fs).2.1 gens hd h0 hb) ∧ GRP fs gens ord hd frm by_ rch h0 hb w ∧ (∃ v H, ACT (gst fs).1 w v H) ∧ FRI (gst fs).1 (gst fs).2.1 w ∧ COLI (gst fs).1 (gst fs).2.1 w ∧ TU (gst fs).1 (gst fs).2.1 gens w ∧ HRI (gst fs).1 (gst fs).2.1 gens w ∧ SUBI (gst fs).1 (gst fs).2.1 w ∧ TAP w
def INV (w : Wd) : Prop := ∃ (fs : List (Nat × Nat)) (gens ord hd : List Nat) (frm by_ rch h0 hb : Nat → Nat), INVp fs gens ord hd frm by_ rch h0 hb w
def fre (R L : List Nat) : Bool := L.all (fun k => !R.contains k)
theorem fre_not {R L : List Nat} (h : fre R L = true) {k : Nat} (hk : k ∈ L) : k ∉ R := by
  have := List.all_eq_true.mp h k hk
  simpa using this
section INVS
variable {w w' : Wd} {R J : List Nat} {fs : List (Nat × Nat)} {gens ord hd : List Nat} {frm by_ rch h0 hb : Nat → Nat}
theorem kpL.row (h : kpL R J w w') {L : List Nat} (hf : fre R L = true) {k : Nat} (hk : k ∈ L) (h44 : k ≠ 44) : w'.1 k = w.1 k := h.1 k (fre_not hf hk) h44
theorem kpL.at (h : kpL R J w w') {L : List Nat} (hf : fre J L = true) {j : Nat} (hj : j ∈ L) : w'.1 44 j = w.1 44 j := h.2 j (fre_not hf hj)
def grR : List Nat := [6, 7, 8, 9, 10, 13, 14, 15, 16, 17, 18, 45, 46, 47, 48, 49, 50, 51, 52, 53, 67]
theorem COLI_cong {n : Nat} {T : Nat → Nat → Nat} (h : COLI n T w) (e1 : w'.1 21 = w.1 21) (e2 : w'.1 23 = w.1 23) : COLI n T w' := by
  unfold COLI at h ⊢
  rw [e1, e2]; exact h
theorem ACT_cong {n : Nat} {v : Nat → Int32} {H : List (Nat × Int32)} (h : ACT n w v H) (e1 : w'.1 37 = w.1 37) (e2 : w'.1 38 = w.1 38) (e3 : w'.1 39 = w.1 39) (e4 : w'.1 40 = w.1 40) (e5 : w'.1 54 = w.1 54) (e6 : w'.1 55 = w.1 55) (e7 : w'.1 44 15 = w.1 44 15) : ACT n w' v H := ⟨AX_cong h.1 e1 e2 e3 e4, AM_cong h.2.1 e5 e6 e7, h.2.2⟩
theorem GRP_kp (h : GRP fs gens ord hd frm by_ rch h0 hb w) (k : kpL R J w w') (h1 : fre R grR = true) (h2 : fre J [1, 2, 9] = true) : GRP fs gens ord hd frm by_ rch h0 hb w' := by
  obtain ⟨a1, a2, a3, a4, a5, a6, a7⟩ := h
  have e : ∀ j, j ∈ grR → j ≠ 44 → w'.1 j = w.1 j := fun j hj h44 => k.row h1 hj h44
  have f : ∀ j, j ∈ [1, 2, 9] → w'.1 44 j = w.1 44 j := fun j hj => k.at h2 hj
  refine ⟨GX_cong a1 (e 6 (by decide) (by decide)) (e 9 (by decide) (by decide)) (e 10 (by decide) (by decide)), GM_cong a2 (f 1 (by decide)) (e 47 (by decide) (by decide)) (e 48 (by decide) (by decide)) (e 49 (by decide) (by decide)), FCx_cong a3 (by rw [e 6 (by decide) (by decide)]) (e 7 (by decide) (by decide)) (e 8 (by decide) (by decide)), FCy_cong a4 (f 2 (by decide)) (e 45 (by decide) (by decide)) (e 46 (by decide) (by decide)), fun j hj => by rw [e 67 (by decide) (by decide)]; exact a5 j hj, BX_cong a6 (by rw [e 13 (by decide) (by decide)]) (e 14 (by decide) (by decide)) (e 15 (by decide) (by decide)) (e 16 (by decide) (by decide)) (e 17 (by decide) (by decide)) (e 18 (by decide) (by decide)), BY_cong a7 (f 9 (by decide)) (e 50 (by decide) (by decide)) (e 51 (by decide) (by decide)) (e 52 (by decide) (by decide)) (e 53 (by decide) (by decide))⟩
theorem TAP_cong (h : TAP w) (e1 : w'.1 1 = w.1 1) (e2 : w'.1 2 = w.1 2) (e3 : w'.1 44 30 = w.1 44 30) (e4 : w'.1 66 = w.1 66) : TAP w' := by
  obtain ⟨L, B, x, y⟩ := h
  exact ⟨L, B, TPx_cong x (by rw [e1]) e2, TPy_cong y e3 e4⟩
theorem INVp_kp (h : INVp fs gens ord hd frm by_ rch h0 hb w) (k : kpL R J w w') (hgr : (fre R grR && fre J [1, 2, 9]) = true) (hac : (fre R [37, 38, 39, 40, 54, 55] && fre J [15]) = true ∨ ∃ v H, ACT (gst fs).1 w' v H) (hfr : fre R [19, 20] = true ∨ FRI (gst fs).1 (gst fs).2.1 w') (hco : fre R [21, 23] = true ∨ COLI (gst fs).1 (gst fs).2.1 w') (htu : fre R [24, 25, 26, 29, 31] = true ∨ TU (gst fs).1 (gst fs).2.1 gens w') (hho : fre R [32, 33, 34, 36] = true ∨ HRI (gst fs).1 (gst fs).2.1 gens w') (hsb : fre R [6] = true ∨ SUBI (gst fs).1 (gst fs).2.1 w') (htp : (fre R [1, 2, 66] && fre J [30]) = true ∨ TAP w') : INVp fs gens ord hd frm by_ rch h0 hb w' := by
  obtain ⟨hS, a1, a2, a3, a4, a5, a6, a7, a8⟩ := h
  rw [Bool.and_eq_true] at hgr
  refine ⟨hS, GRP_kp a1 k hgr.1 hgr.2, ?_, ?_, ?_, ?_, ?_, ?_, ?_⟩
  · rcases hac with q | q
    · rw [Bool.and_eq_true] at q
      obtain ⟨v, H, hA⟩ := a2
      exact ⟨v, H, ACT_cong hA (k.row q.1 (by decide) (by decide)) (k.row q.1 (by decide) (by decide)) (k.row q.1 (by decide) (by decide)) (k.row q.1 (by decide) (by decide)) (k.row q.1 (by decide) (by decide)) (k.row q.1 (by decide) (by decide)) (k.at q.2 (by decide))⟩
    · exact q
  · rcases hfr with q | q
    · exact FRI_cong a3 (by rw [k.row q (k := 19) (by decide) (by decide)]) (k.row q (by decide) (by decide))
    · exact q
  · rcases hco with q | q
    · exact COLI_cong a4 (k.row q (by decide) (by decide)) (k.row q (by decide) (by decide))
    · exact q
  · rcases htu with q | q
    · exact ⟨by rw [k.row q (k := 29) (by decide) (by decide)]; exact a5.1, by rw [k.row q (k := 31) (by decide) (by decide)]; exact a5.2.1, TRI_cong a5.2.2 (by rw [k.row q (k := 24) (by decide) (by decide)]) (k.row q (by decide) (by decide)) (k.row q (by decide) (by decide))⟩
    · exact q
  · rcases hho with q | q
    · exact HRI_cong a6 (k.row q (by decide) (by decide)) (k.row q (by decide) (by decide)) (k.row q (by decide) (by decide)) (k.row q (by decide) (by decide))
    · exact q
  · rcases hsb with q | q
    · unfold SUBI at a7 ⊢
      rw [k.row q (k := 6) (by decide) (by decide)]; exact a7
    · exact q
  · rcases htp with q | q
    · rw [Bool.and_eq_true] at q
      exact TAP_cong a8 (k.row q.1 (by decide) (by decide)) (k.row q.1 (by decide) (by decide)) (k.at q.2 (by decide)) (k.row q.1 (by decide) (by decide))
    · exact q
theorem INVp_sb (h : INVp fs gens ord hd frm by_ rch h0 hb w) (hs : SUBI (gst fs).1 (gst fs).2.1 w') (k : sbK w w') : INVp fs gens ord hd frm by_ rch h0 hb w' := by
  obtain ⟨hS, ⟨b1, b2, b3, b4, b5, b6, b7⟩, ⟨v, H, a2⟩, a3, a4, a5, a6, a7, a8⟩ := h
  have e : ∀ j, (j < 6 ∨ (6 < j ∧ j < 11) ∨ 12 < j) → w'.1 j = w.1 j := fun j hj => k.1 j (by omega) (by omega) (by omega)
  have e44 := e 44 (by decide)
  refine ⟨hS, ⟨k.gx b1, GM_cong b2 (by rw [e44]) (e 47 (by decide)) (e 48 (by decide)) (e 49 (by decide)), FCx_cong b3 (k.2.1 6 (by decide)) (e 7 (by decide)) (e 8 (by decide)), FCy_cong b4 (by rw [e44]) (e 45 (by decide)) (e 46 (by decide)), fun j hj => by rw [e 67 (by decide)]; exact b5 j hj, BX_cong b6 (by rw [e 13 (by decide)]) (e 14 (by decide)) (e 15 (by decide)) (e 16 (by decide)) (e 17 (by decide)) (e 18 (by decide)), BY_cong b7 (by rw [e44]) (e 50 (by decide)) (e 51 (by decide)) (e 52 (by decide)) (e 53 (by decide))⟩, ⟨v, H, ACT_cong a2 (e 37 (by decide)) (e 38 (by decide)) (e 39 (by decide)) (e 40 (by decide)) (e 54 (by decide)) (e 55 (by decide)) (by rw [e44])⟩, FRI_cong a3 (by rw [e 19 (by decide)]) (e 20 (by decide)), COLI_cong a4 (e 21 (by decide)) (e 23 (by decide)), ⟨by rw [e 29 (by decide)]; exact a5.1, by rw [e 31 (by decide)]; exact a5.2.1, TRI_cong a5.2.2 (by rw [e 24 (by decide)]) (e 25 (by decide)) (e 26 (by decide))⟩, HRI_cong a6 (e 36 (by decide)) (e 34 (by decide)) (e 32 (by decide)) (e 33 (by decide)), hs, TAP_cong a8 (e 1 (by decide)) (e 2 (by decide)) (by rw [e44]) (e 66 (by decide))⟩
theorem kp_ne (e : ∀ k, k ∉ R → w'.1 k = w.1 k) (h : fre R [44] = true) : kpL R [] w w' := ⟨fun k hk _ => e k hk, fun j _ => by rw [e 44 (fre_not h (by decide))]⟩
theorem kp_mem {P : Nat → Prop} {J' : Nat → Prop} (h : keepM P J' w w') (hP : ∀ k, k ∉ R → ¬ P k) (hJ : ∀ j, j ∉ J → ¬ J' j) : kpL R J w w' := ⟨fun k hk h44 => h.1 k (hP k hk) h44, fun j hj => h.2.1 j (hJ j hj)⟩
theorem frD_kp {n : Nat} {T : Nat → Nat → Nat} (h : frD n T w w') : kpL [19, 20, 43, 57] [] w w' := kp_ne (fun k hk => by
  simp only [List.mem_cons, List.not_mem_nil, or_false, not_or] at hk
  exact h.2.1 k hk.1 hk.2.1 hk.2.2.1 hk.2.2.2) (by decide)
theorem actD_kp {n : Nat} (h : actD n w w') : kpL [37, 38, 39, 40, 43, 54, 55, 56] [15] w w' := kp_mem h.2 (fun k hk q => by
  simp only [List.mem_cons, List.not_mem_nil, or_false, not_or] at hk
  unfold aK at q; omega) (fun j hj q => by
  simp only [List.mem_cons, List.not_mem_nil, or_false] at hj
  exact hj q)
theorem coD_kp {n : Nat} {T : Nat → Nat → Nat} (h : coD n T w w') : kpL [21, 22, 23, 58, 59, 60, 61] [22] w w' := kp_mem h.2 (fun k hk q => by
  simp only [List.mem_cons, List.not_mem_nil, or_false, not_or] at hk
  unfold coK at q; omega) (fun j hj q => by
  simp only [List.mem_cons, List.not_mem_nil, or_false] at hj
  exact hj q)
theorem tuD_kp {n : Nat} {T : Nat → Nat → Nat} (h : tuD n T gens w w') : kpL [19, 20, 24, 25, 26, 27, 30, 31, 62, 63, 64] [26] w w' := ⟨fun k hk h44 => h.2.2.1 k (fun q => by
  simp only [List.mem_cons, List.not_mem_nil, or_false, not_or] at hk
  unfold tuK at q; omega) h44, fun j hj => h.2.2.2 j (by simpa using hj)⟩
theorem hoD_kp {n : Nat} {T : Nat → Nat → Nat} (h : hoD n T gens w w') : kpL [32, 33, 34, 35, 36, 62, 63] [] w w' := kp_ne (fun k hk => h.2.1 k (fun q => by
  simp only [List.mem_cons, List.not_mem_nil, or_false, not_or] at hk
  unfold hoC at q; omega)) (by decide)
theorem txK_kp (h : keepM txK (fun j => j = 28) w w') : kpL [41, 42, 65] [28] w w' := kp_mem h (fun k hk q => by
  simp only [List.mem_cons, List.not_mem_nil, or_false, not_or] at hk
  unfold txK at q; omega) (fun j hj q => by
  simp only [List.mem_cons, List.not_mem_nil, or_false] at hj
  exact hj q)
theorem TAP_nil (h1 : w.1 1 1 = nI 0) (h2 : w.1 44 30 = nI 0) : TAP w := ⟨0, fun _ => 0, ⟨by decide, h1, fun i hi => absurd hi (Nat.not_lt_zero _), fun _ => Nat.succ_pos 255⟩, ⟨by decide, h2, fun i hi => absurd hi (Nat.not_lt_zero _), fun _ => Nat.succ_pos 255⟩⟩
theorem INV_new {S : Nat} (hF : FAM fs) (hSl : S < 2 ^ (gst fs).1) (hO : BO (gst fs).1 (gst fs).2.1 gens ord frm by_ rch) (hH : HO (gst fs).1 (gst fs).2.1 gens hd h0 hb) (hx : NEWx fs gens ord frm by_ rch S w) (hy : NEWy fs gens hd h0 hb S w) (hW : WDS w) (h29 : w.1 29 4 = 0) (h31 : w.1 31 0 = 0) (h36 : w.1 36 0 = 0) (h1 : w.1 1 1 = nI 0) (h30 : w.1 44 30 = nI 0) : INV w := by
  obtain ⟨a1, a2, a3, a4, a5, a6, a7, a8, a9⟩ := hx
  obtain ⟨b1, b2, b3, b4⟩ := hy
  exact ⟨fs, gens, ord, hd, frm, by_, rch, h0, hb, ⟨hF, hO, hH⟩, ⟨a1, b1, a2, b2, hW, a4, b3⟩, ⟨v0 S, [], a5, b4, v0_ok hSl, fun q hq => absurd hq List.not_mem_nil⟩, Or.inl a6, Or.inl a7, ⟨h29, h31, Or.inl a8⟩, ⟨h36, Or.inl a9⟩, Or.inl a3, TAP_nil h1 h30⟩
theorem st_text (h : INV w) {a1 a2 a3 a4 a5 : Int32} : ∃ w', stp_2 a1 a2 a3 a4 a5 w w' ∧ INV w' := by
  obtain ⟨fs, gens, ord, hd, frm, by_, rch, h0, hb, hI⟩ := h
  obtain ⟨hS, hX, ⟨v, H, hA⟩, hFr, hCo, hT, hHo, hSu, L, B, tx, ty⟩ := id hI
  obtain ⟨nx, n1, n2, -⟩ := hA.1.2.2.2
  obtain ⟨r, w1, w2, e1, e2, e3⟩ := c_text tx ty hX.2.2.2.2.1 ⟨nx, n1, n2⟩
  refine ⟨w2, ⟨r, w1, w2, e1, e2, rfl⟩, ?_⟩
  rcases e3 with ⟨q1, q2, q3⟩ | ⟨fs', S, gens', ord', hd', frm', by', rch', h0', hb', q1, q2, q3, q4, q5, q6, q7, q8, q9⟩
  · exact ⟨fs, gens, ord, hd, frm, by_, rch, h0, hb, INVp_kp hI q3 (by decide) (Or.inl (by decide)) (Or.inl (by decide)) (Or.inl (by decide)) (Or.inl (by decide)) (Or.inl (by decide)) (Or.inl (by decide)) (Or.inr (TAP_nil q1 q2))⟩
  · refine INV_new q1 q2 q3 q4 q5 q6 (fun j hj => ?_) ?_ ?_ ?_ q7 q8
    · rw [q9.1 67 (by decide) (by decide)]; exact hX.2.2.2.2.1 j hj
    · rw [q9.1 29 (by decide) (by decide)]; exact hT.1
    · rw [q9.1 31 (by decide) (by decide)]; exact hT.2.1
    · rw [q9.1 36 (by decide) (by decide)]; exact hHo.1
end INVS
