/-! a new group on both sides -/
theorem y_lays {w : Wd} {fs : List (Nat × Nat)} (hF : FAM fs) (hy : FCy w fs) (hw : w.1 44 1 = nI (gst fs).1) {ord : List Nat} {frm by_ rch : Nat → Nat} (hO : BO (gst fs).1 (gst fs).2.1 (genS (gst fs).1 (gst fs).2.1 (gst fs).1) ord frm by_ rch) : ∃ w' hd h0 hb, f_X12_laysGroup w = some w' ∧ GM w' (gst fs).1 (gst fs).2.1 (gst fs).2.2 ∧ BY w' (genS (gst fs).1 (gst fs).2.1 (gst fs).1) hd h0 hb ∧ HO (gst fs).1 (gst fs).2.1 (genS (gst fs).1 (gst fs).2.1 (gst fs).1) hd h0 hb ∧ keepM (fun k => 47 ≤ k ∧ k ≤ 53) (fun j => j = 9) w w' := by
  have hg := fam_gp hF
  have h16 := hg.1.2
  obtain ⟨w1, a1, a2, a3⟩ := y_tab h16 hw (T := (gst fs).2.1) (fun s hs a b ha hb => y_prodBy hF (FCy_cong hy (by rw [hs.1 44 (by decide)]) (hs.1 45 (by decide)) (hs.1 46 (by decide))) ha hb)
  obtain ⟨w2, b1, b2, b3⟩ := y_invs hg (w := w1) (by rw [a3.1 44 (by decide)]; exact hw) a2
  obtain ⟨w3, c1, c2, c3⟩ := y_dp hg (w := sI w2 49 0 0) (by rw [sI_row _ _ _ _ (by decide), b3.1 44 (by decide), a3.1 44 (by decide)]; exact hw) (fun a b ha hb => by rw [sI_row _ _ _ _ (by decide), b3.1 47 (by decide)]; exact a2 a b ha hb) (by rw [sI_same]; rfl)
  have o3 : ∀ k, k ≠ 47 → k ≠ 48 → k ≠ 49 → w3.1 k = w.1 k := fun k h7 h8 h9 => by rw [c3.1 k h9, sI_row _ _ _ _ h9, b3.1 k h8, a3.1 k h7]
  obtain ⟨w4, hw4⟩ : ∃ w4, w4 = sI w3 44 9 0 := ⟨_, rfl⟩
  have v44 : ∀ j, j ≠ 9 → w4.1 44 j = w.1 44 j := fun j hj => by rw [hw4, sI_at, if_neg (fun z => hj z.2), o3 44 (by decide) (by decide) (by decide)]
  have vk : ∀ k, k ≠ 44 → w4.1 k = w3.1 k := fun k hk => by rw [hw4]; exact sI_row _ _ _ _ hk
  have hM : GM w4 (gst fs).1 (gst fs).2.1 (gst fs).2.2 := by
    refine ⟨by rw [v44 1 (by decide)]; exact hw, fun a b ha hb => ?_, fun a ha => ?_, fun S hS => ?_⟩
    · rw [vk 47 (by decide), c3.1 47 (by decide), sI_row _ _ _ _ (by decide), b3.1 47 (by decide)]; exact a2 a b ha hb
    · rw [vk 48 (by decide), c3.1 48 (by decide), sI_row _ _ _ _ (by decide)]; exact b2 a ha
    · rw [vk 49 (by decide)]; exact c2 S hS
  obtain ⟨w5, d1, d2, d3, d4⟩ := y_gens hM hg (by rw [hw4, sI_same]; rfl) hO.1
  have hM5 : GM w5 (gst fs).1 (gst fs).2.1 (gst fs).2.2 := GM_cong hM (d4.2.1 1 (by decide)) (d4.1 47 (by decide) (by decide)) (d4.1 48 (by decide) (by decide)) (d4.1 49 (by decide) (by decide))
  obtain ⟨w6, hd, h0, hb, e1, e2, e3, e4⟩ := y_words hM5 hg d2 d3 hO.2.1 hO.1 (BO_span hg hO)
  refine ⟨w6, hd, h0, hb, ?_, GM_cong hM5 (by rw [e4.1 44 (by decide) (by decide) (by decide)]) (e4.1 47 (by decide) (by decide) (by decide)) (e4.1 48 (by decide) (by decide) (by decide)) (e4.1 49 (by decide) (by decide) (by decide)), e2, e3, ⟨fun k hk h44 => ?_, fun j hj => ?_, ?_⟩⟩
  · rw [a1, b1, c1, ← hw4, d1, e1, bnd_some]
  · rw [e4.1 k (by omega) (by omega) (by omega), d4.1 k (by omega) h44, vk k h44, o3 k (by omega) (by omega) (by omega)]
  · rw [e4.1 44 (by decide) (by decide) (by decide), d4.2.1 j hj, v44 j hj]
  · rw [e4.2, d4.2.2, hw4]
    exact c3.2.trans (b3.2.trans a3.2)
def v0 (S p : Nat) : Int32 := if p = 19 then nI S else if 16 ≤ p then 0 else 1
theorem x_restart {w : Wd} {S : Nat} (hnx : ∃ nx, nx < 12 ∧ w.1 37 3 = nI nx) : ∃ w', f_X0_restart (nI S) w = some w' ∧ AX w' (v0 S) [] ∧ (∀ k, k ≠ 37 → k ≠ 38 → w'.1 k = w.1 k) ∧ w'.2 = w.2 := by
  unfold f_X0_restart
  have key := lrun (fun f i (s : Wd) => f_X0_restart_L2 f (nI S) (nI i) s) 20 (fun s => some (sI (sI s 38 19 (nI S)) 37 4 0)) (fun i s => (∀ p, p < i → s.1 38 p = if 16 ≤ p then 0 else 1) ∧ kY (fun k => k = 38) w s) ?_ ?_ 20 0 w FU (by omega) (FU_big (by decide)) ⟨fun p hp => absurd hp (Nat.not_lt_zero _), fun _ _ => rfl, rfl⟩
  · obtain ⟨s, ⟨g1, g2⟩, g3⟩ := key
    obtain ⟨nx, n1, n2⟩ := hnx
    refine ⟨_, g3, ⟨fun p hp => ?_, ?_, Nat.zero_le _, nx, n1, ?_, fun j q hj => by cases hj⟩, fun k h7 h8 => ?_, g2.2⟩
    · rw [sI_row _ _ _ _ (by decide), sI_at]
      unfold v0
      by_cases q : p = 19
      · rw [if_pos ⟨rfl, q⟩, if_pos q]
      · rw [if_neg (fun z => q z.2), if_neg q]; exact g1 p hp
    · rw [sI_same]; rfl
    · rw [sI_at, if_neg (fun z => by omega), sI_row _ _ _ _ (by decide), g2.1 37 (by decide)]; exact n2
    · rw [sI_row _ _ _ _ h7, sI_row _ _ _ _ h8]; exact g2.1 k h8
  · rintro i s hi ⟨g1, g2⟩
    refine ⟨sI s 38 i (if 16 ≤ i then 0 else 1), ⟨fun p hp => ?_, kY_set g2 rfl _ _⟩, fun f => ?_⟩
    · rw [sI_at]
      by_cases q : p = i
      · rw [q, if_pos ⟨rfl, rfl⟩]
      · rw [if_neg (fun z => q z.2)]; exact g1 p (by omega)
    · show f_X0_restart_B2b (f_X0_restart_L2 f) (nI S) (nI i) s = _
      unfold f_X0_restart_B2b
      rw [if_neg (show ¬ (20 : Int32) ≤ nI i from nI_ge (b := 20) hi (by decide))]
      by_cases c : 16 ≤ i
      · rw [if_pos (show (16 : Int32) ≤ nI i from nI_le (a := 16) c (by omega)), m_wr hi (by decide), nI_1, if_pos c]
      · rw [if_neg (show ¬ (16 : Int32) ≤ nI i from nI_ge (b := 16) (by omega) (by decide)), m_wr hi (by decide), nI_1, if_neg c]
  · rintro f s -
    show f_X0_restart_B2b (f_X0_restart_L2 f) (nI S) (nI 20) s = _
    unfold f_X0_restart_B2b
    rw [if_pos (by decide)]
    exact m_wr (i := 19) (by decide) (by decide) _
theorem y_starts {w : Wd} {S : Nat} : ∃ w', f_X12_startsRow (nI S) w = some w' ∧ AM (sI w' 44 15 0) (v0 S) [] ∧ (∀ k, k ≠ 54 → w'.1 k = w.1 k) ∧ w'.2 = w.2 := by
  unfold f_X12_startsRow
  have key := lrun (fun f i (s : Wd) => f_X12_startsRow_L2 f (nI S) (nI i) s) 20 (fun s => some (sI s 54 0 (nI S))) (fun i s => (∀ p, p < i → s.1 54 p = if 4 ≤ p then 1 else 0) ∧ kY (fun k => k = 54) w s) ?_ ?_ 20 0 w FU (by omega) (FU_big (by decide)) ⟨fun p hp => absurd hp (Nat.not_lt_zero _), fun _ _ => rfl, rfl⟩
  · obtain ⟨s, ⟨g1, g2⟩, g3⟩ := key
    refine ⟨_, g3, ⟨fun p hp => ?_, ?_, Nat.zero_le _, fun j hj => absurd hj (Nat.not_lt_zero _)⟩, fun k h4 => ?_, g2.2⟩
    · rw [sI_row _ _ _ _ (by decide), sI_at]
      unfold v0 gs
      by_cases q : p = 0
      · rw [if_pos ⟨rfl, q⟩, if_pos q, if_pos rfl]
      · rw [if_neg (fun z => q z.2), if_neg q, g1 p hp]
        by_cases r : p < 4
        · rw [if_pos r, if_neg (by omega), if_neg (by omega), if_pos (by omega)]
        · rw [if_neg r, if_pos (by omega), if_neg (by omega), if_neg (by omega)]
    · rw [sI_same]; rfl
    · rw [sI_row _ _ _ _ h4]; exact g2.1 k h4
  · rintro i s hi ⟨g1, g2⟩
    refine ⟨sI s 54 i (if 4 ≤ i then 1 else 0), ⟨fun p hp => ?_, kY_set g2 rfl _ _⟩, fun f => ?_⟩
    · rw [sI_at]
      by_cases q : p = i
      · rw [q, if_pos ⟨rfl, rfl⟩]
      · rw [if_neg (fun z => q z.2)]; exact g1 p (by omega)
    · show f_X12_startsRow_B2b (f_X12_startsRow_L2 f) (nI S) (nI i) s = _
      unfold f_X12_startsRow_B2b
      rw [if_neg (show ¬ (20 : Int32) ≤ nI i from nI_ge (b := 20) hi (by decide))]
      by_cases c : 4 ≤ i
      · rw [if_pos (show (4 : Int32) ≤ nI i from nI_le (a := 4) c (by omega)), m_wr hi (by decide), nI_1, if_pos c]
      · rw [if_neg (show ¬ (4 : Int32) ≤ nI i from nI_ge (b := 4) (by omega) (by decide)), m_wr hi (by decide), nI_1, if_neg c]
  · rintro f s -
    show f_X12_startsRow_B2b (f_X12_startsRow_L2 f) (nI S) (nI 20) s = _
    unfold f_X12_startsRow_B2b
    rw [if_pos (by decide)]
    exact m_wr (i := 0) (by decide) (by decide) _
theorem v0_ok {n S : Nat} (hS : S < 2 ^ n) : ∀ p, p < 20 → pok n p (v0 S p) := by
  intro p hp
  unfold v0
  refine ⟨fun h => ?_, fun h => ?_⟩
  · by_cases q : p = 19
    · exact ⟨S, hS, by rw [if_pos q]⟩
    · exact ⟨0, Nat.two_pow_pos n, by rw [if_neg q, if_pos h]; rfl⟩
  · exact ⟨1, by omega, by rw [if_neg (by omega), if_neg (by omega)]; rfl⟩
def reC (k : Nat) : Prop := (6 ≤ k ∧ k ≤ 10) ∨ (13 ≤ k ∧ k ≤ 18) ∨ k = 19 ∨ k = 21 ∨ k = 24 ∨ k = 34 ∨ k = 37 ∨ k = 38
theorem x_renew {w : Wd} {fs : List (Nat × Nat)} {S : Nat} (hF : FAM fs) (hr : FCr w fs) (hS : w.1 3 5 = nI S) (hnx : ∃ nx, nx < 12 ∧ w.1 37 3 = nI nx) : ∃ w' ord frm by_ rch, f_X11_renew w = some w' ∧ GX w' (gst fs).1 (gst fs).2.1 (gst fs).2.2 ∧ FCx w' fs ∧ w'.1 6 9 = -1 ∧ BX w' (genS (gst fs).1 (gst fs).2.1 (gst fs).1) ord frm by_ rch ∧ BO (gst fs).1 (gst fs).2.1 (genS (gst fs).1 (gst fs).2.1 (gst fs).1) ord frm by_ rch ∧ AX w' (v0 S) [] ∧ w'.1 19 2 = 0 ∧ w'.1 21 3 = -1 ∧ w'.1 24 8 = 0 ∧ w'.1 34 4 = 0 ∧ (∀ k, ¬ reC k → w'.1 k = w.1 k) ∧ w'.2 = w.2 := by
  have hg := fam_gp hF
  unfold f_X11_renew
  obtain ⟨w1, a1, a2, a3, a4, a5⟩ := x_load hF hr
  obtain ⟨w2, ord, frm, by_, rch, b1, b2, b3, b4⟩ := x_find a2 hg
  have b4' : ∀ k, k < 13 ∨ 18 < k → w2.1 k = w1.1 k := fun k hk => b4.1 k (by omega) (by omega) (by omega) (by omega) (by omega) (by omega)
  rw [a1, bnd_some, b1, bnd_some]
  unfold f_X3_forget f_X2_forget f_X10_forget f_X5_forget
  rw [m_letW, m_letW, m_letW, m_letW, m_letW, m_letW, m_letW, m_letW]
  obtain ⟨w6, hw6⟩ : ∃ w6, w6 = sI (sI (sI (sI w2 19 2 0) 21 3 (-1)) 24 8 0) 34 4 0 := ⟨_, rfl⟩
  rw [← hw6]
  have v6 : ∀ k, k ≠ 19 → k ≠ 21 → k ≠ 24 → k ≠ 34 → w6.1 k = w2.1 k := fun k x1 x2 x3 x4 => by
    rw [hw6, sI_row _ _ _ _ x4, sI_row _ _ _ _ x3, sI_row _ _ _ _ x2, sI_row _ _ _ _ x1]
  have e35 : w6.1 3 5 = nI S := by
    rw [v6 3 (by decide) (by decide) (by decide) (by decide), b4' 3 (by decide), a5.1 3 (by decide) (by decide) (by decide) (by decide) (by decide)]; exact hS
  obtain ⟨w7, c1, c2, c3, c4⟩ := x_restart (w := w6) (S := S) (by
    rw [v6 37 (by decide) (by decide) (by decide) (by decide), b4' 37 (by decide), a5.1 37 (by decide) (by decide) (by decide) (by decide) (by decide)]; exact hnx)
  have e : ∀ k, k < 13 ∨ 18 < k → k ≠ 19 → k ≠ 21 → k ≠ 24 → k ≠ 34 → k ≠ 37 → k ≠ 38 → w7.1 k = w1.1 k := fun k h0 x1 x2 x3 x4 x5 x6 => by
    rw [c3 k x5 x6, v6 k x1 x2 x3 x4, b4' k h0]
  have eB : ∀ k, 13 ≤ k → k ≤ 18 → w7.1 k = w2.1 k := fun k h0 h1 => by rw [c3 k (by omega) (by omega), v6 k (by omega) (by omega) (by omega) (by omega)]
  refine ⟨w7, ord, frm, by_, rch, ?_, GX_cong a2 (e 6 (by decide) (by decide) (by decide) (by decide) (by decide) (by decide) (by decide)) (e 9 (by decide) (by decide) (by decide) (by decide) (by decide) (by decide) (by decide)) (e 10 (by decide) (by decide) (by decide) (by decide) (by decide) (by decide) (by decide)), FCx_cong a3 (by rw [e 6 (by decide) (by decide) (by decide) (by decide) (by decide) (by decide) (by decide)]) (e 7 (by decide) (by decide) (by decide) (by decide) (by decide) (by decide) (by decide)) (e 8 (by decide) (by decide) (by decide) (by decide) (by decide) (by decide) (by decide)), ?_, BX_cong b2 (by rw [eB 13 (by decide) (by decide)]) (eB 14 (by decide) (by decide)) (eB 15 (by decide) (by decide)) (eB 16 (by decide) (by decide)) (eB 17 (by decide) (by decide)) (eB 18 (by decide) (by decide)), b3, c2, ?_, ?_, ?_, ?_, fun k hk => ?_, ?_⟩
  · rw [e35, c1, bnd_some]
  · rw [e 6 (by decide) (by decide) (by decide) (by decide) (by decide) (by decide) (by decide)]; exact a4
  · rw [c3 19 (by decide) (by decide), hw6, sI_row _ _ _ _ (by decide), sI_row _ _ _ _ (by decide), sI_row _ _ _ _ (by decide), sI_same]
  · rw [c3 21 (by decide) (by decide), hw6, sI_row _ _ _ _ (by decide), sI_row _ _ _ _ (by decide), sI_same]
  · rw [c3 24 (by decide) (by decide), hw6, sI_row _ _ _ _ (by decide), sI_same]
  · rw [c3 34 (by decide) (by decide), hw6, sI_same]
  · unfold reC at hk
    rw [e k (by omega) (by omega) (by omega) (by omega) (by omega) (by omega) (by omega), a5.1 k (by omega) (by omega) (by omega) (by omega) (by omega)]
  · rw [c4, hw6]
    exact b4.2.trans a5.2
