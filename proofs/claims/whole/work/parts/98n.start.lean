/-! the start, and all calls -/
theorem wds_68 (w : Wd) : WDS (wd_68 w) := fun k hk => match k, hk with
  | 0, _ => rfl
  | 1, _ => rfl
  | 2, _ => rfl
  | 3, _ => rfl
  | 4, _ => rfl
  | 5, _ => rfl
  | 6, _ => rfl
  | 7, _ => rfl
  | 8, _ => rfl
  | 9, _ => rfl
  | 10, _ => rfl
  | 11, _ => rfl
  | 12, _ => rfl
  | 13, _ => rfl
  | 14, _ => rfl
  | 15, _ => rfl
  | 16, _ => rfl
  | 17, _ => rfl
  | 18, _ => rfl
  | 19, _ => rfl
  | 20, _ => rfl
  | 21, _ => rfl
  | 22, _ => rfl
  | 23, _ => rfl
  | 24, _ => rfl
  | 25, _ => rfl
  | 26, _ => rfl
  | 27, _ => rfl
  | 28, _ => rfl
  | 29, _ => rfl
  | 30, _ => rfl
  | 31, _ => rfl
  | 32, _ => rfl
  | 33, _ => rfl
  | 34, _ => rfl
  | 35, _ => rfl
  | 36, _ => rfl
  | 37, _ => rfl
  | 38, _ => rfl
  | 39, _ => rfl
  | 40, _ => rfl
  | 41, _ => rfl
  | 42, _ => rfl
  | 43, _ => rfl
  | 44, _ => rfl
  | 45, _ => rfl
  | 46, _ => rfl
  | 47, _ => rfl
  | 48, _ => rfl
  | 49, _ => rfl
  | 50, _ => rfl
  | 51, _ => rfl
  | 52, _ => rfl
  | 53, _ => rfl
  | 54, _ => rfl
  | 55, _ => rfl
  | 56, _ => rfl
  | 57, _ => rfl
  | 58, _ => rfl
  | 59, _ => rfl
  | 60, _ => rfl
  | 61, _ => rfl
  | 62, _ => rfl
  | 63, _ => rfl
  | 64, _ => rfl
  | 65, _ => rfl
  | 66, _ => rfl
  | 67, _ => rfl
  | k + 68, h => absurd h (by omega)
theorem start_ok : Start INV := by
  obtain ⟨w0, hw0⟩ : ∃ w0, w0 = sI (sI w00 3 4 1) 3 8 (-1) := ⟨_, rfl⟩
  have z : ∀ k j, k ≠ 3 → w0.1 k j = 0 := fun k j hk => by rw [hw0, sI_row _ _ _ _ hk, sI_row _ _ _ _ hk]; rfl
  have z3 : ∀ j, j ≠ 4 → j ≠ 8 → w0.1 3 j = 0 := fun j h4 h8 => by rw [hw0, sI_at, if_neg (fun q => h8 q.2), sI_at, if_neg (fun q => h4 q.2)]; rfl
  obtain ⟨w1, ord, frm, by_, rch, d1, d2, d3, d4, d5, d6, d7, d8, d9, d10, d11, d12, d13⟩ := x_renew (w := w0) (fs := []) (S := 0) fam_nil ⟨z3 3 (by decide) (by decide), fun i f hi => by cases hi⟩ (z3 5 (by decide) (by decide)) ⟨0, by decide, z 37 3 (by decide)⟩
  have u1 : ∀ k, ¬ reC k → k ≠ 3 → ∀ j, w1.1 k j = 0 := fun k hk h3 j => by rw [d12 k hk]; exact z k j h3
  have y1 : ∀ k, 44 ≤ k → ∀ j, w1.1 k j = 0 := fun k hk j => u1 k (by unfold reC; omega) (by omega) j
  obtain ⟨wa, hwa⟩ : ∃ wa, wa = sI (wd_68 w1) 44 1 1 := ⟨_, rfl⟩
  have ra : ∀ k, k ≠ 44 → k ≠ 67 → wa.1 k = w1.1 k := fun k h44 h67 => by rw [hwa, sI_row _ _ _ _ h44, wd_z68 _ _ h67]
  have ra44 : ∀ j, j ≠ 1 → wa.1 44 j = 0 := fun j hj => by rw [hwa, sI_at, if_neg (fun q => hj q.2), wd_z68 _ _ (by decide)]; exact y1 44 (Nat.le_refl _) j
  have hya : FCy wa [] := ⟨ra44 2 (by decide), fun i f hi => by cases hi⟩
  obtain ⟨w2, hd, h0, hb, e1, e2, e3, e4, e5⟩ := y_lays (w := wa) fam_nil hya (by rw [hwa, sI_same]; rfl) d6
  obtain ⟨w3, f1, f2, f3, f4⟩ := y_starts (w := w2) (S := 0)
  have r3 : ∀ k, k ≠ 54 → ¬ (47 ≤ k ∧ k ≤ 53) → k ≠ 44 → w3.1 k = wa.1 k := fun k x1 x2 x3 => by rw [f3 k x1, e5.1 k x2 x3]
  have r344 : ∀ j, j ≠ 9 → w3.1 44 j = wa.1 44 j := fun j hj => by rw [f3 44 (by decide), e5.2.1 j hj]
  have t3 : ∀ k, k < 44 → w3.1 k = w1.1 k := fun k hk => by rw [r3 k (by omega) (by omega) (by omega), ra k (by omega) (by omega)]
  refine ⟨w1, w2, w3, by rw [← hw0]; exact d1, y1, by rw [← hwa]; exact e1, f1, ?_⟩
  refine INV_new (fs := []) (S := 0) fam_nil (Nat.two_pow_pos _) d6 e4 (NEWx_cong ⟨d2, d3, d4, d5, d7, d8, d9, d10, d11⟩ t3) ⟨GM_cong e2 (by rw [f3 44 (by decide)]) (f3 47 (by decide)) (f3 48 (by decide)) (f3 49 (by decide)), FCy_cong hya (r344 2 (by decide)) (r3 45 (by decide) (by decide) (by decide)) (r3 46 (by decide) (by decide) (by decide)), BY_cong e3 (by rw [f3 44 (by decide)]) (f3 50 (by decide)) (f3 51 (by decide)) (f3 52 (by decide)) (f3 53 (by decide)), AM_cong f2 (by rw [sI_row _ _ _ _ (by decide)]) (by rw [sI_row _ _ _ _ (by decide)]) ?_⟩ (fun j hj => ?_) ?_ ?_ ?_ ?_ ?_
  · rw [sI_same, r344 15 (by decide)]; exact ra44 15 (by decide)
  · rw [r3 67 (by decide) (by decide) (by decide), hwa, sI_row _ _ _ _ (by decide)]; exact wds_68 w1 j hj
  · rw [t3 29 (by decide)]; exact u1 29 (by unfold reC; omega) (by decide) 4
  · rw [t3 31 (by decide)]; exact u1 31 (by unfold reC; omega) (by decide) 0
  · rw [t3 36 (by decide)]; exact u1 36 (by unfold reC; omega) (by decide) 0
  · rw [t3 1 (by decide)]; exact u1 1 (by unfold reC; omega) (by decide) 1
  · rw [r344 30 (by decide)]; exact ra44 30 (by decide)
theorem pure_ok : Pure := ⟨INV, start_ok, fun k a1 a2 a3 a4 a5 w h => match k with
  | 0 => st_0 h a1 a2 a3 a4 a5
  | 1 => st_1 h a1 a2 a3 a4 a5
  | 2 => st_2 h a1 a2 a3 a4 a5
  | 3 => st_3 h a1 a2 a3 a4 a5
  | 4 => st_4 h a1 a2 a3 a4 a5
  | 5 => st_5 h a1 a2 a3 a4 a5
  | 6 => st_6 h a1 a2 a3 a4 a5
  | 7 => st_7 h a1 a2 a3 a4 a5
  | 8 => st_8 h a1 a2 a3 a4 a5
  | 9 => st_9 h a1 a2 a3 a4 a5
  | 10 => st_10 h a1 a2 a3 a4 a5
  | 11 => st_11 h a1 a2 a3 a4 a5
  | 12 => st_12 h a1 a2 a3 a4 a5
  | 13 => st_13 h a1 a2 a3 a4 a5
  | 14 => st_14 h a1 a2 a3 a4 a5
  | 15 => st_15 h a1 a2 a3 a4 a5
  | 16 => st_16 h a1 a2 a3 a4 a5
  | 17 => st_17 h a1 a2 a3 a4 a5
  | 18 => st_18 h a1 a2 a3 a4 a5
  | 19 => st_19 h a1 a2 a3 a4 a5
  | 20 => st_20 h a1 a2 a3 a4 a5
  | 21 => st_21 h a1 a2 a3 a4 a5
  | 22 => st_22 h a1 a2 a3 a4 a5
  | 23 => st_23 h a1 a2 a3 a4 a5
  | 24 => st_24 h a1 a2 a3 a4 a5
  | 25 => st_25 h a1 a2 a3 a4 a5
  | 26 => st_26 h a1 a2 a3 a4 a5
  | 27 => st_27 h a1 a2 a3 a4 a5
  | 28 => st_28 h a1 a2 a3 a4 a5
  | 29 => st_29 h a1 a2 a3 a4 a5
  | 30 => st_30 h a1 a2 a3 a4 a5
  | 31 => st_31 h a1 a2 a3 a4 a5
  | 32 => st_32 h a1 a2 a3 a4 a5
  | 33 => st_33 h a1 a2 a3 a4 a5
  | 34 => st_34 h a1 a2 a3 a4 a5
  | 35 => st_35 h a1 a2 a3 a4 a5
  | 36 => st_36 h a1 a2 a3 a4 a5
  | 37 => st_37 h a1 a2 a3 a4 a5
  | 38 => st_38 h a1 a2 a3 a4 a5
  | 39 => st_39 h a1 a2 a3 a4 a5
  | 40 => st_40 h a1 a2 a3 a4 a5
  | 41 => st_41 h a1 a2 a3 a4 a5
  | 42 => st_42 h a1 a2 a3 a4 a5
  | 43 => st_43 h a1 a2 a3 a4 a5
  | 44 => st_44 h a1 a2 a3 a4 a5
  | 45 => st_45 h a1 a2 a3 a4 a5
  | 46 => st_46 h a1 a2 a3 a4 a5
  | 47 => st_47 h a1 a2 a3 a4 a5
  | 48 => st_48 h a1 a2 a3 a4 a5
  | 49 => st_49 h a1 a2 a3 a4 a5
  | 50 => st_50 h a1 a2 a3 a4 a5
  | 51 => st_51 h a1 a2 a3 a4 a5
  | 52 => st_52 h a1 a2 a3 a4 a5
  | 53 => st_53 h a1 a2 a3 a4 a5
  | 54 => st_54 h a1 a2 a3 a4 a5
  | 55 => st_55 h a1 a2 a3 a4 a5
  | 56 => st_56 h a1 a2 a3 a4 a5
  | 57 => st_57 h a1 a2 a3 a4 a5
  | 58 => st_58 h a1 a2 a3 a4 a5
  | 59 => st_59 h a1 a2 a3 a4 a5
  | 60 => st_60 h a1 a2 a3 a4 a5
  | 61 => st_61 h a1 a2 a3 a4 a5
  | k + 62 => ⟨w, rfl, h⟩⟩
