/-! free sets and subgroups, counted over all rows of factors -/
set_option maxRecDepth 1000000 in
theorem chkA_0 : (lvlF 0).all chkA = true := by decide +kernel
set_option maxRecDepth 1000000 in
theorem chkA_2 : (lvlF 2).all chkA = true := by decide +kernel
set_option maxRecDepth 1000000 in
theorem chkA_3 : (lvlF 3).all chkA = true := by decide +kernel
set_option maxRecDepth 1000000 in
theorem chkA_4 : (lvlF 4).all chkA = true := by decide +kernel
theorem lvl_any {P : List (Nat × Nat) → Prop} (h0 : ∀ fs, fs ∈ lvlF 0 → P fs) (h1 : ∀ fs, fs ∈ lvlF 1 → P fs) (h2 : ∀ fs, fs ∈ lvlF 2 → P fs) (h3 : ∀ fs, fs ∈ lvlF 3 → P fs) (h4 : ∀ fs, fs ∈ lvlF 4 → P fs) {fs : List (Nat × Nat)} (hF : FAM fs) : P fs := by
  have hl := (fam_fok hF).1
  have hm := lvl_mem _ fs rfl hF
  rcases (show fs.length = 0 ∨ fs.length = 1 ∨ fs.length = 2 ∨ fs.length = 3 ∨ fs.length = 4 by omega) with e | e | e | e | e <;> rw [e] at hm
  · exact h0 fs hm
  · exact h1 fs hm
  · exact h2 fs hm
  · exact h3 fs hm
  · exact h4 fs hm
theorem chkA_all {fs : List (Nat × Nat)} (hF : FAM fs) : chkA fs = true := lvl_any (P := fun fs => chkA fs = true) (fun fs h => List.all_eq_true.mp chkA_0 fs h) (fun fs h => List.all_eq_true.mp chkA_1 fs h) (fun fs h => List.all_eq_true.mp chkA_2 fs h) (fun fs h => List.all_eq_true.mp chkA_3 fs h) (fun fs h => List.all_eq_true.mp chkA_4 fs h) hF
theorem fam_FL {fs : List (Nat × Nat)} (hF : FAM fs) : (FL (gst fs).1 (gst fs).2.1).length < 3072 := by
  have h := chkA_all hF
  unfold chkA at h
  rw [Bool.and_eq_true] at h
  have h1 := Nat.le_of_ble_eq_true h.1
  have h2 := FL_le (fam_gp hF)
  omega
theorem fam_sb {fs : List (Nat × Nat)} (hF : FAM fs) (Q : List Nat) (hQ : sbQ (gst fs).1 (gst fs).2.1 Q) : Q.length ≤ 128 := by
  have h := chkA_all hF
  unfold chkA at h
  rw [Bool.and_eq_true] at h
  have h1 := Nat.le_of_ble_eq_true h.2
  have h2 := sub_le (fam_gp hF) hQ
  omega
