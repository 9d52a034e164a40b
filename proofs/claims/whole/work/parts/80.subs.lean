/-! how many subgroups -/
def subN (n : Nat) (T : Nat → Nat → Nat) (w : Wd) (R : List Nat) : Prop := w.1 6 9 = nI R.length ∧ ∀ (j y : Nat), R[j]? = some y → w.1 12 j = nI y
def sbQ (n : Nat) (T : Nat → Nat → Nat) (R : List Nat) : Prop := R.Nodup ∧ ∀ x, x ∈ R → x < 2 ^ n ∧ clo n T x
noncomputable def SUBN (n : Nat) (T : Nat → Nat → Nat) : Nat := cntB (fun S => dcd (clo n T S)) (2 ^ n)
def SUBI (n : Nat) (T : Nat → Nat → Nat) (w : Wd) : Prop := w.1 6 9 = -1 ∨ w.1 6 9 = nI (SUBN n T)
def sbK (w w' : Wd) : Prop := (∀ k, k ≠ 6 → k ≠ 11 → k ≠ 12 → w'.1 k = w.1 k) ∧ (∀ j, j ≠ 9 → w'.1 6 j = w.1 6 j) ∧ w'.2 = w.2
theorem sbK.rf (w : Wd) : sbK w w := ⟨fun _ _ _ _ => rfl, fun _ _ => rfl, rfl⟩
theorem sbK.tr {a b c : Wd} (h : sbK a b) (g : sbK b c) : sbK a c := ⟨fun k x y z => (g.1 k x y z).trans (h.1 k x y z), fun j x => (g.2.1 j x).trans (h.2.1 j x), g.2.2.trans h.2.2⟩
section SUBS
variable {n : Nat} {T : Nat → Nat → Nat} {iv : Nat → Nat}
theorem GX_cong2 {w w' : Wd} (h : GX w n T iv) (e7 : w'.1 6 7 = w.1 6 7) (e8 : w'.1 6 8 = w.1 6 8) (e9 : w'.1 9 = w.1 9) (e10 : w'.1 10 = w.1 10) : GX w' n T iv := by
  unfold GX at *
  rw [e7, e8, e9, e10]; exact h
theorem sbK.gx {w w' : Wd} (h : sbK w w') (hG : GX w n T iv) : GX w' n T iv := GX_cong2 hG (h.2.1 7 (by decide)) (h.2.1 8 (by decide)) (h.1 9 (by decide) (by decide) (by decide)) (h.1 10 (by decide) (by decide) (by decide))
theorem x_addSub (hn : n ≤ 16) {w : Wd} {R : List Nat} (h : subN n T w R) (hR : sbQ n T R) (hB : ∀ Q, sbQ n T Q → Q.length ≤ 128) {S : Nat} (hS : S < 2 ^ n) (hc : clo n T S) : ∃ w', f_X4_addSubgroup (nI S) w = some w' ∧ subN n T w' (if R.contains S then R else R ++ [S]) ∧ sbK w w' := by
  have hl := hB R hR
  have hb : ∀ (j y : Nat), R[j]? = some y → y < 2 ^ 31 := fun j y hj => lt31 (le16 (hR.2 y (List.mem_of_getElem? hj)).1 hn)
  have h31 := lt31 (le16 hS hn)
  unfold f_X4_addSubgroup
  have key : ∀ k i f, i + k = R.length → k < f → (∀ j, j < i → R[j]? ≠ some S) → ∃ w', f_X4_addSubgroup_L2 f (nI S) (nI i) w = some w' ∧ subN n T w' (if R.contains S then R else R ++ [S]) ∧ sbK w w' := by
    intro k
    induction k with
    | zero =>
      intro i f hi hf hno
      obtain ⟨f, rfl⟩ : ∃ q, f = q + 1 := ⟨f - 1, by omega⟩
      have hnot : ¬ S ∈ R := fun hm => by
        obtain ⟨j, hj⟩ := List.getElem?_of_mem hm
        exact hno j (by have := (List.getElem?_eq_some_iff.mp hj).1; omega) hj
      have hnc : ¬ R.contains S = true := fun z => hnot (List.contains_iff_mem.mp z)
      have hnew : sbQ n T (R ++ [S]) := by
        refine ⟨?_, fun x hx => ?_⟩
        · rw [List.nodup_append]
          refine ⟨hR.1, by simp, fun a ha b hb => ?_⟩
          simp only [List.mem_singleton] at hb
          subst hb
          exact fun z => hnot (z ▸ ha)
        · rcases List.mem_append.mp hx with q | q
          · exact hR.2 x q
          · rw [List.mem_singleton.mp q]; exact ⟨hS, hc⟩
      have hl2 := hB _ hnew
      rw [List.length_append, List.length_singleton] at hl2
      rw [if_neg hnc]
      refine ⟨sI (sI w 6 9 (nI (R.length + 1))) 12 R.length (nI S), ?_, ⟨?_, fun j y hj => ?_⟩, fun k a b c => ?_, fun j hj => ?_, rfl⟩
      · show f_X4_addSubgroup_B2b (f_X4_addSubgroup_L2 f) (nI S) (nI i) w = _
        unfold f_X4_addSubgroup_B2b
        rw [h.1, if_pos (nI_le (by omega) (by omega)), if_neg (show ¬ (128 : Int32) ≤ nI R.length from nI_ge (b := 128) (by omega) (by decide)), m_letW, nI_1, m_wr (by omega) (by decide)]
      · rw [sI_at, if_neg (by rintro ⟨h, -⟩; revert h; decide), sI_at, List.length_append]; simp
      · rw [sI_at]
        rcases Nat.lt_trichotomy j R.length with r | r | r
        · rw [List.getElem?_append_left r] at hj
          rw [if_neg (fun z => by omega), sI_at, if_neg (by rintro ⟨h, -⟩; revert h; decide)]; exact h.2 j y hj
        · subst r
          rw [List.getElem?_append_right (Nat.le_refl _), Nat.sub_self] at hj
          rw [if_pos ⟨rfl, rfl⟩, ← Option.some.inj hj]
        · rw [List.getElem?_eq_none (by simp; omega)] at hj; cases hj
      · funext j; rw [sI_at, if_neg (fun z => c z.1), sI_at, if_neg (fun z => a z.1)]
      · rw [sI_at, if_neg (by rintro ⟨h, -⟩; revert h; decide), sI_at, if_neg (fun z => hj z.2)]
    | succ k ih =>
      intro i f hi hf hno
      obtain ⟨f, rfl⟩ : ∃ q, f = q + 1 := ⟨f - 1, by omega⟩
      have hlt : i < R.length := by omega
      have hgi := List.getElem?_eq_getElem hlt
      have eL : ∀ x, f_X4_addSubgroup_B2b (f_X4_addSubgroup_L2 f) (nI S) (nI i) w = x → f_X4_addSubgroup_L2 (f + 1) (nI S) (nI i) w = x := fun x h => h
      have st : f_X4_addSubgroup_L2 (f + 1) (nI S) (nI i) w = if R[i] = S then some w else f_X4_addSubgroup_L2 f (nI S) (nI (i + 1)) w := by
        apply eL
        unfold f_X4_addSubgroup_B2b
        rw [h.1, if_neg (nI_ge hlt (by omega)), m_rd (by omega) (by decide), h.2 i _ hgi, nI_1]
        simp only [m_inj (hb i _ hgi) h31]
      rw [st]
      by_cases c : R[i] = S
      · have hcon : R.contains S = true := List.contains_iff_mem.mpr (c ▸ List.getElem_mem hlt)
        rw [if_pos c, if_pos hcon]
        exact ⟨w, rfl, h, sbK.rf w⟩
      · rw [if_neg c]
        exact ih (i + 1) f (by omega) (by omega) (fun j hj => by
          by_cases q : j = i
          · subst q; rw [hgi]; exact fun z => c (Option.some.inj z)
          · exact hno j (by omega))
  exact key R.length 0 FU (by omega) (FU_big (by omega)) (fun j hj => by omega)
theorem clo_one (hg : Gp n T iv) : clo n T 1 := by
  have h0 := hg.1.1
  refine ⟨by decide, fun a b _ _ ha hb => ?_⟩
  have ea : a = 0 := ((two_bit 0 a).mp ha).symm
  have eb : b = 0 := ((two_bit 0 b).mp hb).symm
  rw [ea, eb, (hg.2.2.1 0 h0).1]
  decide
/-- a row that is closed under one element more holds all subgroups -/
theorem subs_all (hg : Gp n T iv) {R : List Nat} (hR : sbQ n T R) (h1 : 1 ∈ R) (hcl : ∀ H e, H ∈ R → e < n → ∃ H', H' ∈ R ∧ isSpan n T (H ||| 2 ^ e) H') {K : Nat} (hK : K < 2 ^ n) (hc : clo n T K) : K ∈ R := by
  have h16 := hg.1.2
  have key : ∀ d H, H ∈ R → (∀ x, H.testBit x = true → K.testBit x = true) → pc K - pc H ≤ d → K ∈ R := by
    intro d
    induction d with
    | zero =>
      intro H hH hs hd
      have := pc_sub hs
      have e := pc_sub_eq (le16 hK h16) hs (by omega)
      rw [← e]; exact hH
    | succ d ih =>
      intro H hH hs hd
      by_cases c : H = K
      · rw [← c]; exact hH
      · have : ∃ e, K.testBit e = true ∧ H.testBit e = false := by
          apply Classical.byContradiction
          intro hn
          apply c
          apply ext_bit
          intro x
          refine ⟨hs x, fun hx => ?_⟩
          cases q : H.testBit x with
          | true => rfl
          | false => exact absurd ⟨x, hx, q⟩ hn
        obtain ⟨e, he1, he2⟩ := this
        have hen := bit_lt hK he1
        obtain ⟨H', p1, p2⟩ := hcl H e hH hen
        have hsub : ∀ x, H'.testBit x = true → K.testBit x = true := p2.2.2.2 K hK hc (fun x hx => by
          rcases (sb_or _ _ _).mp hx with q | q
          · exact hs x q
          · rw [q]; exact he1)
        have hge : pc (H ||| 2 ^ e) ≤ pc H' := pc_sub p2.2.2.1
        rw [pc_add (by omega) he2] at hge
        exact ih H' p1 hsub (by omega)
  exact key (pc K) 1 h1 (fun x hx => by rw [← (two_bit 0 x).mp hx]; exact hc.1) (by omega)
theorem x_subs {w : Wd} (hG : GX w n T iv) (hg : Gp n T iv) (hB : ∀ Q, sbQ n T Q → Q.length ≤ 128) (hI : SUBI n T w) : ∃ w', f_X4_countSubgroups w = some (nI (SUBN n T), w') ∧ SUBI n T w' ∧ sbK w w' := by
  have h16 := hg.1.2
  have h1n := hg.1.1
  have hSl : SUBN n T ≤ 2 ^ n := cntB_le _ _
  have h65 := p16 h16
  unfold f_X4_countSubgroups
  rcases hI with hI | hI
  · rw [if_pos hI]
    obtain ⟨w0, hw0⟩ : ∃ w0, w0 = sI (sI w 12 0 1) 6 9 1 := ⟨_, rfl⟩
    have e0 : wrI w 12 128 0 1 (fun w1 => letW (sI w1 6 9 1) fun w2 => f_X4_countSubgroups_L22 FU 0 w2) = f_X4_countSubgroups_L22 FU (nI 0) w0 := by
      rw [hw0]; exact m_wr (i := 0) (by decide) (by decide) _
    rw [e0]
    have k0 : sbK w w0 := ⟨fun k a b c => by rw [hw0]; funext j; rw [sI_at, if_neg (fun z => a z.1), sI_at, if_neg (fun z => c z.1)], fun j hj => by rw [hw0, sI_at, if_neg (fun z => hj z.2), sI_at, if_neg (by rintro ⟨h, -⟩; revert h; decide)], by rw [hw0]; rfl⟩
    have s0 : subN n T w0 [1] := ⟨by rw [hw0, sI_at]; simp; rfl, fun j y hj => by
      match j, hj with
      | 0, hj => cases hj; rw [hw0, sI_at, if_neg (by rintro ⟨h, -⟩; revert h; decide), sI_at]; simp; rfl
      | j + 1, hj => simp at hj⟩
    have q0 : sbQ n T [1] := ⟨by simp, fun x hx => by
      rw [List.mem_singleton.mp hx]
      exact ⟨by have := Nat.pow_le_pow_right (n := 2) (by decide) h1n; omega, clo_one hg⟩⟩
    -- one row: all elements
    have inn : ∀ i w1 R, subN n T w1 R → sbQ n T R → sbK w w1 → i < R.length → ∃ w' R', (∀ k22 : Int32 → Wd → Option (Int32 × Wd), f_X4_countSubgroups_L39 k22 FU (nI i) (nI 0) w1 = k22 (nI (i + 1)) w') ∧ subN n T w' R' ∧ sbQ n T R' ∧ sbK w w' ∧ pfx R R' ∧ ∀ e, e < n → ∃ H', H' ∈ R' ∧ isSpan n T (R.getD i 0 ||| 2 ^ e) H' := by
      intro i w1 R v1 v2 v3 hi
      have hgi := List.getElem?_eq_getElem hi
      have eg : R.getD i 0 = R[i] := by rw [List.getD_eq_getElem?_getD, hgi]; rfl
      have hRi := v2.2 _ (List.getElem_mem hi)
      have hRl := hB R v2
      have key := lrunK (fun (k22 : Int32 → Wd → Option (Int32 × Wd)) f e (s : Wd × List Nat) => f_X4_countSubgroups_L39 k22 f (nI i) (nI e) s.1) n (fun k22 s => k22 (nI (i + 1)) s.1) (fun e s => subN n T s.1 s.2 ∧ sbQ n T s.2 ∧ sbK w s.1 ∧ pfx R s.2 ∧ ∀ e', e' < e → ∃ H', H' ∈ s.2 ∧ isSpan n T (R.getD i 0 ||| 2 ^ e') H') ?_ ?_ n 0 (w1, R) FU (by omega) (FU_big (by omega)) ⟨v1, v2, v3, fun _ _ z => z, fun e' h => by omega⟩
      · obtain ⟨⟨w', R'⟩, ⟨j1, j2, j3, j4, j5⟩, j6⟩ := key
        exact ⟨w', R', j6, j1, j2, j3, j4, j5⟩
      · rintro e ⟨w2, R2⟩ he ⟨j1, j2, j3, j4, j5⟩
        dsimp only at j1 j2 j3 j4 j5
        have hS := or2_lt hRi.1 he
        obtain ⟨S, w3, a1, a2, a3, a4⟩ := x_span (j3.gx hG) hg hS
        have s3 : subN n T w3 R2 := ⟨by rw [a3 6 (by decide)]; exact j1.1, fun j y hj => by rw [a3 12 (by decide)]; exact j1.2 j y hj⟩
        obtain ⟨w4, b1, b2, b3⟩ := x_addSub h16 s3 j2 hB a2.1 a2.2.1
        have k3 : sbK w2 w3 := ⟨fun k _ y _ => a3 k y, fun j _ => by rw [a3 6 (by decide)], a4⟩
        have hlen2 := hB R2 j2
        have e12 : w2.1 12 i = nI R[i] := j1.2 i _ (j4 i _ hgi)
        obtain ⟨R4, hR4⟩ : ∃ R4, R4 = if R2.contains S then R2 else R2 ++ [S] := ⟨_, rfl⟩
        rw [← hR4] at b2
        have pf : pfx R2 R4 := by
          rw [hR4]
          split
          · exact fun _ _ z => z
          · exact fun j z hz => by rw [List.getElem?_append_left (List.getElem?_eq_some_iff.mp hz).1]; exact hz
        have hin : S ∈ R4 := by
          rw [hR4]
          by_cases c : R2.contains S = true
          · rw [if_pos c]; exact List.contains_iff_mem.mp c
          · rw [if_neg c]; simp
        have q4 : sbQ n T R4 := by
          rw [hR4]
          by_cases c : R2.contains S = true
          · rw [if_pos c]; exact j2
          · rw [if_neg c]
            refine ⟨?_, fun x hx => ?_⟩
            · rw [List.nodup_append]
              refine ⟨j2.1, by simp, fun a ha b hb => ?_⟩
              simp only [List.mem_singleton] at hb
              subst hb
              exact fun z => c (List.contains_iff_mem.mpr (z ▸ ha))
            · rcases List.mem_append.mp hx with q | q
              · exact j2.2 x q
              · rw [List.mem_singleton.mp q]; exact ⟨a2.1, a2.2.1⟩
        refine ⟨(w4, R4), ⟨b2, q4, (j3.tr k3).tr b3, fun j z hz => pf j z (j4 j z hz), fun e' he' => ?_⟩, fun k22 f => ?_⟩
        · by_cases c : e' = e
          · subst c; exact ⟨S, hin, by rw [eg]; exact a2⟩
          · obtain ⟨H', p1, p2⟩ := j5 e' (by omega)
            exact ⟨H', pfx_mem pf p1, p2⟩
        · show f_X4_countSubgroups_B39b k22 (f_X4_countSubgroups_L39 k22 f) (nI i) (nI e) w2 = _
          unfold f_X4_countSubgroups_B39b
          rw [(j3.gx hG).1, if_neg (nI_ge he (by omega)), m_rd (by omega) (by decide), e12, m_shl1 (by omega), m_or, a1, bnd2_some, b1, bnd_some, nI_1]
      · rintro k22 f ⟨w2, R2⟩ ⟨j1, j2, j3, j4, j5⟩
        dsimp only at j3
        show f_X4_countSubgroups_B39b k22 (f_X4_countSubgroups_L39 k22 f) (nI i) (nI n) w2 = _
        unfold f_X4_countSubgroups_B39b
        rw [(j3.gx hG).1, if_pos (nI_le (Nat.le_refl _) (by omega)), nI_1]
    have loop : ∀ d i w1 R f, 128 - i ≤ d → d < f → i ≤ R.length → subN n T w1 R → sbQ n T R → sbK w w1 → 1 ∈ R → (∀ i' e, i' < i → e < n → ∃ H', H' ∈ R ∧ isSpan n T (R.getD i' 0 ||| 2 ^ e) H') → ∃ w' R', f_X4_countSubgroups_L22 f (nI i) w1 = some (nI R'.length, w') ∧ subN n T w' R' ∧ sbQ n T R' ∧ sbK w w' ∧ 1 ∈ R' ∧ ∀ i' e, i' < R'.length → e < n → ∃ H', H' ∈ R' ∧ isSpan n T (R'.getD i' 0 ||| 2 ^ e) H' := by
      intro d
      induction d with
      | zero =>
        intro i w1 R f hd hf hi v1 v2 v3 v4 v5
        obtain ⟨f, rfl⟩ : ∃ q, f = q + 1 := ⟨f - 1, by omega⟩
        have hRl := hB R v2
        have e : i = R.length := by omega
        refine ⟨w1, R, ?_, v1, v2, v3, v4, fun i' e' h => v5 i' e' (by omega)⟩
        show f_X4_countSubgroups_B22b (f_X4_countSubgroups_L22 f) (nI i) w1 = _
        unfold f_X4_countSubgroups_B22b
        rw [v1.1, if_pos (nI_le (by omega) (by omega))]
      | succ d ih =>
        intro i w1 R f hd hf hi v1 v2 v3 v4 v5
        obtain ⟨f, rfl⟩ : ∃ q, f = q + 1 := ⟨f - 1, by omega⟩
        have hRl := hB R v2
        have eL : ∀ x, f_X4_countSubgroups_B22b (f_X4_countSubgroups_L22 f) (nI i) w1 = x → f_X4_countSubgroups_L22 (f + 1) (nI i) w1 = x := fun x h => h
        by_cases c : i = R.length
        · refine ⟨w1, R, eL _ ?_, v1, v2, v3, v4, fun i' e' h => v5 i' e' (by omega)⟩
          unfold f_X4_countSubgroups_B22b
          rw [v1.1, if_pos (nI_le (by omega) (by omega))]
        · have hlt : i < R.length := by omega
          obtain ⟨w2, R2, b1, b2, b3, b4, b5, b6⟩ := inn i w1 R v1 v2 v3 hlt
          have hlen : R.length ≤ R2.length := by
            have hl := b5 (R.length - 1) _ (List.getElem?_eq_getElem (show R.length - 1 < R.length by omega))
            have := (List.getElem?_eq_some_iff.mp hl).1
            omega
          have hgd : ∀ j, j < R.length → R2.getD j 0 = R.getD j 0 := fun j hj => by
            have := b5 j _ (List.getElem?_eq_getElem hj)
            rw [List.getD_eq_getElem?_getD, List.getD_eq_getElem?_getD, this, List.getElem?_eq_getElem hj]
          obtain ⟨w', R', g1, g2⟩ := ih (i + 1) w2 R2 f (by omega) (by omega) (by omega) b2 b3 b4 (pfx_mem b5 v4) (fun i' e' h1 h2 => by
            rw [hgd i' (by omega)]
            by_cases q : i' = i
            · subst q; exact b6 e' h2
            · obtain ⟨H', p1, p2⟩ := v5 i' e' (by omega) h2
              exact ⟨H', pfx_mem b5 p1, p2⟩)
          refine ⟨w', R', eL _ ?_, g2⟩
          unfold f_X4_countSubgroups_B22b
          rw [v1.1, if_neg (nI_ge hlt (by omega)), if_neg (show ¬ (128 : Int32) ≤ nI i from nI_ge (b := 128) (by omega) (by decide))]
          exact (b1 (f_X4_countSubgroups_L22 f)).trans g1
    obtain ⟨w', R', g1, g2, g3, g4, g5, g6⟩ := loop 128 0 w0 [1] FU (by omega) (FU_big (by decide)) (by omega) s0 q0 k0 (by simp) (fun i' e h => by omega)
    have hlen : R'.length = SUBN n T := nodup_cnt g3.1 (fun x => by
      rw [dcd_iff]
      exact ⟨fun hx => g3.2 x hx, fun hx => subs_all hg g3 g5 (fun H e hH he => by
        obtain ⟨j, hj⟩ := List.getElem?_of_mem hH
        have := g6 j e (List.getElem?_eq_some_iff.mp hj).1 he
        rw [List.getD_eq_getElem?_getD, hj] at this
        exact this) hx.1 hx.2⟩)
    exact ⟨w', by rw [g1, hlen], Or.inr (by rw [g2.1, hlen]), g4⟩
  · rw [if_neg (by rw [hI]; exact nI_ne1 (by omega)), hI]
    exact ⟨w, rfl, Or.inr hI, sbK.rf w⟩
theorem y_subs {w : Wd} (hM : GM w n T iv) (hg : Gp n T iv) : f_X12_subgroups w = some (nI (SUBN n T)) := by
  have h16 := hg.1.2
  have h1n := hg.1.1
  have h65 := p16 h16
  obtain ⟨M, hMd⟩ : ∃ M, 2 ^ n = 2 * M := ⟨2 ^ (n - 1), by rw [← Nat.pow_succ']; congr 1; omega⟩
  unfold f_X12_subgroups
  have key := lup (fun f i (s : Nat) => f_X12_subgroups_L4 f (nI s) (nI (2 * i + 1)) w) M (fun i s => s + if dcd (clo n T (2 * i + 1)) then 1 else 0) (fun s => some (nI s)) (fun _ _ => True) ?_ (fun _ _ _ _ => trivial) ?_ M 0 0 FU (by omega) (FU_big (by omega)) trivial
  · have := key.1
    rw [rng_add, Nat.zero_add, sumF_cnt] at this
    refine (show f_X12_subgroups_L4 FU (nI 0) (nI (2 * 0 + 1)) w = _ from this).trans ?_
    congr 2
    unfold SUBN
    rw [hMd, cnt_par]
    have : cntB (fun i => dcd (clo n T (2 * i))) M = 0 := cnt_none (fun i _ => by
      rw [dcd_false]
      rintro ⟨h, -⟩
      simp at h)
    rw [this, Nat.zero_add]
  · intro f i s hi _
    have hlt : 2 * i + 1 < 2 ^ n := by omega
    show f_X12_subgroups_B4b (f_X12_subgroups_L4 f) (nI s) (nI (2 * i + 1)) w = _
    unfold f_X12_subgroups_B4b
    obtain ⟨b, b1, b2⟩ := y_isSub hM hg hlt
    rw [if_neg (all_in hM hg hlt), b1, bnd_some, nI_1, show nI (2 * i + 1) + (2 : Int32) = nI (2 * (i + 1) + 1) from nI_add (2 * i + 1) 2]
    have hbd : b = dcd (clo n T (2 * i + 1)) := by
      cases hd : dcd (clo n T (2 * i + 1)) with
      | true => exact b2.mpr (dcd_iff.mp hd)
      | false =>
        cases b with
        | false => rfl
        | true => exact absurd (b2.mp rfl) (dcd_false.mp hd)
    rw [← hbd]
    cases b <;> simp [one_ne]
  · intro f s _
    show f_X12_subgroups_B4b (f_X12_subgroups_L4 f) (nI s) (nI (2 * M + 1)) w = _
    unfold f_X12_subgroups_B4b
    have := p16 h16
    rw [if_pos (by rw [y_all hM hg]; exact nI_lt (by omega) (by omega))]
theorem c_subgroups {w : Wd} (hG : GX w n T iv) (hM : GM w n T iv) (hg : Gp n T iv) (hB : ∀ Q, sbQ n T Q → Q.length ≤ 128) (hI : SUBI n T w) : ∃ r w1, f_X11_subgroups w = some (r, w1) ∧ f_X12_subgroups w1 = some r ∧ SUBI n T w1 ∧ sbK w w1 := by
  obtain ⟨w1, a1, a2, a3⟩ := x_subs hG hg hB hI
  have e := fun k (q : 13 ≤ k) => a3.1 k (by omega) (by omega) (by omega)
  exact ⟨_, w1, by unfold f_X11_subgroups; rw [a1, bnd2_some], y_subs (GM_cong hM (by rw [e 44 (by decide)]) (e 47 (by decide)) (e 48 (by decide)) (e 49 (by decide))) hg, a2, a3⟩
end SUBS
