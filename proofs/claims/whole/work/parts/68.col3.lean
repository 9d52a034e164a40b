/-! fewest: both sides -/
def FEW (n : Nat) (T : Nat → Nat → Nat) (S m : Nat) (cs : List Nat) : Prop := srch n T m (els n S 1) 0 (fun _ => 0) = some cs ∧ m ≤ 15 ∧ ∀ q, q < m → srch n T q (els n S 1) 0 (fun _ => 0) = none
def COLI (n : Nat) (T : Nat → Nat → Nat) (w : Wd) : Prop := w.1 21 3 = -1 ∨ ∃ S m cs, S < 2 ^ n ∧ w.1 21 3 = nI S ∧ w.1 21 4 = nI m ∧ FEW n T S m cs ∧ cs.length = (els n S 1).length ∧ ∀ (j x c : Nat), (els n S 1)[j]? = some x → cs[j]? = some c → w.1 23 x = nI c
theorem x_fill22 (w : Wd) : ∃ w', f_J7_fill_53178_22 0 w = some w' ∧ (∀ k, k ≠ 22 → w'.1 k = w.1 k) ∧ w'.2 = w.2 ∧ ∀ j, j < 16 → w'.1 22 j = 0 := by
  have key := lrun (fun f i (s : Wd) => f_J7_fill_53178_22_L5 f 0 (nI i) 16 s) 16 (fun s => some s) (fun i s => (∀ k, k ≠ 22 → s.1 k = w.1 k) ∧ s.2 = w.2 ∧ ∀ j, j < i → s.1 22 j = 0) ?_ ?_ 16 0 w FU (by omega) (FU_big (by omega)) ⟨fun _ _ => rfl, rfl, fun j h => by omega⟩
  · obtain ⟨w', h1, h2⟩ := key
    exact ⟨w', h2, h1.1, h1.2.1, h1.2.2⟩
  · rintro i s hi ⟨h1, h2, h3⟩
    refine ⟨sI s 22 i 0, ⟨fun k hk => ?_, h2, fun j hj => ?_⟩, fun f => ?_⟩
    · rw [← h1 k hk]; funext j; rw [sI_at]; simp [hk]
    · rw [sI_at]
      split
      · rfl
      · next q => exact h3 j (by omega)
    · show f_J7_fill_53178_22_B5b (f_J7_fill_53178_22_L5 f) 0 (nI i) 16 s = _
      unfold f_J7_fill_53178_22_B5b
      rw [if_neg (show ¬ (16 : Int32) ≤ nI i from nI_ge (b := 16) hi (by decide)), m_wr hi (by decide), nI_1]
  · rintro f s _
    show f_J7_fill_53178_22_B5b (f_J7_fill_53178_22_L5 f) 0 (nI 16) 16 s = _
    unfold f_J7_fill_53178_22_B5b
    rw [if_pos (show (16 : Int32) ≤ nI 16 from nI_le (a := 16) (by decide) (by decide))]
section COL3
variable {n : Nat} {T : Nat → Nat → Nat} {iv : Nat → Nat}
theorem few_ex (hg : Gp n T iv) (S : Nat) : ∃ m cs, FEW n T S m cs := by
  have h16 := hg.1.2
  have hl := els_len (n := n) (S := S)
  have ex : ∃ m, m ≤ 15 ∧ ∃ cs, srch n T m (els n S 1) 0 (fun _ => 0) = some cs := ⟨(els n S 1).length, by omega, srch_some hg (els n S 1) 0 (fun _ => 0) _ (fun e he => by have := els_mem.mp he; omega) (by omega) (by omega) (fun _ _ => rfl)⟩
  obtain ⟨m, ⟨h1, cs, h2⟩, h3⟩ := pk_least (fun m => m ≤ 15 ∧ ∃ cs, srch n T m (els n S 1) 0 (fun _ => 0) = some cs) ex
  refine ⟨m, cs, h2, h1, fun q hq => ?_⟩
  cases c : srch n T q (els n S 1) 0 (fun _ => 0) with
  | none => rfl
  | some cs' => exact absurd ⟨by omega, cs', c⟩ (h3 q hq)
theorem few_one {S m m' : Nat} {cs cs' : List Nat} (h : FEW n T S m cs) (h' : FEW n T S m' cs') : m = m' ∧ cs = cs' := by
  have e : m = m' := by
    rcases Nat.lt_trichotomy m m' with q | q | q
    · have := h'.2.2 m q; rw [h.1] at this; cases this
    · exact q
    · have := h.2.2 m' q; rw [h'.1] at this; cases this
  subst e
  refine ⟨rfl, ?_⟩
  have := h.1.symm.trans h'.1
  exact Option.some.inj this
theorem x_few {w : Wd} (hG : GX w n T iv) (hg : Gp n T iv) (hI : COLI n T w) {S : Nat} (hS : S < 2 ^ n) : ∃ w' m cs, f_X2_fewestFor (nI S) w = some (nI m, w') ∧ FEW n T S m cs ∧ COLI n T w' ∧ (∀ k, k ≠ 21 → k ≠ 22 → k ≠ 23 → w'.1 k = w.1 k) ∧ w'.2 = w.2 ∧ cs.length = (els n S 1).length ∧ ∀ (j x c : Nat), (els n S 1)[j]? = some x → cs[j]? = some c → w'.1 23 x = nI c := by
  have h16 := hg.1.2
  have h1n := hg.1.1
  have h31 := lt31 (le16 hS h16)
  unfold f_X2_fewestFor
  by_cases c : w.1 21 3 = nI S
  · rw [if_pos c]
    rcases hI with q | ⟨S', m, cs, q1, q2, q3, q4, q5, q6⟩
    · rw [q] at c; exact absurd c.symm (nI_ne1 h31)
    · have e : S' = S := (m_inj (lt31 (le16 q1 h16)) h31).mp (q2.symm.trans c)
      subst e
      exact ⟨w, m, cs, by rw [q3], q4, Or.inr ⟨S', m, cs, q1, q2, q3, q4, q5, q6⟩, fun _ _ _ _ => rfl, rfl, q5, q6⟩
  · rw [if_neg c, m_letW, m_letW]
    obtain ⟨m, cs, hm⟩ := few_ex hg S
    obtain ⟨w0, hw0⟩ : ∃ w0, w0 = sI (sI w 21 3 (nI S)) 21 4 0 := ⟨_, rfl⟩
    have k0 : ∀ k, k ≠ 21 → w0.1 k = w.1 k := fun k a => by rw [hw0]; funext j; rw [sI_at, sI_at]; simp [a]
    have h03 : w0.1 21 3 = nI S := by rw [hw0, sI_at, if_neg (by rintro ⟨-, h⟩; revert h; decide), sI_at]; simp
    rw [← hw0]
    have key : ∀ d q w1 f, q + d = m → d < f → (∀ k, k ≠ 21 → k ≠ 22 → k ≠ 23 → w1.1 k = w.1 k) → w1.2 = w.2 → w1.1 21 3 = nI S → ∃ w', f_X2_fewestFor_L25 f (nI S) (nI q) w1 = some (nI m, w') ∧ (∀ k, k ≠ 21 → k ≠ 22 → k ≠ 23 → w'.1 k = w.1 k) ∧ w'.2 = w.2 ∧ w'.1 21 3 = nI S ∧ w'.1 21 4 = nI m ∧ cs.length = (els n S 1).length ∧ ∀ (j x c : Nat), (els n S 1)[j]? = some x → cs[j]? = some c → w'.1 23 x = nI c := by
      intro d
      induction d with
      | zero =>
        intro q w1 f hq hf a1 a2 a3
        obtain ⟨f, rfl⟩ : ∃ q, f = q + 1 := ⟨f - 1, by omega⟩
        have e : q = m := by omega
        subst e
        obtain ⟨w2, b1, b2, b3, b4⟩ := x_fill22 (sI w1 21 4 (nI q))
        have k2 : ∀ k, k ≠ 21 → k ≠ 22 → w2.1 k = w1.1 k := fun k x y => by rw [b2 k y]; funext j; rw [sI_at]; simp [x]
        have e4 : w2.1 21 4 = nI q := by rw [b2 21 (by decide), sI_at]; simp
        have e3 : w2.1 21 3 = nI S := by rw [b2 21 (by decide), sI_at, if_neg (by rintro ⟨-, h⟩; revert h; decide)]; exact a3
        obtain ⟨w3, r1, r2, r3, r4⟩ := x_col hg hS (most := q) (by have := hm.2.1; omega) (n - 1) 1 0 (fun _ => 0) w2 20 (by omega) (by omega) (by omega) (by omega) (GX_cong hG (by rw [k2 6 (by decide) (by decide), a1 6 (by decide) (by decide) (by decide)]) (by rw [k2 9 (by decide) (by decide), a1 9 (by decide) (by decide) (by decide)]) (by rw [k2 10 (by decide) (by decide), a1 10 (by decide) (by decide) (by decide)])) e4 (fun _ => ⟨show 0 < 2 ^ 1 by decide, fr_zero⟩) (fun c hc => b4 c hc)
        rcases r4 with ⟨cs', s1, s2, s3, s4⟩ | ⟨s1, s2, s3⟩
        · rw [hm.1] at s1
          have e5 := Option.some.inj s1
          subst e5
          have s2 : f_X2_goesOn 20 1 0 (nI S) w2 = some (1, w3) := s2
          refine ⟨w3, ?_, fun k x y z => by rw [r1 k y z, k2 k x y, a1 k x y z], by rw [r2, b3]; exact a2, by rw [r1 21 (by decide) (by decide)]; exact e3, by rw [r1 21 (by decide) (by decide)]; exact e4, s3, s4⟩
          show f_X2_fewestFor_B25b (f_X2_fewestFor_L25 f) (nI S) (nI q) w1 = _
          unfold f_X2_fewestFor_B25b
          have := hm.2.1
          rw [if_neg (show ¬ (16 : Int32) ≤ nI q from nI_ge (b := 16) (by omega) (by decide)), m_letW, b1, bnd_some, s2, bnd2_some, if_neg one_ne, r1 21 (by decide) (by decide), e4]
        · rw [hm.1] at s1; cases s1
      | succ d ih =>
        intro q w1 f hq hf a1 a2 a3
        obtain ⟨f, rfl⟩ : ∃ q, f = q + 1 := ⟨f - 1, by omega⟩
        have hmo := hm.2.1
        obtain ⟨w2, b1, b2, b3, b4⟩ := x_fill22 (sI w1 21 4 (nI q))
        have k2 : ∀ k, k ≠ 21 → k ≠ 22 → w2.1 k = w1.1 k := fun k x y => by rw [b2 k y]; funext j; rw [sI_at]; simp [x]
        have e4 : w2.1 21 4 = nI q := by rw [b2 21 (by decide), sI_at]; simp
        have e3 : w2.1 21 3 = nI S := by rw [b2 21 (by decide), sI_at, if_neg (by rintro ⟨-, h⟩; revert h; decide)]; exact a3
        obtain ⟨w3, r1, r2, r3, r4⟩ := x_col hg hS (most := q) (by omega) (n - 1) 1 0 (fun _ => 0) w2 20 (by omega) (by omega) (by omega) (by omega) (GX_cong hG (by rw [k2 6 (by decide) (by decide), a1 6 (by decide) (by decide) (by decide)]) (by rw [k2 9 (by decide) (by decide), a1 9 (by decide) (by decide) (by decide)]) (by rw [k2 10 (by decide) (by decide), a1 10 (by decide) (by decide) (by decide)])) e4 (fun _ => ⟨show 0 < 2 ^ 1 by decide, fr_zero⟩) (fun c hc => b4 c hc)
        rcases r4 with ⟨cs', s1, s2, s3, s4⟩ | ⟨s1, s2, s3⟩
        · rw [hm.2.2 q (by omega)] at s1; cases s1
        · have s2 : f_X2_goesOn 20 1 0 (nI S) w2 = some (0, w3) := s2
          obtain ⟨w', t1, t2⟩ := ih (q + 1) w3 f (by omega) (by omega) (fun k x y z => by rw [r1 k y z, k2 k x y, a1 k x y z]) (by rw [r2, b3]; exact a2) (by rw [r1 21 (by decide) (by decide)]; exact e3)
          refine ⟨w', ?_, t2⟩
          show f_X2_fewestFor_B25b (f_X2_fewestFor_L25 f) (nI S) (nI q) w1 = _
          unfold f_X2_fewestFor_B25b
          rw [if_neg (show ¬ (16 : Int32) ≤ nI q from nI_ge (b := 16) (by omega) (by decide)), m_letW, b1, bnd_some, s2, bnd2_some, if_pos rfl, nI_1]
          exact t1
    obtain ⟨w', t1, t2, t3, t4, t5, t6, t7⟩ := key m 0 w0 FU (by omega) (FU_big (by have := hm.2.1; omega)) (fun k x _ _ => k0 k x) (by rw [hw0]; rfl) h03
    exact ⟨w', m, cs, t1, hm, Or.inr ⟨S, m, cs, hS, t4, t5, hm, t6, t7⟩, t2, t3, t6, t7⟩
theorem y_few {w : Wd} (hM : GM w n T iv) (hg : Gp n T iv) {S m : Nat} {cs : List Nat} (hS : S < 2 ^ n) (hm : FEW n T S m cs) : ∃ w', f_X12_fewestParts (nI S) w = some (nI m, w') ∧ keepM (fun k => k = 58 ∨ k = 59 ∨ k = 60 ∨ k = 61) (fun j => j = 22) w w' ∧ (0 < (els n S 1).length → ∀ (j c : Nat), cs[j]? = some c → w'.1 58 j = nI c) := by
  have h16 := hg.1.2
  have h1n := hg.1.1
  have h31 := lt31 (le16 hS h16)
  have hl := els_len (n := n) (S := S)
  unfold f_X12_fewestParts
  rw [m_letW]
  have elsT : ∀ i, 1 ≤ i → i < n → ((List.range' 1 i).filter (fun x => S.testBit x)) = (List.range' 1 (i - 1)).filter (fun x => S.testBit x) ++ (if S.testBit i then [i] else []) := fun i h1 _ => by
    obtain ⟨j, rfl⟩ : ∃ j, i = j + 1 := ⟨i - 1, by omega⟩
    rw [List.range'_1_concat, List.filter_append, Nat.add_sub_cancel, Nat.add_comm 1 j]
    congr 1
    simp only [List.filter_cons, List.filter_nil]
  have k1 := lrun (fun f i (s : Wd) => f_X12_fewestParts_L7 f (nI S) (nI i) s) n (fun s => f_X12_fewestParts_L54 FU 0 s) (fun i s => 1 ≤ i ∧ keepM (fun k => k = 58 ∨ k = 59 ∨ k = 60 ∨ k = 61) (fun j => j = 22) w s ∧ s.1 44 22 = nI ((List.range' 1 (i - 1)).filter (fun x => S.testBit x)).length ∧ ∀ (j x : Nat), ((List.range' 1 (i - 1)).filter (fun x => S.testBit x))[j]? = some x → s.1 61 j = nI x) ?_ ?_ (n - 1) 1 (sI w 44 22 0) FU (by omega) (FU_big (by omega)) ⟨Nat.le_refl _, ⟨fun k a b => by funext j; rw [sI_at]; simp [b], fun j hj => by rw [sI_at]; simp [hj], rfl⟩, by rw [sI_at]; simp; rfl, fun j x h => by simp at h⟩
  · obtain ⟨w1, ⟨-, a1, a2, a3⟩, a4⟩ := k1
    have hst : stY n T iv (els n S 1) w1 := ⟨GM_cong hM (a1.2.1 1 (by decide)) (a1.1 47 (by omega) (by decide)) (a1.1 48 (by omega) (by decide)) (a1.1 49 (by omega) (by decide)), a2, a3⟩
    have key : ∀ d q w2 f, q + d = m → d < f → stY n T iv (els n S 1) w2 → keepM (fun k => k = 58 ∨ k = 59 ∨ k = 60 ∨ k = 61) (fun j => j = 22) w w2 → ∃ w', f_X12_fewestParts_L54 f (nI q) w2 = some (nI m, w') ∧ keepM (fun k => k = 58 ∨ k = 59 ∨ k = 60 ∨ k = 61) (fun j => j = 22) w w' ∧ (0 < (els n S 1).length → ∀ (j c : Nat), cs[j]? = some c → w'.1 58 j = nI c) := by
      intro d
      induction d with
      | zero =>
        intro q w2 f hq hf hs hk
        obtain ⟨f, rfl⟩ : ∃ q, f = q + 1 := ⟨f - 1, by omega⟩
        have e : q = m := by omega
        subst e
        have hmo := hm.2.1
        rcases Nat.eq_zero_or_pos (els n S 1).length with z | z
        · refine ⟨w2, ?_, hk, fun h => by omega⟩
          show f_X12_fewestParts_B54b (f_X12_fewestParts_L54 f) (nI q) w2 = _
          unfold f_X12_fewestParts_B54b
          rw [hs.2.1, z, if_pos (by decide)]
        · obtain ⟨w3, b1, b2, b3, b4⟩ := y_into hg (most := q) (by omega) hs
          rw [hm.1] at b1
          refine ⟨w3, ?_, ⟨fun k a b => by rw [b2 k (by omega) (by omega) (by omega)]; exact hk.1 k a b, fun j hj => by rw [b2 44 (by decide) (by decide) (by decide)]; exact hk.2.1 j hj, b3.trans hk.2.2⟩, fun _ => b4 cs hm.1⟩
          show f_X12_fewestParts_B54b (f_X12_fewestParts_L54 f) (nI q) w2 = _
          unfold f_X12_fewestParts_B54b
          rw [hs.2.1, if_neg (nI_nle z (by omega)), b1, bnd2_some]
          rfl
      | succ d ih =>
        intro q w2 f hq hf hs hk
        obtain ⟨f, rfl⟩ : ∃ q, f = q + 1 := ⟨f - 1, by omega⟩
        have hmo := hm.2.1
        have hno := hm.2.2 q (by omega)
        have z : 0 < (els n S 1).length := by
          rcases Nat.eq_zero_or_pos (els n S 1).length with z | z
          · rw [List.length_eq_zero_iff.mp z] at hno; cases hno
          · exact z
        obtain ⟨w3, b1, b2, b3, b4⟩ := y_into hg (most := q) (by omega) hs
        rw [hno] at b1
        obtain ⟨w', t1, t2, t3⟩ := ih (q + 1) w3 f (by omega) (by omega) (stY_cong hs b2) ⟨fun k a b => by rw [b2 k (by omega) (by omega) (by omega)]; exact hk.1 k a b, fun j hj => by rw [b2 44 (by decide) (by decide) (by decide)]; exact hk.2.1 j hj, b3.trans hk.2.2⟩
        refine ⟨w', ?_, t2, t3⟩
        show f_X12_fewestParts_B54b (f_X12_fewestParts_L54 f) (nI q) w2 = _
        unfold f_X12_fewestParts_B54b
        rw [hs.2.1, if_neg (nI_nle z (by omega)), b1, bnd2_some, nI_1]
        exact t1
    obtain ⟨w', t1, t2, t3⟩ := key m 0 w1 FU (by omega) (FU_big (by have := hm.2.1; omega)) hst a1
    exact ⟨w', a4.trans t1, t2, t3⟩
  · rintro i s hi ⟨z, a1, a2, a3⟩
    have eT := elsT i z hi
    obtain ⟨Q, hQ⟩ : ∃ Q, Q = (List.range' 1 (i - 1)).filter (fun x => S.testBit x) := ⟨_, rfl⟩
    have hQl : Q.length ≤ i - 1 := by
      rw [hQ]
      have := List.length_filter_le (fun x => S.testBit x) (List.range' 1 (i - 1))
      rw [List.length_range'] at this
      exact this
    rw [← hQ] at a2 a3 eT
    have hn1 : s.1 44 1 = nI n := by rw [a1.2.1 1 (by decide)]; exact hM.1
    cases hb : S.testBit i with
    | true =>
      rw [hb, if_pos rfl] at eT
      refine ⟨sI (sI s 61 Q.length (nI i)) 44 22 (nI (Q.length + 1)), ⟨by omega, ⟨fun k a b => ?_, fun j hj => ?_, a1.2.2⟩, ?_, ?_⟩, fun f => ?_⟩
      · rw [← a1.1 k a b]; funext j; rw [sI_at, sI_at, if_neg (fun z => b z.1), if_neg (fun z => by omega)]
      · rw [← a1.2.1 j hj, sI_at, sI_at, if_neg (fun z => hj z.2), if_neg (by rintro ⟨h, -⟩; revert h; decide)]
      · rw [Nat.add_sub_cancel, eT, List.length_append, sI_at]; simp
      · rw [Nat.add_sub_cancel, eT]
        intro j x hj
        rw [sI_at, if_neg (by rintro ⟨h, -⟩; revert h; decide), sI_at]
        rcases Nat.lt_trichotomy j Q.length with r | r | r
        · rw [List.getElem?_append_left r] at hj
          rw [if_neg (fun z => by omega)]; exact a3 j x hj
        · subst r
          rw [List.getElem?_append_right (Nat.le_refl _), Nat.sub_self] at hj
          rw [if_pos ⟨rfl, rfl⟩, ← Option.some.inj hj]
        · rw [List.getElem?_eq_none (by simp; omega)] at hj; cases hj
      · show f_X12_fewestParts_B7b (f_X12_fewestParts_L7 f) (nI S) (nI i) s = _
        unfold f_X12_fewestParts_B7b
        rw [hn1, if_neg (nI_ge hi (by omega)), if_neg (by rw [y_has0 h31 (by omega), hb]; decide), a2, m_wr (by omega) (by decide), m_letW, sI_at, if_neg (by rintro ⟨h, -⟩; revert h; decide), a2, nI_1, nI_1]
    | false =>
      rw [hb, if_neg Bool.false_ne_true, List.append_nil] at eT
      refine ⟨s, ⟨by omega, a1, by rw [Nat.add_sub_cancel, eT]; exact a2, by rw [Nat.add_sub_cancel, eT]; exact a3⟩, fun f => ?_⟩
      show f_X12_fewestParts_B7b (f_X12_fewestParts_L7 f) (nI S) (nI i) s = _
      unfold f_X12_fewestParts_B7b
      rw [hn1, if_neg (nI_ge hi (by omega)), if_pos ((y_has0 h31 (by omega)).mpr hb), nI_1]
  · rintro f s ⟨-, a1, a2, a3⟩
    show f_X12_fewestParts_B7b (f_X12_fewestParts_L7 f) (nI S) (nI n) s = _
    unfold f_X12_fewestParts_B7b
    rw [a1.2.1 1 (by decide), hM.1, if_pos (nI_le (Nat.le_refl _) (by omega))]
/-! the calls -/
def coK (k : Nat) : Prop := k = 21 ∨ k = 22 ∨ k = 23 ∨ k = 58 ∨ k = 59 ∨ k = 60 ∨ k = 61
def coD (n : Nat) (T : Nat → Nat → Nat) (w w2 : Wd) : Prop := COLI n T w2 ∧ keepM coK (fun j => j = 22) w w2
theorem both_few {w : Wd} (hG : GX w n T iv) (hM : GM w n T iv) (hg : Gp n T iv) (hI : COLI n T w) {S : Nat} (hS : S < 2 ^ n) : ∃ (w1 w2 : Wd) (m : Nat) (cs : List Nat), f_X2_fewestFor (nI S) w = some (nI m, w1) ∧ f_X12_fewestParts (nI S) w1 = some (nI m, w2) ∧ coD n T w w2 ∧ w1.1 44 = w.1 44 ∧ (cs.length = (els n S 1).length ∧ (∀ (j x c : Nat), (els n S 1)[j]? = some x → cs[j]? = some c → w1.1 23 x = nI c) ∧ (0 < (els n S 1).length → ∀ (j c : Nat), cs[j]? = some c → w2.1 58 j = nI c)) := by
  obtain ⟨w1, m, cs, h1, h2, h3, h4, h5, h6, h7⟩ := x_few hG hg hI hS
  have e := fun k (q : 24 ≤ k) => h4 k (by omega) (by omega) (by omega)
  obtain ⟨w2, g1, g2, g3⟩ := y_few (GM_cong hM (by rw [e 44 (by decide)]) (e 47 (by decide)) (e 48 (by decide)) (e 49 (by decide))) hg hS h2
  refine ⟨w1, w2, m, cs, h1, g1, ⟨?_, fun k a b => ?_, fun j hj => ?_, g2.2.2.trans h5⟩, e 44 (by decide), h6, h7, g3⟩
  · unfold COLI at h3 ⊢
    rw [g2.1 21 (by omega) (by decide), g2.1 23 (by omega) (by decide)]
    exact h3
  · unfold coK at a
    rw [g2.1 k (by omega) b, h4 k (by omega) (by omega) (by omega)]
  · rw [g2.2.1 j hj, e 44 (by decide)]
theorem coD_rfl {w : Wd} (h : COLI n T w) : coD n T w w := ⟨h, fun _ _ _ => rfl, fun _ _ => rfl, rfl⟩
theorem c_parts {w : Wd} (hG : GX w n T iv) (hM : GM w n T iv) (hg : Gp n T iv) (hI : COLI n T w) (a : Int32) : ∃ r w1 w2, f_X11_parts a w = some (r, w1) ∧ f_X12_parts a w1 = some (r, w2) ∧ coD n T w w2 := by
  have h16 := hg.1.2
  unfold f_X11_parts f_X12_parts
  rcases set_or hG hM hg a with ⟨S, hS, rfl, e1, e2⟩ | ⟨e1, e2⟩
  · have h31 := lt31 (le16 hS h16)
    have hb0 : (nI S &&& 1 = 0) ↔ S.testBit 0 = false := by
      show (nI S &&& nI 1 = nI 0) ↔ _
      rw [m_and, m_inj (Nat.lt_of_le_of_lt Nat.and_le_left h31) (by decide)]
      exact and1z S
    have hy0 : (f_X12_has (nI S) 0 = 0) ↔ S.testBit 0 = false := y_has0 (e := 0) h31 (by decide)
    obtain ⟨w1, w2, m, cs, h1, h2, h3, h4, -⟩ := both_few hG hM hg hI hS
    cases c : S.testBit 0 with
    | false =>
      refine ⟨nI m, w1, w2, ?_, ?_, h3⟩
      · rw [e1, if_neg one_ne, if_pos (hb0.mpr c), h1, bnd2_some]
      · rw [isS_cong (w := w) (by rw [h4]), e2, if_neg one_ne, if_pos (hy0.mpr c), h2, bnd2_some]
    | true =>
      refine ⟨-2, w, w, ?_, ?_, coD_rfl hI⟩
      · rw [e1, if_neg one_ne, if_neg (by rw [hb0, c]; decide)]
      · rw [e2, if_neg one_ne, if_neg (by rw [hy0, c]; decide)]
  · exact ⟨-1, w, w, by simp only [e1, ↓reduceIte], by simp only [e2, ↓reduceIte], coD_rfl hI⟩
theorem all_m2 (hn : n ≤ 16) : nI (2 ^ n - 1) &&& (-2) = nI ((2 ^ n - 1) ^^^ ((2 ^ n - 1) &&& 1)) := by
  have h := p16 hn
  rw [show (-2 : Int32) = (nI 1 ^^^ (-1)) by decide, m_compl (by omega)]
theorem c_classes {w : Wd} (hG : GX w n T iv) (hM : GM w n T iv) (hg : Gp n T iv) (hI : COLI n T w) : ∃ r w1 w2, f_X11_classes w = some (r, w1) ∧ f_X12_classes w1 = some (r, w2) ∧ coD n T w w2 := by
  have h16 := hg.1.2
  have hp := Nat.two_pow_pos n
  unfold f_X11_classes f_X12_classes
  obtain ⟨w1, w2, m, cs, h1, h2, h3, h4, -⟩ := both_few hG hM hg hI (S := (2 ^ n - 1) ^^^ ((2 ^ n - 1) &&& 1)) (dif_lt (by omega))
  have ea : f_X12_all w1 = nI (2 ^ n - 1) := by rw [← y_all hM hg]; unfold f_X12_all; rw [h4]
  refine ⟨nI m, w1, w2, ?_, ?_, h3⟩
  · rw [hG.2.1, all_m2 h16, h1, bnd2_some]
  · rw [ea, all_m2 h16, h2, bnd2_some]
theorem els_all (hn : 1 ≤ n) : els n ((2 ^ n - 1) ^^^ ((2 ^ n - 1) &&& 1)) 1 = List.range' 1 (n - 1) := by
  unfold els
  apply List.filter_eq_self.mpr
  intro x hx
  rw [List.mem_range'_1] at hx
  rw [dif_bit, all_bit]
  refine ⟨by omega, ?_⟩
  rw [show (1 : Nat) = 2 ^ 0 from rfl, Nat.testBit_two_pow]
  simp; omega
theorem c_colour {w : Wd} (hG : GX w n T iv) (hM : GM w n T iv) (hg : Gp n T iv) (hI : COLI n T w) (a : Int32) : ∃ r w1 w2, f_X11_colour a w = some (r, w1) ∧ f_X12_colour a w1 = some (r, w2) ∧ coD n T w w2 := by
  have h16 := hg.1.2
  have h1n := hg.1.1
  have hp := Nat.two_pow_pos n
  unfold f_X11_colour f_X12_colour
  rcases elem_or hG hM hg a with ⟨e, he, rfl, e1, e2⟩ | ⟨e1, e2⟩
  · rcases Nat.eq_zero_or_pos e with z | z
    · subst z
      exact ⟨-2, w, w, by rw [e1, if_neg one_ne, if_pos (show nI 0 = 0 from rfl)], by rw [e2, if_neg one_ne, if_pos (show nI 0 = 0 from rfl)], coD_rfl hI⟩
    · have hz := nI_ne0 z (by omega)
      obtain ⟨w1, w2, m, cs, h1, h2, h3, h4, h5, h6, h7⟩ := both_few hG hM hg hI (S := (2 ^ n - 1) ^^^ ((2 ^ n - 1) &&& 1)) (dif_lt (by omega))
      have ea : f_X12_all w1 = nI (2 ^ n - 1) := by rw [← y_all hM hg]; unfold f_X12_all; rw [h4]
      rw [els_all h1n] at h5 h6 h7
      rw [List.length_range'] at h5 h7
      have hj : e - 1 < cs.length := by omega
      have g1 : (List.range' 1 (n - 1))[e - 1]? = some e := by
        rw [List.getElem?_range' (by omega)]
        congr 1; omega
      have g2 := h6 (e - 1) e cs[e - 1] g1 (List.getElem?_eq_getElem hj)
      have g3 := h7 (by omega) (e - 1) cs[e - 1] (List.getElem?_eq_getElem hj)
      refine ⟨nI cs[e - 1], w1, w2, ?_, ?_, h3⟩
      · rw [e1, if_neg one_ne, if_neg hz]
        unfold f_X2_colourOf
        rw [hG.2.1, all_m2 h16, h1, bnd2_some, m_mask15 (by omega), m_rd (by omega) (by decide), bnd2_some, g2]
      · rw [isE_cong (w := w) (by rw [h4]), e2, if_neg one_ne, if_neg hz, ea, all_m2 h16, h2, bnd2_some]
        obtain ⟨q, rfl⟩ : ∃ q, e = q + 1 := ⟨e - 1, by omega⟩
        rw [nI_pred, m_rd (by omega) (by decide)]
        exact congrArg (fun x => some (x, w2)) g3
  · exact ⟨-1, w, w, by simp only [e1, ↓reduceIte], by simp only [e2, ↓reduceIte], coD_rfl hI⟩
end COL3
