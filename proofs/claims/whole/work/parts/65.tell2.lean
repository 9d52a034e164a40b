/-! report, count, generator, middle -/
section TELL2
variable {w : Wd} {n : Nat} {T : Nat → Nat → Nat} {iv : Nat → Nat} {v : Nat → Int32} {H : List (Nat × Int32)} {fs : List (Nat × Nat)}
def rpF (n : Nat) (T : Nat → Nat → Nat) (S : Nat) : List Int32 := (if opn n T S = 0 then wrd 7 ++ [59] else wrd 6 ++ (nmL (pc (opn n T S)) ++ [59])) ++ (if kd n T S = 2 then wrd 8 ++ [59] else [])
def rpL (n : Nat) (T : Nat → Nat → Nat) (S : Nat) : List Int32 := (wrd 4 ++ (nmL (pc S) ++ [59])) ++ (if fr n T S then (wrd 5 ++ [59]) ++ rpF n T S else wrd 9 ++ (nmL (trs n T S) ++ [59]))
theorem trs_le {S : Nat} (hn : n ≤ 16) : trs n T S ≤ 256 := by
  have h1 : ∀ x, sumF (fun y => if tri T S x y then 1 else 0) n ≤ n * 1 := fun x => sumF_le (fun y _ => by split <;> omega)
  have h2 := sumF_le (f := fun x => sumF (fun y => if tri T S x y then 1 else 0) n) (c := 16) (n := n) (fun x _ => by have := h1 x; omega)
  unfold trs; omega
theorem kd_opn {S : Nat} : (kd n T S = 0) ↔ ¬ opn n T S = 0 := by
  unfold kd
  split
  next h => rw [h]; split <;> simp
  next h => simp [h]
theorem rpL_le {S : Nat} : (rpL n T S).length ≤ 120 := by
  have a4 := wrd_le 4 (by decide)
  have a5 := wrd_le 5 (by decide)
  have a6 := wrd_le 6 (by decide)
  have a7 := wrd_le 7 (by decide)
  have a8 := wrd_le 8 (by decide)
  have a9 := wrd_le 9 (by decide)
  have b1 := nmL_le (pc S)
  have b2 := nmL_le (pc (opn n T S))
  have b3 := nmL_le (trs n T S)
  unfold rpL rpF
  split
  · split
    · split <;> simp only [List.length_append, List.length_singleton, List.length_nil] <;> omega
    · split <;> simp only [List.length_append, List.length_singleton, List.length_nil] <;> omega
  · simp only [List.length_append, List.length_singleton]; omega
theorem x_rpF {w : Wd} (hG : GX w n T iv) (hg : Gp n T iv) {S : Nat} (hS : S < 2 ^ n) (hf : fr n T S = true) {Q : List Int32} (h : TX w Q) (hl : Q.length + ((wrd 5 ++ [59]) ++ rpF n T S).length ≤ 128) : ∃ w', f_X11_reportFree (nI S) w = some w' ∧ TX w' (Q ++ ((wrd 5 ++ [59]) ++ rpF n T S)) ∧ XW w w' := by
  have h16 := hg.1.2
  have hS6 := le16 hS h16
  have hk := kd_lt (n := n) (T := T) S
  have hk2 : (nI (kd n T S) = 2) ↔ kd n T S = 2 := m_inj (b := 2) (by omega) (by decide)
  have ho := le16 (opn_lt (n := n) (T := T) (S := S)) h16
  have hp := pc_le (opn n T S)
  unfold f_X11_reportFree
  rw [x_kind hG hg hS6 hf, bnd_some]
  simp only [nIz (show kd n T S < 2 ^ 31 by omega), hk2]
  rw [List.length_append] at hl
  obtain ⟨w2, b1, b2, b3⟩ := (x_word5.cat x_end) w Q h (by omega)
  have b1 : bnd (f_X6_addWord_1005 w) f_X6_addEnd = some w2 := b1
  obtain ⟨wa, c1, c2, c3⟩ := x_word5 w Q h (by simp only [List.length_append] at hl; omega)
  rw [c1, bnd_some] at b1
  rw [c1, bnd_some, b1, bnd_some, x_open (b3.gx hG) hg hS6, bnd_some, x_pc ho]
  have hl2 : (Q ++ (wrd 5 ++ [59])).length + (rpF n T S).length ≤ 128 := by rw [List.length_append]; omega
  rw [← List.append_assoc]
  have fin : ∀ (g : Wd → Option Wd), XA g (rpF n T S) → ∃ w', g w2 = some w' ∧ TX w' (Q ++ (wrd 5 ++ [59]) ++ rpF n T S) ∧ XW w w' := fun g hgg => by
    obtain ⟨w3, d1, d2, d3⟩ := hgg w2 _ b2 hl2
    exact ⟨w3, d1, d2, b3.tr d3⟩
  by_cases c : kd n T S = 0
  · simp only [c, ↓reduceIte, show ¬ (0 : Nat) = 2 by decide]
    refine fin (fun w3 => bnd (f_X6_addCounted_1006 (nI (pc (opn n T S))) w3) fun w9 => some w9) ?_
    unfold rpF
    rw [if_neg (kd_opn.mp c), if_neg (by omega), List.append_nil]
    exact (x_cnt6 (by omega)).snoc
  · have co : opn n T S = 0 := by
      rcases Nat.eq_zero_or_pos (opn n T S) with q | q
      · exact q
      · exact absurd (kd_opn.mpr (by omega)) c
    simp only [c, ↓reduceIte]
    by_cases d : kd n T S = 2
    · simp only [d, ↓reduceIte]
      refine fin (fun w3 => bnd (f_X6_addWord_1007 w3) fun w4 => bnd (f_X6_addEnd w4) fun w5 => bnd (f_X6_addWord_1008 w5) fun w6 => bnd (f_X6_addEnd w6) fun w7 => some w7) ?_
      unfold rpF
      rw [if_pos co, if_pos d, List.append_assoc]
      exact x_word7.cat (x_end.cat (x_word8.cat x_end.snoc))
    · simp only [d, ↓reduceIte]
      refine fin (fun w3 => bnd (f_X6_addWord_1007 w3) fun w4 => bnd (f_X6_addEnd w4) fun w5 => some w5) ?_
      unfold rpF
      rw [if_pos co, if_neg d, List.append_nil]
      exact x_word7.cat x_end.snoc
theorem x_report (hG : GX w n T iv) (hg : Gp n T iv) (hA : AX w v H) {S : Nat} (eS : v 19 = nI S) (hS : S < 2 ^ n) {a : Int32} (ha : (-1) ≤ a) : ∃ w', f_X11_report a w = some (tld (rpL n T S) a, w') ∧ XW w w' := by
  have h16 := hg.1.2
  have hS6 := le16 hS h16
  have hp := pc_le S
  have ht := trs_le (T := T) (S := S) h16
  have hl := rpL_le (n := n) (T := T) (S := S)
  unfold f_X11_report
  rw [if_pos ha, x_set hA, bnd_some, m_letW, eS, x_pc hS6]
  obtain ⟨c1, c2⟩ := x_clear w
  have hl' := hl
  unfold rpL at hl'
  rw [List.length_append] at hl'
  obtain ⟨w3, b1, b2, b3⟩ := x_cnt4 (v := pc S) (by omega) _ _ c1 (by simp only [List.length_nil]; omega)
  rw [b1, bnd_some]
  have hG3 := (c2.tr b3).gx hG
  rw [x_isFree hG3 hg hS6, bnd_some, x_triples hG3 hg hS6, bnd_some]
  rw [List.nil_append] at b2
  have hlQ : (rpL n T S).length = (wrd 4 ++ (nmL (pc S) ++ [59])).length + (if fr n T S then (wrd 5 ++ [59]) ++ rpF n T S else wrd 9 ++ (nmL (trs n T S) ++ [59])).length := by unfold rpL; rw [List.length_append]
  cases hf : fr n T S with
  | true =>
    rw [if_pos rfl, if_neg one_ne]
    rw [hf, if_pos rfl] at hlQ
    obtain ⟨w8, d1, d2, d3⟩ := x_rpF hG3 hg hS hf b2 (by omega)
    refine ⟨w8, ?_, (c2.tr b3).tr d3⟩
    have e : rpL n T S = wrd 4 ++ (nmL (pc S) ++ [59]) ++ (wrd 5 ++ [59] ++ rpF n T S) := by unfold rpL; rw [hf, if_pos rfl]
    rw [d1, bnd_some, e, x_answer d2 (by rw [List.length_append]; omega) ha, bnd_some]
  | false =>
    rw [if_neg Bool.false_ne_true, if_pos rfl]
    rw [hf, if_neg Bool.false_ne_true] at hlQ
    obtain ⟨w8, d1, d2, d3⟩ := x_cnt9 (v := trs n T S) (by omega) _ _ b2 (by omega)
    refine ⟨w8, ?_, (c2.tr b3).tr d3⟩
    have e : rpL n T S = wrd 4 ++ (nmL (pc S) ++ [59]) ++ (wrd 9 ++ (nmL (trs n T S) ++ [59])) := by unfold rpL; rw [hf, if_neg Bool.false_ne_true]
    rw [d1, bnd_some, e, x_answer d2 (by rw [List.length_append]; omega) ha, bnd_some]
theorem y_rp2 {w : Wd} (hM : GM w n T iv) (hg : Gp n T iv) (hW : WDS w) {S : Nat} (hS : S < 2 ^ n) (hf : fr n T S = true) {Q : List Int32} (h : TY w Q) (hl : Q.length + (if kd n T S = 2 then wrd 8 ++ [59] else []).length ≤ 128) {a : Int32} (ha : (-1) ≤ a) : ∃ w', f_X12_report_J89 a (nI S) w = some (tld (Q ++ (if kd n T S = 2 then wrd 8 ++ [59] else [])) a, w') ∧ YW w w' := by
  have hk := kd_lt (n := n) (T := T) S
  unfold f_X12_report_J89
  have e := y_isOf hM hg (k := 2) hS (by decide)
  have e : f_X12_isOf (nI S) 2 w = some (if fr n T S && decide (2 ≤ kd n T S) then 1 else 0) := e
  rw [e, bnd_some, hf, Bool.true_and]
  by_cases c : kd n T S = 2
  · rw [if_pos c] at hl ⊢
    rw [if_neg (by simp [c, one_ne])]
    obtain ⟨w3, d1, d2, d3⟩ := y_line (r := 9) (by decide) w Q hW h (by show _ + (wrd 8 ++ [59]).length ≤ 200; omega)
    have d1 : f_X12_writesLine 9 w = some w3 := d1
    have d2 : TY w3 (Q ++ (wrd 8 ++ [59])) := d2
    refine ⟨w3, ?_, d3⟩
    rw [d1, bnd_some, y_told d2 (by rw [List.length_append]; omega) ha, bnd_some]
  · rw [if_neg c] at hl ⊢
    rw [if_pos (by rw [if_neg]; simp; omega), List.append_nil]
    exact ⟨w, by rw [y_told h (by simp only [List.length_nil] at hl; omega) ha, bnd_some], YW.rf w⟩
theorem y_report (hM : GM w n T iv) (hg : Gp n T iv) (hW : WDS w) (hA : AM w v H) {S : Nat} (eS : v 19 = nI S) (hS : S < 2 ^ n) {a : Int32} (ha : (-1) ≤ a) : ∃ w', f_X12_report a w = some (tld (rpL n T S) a, w') ∧ YW w w' := by
  have h16 := hg.1.2
  have hS6 := le16 hS h16
  have hp := pc_le S
  have ht := trs_le (T := T) (S := S) h16
  have hl := rpL_le (n := n) (T := T) (S := S)
  have hol := opn_lt (n := n) (T := T) (S := S)
  have hpo := pc_le (opn n T S)
  unfold f_X12_report
  rw [if_pos ha, m_letW]
  obtain ⟨c1, c2⟩ := y_clear w
  rw [y_row0 (c2.am hA), eS, y_ones hS6, bnd_some]
  have hlQ : (rpL n T S).length = (wrd 4 ++ (nmL (pc S) ++ [59])).length + (if fr n T S then (wrd 5 ++ [59]) ++ rpF n T S else wrd 9 ++ (nmL (trs n T S) ++ [59])).length := by unfold rpL; rw [List.length_append]
  obtain ⟨w3, b1, b2, b3⟩ := y_rowW (r := 4) (v := pc S) (by decide) (by omega) _ _ (c2.wds hW) c1 (by show _ + (wrd 4 ++ (nmL (pc S) ++ [59])).length ≤ 200; simp only [List.length_nil]; omega)
  have b1 : f_X12_writesRow 4 (nI (pc S)) (sI w 44 28 0) = some w3 := b1
  have b2 : TY w3 (wrd 4 ++ (nmL (pc S) ++ [59])) := b2
  rw [b1, bnd_some]
  have hM3 := (c2.tr b3).gm hM
  have hW3 := (c2.tr b3).wds hW
  rw [y_isFree hM3 hg hS, bnd_some, y_triples hM3 hg hS6, bnd_some]
  cases hf : fr n T S with
  | true =>
    rw [if_pos rfl, if_neg one_ne]
    rw [hf, if_pos rfl] at hlQ
    have e : rpL n T S = wrd 4 ++ (nmL (pc S) ++ [59]) ++ (wrd 5 ++ [59] ++ rpF n T S) := by unfold rpL; rw [hf, if_pos rfl]
    simp only [List.length_append, List.length_singleton] at hlQ
    obtain ⟨w6, d1, d2, d3⟩ := y_line (r := 6) (by decide) _ _ hW3 b2 (by show _ + (wrd 5 ++ [59]).length ≤ 200; simp only [List.length_append, List.length_singleton]; omega)
    have d1 : f_X12_writesLine 6 w3 = some w6 := d1
    have d2 : TY w6 (wrd 4 ++ (nmL (pc S) ++ [59]) ++ (wrd 5 ++ [59])) := d2
    have hM6 := d3.gm hM3
    have hW6 := d3.wds hW3
    rw [d1, bnd_some, y_open hM6 hg hS, bnd_some, bnd_some, y_ones (le16 hol h16), bnd_some]
    simp only [nIz (lt31 (le16 hol h16))]
    have erf : (rpF n T S).length = (if opn n T S = 0 then wrd 7 ++ [59] else wrd 6 ++ (nmL (pc (opn n T S)) ++ [59])).length + (if kd n T S = 2 then wrd 8 ++ [59] else []).length := by unfold rpF; rw [List.length_append]
    by_cases c : opn n T S = 0
    · rw [if_pos c] at erf ⊢
      obtain ⟨w7, f1, f2, f3⟩ := y_line (r := 7) (by decide) _ _ hW6 d2 (by show _ + (wrd 7 ++ [59]).length ≤ 200; simp only [List.length_append, List.length_singleton] at erf ⊢; omega)
      have f1 : f_X12_writesLine 7 w6 = some w7 := f1
      have f2 : TY w7 (wrd 4 ++ (nmL (pc S) ++ [59]) ++ (wrd 5 ++ [59]) ++ (wrd 7 ++ [59])) := f2
      obtain ⟨w8, g1, g2⟩ := y_rp2 (f3.gm hM6) hg (f3.wds hW6) hS hf f2 (by simp only [List.length_append, List.length_singleton] at erf ⊢; omega) ha
      refine ⟨w8, ?_, (((c2.tr b3).tr d3).tr f3).tr g2⟩
      rw [f1, bnd_some, g1, e]
      unfold rpF
      rw [if_pos c]
      simp only [List.append_assoc]
    · rw [if_neg c] at erf ⊢
      obtain ⟨w7, f1, f2, f3⟩ := y_rowW (r := 8) (v := pc (opn n T S)) (by decide) (by omega) _ _ hW6 d2 (by show _ + (wrd 6 ++ (nmL (pc (opn n T S)) ++ [59])).length ≤ 200; simp only [List.length_append, List.length_singleton] at erf ⊢; omega)
      have f1 : f_X12_writesRow 8 (nI (pc (opn n T S))) w6 = some w7 := f1
      have f2 : TY w7 (wrd 4 ++ (nmL (pc S) ++ [59]) ++ (wrd 5 ++ [59]) ++ (wrd 6 ++ (nmL (pc (opn n T S)) ++ [59]))) := f2
      obtain ⟨w8, g1, g2⟩ := y_rp2 (f3.gm hM6) hg (f3.wds hW6) hS hf f2 (by simp only [List.length_append, List.length_singleton] at erf ⊢; omega) ha
      refine ⟨w8, ?_, (((c2.tr b3).tr d3).tr f3).tr g2⟩
      rw [f1, bnd_some, g1, e]
      unfold rpF
      rw [if_neg c]
      simp only [List.append_assoc]
  | false =>
    rw [if_neg Bool.false_ne_true, if_pos rfl]
    rw [hf, if_neg Bool.false_ne_true] at hlQ
    obtain ⟨w8, d1, d2, d3⟩ := y_rowW (r := 5) (v := trs n T S) (by decide) (by omega) _ _ hW3 b2 (by show _ + (wrd 9 ++ (nmL (trs n T S) ++ [59])).length ≤ 200; omega)
    have d1 : f_X12_writesRow 5 (nI (trs n T S)) w3 = some w8 := d1
    have d2 : TY w8 (wrd 4 ++ (nmL (pc S) ++ [59]) ++ (wrd 9 ++ (nmL (trs n T S) ++ [59]))) := d2
    refine ⟨w8, ?_, (c2.tr b3).tr d3⟩
    have e : rpL n T S = wrd 4 ++ (nmL (pc S) ++ [59]) ++ (wrd 9 ++ (nmL (trs n T S) ++ [59])) := by unfold rpL; rw [hf, if_neg Bool.false_ne_true]
    rw [d1, bnd_some, e, y_told d2 (by rw [List.length_append]; omega) ha, bnd_some]
theorem c_report (hG : GX w n T iv) (hM : GM w n T iv) (hg : Gp n T iv) (hW : WDS w) (hA : ACT n w v H) (a : Int32) : ∃ r w1 w2, f_X11_report a w = some (r, w1) ∧ f_X12_report a w1 = some (r, w2) ∧ keepM txK (fun j => j = 28) w w2 := by
  by_cases ha : (-1) ≤ a
  · obtain ⟨S, hS, eS⟩ := act_v hA (p := 19) (by decide) (by decide)
    obtain ⟨w1, h1, h2⟩ := x_report hG hg hA.1 eS hS ha
    have e := h2.m44
    have hM1 : GM w1 n T iv := GM_cong hM (by rw [e 44 (by decide)]) (e 47 (by decide)) (e 48 (by decide)) (e 49 (by decide))
    obtain ⟨w2, g1, g2⟩ := y_report hM1 hg (fun k hk => by rw [e 67 (by decide)]; exact hW k hk) (AM_cong hA.2.1 (e 54 (by decide)) (e 55 (by decide)) (by rw [e 44 (by decide)])) eS hS ha
    exact ⟨_, w1, w2, h1, g1, txD_of h2 g2⟩
  · exact ⟨-1, w, w, by unfold f_X11_report; rw [if_neg ha], by unfold f_X12_report; rw [if_neg ha], fun _ _ _ => rfl, fun _ _ => rfl, rfl⟩
/-! count -/
theorem c_count (hG : GX w n T iv) (hM : GM w n T iv) (hg : Gp n T iv) (hA : ACT n w v H) (hx : FCx w fs) (hy : FCy w fs) (ht : w.1 44 30 = w.1 1 1) (hr : w.1 44 9 = w.1 13 6) (a : Int32) : ∃ r, f_X11_count a w = some r ∧ f_X12_count a w = some r := by
  have h16 := hg.1.2
  obtain ⟨S, hS, eS⟩ := act_v hA (p := 19) (by decide) (by decide)
  have hall : 2 ^ n - 1 < 2 ^ n := by have := Nat.two_pow_pos n; omega
  have sh : ∀ k, k < 3 → f_X0_valueAt (nI (16 + k)) w = some (v (16 + k)) ∧ ∀ {β : Type} (f : Int32 → Option β), rdI w 54 20 (nI (1 + k)) f = f (v (16 + k)) := fun k hk => by
    have egs : gs (1 + k) = 16 + k := by unfold gs; rw [if_neg (by omega), if_pos (by omega)]; omega
    exact ⟨x_val hA.1 (by omega), fun f => by rw [y_row hA.2.1 (by omega), egs]⟩
  unfold f_X11_count f_X12_count
  rw [x_set hA.1, bnd_some, bnd_some, y_row0 hA.2.1, y_row0 hA.2.1, eS, y_ones (le16 hS h16), bnd_some, x_pc (le16 hS h16), x_centre hG hg, bnd_some, y_centre hM hg, bnd_some, y_all hM hg, hG.2.1, hG.1, hM.1, hx.1, hy.1, hA.1.2.1, hA.2.1.2.1, ht, hr, x_weight hA.1 hA.2.2.1 (le16 hall h16), bnd_some, y_weight hA.2.1 hM hg hA.2.2.1 hall, bnd_some]
  by_cases c0 : a = 0
  · exact ⟨_, by rw [if_pos c0], by rw [if_pos c0]⟩
  rw [if_neg c0, if_neg c0]
  by_cases c1 : a = 1
  · exact ⟨_, by rw [if_pos c1], by rw [if_pos c1]⟩
  rw [if_neg c1, if_neg c1]
  by_cases c2 : a = 2
  · exact ⟨_, by rw [if_pos c2], by rw [if_pos c2]⟩
  rw [if_neg c2, if_neg c2]
  by_cases c3 : a = 3
  · exact ⟨_, by rw [if_pos c3], by rw [if_pos c3]⟩
  rw [if_neg c3, if_neg c3]
  by_cases c4 : a = 4
  · exact ⟨_, by rw [if_pos c4], by rw [if_pos c4]⟩
  rw [if_neg c4, if_neg c4]
  by_cases c5 : a = 5
  · exact ⟨_, by rw [if_pos c5], by rw [if_pos c5]⟩
  rw [if_neg c5, if_neg c5]
  by_cases c6 : a = 6
  · rw [if_pos c6, if_pos c6]
    split
    · exact ⟨1, rfl, rfl⟩
    · exact ⟨0, rfl, rfl⟩
  rw [if_neg c6, if_neg c6]
  by_cases c7 : a = 7
  · subst c7
    refine ⟨v 16, ?_, ?_⟩
    · rw [if_pos rfl]; show bnd (f_X0_valueAt (nI (16 + 0)) w) _ = _; rw [(sh 0 (by decide)).1]; rfl
    · rw [if_pos rfl]; exact (sh 0 (by decide)).2 _
  rw [if_neg c7, if_neg c7]
  by_cases c8 : a = 8
  · subst c8
    refine ⟨v 17, ?_, ?_⟩
    · rw [if_pos rfl]; show bnd (f_X0_valueAt (nI (16 + 1)) w) _ = _; rw [(sh 1 (by decide)).1]; rfl
    · rw [if_pos rfl]; exact (sh 1 (by decide)).2 _
  rw [if_neg c8, if_neg c8]
  by_cases c9 : a = 9
  · subst c9
    refine ⟨v 18, ?_, ?_⟩
    · rw [if_pos rfl]; show bnd (f_X0_valueAt (nI (16 + 2)) w) _ = _; rw [(sh 2 (by decide)).1]; rfl
    · rw [if_pos rfl]; exact (sh 2 (by decide)).2 _
  rw [if_neg c9, if_neg c9]
  by_cases c10 : a = 10
  · exact ⟨_, by rw [if_pos c10], by rw [if_pos c10]⟩
  rw [if_neg c10]
  by_cases c11 : a = 11
  · exact ⟨_, by rw [if_pos c11], by rw [if_pos c11]⟩
  exact ⟨-1, by rw [if_neg c11], by rw [if_neg c11]⟩
end TELL2
/-! generators, the middle of a ring -/
theorem c_generator {w : Wd} {r : Nat} (hr : r ≤ 4) (h1 : w.1 13 6 = nI r) (h2 : w.1 44 9 = nI r) (h3 : ∀ i, i < r → w.1 50 i = w.1 14 i) (a : Int32) : ∃ x, f_X11_generator a w = some x ∧ f_X12_generator a w = some x := by
  unfold f_X11_generator f_X12_generator
  rw [h1, h2]
  by_cases c : (0 : Int32) ≤ a
  · rw [if_pos c, if_pos c]
    obtain ⟨k, hk, rfl⟩ := nI_of (x := a) (by rw [Int32.not_lt]; exact c)
    by_cases d : r ≤ k
    · rw [if_pos (nI_le d hk), if_pos (nI_le d hk)]
      exact ⟨-2, rfl, rfl⟩
    · have hlt : k < r := by omega
      rw [if_neg (nI_ge hlt (by omega)), if_neg (nI_ge hlt (by omega))]
      refine ⟨w.1 14 k, ?_, ?_⟩
      · unfold f_X1_generatorAt
        rw [if_neg (nI_pos hk), h1, if_neg (nI_ge hlt (by omega)), m_rd (by omega) (by decide)]
        rfl
      · rw [m_rd (by omega) (by decide), h3 k hlt]
  · rw [if_neg c, if_neg c]
    exact ⟨-1, rfl, rfl⟩
def mid (m : Nat) : Nat := orF (fun x => if decide (m < 3 * x) && decide (3 * x ≤ 2 * m) then 2 ^ x else 0) m
theorem ring_or (a : Int32) : (∃ m, 1 ≤ m ∧ m ≤ 16 ∧ a = nI m ∧ f_X11_isRing a = 1 ∧ f_X12_isRing a = 1) ∨ (f_X11_isRing a = 0 ∧ f_X12_isRing a = 0) := by
  unfold f_X11_isRing f_X12_isRing f_X12_in
  rcases tri_or a (lo := 1) (hi := 16) (by decide) (by decide) with ⟨m, h1, h2, rfl⟩ | h | ⟨q1, q2, q3, q4, q5⟩
  · have e1 : ¬ nI m < 1 := nI_nlt (b := 1) h1 (by omega)
    have e2 : ¬ (16 : Int32) < nI m := nI_nlt (a := 16) h2 (by decide)
    exact Or.inl ⟨m, h1, h2, rfl, by rw [if_neg e1, if_neg e2], by rw [if_neg e1, if_neg e2]⟩
  · have h : a < 1 := h
    exact Or.inr ⟨by rw [if_pos h], by rw [if_pos h]⟩
  · have q1 : ¬ a < 1 := q1
    have q2 : (16 : Int32) < a := q2
    exact Or.inr ⟨by rw [if_neg q1, if_pos q2], by rw [if_neg q1, if_pos q2]⟩
theorem x_mid {m : Nat} (hm : m ≤ 16) : f_X11_middleOf (nI m) = some (nI (mid m)) := by
  unfold f_X11_middleOf
  have key := lup (fun f i (acc : Nat) => f_X11_middleOf_L4 f (nI m) (nI acc) (nI i)) m (fun x acc => acc ||| if decide (m < 3 * x) && decide (3 * x ≤ 2 * m) then 2 ^ x else 0) (fun acc => some (nI acc)) (fun _ _ => True) ?_ (fun _ _ _ _ => trivial) ?_ m 0 0 FU (by omega) (FU_big (by omega)) trivial
  · exact key.1
  · intro f i acc hi _
    show f_X11_middleOf_B4b (f_X11_middleOf_L4 f) (nI m) (nI acc) (nI i) = _
    unfold f_X11_middleOf_B4b
    rw [if_neg (nI_ge hi (by omega)), show (3 : Int32) * nI i = nI (3 * i) from pk_mul 3 i, show (2 : Int32) * nI m = nI (2 * m) from pk_mul 2 m, m_shl1 (by omega), m_or, nI_1]
    simp only [m_le (show 3 * i < 2 ^ 31 by omega) (show m < 2 ^ 31 by omega), m_lt (show 2 * m < 2 ^ 31 by omega) (show 3 * i < 2 ^ 31 by omega)]
    by_cases a : 3 * i ≤ m
    · rw [if_pos a, show decide (m < 3 * i) = false by simp; omega]; simp
    · rw [if_neg a, show decide (m < 3 * i) = true by simp; omega]
      by_cases b : 2 * m < 3 * i
      · rw [if_pos b, show decide (3 * i ≤ 2 * m) = false by simp; omega]; simp
      · rw [if_neg b, show decide (3 * i ≤ 2 * m) = true by simp; omega]; simp
  · intro f acc _
    show f_X11_middleOf_B4b (f_X11_middleOf_L4 f) (nI m) (nI acc) (nI m) = _
    unfold f_X11_middleOf_B4b
    rw [if_pos (nI_le (Nat.le_refl _) (by omega))]
theorem y_mid {m : Nat} (hm : m ≤ 16) : f_X12_middleOf (nI m) = some (nI (mid m)) := by
  unfold f_X12_middleOf
  have key := lup (fun f i (acc : Nat) => f_X12_middleOf_L4 f (nI m) (nI acc) (nI i)) m (fun x acc => acc ||| if decide (m < 3 * x) && decide (3 * x ≤ 2 * m) then 2 ^ x else 0) (fun acc => some (nI acc)) (fun _ _ => True) ?_ (fun _ _ _ _ => trivial) ?_ m 0 0 FU (by omega) (FU_big (by omega)) trivial
  · exact key.1
  · intro f i acc hi _
    show f_X12_middleOf_B4b (f_X12_middleOf_L4 f) (nI m) (nI acc) (nI i) = _
    unfold f_X12_middleOf_B4b
    rw [if_neg (nI_ge hi (by omega)), show (3 : Int32) * nI i = nI (3 * i) from pk_mul 3 i, show (2 : Int32) * nI m = nI (2 * m) from pk_mul 2 m, m_shl1 (by omega), m_or, nI_1]
    simp only [m_le (show 3 * i < 2 ^ 31 by omega) (show m < 2 ^ 31 by omega), m_lt (show 2 * m < 2 ^ 31 by omega) (show 3 * i < 2 ^ 31 by omega)]
    by_cases a : 3 * i ≤ m
    · rw [if_pos a, show decide (m < 3 * i) = false by simp; omega]; simp
    · rw [if_neg a, show decide (m < 3 * i) = true by simp; omega]
      by_cases b : 2 * m < 3 * i
      · rw [if_pos b, show decide (3 * i ≤ 2 * m) = false by simp; omega]; simp
      · rw [if_neg b, show decide (3 * i ≤ 2 * m) = true by simp; omega]; simp
  · intro f acc _
    show f_X12_middleOf_B4b (f_X12_middleOf_L4 f) (nI m) (nI acc) (nI m) = _
    unfold f_X12_middleOf_B4b
    rw [if_pos (nI_le (Nat.le_refl _) (by omega))]
theorem c_middle (a : Int32) : ∃ r, f_X11_middle a = some r ∧ f_X12_middle a = some r := by
  unfold f_X11_middle f_X12_middle
  rcases ring_or a with ⟨m, h1, h2, rfl, e1, e2⟩ | ⟨e1, e2⟩
  · rw [e1, e2, if_neg one_ne, if_neg one_ne, x_mid h2, y_mid h2]
    exact ⟨_, rfl, rfl⟩
  · rw [e1, e2]
    exact ⟨-1, rfl, rfl⟩
