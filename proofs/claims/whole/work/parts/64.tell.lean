/-! spell, report, count -/
def FCx (w : Wd) (fs : List (Nat × Nat)) : Prop := w.1 6 6 = nI fs.length ∧ ∀ i f, fs[i]? = some f → w.1 7 i = nI f.1 ∧ w.1 8 i = nI f.2
def FCy (w : Wd) (fs : List (Nat × Nat)) : Prop := w.1 44 2 = nI fs.length ∧ ∀ i f, fs[i]? = some f → w.1 45 i = nI f.1 ∧ w.1 46 i = nI f.2
def FOK (fs : List (Nat × Nat)) : Prop := fs.length ≤ 4 ∧ ∀ f, f ∈ fs → f.1 < 3 ∧ f.2 ≤ 16
theorem FCx_cong {w w' : Wd} {fs : List (Nat × Nat)} (h : FCx w fs) (e1 : w'.1 6 6 = w.1 6 6) (e2 : w'.1 7 = w.1 7) (e3 : w'.1 8 = w.1 8) : FCx w' fs := by
  unfold FCx at *; rw [e1, e2, e3]; exact h
theorem FCy_cong {w w' : Wd} {fs : List (Nat × Nat)} (h : FCy w fs) (e1 : w'.1 44 2 = w.1 44 2) (e2 : w'.1 45 = w.1 45) (e3 : w'.1 46 = w.1 46) : FCy w' fs := by
  unfold FCy at *; rw [e1, e2, e3]; exact h
def facT (f : Nat × Nat) : List Int32 := wrd f.1 ++ (if f.1 = 2 then [59] else nmL f.2 ++ [59])
def setT (n S : Nat) : List Int32 := (List.range n).flatMap (fun e => if S.testBit e then nmL e else [])
def spL (fs : List (Nat × Nat)) (n S : Nat) : List Int32 := fs.flatMap facT ++ (if S = 0 then [] else wrd 3 ++ (setT n S ++ [59]))
theorem facT_le {f : Nat × Nat} (h : f.1 < 3 ∧ f.2 ≤ 16) : (facT f).length ≤ 14 := by
  have h1 := wrd_le f.1 (by omega)
  have h2 := nmL_le3 (v := f.2) (by omega)
  unfold facT
  split
  · simp only [List.length_append, List.length_singleton]; omega
  · simp only [List.length_append, List.length_singleton]; omega
theorem flat_le {α : Type} {g : α → List Int32} {c : Nat} : ∀ (l : List α), (∀ x, x ∈ l → (g x).length ≤ c) → (l.flatMap g).length ≤ c * l.length := by
  intro l
  induction l with
  | nil => intro _; simp
  | cons x l ih =>
    intro h
    have h1 := ih (fun y hy => h y (List.mem_cons_of_mem _ hy))
    have h2 := h x List.mem_cons_self
    rw [List.flatMap_cons, List.length_append, List.length_cons, Nat.mul_succ]
    omega
theorem setT_le {n S m : Nat} (hn : n ≤ 16) (hm : m ≤ n) : (setT m S).length ≤ 48 := by
  have := flat_le (g := fun e => if S.testBit e then nmL e else []) (c := 3) (List.range m) (fun e he => by
    rw [List.mem_range] at he
    have := nmL_le3 (v := e) (by omega)
    split
    · exact this
    · simp)
  rw [List.length_range] at this
  unfold setT
  omega
def txK (k : Nat) : Prop := k = 41 ∨ k = 42 ∨ k = 65
theorem txD_of {w w1 w2 : Wd} (h1 : XW w w1) (h2 : YW w1 w2) : keepM txK (fun j => j = 28) w w2 := by
  refine ⟨fun k hk h44 => ?_, fun j hj => ?_, h2.2.2.trans h1.2⟩
  · unfold txK at hk
    rw [h2.1 k (by omega) h44, h1.1 k (by omega) (by omega)]
  · rw [h2.2.1 j hj, h1.1 44 (by decide) (by decide)]
theorem x_clear (w : Wd) : TX (f_X6_clear w) [] ∧ XW w (f_X6_clear w) := by
  unfold f_X6_clear
  rw [m_letW]
  exact ⟨⟨by rw [sI_at]; simp; rfl, fun k x h => by simp at h⟩, fun k a b => by funext j; rw [sI_at]; simp [a], rfl⟩
theorem y_clear (w : Wd) : TY (sI w 44 28 0) [] ∧ YW w (sI w 44 28 0) :=
  ⟨⟨by rw [sI_at]; simp; rfl, fun k x h => by simp at h⟩, fun k a b => by funext j; rw [sI_at]; simp [b], fun j hj => by rw [sI_at]; simp [hj], rfl⟩
section TELL
variable {w : Wd} {n : Nat} {T : Nat → Nat → Nat} {iv : Nat → Nat} {v : Nat → Int32} {H : List (Nat × Int32)} {fs : List (Nat × Nat)}
theorem x_fac {w : Wd} (hf : FCx w fs) (hk : FOK fs) {i : Nat} (hi : i < fs.length) : ∀ Q, TX w Q → Q.length + 14 ≤ 128 → ∃ w', f_X11_spellFactor (nI i) w = some w' ∧ TX w' (Q ++ facT fs[i]) ∧ XW w w' := by
  intro Q hQ hl
  obtain ⟨h1, h2⟩ := hf.2 i fs[i] (List.getElem?_eq_getElem hi)
  have h3 := hk.2 fs[i] (List.getElem_mem hi)
  have h4 := facT_le h3
  have hlen := hk.1
  have h16 : fs[i].2 < 2 ^ 31 := by omega
  unfold f_X11_spellFactor
  rw [m_rd (by omega) (by decide), m_rd (by omega) (by decide), m_rd (by omega) (by decide), h1, h2]
  unfold facT at h4 ⊢
  clear h1 h2
  generalize fs[i] = g at *
  obtain ⟨a, b⟩ := g
  dsimp only at *
  rcases (show a = 0 ∨ a = 1 ∨ a = 2 by omega) with rfl | rfl | rfl
  · rw [if_neg (by decide), if_pos (by decide)]
    rw [if_neg (by decide)] at h4 ⊢
    exact (x_cnt0 h16).snoc w Q hQ (by omega)
  · rw [if_neg (by decide), if_neg (by decide)]
    rw [if_neg (by decide)] at h4 ⊢
    exact (x_cnt1 h16).snoc w Q hQ (by omega)
  · rw [if_pos (by decide)]
    rw [if_pos rfl] at h4 ⊢
    exact (x_word2.cat x_end.snoc) w Q hQ (by omega)
theorem XW.gx {w w' : Wd} (h : XW w w') (hG : GX w n T iv) : GX w' n T iv := GX_cong hG (h.1 6 (by decide) (by decide)) (h.1 9 (by decide) (by decide)) (h.1 10 (by decide) (by decide))
theorem XW.ax {w w' : Wd} (h : XW w w') (hA : AX w v H) : AX w' v H := AX_cong hA (h.1 37 (by decide) (by decide)) (h.1 38 (by decide) (by decide)) (h.1 39 (by decide) (by decide)) (h.1 40 (by decide) (by decide))
theorem XW.fc {w w' : Wd} (h : XW w w') (hf : FCx w fs) : FCx w' fs := FCx_cong hf (by rw [h.1 6 (by decide) (by decide)]) (h.1 7 (by decide) (by decide)) (h.1 8 (by decide) (by decide))
theorem YW.gm {w w' : Wd} (h : YW w w') (hM : GM w n T iv) : GM w' n T iv := GM_cong hM (h.2.1 1 (by decide)) (h.1 47 (by decide) (by decide)) (h.1 48 (by decide) (by decide)) (h.1 49 (by decide) (by decide))
theorem YW.am {w w' : Wd} (h : YW w w') (hA : AM w v H) : AM w' v H := AM_cong hA (h.1 54 (by decide) (by decide)) (h.1 55 (by decide) (by decide)) (h.2.1 15 (by decide))
theorem YW.fc {w w' : Wd} (h : YW w w') (hf : FCy w fs) : FCy w' fs := FCy_cong hf (h.2.1 2 (by decide)) (h.1 45 (by decide) (by decide)) (h.1 46 (by decide) (by decide))
theorem x_spell (hG : GX w n T iv) (hn : n ≤ 16) (hA : AX w v H) {S : Nat} (eS : v 19 = nI S) (hS : S < 2 ^ n) (hf : FCx w fs) (hk : FOK fs) {a : Int32} (ha : (-1) ≤ a) : ∃ w', f_X11_spell a w = some (tld (spL fs n S) a, w') ∧ XW w w' := by
  have h31 := lt31 (le16 hS hn)
  have hlen := hk.1
  unfold f_X11_spell
  rw [if_pos ha, m_letW]
  obtain ⟨c1, c2⟩ := x_clear w
  have key := lrun (fun f i (s : Wd) => f_X11_spell_L16 f a (nI i) s) fs.length (fun s => f_X11_spell_B16b (fun _ _ _ => none) a (nI fs.length) s) (fun i s => TX s ((fs.take i).flatMap facT) ∧ XW w s) ?_ ?_ fs.length 0 (f_X6_clear w) FU (by omega) (FU_big (by omega)) ⟨c1, c2⟩
  · obtain ⟨s, ⟨a1, a2⟩, a3⟩ := key
    rw [List.take_length] at a1
    have hl1 := flat_le (g := facT) (c := 14) fs (fun f hf => facT_le (hk.2 f hf))
    refine (show ∃ w', f_X11_spell_L16 FU a (nI 0) (f_X6_clear w) = some (tld (spL fs n S) a, w') ∧ XW w w' from ?_)
    rw [a3]
    unfold f_X11_spell_B16b
    rw [(a2.fc hf).1, if_pos (nI_le (Nat.le_refl _) (by omega)), x_set (a2.ax hA), bnd_some, eS]
    unfold spL
    by_cases hz : S = 0
    · subst hz
      rw [if_pos (show nI 0 = 0 from rfl), if_pos rfl, List.append_nil, x_answer a1 (by omega) ha, bnd_some]
      exact ⟨s, rfl, a2⟩
    · rw [if_neg (by rw [nIz h31]; exact hz), if_neg hz]
      obtain ⟨s1, b1, b2, b3⟩ := x_word3 s _ a1 (by have := wrd_le 3 (by decide); omega)
      rw [b1, bnd_some]
      have hw3 := wrd_le 3 (by decide)
      have key := lrun (fun f i (s : Wd) => f_X11_spell_L60 f a (nI i) s) n (fun s => bnd (f_X6_addEnd s) fun w1 => bnd (f_X6_answer a w1) fun x2 => some (x2, w1)) (fun i s => TX s ((fs.flatMap facT ++ wrd 3) ++ setT i S) ∧ XW w s) ?_ ?_ n 0 s1 FU (by omega) (FU_big (by omega)) ⟨by show TX s1 (_ ++ []); rw [List.append_nil]; exact b2, a2.tr b3⟩
      · obtain ⟨s2, ⟨d1, d2⟩, d3⟩ := key
        have hs2 := setT_le (S := S) hn (Nat.le_refl n)
        obtain ⟨s3, e1, e2, e3⟩ := x_end s2 _ d1 (by simp only [List.length_append, List.length_singleton]; omega)
        refine ⟨s3, ?_, d2.tr e3⟩
        refine d3.trans ?_
        rw [e1, bnd_some, x_answer e2 (by simp only [List.length_append, List.length_singleton]; omega) ha, bnd_some]
        simp only [List.append_assoc]
      · rintro i s hi ⟨d1, d2⟩
        have hs2 := setT_le (S := S) hn (Nat.le_of_lt hi)
        have eT : setT (i + 1) S = setT i S ++ (if S.testBit i then nmL i else []) := by
          unfold setT
          rw [List.range_succ, List.flatMap_append]
          simp
        cases hb : S.testBit i with
        | true =>
          have h4 := nmL_le i
          obtain ⟨s', e1, e2, e3⟩ := x_num (v := i) (by omega) s _ d1 (by simp only [List.length_append]; omega)
          refine ⟨s', ⟨by rw [eT, hb, if_pos rfl, ← List.append_assoc]; exact e2, d2.tr e3⟩, fun f => ?_⟩
          show f_X11_spell_B60b (f_X11_spell_L60 f) a (nI i) s = _
          unfold f_X11_spell_B60b
          rw [(d2.gx hG).1, if_neg (nI_ge hi (by omega)), x_set (d2.ax hA), bnd_some, eS, if_neg (by rw [x_bit0 h31 (by omega), hb]; decide), e1, bnd_some, nI_1]
        | false =>
          refine ⟨s, ⟨by rw [eT, hb]; simp only [Bool.false_eq_true, ↓reduceIte, List.append_nil]; exact d1, d2⟩, fun f => ?_⟩
          show f_X11_spell_B60b (f_X11_spell_L60 f) a (nI i) s = _
          unfold f_X11_spell_B60b
          rw [(d2.gx hG).1, if_neg (nI_ge hi (by omega)), x_set (d2.ax hA), bnd_some, eS, if_pos ((x_bit0 h31 (by omega)).mpr hb), nI_1]
      · rintro f s ⟨d1, d2⟩
        show f_X11_spell_B60b (f_X11_spell_L60 f) a (nI n) s = _
        unfold f_X11_spell_B60b
        rw [(d2.gx hG).1, if_pos (nI_le (Nat.le_refl _) (by omega))]
  · rintro i s hi ⟨a1, a2⟩
    have hl1 := flat_le (g := facT) (c := 14) (fs.take i) (fun f hf => facT_le (hk.2 f (List.mem_of_mem_take hf)))
    rw [List.length_take] at hl1
    obtain ⟨s', b1, b2, b3⟩ := x_fac (a2.fc hf) hk hi _ a1 (by omega)
    refine ⟨s', ⟨by rw [List.take_succ_eq_append_getElem hi, List.flatMap_append]; simp only [List.flatMap_cons, List.flatMap_nil, List.append_nil]; exact b2, a2.tr b3⟩, fun f => ?_⟩
    show f_X11_spell_B16b (f_X11_spell_L16 f) a (nI i) s = _
    unfold f_X11_spell_B16b
    rw [(a2.fc hf).1, if_neg (nI_ge hi (by omega)), b1, bnd_some, nI_1]
  · rintro f s ⟨a1, a2⟩
    show f_X11_spell_B16b (f_X11_spell_L16 f) a (nI fs.length) s = _
    unfold f_X11_spell_B16b
    rw [(a2.fc hf).1, if_pos (nI_le (Nat.le_refl _) (by omega)), if_pos (nI_le (Nat.le_refl _) (by omega))]
theorem y_spell (hM : GM w n T iv) (hW : WDS w) (hn : n ≤ 16) (hA : AM w v H) {S : Nat} (eS : v 19 = nI S) (hS : S < 2 ^ n) (hf : FCy w fs) (hk : FOK fs) {a : Int32} (ha : (-1) ≤ a) : ∃ w', f_X12_spell a w = some (tld (spL fs n S) a, w') ∧ YW w w' := by
  have h31 := lt31 (le16 hS hn)
  have hlen := hk.1
  unfold f_X12_spell
  rw [if_pos ha, m_letW]
  obtain ⟨c1, c2⟩ := y_clear w
  have key := lrun (fun f i (s : Wd) => f_X12_spell_L14 f a (nI i) s) fs.length (fun s => f_X12_spell_B14b (fun _ _ _ => none) a (nI fs.length) s) (fun i s => TY s ((fs.take i).flatMap facT) ∧ YW w s) ?_ ?_ fs.length 0 (sI w 44 28 0) FU (by omega) (FU_big (by omega)) ⟨c1, c2⟩
  · obtain ⟨s, ⟨a1, a2⟩, a3⟩ := key
    rw [List.take_length] at a1
    have hl1 := flat_le (g := facT) (c := 14) fs (fun f hf => facT_le (hk.2 f hf))
    refine (show ∃ w', f_X12_spell_L14 FU a (nI 0) (sI w 44 28 0) = some (tld (spL fs n S) a, w') ∧ YW w w' from ?_)
    rw [a3]
    unfold f_X12_spell_B14b
    rw [(a2.fc hf).1, if_pos (nI_le (Nat.le_refl _) (by omega)), y_row0 (a2.am hA), eS]
    unfold spL
    by_cases hz : S = 0
    · subst hz
      rw [if_pos (show nI 0 = 0 from rfl), if_pos rfl, List.append_nil, y_told a1 (by omega) ha, bnd_some]
      exact ⟨s, rfl, a2⟩
    · rw [if_neg (by rw [nIz h31]; exact hz), if_neg hz]
      obtain ⟨s1, b1, b2, b3⟩ := y_word (r := 3) (by decide) s _ (a2.wds hW) a1 (by have := wrd_le 3 (by decide); show _ + (wrd 3).length ≤ 200; omega)
      have b1 : f_X12_writesWord 3 s = some s1 := b1
      rw [b1, bnd_some]
      have b2 : TY s1 (fs.flatMap facT ++ wrd 3) := b2
      have hw3 := wrd_le 3 (by decide)
      have key := lrun (fun f i (s : Wd) => f_X12_spell_L80 f a (nI i) s) n (fun s => bnd (f_X12_writes 59 s) fun w1 => bnd (f_X12_toldText a w1) fun x2 => some (x2, w1)) (fun i s => TY s ((fs.flatMap facT ++ wrd 3) ++ setT i S) ∧ YW w s) ?_ ?_ n 0 s1 FU (by omega) (FU_big (by omega)) ⟨by show TY s1 (_ ++ []); rw [List.append_nil]; exact b2, a2.tr b3⟩
      · obtain ⟨s2, ⟨d1, d2⟩, d3⟩ := key
        have hs2 := setT_le (S := S) hn (Nat.le_refl n)
        obtain ⟨s3, e1, e2, e3⟩ := y_sign 59 s2 _ (d2.wds hW) d1 (by simp only [List.length_append, List.length_singleton]; omega)
        refine ⟨s3, ?_, d2.tr e3⟩
        refine d3.trans ?_
        rw [e1, bnd_some, y_told e2 (by simp only [List.length_append, List.length_singleton]; omega) ha, bnd_some]
        simp only [List.append_assoc]
      · rintro i s hi ⟨d1, d2⟩
        have hs2 := setT_le (S := S) hn (Nat.le_of_lt hi)
        have eT : setT (i + 1) S = setT i S ++ (if S.testBit i then nmL i else []) := by
          unfold setT
          rw [List.range_succ, List.flatMap_append]
          simp
        cases hb : S.testBit i with
        | true =>
          have h4 := nmL_le i
          obtain ⟨s', e1, e2, e3⟩ := y_num (v := i) (by omega) s _ (d2.wds hW) d1 (by simp only [List.length_append]; omega)
          refine ⟨s', ⟨by rw [eT, hb, if_pos rfl, ← List.append_assoc]; exact e2, d2.tr e3⟩, fun f => ?_⟩
          show f_X12_spell_B80b (f_X12_spell_L80 f) a (nI i) s = _
          unfold f_X12_spell_B80b
          rw [(d2.gm hM).1, if_neg (nI_ge hi (by omega)), y_row0 (d2.am hA), eS, if_neg (by rw [y_has0 h31 (by omega), hb]; decide), e1, bnd_some, nI_1]
        | false =>
          refine ⟨s, ⟨by rw [eT, hb]; simp only [Bool.false_eq_true, ↓reduceIte, List.append_nil]; exact d1, d2⟩, fun f => ?_⟩
          show f_X12_spell_B80b (f_X12_spell_L80 f) a (nI i) s = _
          unfold f_X12_spell_B80b
          rw [(d2.gm hM).1, if_neg (nI_ge hi (by omega)), y_row0 (d2.am hA), eS, if_pos ((y_has0 h31 (by omega)).mpr hb), nI_1]
      · rintro f s ⟨d1, d2⟩
        show f_X12_spell_B80b (f_X12_spell_L80 f) a (nI n) s = _
        unfold f_X12_spell_B80b
        rw [(d2.gm hM).1, if_pos (nI_le (Nat.le_refl _) (by omega))]
  · rintro i s hi ⟨a1, a2⟩
    have hl1 := flat_le (g := facT) (c := 14) (fs.take i) (fun f hf => facT_le (hk.2 f (List.mem_of_mem_take hf)))
    rw [List.length_take] at hl1
    obtain ⟨g1, g2⟩ := hf.2 i fs[i] (List.getElem?_eq_getElem hi)
    have h3 := hk.2 fs[i] (List.getElem_mem hi)
    have h4 := facT_le h3
    have h16 : fs[i].2 < 2 ^ 31 := by omega
    have hW2 := a2.wds hW
    have ecl : wCl fs[i].1 = fs[i].1 := (by decide : ∀ q, q < 3 → wCl q = q) fs[i].1 h3.1
    obtain ⟨s1, b1, b2, b3⟩ := y_word (r := fs[i].1) (by omega) s _ hW2 a1 (by have := wrd_le (wCl fs[i].1) (by omega); omega)
    rw [ecl] at b2
    have h4' : (facT fs[i]).length = (wrd fs[i].1).length + (if fs[i].1 = 2 then [59] else nmL fs[i].2 ++ [59]).length := by unfold facT; rw [List.length_append]
    have B : ∀ f, f_X12_spell_L14 (f + 1) a (nI i) s = if fs[i].1 = 2 then bnd (f_X12_writes 59 s1) fun w7 => f_X12_spell_L14 f a (nI (i + 1)) w7 else bnd (f_X12_writesNumber (nI fs[i].2) s1) fun w9 => bnd (f_X12_writes 59 w9) fun w10 => f_X12_spell_L14 f a (nI (i + 1)) w10 := by
      intro f
      show f_X12_spell_B14b (f_X12_spell_L14 f) a (nI i) s = _
      unfold f_X12_spell_B14b
      rw [(a2.fc hf).1, if_neg (nI_ge hi (by omega)), m_rd (by omega) (by decide), a2.1 45 (by decide) (by decide), g1, b1, bnd_some, m_rd (by omega) (by decide), m_rd (by omega) (by decide), (a2.tr b3).1 45 (by decide) (by decide), (a2.tr b3).1 46 (by decide) (by decide), g1, g2, nI_1]
      simp only [show (nI fs[i].1 = 2 ↔ fs[i].1 = 2) from m_inj (b := 2) (by omega) (by decide)]
    by_cases c : fs[i].1 = 2
    · rw [if_pos c] at h4'
      simp only [List.length_singleton] at h4'
      obtain ⟨s', e1, e2, e3⟩ := y_sign 59 s1 _ (b3.wds hW2) b2 (by simp only [List.length_append, List.length_singleton]; omega)
      refine ⟨s', ⟨?_, (a2.tr b3).tr e3⟩, fun f => by rw [B f, if_pos c, e1, bnd_some]⟩
      rw [List.take_succ_eq_append_getElem hi, List.flatMap_append]
      simp only [List.flatMap_cons, List.flatMap_nil, List.append_nil]
      unfold facT
      rw [if_pos c, ← List.append_assoc]; exact e2
    · rw [if_neg c] at h4'
      simp only [List.length_append, List.length_singleton] at h4'
      obtain ⟨s2, e1, e2, e3⟩ := y_num h16 s1 _ (b3.wds hW2) b2 (by simp only [List.length_append]; omega)
      obtain ⟨s', k1, k2, k3⟩ := y_sign 59 s2 _ (e3.wds (b3.wds hW2)) e2 (by simp only [List.length_append, List.length_singleton]; omega)
      refine ⟨s', ⟨?_, ((a2.tr b3).tr e3).tr k3⟩, fun f => by rw [B f, if_neg c, e1, bnd_some, k1, bnd_some]⟩
      rw [List.take_succ_eq_append_getElem hi, List.flatMap_append]
      simp only [List.flatMap_cons, List.flatMap_nil, List.append_nil]
      unfold facT
      rw [if_neg c, ← List.append_assoc, ← List.append_assoc]; exact k2
  · rintro f s ⟨a1, a2⟩
    show f_X12_spell_B14b (f_X12_spell_L14 f) a (nI fs.length) s = _
    unfold f_X12_spell_B14b
    rw [(a2.fc hf).1, if_pos (nI_le (Nat.le_refl _) (by omega)), if_pos (nI_le (Nat.le_refl _) (by omega))]
theorem XW.m44 {w w' : Wd} (h : XW w w') : ∀ k, 43 ≤ k → w'.1 k = w.1 k := fun k hk => h.1 k (by omega) (by omega)
theorem c_spell (hG : GX w n T iv) (hM : GM w n T iv) (hg : Gp n T iv) (hW : WDS w) (hA : ACT n w v H) (hx : FCx w fs) (hy : FCy w fs) (hk : FOK fs) (a : Int32) : ∃ r w1 w2, f_X11_spell a w = some (r, w1) ∧ f_X12_spell a w1 = some (r, w2) ∧ keepM txK (fun j => j = 28) w w2 := by
  have h16 := hg.1.2
  by_cases ha : (-1) ≤ a
  · obtain ⟨S, hS, eS⟩ := act_v hA (p := 19) (by decide) (by decide)
    obtain ⟨w1, h1, h2⟩ := x_spell hG h16 hA.1 eS hS hx hk ha
    have e := h2.m44
    have hM1 : GM w1 n T iv := GM_cong hM (by rw [e 44 (by decide)]) (e 47 (by decide)) (e 48 (by decide)) (e 49 (by decide))
    obtain ⟨w2, g1, g2⟩ := y_spell hM1 (fun k hk => by rw [e 67 (by decide)]; exact hW k hk) h16 (AM_cong hA.2.1 (e 54 (by decide)) (e 55 (by decide)) (by rw [e 44 (by decide)])) eS hS (FCy_cong hy (by rw [e 44 (by decide)]) (e 45 (by decide)) (e 46 (by decide))) hk ha
    exact ⟨_, w1, w2, h1, g1, txD_of h2 g2⟩
  · exact ⟨-1, w, w, by unfold f_X11_spell; rw [if_neg ha], by unfold f_X12_spell; rw [if_neg ha], fun _ _ _ => rfl, fun _ _ => rfl, rfl⟩
end TELL
