/-! acts: both sides at once -/
theorem rng_ind {σ : Type} {g : Nat → σ → σ} (I : Nat → σ → Prop) : ∀ k i s, I i s → (∀ j s, i ≤ j → j < i + k → I j s → I (j + 1) (g j s)) → I (i + k) (rng g i k s) := by
  intro k
  induction k with
  | zero => intro i s h _; exact h
  | succ k ih =>
    intro i s h hs
    have := ih (i + 1) (g i s) (hs i s (Nat.le_refl _) (by omega) h) (fun j s h1 h2 h3 => hs j s (by omega) (by omega) h3)
    rw [show i + (k + 1) = i + 1 + k by omega]
    exact this
theorem upd_same {v : Nat → Int32} {p : Nat} {y : Int32} (h : v p = y) : upd v p y = v := by
  funext k; simp only [upd]; split <;> simp_all
theorem nI_ne1 {S : Nat} (h : S < 2 ^ 31) : ¬ nI S = (-1) := by
  intro e
  have := nI_pos h
  rw [e] at this
  exact this (by decide)
def pok (n p : Nat) (y : Int32) : Prop := (16 ≤ p → ∃ S, S < 2 ^ n ∧ y = nI S) ∧ (p < 16 → ∃ x, x ≤ 9 ∧ y = nI x)
def ACT (n : Nat) (w : Wd) (v : Nat → Int32) (H : List (Nat × Int32)) : Prop := AX w v H ∧ AM w v H ∧ (∀ p, p < 20 → pok n p (v p)) ∧ ∀ q, q ∈ H → q.1 < 20 ∧ pok n q.1 q.2
theorem AX_cong {w w' : Wd} {v : Nat → Int32} {H : List (Nat × Int32)} (h : AX w v H) (e1 : w'.1 37 = w.1 37) (e2 : w'.1 38 = w.1 38) (e3 : w'.1 39 = w.1 39) (e4 : w'.1 40 = w.1 40) : AX w' v H := by
  unfold AX at *
  rw [e1, e2, e3, e4]; exact h
theorem AM_cong {w w' : Wd} {v : Nat → Int32} {H : List (Nat × Int32)} (h : AM w v H) (e1 : w'.1 54 = w.1 54) (e2 : w'.1 55 = w.1 55) (e3 : w'.1 44 15 = w.1 44 15) : AM w' v H := by
  unfold AM at *
  rw [e1, e2, e3]; exact h
def hst (v : Nat → Int32) (p : Nat) (y : Int32) (H : List (Nat × Int32)) : List (Nat × Int32) := if v p = y then H else ((p, v p) :: H).take 12
theorem x_chg {w : Wd} {v : Nat → Int32} {H : List (Nat × Int32)} (h : AX w v H) {p : Nat} (hp : p < 20) (y : Int32) : ∃ w', f_X0_change (nI p) y w = some (if v p = y then 0 else 1, w') ∧ AX w' (upd v p y) (hst v p y H) ∧ (∀ k, k ≠ 37 → k ≠ 38 → k ≠ 39 → k ≠ 40 → w'.1 k = w.1 k) ∧ w'.2 = w.2 := by
  by_cases he : v p = y
  · refine ⟨w, ?_, ?_, fun _ _ _ _ _ => rfl, rfl⟩
    · rw [if_pos he]; exact x_change0 h hp he
    · rw [upd_same he]; unfold hst; rw [if_pos he]; exact h
  · obtain ⟨w', h1, h2, h3, h4⟩ := x_change1 h hp he
    exact ⟨w', by rw [if_neg he]; exact h1, by unfold hst; rw [if_neg he]; exact h2, h3, h4⟩
theorem y_chg {w : Wd} {v : Nat → Int32} {H : List (Nat × Int32)} (h : AM w v H) {p : Nat} (hp : p < 20) (y : Int32) : ∃ w', f_X12_changes (nI (sg p)) y w = some (if v p = y then (-1) else v p, w') ∧ AM w' (upd v p y) (hst v p y H) ∧ keepM (fun k => k = 54 ∨ k = 55) (fun j => j = 15) w w' := by
  by_cases he : v p = y
  · refine ⟨w, ?_, ?_, fun _ _ _ => rfl, fun _ _ => rfl, rfl⟩
    · rw [if_pos he]; exact y_changes0 h hp he
    · rw [upd_same he]; unfold hst; rw [if_pos he]; exact h
  · obtain ⟨w', h1, h2, h3⟩ := y_changes1 h hp he
    exact ⟨w', by rw [if_neg he]; exact h1, by unfold hst; rw [if_neg he]; exact h2, h3⟩
theorem hst_ok {n : Nat} {v : Nat → Int32} {H : List (Nat × Int32)} (hv : ∀ p, p < 20 → pok n p (v p)) (hH : ∀ q, q ∈ H → q.1 < 20 ∧ pok n q.1 q.2) {p : Nat} (hp : p < 20) {y : Int32} (hy : pok n p y) : (∀ p', p' < 20 → pok n p' (upd v p y p')) ∧ ∀ q, q ∈ hst v p y H → q.1 < 20 ∧ pok n q.1 q.2 := by
  constructor
  · intro p' hp'
    simp only [upd]
    split
    next e => rw [e]; exact hy
    next => exact hv p' hp'
  · intro q hq
    unfold hst at hq
    split at hq
    · exact hH q hq
    · rcases List.mem_cons.mp (List.mem_of_mem_take hq) with rfl | h
      · exact ⟨hp, hv p hp⟩
      · exact hH q h
def aK (k : Nat) : Prop := k = 37 ∨ k = 38 ∨ k = 39 ∨ k = 40 ∨ k = 43 ∨ k = 54 ∨ k = 55 ∨ k = 56
def aJ (j : Nat) : Prop := j = 15
def actD (n : Nat) (w w2 : Wd) : Prop := (∃ v' H', ACT n w2 v' H') ∧ keepM aK aJ w w2
theorem actD_rfl {n : Nat} {w : Wd} {v : Nat → Int32} {H : List (Nat × Int32)} (h : ACT n w v H) : actD n w w := ⟨⟨v, H, h⟩, fun _ _ _ => rfl, fun _ _ => rfl, rfl⟩
/-- the class changes a value over wa, the reference over wb: what stands then -/
theorem act_both {n : Nat} {w wa : Wd} {v : Nat → Int32} {H : List (Nat × Int32)} (hA : ACT n w v H) {p : Nat} (hp : p < 20) {y : Int32} (hy : pok n p y) (ka : ∀ k, k ≠ 43 → wa.1 k = w.1 k) (ka2 : wa.2 = w.2) :
    ∃ w1, f_X0_change (nI p) y wa = some (if v p = y then 0 else 1, w1) ∧ (∀ k, k ≠ 37 → k ≠ 38 → k ≠ 39 → k ≠ 40 → k ≠ 43 → w1.1 k = w.1 k) ∧ w1.2 = w.2 ∧
    ∀ wb : Wd, (∀ k, k ≠ 56 → wb.1 k = w1.1 k) → wb.2 = w1.2 → ∃ w2, f_X12_changes (nI (sg p)) y wb = some (if v p = y then (-1) else v p, w2) ∧ actD n w w2 ∧ (∀ q, q < 20 → w2.1 54 q = upd v p y (gs q)) := by
  obtain ⟨a1, a2, a3, a4⟩ := hA
  obtain ⟨w1, h1, h2, h3, h4⟩ := x_chg (AX_cong a1 (ka 37 (by decide)) (ka 38 (by decide)) (ka 39 (by decide)) (ka 40 (by decide))) hp y
  have k1 : ∀ k, k ≠ 37 → k ≠ 38 → k ≠ 39 → k ≠ 40 → k ≠ 43 → w1.1 k = w.1 k := fun k b1 b2 b3 b4 b5 => (h3 k b1 b2 b3 b4).trans (ka k b5)
  refine ⟨w1, h1, k1, h4.trans ka2, ?_⟩
  intro wb kb kb2
  obtain ⟨w2, g1, g2, g3⟩ := y_chg (AM_cong a2 (w' := wb) ((kb 54 (by decide)).trans (k1 54 (by decide) (by decide) (by decide) (by decide) (by decide))) ((kb 55 (by decide)).trans (k1 55 (by decide) (by decide) (by decide) (by decide) (by decide))) (by rw [kb 44 (by decide), k1 44 (by decide) (by decide) (by decide) (by decide) (by decide)])) hp y
  have q3 : ∀ k, k = 37 ∨ k = 38 ∨ k = 39 ∨ k = 40 → w2.1 k = w1.1 k := fun k hk => (g3.1 k (by rintro (h | h) <;> omega) (by omega)).trans (kb k (by omega))
  have ok := hst_ok a3 a4 hp hy
  refine ⟨w2, g1, ⟨⟨upd v p y, hst v p y H, AX_cong h2 (q3 37 (by omega)) (q3 38 (by omega)) (q3 39 (by omega)) (q3 40 (by omega)), g2, ok.1, ok.2⟩, ?_, ?_, ?_⟩, g2.1⟩
  · intro k hk h44
    unfold aK at hk
    rw [g3.1 k (by rintro (h | h) <;> omega) h44, kb k (by omega), k1 k (by omega) (by omega) (by omega) (by omega) (by omega)]
  · intro j hj
    rw [g3.2.1 j hj, kb 44 (by decide), k1 44 (by decide) (by decide) (by decide) (by decide) (by decide)]
  · rw [g3.2.2, kb2, h4, ka2]
theorem act_v {n : Nat} {w : Wd} {v : Nat → Int32} {H : List (Nat × Int32)} (hA : ACT n w v H) {p : Nat} (h1 : 16 ≤ p) (h2 : p < 20) : ∃ S, S < 2 ^ n ∧ v p = nI S := (hA.2.2.1 p h2).1 h1
theorem x_set {w : Wd} {v : Nat → Int32} {H : List (Nat × Int32)} (h : AX w v H) : f_X0_set w = some (v 19) := by
  unfold f_X0_set
  show rdI w 38 20 (nI 19) _ = _
  rw [m_rd (by decide) (by decide), h.1 19 (by decide)]
theorem x_val {w : Wd} {v : Nat → Int32} {H : List (Nat × Int32)} (h : AX w v H) {p : Nat} (hp : p < 20) : f_X0_valueAt (nI p) w = some (v p) := by
  unfold f_X0_valueAt
  rw [if_neg (nI_pos (by omega)), if_neg (show ¬ (20 : Int32) ≤ nI p from nI_ge (b := 20) hp (by decide)), m_rd hp (by decide), h.1 p hp]
theorem y_row {w : Wd} {v : Nat → Int32} {H : List (Nat × Int32)} (h : AM w v H) {q : Nat} (hq : q < 20) {β : Type} (f : Int32 → Option β) : rdI w 54 20 (nI q) f = f (v (gs q)) := by
  rw [m_rd hq (by decide), h.1 q hq]
theorem y_row0 {w : Wd} {v : Nat → Int32} {H : List (Nat × Int32)} (h : AM w v H) {β : Type} (f : Int32 → Option β) : rdI w 54 20 0 f = f (v 19) := y_row h (q := 0) (by decide) f
theorem isE_cong {w w' : Wd} (h : w'.1 44 1 = w.1 44 1) (a : Int32) : f_X12_isElement a w' = f_X12_isElement a w := by unfold f_X12_isElement; rw [h]
theorem isS_cong {w w' : Wd} (h : w'.1 44 1 = w.1 44 1) (a : Int32) : f_X12_isSet a w' = f_X12_isSet a w := by unfold f_X12_isSet f_X12_all; rw [h]
section ACTS
variable {w : Wd} {n : Nat} {T : Nat → Nat → Nat} {iv : Nat → Nat} {v : Nat → Int32} {H : List (Nat × Int32)}
theorem pok_set {n p S : Nat} (h : 16 ≤ p) (hS : S < 2 ^ n) : pok n p (nI S) := ⟨fun _ => ⟨S, hS, rfl⟩, fun q => by omega⟩
/-- what most acts end with -/
theorem mvt (hA : ACT n w v H) (hn : n ≤ 16) {R : Nat} (hR : R < 2 ^ n) : ∃ r w1, f_X11_moveTo (nI R) w = some (r, w1) ∧ (∀ k, k ≠ 37 → k ≠ 38 → k ≠ 39 → k ≠ 40 → k ≠ 43 → w1.1 k = w.1 k) ∧ w1.2 = w.2 ∧ ∃ w2, bnd2 (f_X12_changes 0 (nI R) w1) (fun x w2 => if x = (-1) then some ((-1), w2) else some (nI R, w2)) = some (r, w2) ∧ actD n w w2 := by
  obtain ⟨S, hS, eS⟩ := act_v hA (p := 19) (by decide) (by decide)
  obtain ⟨w1, h1, h2, h3, h4⟩ := act_both hA (p := 19) (by decide) (pok_set (by decide) hR) (fun _ _ => rfl) rfl
  obtain ⟨w2, g1, g2, -⟩ := h4 w1 (fun _ _ => rfl) rfl
  have h31 := lt31 (le16 hS hn)
  by_cases c : v 19 = nI R
  · rw [if_pos c] at h1 g1
    exact ⟨-1, w1, by unfold f_X11_moveTo; show bnd2 (f_X0_change (nI 19) (nI R) w) _ = _; rw [h1, bnd2_some, if_pos rfl], h2, h3, w2, by show bnd2 (f_X12_changes (nI (sg 19)) (nI R) w1) _ = _; rw [g1, bnd2_some, if_pos rfl], g2⟩
  · rw [if_neg c] at h1 g1
    exact ⟨nI R, w1, by unfold f_X11_moveTo; show bnd2 (f_X0_change (nI 19) (nI R) w) _ = _; rw [h1, bnd2_some, if_neg one_ne], h2, h3, w2, by show bnd2 (f_X12_changes (nI (sg 19)) (nI R) w1) _ = _; rw [g1, bnd2_some, eS, if_neg (nI_ne1 h31)], g2⟩
theorem GM_of (hM : GM w n T iv) {w1 : Wd} (h : ∀ k, k ≠ 37 → k ≠ 38 → k ≠ 39 → k ≠ 40 → k ≠ 43 → w1.1 k = w.1 k) : GM w1 n T iv ∧ w1.1 44 = w.1 44 ∧ w1.1 54 = w.1 54 ∧ w1.1 55 = w.1 55 := by
  have e := fun k (q : 44 ≤ k) => h k (by omega) (by omega) (by omega) (by omega) (by omega)
  exact ⟨GM_cong hM (by rw [e 44 (by decide)]) (e 47 (by decide)) (e 48 (by decide)) (e 49 (by decide)), e 44 (by decide), e 54 (by decide), e 55 (by decide)⟩
theorem c_shift (hG : GX w n T iv) (hM : GM w n T iv) (hg : Gp n T iv) (hA : ACT n w v H) (a l : Int32) : ∃ r w1 w2, f_X11_shift a l w = some (r, w1) ∧ f_X12_shift a l w1 = some (r, w2) ∧ actD n w w2 := by
  have h16 := hg.1.2
  unfold f_X11_shift f_X12_shift
  rcases elem_or hG hM hg a with ⟨g, hgn, rfl, e1, e2⟩ | ⟨e1, e2⟩
  · obtain ⟨S, hS, eS⟩ := act_v hA (p := 19) (by decide) (by decide)
    have hS6 := le16 hS h16
    obtain ⟨r, w1, h1, h2, h3, w2, h4, h5⟩ := mvt hA h16 (mv_lt hg (S := S) (left := decide (l ≠ 0)) hgn)
    obtain ⟨hM1, e44, e54, e55⟩ := GM_of hM h2
    have hY := AM_cong hA.2.1 e54 e55 (by rw [e44])
    refine ⟨r, w1, w2, ?_, ?_, h5⟩
    · rw [e1, if_neg one_ne, x_set hA.1, bnd_some, eS, x_moved hG hg hgn hS6, bnd_some, h1, bnd2_some]
    · rw [isE_cong (w := w) (by rw [e44]), e2, if_neg one_ne, y_row0 hY, eS, y_shifted hM1 hg hgn hS6, bnd_some]
      exact h4
  · exact ⟨-1, w, w, by simp only [e1, ↓reduceIte], by simp only [e2, ↓reduceIte], actD_rfl hA⟩
theorem c_invert (hG : GX w n T iv) (hM : GM w n T iv) (hg : Gp n T iv) (hA : ACT n w v H) : ∃ r w1 w2, f_X11_invert w = some (r, w1) ∧ f_X12_invert w1 = some (r, w2) ∧ actD n w w2 := by
  have h16 := hg.1.2
  unfold f_X11_invert f_X12_invert
  obtain ⟨S, hS, eS⟩ := act_v hA (p := 19) (by decide) (by decide)
  have hS6 := le16 hS h16
  obtain ⟨r, w1, h1, h2, h3, w2, h4, h5⟩ := mvt hA h16 (ivs_lt hg (S := S))
  obtain ⟨hM1, e44, e54, e55⟩ := GM_of hM h2
  have hY := AM_cong hA.2.1 e54 e55 (by rw [e44])
  refine ⟨r, w1, w2, ?_, ?_, h5⟩
  · rw [x_set hA.1, bnd_some, eS, x_ivs hG hg hS6, bnd_some, h1, bnd2_some]
  · rw [y_row0 hY, eS, y_ivs hM1 hg hS6, bnd_some]
    exact h4
theorem cjs_lt (hg : Gp n T iv) {g S : Nat} (h : g < n) : cjs n T iv g S < 2 ^ n := by
  apply lt_two
  intro x hx
  obtain ⟨e, he, -, rfl⟩ := cjs_bit.mp hx
  exact cj_lt hg h he
theorem c_turn (hG : GX w n T iv) (hM : GM w n T iv) (hg : Gp n T iv) (hA : ACT n w v H) (a : Int32) : ∃ r w1 w2, f_X11_turn a w = some (r, w1) ∧ f_X12_turn a w1 = some (r, w2) ∧ actD n w w2 := by
  have h16 := hg.1.2
  unfold f_X11_turn f_X12_turn
  rcases elem_or hG hM hg a with ⟨g, hgn, rfl, e1, e2⟩ | ⟨e1, e2⟩
  · obtain ⟨S, hS, eS⟩ := act_v hA (p := 19) (by decide) (by decide)
    have hS6 := le16 hS h16
    obtain ⟨r, w1, h1, h2, h3, w2, h4, h5⟩ := mvt hA h16 (cjs_lt hg (S := S) hgn)
    obtain ⟨hM1, e44, e54, e55⟩ := GM_of hM h2
    have hY := AM_cong hA.2.1 e54 e55 (by rw [e44])
    refine ⟨r, w1, w2, ?_, ?_, h5⟩
    · rw [e1, if_neg one_ne, x_set hA.1, bnd_some, eS, x_conj hG hg hgn hS6, bnd_some, h1, bnd2_some]
    · rw [isE_cong (w := w) (by rw [e44]), e2, if_neg one_ne]
      have key := lup (fun f i (acc : Nat) => f_X12_turn_L14 f (nI g) (nI acc) (nI i) w1) n (fun e acc => acc ||| (if S.testBit e then 2 ^ cj T iv g e else 0)) (fun acc => bnd2 (f_X12_changes 0 (nI acc) w1) (fun x w2 => if x = (-1) then some ((-1), w2) else some (nI acc, w2))) (fun _ _ => True) ?_ (fun _ _ _ _ => trivial) ?_ n 0 0 FU (by omega) (FU_big (by omega)) trivial
      · exact key.1.trans h4
      · intro f i acc hi _
        show f_X12_turn_B14b (f_X12_turn_L14 f) (nI g) (nI acc) (nI i) w1 = _
        unfold f_X12_turn_B14b
        rw [hM1.1, if_neg (nI_ge hi (by omega)), y_row0 hY, eS]
        by_cases hb : S.testBit i = true
        · rw [if_neg (by rw [y_has0 (lt31 hS6) (by omega), hb]; decide), y_conj hM1 hg hgn hi, bnd_some, m_shl1 (by have := cj_lt hg hgn hi; omega), m_or, nI_1, if_pos hb]
        · rw [if_pos (by rw [y_has0 (lt31 hS6) (by omega)]; simpa using hb), nI_1, if_neg hb, Nat.or_zero]
      · intro f acc _
        show f_X12_turn_B14b (f_X12_turn_L14 f) (nI g) (nI acc) (nI n) w1 = _
        unfold f_X12_turn_B14b
        rw [hM1.1, if_pos (nI_le (Nat.le_refl _) (by omega))]
  · exact ⟨-1, w, w, by simp only [e1, ↓reduceIte], by simp only [e2, ↓reduceIte], actD_rfl hA⟩
theorem shelf_or (a : Int32) : (∃ k, k < 3 ∧ a = nI k ∧ f_X11_isShelf a = 1 ∧ f_X12_in a 0 2 = 1) ∨ (f_X11_isShelf a = 0 ∧ f_X12_in a 0 2 = 0) := by
  unfold f_X11_isShelf f_X12_in
  rcases tri_or a (lo := 0) (hi := 2) (by decide) (by decide) with ⟨j, -, h2, rfl⟩ | h | ⟨h1, h2, h3, h4, h5⟩
  · refine Or.inl ⟨j, by omega, rfl, ?_, ?_⟩
    · rw [if_neg (nI_pos (by omega)), if_neg (show ¬ (3 : Int32) ≤ nI j from nI_ge (b := 3) (by omega) (by decide))]
    · rw [if_neg (nI_pos (by omega)), if_neg (show ¬ (2 : Int32) < nI j from nI_nlt (a := 2) (by omega) (by omega))]
  · have h : a < 0 := h
    exact Or.inr ⟨by rw [if_pos h], by rw [if_pos h]⟩
  · have h2 : (2 : Int32) < a := h2
    have h3 : (3 : Int32) ≤ a := h3
    exact Or.inr ⟨by rw [if_neg h5, if_pos h3], by rw [if_neg h5, if_pos h2]⟩
theorem c_take (hG : GX w n T iv) (hM : GM w n T iv) (hg : Gp n T iv) (hA : ACT n w v H) (a : Int32) : ∃ r w1 w2, f_X11_take a w = some (r, w1) ∧ f_X12_take a w1 = some (r, w2) ∧ actD n w w2 := by
  have h16 := hg.1.2
  unfold f_X11_take f_X12_take
  rcases shelf_or a with ⟨k, hk, rfl, e1, e2⟩ | ⟨e1, e2⟩
  · obtain ⟨S, hS, eS⟩ := act_v hA (p := 19) (by decide) (by decide)
    obtain ⟨R, hR, eR⟩ := act_v hA (p := 16 + k) (by omega) (by omega)
    obtain ⟨w1, h1, h2, h3, h4⟩ := act_both hA (p := 19) (by decide) (pok_set (by decide) hR) (fun _ _ => rfl) rfl
    obtain ⟨w2, g1, g2, g3⟩ := h4 w1 (fun _ _ => rfl) rfl
    obtain ⟨hM1, e44, e54, e55⟩ := GM_of hM h2
    have hY := AM_cong hA.2.1 e54 e55 (by rw [e44])
    have h31 := lt31 (le16 hS h16)
    have ex : f_X0_valueAt (16 + nI k) w = some (nI R) := by
      rw [show (16 : Int32) + nI k = nI (16 + k) from nI_add 16 k, x_val hA.1 (by omega), eR]
    have egs : gs (1 + k) = 16 + k := by unfold gs; rw [if_neg (by omega), if_pos (by omega)]; omega
    have ey : ∀ {β : Type} (f : Int32 → Option β), rdI w1 54 20 (1 + nI k) f = f (nI R) := fun f => by
      rw [show (1 : Int32) + nI k = nI (1 + k) from nI_add 1 k, y_row hY (by omega), egs, eR]
    have ch : ∀ {β : Type} (f : Int32 → Wd → Option β), bnd2 (f_X12_changes 0 (nI R) w1) f = f (if v 19 = nI R then (-1) else v 19) w2 := fun f => by
      show bnd2 (f_X12_changes (nI (sg 19)) (nI R) w1) f = _
      rw [g1]; rfl
    have cx : ∀ {β : Type} (f : Int32 → Wd → Option β), bnd2 (f_X0_change 19 (nI R) w) f = f (if v 19 = nI R then 0 else 1) w1 := fun f => by
      show bnd2 (f_X0_change (nI 19) (nI R) w) f = _
      rw [h1]; rfl
    have r0 : ∀ {β : Type} (f : Int32 → Option β), rdI w2 54 20 0 f = f (nI R) := fun f => by
      show rdI w2 54 20 (nI 0) f = _
      rw [m_rd (by decide) (by decide), g3 0 (by decide)]
      rfl
    refine ⟨if v 19 = nI R then (-1) else nI R, w1, w2, ?_, ?_, g2⟩
    · rw [e1, if_neg one_ne, ex, bnd_some]
      unfold f_X11_moveTo
      rw [cx]
      by_cases c : v 19 = nI R
      · simp only [c, ↓reduceIte, bnd2_some]
      · simp only [c, ↓reduceIte, one_ne, bnd2_some]
    · rw [e2, if_neg one_ne, ey, ch]
      by_cases c : v 19 = nI R
      · simp only [c, ↓reduceIte]
      · rw [if_neg c, if_neg c, eS, if_neg (nI_ne1 h31), r0]
  · exact ⟨-1, w, w, by simp only [e1, ↓reduceIte], by simp only [e2, ↓reduceIte], actD_rfl hA⟩
theorem c_keep (hG : GX w n T iv) (hM : GM w n T iv) (hg : Gp n T iv) (hA : ACT n w v H) (a : Int32) : ∃ r w1 w2, f_X11_keep a w = some (r, w1) ∧ f_X12_keep a w1 = some (r, w2) ∧ actD n w w2 := by
  have h16 := hg.1.2
  unfold f_X11_keep f_X12_keep
  rcases shelf_or a with ⟨k, hk, rfl, e1, e2⟩ | ⟨e1, e2⟩
  · obtain ⟨S, hS, eS⟩ := act_v hA (p := 19) (by decide) (by decide)
    obtain ⟨w1, h1, h2, h3, h4⟩ := act_both hA (p := 16 + k) (by omega) (pok_set (by omega) hS) (fun _ _ => rfl) rfl
    obtain ⟨w2, g1, g2, g3⟩ := h4 w1 (fun _ _ => rfl) rfl
    obtain ⟨hM1, e44, e54, e55⟩ := GM_of hM h2
    have hY := AM_cong hA.2.1 e54 e55 (by rw [e44])
    have esg : sg (16 + k) = 1 + k := by unfold sg; rw [if_neg (by omega), if_pos (by omega)]; omega
    rw [esg] at g1
    refine ⟨if v (16 + k) = nI S then (-1) else v (16 + k), w1, w2, ?_, ?_, g2⟩
    · rw [e1, if_neg one_ne, show (16 : Int32) + nI k = nI (16 + k) from nI_add 16 k, x_val hA.1 (by omega), bnd_some, x_set hA.1, bnd_some, eS, h1, bnd2_some]
      by_cases c : v (16 + k) = nI S
      · simp only [c, ↓reduceIte]
      · simp only [c, ↓reduceIte, one_ne]
    · rw [e2, if_neg one_ne, y_row0 hY, eS, show (1 : Int32) + nI k = nI (1 + k) from nI_add 1 k, g1, bnd2_some]
  · exact ⟨-1, w, w, by simp only [e1, ↓reduceIte], by simp only [e2, ↓reduceIte], actD_rfl hA⟩
theorem c_weigh (hG : GX w n T iv) (hM : GM w n T iv) (hg : Gp n T iv) (hA : ACT n w v H) (a b : Int32) : ∃ r w1 w2, f_X11_weigh a b w = some (r, w1) ∧ f_X12_weigh a b w1 = some (r, w2) ∧ actD n w w2 := by
  have h16 := hg.1.2
  unfold f_X11_weigh f_X12_weigh
  rcases elem_or hG hM hg a with ⟨e, he, rfl, e1, e2⟩ | ⟨e1, e2⟩
  · rcases tri_or b (lo := 0) (hi := 9) (by decide) (by decide) with ⟨j, -, hj, rfl⟩ | h | ⟨q1, q2, q3, q4, q5⟩
    · obtain ⟨w1, h1, h2, h3, h4⟩ := act_both hA (p := e) (by omega) (y := nI j) ⟨fun q => by omega, fun _ => ⟨j, hj, rfl⟩⟩ (fun _ _ => rfl) rfl
      obtain ⟨w2, g1, g2, g3⟩ := h4 w1 (fun _ _ => rfl) rfl
      obtain ⟨hM1, e44, e54, e55⟩ := GM_of hM h2
      have esg : sg e = 4 + e := by unfold sg; rw [if_pos (by omega)]; omega
      rw [esg] at g1
      have c1 : f_X12_in (nI j) 0 9 = 1 := by
        unfold f_X12_in
        rw [if_neg (nI_pos (by omega)), if_neg (show ¬ (9 : Int32) < nI j from nI_nlt (a := 9) (by omega) (by omega))]
      refine ⟨if v e = nI j then (-1) else v e, w1, w2, ?_, ?_, g2⟩
      · rw [e1, if_neg one_ne, if_neg (nI_pos (by omega)), if_pos (show nI j ≤ (9 : Int32) from nI_le hj (by decide)), x_val hA.1 (by omega), bnd_some, h1, bnd2_some]
        by_cases c : v e = nI j
        · simp only [c, ↓reduceIte]
        · simp only [c, ↓reduceIte, one_ne]
      · rw [isE_cong (w := w) (by rw [e44]), e2, if_neg one_ne, c1, if_neg one_ne, show (4 : Int32) + nI e = nI (4 + e) from nI_add 4 e, g1, bnd2_some]
    · have h : b < 0 := h
      have c1 : f_X12_in b 0 9 = 0 := by unfold f_X12_in; rw [if_pos h]
      exact ⟨-1, w, w, by rw [e1, if_neg one_ne, if_pos h], by rw [e2, if_neg one_ne, c1, if_pos rfl], actD_rfl hA⟩
    · have q2 : (9 : Int32) < b := q2
      have q4 : ¬ b ≤ 9 := q4
      have c1 : f_X12_in b 0 9 = 0 := by unfold f_X12_in; rw [if_neg q5, if_pos q2]
      exact ⟨-1, w, w, by rw [e1, if_neg one_ne, if_neg q5, if_neg q4], by rw [e2, if_neg one_ne, c1, if_pos rfl], actD_rfl hA⟩
  · exact ⟨-1, w, w, by simp only [e1, ↓reduceIte], by simp only [e2, ↓reduceIte], actD_rfl hA⟩
theorem c_become (hG : GX w n T iv) (hM : GM w n T iv) (hg : Gp n T iv) (hA : ACT n w v H) (a : Int32) : ∃ r w1 w2, f_X11_become a w = some (r, w1) ∧ f_X12_become a w1 = some (r, w2) ∧ actD n w w2 := by
  have h16 := hg.1.2
  unfold f_X11_become f_X12_become
  rw [x_set hA.1, bnd_some]
  rcases set_or hG hM hg a with ⟨S, hS, rfl, e1, e2⟩ | ⟨e1, e2⟩
  · obtain ⟨w1, h1, h2, h3, h4⟩ := act_both hA (p := 19) (by omega) (pok_set (by omega) hS) (fun _ _ => rfl) rfl
    obtain ⟨w2, g1, g2, g3⟩ := h4 w1 (fun _ _ => rfl) rfl
    obtain ⟨hM1, e44, e54, e55⟩ := GM_of hM h2
    refine ⟨if v 19 = nI S then (-1) else v 19, w1, w2, ?_, ?_, g2⟩
    · rw [e1, if_neg one_ne]
      show bnd2 (f_X0_change (nI 19) (nI S) w) _ = _
      rw [h1, bnd2_some]
      by_cases c : v 19 = nI S
      · simp only [c, ↓reduceIte]
      · simp only [c, ↓reduceIte, one_ne]
    · rw [isS_cong (w := w) (by rw [e44]), e2, if_neg one_ne]
      show bnd2 (f_X12_changes (nI (sg 19)) (nI S) w1) _ = _
      rw [g1, bnd2_some]
  · exact ⟨-1, w, w, by simp only [e1, ↓reduceIte], by simp only [e2, ↓reduceIte], actD_rfl hA⟩
theorem bz_or (a : Int32) : bz a = 0 ∨ bz a = 1 := by unfold bz; split <;> simp
theorem xor_two (S e : Nat) : S ^^^ 2 ^ e = if S.testBit e then S ^^^ (S &&& 2 ^ e) else S ||| 2 ^ e := by
  apply ext_bit
  intro x
  by_cases c : S.testBit e = true
  · rw [if_pos c, dif_bit, Nat.testBit_xor, Nat.testBit_two_pow]
    by_cases q : e = x
    · subst q; simp [c]
    · simp [q]
  · rw [if_neg c, Nat.testBit_xor, Nat.testBit_or, Nat.testBit_two_pow]
    by_cases q : e = x
    · subst q; simp [c]
    · simp [q]
theorem or_in {S e : Nat} (h : S.testBit e = true) : S ||| 2 ^ e = S := by
  apply ext_bit; intro x; rw [sb_or]
  exact ⟨fun q => q.elim id (fun r => r ▸ h), Or.inl⟩
theorem dif_out {S e : Nat} (h : S.testBit e = false) : S ^^^ (S &&& 2 ^ e) = S := by
  apply ext_bit; intro x; rw [dif_bit, Nat.testBit_two_pow]
  constructor
  · exact fun q => q.1
  · intro q
    refine ⟨q, ?_⟩
    simp only [decide_eq_false_iff_not]
    intro r; subst r; rw [h] at q; cases q
theorem dif_lt {S R n : Nat} (h : S < 2 ^ n) : S ^^^ (S &&& R) < 2 ^ n := lt_two (fun x hx => bit_lt h ((dif_bit _ _ _).mp hx).1)
theorem c_put (hG : GX w n T iv) (hM : GM w n T iv) (hg : Gp n T iv) (hA : ACT n w v H) (a b : Int32) : ∃ r w1 w2, f_X11_put a (bz b) w = some (r, w1) ∧ f_X12_put a (bz b) w1 = some (r, w2) ∧ actD n w w2 := by
  have h16 := hg.1.2
  unfold f_X11_put f_X12_put
  rcases elem_or hG hM hg a with ⟨e, he, rfl, e1, e2⟩ | ⟨e1, e2⟩
  · obtain ⟨S, hS, eS⟩ := act_v hA (p := 19) (by decide) (by decide)
    have h31 := lt31 (le16 hS h16)
    obtain ⟨R, hRd⟩ : ∃ R, R = if bz b = 0 then S ^^^ (S &&& 2 ^ e) else S ||| 2 ^ e := ⟨_, rfl⟩
    have hR : R < 2 ^ n := by
      rw [hRd]; split
      · exact dif_lt hS
      · exact or2_lt hS he
    obtain ⟨w1, h1, h2, h3, h4⟩ := act_both hA (p := 19) (by omega) (pok_set (by omega) hR) (fun _ _ => rfl) rfl
    obtain ⟨w2, g1, g2, g3⟩ := h4 w1 (fun _ _ => rfl) rfl
    obtain ⟨hM1, e44, e54, e55⟩ := GM_of hM h2
    have hY := AM_cong hA.2.1 e54 e55 (by rw [e44])
    have e2' : f_X12_isElement (nI e) w1 = 1 := by rw [isE_cong (w := w) (by rw [e44]), e2]
    have eqS : (v 19 = nI R) ↔ S = R := by rw [eS]; exact m_inj h31 (lt31 (le16 hR h16))
    have cx : ∀ {β : Type} (f : Int32 → Wd → Option β), bnd2 (f_X0_change 19 (nI R) w) f = f (if S = R then 0 else 1) w1 := fun f => by
      show bnd2 (f_X0_change (nI 19) (nI R) w) f = _
      rw [h1]
      simp only [eqS, bnd2_some]
    have hch : ∀ x : Option (Int32 × Wd), chB (if S = R then 0 else 1) x = x := fun x => by unfold chB; rw [if_pos]; split <;> simp
    have ex : (if S = R then w1 else w1) = w1 := by split <;> rfl
    have X : ∃ q : Option (Int32 × Wd), q = some (if S = R then 0 else 1, w1) ∧ (if bz b = 0 then bnd (f_X0_set w) fun x1 => bnd2 (f_X0_change 19 (x1 &&& ((1 <<< (nI e &&& 31)) ^^^ (-1))) w) fun x2 w3 => chB x2 <| some (x2, w3) else bnd (f_X0_set w) fun x4 => bnd2 (f_X0_change 19 (x4 ||| (1 <<< (nI e &&& 31))) w) fun x5 w6 => chB x5 <| some (x5, w6)) = q := by
      refine ⟨_, rfl, ?_⟩
      rw [x_set hA.1]
      simp only [bnd_some]
      rw [eS, m_shl1 (by omega), m_compl h31, m_or]
      rcases bz_or b with q | q
      · rw [q, if_pos rfl] at hRd ⊢
        rw [← hRd, cx, hch]
      · rw [q, if_neg one_ne] at hRd ⊢
        rw [← hRd, cx, hch]
    obtain ⟨q, hq1, hq2⟩ := X
    refine ⟨if S = R then 0 else 1, w1, w2, ?_, ?_, g2⟩
    · rw [e1, if_neg one_ne, hq2, hq1]
    · have hc : (f_X12_has (nI S) (nI e) = bz b) ↔ S = R := by
        rw [y_has h31 (by omega)]
        rcases bz_or b with q | q <;> rw [q] at hRd ⊢
        · rw [if_pos rfl] at hRd
          cases hb : S.testBit e with
          | true =>
            have : R.testBit e = false := by
              cases hx : R.testBit e with
              | false => rfl
              | true => rw [hRd, dif_bit] at hx; simp at hx
            simp only [↓reduceIte, one_ne, false_iff]
            intro q; rw [q, this] at hb; cases hb
          | false =>
            rw [dif_out hb] at hRd
            simp [hRd]
        · rw [if_neg one_ne] at hRd
          cases hb : S.testBit e with
          | true => rw [or_in hb] at hRd; simp [hRd]
          | false =>
            have : R.testBit e = true := by rw [hRd, sb_or]; exact Or.inr rfl
            simp only [Bool.false_eq_true, ↓reduceIte]
            constructor
            · intro q; exact absurd q.symm one_ne
            · intro q; rw [q, this] at hb; cases hb
      rw [e2', if_neg one_ne, y_row0 hY, eS]
      by_cases c : S = R
      · rw [if_pos (hc.mpr c)]
        have e3 : w2 = w1 := by
          have : f_X12_changes (nI (sg 19)) (nI R) w1 = some (-1, w1) := y_changes0 hY (by decide) (eqS.mpr c)
          rw [this] at g1
          exact (Prod.mk.inj (Option.some.inj g1)).2.symm
        rw [e3]; simp only [c, ↓reduceIte]
      · rw [if_neg (fun q => c (hc.mp q)), y_row0 hY, eS, m_shl1 (by omega), m_xor]
        have : S ^^^ 2 ^ e = R := by
          rw [hRd, xor_two]
          rcases bz_or b with q | q
          · rw [q, if_pos rfl]
            split
            · rfl
            · next hb =>
              exfalso; apply c; rw [hRd, q, if_pos rfl, dif_out (by simpa using hb)]
          · rw [q, if_neg one_ne]
            split
            · next hb => exfalso; apply c; rw [hRd, q, if_neg one_ne, or_in hb]
            · rfl
        rw [this]
        show bnd2 (f_X12_changes (nI (sg 19)) (nI R) w1) _ = _
        rw [g1, bnd2_some, if_neg (fun q => c (eqS.mp q)), eS, if_neg (nI_ne1 h31), if_neg c]
  · exact ⟨0, w, w, by simp only [e1, ↓reduceIte], by simp only [e2, ↓reduceIte], actD_rfl hA⟩
theorem c_undo (hA : ACT n w v H) : ∃ r w1 w2, f_X11_undo w = some (r, w1) ∧ f_X12_undo w1 = some (r, w2) ∧ actD n w w2 := by
  obtain ⟨a1, a2, a3, a4⟩ := hA
  cases H with
  | nil => exact ⟨-1, w, w, x_undo0 a1, y_undo0 a2, actD_rfl ⟨a1, a2, a3, a4⟩⟩
  | cons q H =>
    obtain ⟨p, o⟩ := q
    obtain ⟨w1, h1, h2, h3, h4⟩ := x_undo1 a1
    obtain ⟨w2, g1, g2, g3⟩ := y_undo1 (AM_cong a2 (w' := w1) (h3 54 (by decide) (by decide)) (h3 55 (by decide) (by decide)) (by rw [h3 44 (by decide) (by decide)]))
    have ho := a4 (p, o) List.mem_cons_self
    refine ⟨_, w1, w2, h1, g1, ⟨upd v p o, H, AX_cong h2 (g3.1 37 (by decide) (by decide)) (g3.1 38 (by decide) (by decide)) (g3.1 39 (by decide) (by decide)) (g3.1 40 (by decide) (by decide)), g2, fun p' hp' => ?_, fun q hq => a4 q (List.mem_cons_of_mem _ hq)⟩, ?_, ?_, ?_⟩
    · simp only [upd]
      split
      next e => rw [e]; exact ho.2
      next => exact a3 p' hp'
    · intro k hk h44
      unfold aK at hk
      rw [g3.1 k (by omega) h44, h3 k (by omega) (by omega)]
    · intro j hj
      rw [g3.2.1 j hj, h3 44 (by decide) (by decide)]
    · rw [g3.2.2, h4]
end ACTS
