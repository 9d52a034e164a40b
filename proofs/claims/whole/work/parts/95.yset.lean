/-! the reference reads a set -/
section YSET
variable {w : Wd} {L : Nat} {B : Nat → Nat}
theorem avl_lt (hB : ∀ i, B i < 256) (s p : Nat) : avl B s p < 3000 := by
  have h1 := hB s
  have h2 := hB (s + 1)
  unfold avl
  split
  · omega
  · split <;> omega
theorem y_J80F {l : Int32} (h : ¬ w.1 44 36 = 0) : f_X12_readsOne_J80 l w = some (0, w) := by
  unfold f_X12_readsOne_J80
  rw [if_neg h]
theorem y_J80N {l : Int32} (h : w.1 44 36 = 0) (h3 : ¬ w.1 44 33 = 3) : f_X12_readsOne_J80 l w = some (if l = 0 then 1 else 0, sI w 44 36 1) := by
  unfold f_X12_readsOne_J80
  rw [if_pos h, if_neg h3, m_letW]
  split <;> rfl
theorem y_J80S {l : Int32} (ht : TPy w L B) (h : w.1 44 36 = 0) (h3 : w.1 44 33 = nI 3) {p : Nat} (hp : p ≤ L) (h2 : w.1 44 32 = nI p) : ∃ w', f_X12_readsOne_J80 l w = some (if l = 0 then 1 else 0, w') ∧ tkS w' B L false (runL (cB B) L p) ∧ kF w w' := by
  obtain ⟨w', g1, g2, g3⟩ := y_goesOn ht h2 h3 (by decide) hp
  have ha : adjB 3 p (runL (cB B) L p) = false := by unfold adjB; simp
  rw [ha] at g2
  refine ⟨w', ?_, g2, g3⟩
  unfold f_X12_readsOne_J80
  rw [if_pos h, if_pos (show w.1 44 33 = 3 from h3), g1, bnd_some]
  split <;> rfl
def sJ (j : Nat) : Prop := (32 ≤ j ∧ j ≤ 36) ∨ j = 41
def kS (w w' : Wd) : Prop := keepM (fun _ => False) sJ w w'
theorem kS.tr {a b c : Wd} (h : kS a b) (g : kS b c) : kS a c := ⟨fun k x y => (g.1 k x y).trans (h.1 k x y), fun j x => (g.2.1 j x).trans (h.2.1 j x), g.2.2.trans h.2.2⟩
theorem kS.rf (w : Wd) : kS w w := ⟨fun _ _ _ => rfl, fun _ _ => rfl, rfl⟩
theorem kF.s {a b : Wd} (h : kF a b) : kS a b := ⟨fun k x y => h.1 k x y, fun j x => h.2.1 j (fun z => x (by unfold fJ at z; unfold sJ; omega)), h.2.2⟩
theorem kS.st {w : Wd} {j : Nat} (hj : sJ j) (x : Int32) : kS w (sI w 44 j x) := ⟨fun k _ h44 => sI_row _ _ _ _ h44, fun i hi => by rw [sI_at, if_neg (show ¬ (44 = 44 ∧ i = j) from fun z => hi (z.2 ▸ hj))], rfl⟩
theorem kS.tp {w w' : Wd} (h : kS w w') (ht : TPy w L B) : TPy w' L B := TPy_cong ht (h.2.1 30 (by unfold sJ; omega)) (h.1 66 (fun z => z) (by decide))
def ysO (w' : Wd) (B : Nat → Nat) (L : Nat) : Nat ⊕ (Nat × Nat) → Prop
  | .inl p => ¬ w'.1 44 36 = 0 ∧ w'.1 44 34 = nI p
  | .inr (p, R) => w'.1 44 36 = 0 ∧ tkS w' B L false (runL (cB B) L p) ∧ w'.1 44 41 = nI R ∧ p ≤ L
theorem y_setL {n : Nat} (hn : 1 ≤ n) (hn16 : n ≤ 16) : ∀ f' i e k S (w : Wd) fu, TPy w L B → (k = 1 ∨ k = 2) → tkS w B L (adjB k e (runL (cB B) L e)) (runL (cB B) L e) → w.1 44 36 = 0 → w.1 44 40 = nI n → w.1 44 41 = nI S → S < 2 ^ n → i + f' = 201 → i ≤ e → e ≤ L → f' < fu → ∃ w', (bnd (f_X12_readsSet_L0 fu w) fun w10 => f_X12_readsOne_J80 1 w10) = some (0, w') ∧ ysO w' B L (pset B L n f' e S) ∧ kS w w' := by
  intro f'
  induction f' with
  | zero => intro i e k S w fu h hk ht h36 h40 h41 hS hi hie heL hf; have := h.1; omega
  | succ f' ih =>
    intro i e k S w fu h hk ht h36 h40 h41 hS hi hie heL hf
    have hL := h.1
    obtain ⟨fu, rfl⟩ : ∃ g, fu = g + 1 := ⟨fu - 1, by omega⟩
    have hS31 : S < 2 ^ 31 := Nat.lt_of_lt_of_le hS (Nat.pow_le_pow_right (by decide) (by omega))
    have hsl := runL_le (cB B) heL
    have htn := tok_num (B := B) (L := L) (e := e) (k := k) (lo := 0) (hi := n - 1) hk
    obtain ⟨s, hs⟩ : ∃ s, s = runL (cB B) L e := ⟨_, rfl⟩
    obtain ⟨adj, hadj⟩ : ∃ adj, adj = adjB k e s := ⟨_, rfl⟩
    simp only [pset]
    rw [← hs] at hsl ht htn ⊢
    rw [← hadj] at ht htn
    obtain ⟨t34, t32, t33, t35⟩ := ht
    obtain ⟨l1, l2, l3, l4⟩ := tok_le (B := B) (adj := adj) hsl.2
    have eL : f_X12_readsSet_L0 (fu + 1) w = f_X12_readsSet_B0b (f_X12_readsSet_L0 fu) w := rfl
    rw [eL]
    unfold f_X12_readsSet_B0b
    rw [t33]
    have flt : ∃ w', f_X12_readsOne_J80 1 (sI w 44 36 1) = some (0, w') ∧ (¬ w'.1 44 36 = 0 ∧ w'.1 44 34 = nI s) ∧ kS w w' := by
      refine ⟨_, y_J80F (by rw [sI_same]; decide), ⟨by rw [sI_same]; decide, ?_⟩, kS.st (by unfold sJ; omega) _⟩
      rw [sI_at, if_neg (fun z => by omega)]; exact t34
    by_cases c2 : tkK B L adj s = 2
    · have c3 : ¬ (s < L ∧ B s = 59) := fun z => by have := (tok_stop adj).1.mpr z; omega
      have hv := avl_lt h.2.2.2 s (tkE B L s)
      have e35 := t35 c2
      obtain ⟨v, hvd⟩ : ∃ v, v = avl B s (tkE B L s) := ⟨_, rfl⟩
      rw [← hvd] at hv e35 htn
      rw [if_neg c3, htn, if_pos (show nI (tkK B L adj s) = 2 by rw [c2]; rfl), if_pos h36, h40, e35]
      by_cases c4 : n ≤ v
      · rw [if_pos (nI_le c4 (by omega)), if_neg (fun z => by omega), m_letW, if_neg (by rw [sI_same]; decide), bnd_some]
        exact flt
      · rw [if_neg (nI_ge (by omega) (by omega)), if_pos (show tkK B L adj s = 2 ∧ 0 ≤ v ∧ v ≤ n - 1 from ⟨c2, by omega, by omega⟩)]
        dsimp only
        by_cases cb : S.testBit v = true
        · rw [if_pos cb, h41, if_neg (by rw [y_has0 hS31 (by omega), cb]; decide), m_letW, if_neg (by rw [sI_same]; decide), bnd_some]
          exact flt
        · have cb' : S.testBit v = false := by simpa using cb
          rw [if_neg cb, h41, if_pos ((y_has0 hS31 (by omega)).mpr cb'), m_letW, sI_id h36, if_pos h36, h41, e35, m_shl1 (by omega), m_or, m_letW]
          obtain ⟨w2, hw2⟩ : ∃ w2, w2 = sI w 44 41 (nI (S ||| 2 ^ v)) := ⟨_, rfl⟩
          rw [← hw2]
          have k2 : kS w w2 := by rw [hw2]; exact kS.st (by unfold sJ; omega) _
          have o2 : ∀ j, j ≠ 41 → w2.1 44 j = w.1 44 j := fun j hj => by rw [hw2, sI_at, if_neg (fun z => hj z.2)]
          obtain ⟨w3, g1, g2, g3⟩ := y_goesOn (k2.tp h) (e := tkE B L s) (k := 2) (by rw [o2 32 (by decide)]; exact t32) (by rw [o2 33 (by decide), t33, c2]) (by decide) l3
          rw [g1, bnd_some]
          have hlt : s < tkE B L s := by
            by_cases y : s = tkE B L s
            · exfalso
              have := (tok_num (B := B) (L := L) (e := e) (k := k) (lo := 0) (hi := 3000) hk)
              rw [← hs, ← hadj, if_pos ⟨c2, by omega, by rw [← hvd]; omega⟩] at this
              have := (pnum_lo this).2.2.2.2.1
              rw [← hs] at this
              omega
            · omega
          obtain ⟨w', q1, q2, q3⟩ := ih (i + 1) (tkE B L s) 2 (S ||| 2 ^ v) w3 fu (g3.s.tp (k2.tp h)) (Or.inr rfl) g2 (by rw [g3.2.1 36 (by unfold fJ; omega), o2 36 (by decide)]; exact h36) (by rw [g3.2.1 40 (by unfold fJ; omega), o2 40 (by decide)]; exact h40) (by rw [g3.2.1 41 (by unfold fJ; omega), hw2, sI_same]) (Nat.or_lt_two_pow hS (Nat.pow_lt_pow_right (by decide) (by omega))) (by omega) (by omega) l3 (by omega)
          exact ⟨w', q1, q2, k2.tr (g3.s.tr q3)⟩
    · have hp0 : pnum B L e 0 (n - 1) = none := by rw [htn, if_neg (fun z => c2 z.1)]
      rw [hp0, if_neg (show ¬ nI (tkK B L adj s) = 2 from fun z => c2 ((by32 (by omega) 2 (by decide)).mp z)), bnd_some]
      by_cases c3 : s < L ∧ B s = 59
      · rw [if_pos c3]
        have hK := (tok_stop (B := B) adj).1.mpr c3
        have hE := (tok_stop (B := B) (L := L) adj).2 c3
        rw [hE] at t32
        obtain ⟨w', g1, g2, g3⟩ := y_J80S (l := 1) h h36 (by rw [t33, hK]) (p := s + 1) (by omega) t32
        refine ⟨w', g1, ⟨?_, g2, ?_, by omega⟩, g3.s⟩
        · rw [g3.2.1 36 (by unfold fJ; omega)]; exact h36
        · rw [g3.2.1 41 (by unfold fJ; omega)]; exact h41
      · rw [if_neg c3]
        dsimp only
        have h3 : ¬ w.1 44 33 = 3 := fun z => by
          rw [t33] at z
          have := (by32 (b := tkK B L adj s) (by omega) 3 (by decide)).mp z
          exact c3 ((tok_stop adj).1.mp this)
        refine ⟨_, y_J80N h36 h3, ⟨by rw [sI_same]; decide, ?_⟩, kS.st (by unfold sJ; omega) _⟩
        rw [sI_at, if_neg (fun z => by omega)]; exact t34
end YSET
