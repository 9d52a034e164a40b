/-! feed and back, the calls -/
def tpD (w w2 : Wd) : Prop := (∃ L B, TPx w2 L B ∧ TPy w2 L B) ∧ kpL [1, 2, 66] [30] w w2
section TAPE2
variable {w : Wd} {L : Nat} {B : Nat → Nat}
theorem tpD_self (hx : TPx w L B) (hy : TPy w L B) : tpD w w := ⟨⟨L, B, hx, hy⟩, fun _ _ _ => rfl, fun _ _ => rfl⟩
theorem c_back (hx : TPx w L B) (hy : TPy w L B) (a : Int32) : ∃ r w1 w2, f_X11_back a w = some (r, w1) ∧ f_X12_back a w1 = some (r, w2) ∧ tpD w w2 := by
  obtain ⟨x1, x2, x3, x4⟩ := id hx
  obtain ⟨-, y2, y3, -⟩ := id hy
  unfold f_X11_back
  rcases tri_or a (Nat.zero_le L) (by omega) with ⟨j, -, h2, rfl⟩ | h | ⟨-, h2, -, h4, h5⟩
  · rw [if_neg (nI_pos (by omega)), x2, if_pos (nI_le h2 (by omega)), pk_sub h2, m_letW]
    have e44 : (sI w 1 1 (nI (L - j))).1 44 30 = nI L := by rw [sI_row _ _ _ _ (by decide)]; exact y2
    refine ⟨_, _, sI (sI w 1 1 (nI (L - j))) 44 30 (nI (L - j)), rfl, ?_, ⟨L - j, B, ⟨by omega, ?_, fun i hi => ?_, x4⟩, ⟨by omega, ?_, fun i hi => ?_, x4⟩⟩, fun k hk h44 => ?_, fun i hi => ?_⟩
    · unfold f_X12_back
      have c1 : f_X12_in (nI j) 0 (nI L) = 1 := by
        unfold f_X12_in
        rw [if_neg (nI_pos (by omega)), if_neg (fun z => by have := (m_lt (by omega) (by omega)).mp z; omega)]
      rw [e44, c1, if_neg one_ne, pk_sub h2, m_letW, sI_same, sI_same]
    · rw [sI_row _ _ _ _ (by decide), sI_same]
    · rw [sI_row _ _ _ _ (by decide), sI_row _ _ _ _ (by decide)]; exact x3 i (by omega)
    · rw [sI_same]
    · rw [sI_row _ _ _ _ (by decide), sI_row _ _ _ _ (by decide)]; exact y3 i (by omega)
    · simp only [List.mem_cons, List.not_mem_nil, or_false, not_or] at hk
      rw [sI_row _ _ _ _ h44, sI_row _ _ _ _ hk.1]
    · simp only [List.mem_cons, List.not_mem_nil, or_false] at hi
      rw [sI_at, if_neg (fun z => hi z.2), sI_row _ _ _ _ (by decide)]
  · have h : a < 0 := h
    rw [if_pos h]
    refine ⟨_, _, w, rfl, ?_, tpD_self hx hy⟩
    unfold f_X12_back f_X12_in
    rw [if_pos (by rw [if_pos h])]
  · rw [if_neg h5, x2, if_neg h4]
    refine ⟨_, _, w, rfl, ?_, tpD_self hx hy⟩
    unfold f_X12_back f_X12_in
    rw [y2, if_pos (by rw [if_neg h5, if_pos h2])]
theorem byts_nat (a b c d e : Int32) (k : Nat) : (byts a b c d e k).toNatClampNeg < 256 ∧ byts a b c d e k = nI (byts a b c d e k).toNatClampNeg := by
  obtain ⟨x, h1, h2⟩ := byt_nat (wo a b c d e k) (k % 4)
  have h3 : byts a b c d e k = nI x := h2
  rw [h3, nI_clamp (by omega)]
  exact ⟨h1, rfl⟩
theorem c_feed (hx : TPx w L B) (hy : TPy w L B) (a b c d e : Int32) : ∃ r w1 w2, f_X11_feed a b c d e w = some (r, w1) ∧ f_X12_feed a b c d e w1 = some (r, w2) ∧ tpD w w2 := by
  obtain ⟨x1, x2, x3, x4⟩ := id hx
  obtain ⟨-, y2, y3, -⟩ := id hy
  by_cases hL : L + 20 ≤ 200
  · obtain ⟨w1, a1, a2, a3, a4, a5, a6⟩ := x_feed hL x2 a b c d e
    obtain ⟨w2, b1, b2, b3, b4⟩ := y_feed (w := w1) hL (by rw [a2 44 (by decide) (by decide)]; exact y2) a b c d e
    refine ⟨_, w1, w2, a1, b1, ⟨L + 20, fun i => if L ≤ i ∧ i < L + 20 then (byts a b c d e (i - L)).toNatClampNeg else B i, ⟨hL, ?_, fun i hi => ?_, fun i => ?_⟩, ⟨hL, b3, fun i hi => ?_, fun i => ?_⟩⟩, fun k hk h44 => ?_, fun j hj => ?_⟩
    · rw [b2.1 1 (by decide) (by decide)]; exact a5
    · rw [b2.1 2 (by decide) (by decide), a6]
      dsimp only
      by_cases q : L ≤ i ∧ i < L + 20
      · rw [if_pos q, if_pos q]; exact (byts_nat a b c d e _).2
      · rw [if_neg q, if_neg q]; exact x3 i (by omega)
    · dsimp only
      split
      · exact (byts_nat a b c d e _).1
      · exact x4 i
    · rw [b4, a2 66 (by decide) (by decide)]
      dsimp only
      by_cases q : L ≤ i ∧ i < L + 20
      · rw [if_pos q, if_pos q]; exact (byts_nat a b c d e _).2
      · rw [if_neg q, if_neg q]; exact y3 i (by omega)
    · dsimp only
      split
      · exact (byts_nat a b c d e _).1
      · exact x4 i
    · simp only [List.mem_cons, List.not_mem_nil, or_false, not_or] at hk
      rw [b2.1 k hk.2.2 h44, a2 k hk.1 hk.2.1]
    · simp only [List.mem_cons, List.not_mem_nil, or_false] at hj
      rw [b2.2.1 j hj, a2 44 (by decide) (by decide)]
  · have c1 : ¬ nI L + 20 ≤ (200 : Int32) := by
      show ¬ nI L + nI 20 ≤ nI 200
      rw [nI_add, m_le (by omega) (by decide)]; exact hL
    refine ⟨-1, w, w, ?_, ?_, tpD_self hx hy⟩
    · unfold f_X11_feed
      rw [x2, if_neg c1]
    · unfold f_X12_feed
      rw [y2, if_neg c1]
end TAPE2
