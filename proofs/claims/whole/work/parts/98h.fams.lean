/-! families of sets as one number: bit S tells whether S is in it -/
def MM : Nat → Nat → Nat
  | 0, _ => 0
  | n + 1, e => bif Nat.beq e n then (2 ^ (2 ^ n) - 1) <<< (2 ^ n) else MM n e ||| (MM n e <<< (2 ^ n))
theorem MM_lt : ∀ n e, MM n e < 2 ^ (2 ^ n) := by
  intro n
  induction n with
  | zero => intro e; exact Nat.two_pow_pos _
  | succ n ih =>
    intro e
    apply lt_two
    intro x hx
    simp only [MM] at hx
    rw [Nat.pow_succ]
    cases hb : Nat.beq e n with
    | true =>
      rw [hb, cond_true, Nat.testBit_shiftLeft, Bool.and_eq_true, Nat.testBit_two_pow_sub_one, decide_eq_true_eq, decide_eq_true_eq] at hx
      omega
    | false =>
      rw [hb, cond_false, Nat.testBit_or, Bool.or_eq_true, Nat.testBit_shiftLeft, Bool.and_eq_true, decide_eq_true_eq] at hx
      rcases hx with h | ⟨h1, h2⟩
      · have := bit_lt (ih e) h; omega
      · have := bit_lt (ih e) h2; omega
theorem MM_bit : ∀ n e S, e < n → S < 2 ^ n → (MM n e).testBit S = S.testBit e := by
  intro n
  induction n with
  | zero => intro e S he _; omega
  | succ n ih =>
    intro e S he hS
    simp only [MM]
    rw [Nat.pow_succ] at hS
    cases hb : Nat.beq e n with
    | true =>
      have en : e = n := Nat.eq_of_beq_eq_true hb
      subst en
      rw [cond_true, Nat.testBit_shiftLeft, Nat.testBit_two_pow_sub_one]
      rcases Nat.lt_or_ge S (2 ^ e) with q | q
      · rw [Nat.testBit_lt_two_pow q]; simp; omega
      · rw [show S = 2 ^ e + (S - 2 ^ e) by omega, Nat.testBit_two_pow_add_eq, Nat.testBit_lt_two_pow (show S - 2 ^ e < 2 ^ e by omega)]; simp; omega
    | false =>
      have en : e ≠ n := fun z => by subst z; rw [Nat.beq_refl] at hb; cases hb
      rw [cond_false, Nat.testBit_or, Nat.testBit_shiftLeft]
      rcases Nat.lt_or_ge S (2 ^ n) with q | q
      · rw [ih e S (by omega) q, decide_eq_false (by omega)]; simp
      · have hz : (MM n e).testBit S = false := by
          cases h : (MM n e).testBit S with
          | false => rfl
          | true => have := bit_lt (MM_lt n e) h; omega
        rw [hz, decide_eq_true (by omega), ih e (S - 2 ^ n) (by omega) (by omega), Bool.false_or, Bool.true_and]
        conv => rhs; rw [show S = 2 ^ n + (S - 2 ^ n) by omega]
        rw [Nat.testBit_two_pow_add_gt (by omega)]
def mks (n : Nat) : List Nat := (List.range n).map (MM n)
def mkA (n e : Nat) : Nat := (mks n).getD e 0
theorem mkA_bit {n e S : Nat} (he : e < n) (hS : S < 2 ^ n) : (mkA n e).testBit S = S.testBit e := by
  have : mkA n e = MM n e := tb_get (φ := MM n) he
  rw [this, MM_bit n e S he hS]
def pcB : Nat → Nat → Nat
  | 0, F => F % 2
  | k + 1, F => bif Nat.beq F 0 then 0 else pcB k (F % 2 ^ (2 ^ k)) + pcB k (F / 2 ^ (2 ^ k))
theorem cntB_none {p : Nat → Bool} : ∀ {n : Nat}, (∀ k, k < n → p k = false) → cntB p n = 0
  | 0, _ => rfl
  | n + 1, h => by rw [cntB, cntB_none (fun k hk => h k (by omega)), h n (by omega)]; rfl
theorem pcB_ok : ∀ k F (p : Nat → Bool), (∀ S, S < 2 ^ k → p S = true → F.testBit S = true) → cntB p (2 ^ k) ≤ pcB k F := by
  intro k
  induction k with
  | zero =>
    intro F p h
    show 0 + (if p 0 then 1 else 0) ≤ F % 2
    cases hp : p 0 with
    | false => simp
    | true =>
      have := h 0 (by decide) hp
      rw [Nat.testBit_zero, decide_eq_true_eq] at this
      rw [this]; decide
  | succ k ih =>
    intro F p h
    simp only [pcB]
    cases hb : Nat.beq F 0 with
    | true =>
      have F0 : F = 0 := Nat.eq_of_beq_eq_true hb
      rw [cond_true, cntB_none]
      · exact Nat.le_refl _
      · intro S hS
        cases hp : p S with
        | false => rfl
        | true => have := h S hS hp; rw [F0, Nat.zero_testBit] at this; cases this
    | false =>
      rw [cond_false, Nat.pow_succ, Nat.mul_two, cntB_split]
      refine Nat.add_le_add (ih _ _ (fun S hS hp => ?_)) (ih _ _ (fun S hS hp => ?_))
      · rw [Nat.testBit_mod_two_pow, decide_eq_true hS, Bool.true_and]
        exact h S (by rw [Nat.pow_succ]; omega) hp
      · rw [Nat.testBit_div_two_pow, Nat.add_comm]
        exact h _ (by rw [Nat.pow_succ]; omega) hp
/-! free sets, subgroups -/
def badF (n : Nat) (T : Nat → Nat → Nat) : Nat := orF (fun x => orF (fun y => mkA n x &&& (mkA n y &&& mkA n (T x y))) n) n
def freeF (n : Nat) (T : Nat → Nat → Nat) : Nat := (2 ^ (2 ^ n) - 1) ^^^ badF n T
def opnF (n : Nat) (T : Nat → Nat → Nat) : Nat := orF (fun x => orF (fun y => (mkA n x &&& mkA n y) ^^^ ((mkA n x &&& mkA n y) &&& mkA n (T x y))) n) n
def subF (n : Nat) (T : Nat → Nat → Nat) : Nat := mkA n 0 ^^^ (mkA n 0 &&& opnF n T)
section FAMS
variable {n : Nat} {T : Nat → Nat → Nat} {iv : Nat → Nat}
theorem FL_le (hg : Gp n T iv) : (FL n T).length ≤ pcB n (freeF n T) := by
  unfold FL FLe
  rw [cnt_len]
  apply pcB_ok
  intro S hS hf
  have hb : (badF n T).testBit S = false := by
    cases h : (badF n T).testBit S with
    | false => rfl
    | true =>
      unfold badF at h
      obtain ⟨x, hx, h⟩ := orF_bit.mp h
      obtain ⟨y, hy, h⟩ := orF_bit.mp h
      rw [Nat.testBit_and, Nat.testBit_and, mkA_bit hx hS, mkA_bit hy hS, mkA_bit (hg.2.1 x y hx hy) hS, Bool.and_eq_true, Bool.and_eq_true] at h
      have := fr_iff.mp hf x y hx hy h.1 h.2.1
      rw [h.2.2] at this; cases this
  unfold freeF
  rw [Nat.testBit_xor, hb, Nat.testBit_two_pow_sub_one, decide_eq_true hS]; rfl
theorem sub_le (hg : Gp n T iv) {Q : List Nat} (hQ : sbQ n T Q) : Q.length ≤ pcB n (subF n T) := by
  have h1 := nodup_sub Q ((List.range (2 ^ n)).filter (fun S => dcd (clo n T S))) hQ.1 (fun x hx => List.mem_filter.mpr ⟨List.mem_range.mpr (hQ.2 x hx).1, dcd_iff.mpr (hQ.2 x hx).2⟩)
  rw [cnt_len] at h1
  refine Nat.le_trans h1 (pcB_ok _ _ _ (fun S hS hf => ?_))
  have hc := dcd_iff.mp hf
  have hb : (opnF n T).testBit S = false := by
    cases h : (opnF n T).testBit S with
    | false => rfl
    | true =>
      unfold opnF at h
      obtain ⟨x, hx, h⟩ := orF_bit.mp h
      obtain ⟨y, hy, h⟩ := orF_bit.mp h
      rw [Nat.testBit_xor, Nat.testBit_and, Nat.testBit_and, Nat.testBit_and, mkA_bit hx hS, mkA_bit hy hS, mkA_bit (hg.2.1 x y hx hy) hS] at h
      cases hx' : S.testBit x with
      | false => rw [hx'] at h; simp at h
      | true =>
        cases hy' : S.testBit y with
        | false => rw [hy'] at h; simp at h
        | true => rw [hx', hy', hc.2 x y hx hy hx' hy'] at h; simp at h
  unfold subF
  rw [Nat.testBit_xor, Nat.testBit_and, hb, mkA_bit hg.1.1 hS, hc.1]; rfl
end FAMS
/-! all rows of factors -/
def extF (l : List (List (Nat × Nat))) : List (List (Nat × Nat)) := l.flatMap (fun fs => (allF.filter (fun f => Nat.ble ((gst fs).1 * fsz f) 16)).map (fun f => fs ++ [f]))
def lvlF : Nat → List (List (Nat × Nat))
  | 0 => [[]]
  | k + 1 => extF (lvlF k)
theorem lvl_mem : ∀ k fs, fs.length = k → FAM fs → fs ∈ lvlF k := by
  intro k
  induction k with
  | zero => intro fs h _; rw [List.length_eq_zero_iff.mp h]; exact List.mem_singleton.mpr rfl
  | succ k ih =>
    intro fs h hF
    have hne : fs ≠ [] := fun z => by rw [z] at h; cases h
    have e := List.dropLast_concat_getLast hne
    rw [← e] at hF h ⊢
    obtain ⟨h1, h2, h3⟩ := fam_pre hF
    refine List.mem_flatMap.mpr ⟨fs.dropLast, ih _ (by rw [List.length_append] at h; exact Nat.succ.inj h) h1, List.mem_map.mpr ⟨_, List.mem_filter.mpr ⟨h2, Nat.ble_eq_true_of_le h3⟩, rfl⟩⟩
def chkA (fs : List (Nat × Nat)) : Bool := Nat.ble (pcB (gst fs).1 (freeF (gst fs).1 (gst fs).2.1)) 3071 && Nat.ble (pcB (gst fs).1 (subF (gst fs).1 (gst fs).2.1)) 128
set_option maxRecDepth 1000000 in
theorem chkA_1 : (lvlF 1).all chkA = true := by decide +kernel
