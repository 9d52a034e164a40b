/-! marks: a bit for each set -/
theorem m_rdL {β : Type} {w : Wd} {N i : Nat} (h : i < N) (hN : N < 2 ^ 31) (f : Int64 → Option β) : rdL w N (nI i) f = f (w.2 i) := by
  unfold rdL
  rw [if_pos (m_inb h hN), nI_clamp (by omega)]
theorem m_wrL {β : Type} {w : Wd} {N i : Nat} {x : Int64} (h : i < N) (hN : N < 2 ^ 31) (f : Wd → Option β) : wrL w N (nI i) x f = f (sL w i x) := by
  unfold wrL
  rw [if_pos (m_inb h hN), nI_clamp (by omega)]
theorem m_slL : ∀ k, k < 64 → ((lN k).toBitVec.smod 64).toNat = k := by decide +kernel
theorem b1L : ∀ i, i < 64 → (1 : Int64).toBitVec.getLsbD i = decide (i = 0) := by decide +kernel
theorem m_maskL {x : Nat} (hx : x < 65536) : (nI x).toInt64 &&& 63 = lN (x % 64) := by
  rw [nI_l (by omega)]
  apply Int64.toBitVec_inj.mp
  apply BitVec.eq_of_toNat_eq
  rw [Int64.toBitVec_and, BitVec.toNat_and]
  show (x % 2 ^ 64) &&& 63 = (x % 64) % 2 ^ 64
  rw [Nat.mod_eq_of_lt (show x < 2 ^ 64 by omega), show 63 = 2 ^ 6 - 1 from rfl, Nat.and_two_pow_sub_one_eq_mod, Nat.mod_eq_of_lt (show x % 64 < 2 ^ 64 by omega)]
theorem m_bitL (v : Int64) {k : Nat} (hk : k < 64) : (v >>> lN k) &&& 1 = if v.toBitVec.getLsbD k then 1 else 0 := by
  apply Int64.toBitVec_inj.mp
  apply BitVec.eq_of_getLsbD_eq
  intro i hi
  rw [Int64.toBitVec_and, BitVec.getLsbD_and, b1L i hi, Int64.toBitVec_shiftRight]
  show ((v.toBitVec.sshiftRight ((lN k).toBitVec.smod 64).toNat).getLsbD i && decide (i = 0)) = _
  rw [m_slL k hk, BitVec.getLsbD_sshiftRight]
  by_cases c : i = 0
  · subst c
    cases q : v.toBitVec.getLsbD k <;> simp [hk, q] <;> decide
  · cases q : v.toBitVec.getLsbD k
    · simp [c]
    · simp only [c, decide_false, Bool.and_false, ↓reduceIte]
      rw [b1L i hi]; simp [c]
theorem lg_cmp0 (x : Int64) : (lg_cmp x 0 = 0) ↔ x = 0 := by
  unfold lg_cmp
  by_cases a : x > 0
  · rw [if_pos a]
    constructor
    · intro h; exact absurd h one_ne
    · intro h; subst h; exact absurd a (by decide)
  · rw [if_neg a]
    by_cases b : x = 0
    · rw [if_pos b]; simp [b]
    · rw [if_neg b]
      constructor
      · intro h; exact absurd h (by decide)
      · intro h; exact absurd h b
def MK (w : Wd) (x : Nat) : Bool := (w.2 (x / 64)).toBitVec.getLsbD (x % 64)
theorem m_ixL {x : Nat} (hx : x < 65536) : (nI x >>> ((6 : Int32) &&& 31)) &&& ((1024 : Int32) - 1) = nI (x / 64) := by
  rw [show (6 : Int32) &&& 31 = nI 6 &&& 31 from rfl, m_shr (by omega) (by decide), pk_andN (by omega) (m := 1024 - 1) 10 (by decide), show 2 ^ 6 = 64 from rfl, Nat.mod_eq_of_lt (by omega)]
theorem x_knows {w : Wd} {x : Nat} (hx : x < 65536) : f_X10_knowsImage (nI x) w = some (if MK w x then 1 else 0) := by
  unfold f_X10_knowsImage
  rw [m_ixL hx, m_rdL (by omega) (by decide), m_maskL hx, m_bitL _ (Nat.mod_lt _ (by decide))]
  simp only [lg_cmp0]
  unfold MK
  cases (w.2 (x / 64)).toBitVec.getLsbD (x % 64)
  · rfl
  · simp only [↓reduceIte]
    rw [if_neg (by decide)]
theorem or_lsb (v : Int64) {k i : Nat} (hk : k < 64) (hi : i < 64) : (v ||| ((1 : Int64) <<< lN k)).toBitVec.getLsbD i = (v.toBitVec.getLsbD i || decide (i = k)) := by
  rw [Int64.toBitVec_or, BitVec.getLsbD_or, Int64.toBitVec_shiftLeft]
  show (v.toBitVec.getLsbD i || ((1 : Int64).toBitVec <<< ((lN k).toBitVec.smod 64).toNat).getLsbD i) = _
  rw [m_slL k hk, BitVec.getLsbD_shiftLeft]
  congr 1
  by_cases c : i < k
  · simp [c]; omega
  · rw [b1L (i - k) (by omega)]
    by_cases d : i = k
    · subst d; simp [hi]
    · simp [hi, c, d]; omega
theorem MK_set {w w' : Wd} {x : Nat} (h : w'.2 = (sL w (x / 64) (w.2 (x / 64) ||| ((1 : Int64) <<< lN (x % 64)))).2) (y : Nat) : MK w' y = (MK w y || decide (y = x)) := by
  unfold MK
  rw [h]
  show (if y / 64 = x / 64 then (w.2 (x / 64) ||| ((1 : Int64) <<< lN (x % 64))) else w.2 (y / 64)).toBitVec.getLsbD (y % 64) = _
  by_cases c : y / 64 = x / 64
  · rw [if_pos c, or_lsb _ (Nat.mod_lt _ (by decide)) (Nat.mod_lt _ (by decide)), c]
    congr 1
    by_cases d : y = x
    · simp [d]
    · simp [d]; omega
  · rw [if_neg c]
    simp only [show ¬ y = x from fun e => c (by rw [e]), decide_false, Bool.or_false]
theorem x_forget (w : Wd) : ∃ w', f_X10_forgetImages w = some w' ∧ w'.1 = w.1 ∧ ∀ y, y < 65536 → MK w' y = false := by
  unfold f_X10_forgetImages f_J7_fill_d0a16_28
  have key := lrun (fun f i (s : Wd) => f_J7_fill_d0a16_28_L6 f 0 (nI i) 1024 s) 1024 (fun s => some s) (fun i s => s.1 = w.1 ∧ ∀ j, j < i → s.2 j = 0) ?_ ?_ 1024 0 w FU (by omega) (FU_big (by omega)) ⟨rfl, fun j h => by omega⟩
  · obtain ⟨w', ⟨h1, h2⟩, h3⟩ := key
    have h3 : f_J7_fill_d0a16_28_L6 FU 0 0 1024 w = some w' := h3
    refine ⟨w', by rw [h3, bnd_some], h1, fun y hy => ?_⟩
    unfold MK
    rw [h2 (y / 64) (by omega)]
    exact BitVec.getLsbD_zero
  · rintro i s hi ⟨h1, h2⟩
    refine ⟨sL s i 0, ⟨h1, fun j hj => ?_⟩, fun f => ?_⟩
    · show (if j = i then 0 else s.2 j) = 0
      split
      · rfl
      · exact h2 j (by omega)
    · show f_J7_fill_d0a16_28_B6b (f_J7_fill_d0a16_28_L6 f) 0 (nI i) 1024 s = _
      unfold f_J7_fill_d0a16_28_B6b
      rw [if_neg (show ¬ (1024 : Int32) ≤ nI i from nI_ge (b := 1024) hi (by decide)), m_wrL hi (by decide), nI_1]
  · rintro f s _
    show f_J7_fill_d0a16_28_B6b (f_J7_fill_d0a16_28_L6 f) 0 (nI 1024) 1024 s = _
    unfold f_J7_fill_d0a16_28_B6b
    rw [if_pos (show (1024 : Int32) ≤ nI 1024 from nI_le (a := 1024) (by decide) (by decide))]
/-! spreading a set by all turns -/
def SP (w : Wd) (Q : List Nat) (K : Nat → Prop) : Prop := w.1 24 9 = nI Q.length ∧ (∀ (j y : Nat), Q[j]? = some y → w.1 27 j = nI y) ∧ ∀ y, y < 65536 → (MK w y = true ↔ K y ∨ y ∈ Q)
def spK (w w' : Wd) : Prop := (∀ k, k ≠ 24 → k ≠ 27 → w'.1 k = w.1 k) ∧ ∀ j, j ≠ 9 → w'.1 24 j = w.1 24 j
theorem spK.rf (w : Wd) : spK w w := ⟨fun _ _ _ => rfl, fun _ _ => rfl⟩
theorem spK.tr {a b c : Wd} (h : spK a b) (g : spK b c) : spK a c := ⟨fun k x y => (g.1 k x y).trans (h.1 k x y), fun j x => (g.2 j x).trans (h.2 j x)⟩
theorem x_addI {w : Wd} {Q : List Nat} {K : Nat → Prop} (h : SP w Q K) {x : Nat} (hx : x < 65536) (hK : ¬ K x) (hl : Q.length ≤ 2560) (hn : x ∉ Q → Q.length < 2560) : ∃ w', f_X10_addImage (nI x) w = some w' ∧ SP w' (if Q.contains x then Q else Q ++ [x]) K ∧ spK w w' := by
  unfold f_X10_addImage
  rw [x_knows hx, bnd_some]
  have hm := h.2.2 x hx
  by_cases c : x ∈ Q
  · have hc : Q.contains x = true := List.contains_iff_mem.mpr c
    rw [hm.mpr (Or.inr c), if_pos rfl, if_neg one_ne, if_pos hc]
    exact ⟨w, rfl, h, spK.rf w⟩
  · have hmk : MK w x = false := by
      cases q : MK w x with
      | false => rfl
      | true => exact absurd (hm.mp q) (fun z => z.elim hK c)
    have hc : ¬ Q.contains x = true := fun z => c (List.contains_iff_mem.mp z)
    have hlt := hn c
    rw [hmk, if_neg Bool.false_ne_true, if_pos rfl, h.1, if_neg (show ¬ (2560 : Int32) ≤ nI Q.length from nI_ge (b := 2560) hlt (by decide)), if_neg hc, m_ixL hx, m_rdL (by omega) (by decide), m_wrL (by omega) (by decide), m_letW, m_maskL hx]
    obtain ⟨v, hv⟩ : ∃ v, v = w.2 (x / 64) ||| ((1 : Int64) <<< lN (x % 64)) := ⟨_, rfl⟩
    have e9 : (sL w (x / 64) v).1 24 9 = nI Q.length := h.1
    rw [← hv, e9, nI_1, m_wr (by omega) (by decide)]
    refine ⟨_, rfl, ⟨?_, ?_, fun y hy => ?_⟩, fun k a b => ?_, fun j hj => ?_⟩
    · rw [sI_at, if_neg (by rintro ⟨h, -⟩; revert h; decide), sI_at, List.length_append]; simp
    · intro j y hj
      rw [sI_at]
      rcases Nat.lt_trichotomy j Q.length with r | r | r
      · rw [List.getElem?_append_left r] at hj
        rw [if_neg (fun z => by omega), sI_at, if_neg (by rintro ⟨h, -⟩; revert h; decide)]; exact h.2.1 j y hj
      · subst r
        rw [List.getElem?_append_right (Nat.le_refl _), Nat.sub_self] at hj
        rw [if_pos ⟨rfl, rfl⟩, ← Option.some.inj hj]
      · rw [List.getElem?_eq_none (by simp; omega)] at hj; cases hj
    · rw [MK_set (w := w) (x := x) (by rw [← hv]; rfl) y, Bool.or_eq_true, h.2.2 y hy, List.mem_append, List.mem_singleton, decide_eq_true_eq, or_assoc]
    · funext j; rw [sI_at, if_neg (fun z => b z.1), sI_at, if_neg (fun z => a z.1)]; rfl
    · rw [sI_at, if_neg (by rintro ⟨h, -⟩; revert h; decide), sI_at, if_neg (fun z => hj z.2)]; rfl
section SPREAD
variable {n : Nat} {T : Nat → Nat → Nat} {iv : Nat → Nat} {gens ord hd : List Nat} {frm by_ rch h0 hb : Nat → Nat} {ph : Nat → Nat → Nat}
theorem x_imageBy {w : Wd} (hG : GX w n T iv) (hn : n ≤ 16) {m : Nat} (hr : rws n w ph m) {i : Nat} (hi : i < m) (hm : m ≤ 60) (hφ : ∀ x, x < n → ph i x < n) {S : Nat} (hS : S < 2 ^ n) : f_X10_imageBy (nI i) (nI S) w = some (nI (im n (ph i) S)) := by
  have h31 := lt31 (le16 hS hn)
  unfold f_X10_imageBy
  rw [show nI i * (16 : Int32) = nI (i * 16) from pk_mul i 16]
  have key := lup (fun f e (acc : Nat) => f_X10_imageBy_L11 f (nI S) (nI (i * 16)) (nI acc) (nI e) w) n (fun e acc => acc ||| (if S.testBit e then 2 ^ ph i e else 0)) (fun acc => some (nI acc)) (fun _ _ => True) ?_ (fun _ _ _ _ => trivial) ?_ n 0 0 FU (by omega) (FU_big (by omega)) trivial
  · exact key.1
  · intro f e acc he _
    have := hφ e he
    show f_X10_imageBy_B11b (f_X10_imageBy_L11 f) (nI S) (nI (i * 16)) (nI acc) (nI e) w = _
    unfold f_X10_imageBy_B11b
    rw [hG.1, if_neg (nI_ge he (by omega)), nI_1]
    cases hb : S.testBit e with
    | true => rw [if_neg (by rw [x_bit0 h31 (by omega), hb]; decide), nI_add, m_rd (by omega) (by decide), show i * 16 + e = 16 * i + e by omega, hr i e hi he, m_shl1 (by omega), m_or]; rfl
    | false => rw [if_pos ((x_bit0 h31 (by omega)).mpr hb)]; simp
  · intro f acc _
    show f_X10_imageBy_B11b (f_X10_imageBy_L11 f) (nI S) (nI (i * 16)) (nI acc) (nI n) w = _
    unfold f_X10_imageBy_B11b
    rw [hG.1, if_pos (nI_le (Nat.le_refl _) (by omega))]
def OQ (n : Nat) (T : Nat → Nat → Nat) (S : Nat) (Q : List Nat) : Prop := Q.Nodup ∧ ∀ x, x ∈ Q → ORB n T S x
def pfx (P Q : List Nat) : Prop := ∀ (j z : Nat), P[j]? = some z → Q[j]? = some z
theorem pfx_mem {P Q : List Nat} (h : pfx P Q) {x : Nat} (hx : x ∈ P) : x ∈ Q := by
  obtain ⟨j, hj⟩ := List.getElem?_of_mem hx
  exact List.mem_of_getElem? (h j x hj)
theorem orb_trans {S x : Nat} {φ : Nat → Nat} (h : ORB n T S x) (hφ : AUT n T φ) : ORB n T S (im n φ x) := by
  obtain ⟨ψ, h1, rfl⟩ := h
  exact ⟨fun x => φ (ψ x), aut_comp h1 hφ, (im_comp h1.1).symm⟩
def kcl (n : Nat) (T : Nat → Nat → Nat) (K : Nat → Prop) : Prop := ∀ φ x, AUT n T φ → K x → K (im n φ x)
theorem kcl_no (hg : Gp n T iv) {K : Nat → Prop} (hk : kcl n T K) {S x : Nat} (hS : S < 2 ^ n) (hn : ¬ K S) (hx : ORB n T S x) : ¬ K x := by
  intro h
  obtain ⟨φ, h1, rfl⟩ := hx
  obtain ⟨ψ, p1, p2, -⟩ := aut_inv hg h1
  have := hk ψ _ p1 h
  rw [im_comp h1.1, im_cong (fun x hx => p2 x hx), im_id hS] at this
  exact hn this
/-- one more image -/
theorem x_addO (hg : Gp n T iv) {S : Nat} (hS : S < 2 ^ n) (hB : ∀ Q, OQ n T S Q → Q.length ≤ 2560) {K : Nat → Prop} (hk : kcl n T K) (hn : ¬ K S) {w : Wd} {Q : List Nat} (h : SP w Q K) (hQ : OQ n T S Q) {x : Nat} (hx : ORB n T S x) : ∃ w' Q', f_X10_addImage (nI x) w = some w' ∧ SP w' Q' K ∧ spK w w' ∧ OQ n T S Q' ∧ pfx Q Q' ∧ x ∈ Q' := by
  have h16 := hg.1.2
  have hx6 : x < 65536 := le16 (orb_lt hx) h16
  have hnew : x ∉ Q → OQ n T S (Q ++ [x]) := fun c => by
    refine ⟨?_, fun y hy => ?_⟩
    · rw [List.nodup_append]
      refine ⟨hQ.1, by simp, fun a ha b hb => ?_⟩
      simp only [List.mem_singleton] at hb
      subst hb
      exact fun z => c (z ▸ ha)
    · rcases List.mem_append.mp hy with h | h
      · exact hQ.2 y h
      · rw [List.mem_singleton.mp h]; exact hx
  obtain ⟨w', a1, a2, a3⟩ := x_addI h hx6 (kcl_no hg hk hS hn hx) (hB Q hQ) (fun c => by
    have := hB _ (hnew c)
    rw [List.length_append, List.length_singleton] at this
    omega)
  refine ⟨w', _, a1, a2, a3, ?_⟩
  by_cases c : Q.contains x = true
  · rw [if_pos c]; exact ⟨hQ, fun _ _ z => z, List.contains_iff_mem.mp c⟩
  · rw [if_neg c]
    exact ⟨hnew (fun z => c (List.contains_iff_mem.mpr z)), fun j z hj => by rw [List.getElem?_append_left (List.getElem?_eq_some_iff.mp hj).1]; exact hj, by simp⟩
theorem spK.gx {w w' : Wd} (h : spK w w') (hG : GX w n T iv) : GX w' n T iv := GX_cong hG (h.1 6 (by decide) (by decide)) (h.1 9 (by decide) (by decide)) (h.1 10 (by decide) (by decide))
theorem x_spread {w : Wd} (hG : GX w n T iv) (hg : Gp n T iv) (hB : BX w gens ord frm by_ rch) (hO : BO n T gens ord frm by_ rch) (hH : HO n T gens hd h0 hb) (hr : w.1 29 4 = 0) (h31 : w.1 31 0 = 0) (hI : TRI n T gens w) {S : Nat} (hS : S < 2 ^ n) (hOB : ∀ Q, OQ n T S Q → Q.length ≤ 2560) {K : Nat → Prop} (hk : kcl n T K) (hn : ¬ K S) (hm : ∀ y, y < 65536 → (MK w y = true ↔ K y)) :
    ∃ w' Q, f_X10_spread (nI S) w = some w' ∧ isOrb n T S Q ∧ SP w' Q K ∧ TR n T gens w' ∧ w'.1 31 0 = 0 ∧ ∀ k, k ≠ 24 → k ≠ 25 → k ≠ 26 → k ≠ 27 → k ≠ 30 → k ≠ 31 → w'.1 k = w.1 k := by
  have h16 := hg.1.2
  have h1n := hg.1.1
  have hl4 := hO.1
  have hgl : ∀ y, y ∈ gens → y < n := fun y hy => (hO.2.1 y hy).2
  unfold f_X10_spread
  rw [m_letW]
  obtain ⟨w1, hw1⟩ : ∃ w1, w1 = sI w 24 9 0 := ⟨_, rfl⟩
  have k1 : ∀ k, k ≠ 24 → w1.1 k = w.1 k := fun k a => by rw [hw1]; funext j; rw [sI_at]; simp [a]
  have k1j : ∀ j, j ≠ 9 → w1.1 24 j = w.1 24 j := fun j hj => by rw [hw1, sI_at, if_neg (fun z => hj z.2)]
  have hI1 : TRI n T gens w1 := by
    unfold TRI TR rws at *
    rw [k1j 8 (by decide), k1 25 (by decide), k1 26 (by decide)]
    exact hI
  obtain ⟨w3, t1, t2, t3, t4⟩ := x_turns (GX_cong hG (k1 6 (by decide)) (k1 9 (by decide)) (k1 10 (by decide))) hg (BX_cong hB (by rw [k1 13 (by decide)]) (k1 14 (by decide)) (k1 15 (by decide)) (k1 16 (by decide)) (k1 17 (by decide)) (k1 18 (by decide))) hO (by rw [k1 29 (by decide)]; exact hr) (by rw [k1 31 (by decide)]; exact h31) hI1
  have hpos := cntA_pos (T := T) [] gens hgl
  have hle := cntA_le (T := T) h16 hl4
  rw [← hw1, t1, bnd2_some, if_neg (nI_nle hpos (by omega))]
  have sp0 : SP w3 [] K := by
    refine ⟨by rw [t3.2.2, hw1, sI_at]; simp; rfl, fun j y h => by simp at h, fun y hy => ?_⟩
    have : MK w3 y = MK w y := by unfold MK; rw [t3.2.1, hw1]; rfl
    rw [this, hm y hy]; simp
  obtain ⟨w4, Q4, u1, u2, u3, u4, u5, u6⟩ := x_addO hg hS hOB hk hn sp0 ⟨List.nodup_nil, fun x h => by simp at h⟩ (orb_self hS)
  rw [u1, bnd_some]
  have t2' := t2
  obtain ⟨ph, st, r1, r2, r3, r4, r5, r6⟩ := t2
  have hstm : ∀ a d, a + d ≤ gens.length → st a ≤ st (a + d) := by
    intro a d
    induction d with
    | zero => intro _; exact Nat.le_refl _
    | succ d ih => intro h; have q1 := ih (by omega); have q2 := r4 (a + d) (by omega); rw [← Nat.add_assoc]; omega
  have hstl : ∀ a, a ≤ gens.length → st a ≤ 60 := fun a ha => by
    have := hstm a (gens.length - a) (by omega)
    rw [show a + (gens.length - a) = gens.length by omega] at this
    omega
  have hG3 := t3.gx (GX_cong hG (k1 6 (by decide)) (k1 9 (by decide)) (k1 10 (by decide)))
  have hB3 := t3.bx (BX_cong hB (by rw [k1 13 (by decide)]) (k1 14 (by decide)) (k1 15 (by decide)) (k1 16 (by decide)) (k1 17 (by decide)) (k1 18 (by decide)))
  have lev : ∀ Lv w5 Q f, Lv ≤ gens.length → Lv < f → spK w3 w5 → SP w5 Q K → OQ n T S Q → (∀ ψ, AUT n T ψ → fixL gens Lv ψ → im n ψ S ∈ Q) → ∃ w' Q', f_X10_spread_L27 f (nI Lv + (-1)) w5 = some w' ∧ spK w3 w' ∧ SP w' Q' K ∧ OQ n T S Q' ∧ ∀ ψ, AUT n T ψ → im n ψ S ∈ Q' := by
    intro Lv
    induction Lv with
    | zero =>
      intro w5 Q f _ hf q1 q2 q3 q4
      obtain ⟨f, rfl⟩ : ∃ q, f = q + 1 := ⟨f - 1, by omega⟩
      exact ⟨w5, Q, rfl, q1, q2, q3, fun ψ h => q4 ψ h (fun y hy => by simp at hy)⟩
    | succ L ih =>
      intro w5 Q f hL hf q1 q2 q3 q4
      obtain ⟨f, rfl⟩ : ∃ q, f = q + 1 := ⟨f - 1, by omega⟩
      have hLl : L < gens.length := by omega
      have hgL := List.getElem?_eq_getElem hLl
      obtain ⟨g, hgd⟩ : ∃ g, g = gens[L] := ⟨_, rfl⟩
      rw [← hgd] at hgL
      have hgn := hO.2.1 g (List.mem_of_getElem? hgL)
      obtain ⟨l1, l2⟩ := r6 L g hgL
      have ha := hstl L (by omega)
      have hbb := hstl (L + 1) (by omega)
      have hab := r4 L hLl
      have hstr : st (L + 1) ≤ st gens.length := by
        have := hstm (L + 1) (gens.length - (L + 1)) (by omega)
        rw [show L + 1 + (gens.length - (L + 1)) = gens.length by omega] at this; exact this
      have hQl := hOB Q q3
      -- the rows for one image
      have inn : ∀ (i y : Nat) w6 Q6, Q[i]? = some y → spK w3 w6 → SP w6 Q6 K → OQ n T S Q6 → pfx Q Q6 → ∃ w' Q', (∀ κ : (Int32 → Wd → Option Wd) × (Int32 → Int32 → Int32 → Wd → Option Wd), f_X10_spread_L53 κ.1 κ.2 FU (nI L) (nI Q.length) (nI i) (nI (st L)) w6 = κ.2 (nI L) (nI Q.length) (nI (i + 1)) w') ∧ spK w3 w' ∧ SP w' Q' K ∧ OQ n T S Q' ∧ pfx Q6 Q' ∧ ∀ r, st L ≤ r → r < st (L + 1) → im n (ph r) y ∈ Q' := by
        intro i y w6 Q6 hy v1 v2 v3 v4
        have hyO := q3.2 y (List.mem_of_getElem? hy)
        have hil := (List.getElem?_eq_some_iff.mp hy).1
        have key := lrunK (fun (κ : (Int32 → Wd → Option Wd) × (Int32 → Int32 → Int32 → Wd → Option Wd)) f r (s : Wd × List Nat) => f_X10_spread_L53 κ.1 κ.2 f (nI L) (nI Q.length) (nI i) (nI r) s.1) (st (L + 1)) (fun κ s => κ.2 (nI L) (nI Q.length) (nI (i + 1)) s.1) (fun r s => st L ≤ r ∧ spK w3 s.1 ∧ SP s.1 s.2 K ∧ OQ n T S s.2 ∧ pfx Q6 s.2 ∧ ∀ r', st L ≤ r' → r' < r → im n (ph r') y ∈ s.2) ?_ ?_ (st (L + 1) - st L) (st L) (w6, Q6) FU (by omega) (FU_big (by omega)) ⟨Nat.le_refl _, v1, v2, v3, fun _ _ z => z, fun r' x1 x2 => by omega⟩
        · obtain ⟨⟨w', Q'⟩, ⟨-, j1, j2, j3, j4, j5⟩, j6⟩ := key
          exact ⟨w', Q', j6, j1, j2, j3, j4, j5⟩
        · rintro r ⟨w7, Q7⟩ hr7 ⟨i0, i1, i2, i3, i4, i5⟩
          dsimp only at i0 i1 i2 i3 i4 i5
          obtain ⟨a1, a2⟩ := l1 r i0 hr7
          have hG7 := i1.gx hG3
          have hrw : rws n w7 ph (st gens.length) := fun i x hi hx => by rw [i1.1 25 (by decide) (by decide)]; exact r5 i x hi hx
          obtain ⟨w8, Q8, b1, b2, b3, b4, b5, b6⟩ := x_addO hg hS hOB hk hn i2 i3 (orb_trans hyO a1)
          have e27 : w7.1 27 i = nI y := i2.2.1 i y (i4 i y (v4 i y hy))
          have e26 : w7.1 26 (L + 1) = nI (st (L + 1)) := by rw [i1.1 26 (by decide) (by decide)]; exact r3 (by omega) (L + 1) (by omega)
          refine ⟨(w8, Q8), ⟨by omega, i1.tr b3, b2, b4, fun j z hz => b5 j z (i4 j z hz), fun r' x1 x2 => ?_⟩, fun κ f => ?_⟩
          · by_cases c : r' = r
            · subst c; exact b6
            · exact pfx_mem b5 (i5 r' x1 (by omega))
          · show f_X10_spread_B53b κ.1 κ.2 (f_X10_spread_L53 κ.1 κ.2 f) (nI L) (nI Q.length) (nI i) (nI r) w7 = _
            unfold f_X10_spread_B53b
            rw [nI_1, m_rd (by omega) (by decide), e26, if_neg (nI_ge hr7 (by omega)), m_rd (by omega) (by decide), e27, x_imageBy hG7 h16 hrw (by omega) r2 a1.1 (orb_lt hyO), bnd_some, b1, bnd_some, nI_1]
        · rintro κ f ⟨w7, Q7⟩ ⟨i0, i1, i2, i3, i4, i5⟩
          dsimp only at i1
          have e26 : w7.1 26 (L + 1) = nI (st (L + 1)) := by rw [i1.1 26 (by decide) (by decide)]; exact r3 (by omega) (L + 1) (by omega)
          show f_X10_spread_B53b κ.1 κ.2 (f_X10_spread_L53 κ.1 κ.2 f) (nI L) (nI Q.length) (nI i) (nI (st (L + 1))) w7 = _
          unfold f_X10_spread_B53b
          rw [nI_1, m_rd (by omega) (by decide), e26, if_pos (nI_le (Nat.le_refl _) (by omega)), nI_1]
      have key := lrunK (fun (k27 : Int32 → Wd → Option Wd) f i (s : Wd × List Nat) => f_X10_spread_L39 k27 f (nI L) (nI Q.length) (nI i) s.1) Q.length (fun k27 s => k27 (nI L + (-1)) s.1) (fun i s => spK w3 s.1 ∧ SP s.1 s.2 K ∧ OQ n T S s.2 ∧ pfx Q s.2 ∧ ∀ (i' y r : Nat), i' < i → Q[i']? = some y → st L ≤ r → r < st (L + 1) → im n (ph r) y ∈ s.2) ?_ ?_ Q.length 0 (w5, Q) FU (by omega) (FU_big (by omega)) ⟨q1, q2, q3, fun _ _ z => z, fun i' y r x => by omega⟩
      · obtain ⟨⟨w6, Q6⟩, ⟨j1, j2, j3, j4, j5⟩, j6⟩ := key
        dsimp only at j1 j2 j3 j4 j5 j6
        obtain ⟨w', Q', g1, g2, g3, g4, g5⟩ := ih w6 Q6 f (by omega) (by omega) j1 j2 j3 (fun ψ hψ hfix => by
          have hψg : 0 < ψ g := by
            rcases Nat.eq_zero_or_pos (ψ g) with z | z
            · have := hψ.2.2 g 0 hgn.2 (by omega) (by rw [z, aut_zero hg hψ]); omega
            · exact z
          obtain ⟨i, a1, a2, a3⟩ := l2 ψ hψ hfix (hψ.1 g hgn.2) hψg
          obtain ⟨b1, b2⟩ := l1 i a1 a2
          obtain ⟨χ, c1, c2, c3⟩ := aut_inv hg b1
          have hθ : AUT n T (fun x => χ (ψ x)) := aut_comp hψ c1
          have hfx : fixL gens (L + 1) (fun x => χ (ψ x)) := fun y hy => by
            have htk : gens.take (L + 1) = gens.take L ++ [g] := by rw [hgd]; exact List.take_succ_eq_append_getElem hLl
            rw [htk] at hy
            rcases List.mem_append.mp hy with h | h
            · show χ (ψ y) = y
              rw [hfix y h]
              have hyn := hgl y (List.mem_of_mem_take h)
              have := c2 y hyn
              rw [b2 y h] at this; exact this
            · rw [List.mem_singleton.mp h]
              show χ (ψ g) = g
              rw [← a3]; exact c2 g hgn.2
          have hin := q4 _ hθ hfx
          obtain ⟨j, hj⟩ := List.getElem?_of_mem hin
          have := j5 j _ i (List.getElem?_eq_some_iff.mp hj).1 hj a1 a2
          rw [im_comp hθ.1, im_cong (ψ := ψ) (fun x hx => c3 (ψ x) (hψ.1 x hx))] at this
          exact this)
        refine ⟨w', Q', ?_, g2, g3, g4, g5⟩
        rw [pk_m1]
        show f_X10_spread_B27b (f_X10_spread_L27 f) (nI L) w5 = _
        unfold f_X10_spread_B27b
        rw [if_neg (nI_pos (by omega)), q2.1]
        exact (j6 (f_X10_spread_L27 f)).trans g1
      · rintro i ⟨w6, Q6⟩ hi ⟨j1, j2, j3, j4, j5⟩
        dsimp only at j1 j2 j3 j4 j5
        obtain ⟨w7, Q7, g1, g2, g3, g4, g5, g6⟩ := inn i Q[i] w6 Q6 (List.getElem?_eq_getElem hi) j1 j2 j3 j4
        refine ⟨(w7, Q7), ⟨g2, g3, g4, fun j z hz => g5 j z (j4 j z hz), fun i' y r x1 x2 x3 x4 => ?_⟩, fun k27 f => ?_⟩
        · by_cases c : i' = i
          · subst c
            rw [List.getElem?_eq_getElem hi] at x2
            rw [← Option.some.inj x2]; exact g6 r x3 x4
          · exact pfx_mem g5 (j5 i' y r (by omega) x2 x3 x4)
        · show f_X10_spread_B39b k27 (f_X10_spread_L39 k27 f) (nI L) (nI Q.length) (nI i) w6 = _
          unfold f_X10_spread_B39b
          have e26 : w6.1 26 L = nI (st L) := by rw [j1.1 26 (by decide) (by decide)]; exact r3 (by omega) L (by omega)
          rw [if_neg (nI_ge hi (by omega)), m_rd (by omega) (by decide), e26]
          exact g1 (k27, f_X10_spread_L39 k27 f)
      · rintro k27 f ⟨w6, Q6⟩ _
        show f_X10_spread_B39b k27 (f_X10_spread_L39 k27 f) (nI L) (nI Q.length) (nI Q.length) w6 = _
        unfold f_X10_spread_B39b
        rw [if_pos (nI_le (Nat.le_refl _) (by omega))]
  have e13 : w4.1 13 6 = nI gens.length := by rw [u3.1 13 (by decide) (by decide)]; exact hB3.1
  obtain ⟨w', Q', v1, v2, v3, v4, v5⟩ := lev gens.length w4 Q4 FU (Nat.le_refl _) (FU_big (by omega)) u3 u2 u4 (fun ψ hψ hfix => by
    have e : gens.map ψ = gens.map (fun x => x) := by
      rw [List.map_id']
      exact map_fix (fun y hy => hfix y (by rw [List.take_length]; exact hy))
    have := aut_uniq hg hH hψ aut_id e
    rw [im_cong this, im_id hS]; exact u6)
  refine ⟨w', Q', ?_, ⟨v4.1, fun x => ⟨v4.2 x, fun ⟨ψ, p1, p2⟩ => by rw [← p2]; exact v5 ψ p1⟩⟩, v3, ?_, ?_, fun k x1 x2 x3 x4 x5 x6 => ?_⟩
  · rw [e13]
    have e : nI gens.length - 1 = nI gens.length + (-1) := by rw [Int32.sub_eq_add_neg]
    rw [e]; exact v1
  · refine ⟨ph, st, by rw [v2.2 8 (by decide)]; exact r1, r2, fun hp L hL => by rw [v2.1 26 (by decide) (by decide)]; exact r3 hp L hL, r4, fun i x hi hx => by rw [v2.1 25 (by decide) (by decide)]; exact r5 i x hi hx, r6⟩
  · rw [v2.1 31 (by decide) (by decide)]; exact t4
  · rw [v2.1 k x1 x4, t3.1 k x1 x2 x3 x5 x6, k1 k x1]
/-! the least of them -/
theorem x_least {w : Wd} {Q : List Nat} {K : Nat → Prop} (h : SP w Q K) {S : Nat} (hn : n ≤ 16) (hQ : isOrb n T S Q) (hS : S < 2 ^ n) (hl : Q.length ≤ 2560) : ∃ μ, f_X10_leastImage w = some (nI μ) ∧ lstO n T S μ := by
  have hp : 0 < Q.length := List.length_pos_of_mem ((hQ.2 S).mpr (orb_self hS))
  have hg0 := List.getElem?_eq_getElem hp
  have hb : ∀ (j y : Nat), Q[j]? = some y → y < 2 ^ 31 := fun j y hj => lt31 (le16 (orb_lt ((hQ.2 y).mp (List.mem_of_getElem? hj))) hn)
  unfold f_X10_leastImage
  have e0 : rdI w 27 2560 0 (fun x1 => f_X10_leastImage_L9 FU x1 1 w) = f_X10_leastImage_L9 FU (nI Q[0]) (nI 1) w := by
    show rdI w 27 2560 (nI 0) _ = _
    rw [m_rd (by decide) (by decide), h.2.1 0 _ hg0]
    rfl
  rw [e0]
  have key := lrun (fun f i (μ : Nat) => f_X10_leastImage_L9 f (nI μ) (nI i) w) Q.length (fun μ => some (nI μ)) (fun i μ => 1 ≤ i ∧ μ ∈ Q ∧ ∀ (j y : Nat), j < i → Q[j]? = some y → μ ≤ y) ?_ ?_ (Q.length - 1) 1 Q[0] FU (by omega) (FU_big (by omega)) ⟨Nat.le_refl _, List.getElem_mem hp, fun j y hj hy => by
      rw [show j = 0 by omega, hg0] at hy
      rw [Option.some.inj hy]; exact Nat.le_refl _⟩
  · obtain ⟨μ, ⟨-, h1, h2⟩, h3⟩ := key
    refine ⟨μ, h3, (hQ.2 μ).mp h1, fun x hx => ?_⟩
    obtain ⟨j, hj⟩ := List.getElem?_of_mem ((hQ.2 x).mpr hx)
    exact h2 j x (List.getElem?_eq_some_iff.mp hj).1 hj
  · rintro i μ hi ⟨h1, h2, h3⟩
    have hgi := List.getElem?_eq_getElem hi
    have b1 := hb i _ hgi
    obtain ⟨j, hj⟩ := List.getElem?_of_mem h2
    have b2 := hb j _ hj
    refine ⟨if Q[i] < μ then Q[i] else μ, ⟨by omega, ?_, fun j y x1 x2 => ?_⟩, fun f => ?_⟩
    · split
      · exact List.getElem_mem hi
      · exact h2
    · by_cases c : j = i
      · subst c
        rw [hgi] at x2
        rw [← Option.some.inj x2]
        split <;> omega
      · have := h3 j y (by omega) x2
        split <;> omega
    · show f_X10_leastImage_B9b (f_X10_leastImage_L9 f) (nI μ) (nI i) w = _
      unfold f_X10_leastImage_B9b
      rw [h.1, if_neg (nI_ge hi (by omega)), m_rd (by omega) (by decide), h.2.1 i _ hgi, nI_1]
      congr 1
      simp only [m_lt b1 b2]
      split <;> rfl
  · rintro f μ _
    show f_X10_leastImage_B9b (f_X10_leastImage_L9 f) (nI μ) (nI Q.length) w = _
    unfold f_X10_leastImage_B9b
    rw [h.1, if_pos (nI_le (Nat.le_refl _) (by omega))]
end SPREAD
