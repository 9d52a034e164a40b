/-! what turns leave as it is, where the product is xor -/
section XORS
variable {n : Nat} {T : Nat → Nat → Nat} {iv : Nat → Nat} {φ : Nat → Nat}
theorem perm_aut (h : AUT n T φ) : ((List.range n).map φ).Perm (List.range n) := by
  refine (List.perm_ext_iff_of_nodup (nodup_map List.nodup_range (fun a b ha hb => h.2.2 a b (List.mem_range.mp ha) (List.mem_range.mp hb))) List.nodup_range).mpr (fun a => ⟨fun ha => ?_, fun ha => ?_⟩)
  · obtain ⟨x, hx, rfl⟩ := List.mem_map.mp ha
    exact List.mem_range.mpr (h.1 x (List.mem_range.mp hx))
  · obtain ⟨x, hx, e⟩ := aut_surj h a (List.mem_range.mp ha)
    exact List.mem_map.mpr ⟨x, List.mem_range.mpr hx, e⟩
theorem im_at (h : AUT n T φ) {S e : Nat} (he : e < n) : (im n φ S).testBit (φ e) = S.testBit e := by
  rw [Bool.eq_iff_iff, im_bit]
  constructor
  · rintro ⟨x, hx, h1, h2⟩; rw [← h.2.2 x e hx he h2]; exact h1
  · intro h1; exact ⟨e, he, h1, rfl⟩
theorem sum_aut {α : Type} (l : List α) (ψ : α → α) (hp : (l.map ψ).Perm l) (g g' : α → Nat) (h : ∀ x, x ∈ l → g (ψ x) = g' x) : (l.map g).sum = (l.map g').sum := by
  rw [← (hp.map g).sum_nat, List.map_map]
  exact congrArg List.sum (List.map_congr_left h)
theorem val_nil (S : Nat) : val [] S = 0 := rfl
theorem pcP_im (h : AUT 16 T φ) {S : Nat} (hS : S < 2 ^ 16) : val pcP (im 16 φ S) = val pcP S := by
  have hI : im 16 φ S < 2 ^ 16 := im_lt h.1
  unfold pcP
  rw [addP_fold (fun e => mkA 16 e), addP_fold (fun e => mkA 16 e)]
  rw [val_nil, val_nil]
  refine congrArg (fun z => 0 + z) ?_
  refine sum_aut _ φ (perm_aut h) _ _ (fun e he => ?_)
  have he := List.mem_range.mp he
  rw [mkA_bit (h.1 e he) hI, mkA_bit he hS, im_at h he]
theorem pairs_mem {q : Nat × Nat} : q ∈ pairs ↔ q.1 < 16 ∧ q.2 < 16 := by
  unfold pairs
  rw [List.mem_flatMap]
  constructor
  · rintro ⟨x, hx, h⟩
    obtain ⟨y, hy, rfl⟩ := List.mem_map.mp h
    exact ⟨List.mem_range.mp hx, List.mem_range.mp hy⟩
  · intro h
    exact ⟨q.1, List.mem_range.mpr h.1, List.mem_map.mpr ⟨q.2, List.mem_range.mpr h.2, rfl⟩⟩
set_option maxRecDepth 100000 in
theorem pairs_nd : pairs.Nodup := by decide +kernel
theorem perm_pairs (h : AUT 16 T φ) : (pairs.map (fun q => (φ q.1, φ q.2))).Perm pairs := by
  refine (List.perm_ext_iff_of_nodup (nodup_map pairs_nd (fun a b ha hb e => ?_)) pairs_nd).mpr (fun a => ⟨fun ha => ?_, fun ha => ?_⟩)
  · have h1 := pairs_mem.mp ha
    have h2 := pairs_mem.mp hb
    have e1 := (Prod.mk.inj e).1
    have e2 := (Prod.mk.inj e).2
    exact Prod.ext (h.2.2 _ _ h1.1 h2.1 e1) (h.2.2 _ _ h1.2 h2.2 e2)
  · obtain ⟨x, hx, rfl⟩ := List.mem_map.mp ha
    have h1 := pairs_mem.mp hx
    exact pairs_mem.mpr ⟨h.1 _ h1.1, h.1 _ h1.2⟩
  · have h1 := pairs_mem.mp ha
    obtain ⟨x, hx, e1⟩ := aut_surj h a.1 h1.1
    obtain ⟨y, hy, e2⟩ := aut_surj h a.2 h1.2
    exact List.mem_map.mpr ⟨(x, y), pairs_mem.mpr ⟨hx, hy⟩, Prod.ext e1 e2⟩
theorem xor16 {a b : Nat} (ha : a < 16) (hb : b < 16) : a ^^^ b < 16 := Nat.xor_lt_two_pow (n := 4) ha hb
theorem aut_xor (hT : ∀ a b, a < 16 → b < 16 → T a b = a ^^^ b) (h : AUT 16 T φ) {a b : Nat} (ha : a < 16) (hb : b < 16) : φ (a ^^^ b) = φ a ^^^ φ b := by
  have := h.2.1 a b ha hb
  rw [hT a b ha hb, hT _ _ (h.1 a ha) (h.1 b hb)] at this
  exact this
theorem trP_im (hT : ∀ a b, a < 16 → b < 16 → T a b = a ^^^ b) (h : AUT 16 T φ) {S : Nat} (hS : S < 2 ^ 16) : val trP (im 16 φ S) = val trP S := by
  have hI : im 16 φ S < 2 ^ 16 := im_lt h.1
  unfold trP
  rw [addP_fold (fun q : Nat × Nat => mkA 16 q.1 &&& (mkA 16 q.2 &&& mkA 16 (q.1 ^^^ q.2))), addP_fold (fun q : Nat × Nat => mkA 16 q.1 &&& (mkA 16 q.2 &&& mkA 16 (q.1 ^^^ q.2)))]
  rw [val_nil, val_nil]
  refine congrArg (fun z => 0 + z) ?_
  refine sum_aut _ (fun q : Nat × Nat => (φ q.1, φ q.2)) (perm_pairs h) _ _ (fun q hq => ?_)
  obtain ⟨q1, q2⟩ := pairs_mem.mp hq
  dsimp only
  rw [← aut_xor hT h q1 q2]
  simp only [Nat.testBit_and]
  rw [mkA_bit (h.1 _ q1) hI, mkA_bit (h.1 _ q2) hI, mkA_bit (h.1 _ (xor16 q1 q2)) hI, mkA_bit q1 hS, mkA_bit q2 hS, mkA_bit (xor16 q1 q2) hS, im_at h q1, im_at h q2, im_at h (xor16 q1 q2)]
theorem fold_cong {α β : Type} {f g : β → α → β} : ∀ (l : List α) (b : β), (∀ b x, x ∈ l → f b x = g b x) → l.foldl f b = l.foldl g b
  | [], _, _ => rfl
  | a :: t, b, h => by rw [List.foldl_cons, List.foldl_cons, h b a List.mem_cons_self]; exact fold_cong t _ (fun b x hx => h b x (List.mem_cons_of_mem _ hx))
theorem fold_xor_bit {α : Type} (g : α → Nat) (i : Nat) : ∀ (l : List α) (a : Nat), (l.foldl (fun a e => a ^^^ g e) a).testBit i = l.foldl (fun b e => b ^^ (g e).testBit i) (a.testBit i)
  | [], _ => rfl
  | x :: t, a => by rw [List.foldl_cons, List.foldl_cons, fold_xor_bit g i t, Nat.testBit_xor]
theorem sel_lt {S e : Nat} (he : e < 16) : sel S e < 16 := by unfold sel; split <;> omega
theorem fold_xor_lt {S : Nat} : ∀ (l : List Nat) (a : Nat), (∀ e, e ∈ l → e < 16) → a < 16 → l.foldl (fun a e => a ^^^ sel S e) a < 16
  | [], _, _, h => h
  | x :: t, a, hl, h => fold_xor_lt t _ (fun e he => hl e (List.mem_cons_of_mem _ he)) (xor16 h (sel_lt (hl x List.mem_cons_self)))
theorem xs_lt (S : Nat) : xs S < 16 := fold_xor_lt _ _ (fun _ he => List.mem_range.mp he) (by decide)
theorem xP_bit {S i : Nat} (hS : S < 2 ^ 16) : (xP i).testBit S = (xs S).testBit i := by
  unfold xP xs
  rw [fold_xor_bit (fun e => bif e.testBit i then mkA 16 e else 0), fold_xor_bit (fun e => sel S e), Nat.zero_testBit, Nat.zero_testBit]
  apply fold_cong
  intro b e he
  have he := List.mem_range.mp he
  unfold sel
  have hm := mkA_bit he hS
  cases h1 : e.testBit i <;> cases h2 : S.testBit e <;> rw [h2] at hm <;> simp [h1, hm]
theorem zP_bit {S : Nat} (hS : S < 2 ^ 16) : zP.testBit S = true ↔ xs S ≠ 0 := by
  unfold zP
  rw [Nat.testBit_or, Nat.testBit_or, Nat.testBit_or, xP_bit hS, xP_bit hS, xP_bit hS, xP_bit hS]
  have hl := xs_lt S
  exact (by decide : ∀ x, x < 16 → ((x.testBit 0 || (x.testBit 1 || (x.testBit 2 || x.testBit 3))) = true ↔ x ≠ 0)) _ hl
theorem xs_im (hT : ∀ a b, a < 16 → b < 16 → T a b = a ^^^ b) (h0 : φ 0 = 0) (h : AUT 16 T φ) {S : Nat} : xs (im 16 φ S) = φ (xs S) := by
  have hs : ∀ e, e < 16 → sel (im 16 φ S) (φ e) = φ (sel S e) := fun e he => by
    unfold sel
    rw [im_at h he]
    split
    · rfl
    · exact h0.symm
  have key : ∀ (l : List Nat) (a : Nat), (∀ e, e ∈ l → e < 16) → a < 16 → l.foldl (fun a e => a ^^^ sel (im 16 φ S) (φ e)) (φ a) = φ (l.foldl (fun a e => a ^^^ sel S e) a) := by
    intro l
    induction l with
    | nil => intro a _ _; rfl
    | cons x t ih =>
      intro a hl ha
      have hx := hl x List.mem_cons_self
      rw [List.foldl_cons, List.foldl_cons, hs x hx, ← aut_xor hT h ha (sel_lt hx)]
      exact ih _ (fun e he => hl e (List.mem_cons_of_mem _ he)) (xor16 ha (sel_lt hx))
  have k1 := key (List.range 16) 0 (fun e he => List.mem_range.mp he) (by decide)
  rw [h0] at k1
  unfold xs
  rw [← k1, ← List.foldl_map (f := φ) (g := fun a e => a ^^^ sel (im 16 φ S) e)]
  exact ((perm_aut h).foldl_eq' (fun x _ y _ z => by rw [Nat.xor_assoc, Nat.xor_comm (sel _ x), ← Nat.xor_assoc]) 0).symm
theorem orb_xor (hg : Gp 16 T iv) (hT : ∀ a b, a < 16 → b < 16 → T a b = a ^^^ b) {S : Nat} (hS : S < 2 ^ 16) {Q : List Nat} (hQ : OQ 16 T S Q) : Q.length ≤ 2560 := by
  have fS : (2 ^ (2 ^ 16) - 1).testBit S = true := by rw [Nat.testBit_two_pow_sub_one, decide_eq_true hS]
  have h1 := chkP_ok _ _ S chkP_all fS
  have h2 := nodup_sub Q ((List.range (2 ^ 16)).filter (fun x => (2 ^ (2 ^ 16) - 1).testBit x && (pcP ++ (trP ++ [zP])).all (fun p => p.testBit x == p.testBit S))) hQ.1 (fun x hx => by
    obtain ⟨φ, a1, rfl⟩ := hQ.2 x hx
    have hI : im 16 φ S < 2 ^ 16 := im_lt a1.1
    have h0 := aut_zero hg a1
    refine List.mem_filter.mpr ⟨List.mem_range.mpr hI, ?_⟩
    rw [Bool.and_eq_true]
    refine ⟨by rw [Nat.testBit_two_pow_sub_one, decide_eq_true hI], List.all_eq_true.mpr (fun p hp => ?_)⟩
    rw [beq_iff_eq]
    rcases List.mem_append.mp hp with q | q
    · exact val_bits _ (pcP_im a1 hS) p q
    · rcases List.mem_append.mp q with q | q
      · exact val_bits _ (trP_im hT a1 hS) p q
      · rw [List.mem_singleton.mp q, Bool.eq_iff_iff, zP_bit hI, zP_bit hS, xs_im hT h0 a1]
        have hl := xs_lt S
        constructor
        · intro z w; exact z (by rw [w, h0])
        · intro z w; exact z (a1.2.2 _ _ hl (by decide) (w.trans h0.symm)))
  rw [cnt_len] at h2
  exact Nat.le_trans h2 h1
end XORS
def fgen (f : Nat × Nat) : List Nat := if f.1 = 0 then [1] else if f.1 = 1 then (if f.2 = 1 then [1] else [1, f.2]) else [1, 2]
def og (fs : List (Nat × Nat)) : List Nat := (fs.foldl (fun (s : Nat × List Nat) f => (s.1 * fsz f, s.2 ++ (fgen f).map (fun g => s.1 * g))) (1, [])).2
def xorB (n : Nat) (T : Nat → Nat → Nat) : Bool := Nat.beq n 16 && (List.range 16).all (fun a => (List.range 16).all (fun b => Nat.beq (T a b) (a ^^^ b)))
def chkB (fs : List (Nat × Nat)) : Bool := genB (gst fs).1 (gst fs).2.1 (og fs) && (Nat.ble (prodN ((og fs).map (clsG (gst fs).1 (gst fs).2.1))) 2560 || xorB (gst fs).1 (gst fs).2.1)
set_option maxRecDepth 1000000 in
theorem chkB_0 : (lvlF 0).all chkB = true := by decide +kernel
set_option maxRecDepth 1000000 in
theorem chkB_1 : (lvlF 1).all chkB = true := by decide +kernel
set_option maxRecDepth 1000000 in
theorem chkB_2 : (lvlF 2).all chkB = true := by decide +kernel
set_option maxRecDepth 1000000 in
theorem chkB_3 : (lvlF 3).all chkB = true := by decide +kernel
set_option maxRecDepth 1000000 in
theorem chkB_4 : (lvlF 4).all chkB = true := by decide +kernel
theorem fam_orb {fs : List (Nat × Nat)} (hF : FAM fs) {S : Nat} (hS : S < 2 ^ (gst fs).1) {Q : List Nat} (hQ : OQ (gst fs).1 (gst fs).2.1 S Q) : Q.length ≤ 2560 := by
  have h : chkB fs = true := lvl_any (P := fun fs => chkB fs = true) (fun fs h => List.all_eq_true.mp chkB_0 fs h) (fun fs h => List.all_eq_true.mp chkB_1 fs h) (fun fs h => List.all_eq_true.mp chkB_2 fs h) (fun fs h => List.all_eq_true.mp chkB_3 fs h) (fun fs h => List.all_eq_true.mp chkB_4 fs h) hF
  have hg := fam_gp hF
  unfold chkB at h
  rw [Bool.and_eq_true, Bool.or_eq_true] at h
  rcases h with ⟨h1, h2 | h2⟩
  · have := orb_len hg h1 hQ
    have := Nat.le_of_ble_eq_true h2
    omega
  · unfold xorB at h2
    rw [Bool.and_eq_true, beq_iff] at h2
    have hT : ∀ a b, a < 16 → b < 16 → (gst fs).2.1 a b = a ^^^ b := fun a b ha hb => by
      have := List.all_eq_true.mp (List.all_eq_true.mp h2.2 a (List.mem_range.mpr ha)) b (List.mem_range.mpr hb)
      exact beq_iff.mp this
    rw [h2.1] at hg hS hQ
    exact orb_xor hg hT hS hQ
