/-! how long an orbit can be -/
def prodL : List (List Nat) → List (List Nat)
  | [] => [[]]
  | l :: ls => l.flatMap (fun a => (prodL ls).map (fun t => a :: t))
def prodN : List (List Nat) → Nat
  | [] => 1
  | l :: ls => l.length * prodN ls
theorem prodL_len : ∀ ls, (prodL ls).length = prodN ls
  | [] => rfl
  | l :: ls => by simp only [prodL, prodN]; rw [flat_len2, prodL_len ls]
theorem prodL_mem {A : Nat → List Nat} {φ : Nat → Nat} : ∀ (gens : List Nat), (∀ g, g ∈ gens → φ g ∈ A g) → gens.map φ ∈ prodL (gens.map A)
  | [], _ => List.mem_singleton.mpr rfl
  | g :: gs, h => List.mem_flatMap.mpr ⟨φ g, h g List.mem_cons_self, List.mem_map.mpr ⟨gs.map φ, prodL_mem gs (fun x hx => h x (List.mem_cons_of_mem _ hx)), rfl⟩⟩
def clsG (n : Nat) (T : Nat → Nat → Nat) (g : Nat) : List Nat := (List.range n).filter (fun b => Nat.ble 1 b && (Nat.beq (T b b) 0 == Nat.beq (T g g) 0))
def genB (n : Nat) (T : Nat → Nat → Nat) (gens : List Nat) : Bool := gens.all (fun g => Nat.ble 1 g && Nat.ble (g + 1) n) && (List.range n).all (fun a => Nat.beq a 0 || gens.any (fun g => Nat.ble g a && Nat.beq (T (a - g) g) a))
theorem beq_iff {a b : Nat} : Nat.beq a b = true ↔ a = b := ⟨Nat.eq_of_beq_eq_true, fun h => by rw [h]; exact Nat.beq_refl b⟩
section ORBN
variable {n : Nat} {T : Nat → Nat → Nat} {iv : Nat → Nat} {gens : List Nat}
theorem gen_uniq (hg : Gp n T iv) (hb : genB n T gens = true) {φ ψ : Nat → Nat} (h1 : AUT n T φ) (h2 : AUT n T ψ) (he : gens.map φ = gens.map ψ) : ∀ a, a < n → φ a = ψ a := by
  unfold genB at hb
  rw [Bool.and_eq_true, List.all_eq_true, List.all_eq_true] at hb
  intro a
  induction a using Nat.strongRecOn with
  | ind a ih =>
    intro ha
    have := hb.2 a (List.mem_range.mpr ha)
    rw [Bool.or_eq_true, beq_iff, List.any_eq_true] at this
    rcases this with rfl | ⟨g, hgm, q⟩
    · rw [aut_zero hg h1, aut_zero hg h2]
    · rw [Bool.and_eq_true, beq_iff] at q
      have q1 := Nat.le_of_ble_eq_true q.1
      have q3 := hb.1 g hgm
      rw [Bool.and_eq_true] at q3
      have q4 := Nat.le_of_ble_eq_true q3.1
      have q5 := Nat.le_of_ble_eq_true q3.2
      rw [← q.2, h1.2.1 _ _ (by omega) (by omega), h2.2.1 _ _ (by omega) (by omega), ih (a - g) (by omega) (by omega), List.map_inj_left.mp he g hgm]
theorem cls_in (hg : Gp n T iv) {φ : Nat → Nat} (h : AUT n T φ) {g : Nat} (h0 : 1 ≤ g) (hn : g < n) : φ g ∈ clsG n T g := by
  have z := aut_zero hg h
  have e : T (φ g) (φ g) = 0 ↔ T g g = 0 := by
    rw [← h.2.1 g g hn hn]
    constructor
    · intro q; exact h.2.2 _ _ (hg.2.1 g g hn hn) hg.1.1 (q.trans z.symm)
    · intro q; rw [q, z]
  refine List.mem_filter.mpr ⟨List.mem_range.mpr (h.1 g hn), ?_⟩
  rw [Bool.and_eq_true]
  refine ⟨Nat.ble_eq_true_of_le ?_, ?_⟩
  · rcases Nat.eq_zero_or_pos (φ g) with q | q
    · have := h.2.2 g 0 hn hg.1.1 (q.trans z.symm); omega
    · exact q
  · by_cases c : T g g = 0
    · rw [e.mpr c, c]; rfl
    · have c' : ¬ T (φ g) (φ g) = 0 := fun q => c (e.mp q)
      rw [show Nat.beq (T (φ g) (φ g)) 0 = false from Bool.eq_false_iff.mpr (fun q => c' (beq_iff.mp q)), show Nat.beq (T g g) 0 = false from Bool.eq_false_iff.mpr (fun q => c (beq_iff.mp q))]; rfl
theorem orb_len (hg : Gp n T iv) (hb : genB n T gens = true) {S : Nat} {Q : List Nat} (hQ : OQ n T S Q) : Q.length ≤ prodN (gens.map (clsG n T)) := by
  have hF : ∀ t : List Nat, ∃ y, ∀ φ, AUT n T φ → gens.map φ = t → im n φ S = y := fun t => by
    by_cases c : ∃ φ, AUT n T φ ∧ gens.map φ = t
    · obtain ⟨ψ, c1, c2⟩ := c
      exact ⟨im n ψ S, fun φ h1 h2 => im_cong (gen_uniq hg hb h1 c1 (h2.trans c2.symm))⟩
    · exact ⟨0, fun φ h1 h2 => absurd ⟨φ, h1, h2⟩ c⟩
  have key := nodup_sub Q ((prodL (gens.map (clsG n T))).map (fun t => Classical.choose (hF t))) hQ.1 (fun x hx => by
    obtain ⟨φ, h1, h2⟩ := hQ.2 x hx
    refine List.mem_map.mpr ⟨gens.map φ, prodL_mem gens (fun g hgm => ?_), ?_⟩
    · have hb1 := hb
      unfold genB at hb1
      rw [Bool.and_eq_true, List.all_eq_true] at hb1
      have q3 := hb1.1 g hgm
      rw [Bool.and_eq_true] at q3
      exact cls_in hg h1 (Nat.le_of_ble_eq_true q3.1) (Nat.le_of_ble_eq_true q3.2)
    · rw [← h2]; exact (Classical.choose_spec (hF (gens.map φ)) φ h1 rfl).symm)
  rw [List.length_map, prodL_len] at key
  exact key
end ORBN
/-! sixteen elements, each its own inverse -/
def val : List Nat → Nat → Nat
  | [], _ => 0
  | p :: ps, S => (if p.testBit S then 1 else 0) + 2 * val ps S
def addP : List Nat → Nat → List Nat
  | [], I => [I]
  | p :: ps, I => (p ^^^ I) :: (bif Nat.beq (p &&& I) 0 then ps else addP ps (p &&& I))
theorem addP_val {S : Nat} : ∀ ps I, val (addP ps I) S = val ps S + if I.testBit S then 1 else 0
  | [], I => by simp only [addP, val]; omega
  | p :: ps, I => by
    simp only [addP, val]
    cases hb : Nat.beq (p &&& I) 0 with
    | true =>
      have h := congrArg (fun z => z.testBit S) (beq_iff.mp hb)
      simp only [Nat.testBit_and, Nat.zero_testBit] at h
      rw [cond_true, Nat.testBit_xor]
      cases h1 : p.testBit S <;> cases h2 : I.testBit S <;> rw [h1, h2] at h <;> simp at h ⊢ <;> omega
    | false =>
      rw [cond_false, addP_val ps, Nat.testBit_xor, Nat.testBit_and]
      cases h1 : p.testBit S <;> cases h2 : I.testBit S <;> simp <;> omega
theorem addP_fold {α : Type} (f : α → Nat) {S : Nat} : ∀ (l : List α) (ps : List Nat), val (l.foldl (fun ps x => addP ps (f x)) ps) S = val ps S + (l.map (fun x => if (f x).testBit S then 1 else 0)).sum
  | [], ps => by simp
  | a :: t, ps => by rw [List.foldl_cons, addP_fold f t, addP_val, List.map_cons, List.sum_cons]; omega
theorem val_bits {a b : Nat} : ∀ ps, val ps a = val ps b → ∀ p, p ∈ ps → p.testBit a = p.testBit b
  | [], _, p, hp => absurd hp List.not_mem_nil
  | q :: ps, h, p, hp => by
    simp only [val] at h
    have h1 : q.testBit a = q.testBit b := by cases x : q.testBit a <;> cases y : q.testBit b <;> rw [x, y] at h <;> simp at h ⊢ <;> omega
    rcases List.mem_cons.mp hp with rfl | hp
    · exact h1
    · rw [h1] at h
      exact val_bits ps (by omega) p hp
def pairs : List (Nat × Nat) := (List.range 16).flatMap (fun x => (List.range 16).map (fun y => (x, y)))
def pcP : List Nat := (List.range 16).foldl (fun ps e => addP ps (mkA 16 e)) []
def trP : List Nat := pairs.foldl (fun ps q => addP ps (mkA 16 q.1 &&& (mkA 16 q.2 &&& mkA 16 (q.1 ^^^ q.2)))) []
def sel (S e : Nat) : Nat := if S.testBit e then e else 0
def xs (S : Nat) : Nat := (List.range 16).foldl (fun a e => a ^^^ sel S e) 0
def xP (i : Nat) : Nat := (List.range 16).foldl (fun a e => a ^^^ (bif e.testBit i then mkA 16 e else 0)) 0
def zP : Nat := xP 0 ||| (xP 1 ||| (xP 2 ||| xP 3))
def chkP : List Nat → Nat → Bool
  | [], F => Nat.ble (pcB 16 F) 2560
  | p :: ps, F => bif Nat.beq F 0 then true else chkP ps (F &&& p) && chkP ps (F ^^^ (F &&& p))
theorem chkP_ok : ∀ ps F x0, chkP ps F = true → F.testBit x0 = true → cntB (fun x => F.testBit x && ps.all (fun p => p.testBit x == p.testBit x0)) (2 ^ 16) ≤ 2560
  | [], F, x0, h, _ => Nat.le_trans (pcB_ok 16 F _ (fun S _ hp => by simpa using hp)) (Nat.le_of_ble_eq_true h)
  | p :: ps, F, x0, h, h0 => by
    have hF : Nat.beq F 0 = false := Bool.eq_false_iff.mpr (fun q => by rw [beq_iff.mp q, Nat.zero_testBit] at h0; cases h0)
    simp only [chkP, hF, cond_false, Bool.and_eq_true] at h
    cases hp : p.testBit x0 with
    | true =>
      have := chkP_ok ps (F &&& p) x0 h.1 (by rw [Nat.testBit_and, h0, hp]; rfl)
      rw [cntB_cong (q := fun x => (F &&& p).testBit x && ps.all (fun p => p.testBit x == p.testBit x0))]
      · exact this
      · intro x _
        simp only [List.all_cons, hp, Nat.testBit_and]
        cases F.testBit x <;> cases p.testBit x <;> simp
    | false =>
      have := chkP_ok ps (F ^^^ (F &&& p)) x0 h.2 (by rw [Nat.testBit_xor, Nat.testBit_and, h0, hp]; rfl)
      rw [cntB_cong (q := fun x => (F ^^^ (F &&& p)).testBit x && ps.all (fun p => p.testBit x == p.testBit x0))]
      · exact this
      · intro x _
        simp only [List.all_cons, hp, Nat.testBit_xor, Nat.testBit_and]
        cases F.testBit x <;> cases p.testBit x <;> simp
set_option maxRecDepth 1000000 in
theorem chkP_all : chkP (pcP ++ (trP ++ [zP])) (2 ^ (2 ^ 16) - 1) = true := by decide +kernel
