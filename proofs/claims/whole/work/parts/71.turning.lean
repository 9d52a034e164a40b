/-! the turns that the class holds -/
theorem m_cp {β : Type} {w : Wd} {ks ns kd nd sp dp n : Nat} (h1 : sp + n ≤ ns) (h2 : dp + n ≤ nd) (h3 : ns < 2 ^ 31) (h4 : nd < 2 ^ 31) (f : Wd → Option β) : cpI w ks ns kd nd (nI sp) (nI dp) (nI n) f = f (cpW w ks kd sp dp n) := by
  have a1 := nI_clamp (n := sp) (by omega)
  have a2 := nI_clamp (n := dp) (by omega)
  have a3 := nI_clamp (n := n) (by omega)
  unfold cpI
  rw [if_pos]
  · rw [a1, a2, a3]
  · unfold okC
    rw [a1, a2, a3]
    simp [nI_pos (n := sp) (by omega), nI_pos (n := dp) (by omega), nI_pos (n := n) (by omega), h1, h2]
section TURNING
variable {n : Nat} {T : Nat → Nat → Nat} {iv : Nat → Nat} {gens ord : List Nat} {frm by_ rch : Nat → Nat}
theorem ord_all (hg : Gp n T iv) (hO : BO n T gens ord frm by_ rch) {L : Nat} (hL : L + 1 = gens.length) : ord.take (rch L) = ord ∧ ∀ x, x < n → x ∈ ord := by
  have hr := hO.2.2.2.2.1 L hL
  have hE := (hO.2.2.2.1 L (by omega)).2.2
  have e : ord.take (rch L) = ord := List.take_of_length_le (by rw [hr, hO.2.2.1]; exact Nat.le_refl _)
  rw [e] at hE
  refine ⟨e, fun y hy => ?_⟩
  apply Classical.byContradiction
  intro hn
  have := nodup_sub ord ((List.range n).erase y) hE.1 (fun x hx => (List.mem_erase_of_ne (fun (q : x = y) => hn (by rw [← q]; exact hx))).mpr (List.mem_range.mpr (hE.2.1 x hx)))
  rw [List.length_erase_of_mem (List.mem_range.mpr hy), List.length_range, hO.2.2.1] at this
  omega
/-- a turn that sends the first generators so -/
def mts (gens : List Nat) (k : Nat) (gl φ : Nat → Nat) : Prop := ∀ (l g : Nat), l < k → gens[l]? = some g → φ g = gl l
theorem fit_of (hg : Gp n T iv) (hO : BO n T gens ord frm by_ rch) {L : Nat} (hL : L < gens.length) {gl s : Nat → Nat} (hs : WK (ord.take (rch L)) T frm by_ gl s) {ψ : Nat → Nat} (hψ : AUT n T ψ) (hm : mts gens (L + 1) gl ψ) : InjO (ord.take (rch L)) s ∧ fitC T gens L (ord.take (rch L)) T gl s := by
  obtain ⟨hR1, hRn, hE⟩ := hO.2.2.2.1 L hL
  have := walk_eq' hg hE (fun g h => (hO.2.1 g h).2) hs (aut_zero hg hψ) (fun x y hx hy => hψ.2.1 x y (hE.2.1 x hx) (hE.2.1 y hy)) (fun lev g h1 h2 => hm lev g (by omega) h2)
  refine ⟨fun x y hx hy e => ?_, this.1⟩
  rw [← this.2 x hx, ← this.2 y hy] at e
  exact hψ.2.2 x y (hE.2.1 x hx) (hE.2.1 y hy) e
theorem aut_of (hg : Gp n T iv) (hO : BO n T gens ord frm by_ rch) {L : Nat} (hL : L + 1 = gens.length) {gl s : Nat → Nat} (hgl : ∀ l, l ≤ L → gl l < n) (hs : WK (ord.take (rch L)) T frm by_ gl s) (h1 : InjO (ord.take (rch L)) s) (h2 : fitC T gens L (ord.take (rch L)) T gl s) : AUT n T s ∧ mts gens (L + 1) gl s := by
  obtain ⟨hR1, hRn, hE⟩ := hO.2.2.2.1 L (by omega)
  obtain ⟨e, ha⟩ := ord_all hg hO hL
  have hgn := fun g (h : g ∈ gens) => (hO.2.1 g h).2
  rw [e] at hE hs h1 h2
  exact ⟨⟨fun x hx => walk_mem_lt hE (Mon_T hg) hgl hs (ha x hx), fun x y hx hy => (walk_hom' hg hE hgn (Mon_T hg) hgl hs h2 (ha x hx) (ha y hy)).2, fun x y hx hy => h1 x y (ha x hx) (ha y hy)⟩, fun l g hl h => walk_gen hg hE hgn (Mon_T hg) hgl hs h2 (by omega) h⟩
def tcK (w w' : Wd) : Prop := (∀ k, k ≠ 30 → k ≠ 31 → w'.1 k = w.1 k) ∧ w'.2 = w.2
theorem tcK_tr {a b c : Wd} (h : tcK a b) (g : tcK b c) : tcK a c := ⟨fun k x y => (g.1 k x y).trans (h.1 k x y), g.2.trans h.2⟩
def extO (n : Nat) (T : Nat → Nat → Nat) (gens : List Nat) (L : Nat) (gl : Nat → Nat) (w w' : Wd) (r : Option (Int32 × Wd)) (bad : Prop) : Prop :=
  tcK w w' ∧ w'.1 31 0 = 0 ∧ (∀ l, l < L → w'.1 30 l = w.1 30 l) ∧ ((r = some (1, w') ∧ ∃ ψ, AUT n T ψ ∧ mts gens L gl ψ ∧ ∀ x, x < n → w'.1 31 x = nI (ψ x)) ∨ (r = some (0, w') ∧ bad))
theorem x_ext (hg : Gp n T iv) (hO : BO n T gens ord frm by_ rch) : ∀ d L gl w fu, L + d = gens.length → 1 ≤ L → d < fu → GX w n T iv → BX w gens ord frm by_ rch → w.1 29 4 = 0 → w.1 31 0 = 0 → (∀ l, l < L → w.1 30 l = nI (gl l) ∧ gl l < n) → (d = 0 → ∃ ψ, AUT n T ψ ∧ mts gens L gl ψ ∧ ∀ x, x < n → w.1 31 x = nI (ψ x)) → ∃ w', extO n T gens L gl w w' (f_X10_extend fu (nI L) w) (¬ ∃ ψ, AUT n T ψ ∧ mts gens L gl ψ) := by
  have h16 := hg.1.2
  have hl4 := hO.1
  intro d
  induction d with
  | zero =>
    intro L gl w fu hd h1 hf hG hB hr h0 hgo hse
    obtain ⟨fu, rfl⟩ : ∃ q, fu = q + 1 := ⟨fu - 1, by omega⟩
    refine ⟨w, ⟨fun _ _ _ => rfl, rfl⟩, h0, fun _ _ => rfl, Or.inl ⟨?_, hse rfl⟩⟩
    show f_X10_extendb (f_X10_extend fu) (nI L) w = _
    unfold f_X10_extendb
    rw [hB.1, if_pos (nI_le (by omega) (by omega))]
  | succ d ih =>
    intro L gl w fu hd h1 hf hG hB hr h0 hgo _
    obtain ⟨fu, rfl⟩ : ∃ q, fu = q + 1 := ⟨fu - 1, by omega⟩
    have hL : L < gens.length := by omega
    have hgL := List.getElem?_eq_getElem hL
    obtain ⟨g, hgd⟩ : ∃ g, g = gens[L] := ⟨_, rfl⟩
    rw [← hgd] at hgL
    have hgn := hO.2.1 g (List.mem_of_getElem? hgL)
    have key : ∀ k x w f, x + k = n → 1 ≤ x → k < f → GX w n T iv → BX w gens ord frm by_ rch → w.1 29 4 = 0 → w.1 31 0 = 0 → (∀ l, l < L → w.1 30 l = nI (gl l) ∧ gl l < n) → ∃ w', extO n T gens L gl w w' (f_X10_extend_L20 (f_X10_extend fu) f (nI L) (nI x) w) (∀ ψ, AUT n T ψ → mts gens L gl ψ → ψ g < x) := by
      intro k
      induction k with
      | zero =>
        intro x w f hx h1x hf hG hB hr h0 hgo
        obtain ⟨f, rfl⟩ : ∃ q, f = q + 1 := ⟨f - 1, by omega⟩
        refine ⟨w, ⟨fun _ _ _ => rfl, rfl⟩, h0, fun _ _ => rfl, Or.inr ⟨?_, fun ψ h _ => by rw [show x = n by omega]; exact h.1 g hgn.2⟩⟩
        show f_X10_extend_B20b (f_X10_extend fu) (f_X10_extend_L20 (f_X10_extend fu) f) (nI L) (nI x) w = _
        unfold f_X10_extend_B20b
        rw [hG.1, if_pos (nI_le (by omega) (by omega))]
      | succ k ihk =>
        intro x w f hx h1x hf hG hB hr h0 hgo
        obtain ⟨f, rfl⟩ : ∃ q, f = q + 1 := ⟨f - 1, by omega⟩
        obtain ⟨w1, hw1⟩ : ∃ w1, w1 = sI w 30 L (nI x) := ⟨_, rfl⟩
        have k1 : ∀ k, k ≠ 30 → w1.1 k = w.1 k := fun k a => by rw [hw1]; funext j; rw [sI_at]; simp [a]
        have k1o : ∀ l, w1.1 30 l = if l = L then nI x else w.1 30 l := fun l => by
          rw [hw1, sI_at]
          by_cases c : l = L
          · subst c; simp
          · rw [if_neg (fun z => c z.2), if_neg c]
        obtain ⟨gl', hgl'⟩ : ∃ gl', gl' = updN gl L x := ⟨_, rfl⟩
        have hgo1 : ∀ l, l ≤ L → w1.1 30 l = nI (gl' l) ∧ gl' l < n := fun l hl => by
          rw [k1o, hgl']
          unfold updN
          by_cases c : l = L
          · rw [if_pos c, if_pos c]; exact ⟨rfl, by omega⟩
          · rw [if_neg c, if_neg c]; exact hgo l (by omega)
        have hG1 : GX w1 n T iv := GX_cong hG (k1 6 (by decide)) (k1 9 (by decide)) (k1 10 (by decide))
        have hB1 : BX w1 gens ord frm by_ rch := BX_cong hB (by rw [k1 13 (by decide)]) (k1 14 (by decide)) (k1 15 (by decide)) (k1 16 (by decide)) (k1 17 (by decide)) (k1 18 (by decide))
        obtain ⟨hR1, hRn, hE⟩ := hO.2.2.2.1 L hL
        obtain ⟨s, hs⟩ := walk_ex hE T gl'
        obtain ⟨w3, b, c1, c2, c3, c4, c5, c6⟩ := x_fitT hG1 hg (by rw [k1 29 (by decide)]; exact hr) hB1 hO hL hgo1 (by rw [k1 31 (by decide)]; exact h0) hs
        have mconv : ∀ ψ, AUT n T ψ → (mts gens (L + 1) gl' ψ ↔ mts gens L gl ψ ∧ ψ g = x) := fun ψ _ => by
          constructor
          · intro h
            refine ⟨fun l g' hl hg' => ?_, ?_⟩
            · have := h l g' (by omega) hg'
              rw [hgl'] at this; unfold updN at this; rw [if_neg (by omega)] at this; exact this
            · have := h L g (by omega) hgL
              rw [hgl'] at this; unfold updN at this; rw [if_pos rfl] at this; exact this
          · rintro ⟨h, e⟩ l g' hl hg'
            rw [hgl']; unfold updN
            by_cases c : l = L
            · subst c; rw [hgL] at hg'; rw [if_pos rfl, ← Option.some.inj hg']; exact e
            · rw [if_neg c]; exact h l g' (by omega) hg'
        have tk3 : tcK w w3 := ⟨fun k a b => by rw [c2 k b, k1 k a], by rw [c3, hw1]; rfl⟩
        have eL : ∀ r, f_X10_extend_B20b (f_X10_extend fu) (f_X10_extend_L20 (f_X10_extend fu) f) (nI L) (nI x) w = r → f_X10_extend_L20 (f_X10_extend fu) (f + 1) (nI L) (nI x) w = r := fun r h => h
        have st : f_X10_extend_L20 (f_X10_extend fu) (f + 1) (nI L) (nI x) w = if b then bnd2 (f_X10_extend fu (nI (L + 1)) w3) (fun x4 w5 => if x4 = 0 then f_X10_extend_L20 (f_X10_extend fu) f (nI L) (nI (x + 1)) w5 else some (1, w5)) else f_X10_extend_L20 (f_X10_extend fu) f (nI L) (nI (x + 1)) w3 := by
          apply eL
          unfold f_X10_extend_B20b
          rw [hG.1, if_neg (nI_ge (a := x) (by omega) (by omega)), m_wr (by omega) (by decide), ← hw1, c1, bnd2_some, nI_1, nI_1]
          cases b <;> simp [one_ne]
        have go : ∀ w5, tcK w w5 → w5.1 31 0 = 0 → (∀ l, l < L → w5.1 30 l = w.1 30 l) → (¬ ∃ ψ, AUT n T ψ ∧ mts gens L gl ψ ∧ ψ g = x) → f_X10_extend_L20 (f_X10_extend fu) (f + 1) (nI L) (nI x) w = f_X10_extend_L20 (f_X10_extend fu) f (nI L) (nI (x + 1)) w5 → ∃ w', extO n T gens L gl w w' (f_X10_extend_L20 (f_X10_extend fu) (f + 1) (nI L) (nI x) w) (∀ ψ, AUT n T ψ → mts gens L gl ψ → ψ g < x) := by
          intro w5 t1 t2 t3 t4 t5
          obtain ⟨w', u1, u2, u3, u4⟩ := ihk (x + 1) w5 f (by omega) (by omega) (by omega) (GX_cong hG (t1.1 6 (by decide) (by decide)) (t1.1 9 (by decide) (by decide)) (t1.1 10 (by decide) (by decide))) (BX_cong hB (by rw [t1.1 13 (by decide) (by decide)]) (t1.1 14 (by decide) (by decide)) (t1.1 15 (by decide) (by decide)) (t1.1 16 (by decide) (by decide)) (t1.1 17 (by decide) (by decide)) (t1.1 18 (by decide) (by decide))) (by rw [t1.1 29 (by decide) (by decide)]; exact hr) t2 (fun l hl => by rw [t3 l hl]; exact hgo l hl)
          refine ⟨w', tcK_tr t1 u1, u2, fun l hl => (u3 l hl).trans (t3 l hl), ?_⟩
          rw [t5]
          rcases u4 with h | ⟨h, h'⟩
          · exact Or.inl h
          · refine Or.inr ⟨h, fun ψ a b => ?_⟩
            have := h' ψ a b
            rcases Nat.lt_or_ge (ψ g) x with z | z
            · exact z
            · exact absurd ⟨ψ, a, b, by omega⟩ t4
        cases hb : b with
        | false =>
          rw [hb, if_neg Bool.false_ne_true] at st
          refine go w3 tk3 c4 (fun l hl => by rw [c2 30 (by decide), k1o, if_neg (by omega)]) ?_ st
          rintro ⟨ψ, a1, a2, a3⟩
          have := c5.mpr (fit_of hg hO hL hs a1 ((mconv ψ a1).mpr ⟨a2, a3⟩))
          rw [hb] at this; cases this
        | true =>
          rw [hb, if_pos rfl] at st
          have hb5 := c5.mp hb
          obtain ⟨w5, u1, u2, u3, u4⟩ := ih (L + 1) gl' w3 fu (by omega) (by omega) (by omega) (GX_cong hG1 (c2 6 (by decide)) (c2 9 (by decide)) (c2 10 (by decide))) (BX_cong hB1 (by rw [c2 13 (by decide)]) (c2 14 (by decide)) (c2 15 (by decide)) (c2 16 (by decide)) (c2 17 (by decide)) (c2 18 (by decide))) (by rw [c2 29 (by decide), k1 29 (by decide)]; exact hr) c4 (fun l hl => by rw [c2 30 (by decide)]; exact hgo1 l (by omega)) (fun hd0 => by
            subst hd0
            obtain ⟨e1, e2⟩ := aut_of hg hO (by omega) (fun l hl => (hgo1 l hl).2) hs hb5.1 hb5.2
            refine ⟨s, e1, e2, fun x hx => c6 hb x ?_⟩
            have := ord_all hg hO (L := L) (by omega)
            rw [this.1]; exact this.2 x hx)
          have h30 : ∀ l, l < L → w5.1 30 l = w.1 30 l := fun l hl => by rw [u3 l (by omega), c2 30 (by decide), k1o, if_neg (by omega)]
          rcases u4 with ⟨v1, ψ, v2, v3, v4⟩ | ⟨v1, v2⟩
          · rw [v1, bnd2_some, if_neg one_ne] at st
            exact ⟨w5, tcK_tr tk3 u1, u2, h30, Or.inl ⟨st, ψ, v2, ((mconv ψ v2).mp v3).1, v4⟩⟩
          · rw [v1, bnd2_some, if_pos rfl] at st
            refine go w5 (tcK_tr tk3 u1) u2 h30 ?_ st
            rintro ⟨ψ, a1, a2, a3⟩
            exact v2 ⟨ψ, a1, (mconv ψ a1).mpr ⟨a2, a3⟩⟩
    obtain ⟨w', u1, u2, u3, u4⟩ := key (n - 1) 1 w FU (by omega) (by omega) (FU_big (by omega)) hG hB hr h0 hgo
    have eS : f_X10_extend (fu + 1) (nI L) w = f_X10_extend_L20 (f_X10_extend fu) FU (nI L) (nI 1) w := by
      show f_X10_extendb (f_X10_extend fu) (nI L) w = _
      unfold f_X10_extendb
      rw [hB.1, if_neg (nI_ge hL (by omega)), if_pos (show nI L < (4 : Int32) from nI_lt (b := 4) (by omega) (by decide))]
      rfl
    refine ⟨w', u1, u2, u3, ?_⟩
    rw [eS]
    rcases u4 with h | ⟨h, h'⟩
    · exact Or.inl h
    · refine Or.inr ⟨h, ?_⟩
      rintro ⟨ψ, a, b⟩
      have z := h' ψ a b
      have e0 := aut_zero hg a
      have := a.2.2 g 0 hgn.2 (by omega) (by rw [e0]; omega)
      omega
/-! all of them -/
def fixL (gens : List Nat) (L : Nat) (φ : Nat → Nat) : Prop := ∀ y, y ∈ gens.take L → φ y = y
theorem fix_mts {L : Nat} (hL : L ≤ gens.length) {φ : Nat → Nat} : fixL gens L φ ↔ mts gens L (fun l => gens.getD l 0) φ := by
  constructor
  · intro h l g hl hg
    have := h g (List.mem_of_getElem? (get_take hg hl))
    show φ g = gens.getD l 0
    rw [this, List.getD_eq_getElem?_getD, hg]; rfl
  · intro h y hy
    obtain ⟨j, hj⟩ := List.getElem?_of_mem hy
    obtain ⟨j1, j2⟩ := take_get hj
    have := h j y j2 j1
    rw [this]
    show gens.getD j 0 = y
    rw [List.getD_eq_getElem?_getD, j1]; rfl
noncomputable def pG (n : Nat) (T : Nat → Nat → Nat) (gens : List Nat) (L g x : Nat) : Bool := dcd (∃ φ, AUT n T φ ∧ (∀ y, y ∈ gens.take L → φ y = y) ∧ φ g = x)
def rws (n : Nat) (w : Wd) (ph : Nat → Nat → Nat) (m : Nat) : Prop := ∀ i x, i < m → x < n → w.1 25 (16 * i + x) = nI (ph i x)
/-- one level's rows -/
def lvl (n : Nat) (T : Nat → Nat → Nat) (gens : List Nat) (ph : Nat → Nat → Nat) (L g a b x : Nat) : Prop := (∀ i, a ≤ i → i < b → AUT n T (ph i) ∧ fixL gens L (ph i)) ∧ ∀ ψ, AUT n T ψ → fixL gens L ψ → ψ g < x → 0 < ψ g → ∃ i, a ≤ i ∧ i < b ∧ ph i g = ψ g
def TR (n : Nat) (T : Nat → Nat → Nat) (gens : List Nat) (w : Wd) : Prop := ∃ (ph : Nat → Nat → Nat) (st : Nat → Nat), w.1 24 8 = nI (cntA n T [] gens) ∧ st gens.length ≤ 60 ∧ (0 < gens.length → ∀ L, L ≤ gens.length → w.1 26 L = nI (st L)) ∧ (∀ L, L < gens.length → st L ≤ st (L + 1)) ∧ rws n w ph (st gens.length) ∧ ∀ (L g : Nat), gens[L]? = some g → lvl n T gens ph L g (st L) (st (L + 1)) n
def TRI (n : Nat) (T : Nat → Nat → Nat) (gens : List Nat) (w : Wd) : Prop := w.1 24 8 = 0 ∨ TR n T gens w
theorem cnt_pG_le {L g x : Nat} (hg : Gp n T iv) (hgn : 0 < g ∧ g < n) : cntB (pG n T gens L g) x ≤ x - 1 := by
  have h0 : pG n T gens L g 0 = false := by
    unfold pG
    rw [dcd_false]
    rintro ⟨φ, h1, -, h3⟩
    have := h1.2.2 g 0 hgn.2 (by omega) (by rw [h3, aut_zero hg h1])
    omega
  induction x with
  | zero => exact Nat.le_refl _
  | succ x ih =>
    simp only [cntB]
    rcases Nat.eq_zero_or_pos x with z | z
    · subst z; rw [h0]; simp [cntB]
    · split <;> omega
end TURNING
