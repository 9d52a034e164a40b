/-! all free sets, rising -/
theorem rng_foldl {σ : Type} (g : Nat → σ → σ) (n : Nat) (s : σ) : rng g 0 n s = (List.range n).foldl (fun s i => g i s) s := by
  induction n with
  | zero => rfl
  | succ n ih => rw [rng_succ, List.range_succ, List.foldl_append, ← ih, Nat.zero_add]; rfl
theorem list_getD (Q : List Nat) : Q = (List.range Q.length).map (fun i => Q.getD i 0) := by
  apply List.ext_getElem
  · simp
  · intro i h1 h2; simp [h1]
theorem rng_list {σ : Type} (g : Nat → σ → σ) (Q : List Nat) (s : σ) : rng (fun i s => g (Q.getD i 0) s) 0 Q.length s = Q.foldl (fun s x => g x s) s := by
  rw [rng_foldl]
  conv => rhs; rw [list_getD Q]
  rw [List.foldl_map]
theorem getD_lt {Q : List Nat} {i : Nat} (h : i < Q.length) : Q[i]? = some (Q.getD i 0) := by simp [h]
theorem or_add {x e : Nat} (hx : x < 2 ^ e) : 2 ^ e + x = x ||| 2 ^ e := by
  have := Nat.two_pow_add_eq_or_of_lt hx 1
  rw [Nat.mul_one] at this
  rw [this, Nat.or_comm]
def FLe (n : Nat) (T : Nat → Nat → Nat) (e : Nat) : List Nat := (List.range (2 ^ e)).filter (fr n T)
def FL (n : Nat) (T : Nat → Nat → Nat) : List Nat := FLe n T n
def rowV (n : Nat) (T : Nat → Nat → Nat) (S : Nat) : Nat := S + kd n T S * 65536
def FR (n : Nat) (T : Nat → Nat → Nat) (w : Wd) : Prop := w.1 19 2 = nI (FL n T).length ∧ ∀ i, i < (FL n T).length → w.1 20 i = nI (rowV n T ((FL n T).getD i 0))
def FRI (n : Nat) (T : Nat → Nat → Nat) (w : Wd) : Prop := w.1 19 2 = 0 ∨ FR n T w
section FREES
variable {n : Nat} {T : Nat → Nat → Nat} {iv : Nat → Nat}
theorem FL_foldl {σ : Type} (g : Nat → σ → σ) (s : σ) : (FL n T).foldl (fun s x => g x s) s = rng (fun i s => if fr n T i then g i s else s) 0 (2 ^ n) s := by
  rw [rng_foldl]
  unfold FL FLe
  rw [List.foldl_filter]
theorem FLe_mem {e S : Nat} : S ∈ FLe n T e ↔ S < 2 ^ e ∧ fr n T S = true := by unfold FLe; rw [List.mem_filter, List.mem_range]
theorem FL_get {i : Nat} (h : i < (FL n T).length) : (FL n T).getD i 0 < 2 ^ n ∧ fr n T ((FL n T).getD i 0) = true := by
  have : (FL n T).getD i 0 ∈ FL n T := by
    rw [List.getD_eq_getElem?_getD, List.getElem?_eq_getElem h]
    exact List.getElem_mem h
  exact FLe_mem.mp this
theorem FLe_succ (e : Nat) : FLe n T (e + 1) = FLe n T e ++ ((FLe n T e).filter (fun S => fr n T (S ||| 2 ^ e))).map (fun S => S ||| 2 ^ e) := by
  unfold FLe
  rw [Nat.pow_succ, Nat.mul_two, List.range_add, List.filter_append, List.filter_map]
  congr 1
  rw [List.filter_filter]
  have h1 : (List.range (2 ^ e)).filter (fr n T ∘ fun x => 2 ^ e + x) = (List.range (2 ^ e)).filter (fun a => fr n T (a ||| 2 ^ e) && fr n T a) := by
    apply List.filter_congr
    intro x hx
    rw [List.mem_range] at hx
    have e1 : 2 ^ e + x = x ||| 2 ^ e := or_add hx
    show fr n T (2 ^ e + x) = _
    rw [e1]
    cases c : fr n T (x ||| 2 ^ e) with
    | false => rfl
    | true =>
      rw [fr_sub (R := x ||| 2 ^ e) (fun y hy => (sb_or _ _ _).mpr (Or.inl hy)) c]
      rfl
  rw [h1]
  apply List.map_congr_left
  intro x hx
  rw [List.mem_filter, List.mem_range] at hx
  exact or_add hx.1
theorem FLe_len {d e : Nat} (h : d ≤ e) : (FLe n T d).length ≤ (FLe n T e).length := by
  apply List.Sublist.length_le
  apply List.Sublist.filter
  rw [List.range_sublist]
  exact Nat.pow_le_pow_right (by decide) h
theorem fr_has0 (hg : Gp n T iv) {S : Nat} (h : S.testBit 0 = true) : fr n T S = false := by
  have h1 := hg.1.1
  cases c : fr n T S with
  | false => rfl
  | true =>
    have := fr_iff.mp c 0 0 (by omega) (by omega) h h
    rw [(hg.2.2.1 0 (by omega)).1, h] at this
    cases this
theorem FLe_one (hg : Gp n T iv) : FLe n T 1 = [0] := by
  unfold FLe
  have e : List.range (2 ^ 1) = [0, 1] := by decide
  rw [e]
  simp only [List.filter_cons, fr_zero, ↓reduceIte, fr_has0 hg (S := 1) (by decide), List.filter_nil, Bool.false_eq_true]
theorem rowIs_cong {r r' : Nat → Int32} {Q : List Nat} (h : rowIs r Q) (h2 : ∀ k, k < Q.length → r' k = r k) : rowIs r' Q := by
  intro k x hk
  have := (List.getElem?_eq_some_iff.mp hk).1
  rw [h2 k this]; exact h k x hk
/-- one element more: the inner loop -/
theorem x_frees_in (hg : Gp n T iv) (hF : (FL n T).length < 3072) {e : Nat} (he : e < n) {w : Wd} (hG : GX w n T iv) (h1 : w.1 19 2 = nI (FLe n T e).length) (h2 : rowIs (w.1 20) (FLe n T e)) :
    ∃ w' : Wd, (∀ k : Int32 → Wd → Option (Int32 × Wd), f_X3_total_L44 k FU (nI e) (nI (FLe n T e).length) (nI 0) w = k (nI (e + 1)) w') ∧ (∀ k, k ≠ 19 → k ≠ 20 → w'.1 k = w.1 k) ∧ w'.2 = w.2 ∧ w'.1 19 2 = nI (FLe n T (e + 1)).length ∧ rowIs (w'.1 20) (FLe n T (e + 1)) := by
  have h16 := hg.1.2
  have hlen := FLe_len (n := n) (T := T) (show e + 1 ≤ n by omega)
  have hFl : (FLe n T n).length < 3072 := hF
  obtain ⟨Q, hQ⟩ : ∃ Q, Q = FLe n T e := ⟨_, rfl⟩
  have hQ1 : FLe n T (e + 1) = Q ++ (Q.filter (fun S => fr n T (S ||| 2 ^ e))).map (fun S => S ||| 2 ^ e) := by rw [hQ]; exact FLe_succ e
  have hQm : ∀ S, S ∈ Q → S < 2 ^ e ∧ fr n T S = true := fun S hS => FLe_mem.mp (hQ ▸ hS)
  rw [← hQ] at h1 h2 ⊢
  rw [hQ1, List.length_append] at hlen
  have key := lrunK (fun (k : Int32 → Wd → Option (Int32 × Wd)) f i (s : Wd) => f_X3_total_L44 k f (nI e) (nI Q.length) (nI i) s) Q.length (fun k s => k (nI (e + 1)) s) (fun i s => (∀ k, k ≠ 19 → k ≠ 20 → s.1 k = w.1 k) ∧ s.2 = w.2 ∧ s.1 19 2 = nI (Q ++ ((Q.take i).filter (fun S => fr n T (S ||| 2 ^ e))).map (fun S => S ||| 2 ^ e)).length ∧ rowIs (s.1 20) (Q ++ ((Q.take i).filter (fun S => fr n T (S ||| 2 ^ e))).map (fun S => S ||| 2 ^ e))) ?_ ?_ Q.length 0 w FU (by omega) (FU_big (by omega)) ⟨fun _ _ _ => rfl, rfl, by simpa using h1, by simpa using h2⟩
  · obtain ⟨w', ⟨a1, a2, a3, a4⟩, a5⟩ := key
    rw [List.take_length] at a3 a4
    exact ⟨w', a5, a1, a2, by rw [hQ1]; exact a3, by rw [hQ1]; exact a4⟩
  · rintro i s hi ⟨a1, a2, a3, a4⟩
    have hG1 : GX s n T iv := GX_cong hG (a1 6 (by decide) (by decide)) (a1 9 (by decide) (by decide)) (a1 10 (by decide) (by decide))
    have hm := hQm _ (List.getElem_mem hi)
    have hS6 : Q[i] < 2 ^ 16 := Nat.lt_of_lt_of_le hm.1 (Nat.pow_le_pow_right (by decide) (by omega))
    have etk : (Q.take (i + 1)).filter (fun S => fr n T (S ||| 2 ^ e)) = (Q.take i).filter (fun S => fr n T (S ||| 2 ^ e)) ++ (if fr n T (Q[i] ||| 2 ^ e) then [Q[i]] else []) := by
      rw [List.take_succ_eq_append_getElem hi, List.filter_append]
      congr 1
      simp only [List.filter_cons, List.filter_nil]
    obtain ⟨R, hR⟩ : ∃ R, R = Q ++ ((Q.take i).filter (fun S => fr n T (S ||| 2 ^ e))).map (fun S => S ||| 2 ^ e) := ⟨_, rfl⟩
    have hRl : R.length ≤ Q.length + ((Q.filter (fun S => fr n T (S ||| 2 ^ e))).map (fun S => S ||| 2 ^ e)).length := by
      rw [hR, List.length_append, List.length_map, List.length_map]
      have := List.Sublist.length_le ((List.take_sublist i Q).filter (fun S => fr n T (S ||| 2 ^ e)))
      omega
    have hrow : ∀ {β : Type} (f : Int32 → Option β), rdI s 20 3072 (nI i) f = f (nI Q[i]) := fun f => by
      rw [m_rd (by omega) (by decide)]
      have := a4 i Q[i] (by rw [List.getElem?_append_left hi]; exact List.getElem?_eq_getElem hi)
      rw [this]
    rw [← hR] at a3 a4
    have B : ∀ (k : Int32 → Wd → Option (Int32 × Wd)) f, f_X3_total_L44 k (f + 1) (nI e) (nI Q.length) (nI i) s = if fr n T (Q[i] ||| 2 ^ e) then f_X3_total_L44 k f (nI e) (nI Q.length) (nI (i + 1)) (sI (sI s 19 2 (nI (R.length + 1))) 20 R.length (nI (Q[i] ||| 2 ^ e))) else f_X3_total_L44 k f (nI e) (nI Q.length) (nI (i + 1)) s := by
      intro k f
      show f_X3_total_B44b k (f_X3_total_L44 k f) (nI e) (nI Q.length) (nI i) s = _
      unfold f_X3_total_B44b
      rw [if_neg (nI_ge hi (by omega)), a3, if_neg (show ¬ (3072 : Int32) ≤ nI R.length from nI_ge (b := 3072) (by omega) (by decide)), hrow, x_stays hG1 hg hS6 he hm.2, bnd_some, nI_1]
      cases c : fr n T (Q[i] ||| 2 ^ e) with
      | false => simp only [Bool.false_eq_true, ↓reduceIte]
      | true =>
        rw [if_pos rfl, if_neg one_ne, if_pos rfl, m_letW, nI_1]
        have hrow2 : ∀ {β : Type} (f : Int32 → Option β), rdI (sI s 19 2 (nI (R.length + 1))) 20 3072 (nI i) f = f (nI Q[i]) := fun f => by
          rw [← hrow f, m_rd (by omega) (by decide), m_rd (by omega) (by decide), sI_at, if_neg (by rintro ⟨h, -⟩; revert h; decide)]
        rw [hrow2, m_shl1 (by omega), m_or, m_wr (by omega) (by decide)]
    cases c : fr n T (Q[i] ||| 2 ^ e) with
    | false =>
      refine ⟨s, ⟨a1, a2, ?_, ?_⟩, fun k f => by rw [B k f, c]; rfl⟩
      · rw [etk, c]; simp only [Bool.false_eq_true, ↓reduceIte, List.append_nil]; rw [← hR]; exact a3
      · rw [etk, c]; simp only [Bool.false_eq_true, ↓reduceIte, List.append_nil]; rw [← hR]; exact a4
    | true =>
      have e5 : Q ++ ((Q.take (i + 1)).filter (fun S => fr n T (S ||| 2 ^ e))).map (fun S => S ||| 2 ^ e) = R ++ [Q[i] ||| 2 ^ e] := by
        rw [etk, c, if_pos rfl, List.map_append, hR, List.append_assoc]; rfl
      refine ⟨sI (sI s 19 2 (nI (R.length + 1))) 20 R.length (nI (Q[i] ||| 2 ^ e)), ⟨fun k b1 b2 => ?_, a2, ?_, ?_⟩, fun k f => by rw [B k f, c]; rfl⟩
      · rw [← a1 k b1 b2]; funext j; rw [sI_at, sI_at]; simp [b1, b2]
      · rw [e5, List.length_append, sI_at, sI_at]; simp
      · rw [e5]
        apply rowIs_add a4
        · rw [sI_at]; simp
        · intro k hk
          rw [sI_at, sI_at, if_neg (fun q => Nat.ne_of_lt hk q.2), if_neg (by rintro ⟨h, -⟩; revert h; decide)]
  · rintro k f s ⟨a1, a2, a3, a4⟩
    show f_X3_total_B44b k (f_X3_total_L44 k f) (nI e) (nI Q.length) (nI Q.length) s = _
    unfold f_X3_total_B44b
    rw [if_pos (nI_le (Nat.le_refl _) (by omega)), nI_1]
theorem rowV_lt {S : Nat} (h : S < 2 ^ 16) : rowV n T S < 2 ^ 18 := by
  have := kd_lt (n := n) (T := T) S
  unfold rowV; omega
theorem x_shl16 {S k : Nat} (hS : S < 2 ^ 16) (hk : k < 3) : nI S ||| (nI k <<< ((16 : Int32) &&& 31)) = nI (S + k * 65536) := by
  rw [show ((16 : Int32) &&& 31) = (nI 16 &&& 31) from rfl, pk_shlN (n := k) (nI 16 &&& 31) 16 (m_sl 16 (by decide)) (by omega), m_or]
  congr 1
  have := Nat.two_pow_add_eq_or_of_lt hS k
  rw [Nat.or_comm, show k * 2 ^ 16 = 2 ^ 16 * k by omega, ← this]
  omega
theorem FL_pos : 0 < (FL n T).length := List.length_pos_of_mem (FLe_mem.mpr ⟨Nat.two_pow_pos n, fr_zero⟩)
theorem FL_zero : (FL n T).getD 0 0 = 0 := by
  unfold FL FLe
  obtain ⟨m, hm⟩ : ∃ m, 2 ^ n = m + 1 := ⟨2 ^ n - 1, by have := Nat.two_pow_pos n; omega⟩
  rw [hm, List.range_succ_eq_map, List.filter_cons, fr_zero]
  rfl
theorem x_total {w : Wd} (hG : GX w n T iv) (hg : Gp n T iv) (hF : (FL n T).length < 3072) (hI : FRI n T w) : ∃ w', f_X3_total w = some (nI (FL n T).length, w') ∧ FR n T w' ∧ (∀ k, k ≠ 19 → k ≠ 20 → w'.1 k = w.1 k) ∧ w'.2 = w.2 := by
  have h16 := hg.1.2
  have h1n := hg.1.1
  have hp := FL_pos (n := n) (T := T)
  unfold f_X3_total
  rcases hI with hI | hI
  · rw [hI, if_pos (by decide)]
    rw [show wrI w 20 3072 0 0 (fun w1 => letW (sI w1 19 2 1) fun w2 => f_X3_total_L26 FU 1 w2) = f_X3_total_L26 FU (nI 1) (sI (sI w 20 0 0) 19 2 1) from m_wr (i := 0) (by decide) (by decide) _]
    have key := lrun (fun f i (s : Wd) => f_X3_total_L26 f (nI i) s) n (fun s => f_X3_total_L116 FU 0 s) (fun i s => (∀ k, k ≠ 19 → k ≠ 20 → s.1 k = w.1 k) ∧ s.2 = w.2 ∧ s.1 19 2 = nI (FLe n T i).length ∧ rowIs (s.1 20) (FLe n T i)) ?_ ?_ (n - 1) 1 (sI (sI w 20 0 0) 19 2 1) FU (by omega) (FU_big (by omega)) ⟨fun k b1 b2 => by funext j; rw [sI_at, sI_at]; simp [b1, b2], rfl, by rw [FLe_one hg, sI_at]; simp; rfl, by
        rw [FLe_one hg]
        intro k x hk
        match k, hk with
        | 0, hk => cases hk; rw [sI_at, sI_at]; simp; rfl
        | k + 1, hk => simp at hk⟩
    · obtain ⟨w1, ⟨a1, a2, a3, a4⟩, a5⟩ := key
      rw [a5]
      have hG1 : GX w1 n T iv := GX_cong hG (a1 6 (by decide) (by decide)) (a1 9 (by decide) (by decide)) (a1 10 (by decide) (by decide))
      obtain ⟨Q, hQ⟩ : ∃ Q, Q = FL n T := ⟨_, rfl⟩
      have hQm : ∀ i, i < Q.length → Q.getD i 0 < 2 ^ n ∧ fr n T (Q.getD i 0) = true := fun i hi => by rw [hQ] at hi ⊢; exact FL_get hi
      have a3 : w1.1 19 2 = nI Q.length := by rw [hQ]; exact a3
      have a4 : rowIs (w1.1 20) Q := by rw [hQ]; exact a4
      unfold FR
      rw [← hQ] at hp hF ⊢
      have key := lrun (fun f i (s : Wd) => f_X3_total_L116 f (nI i) s) Q.length (fun s => some (nI Q.length, s)) (fun i s => (∀ k, k ≠ 20 → s.1 k = w1.1 k) ∧ s.2 = w1.2 ∧ ∀ j, j < Q.length → s.1 20 j = nI (if j < i then rowV n T (Q.getD j 0) else Q.getD j 0)) ?_ ?_ Q.length 0 w1 FU (by omega) (FU_big (by omega)) ⟨fun _ _ => rfl, rfl, fun j hj => by rw [if_neg (by omega)]; exact a4 j _ (getD_lt hj)⟩
      · obtain ⟨w', ⟨b1, b2, b3⟩, b4⟩ := key
        exact ⟨w', b4, ⟨by rw [b1 19 (by decide)]; exact a3, fun i hi => by rw [b3 i hi, if_pos hi]⟩, fun k c1 c2 => (b1 k c2).trans (a1 k c1 c2), b2.trans a2⟩
      · rintro i s hi ⟨b1, b2, b3⟩
        have hG2 : GX s n T iv := GX_cong hG1 (b1 6 (by decide)) (b1 9 (by decide)) (b1 10 (by decide))
        have hm := hQm i hi
        have hS6 := le16 hm.1 h16
        refine ⟨sI s 20 i (nI (rowV n T (Q.getD i 0))), ⟨fun k hk => ?_, b2, fun j hj => ?_⟩, fun f => ?_⟩
        · rw [← b1 k hk]; funext j; rw [sI_at]; simp [hk]
        · rw [sI_at]
          by_cases c : j = i
          · subst c; simp
          · rw [if_neg (fun r => c r.2), b3 j hj]
            by_cases r : j < i
            · rw [if_pos r, if_pos (by omega)]
            · rw [if_neg r, if_neg (by omega)]
        · show f_X3_total_B116b (f_X3_total_L116 f) (nI i) s = _
          unfold f_X3_total_B116b
          rw [b1 19 (by decide), a3, if_neg (nI_ge hi (by omega)), m_rd (by omega) (by decide), m_rd (by omega) (by decide), b3 i hi, if_neg (by omega), x_kind hG2 hg hS6 hm.2, bnd_some, m_wr (by omega) (by decide), nI_1, x_shl16 hS6 (kd_lt _)]
          rfl
      · rintro f s ⟨b1, b2, b3⟩
        show f_X3_total_B116b (f_X3_total_L116 f) (nI Q.length) s = _
        unfold f_X3_total_B116b
        rw [b1 19 (by decide), a3, if_pos (nI_le (Nat.le_refl _) (by omega))]
    · rintro i s hi ⟨a1, a2, a3, a4⟩
      have hG1 : GX s n T iv := GX_cong hG (a1 6 (by decide) (by decide)) (a1 9 (by decide) (by decide)) (a1 10 (by decide) (by decide))
      obtain ⟨w', c1, c2, c3, c4, c5⟩ := x_frees_in hg hF hi hG1 a3 a4
      refine ⟨w', ⟨fun k b1 b2 => (c2 k b1 b2).trans (a1 k b1 b2), c3.trans a2, c4, c5⟩, fun f => ?_⟩
      show f_X3_total_B26b (f_X3_total_L26 f) (nI i) s = _
      unfold f_X3_total_B26b
      rw [hG1.1, if_neg (nI_ge hi (by omega)), a3]
      exact c1 (f_X3_total_L26 f)
    · rintro f s ⟨a1, a2, a3, a4⟩
      show f_X3_total_B26b (f_X3_total_L26 f) (nI n) s = _
      unfold f_X3_total_B26b
      rw [a1 6 (by decide) (by decide), hG.1, if_pos (nI_le (Nat.le_refl _) (by omega))]
  · rw [hI.1, if_neg (nI_nle hp (by omega))]
    exact ⟨w, rfl, hI, fun _ _ _ => rfl, rfl⟩
theorem x_setAt {w : Wd} (hF : FR n T w) (hn : n ≤ 16) (hl : (FL n T).length < 3072) {i : Nat} (hi : i < (FL n T).length) : f_X3_setAt (nI i) w = some (nI ((FL n T).getD i 0)) := by
  have hm := (FL_get hi).1
  have hk := kd_lt (n := n) (T := T) ((FL n T).getD i 0)
  have h6 := le16 hm hn
  unfold f_X3_setAt
  rw [if_neg (nI_pos (by omega)), hF.1, if_neg (nI_ge hi (by omega)), m_rd (by omega) (by decide), hF.2 i hi, pk_andN (by unfold rowV; omega) (m := 65535) 16 (by decide)]
  unfold rowV
  rw [show ((FL n T).getD i 0 + kd n T ((FL n T).getD i 0) * 65536) % 2 ^ 16 = (FL n T).getD i 0 by omega]
/-- of a kind, and of so many elements -/
def fts (n : Nat) (T : Nat → Nat → Nat) (kind : Nat) (k : Int32) (S : Nat) : Bool := decide (kind ≤ kd n T S) && (decide (k = -1) || decide (nI (pc S) = k))
theorem x_fits {w : Wd} (hF : FR n T w) (hn : n ≤ 16) (hl : (FL n T).length < 3072) {i kind : Nat} (hi : i < (FL n T).length) (hk : kind < 3) (k : Int32) : f_X3_fits (nI i) (nI kind) k w = some (if fts n T kind k ((FL n T).getD i 0) then 1 else 0) := by
  have hm := (FL_get hi).1
  have hkd := kd_lt (n := n) (T := T) ((FL n T).getD i 0)
  have h6 := le16 hm hn
  unfold f_X3_fits
  rw [if_neg (nI_pos (by omega)), hF.1, if_neg (nI_ge hi (by omega)), m_rd (by omega) (by decide), hF.2 i hi, show (16 : Int32) &&& 31 = nI 16 &&& 31 from rfl, m_shr (by unfold rowV; omega) (by decide)]
  unfold rowV
  rw [show ((FL n T).getD i 0 + kd n T ((FL n T).getD i 0) * 65536) / 2 ^ 16 = kd n T ((FL n T).getD i 0) by omega, x_setAt hF hn hl hi, bnd_some, x_pc h6]
  simp only [m_le (show kind < 2 ^ 31 by omega) (show kd n T ((FL n T).getD i 0) < 2 ^ 31 by omega)]
  unfold fts
  generalize (FL n T).getD i 0 = S at *
  by_cases a : kind ≤ kd n T S <;> by_cases b : k = -1 <;> by_cases c : nI (pc S) = k <;> simp [a, b, c]
end FREES
