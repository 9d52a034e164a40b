/-! the reference's rows of numbers -/
def dgN (m r c l : Nat) : Nat := c / m ^ (r - 1 - l) % m
def dgL (m r c : Nat) : List Nat := (List.range r).map (dgN m r c)
theorem dgL_get {m r c l : Nat} (h : l < r) : (dgL m r c)[l]? = some (dgN m r c l) := by
  unfold dgL; simp [h]
theorem dgL_getD {m r c l : Nat} (h : l < r) : (dgL m r c).getD l 0 = dgN m r c l := by
  rw [List.getD_eq_getElem?_getD, dgL_get h]; rfl
theorem dgN_low {m a b r j : Nat} (hj : j < r) : (a * m ^ r + b) / m ^ j % m = b / m ^ j % m := by
  rcases Nat.eq_zero_or_pos m with z | z
  · subst z
    obtain ⟨q, rfl⟩ : ∃ q, r = q + 1 := ⟨r - 1, by omega⟩
    rw [Nat.pow_succ, Nat.mul_zero, Nat.mul_zero, Nat.zero_add]
  · have e : a * m ^ r + b = b + m ^ j * (m * (a * m ^ (r - 1 - j))) := by
      have : m ^ r = m ^ j * (m * m ^ (r - 1 - j)) := by
        rw [← Nat.pow_succ', ← Nat.pow_add]; congr 1; omega
      rw [this, Nat.add_comm]
      congr 1
      rw [Nat.mul_left_comm a, Nat.mul_left_comm a m]
    rw [e, Nat.add_mul_div_left _ _ (Nat.pow_pos z), Nat.add_mul_mod_self_left]
theorem range_mul (a b : Nat) : List.range (a * b) = (List.range a).flatMap (fun i => (List.range b).map (fun j => i * b + j)) := by
  induction a with
  | zero => simp
  | succ a ih => rw [Nat.succ_mul, List.range_add, ih, List.range_succ, List.flatMap_append]; simp
theorem flat_congr {α β : Type} {f g : α → List β} : ∀ {l : List α}, (∀ x, x ∈ l → f x = g x) → l.flatMap f = l.flatMap g := by
  intro l
  induction l with
  | nil => intro _; rfl
  | cons a t ih => intro h; rw [List.flatMap_cons, List.flatMap_cons, h a List.mem_cons_self, ih (fun x hx => h x (List.mem_cons_of_mem _ hx))]
theorem allV_dg (m : Nat) : ∀ r, allV m r = (List.range (m ^ r)).map (dgL m r) := by
  intro r
  induction r with
  | zero => rfl
  | succ r ih =>
    simp only [allV]
    rw [Nat.pow_succ, Nat.mul_comm, range_mul, List.map_flatMap, ih]
    apply flat_congr
    intro a ha
    rw [List.mem_range] at ha
    rw [List.map_map, List.map_map]
    apply List.map_congr_left
    intro b hb
    rw [List.mem_range] at hb
    show a :: dgL m r b = dgL m (r + 1) (a * m ^ r + b)
    unfold dgL
    rw [List.range_succ_eq_map, List.map_cons, List.map_map]
    congr 1
    · unfold dgN
      rw [show r + 1 - 1 - 0 = r by omega, Nat.mul_comm, Nat.mul_add_div (Nat.pow_pos (by omega)), Nat.div_eq_of_lt hb, Nat.add_zero, Nat.mod_eq_of_lt ha]
    · apply List.map_congr_left
      intro l hl
      rw [List.mem_range] at hl
      show dgN m r b l = dgN m (r + 1) (a * m ^ r + b) (l + 1)
      unfold dgN
      rw [show r + 1 - 1 - (l + 1) = r - 1 - l by omega, dgN_low (by omega)]
theorem dgL_mem {m r c : Nat} (hm : 0 < m) : dgL m r c ∈ allV m r := by
  rw [allV_mem]
  unfold dgL
  refine ⟨by simp, fun x hx => ?_⟩
  obtain ⟨l, -, rfl⟩ := List.mem_map.mp hx
  exact Nat.mod_lt _ hm
theorem allV_filter {m r : Nat} (p : List Nat → Bool) : (allV m r).filter p = ((List.range (m ^ r)).filter (fun c => p (dgL m r c))).map (dgL m r) := by
  rw [allV_dg, List.filter_map]
  rfl
def RI (w : Wd) (m r c : Nat) : Prop := ∀ l, l < r → w.1 63 l = nI (dgN m r c l)
theorem RI_cong {w w' : Wd} {m r c : Nat} (h : RI w m r c) (e : w'.1 63 = w.1 63) : RI w' m r c := by unfold RI; rw [e]; exact h
theorem mod_ext {m c e : Nat} : c % m ^ (e + 1) = c / m ^ e % m * m ^ e + c % m ^ e := by
  rw [Nat.pow_succ, Nat.mod_mul]
  rw [Nat.add_comm, Nat.mul_comm]
theorem y_first (w : Wd) : ∃ w', f_X12_firstRow w = some w' ∧ (∀ k, k ≠ 63 → w'.1 k = w.1 k) ∧ w'.2 = w.2 ∧ ∀ m r, r ≤ 16 → RI w' m r 0 := by
  have key := lrun (fun f i (s : Wd) => f_X12_firstRow_L2 f (nI i) s) 16 (fun s => some s) (fun i s => (∀ k, k ≠ 63 → s.1 k = w.1 k) ∧ s.2 = w.2 ∧ ∀ j, j < i → s.1 63 j = 0) ?_ ?_ 16 0 w FU (by omega) (FU_big (by omega)) ⟨fun _ _ => rfl, rfl, fun j h => by omega⟩
  · obtain ⟨w', h1, h2⟩ := key
    refine ⟨w', h2, h1.1, h1.2.1, fun m r hr l hl => ?_⟩
    rw [h1.2.2 l (by omega)]
    unfold dgN
    rw [Nat.zero_div, Nat.zero_mod]; rfl
  · rintro i s hi ⟨h1, h2, h3⟩
    refine ⟨sI s 63 i 0, ⟨fun k hk => ?_, h2, fun j hj => ?_⟩, fun f => ?_⟩
    · rw [← h1 k hk]; funext j; rw [sI_at]; simp [hk]
    · rw [sI_at]
      split
      · rfl
      · next q => exact h3 j (by omega)
    · show f_X12_firstRow_B2b (f_X12_firstRow_L2 f) (nI i) s = _
      unfold f_X12_firstRow_B2b
      rw [if_neg (show ¬ (16 : Int32) ≤ nI i from nI_ge (b := 16) hi (by decide)), m_wr hi (by decide), nI_1]
  · rintro f s _
    show f_X12_firstRow_B2b (f_X12_firstRow_L2 f) (nI 16) s = _
    unfold f_X12_firstRow_B2b
    rw [if_pos (show (16 : Int32) ≤ nI 16 from nI_le (a := 16) (by decide) (by decide))]
theorem y_next {w : Wd} {m r c : Nat} (h0 : 0 < m) (hm : m ≤ 16) (hr : r ≤ 4) (hc : c < m ^ r) (h9 : w.1 44 9 = nI r) (hR : RI w m r c) : ∃ w', f_X12_isNext (nI m) w = some (if c + 1 < m ^ r then 1 else 0, w') ∧ (∀ k, k ≠ 63 → w'.1 k = w.1 k) ∧ w'.2 = w.2 ∧ (c + 1 < m ^ r → RI w' m r (c + 1)) := by
  have hdm : ∀ l, dgN m r c l < m := fun l => Nat.mod_lt _ h0
  have key : ∀ gg w1 f, gg ≤ r → gg < f → c % m ^ (r - gg) = m ^ (r - gg) - 1 → (∀ k, k ≠ 63 → w1.1 k = w.1 k) → w1.2 = w.2 → (∀ l, l < gg → w1.1 63 l = nI (dgN m r c l)) → (∀ l, gg ≤ l → l < r → w1.1 63 l = 0) → ∃ w', f_X12_isNext_L7 f (nI m) (nI gg + (-1)) w1 = some (if c + 1 < m ^ r then 1 else 0, w') ∧ (∀ k, k ≠ 63 → w'.1 k = w.1 k) ∧ w'.2 = w.2 ∧ (c + 1 < m ^ r → RI w' m r (c + 1)) := by
    intro gg
    induction gg with
    | zero =>
      intro w1 f h1 hf hmod k1 k2 k3 k4
      obtain ⟨f, rfl⟩ : ∃ q, f = q + 1 := ⟨f - 1, by omega⟩
      rw [Nat.sub_zero, Nat.mod_eq_of_lt hc] at hmod
      have hno : ¬ c + 1 < m ^ r := by omega
      refine ⟨w1, ?_, k1, k2, fun h => absurd h hno⟩
      rw [if_neg hno]
      show f_X12_isNext_B7b (f_X12_isNext_L7 f) (nI m) (-1) w1 = _
      unfold f_X12_isNext_B7b f_X12_isNext_J36
      rfl
    | succ gg ih =>
      intro w1 f h1 hf hmod k1 k2 k3 k4
      obtain ⟨f, rfl⟩ : ∃ q, f = q + 1 := ⟨f - 1, by omega⟩
      have hd := hdm gg
      obtain ⟨e, he⟩ : ∃ e, e = r - 1 - gg := ⟨_, rfl⟩
      rw [show r - (gg + 1) = e by omega] at hmod
      have hdg : dgN m r c gg = c / m ^ e % m := by unfold dgN; rw [he]
      have hpe : 0 < m ^ e := Nat.pow_pos h0
      obtain ⟨m', hm'⟩ : ∃ m', m = m' + 1 := ⟨m - 1, by omega⟩
      have em1 : nI m - 1 = nI m' := by rw [hm', nI_pred]
      rw [pk_m1]
      have eL : ∀ x, f_X12_isNext_B7b (f_X12_isNext_L7 f) (nI m) (nI gg) w1 = x → f_X12_isNext_L7 (f + 1) (nI m) (nI gg) w1 = x := fun x h => h
      by_cases q : dgN m r c gg = m'
      · obtain ⟨w2, hw2⟩ : ∃ w2, w2 = sI w1 63 gg 0 := ⟨_, rfl⟩
        have hmod2 : c % m ^ (r - gg) = m ^ (r - gg) - 1 := by
          rw [show r - gg = e + 1 by omega, mod_ext, hmod, ← hdg, q, Nat.pow_succ]
          have : m' * m ^ e + m ^ e = m ^ e * m := by rw [hm', Nat.mul_succ, Nat.mul_comm]
          omega
        obtain ⟨w', a1, a2⟩ := ih w2 f (by omega) (by omega) hmod2 (fun k hk => by rw [hw2, ← k1 k hk]; funext j; rw [sI_at]; simp [hk]) (by rw [hw2]; exact k2) (fun l hl => by rw [hw2, sI_at, if_neg (fun z => by omega)]; exact k3 l (by omega)) (fun l h2 h3 => by
          rw [hw2, sI_at]
          by_cases z : l = gg
          · subst z; simp
          · rw [if_neg (fun y => z y.2)]; exact k4 l (by omega) h3)
        refine ⟨w', eL _ ?_, a2⟩
        unfold f_X12_isNext_B7b
        rw [if_neg (nI_pos (by omega)), m_rd (by omega) (by decide), k3 gg (by omega), em1, q, if_pos rfl, m_wr (by omega) (by decide), ← hw2]
        exact a1
      · have hlt : dgN m r c gg + 1 < m := by omega
        have hsucc : (c + 1) % m ^ e = 0 := by
          have := Nat.div_add_mod c (m ^ e)
          rw [hmod] at this
          have e2 : c + 1 = m ^ e * (c / m ^ e + 1) := by rw [Nat.mul_add, Nat.mul_one]; omega
          rw [e2, Nat.mul_mod_right]
        have hQ : (c + 1) / m ^ e = c / m ^ e + 1 := by
          have := Nat.div_add_mod c (m ^ e)
          rw [hmod] at this
          have e2 : c + 1 = m ^ e * (c / m ^ e + 1) := by rw [Nat.mul_add, Nat.mul_one]; omega
          conv => lhs; rw [e2]
          rw [Nat.mul_div_cancel_left _ hpe]
        obtain ⟨Q, hQd⟩ : ∃ Q, Q = c / m ^ e := ⟨_, rfl⟩
        rw [← hQd] at hQ hdg
        have hQm : (Q + 1) % m = Q % m + 1 := by
          rw [Nat.add_mod, Nat.mod_eq_of_lt (show 1 < m by omega), Nat.mod_eq_of_lt (by omega)]
        have hQdiv : (Q + 1) / m = Q / m := by
          have a1 := Nat.div_add_mod (Q + 1) m
          have a2 := Nat.div_add_mod Q m
          rw [hQm] at a1
          have a3 : m * ((Q + 1) / m) = m * (Q / m) := by omega
          exact Nat.eq_of_mul_eq_mul_left h0 a3
        have hup : ∀ d, (c + 1) / m ^ (e + 1 + d) = c / m ^ (e + 1 + d) := fun d => by
          rw [Nat.pow_add, Nat.pow_succ, ← Nat.div_div_eq_div_mul, ← Nat.div_div_eq_div_mul, ← Nat.div_div_eq_div_mul, ← Nat.div_div_eq_div_mul, hQ, hQdiv, ← hQd]
        have hyes : c + 1 < m ^ r := by
          rcases Nat.lt_or_ge (c + 1) (m ^ r) with z | z
          · exact z
          · exfalso
            have : c + 1 = m ^ r := by omega
            have e3 : (c + 1) / m ^ e = m * m ^ (r - e - 1) := by
              rw [this, ← Nat.pow_succ', Nat.pow_div (by omega) h0]
              congr 1; omega
            rw [hQ] at e3
            have : (Q + 1) % m = 0 := by rw [e3, Nat.mul_mod_right]
            omega
        refine ⟨sI w1 63 gg (nI (dgN m r c gg + 1)), eL _ ?_, fun k hk => by rw [← k1 k hk]; funext j; rw [sI_at]; simp [hk], k2, fun _ l hl => ?_⟩
        · unfold f_X12_isNext_B7b f_X12_isNext_J36
          rw [if_neg (nI_pos (by omega)), m_rd (by omega) (by decide), k3 gg (by omega), em1, if_neg (by rw [m_inj (by omega) (by omega)]; exact q), if_neg (nI_pos (by omega)), m_rd (by omega) (by decide), k3 gg (by omega), nI_1, m_wr (by omega) (by decide), if_neg (nI_pos (by omega)), if_pos hyes]
        · rw [sI_at]
          rcases Nat.lt_trichotomy l gg with z | z | z
          · rw [if_neg (fun y => by omega), k3 l (by omega)]
            unfold dgN
            have := hup (r - 1 - l - (e + 1))
            rw [show e + 1 + (r - 1 - l - (e + 1)) = r - 1 - l by omega] at this
            rw [this]
          · subst z
            rw [if_pos ⟨rfl, rfl⟩]
            congr 1
            conv => rhs; unfold dgN
            rw [← he, hQ, hQm, hdg]
          · rw [if_neg (fun y => by omega), k4 l (by omega) hl]
            unfold dgN
            obtain ⟨t, ht⟩ : ∃ t, e = (r - 1 - l) + 1 + t := ⟨e - (r - 1 - l) - 1, by omega⟩
            have hdv : c + 1 = m ^ (r - 1 - l) * (m * (m ^ t * ((c + 1) / m ^ e))) := by
              have := Nat.div_add_mod (c + 1) (m ^ e)
              rw [hsucc, Nat.add_zero] at this
              conv => lhs; rw [← this]
              rw [ht, Nat.pow_add, Nat.pow_succ, Nat.mul_assoc, Nat.mul_assoc]
            rw [hdv, Nat.mul_div_cancel_left _ (Nat.pow_pos h0), Nat.mul_mod_right]
            rfl
  unfold f_X12_isNext
  rw [h9]
  have := key r w FU (Nat.le_refl _) (FU_big (by omega)) (by rw [Nat.sub_self, Nat.pow_zero, Nat.mod_one]) (fun _ _ => rfl) rfl hR (fun l h1 h2 => by omega)
  have e : nI r - 1 = nI r + (-1) := by
    rw [Int32.sub_eq_add_neg]
  rw [e]; exact this
