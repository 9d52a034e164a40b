def layL : List (Nat × Nat) := [(0, 11), (0, 9), (1, 200), (0, 7), (1, 4), (1, 4), (0, 4), (1, 4), (1, 4), (1, 256), (1, 16), (1, 16), (1, 128), (0, 1), (1, 4), (1, 4), (1, 16), (1, 16), (1, 16), (0, 3), (1, 3072), (0, 2), (1, 16), (1, 16), (0, 10), (1, 1024), (1, 5), (1, 2560), (2, 1024), (0, 8), (1, 4), (1, 16), (0, 5), (1, 256), (0, 8), (1, 4), (1, 16), (0, 0), (1, 20), (1, 12), (1, 12), (0, 6), (1, 128), (1, 17), (0, 12), (1, 4), (1, 4), (1, 256), (1, 16), (1, 65536), (1, 16), (1, 16), (1, 16), (1, 16), (1, 20), (1, 240), (1, 16), (1, 17), (1, 16), (1, 16), (1, 17), (1, 16), (1, 16), (1, 16), (3, 65536), (1, 200), (1, 200), (4, 68), (1, 4), (1, 4)]
def refL : List (List Bool) := [[true, true, true, false, false], [true, true, true, true, true, true, false, false, false], [true, true, true, false, false], [true, true, false], [true, true, true, true, true, true, false, false, false, false], [true, true, true, true, false], [true, false], [true, true, true, false, false, false, false, false, false], [true, true, true, true, false], [true, false], [true, true, true, true, true, true, true, false, false, false], [true, true, true, true, true, true, true, true, true, true, true], [false, false, false, true, true, true, true, true, true, false, true, true, true, true, true, false, true, true, true, true, true, true, false, true, true, true, false, true, false, true, false, true, false, false, false, false, false, true, true, false, false, false]]
def refT : List (Nat × Nat × Nat) := [(1, 0, 2), (0, 0, 1), (3, 1, 4), (3, 2, 5), (3, 0, 1), (0, 1, 3), (6, 0, 7), (6, 1, 8), (6, 2, 9), (6, 3, 10), (6, 4, 11), (6, 5, 12), (0, 2, 6), (13, 1, 14), (13, 2, 15), (13, 3, 16), (13, 4, 17), (13, 5, 18), (13, 0, 6), (0, 3, 13), (19, 1, 20), (19, 0, 6), (0, 4, 19), (21, 1, 22), (21, 2, 23), (21, 0, 6), (0, 5, 21), (24, 3, 25), (24, 4, 26), (24, 5, 27), (24, 6, 28), (24, 0, 6), (24, 1, 13), (29, 2, 30), (29, 3, 31), (29, 0, 6), (29, 1, 13), (24, 2, 29), (0, 6, 24), (32, 3, 33), (32, 0, 6), (32, 1, 13), (34, 2, 35), (34, 3, 36), (34, 0, 6), (34, 1, 13), (32, 2, 34), (0, 7, 32), (37, 0, 38), (37, 1, 39), (37, 2, 40), (0, 8, 37), (41, 0, 42), (0, 9, 41), (0, 10, 43), (44, 3, 45), (44, 4, 46), (44, 5, 47), (44, 6, 48), (44, 7, 49), (44, 8, 50), (44, 10, 51), (44, 11, 52), (44, 12, 53), (44, 13, 54), (44, 14, 55), (44, 16, 56), (44, 17, 57), (44, 18, 58), (44, 19, 59), (44, 20, 60), (44, 21, 61), (44, 23, 62), (44, 24, 63), (44, 25, 64), (44, 27, 65), (44, 29, 66), (44, 31, 67), (44, 37, 68), (44, 38, 69)]
def strL : List (String × Nat × String × Nat) := [("SumFreeSets$Reader", 54, "cyclic", 0), ("SumFreeSets$Reader", 71, "dihedral", 1), ("SumFreeSets$Reader", 73, "quaternion", 2), ("SumFreeSets$Reader", 75, "set", 3), ("SumFreeSets", 341, "quaternion", 2), ("SumFreeSets", 343, "cyclic", 0), ("SumFreeSets", 345, "dihedral", 1), ("SumFreeSets", 287, "set", 3), ("SumFreeSets", 301, "size", 4), ("SumFreeSets", 350, "free", 5), ("SumFreeSets", 352, "open", 6), ("SumFreeSets", 354, "full", 7), ("SumFreeSets", 356, "complete", 8), ("SumFreeSets", 309, "triples", 9)]
def lenS : List Nat := [6, 8, 10, 3, 4, 4, 4, 4, 8, 7]
def bytS : List (List Int32) := [[99, 121, 99, 108, 105, 99], [100, 105, 104, 101, 100, 114, 97, 108], [113, 117, 97, 116, 101, 114, 110, 105, 111, 110], [115, 101, 116], [115, 105, 122, 101], [102, 114, 101, 101], [111, 112, 101, 110], [102, 117, 108, 108], [99, 111, 109, 112, 108, 101, 116, 101], [116, 114, 105, 112, 108, 101, 115]]
def NF : List (String × Nat × String × String × String × String) := [("SumFreeSets", 92, "SumFreeSets$Tape", "length", "I", "SumFreeSets"), ("SumFreeSets$Reader", 43, "SumFreeSets$Tape", "length", "I", "SumFreeSets"), ("SumFreeSets$Group", 46, "SumFreeSets$Reader", "kinds", "[I", "SumFreeSets"), ("SumFreeSets$Group", 47, "SumFreeSets$Reader", "numbers", "[I", "SumFreeSets"), ("SumFreeSets$Group", 40, "SumFreeSets$Reader", "factors", "I", "SumFreeSets"), ("SumFreeSets", 330, "SumFreeSets$Reader", "set", "I", "SumFreeSets"), ("SumFreeSets", 338, "SumFreeSets$Group", "kinds", "[I", "SumFreeSets"), ("SumFreeSets", 347, "SumFreeSets$Group", "numbers", "[I", "SumFreeSets"), ("SumFreeSets", 281, "SumFreeSets$Group", "factors", "I", "SumFreeSets"), ("SumFreeSets$Basis", 41, "SumFreeSets$Group", "size", "I", "SumFreeSets"), ("SumFreeSets$FreeSets", 23, "SumFreeSets$Group", "size", "I", "SumFreeSets"), ("SumFreeSets$Turning", 54, "SumFreeSets$Group", "size", "I", "SumFreeSets"), ("SumFreeSets", 104, "SumFreeSets$Group", "size", "I", "SumFreeSets"), ("SumFreeSets$Colouring", 48, "SumFreeSets$Group", "size", "I", "SumFreeSets"), ("SumFreeSets$Homs", 67, "SumFreeSets$Group", "size", "I", "SumFreeSets"), ("SumFreeSets$Colouring", 39, "SumFreeSets$Group", "all", "I", "SumFreeSets"), ("SumFreeSets", 189, "SumFreeSets$Group", "all", "I", "SumFreeSets"), ("SumFreeSets$Sending", 48, "SumFreeSets$Basis", "generators", "[I", "SumFreeSets"), ("SumFreeSets$Turning", 72, "SumFreeSets$Basis", "generators", "[I", "SumFreeSets"), ("SumFreeSets$Sending", 26, "SumFreeSets$Basis", "reach", "[I", "SumFreeSets"), ("SumFreeSets$Sending", 31, "SumFreeSets$Basis", "order", "[I", "SumFreeSets"), ("SumFreeSets$Sending", 34, "SumFreeSets$Basis", "from", "[I", "SumFreeSets"), ("SumFreeSets$Sending", 37, "SumFreeSets$Basis", "by", "[I", "SumFreeSets"), ("SumFreeSets$Turning", 49, "SumFreeSets$Basis", "rank", "I", "SumFreeSets"), ("SumFreeSets$Homs", 43, "SumFreeSets$Basis", "rank", "I", "SumFreeSets"), ("SumFreeSets", 177, "SumFreeSets$Basis", "rank", "I", "SumFreeSets"), ("SumFreeSets$Turning", 59, "SumFreeSets$Sending", "goals", "[I", "SumFreeSets"), ("SumFreeSets$Homs", 51, "SumFreeSets$Sending", "goals", "[I", "SumFreeSets"), ("SumFreeSets$Turning", 75, "SumFreeSets$Sending", "sent", "[I", "SumFreeSets"), ("SumFreeSets$Homs", 58, "SumFreeSets$Sending", "sent", "[I", "SumFreeSets"), ("SumFreeSets$Homs", 32, "SumFreeSets$Sending", "ring", "I", "SumFreeSets"), ("SumFreeSets", 253, "SumFreeSets$Turning", "imageCount", "I", "SumFreeSets"), ("SumFreeSets", 311, "SumFreeSets$Acts", "undoable", "I", "SumFreeSets")]
def NM : List (String × Nat × MethodName × String) := [("SumFreeSets", 9, ⟨"SumFreeSets$Tape", "<init>", "()V"⟩, "SumFreeSets"), ("SumFreeSets", 27, ⟨"SumFreeSets$Group", "<init>", "()V"⟩, "SumFreeSets"), ("SumFreeSets", 73, ⟨"SumFreeSets$Acts", "<init>", "()V"⟩, "SumFreeSets"), ("SumFreeSets", 80, ⟨"SumFreeSets$Letters", "<init>", "()V"⟩, "SumFreeSets")]
def BIG : List Cond := lw_tbl.filter goodWord
theorem big_of {w : Cond} (i : Nat) (h : lw_tbl[i]? = some w) (hg : goodWord w = true) : w ∈ BIG := List.mem_filter.mpr ⟨List.mem_of_getElem? h, hg⟩
theorem big_good {w : Cond} (h : w ∈ BIG) : (w.onTables && w.keeps) = true ∨ ∃ ty, w = .arrayClass ty := good_of_word (List.mem_filter.mp h).2
theorem big_in {y : Cond} (h : y ∈ BIG) : GoodIn BIG (y :: BIG) := fun w hw => by
  rcases List.mem_cons.mp hw with e | h1
  · rw [e]; exact ⟨h, big_good h⟩
  · exact ⟨h1, big_good h1⟩
/-! the numbers that the cells hold: whole numbers by cell and place; the one row of longs -/
abbrev Wd : Type := (Nat → Nat → Int32) × (Nat → Int64)
def sI (w : Wd) (k i : Nat) (x : Int32) : Wd := (fun a b => if a = k ∧ b = i then x else w.1 a b, w.2)
def sL (w : Wd) (i : Nat) (x : Int64) : Wd := (w.1, fun b => if b = i then x else w.2 b)
/-- where the cells begin, where the texts lie, their bytes; classes and slots; classes of arrays -/
abbrev GT : Type := Nat × (Nat → Nat) × (Nat → Nat) × va_G × (Nat → ClassId)
def gA (G : GT) : Nat → Prop := fun q => G.1 ≤ q
def ad (G : GT) (k : Nat) : Nat := if k < 1000 then G.1 + k else G.2.1 (k - 1000)
def rv (G : GT) (v : Value) : Value := match v with
  | .ref k => .ref (ad G k)
  | v => v
abbrev RT : Type := Nat → Nat → Option Nat
def lay (k : Nat) : Nat × Nat := layL.getD k (9, 0)
def r0 : RT := fun k j => (refT.find? (fun q => q.1 == k && q.2.1 == j)).map (fun q => q.2.2)
def fld (G : GT) (r : RT) (w : Wd) (k : Nat) : List Bool → Nat → List Value
  | [], _ => []
  | b :: bs, j => (if b = true then va_rf ((r k j).map (ad G)) else .int (w.1 k j)) :: fld G r w k bs (j + 1)
def cel (G : GT) (r : RT) (w : Wd) (k : Nat) : va_E := match lay k with
  | (0, ci) => .inr (ci, fld G r w k (refL.getD ci []) 0)
  | (2, n) => .inl (G.2.2.2.2 2, n, .inr (.inl w.2))
  | (c, n) => .inl (G.2.2.2.2 c, n, .inl (w.1 k))
def cs (G : GT) (n : Nat) (r : RT) (w : Wd) : va_W := (List.range n).map (fun k => (ad G k, cel G r w k))
def tyA : Nat → FieldType := fun c => match c with
  | 1 => .int
  | 2 => .long
  | 3 => .boolean
  | _ => .byte
def gT (G : GT) : List (ClassId × FieldType) := [(G.2.2.2.2 1, .int), (G.2.2.2.2 2, .long), (G.2.2.2.2 3, .boolean), (G.2.2.2.2 4, .byte)]
def sK (G : GT) (U : State) : Prop := (∀ q ∈ strL, vk_R q.1 q.2.1 q.2.2.1 (ad G (1000 + q.2.2.2)) U) ∧ vk_S 10 lenS bytS (fun j => ad G (1000 + j)) G.2.2.1 (gA G) U U.heap
def nK (U : State) : Prop := (∀ q ∈ NF, va_Nw (.fieldLinkNest q.1 q.2.1 q.2.2.1 q.2.2.2.1 q.2.2.2.2.1 q.2.2.2.2.2) U) ∧ ∀ q ∈ NM, va_Nw (.methodLinkNest q.1 q.2.1 q.2.2.1 q.2.2.2) U
def zK (G : GT) (U : State) : Prop := va_Z "java/lang/String" "COMPACT_STRINGS" "Z" (.int 1) (gA G) U U.heap ∧ va_Zq "jdk/internal/util/Preconditions" "SIOOBE_FORMATTER" "Ljava/util/function/BiFunction;" (gA G) U U.heap
def vK (G : GT) (U : State) : Prop := va_K G.2.2.2.1 vwCl (gT G) U ∧ sK G U ∧ nK U ∧ zK G U
theorem fld_get (G : GT) (r : RT) (w : Wd) (k : Nat) : ∀ (bs : List Bool) (j0 j : Nat), (fld G r w k bs j0)[j]? = (bs[j]?).map (fun b => if b = true then va_rf ((r k (j0 + j)).map (ad G)) else .int (w.1 k (j0 + j)))
  | [], _, _ => rfl
  | b :: bs, j0, 0 => rfl
  | b :: bs, j0, j + 1 => by
    show (fld G r w k bs (j0 + 1))[j]? = (bs[j]?).map _
    rw [fld_get G r w k bs (j0 + 1) j, show j0 + 1 + j = j0 + (j + 1) by omega]
theorem cs_len (G : GT) (n : Nat) (r : RT) (w : Wd) : (cs G n r w).length = n := by simp [cs]
theorem cs_get {G : GT} {n : Nat} {r : RT} {w : Wd} {k : Nat} (h : k < n) : (cs G n r w)[k]? = some (ad G k, cel G r w k) := by
  unfold cs
  rw [List.getElem?_map, List.getElem?_range h]
  rfl
theorem cs_lt {G : GT} {n : Nat} {r : RT} {w : Wd} {k : Nat} {q : Nat × va_E} (h : (cs G n r w)[k]? = some q) : k < n ∧ q = (ad G k, cel G r w k) := by
  have hl : k < n := by
    have h1 := (List.getElem?_eq_some_iff.mp h).1
    rwa [cs_len] at h1
  rw [cs_get hl] at h
  exact ⟨hl, (Option.some.inj h).symm⟩
theorem ad_lt {G : GT} {k : Nat} (h : k < 1000) : ad G k = G.1 + k := by simp [ad, h]
theorem cs_D {G : GT} {n : Nat} {r : RT} {w : Wd} (h : n ≤ 1000) : va_D (gA G) (cs G n r w) := by
  refine ⟨fun i j p q hi hj e => ?_, fun k q hk => ?_⟩
  · obtain ⟨i1, rfl⟩ := cs_lt hi
    obtain ⟨j1, rfl⟩ := cs_lt hj
    have e : ad G i = ad G j := e
    rw [ad_lt (by omega), ad_lt (by omega)] at e
    omega
  · obtain ⟨k1, rfl⟩ := cs_lt hk
    show G.1 ≤ ad G k
    rw [ad_lt (by omega)]
    omega
theorem cs_set {G : GT} {n : Nat} {r r' : RT} {w w' : Wd} {k : Nat} {X : va_E} (hk : cel G r' w' k = X) (ho : ∀ j, j ≠ k → cel G r' w' j = cel G r w j) : (cs G n r w).set k (ad G k, X) = cs G n r' w' := by
  apply List.ext_getElem?
  intro i
  rw [List.getElem?_set]
  by_cases hi : i < n
  · by_cases e : k = i
    · subst e
      rw [if_pos rfl, if_pos (by rw [cs_len]; exact hi), cs_get hi, hk]
    · rw [if_neg e, cs_get hi, cs_get hi, ho i (Ne.symm e)]
  · rw [List.getElem?_eq_none (l := cs G n r' w') (by rw [cs_len]; omega)]
    split
    next e => rw [if_neg (by rw [cs_len]; omega)]
    next => rw [List.getElem?_eq_none (by rw [cs_len]; omega)]
theorem sI_same (w : Wd) (k i : Nat) (x : Int32) : (sI w k i x).1 k i = x := by simp [sI]
theorem sI_ne (w : Wd) (k i : Nat) (x : Int32) {a b : Nat} (h : ¬ (a = k ∧ b = i)) : (sI w k i x).1 a b = w.1 a b := by simp [sI, h]
theorem sI_row (w : Wd) (k i : Nat) (x : Int32) {a : Nat} (h : a ≠ k) : (sI w k i x).1 a = w.1 a := by funext b; simp [sI, h]
theorem sI_upd (w : Wd) (k i : Nat) (x : Int32) : (sI w k i x).1 k = upd (w.1 k) i x := by funext b; simp [sI, upd]
theorem fld_row {G : GT} {r : RT} {w w' : Wd} {k : Nat} (h : w'.1 k = w.1 k) : ∀ (bs : List Bool) (j : Nat), fld G r w' k bs j = fld G r w k bs j
  | [], _ => rfl
  | b :: bs, j => by simp only [fld, h]; rw [fld_row h bs (j + 1)]
theorem cel_row {G : GT} {r : RT} {w w' : Wd} {k : Nat} (h : w'.1 k = w.1 k) (h2 : w'.2 = w.2) : cel G r w' k = cel G r w k := by
  unfold cel
  split
  · rw [fld_row h]
  · rw [h2]
  · rw [h]
theorem fld_set {G : GT} {r : RT} {w : Wd} {k j : Nat} {x : Int32} {bs : List Bool} (h : bs[j]? = some false) : fld G r (sI w k j x) k bs 0 = (fld G r w k bs 0).set j (.int x) := by
  apply List.ext_getElem?
  intro i
  rw [List.getElem?_set, fld_get, fld_get]
  by_cases e : j = i
  · subst e
    have hl : j < (fld G r w k bs 0).length := by
      have h1 : (fld G r w k bs 0)[j]? = some (.int (w.1 k (0 + j))) := by rw [fld_get, h]; rfl
      exact (List.getElem?_eq_some_iff.mp h1).1
    rw [if_pos rfl, if_pos hl, h]
    simp [sI_same]
  · rw [if_neg e]
    cases bs[i]? with
    | none => rfl
    | some b => simp only [Option.map_some, Nat.zero_add]; rw [sI_ne]; intro q; exact e q.2.symm
/-! locals by their places -/
def LH (G : GT) (ls : Array Slot) (nL : Nat) (lv : List (Option Value)) : Prop := ls.size = nL ∧ lv_wf ls ∧ ∀ (i : Nat) (v : Value), lv[i]? = some (some v) → ls[i]? = some (.val (rv G v))
def lvp (G : GT) : List (Option Value) → Nat → List (Nat × Value)
  | [], _ => []
  | none :: l, i => lvp G l (i + 1)
  | some v :: l, i => (i, rv G v) :: lvp G l (i + 1)
theorem lvp_mem (G : GT) : ∀ (l : List (Option Value)) (i0 i : Nat) (v : Value), (l[i]? = some (some v) → (i0 + i, rv G v) ∈ lvp G l i0)
  | [], _, _, _ => fun h => by simp at h
  | x :: l, i0, 0, v => fun h => by
    have e : x = some v := by simpa using h
    subst e
    exact List.mem_cons_self
  | x :: l, i0, i + 1, v => fun h => by
    have h1 := lvp_mem G l (i0 + 1) i v (by simpa using h)
    rw [show i0 + 1 + i = i0 + (i + 1) by omega] at h1
    cases x with
    | none => exact h1
    | some y => exact List.mem_cons_of_mem _ h1
theorem lvp_of (G : GT) : ∀ (l : List (Option Value)) (i0 : Nat) (q : Nat × Value), q ∈ lvp G l i0 → ∃ (i : Nat) (v : Value), q = (i0 + i, rv G v) ∧ l[i]? = some (some v)
  | [], _, _ => fun h => by simp [lvp] at h
  | none :: l, i0, q => fun h => by
    obtain ⟨i, v, e, h1⟩ := lvp_of G l (i0 + 1) q h
    exact ⟨i + 1, v, by rw [e]; simp; omega, by simpa using h1⟩
  | some y :: l, i0, q => fun h => by
    rcases List.mem_cons.mp h with e | h
    · exact ⟨0, y, by rw [e]; rfl, rfl⟩
    · obtain ⟨i, v, e, h1⟩ := lvp_of G l (i0 + 1) q h
      exact ⟨i + 1, v, by rw [e]; simp; omega, by simpa using h1⟩
theorem LH.has {G : GT} {ls : Array Slot} {nL : Nat} {lv : List (Option Value)} (h : LH G ls nL lv) : lv_has ls nL (lvp G lv 0) := by
  refine ⟨h.1, h.2.1, fun q hq => ?_⟩
  obtain ⟨i, v, rfl, h1⟩ := lvp_of G lv 0 q hq
  have h2 := h.2.2 i v h1
  simpa using h2
/-- no long stands just below place i -/
def lvok (lv : List (Option Value)) (i : Nat) : Bool := match i with
  | 0 => true
  | i + 1 => match lv[i]? with
    | some (some v) => v.category != 2
    | _ => true
theorem rv_cat (G : GT) (v : Value) : (rv G v).category = v.category := by cases v <;> rfl
theorem LH.store {G : GT} {ls : Array Slot} {nL : Nat} {lv : List (Option Value)} {i : Nat} {v : Value} (h : LH G ls nL lv) (hi : i < nL) (hc : v.category = 1) (hk : lvok lv i = true) : ∃ ls', storeLocals ls i (rv G v) = some ls' ∧ LH G ls' nL (lv.set i (some v)) := by
  obtain ⟨ls', e1, e2⟩ := lv_store1 (v := rv G v) h.has hi (by rw [rv_cat]; exact hc)
  refine ⟨ls', e1, e2.1, e2.2.1, fun j x hj => ?_⟩
  rw [List.getElem?_set] at hj
  by_cases e : i = j
  · subst e
    rw [if_pos rfl] at hj
    split at hj
    · cases hj
      exact e2.2.2 _ List.mem_cons_self
    · cases hj
  · rw [if_neg e] at hj
    have hm : (0 + j, rv G x) ∈ lvp G lv 0 := lvp_mem G lv 0 j x hj
    refine e2.2.2 (j, rv G x) (List.mem_cons_of_mem _ (List.mem_filter.mpr ⟨by simpa using hm, ?_⟩))
    have n1 : (j == i) = false := by simp; exact Ne.symm e
    simp only [n1, Bool.not_false, Bool.true_and, Bool.not_eq_true']
    cases hb : (j + 1 == i) with
    | false => rfl
    | true =>
      have e3 : i = j + 1 := (by simpa using hb : j + 1 = i).symm
      subst e3
      have hk : (x.category != 2) = true := by simpa [lvok, hj] using hk
      rw [rv_cat]
      simpa using hk
def lvle : List (Option Value) → List (Option Value) → Prop
  | [], _ => True
  | none :: a, _ :: b => lvle a b
  | some v :: a, some u :: b => v = u ∧ lvle a b
  | none :: a, [] => lvle a []
  | some _ :: _, _ => False
theorem lvle_get : ∀ {a b : List (Option Value)}, lvle a b → ∀ (i : Nat) (v : Value), a[i]? = some (some v) → b[i]? = some (some v)
  | [], _, _, _, _ => fun h => by simp at h
  | none :: a, x :: b, h, 0, v => fun q => by simp at q
  | none :: a, x :: b, h, i + 1, v => fun q => by
    have h : lvle a b := by cases x <;> exact h
    simpa using lvle_get h i v (by simpa using q)
  | some y :: a, some u :: b, h, 0, v => fun q => by
    obtain ⟨rfl, -⟩ := h
    simpa using q
  | some y :: a, some u :: b, h, i + 1, v => fun q => by simpa using lvle_get h.2 i v (by simpa using q)
  | none :: a, [], h, 0, v => fun q => by simp at q
  | none :: a, [], h, i + 1, v => fun q => by
    have := lvle_get (show lvle a [] from h) i v (by simpa using q)
    simp at this
  | some y :: a, none :: b, h, _, _ => h.elim
  | some y :: a, [], h, _, _ => h.elim
theorem LH.le {G : GT} {ls : Array Slot} {nL : Nat} {a b : List (Option Value)} (h : LH G ls nL b) (hl : lvle a b) : LH G ls nL a := ⟨h.1, h.2.1, fun i v q => h.2.2 i v (lvle_get hl i v q)⟩
