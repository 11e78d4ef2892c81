/-! the small machine's cells and locals beside the machine's own -/
def zTB : List Cond := lw_tbl.filter goodWord
theorem zTB_in {w : Cond} (h : w ∈ lw_tbl) (g : goodWord w = true) : w ∈ zTB := List.mem_filter.mpr ⟨h, g⟩
theorem zcv_cat (ad : Nat → Nat) (v : Value) : (zcv ad v).category = v.category := by cases v <;> rfl
theorem zcv_cats (ad : Nat → Nat) (st : List Value) : ((st.map (zcv ad)).map fun v => v.category).sum = zcat st := by
  unfold zcat
  rw [List.map_map]
  congr 1
  apply List.map_congr_left
  intro v _
  exact zcv_cat ad v
def zlr (ad : Nat → Nat) (nL : Nat) (ls : zLs) (lsC : Array Slot) : Prop := ls.length = nL ∧ lsC.size = nL ∧ lv_wf lsC ∧ ∀ (i : Nat) (v : Value), ls[i]? = some (some v) → lsC[i]? = some (.val (zcv ad v))
def zprs (ad : Nat → Nat) (ls : zLs) : List (Nat × Value) := (List.range ls.length).filterMap (fun i => (ls.getD i none).map (fun v => (i, zcv ad v)))
theorem zprs_mem {ad : Nat → Nat} {ls : zLs} {q : Nat × Value} : q ∈ zprs ad ls ↔ ∃ v, ls[q.1]? = some (some v) ∧ q.2 = zcv ad v := by
  unfold zprs
  rw [List.mem_filterMap]
  constructor
  · rintro ⟨i, hi, h⟩
    rw [List.getD_eq_getElem?_getD] at h
    cases hx : ls[i]? with
    | none => rw [hx] at h; cases h
    | some o =>
      rw [hx] at h
      cases o with
      | none => cases h
      | some v => cases h; exact ⟨v, hx, rfl⟩
  · rintro ⟨v, h1, h2⟩
    refine ⟨q.1, ?_, ?_⟩
    · rw [List.mem_range]
      exact (List.getElem?_eq_some_iff.mp h1).1
    · rw [List.getD_eq_getElem?_getD, h1]
      obtain ⟨a, b⟩ := q
      cases h2
      rfl
theorem zlr_has {ad : Nat → Nat} {nL : Nat} {ls : zLs} {lsC : Array Slot} (h : zlr ad nL ls lsC) : lv_has lsC nL (zprs ad ls) := by
  refine ⟨h.2.1, h.2.2.1, fun q hq => ?_⟩
  obtain ⟨v, h1, h2⟩ := zprs_mem.mp hq
  rw [h2]
  exact h.2.2.2 q.1 v h1
theorem zfree_spec {ls : zLs} {i j : Nat} {v : Value} (h : zfree ls i = true) (hj : ls[j]? = some (some v)) (e : j + 1 = i) : v.category = 1 := by
  subst e
  simp only [zfree, hj] at h
  simpa using h
theorem zlr_set1 {ad : Nat → Nat} {nL i : Nat} {ls : zLs} {lsC ls' : Array Slot} {v : Value} (h : zlr ad nL ls lsC) (hf : zfree ls i = true) (hi : i < ls.length)
    (h' : lv_has ls' nL ((i, zcv ad v) :: (zprs ad ls).filter (fun q => !(q.1 == i) && !(q.1 + 1 == i && q.2.category == 2)))) : zlr ad nL (ls.set i (some v)) ls' := by
  refine ⟨by rw [List.length_set]; exact h.1, h'.1, h'.2.1, fun j w hj => ?_⟩
  by_cases e : j = i
  · subst e
    rw [List.getElem?_set_self hi] at hj
    cases hj
    exact h'.2.2 _ List.mem_cons_self
  · rw [List.getElem?_set_ne (fun q => e q.symm)] at hj
    refine h'.2.2 (j, zcv ad w) (List.mem_cons_of_mem _ (List.mem_filter.mpr ⟨zprs_mem.mpr ⟨w, hj, rfl⟩, ?_⟩))
    have h1 : ¬ (j + 1 = i ∧ w.category = 2) := fun q => by have := zfree_spec hf hj q.1; omega
    simp only [zcv_cat, Bool.and_eq_true, Bool.not_eq_true', beq_eq_false_iff_ne, Bool.and_eq_false_iff]
    refine ⟨e, ?_⟩
    by_cases q : j + 1 = i
    · exact Or.inr (fun z => h1 ⟨q, z⟩)
    · exact Or.inl q
theorem zlr_set2 {ad : Nat → Nat} {nL i : Nat} {ls : zLs} {lsC ls' : Array Slot} {v : Value} (h : zlr ad nL ls lsC) (hf : zfree ls i = true) (hi : i + 1 < ls.length)
    (h' : lv_has ls' nL ((i, zcv ad v) :: (zprs ad ls).filter (fun q => !(q.1 == i) && (!(q.1 == i + 1) && !(q.1 + 1 == i && q.2.category == 2))))) : zlr ad nL ((ls.set i (some v)).set (i + 1) none) ls' := by
  refine ⟨by rw [List.length_set, List.length_set]; exact h.1, h'.1, h'.2.1, fun j w hj => ?_⟩
  by_cases e2 : j = i + 1
  · subst e2
    rw [List.getElem?_set_self (by rw [List.length_set]; exact hi)] at hj
    cases hj
  · rw [List.getElem?_set_ne (fun q => e2 q.symm)] at hj
    by_cases e : j = i
    · subst e
      rw [List.getElem?_set_self (by omega)] at hj
      cases hj
      exact h'.2.2 _ List.mem_cons_self
    · rw [List.getElem?_set_ne (fun q => e q.symm)] at hj
      refine h'.2.2 (j, zcv ad w) (List.mem_cons_of_mem _ (List.mem_filter.mpr ⟨zprs_mem.mpr ⟨w, hj, rfl⟩, ?_⟩))
      have h1 : ¬ (j + 1 = i ∧ w.category = 2) := fun q => by have := zfree_spec hf hj q.1; omega
      simp only [zcv_cat, Bool.and_eq_true, Bool.not_eq_true', beq_eq_false_iff_ne, Bool.and_eq_false_iff]
      refine ⟨e, e2, ?_⟩
      by_cases q : j + 1 = i
      · exact Or.inr (fun z => h1 ⟨q, z⟩)
      · exact Or.inl q
/-! cells -/
def zfv (ad : Nat → Nat) (hp : zHP) (k ci j : Nat) : Value := match zfs ci j with
  | 0 => .int (hp.1 k j)
  | 1 => .int (hp.1 k j)
  | 2 => .long (hp.2.1 k j)
  | _ => va_rf ((hp.2.2 k j).map ad)
def zcell (ad : Nat → Nat) (cy : Nat → ClassId) (hp : zHP) (k : Nat) (q : Nat × Nat) : va_E :=
  if q.1 < 100 then .inr (q.1, (List.range q.2).map (zfv ad hp k q.1))
  else if q.1 = 103 then .inl (cy 3, q.2, .inr (.inl (hp.2.1 k)))
  else if q.1 = 104 then .inl (cy 4, q.2, .inr (.inr (.inr (.inr (fun j => (hp.2.2 k j).map ad)))))
  else .inl (cy (q.1 - 100), q.2, .inl (hp.1 k))
def zwd (ad : Nat → Nat) (cy : Nat → ClassId) (hp : zHP) : va_W := zSH.mapIdx (fun k q => (ad k, zcell ad cy hp k q))
def ztys (cy : Nat → ClassId) : List (ClassId × FieldType) := [(cy 0, .int), (cy 1, .byte), (cy 2, .boolean), (cy 3, .long), (cy 4, .array .int)]
theorem zSH_kinds : ∀ q ∈ zSH, (q.1 < 11 ∧ q.2 = zNf q.1) ∨ (100 ≤ q.1 ∧ q.1 < 105) := by decide +kernel
theorem zSH_at {k t : Nat} (h : zkd k = t) (ht : t ≠ 999) : zSH[k]? = some (t, zln k) := by
  unfold zkd zln at *
  rw [List.getD_eq_getElem?_getD] at *
  cases hx : zSH[k]? with
  | none => rw [hx] at h; exact absurd h.symm ht
  | some q => rw [hx] at h; obtain ⟨a, b⟩ := q; cases h; rfl
theorem zwd_at {ad : Nat → Nat} {cy : Nat → ClassId} {hp : zHP} {k t : Nat} (h : zkd k = t) (ht : t ≠ 999) : (zwd ad cy hp)[k]? = some (ad k, zcell ad cy hp k (t, zln k)) := by
  unfold zwd
  rw [List.getElem?_mapIdx, zSH_at h ht]
  rfl
theorem zwd_set {ad : Nat → Nat} {cy : Nat → ClassId} {hp hp' : zHP} {k t : Nat} (h : zkd k = t) (ht : t ≠ 999) (hn : ∀ j q, j ≠ k → zcell ad cy hp' j q = zcell ad cy hp j q) : (zwd ad cy hp).set k (ad k, zcell ad cy hp' k (t, zln k)) = zwd ad cy hp' := by
  have hk := zSH_at h ht
  have hlt : k < zSH.length := (List.getElem?_eq_some_iff.mp hk).1
  apply List.ext_getElem?
  intro j
  by_cases e : j = k
  · subst e
    rw [List.getElem?_set_self (by unfold zwd; rw [List.length_mapIdx]; exact hlt), zwd_at h ht]
  · rw [List.getElem?_set_ne (fun q => e q.symm)]
    unfold zwd
    rw [List.getElem?_mapIdx, List.getElem?_mapIdx]
    cases zSH[j]? with
    | none => rfl
    | some q => simp [hn j q e]
theorem zu_self {α : Type} (f : Nat → Nat → α) (o k : Nat) (v : α) : zu f o k v o = va_up (f o) k v := by
  unfold zu va_up
  simp
theorem zu_ne {α : Type} {f : Nat → Nat → α} {o k : Nat} {v : α} {a : Nat} (h : a ≠ o) : zu f o k v a = f a := by
  unfold zu va_up
  simp [h]
theorem zcell_i {ad : Nat → Nat} {cy : Nat → ClassId} {hp : zHP} {f : Nat → Nat → Int32} {j : Nat} {q : Nat × Nat} (h : f j = hp.1 j) : zcell ad cy (f, hp.2.1, hp.2.2) j q = zcell ad cy hp j q := by
  unfold zcell zfv
  simp only [h]
theorem zcell_l {ad : Nat → Nat} {cy : Nat → ClassId} {hp : zHP} {f : Nat → Nat → Int64} {j : Nat} {q : Nat × Nat} (h : f j = hp.2.1 j) : zcell ad cy (hp.1, f, hp.2.2) j q = zcell ad cy hp j q := by
  unfold zcell zfv
  simp only [h]
theorem zcell_r {ad : Nat → Nat} {cy : Nat → ClassId} {hp : zHP} {f : Nat → Nat → Option Nat} {j : Nat} {q : Nat × Nat} (h : f j = hp.2.2 j) : zcell ad cy (hp.1, hp.2.1, f) j q = zcell ad cy hp j q := by
  unfold zcell zfv
  simp only [h]
/-- an object's fields, one of them set -/
theorem zfs_set {ad : Nat → Nat} {hp hp' : zHP} {k ci n j : Nat} {v : Value} (hj : j < n) (hv : zfv ad hp' k ci j = v) (hn : ∀ i, i ≠ j → zfv ad hp' k ci i = zfv ad hp k ci i) : ((List.range n).map (zfv ad hp k ci)).set j v = (List.range n).map (zfv ad hp' k ci) := by
  apply List.ext_getElem?
  intro i
  by_cases e : i = j
  · subst e
    rw [List.getElem?_set_self (by simpa using hj), List.getElem?_map, List.getElem?_range hj]
    simp [hv]
  · rw [List.getElem?_set_ne (fun q => e q.symm), List.getElem?_map, List.getElem?_map]
    by_cases hi : i < n
    · rw [List.getElem?_range hi]
      simp [hn i e]
    · rw [List.getElem?_eq_none (by simpa using hi)]
      rfl
theorem zclAt (ci : Nat) (h : ci < 11) : vwCl[ci]? = some (zcn ci, zT ci, zNf ci) := by
  have : ci = 0 ∨ ci = 1 ∨ ci = 2 ∨ ci = 3 ∨ ci = 4 ∨ ci = 5 ∨ ci = 6 ∨ ci = 7 ∨ ci = 8 ∨ ci = 9 ∨ ci = 10 := by omega
  rcases this with h | h | h | h | h | h | h | h | h | h | h <;> subst h <;> rfl
theorem zfl_spec {c k ci j : Nat} (h : zfl c k = some (ci, j)) : ci < 11 ∧ j < zNf ci ∧ Cond.fieldLink (zcn c) k (zT ci j).1 (zT ci j).2.1 (zT ci j).2.2.1 ∈ zTB := by
  unfold zfl at h
  rw [Option.map_eq_some_iff] at h
  obtain ⟨q, h1, h2⟩ := h
  have h3 := zflT_ok q (List.mem_of_find?_eq_some h1)
  have h4 := List.find?_some h1
  simp only [Bool.and_eq_true, beq_iff_eq] at h4
  obtain ⟨e1, e2⟩ := h4
  obtain ⟨q1, q2, q3, q4, q5⟩ := q
  cases h2
  cases e1
  cases e2
  exact ⟨h3.1, h3.2.1, zTB_in (List.mem_append_right _ (List.mem_of_getElem? h3.2.2)) rfl⟩
theorem zci_spec {c k : Nat} {v : Int32} (h : zci c k = some v) : Cond.constant (zcn c) k v ∈ zTB := by
  unfold zci at h
  rw [Option.map_eq_some_iff] at h
  obtain ⟨q, h1, h2⟩ := h
  have h3 := zciT_ok q (List.mem_of_find?_eq_some h1)
  have h4 := List.find?_some h1
  simp only [Bool.and_eq_true, beq_iff_eq] at h4
  obtain ⟨e1, e2⟩ := h4
  obtain ⟨q1, q2, q3, q4⟩ := q
  cases h2
  cases e1
  cases e2
  exact zTB_in (List.mem_append_right _ (List.mem_of_getElem? h3)) rfl
theorem zcl_spec {c k : Nat} {v : Int64} (h : zcl c k = some v) : Cond.constantLong (zcn c) k v ∈ zTB := by
  unfold zcl at h
  rw [Option.map_eq_some_iff] at h
  obtain ⟨q, h1, h2⟩ := h
  have h3 := zclT_ok q (List.mem_of_find?_eq_some h1)
  have h4 := List.find?_some h1
  simp only [Bool.and_eq_true, beq_iff_eq] at h4
  obtain ⟨e1, e2⟩ := h4
  obtain ⟨q1, q2, q3, q4⟩ := q
  cases h2
  cases e1
  cases e2
  exact zTB_in (List.mem_append_right _ (List.mem_of_getElem? h3)) rfl
theorem zin_spec {i : Int32} {n : Nat} (h : zin i n = true) : vp_in i n := by
  unfold zin at h
  unfold vp_in
  exact of_decide_eq_true h
