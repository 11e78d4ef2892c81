/-! runs of the small machine are runs of the machine -/
theorem zcaT_ok : ∀ q ∈ zcaT, zcaOk q := by
  unfold zcaT
  exact List.forall_mem_append.mpr ⟨zcaT_c0, List.forall_mem_append.mpr ⟨zcaT_c1, List.forall_mem_append.mpr ⟨zcaT_c2, List.forall_mem_append.mpr ⟨zcaT_c3, List.forall_mem_append.mpr ⟨zcaT_c4, List.forall_mem_append.mpr ⟨zcaT_c5, zcaT_c6⟩⟩⟩⟩⟩⟩
theorem zmt_code : ∀ q ∈ zmt, q.1 = x ∨ zcW q ∈ lw_tbl := by
  unfold zmt
  refine List.forall_mem_append.mpr ⟨fun q h => Or.inr (zmt_c0 q h), List.forall_mem_append.mpr ⟨fun q h => Or.inr (zmt_c1 q h), List.forall_mem_append.mpr ⟨fun q h => Or.inr (zmt_c2 q h), List.forall_mem_append.mpr ⟨fun q h => Or.inr (zmt_c3 q h), List.forall_mem_append.mpr ⟨fun q h => Or.inr (zmt_c4 q h), List.forall_mem_append.mpr ⟨fun q h => Or.inr (zmt_c5 q h), List.forall_mem_append.mpr ⟨fun q h => Or.inr (zmt_c6 q h), List.forall_mem_append.mpr ⟨fun q h => Or.inr (zmt_c7 q h), List.forall_mem_append.mpr ⟨fun q h => Or.inr (zmt_c8 q h), List.forall_mem_append.mpr ⟨fun q h => Or.inr (zmt_c9 q h), List.forall_mem_append.mpr ⟨fun q h => Or.inr (zmt_c10 q h), List.forall_mem_append.mpr ⟨fun q h => Or.inr (zmt_c11 q h), List.forall_mem_append.mpr ⟨fun q h => Or.inr (zmt_c12 q h), List.forall_mem_append.mpr ⟨fun q h => Or.inr (zmt_c13 q h), List.forall_mem_append.mpr ⟨fun q h => Or.inr (zmt_c14 q h), List.forall_mem_append.mpr ⟨fun q h => Or.inr (zmt_c15 q h), fun q h => Or.inl ?_⟩⟩⟩⟩⟩⟩⟩⟩⟩⟩⟩⟩⟩⟩⟩⟩
  rw [List.mem_singleton.mp h]
set_option maxRecDepth 20000 in
theorem zyOf_x : ∀ k, k < 241 → zyOf k ≠ x := by decide +kernel
set_option maxRecDepth 20000 in
theorem zmt_facts : ∀ q ∈ zmt, q.1.cls = zcn q.2.2.2.2 ∧ q.2.2.2.2 < 14 ∧ plainName q.1.cls = true ∧ q.2.2.1 ≤ 41 ∧ q.1.cls ≠ "java/lang/invoke/MethodHandle" ∧ q.1.cls ≠ "java/lang/invoke/VarHandle" := by decide +kernel
set_option maxRecDepth 20000 in
theorem zyOf_law : ∀ k, k < 241 → (zyOf k).cls ≠ zcn 11 := by decide +kernel
theorem zyOf_at {y : Nat} {my : zMI} (h : zmt[y]? = some my) : zyOf y = my.1 := by
  unfold zyOf
  rw [List.getD_eq_getElem?_getD, List.getElem?_map, h]
  rfl
theorem zcode_in {y : Nat} {my : zMI} (h : zmt[y]? = some my) (hy : y < 241) : zcW my ∈ zTB := by
  rcases zmt_code my (List.mem_of_getElem? h) with q | q
  · exact absurd ((zyOf_at h).trans q) (zyOf_x y hy)
  · exact zTB_in q rfl
theorem zini_in {my : zMI} {y : Nat} (h : zmt[y]? = some my) : Cond.initialized my.1.cls ∈ zTB := by
  obtain ⟨h1, h2, -⟩ := zmt_facts my (List.mem_of_getElem? h)
  rw [h1]
  exact zTB_in (List.mem_append_right _ (List.mem_of_getElem? (zini_ok _ h2))) rfl
theorem zca_mem {c k y n kd : Nat} (h : zca c k = some (y, n, kd)) : ∃ q ∈ zcaT, q.1 = c ∧ q.2.1 = k ∧ q.2.2.1 = y ∧ q.2.2.2.1 = n ∧ q.2.2.2.2.1 = kd := by
  unfold zca at h
  rw [Option.map_eq_some_iff] at h
  obtain ⟨q, h1, h2⟩ := h
  have h4 := List.find?_some h1
  simp only [Bool.and_eq_true, beq_iff_eq] at h4
  cases h2
  exact ⟨q, List.mem_of_find?_eq_some h1, h4.1, h4.2, rfl, rfl, rfl⟩
theorem zca_spec {c k y n kd : Nat} {my : zMI} (h : zca c k = some (y, n, kd)) (hm : zmt[y]? = some my) (hk : kd ≠ 2) : Cond.methodLink (zcn c) k my.1 ∈ zTB ∧ (parseMethodDescriptor my.1.desc).map (fun d => d.parameters.length) = some n ∧ ((kd = 1 ∧ Cond.static my.1 ∈ zTB) ∨ (kd = 0 ∧ Cond.instanceMethod my.1 ∈ zTB ∧ Cond.selects my.1.cls my.1 my.1 ∈ zTB)) := by
  obtain ⟨q, hq, rfl, rfl, rfl, rfl, rfl⟩ := zca_mem h
  rcases zcaT_ok q hq with ⟨h1, -⟩ | ⟨h1, h2, h3, h4⟩
  · exact absurd h1 hk
  · rw [zyOf_at hm] at h2 h3 h4
    refine ⟨zTB_in (List.mem_of_getElem? h2) rfl, h3, ?_⟩
    rcases h4 with ⟨a, b⟩ | ⟨a, b, d⟩
    · exact Or.inl ⟨a, zTB_in (List.mem_of_getElem? b) rfl⟩
    · exact Or.inr ⟨a, zTB_in (List.mem_of_getElem? b) rfl, zTB_in (List.mem_of_getElem? d) rfl⟩
theorem zD_any {A : Nat → Prop} {ad : Nat → Nat} {cy : Nat → ClassId} {hp hp' : zHP} (h : va_D A (zwd ad cy hp)) : va_D A (zwd ad cy hp') := by
  have at1 : ∀ (k : Nat) (q : Nat × va_E), (zwd ad cy hp')[k]? = some q → ∃ q', (zwd ad cy hp)[k]? = some q' ∧ q'.1 = q.1 := by
    intro k q hq
    unfold zwd at hq ⊢
    rw [List.getElem?_mapIdx] at hq ⊢
    cases hz : zSH[k]? with
    | none => rw [hz] at hq; cases hq
    | some z => rw [hz] at hq; cases hq; exact ⟨_, rfl, rfl⟩
  refine ⟨fun i j u v hi hj huv => ?_, fun k q hq => ?_⟩
  · obtain ⟨u', hu, eu⟩ := at1 i u hi
    obtain ⟨v', hv, ev⟩ := at1 j v hj
    exact h.1 i j u' v' hu hv (by rw [eu, ev]; exact huv)
  · obtain ⟨q', hq', eq⟩ := at1 k q hq
    rw [← eq]
    exact h.2 k q' hq'
theorem zA_any {ad : Nat → Nat} {cy : Nat → ClassId} {hp hp' : zHP} {sz q : Nat} (h : va_A (zwd ad cy hp) sz q) : va_A (zwd ad cy hp') sz q := by
  rcases h with ⟨k, e, h⟩ | h
  · unfold zwd at h
    rw [List.getElem?_mapIdx] at h
    cases hz : zSH[k]? with
    | none => rw [hz] at h; cases h
    | some z =>
      rw [hz] at h
      cases h
      refine Or.inl ⟨k, zcell ad cy hp' k z, ?_⟩
      unfold zwd
      rw [List.getElem?_mapIdx, hz]
      rfl
  · exact Or.inr h
/-- what is kept of the cells that are no cells of ours -/
def zESok (ES : (Nat → Prop) → State → Heap → Prop) : Prop :=
  (∀ (A : Nat → Prop) (s U : State) (H : Heap), s.WarmedH U.vm → ES A s H → ES A U H) ∧
  (∀ (A : Nat → Prop) (U : State) (g : JFrame) (mk : MethodId) (a : Array Value) (H : Heap), ES A U H → ES A (U.calling g mk a) H) ∧
  (∀ (A : Nat → Prop) (U : State) (H H1 : Heap), ES A U H → (∀ a : Nat, a < H.size → ¬ A a → H1[a]? = H[a]?) → ES A U H1) ∧
  (∀ (A B : Nat → Prop) (U : State) (H : Heap), ES A U H → (∀ q : Nat, B q → A q) → ES B U H)
def zB (ES : (Nat → Prop) → State → Heap → Prop) (D : va_G) (cy : Nat → ClassId) (ad : Nat → Nat) (x0 x1 : Nat → Int32) (hp : zHP) (sz : Nat) : State → Prop := fun U =>
  U.heap.size = sz ∧ va_P D vwCl (zwd ad cy hp) U.heap ∧ va_K D vwCl (ztys cy) U ∧ va_D (fun _ => True) (zwd ad cy hp) ∧ vk_R "HandsLetModel" 194 zTX (ad 910) U ∧ ES (va_A (zwd ad cy hp) sz) U U.heap ∧ hp.1 900 = x0 ∧ hp.1 901 = x1
def zQc (D : va_G) (cy : Nat → ClassId) (ad : Nat → Nat) (x0 x1 : Nat → Int32) (hp : zHP) (sz : Nat) (K : Option Value → zHP → Prop) : Array Value → State → Outcome → State → Prop := fun _ st oc t =>
  (∃ (v : Option Value) (hp' : zHP), oc = .returned (v.map (zcv ad)) ∧ K v hp' ∧ va_P D vwCl (zwd ad cy hp') t.heap ∧ hp'.1 900 = x0 ∧ hp'.1 901 = x1) ∧ va_F (va_A (zwd ad cy hp) sz) st t
def zRm (d : Nat) : Room := { frames := d, cells := 0, slots := 0, locals := 60 * d + 40 }
theorem zblind {ES : (Nat → Prop) → State → Heap → Prop} (hE : zESok ES) {D : va_G} {cy : Nat → ClassId} {ad : Nat → Nat} {x0 x1 : Nat → Int32} {hp : zHP} {sz : Nat} {av : List Value} : FrameBlind (va_Pc av (zB ES D cy ad x0 x1 hp sz)) := by
  intro a U g mk h
  obtain ⟨h0, h1, h2, h3, h4, h5, h6, h7, h8⟩ := h
  exact ⟨h0, h1, h2, va_K.moved (u := U) (U := U.calling g mk a) (Vm.Alike.refl U.vm) h3, h4, vk_R.same (u := U) (U := U.calling g mk a) rfl h5, hE.2.1 _ _ _ _ _ _ h6, h7, h8⟩
section ZW
variable {p : Program} {l : Launch} {e : Env} {R : Room} {s : State} {m : MethodId} {args : Array Value} {below : List Frame} {meth : Method} {c : Code} {H : Heap} {locs : List Loc} {cells slots : Nat} {QW : State → Prop}
variable {ES : (Nat → Prop) → State → Heap → Prop} {D : va_G} {cy : Nat → ClassId} {ad : Nat → Nat} {A : Nat → Prop} {H0 : Heap} {x0 x1 : Nat → Int32}
theorem zrun {pc : Nat} {lsC : Array Slot} {st0 rest : List Value} {Qa : State → Outcome → State → Prop} {free : Addr → Prop} (hr : va_Run p l e R s m args below meth c H locs cells slots 0 0 (F0 m pc lsC st0) rest Qa free)
    (kk : ∀ (v : Option Value) (st₀ t : State) (L : List Loc), st₀.heap = H → Qa st₀ (.returned v) t → (∀ q ∈ L, free q.base) → W p l e R s m args below meth c t.heap (locs ++ L) cells slots QW (F0 m (pc + 3) lsC (v.toList ++ rest))) : W p l e R s m args below meth c H locs cells slots QW (F0 m pc lsC st0) := by
  intro T hT X
  obtain ⟨v, st₀, t, T', L, h0, X', hL, e1, e2, hq, st⟩ := hr T hT X
  obtain ⟨t2, a1, b1⟩ := kk v st₀ t L h0 hq hL T' e1 X'
  exact ⟨t2, st t2 a1, b1⟩
/-- a callee's start out of the caller's state -/
theorem zpre (hE : zESok ES) {mi : zMI} {hp : zHP} (C : zC ES D cy ad A H0 x0 x1 mi p s m args c) (hR : zRel D cy ad A H0 x0 x1 hp H locs) {U : State} (hU : U.heap = H) (hW : s.WarmedH U.vm) : zB ES D cy ad x0 x1 hp H.size U := by
  obtain ⟨hx, hb, hml, hown, hts, hK, hv9, hES, hA, -, -⟩ := C
  refine ⟨by rw [hU], by rw [hU]; exact hR.1, va_K.moved hW.alike hK, hR.2.1.weaken (fun _ _ _ _ => trivial), vk_R.warm hW hv9, ?_, hR.2.2.2.1, hR.2.2.2.2⟩
  rw [hU]
  refine hE.1 _ _ _ _ hW (hE.2.2.2 A _ _ _ (hE.2.2.1 A s H0 H hES (fun a h1 h2 => hR.2.2.1.2.1 a h1 h2)) (fun q h => ?_))
  rcases h with ⟨k, e, h⟩ | h
  · exact hR.2.1.2 k _ h
  · exact hA q (Nat.le_trans hR.2.2.1.1 h)
/-- behind a call -/
theorem zpost {hp hp2 : zHP} {st₀ t : State} {L : List Loc} (hA : ∀ q, H0.size ≤ q → A q) (hR : zRel D cy ad A H0 x0 x1 hp H locs) (h0 : st₀.heap = H) (hP : va_P D vwCl (zwd ad cy hp2) t.heap) (h9 : hp2.1 900 = x0) (h91 : hp2.1 901 = x1) (hF : va_F (va_A (zwd ad cy hp) H.size) st₀ t) (hL : ∀ q ∈ L, va_A (zwd ad cy hp) H.size q.base) : zRel D cy ad A H0 x0 x1 hp2 t.heap (locs ++ L) := by
  have sub : ∀ q, va_A (zwd ad cy hp) H.size q → A q := by
    intro q h
    rcases h with ⟨k, e, h⟩ | h
    · exact hR.2.1.2 k _ h
    · exact hA q (Nat.le_trans hR.2.2.1.1 h)
  obtain ⟨f1, f2⟩ := hF
  rw [h0] at f1 f2
  refine ⟨hP, zD_any hR.2.1, ⟨Nat.le_trans hR.2.2.1.1 f1, fun q h1 h2 => ?_, fun q hq => ?_⟩, h9, h91⟩
  · rw [f2 q (Nat.lt_of_lt_of_le h1 hR.2.2.1.1) (fun z => h2 (sub q z))]
    exact hR.2.2.1.2.1 q h1 h2
  · rcases List.mem_append.mp hq with h | h
    · exact hR.2.2.1.2.2 q h
    · exact sub _ (hL q h)
theorem ztoList (ad : Nat → Nat) (v : Option Value) (rest : List Value) : (v.map (zcv ad)).toList ++ rest.map (zcv ad) = (v.toList ++ rest).map (zcv ad) := by
  cases v <;> rfl
end ZW
section ZX
variable {l : Launch} {ES : (Nat → Prop) → State → Heap → Prop} {D : va_G} {cy : Nat → ClassId} {ad : Nat → Nat} {x0 x1 : Nat → Int32}
/-- length and charAt of the words, as steps of the machine: proved elsewhere -/
def zStr (l : Launch) (ES : (Nat → Prop) → State → Heap → Prop) (D : va_G) (cy : Nat → ClassId) (ad : Nat → Nat) (x0 x1 : Nat → Int32) : Prop :=
  ∀ (p : Program) (e : Env) (R : Room) (s : State) (m : MethodId) (args : Array Value) (below : List Frame) (meth : Method) (c : Code) (H : Heap) (locs : List Loc) (cells slots : Nat) (QW : State → Prop) (A : Nat → Prop) (H0 : Heap) (mi : zMI) (pc idx n y : Nat) (as rest st : List Value) (v : Option Value) (hp hp' : zHP) (lsC : Array Slot),
    zC ES D cy ad A H0 x0 x1 mi p s m args c → decode mi.2.1 pc = .ok (.invokevirtual idx, 3) → zca mi.2.2.2.2 idx = some (y, n, 2) → y = 1000 ∨ y = 1001 → n ≤ st.length → st.drop n = .ref 910 :: rest → as = .ref 910 :: (st.take n).reverse → zcat rest ≤ 8 → zbi y as hp = some (v, hp') → zRel D cy ad A H0 x0 x1 hp H locs → lsC.size = mi.2.2.1 → cells ≤ R.cells → slots ≤ R.slots → 4 ≤ R.frames → 240 ≤ R.locals →
    W p l e R s m args below meth c H locs cells slots QW (F0 m (pc + 3) lsC ((v.toList ++ rest).map (zcv ad))) → W p l e R s m args below meth c H locs cells slots QW (F0 m pc lsC (st.map (zcv ad)))
end ZX
