/-! calls, returns, and the run itself -/
theorem zcx_spec {c : Nat} {i : Instr} {st : List Value} {q : Nat × List Value × List Value} (h : zcx c i st = some q) :
    (∃ k n b, i = .invokevirtual k ∧ zca c k = some (q.1, n, 0) ∧ n ≤ st.length ∧ st.drop n = .ref b :: q.2.2 ∧ q.2.1 = .ref b :: (st.take n).reverse ∧ zcat q.2.2 ≤ 8 ∧ zkd b < 11 ∧ zcn (zkd b) = (zyOf q.1).cls ∧ q.1 < 241) ∨
    (∃ k n, i = .invokevirtual k ∧ zca c k = some (q.1, n, 2) ∧ n ≤ st.length ∧ st.drop n = .ref 910 :: q.2.2 ∧ q.2.1 = .ref 910 :: (st.take n).reverse ∧ zcat q.2.2 ≤ 8 ∧ (q.1 = 1000 ∨ q.1 = 1001)) ∨
    (∃ k n, i = .invokestatic k ∧ zca c k = some (q.1, n, 1) ∧ n ≤ st.length ∧ q.2.2 = st.drop n ∧ q.2.1 = (st.take n).reverse ∧ zcat q.2.2 ≤ 8 ∧ q.1 < 241) ∨
    (∃ k n, i = .invokestatic k ∧ zca c k = some (q.1, n, 2) ∧ n ≤ st.length ∧ q.2.2 = st.drop n ∧ q.2.1 = (st.take n).reverse ∧ zcat q.2.2 ≤ 8 ∧ (q.1 = 1002 ∨ (1010 ≤ q.1 ∧ q.1 ≤ 1015))) := by
  unfold zcx at h
  split at h
  next k =>
    split at h
    next st y n hz =>
      split at h
      next b rest hd =>
        split at h
        next hc => cases h; exact Or.inl ⟨k, n, b, rfl, hz, hc.1, hd, rfl, hc.2.1, hc.2.2.1, hc.2.2.2.1, hc.2.2.2.2⟩
        next => cases h
      next => cases h
    next st y n hz =>
      split at h
      next b rest hd =>
        split at h
        next hc =>
          obtain ⟨h1, h2, h3, h4⟩ := hc
          subst h3
          cases h
          exact Or.inr (Or.inl ⟨k, n, rfl, hz, h1, hd, rfl, h2, h4⟩)
        next => cases h
      next => cases h
    next => cases h
  next k =>
    split at h
    next y n kd hz =>
      split at h
      next hc =>
        cases h
        rcases hc.2.2 with ⟨rfl, h2⟩ | ⟨rfl, h2⟩
        · exact Or.inr (Or.inr (Or.inl ⟨k, n, rfl, hz, hc.1, rfl, rfl, hc.2.1, h2⟩))
        · exact Or.inr (Or.inr (Or.inr ⟨k, n, rfl, hz, hc.1, rfl, rfl, hc.2.1, h2⟩))
      next => cases h
    next => cases h
  next => cases h
theorem zrt_spec {ret : Option FieldType} {i : Instr} {st : List Value} {v : Option Value} (h : zrt ret i st = some v) :
    (i = .ireturn ∧ ∃ x, st = [.int x] ∧ v = some (.int x) ∧ (ret = some .int ∨ (ret = some .boolean ∧ (x = 0 ∨ x = 1)))) ∨ (i = .lreturn ∧ ∃ x, st = [.long x] ∧ v = some (.long x) ∧ ret = some .long) ∨ (i = .return_ ∧ st = [] ∧ v = none ∧ ret = none) := by
  unfold zrt at h
  split at h
  next =>
    split at h
    next x =>
      split at h
      next => cases h; exact Or.inl ⟨rfl, x, rfl, rfl, Or.inl rfl⟩
      next =>
        split at h
        next hx => cases h; exact Or.inl ⟨rfl, x, rfl, rfl, Or.inr ⟨rfl, hx⟩⟩
        next => cases h
      next => cases h
    next => cases h
  next =>
    split at h
    next x =>
      split at h
      next => cases h; exact Or.inr (Or.inl ⟨rfl, x, rfl, rfl, rfl⟩)
      next => cases h
    next => cases h
  next =>
    split at h
    next =>
      split at h
      next => cases h; exact Or.inr (Or.inr ⟨rfl, rfl, rfl, rfl⟩)
      next => cases h
    next => cases h
  next => cases h
theorem zent_el (ad : Nat → Nat) : ∀ (as : List Value), (as.flatMap fun v => if v.category = 2 then [some v, none] else [some v]).length = (lg_sl (as.map (zcv ad))).length ∧ ∀ (i : Nat) (v : Value), (as.flatMap fun v => if v.category = 2 then [some v, none] else [some v])[i]? = some (some v) → (lg_sl (as.map (zcv ad)))[i]? = some (.val (zcv ad v)) := by
  intro as
  induction as with
  | nil => exact ⟨rfl, fun i v h => by simp at h⟩
  | cons a as ih =>
    obtain ⟨h1, h2⟩ := ih
    have e1 : lg_sl ((a :: as).map (zcv ad)) = (if a.category = 2 then [Slot.val (zcv ad a), .second] else [.val (zcv ad a)]) ++ lg_sl (as.map (zcv ad)) := by
      simp only [lg_sl, List.map_cons, List.flatMap_cons, zcv_cat]
    rw [e1, List.flatMap_cons]
    by_cases hc : a.category = 2
    · rw [if_pos hc, if_pos hc]
      refine ⟨by simp only [List.length_append, List.length_cons, List.length_nil, h1], fun i v h => ?_⟩
      match i, h with
      | 0, h => cases h; rfl
      | 1, h => cases h
      | i + 2, h => exact h2 i v h
    · rw [if_neg hc, if_neg hc]
      refine ⟨by simp only [List.length_append, List.length_cons, List.length_nil, h1], fun i v h => ?_⟩
      match i, h with
      | 0, h => cases h; rfl
      | i + 1, h => exact h2 i v h
theorem zent_lr {ad : Nat → Nat} {n : Nat} {as : List Value} (h : (zent n as).length = n) : zlr ad n (zent n as) ((lg_sl (as.map (zcv ad)) ++ List.replicate (n - (lg_sl (as.map (zcv ad))).length) Slot.unset).toArray) := by
  obtain ⟨h1, h2⟩ := zent_el ad as
  have hle : (lg_sl (as.map (zcv ad))).length ≤ n := by
    unfold zent at h
    rw [List.length_append, List.length_replicate, h1] at h
    omega
  have hE := lv_entry (as.map (zcv ad)) hle
  refine ⟨h, hE.1, hE.2.1, fun i v hi => ?_⟩
  unfold zent at hi
  by_cases hlt : i < (as.flatMap fun v => if v.category = 2 then [some v, none] else [some v]).length
  · rw [List.getElem?_append_left hlt] at hi
    rw [List.getElem?_toArray, List.getElem?_append_left (by rw [← h1]; exact hlt)]
    exact h2 i v hi
  · rw [List.getElem?_append_right (by omega)] at hi
    have := List.eq_of_mem_replicate (List.mem_of_getElem? hi)
    cases this
section ZV
variable {l : Launch} {ES : (Nat → Prop) → State → Heap → Prop} {D : va_G} {cy : Nat → ClassId} {ad : Nat → Nat} {x0 x1 : Nat → Int32}
/-- what is owed where a frame of the small machine ends -/
def zEnd (l : Launch) (D : va_G) (cy : Nat → ClassId) (ad : Nat → Nat) (x0 x1 : Nat → Int32) (M : Nat) (mi : zMI) (K : Option Value → zHP → Prop) (p : Program) (e : Env) (R : Room) (s : State) (m : MethodId) (args : Array Value) (below : List Frame) (meth : Method) (c : Code) (A : Nat → Prop) (H0 : Heap) (cells slots : Nat) (QW : State → Prop) : Prop :=
  ∀ (v : Option Value) (hp : zHP) (H : Heap) (locs : List Loc) (lsC : Array Slot) (pc : Nat) (ls : zLs) (st : List Value), (zexit M pc ls st = some v ∨ ∃ i len, decode mi.2.1 pc = .ok (i, len) ∧ zlen i len = true ∧ zrt mi.2.2.2.1 i st = some v) → K v hp → zRel D cy ad A H0 x0 x1 hp H locs → zlr ad mi.2.2.1 ls lsC → W p l e R s m args below meth c H locs cells slots QW (F0 m pc lsC (st.map (zcv ad)))
def zGo (l : Launch) (ES : (Nat → Prop) → State → Heap → Prop) (D : va_G) (cy : Nat → ClassId) (ad : Nat → Nat) (x0 x1 : Nat → Int32) (n : Nat) : Prop :=
  ∀ (d M pc : Nat) (ls : zLs) (st : List Value) (hp : zHP) (K : Option Value → zHP → Prop) (mi : zMI) (p : Program) (e : Env) (R : Room) (s : State) (m : MethodId) (args : Array Value) (below : List Frame) (meth : Method) (c : Code) (A : Nat → Prop) (H0 : Heap) (H : Heap) (locs : List Loc) (cells slots : Nat) (QW : State → Prop) (lsC : Array Slot),
    zmt[M]? = some mi → zC ES D cy ad A H0 x0 x1 mi p s m args c → zWn n d M pc ls st hp K → zRel D cy ad A H0 x0 x1 hp H locs → zlr ad mi.2.2.1 ls lsC → d ≤ R.frames → 60 * d + 40 ≤ R.locals → cells ≤ R.cells → slots ≤ R.slots → zEnd l D cy ad x0 x1 M mi K p e R s m args below meth c A H0 cells slots QW →
    W p l e R s m args below meth c H locs cells slots QW (F0 m pc lsC (st.map (zcv ad)))
set_option maxHeartbeats 4000000 in
/-- a method's contract out of its run -/
theorem zmet {n : Nat} (hgo : zGo l ES D cy ad x0 x1 n) {d y : Nat} {my : zMI} {as : List Value} {hp : zHP} {K : Option Value → zHP → Prop} {sz : Nat} (hm : zmt[y]? = some my) (hy : y < 241) (hlen : (zent my.2.2.1 as).length = my.2.2.1) (h : zWn n d y 0 (zent my.2.2.1 as) [] hp K) :
    Met l my.1 (zcW my :: zTB) (zRm d) (va_Pc (as.map (zcv ad)) (zB ES D cy ad x0 x1 hp sz)) (zQc D cy ad x0 x1 hp sz K) 0 0 (va_A (zwd ad cy hp) sz) := by
  obtain ⟨f1, f2, f3, f4, f5, f6⟩ := zmt_facts my (List.mem_of_getElem? hm)
  refine Met.ofW (cc := my.2.1) (maxL := my.2.2.1) (ret := my.2.2.2.1) f3 rfl ?_
  intro p e s m args below meth c s₁ B hml hv
  obtain ⟨rfl, hsz, hP, hK, hD0, hvk, hES, h9, h91⟩ := hv
  have hx := B.exec
  have hb := B.bytes
  have hr := B.returns
  have hts := atoms_spec (ws := zcW my :: zTB) B.pre
  have hown : s.vm.findClass my.1.cls = some m.cls := findClass_of_methodNamed B.named
  have hlocks := B.notSynchronized
  subst hsz
  rw [lg_entry_eq]
  have hA : ∀ q, s.heap.size ≤ q → va_A (zwd ad cy hp) s.heap.size q := fun q h => Or.inr h
  have hne : my.2.2.2.2 ≠ 11 := by
    intro q
    rw [q] at f1
    have h1 := zyOf_law y hy
    rw [zyOf_at hm] at h1
    exact h1 f1
  have C : zC ES D cy ad (va_A (zwd ad cy hp) s.heap.size) s.heap x0 x1 my p s m (as.map (zcv ad)).toArray c :=
    ⟨hx, hb, hml, by rw [← f1]; exact hown, fun w hw => hts w (List.mem_cons_of_mem _ hw), hK, hvk, hES, hA, fun q => absurd q hne, fun _ => rfl⟩
  refine hgo d y 0 (zent my.2.2.1 as) [] hp K my p e (zRm d) s m _ below meth c _ s.heap s.heap [] 0 0 _ _ hm C h ⟨hP, hD0.self, va_S.rf, h9, h91⟩ (zent_lr hlen) (Nat.le_refl _) (Nat.le_refl _) (Nat.le_refl _) (Nat.le_refl _) ?_
  intro v hp2 H locs lsC pc ls st hend hKv hR hl
  rcases hend with hex | ⟨i, len, hd, hlen2, hrt⟩
  · unfold zexit at hex
    rw [if_neg (by omega)] at hex
    cases hex
  · have hf : ∀ q ∈ locs, va_A (zwd ad cy hp) s.heap.size q.base := hR.2.2.1.2.2
    rcases zrt_spec hrt with ⟨rfl, x, rfl, rfl, hret⟩ | ⟨rfl, x, rfl, rfl, hret⟩ | ⟨rfl, rfl, rfl, hret⟩
    · have e9 : len = 1 := by simpa [zlen] using hlen2
      subst e9
      rcases hret with hret | ⟨hret, hx01⟩
      · exact W.iret hx hb (hr.trans hret) (fun t ht _ => ⟨⟨some (.int x), hp2, rfl, hKv, by rw [ht]; exact hR.1, hR.2.2.2.1, hR.2.2.2.2⟩, hR.2.2.1.F ht⟩) hf hd
      · refine W.zret (ty := .boolean) hx hb (hr.trans hret) ?_ (fun t ht _ => ⟨⟨some (.int x), hp2, rfl, hKv, by rw [ht]; exact hR.1, hR.2.2.2.1, hR.2.2.2.2⟩, hR.2.2.1.F ht⟩) hf hd
        rcases hx01 with rfl | rfl <;> decide
    · have e9 : len = 1 := by simpa [zlen] using hlen2
      subst e9
      exact W.lret hx hb (hr.trans hret) (fun t ht _ => ⟨⟨some (.long x), hp2, rfl, hKv, by rw [ht]; exact hR.1, hR.2.2.2.1, hR.2.2.2.2⟩, hR.2.2.1.F ht⟩) hf hd
    · have e9 : len = 1 := by simpa [zlen] using hlen2
      subst e9
      exact W.vret hx hb (hr.trans hret) (fun t ht _ => ⟨⟨none, hp2, rfl, hKv, by rw [ht]; exact hR.1, hR.2.2.2.1, hR.2.2.2.2⟩, hR.2.2.1.F ht⟩) hf hd
end ZV
