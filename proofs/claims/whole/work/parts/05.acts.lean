def zTX : String := "man lease letter wear watch seed law rent turn fine or and not slant loops weight purse price times day "
def zlayT : List (List Nat) := [[373, 375, 377, 379, 381, 383, 385, 387], [437, 439, 441], [459, 461, 463, 465, 467], [219, 221, 223, 225, 227, 229, 231, 233, 235, 237, 239, 241, 243, 245, 247], [139, 141, 143, 145, 147, 149, 151, 153, 155], [407, 409, 411, 413, 415, 417, 419, 421, 423], [354, 356], [108, 110, 112, 114, 116, 118, 120, 122], [309, 311, 313, 315, 317, 319, 321, 323, 325, 327, 329, 331, 333, 335, 337], [482, 484, 486, 488, 490, 492, 494, 496, 498, 500, 502, 504], [1231, 1233, 1235, 1237, 1239, 1241, 1243, 1245, 1247, 1249, 1251, 1253, 1255, 1257, 1259, 1261, 1263, 1265, 1267, 1269, 1271, 1273, 1275, 1277, 1279, 1281, 1283, 1285, 1287, 1289, 1291, 1293, 1295, 1297, 1299, 1301, 1303, 1305, 1307, 1309, 1311, 1313, 1315, 1317, 1319, 1321, 1323, 1325, 1327, 1329, 1331, 1333, 1335, 1337, 1339, 1341, 1343, 1345, 1347, 1349, 1351, 1353, 1355, 1357, 1359, 1361]]
set_option maxRecDepth 20000 in
theorem zlay_ok : ∀ ci, ci < 11 → ∀ j, j < zNf ci → tables_1[(zlayT.getD ci []).getD j 0]? = some (u_lay (zcn ci) (zT ci) j) ∧ goodWord (u_lay (zcn ci) (zT ci) j) = true := by decide +kernel
theorem zuws {ci : Nat} (h : ci < 11) : ∀ w ∈ u_ws (zcn ci) (zT ci) (zNf ci), w ∈ zTB := by
  intro w hw
  unfold u_ws at hw
  obtain ⟨j, hj, rfl⟩ := List.mem_map.mp hw
  have := zlay_ok ci h j (List.mem_range.mp hj)
  exact zTB_in (List.mem_append_right _ (List.mem_of_getElem? this.1)) this.2
theorem zty_ok {ci : Nat} (h : ci < 11) : ∀ k, k < zNf ci → parseFieldDescriptor (zT ci k).2.2.1 = some (zty ci k) := by
  have : ci = 0 ∨ ci = 1 ∨ ci = 2 ∨ ci = 3 ∨ ci = 4 ∨ ci = 5 ∨ ci = 6 ∨ ci = 7 ∨ ci = 8 ∨ ci = 9 ∨ ci = 10 := by omega
  rcases this with h | h | h | h | h | h | h | h | h | h | h <;> subst h
  · exact tyX0_ok
  · exact tyX1_ok
  · exact tyX2_ok
  · exact tyX3_ok
  · exact tyX4_ok
  · exact tyX5_ok
  · exact tyX6_ok
  · exact tyX7_ok
  · exact tyX8_ok
  · exact tyX9_ok
  · exact tyX10_ok
theorem znm_ok {ci : Nat} (h : ci < 11) : ∀ a, a < zNf ci → ∀ b, b < zNf ci → a ≠ b → (zT ci a).2.1 ≠ (zT ci b).2.1 := by
  have : ci = 0 ∨ ci = 1 ∨ ci = 2 ∨ ci = 3 ∨ ci = 4 ∨ ci = 5 ∨ ci = 6 ∨ ci = 7 ∨ ci = 8 ∨ ci = 9 ∨ ci = 10 := by omega
  rcases this with h | h | h | h | h | h | h | h | h | h | h <;> subst h
  · exact nmX0
  · exact nmX1
  · exact nmX2
  · exact nmX3
  · exact nmX4
  · exact nmX5
  · exact nmX6
  · exact nmX7
  · exact nmX8
  · exact nmX9
  · exact nmX10
/-! one instruction of the small machine is one of the machine's -/
def zC (ES : (Nat → Prop) → State → Heap → Prop) (D : va_G) (cy : Nat → ClassId) (ad : Nat → Nat) (A : Nat → Prop) (H0 : Heap) (x0 x1 : Nat → Int32) (mi : zMI) (p : Program) (s : State) (m : MethodId) (args : Array Value) (c : Code) : Prop :=
  p.tables.exec = Jvm.exec ∧ c.code = mi.2.1 ∧ c.maxLocals = mi.2.2.1 ∧ s.vm.findClass (zcn mi.2.2.2.2) = some m.cls ∧ (∀ w ∈ zTB, w.before args s = true) ∧ va_K D vwCl (ztys cy) s ∧ vk_R "HandsLetModel" 194 zTX (ad 910) s ∧ ES A s H0 ∧ (∀ q, H0.size ≤ q → A q) ∧
  (mi.2.2.2.2 = 11 → ∃ L, va_X (ad 900) L x0 s H0 ∧ ad 900 < H0.size ∧ ¬ A (ad 900) ∧ x1 0 = nI L ∧ L < 2 ^ 31) ∧ (mi.2.2.2.2 ≠ 11 → H0 = s.heap)
def zRel (D : va_G) (cy : Nat → ClassId) (ad : Nat → Nat) (A : Nat → Prop) (H0 : Heap) (x0 x1 : Nat → Int32) (hp : zHP) (H : Heap) (locs : List Loc) : Prop :=
  va_P D vwCl (zwd ad cy hp) H ∧ va_D A (zwd ad cy hp) ∧ va_S A H0 H locs ∧ hp.1 900 = x0 ∧ hp.1 901 = x1
section ZS
variable {p : Program} {l : Launch} {e : Env} {R : Room} {s : State} {m : MethodId} {args : Array Value} {below : List Frame} {meth : Method} {c : Code} {H : Heap} {locs : List Loc} {cells slots : Nat} {QW : State → Prop}
variable {ES : (Nat → Prop) → State → Heap → Prop} {D : va_G} {cy : Nat → ClassId} {ad : Nat → Nat} {A : Nat → Prop} {H0 : Heap} {x0 x1 : Nat → Int32} {mi : zMI} {pc len : Nat} {ls ls' : zLs} {st st' : List Value} {hp hp' : zHP} {lsC : Array Slot} {pc' : Nat}
theorem zld_ok {i w : Nat} (h : zld pc ls st hp i w = some (pc', ls', st', hp')) (hl : zlr ad mi.2.2.1 ls lsC) : ∃ v, pc' = pc ∧ ls' = ls ∧ hp' = hp ∧ st' = v :: st ∧ zsort v = w ∧ lsC[i]? = some (.val (zcv ad v)) := by
  unfold zld at h
  split at h
  next v hv =>
    split at h
    next hw => cases h; exact ⟨v, rfl, rfl, rfl, rfl, hw, hl.2.2.2 i v hv⟩
    next => cases h
  next => cases h
theorem zsto_ok {i w : Nat} (h : zsto pc ls st hp i w = some (pc', ls', st', hp')) : ∃ v, st = v :: st' ∧ pc' = pc ∧ ls' = ls.set i (some v) ∧ hp' = hp ∧ zsort v = w ∧ zfree ls i = true ∧ i < ls.length := by
  unfold zsto at h
  split at h
  next v r =>
    split at h
    next hw => cases h; exact ⟨v, rfl, rfl, rfl, rfl, hw⟩
    next => cases h
  next => cases h
theorem ztg_ok {off : Int} (h : ztg pc off ls st hp = some (pc', ls', st', hp')) : (pc : Int) + off = (pc' : Int) ∧ ls' = ls ∧ st' = st ∧ hp' = hp := by
  unfold ztg at h
  split at h
  next h0 => cases h; exact ⟨(Int.toNat_of_nonneg h0).symm, rfl, rfl, rfl⟩
  next => cases h
theorem zset_rel {k t : Nat} {H1 : Heap} {locs1 : List Loc} {E : va_E} (hR : zRel D cy ad A H0 x0 x1 hp H locs) (h : zkd k = t) (ht : t ≠ 999) (hE : E = zcell ad cy hp' k (t, zln k)) (hn : ∀ j q, j ≠ k → zcell ad cy hp' j q = zcell ad cy hp j q) (h0 : hp'.1 900 = hp.1 900) (h1 : hp'.1 901 = hp.1 901)
    (hP : va_P D vwCl ((zwd ad cy hp).set k (ad k, E)) H1) (hD : va_D A ((zwd ad cy hp).set k (ad k, E))) (hS : va_S A H0 H1 locs1) : zRel D cy ad A H0 x0 x1 hp' H1 locs1 := by
  subst hE
  rw [zwd_set h ht hn] at hP hD
  exact ⟨hP, hD, hS, by rw [h0]; exact hR.2.2.2.1, by rw [h1]; exact hR.2.2.2.2⟩
theorem zne900 {k t : Nat} (h : zkd k = t) (ht : t ≠ 999) : (900 : Nat) ≠ k ∧ (901 : Nat) ≠ k := by
  constructor <;> (intro q; subst q; exact ht (h.symm.trans (by decide +kernel)))
theorem zcell_obj {ci k n : Nat} (hp : zHP) (h : ci < 11) : zcell ad cy hp k (ci, n) = .inr (ci, (List.range n).map (zfv ad hp k ci)) := by
  unfold zcell
  rw [if_pos (show (ci, n).1 < 100 by show ci < 100; omega)]
theorem zln_obj {k ci : Nat} (h : zkd k = ci) (hc : ci < 11) : zln k = zNf ci := by
  have h1 := zSH_at h (by omega)
  rcases zSH_kinds _ (List.mem_of_getElem? h1) with q | q
  · exact q.2
  · exact absurd q.1 (by show ¬ 100 ≤ ci; omega)
theorem zfv_at {ci k j : Nat} (hp : zHP) {n : Nat} (h : j < n) : ((List.range n).map (zfv ad hp k ci))[j]? = some (zfv ad hp k ci j) := by
  rw [List.getElem?_map, List.getElem?_range h]
  rfl
set_option maxHeartbeats 4000000 in
theorem zget_ok {idx o ci j : Nat} {r : List Value} (C : zC ES D cy ad A H0 x0 x1 mi p s m args c) (hdec : decode mi.2.1 pc = .ok (.getfield idx, 3)) (hf : zfl mi.2.2.2.2 idx = some (ci, j)) (h : zget (pc + 3) ls r hp o ci j = some (pc', ls', st', hp')) (hR : zRel D cy ad A H0 x0 x1 hp H locs)
    (kk : W p l e R s m args below meth c H locs cells slots QW (F0 m pc' lsC (st'.map (zcv ad)))) : (ls' = ls ∧ hp' = hp) ∧ W p l e R s m args below meth c H locs cells slots QW (F0 m pc lsC (.ref (ad o) :: r.map (zcv ad))) := by
  obtain ⟨hx, hb, hml, hown, hts, hK, -, -, hA, -, -⟩ := C
  obtain ⟨h1, h2, h3⟩ := zfl_spec hf
  unfold zget at h
  split at h
  next hk =>
    have hat := zwd_at (ad := ad) (cy := cy) (hp := hp) hk (by omega)
    rw [zcell_obj hp h1, zln_obj hk h1] at hat
    have go : ∀ v : Value, zfv ad hp o ci j = v → W p l e R s m args below meth c H locs cells slots QW (F0 m (pc + 3) lsC (v :: r.map (zcv ad))) → W p l e R s m args below meth c H locs cells slots QW (F0 m pc lsC (.ref (ad o) :: r.map (zcv ad))) := fun v hv k =>
      va_get (D := D) (ci := ci) (C := zcn ci) (T := zT ci) (N := zNf ci) hx hb hts (zuws h1) hown hK hR.1 o hat (zclAt ci h1) j h2 (hts _ h3) (fun _ h9 => h9) (by rw [zfv_at hp h2, hv]) hdec k
    split at h
    next e1 => cases h; exact ⟨⟨rfl, rfl⟩, go _ (by unfold zfv; rw [e1]; rfl) kk⟩
    next e1 => cases h; exact ⟨⟨rfl, rfl⟩, go _ (by unfold zfv; rw [e1]; rfl) kk⟩
    next e1 => cases h; exact ⟨⟨rfl, rfl⟩, go _ (by unfold zfv; rw [e1]; rfl) kk⟩
    next e1 =>
      split at h
      next q hq => cases h; exact ⟨⟨rfl, rfl⟩, go (.ref (ad q)) (by unfold zfv; rw [e1, hq]; rfl) kk⟩
      next => cases h
    next => cases h
  next => cases h
set_option maxHeartbeats 4000000 in
theorem zput_ok {idx o ci j : Nat} {r : List Value} {v : Value} (C : zC ES D cy ad A H0 x0 x1 mi p s m args c) (hdec : decode mi.2.1 pc = .ok (.putfield idx, 3)) (hf : zfl mi.2.2.2.2 idx = some (ci, j)) (h : zput (pc + 3) ls r hp v o ci j = some (pc', ls', st', hp')) (hR : zRel D cy ad A H0 x0 x1 hp H locs)
    (kk : ∀ (H' : Heap) (locs' : List Loc), zRel D cy ad A H0 x0 x1 hp' H' locs' → W p l e R s m args below meth c H' locs' cells slots QW (F0 m pc' lsC (st'.map (zcv ad)))) : ls' = ls ∧ W p l e R s m args below meth c H locs cells slots QW (F0 m pc lsC (zcv ad v :: .ref (ad o) :: r.map (zcv ad))) := by
  obtain ⟨hx, hb, hml, hown, hts, hK, -, -, hA, -, -⟩ := C
  obtain ⟨h1, h2, h3⟩ := zfl_spec hf
  unfold zput at h
  split at h
  next hkf =>
    obtain ⟨hk, hfin⟩ := hkf
    have hat := zwd_at (ad := ad) (cy := cy) (hp := hp) hk (by omega)
    rw [zcell_obj hp h1, zln_obj hk h1] at hat
    obtain ⟨n0, n1⟩ := zne900 hk (by omega)
    have go : ∀ hp2 : zHP, pc' = pc + 3 → st' = r → hp' = hp2 → zfv ad hp2 o ci j = zcv ad v → (∀ i, i ≠ j → zfv ad hp2 o ci i = zfv ad hp o ci i) → (∀ k q, k ≠ o → zcell ad cy hp2 k q = zcell ad cy hp k q) → hp2.1 900 = hp.1 900 → hp2.1 901 = hp.1 901 → narrow (zty ci j) (zcv ad v) = zcv ad v → fits (zty ci j) (zcv ad v) = true →
        W p l e R s m args below meth c H locs cells slots QW (F0 m pc lsC (zcv ad v :: .ref (ad o) :: r.map (zcv ad))) := by
      intro hp2 e1 e2 e3 hv hn hc q0 q1 hna hfi
      subst e1; subst e2; subst e3
      refine va_put (D := D) (ci := ci) (C := zcn ci) (T := zT ci) (N := zNf ci) (ty := zty ci j) hx hb hts (zuws h1) (zty ci) (zty_ok h1) (znm_ok h1) hown hK hR.1 hR.2.1 hR.2.2.1 o hat (zclAt ci h1) j h2 (hts _ h3) (fun _ h9 => h9) hfin (zty_ok h1 j h2) hna hfi (by simpa using h2) hdec (fun H1 locs1 hP hD hS => ?_)
      refine kk H1 locs1 (zset_rel hR hk (by omega) ?_ hc q0 q1 hP hD hS)
      rw [zcell_obj _ h1, zln_obj hk h1, zfs_set h2 hv hn]
    have hty : ∀ n : Nat, zfs ci j = n → n < 4 → (n = 0 → zty ci j = .int) ∧ (n = 1 → zty ci j = .boolean) ∧ (n = 2 → zty ci j = .long) ∧ (n = 3 → (∃ q, zty ci j = .object q) ∨ ∃ q, zty ci j = .array q) := by
      intro n hn hl
      unfold zfs at hn
      cases hz : zty ci j <;> rw [hz] at hn <;> simp at hn <;> subst hn <;> simp <;> omega
    split at h
    next x e1 =>
      cases h
      have ht := (hty 0 e1 (by omega)).1 rfl
      refine ⟨rfl, go _ rfl rfl rfl ?_ ?_ ?_ ?_ ?_ ?_ ?_⟩
      · unfold zfv; rw [e1]; show Value.int (zu hp.1 o j x o j) = _; rw [zu_self]; unfold va_up; rw [if_pos rfl]; rfl
      · intro i hi
        unfold zfv
        show (match zfs ci i with | 0 => Value.int (zu hp.1 o j x o i) | 1 => .int (zu hp.1 o j x o i) | 2 => .long (hp.2.1 o i) | _ => va_rf ((hp.2.2 o i).map ad)) = _
        rw [zu_self]; unfold va_up; rw [if_neg hi]; rfl
      · intro k q hkq; exact zcell_i (zu_ne hkq)
      · exact zu_ne n0
      · exact zu_ne n1
      · rw [ht]; rfl
      · rw [ht]; rfl
    next x e1 =>
      split at h
      next hx01 =>
        cases h
        have ht := (hty 1 e1 (by omega)).2.1 rfl
        refine ⟨rfl, go _ rfl rfl rfl ?_ ?_ ?_ ?_ ?_ ?_ ?_⟩
        · unfold zfv; rw [e1]; show Value.int (zu hp.1 o j x o j) = _; rw [zu_self]; unfold va_up; rw [if_pos rfl]; rfl
        · intro i hi
          unfold zfv
          show (match zfs ci i with | 0 => Value.int (zu hp.1 o j x o i) | 1 => .int (zu hp.1 o j x o i) | 2 => .long (hp.2.1 o i) | _ => va_rf ((hp.2.2 o i).map ad)) = _
          rw [zu_self]; unfold va_up; rw [if_neg hi]; rfl
        · intro k q hkq; exact zcell_i (zu_ne hkq)
        · exact zu_ne n0
        · exact zu_ne n1
        · rw [ht]; rcases hx01 with rfl | rfl
          · exact (by decide : narrow .boolean (.int 0) = .int 0)
          · exact (by decide : narrow .boolean (.int 1) = .int 1)
        · rw [ht]; rcases hx01 with rfl | rfl
          · exact (by decide : fits .boolean (.int 0) = true)
          · exact (by decide : fits .boolean (.int 1) = true)
      next => cases h
    next x e1 =>
      cases h
      have ht := (hty 2 e1 (by omega)).2.2.1 rfl
      refine ⟨rfl, go _ rfl rfl rfl ?_ ?_ ?_ ?_ ?_ ?_ ?_⟩
      · unfold zfv; rw [e1]; show Value.long (zu hp.2.1 o j x o j) = _; rw [zu_self]; unfold va_up; rw [if_pos rfl]; rfl
      · intro i hi
        unfold zfv
        show (match zfs ci i with | 0 => Value.int (hp.1 o i) | 1 => .int (hp.1 o i) | 2 => .long (zu hp.2.1 o j x o i) | _ => va_rf ((hp.2.2 o i).map ad)) = _
        rw [zu_self]; unfold va_up; rw [if_neg hi]; rfl
      · intro k q hkq; exact zcell_l (zu_ne hkq)
      · rfl
      · rfl
      · rw [ht]; rfl
      · rw [ht]; rfl
    next x e1 =>
      cases h
      have ht := (hty 3 e1 (by omega)).2.2.2 rfl
      refine ⟨rfl, go _ rfl rfl rfl ?_ ?_ ?_ ?_ ?_ ?_ ?_⟩
      · unfold zfv; rw [e1]; show va_rf ((zu hp.2.2 o j (some x) o j).map ad) = _; rw [zu_self]; unfold va_up; rw [if_pos rfl]; rfl
      · intro i hi
        unfold zfv
        show (match zfs ci i with | 0 => Value.int (hp.1 o i) | 1 => .int (hp.1 o i) | 2 => .long (hp.2.1 o i) | _ => va_rf ((zu hp.2.2 o j (some x) o i).map ad)) = _
        rw [zu_self]; unfold va_up; rw [if_neg hi]; rfl
      · intro k q hkq; exact zcell_r (zu_ne hkq)
      · rfl
      · rfl
      · rcases ht with ⟨q, ht⟩ | ⟨q, ht⟩ <;> rw [ht] <;> rfl
      · rcases ht with ⟨q, ht⟩ | ⟨q, ht⟩ <;> rw [ht] <;> rfl
    next => cases h
  next => cases h
end ZS

