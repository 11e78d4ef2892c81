section ZN
variable {l : Launch} {ES : (Nat → Prop) → State → Heap → Prop} {D : va_G} {cy : Nat → ClassId} {ad : Nat → Nat} {x0 x1 : Nat → Int32}
variable {p : Program} {e : Env} {R : Room} {s : State} {m : MethodId} {args : Array Value} {below : List Frame} {meth : Method} {c : Code} {A : Nat → Prop} {H0 : Heap} {H : Heap} {locs : List Loc} {cells slots : Nat} {QW : State → Prop} {lsC : Array Slot} {mi : zMI} {hp : zHP} {pc nn : Nat} {ls : zLs} {st : List Value}
theorem cwd_get {n k : Nat} {q : Nat × va_E} : (cwd n ad cy hp)[k]? = some q ↔ ∃ z, k < n ∧ zSH[k]? = some z ∧ q = (ad k, zcell ad cy hp k z) := by
  unfold cwd
  rw [List.getElem?_mapIdx, List.getElem?_take]
  by_cases h : k < n
  · rw [if_pos h]
    cases hz : zSH[k]? with
    | none => simp
    | some z => simp [h, eq_comm]
  · rw [if_neg h]
    simp [h]
/-- the cells with the rows of a new array of arrays -/
def cRow (hp : zHP) (nn N : Nat) : zHP := (hp.1, hp.2.1, fun o j => if o = nn then (if j < N then some (nn + 1 + j) else none) else hp.2.2 o j)
theorem cRow_o {k N : Nat} {q : Nat × Nat} (h : k ≠ nn) : zcell ad cy (cRow hp nn N) k q = zcell ad cy hp k q := by
  unfold zcell zfv cRow
  simp only [if_neg h]
theorem c_mna {index N K' base : Nat} {n k : Int32} (C : zC ES D cy ad A H0 x0 x1 mi p s m args c) (hR : cRel nn D cy ad A H0 x0 x1 hp H locs) (hd : decode mi.2.1 pc = .ok (.multianewarray index 2, 4)) (hclink : (Cond.classLink (zcn mi.2.2.2.2) index ("[" ++ (FieldType.array .int).toString)).before args s = true) (hover : va_AOA .int s) (harr : (Cond.arrayClass .int).before args s = true) (hty0 : (ztys cy)[0]? = some (cy 0, .int)) (hf4 : s.vm.findClass ("[" ++ (FieldType.array .int).toString) = some (cy 4)) (hf0 : s.vm.findClass (FieldType.array .int).toString = some (cy 0))
    (hk : zSH[nn]? = some (104, N)) (hks : ∀ j, j < N → zSH[nn + 1 + j]? = some (100, K')) (had : ∀ j, j < 170 → ad j = base + j) (hnN : nn + N < 170) (hH : H.size = base + nn) (hz : ∀ o, nn < o → o ≤ nn + N → ∀ j, hp.1 o j = 0)
    (hn : ¬ n < 0) (hk0 : ¬ k < 0) (hN : n.toNatClampNeg = N) (hM : k.toNatClampNeg = K') (hb1 : N * 4 ≤ 536870912) (hb2 : K' * componentBytes .int ≤ 536870912) (hb3 : K' ≤ 536870912) (hce : cells + (1 + N) ≤ R.cells) (hsl : slots + (N + N * K') ≤ R.slots)
    (kk : ∀ (H' : Heap), H'.size = H.size + (1 + N) → cRel (nn + (1 + N)) D cy ad A H0 x0 x1 (cRow hp nn N) H' locs → W p l e R s m args below meth c H' locs (cells + 1 + N) (slots + N + N * K') QW (F0 m (pc + 4) lsC ((.ref nn :: st).map (zcv ad)))) : W p l e R s m args below meth c H locs cells slots QW (F0 m pc lsC ((.int k :: .int n :: st).map (zcv ad))) := by
  obtain ⟨hx, hbb, hml, hown, hT, hK, hv9, hES, hA, hscr, -⟩ := id C
  subst hN
  subst hM
  intro T hTh Xs
  obtain ⟨vm₁, cA, comp, -, fA, fC, hO, -, X', step⟩ := Xs.multianewarray2F hx hown hclink (va_AOA.use hover) harr (g := F0 m pc lsC ((.int k :: .int n :: st).map (zcv ad))) rfl (by rw [hbb]; exact hd) rfl hn hk0 hb1 hb2 hb3 (by decide) (by decide) hce hsl
  cases Option.some.inj (hf0.symm.trans fC)
  cases Option.some.inj (hf4.symm.trans fA)
  generalize hF : Jvm.Free.Multi.fill (T.setVm vm₁) (cy 4) (cy 0) n.toNatClampNeg k.toNatClampNeg (defaultValue .int) n.toNatClampNeg = F at X' step
  have hT1 : (T.setVm vm₁).heap = H := hTh
  obtain ⟨f1, f2, -, -⟩ := Jvm.Free.Multi.fill_facts (T.setVm vm₁) (cy 4) (cy 0) n.toNatClampNeg k.toNatClampNeg (defaultValue .int) n.toNatClampNeg
  rw [hF, hT1] at f1 f2
  have hold : ∀ x : Nat, x < H.size → F.heap[x]? = H[x]? := fun x hx => by
    have := Jvm.Free.Multi.fill_old (T.setVm vm₁) (cy 4) (cy 0) n.toNatClampNeg k.toNatClampNeg (defaultValue .int) (a := x) (by rw [hT1]; exact hx) n.toNatClampNeg
    rw [hF, hT1] at this
    exact this
  have hrow : ∀ j : Nat, j < n.toNatClampNeg → F.heap[H.size + 1 + j]? = some (Jvm.Free.Multi.innerC (cy 0) k.toNatClampNeg (defaultValue .int)) := fun j hj => by
    have := Jvm.Free.Multi.fill_inner (T.setVm vm₁) (cy 4) (cy 0) n.toNatClampNeg k.toNatClampNeg (defaultValue .int) n.toNatClampNeg j hj
    rw [hF, hT1] at this
    exact this
  have hout : Jvm.Free.Multi.outerC (cy 4) n.toNatClampNeg H.size n.toNatClampNeg = vp_cell (cy 4) (n.toNatClampNeg, .inr (.inr (.inr (.inr (fun i => if i < n.toNatClampNeg then some (H.size + 1 + i) else none))))) := by
    rw [vp_cell_q]
    exact vr_outer (cy 4) n.toNatClampNeg H.size n.toNatClampNeg
  rw [hout] at f2
  have hrel : cRel (nn + (1 + n.toNatClampNeg)) D cy ad A H0 x0 x1 (cRow hp nn n.toNatClampNeg) F.heap locs := by
    refine ⟨fun k9 q hq => ?_, ⟨fun i j u v hi hj huv => ?_, fun k9 q hq => ?_⟩, ⟨Nat.le_trans hR.2.2.1.1 (by omega), fun x h1 h2 => (hold x (Nat.lt_of_lt_of_le h1 hR.2.2.1.1)).trans (hR.2.2.1.2.1 x h1 h2), hR.2.2.1.2.2⟩, hR.2.2.2.1, hR.2.2.2.2⟩
    · obtain ⟨z, hlt, hzz, rfl⟩ := cwd_get.mp hq
      by_cases c1 : k9 < nn
      · rw [cRow_o (by omega)]
        have h9 := hR.1 k9 _ (cwd_get.mpr ⟨z, c1, hzz, rfl⟩)
        exact h9.kept (hold _ h9.lt)
      · by_cases c2 : k9 = nn
        · subst c2
          cases Option.some.inj (hk.symm.trans hzz)
          show F.heap[ad k9]? = some (vp_cell (cy 4) (n.toNatClampNeg, .inr (.inr (.inr (.inr (fun j => ((cRow hp k9 n.toNatClampNeg).2.2 k9 j).map ad))))))
          have hfun : (fun j => ((cRow hp k9 n.toNatClampNeg).2.2 k9 j).map ad) = fun i => if i < n.toNatClampNeg then some (H.size + 1 + i) else none := by
            funext j
            show Option.map ad (if k9 = k9 then (if j < n.toNatClampNeg then some (k9 + 1 + j) else none) else hp.2.2 k9 j) = _
            rw [if_pos rfl]
            by_cases hj : j < n.toNatClampNeg
            · rw [if_pos hj, if_pos hj, Option.map_some, had _ (by omega), hH]
              congr 1
              omega
            · rw [if_neg hj, if_neg hj]
              rfl
          rw [hfun, had _ (by omega), ← hH, f2]
        · obtain ⟨j, rfl⟩ : ∃ j, k9 = nn + 1 + j := ⟨k9 - (nn + 1), by omega⟩
          cases Option.some.inj ((hks j (by omega)).symm.trans hzz)
          rw [cRow_o (by omega)]
          show F.heap[ad (nn + 1 + j)]? = some (vp_cell (cy 0) (k.toNatClampNeg, .inl (hp.1 (nn + 1 + j))))
          rw [had _ (by omega), show base + (nn + 1 + j) = H.size + 1 + j by omega, hrow j (by omega), show hp.1 (nn + 1 + j) = fun _ => 0 from funext (hz _ (by omega) (by omega))]
          show some ({ cls := cy 0, slots := Array.replicate k.toNatClampNeg (defaultValue .int), vm := .none } : Cell) = _
          rw [arrV_new]
          rfl
    · obtain ⟨z, q1, -, rfl⟩ := cwd_get.mp hi
      obtain ⟨z, q2, -, rfl⟩ := cwd_get.mp hj
      have h3 : ad i = ad j := huv
      rw [had _ (by omega), had _ (by omega)] at h3
      omega
    · obtain ⟨z, hlt, hzz, rfl⟩ := cwd_get.mp hq
      show A (ad k9)
      by_cases c1 : k9 < nn
      · exact hR.2.1.2 k9 _ (cwd_get.mpr ⟨z, c1, hzz, rfl⟩)
      · refine hA _ (Nat.le_trans hR.2.2.1.1 ?_)
        rw [had _ (by omega)]; omega
  obtain ⟨t, a1, b1⟩ := kk F.heap (by omega) hrel F rfl X'
  have hfr : (.ref nn :: st).map (zcv ad) = .ref T.heap.size :: st.map (zcv ad) := by
    rw [List.map_cons, show zcv ad (.ref nn) = .ref (ad nn) from rfl, had _ (by omega), hTh, hH]
  rw [hfr] at a1
  exact ⟨t, step t a1, b1⟩
end ZN
