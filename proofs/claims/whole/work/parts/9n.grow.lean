/-! a new array, a new object: one cell more -/
theorem cwd_succ {nn : Nat} {ad : Nat → Nat} {cy : Nat → ClassId} {hp : zHP} {q : Nat × Nat} (h : zSH[nn]? = some q) : cwd (nn + 1) ad cy hp = cwd nn ad cy hp ++ [(ad nn, zcell ad cy hp nn q)] := by
  have hlt : nn < zSH.length := (List.getElem?_eq_some_iff.mp h).1
  unfold cwd
  rw [List.take_add_one, h, List.mapIdx_append, List.length_take, Nat.min_eq_left (Nat.le_of_lt hlt)]
  show _ ++ [(ad (0 + nn), zcell ad cy hp (0 + nn) q)] = _
  rw [Nat.zero_add]
section ZN
variable {l : Launch} {ES : (Nat → Prop) → State → Heap → Prop} {D : va_G} {cy : Nat → ClassId} {ad : Nat → Nat} {x0 x1 : Nat → Int32}
variable {p : Program} {e : Env} {R : Room} {s : State} {m : MethodId} {args : Array Value} {below : List Frame} {meth : Method} {c : Code} {A : Nat → Prop} {H0 : Heap} {H : Heap} {locs : List Loc} {cells slots : Nat} {QW : State → Prop} {lsC : Array Slot} {mi : zMI} {hp : zHP} {pc nn : Nat} {ls : zLs} {st : List Value}
theorem c_newa {atype : ArrayType} {t N : Nat} {n : Int32} (C : zC ES D cy ad A H0 x0 x1 mi p s m args c) (hR : cRel nn D cy ad A H0 x0 x1 hp H locs) (hd : decode mi.2.1 pc = .ok (.newarray atype, 2)) (harr : Cond.arrayClass (newarray.typeOf atype) ∈ zTB) (hty : (ztys cy)[t]? = some (cy t, newarray.typeOf atype)) (hk : zSH[nn]? = some (100 + t, N)) (had : ad nn = H.size)
    (hz : vp_cell (cy t) (N, if t = 3 then .inr (.inl (hp.2.1 nn)) else .inl (hp.1 nn)) = arrV (cy t) N (fun _ => defaultValue (newarray.typeOf atype))) (ht : t < 4) (hn : ¬ n < 0) (hN : n.toNatClampNeg = N) (hb : N * componentBytes (newarray.typeOf atype) ≤ 536870912) (hce : cells + 1 ≤ R.cells) (hsl : slots + N ≤ R.slots)
    (kk : ∀ (H' : Heap), H'.size = H.size + 1 → cRel (nn + 1) D cy ad A H0 x0 x1 hp H' locs → W p l e R s m args below meth c H' locs (cells + 1) (slots + N) QW (F0 m (pc + 2) lsC ((.ref nn :: st).map (zcv ad)))) : W p l e R s m args below meth c H locs cells slots QW (F0 m pc lsC ((.int n :: st).map (zcv ad))) := by
  obtain ⟨hx, hbb, hml, hown, hT, hK, hv9, hES, hA, hscr, -⟩ := id C
  refine va_newaK (N := N) hx hbb (hT _ harr) rfl hd rfl hn hN hb hce hsl rfl fun H1 cA e1 z1 o1 hAr hNm => ?_
  have hra : va_RA s (cy t) (newarray.typeOf atype) := (hK.2 t _ hty).2
  have hf : s.vm.findClass ("[" ++ (newarray.typeOf atype).toString) = some (cy t) := by cases atype <;> exact hra
  have hc : cA = cy t := Option.some.inj (hNm.symm.trans hf)
  subst hc
  have hkk : ∀ (k : Nat) (x : Nat × va_E), (cwd nn ad cy hp)[k]? = some x → H1[x.1]? = H[x.1]? := fun k x hx => o1 x.1 ((hR.1 k x hx).lt)
  have ez : zcell ad cy hp nn (100 + t, N) = .inl (cy t, N, if t = 3 then .inr (.inl (hp.2.1 nn)) else .inl (hp.1 nn)) := by
    have e4 : t = 0 ∨ t = 1 ∨ t = 2 ∨ t = 3 := by omega
    rcases e4 with rfl | rfl | rfl | rfl <;> rfl
  have hw := cwd_succ (ad := ad) (cy := cy) (hp := hp) hk
  rw [ez, had] at hw
  have hfin := kk H1 z1 ⟨?_, ?_, ⟨Nat.le_trans hR.2.2.1.1 (by omega), fun x h1 h2 => (o1 x (Nat.lt_of_lt_of_le h1 hR.2.2.1.1)).trans (hR.2.2.1.2.1 x h1 h2), hR.2.2.1.2.2⟩, hR.2.2.2.1, hR.2.2.2.2⟩
  · rw [List.map_cons, show zcv ad (.ref nn) = .ref (ad nn) from rfl, had] at hfin
    exact hfin
  · rw [hw]
    refine (hR.1.kept hkk).app (fun k x hx => ?_)
    have hz1 : k < 1 := (List.getElem?_eq_some_iff.mp hx).1
    rw [show k = 0 by omega] at hx
    cases hx
    show H1[H.size]? = some (vp_cell _ _)
    rw [hz]
    exact e1
  · rw [hw]
    exact hR.2.1.push hR.1 rfl (hA _ hR.2.2.1.1)
theorem c_new {ci index : Nat} (C : zC ES D cy ad A H0 x0 x1 mi p s m args c) (hR : cRel nn D cy ad A H0 x0 x1 hp H locs) (hd : decode mi.2.1 pc = .ok (.new index, 3)) (hci : ci < 11) (hcl : (Cond.classLink (zcn mi.2.2.2.2) index (zcn ci)).before args s = true) (hinst : (Cond.instantiable (zcn ci) (zNf ci)).before args s = true) (hini : (Cond.initialized (zcn ci)).before args s = true) (hin : ∀ w ∈ u_ws (zcn ci) (zT ci) (zNf ci), w ∈ zTB) (ty : Nat → FieldType) (hty : ∀ k, k < zNf ci → parseFieldDescriptor (zT ci k).2.2.1 = some (ty k)) (hk : zSH[nn]? = some (ci, zNf ci)) (had : ad nn = H.size)
    (hfs : ∀ j, j < zNf ci → defaultValue (ty j) = vp_V ((List.range (zNf ci)).map (zfv ad hp nn ci)) j) (hce : cells + 1 ≤ R.cells) (hsl : slots + zNf ci ≤ R.slots)
    (kk : ∀ (H' : Heap), H'.size = H.size + 1 → cRel (nn + 1) D cy ad A H0 x0 x1 hp H' locs → W p l e R s m args below meth c H' locs (cells + 1) (slots + zNf ci) QW (F0 m (pc + 3) lsC ((.ref nn :: st).map (zcv ad)))) : W p l e R s m args below meth c H locs cells slots QW (F0 m pc lsC (st.map (zcv ad))) := by
  obtain ⟨hx, hbb, hml, hown, hT, hK, hv9, hES, hA, hscr, -⟩ := id C
  have hc := zclAt ci hci
  have hKn := hK.1 ci _ hc
  refine W.newcK hx hbb hown hcl hinst hini rfl hd hce hsl hKn.2.1 rfl fun H1 kC hkC e1 z1 o1 => ?_
  have hkk : ∀ (k : Nat) (x : Nat × va_E), (cwd nn ad cy hp)[k]? = some x → H1[x.1]? = H[x.1]? := fun k x hx => o1 x.1 ((hR.1 k x hx).lt)
  have ez : zcell ad cy hp nn (ci, zNf ci) = .inr (ci, (List.range (zNf ci)).map (zfv ad hp nn ci)) := by
    unfold zcell
    rw [if_pos (show ci < 100 by omega)]
  have hw := cwd_succ (ad := ad) (cy := cy) (hp := hp) hk
  rw [ez, had] at hw
  have hfin := kk H1 z1 ⟨?_, ?_, ⟨Nat.le_trans hR.2.2.1.1 (by omega), fun x h1 h2 => (o1 x (Nat.lt_of_lt_of_le h1 hR.2.2.1.1)).trans (hR.2.2.1.2.1 x h1 h2), hR.2.2.1.2.2⟩, hR.2.2.2.1, hR.2.2.2.2⟩
  · rw [List.map_cons, show zcv ad (.ref nn) = .ref (ad nn) from rfl, had] at hfin
    exact hfin
  · rw [hw]
    refine (hR.1.kept hkk).app (fun k x hx => ?_)
    have hz1 : k < 1 := (List.getElem?_eq_some_iff.mp hx).1
    rw [show k = 0 by omega] at hx
    cases hx
    exact ⟨_, hc, (u_born ty hT hin hKn hkC e1 hty).to hfs⟩
  · rw [hw]
    exact hR.2.1.push hR.1 rfl (hA _ hR.2.2.1.1)
end ZN
