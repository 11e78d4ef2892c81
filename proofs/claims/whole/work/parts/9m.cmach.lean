/-! the small machine over the first nn cells: as parts 03 to 09, with zSH.take nn in place of zSH -/
def ckd (nn : Nat) (k : Nat) : Nat := ((zSH.take nn).getD k (999, 0)).1
def cln (nn : Nat) (k : Nat) : Nat := ((zSH.take nn).getD k (999, 0)).2
def cget (nn : Nat) (pc : Nat) (ls : zLs) (r : List Value) (hp : zHP) (o ci j : Nat) : Option (Nat × zLs × List Value × zHP) :=
  if (ckd nn) o = ci then
    match zfs ci j with
    | 0 => some (pc, ls, .int (hp.1 o j) :: r, hp)
    | 1 => some (pc, ls, .int (hp.1 o j) :: r, hp)
    | 2 => some (pc, ls, .long (hp.2.1 o j) :: r, hp)
    | 3 => match hp.2.2 o j with
      | some q => some (pc, ls, .ref q :: r, hp)
      | none => none
    | _ => none
  else none
def cput (nn : Nat) (pc : Nat) (ls : zLs) (r : List Value) (hp : zHP) (v : Value) (o ci j : Nat) : Option (Nat × zLs × List Value × zHP) :=
  if (ckd nn) o = ci ∧ (zT ci j).2.2.2 = false then
    match zfs ci j, v with
    | 0, .int x => some (pc, ls, r, (zu hp.1 o j x, hp.2.1, hp.2.2))
    | 1, .int x => if x = 0 ∨ x = 1 then some (pc, ls, r, (zu hp.1 o j x, hp.2.1, hp.2.2)) else none
    | 2, .long x => some (pc, ls, r, (hp.1, zu hp.2.1 o j x, hp.2.2))
    | 3, .ref q => some (pc, ls, r, (hp.1, hp.2.1, zu hp.2.2 o j (some q)))
    | _, _ => none
  else none
def cact (nn : Nat) (c pc : Nat) (i : Instr) (ls : zLs) (st : List Value) (hp : zHP) : Option (Nat × zLs × List Value × zHP) := match i with
  | .iconst k => some (pc + 1, ls, .int (Int32.ofInt k) :: st, hp)
  | .bipush k => some (pc + 2, ls, .int (Int8.ofInt k).toInt32 :: st, hp)
  | .sipush k => some (pc + 3, ls, .int (Int16.ofInt k).toInt32 :: st, hp)
  | .lconst k => some (pc + 1, ls, .long (Int64.ofNat (k : Nat)) :: st, hp)
  | .ldc k => match zci c k with
    | some v => some (pc + 2, ls, .int v :: st, hp)
    | none => if c = 10 ∧ k = 194 then some (pc + 2, ls, .ref 910 :: st, hp) else none
  | .ldc_w k => match zci c k with
    | some v => some (pc + 3, ls, .int v :: st, hp)
    | none => none
  | .ldc2_w k => match zcl c k with
    | some v => some (pc + 3, ls, .long v :: st, hp)
    | none => none
  | .iload_n k => zld (pc + 1) ls st hp k 0
  | .iload k => zld (pc + 2) ls st hp k 0
  | .lload_n k => zld (pc + 1) ls st hp k 1
  | .lload k => zld (pc + 2) ls st hp k 1
  | .aload_n k => zld (pc + 1) ls st hp k 2
  | .aload k => zld (pc + 2) ls st hp k 2
  | .istore_n k => zsto (pc + 1) ls st hp k 0
  | .istore k => zsto (pc + 2) ls st hp k 0
  | .astore_n k => zsto (pc + 1) ls st hp k 2
  | .astore k => zsto (pc + 2) ls st hp k 2
  | .lstore_n k => zstl (pc + 1) ls st hp k
  | .lstore k => zstl (pc + 2) ls st hp k
  | .iinc k n => match ls[k]? with
    | some (some (.int x)) => if zfree ls k = true then some (pc + 3, ls.set k (some (.int (x + Int32.ofInt n))), st, hp) else none
    | _ => none
  | .iadd => zi2 (pc + 1) ls st hp (fun x y => x + y)
  | .isub => zi2 (pc + 1) ls st hp (fun x y => x - y)
  | .imul => zi2 (pc + 1) ls st hp (fun x y => x * y)
  | .iand => zi2 (pc + 1) ls st hp (fun x y => x &&& y)
  | .ior => zi2 (pc + 1) ls st hp (fun x y => x ||| y)
  | .ishl => zi2 (pc + 1) ls st hp (fun x y => x <<< (y &&& 31))
  | .ishr => zi2 (pc + 1) ls st hp (fun x y => x >>> (y &&& 31))
  | .iushr => zi2 (pc + 1) ls st hp (fun x y => (x.toUInt32 >>> (y.toUInt32 &&& Int32.toUInt32 31)).toInt32)
  | .idiv => match st with
    | .int y :: .int x :: r => if y = 0 then none else some (pc + 1, ls, .int (x / y) :: r, hp)
    | _ => none
  | .irem => match st with
    | .int y :: .int x :: r => if y = 0 then none else some (pc + 1, ls, .int (x - x / y * y) :: r, hp)
    | _ => none
  | .ineg => zi1 (pc + 1) ls st hp (fun x => .int (-x))
  | .i2l => zi1 (pc + 1) ls st hp (fun x => .long x.toInt64)
  | .i2b => zi1 (pc + 1) ls st hp (fun x => .int x.toInt8.toInt32)
  | .ladd => zl2 (pc + 1) ls st hp (fun x y => x + y)
  | .lsub => zl2 (pc + 1) ls st hp (fun x y => x - y)
  | .lmul => zl2 (pc + 1) ls st hp (fun x y => x * y)
  | .land => zl2 (pc + 1) ls st hp (fun x y => x &&& y)
  | .ldiv => match st with
    | .long y :: .long x :: r => if y = 0 then none else some (pc + 1, ls, .long (x / y) :: r, hp)
    | _ => none
  | .lrem => match st with
    | .long y :: .long x :: r => if y = 0 then none else some (pc + 1, ls, .long (x - x / y * y) :: r, hp)
    | _ => none
  | .lneg => zl1 (pc + 1) ls st hp (fun x => .long (-x))
  | .l2i => zl1 (pc + 1) ls st hp (fun x => .int x.toInt32)
  | .lcmp => match st with
    | .long y :: .long x :: r => some (pc + 1, ls, .int (lg_cmp x y) :: r, hp)
    | _ => none
  | .dup => match st with
    | v :: r => if v.category = 1 then some (pc + 1, ls, v :: v :: r, hp) else none
    | _ => none
  | .dup2 => match st with
    | v :: w :: r => if v.category = 1 ∧ w.category = 1 then some (pc + 1, ls, v :: w :: v :: w :: r, hp) else none
    | _ => none
  | .pop => match st with
    | v :: r => if v.category = 1 then some (pc + 1, ls, r, hp) else none
    | _ => none
  | .iaload => match st with
    | .int i :: .ref a :: r =>
      if (ckd nn) a = 100 ∧ zin i ((cln nn) a) = true then some (pc + 1, ls, .int (hp.1 a i.toNatClampNeg) :: r, hp)
      else if a = 900 ∧ c = 11 ∧ zin i (hp.1 901 0).toNatClampNeg = true then some (pc + 1, ls, .int (hp.1 900 i.toNatClampNeg) :: r, hp) else none
    | _ => none
  | .baload => match st with
    | .int i :: .ref a :: r => if ((ckd nn) a = 101 ∨ (ckd nn) a = 102) ∧ zin i ((cln nn) a) = true then some (pc + 1, ls, .int (hp.1 a i.toNatClampNeg) :: r, hp) else none
    | _ => none
  | .laload => match st with
    | .int i :: .ref a :: r => if (ckd nn) a = 103 ∧ zin i ((cln nn) a) = true then some (pc + 1, ls, .long (hp.2.1 a i.toNatClampNeg) :: r, hp) else none
    | _ => none
  | .aaload => match st with
    | .int i :: .ref a :: r => if (ckd nn) a = 104 ∧ zin i ((cln nn) a) = true then
        match hp.2.2 a i.toNatClampNeg with
        | some q => some (pc + 1, ls, .ref q :: r, hp)
        | none => none
      else none
    | _ => none
  | .iastore => match st with
    | .int x :: .int i :: .ref a :: r => if (ckd nn) a = 100 ∧ zin i ((cln nn) a) = true then some (pc + 1, ls, r, (zu hp.1 a i.toNatClampNeg x, hp.2.1, hp.2.2)) else none
    | _ => none
  | .bastore => match st with
    | .int x :: .int i :: .ref a :: r => if ((ckd nn) a = 101 ∨ (ckd nn) a = 102) ∧ zin i ((cln nn) a) = true then some (pc + 1, ls, r, (zu hp.1 a i.toNatClampNeg (vp_nar (if (ckd nn) a = 101 then .byte else .boolean) x), hp.2.1, hp.2.2)) else none
    | _ => none
  | .lastore => match st with
    | .long x :: .int i :: .ref a :: r => if (ckd nn) a = 103 ∧ zin i ((cln nn) a) = true then some (pc + 1, ls, r, (hp.1, zu hp.2.1 a i.toNatClampNeg x, hp.2.2)) else none
    | _ => none
  | .arraylength => match st with
    | .ref a :: r =>
      if 100 ≤ (ckd nn) a ∧ (ckd nn) a < 105 then some (pc + 1, ls, .int (Int32.ofNat ((cln nn) a)) :: r, hp)
      else if a = 900 ∧ c = 11 then some (pc + 1, ls, .int (hp.1 901 0) :: r, hp) else none
    | _ => none
  | .getfield k => match st, zfl c k with
    | .ref o :: r, some (ci, j) => (cget nn) (pc + 3) ls r hp o ci j
    | _, _ => none
  | .putfield k => match st, zfl c k with
    | v :: .ref o :: r, some (ci, j) => (cput nn) (pc + 3) ls r hp v o ci j
    | _, _ => none
  | .goto off => ztg pc off ls st hp
  | .ifCond cd off => match st with
    | .int x :: r => if zcmp cd x 0 = true then ztg pc off ls r hp else some (pc + 3, ls, r, hp)
    | _ => none
  | .if_icmp cd off => match st with
    | .int y :: .int x :: r => if zcmp cd x y = true then ztg pc off ls r hp else some (pc + 3, ls, r, hp)
    | _ => none
  | .tableswitch dflt lo hi offs => match st with
    | .int x :: r => match zsw pc dflt lo hi offs x with
      | some off => ztg pc off ls r hp
      | none => none
    | _ => none
  | .lookupswitch dflt ps => match st with
    | .int x :: r => if (ps.toList.zip (ps.toList.drop 1)).all (fun (a, next) => a.1 < next.1) = true then ztg pc (Op.lookupswitch.offset ps.toList dflt x.toInt) ls r hp else none
    | _ => none
  | _ => none
def ccx (nn : Nat) (c : Nat) (i : Instr) (st : List Value) : Option (Nat × List Value × List Value) := match i with
  | .invokevirtual k => match zca c k, st with
    | some (y, n, 0), st => match st.drop n with
      | .ref b :: rest => if n ≤ st.length ∧ zcat rest ≤ 8 ∧ (ckd nn) b < 11 ∧ zcn ((ckd nn) b) = (zyOf y).cls ∧ y < 241 then some (y, .ref b :: (st.take n).reverse, rest) else none
      | _ => none
    | some (y, n, 2), st => match st.drop n with
      | .ref b :: rest => if n ≤ st.length ∧ zcat rest ≤ 8 ∧ b = 910 ∧ (y = 1000 ∨ y = 1001) then some (y, .ref b :: (st.take n).reverse, rest) else none
      | _ => none
    | _, _ => none
  | .invokestatic k => match zca c k with
    | some (y, n, kd) => if n ≤ st.length ∧ zcat (st.drop n) ≤ 8 ∧ ((kd = 1 ∧ y < 241) ∨ (kd = 2 ∧ (y = 1002 ∨ (1010 ≤ y ∧ y ≤ 1015)))) then some (y, (st.take n).reverse, st.drop n) else none
    | none => none
  | _ => none
def cbi (nn : Nat) (y : Nat) (as : List Value) (hp : zHP) : Option (Option Value × zHP) :=
  if y = 1000 then match as with
    | [.ref 910] => some (some (.int (nI zwds.length)), hp)
    | _ => none
  else if y = 1001 then match as with
    | [.ref 910, .int k] => if zin k zwds.length = true then some (some (.int (zwds.getD k.toNatClampNeg 0)), hp) else none
    | _ => none
  else if y = 1002 then match as with
    | [.ref a, .int i, .ref b, .int j, .int n] =>
      if (ckd nn) a = 100 ∧ (ckd nn) b = 100 ∧ ¬ i < 0 ∧ ¬ j < 0 ∧ ¬ n < 0 ∧ i.toNatClampNeg + n.toNatClampNeg ≤ (cln nn) a ∧ j.toNatClampNeg + n.toNatClampNeg ≤ (cln nn) b then
        some (none, (va_up hp.1 b (va_cpy (hp.1 a) (hp.1 b) i.toNatClampNeg j.toNatClampNeg n.toNatClampNeg), hp.2.1, hp.2.2))
      else none
    | _ => none
  else if y = 1010 then match as with
    | [.int x, .int z] => some (some (.int (if x < z then z else x)), hp)
    | _ => none
  else if y = 1011 then match as with
    | [.int x, .int z] => some (some (.int (if z < x then z else x)), hp)
    | _ => none
  else if y = 1012 then match as with
    | [.int x] => some (some (.int (if 0 ≤ x then x else 0 - x)), hp)
    | _ => none
  else if y = 1013 then match as with
    | [.long x, .long z] => some (some (.long (if z < x then x else z)), hp)
    | _ => none
  else if y = 1014 then match as with
    | [.long x, .long z] => some (some (.long (if z < x then z else x)), hp)
    | _ => none
  else if y = 1015 then match as with
    | [.long x] => some (some (.long (if 0 < x then x else -x)), hp)
    | _ => none
  else none
def cWn (nn : Nat) : Nat → Nat → Nat → Nat → zLs → List Value → zHP → (Option Value → zHP → Prop) → Prop
  | 0, _, _, _, _, _, _, _ => False
  | n + 1, d, M, pc, ls, st, hp, K =>
    match zmt[M]? with
    | none => False
    | some mi =>
      match zexit M pc ls st with
      | some v => K v hp
      | none =>
      match decode mi.2.1 pc with
      | .error _ => False
      | .ok (i, len) =>
        if zlen i len = true then
          match (cact nn) mi.2.2.2.2 pc i ls st hp with
          | some r => (cWn nn) n d M r.1 r.2.1 r.2.2.1 r.2.2.2 K
          | none =>
            match zrt mi.2.2.2.1 i st with
            | some v => K v hp
            | none =>
              match (ccx nn) mi.2.2.2.2 i st with
              | none => False
              | some q =>
                match (cbi nn) q.1 q.2.1 hp with
                | some w => 5 ≤ d ∧ (cWn nn) n d M (pc + 3) ls (w.1.toList ++ q.2.2) w.2 K
                | none =>
                  match d, zmt[q.1]? with
                  | d' + 1, some my => q.1 < 241 ∧ (zent my.2.2.1 q.2.1).length = my.2.2.1 ∧ (cWn nn) n d' q.1 0 (zent my.2.2.1 q.2.1) [] hp (fun v hp' => (cWn nn) n d M (pc + 3) ls (v.toList ++ q.2.2) hp' K)
                  | _, _ => False
        else False
def cwd (nn : Nat) (ad : Nat → Nat) (cy : Nat → ClassId) (hp : zHP) : va_W := (zSH.take nn).mapIdx (fun k q => (ad k, zcell ad cy hp k q))
theorem cSH_kinds {nn : Nat} : ∀ q ∈ zSH.take nn, (q.1 < 11 ∧ q.2 = zNf q.1) ∨ (100 ≤ q.1 ∧ q.1 < 105) := fun q h => zSH_kinds q (List.mem_of_mem_take h)
theorem cSH_at {nn : Nat} {k t : Nat} (h : (ckd nn) k = t) (ht : t ≠ 999) : (zSH.take nn)[k]? = some (t, (cln nn) k) := by
  unfold ckd cln at *
  rw [List.getD_eq_getElem?_getD] at *
  cases hx : (zSH.take nn)[k]? with
  | none => rw [hx] at h; exact absurd h.symm ht
  | some q => rw [hx] at h; obtain ⟨a, b⟩ := q; cases h; rfl
theorem cwd_at {nn : Nat} {ad : Nat → Nat} {cy : Nat → ClassId} {hp : zHP} {k t : Nat} (h : (ckd nn) k = t) (ht : t ≠ 999) : ((cwd nn) ad cy hp)[k]? = some (ad k, zcell ad cy hp k (t, (cln nn) k)) := by
  unfold cwd
  rw [List.getElem?_mapIdx, cSH_at h ht]
  rfl
theorem cwd_set {nn : Nat} {ad : Nat → Nat} {cy : Nat → ClassId} {hp hp' : zHP} {k t : Nat} (h : (ckd nn) k = t) (ht : t ≠ 999) (hn : ∀ j q, j ≠ k → zcell ad cy hp' j q = zcell ad cy hp j q) : ((cwd nn) ad cy hp).set k (ad k, zcell ad cy hp' k (t, (cln nn) k)) = (cwd nn) ad cy hp' := by
  have hk := cSH_at h ht
  have hlt : k < (zSH.take nn).length := (List.getElem?_eq_some_iff.mp hk).1
  apply List.ext_getElem?
  intro j
  by_cases e : j = k
  · subst e
    rw [List.getElem?_set_self (by unfold cwd; rw [List.length_mapIdx]; exact hlt), cwd_at h ht]
  · rw [List.getElem?_set_ne (fun q => e q.symm)]
    unfold cwd
    rw [List.getElem?_mapIdx, List.getElem?_mapIdx]
    cases (zSH.take nn)[j]? with
    | none => rfl
    | some q => simp [hn j q e]
def cRel (nn : Nat) (D : va_G) (cy : Nat → ClassId) (ad : Nat → Nat) (A : Nat → Prop) (H0 : Heap) (x0 x1 : Nat → Int32) (hp : zHP) (H : Heap) (locs : List Loc) : Prop :=
  va_P D vwCl ((cwd nn) ad cy hp) H ∧ va_D A ((cwd nn) ad cy hp) ∧ va_S A H0 H locs ∧ hp.1 900 = x0 ∧ hp.1 901 = x1
section ZS
variable {p : Program} {l : Launch} {e : Env} {R : Room} {s : State} {m : MethodId} {args : Array Value} {below : List Frame} {meth : Method} {c : Code} {H : Heap} {locs : List Loc} {cells slots : Nat} {QW : State → Prop}
variable {ES : (Nat → Prop) → State → Heap → Prop} {D : va_G} {cy : Nat → ClassId} {ad : Nat → Nat} {A : Nat → Prop} {H0 : Heap} {x0 x1 : Nat → Int32} {mi : zMI} {pc len : Nat} {ls ls' : zLs} {st st' : List Value} {hp hp' : zHP} {lsC : Array Slot} {pc' : Nat}
theorem cset_rel {nn : Nat} {k t : Nat} {H1 : Heap} {locs1 : List Loc} {E : va_E} (hR : (cRel nn) D cy ad A H0 x0 x1 hp H locs) (h : (ckd nn) k = t) (ht : t ≠ 999) (hE : E = zcell ad cy hp' k (t, (cln nn) k)) (hn : ∀ j q, j ≠ k → zcell ad cy hp' j q = zcell ad cy hp j q) (h0 : hp'.1 900 = hp.1 900) (h1 : hp'.1 901 = hp.1 901)
    (hP : va_P D vwCl (((cwd nn) ad cy hp).set k (ad k, E)) H1) (hD : va_D A (((cwd nn) ad cy hp).set k (ad k, E))) (hS : va_S A H0 H1 locs1) : (cRel nn) D cy ad A H0 x0 x1 hp' H1 locs1 := by
  subst hE
  rw [cwd_set h ht hn] at hP hD
  exact ⟨hP, hD, hS, by rw [h0]; exact hR.2.2.2.1, by rw [h1]; exact hR.2.2.2.2⟩
theorem ckd9 {nn : Nat} {k : Nat} (h : 170 ≤ k) : ckd nn k = 999 := by
  unfold ckd
  rw [List.getD_eq_getElem?_getD, List.getElem?_eq_none (by rw [List.length_take, show zSH.length = 170 by decide +kernel]; omega)]
  rfl
theorem cne900 {nn : Nat} {k t : Nat} (h : (ckd nn) k = t) (ht : t ≠ 999) : (900 : Nat) ≠ k ∧ (901 : Nat) ≠ k := by
  constructor <;> (intro q; subst q; exact ht (h.symm.trans (ckd9 (by decide))))
theorem cln_obj {nn : Nat} {k ci : Nat} (h : (ckd nn) k = ci) (hc : ci < 11) : (cln nn) k = zNf ci := by
  have h1 := cSH_at h (by omega)
  rcases cSH_kinds _ (List.mem_of_getElem? h1) with q | q
  · exact q.2
  · exact absurd q.1 (by show ¬ 100 ≤ ci; omega)
set_option maxHeartbeats 4000000 in
theorem cget_ok {nn : Nat} {idx o ci j : Nat} {r : List Value} (C : zC ES D cy ad A H0 x0 x1 mi p s m args c) (hdec : decode mi.2.1 pc = .ok (.getfield idx, 3)) (hf : zfl mi.2.2.2.2 idx = some (ci, j)) (h : (cget nn) (pc + 3) ls r hp o ci j = some (pc', ls', st', hp')) (hR : (cRel nn) D cy ad A H0 x0 x1 hp H locs)
    (kk : W p l e R s m args below meth c H locs cells slots QW (F0 m pc' lsC (st'.map (zcv ad)))) : (ls' = ls ∧ hp' = hp) ∧ W p l e R s m args below meth c H locs cells slots QW (F0 m pc lsC (.ref (ad o) :: r.map (zcv ad))) := by
  obtain ⟨hx, hb, hml, hown, hts, hK, -, -, hA, -, -⟩ := C
  obtain ⟨h1, h2, h3⟩ := zfl_spec hf
  unfold cget at h
  split at h
  next hk =>
    have hat := cwd_at (nn := nn) (ad := ad) (cy := cy) (hp := hp) hk (by omega)
    rw [zcell_obj hp h1, cln_obj hk h1] at hat
    have go : ∀ v : Value, zfv ad hp o ci j = v → W p l e R s m args below meth c H locs cells slots QW (F0 m (pc + 3) lsC (v :: r.map (zcv ad))) → W p l e R s m args below meth c H locs cells slots QW (F0 m pc lsC (.ref (ad o) :: r.map (zcv ad))) := fun v hv k =>
      va_get (D := D) (ci := ci) (C := zcn ci) (T := zT ci) (N := zNf ci) hx hb hts (zuws h1) hown hK hR.1 o hat (zclAt ci h1) j h2 (hts _ h3) (fun _ h9 => h9) (by rw [zfv_at hp h2, hv]) hdec k
    split at h
    next e1 => cases h; exact ⟨⟨rfl, rfl⟩, go _ (by unfold zfv; rw [e1]; rfl) kk⟩
    next e1 => cases h; exact ⟨⟨rfl, rfl⟩, go _ (by unfold zfv; rw [e1]; rfl) kk⟩
    next e1 => cases h; exact ⟨⟨rfl, rfl⟩, go _ (by unfold zfv; rw [e1]; rfl) kk⟩
    next e1 =>
      split at h
      next q hq => cases h; exact ⟨⟨rfl, rfl⟩, go (.ref (ad q)) (by unfold zfv; rw [e1, hq]; rfl) kk⟩
      next => cases h
    next => cases h
  next => cases h
set_option maxHeartbeats 4000000 in
theorem cput_ok {nn : Nat} {idx o ci j : Nat} {r : List Value} {v : Value} (C : zC ES D cy ad A H0 x0 x1 mi p s m args c) (hdec : decode mi.2.1 pc = .ok (.putfield idx, 3)) (hf : zfl mi.2.2.2.2 idx = some (ci, j)) (h : (cput nn) (pc + 3) ls r hp v o ci j = some (pc', ls', st', hp')) (hR : (cRel nn) D cy ad A H0 x0 x1 hp H locs)
    (kk : ∀ (H' : Heap) (locs' : List Loc), (cRel nn) D cy ad A H0 x0 x1 hp' H' locs' → W p l e R s m args below meth c H' locs' cells slots QW (F0 m pc' lsC (st'.map (zcv ad)))) : ls' = ls ∧ W p l e R s m args below meth c H locs cells slots QW (F0 m pc lsC (zcv ad v :: .ref (ad o) :: r.map (zcv ad))) := by
  obtain ⟨hx, hb, hml, hown, hts, hK, -, -, hA, -, -⟩ := C
  obtain ⟨h1, h2, h3⟩ := zfl_spec hf
  unfold cput at h
  split at h
  next hkf =>
    obtain ⟨hk, hfin⟩ := hkf
    have hat := cwd_at (nn := nn) (ad := ad) (cy := cy) (hp := hp) hk (by omega)
    rw [zcell_obj hp h1, cln_obj hk h1] at hat
    obtain ⟨n0, n1⟩ := cne900 hk (by omega)
    have go : ∀ hp2 : zHP, pc' = pc + 3 → st' = r → hp' = hp2 → zfv ad hp2 o ci j = zcv ad v → (∀ i, i ≠ j → zfv ad hp2 o ci i = zfv ad hp o ci i) → (∀ k q, k ≠ o → zcell ad cy hp2 k q = zcell ad cy hp k q) → hp2.1 900 = hp.1 900 → hp2.1 901 = hp.1 901 → narrow (zty ci j) (zcv ad v) = zcv ad v → fits (zty ci j) (zcv ad v) = true →
        W p l e R s m args below meth c H locs cells slots QW (F0 m pc lsC (zcv ad v :: .ref (ad o) :: r.map (zcv ad))) := by
      intro hp2 e1 e2 e3 hv hn hc q0 q1 hna hfi
      subst e1; subst e2; subst e3
      refine va_put (D := D) (ci := ci) (C := zcn ci) (T := zT ci) (N := zNf ci) (ty := zty ci j) hx hb hts (zuws h1) (zty ci) (zty_ok h1) (znm_ok h1) hown hK hR.1 hR.2.1 hR.2.2.1 o hat (zclAt ci h1) j h2 (hts _ h3) (fun _ h9 => h9) hfin (zty_ok h1 j h2) hna hfi (by simpa using h2) hdec (fun H1 locs1 hP hD hS => ?_)
      refine kk H1 locs1 (cset_rel hR hk (by omega) ?_ hc q0 q1 hP hD hS)
      rw [zcell_obj _ h1, cln_obj hk h1, zfs_set h2 hv hn]
    have hty : ∀ n : Nat, zfs ci j = n → n < 4 → (n = 0 → zty ci j = .int) ∧ (n = 1 → zty ci j = .boolean) ∧ (n = 2 → zty ci j = .long) ∧ (n = 3 → (∃ q, zty ci j = .object q) ∨ ∃ q, zty ci j = .array q) := by
      intro n hn hl
      unfold zfs at hn
      cases hz : zty ci j <;> rw [hz] at hn <;> simp at hn <;> subst hn <;> simp <;> omega
    split at h
    next x e1 =>
      cases h
      have ht := (hty 0 e1 (by omega)).1 rfl
      refine ⟨rfl, go _ rfl rfl rfl ?_ ?_ ?_ ?_ ?_ ?_ ?_⟩
      · unfold zfv; rw [e1]; show Value.int (zu hp.1 o j x o j) = _; rw [zu_self]; unfold va_up; rw [if_pos rfl]; rfl
      · intro i hi
        unfold zfv
        show (match zfs ci i with | 0 => Value.int (zu hp.1 o j x o i) | 1 => .int (zu hp.1 o j x o i) | 2 => .long (hp.2.1 o i) | _ => va_rf ((hp.2.2 o i).map ad)) = _
        rw [zu_self]; unfold va_up; rw [if_neg hi]; rfl
      · intro k q hkq; exact zcell_i (zu_ne hkq)
      · exact zu_ne n0
      · exact zu_ne n1
      · rw [ht]; rfl
      · rw [ht]; rfl
    next x e1 =>
      split at h
      next hx01 =>
        cases h
        have ht := (hty 1 e1 (by omega)).2.1 rfl
        refine ⟨rfl, go _ rfl rfl rfl ?_ ?_ ?_ ?_ ?_ ?_ ?_⟩
        · unfold zfv; rw [e1]; show Value.int (zu hp.1 o j x o j) = _; rw [zu_self]; unfold va_up; rw [if_pos rfl]; rfl
        · intro i hi
          unfold zfv
          show (match zfs ci i with | 0 => Value.int (zu hp.1 o j x o i) | 1 => .int (zu hp.1 o j x o i) | 2 => .long (hp.2.1 o i) | _ => va_rf ((hp.2.2 o i).map ad)) = _
          rw [zu_self]; unfold va_up; rw [if_neg hi]; rfl
        · intro k q hkq; exact zcell_i (zu_ne hkq)
        · exact zu_ne n0
        · exact zu_ne n1
        · rw [ht]; rcases hx01 with rfl | rfl
          · exact (by decide : narrow .boolean (.int 0) = .int 0)
          · exact (by decide : narrow .boolean (.int 1) = .int 1)
        · rw [ht]; rcases hx01 with rfl | rfl
          · exact (by decide : fits .boolean (.int 0) = true)
          · exact (by decide : fits .boolean (.int 1) = true)
      next => cases h
    next x e1 =>
      cases h
      have ht := (hty 2 e1 (by omega)).2.2.1 rfl
      refine ⟨rfl, go _ rfl rfl rfl ?_ ?_ ?_ ?_ ?_ ?_ ?_⟩
      · unfold zfv; rw [e1]; show Value.long (zu hp.2.1 o j x o j) = _; rw [zu_self]; unfold va_up; rw [if_pos rfl]; rfl
      · intro i hi
        unfold zfv
        show (match zfs ci i with | 0 => Value.int (hp.1 o i) | 1 => .int (hp.1 o i) | 2 => .long (zu hp.2.1 o j x o i) | _ => va_rf ((hp.2.2 o i).map ad)) = _
        rw [zu_self]; unfold va_up; rw [if_neg hi]; rfl
      · intro k q hkq; exact zcell_l (zu_ne hkq)
      · rfl
      · rfl
      · rw [ht]; rfl
      · rw [ht]; rfl
    next x e1 =>
      cases h
      have ht := (hty 3 e1 (by omega)).2.2.2 rfl
      refine ⟨rfl, go _ rfl rfl rfl ?_ ?_ ?_ ?_ ?_ ?_ ?_⟩
      · unfold zfv; rw [e1]; show va_rf ((zu hp.2.2 o j (some x) o j).map ad) = _; rw [zu_self]; unfold va_up; rw [if_pos rfl]; rfl
      · intro i hi
        unfold zfv
        show (match zfs ci i with | 0 => Value.int (hp.1 o i) | 1 => .int (hp.1 o i) | 2 => .long (hp.2.1 o i) | _ => va_rf ((zu hp.2.2 o j (some x) o i).map ad)) = _
        rw [zu_self]; unfold va_up; rw [if_neg hi]; rfl
      · intro k q hkq; exact zcell_r (zu_ne hkq)
      · rfl
      · rfl
      · rcases ht with ⟨q, ht⟩ | ⟨q, ht⟩ <;> rw [ht] <;> rfl
      · rcases ht with ⟨q, ht⟩ | ⟨q, ht⟩ <;> rw [ht] <;> rfl
    next => cases h
  next => cases h
end ZS
section ZA
variable {p : Program} {l : Launch} {e : Env} {R : Room} {s : State} {m : MethodId} {args : Array Value} {below : List Frame} {meth : Method} {c : Code} {H : Heap} {locs : List Loc} {cells slots : Nat} {QW : State → Prop}
variable {ES : (Nat → Prop) → State → Heap → Prop} {D : va_G} {cy : Nat → ClassId} {ad : Nat → Nat} {A : Nat → Prop} {H0 : Heap} {x0 x1 : Nat → Int32} {mi : zMI} {pc len : Nat} {ls ls' : zLs} {st st' : List Value} {hp hp' : zHP} {lsC : Array Slot} {pc' : Nat}
set_option maxHeartbeats 16000000 in
theorem cact_ok {nn : Nat} {i : Instr} (C : zC ES D cy ad A H0 x0 x1 mi p s m args c) (hdec : decode mi.2.1 pc = .ok (i, len)) (hlen : zlen i len = true) (h : (cact nn) mi.2.2.2.2 pc i ls st hp = some (pc', ls', st', hp')) (hR : (cRel nn) D cy ad A H0 x0 x1 hp H locs) (hl : zlr ad mi.2.2.1 ls lsC)
    (kk : ∀ (H' : Heap) (locs' : List Loc) (lsC' : Array Slot), (cRel nn) D cy ad A H0 x0 x1 hp' H' locs' → zlr ad mi.2.2.1 ls' lsC' → W p l e R s m args below meth c H' locs' cells slots QW (F0 m pc' lsC' (st'.map (zcv ad)))) : W p l e R s m args below meth c H locs cells slots QW (F0 m pc lsC (st.map (zcv ad))) := by
  obtain ⟨hx, hb, hml, hown, hts, hK, hv9, hES, hA, hscr, -⟩ := id C
  cases i
  all_goals try (have h9 : (none : Option (Nat × zLs × List Value × zHP)) = some (pc', ls', st', hp') := h; cases h9; done)
  case iconst k =>
      have e9 : len = 1 := by simpa [zlen] using hlen
      subst e9
      cases h
      exact lv_iconst hx hb hdec rfl (kk _ _ _ hR hl)
  case bipush k =>
      have e9 : len = 2 := by simpa [zlen] using hlen
      subst e9
      cases h
      exact lv_bipush hx hb hdec rfl (kk _ _ _ hR hl)
  case sipush k =>
      have e9 : len = 3 := by simpa [zlen] using hlen
      subst e9
      cases h
      exact lv_sipush hx hb hdec rfl (kk _ _ _ hR hl)
  case lconst k =>
      have e9 : len = 1 := by simpa [zlen] using hlen
      subst e9
      cases h
      exact lv_lconst hx hb hdec rfl (kk _ _ _ hR hl)
  case ldc k =>
      have e9 : len = 2 := by simpa [zlen] using hlen
      subst e9
      simp only [cact] at h
      split at h
      next v hv => cases h; exact lv_ldc hx hb hown (hts _ (zci_spec hv)) hdec (kk _ _ _ hR hl)
      next =>
        split at h
        next hq =>
          obtain ⟨q1, q2⟩ := hq
          cases h
          subst q2
          exact va_ldcS hx hb (own := "HandsLetModel") (by rw [q1] at hown; exact hown) hv9 hdec (kk _ _ _ hR hl)
        next => cases h
  case ldc_w k =>
      have e9 : len = 3 := by simpa [zlen] using hlen
      subst e9
      simp only [cact] at h
      split at h
      next v hv => cases h; exact lv_ldcw hx hb hown (hts _ (zci_spec hv)) hdec (kk _ _ _ hR hl)
      next => cases h
  case ldc2_w k =>
      have e9 : len = 3 := by simpa [zlen] using hlen
      subst e9
      simp only [cact] at h
      split at h
      next v hv => cases h; exact lv_ldc2 hx hb hown (hts _ (zcl_spec hv)) hdec (kk _ _ _ hR hl)
      next => cases h
  case iload_n k =>
      have e9 : len = 1 := by simpa [zlen] using hlen
      subst e9
      obtain ⟨v, rfl, rfl, rfl, rfl, hw, hc⟩ := zld_ok (mi := mi) h hl
      obtain ⟨x, rfl⟩ := zsort0 hw
      exact lv_iload_n hx hb hdec rfl hc (kk _ _ _ hR hl)
  case iload k =>
      have e9 : len = 2 := by simpa [zlen] using hlen
      subst e9
      obtain ⟨v, rfl, rfl, rfl, rfl, hw, hc⟩ := zld_ok (mi := mi) h hl
      obtain ⟨x, rfl⟩ := zsort0 hw
      exact lv_iload hx hb hdec hc (kk _ _ _ hR hl)
  case lload_n k =>
      have e9 : len = 1 := by simpa [zlen] using hlen
      subst e9
      obtain ⟨v, rfl, rfl, rfl, rfl, hw, hc⟩ := zld_ok (mi := mi) h hl
      obtain ⟨x, rfl⟩ := zsort1 hw
      exact lv_lload_n hx hb hdec rfl hc (kk _ _ _ hR hl)
  case lload k =>
      have e9 : len = 2 := by simpa [zlen] using hlen
      subst e9
      obtain ⟨v, rfl, rfl, rfl, rfl, hw, hc⟩ := zld_ok (mi := mi) h hl
      obtain ⟨x, rfl⟩ := zsort1 hw
      exact lv_lload hx hb hdec hc (kk _ _ _ hR hl)
  case aload_n k =>
      have e9 : len = 1 := by simpa [zlen] using hlen
      subst e9
      obtain ⟨v, rfl, rfl, rfl, rfl, hw, hc⟩ := zld_ok (mi := mi) h hl
      obtain ⟨x, rfl⟩ := zsort2 hw
      exact lv_aload_n hx hb hdec rfl hc (kk _ _ _ hR hl)
  case aload k =>
      have e9 : len = 2 := by simpa [zlen] using hlen
      subst e9
      obtain ⟨v, rfl, rfl, rfl, rfl, hw, hc⟩ := zld_ok (mi := mi) h hl
      obtain ⟨x, rfl⟩ := zsort2 hw
      exact lv_aload hx hb hdec hc (kk _ _ _ hR hl)
  case istore_n k =>
      have e9 : len = 1 := by simpa [zlen] using hlen
      subst e9
      obtain ⟨v, rfl, rfl, rfl, rfl, hw, hf, hi⟩ := zsto_ok h
      obtain ⟨x, rfl⟩ := zsort0 hw
      exact lv_istore_n hx hb hdec rfl (zlr_has hl) (by rw [← hl.1]; exact hi) rfl (fun ls2 h2 => kk _ _ _ hR (zlr_set1 hl hf hi h2))
  case istore k =>
      have e9 : len = 2 := by simpa [zlen] using hlen
      subst e9
      obtain ⟨v, rfl, rfl, rfl, rfl, hw, hf, hi⟩ := zsto_ok h
      obtain ⟨x, rfl⟩ := zsort0 hw
      exact lv_istore hx hb hdec (zlr_has hl) (by rw [← hl.1]; exact hi) rfl (fun ls2 h2 => kk _ _ _ hR (zlr_set1 hl hf hi h2))
  case astore_n k =>
      have e9 : len = 1 := by simpa [zlen] using hlen
      subst e9
      obtain ⟨v, rfl, rfl, rfl, rfl, hw, hf, hi⟩ := zsto_ok h
      obtain ⟨x, rfl⟩ := zsort2 hw
      exact lv_astore_n hx hb hdec rfl (zlr_has hl) (by rw [← hl.1]; exact hi) rfl (fun ls2 h2 => kk _ _ _ hR (zlr_set1 hl hf hi h2))
  case astore k =>
      have e9 : len = 2 := by simpa [zlen] using hlen
      subst e9
      obtain ⟨v, rfl, rfl, rfl, rfl, hw, hf, hi⟩ := zsto_ok h
      obtain ⟨x, rfl⟩ := zsort2 hw
      exact lv_astore hx hb hdec (zlr_has hl) (by rw [← hl.1]; exact hi) rfl (fun ls2 h2 => kk _ _ _ hR (zlr_set1 hl hf hi h2))
  case lstore_n k =>
      have e9 : len = 1 := by simpa [zlen] using hlen
      subst e9
      simp only [cact, zstl] at h
      split at h
      next v r =>
        split at h
        next hq =>
          cases h
          exact lv_lstore_n hx hb hdec rfl (zlr_has hl) (by rw [← hl.1]; exact hq.2) rfl (fun ls2 h2 => kk _ _ _ hR (zlr_set2 hl hq.1 hq.2 h2))
        next => cases h
      next => cases h
  case lstore k =>
      have e9 : len = 2 := by simpa [zlen] using hlen
      subst e9
      simp only [cact, zstl] at h
      split at h
      next v r =>
        split at h
        next hq =>
          cases h
          exact lv_lstore hx hb hdec (zlr_has hl) (by rw [← hl.1]; exact hq.2) rfl (fun ls2 h2 => kk _ _ _ hR (zlr_set2 hl hq.1 hq.2 h2))
        next => cases h
      next => cases h
  case iinc k n =>
      have e9 : len = 3 := by simpa [zlen] using hlen
      subst e9
      simp only [cact] at h
      split at h
      next x hx1 =>
        split at h
        next hf =>
          cases h
          have hi : k < ls.length := (List.getElem?_eq_some_iff.mp hx1).1
          have hm : (k, Value.int x) ∈ zprs ad ls := zprs_mem.mpr ⟨.int x, hx1, rfl⟩
          obtain ⟨q, hq⟩ := List.mem_iff_getElem?.mp hm
          exact lv_iinc (k := q) hx hb hdec (zlr_has hl) hq rfl (by rw [← hl.1]; exact hi) rfl (fun ls2 h2 => kk _ _ _ hR (zlr_set1 (v := .int (x + Int32.ofInt n)) hl hf hi h2))
        next => cases h
      next => cases h
  case iadd =>
      have e9 : len = 1 := by simpa [zlen] using hlen
      subst e9
      simp only [cact, zi2] at h
      split at h
      next => cases h; exact lv_iadd hx hb hdec (kk _ _ _ hR hl)
      next => cases h
  case isub =>
      have e9 : len = 1 := by simpa [zlen] using hlen
      subst e9
      simp only [cact, zi2] at h
      split at h
      next => cases h; exact lv_isub hx hb hdec (kk _ _ _ hR hl)
      next => cases h
  case imul =>
      have e9 : len = 1 := by simpa [zlen] using hlen
      subst e9
      simp only [cact, zi2] at h
      split at h
      next => cases h; exact lv_imul hx hb hdec (kk _ _ _ hR hl)
      next => cases h
  case iand =>
      have e9 : len = 1 := by simpa [zlen] using hlen
      subst e9
      simp only [cact, zi2] at h
      split at h
      next => cases h; exact lv_iand hx hb hdec (kk _ _ _ hR hl)
      next => cases h
  case ior =>
      have e9 : len = 1 := by simpa [zlen] using hlen
      subst e9
      simp only [cact, zi2] at h
      split at h
      next => cases h; exact lv_ior hx hb hdec (kk _ _ _ hR hl)
      next => cases h
  case ishl =>
      have e9 : len = 1 := by simpa [zlen] using hlen
      subst e9
      simp only [cact, zi2] at h
      split at h
      next => cases h; exact lv_ishl hx hb hdec (kk _ _ _ hR hl)
      next => cases h
  case ishr =>
      have e9 : len = 1 := by simpa [zlen] using hlen
      subst e9
      simp only [cact, zi2] at h
      split at h
      next => cases h; exact lv_ishr hx hb hdec (kk _ _ _ hR hl)
      next => cases h
  case iushr =>
      have e9 : len = 1 := by simpa [zlen] using hlen
      subst e9
      simp only [cact, zi2] at h
      split at h
      next => cases h; exact lv_iushr hx hb hdec rfl (kk _ _ _ hR hl)
      next => cases h
  case ladd =>
      have e9 : len = 1 := by simpa [zlen] using hlen
      subst e9
      simp only [cact, zl2] at h
      split at h
      next => cases h; exact lv_ladd hx hb hdec (kk _ _ _ hR hl)
      next => cases h
  case lsub =>
      have e9 : len = 1 := by simpa [zlen] using hlen
      subst e9
      simp only [cact, zl2] at h
      split at h
      next => cases h; exact lv_lsub hx hb hdec (kk _ _ _ hR hl)
      next => cases h
  case lmul =>
      have e9 : len = 1 := by simpa [zlen] using hlen
      subst e9
      simp only [cact, zl2] at h
      split at h
      next => cases h; exact lv_lmul hx hb hdec (kk _ _ _ hR hl)
      next => cases h
  case land =>
      have e9 : len = 1 := by simpa [zlen] using hlen
      subst e9
      simp only [cact, zl2] at h
      split at h
      next => cases h; exact lv_land hx hb hdec (kk _ _ _ hR hl)
      next => cases h
  case idiv =>
      have e9 : len = 1 := by simpa [zlen] using hlen
      subst e9
      simp only [cact] at h
      split at h
      next =>
        split at h
        next => cases h
        next h0 => cases h; exact lv_idiv hx hb hdec h0 (kk _ _ _ hR hl)
      next => cases h
  case irem =>
      have e9 : len = 1 := by simpa [zlen] using hlen
      subst e9
      simp only [cact] at h
      split at h
      next =>
        split at h
        next => cases h
        next h0 => cases h; exact lv_irem hx hb hdec h0 (kk _ _ _ hR hl)
      next => cases h
  case ldiv =>
      have e9 : len = 1 := by simpa [zlen] using hlen
      subst e9
      simp only [cact] at h
      split at h
      next =>
        split at h
        next => cases h
        next h0 => cases h; exact lv_ldiv hx hb hdec h0 (kk _ _ _ hR hl)
      next => cases h
  case lrem =>
      have e9 : len = 1 := by simpa [zlen] using hlen
      subst e9
      simp only [cact] at h
      split at h
      next =>
        split at h
        next => cases h
        next h0 => cases h; exact lv_lrem hx hb hdec h0 (kk _ _ _ hR hl)
      next => cases h
  case ineg =>
      have e9 : len = 1 := by simpa [zlen] using hlen
      subst e9
      simp only [cact, zi1] at h
      split at h
      next => cases h; exact lv_ineg hx hb hdec (kk _ _ _ hR hl)
      next => cases h
  case lneg =>
      have e9 : len = 1 := by simpa [zlen] using hlen
      subst e9
      simp only [cact, zl1] at h
      split at h
      next => cases h; exact lv_lneg hx hb hdec (kk _ _ _ hR hl)
      next => cases h
  case i2l =>
      have e9 : len = 1 := by simpa [zlen] using hlen
      subst e9
      simp only [cact, zi1] at h
      split at h
      next => cases h; exact lv_i2l hx hb hdec rfl (kk _ _ _ hR hl)
      next => cases h
  case i2b =>
      have e9 : len = 1 := by simpa [zlen] using hlen
      subst e9
      simp only [cact, zi1] at h
      split at h
      next => cases h; exact lv_i2b hx hb hdec rfl (kk _ _ _ hR hl)
      next => cases h
  case l2i =>
      have e9 : len = 1 := by simpa [zlen] using hlen
      subst e9
      simp only [cact, zl1] at h
      split at h
      next => cases h; exact lv_l2i hx hb hdec rfl (kk _ _ _ hR hl)
      next => cases h
  case lcmp =>
      have e9 : len = 1 := by simpa [zlen] using hlen
      subst e9
      simp only [cact] at h
      split at h
      next => cases h; exact W.lcmp hx hb hdec (kk _ _ _ hR hl)
      next => cases h
  case dup =>
      have e9 : len = 1 := by simpa [zlen] using hlen
      subst e9
      simp only [cact] at h
      split at h
      next v r =>
        split at h
        next hc => cases h; exact lv_dup hx hb hdec (by rw [zcv_cat]; exact hc) (kk _ _ _ hR hl)
        next => cases h
      next => cases h
  case dup2 =>
      have e9 : len = 1 := by simpa [zlen] using hlen
      subst e9
      simp only [cact] at h
      split at h
      next v w r =>
        split at h
        next hc => cases h; exact lv_dup2_11 hx hb hdec (by rw [zcv_cat]; exact hc.1) (by rw [zcv_cat]; exact hc.2) (kk _ _ _ hR hl)
        next => cases h
      next => cases h
  case pop =>
      have e9 : len = 1 := by simpa [zlen] using hlen
      subst e9
      simp only [cact] at h
      split at h
      next v r =>
        split at h
        next hc => cases h; exact lv_pop hx hb hdec (by rw [zcv_cat]; exact hc) (kk _ _ _ hR hl)
        next => cases h
      next => cases h
  case iaload =>
      have e9 : len = 1 := by simpa [zlen] using hlen
      subst e9
      simp only [cact] at h
      split at h
      next i a r =>
        split at h
        next hc =>
          cases h
          have hat := cwd_at (nn := nn) (ad := ad) (cy := cy) (hp := hp) hc.1 (by omega)
          rw [zcell_arr hp (Or.inl rfl)] at hat
          exact va_iald hx hb hK hR.1 a 0 hat rfl (zin_spec hc.2) hdec (kk _ _ _ hR hl)
        next =>
          split at h
          next hc =>
            obtain ⟨q1, q2, q3⟩ := hc
            cases h
            subst q1
            obtain ⟨L, hX, hbl, hbA, hL, hL2⟩ := hscr q2
            have hin := zin_spec q3
            rw [hR.2.2.2.2, hL, nI_clamp hL2] at hin
            refine va_sld hx hb hX hbl hbA hR.2.2.1 hin hdec ?_
            have := kk _ _ _ hR hl
            rw [hR.2.2.2.1] at this
            exact this
          next => cases h
      next => cases h
  case baload =>
      have e9 : len = 1 := by simpa [zlen] using hlen
      subst e9
      simp only [cact] at h
      split at h
      next i a r =>
        split at h
        next hc =>
          cases h
          rcases hc.1 with hk | hk
          · have hat := cwd_at (nn := nn) (ad := ad) (cy := cy) (hp := hp) hk (by omega)
            rw [zcell_arr hp (Or.inr (Or.inl rfl))] at hat
            exact va_bald hx hb hK hR.1 a 1 hat rfl (zin_spec hc.2) hdec (kk _ _ _ hR hl)
          · have hat := cwd_at (nn := nn) (ad := ad) (cy := cy) (hp := hp) hk (by omega)
            rw [zcell_arr hp (Or.inr (Or.inr rfl))] at hat
            exact va_zald hx hb hK hR.1 a 2 hat rfl (zin_spec hc.2) hdec (kk _ _ _ hR hl)
        next => cases h
      next => cases h
  case laload =>
      have e9 : len = 1 := by simpa [zlen] using hlen
      subst e9
      simp only [cact] at h
      split at h
      next i a r =>
        split at h
        next hc =>
          cases h
          have hat := cwd_at (nn := nn) (ad := ad) (cy := cy) (hp := hp) hc.1 (by omega)
          rw [zcell_103 hp] at hat
          exact va_lald hx hb hK hR.1 a 3 hat rfl (zin_spec hc.2) hdec (kk _ _ _ hR hl)
        next => cases h
      next => cases h
  case aaload =>
      have e9 : len = 1 := by simpa [zlen] using hlen
      subst e9
      simp only [cact] at h
      split at h
      next i a r =>
        split at h
        next hc =>
          split at h
          next q hq =>
            cases h
            have hat := cwd_at (nn := nn) (ad := ad) (cy := cy) (hp := hp) hc.1 (by omega)
            rw [zcell_104 hp] at hat
            have hin := zin_spec hc.2
            have hlt : i.toNatClampNeg < (cln nn) a := Nat.not_le.mp fun z => hin (Or.inr z)
            have hkk := kk _ _ _ hR hl
            have e5 : zcv ad (.ref q) = va_rf ((hp.2.2 a i.toNatClampNeg).map ad) := by rw [hq]; rfl
            rw [List.map_cons, e5] at hkk
            exact W.aald (v := va_rf ((hp.2.2 a i.toNatClampNeg).map ad)) (ty := .array .int) hx hb (hR.1 a _ hat) ((hK.2 4 _ rfl).1 ((cln nn) a) (fun j => va_rf ((hp.2.2 a j).map ad))) rfl (fun z => by cases z) (by show ¬ (i < 0 ∨ (arrV _ _ _).slots.size ≤ _); rw [arrV_size]; exact hin) (by show (arrV _ _ _).slots[_]? = _; rw [arrV_read _ _ hlt]) rfl rfl hdec hkk
          next => cases h
        next => cases h
      next => cases h
  case iastore =>
      have e9 : len = 1 := by simpa [zlen] using hlen
      subst e9
      simp only [cact] at h
      split at h
      next x i a r =>
        split at h
        next hc =>
          cases h
          have hat := cwd_at (nn := nn) (ad := ad) (cy := cy) (hp := hp) hc.1 (by omega)
          obtain ⟨n0, n1⟩ := cne900 hc.1 (by omega)
          rw [zcell_arr hp (Or.inl rfl)] at hat
          refine va_iast hx hb hK hR.1 hR.2.1 hR.2.2.1 a 0 hat rfl (zin_spec hc.2) hdec (fun H1 locs1 hP hD hS => ?_)
          refine kk H1 locs1 lsC (cset_rel hR hc.1 (by omega) ?_ (fun k q hkq => zcell_i (zu_ne hkq)) (zu_ne n0) (zu_ne n1) hP hD hS) hl
          rw [zcell_arr _ (Or.inl rfl)]
          show _ = (Sum.inl (cy (100 - 100), (cln nn) a, .inl (zu hp.1 a i.toNatClampNeg x a)) : va_E)
          rw [zupd]
        next => cases h
      next => cases h
  case bastore =>
      have e9 : len = 1 := by simpa [zlen] using hlen
      subst e9
      simp only [cact] at h
      split at h
      next x i a r =>
        split at h
        next hc =>
          cases h
          rcases hc.1 with hk | hk
          · have hat := cwd_at (nn := nn) (ad := ad) (cy := cy) (hp := hp) hk (by omega)
            obtain ⟨n0, n1⟩ := cne900 hk (by omega)
            rw [zcell_arr hp (Or.inr (Or.inl rfl))] at hat
            refine va_bast hx hb hK hR.1 hR.2.1 hR.2.2.1 a 1 hat rfl (zin_spec hc.2) hdec (fun H1 locs1 hP hD hS => ?_)
            refine kk H1 locs1 lsC (cset_rel hR hk (by omega) ?_ (fun k q hkq => zcell_i (zu_ne hkq)) (zu_ne n0) (zu_ne n1) hP hD hS) hl
            rw [zcell_arr _ (Or.inr (Or.inl rfl))]
            show _ = (Sum.inl (cy (101 - 100), (cln nn) a, .inl (zu hp.1 a i.toNatClampNeg (vp_nar (if (ckd nn) a = 101 then .byte else .boolean) x) a)) : va_E)
            rw [zupd, if_pos hk]
          · have hat := cwd_at (nn := nn) (ad := ad) (cy := cy) (hp := hp) hk (by omega)
            obtain ⟨n0, n1⟩ := cne900 hk (by omega)
            rw [zcell_arr hp (Or.inr (Or.inr rfl))] at hat
            refine va_zast hx hb hK hR.1 hR.2.1 hR.2.2.1 a 2 hat rfl (zin_spec hc.2) hdec (fun H1 locs1 hP hD hS => ?_)
            refine kk H1 locs1 lsC (cset_rel hR hk (by omega) ?_ (fun k q hkq => zcell_i (zu_ne hkq)) (zu_ne n0) (zu_ne n1) hP hD hS) hl
            rw [zcell_arr _ (Or.inr (Or.inr rfl))]
            show _ = (Sum.inl (cy (102 - 100), (cln nn) a, .inl (zu hp.1 a i.toNatClampNeg (vp_nar (if (ckd nn) a = 101 then .byte else .boolean) x) a)) : va_E)
            rw [zupd, if_neg (by omega)]
        next => cases h
      next => cases h
  case lastore =>
      have e9 : len = 1 := by simpa [zlen] using hlen
      subst e9
      simp only [cact] at h
      split at h
      next x i a r =>
        split at h
        next hc =>
          cases h
          have hat := cwd_at (nn := nn) (ad := ad) (cy := cy) (hp := hp) hc.1 (by omega)
          rw [zcell_103 hp] at hat
          refine va_last hx hb hK hR.1 hR.2.1 hR.2.2.1 a 3 hat rfl (zin_spec hc.2) hdec (fun H1 locs1 hP hD hS => ?_)
          refine kk H1 locs1 lsC (cset_rel hR hc.1 (by omega) ?_ (fun k q hkq => zcell_l (zu_ne hkq)) rfl rfl hP hD hS) hl
          rw [zcell_103]
          show _ = (Sum.inl (cy 3, (cln nn) a, .inr (.inl (zu hp.2.1 a i.toNatClampNeg x a))) : va_E)
          rw [zupdL]
        next => cases h
      next => cases h
  case arraylength =>
      have e9 : len = 1 := by simpa [zlen] using hlen
      subst e9
      simp only [cact] at h
      split at h
      next a r =>
        split at h
        next hc =>
          cases h
          have hat := cwd_at (nn := nn) (ad := ad) (cy := cy) (hp := hp) (k := a) rfl (by omega)
          have hkk := kk _ _ _ hR hl
          rcases (show (ckd nn) a = 100 ∨ (ckd nn) a = 101 ∨ (ckd nn) a = 102 ∨ (ckd nn) a = 103 ∨ (ckd nn) a = 104 by omega) with q | q | q | q | q
          · rw [q, zcell_arr hp (Or.inl rfl)] at hat
            exact va_alen hx hb hK hR.1 a 0 hat (ty := .int) rfl rfl hdec hkk
          · rw [q, zcell_arr hp (Or.inr (Or.inl rfl))] at hat
            exact va_alen hx hb hK hR.1 a 1 hat (ty := .byte) rfl rfl hdec hkk
          · rw [q, zcell_arr hp (Or.inr (Or.inr rfl))] at hat
            exact va_alen hx hb hK hR.1 a 2 hat (ty := .boolean) rfl rfl hdec hkk
          · rw [q, zcell_103 hp] at hat
            exact va_alen hx hb hK hR.1 a 3 hat (ty := .long) rfl rfl hdec hkk
          · rw [q, zcell_104 hp] at hat
            exact va_alen hx hb hK hR.1 a 4 hat (ty := .array .int) rfl rfl hdec hkk
        next =>
          split at h
          next hc =>
            obtain ⟨q1, q2⟩ := hc
            cases h
            subst q1
            obtain ⟨L, hX, hbl, hbA, hL, hL2⟩ := hscr q2
            refine va_slen hx hb hX hbl hbA hR.2.2.1 hdec ?_
            have := kk _ _ _ hR hl
            rw [hR.2.2.2.2, hL] at this
            exact this
          next => cases h
      next => cases h
  case getfield k =>
      have e9 : len = 3 := by simpa [zlen] using hlen
      subst e9
      simp only [cact] at h
      split at h
      next o r ci j hf =>
        obtain ⟨q1, -⟩ := cget_ok (lsC := lsC) (l := l) (e := e) (R := R) (below := below) (meth := meth) (cells := cells) (slots := slots) (QW := fun _ => True) C hdec hf h hR (fun T hT X => ⟨T.setTop (F0 m pc' lsC (st'.map (zcv ad))), Steps.refl _, trivial⟩)
        obtain ⟨e1, e2⟩ := q1
        subst e1; subst e2
        exact (cget_ok C hdec hf h hR (kk _ _ _ hR hl)).2
      next => cases h
  case putfield k =>
      have e9 : len = 3 := by simpa [zlen] using hlen
      subst e9
      simp only [cact] at h
      split at h
      next v o r ci j hf =>
        obtain ⟨e1, -⟩ := cput_ok (lsC := lsC) (l := l) (e := e) (R := R) (below := below) (meth := meth) (cells := cells) (slots := slots) (QW := fun _ => True) C hdec hf h hR (fun H' locs' hR' T hT X => ⟨T.setTop (F0 m pc' lsC (st'.map (zcv ad))), Steps.refl _, trivial⟩)
        subst e1
        exact (cput_ok C hdec hf h hR (fun H' locs' hR' => kk H' locs' lsC hR' hl)).2
      next => cases h
  case goto off =>
      have e9 : len = 3 := by simpa [zlen] using hlen
      subst e9
      obtain ⟨e1, rfl, rfl, rfl⟩ := ztg_ok h
      exact lv_goto hx hb hdec e1 (kk _ _ _ hR hl)
  case ifCond cd off =>
      have e9 : len = 3 := by simpa [zlen] using hlen
      subst e9
      simp only [cact] at h
      split at h
      next x r =>
        have kt : zcmp cd x 0 = true → ∃ tgt : Nat, (pc : Int) + off = (tgt : Int) ∧ W p l e R s m args below meth c H locs cells slots QW (F0 m tgt lsC (r.map (zcv ad))) := by
          intro hc
          rw [if_pos hc] at h
          obtain ⟨e1, rfl, rfl, rfl⟩ := ztg_ok h
          exact ⟨pc', e1, kk _ _ _ hR hl⟩
        have kf : ¬ zcmp cd x 0 = true → W p l e R s m args below meth c H locs cells slots QW (F0 m (pc + 3) lsC (r.map (zcv ad))) := by
          intro hc
          rw [if_neg hc] at h
          cases h
          exact kk _ _ _ hR hl
        by_cases hc : zcmp cd x 0 = true
        · obtain ⟨tgt, ht, kw⟩ := kt hc
          cases cd
          · exact lv_if_eq hx hb hdec ht (fun _ => kw) (fun z => absurd (of_decide_eq_true hc) z)
          · exact lv_if_ne hx hb hdec ht (fun _ => kw) (fun z => absurd z (of_decide_eq_true hc))
          · exact lv_if_lt hx hb hdec ht (fun _ => kw) (fun z => absurd (of_decide_eq_true hc) z)
          · exact lv_if_ge hx hb hdec ht (fun _ => kw) (fun z => absurd (of_decide_eq_true hc) z)
          · exact lv_if_gt hx hb hdec ht (fun _ => kw) (fun z => absurd (of_decide_eq_true hc) z)
          · exact lv_if_le hx hb hdec ht (fun _ => kw) (fun z => absurd (of_decide_eq_true hc) z)
        · have kw := kf hc
          cases cd
          · exact znoi_eq hx hb hdec (fun z => hc (decide_eq_true z)) kw
          · exact znoi_ne hx hb hdec (fun z => hc (decide_eq_true z)) kw
          · exact znoi_lt hx hb hdec (fun z => hc (decide_eq_true z)) kw
          · exact znoi_ge hx hb hdec (fun z => hc (decide_eq_true z)) kw
          · exact znoi_gt hx hb hdec (fun z => hc (decide_eq_true z)) kw
          · exact znoi_le hx hb hdec (fun z => hc (decide_eq_true z)) kw
      next => cases h
  case if_icmp cd off =>
      have e9 : len = 3 := by simpa [zlen] using hlen
      subst e9
      simp only [cact] at h
      split at h
      next y x r =>
        have kt : zcmp cd x y = true → ∃ tgt : Nat, (pc : Int) + off = (tgt : Int) ∧ W p l e R s m args below meth c H locs cells slots QW (F0 m tgt lsC (r.map (zcv ad))) := by
          intro hc
          rw [if_pos hc] at h
          obtain ⟨e1, rfl, rfl, rfl⟩ := ztg_ok h
          exact ⟨pc', e1, kk _ _ _ hR hl⟩
        have kf : ¬ zcmp cd x y = true → W p l e R s m args below meth c H locs cells slots QW (F0 m (pc + 3) lsC (r.map (zcv ad))) := by
          intro hc
          rw [if_neg hc] at h
          cases h
          exact kk _ _ _ hR hl
        by_cases hc : zcmp cd x y = true
        · obtain ⟨tgt, ht, kw⟩ := kt hc
          cases cd
          · exact lv_icmp_eq hx hb hdec ht (fun _ => kw) (fun z => absurd (of_decide_eq_true hc) z)
          · exact lv_icmp_ne hx hb hdec ht (fun _ => kw) (fun z => absurd z (of_decide_eq_true hc))
          · exact lv_icmp_lt hx hb hdec ht (fun _ => kw) (fun z => absurd (of_decide_eq_true hc) z)
          · exact lv_icmp_ge hx hb hdec ht (fun _ => kw) (fun z => absurd (of_decide_eq_true hc) z)
          · exact lv_icmp_gt hx hb hdec ht (fun _ => kw) (fun z => absurd (of_decide_eq_true hc) z)
          · exact lv_icmp_le hx hb hdec ht (fun _ => kw) (fun z => absurd (of_decide_eq_true hc) z)
        · have kw := kf hc
          cases cd
          · exact znoc_eq hx hb hdec (fun z => hc (decide_eq_true z)) kw
          · exact znoc_ne hx hb hdec (fun z => hc (decide_eq_true z)) kw
          · exact znoc_lt hx hb hdec (fun z => hc (decide_eq_true z)) kw
          · exact znoc_ge hx hb hdec (fun z => hc (decide_eq_true z)) kw
          · exact znoc_gt hx hb hdec (fun z => hc (decide_eq_true z)) kw
          · exact znoc_le hx hb hdec (fun z => hc (decide_eq_true z)) kw
      next => cases h
  case tableswitch dflt lo hi offs =>
      simp only [cact] at h
      split at h
      next x r =>
        split at h
        next off ho =>
          obtain ⟨e1, rfl, rfl, rfl⟩ := ztg_ok h
          unfold zsw at ho
          split at ho
          next hq =>
            cases ho
            exact lv_tableOut hx hb hdec hq e1 (kk _ _ _ hR hl)
          next hq => exact lv_tableIn hx hb hdec (fun z => hq (Or.inl z)) (fun z => hq (Or.inr z)) ho e1 (kk _ _ _ hR hl)
        next => cases h
      next => cases h
  case lookupswitch dflt ps =>
      simp only [cact] at h
      split at h
      next x r =>
        split at h
        next hq =>
          obtain ⟨e1, rfl, rfl, rfl⟩ := ztg_ok h
          exact lv_lookup hx hb hdec hq rfl e1 (kk _ _ _ hR hl)
        next => cases h
      next => cases h
end ZA
theorem cD_any {nn : Nat} {A : Nat → Prop} {ad : Nat → Nat} {cy : Nat → ClassId} {hp hp' : zHP} (h : va_D A ((cwd nn) ad cy hp)) : va_D A ((cwd nn) ad cy hp') := by
  have at1 : ∀ (k : Nat) (q : Nat × va_E), ((cwd nn) ad cy hp')[k]? = some q → ∃ q', ((cwd nn) ad cy hp)[k]? = some q' ∧ q'.1 = q.1 := by
    intro k q hq
    unfold cwd at hq ⊢
    rw [List.getElem?_mapIdx] at hq ⊢
    cases hz : (zSH.take nn)[k]? with
    | none => rw [hz] at hq; cases hq
    | some z => rw [hz] at hq; cases hq; exact ⟨_, rfl, rfl⟩
  refine ⟨fun i j u v hi hj huv => ?_, fun k q hq => ?_⟩
  · obtain ⟨u', hu, eu⟩ := at1 i u hi
    obtain ⟨v', hv, ev⟩ := at1 j v hj
    exact h.1 i j u' v' hu hv (by rw [eu, ev]; exact huv)
  · obtain ⟨q', hq', eq⟩ := at1 k q hq
    rw [← eq]
    exact h.2 k q' hq'
theorem cA_any {nn : Nat} {ad : Nat → Nat} {cy : Nat → ClassId} {hp hp' : zHP} {sz q : Nat} (h : va_A ((cwd nn) ad cy hp) sz q) : va_A ((cwd nn) ad cy hp') sz q := by
  rcases h with ⟨k, e, h⟩ | h
  · unfold cwd at h
    rw [List.getElem?_mapIdx] at h
    cases hz : (zSH.take nn)[k]? with
    | none => rw [hz] at h; cases h
    | some z =>
      rw [hz] at h
      cases h
      refine Or.inl ⟨k, zcell ad cy hp' k z, ?_⟩
      unfold cwd
      rw [List.getElem?_mapIdx, hz]
      rfl
  · exact Or.inr h
def cB (nn : Nat) (ES : (Nat → Prop) → State → Heap → Prop) (D : va_G) (cy : Nat → ClassId) (ad : Nat → Nat) (x0 x1 : Nat → Int32) (hp : zHP) (sz : Nat) : State → Prop := fun U =>
  U.heap.size = sz ∧ va_P D vwCl ((cwd nn) ad cy hp) U.heap ∧ va_K D vwCl (ztys cy) U ∧ va_D (fun _ => True) ((cwd nn) ad cy hp) ∧ vk_R "HandsLetModel" 194 zTX (ad 910) U ∧ ES (va_A ((cwd nn) ad cy hp) sz) U U.heap ∧ hp.1 900 = x0 ∧ hp.1 901 = x1
def cQc (nn : Nat) (D : va_G) (cy : Nat → ClassId) (ad : Nat → Nat) (x0 x1 : Nat → Int32) (hp : zHP) (sz : Nat) (K : Option Value → zHP → Prop) : Array Value → State → Outcome → State → Prop := fun _ st oc t =>
  (∃ (v : Option Value) (hp' : zHP), oc = .returned (v.map (zcv ad)) ∧ K v hp' ∧ va_P D vwCl ((cwd nn) ad cy hp') t.heap ∧ hp'.1 900 = x0 ∧ hp'.1 901 = x1) ∧ va_F (va_A ((cwd nn) ad cy hp) sz) st t
theorem cblind {nn : Nat} {ES : (Nat → Prop) → State → Heap → Prop} (hE : zESok ES) {D : va_G} {cy : Nat → ClassId} {ad : Nat → Nat} {x0 x1 : Nat → Int32} {hp : zHP} {sz : Nat} {av : List Value} : FrameBlind (va_Pc av ((cB nn) ES D cy ad x0 x1 hp sz)) := by
  intro a U g mk h
  obtain ⟨h0, h1, h2, h3, h4, h5, h6, h7, h8⟩ := h
  exact ⟨h0, h1, h2, va_K.moved (u := U) (U := U.calling g mk a) (Vm.Alike.refl U.vm) h3, h4, vk_R.same (u := U) (U := U.calling g mk a) rfl h5, hE.2.1 _ _ _ _ _ _ h6, h7, h8⟩
section ZW
variable {p : Program} {l : Launch} {e : Env} {R : Room} {s : State} {m : MethodId} {args : Array Value} {below : List Frame} {meth : Method} {c : Code} {H : Heap} {locs : List Loc} {cells slots : Nat} {QW : State → Prop}
variable {ES : (Nat → Prop) → State → Heap → Prop} {D : va_G} {cy : Nat → ClassId} {ad : Nat → Nat} {A : Nat → Prop} {H0 : Heap} {x0 x1 : Nat → Int32}
theorem cpre {nn : Nat} (hE : zESok ES) {mi : zMI} {hp : zHP} (C : zC ES D cy ad A H0 x0 x1 mi p s m args c) (hR : (cRel nn) D cy ad A H0 x0 x1 hp H locs) {U : State} (hU : U.heap = H) (hW : s.WarmedH U.vm) : (cB nn) ES D cy ad x0 x1 hp H.size U := by
  obtain ⟨hx, hb, hml, hown, hts, hK, hv9, hES, hA, -, -⟩ := C
  refine ⟨by rw [hU], by rw [hU]; exact hR.1, va_K.moved hW.alike hK, hR.2.1.weaken (fun _ _ _ _ => trivial), vk_R.warm hW hv9, ?_, hR.2.2.2.1, hR.2.2.2.2⟩
  rw [hU]
  refine hE.1 _ _ _ _ hW (hE.2.2.2 A _ _ _ (hE.2.2.1 A s H0 H hES (fun a h1 h2 => hR.2.2.1.2.1 a h1 h2)) (fun q h => ?_))
  rcases h with ⟨k, e, h⟩ | h
  · exact hR.2.1.2 k _ h
  · exact hA q (Nat.le_trans hR.2.2.1.1 h)
theorem cpost {nn : Nat} {hp hp2 : zHP} {st₀ t : State} {L : List Loc} (hA : ∀ q, H0.size ≤ q → A q) (hR : (cRel nn) D cy ad A H0 x0 x1 hp H locs) (h0 : st₀.heap = H) (hP : va_P D vwCl ((cwd nn) ad cy hp2) t.heap) (h9 : hp2.1 900 = x0) (h91 : hp2.1 901 = x1) (hF : va_F (va_A ((cwd nn) ad cy hp) H.size) st₀ t) (hL : ∀ q ∈ L, va_A ((cwd nn) ad cy hp) H.size q.base) : (cRel nn) D cy ad A H0 x0 x1 hp2 t.heap (locs ++ L) := by
  have sub : ∀ q, va_A ((cwd nn) ad cy hp) H.size q → A q := by
    intro q h
    rcases h with ⟨k, e, h⟩ | h
    · exact hR.2.1.2 k _ h
    · exact hA q (Nat.le_trans hR.2.2.1.1 h)
  obtain ⟨f1, f2⟩ := hF
  rw [h0] at f1 f2
  refine ⟨hP, cD_any hR.2.1, ⟨Nat.le_trans hR.2.2.1.1 f1, fun q h1 h2 => ?_, fun q hq => ?_⟩, h9, h91⟩
  · rw [f2 q (Nat.lt_of_lt_of_le h1 hR.2.2.1.1) (fun z => h2 (sub q z))]
    exact hR.2.2.1.2.1 q h1 h2
  · rcases List.mem_append.mp hq with h | h
    · exact hR.2.2.1.2.2 q h
    · exact sub _ (hL q h)
end ZW
section ZX
variable {l : Launch} {ES : (Nat → Prop) → State → Heap → Prop} {D : va_G} {cy : Nat → ClassId} {ad : Nat → Nat} {x0 x1 : Nat → Int32}
def cStr (nn : Nat) (l : Launch) (ES : (Nat → Prop) → State → Heap → Prop) (D : va_G) (cy : Nat → ClassId) (ad : Nat → Nat) (x0 x1 : Nat → Int32) : Prop :=
  ∀ (p : Program) (e : Env) (R : Room) (s : State) (m : MethodId) (args : Array Value) (below : List Frame) (meth : Method) (c : Code) (H : Heap) (locs : List Loc) (cells slots : Nat) (QW : State → Prop) (A : Nat → Prop) (H0 : Heap) (mi : zMI) (pc idx n y : Nat) (as rest st : List Value) (v : Option Value) (hp hp' : zHP) (lsC : Array Slot),
    zC ES D cy ad A H0 x0 x1 mi p s m args c → decode mi.2.1 pc = .ok (.invokevirtual idx, 3) → zca mi.2.2.2.2 idx = some (y, n, 2) → y = 1000 ∨ y = 1001 → n ≤ st.length → st.drop n = .ref 910 :: rest → as = .ref 910 :: (st.take n).reverse → zcat rest ≤ 8 → (cbi nn) y as hp = some (v, hp') → (cRel nn) D cy ad A H0 x0 x1 hp H locs → lsC.size = mi.2.2.1 → cells ≤ R.cells → slots ≤ R.slots → 4 ≤ R.frames → 240 ≤ R.locals →
    W p l e R s m args below meth c H locs cells slots QW (F0 m (pc + 3) lsC ((v.toList ++ rest).map (zcv ad))) → W p l e R s m args below meth c H locs cells slots QW (F0 m pc lsC (st.map (zcv ad)))
end ZX
theorem ccx_spec {nn : Nat} {c : Nat} {i : Instr} {st : List Value} {q : Nat × List Value × List Value} (h : (ccx nn) c i st = some q) :
    (∃ k n b, i = .invokevirtual k ∧ zca c k = some (q.1, n, 0) ∧ n ≤ st.length ∧ st.drop n = .ref b :: q.2.2 ∧ q.2.1 = .ref b :: (st.take n).reverse ∧ zcat q.2.2 ≤ 8 ∧ (ckd nn) b < 11 ∧ zcn ((ckd nn) b) = (zyOf q.1).cls ∧ q.1 < 241) ∨
    (∃ k n, i = .invokevirtual k ∧ zca c k = some (q.1, n, 2) ∧ n ≤ st.length ∧ st.drop n = .ref 910 :: q.2.2 ∧ q.2.1 = .ref 910 :: (st.take n).reverse ∧ zcat q.2.2 ≤ 8 ∧ (q.1 = 1000 ∨ q.1 = 1001)) ∨
    (∃ k n, i = .invokestatic k ∧ zca c k = some (q.1, n, 1) ∧ n ≤ st.length ∧ q.2.2 = st.drop n ∧ q.2.1 = (st.take n).reverse ∧ zcat q.2.2 ≤ 8 ∧ q.1 < 241) ∨
    (∃ k n, i = .invokestatic k ∧ zca c k = some (q.1, n, 2) ∧ n ≤ st.length ∧ q.2.2 = st.drop n ∧ q.2.1 = (st.take n).reverse ∧ zcat q.2.2 ≤ 8 ∧ (q.1 = 1002 ∨ (1010 ≤ q.1 ∧ q.1 ≤ 1015))) := by
  unfold ccx at h
  split at h
  next k =>
    split at h
    next st y n hz =>
      split at h
      next b rest hd =>
        split at h
        next hc => cases h; exact Or.inl ⟨k, n, b, rfl, hz, hc.1, hd, rfl, hc.2.1, hc.2.2.1, hc.2.2.2.1, hc.2.2.2.2⟩
        next => cases h
      next => cases h
    next st y n hz =>
      split at h
      next b rest hd =>
        split at h
        next hc =>
          obtain ⟨h1, h2, h3, h4⟩ := hc
          subst h3
          cases h
          exact Or.inr (Or.inl ⟨k, n, rfl, hz, h1, hd, rfl, h2, h4⟩)
        next => cases h
      next => cases h
    next => cases h
  next k =>
    split at h
    next y n kd hz =>
      split at h
      next hc =>
        cases h
        rcases hc.2.2 with ⟨rfl, h2⟩ | ⟨rfl, h2⟩
        · exact Or.inr (Or.inr (Or.inl ⟨k, n, rfl, hz, hc.1, rfl, rfl, hc.2.1, h2⟩))
        · exact Or.inr (Or.inr (Or.inr ⟨k, n, rfl, hz, hc.1, rfl, rfl, hc.2.1, h2⟩))
      next => cases h
    next => cases h
  next => cases h
section ZV
variable {l : Launch} {ES : (Nat → Prop) → State → Heap → Prop} {D : va_G} {cy : Nat → ClassId} {ad : Nat → Nat} {x0 x1 : Nat → Int32}
def cEnd (nn : Nat) (l : Launch) (D : va_G) (cy : Nat → ClassId) (ad : Nat → Nat) (x0 x1 : Nat → Int32) (M : Nat) (mi : zMI) (K : Option Value → zHP → Prop) (p : Program) (e : Env) (R : Room) (s : State) (m : MethodId) (args : Array Value) (below : List Frame) (meth : Method) (c : Code) (A : Nat → Prop) (H0 : Heap) (cells slots : Nat) (QW : State → Prop) : Prop :=
  ∀ (v : Option Value) (hp : zHP) (H : Heap) (locs : List Loc) (lsC : Array Slot) (pc : Nat) (ls : zLs) (st : List Value), (zexit M pc ls st = some v ∨ ∃ i len, decode mi.2.1 pc = .ok (i, len) ∧ zlen i len = true ∧ zrt mi.2.2.2.1 i st = some v) → K v hp → (cRel nn) D cy ad A H0 x0 x1 hp H locs → zlr ad mi.2.2.1 ls lsC → W p l e R s m args below meth c H locs cells slots QW (F0 m pc lsC (st.map (zcv ad)))
def cGo (nn : Nat) (l : Launch) (ES : (Nat → Prop) → State → Heap → Prop) (D : va_G) (cy : Nat → ClassId) (ad : Nat → Nat) (x0 x1 : Nat → Int32) (n : Nat) : Prop :=
  ∀ (d M pc : Nat) (ls : zLs) (st : List Value) (hp : zHP) (K : Option Value → zHP → Prop) (mi : zMI) (p : Program) (e : Env) (R : Room) (s : State) (m : MethodId) (args : Array Value) (below : List Frame) (meth : Method) (c : Code) (A : Nat → Prop) (H0 : Heap) (H : Heap) (locs : List Loc) (cells slots : Nat) (QW : State → Prop) (lsC : Array Slot),
    zmt[M]? = some mi → zC ES D cy ad A H0 x0 x1 mi p s m args c → (cWn nn) n d M pc ls st hp K → (cRel nn) D cy ad A H0 x0 x1 hp H locs → zlr ad mi.2.2.1 ls lsC → d ≤ R.frames → 60 * d + 40 ≤ R.locals → cells ≤ R.cells → slots ≤ R.slots → (cEnd nn) l D cy ad x0 x1 M mi K p e R s m args below meth c A H0 cells slots QW →
    W p l e R s m args below meth c H locs cells slots QW (F0 m pc lsC (st.map (zcv ad)))
set_option maxHeartbeats 4000000 in
theorem cmet {nn : Nat} {n : Nat} (hgo : (cGo nn) l ES D cy ad x0 x1 n) {d y : Nat} {my : zMI} {as : List Value} {hp : zHP} {K : Option Value → zHP → Prop} {sz : Nat} (hm : zmt[y]? = some my) (hy : y < 241) (hlen : (zent my.2.2.1 as).length = my.2.2.1) (h : (cWn nn) n d y 0 (zent my.2.2.1 as) [] hp K) :
    Met l my.1 (zcW my :: zTB) (zRm d) (va_Pc (as.map (zcv ad)) ((cB nn) ES D cy ad x0 x1 hp sz)) ((cQc nn) D cy ad x0 x1 hp sz K) 0 0 (va_A ((cwd nn) ad cy hp) sz) := by
  obtain ⟨f1, f2, f3, f4, f5, f6⟩ := zmt_facts my (List.mem_of_getElem? hm)
  refine Met.ofW (cc := my.2.1) (maxL := my.2.2.1) (ret := my.2.2.2.1) f3 rfl ?_
  intro p e s m args below meth c s₁ B hml hv
  obtain ⟨rfl, hsz, hP, hK, hD0, hvk, hES, h9, h91⟩ := hv
  have hx := B.exec
  have hb := B.bytes
  have hr := B.returns
  have hts := atoms_spec (ws := zcW my :: zTB) B.pre
  have hown : s.vm.findClass my.1.cls = some m.cls := findClass_of_methodNamed B.named
  have hlocks := B.notSynchronized
  subst hsz
  rw [lg_entry_eq]
  have hA : ∀ q, s.heap.size ≤ q → va_A ((cwd nn) ad cy hp) s.heap.size q := fun q h => Or.inr h
  have hne : my.2.2.2.2 ≠ 11 := by
    intro q
    rw [q] at f1
    have h1 := zyOf_law y hy
    rw [zyOf_at hm] at h1
    exact h1 f1
  have C : zC ES D cy ad (va_A ((cwd nn) ad cy hp) s.heap.size) s.heap x0 x1 my p s m (as.map (zcv ad)).toArray c :=
    ⟨hx, hb, hml, by rw [← f1]; exact hown, fun w hw => hts w (List.mem_cons_of_mem _ hw), hK, hvk, hES, hA, fun q => absurd q hne, fun _ => rfl⟩
  refine hgo d y 0 (zent my.2.2.1 as) [] hp K my p e (zRm d) s m _ below meth c _ s.heap s.heap [] 0 0 _ _ hm C h ⟨hP, hD0.self, va_S.rf, h9, h91⟩ (zent_lr hlen) (Nat.le_refl _) (Nat.le_refl _) (Nat.le_refl _) (Nat.le_refl _) ?_
  intro v hp2 H locs lsC pc ls st hend hKv hR hl
  rcases hend with hex | ⟨i, len, hd, hlen2, hrt⟩
  · unfold zexit at hex
    rw [if_neg (by omega)] at hex
    cases hex
  · have hf : ∀ q ∈ locs, va_A ((cwd nn) ad cy hp) s.heap.size q.base := hR.2.2.1.2.2
    rcases zrt_spec hrt with ⟨rfl, x, rfl, rfl, hret⟩ | ⟨rfl, x, rfl, rfl, hret⟩ | ⟨rfl, rfl, rfl, hret⟩
    · have e9 : len = 1 := by simpa [zlen] using hlen2
      subst e9
      rcases hret with hret | ⟨hret, hx01⟩
      · exact W.iret hx hb (hr.trans hret) (fun t ht _ => ⟨⟨some (.int x), hp2, rfl, hKv, by rw [ht]; exact hR.1, hR.2.2.2.1, hR.2.2.2.2⟩, hR.2.2.1.F ht⟩) hf hd
      · refine W.zret (ty := .boolean) hx hb (hr.trans hret) ?_ (fun t ht _ => ⟨⟨some (.int x), hp2, rfl, hKv, by rw [ht]; exact hR.1, hR.2.2.2.1, hR.2.2.2.2⟩, hR.2.2.1.F ht⟩) hf hd
        rcases hx01 with rfl | rfl <;> decide
    · have e9 : len = 1 := by simpa [zlen] using hlen2
      subst e9
      exact W.lret hx hb (hr.trans hret) (fun t ht _ => ⟨⟨some (.long x), hp2, rfl, hKv, by rw [ht]; exact hR.1, hR.2.2.2.1, hR.2.2.2.2⟩, hR.2.2.1.F ht⟩) hf hd
    · have e9 : len = 1 := by simpa [zlen] using hlen2
      subst e9
      exact W.vret hx hb (hr.trans hret) (fun t ht _ => ⟨⟨none, hp2, rfl, hKv, by rw [ht]; exact hR.1, hR.2.2.2.1, hR.2.2.2.2⟩, hR.2.2.1.F ht⟩) hf hd
end ZV
section ZG
variable {l : Launch} {ES : (Nat → Prop) → State → Heap → Prop} {D : va_G} {cy : Nat → ClassId} {ad : Nat → Nat} {x0 x1 : Nat → Int32}
set_option maxHeartbeats 400000 in
theorem ccall_ok {nn : Nat} (hE : zESok ES) {n d M pc idx y k : Nat} {ls : zLs} {st as rest : List Value} {hp : zHP} {K : Option Value → zHP → Prop} {mi my : zMI} {p : Program} {e : Env} {R : Room} {s : State} {m : MethodId} {args : Array Value} {below : List Frame} {meth : Method} {c : Code} {A : Nat → Prop} {H0 : Heap} {H : Heap} {locs : List Loc} {cells slots : Nat} {QW : State → Prop} {lsC : Array Slot} {stat : Bool}
    (hgo : (cGo nn) l ES D cy ad x0 x1 n) (hm : zmt[M]? = some mi) (C : zC ES D cy ad A H0 x0 x1 mi p s m args c) (hR : (cRel nn) D cy ad A H0 x0 x1 hp H locs) (hl : zlr ad mi.2.2.1 ls lsC) (hfr : d + 1 ≤ R.frames) (hlo : 60 * (d + 1) + 40 ≤ R.locals) (hce : cells ≤ R.cells) (hsl : slots ≤ R.slots)
    (hmy : zmt[y]? = some my) (hy : y < 241) (hlen : (zent my.2.2.1 as).length = my.2.2.1) (h : (cWn nn) n d y 0 (zent my.2.2.1 as) [] hp (fun v hp' => (cWn nn) n (d + 1) M (pc + 3) ls (v.toList ++ rest) hp' K)) (hcat : zcat rest ≤ 8)
    (hk : k ≤ st.length) (hcall : (stat = true ∧ decode mi.2.1 pc = .ok (.invokestatic idx, 3) ∧ zca mi.2.2.2.2 idx = some (y, k, 1) ∧ as = (st.take k).reverse ∧ rest = st.drop k) ∨ (stat = false ∧ decode mi.2.1 pc = .ok (.invokevirtual idx, 3) ∧ zca mi.2.2.2.2 idx = some (y, k, 0) ∧ ∃ b, as = .ref b :: (st.take k).reverse ∧ st.drop k = .ref b :: rest ∧ (ckd nn) b < 11 ∧ zcn ((ckd nn) b) = (zyOf y).cls))
    (hend : (cEnd nn) l D cy ad x0 x1 M mi K p e R s m args below meth c A H0 cells slots QW) : W p l e R s m args below meth c H locs cells slots QW (F0 m pc lsC (st.map (zcv ad))) := by
  obtain ⟨hx, hb, hml, hown, hts, hK, hv9, hES, hA, hscr, -⟩ := id C
  obtain ⟨f1, f2, f3, f4, f5, f6⟩ := zmt_facts my (List.mem_of_getElem? hmy)
  have hMet := cmet (sz := H.size) hgo hmy hy hlen h
  have hGood : GoodIn zTB (zcW my :: zTB) := by
    intro w hw
    have h1 : w ∈ zTB := by
      rcases List.mem_cons.mp hw with q | q
      · rw [q]; exact zcode_in hmy hy
      · exact q
    exact ⟨h1, good_of_word (List.mem_filter.mp h1).2⟩
  have hroom : (zRm d).frames + 1 ≤ R.frames ∧ 8 + (my.2.2.1 + 11) + (zRm d).locals ≤ R.locals := ⟨hfr, by show 8 + (my.2.2.1 + 11) + (60 * d + 40) ≤ R.locals; omega⟩
  have hsplit : st.map (zcv ad) = (((st.take k).reverse).map (zcv ad)).reverse ++ (st.drop k).map (zcv ad) := by
    rw [← List.map_reverse, List.reverse_reverse, ← List.map_append, List.take_append_drop]
  have hfin : ∀ (v : Option Value) (st₀ t : State) (L : List Loc), st₀.heap = H → (cQc nn) D cy ad x0 x1 hp H.size (fun v hp' => (cWn nn) n (d + 1) M (pc + 3) ls (v.toList ++ rest) hp' K) (as.map (zcv ad)).toArray st₀ (.returned v) t → (∀ q ∈ L, va_A ((cwd nn) ad cy hp) H.size q.base) → W p l e R s m args below meth c t.heap (locs ++ L) cells slots QW (F0 m (pc + 3) lsC (v.toList ++ rest.map (zcv ad))) := by
    intro v st₀ t L h0 hQ hL
    obtain ⟨⟨v2, hp2, e1, hK2, hP2, h9, h91⟩, hF⟩ := hQ
    cases e1
    rw [ztoList]
    exact hgo (d + 1) M (pc + 3) ls _ hp2 K mi p e R s m args below meth c A H0 _ _ cells slots QW lsC hm C hK2 (cpost hA hR h0 hP2 h9 h91 hF hL) hl hfr hlo hce hsl hend
  rcases hcall with ⟨-, hd, hz, has, hrest⟩ | ⟨-, hd, hz, b, has, hdrop, hkb, hcn⟩
  · obtain ⟨w1, w2, w3⟩ := zca_spec hz hmy (by decide)
    have w4 : Cond.static my.1 ∈ zTB := by
      rcases w3 with ⟨-, q⟩ | ⟨q, -⟩
      · exact q
      · cases q
    subst hrest
    subst has
    have hCB : CallB R s args (zcn mi.2.2.2.2) idx my.1 my.2.1 my.2.2.1 my.2.2.2.1 (zcW my :: zTB) (zRm d) 0 0 k := callB_of (ws' := zTB) k hts hGood rfl rfl rfl (hts _ (zini_in hmy)) (hts _ w1) ⟨f5, f6, w2⟩ hroom
    have hFix : CallFix p m c mi.2.1 mi.2.2.1 s args zTB (zcn mi.2.2.2.2) := ⟨hx, hb, hml, hown, hts⟩
    have hPre : PreS s H (va_Pc (((st.take k).reverse).map (zcv ad)) ((cB nn) ES D cy ad x0 x1 hp H.size)) (((st.take k).reverse).map (zcv ad)) := ⟨cblind hE, fun U hU hW => ⟨rfl, cpre hE C hR hU hW⟩⟩
    have hn9 : (((st.take k).reverse).map (zcv ad)).length = k := by simp; omega
    have hW9 : 2 * (F0 m pc lsC (st.map (zcv ad))).monitorRoom + (((st.drop k).map (zcv ad)).map fun v => v.category).sum ≤ 8 := lv_room (by rw [zcv_cats]; omega)
    exact zrun (va_runS hFix hMet ⟨hCB, hts _ w4⟩ hPre rfl hn9 hl.2.1 hsplit hW9 hd ⟨hce, hsl⟩) hfin
  · obtain ⟨w1, w2, w3⟩ := zca_spec hz hmy (by decide)
    obtain ⟨w4, w5⟩ : Cond.instanceMethod my.1 ∈ zTB ∧ Cond.selects my.1.cls my.1 my.1 ∈ zTB := by
      rcases w3 with ⟨q, -⟩ | ⟨-, q⟩
      · cases q
      · exact q
    subst has
    rw [zyOf_at hmy] at hcn
    have hat := cwd_at (nn := nn) (ad := ad) (cy := cy) (hp := hp) (k := b) rfl (by omega)
    rw [zcell_obj hp hkb] at hat
    have hrecv := va_recv hK hR.1 (zclAt ((ckd nn) b) hkb) hat
    rw [show ((zcn ((ckd nn) b), zT ((ckd nn) b), zNf ((ckd nn) b)) : vw_C).1 = my.1.cls from hcn] at hrecv
    rw [hdrop] at hsplit
    have hCB : CallB R s args (zcn mi.2.2.2.2) idx my.1 my.2.1 my.2.2.1 my.2.2.2.1 (zcW my :: zTB) (zRm d) 0 0 k := callB_of (ws' := zTB) k hts hGood rfl rfl rfl (hts _ (zini_in hmy)) (hts _ w1) ⟨f5, f6, w2⟩ hroom
    have hFix : CallFix p m c mi.2.1 mi.2.2.1 s args zTB (zcn mi.2.2.2.2) := ⟨hx, hb, hml, hown, hts⟩
    have hPre : PreV s H my.1.cls (ad b) (va_Pc ((Value.ref b :: (st.take k).reverse).map (zcv ad)) ((cB nn) ES D cy ad x0 x1 hp H.size)) (((st.take k).reverse).map (zcv ad)) := ⟨cblind hE, hrecv, fun U hU hW => ⟨rfl, cpre hE C hR hU hW⟩⟩
    have hn9 : (((st.take k).reverse).map (zcv ad)).length = k := by simp; omega
    have hW9 : 2 * (F0 m pc lsC (st.map (zcv ad))).monitorRoom + ((rest.map (zcv ad)).map fun v => v.category).sum ≤ 8 := lv_room (by rw [zcv_cats]; omega)
    exact zrun (va_runV hFix hMet ⟨hCB, hts _ w4, hts _ w5⟩ hPre rfl hn9 hl.2.1 hsplit hW9 hd ⟨hce, hsl⟩) hfin
set_option maxHeartbeats 400000 in
theorem cbi_ok {nn : Nat} {pc idx y k : Nat} {st as rest : List Value} {hp hp' : zHP} {mi : zMI} {p : Program} {e : Env} {R : Room} {s : State} {m : MethodId} {args : Array Value} {below : List Frame} {meth : Method} {c : Code} {A : Nat → Prop} {H0 : Heap} {H : Heap} {locs : List Loc} {cells slots : Nat} {QW : State → Prop} {lsC : Array Slot} {v : Option Value}
    (C : zC ES D cy ad A H0 x0 x1 mi p s m args c) (hR : (cRel nn) D cy ad A H0 x0 x1 hp H locs) (hsz : lsC.size = mi.2.2.1) (hfr : 5 ≤ R.frames) (hlo : 340 ≤ R.locals) (hce : cells ≤ R.cells) (hsl : slots ≤ R.slots)
    (hd : decode mi.2.1 pc = .ok (.invokestatic idx, 3)) (hz : zca mi.2.2.2.2 idx = some (y, k, 2)) (hy : y = 1002 ∨ (1010 ≤ y ∧ y ≤ 1015)) (has : as = (st.take k).reverse) (hrest : rest = st.drop k) (hcat : zcat rest ≤ 8) (h : (cbi nn) y as hp = some (v, hp'))
    (kk : ∀ (H' : Heap) (locs' : List Loc), (cRel nn) D cy ad A H0 x0 x1 hp' H' locs' → W p l e R s m args below meth c H' locs' cells slots QW (F0 m (pc + 3) lsC ((v.toList ++ rest).map (zcv ad)))) : W p l e R s m args below meth c H locs cells slots QW (F0 m pc lsC (st.map (zcv ad))) := by
  obtain ⟨hx, hb, hml, hown, hts, hK, hv9, hES, hA, hscr, -⟩ := id C
  have hml2 : c.maxLocals = lsC.size := hml.trans hsz.symm
  have hlk := hts _ (zbl hz)
  have hst := zst_split has hrest
  have hini : (Cond.initialized "java/lang/Math").before args s = true := hts _ (zTB_in zbi_1002.2.2.2.2 rfl)
  have hcat2 : ((rest.map (zcv ad)).map fun v => v.category).sum ≤ 8 := by rw [zcv_cats]; exact hcat
  clear has hrest
  rcases hy with rfl | hy
  · unfold cbi at h
    rw [if_neg (by decide), if_neg (by decide), if_pos rfl] at h
    split at h
    next a i b j n =>
      split at h
      next hc =>
        obtain ⟨k1, k2, h1, h2, h3, h4, h5⟩ := hc
        cases h
        subst hst
        obtain ⟨b1, b2, b3, b4, -⟩ := zbi_1002
        rw [b1] at hlk
        have hat := cwd_at (nn := nn) (ad := ad) (cy := cy) (hp := hp) k1 (by omega)
        have hbt := cwd_at (nn := nn) (ad := ad) (cy := cy) (hp := hp) k2 (by omega)
        rw [zcell_arr hp (Or.inl rfl)] at hat hbt
        obtain ⟨n0, n1⟩ := cne900 k2 (by omega)
        have hup : ∀ q : Nat, q ≠ b → va_up hp.1 b (va_cpy (hp.1 a) (hp.1 b) i.toNatClampNeg j.toNatClampNeg n.toNatClampNeg) q = hp.1 q := fun q hq => by unfold va_up; rw [if_neg hq]
        refine va_copyi (rest := rest.map (zcv ad)) hx hb hml2 hown hlk (hts _ (zTB_in b3 rfl)) (hts _ (zTB_in b2 rfl)) (hts _ (zTB_in b4 rfl)) hK hR.1 hR.2.1 hR.2.2.1 a b 0 0 (ty := .int) hat hbt rfl rfl rfl h1 h2 h3 h4 h5 (fun _ _ => rfl) (by omega) (by have := znfw; omega) hd (fun H1 locs1 hP hD hS => ?_)
        refine kk H1 locs1 (cset_rel hR k2 (by omega) ?_ (fun q r hq => zcell_i (hup q hq)) (hup 900 n0) (hup 901 n1) hP hD hS)
        rw [zcell_arr _ (Or.inl rfl)]
        show _ = (Sum.inl (cy (100 - 100), (cln nn) b, .inl (va_up hp.1 b (va_cpy (hp.1 a) (hp.1 b) i.toNatClampNeg j.toNatClampNeg n.toNatClampNeg) b)) : va_E)
        unfold va_up
        rw [if_pos rfl]
      next => cases h
    next => cases h
  · have hyy : y = 1010 ∨ y = 1011 ∨ y = 1012 ∨ y = 1013 ∨ y = 1014 ∨ y = 1015 := by omega
    rcases hyy with rfl | rfl | rfl | rfl | rfl | rfl
    · unfold cbi at h
      rw [if_neg (by decide), if_neg (by decide), if_neg (by decide), if_pos rfl] at h
      split at h
      next x z =>
        cases h; subst hst
        rw [zbi_1010.1] at hlk
        exact va_mmax (rest := rest.map (zcv ad)) hx hb hml2 hown hlk (hts _ (zTB_in zbi_1010.2.1 rfl)) hini (hts _ (zTB_in zbi_1010.2.2 rfl)) (by omega) (by omega) hce hsl hd (kk _ _ hR)
      next => cases h
    · unfold cbi at h
      rw [if_neg (by decide), if_neg (by decide), if_neg (by decide), if_neg (by decide), if_pos rfl] at h
      split at h
      next x z =>
        cases h; subst hst
        rw [zbi_1011.1] at hlk
        exact va_mmin (rest := rest.map (zcv ad)) hx hb hml2 hown hlk (hts _ (zTB_in zbi_1011.2.1 rfl)) hini (hts _ (zTB_in zbi_1011.2.2 rfl)) (by omega) (by omega) hce hsl hd (kk _ _ hR)
      next => cases h
    · unfold cbi at h
      rw [if_neg (by decide), if_neg (by decide), if_neg (by decide), if_neg (by decide), if_neg (by decide), if_pos rfl] at h
      split at h
      next x =>
        cases h; subst hst
        rw [zbi_1012.1] at hlk
        exact va_mabs (rest := rest.map (zcv ad)) hx hb hml2 hown hlk (hts _ (zTB_in zbi_1012.2.1 rfl)) hini (hts _ (zTB_in zbi_1012.2.2 rfl)) (by omega) (by omega) hce hsl hd (kk _ _ hR)
      next => cases h
    · unfold cbi at h
      rw [if_neg (by decide), if_neg (by decide), if_neg (by decide), if_neg (by decide), if_neg (by decide), if_neg (by decide), if_pos rfl] at h
      split at h
      next x z =>
        cases h; subst hst
        rw [zbi_1013.1] at hlk
        exact va_mmax_long (rest := rest.map (zcv ad)) hx hb hml2 hown hlk (hts _ (zTB_in zbi_1013.2.1 rfl)) hini (hts _ (zTB_in zbi_1013.2.2 rfl)) (by omega) (by omega) hce hsl hd (kk _ _ hR)
      next => cases h
    · unfold cbi at h
      rw [if_neg (by decide), if_neg (by decide), if_neg (by decide), if_neg (by decide), if_neg (by decide), if_neg (by decide), if_neg (by decide), if_pos rfl] at h
      split at h
      next x z =>
        cases h; subst hst
        rw [zbi_1014.1] at hlk
        exact va_mmin_long (rest := rest.map (zcv ad)) hx hb hml2 hown hlk (hts _ (zTB_in zbi_1014.2.1 rfl)) hini (hts _ (zTB_in zbi_1014.2.2 rfl)) (by omega) (by omega) hce hsl hd (kk _ _ hR)
      next => cases h
    · unfold cbi at h
      rw [if_neg (by decide), if_neg (by decide), if_neg (by decide), if_neg (by decide), if_neg (by decide), if_neg (by decide), if_neg (by decide), if_neg (by decide), if_pos rfl] at h
      split at h
      next x =>
        cases h; subst hst
        rw [zbi_1015.1] at hlk
        exact va_mabs_long (rest := rest.map (zcv ad)) hx hb hml2 hown hlk (hts _ (zTB_in zbi_1015.2.1 rfl)) hini (hts _ (zTB_in zbi_1015.2.2 rfl)) (by omega) (by omega) hce hsl hd (kk _ _ hR)
      next => cases h
theorem cbi_none {nn : Nat} {y : Nat} {as : List Value} {hp : zHP} (h : y < 241) : (cbi nn) y as hp = none := by
  unfold cbi
  rw [if_neg (by omega), if_neg (by omega), if_neg (by omega), if_neg (by omega), if_neg (by omega), if_neg (by omega), if_neg (by omega), if_neg (by omega), if_neg (by omega)]
theorem cbi_str {nn : Nat} {y : Nat} {as : List Value} {hp : zHP} {w : Option Value × zHP} (h : y = 1000 ∨ y = 1001) (hw : (cbi nn) y as hp = some w) : w.2 = hp := by
  rcases h with rfl | rfl
  · unfold cbi at hw
    rw [if_pos rfl] at hw
    split at hw
    next => cases hw; rfl
    next => cases hw
  · unfold cbi at hw
    rw [if_neg (by decide), if_pos rfl] at hw
    split at hw
    next =>
      split at hw
      next => cases hw; rfl
      next => cases hw
    next => cases hw
set_option maxHeartbeats 400000 in
theorem cgo {nn : Nat} (hE : zESok ES) (hstr : (cStr nn) l ES D cy ad x0 x1) : ∀ n, (cGo nn) l ES D cy ad x0 x1 n := by
  intro n
  induction n with
  | zero => intro d M pc ls st hp K mi p e R s m args below meth c A H0 H locs cells slots QW lsC hm C h; exact h.elim
  | succ n ih =>
    intro d M pc ls st hp K mi p e R s m args below meth c A H0 H locs cells slots QW lsC hm C h hR hl hfr hlo hce hsl hend
    unfold cWn at h
    rw [hm] at h
    dsimp only at h
    split at h
    next v hv => exact hend v hp H locs lsC pc ls st (Or.inl hv) h hR hl
    next hex =>
      split at h
      next => exact h.elim
      next i len hd =>
        split at h
        next hlen =>
          split at h
          next r ha =>
            obtain ⟨r1, r2, r3, r4⟩ := r
            exact cact_ok C hd hlen ha hR hl (fun H' locs' lsC' hR' hl' => ih d M r1 r2 r3 r4 K mi p e R s m args below meth c A H0 H' locs' cells slots QW lsC' hm C h hR' hl' hfr hlo hce hsl hend)
          next ha =>
            split at h
            next v hv => exact hend v hp H locs lsC pc ls st (Or.inr ⟨i, len, hd, hlen, hv⟩) h hR hl
            next =>
              split at h
              next => exact h.elim
              next q hq =>
                split at h
                next w hw =>
                  obtain ⟨h5, h⟩ := h
                  have kk : ∀ (H' : Heap) (locs' : List Loc), (cRel nn) D cy ad A H0 x0 x1 w.2 H' locs' → W p l e R s m args below meth c H' locs' cells slots QW (F0 m (pc + 3) lsC ((w.1.toList ++ q.2.2).map (zcv ad))) := fun H' locs' hR' => ih d M (pc + 3) ls _ w.2 K mi p e R s m args below meth c A H0 H' locs' cells slots QW lsC hm C h hR' hl hfr hlo hce hsl hend
                  rcases ccx_spec hq with ⟨k, n2, b, rfl, hz, -, -, -, -, -, -, hlt⟩ | ⟨k, n2, rfl, hz, g1, g2, g3, g4, g5⟩ | ⟨k, n2, rfl, hz, -, -, -, -, hlt⟩ | ⟨k, n2, rfl, hz, g1, g2, g3, g4, g5⟩
                  · exact absurd hw (by rw [cbi_none hlt]; exact fun z => by cases z)
                  · have e9 : len = 3 := by simpa [zlen] using hlen
                    subst e9
                    have e8 : w.2 = hp := cbi_str g5 hw
                    exact hstr p e R s m args below meth c H locs cells slots QW A H0 mi pc k n2 q.1 q.2.1 q.2.2 st w.1 hp w.2 lsC C hd hz g5 g1 g2 g3 g4 hw hR hl.2.1 hce hsl (by omega) (by omega) (kk H locs (by rw [e8]; exact hR))
                  · exact absurd hw (by rw [cbi_none hlt]; exact fun z => by cases z)
                  · have e9 : len = 3 := by simpa [zlen] using hlen
                    subst e9
                    exact cbi_ok C hR hl.2.1 (by omega) (by omega) hce hsl hd hz g5 g3 g2 g4 hw kk
                next hw =>
                  split at h
                  next d' my hmy =>
                    obtain ⟨hlt, hlen2, h⟩ := h
                    rcases ccx_spec hq with ⟨k, n2, b, rfl, hz, g1, g2, g3, g4, g5, g6, -⟩ | ⟨k, n2, rfl, hz, g1, g2, g3, g4, g5⟩ | ⟨k, n2, rfl, hz, g1, g2, g3, g4, -⟩ | ⟨k, n2, rfl, hz, g1, g2, g3, g4, g5⟩
                    · have e9 : len = 3 := by simpa [zlen] using hlen
                      subst e9
                      exact ccall_ok (stat := false) hE ih hm C hR hl hfr hlo hce hsl hmy hlt hlen2 h g4 g1 (Or.inr ⟨rfl, hd, hz, b, g3, g2, g5, g6⟩) hend
                    · omega
                    · have e9 : len = 3 := by simpa [zlen] using hlen
                      subst e9
                      exact ccall_ok (stat := true) hE ih hm C hR hl hfr hlo hce hsl hmy hlt hlen2 h g4 g1 (Or.inl ⟨rfl, hd, hz, g3, g2⟩) hend
                    · omega
                  next => exact h.elim
        next => exact h.elim
end ZG
section ZT
variable {p : Program} {l : Launch} {e : Env} {R : Room} {s : State} {m : MethodId} {args : Array Value} {below : List Frame} {meth : Method} {c : Code} {H : Heap} {locs : List Loc} {cells slots : Nat} {QW : State → Prop} {pc nL : Nat} {lsC : Array Slot} {cc : ByteArray} {own : String}
end ZT
section ZU
variable (l : Launch) (adK adV : Nat → Nat) (A : Nat → Prop)
end ZU
set_option maxHeartbeats 1000000 in
theorem cstr_ok {nn : Nat} (l : Launch) {D : va_G} {cy ad adK adV : Nat → Nat} {x0 x1 : Nat → Int32} (had : ad 910 = adK 1) : (cStr nn) l (zES adK adV) D cy ad x0 x1 := by
  intro p e R s m args below meth c H locs cells slots QW A H0 mi pc idx n y as rest st v hp hp' lsC C hd hz hy hn hdrop has hcat hb hR hsz hce hsl hfr hlo kk
  obtain ⟨hx, hbb, hml, hown, hts, hK, hv9, hES, hA, -, hH0⟩ := id C
  obtain ⟨q, hq, q1, q2, q3, q4, q5⟩ := zca_mem hz
  obtain ⟨r1, r2⟩ := zca_str q hq (by rw [q3]; exact hy) q5
  have hc11 : mi.2.2.2.2 ≠ 11 := by rw [← q1]; omega
  have e0 := hH0 hc11
  subst e0
  have hlk := zbl hz
  have hSB : ∀ U : State, U.heap = H → s.WarmedH U.vm → zSB adK adV A U := by
    intro U hU hW
    unfold zSB
    rw [hU]
    exact (zES_ok adK adV).1 A s U H hW ((zES_ok adK adV).2.2.1 A s s.heap H hES (fun a h1 h2 => hR.2.2.1.2.1 a h1 h2))
  have hrec := vk_recv (i := 1) hES.1 (by decide) hR.2.2.1
  have hstr : ∀ k : Nat, k = n → st = (st.take k) ++ .ref 910 :: rest := fun k hk => by rw [hk, ← hdrop, List.take_append_drop]
  have hcat2 : ((rest.map (zcv ad)).map fun v => v.category).sum ≤ 8 := by rw [zcv_cats]; exact hcat
  rcases r2 with ⟨r3, r4⟩ | ⟨r3, r4⟩
  · have ey : y = 1000 := by omega
    have en : n = 0 := by omega
    subst ey
    subst en
    have est : st = .ref 910 :: rest := by rw [← hdrop]; rfl
    subst est
    have eb : (cbi nn) 1000 as hp = some (some (.int (nI zwds.length)), hp) := by rw [has]; rfl
    rw [eb] at hb
    cases hb
    have hM := m_length l adK adV A (i := 1) (by decide)
    show W p l e R s m args below meth c H locs cells slots QW (F0 m pc lsC (([] : List Value).reverse ++ .ref (ad 910) :: rest.map (zcv ad)))
    rw [had]
    refine zsV (k := 0) (d := 1) (As := []) (rest := rest.map (zcv ad)) (own := zcn mi.2.2.2.2) (cc := mi.2.1) (nL := mi.2.2.1) ⟨hx, hbb, hml, hown, hts⟩ hM ws_length hlk wk_i_length wk_s_length wk_in_S ⟨by decide, by decide, by decide +kernel⟩ rfl ⟨by omega, by omega⟩ hrec hSB zSbl hsz hcat2 hd hce hsl (fun v st₀ t g0 hQ => ?_)
    obtain ⟨r, e1, e2, e3⟩ := hQ
    cases e1
    subst e2
    rw [e3, g0]
    exact kk
  · have ey : y = 1001 := by omega
    have en : n = 1 := by omega
    subst ey
    subst en
    obtain ⟨w, est⟩ : ∃ w, st = w :: .ref 910 :: rest := by
      cases st with
      | nil => cases hdrop
      | cons w t => exact ⟨w, congrArg (fun z => w :: z) hdrop⟩
    subst est
    have has2 : as = [.ref 910, w] := has
    subst has2
    unfold cbi at hb
    rw [if_neg (by decide), if_pos rfl] at hb
    split at hb
    next k heq =>
      cases heq
      split at hb
      next hin =>
        cases hb
        have hk : vp_in k (zlenS.getD 1 0) := zin_spec hin
        have hM := m_charAt l adK adV A (i := 1) (k := k) (by decide) hk
        show W p l e R s m args below meth c H locs cells slots QW (F0 m pc lsC (([.int k] : List Value).reverse ++ .ref (ad 910) :: rest.map (zcv ad)))
        rw [had]
        refine zsV (k := 1) (d := 3) (As := [.int k]) (rest := rest.map (zcv ad)) (own := zcn mi.2.2.2.2) (cc := mi.2.1) (nL := mi.2.2.1) ⟨hx, hbb, hml, hown, hts⟩ hM ws_charAt hlk wk_i_charAt wk_s_charAt wk_in_S ⟨by decide, by decide, by decide +kernel⟩ rfl ⟨by omega, by omega⟩ hrec hSB zSbl hsz hcat2 hd hce hsl (fun v st₀ t g0 hQ => ?_)
        obtain ⟨r, e1, e2, e3⟩ := hQ
        cases e1
        rw [e3, g0]
        have e4 : r = zwds.getD k.toNatClampNeg 0 := by
          rw [e2]
          have hlt : k.toNatClampNeg < zwds.length := Nat.not_le.mp fun q => (zin_spec hin) (Or.inr q)
          show zwds.getD k.toNatClampNeg 0 &&& 255 = _
          rw [List.getD_eq_getElem?_getD, List.getElem?_eq_getElem hlt]
          exact zwds_255 _ (List.getElem_mem hlt)
        rw [e4]
        exact kk
      next => cases hb
    next => cases hb
