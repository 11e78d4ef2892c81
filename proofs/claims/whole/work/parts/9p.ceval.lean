/-! runs over the first nn cells, as a function -/
/-! the same, worked out on the way (for the kernel) -/
def frcN {α : Type} (n : Nat) (k : Nat → α) : α := Nat.rec (motive := fun _ => α) (k 0) (fun m _ => k (Nat.succ m)) n
theorem frcN_eq {α : Type} (n : Nat) (k : Nat → α) : frcN n k = k n := by cases n <;> rfl
def frcI {α : Type} (x : Int32) (k : Int32 → α) : α := frcN x.toUInt32.toNat (fun n => k (Int32.ofUInt32 (UInt32.ofNat n)))
theorem frcI_eq {α : Type} (x : Int32) (k : Int32 → α) : frcI x k = k x := by
  unfold frcI
  rw [frcN_eq, UInt32.ofNat_toNat]
def frcV {α : Type} (v : Option Value) (k : Option Value → α) : α := match v with
  | some (.int x) => frcI x (fun y => k (some (.int y)))
  | v => k v
theorem frcV_eq {α : Type} (v : Option Value) (k : Option Value → α) : frcV v k = k v := by
  unfold frcV
  split
  · exact frcI_eq _ _
  · rfl
def frcL {α : Type} : zLs → (zLs → α) → α
  | [], k => k []
  | v :: t, k => frcV v (fun w => frcL t (fun u => k (w :: u)))
theorem frcL_eq {α : Type} : ∀ (l : zLs) (k : zLs → α), frcL l k = k l := by
  intro l
  induction l with
  | nil => intro k; rfl
  | cons v t ih =>
    intro k
    unfold frcL
    rw [frcV_eq, ih]
def frcS {α : Type} (pc n : Nat) (l : zLs) (k : Nat → zLs → α) : α := frcN n (fun m => if m ≤ pc then frcL l (fun u => k m u) else k m l)
theorem frcS_eq {α : Type} (pc n : Nat) (l : zLs) (k : Nat → zLs → α) : frcS pc n l k = k n l := by
  unfold frcS
  rw [frcN_eq, frcL_eq]
  split <;> rfl
/-! the fields' sorts, and which are final, as lists: the kernel finds them in less room -/
def zfsT : List (List Nat) := [[3, 3, 3, 0, 0, 0, 1, 1], [3, 0, 0], [3, 3, 3, 0, 0], [0, 0, 0, 0, 0, 3, 3, 3, 3, 3, 3, 3, 3, 3, 3], [3, 3, 0, 0, 0, 3, 0, 0, 0], [0, 0, 0, 3, 3, 3, 3, 3, 3], [3, 3], [3, 0, 3, 0, 0, 0, 0, 0], [0, 2, 3, 3, 3, 3, 3, 3, 3, 3, 3, 0, 0, 0, 0], [3, 3, 3, 3, 3, 3, 1, 3, 3, 3, 3, 3], [0, 3, 0, 3, 3, 3, 3, 3, 3, 3, 3, 3, 3, 3, 3, 3, 3, 3, 3, 0, 0, 0, 0, 0, 0, 0, 0, 0, 0, 0, 0, 0, 3, 3, 0, 3, 3, 3, 3, 3, 3, 3, 3, 3, 3, 3, 3, 1, 0, 0, 0, 0, 3, 3, 0, 0, 3, 0, 0, 3, 3, 3, 3, 3, 3, 3]]
def zfnT : List (List Bool) := [[true, false, false, false, false, false, false, false], [true, false, false], [true, true, true, false, false], [false, false, false, false, false, true, true, true, true, true, true, true, true, true, true], [true, false, false, false, false, true, false, false, false], [false, false, false, true, true, true, true, true, true], [true, true], [true, false, true, false, false, false, false, false], [false, false, true, true, true, true, true, true, true, true, true, false, false, false, false], [true, false, false, true, true, true, false, true, true, true, true, true], [false, true, false, true, true, true, true, true, true, true, true, true, true, true, true, true, true, true, true, false, false, false, false, false, false, false, false, false, false, false, false, false, true, true, false, true, true, true, true, true, true, true, true, true, true, true, true, false, false, false, false, false, true, true, false, false, true, false, false, true, true, true, true, true, true, true]]
def zfsF (ci j : Nat) : Nat := (zfsT.getD ci []).getD j 9
def zfnF (ci j : Nat) : Bool := (zfnT.getD ci []).getD j false
set_option maxRecDepth 20000 in
theorem zfsF_eq : ∀ ci, ci < 11 → ∀ j, j < zNf ci → zfsF ci j = zfs ci j := by decide +kernel
set_option maxRecDepth 20000 in
theorem zfnF_eq : ∀ ci, ci < 11 → ∀ j, j < zNf ci → (zT ci j).2.2.2 = zfnF ci j ∧ (zT ci j).1 = zcn ci := by decide +kernel
def cgetF (nn : Nat) (pc : Nat) (ls : zLs) (r : List Value) (hp : zHP) (o ci j : Nat) : Option (Nat × zLs × List Value × zHP) :=
  if (ckd nn) o = ci then
    match zfsF ci j with
    | 0 => some (pc, ls, .int (hp.1 o j) :: r, hp)
    | 1 => some (pc, ls, .int (hp.1 o j) :: r, hp)
    | 2 => some (pc, ls, .long (hp.2.1 o j) :: r, hp)
    | 3 => match hp.2.2 o j with
      | some q => some (pc, ls, .ref q :: r, hp)
      | none => none
    | _ => none
  else none
def cputF (nn : Nat) (pc : Nat) (ls : zLs) (r : List Value) (hp : zHP) (v : Value) (o ci j : Nat) : Option (Nat × zLs × List Value × zHP) :=
  if (ckd nn) o = ci ∧ zfnF ci j = false then
    match zfsF ci j, v with
    | 0, .int x => some (pc, ls, r, (zu hp.1 o j x, hp.2.1, hp.2.2))
    | 1, .int x => if x = 0 ∨ x = 1 then some (pc, ls, r, (zu hp.1 o j x, hp.2.1, hp.2.2)) else none
    | 2, .long x => some (pc, ls, r, (hp.1, zu hp.2.1 o j x, hp.2.2))
    | 3, .ref q => some (pc, ls, r, (hp.1, hp.2.1, zu hp.2.2 o j (some q)))
    | _, _ => none
  else none
theorem cgetF_eq {nn pc : Nat} {ls : zLs} {r : List Value} {hp : zHP} {o ci j : Nat} (h1 : ci < 11) (h2 : j < zNf ci) : cgetF nn pc ls r hp o ci j = cget nn pc ls r hp o ci j := by
  unfold cgetF cget
  rw [zfsF_eq ci h1 j h2]
  rfl
theorem cputF_eq {nn pc : Nat} {ls : zLs} {r : List Value} {hp : zHP} {v : Value} {o ci j : Nat} (h1 : ci < 11) (h2 : j < zNf ci) : cputF nn pc ls r hp v o ci j = cput nn pc ls r hp v o ci j := by
  unfold cputF cput
  rw [zfsF_eq ci h1 j h2, (zfnF_eq ci h1 j h2).1]
  rfl
/-- the same with the instruction first: the kernel works it out in less room -/
def cactF (i : Instr) : Nat → Nat → Nat → zLs → List Value → zHP → Option (Nat × zLs × List Value × zHP) := match i with
  | .iconst k => fun nn c pc ls st hp => some (pc + 1, ls, .int (Int32.ofInt k) :: st, hp)
  | .bipush k => fun nn c pc ls st hp => some (pc + 2, ls, .int (Int8.ofInt k).toInt32 :: st, hp)
  | .sipush k => fun nn c pc ls st hp => some (pc + 3, ls, .int (Int16.ofInt k).toInt32 :: st, hp)
  | .lconst k => fun nn c pc ls st hp => some (pc + 1, ls, .long (Int64.ofNat (k : Nat)) :: st, hp)
  | .ldc k => fun nn c pc ls st hp => match zci c k with
    | some v => some (pc + 2, ls, .int v :: st, hp)
    | none => if c = 10 ∧ k = 194 then some (pc + 2, ls, .ref 910 :: st, hp) else none
  | .ldc_w k => fun nn c pc ls st hp => match zci c k with
    | some v => some (pc + 3, ls, .int v :: st, hp)
    | none => none
  | .ldc2_w k => fun nn c pc ls st hp => match zcl c k with
    | some v => some (pc + 3, ls, .long v :: st, hp)
    | none => none
  | .iload_n k => fun nn c pc ls st hp => zld (pc + 1) ls st hp k 0
  | .iload k => fun nn c pc ls st hp => zld (pc + 2) ls st hp k 0
  | .lload_n k => fun nn c pc ls st hp => zld (pc + 1) ls st hp k 1
  | .lload k => fun nn c pc ls st hp => zld (pc + 2) ls st hp k 1
  | .aload_n k => fun nn c pc ls st hp => zld (pc + 1) ls st hp k 2
  | .aload k => fun nn c pc ls st hp => zld (pc + 2) ls st hp k 2
  | .istore_n k => fun nn c pc ls st hp => zsto (pc + 1) ls st hp k 0
  | .istore k => fun nn c pc ls st hp => zsto (pc + 2) ls st hp k 0
  | .astore_n k => fun nn c pc ls st hp => zsto (pc + 1) ls st hp k 2
  | .astore k => fun nn c pc ls st hp => zsto (pc + 2) ls st hp k 2
  | .lstore_n k => fun nn c pc ls st hp => zstl (pc + 1) ls st hp k
  | .lstore k => fun nn c pc ls st hp => zstl (pc + 2) ls st hp k
  | .iinc k n => fun nn c pc ls st hp => match ls[k]? with
    | some (some (.int x)) => if zfree ls k = true then some (pc + 3, ls.set k (some (.int (x + Int32.ofInt n))), st, hp) else none
    | _ => none
  | .iadd => fun nn c pc ls st hp => zi2 (pc + 1) ls st hp (fun x y => x + y)
  | .isub => fun nn c pc ls st hp => zi2 (pc + 1) ls st hp (fun x y => x - y)
  | .imul => fun nn c pc ls st hp => zi2 (pc + 1) ls st hp (fun x y => x * y)
  | .iand => fun nn c pc ls st hp => zi2 (pc + 1) ls st hp (fun x y => x &&& y)
  | .ior => fun nn c pc ls st hp => zi2 (pc + 1) ls st hp (fun x y => x ||| y)
  | .ishl => fun nn c pc ls st hp => zi2 (pc + 1) ls st hp (fun x y => x <<< (y &&& 31))
  | .ishr => fun nn c pc ls st hp => zi2 (pc + 1) ls st hp (fun x y => x >>> (y &&& 31))
  | .iushr => fun nn c pc ls st hp => zi2 (pc + 1) ls st hp (fun x y => (x.toUInt32 >>> (y.toUInt32 &&& Int32.toUInt32 31)).toInt32)
  | .idiv => fun nn c pc ls st hp => match st with
    | .int y :: .int x :: r => if y = 0 then none else some (pc + 1, ls, .int (x / y) :: r, hp)
    | _ => none
  | .irem => fun nn c pc ls st hp => match st with
    | .int y :: .int x :: r => if y = 0 then none else some (pc + 1, ls, .int (x - x / y * y) :: r, hp)
    | _ => none
  | .ineg => fun nn c pc ls st hp => zi1 (pc + 1) ls st hp (fun x => .int (-x))
  | .i2l => fun nn c pc ls st hp => zi1 (pc + 1) ls st hp (fun x => .long x.toInt64)
  | .i2b => fun nn c pc ls st hp => zi1 (pc + 1) ls st hp (fun x => .int x.toInt8.toInt32)
  | .ladd => fun nn c pc ls st hp => zl2 (pc + 1) ls st hp (fun x y => x + y)
  | .lsub => fun nn c pc ls st hp => zl2 (pc + 1) ls st hp (fun x y => x - y)
  | .lmul => fun nn c pc ls st hp => zl2 (pc + 1) ls st hp (fun x y => x * y)
  | .land => fun nn c pc ls st hp => zl2 (pc + 1) ls st hp (fun x y => x &&& y)
  | .ldiv => fun nn c pc ls st hp => match st with
    | .long y :: .long x :: r => if y = 0 then none else some (pc + 1, ls, .long (x / y) :: r, hp)
    | _ => none
  | .lrem => fun nn c pc ls st hp => match st with
    | .long y :: .long x :: r => if y = 0 then none else some (pc + 1, ls, .long (x - x / y * y) :: r, hp)
    | _ => none
  | .lneg => fun nn c pc ls st hp => zl1 (pc + 1) ls st hp (fun x => .long (-x))
  | .l2i => fun nn c pc ls st hp => zl1 (pc + 1) ls st hp (fun x => .int x.toInt32)
  | .lcmp => fun nn c pc ls st hp => match st with
    | .long y :: .long x :: r => some (pc + 1, ls, .int (lg_cmp x y) :: r, hp)
    | _ => none
  | .dup => fun nn c pc ls st hp => match st with
    | v :: r => if v.category = 1 then some (pc + 1, ls, v :: v :: r, hp) else none
    | _ => none
  | .dup2 => fun nn c pc ls st hp => match st with
    | v :: w :: r => if v.category = 1 ∧ w.category = 1 then some (pc + 1, ls, v :: w :: v :: w :: r, hp) else none
    | _ => none
  | .pop => fun nn c pc ls st hp => match st with
    | v :: r => if v.category = 1 then some (pc + 1, ls, r, hp) else none
    | _ => none
  | .iaload => fun nn c pc ls st hp => match st with
    | .int i :: .ref a :: r =>
      if (ckd nn) a = 100 ∧ zin i ((cln nn) a) = true then some (pc + 1, ls, .int (hp.1 a i.toNatClampNeg) :: r, hp)
      else if a = 900 ∧ c = 11 ∧ zin i (hp.1 901 0).toNatClampNeg = true then some (pc + 1, ls, .int (hp.1 900 i.toNatClampNeg) :: r, hp) else none
    | _ => none
  | .baload => fun nn c pc ls st hp => match st with
    | .int i :: .ref a :: r => if ((ckd nn) a = 101 ∨ (ckd nn) a = 102) ∧ zin i ((cln nn) a) = true then some (pc + 1, ls, .int (hp.1 a i.toNatClampNeg) :: r, hp) else none
    | _ => none
  | .laload => fun nn c pc ls st hp => match st with
    | .int i :: .ref a :: r => if (ckd nn) a = 103 ∧ zin i ((cln nn) a) = true then some (pc + 1, ls, .long (hp.2.1 a i.toNatClampNeg) :: r, hp) else none
    | _ => none
  | .aaload => fun nn c pc ls st hp => match st with
    | .int i :: .ref a :: r => if (ckd nn) a = 104 ∧ zin i ((cln nn) a) = true then
        match hp.2.2 a i.toNatClampNeg with
        | some q => some (pc + 1, ls, .ref q :: r, hp)
        | none => none
      else none
    | _ => none
  | .iastore => fun nn c pc ls st hp => match st with
    | .int x :: .int i :: .ref a :: r => if (ckd nn) a = 100 ∧ zin i ((cln nn) a) = true then some (pc + 1, ls, r, (zu hp.1 a i.toNatClampNeg x, hp.2.1, hp.2.2)) else none
    | _ => none
  | .bastore => fun nn c pc ls st hp => match st with
    | .int x :: .int i :: .ref a :: r => if ((ckd nn) a = 101 ∨ (ckd nn) a = 102) ∧ zin i ((cln nn) a) = true then some (pc + 1, ls, r, (zu hp.1 a i.toNatClampNeg (vp_nar (if (ckd nn) a = 101 then .byte else .boolean) x), hp.2.1, hp.2.2)) else none
    | _ => none
  | .lastore => fun nn c pc ls st hp => match st with
    | .long x :: .int i :: .ref a :: r => if (ckd nn) a = 103 ∧ zin i ((cln nn) a) = true then some (pc + 1, ls, r, (hp.1, zu hp.2.1 a i.toNatClampNeg x, hp.2.2)) else none
    | _ => none
  | .arraylength => fun nn c pc ls st hp => match st with
    | .ref a :: r =>
      if 100 ≤ (ckd nn) a ∧ (ckd nn) a < 105 then some (pc + 1, ls, .int (Int32.ofNat ((cln nn) a)) :: r, hp)
      else if a = 900 ∧ c = 11 then some (pc + 1, ls, .int (hp.1 901 0) :: r, hp) else none
    | _ => none
  | .getfield k => fun nn c pc ls st hp => match st, zfl c k with
    | .ref o :: r, some (ci, j) => cgetF nn (pc + 3) ls r hp o ci j
    | _, _ => none
  | .putfield k => fun nn c pc ls st hp => match st, zfl c k with
    | v :: .ref o :: r, some (ci, j) => cputF nn (pc + 3) ls r hp v o ci j
    | _, _ => none
  | .goto off => fun nn c pc ls st hp => ztg pc off ls st hp
  | .ifCond cd off => fun nn c pc ls st hp => match st with
    | .int x :: r => if zcmp cd x 0 = true then ztg pc off ls r hp else some (pc + 3, ls, r, hp)
    | _ => none
  | .if_icmp cd off => fun nn c pc ls st hp => match st with
    | .int y :: .int x :: r => if zcmp cd x y = true then ztg pc off ls r hp else some (pc + 3, ls, r, hp)
    | _ => none
  | .tableswitch dflt lo hi offs => fun nn c pc ls st hp => match st with
    | .int x :: r => match zsw pc dflt lo hi offs x with
      | some off => ztg pc off ls r hp
      | none => none
    | _ => none
  | .lookupswitch dflt ps => fun nn c pc ls st hp => match st with
    | .int x :: r => if (ps.toList.zip (ps.toList.drop 1)).all (fun (a, next) => a.1 < next.1) = true then ztg pc (Op.lookupswitch.offset ps.toList dflt x.toInt) ls r hp else none
    | _ => none
  | _ => fun _ _ _ _ _ _ => none
theorem cactF_eq (i : Instr) (nn c pc : Nat) (ls : zLs) (st : List Value) (hp : zHP) : cactF i nn c pc ls st hp = cact nn c pc i ls st hp := by
  cases i
  case getfield k =>
    unfold cactF cact
    dsimp only
    cases hz : zfl c k with
    | none => rcases st with _ | ⟨v, r⟩ <;> first | rfl | (cases v <;> rfl)
    | some q =>
      obtain ⟨ci, j⟩ := q
      obtain ⟨h1, h2, -⟩ := zfl_spec hz
      rcases st with _ | ⟨v, r⟩
      · rfl
      · cases v <;> first | rfl | exact cgetF_eq h1 h2
  case putfield k =>
    unfold cactF cact
    dsimp only
    cases hz : zfl c k with
    | none => rcases st with _ | ⟨v, _ | ⟨w, r⟩⟩ <;> first | rfl | (cases w <;> rfl)
    | some q =>
      obtain ⟨ci, j⟩ := q
      obtain ⟨h1, h2, -⟩ := zfl_spec hz
      rcases st with _ | ⟨v, _ | ⟨w, r⟩⟩
      · rfl
      · rfl
      · cases w <;> first | rfl | exact cputF_eq h1 h2
  all_goals rfl
def cEv (nn : Nat) : Nat → Nat → Nat → Nat → zLs → List Value → zHP → Option (Option Value × zHP)
  | 0, _, _, _, _, _, _ => none
  | n + 1, d, M, pc, ls, st, hp =>
    match zmt[M]? with
    | none => none
    | some mi =>
      match zexit M pc ls st with
      | some v => some (v, hp)
      | none =>
      match dzF M pc with
      | none => none
      | some (i, len) =>
        if zlen i len = true then
          match cactF i nn mi.2.2.2.2 pc ls st hp with
          | some r => frcS pc r.1 r.2.1 (fun pq lq => cEv nn n d M pq lq r.2.2.1 r.2.2.2)
          | none =>
            match zrt mi.2.2.2.1 i st with
            | some v => some (v, hp)
            | none =>
              match ccx nn mi.2.2.2.2 i st with
              | none => none
              | some q =>
                match cbi nn q.1 q.2.1 hp with
                | some w => if 5 ≤ d then frcN (pc + 3) (fun pq => cEv nn n d M pq ls (w.1.toList ++ q.2.2) w.2) else none
                | none =>
                  match d, zmt[q.1]? with
                  | d' + 1, some my =>
                    if q.1 < 241 ∧ (zent my.2.2.1 q.2.1).length = my.2.2.1 then
                      match cEv nn n d' q.1 0 (zent my.2.2.1 q.2.1) [] hp with
                      | some w => frcN (pc + 3) (fun pq => cEv nn n d M pq ls (w.1.toList ++ q.2.2) w.2)
                      | none => none
                    else none
                  | _, _ => none
        else none
theorem cEv_ok {nn : Nat} : ∀ (n d M pc : Nat) (ls : zLs) (st : List Value) (hp : zHP) (r : Option Value × zHP) (K : Option Value → zHP → Prop), cEv nn n d M pc ls st hp = some r → K r.1 r.2 → cWn nn n d M pc ls st hp K := by
  intro n
  induction n with
  | zero => intro d M pc ls st hp r K h; cases h
  | succ n ih =>
    intro d M pc ls st hp r K h hK
    unfold cEv at h
    unfold cWn
    cases hm : zmt[M]? with
    | none => rw [hm] at h; cases h
    | some mi =>
      rw [hm] at h
      dsimp only at h ⊢
      cases hx : zexit M pc ls st with
      | some v => rw [hx] at h; cases h; exact hK
      | none =>
        rw [hx] at h
        dsimp only at h ⊢
        cases hdz : dzF M pc with
        | none => rw [hdz] at h; cases h
        | some il =>
          obtain ⟨i, len⟩ := il
          have hd := dzF_ok hm hdz
          rw [hdz] at h
          rw [hd]
          dsimp only at h ⊢
          by_cases hl : zlen i len = true
          · rw [if_pos hl] at h ⊢
            rw [cactF_eq] at h
            cases ha : cact nn mi.2.2.2.2 pc i ls st hp with
            | some r1 => rw [ha] at h; dsimp only at h; rw [frcS_eq] at h; exact ih _ _ _ _ _ _ _ _ h hK
            | none =>
              rw [ha] at h
              dsimp only at h ⊢
              cases hr : zrt mi.2.2.2.1 i st with
              | some v => rw [hr] at h; cases h; exact hK
              | none =>
                rw [hr] at h
                dsimp only at h ⊢
                cases hc : ccx nn mi.2.2.2.2 i st with
                | none => rw [hc] at h; cases h
                | some q =>
                  rw [hc] at h
                  dsimp only at h ⊢
                  cases hb : cbi nn q.1 q.2.1 hp with
                  | some w =>
                    rw [hb] at h
                    dsimp only at h ⊢
                    by_cases h5 : 5 ≤ d
                    · rw [if_pos h5, frcN_eq] at h; exact ⟨h5, ih _ _ _ _ _ _ _ _ h hK⟩
                    · rw [if_neg h5] at h; cases h
                  | none =>
                    rw [hb] at h
                    dsimp only at h ⊢
                    cases d with
                    | zero => cases hz : zmt[q.1]? <;> rw [hz] at h <;> cases h
                    | succ d =>
                      cases hz : zmt[q.1]? with
                      | none => rw [hz] at h; cases h
                      | some my =>
                        rw [hz] at h
                        dsimp only at h ⊢
                        by_cases h9 : q.1 < 241 ∧ (zent my.2.2.1 q.2.1).length = my.2.2.1
                        · rw [if_pos h9] at h
                          cases he : cEv nn n d q.1 0 (zent my.2.2.1 q.2.1) [] hp with
                          | none => rw [he] at h; cases h
                          | some w =>
                            rw [he] at h
                            dsimp only at h
                            rw [frcN_eq] at h
                            exact ⟨h9.1, h9.2, ih _ _ _ _ _ _ _ _ he (ih _ _ _ _ _ _ _ _ h hK)⟩
                        · rw [if_neg h9] at h; cases h
          · rw [if_neg hl] at h; cases h
