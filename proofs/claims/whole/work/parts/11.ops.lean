/-! an equation an instruction -/
theorem zxn {M pc : Nat} {ls : zLs} {st : List Value} (h : M < 241) : zexit M pc ls st = none := by
  unfold zexit
  rw [if_neg (by omega)]
theorem zxp {M pc : Nat} {ls : zLs} {st : List Value} (h1 : pc ≠ 1473) (h2 : pc ≠ 348) : zexit M pc ls st = none := by
  unfold zexit
  split
  · split
    · simp only [h1, h2, if_false]
    · rfl
  · rfl
theorem zin_of {i : Int32} {n : Nat} (h : vp_in i n) : zin i n = true := decide_eq_true h
section ZQ
variable {d M pc : Nat} {ls ls' : zLs} {st : List Value} {hp : zHP} {K : Option Value → zHP → Prop} {mi : zMI}
theorem Q_iconst {k : Int} {v : Int32} (hm : zmt[M]? = some mi) (hx : M < 241 ∨ (pc ≠ 1473 ∧ pc ≠ 348)) (hd : decode mi.2.1 pc = .ok (.iconst k, 1)) (hv : Int32.ofInt k = v) : zWP d M pc ls (st) hp K = zWP d M (pc + 1) ls (.int v :: st) hp K := by
  exact zE_act (r := ((pc + 1), ls, (.int v :: st), hp)) hm (hx.elim zxn (fun q => zxp q.1 q.2)) hd rfl (by rw [← hv]; rfl)
theorem Q_bipush {k : Int} {v : Int32} (hm : zmt[M]? = some mi) (hx : M < 241 ∨ (pc ≠ 1473 ∧ pc ≠ 348)) (hd : decode mi.2.1 pc = .ok (.bipush k, 2)) (hv : (Int8.ofInt k).toInt32 = v) : zWP d M pc ls (st) hp K = zWP d M (pc + 2) ls (.int v :: st) hp K := by
  exact zE_act (r := ((pc + 2), ls, (.int v :: st), hp)) hm (hx.elim zxn (fun q => zxp q.1 q.2)) hd rfl (by rw [← hv]; rfl)
theorem Q_sipush {k : Int} {v : Int32} (hm : zmt[M]? = some mi) (hx : M < 241 ∨ (pc ≠ 1473 ∧ pc ≠ 348)) (hd : decode mi.2.1 pc = .ok (.sipush k, 3)) (hv : (Int16.ofInt k).toInt32 = v) : zWP d M pc ls (st) hp K = zWP d M (pc + 3) ls (.int v :: st) hp K := by
  exact zE_act (r := ((pc + 3), ls, (.int v :: st), hp)) hm (hx.elim zxn (fun q => zxp q.1 q.2)) hd rfl (by rw [← hv]; rfl)
theorem Q_lconst {k : Fin 2} {v : Int64} (hm : zmt[M]? = some mi) (hx : M < 241 ∨ (pc ≠ 1473 ∧ pc ≠ 348)) (hd : decode mi.2.1 pc = .ok (.lconst k, 1)) (hv : Int64.ofNat (k : Nat) = v) : zWP d M pc ls (st) hp K = zWP d M (pc + 1) ls (.long v :: st) hp K := by
  exact zE_act (r := ((pc + 1), ls, (.long v :: st), hp)) hm (hx.elim zxn (fun q => zxp q.1 q.2)) hd rfl (by rw [← hv]; rfl)
theorem Q_ldc {k : Nat} {v : Int32} (hm : zmt[M]? = some mi) (hx : M < 241 ∨ (pc ≠ 1473 ∧ pc ≠ 348)) (hd : decode mi.2.1 pc = .ok (.ldc k, 2)) (hv : zci mi.2.2.2.2 k = some v) : zWP d M pc ls (st) hp K = zWP d M (pc + 2) ls (.int v :: st) hp K := by
  exact zE_act (r := ((pc + 2), ls, (.int v :: st), hp)) hm (hx.elim zxn (fun q => zxp q.1 q.2)) hd rfl (by simp only [zact, hv])
theorem Q_ldc_w {k : Nat} {v : Int32} (hm : zmt[M]? = some mi) (hx : M < 241 ∨ (pc ≠ 1473 ∧ pc ≠ 348)) (hd : decode mi.2.1 pc = .ok (.ldc_w k, 3)) (hv : zci mi.2.2.2.2 k = some v) : zWP d M pc ls (st) hp K = zWP d M (pc + 3) ls (.int v :: st) hp K := by
  exact zE_act (r := ((pc + 3), ls, (.int v :: st), hp)) hm (hx.elim zxn (fun q => zxp q.1 q.2)) hd rfl (by simp only [zact, hv])
theorem Q_ldc2_w {k : Nat} {v : Int64} (hm : zmt[M]? = some mi) (hx : M < 241 ∨ (pc ≠ 1473 ∧ pc ≠ 348)) (hd : decode mi.2.1 pc = .ok (.ldc2_w k, 3)) (hv : zcl mi.2.2.2.2 k = some v) : zWP d M pc ls (st) hp K = zWP d M (pc + 3) ls (.long v :: st) hp K := by
  exact zE_act (r := ((pc + 3), ls, (.long v :: st), hp)) hm (hx.elim zxn (fun q => zxp q.1 q.2)) hd rfl (by simp only [zact, hv])
theorem Q_ldcS (hm : zmt[M]? = some mi) (hx : M < 241 ∨ (pc ≠ 1473 ∧ pc ≠ 348)) (hd : decode mi.2.1 pc = .ok (.ldc 194, 2)) (hv : zci 10 194 = none) (hc : mi.2.2.2.2 = 10) : zWP d M pc ls (st) hp K = zWP d M (pc + 2) ls (.ref 910 :: st) hp K := by
  exact zE_act (r := ((pc + 2), ls, (.ref 910 :: st), hp)) hm (hx.elim zxn (fun q => zxp q.1 q.2)) hd rfl (by simp only [zact, hc, hv, and_self, if_true])
theorem Q_iload_n {k : Fin 4} {x : Int32} (hm : zmt[M]? = some mi) (hx : M < 241 ∨ (pc ≠ 1473 ∧ pc ≠ 348)) (hd : decode mi.2.1 pc = .ok (.iload_n k, 1)) (hl : ls[(k : Nat)]? = some (some (.int x))) : zWP d M pc ls (st) hp K = zWP d M (pc + 1) ls (.int x :: st) hp K := by
  exact zE_act (r := ((pc + 1), ls, (.int x :: st), hp)) hm (hx.elim zxn (fun q => zxp q.1 q.2)) hd rfl (by simp only [zact, zld, hl, zsort, if_true])
theorem Q_iload {k : Nat} {x : Int32} (hm : zmt[M]? = some mi) (hx : M < 241 ∨ (pc ≠ 1473 ∧ pc ≠ 348)) (hd : decode mi.2.1 pc = .ok (.iload k, 2)) (hl : ls[k]? = some (some (.int x))) : zWP d M pc ls (st) hp K = zWP d M (pc + 2) ls (.int x :: st) hp K := by
  exact zE_act (r := ((pc + 2), ls, (.int x :: st), hp)) hm (hx.elim zxn (fun q => zxp q.1 q.2)) hd rfl (by simp only [zact, zld, hl, zsort, if_true])
theorem Q_lload_n {k : Fin 4} {x : Int64} (hm : zmt[M]? = some mi) (hx : M < 241 ∨ (pc ≠ 1473 ∧ pc ≠ 348)) (hd : decode mi.2.1 pc = .ok (.lload_n k, 1)) (hl : ls[(k : Nat)]? = some (some (.long x))) : zWP d M pc ls (st) hp K = zWP d M (pc + 1) ls (.long x :: st) hp K := by
  exact zE_act (r := ((pc + 1), ls, (.long x :: st), hp)) hm (hx.elim zxn (fun q => zxp q.1 q.2)) hd rfl (by simp only [zact, zld, hl, zsort, if_true])
theorem Q_lload {k : Nat} {x : Int64} (hm : zmt[M]? = some mi) (hx : M < 241 ∨ (pc ≠ 1473 ∧ pc ≠ 348)) (hd : decode mi.2.1 pc = .ok (.lload k, 2)) (hl : ls[k]? = some (some (.long x))) : zWP d M pc ls (st) hp K = zWP d M (pc + 2) ls (.long x :: st) hp K := by
  exact zE_act (r := ((pc + 2), ls, (.long x :: st), hp)) hm (hx.elim zxn (fun q => zxp q.1 q.2)) hd rfl (by simp only [zact, zld, hl, zsort, if_true])
theorem Q_aload_n {k : Fin 4} {x : Nat} (hm : zmt[M]? = some mi) (hx : M < 241 ∨ (pc ≠ 1473 ∧ pc ≠ 348)) (hd : decode mi.2.1 pc = .ok (.aload_n k, 1)) (hl : ls[(k : Nat)]? = some (some (.ref x))) : zWP d M pc ls (st) hp K = zWP d M (pc + 1) ls (.ref x :: st) hp K := by
  exact zE_act (r := ((pc + 1), ls, (.ref x :: st), hp)) hm (hx.elim zxn (fun q => zxp q.1 q.2)) hd rfl (by simp only [zact, zld, hl, zsort, if_true])
theorem Q_aload {k : Nat} {x : Nat} (hm : zmt[M]? = some mi) (hx : M < 241 ∨ (pc ≠ 1473 ∧ pc ≠ 348)) (hd : decode mi.2.1 pc = .ok (.aload k, 2)) (hl : ls[k]? = some (some (.ref x))) : zWP d M pc ls (st) hp K = zWP d M (pc + 2) ls (.ref x :: st) hp K := by
  exact zE_act (r := ((pc + 2), ls, (.ref x :: st), hp)) hm (hx.elim zxn (fun q => zxp q.1 q.2)) hd rfl (by simp only [zact, zld, hl, zsort, if_true])
theorem Q_istore_n {k : Fin 4} {x : Int32} (hm : zmt[M]? = some mi) (hx : M < 241 ∨ (pc ≠ 1473 ∧ pc ≠ 348)) (hd : decode mi.2.1 pc = .ok (.istore_n k, 1)) (hf : zfree ls (k : Nat) = true) (hi : (k : Nat) < ls.length) (hs : ls.set (k : Nat) (some (.int x)) = ls') : zWP d M pc ls (.int x :: st) hp K = zWP d M (pc + 1) ls' st hp K := by
  exact zE_act (r := ((pc + 1), ls', st, hp)) hm (hx.elim zxn (fun q => zxp q.1 q.2)) hd rfl (by simp only [zact, zsto, hf, hi, zsort, hs, and_self, if_true])
theorem Q_istore {k : Nat} {x : Int32} (hm : zmt[M]? = some mi) (hx : M < 241 ∨ (pc ≠ 1473 ∧ pc ≠ 348)) (hd : decode mi.2.1 pc = .ok (.istore k, 2)) (hf : zfree ls k = true) (hi : k < ls.length) (hs : ls.set k (some (.int x)) = ls') : zWP d M pc ls (.int x :: st) hp K = zWP d M (pc + 2) ls' st hp K := by
  exact zE_act (r := ((pc + 2), ls', st, hp)) hm (hx.elim zxn (fun q => zxp q.1 q.2)) hd rfl (by simp only [zact, zsto, hf, hi, zsort, hs, and_self, if_true])
theorem Q_astore_n {k : Fin 4} {x : Nat} (hm : zmt[M]? = some mi) (hx : M < 241 ∨ (pc ≠ 1473 ∧ pc ≠ 348)) (hd : decode mi.2.1 pc = .ok (.astore_n k, 1)) (hf : zfree ls (k : Nat) = true) (hi : (k : Nat) < ls.length) (hs : ls.set (k : Nat) (some (.ref x)) = ls') : zWP d M pc ls (.ref x :: st) hp K = zWP d M (pc + 1) ls' st hp K := by
  exact zE_act (r := ((pc + 1), ls', st, hp)) hm (hx.elim zxn (fun q => zxp q.1 q.2)) hd rfl (by simp only [zact, zsto, hf, hi, zsort, hs, and_self, if_true])
theorem Q_astore {k : Nat} {x : Nat} (hm : zmt[M]? = some mi) (hx : M < 241 ∨ (pc ≠ 1473 ∧ pc ≠ 348)) (hd : decode mi.2.1 pc = .ok (.astore k, 2)) (hf : zfree ls k = true) (hi : k < ls.length) (hs : ls.set k (some (.ref x)) = ls') : zWP d M pc ls (.ref x :: st) hp K = zWP d M (pc + 2) ls' st hp K := by
  exact zE_act (r := ((pc + 2), ls', st, hp)) hm (hx.elim zxn (fun q => zxp q.1 q.2)) hd rfl (by simp only [zact, zsto, hf, hi, zsort, hs, and_self, if_true])
theorem Q_lstore_n {k : Fin 4} {x : Int64} (hm : zmt[M]? = some mi) (hx : M < 241 ∨ (pc ≠ 1473 ∧ pc ≠ 348)) (hd : decode mi.2.1 pc = .ok (.lstore_n k, 1)) (hf : zfree ls (k : Nat) = true) (hi : (k : Nat) + 1 < ls.length) (hs : (ls.set (k : Nat) (some (.long x))).set ((k : Nat) + 1) none = ls') : zWP d M pc ls (.long x :: st) hp K = zWP d M (pc + 1) ls' st hp K := by
  exact zE_act (r := ((pc + 1), ls', st, hp)) hm (hx.elim zxn (fun q => zxp q.1 q.2)) hd rfl (by simp only [zact, zstl, hf, hi, hs, and_self, if_true])
theorem Q_lstore {k : Nat} {x : Int64} (hm : zmt[M]? = some mi) (hx : M < 241 ∨ (pc ≠ 1473 ∧ pc ≠ 348)) (hd : decode mi.2.1 pc = .ok (.lstore k, 2)) (hf : zfree ls k = true) (hi : k + 1 < ls.length) (hs : (ls.set k (some (.long x))).set (k + 1) none = ls') : zWP d M pc ls (.long x :: st) hp K = zWP d M (pc + 2) ls' st hp K := by
  exact zE_act (r := ((pc + 2), ls', st, hp)) hm (hx.elim zxn (fun q => zxp q.1 q.2)) hd rfl (by simp only [zact, zstl, hf, hi, hs, and_self, if_true])
theorem Q_iinc {k : Nat} {n : Int} {x v : Int32} (hm : zmt[M]? = some mi) (hx : M < 241 ∨ (pc ≠ 1473 ∧ pc ≠ 348)) (hd : decode mi.2.1 pc = .ok (.iinc k n, 3)) (hl : ls[k]? = some (some (.int x))) (hf : zfree ls k = true) (hv : Int32.ofInt n = v) (hs : ls.set k (some (.int (x + v))) = ls') : zWP d M pc ls (st) hp K = zWP d M (pc + 3) ls' st hp K := by
  exact zE_act (r := ((pc + 3), ls', st, hp)) hm (hx.elim zxn (fun q => zxp q.1 q.2)) hd rfl (by simp only [zact, hl, hf, hv, hs, if_true])
theorem Q_iadd {x y : Int32} (hm : zmt[M]? = some mi) (hx : M < 241 ∨ (pc ≠ 1473 ∧ pc ≠ 348)) (hd : decode mi.2.1 pc = .ok (.iadd, 1))  : zWP d M pc ls (.int y :: .int x :: st) hp K = zWP d M (pc + 1) ls (.int (x + y) :: st) hp K := by
  exact zE_act (r := ((pc + 1), ls, (.int (x + y) :: st), hp)) hm (hx.elim zxn (fun q => zxp q.1 q.2)) hd rfl (rfl)
theorem Q_isub {x y : Int32} (hm : zmt[M]? = some mi) (hx : M < 241 ∨ (pc ≠ 1473 ∧ pc ≠ 348)) (hd : decode mi.2.1 pc = .ok (.isub, 1))  : zWP d M pc ls (.int y :: .int x :: st) hp K = zWP d M (pc + 1) ls (.int (x - y) :: st) hp K := by
  exact zE_act (r := ((pc + 1), ls, (.int (x - y) :: st), hp)) hm (hx.elim zxn (fun q => zxp q.1 q.2)) hd rfl (rfl)
theorem Q_imul {x y : Int32} (hm : zmt[M]? = some mi) (hx : M < 241 ∨ (pc ≠ 1473 ∧ pc ≠ 348)) (hd : decode mi.2.1 pc = .ok (.imul, 1))  : zWP d M pc ls (.int y :: .int x :: st) hp K = zWP d M (pc + 1) ls (.int (x * y) :: st) hp K := by
  exact zE_act (r := ((pc + 1), ls, (.int (x * y) :: st), hp)) hm (hx.elim zxn (fun q => zxp q.1 q.2)) hd rfl (rfl)
theorem Q_iand {x y : Int32} (hm : zmt[M]? = some mi) (hx : M < 241 ∨ (pc ≠ 1473 ∧ pc ≠ 348)) (hd : decode mi.2.1 pc = .ok (.iand, 1))  : zWP d M pc ls (.int y :: .int x :: st) hp K = zWP d M (pc + 1) ls (.int (x &&& y) :: st) hp K := by
  exact zE_act (r := ((pc + 1), ls, (.int (x &&& y) :: st), hp)) hm (hx.elim zxn (fun q => zxp q.1 q.2)) hd rfl (rfl)
theorem Q_ior {x y : Int32} (hm : zmt[M]? = some mi) (hx : M < 241 ∨ (pc ≠ 1473 ∧ pc ≠ 348)) (hd : decode mi.2.1 pc = .ok (.ior, 1))  : zWP d M pc ls (.int y :: .int x :: st) hp K = zWP d M (pc + 1) ls (.int (x ||| y) :: st) hp K := by
  exact zE_act (r := ((pc + 1), ls, (.int (x ||| y) :: st), hp)) hm (hx.elim zxn (fun q => zxp q.1 q.2)) hd rfl (rfl)
theorem Q_ishl {x y : Int32} (hm : zmt[M]? = some mi) (hx : M < 241 ∨ (pc ≠ 1473 ∧ pc ≠ 348)) (hd : decode mi.2.1 pc = .ok (.ishl, 1))  : zWP d M pc ls (.int y :: .int x :: st) hp K = zWP d M (pc + 1) ls (.int (x <<< (y &&& 31)) :: st) hp K := by
  exact zE_act (r := ((pc + 1), ls, (.int (x <<< (y &&& 31)) :: st), hp)) hm (hx.elim zxn (fun q => zxp q.1 q.2)) hd rfl (rfl)
theorem Q_ishr {x y : Int32} (hm : zmt[M]? = some mi) (hx : M < 241 ∨ (pc ≠ 1473 ∧ pc ≠ 348)) (hd : decode mi.2.1 pc = .ok (.ishr, 1))  : zWP d M pc ls (.int y :: .int x :: st) hp K = zWP d M (pc + 1) ls (.int (x >>> (y &&& 31)) :: st) hp K := by
  exact zE_act (r := ((pc + 1), ls, (.int (x >>> (y &&& 31)) :: st), hp)) hm (hx.elim zxn (fun q => zxp q.1 q.2)) hd rfl (rfl)
theorem Q_iushr {x y : Int32} (hm : zmt[M]? = some mi) (hx : M < 241 ∨ (pc ≠ 1473 ∧ pc ≠ 348)) (hd : decode mi.2.1 pc = .ok (.iushr, 1))  : zWP d M pc ls (.int y :: .int x :: st) hp K = zWP d M (pc + 1) ls (.int ((x.toUInt32 >>> (y.toUInt32 &&& Int32.toUInt32 31)).toInt32) :: st) hp K := by
  exact zE_act (r := ((pc + 1), ls, (.int ((x.toUInt32 >>> (y.toUInt32 &&& Int32.toUInt32 31)).toInt32) :: st), hp)) hm (hx.elim zxn (fun q => zxp q.1 q.2)) hd rfl (rfl)
theorem Q_ladd {x y : Int64} (hm : zmt[M]? = some mi) (hx : M < 241 ∨ (pc ≠ 1473 ∧ pc ≠ 348)) (hd : decode mi.2.1 pc = .ok (.ladd, 1))  : zWP d M pc ls (.long y :: .long x :: st) hp K = zWP d M (pc + 1) ls (.long (x + y) :: st) hp K := by
  exact zE_act (r := ((pc + 1), ls, (.long (x + y) :: st), hp)) hm (hx.elim zxn (fun q => zxp q.1 q.2)) hd rfl (rfl)
theorem Q_lsub {x y : Int64} (hm : zmt[M]? = some mi) (hx : M < 241 ∨ (pc ≠ 1473 ∧ pc ≠ 348)) (hd : decode mi.2.1 pc = .ok (.lsub, 1))  : zWP d M pc ls (.long y :: .long x :: st) hp K = zWP d M (pc + 1) ls (.long (x - y) :: st) hp K := by
  exact zE_act (r := ((pc + 1), ls, (.long (x - y) :: st), hp)) hm (hx.elim zxn (fun q => zxp q.1 q.2)) hd rfl (rfl)
theorem Q_lmul {x y : Int64} (hm : zmt[M]? = some mi) (hx : M < 241 ∨ (pc ≠ 1473 ∧ pc ≠ 348)) (hd : decode mi.2.1 pc = .ok (.lmul, 1))  : zWP d M pc ls (.long y :: .long x :: st) hp K = zWP d M (pc + 1) ls (.long (x * y) :: st) hp K := by
  exact zE_act (r := ((pc + 1), ls, (.long (x * y) :: st), hp)) hm (hx.elim zxn (fun q => zxp q.1 q.2)) hd rfl (rfl)
theorem Q_land {x y : Int64} (hm : zmt[M]? = some mi) (hx : M < 241 ∨ (pc ≠ 1473 ∧ pc ≠ 348)) (hd : decode mi.2.1 pc = .ok (.land, 1))  : zWP d M pc ls (.long y :: .long x :: st) hp K = zWP d M (pc + 1) ls (.long (x &&& y) :: st) hp K := by
  exact zE_act (r := ((pc + 1), ls, (.long (x &&& y) :: st), hp)) hm (hx.elim zxn (fun q => zxp q.1 q.2)) hd rfl (rfl)
theorem Q_idiv {x y : Int32} (hm : zmt[M]? = some mi) (hx : M < 241 ∨ (pc ≠ 1473 ∧ pc ≠ 348)) (hd : decode mi.2.1 pc = .ok (.idiv, 1)) (hy : ¬ y = 0) : zWP d M pc ls (.int y :: .int x :: st) hp K = zWP d M (pc + 1) ls (.int (x / y) :: st) hp K := by
  exact zE_act (r := ((pc + 1), ls, (.int (x / y) :: st), hp)) hm (hx.elim zxn (fun q => zxp q.1 q.2)) hd rfl (by simp only [zact, hy, if_false])
theorem Q_irem {x y : Int32} (hm : zmt[M]? = some mi) (hx : M < 241 ∨ (pc ≠ 1473 ∧ pc ≠ 348)) (hd : decode mi.2.1 pc = .ok (.irem, 1)) (hy : ¬ y = 0) : zWP d M pc ls (.int y :: .int x :: st) hp K = zWP d M (pc + 1) ls (.int (x - x / y * y) :: st) hp K := by
  exact zE_act (r := ((pc + 1), ls, (.int (x - x / y * y) :: st), hp)) hm (hx.elim zxn (fun q => zxp q.1 q.2)) hd rfl (by simp only [zact, hy, if_false])
theorem Q_ldiv {x y : Int64} (hm : zmt[M]? = some mi) (hx : M < 241 ∨ (pc ≠ 1473 ∧ pc ≠ 348)) (hd : decode mi.2.1 pc = .ok (.ldiv, 1)) (hy : ¬ y = 0) : zWP d M pc ls (.long y :: .long x :: st) hp K = zWP d M (pc + 1) ls (.long (x / y) :: st) hp K := by
  exact zE_act (r := ((pc + 1), ls, (.long (x / y) :: st), hp)) hm (hx.elim zxn (fun q => zxp q.1 q.2)) hd rfl (by simp only [zact, hy, if_false])
theorem Q_lrem {x y : Int64} (hm : zmt[M]? = some mi) (hx : M < 241 ∨ (pc ≠ 1473 ∧ pc ≠ 348)) (hd : decode mi.2.1 pc = .ok (.lrem, 1)) (hy : ¬ y = 0) : zWP d M pc ls (.long y :: .long x :: st) hp K = zWP d M (pc + 1) ls (.long (x - x / y * y) :: st) hp K := by
  exact zE_act (r := ((pc + 1), ls, (.long (x - x / y * y) :: st), hp)) hm (hx.elim zxn (fun q => zxp q.1 q.2)) hd rfl (by simp only [zact, hy, if_false])
theorem Q_ineg {x : Int32} (hm : zmt[M]? = some mi) (hx : M < 241 ∨ (pc ≠ 1473 ∧ pc ≠ 348)) (hd : decode mi.2.1 pc = .ok (.ineg, 1))  : zWP d M pc ls (.int x :: st) hp K = zWP d M (pc + 1) ls (.int (-x) :: st) hp K := by
  exact zE_act (r := ((pc + 1), ls, (.int (-x) :: st), hp)) hm (hx.elim zxn (fun q => zxp q.1 q.2)) hd rfl (rfl)
theorem Q_i2l {x : Int32} (hm : zmt[M]? = some mi) (hx : M < 241 ∨ (pc ≠ 1473 ∧ pc ≠ 348)) (hd : decode mi.2.1 pc = .ok (.i2l, 1))  : zWP d M pc ls (.int x :: st) hp K = zWP d M (pc + 1) ls (.long x.toInt64 :: st) hp K := by
  exact zE_act (r := ((pc + 1), ls, (.long x.toInt64 :: st), hp)) hm (hx.elim zxn (fun q => zxp q.1 q.2)) hd rfl (rfl)
theorem Q_i2b {x : Int32} (hm : zmt[M]? = some mi) (hx : M < 241 ∨ (pc ≠ 1473 ∧ pc ≠ 348)) (hd : decode mi.2.1 pc = .ok (.i2b, 1))  : zWP d M pc ls (.int x :: st) hp K = zWP d M (pc + 1) ls (.int x.toInt8.toInt32 :: st) hp K := by
  exact zE_act (r := ((pc + 1), ls, (.int x.toInt8.toInt32 :: st), hp)) hm (hx.elim zxn (fun q => zxp q.1 q.2)) hd rfl (rfl)
theorem Q_l2i {x : Int64} (hm : zmt[M]? = some mi) (hx : M < 241 ∨ (pc ≠ 1473 ∧ pc ≠ 348)) (hd : decode mi.2.1 pc = .ok (.l2i, 1))  : zWP d M pc ls (.long x :: st) hp K = zWP d M (pc + 1) ls (.int x.toInt32 :: st) hp K := by
  exact zE_act (r := ((pc + 1), ls, (.int x.toInt32 :: st), hp)) hm (hx.elim zxn (fun q => zxp q.1 q.2)) hd rfl (rfl)
theorem Q_lneg {x : Int64} (hm : zmt[M]? = some mi) (hx : M < 241 ∨ (pc ≠ 1473 ∧ pc ≠ 348)) (hd : decode mi.2.1 pc = .ok (.lneg, 1))  : zWP d M pc ls (.long x :: st) hp K = zWP d M (pc + 1) ls (.long (-x) :: st) hp K := by
  exact zE_act (r := ((pc + 1), ls, (.long (-x) :: st), hp)) hm (hx.elim zxn (fun q => zxp q.1 q.2)) hd rfl (rfl)
theorem Q_lcmp {x y : Int64} (hm : zmt[M]? = some mi) (hx : M < 241 ∨ (pc ≠ 1473 ∧ pc ≠ 348)) (hd : decode mi.2.1 pc = .ok (.lcmp, 1))  : zWP d M pc ls (.long y :: .long x :: st) hp K = zWP d M (pc + 1) ls (.int (lg_cmp x y) :: st) hp K := by
  exact zE_act (r := ((pc + 1), ls, (.int (lg_cmp x y) :: st), hp)) hm (hx.elim zxn (fun q => zxp q.1 q.2)) hd rfl (rfl)
theorem Q_dup {v : Value} (hm : zmt[M]? = some mi) (hx : M < 241 ∨ (pc ≠ 1473 ∧ pc ≠ 348)) (hd : decode mi.2.1 pc = .ok (.dup, 1)) (hc : v.category = 1) : zWP d M pc ls (v :: st) hp K = zWP d M (pc + 1) ls (v :: v :: st) hp K := by
  exact zE_act (r := ((pc + 1), ls, (v :: v :: st), hp)) hm (hx.elim zxn (fun q => zxp q.1 q.2)) hd rfl (by simp only [zact, hc, if_true])
theorem Q_dup2 {v w : Value} (hm : zmt[M]? = some mi) (hx : M < 241 ∨ (pc ≠ 1473 ∧ pc ≠ 348)) (hd : decode mi.2.1 pc = .ok (.dup2, 1)) (hc : v.category = 1) (hc2 : w.category = 1) : zWP d M pc ls (v :: w :: st) hp K = zWP d M (pc + 1) ls (v :: w :: v :: w :: st) hp K := by
  exact zE_act (r := ((pc + 1), ls, (v :: w :: v :: w :: st), hp)) hm (hx.elim zxn (fun q => zxp q.1 q.2)) hd rfl (by simp only [zact, hc, hc2, and_self, if_true])
theorem Q_pop {v : Value} (hm : zmt[M]? = some mi) (hx : M < 241 ∨ (pc ≠ 1473 ∧ pc ≠ 348)) (hd : decode mi.2.1 pc = .ok (.pop, 1)) (hc : v.category = 1) : zWP d M pc ls (v :: st) hp K = zWP d M (pc + 1) ls st hp K := by
  exact zE_act (r := ((pc + 1), ls, st, hp)) hm (hx.elim zxn (fun q => zxp q.1 q.2)) hd rfl (by simp only [zact, hc, if_true])
/-- a step that is there only if g holds -/
theorem zE_guard {g : Prop} {i : Instr} {len : Nat} {r : Nat × zLs × List Value × zHP} (hm : zmt[M]? = some mi) (hx : M < 241 ∨ (pc ≠ 1473 ∧ pc ≠ 348)) (hd : decode mi.2.1 pc = .ok (i, len)) (hl : zlen i len = true) (ha : g → zact mi.2.2.2.2 pc i ls st hp = some r) (hn : ¬ g → zact mi.2.2.2.2 pc i ls st hp = none) (hr : zrt mi.2.2.2.1 i st = none) (hq : zcx mi.2.2.2.2 i st = none) : zWP d M pc ls st hp K = (g ∧ zWP d M r.1 r.2.1 r.2.2.1 r.2.2.2 K) := by
  by_cases h : g
  · rw [zE_act hm (hx.elim zxn (fun q => zxp q.1 q.2)) hd hl (ha h)]
    simp only [h, true_and]
  · apply propext
    constructor
    · rintro ⟨n, h2⟩
      cases n with
      | zero => exact h2.elim
      | succ n =>
        rw [zWn] at h2
        rw [hm] at h2; dsimp only at h2; rw [(hx.elim zxn (fun q => zxp q.1 q.2))] at h2; dsimp only at h2; rw [hd] at h2; dsimp only at h2; rw [if_pos hl, hn h] at h2; dsimp only at h2; rw [hr] at h2; dsimp only at h2; rw [hq] at h2
        exact h2.elim
    · intro h2
      exact absurd h2.1 h
theorem Q_iaload {a n : Nat} {i : Int32} (hm : zmt[M]? = some mi) (hx : M < 241 ∨ (pc ≠ 1473 ∧ pc ≠ 348)) (hd : decode mi.2.1 pc = .ok (.iaload, 1)) (hk : zkd a = 100) (hn : zln a = n) : zWP d M pc ls (.int i :: .ref a :: st) hp K = (vp_in i n ∧ zWP d M (pc + 1) ls (.int (hp.1 a i.toNatClampNeg) :: st) hp K) := by
  refine zE_guard (g := vp_in i n) (r := (pc + 1, ls, (.int (hp.1 a i.toNatClampNeg) :: st), hp)) hm hx hd rfl (fun h => ?_) (fun h => ?_) rfl rfl
  · simp only [zact, hk, hn, zin_of h, and_self, if_true]
  · have h9 : ¬ zin i n = true := fun z => h (zin_spec z)
    have h8 : ¬ a = 900 := fun z => by subst z; exact absurd hk (by decide +kernel)
    simp only [zact, hk, hn, h9, h8, Bool.false_eq_true, and_false, false_and, if_false]
theorem Q_ialoadV {a : Nat} {i : Int32} (hm : zmt[M]? = some mi) (hx : M < 241 ∨ (pc ≠ 1473 ∧ pc ≠ 348)) (hd : decode mi.2.1 pc = .ok (.iaload, 1)) (hc : ¬ mi.2.2.2.2 = 11) : zWP d M pc ls (.int i :: .ref a :: st) hp K = ((zkd a = 100 ∧ vp_in i (zln a)) ∧ zWP d M (pc + 1) ls (.int (hp.1 a i.toNatClampNeg) :: st) hp K) := by
  refine zE_guard (g := (zkd a = 100 ∧ vp_in i (zln a))) (r := (pc + 1, ls, (.int (hp.1 a i.toNatClampNeg) :: st), hp)) hm hx hd rfl (fun h => ?_) (fun h => ?_) rfl rfl
  · simp only [zact, h.1, zin_of h.2, and_self, if_true]
  · have h9 : ¬ (zkd a = 100 ∧ zin i (zln a) = true) := fun z => h ⟨z.1, zin_spec z.2⟩
    simp only [zact, if_neg h9, hc, and_false, false_and, if_false]
theorem Q_baload {a n t : Nat} {i : Int32} (hm : zmt[M]? = some mi) (hx : M < 241 ∨ (pc ≠ 1473 ∧ pc ≠ 348)) (hd : decode mi.2.1 pc = .ok (.baload, 1)) (hk : zkd a = t) (ht : t = 101 ∨ t = 102) (hn : zln a = n) : zWP d M pc ls (.int i :: .ref a :: st) hp K = (vp_in i n ∧ zWP d M (pc + 1) ls (.int (hp.1 a i.toNatClampNeg) :: st) hp K) := by
  refine zE_guard (g := vp_in i n) (r := (pc + 1, ls, (.int (hp.1 a i.toNatClampNeg) :: st), hp)) hm hx hd rfl (fun h => ?_) (fun h => ?_) rfl rfl
  · simp only [zact, hk, ht, hn, zin_of h, and_self, if_true]
  · have h9 : ¬ zin i n = true := fun z => h (zin_spec z)
    simp only [zact, hn, h9, Bool.false_eq_true, and_false, if_false]
theorem Q_laload {a n : Nat} {i : Int32} (hm : zmt[M]? = some mi) (hx : M < 241 ∨ (pc ≠ 1473 ∧ pc ≠ 348)) (hd : decode mi.2.1 pc = .ok (.laload, 1)) (hk : zkd a = 103) (hn : zln a = n) : zWP d M pc ls (.int i :: .ref a :: st) hp K = (vp_in i n ∧ zWP d M (pc + 1) ls (.long (hp.2.1 a i.toNatClampNeg) :: st) hp K) := by
  refine zE_guard (g := vp_in i n) (r := (pc + 1, ls, (.long (hp.2.1 a i.toNatClampNeg) :: st), hp)) hm hx hd rfl (fun h => ?_) (fun h => ?_) rfl rfl
  · simp only [zact, hk, hn, zin_of h, and_self, if_true]
  · have h9 : ¬ zin i n = true := fun z => h (zin_spec z)
    simp only [zact, hn, h9, Bool.false_eq_true, and_false, if_false]
theorem Q_aaload {a n : Nat} {f : Nat → Nat} {i : Int32} (hm : zmt[M]? = some mi) (hx : M < 241 ∨ (pc ≠ 1473 ∧ pc ≠ 348)) (hd : decode mi.2.1 pc = .ok (.aaload, 1)) (hk : zkd a = 104) (hn : zln a = n) (hf : ∀ j, j < n → hp.2.2 a j = some (f j)) : zWP d M pc ls (.int i :: .ref a :: st) hp K = (vp_in i n ∧ zWP d M (pc + 1) ls (.ref (f i.toNatClampNeg) :: st) hp K) := by
  refine zE_guard (g := vp_in i n) (r := (pc + 1, ls, (.ref (f i.toNatClampNeg) :: st), hp)) hm hx hd rfl (fun h => ?_) (fun h => ?_) rfl rfl
  · simp only [zact, hk, hn, zin_of h, hf _ (Nat.not_le.mp fun q => h (Or.inr q)), and_self, if_true]
  · have h9 : ¬ zin i n = true := fun z => h (zin_spec z)
    simp only [zact, hn, h9, Bool.false_eq_true, and_false, if_false]
theorem Q_iastore {a n : Nat} {i x : Int32} (hm : zmt[M]? = some mi) (hx : M < 241 ∨ (pc ≠ 1473 ∧ pc ≠ 348)) (hd : decode mi.2.1 pc = .ok (.iastore, 1)) (hk : zkd a = 100) (hn : zln a = n) : zWP d M pc ls (.int x :: .int i :: .ref a :: st) hp K = (vp_in i n ∧ zWP d M (pc + 1) ls st (zu hp.1 a i.toNatClampNeg x, hp.2.1, hp.2.2) K) := by
  refine zE_guard (g := vp_in i n) (r := (pc + 1, ls, st, (zu hp.1 a i.toNatClampNeg x, hp.2.1, hp.2.2))) hm hx hd rfl (fun h => ?_) (fun h => ?_) rfl rfl
  · simp only [zact, hk, hn, zin_of h, and_self, if_true]
  · have h9 : ¬ zin i n = true := fun z => h (zin_spec z)
    simp only [zact, hn, h9, Bool.false_eq_true, and_false, if_false]
theorem Q_iastoreV {a : Nat} {i x : Int32} (hm : zmt[M]? = some mi) (hx : M < 241 ∨ (pc ≠ 1473 ∧ pc ≠ 348)) (hd : decode mi.2.1 pc = .ok (.iastore, 1))  : zWP d M pc ls (.int x :: .int i :: .ref a :: st) hp K = ((zkd a = 100 ∧ vp_in i (zln a)) ∧ zWP d M (pc + 1) ls st (zu hp.1 a i.toNatClampNeg x, hp.2.1, hp.2.2) K) := by
  refine zE_guard (g := (zkd a = 100 ∧ vp_in i (zln a))) (r := (pc + 1, ls, st, (zu hp.1 a i.toNatClampNeg x, hp.2.1, hp.2.2))) hm hx hd rfl (fun h => ?_) (fun h => ?_) rfl rfl
  · simp only [zact, h.1, zin_of h.2, and_self, if_true]
  · have h9 : ¬ (zkd a = 100 ∧ zin i (zln a) = true) := fun z => h ⟨z.1, zin_spec z.2⟩
    simp only [zact, if_neg h9]
theorem Q_bastore {a n : Nat} {i x : Int32} (hm : zmt[M]? = some mi) (hx : M < 241 ∨ (pc ≠ 1473 ∧ pc ≠ 348)) (hd : decode mi.2.1 pc = .ok (.bastore, 1)) (hk : zkd a = 101) (hn : zln a = n) : zWP d M pc ls (.int x :: .int i :: .ref a :: st) hp K = (vp_in i n ∧ zWP d M (pc + 1) ls st (zu hp.1 a i.toNatClampNeg (vp_nar .byte x), hp.2.1, hp.2.2) K) := by
  refine zE_guard (g := vp_in i n) (r := (pc + 1, ls, st, (zu hp.1 a i.toNatClampNeg (vp_nar .byte x), hp.2.1, hp.2.2))) hm hx hd rfl (fun h => ?_) (fun h => ?_) rfl rfl
  · simp only [zact, hk, hn, zin_of h, true_or, and_self, if_true]
  · have h9 : ¬ zin i n = true := fun z => h (zin_spec z)
    simp only [zact, hn, h9, Bool.false_eq_true, and_false, if_false]
theorem Q_zastore {a n : Nat} {i x : Int32} (hm : zmt[M]? = some mi) (hx : M < 241 ∨ (pc ≠ 1473 ∧ pc ≠ 348)) (hd : decode mi.2.1 pc = .ok (.bastore, 1)) (hk : zkd a = 102) (hn : zln a = n) : zWP d M pc ls (.int x :: .int i :: .ref a :: st) hp K = (vp_in i n ∧ zWP d M (pc + 1) ls st (zu hp.1 a i.toNatClampNeg (vp_nar .boolean x), hp.2.1, hp.2.2) K) := by
  refine zE_guard (g := vp_in i n) (r := (pc + 1, ls, st, (zu hp.1 a i.toNatClampNeg (vp_nar .boolean x), hp.2.1, hp.2.2))) hm hx hd rfl (fun h => ?_) (fun h => ?_) rfl rfl
  · simp only [zact, hk, hn, zin_of h, or_true, and_self, if_true]; rfl
  · have h9 : ¬ zin i n = true := fun z => h (zin_spec z)
    simp only [zact, hn, h9, Bool.false_eq_true, and_false, if_false]
theorem Q_lastore {a n : Nat} {i : Int32} {x : Int64} (hm : zmt[M]? = some mi) (hx : M < 241 ∨ (pc ≠ 1473 ∧ pc ≠ 348)) (hd : decode mi.2.1 pc = .ok (.lastore, 1)) (hk : zkd a = 103) (hn : zln a = n) : zWP d M pc ls (.long x :: .int i :: .ref a :: st) hp K = (vp_in i n ∧ zWP d M (pc + 1) ls st (hp.1, zu hp.2.1 a i.toNatClampNeg x, hp.2.2) K) := by
  refine zE_guard (g := vp_in i n) (r := (pc + 1, ls, st, (hp.1, zu hp.2.1 a i.toNatClampNeg x, hp.2.2))) hm hx hd rfl (fun h => ?_) (fun h => ?_) rfl rfl
  · simp only [zact, hk, hn, zin_of h, and_self, if_true]
  · have h9 : ¬ zin i n = true := fun z => h (zin_spec z)
    simp only [zact, hn, h9, Bool.false_eq_true, and_false, if_false]
theorem Q_alen {a n t : Nat} {v : Int32} (hm : zmt[M]? = some mi) (hx : M < 241 ∨ (pc ≠ 1473 ∧ pc ≠ 348)) (hd : decode mi.2.1 pc = .ok (.arraylength, 1)) (hk : zkd a = t) (ht : 100 ≤ t ∧ t < 105) (hn : zln a = n) (hv : Int32.ofNat n = v) : zWP d M pc ls (.ref a :: st) hp K = zWP d M (pc + 1) ls (.int v :: st) hp K := by
  exact zE_act (r := ((pc + 1), ls, (.int v :: st), hp)) hm (hx.elim zxn (fun q => zxp q.1 q.2)) hd rfl (by simp only [zact, hk, ht, hn, hv, and_self, if_true])
theorem Q_slen (hm : zmt[M]? = some mi) (hx : M < 241 ∨ (pc ≠ 1473 ∧ pc ≠ 348)) (hd : decode mi.2.1 pc = .ok (.arraylength, 1)) (hc : mi.2.2.2.2 = 11) : zWP d M pc ls (.ref 900 :: st) hp K = zWP d M (pc + 1) ls (.int (hp.1 901 0) :: st) hp K := by
  exact zE_act (r := ((pc + 1), ls, (.int (hp.1 901 0) :: st), hp)) hm (hx.elim zxn (fun q => zxp q.1 q.2)) hd rfl (by simp only [zact, hc, show zkd 900 = 999 by decide +kernel]; rfl)
theorem Q_sld {i : Int32} (hm : zmt[M]? = some mi) (hx : M < 241 ∨ (pc ≠ 1473 ∧ pc ≠ 348)) (hd : decode mi.2.1 pc = .ok (.iaload, 1)) (hc : mi.2.2.2.2 = 11) : zWP d M pc ls (.int i :: .ref 900 :: st) hp K = (vp_in i (hp.1 901 0).toNatClampNeg ∧ zWP d M (pc + 1) ls (.int (hp.1 900 i.toNatClampNeg) :: st) hp K) := by
  refine zE_guard (g := vp_in i (hp.1 901 0).toNatClampNeg) (r := (pc + 1, ls, (.int (hp.1 900 i.toNatClampNeg) :: st), hp)) hm hx hd rfl (fun h => ?_) (fun h => ?_) rfl rfl
  · simp only [zact, hc, show zkd 900 = 999 by decide +kernel, zin_of h]; rfl
  · have h9 : ¬ zin i (hp.1 901 0).toNatClampNeg = true := fun z => h (zin_spec z)
    simp only [zact, hc, show zkd 900 = 999 by decide +kernel, h9]; rfl
theorem Q_getI {o k ci j : Nat} (hm : zmt[M]? = some mi) (hx : M < 241 ∨ (pc ≠ 1473 ∧ pc ≠ 348)) (hd : decode mi.2.1 pc = .ok (.getfield k, 3)) (hf : zfl mi.2.2.2.2 k = some (ci, j)) (hs : zfs ci j = 0 ∨ zfs ci j = 1) (hk : zkd o = ci) : zWP d M pc ls (.ref o :: st) hp K = zWP d M (pc + 3) ls (.int (hp.1 o j) :: st) hp K := by
  exact zE_act (r := ((pc + 3), ls, (.int (hp.1 o j) :: st), hp)) hm (hx.elim zxn (fun q => zxp q.1 q.2)) hd rfl (by rcases hs with hs | hs <;> simp only [zact, hf, zget, hk, hs, if_true])
theorem Q_getJ {o k ci j : Nat} (hm : zmt[M]? = some mi) (hx : M < 241 ∨ (pc ≠ 1473 ∧ pc ≠ 348)) (hd : decode mi.2.1 pc = .ok (.getfield k, 3)) (hf : zfl mi.2.2.2.2 k = some (ci, j)) (hs : zfs ci j = 2) (hk : zkd o = ci) : zWP d M pc ls (.ref o :: st) hp K = zWP d M (pc + 3) ls (.long (hp.2.1 o j) :: st) hp K := by
  exact zE_act (r := ((pc + 3), ls, (.long (hp.2.1 o j) :: st), hp)) hm (hx.elim zxn (fun q => zxp q.1 q.2)) hd rfl (by simp only [zact, hf, zget, hk, hs, if_true])
theorem Q_getR {o k ci j q : Nat} (hm : zmt[M]? = some mi) (hx : M < 241 ∨ (pc ≠ 1473 ∧ pc ≠ 348)) (hd : decode mi.2.1 pc = .ok (.getfield k, 3)) (hf : zfl mi.2.2.2.2 k = some (ci, j)) (hs : zfs ci j = 3) (hk : zkd o = ci) (hq : hp.2.2 o j = some q) : zWP d M pc ls (.ref o :: st) hp K = zWP d M (pc + 3) ls (.ref q :: st) hp K := by
  exact zE_act (r := ((pc + 3), ls, (.ref q :: st), hp)) hm (hx.elim zxn (fun q => zxp q.1 q.2)) hd rfl (by simp only [zact, hf, zget, hk, hs, hq, if_true])
theorem Q_putI {o k ci j : Nat} {x : Int32} (hm : zmt[M]? = some mi) (hx : M < 241 ∨ (pc ≠ 1473 ∧ pc ≠ 348)) (hd : decode mi.2.1 pc = .ok (.putfield k, 3)) (hf : zfl mi.2.2.2.2 k = some (ci, j)) (hs : zfs ci j = 0) (hfin : (zT ci j).2.2.2 = false) (hk : zkd o = ci) : zWP d M pc ls (.int x :: .ref o :: st) hp K = zWP d M (pc + 3) ls st (zu hp.1 o j x, hp.2.1, hp.2.2) K := by
  exact zE_act (r := ((pc + 3), ls, st, (zu hp.1 o j x, hp.2.1, hp.2.2))) hm (hx.elim zxn (fun q => zxp q.1 q.2)) hd rfl (by simp only [zact, hf, zput, hk, hs, hfin, and_self, if_true])
theorem Q_putZ {o k ci j : Nat} {x : Int32} (hm : zmt[M]? = some mi) (hx : M < 241 ∨ (pc ≠ 1473 ∧ pc ≠ 348)) (hd : decode mi.2.1 pc = .ok (.putfield k, 3)) (hf : zfl mi.2.2.2.2 k = some (ci, j)) (hs : zfs ci j = 1) (hfin : (zT ci j).2.2.2 = false) (hk : zkd o = ci) (h01 : x = 0 ∨ x = 1) : zWP d M pc ls (.int x :: .ref o :: st) hp K = zWP d M (pc + 3) ls st (zu hp.1 o j x, hp.2.1, hp.2.2) K := by
  exact zE_act (r := ((pc + 3), ls, st, (zu hp.1 o j x, hp.2.1, hp.2.2))) hm (hx.elim zxn (fun q => zxp q.1 q.2)) hd rfl (by simp only [zact, hf, zput, hk, hs, hfin, h01, and_self, if_true])
theorem Q_putJ {o k ci j : Nat} {x : Int64} (hm : zmt[M]? = some mi) (hx : M < 241 ∨ (pc ≠ 1473 ∧ pc ≠ 348)) (hd : decode mi.2.1 pc = .ok (.putfield k, 3)) (hf : zfl mi.2.2.2.2 k = some (ci, j)) (hs : zfs ci j = 2) (hfin : (zT ci j).2.2.2 = false) (hk : zkd o = ci) : zWP d M pc ls (.long x :: .ref o :: st) hp K = zWP d M (pc + 3) ls st (hp.1, zu hp.2.1 o j x, hp.2.2) K := by
  exact zE_act (r := ((pc + 3), ls, st, (hp.1, zu hp.2.1 o j x, hp.2.2))) hm (hx.elim zxn (fun q => zxp q.1 q.2)) hd rfl (by simp only [zact, hf, zput, hk, hs, hfin, and_self, if_true])
theorem Q_putR {o k ci j x : Nat} (hm : zmt[M]? = some mi) (hx : M < 241 ∨ (pc ≠ 1473 ∧ pc ≠ 348)) (hd : decode mi.2.1 pc = .ok (.putfield k, 3)) (hf : zfl mi.2.2.2.2 k = some (ci, j)) (hs : zfs ci j = 3) (hfin : (zT ci j).2.2.2 = false) (hk : zkd o = ci) : zWP d M pc ls (.ref x :: .ref o :: st) hp K = zWP d M (pc + 3) ls st (hp.1, hp.2.1, zu hp.2.2 o j (some x)) K := by
  exact zE_act (r := ((pc + 3), ls, st, (hp.1, hp.2.1, zu hp.2.2 o j (some x)))) hm (hx.elim zxn (fun q => zxp q.1 q.2)) hd rfl (by simp only [zact, hf, zput, hk, hs, hfin, and_self, if_true])
theorem ztg_at {pc tgt : Nat} {off : Int} {ls : zLs} {st : List Value} {hp : zHP} (ht : (pc : Int) + off = (tgt : Int)) : ztg pc off ls st hp = some (tgt, ls, st, hp) := by
  unfold ztg
  rw [if_pos (by omega), ht]
  rfl
theorem Q_goto {off : Int} {tgt : Nat} (hm : zmt[M]? = some mi) (hx : M < 241 ∨ (pc ≠ 1473 ∧ pc ≠ 348)) (hd : decode mi.2.1 pc = .ok (.goto off, 3)) (ht : (pc : Int) + off = (tgt : Int)) : zWP d M pc ls (st) hp K = zWP d M tgt ls st hp K := by
  exact zE_act (r := (tgt, ls, st, hp)) hm (hx.elim zxn (fun q => zxp q.1 q.2)) hd rfl (ztg_at ht)
theorem Q_if_eq {off : Int} {tgt : Nat} {x : Int32} (hm : zmt[M]? = some mi) (hx : M < 241 ∨ (pc ≠ 1473 ∧ pc ≠ 348)) (hd : decode mi.2.1 pc = .ok (.ifCond .eq off, 3)) (ht : (pc : Int) + off = (tgt : Int)) : zWP d M pc ls (.int x :: st) hp K = if x = 0 then zWP d M tgt ls st hp K else zWP d M (pc + 3) ls st hp K := by
  by_cases h : x = 0
  · rw [if_pos h]
    exact zE_act (r := (tgt, ls, st, hp)) hm (hx.elim zxn (fun q => zxp q.1 q.2)) hd rfl (by have h9 : zcmp .eq x 0 = true := decide_eq_true h; simp only [zact, h9, if_true]; exact ztg_at ht)
  · rw [if_neg h]
    exact zE_act (r := (pc + 3, ls, st, hp)) hm (hx.elim zxn (fun q => zxp q.1 q.2)) hd rfl (by have h9 : ¬ zcmp .eq x 0 = true := fun z => h (of_decide_eq_true z); simp only [zact, if_neg h9])
theorem Q_ic_eq {off : Int} {tgt : Nat} {x y : Int32} (hm : zmt[M]? = some mi) (hx : M < 241 ∨ (pc ≠ 1473 ∧ pc ≠ 348)) (hd : decode mi.2.1 pc = .ok (.if_icmp .eq off, 3)) (ht : (pc : Int) + off = (tgt : Int)) : zWP d M pc ls (.int y :: .int x :: st) hp K = if x = y then zWP d M tgt ls st hp K else zWP d M (pc + 3) ls st hp K := by
  by_cases h : x = y
  · rw [if_pos h]
    exact zE_act (r := (tgt, ls, st, hp)) hm (hx.elim zxn (fun q => zxp q.1 q.2)) hd rfl (by have h9 : zcmp .eq x y = true := decide_eq_true h; simp only [zact, h9, if_true]; exact ztg_at ht)
  · rw [if_neg h]
    exact zE_act (r := (pc + 3, ls, st, hp)) hm (hx.elim zxn (fun q => zxp q.1 q.2)) hd rfl (by have h9 : ¬ zcmp .eq x y = true := fun z => h (of_decide_eq_true z); simp only [zact, if_neg h9])
theorem Q_if_ne {off : Int} {tgt : Nat} {x : Int32} (hm : zmt[M]? = some mi) (hx : M < 241 ∨ (pc ≠ 1473 ∧ pc ≠ 348)) (hd : decode mi.2.1 pc = .ok (.ifCond .ne off, 3)) (ht : (pc : Int) + off = (tgt : Int)) : zWP d M pc ls (.int x :: st) hp K = if ¬ x = 0 then zWP d M tgt ls st hp K else zWP d M (pc + 3) ls st hp K := by
  by_cases h : ¬ x = 0
  · rw [if_pos h]
    exact zE_act (r := (tgt, ls, st, hp)) hm (hx.elim zxn (fun q => zxp q.1 q.2)) hd rfl (by have h9 : zcmp .ne x 0 = true := decide_eq_true h; simp only [zact, h9, if_true]; exact ztg_at ht)
  · rw [if_neg h]
    exact zE_act (r := (pc + 3, ls, st, hp)) hm (hx.elim zxn (fun q => zxp q.1 q.2)) hd rfl (by have h9 : ¬ zcmp .ne x 0 = true := fun z => h (of_decide_eq_true z); simp only [zact, if_neg h9])
theorem Q_ic_ne {off : Int} {tgt : Nat} {x y : Int32} (hm : zmt[M]? = some mi) (hx : M < 241 ∨ (pc ≠ 1473 ∧ pc ≠ 348)) (hd : decode mi.2.1 pc = .ok (.if_icmp .ne off, 3)) (ht : (pc : Int) + off = (tgt : Int)) : zWP d M pc ls (.int y :: .int x :: st) hp K = if ¬ x = y then zWP d M tgt ls st hp K else zWP d M (pc + 3) ls st hp K := by
  by_cases h : ¬ x = y
  · rw [if_pos h]
    exact zE_act (r := (tgt, ls, st, hp)) hm (hx.elim zxn (fun q => zxp q.1 q.2)) hd rfl (by have h9 : zcmp .ne x y = true := decide_eq_true h; simp only [zact, h9, if_true]; exact ztg_at ht)
  · rw [if_neg h]
    exact zE_act (r := (pc + 3, ls, st, hp)) hm (hx.elim zxn (fun q => zxp q.1 q.2)) hd rfl (by have h9 : ¬ zcmp .ne x y = true := fun z => h (of_decide_eq_true z); simp only [zact, if_neg h9])
theorem Q_if_lt {off : Int} {tgt : Nat} {x : Int32} (hm : zmt[M]? = some mi) (hx : M < 241 ∨ (pc ≠ 1473 ∧ pc ≠ 348)) (hd : decode mi.2.1 pc = .ok (.ifCond .lt off, 3)) (ht : (pc : Int) + off = (tgt : Int)) : zWP d M pc ls (.int x :: st) hp K = if x < 0 then zWP d M tgt ls st hp K else zWP d M (pc + 3) ls st hp K := by
  by_cases h : x < 0
  · rw [if_pos h]
    exact zE_act (r := (tgt, ls, st, hp)) hm (hx.elim zxn (fun q => zxp q.1 q.2)) hd rfl (by have h9 : zcmp .lt x 0 = true := decide_eq_true h; simp only [zact, h9, if_true]; exact ztg_at ht)
  · rw [if_neg h]
    exact zE_act (r := (pc + 3, ls, st, hp)) hm (hx.elim zxn (fun q => zxp q.1 q.2)) hd rfl (by have h9 : ¬ zcmp .lt x 0 = true := fun z => h (of_decide_eq_true z); simp only [zact, if_neg h9])
theorem Q_ic_lt {off : Int} {tgt : Nat} {x y : Int32} (hm : zmt[M]? = some mi) (hx : M < 241 ∨ (pc ≠ 1473 ∧ pc ≠ 348)) (hd : decode mi.2.1 pc = .ok (.if_icmp .lt off, 3)) (ht : (pc : Int) + off = (tgt : Int)) : zWP d M pc ls (.int y :: .int x :: st) hp K = if x < y then zWP d M tgt ls st hp K else zWP d M (pc + 3) ls st hp K := by
  by_cases h : x < y
  · rw [if_pos h]
    exact zE_act (r := (tgt, ls, st, hp)) hm (hx.elim zxn (fun q => zxp q.1 q.2)) hd rfl (by have h9 : zcmp .lt x y = true := decide_eq_true h; simp only [zact, h9, if_true]; exact ztg_at ht)
  · rw [if_neg h]
    exact zE_act (r := (pc + 3, ls, st, hp)) hm (hx.elim zxn (fun q => zxp q.1 q.2)) hd rfl (by have h9 : ¬ zcmp .lt x y = true := fun z => h (of_decide_eq_true z); simp only [zact, if_neg h9])
theorem Q_if_ge {off : Int} {tgt : Nat} {x : Int32} (hm : zmt[M]? = some mi) (hx : M < 241 ∨ (pc ≠ 1473 ∧ pc ≠ 348)) (hd : decode mi.2.1 pc = .ok (.ifCond .ge off, 3)) (ht : (pc : Int) + off = (tgt : Int)) : zWP d M pc ls (.int x :: st) hp K = if 0 ≤ x then zWP d M tgt ls st hp K else zWP d M (pc + 3) ls st hp K := by
  by_cases h : 0 ≤ x
  · rw [if_pos h]
    exact zE_act (r := (tgt, ls, st, hp)) hm (hx.elim zxn (fun q => zxp q.1 q.2)) hd rfl (by have h9 : zcmp .ge x 0 = true := decide_eq_true h; simp only [zact, h9, if_true]; exact ztg_at ht)
  · rw [if_neg h]
    exact zE_act (r := (pc + 3, ls, st, hp)) hm (hx.elim zxn (fun q => zxp q.1 q.2)) hd rfl (by have h9 : ¬ zcmp .ge x 0 = true := fun z => h (of_decide_eq_true z); simp only [zact, if_neg h9])
theorem Q_ic_ge {off : Int} {tgt : Nat} {x y : Int32} (hm : zmt[M]? = some mi) (hx : M < 241 ∨ (pc ≠ 1473 ∧ pc ≠ 348)) (hd : decode mi.2.1 pc = .ok (.if_icmp .ge off, 3)) (ht : (pc : Int) + off = (tgt : Int)) : zWP d M pc ls (.int y :: .int x :: st) hp K = if y ≤ x then zWP d M tgt ls st hp K else zWP d M (pc + 3) ls st hp K := by
  by_cases h : y ≤ x
  · rw [if_pos h]
    exact zE_act (r := (tgt, ls, st, hp)) hm (hx.elim zxn (fun q => zxp q.1 q.2)) hd rfl (by have h9 : zcmp .ge x y = true := decide_eq_true h; simp only [zact, h9, if_true]; exact ztg_at ht)
  · rw [if_neg h]
    exact zE_act (r := (pc + 3, ls, st, hp)) hm (hx.elim zxn (fun q => zxp q.1 q.2)) hd rfl (by have h9 : ¬ zcmp .ge x y = true := fun z => h (of_decide_eq_true z); simp only [zact, if_neg h9])
theorem Q_if_gt {off : Int} {tgt : Nat} {x : Int32} (hm : zmt[M]? = some mi) (hx : M < 241 ∨ (pc ≠ 1473 ∧ pc ≠ 348)) (hd : decode mi.2.1 pc = .ok (.ifCond .gt off, 3)) (ht : (pc : Int) + off = (tgt : Int)) : zWP d M pc ls (.int x :: st) hp K = if 0 < x then zWP d M tgt ls st hp K else zWP d M (pc + 3) ls st hp K := by
  by_cases h : 0 < x
  · rw [if_pos h]
    exact zE_act (r := (tgt, ls, st, hp)) hm (hx.elim zxn (fun q => zxp q.1 q.2)) hd rfl (by have h9 : zcmp .gt x 0 = true := decide_eq_true h; simp only [zact, h9, if_true]; exact ztg_at ht)
  · rw [if_neg h]
    exact zE_act (r := (pc + 3, ls, st, hp)) hm (hx.elim zxn (fun q => zxp q.1 q.2)) hd rfl (by have h9 : ¬ zcmp .gt x 0 = true := fun z => h (of_decide_eq_true z); simp only [zact, if_neg h9])
theorem Q_ic_gt {off : Int} {tgt : Nat} {x y : Int32} (hm : zmt[M]? = some mi) (hx : M < 241 ∨ (pc ≠ 1473 ∧ pc ≠ 348)) (hd : decode mi.2.1 pc = .ok (.if_icmp .gt off, 3)) (ht : (pc : Int) + off = (tgt : Int)) : zWP d M pc ls (.int y :: .int x :: st) hp K = if y < x then zWP d M tgt ls st hp K else zWP d M (pc + 3) ls st hp K := by
  by_cases h : y < x
  · rw [if_pos h]
    exact zE_act (r := (tgt, ls, st, hp)) hm (hx.elim zxn (fun q => zxp q.1 q.2)) hd rfl (by have h9 : zcmp .gt x y = true := decide_eq_true h; simp only [zact, h9, if_true]; exact ztg_at ht)
  · rw [if_neg h]
    exact zE_act (r := (pc + 3, ls, st, hp)) hm (hx.elim zxn (fun q => zxp q.1 q.2)) hd rfl (by have h9 : ¬ zcmp .gt x y = true := fun z => h (of_decide_eq_true z); simp only [zact, if_neg h9])
theorem Q_if_le {off : Int} {tgt : Nat} {x : Int32} (hm : zmt[M]? = some mi) (hx : M < 241 ∨ (pc ≠ 1473 ∧ pc ≠ 348)) (hd : decode mi.2.1 pc = .ok (.ifCond .le off, 3)) (ht : (pc : Int) + off = (tgt : Int)) : zWP d M pc ls (.int x :: st) hp K = if x ≤ 0 then zWP d M tgt ls st hp K else zWP d M (pc + 3) ls st hp K := by
  by_cases h : x ≤ 0
  · rw [if_pos h]
    exact zE_act (r := (tgt, ls, st, hp)) hm (hx.elim zxn (fun q => zxp q.1 q.2)) hd rfl (by have h9 : zcmp .le x 0 = true := decide_eq_true h; simp only [zact, h9, if_true]; exact ztg_at ht)
  · rw [if_neg h]
    exact zE_act (r := (pc + 3, ls, st, hp)) hm (hx.elim zxn (fun q => zxp q.1 q.2)) hd rfl (by have h9 : ¬ zcmp .le x 0 = true := fun z => h (of_decide_eq_true z); simp only [zact, if_neg h9])
theorem Q_ic_le {off : Int} {tgt : Nat} {x y : Int32} (hm : zmt[M]? = some mi) (hx : M < 241 ∨ (pc ≠ 1473 ∧ pc ≠ 348)) (hd : decode mi.2.1 pc = .ok (.if_icmp .le off, 3)) (ht : (pc : Int) + off = (tgt : Int)) : zWP d M pc ls (.int y :: .int x :: st) hp K = if x ≤ y then zWP d M tgt ls st hp K else zWP d M (pc + 3) ls st hp K := by
  by_cases h : x ≤ y
  · rw [if_pos h]
    exact zE_act (r := (tgt, ls, st, hp)) hm (hx.elim zxn (fun q => zxp q.1 q.2)) hd rfl (by have h9 : zcmp .le x y = true := decide_eq_true h; simp only [zact, h9, if_true]; exact ztg_at ht)
  · rw [if_neg h]
    exact zE_act (r := (pc + 3, ls, st, hp)) hm (hx.elim zxn (fun q => zxp q.1 q.2)) hd rfl (by have h9 : ¬ zcmp .le x y = true := fun z => h (of_decide_eq_true z); simp only [zact, if_neg h9])
theorem Q_tsw {dflt lo hi off : Int} {offs : Array Int} {n tgt : Nat} {x : Int32} (hm : zmt[M]? = some mi) (hx : M < 241 ∨ (pc ≠ 1473 ∧ pc ≠ 348)) (hd : decode mi.2.1 pc = .ok (.tableswitch dflt lo hi offs, n)) (hz : zsw pc dflt lo hi offs x = some off) (ht : (pc : Int) + off = (tgt : Int)) : zWP d M pc ls (.int x :: st) hp K = zWP d M tgt ls st hp K := by
  exact zE_act (r := (tgt, ls, st, hp)) hm (hx.elim zxn (fun q => zxp q.1 q.2)) hd rfl (by simp only [zact, hz]; exact ztg_at ht)
theorem Q_lsw {dflt off : Int} {ps : Array (Int × Int)} {n tgt : Nat} {x : Int32} (hm : zmt[M]? = some mi) (hx : M < 241 ∨ (pc ≠ 1473 ∧ pc ≠ 348)) (hd : decode mi.2.1 pc = .ok (.lookupswitch dflt ps, n)) (hp9 : (ps.toList.zip (ps.toList.drop 1)).all (fun (a, next) => a.1 < next.1) = true) (hz : Op.lookupswitch.offset ps.toList dflt x.toInt = off) (ht : (pc : Int) + off = (tgt : Int)) : zWP d M pc ls (.int x :: st) hp K = zWP d M tgt ls st hp K := by
  exact zE_act (r := (tgt, ls, st, hp)) hm (hx.elim zxn (fun q => zxp q.1 q.2)) hd rfl (by simp only [zact, hp9, hz, if_true]; exact ztg_at ht)
theorem zsw_out {pc n : Nat} {dflt lo hi : Int} {offs : Array Int} {x : Int32} (hn : hi < lo + n) (h : ∀ j : Nat, j < n → x ≠ Int32.ofInt (lo + j)) : zsw pc dflt lo hi offs x = some dflt := by
  unfold zsw
  rw [if_pos]
  apply Classical.byContradiction
  intro q
  have h1 : lo ≤ x.toInt := by omega
  have h2 : x.toInt ≤ hi := by omega
  refine h (x.toInt - lo).toNat (by omega) ?_
  rw [show lo + ((x.toInt - lo).toNat : Int) = x.toInt by omega, Int32.ofInt_toInt]
theorem Q_ireturn {x : Int32} (hm : zmt[M]? = some mi) (hx : M < 241 ∨ (pc ≠ 1473 ∧ pc ≠ 348)) (hd : decode mi.2.1 pc = .ok (.ireturn, 1)) (hr : mi.2.2.2.1 = some .int) : zWP d M pc ls [.int x] hp K = K (some (.int x)) hp := zE_ret hm (hx.elim zxn (fun q => zxp q.1 q.2)) hd rfl rfl (by rw [hr]; rfl)
theorem Q_zreturn {x : Int32} (hm : zmt[M]? = some mi) (hx : M < 241 ∨ (pc ≠ 1473 ∧ pc ≠ 348)) (hd : decode mi.2.1 pc = .ok (.ireturn, 1)) (hr : mi.2.2.2.1 = some .boolean) (h01 : x = 0 ∨ x = 1) : zWP d M pc ls [.int x] hp K = K (some (.int x)) hp := zE_ret hm (hx.elim zxn (fun q => zxp q.1 q.2)) hd rfl rfl (by rw [hr]; simp only [zrt, h01, if_true])
theorem Q_lreturn {x : Int64} (hm : zmt[M]? = some mi) (hx : M < 241 ∨ (pc ≠ 1473 ∧ pc ≠ 348)) (hd : decode mi.2.1 pc = .ok (.lreturn, 1)) (hr : mi.2.2.2.1 = some .long) : zWP d M pc ls [.long x] hp K = K (some (.long x)) hp := zE_ret hm (hx.elim zxn (fun q => zxp q.1 q.2)) hd rfl rfl (by rw [hr]; rfl)
theorem Q_return (hm : zmt[M]? = some mi) (hx : M < 241 ∨ (pc ≠ 1473 ∧ pc ≠ 348)) (hd : decode mi.2.1 pc = .ok (.return_, 1)) (hr : mi.2.2.2.1 = none) : zWP d M pc ls [] hp K = K (none) hp := zE_ret hm (hx.elim zxn (fun q => zxp q.1 q.2)) hd rfl rfl (by rw [hr]; rfl)
theorem Q_callv {k y n b ci : Nat} {as rest : List Value} {my : zMI} (hm : zmt[M]? = some mi) (hx : M < 241 ∨ (pc ≠ 1473 ∧ pc ≠ 348)) (hd : decode mi.2.1 pc = .ok (.invokevirtual k, 3)) (hz : zca mi.2.2.2.2 k = some (y, n, 0)) (hn : as.length = n) (hkb : zkd b = ci) (hci : ci < 11) (hcn : zcn ci = (zyOf y).cls) (hy : y < 241) (hcat : zcat rest ≤ 8) (hmy : zmt[y]? = some my) (hlen : (zent my.2.2.1 (.ref b :: as)).length = my.2.2.1) :
    zWP (d + 1) M pc ls (as.reverse ++ .ref b :: rest) hp K = zWM d y (.ref b :: as) hp (zK (d + 1) M (pc + 3) ls rest K) := by
  have h1 : (as.reverse ++ .ref b :: rest).drop n = .ref b :: rest := by rw [← hn, ← List.length_reverse, List.drop_left]
  have h2 : (as.reverse ++ .ref b :: rest).take n = as.reverse := by rw [← hn, ← List.length_reverse, List.take_left]
  have hq : zcx mi.2.2.2.2 (.invokevirtual k) (as.reverse ++ .ref b :: rest) = some (y, .ref b :: as, rest) := by
    simp only [zcx, hz, h1, h2, List.reverse_reverse]
    rw [if_pos ⟨by simp; omega, hcat, by rw [hkb]; exact hci, by rw [hkb]; exact hcn, hy⟩]
  exact zE_call (q := (y, .ref b :: as, rest)) hm (hx.elim zxn (fun q => zxp q.1 q.2)) hd rfl rfl rfl hq hy hmy hlen
theorem Q_calls {k y n : Nat} {as rest : List Value} {my : zMI} (hm : zmt[M]? = some mi) (hx : M < 241 ∨ (pc ≠ 1473 ∧ pc ≠ 348)) (hd : decode mi.2.1 pc = .ok (.invokestatic k, 3)) (hz : zca mi.2.2.2.2 k = some (y, n, 1)) (hn : as.length = n) (hy : y < 241) (hcat : zcat rest ≤ 8) (hmy : zmt[y]? = some my) (hlen : (zent my.2.2.1 as).length = my.2.2.1) :
    zWP (d + 1) M pc ls (as.reverse ++ rest) hp K = zWM d y as hp (zK (d + 1) M (pc + 3) ls rest K) := by
  have h1 : (as.reverse ++ rest).drop n = rest := by rw [← hn, ← List.length_reverse, List.drop_left]
  have h2 : (as.reverse ++ rest).take n = as.reverse := by rw [← hn, ← List.length_reverse, List.take_left]
  have hq : zcx mi.2.2.2.2 (.invokestatic k) (as.reverse ++ rest) = some (y, as, rest) := by
    simp only [zcx, hz, h1, h2, List.reverse_reverse]
    rw [if_pos ⟨by simp; omega, hcat, Or.inl ⟨trivial, hy⟩⟩]
  exact zE_call (q := (y, as, rest)) hm (hx.elim zxn (fun q => zxp q.1 q.2)) hd rfl rfl rfl hq hy hmy hlen
theorem Q_bis {k y n : Nat} {as rest : List Value} {w : Option Value × zHP} (hm : zmt[M]? = some mi) (hx : M < 241 ∨ (pc ≠ 1473 ∧ pc ≠ 348)) (hd : decode mi.2.1 pc = .ok (.invokestatic k, 3)) (hz : zca mi.2.2.2.2 k = some (y, n, 2)) (hn : as.length = n) (hy : y = 1002 ∨ (1010 ≤ y ∧ y ≤ 1015)) (hcat : zcat rest ≤ 8) (hw : zbi y as hp = some w) :
    zWP (d + 5) M pc ls (as.reverse ++ rest) hp K = zWP (d + 5) M (pc + 3) ls (w.1.toList ++ rest) w.2 K := by
  have h1 : (as.reverse ++ rest).drop n = rest := by rw [← hn, ← List.length_reverse, List.drop_left]
  have h2 : (as.reverse ++ rest).take n = as.reverse := by rw [← hn, ← List.length_reverse, List.take_left]
  have hq : zcx mi.2.2.2.2 (.invokestatic k) (as.reverse ++ rest) = some (y, as, rest) := by
    simp only [zcx, hz, h1, h2, List.reverse_reverse]
    rw [if_pos ⟨by simp; omega, hcat, Or.inr ⟨trivial, hy⟩⟩]
  exact zE_bi (q := (y, as, rest)) hm (hx.elim zxn (fun q => zxp q.1 q.2)) hd rfl rfl rfl hq hw (by omega)
theorem Q_biv {k y n : Nat} {as rest : List Value} {w : Option Value × zHP} (hm : zmt[M]? = some mi) (hx : M < 241 ∨ (pc ≠ 1473 ∧ pc ≠ 348)) (hd : decode mi.2.1 pc = .ok (.invokevirtual k, 3)) (hz : zca mi.2.2.2.2 k = some (y, n, 2)) (hn : as.length = n) (hy : y = 1000 ∨ y = 1001) (hcat : zcat rest ≤ 8) (hw : zbi y (.ref 910 :: as) hp = some w) :
    zWP (d + 5) M pc ls (as.reverse ++ .ref 910 :: rest) hp K = zWP (d + 5) M (pc + 3) ls (w.1.toList ++ rest) w.2 K := by
  have h1 : (as.reverse ++ .ref 910 :: rest).drop n = .ref 910 :: rest := by rw [← hn, ← List.length_reverse, List.drop_left]
  have h2 : (as.reverse ++ .ref 910 :: rest).take n = as.reverse := by rw [← hn, ← List.length_reverse, List.take_left]
  have hq : zcx mi.2.2.2.2 (.invokevirtual k) (as.reverse ++ .ref 910 :: rest) = some (y, .ref 910 :: as, rest) := by
    simp only [zcx, hz, h1, h2, List.reverse_reverse]
    rw [if_pos ⟨by simp; omega, hcat, trivial, hy⟩]
  exact zE_bi (q := (y, .ref 910 :: as, rest)) hm (hx.elim zxn (fun q => zxp q.1 q.2)) hd rfl rfl rfl hq hw (by omega)
end ZQ
theorem zWM_at {d y : Nat} {as : List Value} {hp : zHP} {K : Option Value → zHP → Prop} {my : zMI} {ls : zLs} (h : zmt[y]? = some my) (he : zent my.2.2.1 as = ls) : zWM d y as hp K = zWP d y 0 ls [] hp K := by
  subst he
  apply propext
  constructor
  · rintro ⟨m2, h2, w⟩
    cases h.symm.trans h2
    exact w
  · intro w
    exact ⟨my, h, w⟩
theorem zif_c {c : Prop} [Decidable c] {a b a2 b2 : Prop} (h1 : c → a = a2) (h2 : ¬ c → b = b2) : (if c then a else b) = (if c then a2 else b2) := by
  by_cases h : c
  · rw [if_pos h, if_pos h]; exact h1 h
  · rw [if_neg h, if_neg h]; exact h2 h
theorem zand_c {g a a2 : Prop} (h : g → a = a2) : (g ∧ a) = (g ∧ a2) := by
  apply propext
  constructor
  · rintro ⟨x, y⟩; exact ⟨x, by rw [← h x]; exact y⟩
  · rintro ⟨x, y⟩; exact ⟨x, by rw [h x]; exact y⟩
